/-! the tape: the model reads panels -/
/-- what is read so far -/
def RpM (B : Bx) (I : I2) : Prop := ∀ k, k < B.pn → I 60 (2 * k) = nI (B.kd k) ∧ I 60 (2 * k + 1) = nI (B.dp k)
def RlM (B : Bx) (I : I2) : Prop := ∀ l, l < B.ln → I 61 (4 * l) = nI (B.ow l) ∧ I 61 (4 * l + 1) = nI (B.wy l) ∧ I 61 (4 * l + 2) = nI (B.ot l) ∧ I 61 (4 * l + 3) = nI (B.ps l)
/-- so it will be a fault at q -/
def badP (t : Tpe) (z : Nat × Option (Bx × Option Nat)) (q : Nat) : Prop := (z.2 = none ∧ z.1 = q) ∨ ((∃ x, z.2 = some x) ∧ q = skT t z.1 ∧ hrT t z.1 ≠ 0 ∧ hrT t z.1 ≠ 59)
section TAPE6
variable {d : Nat} {t : Tpe} {I : I2} {J : J2} {G : I2 → J2 → Prop} {F : Int32 → I2 → J2 → Prop}
theorem RpM_u {B : Bx} {I I' : I2} (h : RpM B I) (hF : FrU I I') : RpM B I' := fun k hk => by rw [hF.1 60 (by decide)]; exact h k hk
theorem RlM_u {B : Bx} {I I' : I2} (h : RlM B I) (hF : FrU I I') : RlM B I' := fun k hk => by rw [hF.1 61 (by decide)]; exact h k hk
theorem FrB_60 {I : I2} {k : Nat} {x : Int32} : FrB I (up2 I 60 k x) := ⟨fun a _ h _ => by simp [up2, h], fun k _ _ _ => by simp [up2]⟩
theorem FrB_61 {I : I2} {k : Nat} {x : Int32} : FrB I (up2 I 61 k x) := ⟨fun a _ _ h => by simp [up2, h], fun k _ _ _ => by simp [up2]⟩
theorem FrB_6 {I : I2} {x : Int32} : FrB I (up2 I 57 6 x) := ⟨fun a h _ _ => by simp [up2, h], fun k _ _ h => by simp [up2, upd, h]⟩
/-- two lids told -/
theorem bad_two {r k q : Nat} {B : Bx} {lid : Option Nat} (hq : q ≤ t.1) (hk : 0 < k) (hl : lid ≠ none) (h : hrT t q = 33) : badP t (pPan t r k q B lid) (skT t q) := by
  cases r with
  | zero => simp only [pPan]; exact Or.inr ⟨⟨_, rfl⟩, rfl, by rw [h]; decide, by rw [h]; decide⟩
  | succ r =>
    simp only [pPan]
    rw [if_pos ⟨hk, by rw [h]; decide⟩]
    exact Or.inr ⟨⟨_, rfl⟩, (sk_sk hq).symm, by rw [hr_sk hq, h]; decide, by rw [hr_sk hq, h]; decide⟩
theorem oI_neg {o : Option Nat} (h : ∀ k, o = some k → k < 2 ^ 31) : oI o < 0 ↔ o = none := by
  cases o with
  | none => exact ⟨fun _ => rfl, fun _ => by decide⟩
  | some k => exact ⟨fun q => absurd q (nI_pos (h k rfl)), fun q => by cases q⟩
end TAPE6
