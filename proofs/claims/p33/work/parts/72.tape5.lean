/-! the tape: the model's small readers -/
def TpM (t : Tpe) (I : I2) : Prop := I 57 2 = nI t.1 ∧ ∀ k, k < t.1 → I 59 k = nI (t.2 k)
def AtM (t : Tpe) (p : Nat) (I : I2) : Prop := ∃ p', p' ≤ t.1 ∧ skT t p' = skT t p ∧ I 57 3 = nI p'
/-- what reading leaves alone: the model -/
def FrB (I I' : I2) : Prop := (∀ a, a ≠ 57 → a ≠ 60 → a ≠ 61 → I' a = I a) ∧ ∀ k, k ≠ 3 → k ≠ 4 → k ≠ 6 → I' 57 k = I 57 k
/-- the place and whether there is a fault alone -/
def FrU (I I' : I2) : Prop := (∀ a, a ≠ 57 → I' a = I a) ∧ ∀ k, k ≠ 3 → k ≠ 4 → I' 57 k = I 57 k
theorem FrB.rf {I : I2} : FrB I I := ⟨fun _ _ _ _ => rfl, fun _ _ _ _ => rfl⟩
theorem FrB.tr {I0 I1 I2 : I2} (h1 : FrB I0 I1) (h2 : FrB I1 I2) : FrB I0 I2 := ⟨fun a x y z => (h2.1 a x y z).trans (h1.1 a x y z), fun k x y z => (h2.2 k x y z).trans (h1.2 k x y z)⟩
theorem FrU.rf {I : I2} : FrU I I := ⟨fun _ _ => rfl, fun _ _ _ => rfl⟩
theorem FrU.tr {I0 I1 I2 : I2} (h1 : FrU I0 I1) (h2 : FrU I1 I2) : FrU I0 I2 := ⟨fun a x => (h2.1 a x).trans (h1.1 a x), fun k x y => (h2.2 k x y).trans (h1.2 k x y)⟩
theorem FrU.b {I I' : I2} (h : FrU I I') : FrB I I' := ⟨fun a x _ _ => h.1 a x, fun k x y _ => h.2 k x y⟩
theorem FrU_3 {I : I2} {x : Int32} : FrU I (up2 I 57 3 x) := ⟨fun a h => by simp [up2, h], fun k h _ => by simp [up2, upd, h]⟩
theorem FrU_4 {I : I2} {x : Int32} : FrU I (up2 I 57 4 x) := ⟨fun a h => by simp [up2, h], fun k _ h => by simp [up2, upd, h]⟩
theorem FrB.tpm {t : Tpe} {I I' : I2} (h : FrB I I') (hT : TpM t I) : TpM t I' := ⟨by rw [h.2 2 (by decide) (by decide) (by decide)]; exact hT.1, fun k hk => by rw [h.1 59 (by decide) (by decide) (by decide)]; exact hT.2 k hk⟩
theorem AtM_of {t : Tpe} {q : Nat} {I : I2} (hq : q ≤ t.1) (h : I 57 3 = nI q) : AtM t q I := ⟨q, hq, rfl, h⟩
theorem AtM.le {t : Tpe} {p : Nat} {I : I2} (h : AtM t p I) : skT t p ≤ t.1 := by
  obtain ⟨p', h1, h2, _⟩ := h
  rw [← h2]; exact sk_le h1
theorem AtM.ss {t : Tpe} {p : Nat} {I : I2} (h : AtM t p I) : skT t (skT t p) = skT t p := by
  obtain ⟨p', h1, h2, _⟩ := h
  rw [← h2]; exact sk_sk h1
theorem AtM.sk {t : Tpe} {p : Nat} {I I' : I2} (h : AtM t p I) (h2 : I' 57 3 = nI (skT t p)) : AtM t p I' := ⟨skT t p, h.le, h.ss, h2⟩
section TAPE5
variable {d p : Nat} {t : Tpe} {I : I2} {J : J2} {G : I2 → J2 → Prop} {F : Int32 → I2 → J2 → Prop}
/-- where it is read alone -/
def FrH (I I' : I2) : Prop := (∀ a, a ≠ 57 → I' a = I a) ∧ ∀ k, k ≠ 3 → I' 57 k = I 57 k
theorem FrH.u {I I' : I2} (h : FrH I I') : FrU I I' := ⟨h.1, fun k x _ => h.2 k x⟩
theorem FrH.tr {I0 I1 I2 : I2} (h1 : FrH I0 I1) (h2 : FrH I1 I2) : FrH I0 I2 := ⟨fun a x => (h2.1 a x).trans (h1.1 a x), fun k x => (h2.2 k x).trans (h1.2 k x)⟩
theorem FrH_3 {I : I2} {x : Int32} : FrH I (up2 I 57 3 x) := ⟨fun a h => by simp [up2, h], fun k h => by simp [up2, upd, h]⟩
theorem in_m48 {h lo hi : Nat} (hh : h < 200) (hlo : lo < 200) (hhi : hi < 200) : bI (decide (¬ (nI h - 48).toInt64 < (nI lo).toInt64) && decide (¬ (nI hi).toInt64 < (nI h - 48).toInt64)) = bI (decide (48 + lo ≤ h ∧ h ≤ 48 + hi)) := by
  have e := in_rng (x := nI h - 48) (lo := nI lo) (hi := nI hi) rfl rfl
  rw [show (48 : Int32) = nI 48 from rfl] at e ⊢
  rw [sub_lt (by omega) (by omega) (by omega), sub_gt (by omega) (by omega) (by omega), bI_0] at e
  congr 1
  by_cases c : 48 + lo ≤ h ∧ h ≤ 48 + hi
  · rw [decide_eq_true c]
    cases z : (decide (¬ (nI h - nI 48).toInt64 < (nI lo).toInt64) && decide (¬ (nI hi).toInt64 < (nI h - nI 48).toInt64)) with
    | true => rfl
    | false => have := e.mp z; omega
  · rw [decide_eq_false c]
    exact e.mpr (by omega)
end TAPE5
