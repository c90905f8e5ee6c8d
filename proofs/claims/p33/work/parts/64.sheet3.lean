/-! sheets: the calls of the model -/
def FrSi (I I' : I2) : Prop := ∀ a, a ≠ 74 → a ≠ 75 → I' a = I a
def FrSj (J J' : J2) : Prop := ∀ a, a ≠ 76 → a ≠ 77 → J' a = J a
theorem FrSi.rf {I : I2} : FrSi I I := fun _ _ _ => rfl
theorem FrSj.rf {J : J2} : FrSj J J := fun _ _ _ => rfl
theorem FrSj.tr {J0 J1 J2 : J2} (h1 : FrSj J0 J1) (h2 : FrSj J1 J2) : FrSj J0 J2 := fun a x y => (h2 a x y).trans (h1 a x y)
theorem FrSj_76 {J : J2} {k : Nat} {x : Int64} : FrSj J (upJ J 76 k x) := fun _ h _ => upJ_a h
theorem FrSj_77 {J : J2} {k : Nat} {x : Int64} : FrSj J (upJ J 77 k x) := fun _ _ h => upJ_a h
theorem ShM_congr {i : Nat} {S : Shv} {I I' : I2} {J J' : J2} (h : ShM i S I J) (h1 : I' 74 i = I 74 i) (h2 : I' 75 i = I 75 i) (h3 : ∀ k, k < 24 → J' 76 (24 * i + k) = J 76 (24 * i + k)) : ShM i S I' J' := by
  cases S with
  | none => show I' 74 i = -1; rw [h1]; exact h
  | some v =>
    obtain ⟨l, n, g⟩ := v
    obtain ⟨a, b, e⟩ := h
    exact ⟨by rw [h1]; exact a, by rw [h2]; exact b, fun k hk => by rw [h3 k hk]; exact e k hk⟩
theorem ShMs_upd {S : Nat → Shv} {I I' : I2} {J J' : J2} {i : Nat} {v : Shv} (hS : ShMs S I J) (hv : ShM i v I' J') (h1 : ∀ j, j ≠ i → I' 74 j = I 74 j) (h2 : ∀ j, j ≠ i → I' 75 j = I 75 j) (h3 : ∀ j k, j ≠ i → k < 24 → J' 76 (24 * j + k) = J 76 (24 * j + k)) : ShMs (updS S i v) I' J' := by
  intro j hj
  unfold updS
  by_cases e : j = i
  · rw [if_pos e, e]; exact hv
  · rw [if_neg e]
    exact ShM_congr (hS j hj) (h1 _ e) (h2 _ e) (fun k hk => h3 j k e hk)
theorem n_24 (i k : Nat) : (24 : Int32) * nI i + nI k = nI (24 * i + k) := by
  rw [show (24 : Int32) * nI i = nI (24 * i) from pk_mul 24 i, nI_add]
theorem fault_ge {S : Shv} {l i n : Int32} {A B : Prop} (h1 : ¬ faultS S l i n = 0 → A) (h2 : faultS S l i n = 0 → B) : (faultS S l i n < 0 → A) ∧ (¬ (faultS S l i n < 0) → B) :=
  ⟨fun q => h1 (fault_lt.mp q), fun q => h2 (Classical.not_not.mp (fun z => q (fault_lt.mpr z)))⟩
section SHM
variable {d : Nat} {V : Bv} {S : Nat → Shv} {I : I2} {J : J2} {F : Int32 → I2 → J2 → Prop}
end SHM
