/-! the tape: the calls of the model -/
section TAPE8
variable {d : Nat} {t : Tpe} {V : Bv} {I : I2} {J : J2} {G : I2 → J2 → Prop} {F : Int32 → I2 → J2 → Prop}
theorem badP_box {q : Nat} (h : badP t (pPan t 5 0 0 Bx0 none) q) : boxR t = (q, none) := by
  unfold boxR
  generalize pPan t 5 0 0 Bx0 none = z at h ⊢
  obtain ⟨z1, z2⟩ := z
  rcases h with ⟨e1, e2⟩ | ⟨⟨x, e1⟩, e2, e3, e4⟩
  · dsimp only at e1 e2
    subst e1; subst e2; rfl
  · dsimp only at e1 e2 e3 e4
    subst e1; subst e2
    dsimp only
    rw [if_neg e3, if_neg e4]
/-- what a box that is read leaves alone -/
def FrX2 (I I' : I2) : Prop := (∀ a, a ≠ 57 → a ≠ 58 → a ≠ 60 → a ≠ 61 → I' a = I a) ∧ ∀ k, k ≠ 2 → k ≠ 3 → k ≠ 4 → k ≠ 6 → k ≠ 9 → I' 57 k = I 57 k
end TAPE8
