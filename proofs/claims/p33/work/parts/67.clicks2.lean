/-! clicks: the model -/
section CLK2
variable {d : Nat} {V : Bv} {S : Nat → Shv} {I : I2} {J : J2} {F : Int32 → I2 → J2 → Prop} {B : Bx} {f i : Nat} {g : Nat → Int64}
theorem n_or0 (a : Nat) : nI a ||| 0 = nI a := by
  rw [show (0 : Int32) = nI 0 from rfl, n_or, Nat.or_zero]
theorem BoxM_setK {x k : Nat} {I' : I2} (hx : x < B.pn) (hp5 : B.pn ≤ 5) (hl6 : B.ln ≤ 6) (hB : BoxM B I) (h2 : ∀ j, j ≠ 6 + 2 * x → I' 58 j = I 58 j) (h3 : I' 58 (6 + 2 * x) = nI k) : BoxM (B.setK x k) I' := by
  obtain ⟨b1, b2, b3, b4⟩ := hB
  refine ⟨by rw [h2 0 (by omega)]; exact b1, by rw [h2 1 (by omega)]; exact b2, fun q hq => ⟨?_, by rw [h2 _ (by omega)]; exact (b3 q hq).2⟩, fun q hq => ?_⟩
  · show I' 58 (6 + 2 * q) = nI (updN B.kd x k q)
    unfold updN
    by_cases e : q = x
    · rw [if_pos e, e, h3]
    · rw [if_neg e, h2 _ (by omega)]; exact (b3 q hq).1
  · rw [h2 _ (by omega), h2 _ (by omega), h2 _ (by omega), h2 _ (by omega)]; exact b4 q hq
theorem in10 {a : Int64} {pn : Nat} (hp : pn ≤ 5) : bI (decide (¬ a < 0) && decide (¬ 10 * (nI pn).toInt64 - 1 < a)) = 0 ↔ ¬ (¬ a < 0 ∧ a / 10 < lN pn) := by
  rw [bI_0, Bool.and_eq_false_iff, decide_eq_false_iff_not, decide_eq_false_iff_not, nI_l (by omega), show (10 : Int64) * lN pn = lN (10 * pn) from lN_mul 10 pn]
  constructor
  · rintro (q | q) ⟨z1, z2⟩
    · exact q z1
    · obtain ⟨m, hm, rfl⟩ := pk_lOf z1
      rw [show lN m / 10 = lN (m / 10) from pk_lDiv (b := 10) hm (by decide) (by decide), pk_lLT (by omega) (by omega)] at z2
      rw [show lN (10 * pn) - 1 = lN (10 * pn - 1) from lN_sub (b := 1) (by omega), pk_lLT (by omega) hm] at q
      exact q (by omega)
  · intro q
    by_cases z1 : a < 0
    · exact Or.inl (fun y => y z1)
    · refine Or.inr (fun y => q ⟨z1, ?_⟩)
      obtain ⟨m, hm, rfl⟩ := pk_lOf z1
      rw [show lN m / 10 = lN (m / 10) from pk_lDiv (b := 10) hm (by decide) (by decide), pk_lLT (by omega) (by omega)]
      rcases Nat.eq_zero_or_pos pn with e | e
      · subst e
        refine absurd ?_ y
        rw [show lN (10 * 0) - 1 = -1 from by decide]
        rw [Int64.lt_iff_toInt_lt, pk_lT hm, show (-1 : Int64).toInt = -1 from by decide]; omega
      · rw [show lN (10 * pn) - 1 = lN (10 * pn - 1) from lN_sub (b := 1) (by omega), pk_lLT (by omega) hm] at y
        omega
theorem in01 {b : Int64} : bI (decide (¬ b < 0) && decide (¬ 1 < b)) = 0 ↔ ¬ (¬ b < 0 ∧ ¬ 1 < b) := by
  rw [bI_0, Bool.and_eq_false_iff, decide_eq_false_iff_not, decide_eq_false_iff_not]
  constructor
  · rintro (q | q) ⟨z1, z2⟩
    · exact q z1
    · exact q z2
  · intro q
    by_cases z1 : b < 0
    · exact Or.inl (fun y => y z1)
    · exact Or.inr (fun y => q ⟨z1, y⟩)
theorem in18 {n : Int32} : bI (decide (¬ n.toInt64 < 1) && decide (¬ (8 : Int64) < n.toInt64)) = 0 ↔ (n < 1 ∨ 8 < n) := in_rng (lo := 1) (hi := 8) (by decide) (by decide)
end CLK2
