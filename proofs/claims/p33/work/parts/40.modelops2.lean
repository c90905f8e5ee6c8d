/-! the model: calls that change now -/
theorem in_rng {x lo hi : Int32} {l h : Int64} (hl : l = lo.toInt64) (hh : h = hi.toInt64) : bI (decide (¬ x.toInt64 < l) && decide (¬ h < x.toInt64)) = 0 ↔ (x < lo ∨ hi < x) := by
  subst hl; subst hh
  rw [bI_0]
  simp only [wide_lt, Bool.and_eq_false_iff, decide_eq_false_iff_not, Classical.not_not]
section MOPS2
variable {d : Nat} {V : Bv} {I : I2} {J : J2} {G : I2 → J2 → Prop} {F : Int32 → I2 → J2 → Prop} {s : Nat}
end MOPS2
theorem n_drwL {a : Nat} (ha : a < 2 ^ 31) : Int64.toInt32 (((Int32.toInt64 (nI a)) * 1103515245 + 12345) &&& 2147483647) = nI (drw a) := by
  have e0 : Int32.toInt64 (nI a) = lN a := nI_l ha
  have e1 : lN a * 1103515245 = lN (a * 1103515245) := lN_mul a 1103515245
  have e2 : lN (a * 1103515245) + 12345 = lN (a * 1103515245 + 12345) := lN_add _ 12345
  rw [e0, e1, e2, drw_eq]
  have hN : a * 1103515245 + 12345 < 2 ^ 63 := by omega
  generalize a * 1103515245 + 12345 = N at hN
  have e3 : lN N &&& 2147483647 = lN (N % 2147483648) := by
    apply Int64.toBitVec_inj.mp
    show BitVec.ofNat 64 N &&& BitVec.ofNat 64 2147483647 = BitVec.ofNat 64 (N % 2147483648)
    rw [← BitVec.ofNat_and, show (2147483647 : Nat) = 2 ^ 31 - 1 from rfl, Nat.and_two_pow_sub_one_eq_mod]
  rw [e3, lN_i]
theorem up2_self {I : I2} {a k : Nat} : up2 I a k (I a k) = I := by
  funext i j
  simp only [up2]
  split
  · next h =>
    subst h
    simp only [upd]
    split
    · next h2 => rw [h2]
    · rfl
  · rfl
section MOPS3
variable {d : Nat} {V : Bv} {I : I2} {J : J2} {G : I2 → J2 → Prop} {F : Int32 → I2 → J2 → Prop} {s : Nat}
end MOPS3
