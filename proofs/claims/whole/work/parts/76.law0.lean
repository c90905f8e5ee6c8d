/-! the law, from where its objects stand: what each way asks (by program) -/
theorem v_Law_18 {d : Nat} {Q : Post} {I : I2} {J : J2} {x3 : Int32} (h : (((I 101 0) - 6) < x3 → Q (some (.int 1)) I J) ∧ (¬ (((I 101 0) - 6) < x3) → vp_in x3 (I 101 0).toNatClampNeg ∧ ((((I 100 (tN x3)) &&& 31) = 0 → Wp d Law Q 168 [some (.ref 100), some (.ref 0), some (.ref 57), some (.int x3)] [] I J) ∧ (((I 100 (tN x3)) &&& 31) = 1 → Wp d Law Q 201 [some (.ref 100), some (.ref 0), some (.ref 57), some (.int x3)] [] I J) ∧ (((I 100 (tN x3)) &&& 31) = 2 → Wp d Law Q 254 [some (.ref 100), some (.ref 0), some (.ref 57), some (.int x3)] [] I J) ∧ (((I 100 (tN x3)) &&& 31) = 3 → Wp d Law Q 277 [some (.ref 100), some (.ref 0), some (.ref 57), some (.int x3)] [] I J) ∧ (((I 100 (tN x3)) &&& 31) = 4 → Wp d Law Q 310 [some (.ref 100), some (.ref 0), some (.ref 57), some (.int x3)] [] I J) ∧ (((I 100 (tN x3)) &&& 31) = 5 → Wp d Law Q 343 [some (.ref 100), some (.ref 0), some (.ref 57), some (.int x3)] [] I J) ∧ (((I 100 (tN x3)) &&& 31) = 6 → Wp d Law Q 366 [some (.ref 100), some (.ref 0), some (.ref 57), some (.int x3)] [] I J) ∧ (((I 100 (tN x3)) &&& 31) = 7 → Wp d Law Q 379 [some (.ref 100), some (.ref 0), some (.ref 57), some (.int x3)] [] I J) ∧ (((I 100 (tN x3)) &&& 31) = 8 → Wp d Law Q 402 [some (.ref 100), some (.ref 0), some (.ref 57), some (.int x3)] [] I J) ∧ (((I 100 (tN x3)) &&& 31) = 9 → Wp d Law Q 435 [some (.ref 100), some (.ref 0), some (.ref 57), some (.int x3)] [] I J) ∧ (((I 100 (tN x3)) &&& 31) = 10 → Wp d Law Q 448 [some (.ref 100), some (.ref 0), some (.ref 57), some (.int x3)] [] I J) ∧ (((I 100 (tN x3)) &&& 31) = 11 → Wp d Law Q 471 [some (.ref 100), some (.ref 0), some (.ref 57), some (.int x3)] [] I J) ∧ (((I 100 (tN x3)) &&& 31) = 12 → Wp d Law Q 494 [some (.ref 100), some (.ref 0), some (.ref 57), some (.int x3)] [] I J) ∧ (((I 100 (tN x3)) &&& 31) = 13 → Wp d Law Q 507 [some (.ref 100), some (.ref 0), some (.ref 57), some (.int x3)] [] I J) ∧ (((I 100 (tN x3)) &&& 31) = 14 → Wp d Law Q 530 [some (.ref 100), some (.ref 0), some (.ref 57), some (.int x3)] [] I J) ∧ (((I 100 (tN x3)) &&& 31) = 15 → Wp d Law Q 553 [some (.ref 100), some (.ref 0), some (.ref 57), some (.int x3)] [] I J) ∧ (((I 100 (tN x3)) &&& 31) = 16 → Wp d Law Q 566 [some (.ref 100), some (.ref 0), some (.ref 57), some (.int x3)] [] I J) ∧ (((I 100 (tN x3)) &&& 31) = 17 → Wp d Law Q 589 [some (.ref 100), some (.ref 0), some (.ref 57), some (.int x3)] [] I J) ∧ (((I 100 (tN x3)) &&& 31) = 18 → Wp d Law Q 612 [some (.ref 100), some (.ref 0), some (.ref 57), some (.int x3)] [] I J) ∧ (((I 100 (tN x3)) &&& 31) = 19 → Wp d Law Q 645 [some (.ref 100), some (.ref 0), some (.ref 57), some (.int x3)] [] I J) ∧ (((I 100 (tN x3)) &&& 31) = 20 → Wp d Law Q 668 [some (.ref 100), some (.ref 0), some (.ref 57), some (.int x3)] [] I J) ∧ (((I 100 (tN x3)) &&& 31) = 21 → Wp d Law Q 702 [some (.ref 100), some (.ref 0), some (.ref 57), some (.int x3)] [] I J) ∧ (((I 100 (tN x3)) &&& 31) = 22 → Wp d Law Q 715 [some (.ref 100), some (.ref 0), some (.ref 57), some (.int x3)] [] I J) ∧ (((I 100 (tN x3)) &&& 31) = 23 → Wp d Law Q 728 [some (.ref 100), some (.ref 0), some (.ref 57), some (.int x3)] [] I J) ∧ (((I 100 (tN x3)) &&& 31) = 24 → Wp d Law Q 781 [some (.ref 100), some (.ref 0), some (.ref 57), some (.int x3)] [] I J) ∧ (((I 100 (tN x3)) &&& 31) = 25 → Wp d Law Q 844 [some (.ref 100), some (.ref 0), some (.ref 57), some (.int x3)] [] I J) ∧ (((I 100 (tN x3)) &&& 31) = 26 → Wp d Law Q 887 [some (.ref 100), some (.ref 0), some (.ref 57), some (.int x3)] [] I J) ∧ (((I 100 (tN x3)) &&& 31) = 27 → Wp d Law Q 930 [some (.ref 100), some (.ref 0), some (.ref 57), some (.int x3)] [] I J) ∧ (((I 100 (tN x3)) &&& 31) = 28 → Wp d Law Q 953 [some (.ref 100), some (.ref 0), some (.ref 57), some (.int x3)] [] I J) ∧ (((I 100 (tN x3)) &&& 31) = 29 → Wp d Law Q 1036 [some (.ref 100), some (.ref 0), some (.ref 57), some (.int x3)] [] I J) ∧ (¬ (((I 100 (tN x3)) &&& 31) = 0) ∧ ¬ (((I 100 (tN x3)) &&& 31) = 1) ∧ ¬ (((I 100 (tN x3)) &&& 31) = 2) ∧ ¬ (((I 100 (tN x3)) &&& 31) = 3) ∧ ¬ (((I 100 (tN x3)) &&& 31) = 4) ∧ ¬ (((I 100 (tN x3)) &&& 31) = 5) ∧ ¬ (((I 100 (tN x3)) &&& 31) = 6) ∧ ¬ (((I 100 (tN x3)) &&& 31) = 7) ∧ ¬ (((I 100 (tN x3)) &&& 31) = 8) ∧ ¬ (((I 100 (tN x3)) &&& 31) = 9) ∧ ¬ (((I 100 (tN x3)) &&& 31) = 10) ∧ ¬ (((I 100 (tN x3)) &&& 31) = 11) ∧ ¬ (((I 100 (tN x3)) &&& 31) = 12) ∧ ¬ (((I 100 (tN x3)) &&& 31) = 13) ∧ ¬ (((I 100 (tN x3)) &&& 31) = 14) ∧ ¬ (((I 100 (tN x3)) &&& 31) = 15) ∧ ¬ (((I 100 (tN x3)) &&& 31) = 16) ∧ ¬ (((I 100 (tN x3)) &&& 31) = 17) ∧ ¬ (((I 100 (tN x3)) &&& 31) = 18) ∧ ¬ (((I 100 (tN x3)) &&& 31) = 19) ∧ ¬ (((I 100 (tN x3)) &&& 31) = 20) ∧ ¬ (((I 100 (tN x3)) &&& 31) = 21) ∧ ¬ (((I 100 (tN x3)) &&& 31) = 22) ∧ ¬ (((I 100 (tN x3)) &&& 31) = 23) ∧ ¬ (((I 100 (tN x3)) &&& 31) = 24) ∧ ¬ (((I 100 (tN x3)) &&& 31) = 25) ∧ ¬ (((I 100 (tN x3)) &&& 31) = 26) ∧ ¬ (((I 100 (tN x3)) &&& 31) = 27) ∧ ¬ (((I 100 (tN x3)) &&& 31) = 28) ∧ ¬ (((I 100 (tN x3)) &&& 31) = 29) → Wp d Law Q 1099 [some (.ref 100), some (.ref 0), some (.ref 57), some (.int x3)] [] I J)))) : Wp d Law Q 18 [some (.ref 100), some (.ref 0), some (.ref 57), some (.int x3)] [] I J := by
  refine Wp.steps 5 (pc' := 24) (lv' := [some (.ref 100), some (.ref 0), some (.ref 57), some (.int x3)]) (st' := [.int ((I 101 0) - 6), .int x3]) (I' := I) (J' := J) rfl ?_
  refine Wp.steps 1 (pc' := if ((I 101 0) - 6) < x3 then 1105 else 27) (lv' := [some (.ref 100), some (.ref 0), some (.ref 57), some (.int x3)]) (st' := []) (I' := I) (J' := J) rfl (Wp.ite (fun h1 => ?_) (fun h1 => ?_))
  · replace h := h.1 h1
    refine Wp.steps 1 (pc' := 1106) (lv' := [some (.ref 100), some (.ref 0), some (.ref 57), some (.int x3)]) (st' := [.int 1]) (I' := I) (J' := J) rfl ?_
    exact Wp.ret rfl h
  · replace h := h.2 h1
    refine Wp.steps 2 (pc' := 29) (lv' := [some (.ref 100), some (.ref 0), some (.ref 57), some (.int x3)]) (st' := [.int x3, .ref 100]) (I' := I) (J' := J) rfl ?_
    refine Wp.isld rfl rfl h.1 ?_
    replace h := h.2
    refine Wp.steps 2 (pc' := 33) (lv' := [some (.ref 100), some (.ref 0), some (.ref 57), some (.int x3)]) (st' := [.int ((I 100 (tN x3)) &&& 31)]) (I' := I) (J' := J) rfl ?_
    refine Wp.steps 1 (pc' := (if ((I 100 (tN x3)) &&& 31) = 0 then 168 else (if ((I 100 (tN x3)) &&& 31) = 1 then 201 else (if ((I 100 (tN x3)) &&& 31) = 2 then 254 else (if ((I 100 (tN x3)) &&& 31) = 3 then 277 else (if ((I 100 (tN x3)) &&& 31) = 4 then 310 else (if ((I 100 (tN x3)) &&& 31) = 5 then 343 else (if ((I 100 (tN x3)) &&& 31) = 6 then 366 else (if ((I 100 (tN x3)) &&& 31) = 7 then 379 else (if ((I 100 (tN x3)) &&& 31) = 8 then 402 else (if ((I 100 (tN x3)) &&& 31) = 9 then 435 else (if ((I 100 (tN x3)) &&& 31) = 10 then 448 else (if ((I 100 (tN x3)) &&& 31) = 11 then 471 else (if ((I 100 (tN x3)) &&& 31) = 12 then 494 else (if ((I 100 (tN x3)) &&& 31) = 13 then 507 else (if ((I 100 (tN x3)) &&& 31) = 14 then 530 else (if ((I 100 (tN x3)) &&& 31) = 15 then 553 else (if ((I 100 (tN x3)) &&& 31) = 16 then 566 else (if ((I 100 (tN x3)) &&& 31) = 17 then 589 else (if ((I 100 (tN x3)) &&& 31) = 18 then 612 else (if ((I 100 (tN x3)) &&& 31) = 19 then 645 else (if ((I 100 (tN x3)) &&& 31) = 20 then 668 else (if ((I 100 (tN x3)) &&& 31) = 21 then 702 else (if ((I 100 (tN x3)) &&& 31) = 22 then 715 else (if ((I 100 (tN x3)) &&& 31) = 23 then 728 else (if ((I 100 (tN x3)) &&& 31) = 24 then 781 else (if ((I 100 (tN x3)) &&& 31) = 25 then 844 else (if ((I 100 (tN x3)) &&& 31) = 26 then 887 else (if ((I 100 (tN x3)) &&& 31) = 27 then 930 else (if ((I 100 (tN x3)) &&& 31) = 28 then 953 else (if ((I 100 (tN x3)) &&& 31) = 29 then 1036 else 1099))))))))))))))))))))))))))))))) (lv' := [some (.ref 100), some (.ref 0), some (.ref 57), some (.int x3)]) (st' := []) (I' := I) (J' := J) rfl ?_
    refine Wp.ite (fun g0 => ?_) (fun g0 => ?_)
    · replace h := h.1 g0
      exact h
    refine Wp.ite (fun g1 => ?_) (fun g1 => ?_)
    · replace h := h.2.1 g1
      exact h
    refine Wp.ite (fun g2 => ?_) (fun g2 => ?_)
    · replace h := h.2.2.1 g2
      exact h
    refine Wp.ite (fun g3 => ?_) (fun g3 => ?_)
    · replace h := h.2.2.2.1 g3
      exact h
    refine Wp.ite (fun g4 => ?_) (fun g4 => ?_)
    · replace h := h.2.2.2.2.1 g4
      exact h
    refine Wp.ite (fun g5 => ?_) (fun g5 => ?_)
    · replace h := h.2.2.2.2.2.1 g5
      exact h
    refine Wp.ite (fun g6 => ?_) (fun g6 => ?_)
    · replace h := h.2.2.2.2.2.2.1 g6
      exact h
    refine Wp.ite (fun g7 => ?_) (fun g7 => ?_)
    · replace h := h.2.2.2.2.2.2.2.1 g7
      exact h
    refine Wp.ite (fun g8 => ?_) (fun g8 => ?_)
    · replace h := h.2.2.2.2.2.2.2.2.1 g8
      exact h
    refine Wp.ite (fun g9 => ?_) (fun g9 => ?_)
    · replace h := h.2.2.2.2.2.2.2.2.2.1 g9
      exact h
    refine Wp.ite (fun g10 => ?_) (fun g10 => ?_)
    · replace h := h.2.2.2.2.2.2.2.2.2.2.1 g10
      exact h
    refine Wp.ite (fun g11 => ?_) (fun g11 => ?_)
    · replace h := h.2.2.2.2.2.2.2.2.2.2.2.1 g11
      exact h
    refine Wp.ite (fun g12 => ?_) (fun g12 => ?_)
    · replace h := h.2.2.2.2.2.2.2.2.2.2.2.2.1 g12
      exact h
    refine Wp.ite (fun g13 => ?_) (fun g13 => ?_)
    · replace h := h.2.2.2.2.2.2.2.2.2.2.2.2.2.1 g13
      exact h
    refine Wp.ite (fun g14 => ?_) (fun g14 => ?_)
    · replace h := h.2.2.2.2.2.2.2.2.2.2.2.2.2.2.1 g14
      exact h
    refine Wp.ite (fun g15 => ?_) (fun g15 => ?_)
    · replace h := h.2.2.2.2.2.2.2.2.2.2.2.2.2.2.2.1 g15
      exact h
    refine Wp.ite (fun g16 => ?_) (fun g16 => ?_)
    · replace h := h.2.2.2.2.2.2.2.2.2.2.2.2.2.2.2.2.1 g16
      exact h
    refine Wp.ite (fun g17 => ?_) (fun g17 => ?_)
    · replace h := h.2.2.2.2.2.2.2.2.2.2.2.2.2.2.2.2.2.1 g17
      exact h
    refine Wp.ite (fun g18 => ?_) (fun g18 => ?_)
    · replace h := h.2.2.2.2.2.2.2.2.2.2.2.2.2.2.2.2.2.2.1 g18
      exact h
    refine Wp.ite (fun g19 => ?_) (fun g19 => ?_)
    · replace h := h.2.2.2.2.2.2.2.2.2.2.2.2.2.2.2.2.2.2.2.1 g19
      exact h
    refine Wp.ite (fun g20 => ?_) (fun g20 => ?_)
    · replace h := h.2.2.2.2.2.2.2.2.2.2.2.2.2.2.2.2.2.2.2.2.1 g20
      exact h
    refine Wp.ite (fun g21 => ?_) (fun g21 => ?_)
    · replace h := h.2.2.2.2.2.2.2.2.2.2.2.2.2.2.2.2.2.2.2.2.2.1 g21
      exact h
    refine Wp.ite (fun g22 => ?_) (fun g22 => ?_)
    · replace h := h.2.2.2.2.2.2.2.2.2.2.2.2.2.2.2.2.2.2.2.2.2.2.1 g22
      exact h
    refine Wp.ite (fun g23 => ?_) (fun g23 => ?_)
    · replace h := h.2.2.2.2.2.2.2.2.2.2.2.2.2.2.2.2.2.2.2.2.2.2.2.1 g23
      exact h
    refine Wp.ite (fun g24 => ?_) (fun g24 => ?_)
    · replace h := h.2.2.2.2.2.2.2.2.2.2.2.2.2.2.2.2.2.2.2.2.2.2.2.2.1 g24
      exact h
    refine Wp.ite (fun g25 => ?_) (fun g25 => ?_)
    · replace h := h.2.2.2.2.2.2.2.2.2.2.2.2.2.2.2.2.2.2.2.2.2.2.2.2.2.1 g25
      exact h
    refine Wp.ite (fun g26 => ?_) (fun g26 => ?_)
    · replace h := h.2.2.2.2.2.2.2.2.2.2.2.2.2.2.2.2.2.2.2.2.2.2.2.2.2.2.1 g26
      exact h
    refine Wp.ite (fun g27 => ?_) (fun g27 => ?_)
    · replace h := h.2.2.2.2.2.2.2.2.2.2.2.2.2.2.2.2.2.2.2.2.2.2.2.2.2.2.2.1 g27
      exact h
    refine Wp.ite (fun g28 => ?_) (fun g28 => ?_)
    · replace h := h.2.2.2.2.2.2.2.2.2.2.2.2.2.2.2.2.2.2.2.2.2.2.2.2.2.2.2.2.1 g28
      exact h
    refine Wp.ite (fun g29 => ?_) (fun g29 => ?_)
    · replace h := h.2.2.2.2.2.2.2.2.2.2.2.2.2.2.2.2.2.2.2.2.2.2.2.2.2.2.2.2.2.1 g29
      exact h
    replace h := h.2.2.2.2.2.2.2.2.2.2.2.2.2.2.2.2.2.2.2.2.2.2.2.2.2.2.2.2.2.2 ⟨g0, g1, g2, g3, g4, g5, g6, g7, g8, g9, g10, g11, g12, g13, g14, g15, g16, g17, g18, g19, g20, g21, g22, g23, g24, g25, g26, g27, g28, g29⟩
    exact h
theorem v_Law_168 {d : Nat} {Q : Post} {I : I2} {J : J2} {x3 : Int32} (h : vp_in (x3 + 1) (I 101 0).toNatClampNeg ∧ (vp_in (x3 + 2) (I 101 0).toNatClampNeg ∧ (CI d Sb_panel [.ref 0, .int (I 100 (tN (x3 + 1))), .int (I 100 (tN (x3 + 2)))] I J (fun v1 I1 J1 => vp_in (x3 + 1) (I1 101 0).toNatClampNeg ∧ (vp_in (x3 + 2) (I1 101 0).toNatClampNeg ∧ (CI d Md_panel [.ref 57, .int (I1 100 (tN (x3 + 1))), .int (I1 100 (tN (x3 + 2)))] I1 J1 (fun v2 I2 J2 => (v1 = v2 → Wp d Law Q 1099 [some (.ref 100), some (.ref 0), some (.ref 57), some (.int x3)] [] I2 J2) ∧ (¬ (v1 = v2) → Q (some (.int 0)) I2 J2)))))))) : Wp d Law Q 168 [some (.ref 100), some (.ref 0), some (.ref 57), some (.int x3)] [] I J := by
  refine Wp.steps 5 (pc' := 173) (lv' := [some (.ref 100), some (.ref 0), some (.ref 57), some (.int x3)]) (st' := [.int (x3 + 1), .ref 100, .ref 0]) (I' := I) (J' := J) rfl ?_
  refine Wp.isld rfl rfl h.1 ?_
  replace h := h.2
  refine Wp.steps 4 (pc' := 178) (lv' := [some (.ref 100), some (.ref 0), some (.ref 57), some (.int x3)]) (st' := [.int (x3 + 2), .ref 100, .int (I 100 (tN (x3 + 1))), .ref 0]) (I' := I) (J' := J) rfl ?_
  refine Wp.isld rfl rfl h.1 ?_
  replace h := h.2
  refine Wp.call (M' := Sb_panel) (as := [.ref 0, .int (I 100 (tN (x3 + 1))), .int (I 100 (tN (x3 + 2)))]) (rest := []) rfl (CI.use h (fun v1 I1 J1 h => ?_))
  refine Wp.eqs (pc' := 182) (st' := [.int v1]) rfl rfl ?_
  refine Wp.steps 5 (pc' := 187) (lv' := [some (.ref 100), some (.ref 0), some (.ref 57), some (.int x3)]) (st' := [.int (x3 + 1), .ref 100, .ref 57, .int v1]) (I' := I1) (J' := J1) rfl ?_
  refine Wp.isld rfl rfl h.1 ?_
  replace h := h.2
  refine Wp.steps 4 (pc' := 192) (lv' := [some (.ref 100), some (.ref 0), some (.ref 57), some (.int x3)]) (st' := [.int (x3 + 2), .ref 100, .int (I1 100 (tN (x3 + 1))), .ref 57, .int v1]) (I' := I1) (J' := J1) rfl ?_
  refine Wp.isld rfl rfl h.1 ?_
  replace h := h.2
  refine Wp.call (M' := Md_panel) (as := [.ref 57, .int (I1 100 (tN (x3 + 1))), .int (I1 100 (tN (x3 + 2)))]) (rest := [.int v1]) rfl (CI.use h (fun v2 I2 J2 h => ?_))
  refine Wp.eqs (pc' := 196) (st' := [.int v2, .int v1]) rfl rfl ?_
  refine Wp.steps 1 (pc' := if v1 = v2 then 1099 else 199) (lv' := [some (.ref 100), some (.ref 0), some (.ref 57), some (.int x3)]) (st' := []) (I' := I2) (J' := J2) rfl (Wp.ite (fun h1 => ?_) (fun h1 => ?_))
  · replace h := h.1 h1
    exact h
  · replace h := h.2 h1
    refine Wp.steps 1 (pc' := 200) (lv' := [some (.ref 100), some (.ref 0), some (.ref 57), some (.int x3)]) (st' := [.int 0]) (I' := I2) (J' := J2) rfl ?_
    exact Wp.ret rfl h
theorem v_Law_201 {d : Nat} {Q : Post} {I : I2} {J : J2} {x3 : Int32} (h : vp_in (x3 + 1) (I 101 0).toNatClampNeg ∧ (vp_in (x3 + 2) (I 101 0).toNatClampNeg ∧ (vp_in (x3 + 3) (I 101 0).toNatClampNeg ∧ (vp_in (x3 + 4) (I 101 0).toNatClampNeg ∧ (CI d Sb_lock [.ref 0, .int (I 100 (tN (x3 + 1))), .int (I 100 (tN (x3 + 2))), .int (I 100 (tN (x3 + 3))), .int (I 100 (tN (x3 + 4)))] I J (fun v1 I1 J1 => vp_in (x3 + 1) (I1 101 0).toNatClampNeg ∧ (vp_in (x3 + 2) (I1 101 0).toNatClampNeg ∧ (vp_in (x3 + 3) (I1 101 0).toNatClampNeg ∧ (vp_in (x3 + 4) (I1 101 0).toNatClampNeg ∧ (CI d Md_lock [.ref 57, .int (I1 100 (tN (x3 + 1))), .int (I1 100 (tN (x3 + 2))), .int (I1 100 (tN (x3 + 3))), .int (I1 100 (tN (x3 + 4)))] I1 J1 (fun v2 I2 J2 => (v1 = v2 → Wp d Law Q 1099 [some (.ref 100), some (.ref 0), some (.ref 57), some (.int x3)] [] I2 J2) ∧ (¬ (v1 = v2) → Q (some (.int 0)) I2 J2)))))))))))) : Wp d Law Q 201 [some (.ref 100), some (.ref 0), some (.ref 57), some (.int x3)] [] I J := by
  refine Wp.steps 5 (pc' := 206) (lv' := [some (.ref 100), some (.ref 0), some (.ref 57), some (.int x3)]) (st' := [.int (x3 + 1), .ref 100, .ref 0]) (I' := I) (J' := J) rfl ?_
  refine Wp.isld rfl rfl h.1 ?_
  replace h := h.2
  refine Wp.steps 4 (pc' := 211) (lv' := [some (.ref 100), some (.ref 0), some (.ref 57), some (.int x3)]) (st' := [.int (x3 + 2), .ref 100, .int (I 100 (tN (x3 + 1))), .ref 0]) (I' := I) (J' := J) rfl ?_
  refine Wp.isld rfl rfl h.1 ?_
  replace h := h.2
  refine Wp.steps 4 (pc' := 216) (lv' := [some (.ref 100), some (.ref 0), some (.ref 57), some (.int x3)]) (st' := [.int (x3 + 3), .ref 100, .int (I 100 (tN (x3 + 2))), .int (I 100 (tN (x3 + 1))), .ref 0]) (I' := I) (J' := J) rfl ?_
  refine Wp.isld rfl rfl h.1 ?_
  replace h := h.2
  refine Wp.steps 4 (pc' := 221) (lv' := [some (.ref 100), some (.ref 0), some (.ref 57), some (.int x3)]) (st' := [.int (x3 + 4), .ref 100, .int (I 100 (tN (x3 + 3))), .int (I 100 (tN (x3 + 2))), .int (I 100 (tN (x3 + 1))), .ref 0]) (I' := I) (J' := J) rfl ?_
  refine Wp.isld rfl rfl h.1 ?_
  replace h := h.2
  refine Wp.call (M' := Sb_lock) (as := [.ref 0, .int (I 100 (tN (x3 + 1))), .int (I 100 (tN (x3 + 2))), .int (I 100 (tN (x3 + 3))), .int (I 100 (tN (x3 + 4)))]) (rest := []) rfl (CI.use h (fun v1 I1 J1 h => ?_))
  refine Wp.eqs (pc' := 225) (st' := [.int v1]) rfl rfl ?_
  refine Wp.steps 5 (pc' := 230) (lv' := [some (.ref 100), some (.ref 0), some (.ref 57), some (.int x3)]) (st' := [.int (x3 + 1), .ref 100, .ref 57, .int v1]) (I' := I1) (J' := J1) rfl ?_
  refine Wp.isld rfl rfl h.1 ?_
  replace h := h.2
  refine Wp.steps 4 (pc' := 235) (lv' := [some (.ref 100), some (.ref 0), some (.ref 57), some (.int x3)]) (st' := [.int (x3 + 2), .ref 100, .int (I1 100 (tN (x3 + 1))), .ref 57, .int v1]) (I' := I1) (J' := J1) rfl ?_
  refine Wp.isld rfl rfl h.1 ?_
  replace h := h.2
  refine Wp.steps 4 (pc' := 240) (lv' := [some (.ref 100), some (.ref 0), some (.ref 57), some (.int x3)]) (st' := [.int (x3 + 3), .ref 100, .int (I1 100 (tN (x3 + 2))), .int (I1 100 (tN (x3 + 1))), .ref 57, .int v1]) (I' := I1) (J' := J1) rfl ?_
  refine Wp.isld rfl rfl h.1 ?_
  replace h := h.2
  refine Wp.steps 4 (pc' := 245) (lv' := [some (.ref 100), some (.ref 0), some (.ref 57), some (.int x3)]) (st' := [.int (x3 + 4), .ref 100, .int (I1 100 (tN (x3 + 3))), .int (I1 100 (tN (x3 + 2))), .int (I1 100 (tN (x3 + 1))), .ref 57, .int v1]) (I' := I1) (J' := J1) rfl ?_
  refine Wp.isld rfl rfl h.1 ?_
  replace h := h.2
  refine Wp.call (M' := Md_lock) (as := [.ref 57, .int (I1 100 (tN (x3 + 1))), .int (I1 100 (tN (x3 + 2))), .int (I1 100 (tN (x3 + 3))), .int (I1 100 (tN (x3 + 4)))]) (rest := [.int v1]) rfl (CI.use h (fun v2 I2 J2 h => ?_))
  refine Wp.eqs (pc' := 249) (st' := [.int v2, .int v1]) rfl rfl ?_
  refine Wp.steps 1 (pc' := if v1 = v2 then 1099 else 252) (lv' := [some (.ref 100), some (.ref 0), some (.ref 57), some (.int x3)]) (st' := []) (I' := I2) (J' := J2) rfl (Wp.ite (fun h1 => ?_) (fun h1 => ?_))
  · replace h := h.1 h1
    exact h
  · replace h := h.2 h1
    refine Wp.steps 1 (pc' := 253) (lv' := [some (.ref 100), some (.ref 0), some (.ref 57), some (.int x3)]) (st' := [.int 0]) (I' := I2) (J' := J2) rfl ?_
    exact Wp.ret rfl h
theorem v_Law_254 {d : Nat} {Q : Post} {I : I2} {J : J2} {x3 : Int32} (h : vp_in (x3 + 1) (I 101 0).toNatClampNeg ∧ (CI d Sb_lid [.ref 0, .int (I 100 (tN (x3 + 1)))] I J (fun v1 I1 J1 => vp_in (x3 + 1) (I1 101 0).toNatClampNeg ∧ (CI d Md_lid [.ref 57, .int (I1 100 (tN (x3 + 1)))] I1 J1 (fun v2 I2 J2 => (v1 = v2 → Wp d Law Q 1099 [some (.ref 100), some (.ref 0), some (.ref 57), some (.int x3)] [] I2 J2) ∧ (¬ (v1 = v2) → Q (some (.int 0)) I2 J2)))))) : Wp d Law Q 254 [some (.ref 100), some (.ref 0), some (.ref 57), some (.int x3)] [] I J := by
  refine Wp.steps 5 (pc' := 259) (lv' := [some (.ref 100), some (.ref 0), some (.ref 57), some (.int x3)]) (st' := [.int (x3 + 1), .ref 100, .ref 0]) (I' := I) (J' := J) rfl ?_
  refine Wp.isld rfl rfl h.1 ?_
  replace h := h.2
  refine Wp.call (M' := Sb_lid) (as := [.ref 0, .int (I 100 (tN (x3 + 1)))]) (rest := []) rfl (CI.use h (fun v1 I1 J1 h => ?_))
  refine Wp.eqs (pc' := 263) (st' := [.int v1]) rfl rfl ?_
  refine Wp.steps 5 (pc' := 268) (lv' := [some (.ref 100), some (.ref 0), some (.ref 57), some (.int x3)]) (st' := [.int (x3 + 1), .ref 100, .ref 57, .int v1]) (I' := I1) (J' := J1) rfl ?_
  refine Wp.isld rfl rfl h.1 ?_
  replace h := h.2
  refine Wp.call (M' := Md_lid) (as := [.ref 57, .int (I1 100 (tN (x3 + 1)))]) (rest := [.int v1]) rfl (CI.use h (fun v2 I2 J2 h => ?_))
  refine Wp.eqs (pc' := 272) (st' := [.int v2, .int v1]) rfl rfl ?_
  refine Wp.steps 1 (pc' := if v1 = v2 then 1099 else 275) (lv' := [some (.ref 100), some (.ref 0), some (.ref 57), some (.int x3)]) (st' := []) (I' := I2) (J' := J2) rfl (Wp.ite (fun h1 => ?_) (fun h1 => ?_))
  · replace h := h.1 h1
    exact h
  · replace h := h.2 h1
    refine Wp.steps 1 (pc' := 276) (lv' := [some (.ref 100), some (.ref 0), some (.ref 57), some (.int x3)]) (st' := [.int 0]) (I' := I2) (J' := J2) rfl ?_
    exact Wp.ret rfl h
theorem v_Law_277 {d : Nat} {Q : Post} {I : I2} {J : J2} {x3 : Int32} (h : vp_in (x3 + 1) (I 101 0).toNatClampNeg ∧ (vp_in (x3 + 2) (I 101 0).toNatClampNeg ∧ (CI d Sb_of [.ref 0, .int (I 100 (tN (x3 + 1))), .int (I 100 (tN (x3 + 2)))] I J (fun v1 I1 J1 => vp_in (x3 + 1) (I1 101 0).toNatClampNeg ∧ (vp_in (x3 + 2) (I1 101 0).toNatClampNeg ∧ (CI d Md_of [.ref 57, .int (I1 100 (tN (x3 + 1))), .int (I1 100 (tN (x3 + 2)))] I1 J1 (fun v2 I2 J2 => (v1 = v2 → Wp d Law Q 1099 [some (.ref 100), some (.ref 0), some (.ref 57), some (.int x3)] [] I2 J2) ∧ (¬ (v1 = v2) → Q (some (.int 0)) I2 J2)))))))) : Wp d Law Q 277 [some (.ref 100), some (.ref 0), some (.ref 57), some (.int x3)] [] I J := by
  refine Wp.steps 5 (pc' := 282) (lv' := [some (.ref 100), some (.ref 0), some (.ref 57), some (.int x3)]) (st' := [.int (x3 + 1), .ref 100, .ref 0]) (I' := I) (J' := J) rfl ?_
  refine Wp.isld rfl rfl h.1 ?_
  replace h := h.2
  refine Wp.steps 4 (pc' := 287) (lv' := [some (.ref 100), some (.ref 0), some (.ref 57), some (.int x3)]) (st' := [.int (x3 + 2), .ref 100, .int (I 100 (tN (x3 + 1))), .ref 0]) (I' := I) (J' := J) rfl ?_
  refine Wp.isld rfl rfl h.1 ?_
  replace h := h.2
  refine Wp.call (M' := Sb_of) (as := [.ref 0, .int (I 100 (tN (x3 + 1))), .int (I 100 (tN (x3 + 2)))]) (rest := []) rfl (CI.use h (fun v1 I1 J1 h => ?_))
  refine Wp.eqs (pc' := 291) (st' := [.int v1]) rfl rfl ?_
  refine Wp.steps 5 (pc' := 296) (lv' := [some (.ref 100), some (.ref 0), some (.ref 57), some (.int x3)]) (st' := [.int (x3 + 1), .ref 100, .ref 57, .int v1]) (I' := I1) (J' := J1) rfl ?_
  refine Wp.isld rfl rfl h.1 ?_
  replace h := h.2
  refine Wp.steps 4 (pc' := 301) (lv' := [some (.ref 100), some (.ref 0), some (.ref 57), some (.int x3)]) (st' := [.int (x3 + 2), .ref 100, .int (I1 100 (tN (x3 + 1))), .ref 57, .int v1]) (I' := I1) (J' := J1) rfl ?_
  refine Wp.isld rfl rfl h.1 ?_
  replace h := h.2
  refine Wp.call (M' := Md_of) (as := [.ref 57, .int (I1 100 (tN (x3 + 1))), .int (I1 100 (tN (x3 + 2)))]) (rest := [.int v1]) rfl (CI.use h (fun v2 I2 J2 h => ?_))
  refine Wp.eqs (pc' := 305) (st' := [.int v2, .int v1]) rfl rfl ?_
  refine Wp.steps 1 (pc' := if v1 = v2 then 1099 else 308) (lv' := [some (.ref 100), some (.ref 0), some (.ref 57), some (.int x3)]) (st' := []) (I' := I2) (J' := J2) rfl (Wp.ite (fun h1 => ?_) (fun h1 => ?_))
  · replace h := h.1 h1
    exact h
  · replace h := h.2 h1
    refine Wp.steps 1 (pc' := 309) (lv' := [some (.ref 100), some (.ref 0), some (.ref 57), some (.int x3)]) (st' := [.int 0]) (I' := I2) (J' := J2) rfl ?_
    exact Wp.ret rfl h
theorem v_Law_310 {d : Nat} {Q : Post} {I : I2} {J : J2} {x3 : Int32} (h : vp_in (x3 + 1) (I 101 0).toNatClampNeg ∧ (vp_in (x3 + 2) (I 101 0).toNatClampNeg ∧ (CI d Sb_at [.ref 0, .int (I 100 (tN (x3 + 1))), .int (I 100 (tN (x3 + 2)))] I J (fun v1 I1 J1 => vp_in (x3 + 1) (I1 101 0).toNatClampNeg ∧ (vp_in (x3 + 2) (I1 101 0).toNatClampNeg ∧ (CI d Md_at [.ref 57, .int (I1 100 (tN (x3 + 1))), .int (I1 100 (tN (x3 + 2)))] I1 J1 (fun v2 I2 J2 => (v1 = v2 → Wp d Law Q 1099 [some (.ref 100), some (.ref 0), some (.ref 57), some (.int x3)] [] I2 J2) ∧ (¬ (v1 = v2) → Q (some (.int 0)) I2 J2)))))))) : Wp d Law Q 310 [some (.ref 100), some (.ref 0), some (.ref 57), some (.int x3)] [] I J := by
  refine Wp.steps 5 (pc' := 315) (lv' := [some (.ref 100), some (.ref 0), some (.ref 57), some (.int x3)]) (st' := [.int (x3 + 1), .ref 100, .ref 0]) (I' := I) (J' := J) rfl ?_
  refine Wp.isld rfl rfl h.1 ?_
  replace h := h.2
  refine Wp.steps 4 (pc' := 320) (lv' := [some (.ref 100), some (.ref 0), some (.ref 57), some (.int x3)]) (st' := [.int (x3 + 2), .ref 100, .int (I 100 (tN (x3 + 1))), .ref 0]) (I' := I) (J' := J) rfl ?_
  refine Wp.isld rfl rfl h.1 ?_
  replace h := h.2
  refine Wp.call (M' := Sb_at) (as := [.ref 0, .int (I 100 (tN (x3 + 1))), .int (I 100 (tN (x3 + 2)))]) (rest := []) rfl (CI.use h (fun v1 I1 J1 h => ?_))
  refine Wp.eqs (pc' := 324) (st' := [.int v1]) rfl rfl ?_
  refine Wp.steps 5 (pc' := 329) (lv' := [some (.ref 100), some (.ref 0), some (.ref 57), some (.int x3)]) (st' := [.int (x3 + 1), .ref 100, .ref 57, .int v1]) (I' := I1) (J' := J1) rfl ?_
  refine Wp.isld rfl rfl h.1 ?_
  replace h := h.2
  refine Wp.steps 4 (pc' := 334) (lv' := [some (.ref 100), some (.ref 0), some (.ref 57), some (.int x3)]) (st' := [.int (x3 + 2), .ref 100, .int (I1 100 (tN (x3 + 1))), .ref 57, .int v1]) (I' := I1) (J' := J1) rfl ?_
  refine Wp.isld rfl rfl h.1 ?_
  replace h := h.2
  refine Wp.call (M' := Md_at) (as := [.ref 57, .int (I1 100 (tN (x3 + 1))), .int (I1 100 (tN (x3 + 2)))]) (rest := [.int v1]) rfl (CI.use h (fun v2 I2 J2 h => ?_))
  refine Wp.eqs (pc' := 338) (st' := [.int v2, .int v1]) rfl rfl ?_
  refine Wp.steps 1 (pc' := if v1 = v2 then 1099 else 341) (lv' := [some (.ref 100), some (.ref 0), some (.ref 57), some (.int x3)]) (st' := []) (I' := I2) (J' := J2) rfl (Wp.ite (fun h1 => ?_) (fun h1 => ?_))
  · replace h := h.1 h1
    exact h
  · replace h := h.2 h1
    refine Wp.steps 1 (pc' := 342) (lv' := [some (.ref 100), some (.ref 0), some (.ref 57), some (.int x3)]) (st' := [.int 0]) (I' := I2) (J' := J2) rfl ?_
    exact Wp.ret rfl h
theorem v_Law_343 {d : Nat} {Q : Post} {I : I2} {J : J2} {x3 : Int32} (h : vp_in (x3 + 1) (I 101 0).toNatClampNeg ∧ (CI d Sb_type [.ref 0, .int (I 100 (tN (x3 + 1)))] I J (fun v1 I1 J1 => vp_in (x3 + 1) (I1 101 0).toNatClampNeg ∧ (CI d Md_type [.ref 57, .int (I1 100 (tN (x3 + 1)))] I1 J1 (fun v2 I2 J2 => (v1 = v2 → Wp d Law Q 1099 [some (.ref 100), some (.ref 0), some (.ref 57), some (.int x3)] [] I2 J2) ∧ (¬ (v1 = v2) → Q (some (.int 0)) I2 J2)))))) : Wp d Law Q 343 [some (.ref 100), some (.ref 0), some (.ref 57), some (.int x3)] [] I J := by
  refine Wp.steps 5 (pc' := 348) (lv' := [some (.ref 100), some (.ref 0), some (.ref 57), some (.int x3)]) (st' := [.int (x3 + 1), .ref 100, .ref 0]) (I' := I) (J' := J) rfl ?_
  refine Wp.isld rfl rfl h.1 ?_
  replace h := h.2
  refine Wp.call (M' := Sb_type) (as := [.ref 0, .int (I 100 (tN (x3 + 1)))]) (rest := []) rfl (CI.use h (fun v1 I1 J1 h => ?_))
  refine Wp.eqs (pc' := 352) (st' := [.int v1]) rfl rfl ?_
  refine Wp.steps 5 (pc' := 357) (lv' := [some (.ref 100), some (.ref 0), some (.ref 57), some (.int x3)]) (st' := [.int (x3 + 1), .ref 100, .ref 57, .int v1]) (I' := I1) (J' := J1) rfl ?_
  refine Wp.isld rfl rfl h.1 ?_
  replace h := h.2
  refine Wp.call (M' := Md_type) (as := [.ref 57, .int (I1 100 (tN (x3 + 1)))]) (rest := [.int v1]) rfl (CI.use h (fun v2 I2 J2 h => ?_))
  refine Wp.eqs (pc' := 361) (st' := [.int v2, .int v1]) rfl rfl ?_
  refine Wp.steps 1 (pc' := if v1 = v2 then 1099 else 364) (lv' := [some (.ref 100), some (.ref 0), some (.ref 57), some (.int x3)]) (st' := []) (I' := I2) (J' := J2) rfl (Wp.ite (fun h1 => ?_) (fun h1 => ?_))
  · replace h := h.1 h1
    exact h
  · replace h := h.2 h1
    refine Wp.steps 1 (pc' := 365) (lv' := [some (.ref 100), some (.ref 0), some (.ref 57), some (.int x3)]) (st' := [.int 0]) (I' := I2) (J' := J2) rfl ?_
    exact Wp.ret rfl h
theorem v_Law_366 {d : Nat} {Q : Post} {I : I2} {J : J2} {x3 : Int32} (h : CI d Sb_box [.ref 0] I J (fun v1 I1 J1 => CI d Md_box [.ref 57] I1 J1 (fun v2 I2 J2 => (v1 = v2 → Wp d Law Q 1099 [some (.ref 100), some (.ref 0), some (.ref 57), some (.int x3)] [] I2 J2) ∧ (¬ (v1 = v2) → Q (some (.int 0)) I2 J2)))) : Wp d Law Q 366 [some (.ref 100), some (.ref 0), some (.ref 57), some (.int x3)] [] I J := by
  refine Wp.steps 1 (pc' := 367) (lv' := [some (.ref 100), some (.ref 0), some (.ref 57), some (.int x3)]) (st' := [.ref 0]) (I' := I) (J' := J) rfl ?_
  refine Wp.call (M' := Sb_box) (as := [.ref 0]) (rest := []) rfl (CI.use h (fun v1 I1 J1 h => ?_))
  refine Wp.eqs (pc' := 370) (st' := [.int v1]) rfl rfl ?_
  refine Wp.steps 1 (pc' := 371) (lv' := [some (.ref 100), some (.ref 0), some (.ref 57), some (.int x3)]) (st' := [.ref 57, .int v1]) (I' := I1) (J' := J1) rfl ?_
  refine Wp.call (M' := Md_box) (as := [.ref 57]) (rest := [.int v1]) rfl (CI.use h (fun v2 I2 J2 h => ?_))
  refine Wp.eqs (pc' := 374) (st' := [.int v2, .int v1]) rfl rfl ?_
  refine Wp.steps 1 (pc' := if v1 = v2 then 1099 else 377) (lv' := [some (.ref 100), some (.ref 0), some (.ref 57), some (.int x3)]) (st' := []) (I' := I2) (J' := J2) rfl (Wp.ite (fun h1 => ?_) (fun h1 => ?_))
  · replace h := h.1 h1
    exact h
  · replace h := h.2 h1
    refine Wp.steps 1 (pc' := 378) (lv' := [some (.ref 100), some (.ref 0), some (.ref 57), some (.int x3)]) (st' := [.int 0]) (I' := I2) (J' := J2) rfl ?_
    exact Wp.ret rfl h
theorem v_Law_379 {d : Nat} {Q : Post} {I : I2} {J : J2} {x3 : Int32} (h : vp_in (x3 + 1) (I 101 0).toNatClampNeg ∧ (CI d Sb_count [.ref 0, .int (I 100 (tN (x3 + 1)))] I J (fun v1 I1 J1 => vp_in (x3 + 1) (I1 101 0).toNatClampNeg ∧ (CI d Md_count [.ref 57, .int (I1 100 (tN (x3 + 1)))] I1 J1 (fun v2 I2 J2 => (v1 = v2 → Wp d Law Q 1099 [some (.ref 100), some (.ref 0), some (.ref 57), some (.int x3)] [] I2 J2) ∧ (¬ (v1 = v2) → Q (some (.int 0)) I2 J2)))))) : Wp d Law Q 379 [some (.ref 100), some (.ref 0), some (.ref 57), some (.int x3)] [] I J := by
  refine Wp.steps 5 (pc' := 384) (lv' := [some (.ref 100), some (.ref 0), some (.ref 57), some (.int x3)]) (st' := [.int (x3 + 1), .ref 100, .ref 0]) (I' := I) (J' := J) rfl ?_
  refine Wp.isld rfl rfl h.1 ?_
  replace h := h.2
  refine Wp.call (M' := Sb_count) (as := [.ref 0, .int (I 100 (tN (x3 + 1)))]) (rest := []) rfl (CI.use h (fun v1 I1 J1 h => ?_))
  refine Wp.eqs (pc' := 388) (st' := [.int v1]) rfl rfl ?_
  refine Wp.steps 5 (pc' := 393) (lv' := [some (.ref 100), some (.ref 0), some (.ref 57), some (.int x3)]) (st' := [.int (x3 + 1), .ref 100, .ref 57, .int v1]) (I' := I1) (J' := J1) rfl ?_
  refine Wp.isld rfl rfl h.1 ?_
  replace h := h.2
  refine Wp.call (M' := Md_count) (as := [.ref 57, .int (I1 100 (tN (x3 + 1)))]) (rest := [.int v1]) rfl (CI.use h (fun v2 I2 J2 h => ?_))
  refine Wp.eqs (pc' := 397) (st' := [.int v2, .int v1]) rfl rfl ?_
  refine Wp.steps 1 (pc' := if v1 = v2 then 1099 else 400) (lv' := [some (.ref 100), some (.ref 0), some (.ref 57), some (.int x3)]) (st' := []) (I' := I2) (J' := J2) rfl (Wp.ite (fun h1 => ?_) (fun h1 => ?_))
  · replace h := h.1 h1
    exact h
  · replace h := h.2 h1
    refine Wp.steps 1 (pc' := 401) (lv' := [some (.ref 100), some (.ref 0), some (.ref 57), some (.int x3)]) (st' := [.int 0]) (I' := I2) (J' := J2) rfl ?_
    exact Wp.ret rfl h
theorem v_Law_402 {d : Nat} {Q : Post} {I : I2} {J : J2} {x3 : Int32} (h : vp_in (x3 + 1) (I 101 0).toNatClampNeg ∧ (vp_in (x3 + 2) (I 101 0).toNatClampNeg ∧ (CI d Sb_slide [.ref 0, .int (I 100 (tN (x3 + 1))), .int (I 100 (tN (x3 + 2)))] I J (fun v1 I1 J1 => vp_in (x3 + 1) (I1 101 0).toNatClampNeg ∧ (vp_in (x3 + 2) (I1 101 0).toNatClampNeg ∧ (CI d Md_slide [.ref 57, .int (I1 100 (tN (x3 + 1))), .int (I1 100 (tN (x3 + 2)))] I1 J1 (fun v2 I2 J2 => (v1 = v2 → Wp d Law Q 1099 [some (.ref 100), some (.ref 0), some (.ref 57), some (.int x3)] [] I2 J2) ∧ (¬ (v1 = v2) → Q (some (.int 0)) I2 J2)))))))) : Wp d Law Q 402 [some (.ref 100), some (.ref 0), some (.ref 57), some (.int x3)] [] I J := by
  refine Wp.steps 5 (pc' := 407) (lv' := [some (.ref 100), some (.ref 0), some (.ref 57), some (.int x3)]) (st' := [.int (x3 + 1), .ref 100, .ref 0]) (I' := I) (J' := J) rfl ?_
  refine Wp.isld rfl rfl h.1 ?_
  replace h := h.2
  refine Wp.steps 4 (pc' := 412) (lv' := [some (.ref 100), some (.ref 0), some (.ref 57), some (.int x3)]) (st' := [.int (x3 + 2), .ref 100, .int (I 100 (tN (x3 + 1))), .ref 0]) (I' := I) (J' := J) rfl ?_
  refine Wp.isld rfl rfl h.1 ?_
  replace h := h.2
  refine Wp.call (M' := Sb_slide) (as := [.ref 0, .int (I 100 (tN (x3 + 1))), .int (I 100 (tN (x3 + 2)))]) (rest := []) rfl (CI.use h (fun v1 I1 J1 h => ?_))
  refine Wp.eqs (pc' := 416) (st' := [.int v1]) rfl rfl ?_
  refine Wp.steps 5 (pc' := 421) (lv' := [some (.ref 100), some (.ref 0), some (.ref 57), some (.int x3)]) (st' := [.int (x3 + 1), .ref 100, .ref 57, .int v1]) (I' := I1) (J' := J1) rfl ?_
  refine Wp.isld rfl rfl h.1 ?_
  replace h := h.2
  refine Wp.steps 4 (pc' := 426) (lv' := [some (.ref 100), some (.ref 0), some (.ref 57), some (.int x3)]) (st' := [.int (x3 + 2), .ref 100, .int (I1 100 (tN (x3 + 1))), .ref 57, .int v1]) (I' := I1) (J' := J1) rfl ?_
  refine Wp.isld rfl rfl h.1 ?_
  replace h := h.2
  refine Wp.call (M' := Md_slide) (as := [.ref 57, .int (I1 100 (tN (x3 + 1))), .int (I1 100 (tN (x3 + 2)))]) (rest := [.int v1]) rfl (CI.use h (fun v2 I2 J2 h => ?_))
  refine Wp.eqs (pc' := 430) (st' := [.int v2, .int v1]) rfl rfl ?_
  refine Wp.steps 1 (pc' := if v1 = v2 then 1099 else 433) (lv' := [some (.ref 100), some (.ref 0), some (.ref 57), some (.int x3)]) (st' := []) (I' := I2) (J' := J2) rfl (Wp.ite (fun h1 => ?_) (fun h1 => ?_))
  · replace h := h.1 h1
    exact h
  · replace h := h.2 h1
    refine Wp.steps 1 (pc' := 434) (lv' := [some (.ref 100), some (.ref 0), some (.ref 57), some (.int x3)]) (st' := [.int 0]) (I' := I2) (J' := J2) rfl ?_
    exact Wp.ret rfl h
theorem v_Law_435 {d : Nat} {Q : Post} {I : I2} {J : J2} {x3 : Int32} (h : CI d Sb_shut [.ref 0] I J (fun v1 I1 J1 => CI d Md_shut [.ref 57] I1 J1 (fun v2 I2 J2 => (v1 = v2 → Wp d Law Q 1099 [some (.ref 100), some (.ref 0), some (.ref 57), some (.int x3)] [] I2 J2) ∧ (¬ (v1 = v2) → Q (some (.int 0)) I2 J2)))) : Wp d Law Q 435 [some (.ref 100), some (.ref 0), some (.ref 57), some (.int x3)] [] I J := by
  refine Wp.steps 1 (pc' := 436) (lv' := [some (.ref 100), some (.ref 0), some (.ref 57), some (.int x3)]) (st' := [.ref 0]) (I' := I) (J' := J) rfl ?_
  refine Wp.call (M' := Sb_shut) (as := [.ref 0]) (rest := []) rfl (CI.use h (fun v1 I1 J1 h => ?_))
  refine Wp.eqs (pc' := 439) (st' := [.int v1]) rfl rfl ?_
  refine Wp.steps 1 (pc' := 440) (lv' := [some (.ref 100), some (.ref 0), some (.ref 57), some (.int x3)]) (st' := [.ref 57, .int v1]) (I' := I1) (J' := J1) rfl ?_
  refine Wp.call (M' := Md_shut) (as := [.ref 57]) (rest := [.int v1]) rfl (CI.use h (fun v2 I2 J2 h => ?_))
  refine Wp.eqs (pc' := 443) (st' := [.int v2, .int v1]) rfl rfl ?_
  refine Wp.steps 1 (pc' := if v1 = v2 then 1099 else 446) (lv' := [some (.ref 100), some (.ref 0), some (.ref 57), some (.int x3)]) (st' := []) (I' := I2) (J' := J2) rfl (Wp.ite (fun h1 => ?_) (fun h1 => ?_))
  · replace h := h.1 h1
    exact h
  · replace h := h.2 h1
    refine Wp.steps 1 (pc' := 447) (lv' := [some (.ref 100), some (.ref 0), some (.ref 57), some (.int x3)]) (st' := [.int 0]) (I' := I2) (J' := J2) rfl ?_
    exact Wp.ret rfl h
theorem v_Law_448 {d : Nat} {Q : Post} {I : I2} {J : J2} {x3 : Int32} (h : vp_in (x3 + 1) (I 101 0).toNatClampNeg ∧ (CI d Sb_file [.ref 0, .int (I 100 (tN (x3 + 1)))] I J (fun v1 I1 J1 => vp_in (x3 + 1) (I1 101 0).toNatClampNeg ∧ (CI d Md_file [.ref 57, .int (I1 100 (tN (x3 + 1)))] I1 J1 (fun v2 I2 J2 => (v1 = v2 → Wp d Law Q 1099 [some (.ref 100), some (.ref 0), some (.ref 57), some (.int x3)] [] I2 J2) ∧ (¬ (v1 = v2) → Q (some (.int 0)) I2 J2)))))) : Wp d Law Q 448 [some (.ref 100), some (.ref 0), some (.ref 57), some (.int x3)] [] I J := by
  refine Wp.steps 5 (pc' := 453) (lv' := [some (.ref 100), some (.ref 0), some (.ref 57), some (.int x3)]) (st' := [.int (x3 + 1), .ref 100, .ref 0]) (I' := I) (J' := J) rfl ?_
  refine Wp.isld rfl rfl h.1 ?_
  replace h := h.2
  refine Wp.call (M' := Sb_file) (as := [.ref 0, .int (I 100 (tN (x3 + 1)))]) (rest := []) rfl (CI.use h (fun v1 I1 J1 h => ?_))
  refine Wp.eqs (pc' := 457) (st' := [.int v1]) rfl rfl ?_
  refine Wp.steps 5 (pc' := 462) (lv' := [some (.ref 100), some (.ref 0), some (.ref 57), some (.int x3)]) (st' := [.int (x3 + 1), .ref 100, .ref 57, .int v1]) (I' := I1) (J' := J1) rfl ?_
  refine Wp.isld rfl rfl h.1 ?_
  replace h := h.2
  refine Wp.call (M' := Md_file) (as := [.ref 57, .int (I1 100 (tN (x3 + 1)))]) (rest := [.int v1]) rfl (CI.use h (fun v2 I2 J2 h => ?_))
  refine Wp.eqs (pc' := 466) (st' := [.int v2, .int v1]) rfl rfl ?_
  refine Wp.steps 1 (pc' := if v1 = v2 then 1099 else 469) (lv' := [some (.ref 100), some (.ref 0), some (.ref 57), some (.int x3)]) (st' := []) (I' := I2) (J' := J2) rfl (Wp.ite (fun h1 => ?_) (fun h1 => ?_))
  · replace h := h.1 h1
    exact h
  · replace h := h.2 h1
    refine Wp.steps 1 (pc' := 470) (lv' := [some (.ref 100), some (.ref 0), some (.ref 57), some (.int x3)]) (st' := [.int 0]) (I' := I2) (J' := J2) rfl ?_
    exact Wp.ret rfl h
theorem v_Law_471 {d : Nat} {Q : Post} {I : I2} {J : J2} {x3 : Int32} (h : vp_in (x3 + 1) (I 101 0).toNatClampNeg ∧ (CI d Sb_drift [.ref 0, .int (I 100 (tN (x3 + 1)))] I J (fun v1 I1 J1 => vp_in (x3 + 1) (I1 101 0).toNatClampNeg ∧ (CI d Md_drift [.ref 57, .int (I1 100 (tN (x3 + 1)))] I1 J1 (fun v2 I2 J2 => (v1 = v2 → Wp d Law Q 1099 [some (.ref 100), some (.ref 0), some (.ref 57), some (.int x3)] [] I2 J2) ∧ (¬ (v1 = v2) → Q (some (.int 0)) I2 J2)))))) : Wp d Law Q 471 [some (.ref 100), some (.ref 0), some (.ref 57), some (.int x3)] [] I J := by
  refine Wp.steps 5 (pc' := 476) (lv' := [some (.ref 100), some (.ref 0), some (.ref 57), some (.int x3)]) (st' := [.int (x3 + 1), .ref 100, .ref 0]) (I' := I) (J' := J) rfl ?_
  refine Wp.isld rfl rfl h.1 ?_
  replace h := h.2
  refine Wp.call (M' := Sb_drift) (as := [.ref 0, .int (I 100 (tN (x3 + 1)))]) (rest := []) rfl (CI.use h (fun v1 I1 J1 h => ?_))
  refine Wp.eqs (pc' := 480) (st' := [.int v1]) rfl rfl ?_
  refine Wp.steps 5 (pc' := 485) (lv' := [some (.ref 100), some (.ref 0), some (.ref 57), some (.int x3)]) (st' := [.int (x3 + 1), .ref 100, .ref 57, .int v1]) (I' := I1) (J' := J1) rfl ?_
  refine Wp.isld rfl rfl h.1 ?_
  replace h := h.2
  refine Wp.call (M' := Md_drift) (as := [.ref 57, .int (I1 100 (tN (x3 + 1)))]) (rest := [.int v1]) rfl (CI.use h (fun v2 I2 J2 h => ?_))
  refine Wp.eqs (pc' := 489) (st' := [.int v2, .int v1]) rfl rfl ?_
  refine Wp.steps 1 (pc' := if v1 = v2 then 1099 else 492) (lv' := [some (.ref 100), some (.ref 0), some (.ref 57), some (.int x3)]) (st' := []) (I' := I2) (J' := J2) rfl (Wp.ite (fun h1 => ?_) (fun h1 => ?_))
  · replace h := h.1 h1
    exact h
  · replace h := h.2 h1
    refine Wp.steps 1 (pc' := 493) (lv' := [some (.ref 100), some (.ref 0), some (.ref 57), some (.int x3)]) (st' := [.int 0]) (I' := I2) (J' := J2) rfl ?_
    exact Wp.ret rfl h
theorem v_Law_494 {d : Nat} {Q : Post} {I : I2} {J : J2} {x3 : Int32} (h : CI d Sb_undo [.ref 0] I J (fun v1 I1 J1 => CI d Md_undo [.ref 57] I1 J1 (fun v2 I2 J2 => (v1 = v2 → Wp d Law Q 1099 [some (.ref 100), some (.ref 0), some (.ref 57), some (.int x3)] [] I2 J2) ∧ (¬ (v1 = v2) → Q (some (.int 0)) I2 J2)))) : Wp d Law Q 494 [some (.ref 100), some (.ref 0), some (.ref 57), some (.int x3)] [] I J := by
  refine Wp.steps 1 (pc' := 495) (lv' := [some (.ref 100), some (.ref 0), some (.ref 57), some (.int x3)]) (st' := [.ref 0]) (I' := I) (J' := J) rfl ?_
  refine Wp.call (M' := Sb_undo) (as := [.ref 0]) (rest := []) rfl (CI.use h (fun v1 I1 J1 h => ?_))
  refine Wp.eqs (pc' := 498) (st' := [.int v1]) rfl rfl ?_
  refine Wp.steps 1 (pc' := 499) (lv' := [some (.ref 100), some (.ref 0), some (.ref 57), some (.int x3)]) (st' := [.ref 57, .int v1]) (I' := I1) (J' := J1) rfl ?_
  refine Wp.call (M' := Md_undo) (as := [.ref 57]) (rest := [.int v1]) rfl (CI.use h (fun v2 I2 J2 h => ?_))
  refine Wp.eqs (pc' := 502) (st' := [.int v2, .int v1]) rfl rfl ?_
  refine Wp.steps 1 (pc' := if v1 = v2 then 1099 else 505) (lv' := [some (.ref 100), some (.ref 0), some (.ref 57), some (.int x3)]) (st' := []) (I' := I2) (J' := J2) rfl (Wp.ite (fun h1 => ?_) (fun h1 => ?_))
  · replace h := h.1 h1
    exact h
  · replace h := h.2 h1
    refine Wp.steps 1 (pc' := 506) (lv' := [some (.ref 100), some (.ref 0), some (.ref 57), some (.int x3)]) (st' := [.int 0]) (I' := I2) (J' := J2) rfl ?_
    exact Wp.ret rfl h
theorem v_Law_507 {d : Nat} {Q : Post} {I : I2} {J : J2} {x3 : Int32} (h : vp_in (x3 + 1) (I 101 0).toNatClampNeg ∧ (CI d Sb_seed [.ref 0, .int (I 100 (tN (x3 + 1)))] I J (fun v1 I1 J1 => vp_in (x3 + 1) (I1 101 0).toNatClampNeg ∧ (CI d Md_seed [.ref 57, .int (I1 100 (tN (x3 + 1)))] I1 J1 (fun v2 I2 J2 => (v1 = v2 → Wp d Law Q 1099 [some (.ref 100), some (.ref 0), some (.ref 57), some (.int x3)] [] I2 J2) ∧ (¬ (v1 = v2) → Q (some (.int 0)) I2 J2)))))) : Wp d Law Q 507 [some (.ref 100), some (.ref 0), some (.ref 57), some (.int x3)] [] I J := by
  refine Wp.steps 5 (pc' := 512) (lv' := [some (.ref 100), some (.ref 0), some (.ref 57), some (.int x3)]) (st' := [.int (x3 + 1), .ref 100, .ref 0]) (I' := I) (J' := J) rfl ?_
  refine Wp.isld rfl rfl h.1 ?_
  replace h := h.2
  refine Wp.call (M' := Sb_seed) (as := [.ref 0, .int (I 100 (tN (x3 + 1)))]) (rest := []) rfl (CI.use h (fun v1 I1 J1 h => ?_))
  refine Wp.eqs (pc' := 516) (st' := [.int v1]) rfl rfl ?_
  refine Wp.steps 5 (pc' := 521) (lv' := [some (.ref 100), some (.ref 0), some (.ref 57), some (.int x3)]) (st' := [.int (x3 + 1), .ref 100, .ref 57, .int v1]) (I' := I1) (J' := J1) rfl ?_
  refine Wp.isld rfl rfl h.1 ?_
  replace h := h.2
  refine Wp.call (M' := Md_seed) (as := [.ref 57, .int (I1 100 (tN (x3 + 1)))]) (rest := [.int v1]) rfl (CI.use h (fun v2 I2 J2 h => ?_))
  refine Wp.eqs (pc' := 525) (st' := [.int v2, .int v1]) rfl rfl ?_
  refine Wp.steps 1 (pc' := if v1 = v2 then 1099 else 528) (lv' := [some (.ref 100), some (.ref 0), some (.ref 57), some (.int x3)]) (st' := []) (I' := I2) (J' := J2) rfl (Wp.ite (fun h1 => ?_) (fun h1 => ?_))
  · replace h := h.1 h1
    exact h
  · replace h := h.2 h1
    refine Wp.steps 1 (pc' := 529) (lv' := [some (.ref 100), some (.ref 0), some (.ref 57), some (.int x3)]) (st' := [.int 0]) (I' := I2) (J' := J2) rfl ?_
    exact Wp.ret rfl h
theorem v_Law_530 {d : Nat} {Q : Post} {I : I2} {J : J2} {x3 : Int32} (h : vp_in (x3 + 1) (I 101 0).toNatClampNeg ∧ (CI d Sb_opens [.ref 0, .int (I 100 (tN (x3 + 1)))] I J (fun v1 I1 J1 => vp_in (x3 + 1) (I1 101 0).toNatClampNeg ∧ (CI d Md_opens [.ref 57, .int (I1 100 (tN (x3 + 1)))] I1 J1 (fun v2 I2 J2 => (v1 = v2 → Wp d Law Q 1099 [some (.ref 100), some (.ref 0), some (.ref 57), some (.int x3)] [] I2 J2) ∧ (¬ (v1 = v2) → Q (some (.int 0)) I2 J2)))))) : Wp d Law Q 530 [some (.ref 100), some (.ref 0), some (.ref 57), some (.int x3)] [] I J := by
  refine Wp.steps 5 (pc' := 535) (lv' := [some (.ref 100), some (.ref 0), some (.ref 57), some (.int x3)]) (st' := [.int (x3 + 1), .ref 100, .ref 0]) (I' := I) (J' := J) rfl ?_
  refine Wp.isld rfl rfl h.1 ?_
  replace h := h.2
  refine Wp.call (M' := Sb_opens) (as := [.ref 0, .int (I 100 (tN (x3 + 1)))]) (rest := []) rfl (CI.use h (fun v1 I1 J1 h => ?_))
  refine Wp.eqs (pc' := 539) (st' := [.int v1]) rfl rfl ?_
  refine Wp.steps 5 (pc' := 544) (lv' := [some (.ref 100), some (.ref 0), some (.ref 57), some (.int x3)]) (st' := [.int (x3 + 1), .ref 100, .ref 57, .int v1]) (I' := I1) (J' := J1) rfl ?_
  refine Wp.isld rfl rfl h.1 ?_
  replace h := h.2
  refine Wp.call (M' := Md_opens) (as := [.ref 57, .int (I1 100 (tN (x3 + 1)))]) (rest := [.int v1]) rfl (CI.use h (fun v2 I2 J2 h => ?_))
  refine Wp.eqs (pc' := 548) (st' := [.int v2, .int v1]) rfl rfl ?_
  refine Wp.steps 1 (pc' := if v1 = v2 then 1099 else 551) (lv' := [some (.ref 100), some (.ref 0), some (.ref 57), some (.int x3)]) (st' := []) (I' := I2) (J' := J2) rfl (Wp.ite (fun h1 => ?_) (fun h1 => ?_))
  · replace h := h.1 h1
    exact h
  · replace h := h.2 h1
    refine Wp.steps 1 (pc' := 552) (lv' := [some (.ref 100), some (.ref 0), some (.ref 57), some (.int x3)]) (st' := [.int 0]) (I' := I2) (J' := J2) rfl ?_
    exact Wp.ret rfl h
theorem v_Law_553 {d : Nat} {Q : Post} {I : I2} {J : J2} {x3 : Int32} (h : CI d Sb_rows [.ref 0] I J (fun v1 I1 J1 => CI d Md_rows [.ref 57] I1 J1 (fun v2 I2 J2 => (v1 = v2 → Wp d Law Q 1099 [some (.ref 100), some (.ref 0), some (.ref 57), some (.int x3)] [] I2 J2) ∧ (¬ (v1 = v2) → Q (some (.int 0)) I2 J2)))) : Wp d Law Q 553 [some (.ref 100), some (.ref 0), some (.ref 57), some (.int x3)] [] I J := by
  refine Wp.steps 1 (pc' := 554) (lv' := [some (.ref 100), some (.ref 0), some (.ref 57), some (.int x3)]) (st' := [.ref 0]) (I' := I) (J' := J) rfl ?_
  refine Wp.call (M' := Sb_rows) (as := [.ref 0]) (rest := []) rfl (CI.use h (fun v1 I1 J1 h => ?_))
  refine Wp.eqs (pc' := 557) (st' := [.int v1]) rfl rfl ?_
  refine Wp.steps 1 (pc' := 558) (lv' := [some (.ref 100), some (.ref 0), some (.ref 57), some (.int x3)]) (st' := [.ref 57, .int v1]) (I' := I1) (J' := J1) rfl ?_
  refine Wp.call (M' := Md_rows) (as := [.ref 57]) (rest := [.int v1]) rfl (CI.use h (fun v2 I2 J2 h => ?_))
  refine Wp.eqs (pc' := 561) (st' := [.int v2, .int v1]) rfl rfl ?_
  refine Wp.steps 1 (pc' := if v1 = v2 then 1099 else 564) (lv' := [some (.ref 100), some (.ref 0), some (.ref 57), some (.int x3)]) (st' := []) (I' := I2) (J' := J2) rfl (Wp.ite (fun h1 => ?_) (fun h1 => ?_))
  · replace h := h.1 h1
    exact h
  · replace h := h.2 h1
    refine Wp.steps 1 (pc' := 565) (lv' := [some (.ref 100), some (.ref 0), some (.ref 57), some (.int x3)]) (st' := [.int 0]) (I' := I2) (J' := J2) rfl ?_
    exact Wp.ret rfl h
theorem v_Law_566 {d : Nat} {Q : Post} {I : I2} {J : J2} {x3 : Int32} (h : vp_in (x3 + 1) (I 101 0).toNatClampNeg ∧ (CI d Sb_reach [.ref 0, .int (I 100 (tN (x3 + 1)))] I J (fun v1 I1 J1 => vp_in (x3 + 1) (I1 101 0).toNatClampNeg ∧ (CI d Md_reach [.ref 57, .int (I1 100 (tN (x3 + 1)))] I1 J1 (fun v2 I2 J2 => (v1 = v2 → Wp d Law Q 1099 [some (.ref 100), some (.ref 0), some (.ref 57), some (.int x3)] [] I2 J2) ∧ (¬ (v1 = v2) → Q (some (.int 0)) I2 J2)))))) : Wp d Law Q 566 [some (.ref 100), some (.ref 0), some (.ref 57), some (.int x3)] [] I J := by
  refine Wp.steps 5 (pc' := 571) (lv' := [some (.ref 100), some (.ref 0), some (.ref 57), some (.int x3)]) (st' := [.int (x3 + 1), .ref 100, .ref 0]) (I' := I) (J' := J) rfl ?_
  refine Wp.isld rfl rfl h.1 ?_
  replace h := h.2
  refine Wp.call (M' := Sb_reach) (as := [.ref 0, .int (I 100 (tN (x3 + 1)))]) (rest := []) rfl (CI.use h (fun v1 I1 J1 h => ?_))
  refine Wp.eqs (pc' := 575) (st' := [.int v1]) rfl rfl ?_
  refine Wp.steps 5 (pc' := 580) (lv' := [some (.ref 100), some (.ref 0), some (.ref 57), some (.int x3)]) (st' := [.int (x3 + 1), .ref 100, .ref 57, .int v1]) (I' := I1) (J' := J1) rfl ?_
  refine Wp.isld rfl rfl h.1 ?_
  replace h := h.2
  refine Wp.call (M' := Md_reach) (as := [.ref 57, .int (I1 100 (tN (x3 + 1)))]) (rest := [.int v1]) rfl (CI.use h (fun v2 I2 J2 h => ?_))
  refine Wp.eqs (pc' := 584) (st' := [.int v2, .int v1]) rfl rfl ?_
  refine Wp.steps 1 (pc' := if v1 = v2 then 1099 else 587) (lv' := [some (.ref 100), some (.ref 0), some (.ref 57), some (.int x3)]) (st' := []) (I' := I2) (J' := J2) rfl (Wp.ite (fun h1 => ?_) (fun h1 => ?_))
  · replace h := h.1 h1
    exact h
  · replace h := h.2 h1
    refine Wp.steps 1 (pc' := 588) (lv' := [some (.ref 100), some (.ref 0), some (.ref 57), some (.int x3)]) (st' := [.int 0]) (I' := I2) (J' := J2) rfl ?_
    exact Wp.ret rfl h
theorem v_Law_589 {d : Nat} {Q : Post} {I : I2} {J : J2} {x3 : Int32} (h : vp_in (x3 + 1) (I 101 0).toNatClampNeg ∧ (CI d Sb_key [.ref 0, .int (I 100 (tN (x3 + 1)))] I J (fun v1 I1 J1 => vp_in (x3 + 1) (I1 101 0).toNatClampNeg ∧ (CI d Md_key [.ref 57, .int (I1 100 (tN (x3 + 1)))] I1 J1 (fun v2 I2 J2 => (v1 = v2 → Wp d Law Q 1099 [some (.ref 100), some (.ref 0), some (.ref 57), some (.int x3)] [] I2 J2) ∧ (¬ (v1 = v2) → Q (some (.int 0)) I2 J2)))))) : Wp d Law Q 589 [some (.ref 100), some (.ref 0), some (.ref 57), some (.int x3)] [] I J := by
  refine Wp.steps 5 (pc' := 594) (lv' := [some (.ref 100), some (.ref 0), some (.ref 57), some (.int x3)]) (st' := [.int (x3 + 1), .ref 100, .ref 0]) (I' := I) (J' := J) rfl ?_
  refine Wp.isld rfl rfl h.1 ?_
  replace h := h.2
  refine Wp.call (M' := Sb_key) (as := [.ref 0, .int (I 100 (tN (x3 + 1)))]) (rest := []) rfl (CI.use h (fun v1 I1 J1 h => ?_))
  refine Wp.eqs (pc' := 598) (st' := [.int v1]) rfl rfl ?_
  refine Wp.steps 5 (pc' := 603) (lv' := [some (.ref 100), some (.ref 0), some (.ref 57), some (.int x3)]) (st' := [.int (x3 + 1), .ref 100, .ref 57, .int v1]) (I' := I1) (J' := J1) rfl ?_
  refine Wp.isld rfl rfl h.1 ?_
  replace h := h.2
  refine Wp.call (M' := Md_key) (as := [.ref 57, .int (I1 100 (tN (x3 + 1)))]) (rest := [.int v1]) rfl (CI.use h (fun v2 I2 J2 h => ?_))
  refine Wp.eqs (pc' := 607) (st' := [.int v2, .int v1]) rfl rfl ?_
  refine Wp.steps 1 (pc' := if v1 = v2 then 1099 else 610) (lv' := [some (.ref 100), some (.ref 0), some (.ref 57), some (.int x3)]) (st' := []) (I' := I2) (J' := J2) rfl (Wp.ite (fun h1 => ?_) (fun h1 => ?_))
  · replace h := h.1 h1
    exact h
  · replace h := h.2 h1
    refine Wp.steps 1 (pc' := 611) (lv' := [some (.ref 100), some (.ref 0), some (.ref 57), some (.int x3)]) (st' := [.int 0]) (I' := I2) (J' := J2) rfl ?_
    exact Wp.ret rfl h
theorem v_Law_612 {d : Nat} {Q : Post} {I : I2} {J : J2} {x3 : Int32} (h : vp_in (x3 + 1) (I 101 0).toNatClampNeg ∧ (vp_in (x3 + 2) (I 101 0).toNatClampNeg ∧ (CI d Sb_files [.ref 0, .int (I 100 (tN (x3 + 1))), .int (I 100 (tN (x3 + 2)))] I J (fun v1 I1 J1 => vp_in (x3 + 1) (I1 101 0).toNatClampNeg ∧ (vp_in (x3 + 2) (I1 101 0).toNatClampNeg ∧ (CI d Md_files [.ref 57, .int (I1 100 (tN (x3 + 1))), .int (I1 100 (tN (x3 + 2)))] I1 J1 (fun v2 I2 J2 => (v1 = v2 → Wp d Law Q 1099 [some (.ref 100), some (.ref 0), some (.ref 57), some (.int x3)] [] I2 J2) ∧ (¬ (v1 = v2) → Q (some (.int 0)) I2 J2)))))))) : Wp d Law Q 612 [some (.ref 100), some (.ref 0), some (.ref 57), some (.int x3)] [] I J := by
  refine Wp.steps 5 (pc' := 617) (lv' := [some (.ref 100), some (.ref 0), some (.ref 57), some (.int x3)]) (st' := [.int (x3 + 1), .ref 100, .ref 0]) (I' := I) (J' := J) rfl ?_
  refine Wp.isld rfl rfl h.1 ?_
  replace h := h.2
  refine Wp.steps 4 (pc' := 622) (lv' := [some (.ref 100), some (.ref 0), some (.ref 57), some (.int x3)]) (st' := [.int (x3 + 2), .ref 100, .int (I 100 (tN (x3 + 1))), .ref 0]) (I' := I) (J' := J) rfl ?_
  refine Wp.isld rfl rfl h.1 ?_
  replace h := h.2
  refine Wp.call (M' := Sb_files) (as := [.ref 0, .int (I 100 (tN (x3 + 1))), .int (I 100 (tN (x3 + 2)))]) (rest := []) rfl (CI.use h (fun v1 I1 J1 h => ?_))
  refine Wp.eqs (pc' := 626) (st' := [.int v1]) rfl rfl ?_
  refine Wp.steps 5 (pc' := 631) (lv' := [some (.ref 100), some (.ref 0), some (.ref 57), some (.int x3)]) (st' := [.int (x3 + 1), .ref 100, .ref 57, .int v1]) (I' := I1) (J' := J1) rfl ?_
  refine Wp.isld rfl rfl h.1 ?_
  replace h := h.2
  refine Wp.steps 4 (pc' := 636) (lv' := [some (.ref 100), some (.ref 0), some (.ref 57), some (.int x3)]) (st' := [.int (x3 + 2), .ref 100, .int (I1 100 (tN (x3 + 1))), .ref 57, .int v1]) (I' := I1) (J' := J1) rfl ?_
  refine Wp.isld rfl rfl h.1 ?_
  replace h := h.2
  refine Wp.call (M' := Md_files) (as := [.ref 57, .int (I1 100 (tN (x3 + 1))), .int (I1 100 (tN (x3 + 2)))]) (rest := [.int v1]) rfl (CI.use h (fun v2 I2 J2 h => ?_))
  refine Wp.eqs (pc' := 640) (st' := [.int v2, .int v1]) rfl rfl ?_
  refine Wp.steps 1 (pc' := if v1 = v2 then 1099 else 643) (lv' := [some (.ref 100), some (.ref 0), some (.ref 57), some (.int x3)]) (st' := []) (I' := I2) (J' := J2) rfl (Wp.ite (fun h1 => ?_) (fun h1 => ?_))
  · replace h := h.1 h1
    exact h
  · replace h := h.2 h1
    refine Wp.steps 1 (pc' := 644) (lv' := [some (.ref 100), some (.ref 0), some (.ref 57), some (.int x3)]) (st' := [.int 0]) (I' := I2) (J' := J2) rfl ?_
    exact Wp.ret rfl h
theorem v_Law_645 {d : Nat} {Q : Post} {I : I2} {J : J2} {x3 : Int32} (h : vp_in (x3 + 1) (I 101 0).toNatClampNeg ∧ (CI d Sb_game [.ref 0, .int (I 100 (tN (x3 + 1)))] I J (fun v1 I1 J1 => vp_in (x3 + 1) (I1 101 0).toNatClampNeg ∧ (CI d Md_game [.ref 57, .int (I1 100 (tN (x3 + 1)))] I1 J1 (fun v2 I2 J2 => (v1 = v2 → Wp d Law Q 1099 [some (.ref 100), some (.ref 0), some (.ref 57), some (.int x3)] [] I2 J2) ∧ (¬ (v1 = v2) → Q (some (.int 0)) I2 J2)))))) : Wp d Law Q 645 [some (.ref 100), some (.ref 0), some (.ref 57), some (.int x3)] [] I J := by
  refine Wp.steps 5 (pc' := 650) (lv' := [some (.ref 100), some (.ref 0), some (.ref 57), some (.int x3)]) (st' := [.int (x3 + 1), .ref 100, .ref 0]) (I' := I) (J' := J) rfl ?_
  refine Wp.isld rfl rfl h.1 ?_
  replace h := h.2
  refine Wp.call (M' := Sb_game) (as := [.ref 0, .int (I 100 (tN (x3 + 1)))]) (rest := []) rfl (CI.use h (fun v1 I1 J1 h => ?_))
  refine Wp.eqs (pc' := 654) (st' := [.int v1]) rfl rfl ?_
  refine Wp.steps 5 (pc' := 659) (lv' := [some (.ref 100), some (.ref 0), some (.ref 57), some (.int x3)]) (st' := [.int (x3 + 1), .ref 100, .ref 57, .int v1]) (I' := I1) (J' := J1) rfl ?_
  refine Wp.isld rfl rfl h.1 ?_
  replace h := h.2
  refine Wp.call (M' := Md_game) (as := [.ref 57, .int (I1 100 (tN (x3 + 1)))]) (rest := [.int v1]) rfl (CI.use h (fun v2 I2 J2 h => ?_))
  refine Wp.eqs (pc' := 663) (st' := [.int v2, .int v1]) rfl rfl ?_
  refine Wp.steps 1 (pc' := if v1 = v2 then 1099 else 666) (lv' := [some (.ref 100), some (.ref 0), some (.ref 57), some (.int x3)]) (st' := []) (I' := I2) (J' := J2) rfl (Wp.ite (fun h1 => ?_) (fun h1 => ?_))
  · replace h := h.1 h1
    exact h
  · replace h := h.2 h1
    refine Wp.steps 1 (pc' := 667) (lv' := [some (.ref 100), some (.ref 0), some (.ref 57), some (.int x3)]) (st' := [.int 0]) (I' := I2) (J' := J2) rfl ?_
    exact Wp.ret rfl h
theorem v_Law_668 {d : Nat} {Q : Post} {I : I2} {J : J2} {x3 : Int32} (h : vp_in (x3 + 1) (I 101 0).toNatClampNeg ∧ (vp_in (x3 + 2) (I 101 0).toNatClampNeg ∧ (CL d Sb_fumble [.ref 0, .int (I 100 (tN (x3 + 1))), .int (I 100 (tN (x3 + 2)))] I J (fun v1 I1 J1 => vp_in (x3 + 1) (I1 101 0).toNatClampNeg ∧ (vp_in (x3 + 2) (I1 101 0).toNatClampNeg ∧ (CL d Md_fumble [.ref 57, .int (I1 100 (tN (x3 + 1))), .int (I1 100 (tN (x3 + 2)))] I1 J1 (fun v2 I2 J2 => ((lg_cmp v1 v2) = 0 → Wp d Law Q 1099 [some (.ref 100), some (.ref 0), some (.ref 57), some (.int x3)] [] I2 J2) ∧ (¬ ((lg_cmp v1 v2) = 0) → Q (some (.int 0)) I2 J2)))))))) : Wp d Law Q 668 [some (.ref 100), some (.ref 0), some (.ref 57), some (.int x3)] [] I J := by
  refine Wp.steps 5 (pc' := 673) (lv' := [some (.ref 100), some (.ref 0), some (.ref 57), some (.int x3)]) (st' := [.int (x3 + 1), .ref 100, .ref 0]) (I' := I) (J' := J) rfl ?_
  refine Wp.isld rfl rfl h.1 ?_
  replace h := h.2
  refine Wp.steps 4 (pc' := 678) (lv' := [some (.ref 100), some (.ref 0), some (.ref 57), some (.int x3)]) (st' := [.int (x3 + 2), .ref 100, .int (I 100 (tN (x3 + 1))), .ref 0]) (I' := I) (J' := J) rfl ?_
  refine Wp.isld rfl rfl h.1 ?_
  replace h := h.2
  refine Wp.call (M' := Sb_fumble) (as := [.ref 0, .int (I 100 (tN (x3 + 1))), .int (I 100 (tN (x3 + 2)))]) (rest := []) rfl (CL.use h (fun v1 I1 J1 h => ?_))
  refine Wp.eqs (pc' := 682) (st' := [.long v1]) rfl rfl ?_
  refine Wp.steps 5 (pc' := 687) (lv' := [some (.ref 100), some (.ref 0), some (.ref 57), some (.int x3)]) (st' := [.int (x3 + 1), .ref 100, .ref 57, .long v1]) (I' := I1) (J' := J1) rfl ?_
  refine Wp.isld rfl rfl h.1 ?_
  replace h := h.2
  refine Wp.steps 4 (pc' := 692) (lv' := [some (.ref 100), some (.ref 0), some (.ref 57), some (.int x3)]) (st' := [.int (x3 + 2), .ref 100, .int (I1 100 (tN (x3 + 1))), .ref 57, .long v1]) (I' := I1) (J' := J1) rfl ?_
  refine Wp.isld rfl rfl h.1 ?_
  replace h := h.2
  refine Wp.call (M' := Md_fumble) (as := [.ref 57, .int (I1 100 (tN (x3 + 1))), .int (I1 100 (tN (x3 + 2)))]) (rest := [.long v1]) rfl (CL.use h (fun v2 I2 J2 h => ?_))
  refine Wp.eqs (pc' := 696) (st' := [.long v2, .long v1]) rfl rfl ?_
  refine Wp.steps 1 (pc' := 697) (lv' := [some (.ref 100), some (.ref 0), some (.ref 57), some (.int x3)]) (st' := [.int (lg_cmp v1 v2)]) (I' := I2) (J' := J2) rfl ?_
  refine Wp.steps 1 (pc' := if (lg_cmp v1 v2) = 0 then 1099 else 700) (lv' := [some (.ref 100), some (.ref 0), some (.ref 57), some (.int x3)]) (st' := []) (I' := I2) (J' := J2) rfl (Wp.ite (fun h1 => ?_) (fun h1 => ?_))
  · replace h := h.1 h1
    exact h
  · replace h := h.2 h1
    refine Wp.steps 1 (pc' := 701) (lv' := [some (.ref 100), some (.ref 0), some (.ref 57), some (.int x3)]) (st' := [.int 0]) (I' := I2) (J' := J2) rfl ?_
    exact Wp.ret rfl h
theorem v_Law_702 {d : Nat} {Q : Post} {I : I2} {J : J2} {x3 : Int32} (h : CI d Sb_image [.ref 0] I J (fun v1 I1 J1 => CI d Md_image [.ref 57] I1 J1 (fun v2 I2 J2 => (v1 = v2 → Wp d Law Q 1099 [some (.ref 100), some (.ref 0), some (.ref 57), some (.int x3)] [] I2 J2) ∧ (¬ (v1 = v2) → Q (some (.int 0)) I2 J2)))) : Wp d Law Q 702 [some (.ref 100), some (.ref 0), some (.ref 57), some (.int x3)] [] I J := by
  refine Wp.steps 1 (pc' := 703) (lv' := [some (.ref 100), some (.ref 0), some (.ref 57), some (.int x3)]) (st' := [.ref 0]) (I' := I) (J' := J) rfl ?_
  refine Wp.call (M' := Sb_image) (as := [.ref 0]) (rest := []) rfl (CI.use h (fun v1 I1 J1 h => ?_))
  refine Wp.eqs (pc' := 706) (st' := [.int v1]) rfl rfl ?_
  refine Wp.steps 1 (pc' := 707) (lv' := [some (.ref 100), some (.ref 0), some (.ref 57), some (.int x3)]) (st' := [.ref 57, .int v1]) (I' := I1) (J' := J1) rfl ?_
  refine Wp.call (M' := Md_image) (as := [.ref 57]) (rest := [.int v1]) rfl (CI.use h (fun v2 I2 J2 h => ?_))
  refine Wp.eqs (pc' := 710) (st' := [.int v2, .int v1]) rfl rfl ?_
  refine Wp.steps 1 (pc' := if v1 = v2 then 1099 else 713) (lv' := [some (.ref 100), some (.ref 0), some (.ref 57), some (.int x3)]) (st' := []) (I' := I2) (J' := J2) rfl (Wp.ite (fun h1 => ?_) (fun h1 => ?_))
  · replace h := h.1 h1
    exact h
  · replace h := h.2 h1
    refine Wp.steps 1 (pc' := 714) (lv' := [some (.ref 100), some (.ref 0), some (.ref 57), some (.int x3)]) (st' := [.int 0]) (I' := I2) (J' := J2) rfl ?_
    exact Wp.ret rfl h
theorem v_Law_715 {d : Nat} {Q : Post} {I : I2} {J : J2} {x3 : Int32} (h : CI d Sb_restore [.ref 0] I J (fun v1 I1 J1 => CI d Md_restore [.ref 57] I1 J1 (fun v2 I2 J2 => (v1 = v2 → Wp d Law Q 1099 [some (.ref 100), some (.ref 0), some (.ref 57), some (.int x3)] [] I2 J2) ∧ (¬ (v1 = v2) → Q (some (.int 0)) I2 J2)))) : Wp d Law Q 715 [some (.ref 100), some (.ref 0), some (.ref 57), some (.int x3)] [] I J := by
  refine Wp.steps 1 (pc' := 716) (lv' := [some (.ref 100), some (.ref 0), some (.ref 57), some (.int x3)]) (st' := [.ref 0]) (I' := I) (J' := J) rfl ?_
  refine Wp.call (M' := Sb_restore) (as := [.ref 0]) (rest := []) rfl (CI.use h (fun v1 I1 J1 h => ?_))
  refine Wp.eqs (pc' := 719) (st' := [.int v1]) rfl rfl ?_
  refine Wp.steps 1 (pc' := 720) (lv' := [some (.ref 100), some (.ref 0), some (.ref 57), some (.int x3)]) (st' := [.ref 57, .int v1]) (I' := I1) (J' := J1) rfl ?_
  refine Wp.call (M' := Md_restore) (as := [.ref 57]) (rest := [.int v1]) rfl (CI.use h (fun v2 I2 J2 h => ?_))
  refine Wp.eqs (pc' := 723) (st' := [.int v2, .int v1]) rfl rfl ?_
  refine Wp.steps 1 (pc' := if v1 = v2 then 1099 else 726) (lv' := [some (.ref 100), some (.ref 0), some (.ref 57), some (.int x3)]) (st' := []) (I' := I2) (J' := J2) rfl (Wp.ite (fun h1 => ?_) (fun h1 => ?_))
  · replace h := h.1 h1
    exact h
  · replace h := h.2 h1
    refine Wp.steps 1 (pc' := 727) (lv' := [some (.ref 100), some (.ref 0), some (.ref 57), some (.int x3)]) (st' := [.int 0]) (I' := I2) (J' := J2) rfl ?_
    exact Wp.ret rfl h
theorem v_Law_728 {d : Nat} {Q : Post} {I : I2} {J : J2} {x3 : Int32} (h : vp_in (x3 + 1) (I 101 0).toNatClampNeg ∧ (vp_in (x3 + 2) (I 101 0).toNatClampNeg ∧ (vp_in (x3 + 3) (I 101 0).toNatClampNeg ∧ (vp_in (x3 + 4) (I 101 0).toNatClampNeg ∧ (CI d Sb_to [.ref 0, .int (I 100 (tN (x3 + 1))), .int (I 100 (tN (x3 + 2))), .int (I 100 (tN (x3 + 3))), .int (I 100 (tN (x3 + 4)))] I J (fun v1 I1 J1 => vp_in (x3 + 1) (I1 101 0).toNatClampNeg ∧ (vp_in (x3 + 2) (I1 101 0).toNatClampNeg ∧ (vp_in (x3 + 3) (I1 101 0).toNatClampNeg ∧ (vp_in (x3 + 4) (I1 101 0).toNatClampNeg ∧ (CI d Md_to [.ref 57, .int (I1 100 (tN (x3 + 1))), .int (I1 100 (tN (x3 + 2))), .int (I1 100 (tN (x3 + 3))), .int (I1 100 (tN (x3 + 4)))] I1 J1 (fun v2 I2 J2 => (v1 = v2 → Wp d Law Q 1099 [some (.ref 100), some (.ref 0), some (.ref 57), some (.int x3)] [] I2 J2) ∧ (¬ (v1 = v2) → Q (some (.int 0)) I2 J2)))))))))))) : Wp d Law Q 728 [some (.ref 100), some (.ref 0), some (.ref 57), some (.int x3)] [] I J := by
  refine Wp.steps 5 (pc' := 733) (lv' := [some (.ref 100), some (.ref 0), some (.ref 57), some (.int x3)]) (st' := [.int (x3 + 1), .ref 100, .ref 0]) (I' := I) (J' := J) rfl ?_
  refine Wp.isld rfl rfl h.1 ?_
  replace h := h.2
  refine Wp.steps 4 (pc' := 738) (lv' := [some (.ref 100), some (.ref 0), some (.ref 57), some (.int x3)]) (st' := [.int (x3 + 2), .ref 100, .int (I 100 (tN (x3 + 1))), .ref 0]) (I' := I) (J' := J) rfl ?_
  refine Wp.isld rfl rfl h.1 ?_
  replace h := h.2
  refine Wp.steps 4 (pc' := 743) (lv' := [some (.ref 100), some (.ref 0), some (.ref 57), some (.int x3)]) (st' := [.int (x3 + 3), .ref 100, .int (I 100 (tN (x3 + 2))), .int (I 100 (tN (x3 + 1))), .ref 0]) (I' := I) (J' := J) rfl ?_
  refine Wp.isld rfl rfl h.1 ?_
  replace h := h.2
  refine Wp.steps 4 (pc' := 748) (lv' := [some (.ref 100), some (.ref 0), some (.ref 57), some (.int x3)]) (st' := [.int (x3 + 4), .ref 100, .int (I 100 (tN (x3 + 3))), .int (I 100 (tN (x3 + 2))), .int (I 100 (tN (x3 + 1))), .ref 0]) (I' := I) (J' := J) rfl ?_
  refine Wp.isld rfl rfl h.1 ?_
  replace h := h.2
  refine Wp.call (M' := Sb_to) (as := [.ref 0, .int (I 100 (tN (x3 + 1))), .int (I 100 (tN (x3 + 2))), .int (I 100 (tN (x3 + 3))), .int (I 100 (tN (x3 + 4)))]) (rest := []) rfl (CI.use h (fun v1 I1 J1 h => ?_))
  refine Wp.eqs (pc' := 752) (st' := [.int v1]) rfl rfl ?_
  refine Wp.steps 5 (pc' := 757) (lv' := [some (.ref 100), some (.ref 0), some (.ref 57), some (.int x3)]) (st' := [.int (x3 + 1), .ref 100, .ref 57, .int v1]) (I' := I1) (J' := J1) rfl ?_
  refine Wp.isld rfl rfl h.1 ?_
  replace h := h.2
  refine Wp.steps 4 (pc' := 762) (lv' := [some (.ref 100), some (.ref 0), some (.ref 57), some (.int x3)]) (st' := [.int (x3 + 2), .ref 100, .int (I1 100 (tN (x3 + 1))), .ref 57, .int v1]) (I' := I1) (J' := J1) rfl ?_
  refine Wp.isld rfl rfl h.1 ?_
  replace h := h.2
  refine Wp.steps 4 (pc' := 767) (lv' := [some (.ref 100), some (.ref 0), some (.ref 57), some (.int x3)]) (st' := [.int (x3 + 3), .ref 100, .int (I1 100 (tN (x3 + 2))), .int (I1 100 (tN (x3 + 1))), .ref 57, .int v1]) (I' := I1) (J' := J1) rfl ?_
  refine Wp.isld rfl rfl h.1 ?_
  replace h := h.2
  refine Wp.steps 4 (pc' := 772) (lv' := [some (.ref 100), some (.ref 0), some (.ref 57), some (.int x3)]) (st' := [.int (x3 + 4), .ref 100, .int (I1 100 (tN (x3 + 3))), .int (I1 100 (tN (x3 + 2))), .int (I1 100 (tN (x3 + 1))), .ref 57, .int v1]) (I' := I1) (J' := J1) rfl ?_
  refine Wp.isld rfl rfl h.1 ?_
  replace h := h.2
  refine Wp.call (M' := Md_to) (as := [.ref 57, .int (I1 100 (tN (x3 + 1))), .int (I1 100 (tN (x3 + 2))), .int (I1 100 (tN (x3 + 3))), .int (I1 100 (tN (x3 + 4)))]) (rest := [.int v1]) rfl (CI.use h (fun v2 I2 J2 h => ?_))
  refine Wp.eqs (pc' := 776) (st' := [.int v2, .int v1]) rfl rfl ?_
  refine Wp.steps 1 (pc' := if v1 = v2 then 1099 else 779) (lv' := [some (.ref 100), some (.ref 0), some (.ref 57), some (.int x3)]) (st' := []) (I' := I2) (J' := J2) rfl (Wp.ite (fun h1 => ?_) (fun h1 => ?_))
  · replace h := h.1 h1
    exact h
  · replace h := h.2 h1
    refine Wp.steps 1 (pc' := 780) (lv' := [some (.ref 100), some (.ref 0), some (.ref 57), some (.int x3)]) (st' := [.int 0]) (I' := I2) (J' := J2) rfl ?_
    exact Wp.ret rfl h
theorem v_Law_781 {d : Nat} {Q : Post} {I : I2} {J : J2} {x3 : Int32} (h : vp_in (x3 + 1) (I 101 0).toNatClampNeg ∧ (vp_in (x3 + 2) (I 101 0).toNatClampNeg ∧ (vp_in (x3 + 3) (I 101 0).toNatClampNeg ∧ (vp_in (x3 + 4) (I 101 0).toNatClampNeg ∧ (vp_in (x3 + 5) (I 101 0).toNatClampNeg ∧ (CI d Sb_clicks [.ref 0, .int (I 100 (tN (x3 + 1))), .int (I 100 (tN (x3 + 2))), .int (I 100 (tN (x3 + 3))), .int (I 100 (tN (x3 + 4))), .int (I 100 (tN (x3 + 5)))] I J (fun v1 I1 J1 => vp_in (x3 + 1) (I1 101 0).toNatClampNeg ∧ (vp_in (x3 + 2) (I1 101 0).toNatClampNeg ∧ (vp_in (x3 + 3) (I1 101 0).toNatClampNeg ∧ (vp_in (x3 + 4) (I1 101 0).toNatClampNeg ∧ (vp_in (x3 + 5) (I1 101 0).toNatClampNeg ∧ (CI d Md_clicks [.ref 57, .int (I1 100 (tN (x3 + 1))), .int (I1 100 (tN (x3 + 2))), .int (I1 100 (tN (x3 + 3))), .int (I1 100 (tN (x3 + 4))), .int (I1 100 (tN (x3 + 5)))] I1 J1 (fun v2 I2 J2 => (v1 = v2 → Wp d Law Q 1099 [some (.ref 100), some (.ref 0), some (.ref 57), some (.int x3)] [] I2 J2) ∧ (¬ (v1 = v2) → Q (some (.int 0)) I2 J2)))))))))))))) : Wp d Law Q 781 [some (.ref 100), some (.ref 0), some (.ref 57), some (.int x3)] [] I J := by
  refine Wp.steps 5 (pc' := 786) (lv' := [some (.ref 100), some (.ref 0), some (.ref 57), some (.int x3)]) (st' := [.int (x3 + 1), .ref 100, .ref 0]) (I' := I) (J' := J) rfl ?_
  refine Wp.isld rfl rfl h.1 ?_
  replace h := h.2
  refine Wp.steps 4 (pc' := 791) (lv' := [some (.ref 100), some (.ref 0), some (.ref 57), some (.int x3)]) (st' := [.int (x3 + 2), .ref 100, .int (I 100 (tN (x3 + 1))), .ref 0]) (I' := I) (J' := J) rfl ?_
  refine Wp.isld rfl rfl h.1 ?_
  replace h := h.2
  refine Wp.steps 4 (pc' := 796) (lv' := [some (.ref 100), some (.ref 0), some (.ref 57), some (.int x3)]) (st' := [.int (x3 + 3), .ref 100, .int (I 100 (tN (x3 + 2))), .int (I 100 (tN (x3 + 1))), .ref 0]) (I' := I) (J' := J) rfl ?_
  refine Wp.isld rfl rfl h.1 ?_
  replace h := h.2
  refine Wp.steps 4 (pc' := 801) (lv' := [some (.ref 100), some (.ref 0), some (.ref 57), some (.int x3)]) (st' := [.int (x3 + 4), .ref 100, .int (I 100 (tN (x3 + 3))), .int (I 100 (tN (x3 + 2))), .int (I 100 (tN (x3 + 1))), .ref 0]) (I' := I) (J' := J) rfl ?_
  refine Wp.isld rfl rfl h.1 ?_
  replace h := h.2
  refine Wp.steps 4 (pc' := 806) (lv' := [some (.ref 100), some (.ref 0), some (.ref 57), some (.int x3)]) (st' := [.int (x3 + 5), .ref 100, .int (I 100 (tN (x3 + 4))), .int (I 100 (tN (x3 + 3))), .int (I 100 (tN (x3 + 2))), .int (I 100 (tN (x3 + 1))), .ref 0]) (I' := I) (J' := J) rfl ?_
  refine Wp.isld rfl rfl h.1 ?_
  replace h := h.2
  refine Wp.call (M' := Sb_clicks) (as := [.ref 0, .int (I 100 (tN (x3 + 1))), .int (I 100 (tN (x3 + 2))), .int (I 100 (tN (x3 + 3))), .int (I 100 (tN (x3 + 4))), .int (I 100 (tN (x3 + 5)))]) (rest := []) rfl (CI.use h (fun v1 I1 J1 h => ?_))
  refine Wp.eqs (pc' := 810) (st' := [.int v1]) rfl rfl ?_
  refine Wp.steps 5 (pc' := 815) (lv' := [some (.ref 100), some (.ref 0), some (.ref 57), some (.int x3)]) (st' := [.int (x3 + 1), .ref 100, .ref 57, .int v1]) (I' := I1) (J' := J1) rfl ?_
  refine Wp.isld rfl rfl h.1 ?_
  replace h := h.2
  refine Wp.steps 4 (pc' := 820) (lv' := [some (.ref 100), some (.ref 0), some (.ref 57), some (.int x3)]) (st' := [.int (x3 + 2), .ref 100, .int (I1 100 (tN (x3 + 1))), .ref 57, .int v1]) (I' := I1) (J' := J1) rfl ?_
  refine Wp.isld rfl rfl h.1 ?_
  replace h := h.2
  refine Wp.steps 4 (pc' := 825) (lv' := [some (.ref 100), some (.ref 0), some (.ref 57), some (.int x3)]) (st' := [.int (x3 + 3), .ref 100, .int (I1 100 (tN (x3 + 2))), .int (I1 100 (tN (x3 + 1))), .ref 57, .int v1]) (I' := I1) (J' := J1) rfl ?_
  refine Wp.isld rfl rfl h.1 ?_
  replace h := h.2
  refine Wp.steps 4 (pc' := 830) (lv' := [some (.ref 100), some (.ref 0), some (.ref 57), some (.int x3)]) (st' := [.int (x3 + 4), .ref 100, .int (I1 100 (tN (x3 + 3))), .int (I1 100 (tN (x3 + 2))), .int (I1 100 (tN (x3 + 1))), .ref 57, .int v1]) (I' := I1) (J' := J1) rfl ?_
  refine Wp.isld rfl rfl h.1 ?_
  replace h := h.2
  refine Wp.steps 4 (pc' := 835) (lv' := [some (.ref 100), some (.ref 0), some (.ref 57), some (.int x3)]) (st' := [.int (x3 + 5), .ref 100, .int (I1 100 (tN (x3 + 4))), .int (I1 100 (tN (x3 + 3))), .int (I1 100 (tN (x3 + 2))), .int (I1 100 (tN (x3 + 1))), .ref 57, .int v1]) (I' := I1) (J' := J1) rfl ?_
  refine Wp.isld rfl rfl h.1 ?_
  replace h := h.2
  refine Wp.call (M' := Md_clicks) (as := [.ref 57, .int (I1 100 (tN (x3 + 1))), .int (I1 100 (tN (x3 + 2))), .int (I1 100 (tN (x3 + 3))), .int (I1 100 (tN (x3 + 4))), .int (I1 100 (tN (x3 + 5)))]) (rest := [.int v1]) rfl (CI.use h (fun v2 I2 J2 h => ?_))
  refine Wp.eqs (pc' := 839) (st' := [.int v2, .int v1]) rfl rfl ?_
  refine Wp.steps 1 (pc' := if v1 = v2 then 1099 else 842) (lv' := [some (.ref 100), some (.ref 0), some (.ref 57), some (.int x3)]) (st' := []) (I' := I2) (J' := J2) rfl (Wp.ite (fun h1 => ?_) (fun h1 => ?_))
  · replace h := h.1 h1
    exact h
  · replace h := h.2 h1
    refine Wp.steps 1 (pc' := 843) (lv' := [some (.ref 100), some (.ref 0), some (.ref 57), some (.int x3)]) (st' := [.int 0]) (I' := I2) (J' := J2) rfl ?_
    exact Wp.ret rfl h
theorem v_Law_844 {d : Nat} {Q : Post} {I : I2} {J : J2} {x3 : Int32} (h : vp_in (x3 + 1) (I 101 0).toNatClampNeg ∧ (vp_in (x3 + 2) (I 101 0).toNatClampNeg ∧ (vp_in (x3 + 3) (I 101 0).toNatClampNeg ∧ (CI d Sb_film [.ref 0, .int (I 100 (tN (x3 + 1))), .int (I 100 (tN (x3 + 2))), .int (I 100 (tN (x3 + 3)))] I J (fun v1 I1 J1 => vp_in (x3 + 1) (I1 101 0).toNatClampNeg ∧ (vp_in (x3 + 2) (I1 101 0).toNatClampNeg ∧ (vp_in (x3 + 3) (I1 101 0).toNatClampNeg ∧ (CI d Md_film [.ref 57, .int (I1 100 (tN (x3 + 1))), .int (I1 100 (tN (x3 + 2))), .int (I1 100 (tN (x3 + 3)))] I1 J1 (fun v2 I2 J2 => (v1 = v2 → Wp d Law Q 1099 [some (.ref 100), some (.ref 0), some (.ref 57), some (.int x3)] [] I2 J2) ∧ (¬ (v1 = v2) → Q (some (.int 0)) I2 J2)))))))))) : Wp d Law Q 844 [some (.ref 100), some (.ref 0), some (.ref 57), some (.int x3)] [] I J := by
  refine Wp.steps 5 (pc' := 849) (lv' := [some (.ref 100), some (.ref 0), some (.ref 57), some (.int x3)]) (st' := [.int (x3 + 1), .ref 100, .ref 0]) (I' := I) (J' := J) rfl ?_
  refine Wp.isld rfl rfl h.1 ?_
  replace h := h.2
  refine Wp.steps 4 (pc' := 854) (lv' := [some (.ref 100), some (.ref 0), some (.ref 57), some (.int x3)]) (st' := [.int (x3 + 2), .ref 100, .int (I 100 (tN (x3 + 1))), .ref 0]) (I' := I) (J' := J) rfl ?_
  refine Wp.isld rfl rfl h.1 ?_
  replace h := h.2
  refine Wp.steps 4 (pc' := 859) (lv' := [some (.ref 100), some (.ref 0), some (.ref 57), some (.int x3)]) (st' := [.int (x3 + 3), .ref 100, .int (I 100 (tN (x3 + 2))), .int (I 100 (tN (x3 + 1))), .ref 0]) (I' := I) (J' := J) rfl ?_
  refine Wp.isld rfl rfl h.1 ?_
  replace h := h.2
  refine Wp.call (M' := Sb_film) (as := [.ref 0, .int (I 100 (tN (x3 + 1))), .int (I 100 (tN (x3 + 2))), .int (I 100 (tN (x3 + 3)))]) (rest := []) rfl (CI.use h (fun v1 I1 J1 h => ?_))
  refine Wp.eqs (pc' := 863) (st' := [.int v1]) rfl rfl ?_
  refine Wp.steps 5 (pc' := 868) (lv' := [some (.ref 100), some (.ref 0), some (.ref 57), some (.int x3)]) (st' := [.int (x3 + 1), .ref 100, .ref 57, .int v1]) (I' := I1) (J' := J1) rfl ?_
  refine Wp.isld rfl rfl h.1 ?_
  replace h := h.2
  refine Wp.steps 4 (pc' := 873) (lv' := [some (.ref 100), some (.ref 0), some (.ref 57), some (.int x3)]) (st' := [.int (x3 + 2), .ref 100, .int (I1 100 (tN (x3 + 1))), .ref 57, .int v1]) (I' := I1) (J' := J1) rfl ?_
  refine Wp.isld rfl rfl h.1 ?_
  replace h := h.2
  refine Wp.steps 4 (pc' := 878) (lv' := [some (.ref 100), some (.ref 0), some (.ref 57), some (.int x3)]) (st' := [.int (x3 + 3), .ref 100, .int (I1 100 (tN (x3 + 2))), .int (I1 100 (tN (x3 + 1))), .ref 57, .int v1]) (I' := I1) (J' := J1) rfl ?_
  refine Wp.isld rfl rfl h.1 ?_
  replace h := h.2
  refine Wp.call (M' := Md_film) (as := [.ref 57, .int (I1 100 (tN (x3 + 1))), .int (I1 100 (tN (x3 + 2))), .int (I1 100 (tN (x3 + 3)))]) (rest := [.int v1]) rfl (CI.use h (fun v2 I2 J2 h => ?_))
  refine Wp.eqs (pc' := 882) (st' := [.int v2, .int v1]) rfl rfl ?_
  refine Wp.steps 1 (pc' := if v1 = v2 then 1099 else 885) (lv' := [some (.ref 100), some (.ref 0), some (.ref 57), some (.int x3)]) (st' := []) (I' := I2) (J' := J2) rfl (Wp.ite (fun h1 => ?_) (fun h1 => ?_))
  · replace h := h.1 h1
    exact h
  · replace h := h.2 h1
    refine Wp.steps 1 (pc' := 886) (lv' := [some (.ref 100), some (.ref 0), some (.ref 57), some (.int x3)]) (st' := [.int 0]) (I' := I2) (J' := J2) rfl ?_
    exact Wp.ret rfl h
theorem v_Law_887 {d : Nat} {Q : Post} {I : I2} {J : J2} {x3 : Int32} (h : vp_in (x3 + 1) (I 101 0).toNatClampNeg ∧ (vp_in (x3 + 2) (I 101 0).toNatClampNeg ∧ (vp_in (x3 + 3) (I 101 0).toNatClampNeg ∧ (CI d Sb_sheet [.ref 0, .int (I 100 (tN (x3 + 1))), .int (I 100 (tN (x3 + 2))), .int (I 100 (tN (x3 + 3)))] I J (fun v1 I1 J1 => vp_in (x3 + 1) (I1 101 0).toNatClampNeg ∧ (vp_in (x3 + 2) (I1 101 0).toNatClampNeg ∧ (vp_in (x3 + 3) (I1 101 0).toNatClampNeg ∧ (CI d Md_sheet [.ref 57, .int (I1 100 (tN (x3 + 1))), .int (I1 100 (tN (x3 + 2))), .int (I1 100 (tN (x3 + 3)))] I1 J1 (fun v2 I2 J2 => (v1 = v2 → Wp d Law Q 1099 [some (.ref 100), some (.ref 0), some (.ref 57), some (.int x3)] [] I2 J2) ∧ (¬ (v1 = v2) → Q (some (.int 0)) I2 J2)))))))))) : Wp d Law Q 887 [some (.ref 100), some (.ref 0), some (.ref 57), some (.int x3)] [] I J := by
  refine Wp.steps 5 (pc' := 892) (lv' := [some (.ref 100), some (.ref 0), some (.ref 57), some (.int x3)]) (st' := [.int (x3 + 1), .ref 100, .ref 0]) (I' := I) (J' := J) rfl ?_
  refine Wp.isld rfl rfl h.1 ?_
  replace h := h.2
  refine Wp.steps 4 (pc' := 897) (lv' := [some (.ref 100), some (.ref 0), some (.ref 57), some (.int x3)]) (st' := [.int (x3 + 2), .ref 100, .int (I 100 (tN (x3 + 1))), .ref 0]) (I' := I) (J' := J) rfl ?_
  refine Wp.isld rfl rfl h.1 ?_
  replace h := h.2
  refine Wp.steps 4 (pc' := 902) (lv' := [some (.ref 100), some (.ref 0), some (.ref 57), some (.int x3)]) (st' := [.int (x3 + 3), .ref 100, .int (I 100 (tN (x3 + 2))), .int (I 100 (tN (x3 + 1))), .ref 0]) (I' := I) (J' := J) rfl ?_
  refine Wp.isld rfl rfl h.1 ?_
  replace h := h.2
  refine Wp.call (M' := Sb_sheet) (as := [.ref 0, .int (I 100 (tN (x3 + 1))), .int (I 100 (tN (x3 + 2))), .int (I 100 (tN (x3 + 3)))]) (rest := []) rfl (CI.use h (fun v1 I1 J1 h => ?_))
  refine Wp.eqs (pc' := 906) (st' := [.int v1]) rfl rfl ?_
  refine Wp.steps 5 (pc' := 911) (lv' := [some (.ref 100), some (.ref 0), some (.ref 57), some (.int x3)]) (st' := [.int (x3 + 1), .ref 100, .ref 57, .int v1]) (I' := I1) (J' := J1) rfl ?_
  refine Wp.isld rfl rfl h.1 ?_
  replace h := h.2
  refine Wp.steps 4 (pc' := 916) (lv' := [some (.ref 100), some (.ref 0), some (.ref 57), some (.int x3)]) (st' := [.int (x3 + 2), .ref 100, .int (I1 100 (tN (x3 + 1))), .ref 57, .int v1]) (I' := I1) (J' := J1) rfl ?_
  refine Wp.isld rfl rfl h.1 ?_
  replace h := h.2
  refine Wp.steps 4 (pc' := 921) (lv' := [some (.ref 100), some (.ref 0), some (.ref 57), some (.int x3)]) (st' := [.int (x3 + 3), .ref 100, .int (I1 100 (tN (x3 + 2))), .int (I1 100 (tN (x3 + 1))), .ref 57, .int v1]) (I' := I1) (J' := J1) rfl ?_
  refine Wp.isld rfl rfl h.1 ?_
  replace h := h.2
  refine Wp.call (M' := Md_sheet) (as := [.ref 57, .int (I1 100 (tN (x3 + 1))), .int (I1 100 (tN (x3 + 2))), .int (I1 100 (tN (x3 + 3)))]) (rest := [.int v1]) rfl (CI.use h (fun v2 I2 J2 h => ?_))
  refine Wp.eqs (pc' := 925) (st' := [.int v2, .int v1]) rfl rfl ?_
  refine Wp.steps 1 (pc' := if v1 = v2 then 1099 else 928) (lv' := [some (.ref 100), some (.ref 0), some (.ref 57), some (.int x3)]) (st' := []) (I' := I2) (J' := J2) rfl (Wp.ite (fun h1 => ?_) (fun h1 => ?_))
  · replace h := h.1 h1
    exact h
  · replace h := h.2 h1
    refine Wp.steps 1 (pc' := 929) (lv' := [some (.ref 100), some (.ref 0), some (.ref 57), some (.int x3)]) (st' := [.int 0]) (I' := I2) (J' := J2) rfl ?_
    exact Wp.ret rfl h
theorem v_Law_930 {d : Nat} {Q : Post} {I : I2} {J : J2} {x3 : Int32} (h : vp_in (x3 + 1) (I 101 0).toNatClampNeg ∧ (CI d Sb_drop [.ref 0, .int (I 100 (tN (x3 + 1)))] I J (fun v1 I1 J1 => vp_in (x3 + 1) (I1 101 0).toNatClampNeg ∧ (CI d Md_drop [.ref 57, .int (I1 100 (tN (x3 + 1)))] I1 J1 (fun v2 I2 J2 => (v1 = v2 → Wp d Law Q 1099 [some (.ref 100), some (.ref 0), some (.ref 57), some (.int x3)] [] I2 J2) ∧ (¬ (v1 = v2) → Q (some (.int 0)) I2 J2)))))) : Wp d Law Q 930 [some (.ref 100), some (.ref 0), some (.ref 57), some (.int x3)] [] I J := by
  refine Wp.steps 5 (pc' := 935) (lv' := [some (.ref 100), some (.ref 0), some (.ref 57), some (.int x3)]) (st' := [.int (x3 + 1), .ref 100, .ref 0]) (I' := I) (J' := J) rfl ?_
  refine Wp.isld rfl rfl h.1 ?_
  replace h := h.2
  refine Wp.call (M' := Sb_drop) (as := [.ref 0, .int (I 100 (tN (x3 + 1)))]) (rest := []) rfl (CI.use h (fun v1 I1 J1 h => ?_))
  refine Wp.eqs (pc' := 939) (st' := [.int v1]) rfl rfl ?_
  refine Wp.steps 5 (pc' := 944) (lv' := [some (.ref 100), some (.ref 0), some (.ref 57), some (.int x3)]) (st' := [.int (x3 + 1), .ref 100, .ref 57, .int v1]) (I' := I1) (J' := J1) rfl ?_
  refine Wp.isld rfl rfl h.1 ?_
  replace h := h.2
  refine Wp.call (M' := Md_drop) (as := [.ref 57, .int (I1 100 (tN (x3 + 1)))]) (rest := [.int v1]) rfl (CI.use h (fun v2 I2 J2 h => ?_))
  refine Wp.eqs (pc' := 948) (st' := [.int v2, .int v1]) rfl rfl ?_
  refine Wp.steps 1 (pc' := if v1 = v2 then 1099 else 951) (lv' := [some (.ref 100), some (.ref 0), some (.ref 57), some (.int x3)]) (st' := []) (I' := I2) (J' := J2) rfl (Wp.ite (fun h1 => ?_) (fun h1 => ?_))
  · replace h := h.1 h1
    exact h
  · replace h := h.2 h1
    refine Wp.steps 1 (pc' := 952) (lv' := [some (.ref 100), some (.ref 0), some (.ref 57), some (.int x3)]) (st' := [.int 0]) (I' := I2) (J' := J2) rfl ?_
    exact Wp.ret rfl h
theorem v_Law_953 {d : Nat} {Q : Post} {I : I2} {J : J2} {x3 : Int32} (h : vp_in (x3 + 1) (I 101 0).toNatClampNeg ∧ (vp_in (x3 + 2) (I 101 0).toNatClampNeg ∧ (vp_in (x3 + 3) (I 101 0).toNatClampNeg ∧ (vp_in (x3 + 4) (I 101 0).toNatClampNeg ∧ (vp_in (x3 + 5) (I 101 0).toNatClampNeg ∧ (CI d Sb_item [.ref 0, .int (I 100 (tN (x3 + 1))), .int (I 100 (tN (x3 + 2))), .int (I 100 (tN (x3 + 3))), .long ((slL (Int32.toInt64 (I 100 (tN (x3 + 4)))) 32) ||| ((Int32.toInt64 (I 100 (tN (x3 + 5)))) &&& 4294967295))] I J (fun v1 I1 J1 => vp_in (x3 + 1) (I1 101 0).toNatClampNeg ∧ (vp_in (x3 + 2) (I1 101 0).toNatClampNeg ∧ (vp_in (x3 + 3) (I1 101 0).toNatClampNeg ∧ (vp_in (x3 + 4) (I1 101 0).toNatClampNeg ∧ (vp_in (x3 + 5) (I1 101 0).toNatClampNeg ∧ (CI d Md_item [.ref 57, .int (I1 100 (tN (x3 + 1))), .int (I1 100 (tN (x3 + 2))), .int (I1 100 (tN (x3 + 3))), .long ((slL (Int32.toInt64 (I1 100 (tN (x3 + 4)))) 32) ||| ((Int32.toInt64 (I1 100 (tN (x3 + 5)))) &&& 4294967295))] I1 J1 (fun v2 I2 J2 => (v1 = v2 → Wp d Law Q 1099 [some (.ref 100), some (.ref 0), some (.ref 57), some (.int x3)] [] I2 J2) ∧ (¬ (v1 = v2) → Q (some (.int 0)) I2 J2)))))))))))))) : Wp d Law Q 953 [some (.ref 100), some (.ref 0), some (.ref 57), some (.int x3)] [] I J := by
  refine Wp.steps 5 (pc' := 958) (lv' := [some (.ref 100), some (.ref 0), some (.ref 57), some (.int x3)]) (st' := [.int (x3 + 1), .ref 100, .ref 0]) (I' := I) (J' := J) rfl ?_
  refine Wp.isld rfl rfl h.1 ?_
  replace h := h.2
  refine Wp.steps 4 (pc' := 963) (lv' := [some (.ref 100), some (.ref 0), some (.ref 57), some (.int x3)]) (st' := [.int (x3 + 2), .ref 100, .int (I 100 (tN (x3 + 1))), .ref 0]) (I' := I) (J' := J) rfl ?_
  refine Wp.isld rfl rfl h.1 ?_
  replace h := h.2
  refine Wp.steps 4 (pc' := 968) (lv' := [some (.ref 100), some (.ref 0), some (.ref 57), some (.int x3)]) (st' := [.int (x3 + 3), .ref 100, .int (I 100 (tN (x3 + 2))), .int (I 100 (tN (x3 + 1))), .ref 0]) (I' := I) (J' := J) rfl ?_
  refine Wp.isld rfl rfl h.1 ?_
  replace h := h.2
  refine Wp.steps 4 (pc' := 973) (lv' := [some (.ref 100), some (.ref 0), some (.ref 57), some (.int x3)]) (st' := [.int (x3 + 4), .ref 100, .int (I 100 (tN (x3 + 3))), .int (I 100 (tN (x3 + 2))), .int (I 100 (tN (x3 + 1))), .ref 0]) (I' := I) (J' := J) rfl ?_
  refine Wp.isld rfl rfl h.1 ?_
  replace h := h.2
  refine Wp.steps 7 (pc' := 982) (lv' := [some (.ref 100), some (.ref 0), some (.ref 57), some (.int x3)]) (st' := [.int (x3 + 5), .ref 100, .long (slL (Int32.toInt64 (I 100 (tN (x3 + 4)))) 32), .int (I 100 (tN (x3 + 3))), .int (I 100 (tN (x3 + 2))), .int (I 100 (tN (x3 + 1))), .ref 0]) (I' := I) (J' := J) rfl ?_
  refine Wp.isld rfl rfl h.1 ?_
  replace h := h.2
  refine Wp.steps 4 (pc' := 989) (lv' := [some (.ref 100), some (.ref 0), some (.ref 57), some (.int x3)]) (st' := [.long ((slL (Int32.toInt64 (I 100 (tN (x3 + 4)))) 32) ||| ((Int32.toInt64 (I 100 (tN (x3 + 5)))) &&& 4294967295)), .int (I 100 (tN (x3 + 3))), .int (I 100 (tN (x3 + 2))), .int (I 100 (tN (x3 + 1))), .ref 0]) (I' := I) (J' := J) rfl ?_
  refine Wp.call (M' := Sb_item) (as := [.ref 0, .int (I 100 (tN (x3 + 1))), .int (I 100 (tN (x3 + 2))), .int (I 100 (tN (x3 + 3))), .long ((slL (Int32.toInt64 (I 100 (tN (x3 + 4)))) 32) ||| ((Int32.toInt64 (I 100 (tN (x3 + 5)))) &&& 4294967295))]) (rest := []) rfl (CI.use h (fun v1 I1 J1 h => ?_))
  refine Wp.eqs (pc' := 992) (st' := [.int v1]) rfl rfl ?_
  refine Wp.steps 5 (pc' := 997) (lv' := [some (.ref 100), some (.ref 0), some (.ref 57), some (.int x3)]) (st' := [.int (x3 + 1), .ref 100, .ref 57, .int v1]) (I' := I1) (J' := J1) rfl ?_
  refine Wp.isld rfl rfl h.1 ?_
  replace h := h.2
  refine Wp.steps 4 (pc' := 1002) (lv' := [some (.ref 100), some (.ref 0), some (.ref 57), some (.int x3)]) (st' := [.int (x3 + 2), .ref 100, .int (I1 100 (tN (x3 + 1))), .ref 57, .int v1]) (I' := I1) (J' := J1) rfl ?_
  refine Wp.isld rfl rfl h.1 ?_
  replace h := h.2
  refine Wp.steps 4 (pc' := 1007) (lv' := [some (.ref 100), some (.ref 0), some (.ref 57), some (.int x3)]) (st' := [.int (x3 + 3), .ref 100, .int (I1 100 (tN (x3 + 2))), .int (I1 100 (tN (x3 + 1))), .ref 57, .int v1]) (I' := I1) (J' := J1) rfl ?_
  refine Wp.isld rfl rfl h.1 ?_
  replace h := h.2
  refine Wp.steps 4 (pc' := 1012) (lv' := [some (.ref 100), some (.ref 0), some (.ref 57), some (.int x3)]) (st' := [.int (x3 + 4), .ref 100, .int (I1 100 (tN (x3 + 3))), .int (I1 100 (tN (x3 + 2))), .int (I1 100 (tN (x3 + 1))), .ref 57, .int v1]) (I' := I1) (J' := J1) rfl ?_
  refine Wp.isld rfl rfl h.1 ?_
  replace h := h.2
  refine Wp.steps 7 (pc' := 1021) (lv' := [some (.ref 100), some (.ref 0), some (.ref 57), some (.int x3)]) (st' := [.int (x3 + 5), .ref 100, .long (slL (Int32.toInt64 (I1 100 (tN (x3 + 4)))) 32), .int (I1 100 (tN (x3 + 3))), .int (I1 100 (tN (x3 + 2))), .int (I1 100 (tN (x3 + 1))), .ref 57, .int v1]) (I' := I1) (J' := J1) rfl ?_
  refine Wp.isld rfl rfl h.1 ?_
  replace h := h.2
  refine Wp.steps 4 (pc' := 1028) (lv' := [some (.ref 100), some (.ref 0), some (.ref 57), some (.int x3)]) (st' := [.long ((slL (Int32.toInt64 (I1 100 (tN (x3 + 4)))) 32) ||| ((Int32.toInt64 (I1 100 (tN (x3 + 5)))) &&& 4294967295)), .int (I1 100 (tN (x3 + 3))), .int (I1 100 (tN (x3 + 2))), .int (I1 100 (tN (x3 + 1))), .ref 57, .int v1]) (I' := I1) (J' := J1) rfl ?_
  refine Wp.call (M' := Md_item) (as := [.ref 57, .int (I1 100 (tN (x3 + 1))), .int (I1 100 (tN (x3 + 2))), .int (I1 100 (tN (x3 + 3))), .long ((slL (Int32.toInt64 (I1 100 (tN (x3 + 4)))) 32) ||| ((Int32.toInt64 (I1 100 (tN (x3 + 5)))) &&& 4294967295))]) (rest := [.int v1]) rfl (CI.use h (fun v2 I2 J2 h => ?_))
  refine Wp.eqs (pc' := 1031) (st' := [.int v2, .int v1]) rfl rfl ?_
  refine Wp.steps 1 (pc' := if v1 = v2 then 1099 else 1034) (lv' := [some (.ref 100), some (.ref 0), some (.ref 57), some (.int x3)]) (st' := []) (I' := I2) (J' := J2) rfl (Wp.ite (fun h1 => ?_) (fun h1 => ?_))
  · replace h := h.1 h1
    exact h
  · replace h := h.2 h1
    refine Wp.steps 1 (pc' := 1035) (lv' := [some (.ref 100), some (.ref 0), some (.ref 57), some (.int x3)]) (st' := [.int 0]) (I' := I2) (J' := J2) rfl ?_
    exact Wp.ret rfl h
theorem v_Law_1036 {d : Nat} {Q : Post} {I : I2} {J : J2} {x3 : Int32} (h : vp_in (x3 + 1) (I 101 0).toNatClampNeg ∧ (vp_in (x3 + 2) (I 101 0).toNatClampNeg ∧ (vp_in (x3 + 3) (I 101 0).toNatClampNeg ∧ (vp_in (x3 + 4) (I 101 0).toNatClampNeg ∧ (vp_in (x3 + 5) (I 101 0).toNatClampNeg ∧ (CI d Sb_copy [.ref 0, .int (I 100 (tN (x3 + 1))), .int (I 100 (tN (x3 + 2))), .int (I 100 (tN (x3 + 3))), .int (I 100 (tN (x3 + 4))), .int (I 100 (tN (x3 + 5)))] I J (fun v1 I1 J1 => vp_in (x3 + 1) (I1 101 0).toNatClampNeg ∧ (vp_in (x3 + 2) (I1 101 0).toNatClampNeg ∧ (vp_in (x3 + 3) (I1 101 0).toNatClampNeg ∧ (vp_in (x3 + 4) (I1 101 0).toNatClampNeg ∧ (vp_in (x3 + 5) (I1 101 0).toNatClampNeg ∧ (CI d Md_copy [.ref 57, .int (I1 100 (tN (x3 + 1))), .int (I1 100 (tN (x3 + 2))), .int (I1 100 (tN (x3 + 3))), .int (I1 100 (tN (x3 + 4))), .int (I1 100 (tN (x3 + 5)))] I1 J1 (fun v2 I2 J2 => (v1 = v2 → Wp d Law Q 1099 [some (.ref 100), some (.ref 0), some (.ref 57), some (.int x3)] [] I2 J2) ∧ (¬ (v1 = v2) → Q (some (.int 0)) I2 J2)))))))))))))) : Wp d Law Q 1036 [some (.ref 100), some (.ref 0), some (.ref 57), some (.int x3)] [] I J := by
  refine Wp.steps 5 (pc' := 1041) (lv' := [some (.ref 100), some (.ref 0), some (.ref 57), some (.int x3)]) (st' := [.int (x3 + 1), .ref 100, .ref 0]) (I' := I) (J' := J) rfl ?_
  refine Wp.isld rfl rfl h.1 ?_
  replace h := h.2
  refine Wp.steps 4 (pc' := 1046) (lv' := [some (.ref 100), some (.ref 0), some (.ref 57), some (.int x3)]) (st' := [.int (x3 + 2), .ref 100, .int (I 100 (tN (x3 + 1))), .ref 0]) (I' := I) (J' := J) rfl ?_
  refine Wp.isld rfl rfl h.1 ?_
  replace h := h.2
  refine Wp.steps 4 (pc' := 1051) (lv' := [some (.ref 100), some (.ref 0), some (.ref 57), some (.int x3)]) (st' := [.int (x3 + 3), .ref 100, .int (I 100 (tN (x3 + 2))), .int (I 100 (tN (x3 + 1))), .ref 0]) (I' := I) (J' := J) rfl ?_
  refine Wp.isld rfl rfl h.1 ?_
  replace h := h.2
  refine Wp.steps 4 (pc' := 1056) (lv' := [some (.ref 100), some (.ref 0), some (.ref 57), some (.int x3)]) (st' := [.int (x3 + 4), .ref 100, .int (I 100 (tN (x3 + 3))), .int (I 100 (tN (x3 + 2))), .int (I 100 (tN (x3 + 1))), .ref 0]) (I' := I) (J' := J) rfl ?_
  refine Wp.isld rfl rfl h.1 ?_
  replace h := h.2
  refine Wp.steps 4 (pc' := 1061) (lv' := [some (.ref 100), some (.ref 0), some (.ref 57), some (.int x3)]) (st' := [.int (x3 + 5), .ref 100, .int (I 100 (tN (x3 + 4))), .int (I 100 (tN (x3 + 3))), .int (I 100 (tN (x3 + 2))), .int (I 100 (tN (x3 + 1))), .ref 0]) (I' := I) (J' := J) rfl ?_
  refine Wp.isld rfl rfl h.1 ?_
  replace h := h.2
  refine Wp.call (M' := Sb_copy) (as := [.ref 0, .int (I 100 (tN (x3 + 1))), .int (I 100 (tN (x3 + 2))), .int (I 100 (tN (x3 + 3))), .int (I 100 (tN (x3 + 4))), .int (I 100 (tN (x3 + 5)))]) (rest := []) rfl (CI.use h (fun v1 I1 J1 h => ?_))
  refine Wp.eqs (pc' := 1065) (st' := [.int v1]) rfl rfl ?_
  refine Wp.steps 5 (pc' := 1070) (lv' := [some (.ref 100), some (.ref 0), some (.ref 57), some (.int x3)]) (st' := [.int (x3 + 1), .ref 100, .ref 57, .int v1]) (I' := I1) (J' := J1) rfl ?_
  refine Wp.isld rfl rfl h.1 ?_
  replace h := h.2
  refine Wp.steps 4 (pc' := 1075) (lv' := [some (.ref 100), some (.ref 0), some (.ref 57), some (.int x3)]) (st' := [.int (x3 + 2), .ref 100, .int (I1 100 (tN (x3 + 1))), .ref 57, .int v1]) (I' := I1) (J' := J1) rfl ?_
  refine Wp.isld rfl rfl h.1 ?_
  replace h := h.2
  refine Wp.steps 4 (pc' := 1080) (lv' := [some (.ref 100), some (.ref 0), some (.ref 57), some (.int x3)]) (st' := [.int (x3 + 3), .ref 100, .int (I1 100 (tN (x3 + 2))), .int (I1 100 (tN (x3 + 1))), .ref 57, .int v1]) (I' := I1) (J' := J1) rfl ?_
  refine Wp.isld rfl rfl h.1 ?_
  replace h := h.2
  refine Wp.steps 4 (pc' := 1085) (lv' := [some (.ref 100), some (.ref 0), some (.ref 57), some (.int x3)]) (st' := [.int (x3 + 4), .ref 100, .int (I1 100 (tN (x3 + 3))), .int (I1 100 (tN (x3 + 2))), .int (I1 100 (tN (x3 + 1))), .ref 57, .int v1]) (I' := I1) (J' := J1) rfl ?_
  refine Wp.isld rfl rfl h.1 ?_
  replace h := h.2
  refine Wp.steps 4 (pc' := 1090) (lv' := [some (.ref 100), some (.ref 0), some (.ref 57), some (.int x3)]) (st' := [.int (x3 + 5), .ref 100, .int (I1 100 (tN (x3 + 4))), .int (I1 100 (tN (x3 + 3))), .int (I1 100 (tN (x3 + 2))), .int (I1 100 (tN (x3 + 1))), .ref 57, .int v1]) (I' := I1) (J' := J1) rfl ?_
  refine Wp.isld rfl rfl h.1 ?_
  replace h := h.2
  refine Wp.call (M' := Md_copy) (as := [.ref 57, .int (I1 100 (tN (x3 + 1))), .int (I1 100 (tN (x3 + 2))), .int (I1 100 (tN (x3 + 3))), .int (I1 100 (tN (x3 + 4))), .int (I1 100 (tN (x3 + 5)))]) (rest := [.int v1]) rfl (CI.use h (fun v2 I2 J2 h => ?_))
  refine Wp.eqs (pc' := 1094) (st' := [.int v2, .int v1]) rfl rfl ?_
  refine Wp.steps 1 (pc' := if v1 = v2 then 1099 else 1097) (lv' := [some (.ref 100), some (.ref 0), some (.ref 57), some (.int x3)]) (st' := []) (I' := I2) (J' := J2) rfl (Wp.ite (fun h1 => ?_) (fun h1 => ?_))
  · replace h := h.1 h1
    exact h
  · replace h := h.2 h1
    refine Wp.steps 1 (pc' := 1098) (lv' := [some (.ref 100), some (.ref 0), some (.ref 57), some (.int x3)]) (st' := [.int 0]) (I' := I2) (J' := J2) rfl ?_
    exact Wp.ret rfl h
theorem v_Law_1099 {d : Nat} {Q : Post} {I : I2} {J : J2} {x3 : Int32} (h : Wp d Law Q 18 [some (.ref 100), some (.ref 0), some (.ref 57), some (.int (x3 + 6))] [] I J) : Wp d Law Q 1099 [some (.ref 100), some (.ref 0), some (.ref 57), some (.int x3)] [] I J := by
  refine Wp.steps 2 (pc' := 18) (lv' := [some (.ref 100), some (.ref 0), some (.ref 57), some (.int (x3 + 6))]) (st' := []) (I' := I) (J' := J) rfl ?_
  exact h
