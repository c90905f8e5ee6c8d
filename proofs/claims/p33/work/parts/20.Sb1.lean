/-! what each way through a method asks (by program): Sb_image_0, Sb_undo_0, Sb_drift_0, Sb_restore_0, Sb_count_0, Sb_seed_0, Sb_of_0, Sb_slide_0, Sb_type_0, Sb_box_0, Sb_at_0, Sb_shut_0, Sb_file_0, Sb_bit, Sb_opens_0, Sb_rows_0, Sb_reach_0, Sb_sheet_0, Sb_item_0, Sb_to_0, Sb_drop_0 -/
theorem v_Sb_image_0_0 {d : Nat} {Q : Post} {I : I2} {J : J2} (h : CV d Bx_becomes [.ref 11, .ref 1] I J (fun I1 J1 => Q (some (.int 1)) (up2 I1 0 3 1) J1)) : Wp d Sb_image Q 0 [some (.ref 0)] [] I J := by
  refine Wp.steps 4 (pc' := 8) (lv' := [some (.ref 0)]) (st' := [.ref 1, .ref 11]) (I' := I) (J' := J) rfl ?_
  refine Wp.call (M' := Bx_becomes) (as := [.ref 11, .ref 1]) (rest := []) rfl (CV.use h (fun I1 J1 h => ?_))
  refine Wp.eqs (pc' := 11) (st' := []) rfl rfl ?_
  refine Wp.steps 4 (pc' := 17) (lv' := [some (.ref 0)]) (st' := [.int 1]) (I' := (up2 I1 0 3 1)) (J' := J1) rfl ?_
  exact Wp.ret rfl h
theorem v_Sb_undo_0_0 {d : Nat} {Q : Post} {I : I2} {J : J2} (h : ((I 1 15) = 0 → Q (some (.int (-4))) I J) ∧ (¬ ((I 1 15) = 0) → CI d Bx_recall [.ref 1] I J (fun v1 I1 J1 => Q (some (.int v1)) I1 J1))) : Wp d Sb_undo Q 0 [some (.ref 0)] [] I J := by
  refine Wp.steps 3 (pc' := 7) (lv' := [some (.ref 0)]) (st' := [.int (I 1 15)]) (I' := I) (J' := J) rfl ?_
  refine Wp.steps 1 (pc' := if (I 1 15) = 0 then 10 else 15) (lv' := [some (.ref 0)]) (st' := []) (I' := I) (J' := J) rfl (Wp.ite (fun h1 => ?_) (fun h1 => ?_))
  · replace h := h.1 h1
    refine Wp.steps 2 (pc' := 22) (lv' := [some (.ref 0)]) (st' := [.int (-4)]) (I' := I) (J' := J) rfl ?_
    exact Wp.ret rfl h
  · replace h := h.2 h1
    refine Wp.steps 2 (pc' := 19) (lv' := [some (.ref 0)]) (st' := [.ref 1]) (I' := I) (J' := J) rfl ?_
    refine Wp.call (M' := Bx_recall) (as := [.ref 1]) (rest := []) rfl (CI.use h (fun v1 I1 J1 h => ?_))
    refine Wp.eqs (pc' := 22) (st' := [.int v1]) rfl rfl ?_
    exact Wp.ret rfl h
theorem v_Sb_drift_0_0 {d : Nat} {Q : Post} {I : I2} {J : J2} {x1 : Int32} (h : (x1 < 1 → Q (some (.int (-1))) I J) ∧ (¬ (x1 < 1) → (40 < x1 → Q (some (.int (-1))) I J) ∧ (¬ (40 < x1) → Wp d Sb_drift Q 15 [some (.ref 0), some (.int x1), some (.int 0)] [] I J))) : Wp d Sb_drift Q 0 [some (.ref 0), some (.int x1), none] [] I J := by
  refine Wp.steps 2 (pc' := 2) (lv' := [some (.ref 0), some (.int x1), none]) (st' := [.int 1, .int x1]) (I' := I) (J' := J) rfl ?_
  refine Wp.steps 1 (pc' := if x1 < 1 then 11 else 5) (lv' := [some (.ref 0), some (.int x1), none]) (st' := []) (I' := I) (J' := J) rfl (Wp.ite (fun h1 => ?_) (fun h1 => ?_))
  · replace h := h.1 h1
    refine Wp.steps 1 (pc' := 12) (lv' := [some (.ref 0), some (.int x1), none]) (st' := [.int (-1)]) (I' := I) (J' := J) rfl ?_
    exact Wp.ret rfl h
  · replace h := h.2 h1
    refine Wp.steps 2 (pc' := 8) (lv' := [some (.ref 0), some (.int x1), none]) (st' := [.int 40, .int x1]) (I' := I) (J' := J) rfl ?_
    refine Wp.steps 1 (pc' := if 40 < x1 then 11 else 13) (lv' := [some (.ref 0), some (.int x1), none]) (st' := []) (I' := I) (J' := J) rfl (Wp.ite (fun h2 => ?_) (fun h2 => ?_))
    · replace h := h.1 h2
      refine Wp.steps 1 (pc' := 12) (lv' := [some (.ref 0), some (.int x1), none]) (st' := [.int (-1)]) (I' := I) (J' := J) rfl ?_
      exact Wp.ret rfl h
    · replace h := h.2 h2
      refine Wp.steps 2 (pc' := 15) (lv' := [some (.ref 0), some (.int x1), some (.int 0)]) (st' := []) (I' := I) (J' := J) rfl ?_
      exact h
theorem v_Sb_drift_0_15 {d : Nat} {Q : Post} {I : I2} {J : J2} {x1 : Int32} {x2 : Int32} (h : (x2 < x1 → CV d Bx_driftOnce [.ref 1] I J (fun I1 J1 => Wp d Sb_drift Q 15 [some (.ref 0), some (.int x1), some (.int (x2 + 1))] [] I1 J1)) ∧ (¬ (x2 < x1) → Q (some (.int (I 1 9))) I J)) : Wp d Sb_drift Q 15 [some (.ref 0), some (.int x1), some (.int x2)] [] I J := by
  refine Wp.steps 2 (pc' := 17) (lv' := [some (.ref 0), some (.int x1), some (.int x2)]) (st' := [.int x1, .int x2]) (I' := I) (J' := J) rfl ?_
  refine Wp.steps 1 (pc' := if x2 < x1 then 20 else 33) (lv' := [some (.ref 0), some (.int x1), some (.int x2)]) (st' := []) (I' := I) (J' := J) rfl (Wp.ite (fun h1 => ?_) (fun h1 => ?_))
  · replace h := h.1 h1
    refine Wp.steps 2 (pc' := 24) (lv' := [some (.ref 0), some (.int x1), some (.int x2)]) (st' := [.ref 1]) (I' := I) (J' := J) rfl ?_
    refine Wp.call (M' := Bx_driftOnce) (as := [.ref 1]) (rest := []) rfl (CV.use h (fun I1 J1 h => ?_))
    refine Wp.eqs (pc' := 27) (st' := []) rfl rfl ?_
    refine Wp.steps 2 (pc' := 15) (lv' := [some (.ref 0), some (.int x1), some (.int (x2 + 1))]) (st' := []) (I' := I1) (J' := J1) rfl ?_
    exact h
  · replace h := h.2 h1
    refine Wp.steps 3 (pc' := 40) (lv' := [some (.ref 0), some (.int x1), some (.int x2)]) (st' := [.int (I 1 9)]) (I' := I) (J' := J) rfl ?_
    exact Wp.ret rfl h
theorem v_Sb_restore_0_0 {d : Nat} {Q : Post} {I : I2} {J : J2} (h : ((I 0 3) = 0 → Q (some (.int (-4))) I J) ∧ (¬ ((I 0 3) = 0) → CV d Bx_becomes [.ref 1, .ref 11] I J (fun I1 J1 => Q (some (.int 1)) I1 J1))) : Wp d Sb_restore Q 0 [some (.ref 0)] [] I J := by
  refine Wp.steps 2 (pc' := 4) (lv' := [some (.ref 0)]) (st' := [.int (I 0 3)]) (I' := I) (J' := J) rfl ?_
  refine Wp.steps 1 (pc' := if (I 0 3) = 0 then 7 else 10) (lv' := [some (.ref 0)]) (st' := []) (I' := I) (J' := J) rfl (Wp.ite (fun h1 => ?_) (fun h1 => ?_))
  · replace h := h.1 h1
    refine Wp.steps 1 (pc' := 9) (lv' := [some (.ref 0)]) (st' := [.int (-4)]) (I' := I) (J' := J) rfl ?_
    exact Wp.ret rfl h
  · replace h := h.2 h1
    refine Wp.steps 4 (pc' := 18) (lv' := [some (.ref 0)]) (st' := [.ref 11, .ref 1]) (I' := I) (J' := J) rfl ?_
    refine Wp.call (M' := Bx_becomes) (as := [.ref 1, .ref 11]) (rest := []) rfl (CV.use h (fun I1 J1 h => ?_))
    refine Wp.eqs (pc' := 21) (st' := []) rfl rfl ?_
    refine Wp.steps 1 (pc' := 22) (lv' := [some (.ref 0)]) (st' := [.int 1]) (I' := I1) (J' := J1) rfl ?_
    exact Wp.ret rfl h
theorem v_Sb_count_0_0 {d : Nat} {Q : Post} {I : I2} {J : J2} {x1 : Int32} (h : (x1 = 0 → Q (some (.int (I 1 2))) I J) ∧ (x1 = 1 → Q (some (.int (I 1 7))) I J) ∧ (x1 = 2 → Q (some (.int (I 1 8))) I J) ∧ (x1 = 3 → CI d Bx_isOpen [.ref 1, .int (I 1 9)] I J (fun v1 I1 J1 => CI d Sb_bit [.int v1] I1 J1 (fun v2 I2 J2 => Q (some (.int v2)) I2 J2))) ∧ (x1 = 4 → CI d Bx_outSet [.ref 1] I J (fun v1 I1 J1 => Q (some (.int v1)) I1 J1)) ∧ (x1 = 5 → Q (some (.int (I 1 10))) I J) ∧ (x1 = 6 → CI d Bx_slidesThatMay [.ref 1] I J (fun v1 I1 J1 => Q (some (.int v1)) I1 J1)) ∧ (x1 = 7 → Q (some (.int (I 1 9))) I J) ∧ (x1 = 8 → Q (some (.int (I 1 15))) I J) ∧ (¬ (x1 = 0) ∧ ¬ (x1 = 1) ∧ ¬ (x1 = 2) ∧ ¬ (x1 = 3) ∧ ¬ (x1 = 4) ∧ ¬ (x1 = 5) ∧ ¬ (x1 = 6) ∧ ¬ (x1 = 7) ∧ ¬ (x1 = 8) → Q (some (.int (-1))) I J)) : Wp d Sb_count Q 0 [some (.ref 0), some (.int x1)] [] I J := by
  refine Wp.steps 1 (pc' := 1) (lv' := [some (.ref 0), some (.int x1)]) (st' := [.int x1]) (I' := I) (J' := J) rfl ?_
  refine Wp.steps 1 (pc' := (if x1 = 0 then 52 else (if x1 = 1 then 60 else (if x1 = 2 then 68 else (if x1 = 3 then 76 else (if x1 = 4 then 94 else (if x1 = 5 then 102 else (if x1 = 6 then 110 else (if x1 = 7 then 118 else (if x1 = 8 then 126 else 134)))))))))) (lv' := [some (.ref 0), some (.int x1)]) (st' := []) (I' := I) (J' := J) rfl ?_
  refine Wp.ite (fun g0 => ?_) (fun g0 => ?_)
  · replace h := h.1 g0
    refine Wp.steps 3 (pc' := 59) (lv' := [some (.ref 0), some (.int x1)]) (st' := [.int (I 1 2)]) (I' := I) (J' := J) rfl ?_
    exact Wp.ret rfl h
  refine Wp.ite (fun g1 => ?_) (fun g1 => ?_)
  · replace h := h.2.1 g1
    refine Wp.steps 3 (pc' := 67) (lv' := [some (.ref 0), some (.int x1)]) (st' := [.int (I 1 7)]) (I' := I) (J' := J) rfl ?_
    exact Wp.ret rfl h
  refine Wp.ite (fun g2 => ?_) (fun g2 => ?_)
  · replace h := h.2.2.1 g2
    refine Wp.steps 3 (pc' := 75) (lv' := [some (.ref 0), some (.int x1)]) (st' := [.int (I 1 8)]) (I' := I) (J' := J) rfl ?_
    exact Wp.ret rfl h
  refine Wp.ite (fun g3 => ?_) (fun g3 => ?_)
  · replace h := h.2.2.2.1 g3
    refine Wp.steps 5 (pc' := 87) (lv' := [some (.ref 0), some (.int x1)]) (st' := [.int (I 1 9), .ref 1]) (I' := I) (J' := J) rfl ?_
    refine Wp.call (M' := Bx_isOpen) (as := [.ref 1, .int (I 1 9)]) (rest := []) rfl (CI.use h (fun v1 I1 J1 h => ?_))
    refine Wp.eqs (pc' := 90) (st' := [.int v1]) rfl rfl ?_
    refine Wp.call (M' := Sb_bit) (as := [.int v1]) (rest := []) rfl (CI.use h (fun v2 I2 J2 h => ?_))
    refine Wp.eqs (pc' := 93) (st' := [.int v2]) rfl rfl ?_
    exact Wp.ret rfl h
  refine Wp.ite (fun g4 => ?_) (fun g4 => ?_)
  · replace h := h.2.2.2.2.1 g4
    refine Wp.steps 2 (pc' := 98) (lv' := [some (.ref 0), some (.int x1)]) (st' := [.ref 1]) (I' := I) (J' := J) rfl ?_
    refine Wp.call (M' := Bx_outSet) (as := [.ref 1]) (rest := []) rfl (CI.use h (fun v1 I1 J1 h => ?_))
    refine Wp.eqs (pc' := 101) (st' := [.int v1]) rfl rfl ?_
    exact Wp.ret rfl h
  refine Wp.ite (fun g5 => ?_) (fun g5 => ?_)
  · replace h := h.2.2.2.2.2.1 g5
    refine Wp.steps 3 (pc' := 109) (lv' := [some (.ref 0), some (.int x1)]) (st' := [.int (I 1 10)]) (I' := I) (J' := J) rfl ?_
    exact Wp.ret rfl h
  refine Wp.ite (fun g6 => ?_) (fun g6 => ?_)
  · replace h := h.2.2.2.2.2.2.1 g6
    refine Wp.steps 2 (pc' := 114) (lv' := [some (.ref 0), some (.int x1)]) (st' := [.ref 1]) (I' := I) (J' := J) rfl ?_
    refine Wp.call (M' := Bx_slidesThatMay) (as := [.ref 1]) (rest := []) rfl (CI.use h (fun v1 I1 J1 h => ?_))
    refine Wp.eqs (pc' := 117) (st' := [.int v1]) rfl rfl ?_
    exact Wp.ret rfl h
  refine Wp.ite (fun g7 => ?_) (fun g7 => ?_)
  · replace h := h.2.2.2.2.2.2.2.1 g7
    refine Wp.steps 3 (pc' := 125) (lv' := [some (.ref 0), some (.int x1)]) (st' := [.int (I 1 9)]) (I' := I) (J' := J) rfl ?_
    exact Wp.ret rfl h
  refine Wp.ite (fun g8 => ?_) (fun g8 => ?_)
  · replace h := h.2.2.2.2.2.2.2.2.1 g8
    refine Wp.steps 3 (pc' := 133) (lv' := [some (.ref 0), some (.int x1)]) (st' := [.int (I 1 15)]) (I' := I) (J' := J) rfl ?_
    exact Wp.ret rfl h
  replace h := h.2.2.2.2.2.2.2.2.2 ⟨g0, g1, g2, g3, g4, g5, g6, g7, g8⟩
  refine Wp.steps 1 (pc' := 135) (lv' := [some (.ref 0), some (.int x1)]) (st' := [.int (-1)]) (I' := I) (J' := J) rfl ?_
  exact Wp.ret rfl h
theorem v_Sb_seed_0_0 {d : Nat} {Q : Post} {I : I2} {J : J2} {x1 : Int32} (h : (x1 < 0 → Q (some (.int (-1))) I J) ∧ (¬ (x1 < 0) → Q (some (.int (I 1 11))) (up2 I 1 11 x1) J)) : Wp d Sb_seed Q 0 [some (.ref 0), some (.int x1), none] [] I J := by
  refine Wp.steps 1 (pc' := 1) (lv' := [some (.ref 0), some (.int x1), none]) (st' := [.int x1]) (I' := I) (J' := J) rfl ?_
  refine Wp.steps 1 (pc' := if x1 < 0 then 4 else 6) (lv' := [some (.ref 0), some (.int x1), none]) (st' := []) (I' := I) (J' := J) rfl (Wp.ite (fun h1 => ?_) (fun h1 => ?_))
  · replace h := h.1 h1
    refine Wp.steps 1 (pc' := 5) (lv' := [some (.ref 0), some (.int x1), none]) (st' := [.int (-1)]) (I' := I) (J' := J) rfl ?_
    exact Wp.ret rfl h
  · replace h := h.2 h1
    refine Wp.steps 9 (pc' := 23) (lv' := [some (.ref 0), some (.int x1), some (.int (I 1 11))]) (st' := [.int (I 1 11)]) (I' := (up2 I 1 11 x1)) (J' := J) rfl ?_
    exact Wp.ret rfl h
theorem v_Sb_of_0_0 {d : Nat} {Q : Post} {I : I2} {J : J2} {x1 : Int32} {x2 : Int32} (h : CI d Bx_hasPanel [.ref 1, .int x1] I J (fun v1 I1 J1 => (v1 = 0 → Q (some (.int (-1))) I1 J1) ∧ (¬ (v1 = 0) → (x2 = 0 → vp_in x1 5 ∧ (Q (some (.int (I1 2 (tN x1)))) I1 J1)) ∧ (x2 = 1 → vp_in x1 5 ∧ (Q (some (.int (I1 3 (tN x1)))) I1 J1)) ∧ (x2 = 2 → CI d Sb_placeIn [.int (I1 1 9), .int x1] I1 J1 (fun v2 I2 J2 => Q (some (.int v2)) I2 J2)) ∧ (x2 = 3 → CI d Bx_maySlide [.ref 1, .int (I1 1 9), .int (I1 1 10), .int x1, .int 0] I1 J1 (fun v2 I2 J2 => CI d Sb_bit [.int v2] I2 J2 (fun v3 I3 J3 => Q (some (.int v3)) I3 J3))) ∧ (x2 = 4 → CI d Bx_maySlide [.ref 1, .int (I1 1 9), .int (I1 1 10), .int x1, .int 1] I1 J1 (fun v2 I2 J2 => CI d Sb_bit [.int v2] I2 J2 (fun v3 I3 J3 => Q (some (.int v3)) I3 J3))) ∧ (¬ (x2 = 0) ∧ ¬ (x2 = 1) ∧ ¬ (x2 = 2) ∧ ¬ (x2 = 3) ∧ ¬ (x2 = 4) → Q (some (.int (-1))) I1 J1)))) : Wp d Sb_of Q 0 [some (.ref 0), some (.int x1), some (.int x2)] [] I J := by
  refine Wp.steps 3 (pc' := 5) (lv' := [some (.ref 0), some (.int x1), some (.int x2)]) (st' := [.int x1, .ref 1]) (I' := I) (J' := J) rfl ?_
  refine Wp.call (M' := Bx_hasPanel) (as := [.ref 1, .int x1]) (rest := []) rfl (CI.use h (fun v1 I1 J1 h => ?_))
  refine Wp.eqs (pc' := 8) (st' := [.int v1]) rfl rfl ?_
  refine Wp.steps 1 (pc' := if v1 = 0 then 11 else 13) (lv' := [some (.ref 0), some (.int x1), some (.int x2)]) (st' := []) (I' := I1) (J' := J1) rfl (Wp.ite (fun h1 => ?_) (fun h1 => ?_))
  · replace h := h.1 h1
    refine Wp.steps 1 (pc' := 12) (lv' := [some (.ref 0), some (.int x1), some (.int x2)]) (st' := [.int (-1)]) (I' := I1) (J' := J1) rfl ?_
    exact Wp.ret rfl h
  · replace h := h.2 h1
    refine Wp.steps 1 (pc' := 14) (lv' := [some (.ref 0), some (.int x1), some (.int x2)]) (st' := [.int x2]) (I' := I1) (J' := J1) rfl ?_
    refine Wp.steps 1 (pc' := (if x2 = 0 then 48 else (if x2 = 1 then 58 else (if x2 = 2 then 68 else (if x2 = 3 then 80 else (if x2 = 4 then 107 else 134)))))) (lv' := [some (.ref 0), some (.int x1), some (.int x2)]) (st' := []) (I' := I1) (J' := J1) rfl ?_
    refine Wp.ite (fun g0 => ?_) (fun g0 => ?_)
    · replace h := h.1 g0
      refine Wp.steps 4 (pc' := 56) (lv' := [some (.ref 0), some (.int x1), some (.int x2)]) (st' := [.int x1, .ref 2]) (I' := I1) (J' := J1) rfl ?_
      refine Wp.iald rfl rfl h.1 ?_
      replace h := h.2
      exact Wp.ret rfl h
    refine Wp.ite (fun g1 => ?_) (fun g1 => ?_)
    · replace h := h.2.1 g1
      refine Wp.steps 4 (pc' := 66) (lv' := [some (.ref 0), some (.int x1), some (.int x2)]) (st' := [.int x1, .ref 3]) (I' := I1) (J' := J1) rfl ?_
      refine Wp.iald rfl rfl h.1 ?_
      replace h := h.2
      exact Wp.ret rfl h
    refine Wp.ite (fun g2 => ?_) (fun g2 => ?_)
    · replace h := h.2.2.1 g2
      refine Wp.steps 4 (pc' := 76) (lv' := [some (.ref 0), some (.int x1), some (.int x2)]) (st' := [.int x1, .int (I1 1 9)]) (I' := I1) (J' := J1) rfl ?_
      refine Wp.call (M' := Sb_placeIn) (as := [.int (I1 1 9), .int x1]) (rest := []) rfl (CI.use h (fun v2 I2 J2 h => ?_))
      refine Wp.eqs (pc' := 79) (st' := [.int v2]) rfl rfl ?_
      exact Wp.ret rfl h
    refine Wp.ite (fun g3 => ?_) (fun g3 => ?_)
    · replace h := h.2.2.2.1 g3
      refine Wp.steps 10 (pc' := 100) (lv' := [some (.ref 0), some (.int x1), some (.int x2)]) (st' := [.int 0, .int x1, .int (I1 1 10), .int (I1 1 9), .ref 1]) (I' := I1) (J' := J1) rfl ?_
      refine Wp.call (M' := Bx_maySlide) (as := [.ref 1, .int (I1 1 9), .int (I1 1 10), .int x1, .int 0]) (rest := []) rfl (CI.use h (fun v2 I2 J2 h => ?_))
      refine Wp.eqs (pc' := 103) (st' := [.int v2]) rfl rfl ?_
      refine Wp.call (M' := Sb_bit) (as := [.int v2]) (rest := []) rfl (CI.use h (fun v3 I3 J3 h => ?_))
      refine Wp.eqs (pc' := 106) (st' := [.int v3]) rfl rfl ?_
      exact Wp.ret rfl h
    refine Wp.ite (fun g4 => ?_) (fun g4 => ?_)
    · replace h := h.2.2.2.2.1 g4
      refine Wp.steps 10 (pc' := 127) (lv' := [some (.ref 0), some (.int x1), some (.int x2)]) (st' := [.int 1, .int x1, .int (I1 1 10), .int (I1 1 9), .ref 1]) (I' := I1) (J' := J1) rfl ?_
      refine Wp.call (M' := Bx_maySlide) (as := [.ref 1, .int (I1 1 9), .int (I1 1 10), .int x1, .int 1]) (rest := []) rfl (CI.use h (fun v2 I2 J2 h => ?_))
      refine Wp.eqs (pc' := 130) (st' := [.int v2]) rfl rfl ?_
      refine Wp.call (M' := Sb_bit) (as := [.int v2]) (rest := []) rfl (CI.use h (fun v3 I3 J3 h => ?_))
      refine Wp.eqs (pc' := 133) (st' := [.int v3]) rfl rfl ?_
      exact Wp.ret rfl h
    replace h := h.2.2.2.2.2 ⟨g0, g1, g2, g3, g4⟩
    refine Wp.steps 1 (pc' := 135) (lv' := [some (.ref 0), some (.int x1), some (.int x2)]) (st' := [.int (-1)]) (I' := I1) (J' := J1) rfl ?_
    exact Wp.ret rfl h
theorem v_Sb_slide_0_0 {d : Nat} {Q : Post} {I : I2} {J : J2} {x1 : Int32} {x2 : Int32} (h : CI d Bx_hasPanel [.ref 1, .int x1] I J (fun v1 I1 J1 => (v1 = 0 → Q (some (.int (-1))) I1 J1) ∧ (¬ (v1 = 0) → (x2 < 0 → Q (some (.int (-1))) I1 J1) ∧ (¬ (x2 < 0) → (1 < x2 → Q (some (.int (-1))) I1 J1) ∧ (¬ (1 < x2) → CI d Bx_maySlide [.ref 1, .int (I1 1 9), .int (I1 1 10), .int x1, .int x2] I1 J1 (fun v2 I2 J2 => (v2 = 0 → Q (some (.int (-2))) I2 J2) ∧ (¬ (v2 = 0) → CV d Bx_remember [.ref 1] I2 J2 (fun I3 J3 => CI d Bx_behind [.ref 1, .int (I3 1 9), .int x1, .int x2] I3 J3 (fun v4 I4 J4 => Q (some (.int v4)) (up2 I4 1 9 v4) J4))))))))) : Wp d Sb_slide Q 0 [some (.ref 0), some (.int x1), some (.int x2)] [] I J := by
  refine Wp.steps 3 (pc' := 5) (lv' := [some (.ref 0), some (.int x1), some (.int x2)]) (st' := [.int x1, .ref 1]) (I' := I) (J' := J) rfl ?_
  refine Wp.call (M' := Bx_hasPanel) (as := [.ref 1, .int x1]) (rest := []) rfl (CI.use h (fun v1 I1 J1 h => ?_))
  refine Wp.eqs (pc' := 8) (st' := [.int v1]) rfl rfl ?_
  refine Wp.steps 1 (pc' := if v1 = 0 then 20 else 11) (lv' := [some (.ref 0), some (.int x1), some (.int x2)]) (st' := []) (I' := I1) (J' := J1) rfl (Wp.ite (fun h1 => ?_) (fun h1 => ?_))
  · replace h := h.1 h1
    refine Wp.steps 1 (pc' := 21) (lv' := [some (.ref 0), some (.int x1), some (.int x2)]) (st' := [.int (-1)]) (I' := I1) (J' := J1) rfl ?_
    exact Wp.ret rfl h
  · replace h := h.2 h1
    refine Wp.steps 1 (pc' := 12) (lv' := [some (.ref 0), some (.int x1), some (.int x2)]) (st' := [.int x2]) (I' := I1) (J' := J1) rfl ?_
    refine Wp.steps 1 (pc' := if x2 < 0 then 20 else 15) (lv' := [some (.ref 0), some (.int x1), some (.int x2)]) (st' := []) (I' := I1) (J' := J1) rfl (Wp.ite (fun h2 => ?_) (fun h2 => ?_))
    · replace h := h.1 h2
      refine Wp.steps 1 (pc' := 21) (lv' := [some (.ref 0), some (.int x1), some (.int x2)]) (st' := [.int (-1)]) (I' := I1) (J' := J1) rfl ?_
      exact Wp.ret rfl h
    · replace h := h.2 h2
      refine Wp.steps 2 (pc' := 17) (lv' := [some (.ref 0), some (.int x1), some (.int x2)]) (st' := [.int 1, .int x2]) (I' := I1) (J' := J1) rfl ?_
      refine Wp.steps 1 (pc' := if 1 < x2 then 20 else 22) (lv' := [some (.ref 0), some (.int x1), some (.int x2)]) (st' := []) (I' := I1) (J' := J1) rfl (Wp.ite (fun h3 => ?_) (fun h3 => ?_))
      · replace h := h.1 h3
        refine Wp.steps 1 (pc' := 21) (lv' := [some (.ref 0), some (.int x1), some (.int x2)]) (st' := [.int (-1)]) (I' := I1) (J' := J1) rfl ?_
        exact Wp.ret rfl h
      · replace h := h.2 h3
        refine Wp.steps 10 (pc' := 42) (lv' := [some (.ref 0), some (.int x1), some (.int x2)]) (st' := [.int x2, .int x1, .int (I1 1 10), .int (I1 1 9), .ref 1]) (I' := I1) (J' := J1) rfl ?_
        refine Wp.call (M' := Bx_maySlide) (as := [.ref 1, .int (I1 1 9), .int (I1 1 10), .int x1, .int x2]) (rest := []) rfl (CI.use h (fun v2 I2 J2 h => ?_))
        refine Wp.eqs (pc' := 45) (st' := [.int v2]) rfl rfl ?_
        refine Wp.steps 1 (pc' := if v2 = 0 then 48 else 51) (lv' := [some (.ref 0), some (.int x1), some (.int x2)]) (st' := []) (I' := I2) (J' := J2) rfl (Wp.ite (fun h4 => ?_) (fun h4 => ?_))
        · replace h := h.1 h4
          refine Wp.steps 1 (pc' := 50) (lv' := [some (.ref 0), some (.int x1), some (.int x2)]) (st' := [.int (-2)]) (I' := I2) (J' := J2) rfl ?_
          exact Wp.ret rfl h
        · replace h := h.2 h4
          refine Wp.steps 2 (pc' := 55) (lv' := [some (.ref 0), some (.int x1), some (.int x2)]) (st' := [.ref 1]) (I' := I2) (J' := J2) rfl ?_
          refine Wp.call (M' := Bx_remember) (as := [.ref 1]) (rest := []) rfl (CV.use h (fun I3 J3 h => ?_))
          refine Wp.eqs (pc' := 58) (st' := []) rfl rfl ?_
          refine Wp.steps 9 (pc' := 75) (lv' := [some (.ref 0), some (.int x1), some (.int x2)]) (st' := [.int x2, .int x1, .int (I3 1 9), .ref 1, .ref 1]) (I' := I3) (J' := J3) rfl ?_
          refine Wp.call (M' := Bx_behind) (as := [.ref 1, .int (I3 1 9), .int x1, .int x2]) (rest := [.ref 1]) rfl (CI.use h (fun v4 I4 J4 h => ?_))
          refine Wp.eqs (pc' := 78) (st' := [.int v4, .ref 1]) rfl rfl ?_
          refine Wp.steps 4 (pc' := 88) (lv' := [some (.ref 0), some (.int x1), some (.int x2)]) (st' := [.int v4]) (I' := (up2 I4 1 9 v4)) (J' := J4) rfl ?_
          exact Wp.ret rfl h
theorem v_Sb_type_0_0 {d : Nat} {Q : Post} {I : I2} {J : J2} {x1 : Int32} (h : (x1 < 32 → Q (some (.int (-1))) I J) ∧ (¬ (x1 < 32) → (126 < x1 → Q (some (.int (-1))) I J) ∧ (¬ (126 < x1) → CI d Tp_write [.ref 31, .int (i2c x1)] I J (fun v1 I1 J1 => Q (some (.int v1)) I1 J1)))) : Wp d Sb_type Q 0 [some (.ref 0), some (.int x1)] [] I J := by
  refine Wp.steps 2 (pc' := 3) (lv' := [some (.ref 0), some (.int x1)]) (st' := [.int 32, .int x1]) (I' := I) (J' := J) rfl ?_
  refine Wp.steps 1 (pc' := if x1 < 32 then 12 else 6) (lv' := [some (.ref 0), some (.int x1)]) (st' := []) (I' := I) (J' := J) rfl (Wp.ite (fun h1 => ?_) (fun h1 => ?_))
  · replace h := h.1 h1
    refine Wp.steps 1 (pc' := 13) (lv' := [some (.ref 0), some (.int x1)]) (st' := [.int (-1)]) (I' := I) (J' := J) rfl ?_
    exact Wp.ret rfl h
  · replace h := h.2 h1
    refine Wp.steps 2 (pc' := 9) (lv' := [some (.ref 0), some (.int x1)]) (st' := [.int 126, .int x1]) (I' := I) (J' := J) rfl ?_
    refine Wp.steps 1 (pc' := if 126 < x1 then 12 else 14) (lv' := [some (.ref 0), some (.int x1)]) (st' := []) (I' := I) (J' := J) rfl (Wp.ite (fun h2 => ?_) (fun h2 => ?_))
    · replace h := h.1 h2
      refine Wp.steps 1 (pc' := 13) (lv' := [some (.ref 0), some (.int x1)]) (st' := [.int (-1)]) (I' := I) (J' := J) rfl ?_
      exact Wp.ret rfl h
    · replace h := h.2 h2
      refine Wp.steps 4 (pc' := 20) (lv' := [some (.ref 0), some (.int x1)]) (st' := [.int (i2c x1), .ref 31]) (I' := I) (J' := J) rfl ?_
      refine Wp.call (M' := Tp_write) (as := [.ref 31, .int (i2c x1)]) (rest := []) rfl (CI.use h (fun v1 I1 J1 h => ?_))
      refine Wp.eqs (pc' := 23) (st' := [.int v1]) rfl rfl ?_
      exact Wp.ret rfl h
theorem v_Sb_box_0_0 {d : Nat} {Q : Post} {I : I2} {J : J2} (h : CI d Tp_read [.ref 31, .ref 21] I J (fun v1 I1 J1 => (v1 < 0 → Q (some (.int v1)) I1 J1) ∧ (¬ (v1 < 0) → CV d Bx_becomes [.ref 1, .ref 21] (up2 I1 21 11 (I1 1 11)) J1 (fun I2 J2 => Q (some (.int v1)) I2 J2)))) : Wp d Sb_box Q 0 [some (.ref 0), none] [] I J := by
  refine Wp.steps 4 (pc' := 8) (lv' := [some (.ref 0), none]) (st' := [.ref 21, .ref 31]) (I' := I) (J' := J) rfl ?_
  refine Wp.call (M' := Tp_read) (as := [.ref 31, .ref 21]) (rest := []) rfl (CI.use h (fun v1 I1 J1 h => ?_))
  refine Wp.eqs (pc' := 11) (st' := [.int v1]) rfl rfl ?_
  refine Wp.steps 2 (pc' := 13) (lv' := [some (.ref 0), some (.int v1)]) (st' := [.int v1]) (I' := I1) (J' := J1) rfl ?_
  refine Wp.steps 1 (pc' := if v1 < 0 then 16 else 18) (lv' := [some (.ref 0), some (.int v1)]) (st' := []) (I' := I1) (J' := J1) rfl (Wp.ite (fun h1 => ?_) (fun h1 => ?_))
  · replace h := h.1 h1
    refine Wp.steps 1 (pc' := 17) (lv' := [some (.ref 0), some (.int v1)]) (st' := [.int v1]) (I' := I1) (J' := J1) rfl ?_
    exact Wp.ret rfl h
  · replace h := h.2 h1
    refine Wp.steps 10 (pc' := 40) (lv' := [some (.ref 0), some (.int v1)]) (st' := [.ref 21, .ref 1]) (I' := (up2 I1 21 11 (I1 1 11))) (J' := J1) rfl ?_
    refine Wp.call (M' := Bx_becomes) (as := [.ref 1, .ref 21]) (rest := []) rfl (CV.use h (fun I2 J2 h => ?_))
    refine Wp.eqs (pc' := 43) (st' := []) rfl rfl ?_
    refine Wp.steps 1 (pc' := 44) (lv' := [some (.ref 0), some (.int v1)]) (st' := [.int v1]) (I' := I2) (J' := J2) rfl ?_
    exact Wp.ret rfl h
theorem v_Sb_at_0_0 {d : Nat} {Q : Post} {I : I2} {J : J2} {x1 : Int32} {x2 : Int32} (h : CI d Bx_hasLock [.ref 1, .int x1] I J (fun v1 I1 J1 => (v1 = 0 → Q (some (.int (-1))) I1 J1) ∧ (¬ (v1 = 0) → (x2 = 0 → vp_in x1 6 ∧ (Q (some (.int (I1 4 (tN x1)))) I1 J1)) ∧ (x2 = 1 → vp_in x1 6 ∧ (Q (some (.int (I1 5 (tN x1)))) I1 J1)) ∧ (x2 = 2 → vp_in x1 6 ∧ (Q (some (.int (I1 6 (tN x1)))) I1 J1)) ∧ (x2 = 3 → vp_in x1 6 ∧ (Q (some (.int (I1 7 (tN x1)))) I1 J1)) ∧ (x2 = 4 → Q (some (.int ((srI (I1 1 10) x1) &&& 1))) I1 J1) ∧ (x2 = 5 → CI d Bx_isMet [.ref 1, .int x1, .int (I1 1 9)] I1 J1 (fun v2 I2 J2 => CI d Sb_bit [.int v2] I2 J2 (fun v3 I3 J3 => Q (some (.int v3)) I3 J3))) ∧ (¬ (x2 = 0) ∧ ¬ (x2 = 1) ∧ ¬ (x2 = 2) ∧ ¬ (x2 = 3) ∧ ¬ (x2 = 4) ∧ ¬ (x2 = 5) → Q (some (.int (-1))) I1 J1)))) : Wp d Sb_at Q 0 [some (.ref 0), some (.int x1), some (.int x2)] [] I J := by
  refine Wp.steps 3 (pc' := 5) (lv' := [some (.ref 0), some (.int x1), some (.int x2)]) (st' := [.int x1, .ref 1]) (I' := I) (J' := J) rfl ?_
  refine Wp.call (M' := Bx_hasLock) (as := [.ref 1, .int x1]) (rest := []) rfl (CI.use h (fun v1 I1 J1 h => ?_))
  refine Wp.eqs (pc' := 8) (st' := [.int v1]) rfl rfl ?_
  refine Wp.steps 1 (pc' := if v1 = 0 then 11 else 13) (lv' := [some (.ref 0), some (.int x1), some (.int x2)]) (st' := []) (I' := I1) (J' := J1) rfl (Wp.ite (fun h1 => ?_) (fun h1 => ?_))
  · replace h := h.1 h1
    refine Wp.steps 1 (pc' := 12) (lv' := [some (.ref 0), some (.int x1), some (.int x2)]) (st' := [.int (-1)]) (I' := I1) (J' := J1) rfl ?_
    exact Wp.ret rfl h
  · replace h := h.2 h1
    refine Wp.steps 1 (pc' := 14) (lv' := [some (.ref 0), some (.int x1), some (.int x2)]) (st' := [.int x2]) (I' := I1) (J' := J1) rfl ?_
    refine Wp.steps 1 (pc' := (if x2 = 0 then 52 else (if x2 = 1 then 62 else (if x2 = 2 then 72 else (if x2 = 3 then 82 else (if x2 = 4 then 92 else (if x2 = 5 then 104 else 123))))))) (lv' := [some (.ref 0), some (.int x1), some (.int x2)]) (st' := []) (I' := I1) (J' := J1) rfl ?_
    refine Wp.ite (fun g0 => ?_) (fun g0 => ?_)
    · replace h := h.1 g0
      refine Wp.steps 4 (pc' := 60) (lv' := [some (.ref 0), some (.int x1), some (.int x2)]) (st' := [.int x1, .ref 4]) (I' := I1) (J' := J1) rfl ?_
      refine Wp.iald rfl rfl h.1 ?_
      replace h := h.2
      exact Wp.ret rfl h
    refine Wp.ite (fun g1 => ?_) (fun g1 => ?_)
    · replace h := h.2.1 g1
      refine Wp.steps 4 (pc' := 70) (lv' := [some (.ref 0), some (.int x1), some (.int x2)]) (st' := [.int x1, .ref 5]) (I' := I1) (J' := J1) rfl ?_
      refine Wp.iald rfl rfl h.1 ?_
      replace h := h.2
      exact Wp.ret rfl h
    refine Wp.ite (fun g2 => ?_) (fun g2 => ?_)
    · replace h := h.2.2.1 g2
      refine Wp.steps 4 (pc' := 80) (lv' := [some (.ref 0), some (.int x1), some (.int x2)]) (st' := [.int x1, .ref 6]) (I' := I1) (J' := J1) rfl ?_
      refine Wp.iald rfl rfl h.1 ?_
      replace h := h.2
      exact Wp.ret rfl h
    refine Wp.ite (fun g3 => ?_) (fun g3 => ?_)
    · replace h := h.2.2.2.1 g3
      refine Wp.steps 4 (pc' := 90) (lv' := [some (.ref 0), some (.int x1), some (.int x2)]) (st' := [.int x1, .ref 7]) (I' := I1) (J' := J1) rfl ?_
      refine Wp.iald rfl rfl h.1 ?_
      replace h := h.2
      exact Wp.ret rfl h
    refine Wp.ite (fun g4 => ?_) (fun g4 => ?_)
    · replace h := h.2.2.2.2.1 g4
      refine Wp.steps 7 (pc' := 103) (lv' := [some (.ref 0), some (.int x1), some (.int x2)]) (st' := [.int ((srI (I1 1 10) x1) &&& 1)]) (I' := I1) (J' := J1) rfl ?_
      exact Wp.ret rfl h
    refine Wp.ite (fun g5 => ?_) (fun g5 => ?_)
    · replace h := h.2.2.2.2.2.1 g5
      refine Wp.steps 6 (pc' := 116) (lv' := [some (.ref 0), some (.int x1), some (.int x2)]) (st' := [.int (I1 1 9), .int x1, .ref 1]) (I' := I1) (J' := J1) rfl ?_
      refine Wp.call (M' := Bx_isMet) (as := [.ref 1, .int x1, .int (I1 1 9)]) (rest := []) rfl (CI.use h (fun v2 I2 J2 h => ?_))
      refine Wp.eqs (pc' := 119) (st' := [.int v2]) rfl rfl ?_
      refine Wp.call (M' := Sb_bit) (as := [.int v2]) (rest := []) rfl (CI.use h (fun v3 I3 J3 h => ?_))
      refine Wp.eqs (pc' := 122) (st' := [.int v3]) rfl rfl ?_
      exact Wp.ret rfl h
    replace h := h.2.2.2.2.2.2 ⟨g0, g1, g2, g3, g4, g5⟩
    refine Wp.steps 1 (pc' := 124) (lv' := [some (.ref 0), some (.int x1), some (.int x2)]) (st' := [.int (-1)]) (I' := I1) (J' := J1) rfl ?_
    exact Wp.ret rfl h
theorem v_Sb_shut_0_0 {d : Nat} {Q : Post} {I : I2} {J : J2} (h : CI d Bx_outSet [.ref 1] I J (fun v1 I1 J1 => CI d Ji_bitCount [.int v1] I1 J1 (fun v2 I2 J2 => (v2 = 0 → Q (some (.int (-2))) I2 J2) ∧ (¬ (v2 = 0) → CV d Bx_remember [.ref 1] I2 J2 (fun I3 J3 => Q (some (.int v2)) (up2 I3 1 9 0) J3))))) : Wp d Sb_shut Q 0 [some (.ref 0), none] [] I J := by
  refine Wp.steps 2 (pc' := 4) (lv' := [some (.ref 0), none]) (st' := [.ref 1]) (I' := I) (J' := J) rfl ?_
  refine Wp.call (M' := Bx_outSet) (as := [.ref 1]) (rest := []) rfl (CI.use h (fun v1 I1 J1 h => ?_))
  refine Wp.eqs (pc' := 7) (st' := [.int v1]) rfl rfl ?_
  refine Wp.call (M' := Ji_bitCount) (as := [.int v1]) (rest := []) rfl (CI.use h (fun v2 I2 J2 h => ?_))
  refine Wp.eqs (pc' := 10) (st' := [.int v2]) rfl rfl ?_
  refine Wp.steps 2 (pc' := 12) (lv' := [some (.ref 0), some (.int v2)]) (st' := [.int v2]) (I' := I2) (J' := J2) rfl ?_
  refine Wp.steps 1 (pc' := if v2 = 0 then 15 else 18) (lv' := [some (.ref 0), some (.int v2)]) (st' := []) (I' := I2) (J' := J2) rfl (Wp.ite (fun h1 => ?_) (fun h1 => ?_))
  · replace h := h.1 h1
    refine Wp.steps 1 (pc' := 17) (lv' := [some (.ref 0), some (.int v2)]) (st' := [.int (-2)]) (I' := I2) (J' := J2) rfl ?_
    exact Wp.ret rfl h
  · replace h := h.2 h1
    refine Wp.steps 2 (pc' := 22) (lv' := [some (.ref 0), some (.int v2)]) (st' := [.ref 1]) (I' := I2) (J' := J2) rfl ?_
    refine Wp.call (M' := Bx_remember) (as := [.ref 1]) (rest := []) rfl (CV.use h (fun I3 J3 h => ?_))
    refine Wp.eqs (pc' := 25) (st' := []) rfl rfl ?_
    refine Wp.steps 5 (pc' := 34) (lv' := [some (.ref 0), some (.int v2)]) (st' := [.int v2]) (I' := (up2 I3 1 9 0)) (J' := J3) rfl ?_
    exact Wp.ret rfl h
theorem v_Sb_file_0_0 {d : Nat} {Q : Post} {I : I2} {J : J2} {x1 : Int32} (h : CI d Bx_hasLock [.ref 1, .int x1] I J (fun v1 I1 J1 => (v1 = 0 → Q (some (.int (-1))) I1 J1) ∧ (¬ (v1 = 0) → (((srI (I1 1 10) x1) &&& 1) = 0 → CV d Bx_remember [.ref 1] I1 J1 (fun I2 J2 => Q (some (.int ((I2 1 10) ||| (slI 1 x1)))) (up2 I2 1 10 ((I2 1 10) ||| (slI 1 x1))) J2)) ∧ (¬ (((srI (I1 1 10) x1) &&& 1) = 0) → Q (some (.int (-2))) I1 J1)))) : Wp d Sb_file Q 0 [some (.ref 0), some (.int x1)] [] I J := by
  refine Wp.steps 3 (pc' := 5) (lv' := [some (.ref 0), some (.int x1)]) (st' := [.int x1, .ref 1]) (I' := I) (J' := J) rfl ?_
  refine Wp.call (M' := Bx_hasLock) (as := [.ref 1, .int x1]) (rest := []) rfl (CI.use h (fun v1 I1 J1 h => ?_))
  refine Wp.eqs (pc' := 8) (st' := [.int v1]) rfl rfl ?_
  refine Wp.steps 1 (pc' := if v1 = 0 then 11 else 13) (lv' := [some (.ref 0), some (.int x1)]) (st' := []) (I' := I1) (J' := J1) rfl (Wp.ite (fun h1 => ?_) (fun h1 => ?_))
  · replace h := h.1 h1
    refine Wp.steps 1 (pc' := 12) (lv' := [some (.ref 0), some (.int x1)]) (st' := [.int (-1)]) (I' := I1) (J' := J1) rfl ?_
    exact Wp.ret rfl h
  · replace h := h.2 h1
    refine Wp.steps 7 (pc' := 24) (lv' := [some (.ref 0), some (.int x1)]) (st' := [.int ((srI (I1 1 10) x1) &&& 1)]) (I' := I1) (J' := J1) rfl ?_
    refine Wp.steps 1 (pc' := if ((srI (I1 1 10) x1) &&& 1) = 0 then 30 else 27) (lv' := [some (.ref 0), some (.int x1)]) (st' := []) (I' := I1) (J' := J1) rfl (Wp.ite (fun h2 => ?_) (fun h2 => ?_))
    · replace h := h.1 h2
      refine Wp.steps 2 (pc' := 34) (lv' := [some (.ref 0), some (.int x1)]) (st' := [.ref 1]) (I' := I1) (J' := J1) rfl ?_
      refine Wp.call (M' := Bx_remember) (as := [.ref 1]) (rest := []) rfl (CV.use h (fun I2 J2 h => ?_))
      refine Wp.eqs (pc' := 37) (st' := []) rfl rfl ?_
      refine Wp.steps 12 (pc' := 59) (lv' := [some (.ref 0), some (.int x1)]) (st' := [.int ((I2 1 10) ||| (slI 1 x1))]) (I' := (up2 I2 1 10 ((I2 1 10) ||| (slI 1 x1)))) (J' := J2) rfl ?_
      exact Wp.ret rfl h
    · replace h := h.2 h2
      refine Wp.steps 1 (pc' := 29) (lv' := [some (.ref 0), some (.int x1)]) (st' := [.int (-2)]) (I' := I1) (J' := J1) rfl ?_
      exact Wp.ret rfl h
theorem v_Sb_bit_0 {d : Nat} {Q : Post} {I : I2} {J : J2} {x0 : Int32} (h : (x0 = 0 → Q (some (.int 0)) I J) ∧ (¬ (x0 = 0) → Q (some (.int 1)) I J)) : Wp d Sb_bit Q 0 [some (.int x0)] [] I J := by
  refine Wp.steps 1 (pc' := 1) (lv' := [some (.int x0)]) (st' := [.int x0]) (I' := I) (J' := J) rfl ?_
  refine Wp.steps 1 (pc' := if x0 = 0 then 8 else 4) (lv' := [some (.int x0)]) (st' := []) (I' := I) (J' := J) rfl (Wp.ite (fun h1 => ?_) (fun h1 => ?_))
  · replace h := h.1 h1
    refine Wp.steps 1 (pc' := 9) (lv' := [some (.int x0)]) (st' := [.int 0]) (I' := I) (J' := J) rfl ?_
    exact Wp.ret rfl h
  · replace h := h.2 h1
    refine Wp.steps 2 (pc' := 9) (lv' := [some (.int x0)]) (st' := [.int 1]) (I' := I) (J' := J) rfl ?_
    exact Wp.ret rfl h
theorem v_Sb_opens_0_0 {d : Nat} {Q : Post} {I : I2} {J : J2} {x1 : Int32} (h : (x1 < (-1) → Q (some (.int (-1))) I J) ∧ (¬ (x1 < (-1)) → ((I 1 2) = 0 → Q (some (.int (-4))) I J) ∧ (¬ ((I 1 2) = 0) → CV d Wk_from [.ref 33, .int (I 1 9), .int (I 1 10)] I J (fun I1 J1 => CI d Wk_firstOpen [.ref 33] I1 J1 (fun v2 I2 J2 => CI d Wk_told [.ref 33, .int v2, .int x1] I2 J2 (fun v3 I3 J3 => Q (some (.int v3)) I3 J3)))))) : Wp d Sb_opens Q 0 [some (.ref 0), some (.int x1)] [] I J := by
  refine Wp.steps 2 (pc' := 2) (lv' := [some (.ref 0), some (.int x1)]) (st' := [.int (-1), .int x1]) (I' := I) (J' := J) rfl ?_
  refine Wp.steps 1 (pc' := if x1 < (-1) then 5 else 7) (lv' := [some (.ref 0), some (.int x1)]) (st' := []) (I' := I) (J' := J) rfl (Wp.ite (fun h1 => ?_) (fun h1 => ?_))
  · replace h := h.1 h1
    refine Wp.steps 1 (pc' := 6) (lv' := [some (.ref 0), some (.int x1)]) (st' := [.int (-1)]) (I' := I) (J' := J) rfl ?_
    exact Wp.ret rfl h
  · replace h := h.2 h1
    refine Wp.steps 3 (pc' := 14) (lv' := [some (.ref 0), some (.int x1)]) (st' := [.int (I 1 2)]) (I' := I) (J' := J) rfl ?_
    refine Wp.steps 1 (pc' := if (I 1 2) = 0 then 17 else 20) (lv' := [some (.ref 0), some (.int x1)]) (st' := []) (I' := I) (J' := J) rfl (Wp.ite (fun h2 => ?_) (fun h2 => ?_))
    · replace h := h.1 h2
      refine Wp.steps 1 (pc' := 19) (lv' := [some (.ref 0), some (.int x1)]) (st' := [.int (-4)]) (I' := I) (J' := J) rfl ?_
      exact Wp.ret rfl h
    · replace h := h.2 h2
      refine Wp.steps 8 (pc' := 38) (lv' := [some (.ref 0), some (.int x1)]) (st' := [.int (I 1 10), .int (I 1 9), .ref 33]) (I' := I) (J' := J) rfl ?_
      refine Wp.call (M' := Wk_from) (as := [.ref 33, .int (I 1 9), .int (I 1 10)]) (rest := []) rfl (CV.use h (fun I1 J1 h => ?_))
      refine Wp.eqs (pc' := 41) (st' := []) rfl rfl ?_
      refine Wp.steps 4 (pc' := 49) (lv' := [some (.ref 0), some (.int x1)]) (st' := [.ref 33, .ref 33]) (I' := I1) (J' := J1) rfl ?_
      refine Wp.call (M' := Wk_firstOpen) (as := [.ref 33]) (rest := [.ref 33]) rfl (CI.use h (fun v2 I2 J2 h => ?_))
      refine Wp.eqs (pc' := 52) (st' := [.int v2, .ref 33]) rfl rfl ?_
      refine Wp.steps 1 (pc' := 53) (lv' := [some (.ref 0), some (.int x1)]) (st' := [.int x1, .int v2, .ref 33]) (I' := I2) (J' := J2) rfl ?_
      refine Wp.call (M' := Wk_told) (as := [.ref 33, .int v2, .int x1]) (rest := []) rfl (CI.use h (fun v3 I3 J3 h => ?_))
      refine Wp.eqs (pc' := 56) (st' := [.int v3]) rfl rfl ?_
      exact Wp.ret rfl h
theorem v_Sb_rows_0_0 {d : Nat} {Q : Post} {I : I2} {J : J2} (h : ((I 1 2) = 0 → Q (some (.int 0)) I J) ∧ (¬ ((I 1 2) = 0) → CV d Wk_from [.ref 33, .int (I 1 9), .int (I 1 10)] I J (fun I1 J1 => CI d Wk_rowsToOpen [.ref 33] I1 J1 (fun v2 I2 J2 => Q (some (.int v2)) I2 J2)))) : Wp d Sb_rows Q 0 [some (.ref 0)] [] I J := by
  refine Wp.steps 3 (pc' := 7) (lv' := [some (.ref 0)]) (st' := [.int (I 1 2)]) (I' := I) (J' := J) rfl ?_
  refine Wp.steps 1 (pc' := if (I 1 2) = 0 then 10 else 12) (lv' := [some (.ref 0)]) (st' := []) (I' := I) (J' := J) rfl (Wp.ite (fun h1 => ?_) (fun h1 => ?_))
  · replace h := h.1 h1
    refine Wp.steps 1 (pc' := 11) (lv' := [some (.ref 0)]) (st' := [.int 0]) (I' := I) (J' := J) rfl ?_
    exact Wp.ret rfl h
  · replace h := h.2 h1
    refine Wp.steps 8 (pc' := 30) (lv' := [some (.ref 0)]) (st' := [.int (I 1 10), .int (I 1 9), .ref 33]) (I' := I) (J' := J) rfl ?_
    refine Wp.call (M' := Wk_from) (as := [.ref 33, .int (I 1 9), .int (I 1 10)]) (rest := []) rfl (CV.use h (fun I1 J1 h => ?_))
    refine Wp.eqs (pc' := 33) (st' := []) rfl rfl ?_
    refine Wp.steps 2 (pc' := 37) (lv' := [some (.ref 0)]) (st' := [.ref 33]) (I' := I1) (J' := J1) rfl ?_
    refine Wp.call (M' := Wk_rowsToOpen) (as := [.ref 33]) (rest := []) rfl (CI.use h (fun v2 I2 J2 h => ?_))
    refine Wp.eqs (pc' := 40) (st' := [.int v2]) rfl rfl ?_
    exact Wp.ret rfl h
theorem v_Sb_reach_0_0 {d : Nat} {Q : Post} {I : I2} {J : J2} {x1 : Int32} (h : (x1 < 0 → Q (some (.int (-1))) I J) ∧ (¬ (x1 < 0) → (2 < x1 → Q (some (.int (-1))) I J) ∧ (¬ (2 < x1) → ((I 1 2) = 0 → (x1 = 1 → Q (some (.int 0)) I J) ∧ (¬ (x1 = 1) → Q (some (.int 1)) I J)) ∧ (¬ ((I 1 2) = 0) → CV d Wk_from [.ref 33, .int (I 1 9), .int (I 1 10)] I J (fun I1 J1 => (x1 = 0 → Q (some (.int (I1 33 9))) I1 J1) ∧ (¬ (x1 = 0) → (x1 = 1 → CI d Wk_farthest [.ref 33] I1 J1 (fun v2 I2 J2 => Q (some (.int v2)) I2 J2)) ∧ (¬ (x1 = 1) → CI d Eg_dead [.ref 41] I1 J1 (fun v2 I2 J2 => Q (some (.int v2)) I2 J2)))))))) : Wp d Sb_reach Q 0 [some (.ref 0), some (.int x1)] [] I J := by
  refine Wp.steps 1 (pc' := 1) (lv' := [some (.ref 0), some (.int x1)]) (st' := [.int x1]) (I' := I) (J' := J) rfl ?_
  refine Wp.steps 1 (pc' := if x1 < 0 then 9 else 4) (lv' := [some (.ref 0), some (.int x1)]) (st' := []) (I' := I) (J' := J) rfl (Wp.ite (fun h1 => ?_) (fun h1 => ?_))
  · replace h := h.1 h1
    refine Wp.steps 1 (pc' := 10) (lv' := [some (.ref 0), some (.int x1)]) (st' := [.int (-1)]) (I' := I) (J' := J) rfl ?_
    exact Wp.ret rfl h
  · replace h := h.2 h1
    refine Wp.steps 2 (pc' := 6) (lv' := [some (.ref 0), some (.int x1)]) (st' := [.int 2, .int x1]) (I' := I) (J' := J) rfl ?_
    refine Wp.steps 1 (pc' := if 2 < x1 then 9 else 11) (lv' := [some (.ref 0), some (.int x1)]) (st' := []) (I' := I) (J' := J) rfl (Wp.ite (fun h2 => ?_) (fun h2 => ?_))
    · replace h := h.1 h2
      refine Wp.steps 1 (pc' := 10) (lv' := [some (.ref 0), some (.int x1)]) (st' := [.int (-1)]) (I' := I) (J' := J) rfl ?_
      exact Wp.ret rfl h
    · replace h := h.2 h2
      refine Wp.steps 3 (pc' := 18) (lv' := [some (.ref 0), some (.int x1)]) (st' := [.int (I 1 2)]) (I' := I) (J' := J) rfl ?_
      refine Wp.steps 1 (pc' := if (I 1 2) = 0 then 21 else 32) (lv' := [some (.ref 0), some (.int x1)]) (st' := []) (I' := I) (J' := J) rfl (Wp.ite (fun h3 => ?_) (fun h3 => ?_))
      · replace h := h.1 h3
        refine Wp.steps 2 (pc' := 23) (lv' := [some (.ref 0), some (.int x1)]) (st' := [.int 1, .int x1]) (I' := I) (J' := J) rfl ?_
        refine Wp.steps 1 (pc' := if x1 = 1 then 26 else 30) (lv' := [some (.ref 0), some (.int x1)]) (st' := []) (I' := I) (J' := J) rfl (Wp.ite (fun h4 => ?_) (fun h4 => ?_))
        · replace h := h.1 h4
          refine Wp.steps 2 (pc' := 31) (lv' := [some (.ref 0), some (.int x1)]) (st' := [.int 0]) (I' := I) (J' := J) rfl ?_
          exact Wp.ret rfl h
        · replace h := h.2 h4
          refine Wp.steps 1 (pc' := 31) (lv' := [some (.ref 0), some (.int x1)]) (st' := [.int 1]) (I' := I) (J' := J) rfl ?_
          exact Wp.ret rfl h
      · replace h := h.2 h3
        refine Wp.steps 8 (pc' := 50) (lv' := [some (.ref 0), some (.int x1)]) (st' := [.int (I 1 10), .int (I 1 9), .ref 33]) (I' := I) (J' := J) rfl ?_
        refine Wp.call (M' := Wk_from) (as := [.ref 33, .int (I 1 9), .int (I 1 10)]) (rest := []) rfl (CV.use h (fun I1 J1 h => ?_))
        refine Wp.eqs (pc' := 53) (st' := []) rfl rfl ?_
        refine Wp.steps 1 (pc' := 54) (lv' := [some (.ref 0), some (.int x1)]) (st' := [.int x1]) (I' := I1) (J' := J1) rfl ?_
        refine Wp.steps 1 (pc' := if x1 = 0 then 57 else 65) (lv' := [some (.ref 0), some (.int x1)]) (st' := []) (I' := I1) (J' := J1) rfl (Wp.ite (fun h4 => ?_) (fun h4 => ?_))
        · replace h := h.1 h4
          refine Wp.steps 3 (pc' := 64) (lv' := [some (.ref 0), some (.int x1)]) (st' := [.int (I1 33 9)]) (I' := I1) (J' := J1) rfl ?_
          exact Wp.ret rfl h
        · replace h := h.2 h4
          refine Wp.steps 2 (pc' := 67) (lv' := [some (.ref 0), some (.int x1)]) (st' := [.int 1, .int x1]) (I' := I1) (J' := J1) rfl ?_
          refine Wp.steps 1 (pc' := if x1 = 1 then 70 else 80) (lv' := [some (.ref 0), some (.int x1)]) (st' := []) (I' := I1) (J' := J1) rfl (Wp.ite (fun h5 => ?_) (fun h5 => ?_))
          · replace h := h.1 h5
            refine Wp.steps 2 (pc' := 74) (lv' := [some (.ref 0), some (.int x1)]) (st' := [.ref 33]) (I' := I1) (J' := J1) rfl ?_
            refine Wp.call (M' := Wk_farthest) (as := [.ref 33]) (rest := []) rfl (CI.use h (fun v2 I2 J2 h => ?_))
            refine Wp.eqs (pc' := 77) (st' := [.int v2]) rfl rfl ?_
            refine Wp.steps 1 (pc' := 87) (lv' := [some (.ref 0), some (.int x1)]) (st' := [.int v2]) (I' := I2) (J' := J2) rfl ?_
            exact Wp.ret rfl h
          · replace h := h.2 h5
            refine Wp.steps 2 (pc' := 84) (lv' := [some (.ref 0), some (.int x1)]) (st' := [.ref 41]) (I' := I1) (J' := J1) rfl ?_
            refine Wp.call (M' := Eg_dead) (as := [.ref 41]) (rest := []) rfl (CI.use h (fun v2 I2 J2 h => ?_))
            refine Wp.eqs (pc' := 87) (st' := [.int v2]) rfl rfl ?_
            exact Wp.ret rfl h
theorem v_Sb_sheet_0_0 {d : Nat} {Q : Post} {I : I2} {J : J2} {x1 : Int32} {x2 : Int32} {x3 : Int32} (h : CI d Sb_isSheet [.int x1] I J (fun v1 I1 J1 => (v1 = 0 → Q (some (.int (-1))) I1 J1) ∧ (¬ (v1 = 0) → CI d Sb_isLane [.int x2] I1 J1 (fun v2 I2 J2 => (v2 = 0 → Q (some (.int (-1))) I2 J2) ∧ (¬ (v2 = 0) → (24 < x3 → Q (some (.int (-1))) I2 J2) ∧ (¬ (24 < x3) → (x3 < 0 → Q (some (.int (-14))) I2 J2) ∧ (¬ (x3 < 0) → vp_in x1 4 ∧ (x1 = 0 → CV d Sh_begin [.ref 49, .int x2, .int x3] I2 J2 (fun I3 J3 => Q (some (.int x3)) I3 J3)) ∧ (x1 = 1 → CV d Sh_begin [.ref 51, .int x2, .int x3] I2 J2 (fun I3 J3 => Q (some (.int x3)) I3 J3)) ∧ (x1 = 2 → CV d Sh_begin [.ref 53, .int x2, .int x3] I2 J2 (fun I3 J3 => Q (some (.int x3)) I3 J3)) ∧ (x1 = 3 → CV d Sh_begin [.ref 55, .int x2, .int x3] I2 J2 (fun I3 J3 => Q (some (.int x3)) I3 J3))))))))) : Wp d Sb_sheet Q 0 [some (.ref 0), some (.int x1), some (.int x2), some (.int x3)] [] I J := by
  refine Wp.steps 1 (pc' := 1) (lv' := [some (.ref 0), some (.int x1), some (.int x2), some (.int x3)]) (st' := [.int x1]) (I' := I) (J' := J) rfl ?_
  refine Wp.call (M' := Sb_isSheet) (as := [.int x1]) (rest := []) rfl (CI.use h (fun v1 I1 J1 h => ?_))
  refine Wp.eqs (pc' := 4) (st' := [.int v1]) rfl rfl ?_
  refine Wp.steps 1 (pc' := if v1 = 0 then 20 else 7) (lv' := [some (.ref 0), some (.int x1), some (.int x2), some (.int x3)]) (st' := []) (I' := I1) (J' := J1) rfl (Wp.ite (fun h1 => ?_) (fun h1 => ?_))
  · replace h := h.1 h1
    refine Wp.steps 1 (pc' := 21) (lv' := [some (.ref 0), some (.int x1), some (.int x2), some (.int x3)]) (st' := [.int (-1)]) (I' := I1) (J' := J1) rfl ?_
    exact Wp.ret rfl h
  · replace h := h.2 h1
    refine Wp.steps 1 (pc' := 8) (lv' := [some (.ref 0), some (.int x1), some (.int x2), some (.int x3)]) (st' := [.int x2]) (I' := I1) (J' := J1) rfl ?_
    refine Wp.call (M' := Sb_isLane) (as := [.int x2]) (rest := []) rfl (CI.use h (fun v2 I2 J2 h => ?_))
    refine Wp.eqs (pc' := 11) (st' := [.int v2]) rfl rfl ?_
    refine Wp.steps 1 (pc' := if v2 = 0 then 20 else 14) (lv' := [some (.ref 0), some (.int x1), some (.int x2), some (.int x3)]) (st' := []) (I' := I2) (J' := J2) rfl (Wp.ite (fun h2 => ?_) (fun h2 => ?_))
    · replace h := h.1 h2
      refine Wp.steps 1 (pc' := 21) (lv' := [some (.ref 0), some (.int x1), some (.int x2), some (.int x3)]) (st' := [.int (-1)]) (I' := I2) (J' := J2) rfl ?_
      exact Wp.ret rfl h
    · replace h := h.2 h2
      refine Wp.steps 2 (pc' := 17) (lv' := [some (.ref 0), some (.int x1), some (.int x2), some (.int x3)]) (st' := [.int 24, .int x3]) (I' := I2) (J' := J2) rfl ?_
      refine Wp.steps 1 (pc' := if 24 < x3 then 20 else 22) (lv' := [some (.ref 0), some (.int x1), some (.int x2), some (.int x3)]) (st' := []) (I' := I2) (J' := J2) rfl (Wp.ite (fun h3 => ?_) (fun h3 => ?_))
      · replace h := h.1 h3
        refine Wp.steps 1 (pc' := 21) (lv' := [some (.ref 0), some (.int x1), some (.int x2), some (.int x3)]) (st' := [.int (-1)]) (I' := I2) (J' := J2) rfl ?_
        exact Wp.ret rfl h
      · replace h := h.2 h3
        refine Wp.steps 1 (pc' := 23) (lv' := [some (.ref 0), some (.int x1), some (.int x2), some (.int x3)]) (st' := [.int x3]) (I' := I2) (J' := J2) rfl ?_
        refine Wp.steps 1 (pc' := if x3 < 0 then 26 else 29) (lv' := [some (.ref 0), some (.int x1), some (.int x2), some (.int x3)]) (st' := []) (I' := I2) (J' := J2) rfl (Wp.ite (fun h4 => ?_) (fun h4 => ?_))
        · replace h := h.1 h4
          refine Wp.steps 1 (pc' := 28) (lv' := [some (.ref 0), some (.int x1), some (.int x2), some (.int x3)]) (st' := [.int (-14)]) (I' := I2) (J' := J2) rfl ?_
          exact Wp.ret rfl h
        · replace h := h.2 h4
          refine Wp.steps 3 (pc' := 34) (lv' := [some (.ref 0), some (.int x1), some (.int x2), some (.int x3)]) (st' := [.int x1, .ref 48]) (I' := I2) (J' := J2) rfl ?_
          rcases vp_4 h.1 with g5 | g5 | g5 | g5
          · replace h := h.2.1 g5
            refine Wp.steps 1 (pc' := 35) (lv' := [some (.ref 0), some (.int x1), some (.int x2), some (.int x3)]) (st' := [.ref 49]) (I' := I2) (J' := J2) (by rw [g5]; rfl) ?_
            refine Wp.steps 2 (pc' := 37) (lv' := [some (.ref 0), some (.int x1), some (.int x2), some (.int x3)]) (st' := [.int x3, .int x2, .ref 49]) (I' := I2) (J' := J2) rfl ?_
            refine Wp.call (M' := Sh_begin) (as := [.ref 49, .int x2, .int x3]) (rest := []) rfl (CV.use h (fun I3 J3 h => ?_))
            refine Wp.eqs (pc' := 40) (st' := []) rfl rfl ?_
            refine Wp.steps 1 (pc' := 41) (lv' := [some (.ref 0), some (.int x1), some (.int x2), some (.int x3)]) (st' := [.int x3]) (I' := I3) (J' := J3) rfl ?_
            exact Wp.ret rfl h
          · replace h := h.2.2.1 g5
            refine Wp.steps 1 (pc' := 35) (lv' := [some (.ref 0), some (.int x1), some (.int x2), some (.int x3)]) (st' := [.ref 51]) (I' := I2) (J' := J2) (by rw [g5]; rfl) ?_
            refine Wp.steps 2 (pc' := 37) (lv' := [some (.ref 0), some (.int x1), some (.int x2), some (.int x3)]) (st' := [.int x3, .int x2, .ref 51]) (I' := I2) (J' := J2) rfl ?_
            refine Wp.call (M' := Sh_begin) (as := [.ref 51, .int x2, .int x3]) (rest := []) rfl (CV.use h (fun I3 J3 h => ?_))
            refine Wp.eqs (pc' := 40) (st' := []) rfl rfl ?_
            refine Wp.steps 1 (pc' := 41) (lv' := [some (.ref 0), some (.int x1), some (.int x2), some (.int x3)]) (st' := [.int x3]) (I' := I3) (J' := J3) rfl ?_
            exact Wp.ret rfl h
          · replace h := h.2.2.2.1 g5
            refine Wp.steps 1 (pc' := 35) (lv' := [some (.ref 0), some (.int x1), some (.int x2), some (.int x3)]) (st' := [.ref 53]) (I' := I2) (J' := J2) (by rw [g5]; rfl) ?_
            refine Wp.steps 2 (pc' := 37) (lv' := [some (.ref 0), some (.int x1), some (.int x2), some (.int x3)]) (st' := [.int x3, .int x2, .ref 53]) (I' := I2) (J' := J2) rfl ?_
            refine Wp.call (M' := Sh_begin) (as := [.ref 53, .int x2, .int x3]) (rest := []) rfl (CV.use h (fun I3 J3 h => ?_))
            refine Wp.eqs (pc' := 40) (st' := []) rfl rfl ?_
            refine Wp.steps 1 (pc' := 41) (lv' := [some (.ref 0), some (.int x1), some (.int x2), some (.int x3)]) (st' := [.int x3]) (I' := I3) (J' := J3) rfl ?_
            exact Wp.ret rfl h
          · replace h := h.2.2.2.2 g5
            refine Wp.steps 1 (pc' := 35) (lv' := [some (.ref 0), some (.int x1), some (.int x2), some (.int x3)]) (st' := [.ref 55]) (I' := I2) (J' := J2) (by rw [g5]; rfl) ?_
            refine Wp.steps 2 (pc' := 37) (lv' := [some (.ref 0), some (.int x1), some (.int x2), some (.int x3)]) (st' := [.int x3, .int x2, .ref 55]) (I' := I2) (J' := J2) rfl ?_
            refine Wp.call (M' := Sh_begin) (as := [.ref 55, .int x2, .int x3]) (rest := []) rfl (CV.use h (fun I3 J3 h => ?_))
            refine Wp.eqs (pc' := 40) (st' := []) rfl rfl ?_
            refine Wp.steps 1 (pc' := 41) (lv' := [some (.ref 0), some (.int x1), some (.int x2), some (.int x3)]) (st' := [.int x3]) (I' := I3) (J' := J3) rfl ?_
            exact Wp.ret rfl h
theorem v_Sb_item_0_0 {d : Nat} {Q : Post} {I : I2} {J : J2} {x1 : Int32} {x2 : Int32} {x3 : Int32} {x4 : Int64} (h : CI d Sb_isSheet [.int x1] I J (fun v1 I1 J1 => (v1 = 0 → Q (some (.int (-1))) I1 J1) ∧ (¬ (v1 = 0) → CI d Sb_isLane [.int x2] I1 J1 (fun v2 I2 J2 => (v2 = 0 → Q (some (.int (-1))) I2 J2) ∧ (¬ (v2 = 0) → vp_in x1 4 ∧ (x1 = 0 → CI d Sh_fault [.ref 49, .int x2, .int x3, .int 1] I2 J2 (fun v3 I3 J3 => (v3 = 0 → CV d Sh_put [.ref 49, .int x3, .long x4] I3 J3 (fun I4 J4 => Q (some (.int 1)) I4 J4)) ∧ (¬ (v3 = 0) → Q (some (.int v3)) I3 J3))) ∧ (x1 = 1 → CI d Sh_fault [.ref 51, .int x2, .int x3, .int 1] I2 J2 (fun v3 I3 J3 => (v3 = 0 → CV d Sh_put [.ref 51, .int x3, .long x4] I3 J3 (fun I4 J4 => Q (some (.int 1)) I4 J4)) ∧ (¬ (v3 = 0) → Q (some (.int v3)) I3 J3))) ∧ (x1 = 2 → CI d Sh_fault [.ref 53, .int x2, .int x3, .int 1] I2 J2 (fun v3 I3 J3 => (v3 = 0 → CV d Sh_put [.ref 53, .int x3, .long x4] I3 J3 (fun I4 J4 => Q (some (.int 1)) I4 J4)) ∧ (¬ (v3 = 0) → Q (some (.int v3)) I3 J3))) ∧ (x1 = 3 → CI d Sh_fault [.ref 55, .int x2, .int x3, .int 1] I2 J2 (fun v3 I3 J3 => (v3 = 0 → CV d Sh_put [.ref 55, .int x3, .long x4] I3 J3 (fun I4 J4 => Q (some (.int 1)) I4 J4)) ∧ (¬ (v3 = 0) → Q (some (.int v3)) I3 J3)))))))) : Wp d Sb_item Q 0 [some (.ref 0), some (.int x1), some (.int x2), some (.int x3), some (.long x4), none, none] [] I J := by
  refine Wp.steps 1 (pc' := 1) (lv' := [some (.ref 0), some (.int x1), some (.int x2), some (.int x3), some (.long x4), none, none]) (st' := [.int x1]) (I' := I) (J' := J) rfl ?_
  refine Wp.call (M' := Sb_isSheet) (as := [.int x1]) (rest := []) rfl (CI.use h (fun v1 I1 J1 h => ?_))
  refine Wp.eqs (pc' := 4) (st' := [.int v1]) rfl rfl ?_
  refine Wp.steps 1 (pc' := if v1 = 0 then 14 else 7) (lv' := [some (.ref 0), some (.int x1), some (.int x2), some (.int x3), some (.long x4), none, none]) (st' := []) (I' := I1) (J' := J1) rfl (Wp.ite (fun h1 => ?_) (fun h1 => ?_))
  · replace h := h.1 h1
    refine Wp.steps 1 (pc' := 15) (lv' := [some (.ref 0), some (.int x1), some (.int x2), some (.int x3), some (.long x4), none, none]) (st' := [.int (-1)]) (I' := I1) (J' := J1) rfl ?_
    exact Wp.ret rfl h
  · replace h := h.2 h1
    refine Wp.steps 1 (pc' := 8) (lv' := [some (.ref 0), some (.int x1), some (.int x2), some (.int x3), some (.long x4), none, none]) (st' := [.int x2]) (I' := I1) (J' := J1) rfl ?_
    refine Wp.call (M' := Sb_isLane) (as := [.int x2]) (rest := []) rfl (CI.use h (fun v2 I2 J2 h => ?_))
    refine Wp.eqs (pc' := 11) (st' := [.int v2]) rfl rfl ?_
    refine Wp.steps 1 (pc' := if v2 = 0 then 14 else 16) (lv' := [some (.ref 0), some (.int x1), some (.int x2), some (.int x3), some (.long x4), none, none]) (st' := []) (I' := I2) (J' := J2) rfl (Wp.ite (fun h2 => ?_) (fun h2 => ?_))
    · replace h := h.1 h2
      refine Wp.steps 1 (pc' := 15) (lv' := [some (.ref 0), some (.int x1), some (.int x2), some (.int x3), some (.long x4), none, none]) (st' := [.int (-1)]) (I' := I2) (J' := J2) rfl ?_
      exact Wp.ret rfl h
    · replace h := h.2 h2
      refine Wp.steps 3 (pc' := 21) (lv' := [some (.ref 0), some (.int x1), some (.int x2), some (.int x3), some (.long x4), none, none]) (st' := [.int x1, .ref 48]) (I' := I2) (J' := J2) rfl ?_
      rcases vp_4 h.1 with g3 | g3 | g3 | g3
      · replace h := h.2.1 g3
        refine Wp.steps 1 (pc' := 22) (lv' := [some (.ref 0), some (.int x1), some (.int x2), some (.int x3), some (.long x4), none, none]) (st' := [.ref 49]) (I' := I2) (J' := J2) (by rw [g3]; rfl) ?_
        refine Wp.steps 3 (pc' := 25) (lv' := [some (.ref 0), some (.int x1), some (.int x2), some (.int x3), some (.long x4), none, none]) (st' := [.int 1, .int x3, .int x2, .ref 49]) (I' := I2) (J' := J2) rfl ?_
        refine Wp.call (M' := Sh_fault) (as := [.ref 49, .int x2, .int x3, .int 1]) (rest := []) rfl (CI.use h (fun v3 I3 J3 h => ?_))
        refine Wp.eqs (pc' := 28) (st' := [.int v3]) rfl rfl ?_
        refine Wp.steps 2 (pc' := 32) (lv' := [some (.ref 0), some (.int x1), some (.int x2), some (.int x3), some (.long x4), none, some (.int v3)]) (st' := [.int v3]) (I' := I3) (J' := J3) rfl ?_
        refine Wp.steps 1 (pc' := if v3 = 0 then 38 else 35) (lv' := [some (.ref 0), some (.int x1), some (.int x2), some (.int x3), some (.long x4), none, some (.int v3)]) (st' := []) (I' := I3) (J' := J3) rfl (Wp.ite (fun h4 => ?_) (fun h4 => ?_))
        · replace h := h.1 h4
          refine Wp.steps 3 (pc' := 43) (lv' := [some (.ref 0), some (.int x1), some (.int x2), some (.int x3), some (.long x4), none, some (.int v3)]) (st' := [.int x1, .ref 48]) (I' := I3) (J' := J3) rfl ?_
          refine Wp.steps 1 (pc' := 44) (lv' := [some (.ref 0), some (.int x1), some (.int x2), some (.int x3), some (.long x4), none, some (.int v3)]) (st' := [.ref 49]) (I' := I3) (J' := J3) (by rw [g3]; rfl) ?_
          refine Wp.steps 2 (pc' := 47) (lv' := [some (.ref 0), some (.int x1), some (.int x2), some (.int x3), some (.long x4), none, some (.int v3)]) (st' := [.long x4, .int x3, .ref 49]) (I' := I3) (J' := J3) rfl ?_
          refine Wp.call (M' := Sh_put) (as := [.ref 49, .int x3, .long x4]) (rest := []) rfl (CV.use h (fun I4 J4 h => ?_))
          refine Wp.eqs (pc' := 50) (st' := []) rfl rfl ?_
          refine Wp.steps 1 (pc' := 51) (lv' := [some (.ref 0), some (.int x1), some (.int x2), some (.int x3), some (.long x4), none, some (.int v3)]) (st' := [.int 1]) (I' := I4) (J' := J4) rfl ?_
          exact Wp.ret rfl h
        · replace h := h.2 h4
          refine Wp.steps 1 (pc' := 37) (lv' := [some (.ref 0), some (.int x1), some (.int x2), some (.int x3), some (.long x4), none, some (.int v3)]) (st' := [.int v3]) (I' := I3) (J' := J3) rfl ?_
          exact Wp.ret rfl h
      · replace h := h.2.2.1 g3
        refine Wp.steps 1 (pc' := 22) (lv' := [some (.ref 0), some (.int x1), some (.int x2), some (.int x3), some (.long x4), none, none]) (st' := [.ref 51]) (I' := I2) (J' := J2) (by rw [g3]; rfl) ?_
        refine Wp.steps 3 (pc' := 25) (lv' := [some (.ref 0), some (.int x1), some (.int x2), some (.int x3), some (.long x4), none, none]) (st' := [.int 1, .int x3, .int x2, .ref 51]) (I' := I2) (J' := J2) rfl ?_
        refine Wp.call (M' := Sh_fault) (as := [.ref 51, .int x2, .int x3, .int 1]) (rest := []) rfl (CI.use h (fun v3 I3 J3 h => ?_))
        refine Wp.eqs (pc' := 28) (st' := [.int v3]) rfl rfl ?_
        refine Wp.steps 2 (pc' := 32) (lv' := [some (.ref 0), some (.int x1), some (.int x2), some (.int x3), some (.long x4), none, some (.int v3)]) (st' := [.int v3]) (I' := I3) (J' := J3) rfl ?_
        refine Wp.steps 1 (pc' := if v3 = 0 then 38 else 35) (lv' := [some (.ref 0), some (.int x1), some (.int x2), some (.int x3), some (.long x4), none, some (.int v3)]) (st' := []) (I' := I3) (J' := J3) rfl (Wp.ite (fun h4 => ?_) (fun h4 => ?_))
        · replace h := h.1 h4
          refine Wp.steps 3 (pc' := 43) (lv' := [some (.ref 0), some (.int x1), some (.int x2), some (.int x3), some (.long x4), none, some (.int v3)]) (st' := [.int x1, .ref 48]) (I' := I3) (J' := J3) rfl ?_
          refine Wp.steps 1 (pc' := 44) (lv' := [some (.ref 0), some (.int x1), some (.int x2), some (.int x3), some (.long x4), none, some (.int v3)]) (st' := [.ref 51]) (I' := I3) (J' := J3) (by rw [g3]; rfl) ?_
          refine Wp.steps 2 (pc' := 47) (lv' := [some (.ref 0), some (.int x1), some (.int x2), some (.int x3), some (.long x4), none, some (.int v3)]) (st' := [.long x4, .int x3, .ref 51]) (I' := I3) (J' := J3) rfl ?_
          refine Wp.call (M' := Sh_put) (as := [.ref 51, .int x3, .long x4]) (rest := []) rfl (CV.use h (fun I4 J4 h => ?_))
          refine Wp.eqs (pc' := 50) (st' := []) rfl rfl ?_
          refine Wp.steps 1 (pc' := 51) (lv' := [some (.ref 0), some (.int x1), some (.int x2), some (.int x3), some (.long x4), none, some (.int v3)]) (st' := [.int 1]) (I' := I4) (J' := J4) rfl ?_
          exact Wp.ret rfl h
        · replace h := h.2 h4
          refine Wp.steps 1 (pc' := 37) (lv' := [some (.ref 0), some (.int x1), some (.int x2), some (.int x3), some (.long x4), none, some (.int v3)]) (st' := [.int v3]) (I' := I3) (J' := J3) rfl ?_
          exact Wp.ret rfl h
      · replace h := h.2.2.2.1 g3
        refine Wp.steps 1 (pc' := 22) (lv' := [some (.ref 0), some (.int x1), some (.int x2), some (.int x3), some (.long x4), none, none]) (st' := [.ref 53]) (I' := I2) (J' := J2) (by rw [g3]; rfl) ?_
        refine Wp.steps 3 (pc' := 25) (lv' := [some (.ref 0), some (.int x1), some (.int x2), some (.int x3), some (.long x4), none, none]) (st' := [.int 1, .int x3, .int x2, .ref 53]) (I' := I2) (J' := J2) rfl ?_
        refine Wp.call (M' := Sh_fault) (as := [.ref 53, .int x2, .int x3, .int 1]) (rest := []) rfl (CI.use h (fun v3 I3 J3 h => ?_))
        refine Wp.eqs (pc' := 28) (st' := [.int v3]) rfl rfl ?_
        refine Wp.steps 2 (pc' := 32) (lv' := [some (.ref 0), some (.int x1), some (.int x2), some (.int x3), some (.long x4), none, some (.int v3)]) (st' := [.int v3]) (I' := I3) (J' := J3) rfl ?_
        refine Wp.steps 1 (pc' := if v3 = 0 then 38 else 35) (lv' := [some (.ref 0), some (.int x1), some (.int x2), some (.int x3), some (.long x4), none, some (.int v3)]) (st' := []) (I' := I3) (J' := J3) rfl (Wp.ite (fun h4 => ?_) (fun h4 => ?_))
        · replace h := h.1 h4
          refine Wp.steps 3 (pc' := 43) (lv' := [some (.ref 0), some (.int x1), some (.int x2), some (.int x3), some (.long x4), none, some (.int v3)]) (st' := [.int x1, .ref 48]) (I' := I3) (J' := J3) rfl ?_
          refine Wp.steps 1 (pc' := 44) (lv' := [some (.ref 0), some (.int x1), some (.int x2), some (.int x3), some (.long x4), none, some (.int v3)]) (st' := [.ref 53]) (I' := I3) (J' := J3) (by rw [g3]; rfl) ?_
          refine Wp.steps 2 (pc' := 47) (lv' := [some (.ref 0), some (.int x1), some (.int x2), some (.int x3), some (.long x4), none, some (.int v3)]) (st' := [.long x4, .int x3, .ref 53]) (I' := I3) (J' := J3) rfl ?_
          refine Wp.call (M' := Sh_put) (as := [.ref 53, .int x3, .long x4]) (rest := []) rfl (CV.use h (fun I4 J4 h => ?_))
          refine Wp.eqs (pc' := 50) (st' := []) rfl rfl ?_
          refine Wp.steps 1 (pc' := 51) (lv' := [some (.ref 0), some (.int x1), some (.int x2), some (.int x3), some (.long x4), none, some (.int v3)]) (st' := [.int 1]) (I' := I4) (J' := J4) rfl ?_
          exact Wp.ret rfl h
        · replace h := h.2 h4
          refine Wp.steps 1 (pc' := 37) (lv' := [some (.ref 0), some (.int x1), some (.int x2), some (.int x3), some (.long x4), none, some (.int v3)]) (st' := [.int v3]) (I' := I3) (J' := J3) rfl ?_
          exact Wp.ret rfl h
      · replace h := h.2.2.2.2 g3
        refine Wp.steps 1 (pc' := 22) (lv' := [some (.ref 0), some (.int x1), some (.int x2), some (.int x3), some (.long x4), none, none]) (st' := [.ref 55]) (I' := I2) (J' := J2) (by rw [g3]; rfl) ?_
        refine Wp.steps 3 (pc' := 25) (lv' := [some (.ref 0), some (.int x1), some (.int x2), some (.int x3), some (.long x4), none, none]) (st' := [.int 1, .int x3, .int x2, .ref 55]) (I' := I2) (J' := J2) rfl ?_
        refine Wp.call (M' := Sh_fault) (as := [.ref 55, .int x2, .int x3, .int 1]) (rest := []) rfl (CI.use h (fun v3 I3 J3 h => ?_))
        refine Wp.eqs (pc' := 28) (st' := [.int v3]) rfl rfl ?_
        refine Wp.steps 2 (pc' := 32) (lv' := [some (.ref 0), some (.int x1), some (.int x2), some (.int x3), some (.long x4), none, some (.int v3)]) (st' := [.int v3]) (I' := I3) (J' := J3) rfl ?_
        refine Wp.steps 1 (pc' := if v3 = 0 then 38 else 35) (lv' := [some (.ref 0), some (.int x1), some (.int x2), some (.int x3), some (.long x4), none, some (.int v3)]) (st' := []) (I' := I3) (J' := J3) rfl (Wp.ite (fun h4 => ?_) (fun h4 => ?_))
        · replace h := h.1 h4
          refine Wp.steps 3 (pc' := 43) (lv' := [some (.ref 0), some (.int x1), some (.int x2), some (.int x3), some (.long x4), none, some (.int v3)]) (st' := [.int x1, .ref 48]) (I' := I3) (J' := J3) rfl ?_
          refine Wp.steps 1 (pc' := 44) (lv' := [some (.ref 0), some (.int x1), some (.int x2), some (.int x3), some (.long x4), none, some (.int v3)]) (st' := [.ref 55]) (I' := I3) (J' := J3) (by rw [g3]; rfl) ?_
          refine Wp.steps 2 (pc' := 47) (lv' := [some (.ref 0), some (.int x1), some (.int x2), some (.int x3), some (.long x4), none, some (.int v3)]) (st' := [.long x4, .int x3, .ref 55]) (I' := I3) (J' := J3) rfl ?_
          refine Wp.call (M' := Sh_put) (as := [.ref 55, .int x3, .long x4]) (rest := []) rfl (CV.use h (fun I4 J4 h => ?_))
          refine Wp.eqs (pc' := 50) (st' := []) rfl rfl ?_
          refine Wp.steps 1 (pc' := 51) (lv' := [some (.ref 0), some (.int x1), some (.int x2), some (.int x3), some (.long x4), none, some (.int v3)]) (st' := [.int 1]) (I' := I4) (J' := J4) rfl ?_
          exact Wp.ret rfl h
        · replace h := h.2 h4
          refine Wp.steps 1 (pc' := 37) (lv' := [some (.ref 0), some (.int x1), some (.int x2), some (.int x3), some (.long x4), none, some (.int v3)]) (st' := [.int v3]) (I' := I3) (J' := J3) rfl ?_
          exact Wp.ret rfl h
theorem v_Sb_to_0_0 {d : Nat} {Q : Post} {I : I2} {J : J2} {x1 : Int32} {x2 : Int32} {x3 : Int32} {x4 : Int32} (h : (x4 < (-1) → Q (some (.int (-1))) I J) ∧ (¬ (x4 < (-1)) → ((I 1 2) = 0 → Q (some (.int (-1))) I J) ∧ (¬ ((I 1 2) = 0) → CI d Sb_isSheet [.int x1] I J (fun v1 I1 J1 => (v1 = 0 → Q (some (.int (-1))) I1 J1) ∧ (¬ (v1 = 0) → CI d Sb_isLane [.int x2] I1 J1 (fun v2 I2 J2 => (v2 = 0 → Q (some (.int (-1))) I2 J2) ∧ (¬ (v2 = 0) → vp_in x1 4 ∧ (x1 = 0 → CI d Sh_fault [.ref 49, .int x2, .int x3, .int (I2 1 2)] I2 J2 (fun v3 I3 J3 => (v3 = 0 → CI d Bx_stateOf [.ref 1, .ref 49, .int x3] I3 J3 (fun v4 I4 J4 => (v4 < 0 → Q (some (.int (-2))) I4 J4) ∧ (¬ (v4 < 0) → CV d Wk_from [.ref 33, .int (I4 1 9), .int (I4 1 10)] I4 J4 (fun I5 J5 => CI d Wk_told [.ref 33, .int v4, .int x4] I5 J5 (fun v6 I6 J6 => Q (some (.int v6)) I6 J6))))) ∧ (¬ (v3 = 0) → Q (some (.int v3)) I3 J3))) ∧ (x1 = 1 → CI d Sh_fault [.ref 51, .int x2, .int x3, .int (I2 1 2)] I2 J2 (fun v3 I3 J3 => (v3 = 0 → CI d Bx_stateOf [.ref 1, .ref 51, .int x3] I3 J3 (fun v4 I4 J4 => (v4 < 0 → Q (some (.int (-2))) I4 J4) ∧ (¬ (v4 < 0) → CV d Wk_from [.ref 33, .int (I4 1 9), .int (I4 1 10)] I4 J4 (fun I5 J5 => CI d Wk_told [.ref 33, .int v4, .int x4] I5 J5 (fun v6 I6 J6 => Q (some (.int v6)) I6 J6))))) ∧ (¬ (v3 = 0) → Q (some (.int v3)) I3 J3))) ∧ (x1 = 2 → CI d Sh_fault [.ref 53, .int x2, .int x3, .int (I2 1 2)] I2 J2 (fun v3 I3 J3 => (v3 = 0 → CI d Bx_stateOf [.ref 1, .ref 53, .int x3] I3 J3 (fun v4 I4 J4 => (v4 < 0 → Q (some (.int (-2))) I4 J4) ∧ (¬ (v4 < 0) → CV d Wk_from [.ref 33, .int (I4 1 9), .int (I4 1 10)] I4 J4 (fun I5 J5 => CI d Wk_told [.ref 33, .int v4, .int x4] I5 J5 (fun v6 I6 J6 => Q (some (.int v6)) I6 J6))))) ∧ (¬ (v3 = 0) → Q (some (.int v3)) I3 J3))) ∧ (x1 = 3 → CI d Sh_fault [.ref 55, .int x2, .int x3, .int (I2 1 2)] I2 J2 (fun v3 I3 J3 => (v3 = 0 → CI d Bx_stateOf [.ref 1, .ref 55, .int x3] I3 J3 (fun v4 I4 J4 => (v4 < 0 → Q (some (.int (-2))) I4 J4) ∧ (¬ (v4 < 0) → CV d Wk_from [.ref 33, .int (I4 1 9), .int (I4 1 10)] I4 J4 (fun I5 J5 => CI d Wk_told [.ref 33, .int v4, .int x4] I5 J5 (fun v6 I6 J6 => Q (some (.int v6)) I6 J6))))) ∧ (¬ (v3 = 0) → Q (some (.int v3)) I3 J3)))))))))) : Wp d Sb_to Q 0 [some (.ref 0), some (.int x1), some (.int x2), some (.int x3), some (.int x4), none, none] [] I J := by
  refine Wp.steps 2 (pc' := 3) (lv' := [some (.ref 0), some (.int x1), some (.int x2), some (.int x3), some (.int x4), none, none]) (st' := [.int (-1), .int x4]) (I' := I) (J' := J) rfl ?_
  refine Wp.steps 1 (pc' := if x4 < (-1) then 30 else 6) (lv' := [some (.ref 0), some (.int x1), some (.int x2), some (.int x3), some (.int x4), none, none]) (st' := []) (I' := I) (J' := J) rfl (Wp.ite (fun h1 => ?_) (fun h1 => ?_))
  · replace h := h.1 h1
    refine Wp.steps 1 (pc' := 31) (lv' := [some (.ref 0), some (.int x1), some (.int x2), some (.int x3), some (.int x4), none, none]) (st' := [.int (-1)]) (I' := I) (J' := J) rfl ?_
    exact Wp.ret rfl h
  · replace h := h.2 h1
    refine Wp.steps 3 (pc' := 13) (lv' := [some (.ref 0), some (.int x1), some (.int x2), some (.int x3), some (.int x4), none, none]) (st' := [.int (I 1 2)]) (I' := I) (J' := J) rfl ?_
    refine Wp.steps 1 (pc' := if (I 1 2) = 0 then 30 else 16) (lv' := [some (.ref 0), some (.int x1), some (.int x2), some (.int x3), some (.int x4), none, none]) (st' := []) (I' := I) (J' := J) rfl (Wp.ite (fun h2 => ?_) (fun h2 => ?_))
    · replace h := h.1 h2
      refine Wp.steps 1 (pc' := 31) (lv' := [some (.ref 0), some (.int x1), some (.int x2), some (.int x3), some (.int x4), none, none]) (st' := [.int (-1)]) (I' := I) (J' := J) rfl ?_
      exact Wp.ret rfl h
    · replace h := h.2 h2
      refine Wp.steps 1 (pc' := 17) (lv' := [some (.ref 0), some (.int x1), some (.int x2), some (.int x3), some (.int x4), none, none]) (st' := [.int x1]) (I' := I) (J' := J) rfl ?_
      refine Wp.call (M' := Sb_isSheet) (as := [.int x1]) (rest := []) rfl (CI.use h (fun v1 I1 J1 h => ?_))
      refine Wp.eqs (pc' := 20) (st' := [.int v1]) rfl rfl ?_
      refine Wp.steps 1 (pc' := if v1 = 0 then 30 else 23) (lv' := [some (.ref 0), some (.int x1), some (.int x2), some (.int x3), some (.int x4), none, none]) (st' := []) (I' := I1) (J' := J1) rfl (Wp.ite (fun h3 => ?_) (fun h3 => ?_))
      · replace h := h.1 h3
        refine Wp.steps 1 (pc' := 31) (lv' := [some (.ref 0), some (.int x1), some (.int x2), some (.int x3), some (.int x4), none, none]) (st' := [.int (-1)]) (I' := I1) (J' := J1) rfl ?_
        exact Wp.ret rfl h
      · replace h := h.2 h3
        refine Wp.steps 1 (pc' := 24) (lv' := [some (.ref 0), some (.int x1), some (.int x2), some (.int x3), some (.int x4), none, none]) (st' := [.int x2]) (I' := I1) (J' := J1) rfl ?_
        refine Wp.call (M' := Sb_isLane) (as := [.int x2]) (rest := []) rfl (CI.use h (fun v2 I2 J2 h => ?_))
        refine Wp.eqs (pc' := 27) (st' := [.int v2]) rfl rfl ?_
        refine Wp.steps 1 (pc' := if v2 = 0 then 30 else 32) (lv' := [some (.ref 0), some (.int x1), some (.int x2), some (.int x3), some (.int x4), none, none]) (st' := []) (I' := I2) (J' := J2) rfl (Wp.ite (fun h4 => ?_) (fun h4 => ?_))
        · replace h := h.1 h4
          refine Wp.steps 1 (pc' := 31) (lv' := [some (.ref 0), some (.int x1), some (.int x2), some (.int x3), some (.int x4), none, none]) (st' := [.int (-1)]) (I' := I2) (J' := J2) rfl ?_
          exact Wp.ret rfl h
        · replace h := h.2 h4
          refine Wp.steps 3 (pc' := 37) (lv' := [some (.ref 0), some (.int x1), some (.int x2), some (.int x3), some (.int x4), none, none]) (st' := [.int x1, .ref 48]) (I' := I2) (J' := J2) rfl ?_
          rcases vp_4 h.1 with g5 | g5 | g5 | g5
          · replace h := h.2.1 g5
            refine Wp.steps 1 (pc' := 38) (lv' := [some (.ref 0), some (.int x1), some (.int x2), some (.int x3), some (.int x4), none, none]) (st' := [.ref 49]) (I' := I2) (J' := J2) (by rw [g5]; rfl) ?_
            refine Wp.steps 5 (pc' := 47) (lv' := [some (.ref 0), some (.int x1), some (.int x2), some (.int x3), some (.int x4), none, none]) (st' := [.int (I2 1 2), .int x3, .int x2, .ref 49]) (I' := I2) (J' := J2) rfl ?_
            refine Wp.call (M' := Sh_fault) (as := [.ref 49, .int x2, .int x3, .int (I2 1 2)]) (rest := []) rfl (CI.use h (fun v3 I3 J3 h => ?_))
            refine Wp.eqs (pc' := 50) (st' := [.int v3]) rfl rfl ?_
            refine Wp.steps 2 (pc' := 54) (lv' := [some (.ref 0), some (.int x1), some (.int x2), some (.int x3), some (.int x4), some (.int v3), none]) (st' := [.int v3]) (I' := I3) (J' := J3) rfl ?_
            refine Wp.steps 1 (pc' := if v3 = 0 then 60 else 57) (lv' := [some (.ref 0), some (.int x1), some (.int x2), some (.int x3), some (.int x4), some (.int v3), none]) (st' := []) (I' := I3) (J' := J3) rfl (Wp.ite (fun h6 => ?_) (fun h6 => ?_))
            · replace h := h.1 h6
              refine Wp.steps 5 (pc' := 69) (lv' := [some (.ref 0), some (.int x1), some (.int x2), some (.int x3), some (.int x4), some (.int v3), none]) (st' := [.int x1, .ref 48, .ref 1]) (I' := I3) (J' := J3) rfl ?_
              refine Wp.steps 1 (pc' := 70) (lv' := [some (.ref 0), some (.int x1), some (.int x2), some (.int x3), some (.int x4), some (.int v3), none]) (st' := [.ref 49, .ref 1]) (I' := I3) (J' := J3) (by rw [g5]; rfl) ?_
              refine Wp.steps 1 (pc' := 71) (lv' := [some (.ref 0), some (.int x1), some (.int x2), some (.int x3), some (.int x4), some (.int v3), none]) (st' := [.int x3, .ref 49, .ref 1]) (I' := I3) (J' := J3) rfl ?_
              refine Wp.call (M' := Bx_stateOf) (as := [.ref 1, .ref 49, .int x3]) (rest := []) rfl (CI.use h (fun v4 I4 J4 h => ?_))
              refine Wp.eqs (pc' := 74) (st' := [.int v4]) rfl rfl ?_
              refine Wp.steps 2 (pc' := 78) (lv' := [some (.ref 0), some (.int x1), some (.int x2), some (.int x3), some (.int x4), some (.int v3), some (.int v4)]) (st' := [.int v4]) (I' := I4) (J' := J4) rfl ?_
              refine Wp.steps 1 (pc' := if v4 < 0 then 81 else 84) (lv' := [some (.ref 0), some (.int x1), some (.int x2), some (.int x3), some (.int x4), some (.int v3), some (.int v4)]) (st' := []) (I' := I4) (J' := J4) rfl (Wp.ite (fun h7 => ?_) (fun h7 => ?_))
              · replace h := h.1 h7
                refine Wp.steps 1 (pc' := 83) (lv' := [some (.ref 0), some (.int x1), some (.int x2), some (.int x3), some (.int x4), some (.int v3), some (.int v4)]) (st' := [.int (-2)]) (I' := I4) (J' := J4) rfl ?_
                exact Wp.ret rfl h
              · replace h := h.2 h7
                refine Wp.steps 8 (pc' := 102) (lv' := [some (.ref 0), some (.int x1), some (.int x2), some (.int x3), some (.int x4), some (.int v3), some (.int v4)]) (st' := [.int (I4 1 10), .int (I4 1 9), .ref 33]) (I' := I4) (J' := J4) rfl ?_
                refine Wp.call (M' := Wk_from) (as := [.ref 33, .int (I4 1 9), .int (I4 1 10)]) (rest := []) rfl (CV.use h (fun I5 J5 h => ?_))
                refine Wp.eqs (pc' := 105) (st' := []) rfl rfl ?_
                refine Wp.steps 4 (pc' := 113) (lv' := [some (.ref 0), some (.int x1), some (.int x2), some (.int x3), some (.int x4), some (.int v3), some (.int v4)]) (st' := [.int x4, .int v4, .ref 33]) (I' := I5) (J' := J5) rfl ?_
                refine Wp.call (M' := Wk_told) (as := [.ref 33, .int v4, .int x4]) (rest := []) rfl (CI.use h (fun v6 I6 J6 h => ?_))
                refine Wp.eqs (pc' := 116) (st' := [.int v6]) rfl rfl ?_
                exact Wp.ret rfl h
            · replace h := h.2 h6
              refine Wp.steps 1 (pc' := 59) (lv' := [some (.ref 0), some (.int x1), some (.int x2), some (.int x3), some (.int x4), some (.int v3), none]) (st' := [.int v3]) (I' := I3) (J' := J3) rfl ?_
              exact Wp.ret rfl h
          · replace h := h.2.2.1 g5
            refine Wp.steps 1 (pc' := 38) (lv' := [some (.ref 0), some (.int x1), some (.int x2), some (.int x3), some (.int x4), none, none]) (st' := [.ref 51]) (I' := I2) (J' := J2) (by rw [g5]; rfl) ?_
            refine Wp.steps 5 (pc' := 47) (lv' := [some (.ref 0), some (.int x1), some (.int x2), some (.int x3), some (.int x4), none, none]) (st' := [.int (I2 1 2), .int x3, .int x2, .ref 51]) (I' := I2) (J' := J2) rfl ?_
            refine Wp.call (M' := Sh_fault) (as := [.ref 51, .int x2, .int x3, .int (I2 1 2)]) (rest := []) rfl (CI.use h (fun v3 I3 J3 h => ?_))
            refine Wp.eqs (pc' := 50) (st' := [.int v3]) rfl rfl ?_
            refine Wp.steps 2 (pc' := 54) (lv' := [some (.ref 0), some (.int x1), some (.int x2), some (.int x3), some (.int x4), some (.int v3), none]) (st' := [.int v3]) (I' := I3) (J' := J3) rfl ?_
            refine Wp.steps 1 (pc' := if v3 = 0 then 60 else 57) (lv' := [some (.ref 0), some (.int x1), some (.int x2), some (.int x3), some (.int x4), some (.int v3), none]) (st' := []) (I' := I3) (J' := J3) rfl (Wp.ite (fun h6 => ?_) (fun h6 => ?_))
            · replace h := h.1 h6
              refine Wp.steps 5 (pc' := 69) (lv' := [some (.ref 0), some (.int x1), some (.int x2), some (.int x3), some (.int x4), some (.int v3), none]) (st' := [.int x1, .ref 48, .ref 1]) (I' := I3) (J' := J3) rfl ?_
              refine Wp.steps 1 (pc' := 70) (lv' := [some (.ref 0), some (.int x1), some (.int x2), some (.int x3), some (.int x4), some (.int v3), none]) (st' := [.ref 51, .ref 1]) (I' := I3) (J' := J3) (by rw [g5]; rfl) ?_
              refine Wp.steps 1 (pc' := 71) (lv' := [some (.ref 0), some (.int x1), some (.int x2), some (.int x3), some (.int x4), some (.int v3), none]) (st' := [.int x3, .ref 51, .ref 1]) (I' := I3) (J' := J3) rfl ?_
              refine Wp.call (M' := Bx_stateOf) (as := [.ref 1, .ref 51, .int x3]) (rest := []) rfl (CI.use h (fun v4 I4 J4 h => ?_))
              refine Wp.eqs (pc' := 74) (st' := [.int v4]) rfl rfl ?_
              refine Wp.steps 2 (pc' := 78) (lv' := [some (.ref 0), some (.int x1), some (.int x2), some (.int x3), some (.int x4), some (.int v3), some (.int v4)]) (st' := [.int v4]) (I' := I4) (J' := J4) rfl ?_
              refine Wp.steps 1 (pc' := if v4 < 0 then 81 else 84) (lv' := [some (.ref 0), some (.int x1), some (.int x2), some (.int x3), some (.int x4), some (.int v3), some (.int v4)]) (st' := []) (I' := I4) (J' := J4) rfl (Wp.ite (fun h7 => ?_) (fun h7 => ?_))
              · replace h := h.1 h7
                refine Wp.steps 1 (pc' := 83) (lv' := [some (.ref 0), some (.int x1), some (.int x2), some (.int x3), some (.int x4), some (.int v3), some (.int v4)]) (st' := [.int (-2)]) (I' := I4) (J' := J4) rfl ?_
                exact Wp.ret rfl h
              · replace h := h.2 h7
                refine Wp.steps 8 (pc' := 102) (lv' := [some (.ref 0), some (.int x1), some (.int x2), some (.int x3), some (.int x4), some (.int v3), some (.int v4)]) (st' := [.int (I4 1 10), .int (I4 1 9), .ref 33]) (I' := I4) (J' := J4) rfl ?_
                refine Wp.call (M' := Wk_from) (as := [.ref 33, .int (I4 1 9), .int (I4 1 10)]) (rest := []) rfl (CV.use h (fun I5 J5 h => ?_))
                refine Wp.eqs (pc' := 105) (st' := []) rfl rfl ?_
                refine Wp.steps 4 (pc' := 113) (lv' := [some (.ref 0), some (.int x1), some (.int x2), some (.int x3), some (.int x4), some (.int v3), some (.int v4)]) (st' := [.int x4, .int v4, .ref 33]) (I' := I5) (J' := J5) rfl ?_
                refine Wp.call (M' := Wk_told) (as := [.ref 33, .int v4, .int x4]) (rest := []) rfl (CI.use h (fun v6 I6 J6 h => ?_))
                refine Wp.eqs (pc' := 116) (st' := [.int v6]) rfl rfl ?_
                exact Wp.ret rfl h
            · replace h := h.2 h6
              refine Wp.steps 1 (pc' := 59) (lv' := [some (.ref 0), some (.int x1), some (.int x2), some (.int x3), some (.int x4), some (.int v3), none]) (st' := [.int v3]) (I' := I3) (J' := J3) rfl ?_
              exact Wp.ret rfl h
          · replace h := h.2.2.2.1 g5
            refine Wp.steps 1 (pc' := 38) (lv' := [some (.ref 0), some (.int x1), some (.int x2), some (.int x3), some (.int x4), none, none]) (st' := [.ref 53]) (I' := I2) (J' := J2) (by rw [g5]; rfl) ?_
            refine Wp.steps 5 (pc' := 47) (lv' := [some (.ref 0), some (.int x1), some (.int x2), some (.int x3), some (.int x4), none, none]) (st' := [.int (I2 1 2), .int x3, .int x2, .ref 53]) (I' := I2) (J' := J2) rfl ?_
            refine Wp.call (M' := Sh_fault) (as := [.ref 53, .int x2, .int x3, .int (I2 1 2)]) (rest := []) rfl (CI.use h (fun v3 I3 J3 h => ?_))
            refine Wp.eqs (pc' := 50) (st' := [.int v3]) rfl rfl ?_
            refine Wp.steps 2 (pc' := 54) (lv' := [some (.ref 0), some (.int x1), some (.int x2), some (.int x3), some (.int x4), some (.int v3), none]) (st' := [.int v3]) (I' := I3) (J' := J3) rfl ?_
            refine Wp.steps 1 (pc' := if v3 = 0 then 60 else 57) (lv' := [some (.ref 0), some (.int x1), some (.int x2), some (.int x3), some (.int x4), some (.int v3), none]) (st' := []) (I' := I3) (J' := J3) rfl (Wp.ite (fun h6 => ?_) (fun h6 => ?_))
            · replace h := h.1 h6
              refine Wp.steps 5 (pc' := 69) (lv' := [some (.ref 0), some (.int x1), some (.int x2), some (.int x3), some (.int x4), some (.int v3), none]) (st' := [.int x1, .ref 48, .ref 1]) (I' := I3) (J' := J3) rfl ?_
              refine Wp.steps 1 (pc' := 70) (lv' := [some (.ref 0), some (.int x1), some (.int x2), some (.int x3), some (.int x4), some (.int v3), none]) (st' := [.ref 53, .ref 1]) (I' := I3) (J' := J3) (by rw [g5]; rfl) ?_
              refine Wp.steps 1 (pc' := 71) (lv' := [some (.ref 0), some (.int x1), some (.int x2), some (.int x3), some (.int x4), some (.int v3), none]) (st' := [.int x3, .ref 53, .ref 1]) (I' := I3) (J' := J3) rfl ?_
              refine Wp.call (M' := Bx_stateOf) (as := [.ref 1, .ref 53, .int x3]) (rest := []) rfl (CI.use h (fun v4 I4 J4 h => ?_))
              refine Wp.eqs (pc' := 74) (st' := [.int v4]) rfl rfl ?_
              refine Wp.steps 2 (pc' := 78) (lv' := [some (.ref 0), some (.int x1), some (.int x2), some (.int x3), some (.int x4), some (.int v3), some (.int v4)]) (st' := [.int v4]) (I' := I4) (J' := J4) rfl ?_
              refine Wp.steps 1 (pc' := if v4 < 0 then 81 else 84) (lv' := [some (.ref 0), some (.int x1), some (.int x2), some (.int x3), some (.int x4), some (.int v3), some (.int v4)]) (st' := []) (I' := I4) (J' := J4) rfl (Wp.ite (fun h7 => ?_) (fun h7 => ?_))
              · replace h := h.1 h7
                refine Wp.steps 1 (pc' := 83) (lv' := [some (.ref 0), some (.int x1), some (.int x2), some (.int x3), some (.int x4), some (.int v3), some (.int v4)]) (st' := [.int (-2)]) (I' := I4) (J' := J4) rfl ?_
                exact Wp.ret rfl h
              · replace h := h.2 h7
                refine Wp.steps 8 (pc' := 102) (lv' := [some (.ref 0), some (.int x1), some (.int x2), some (.int x3), some (.int x4), some (.int v3), some (.int v4)]) (st' := [.int (I4 1 10), .int (I4 1 9), .ref 33]) (I' := I4) (J' := J4) rfl ?_
                refine Wp.call (M' := Wk_from) (as := [.ref 33, .int (I4 1 9), .int (I4 1 10)]) (rest := []) rfl (CV.use h (fun I5 J5 h => ?_))
                refine Wp.eqs (pc' := 105) (st' := []) rfl rfl ?_
                refine Wp.steps 4 (pc' := 113) (lv' := [some (.ref 0), some (.int x1), some (.int x2), some (.int x3), some (.int x4), some (.int v3), some (.int v4)]) (st' := [.int x4, .int v4, .ref 33]) (I' := I5) (J' := J5) rfl ?_
                refine Wp.call (M' := Wk_told) (as := [.ref 33, .int v4, .int x4]) (rest := []) rfl (CI.use h (fun v6 I6 J6 h => ?_))
                refine Wp.eqs (pc' := 116) (st' := [.int v6]) rfl rfl ?_
                exact Wp.ret rfl h
            · replace h := h.2 h6
              refine Wp.steps 1 (pc' := 59) (lv' := [some (.ref 0), some (.int x1), some (.int x2), some (.int x3), some (.int x4), some (.int v3), none]) (st' := [.int v3]) (I' := I3) (J' := J3) rfl ?_
              exact Wp.ret rfl h
          · replace h := h.2.2.2.2 g5
            refine Wp.steps 1 (pc' := 38) (lv' := [some (.ref 0), some (.int x1), some (.int x2), some (.int x3), some (.int x4), none, none]) (st' := [.ref 55]) (I' := I2) (J' := J2) (by rw [g5]; rfl) ?_
            refine Wp.steps 5 (pc' := 47) (lv' := [some (.ref 0), some (.int x1), some (.int x2), some (.int x3), some (.int x4), none, none]) (st' := [.int (I2 1 2), .int x3, .int x2, .ref 55]) (I' := I2) (J' := J2) rfl ?_
            refine Wp.call (M' := Sh_fault) (as := [.ref 55, .int x2, .int x3, .int (I2 1 2)]) (rest := []) rfl (CI.use h (fun v3 I3 J3 h => ?_))
            refine Wp.eqs (pc' := 50) (st' := [.int v3]) rfl rfl ?_
            refine Wp.steps 2 (pc' := 54) (lv' := [some (.ref 0), some (.int x1), some (.int x2), some (.int x3), some (.int x4), some (.int v3), none]) (st' := [.int v3]) (I' := I3) (J' := J3) rfl ?_
            refine Wp.steps 1 (pc' := if v3 = 0 then 60 else 57) (lv' := [some (.ref 0), some (.int x1), some (.int x2), some (.int x3), some (.int x4), some (.int v3), none]) (st' := []) (I' := I3) (J' := J3) rfl (Wp.ite (fun h6 => ?_) (fun h6 => ?_))
            · replace h := h.1 h6
              refine Wp.steps 5 (pc' := 69) (lv' := [some (.ref 0), some (.int x1), some (.int x2), some (.int x3), some (.int x4), some (.int v3), none]) (st' := [.int x1, .ref 48, .ref 1]) (I' := I3) (J' := J3) rfl ?_
              refine Wp.steps 1 (pc' := 70) (lv' := [some (.ref 0), some (.int x1), some (.int x2), some (.int x3), some (.int x4), some (.int v3), none]) (st' := [.ref 55, .ref 1]) (I' := I3) (J' := J3) (by rw [g5]; rfl) ?_
              refine Wp.steps 1 (pc' := 71) (lv' := [some (.ref 0), some (.int x1), some (.int x2), some (.int x3), some (.int x4), some (.int v3), none]) (st' := [.int x3, .ref 55, .ref 1]) (I' := I3) (J' := J3) rfl ?_
              refine Wp.call (M' := Bx_stateOf) (as := [.ref 1, .ref 55, .int x3]) (rest := []) rfl (CI.use h (fun v4 I4 J4 h => ?_))
              refine Wp.eqs (pc' := 74) (st' := [.int v4]) rfl rfl ?_
              refine Wp.steps 2 (pc' := 78) (lv' := [some (.ref 0), some (.int x1), some (.int x2), some (.int x3), some (.int x4), some (.int v3), some (.int v4)]) (st' := [.int v4]) (I' := I4) (J' := J4) rfl ?_
              refine Wp.steps 1 (pc' := if v4 < 0 then 81 else 84) (lv' := [some (.ref 0), some (.int x1), some (.int x2), some (.int x3), some (.int x4), some (.int v3), some (.int v4)]) (st' := []) (I' := I4) (J' := J4) rfl (Wp.ite (fun h7 => ?_) (fun h7 => ?_))
              · replace h := h.1 h7
                refine Wp.steps 1 (pc' := 83) (lv' := [some (.ref 0), some (.int x1), some (.int x2), some (.int x3), some (.int x4), some (.int v3), some (.int v4)]) (st' := [.int (-2)]) (I' := I4) (J' := J4) rfl ?_
                exact Wp.ret rfl h
              · replace h := h.2 h7
                refine Wp.steps 8 (pc' := 102) (lv' := [some (.ref 0), some (.int x1), some (.int x2), some (.int x3), some (.int x4), some (.int v3), some (.int v4)]) (st' := [.int (I4 1 10), .int (I4 1 9), .ref 33]) (I' := I4) (J' := J4) rfl ?_
                refine Wp.call (M' := Wk_from) (as := [.ref 33, .int (I4 1 9), .int (I4 1 10)]) (rest := []) rfl (CV.use h (fun I5 J5 h => ?_))
                refine Wp.eqs (pc' := 105) (st' := []) rfl rfl ?_
                refine Wp.steps 4 (pc' := 113) (lv' := [some (.ref 0), some (.int x1), some (.int x2), some (.int x3), some (.int x4), some (.int v3), some (.int v4)]) (st' := [.int x4, .int v4, .ref 33]) (I' := I5) (J' := J5) rfl ?_
                refine Wp.call (M' := Wk_told) (as := [.ref 33, .int v4, .int x4]) (rest := []) rfl (CI.use h (fun v6 I6 J6 h => ?_))
                refine Wp.eqs (pc' := 116) (st' := [.int v6]) rfl rfl ?_
                exact Wp.ret rfl h
            · replace h := h.2 h6
              refine Wp.steps 1 (pc' := 59) (lv' := [some (.ref 0), some (.int x1), some (.int x2), some (.int x3), some (.int x4), some (.int v3), none]) (st' := [.int v3]) (I' := I3) (J' := J3) rfl ?_
              exact Wp.ret rfl h
theorem v_Sb_drop_0_0 {d : Nat} {Q : Post} {I : I2} {J : J2} {x1 : Int32} (h : CI d Sb_isSheet [.int x1] I J (fun v1 I1 J1 => (v1 = 0 → Q (some (.int (-1))) I1 J1) ∧ (¬ (v1 = 0) → vp_in x1 4 ∧ (x1 = 0 → ((I1 49 0) = 0 → Q (some (.int (-11))) I1 J1) ∧ (¬ ((I1 49 0) = 0) → CI d Sh_end [.ref 49] I1 J1 (fun v2 I2 J2 => Q (some (.int v2)) I2 J2))) ∧ (x1 = 1 → ((I1 51 0) = 0 → Q (some (.int (-11))) I1 J1) ∧ (¬ ((I1 51 0) = 0) → CI d Sh_end [.ref 51] I1 J1 (fun v2 I2 J2 => Q (some (.int v2)) I2 J2))) ∧ (x1 = 2 → ((I1 53 0) = 0 → Q (some (.int (-11))) I1 J1) ∧ (¬ ((I1 53 0) = 0) → CI d Sh_end [.ref 53] I1 J1 (fun v2 I2 J2 => Q (some (.int v2)) I2 J2))) ∧ (x1 = 3 → ((I1 55 0) = 0 → Q (some (.int (-11))) I1 J1) ∧ (¬ ((I1 55 0) = 0) → CI d Sh_end [.ref 55] I1 J1 (fun v2 I2 J2 => Q (some (.int v2)) I2 J2)))))) : Wp d Sb_drop Q 0 [some (.ref 0), some (.int x1)] [] I J := by
  refine Wp.steps 1 (pc' := 1) (lv' := [some (.ref 0), some (.int x1)]) (st' := [.int x1]) (I' := I) (J' := J) rfl ?_
  refine Wp.call (M' := Sb_isSheet) (as := [.int x1]) (rest := []) rfl (CI.use h (fun v1 I1 J1 h => ?_))
  refine Wp.eqs (pc' := 4) (st' := [.int v1]) rfl rfl ?_
  refine Wp.steps 1 (pc' := if v1 = 0 then 7 else 9) (lv' := [some (.ref 0), some (.int x1)]) (st' := []) (I' := I1) (J' := J1) rfl (Wp.ite (fun h1 => ?_) (fun h1 => ?_))
  · replace h := h.1 h1
    refine Wp.steps 1 (pc' := 8) (lv' := [some (.ref 0), some (.int x1)]) (st' := [.int (-1)]) (I' := I1) (J' := J1) rfl ?_
    exact Wp.ret rfl h
  · replace h := h.2 h1
    refine Wp.steps 3 (pc' := 14) (lv' := [some (.ref 0), some (.int x1)]) (st' := [.int x1, .ref 48]) (I' := I1) (J' := J1) rfl ?_
    rcases vp_4 h.1 with g2 | g2 | g2 | g2
    · replace h := h.2.1 g2
      refine Wp.steps 1 (pc' := 15) (lv' := [some (.ref 0), some (.int x1)]) (st' := [.ref 49]) (I' := I1) (J' := J1) (by rw [g2]; rfl) ?_
      refine Wp.steps 1 (pc' := 18) (lv' := [some (.ref 0), some (.int x1)]) (st' := [.int (I1 49 0)]) (I' := I1) (J' := J1) rfl ?_
      refine Wp.steps 1 (pc' := if (I1 49 0) = 0 then 33 else 21) (lv' := [some (.ref 0), some (.int x1)]) (st' := []) (I' := I1) (J' := J1) rfl (Wp.ite (fun h3 => ?_) (fun h3 => ?_))
      · replace h := h.1 h3
        refine Wp.steps 1 (pc' := 35) (lv' := [some (.ref 0), some (.int x1)]) (st' := [.int (-11)]) (I' := I1) (J' := J1) rfl ?_
        exact Wp.ret rfl h
      · replace h := h.2 h3
        refine Wp.steps 3 (pc' := 26) (lv' := [some (.ref 0), some (.int x1)]) (st' := [.int x1, .ref 48]) (I' := I1) (J' := J1) rfl ?_
        refine Wp.steps 1 (pc' := 27) (lv' := [some (.ref 0), some (.int x1)]) (st' := [.ref 49]) (I' := I1) (J' := J1) (by rw [g2]; rfl) ?_
        refine Wp.call (M' := Sh_end) (as := [.ref 49]) (rest := []) rfl (CI.use h (fun v2 I2 J2 h => ?_))
        refine Wp.eqs (pc' := 30) (st' := [.int v2]) rfl rfl ?_
        refine Wp.steps 1 (pc' := 35) (lv' := [some (.ref 0), some (.int x1)]) (st' := [.int v2]) (I' := I2) (J' := J2) rfl ?_
        exact Wp.ret rfl h
    · replace h := h.2.2.1 g2
      refine Wp.steps 1 (pc' := 15) (lv' := [some (.ref 0), some (.int x1)]) (st' := [.ref 51]) (I' := I1) (J' := J1) (by rw [g2]; rfl) ?_
      refine Wp.steps 1 (pc' := 18) (lv' := [some (.ref 0), some (.int x1)]) (st' := [.int (I1 51 0)]) (I' := I1) (J' := J1) rfl ?_
      refine Wp.steps 1 (pc' := if (I1 51 0) = 0 then 33 else 21) (lv' := [some (.ref 0), some (.int x1)]) (st' := []) (I' := I1) (J' := J1) rfl (Wp.ite (fun h3 => ?_) (fun h3 => ?_))
      · replace h := h.1 h3
        refine Wp.steps 1 (pc' := 35) (lv' := [some (.ref 0), some (.int x1)]) (st' := [.int (-11)]) (I' := I1) (J' := J1) rfl ?_
        exact Wp.ret rfl h
      · replace h := h.2 h3
        refine Wp.steps 3 (pc' := 26) (lv' := [some (.ref 0), some (.int x1)]) (st' := [.int x1, .ref 48]) (I' := I1) (J' := J1) rfl ?_
        refine Wp.steps 1 (pc' := 27) (lv' := [some (.ref 0), some (.int x1)]) (st' := [.ref 51]) (I' := I1) (J' := J1) (by rw [g2]; rfl) ?_
        refine Wp.call (M' := Sh_end) (as := [.ref 51]) (rest := []) rfl (CI.use h (fun v2 I2 J2 h => ?_))
        refine Wp.eqs (pc' := 30) (st' := [.int v2]) rfl rfl ?_
        refine Wp.steps 1 (pc' := 35) (lv' := [some (.ref 0), some (.int x1)]) (st' := [.int v2]) (I' := I2) (J' := J2) rfl ?_
        exact Wp.ret rfl h
    · replace h := h.2.2.2.1 g2
      refine Wp.steps 1 (pc' := 15) (lv' := [some (.ref 0), some (.int x1)]) (st' := [.ref 53]) (I' := I1) (J' := J1) (by rw [g2]; rfl) ?_
      refine Wp.steps 1 (pc' := 18) (lv' := [some (.ref 0), some (.int x1)]) (st' := [.int (I1 53 0)]) (I' := I1) (J' := J1) rfl ?_
      refine Wp.steps 1 (pc' := if (I1 53 0) = 0 then 33 else 21) (lv' := [some (.ref 0), some (.int x1)]) (st' := []) (I' := I1) (J' := J1) rfl (Wp.ite (fun h3 => ?_) (fun h3 => ?_))
      · replace h := h.1 h3
        refine Wp.steps 1 (pc' := 35) (lv' := [some (.ref 0), some (.int x1)]) (st' := [.int (-11)]) (I' := I1) (J' := J1) rfl ?_
        exact Wp.ret rfl h
      · replace h := h.2 h3
        refine Wp.steps 3 (pc' := 26) (lv' := [some (.ref 0), some (.int x1)]) (st' := [.int x1, .ref 48]) (I' := I1) (J' := J1) rfl ?_
        refine Wp.steps 1 (pc' := 27) (lv' := [some (.ref 0), some (.int x1)]) (st' := [.ref 53]) (I' := I1) (J' := J1) (by rw [g2]; rfl) ?_
        refine Wp.call (M' := Sh_end) (as := [.ref 53]) (rest := []) rfl (CI.use h (fun v2 I2 J2 h => ?_))
        refine Wp.eqs (pc' := 30) (st' := [.int v2]) rfl rfl ?_
        refine Wp.steps 1 (pc' := 35) (lv' := [some (.ref 0), some (.int x1)]) (st' := [.int v2]) (I' := I2) (J' := J2) rfl ?_
        exact Wp.ret rfl h
    · replace h := h.2.2.2.2 g2
      refine Wp.steps 1 (pc' := 15) (lv' := [some (.ref 0), some (.int x1)]) (st' := [.ref 55]) (I' := I1) (J' := J1) (by rw [g2]; rfl) ?_
      refine Wp.steps 1 (pc' := 18) (lv' := [some (.ref 0), some (.int x1)]) (st' := [.int (I1 55 0)]) (I' := I1) (J' := J1) rfl ?_
      refine Wp.steps 1 (pc' := if (I1 55 0) = 0 then 33 else 21) (lv' := [some (.ref 0), some (.int x1)]) (st' := []) (I' := I1) (J' := J1) rfl (Wp.ite (fun h3 => ?_) (fun h3 => ?_))
      · replace h := h.1 h3
        refine Wp.steps 1 (pc' := 35) (lv' := [some (.ref 0), some (.int x1)]) (st' := [.int (-11)]) (I' := I1) (J' := J1) rfl ?_
        exact Wp.ret rfl h
      · replace h := h.2 h3
        refine Wp.steps 3 (pc' := 26) (lv' := [some (.ref 0), some (.int x1)]) (st' := [.int x1, .ref 48]) (I' := I1) (J' := J1) rfl ?_
        refine Wp.steps 1 (pc' := 27) (lv' := [some (.ref 0), some (.int x1)]) (st' := [.ref 55]) (I' := I1) (J' := J1) (by rw [g2]; rfl) ?_
        refine Wp.call (M' := Sh_end) (as := [.ref 55]) (rest := []) rfl (CI.use h (fun v2 I2 J2 h => ?_))
        refine Wp.eqs (pc' := 30) (st' := [.int v2]) rfl rfl ?_
        refine Wp.steps 1 (pc' := 35) (lv' := [some (.ref 0), some (.int x1)]) (st' := [.int v2]) (I' := I2) (J' := J2) rfl ?_
        exact Wp.ret rfl h
