/-! what each way through a method asks (by program): Bx_becomes_11_1, Bx_recall_1, Bx_driftOnce_1, Bx_becomes_1_11, Bx_isOpen_1, Bx_outSet_1, Bx_slidesThatMay_1, Bx_hasPanel_1, Bx_maySlide_1, Bx_remember_1, Bx_behind_1, Bx_becomes_1_21, Bx_hasLock_1, Bx_isMet_1, Bx_stateOf_1_49, Bx_stateOf_1_51, Bx_stateOf_1_53, Bx_stateOf_1_55, Bx_fits_1, Bx_holding_1, Bx_slipsBack_1, Bx_clear_21, Bx_becomes_21_1, Bx_ringLets_1, Bx_forget_21, Bx_addPanel_21, Bx_isState_1, Bx_maySlide_21, Bx_behind_21, Bx_hasPanel_21, Bx_addLock_21, Bx_fits_21 -/
theorem v_Bx_becomes_11_1_0 {d : Nat} {Q : Post} {I : I2} {J : J2} (h : Q none (up2 (up2 (up2 (cpI (cpI (cpI (up2 (up2 (up2 (up2 (up2 (cpI (cpI (cpI (cpI (up2 (cpI (cpI I 12 2 0 0 5) 13 3 0 0 5) 11 2 (I 1 2)) 14 4 0 0 6) 15 5 0 0 6) 16 6 0 0 6) 17 7 0 0 6) 11 7 (I 1 7)) 11 8 (I 1 8)) 11 9 (I 1 9)) 11 10 (I 1 10)) 11 11 (I 1 11)) 18 8 0 0 8) 19 9 0 0 8) 20 10 0 0 8) 11 15 (I 1 15)) 11 16 (I 1 16)) 11 17 1) J) : Wp d Bx_becomes Q 0 [some (.ref 11), some (.ref 1)] [] I J := by
  refine Wp.steps 107 (pc' := 202) (lv' := [some (.ref 11), some (.ref 1)]) (st' := []) (I' := (up2 (up2 (up2 (cpI (cpI (cpI (up2 (up2 (up2 (up2 (up2 (cpI (cpI (cpI (cpI (up2 (cpI (cpI I 12 2 0 0 5) 13 3 0 0 5) 11 2 (I 1 2)) 14 4 0 0 6) 15 5 0 0 6) 16 6 0 0 6) 17 7 0 0 6) 11 7 (I 1 7)) 11 8 (I 1 8)) 11 9 (I 1 9)) 11 10 (I 1 10)) 11 11 (I 1 11)) 18 8 0 0 8) 19 9 0 0 8) 20 10 0 0 8) 11 15 (I 1 15)) 11 16 (I 1 16)) 11 17 1)) (J' := J) rfl ?_
  exact Wp.ret rfl h
theorem v_Bx_recall_1_0 {d : Nat} {Q : Post} {I : I2} {J : J2} (h : ((I 1 15) = 0 → Q (some (.int (-4))) I J) ∧ (¬ ((I 1 15) = 0) → vp_in (rmI (((I 1 16) + 8) - 1) 8) 8 ∧ (vp_in (rmI (((I 1 16) + 8) - 1) 8) 8 ∧ (vp_in (rmI (((I 1 16) + 8) - 1) 8) 8 ∧ (Q (some (.int ((I 1 15) - 1))) (up2 (up2 (up2 (up2 (up2 I 1 16 (rmI (((I 1 16) + 8) - 1) 8)) 1 9 (I 8 (tN (rmI (((I 1 16) + 8) - 1) 8)))) 1 10 (I 9 (tN (rmI (((I 1 16) + 8) - 1) 8)))) 1 11 (I 10 (tN (rmI (((I 1 16) + 8) - 1) 8)))) 1 15 ((I 1 15) - 1)) J))))) : Wp d Bx_recall Q 0 [some (.ref 1)] [] I J := by
  refine Wp.steps 2 (pc' := 4) (lv' := [some (.ref 1)]) (st' := [.int (I 1 15)]) (I' := I) (J' := J) rfl ?_
  refine Wp.steps 1 (pc' := if (I 1 15) = 0 then 7 else 10) (lv' := [some (.ref 1)]) (st' := []) (I' := I) (J' := J) rfl (Wp.ite (fun h1 => ?_) (fun h1 => ?_))
  · replace h := h.1 h1
    refine Wp.steps 1 (pc' := 9) (lv' := [some (.ref 1)]) (st' := [.int (-4)]) (I' := I) (J' := J) rfl ?_
    exact Wp.ret rfl h
  · replace h := h.2 h1
    refine Wp.steps 15 (pc' := 35) (lv' := [some (.ref 1)]) (st' := [.int (rmI (((I 1 16) + 8) - 1) 8), .ref 8, .ref 1]) (I' := (up2 I 1 16 (rmI (((I 1 16) + 8) - 1) 8))) (J' := J) rfl ?_
    refine Wp.iald rfl rfl h.1 ?_
    replace h := h.2
    refine Wp.steps 6 (pc' := 48) (lv' := [some (.ref 1)]) (st' := [.int (rmI (((I 1 16) + 8) - 1) 8), .ref 9, .ref 1]) (I' := (up2 (up2 I 1 16 (rmI (((I 1 16) + 8) - 1) 8)) 1 9 (I 8 (tN (rmI (((I 1 16) + 8) - 1) 8))))) (J' := J) rfl ?_
    refine Wp.iald rfl rfl h.1 ?_
    replace h := h.2
    refine Wp.steps 6 (pc' := 61) (lv' := [some (.ref 1)]) (st' := [.int (rmI (((I 1 16) + 8) - 1) 8), .ref 10, .ref 1]) (I' := (up2 (up2 (up2 I 1 16 (rmI (((I 1 16) + 8) - 1) 8)) 1 9 (I 8 (tN (rmI (((I 1 16) + 8) - 1) 8)))) 1 10 (I 9 (tN (rmI (((I 1 16) + 8) - 1) 8))))) (J' := J) rfl ?_
    refine Wp.iald rfl rfl h.1 ?_
    replace h := h.2
    refine Wp.steps 9 (pc' := 79) (lv' := [some (.ref 1)]) (st' := [.int ((I 1 15) - 1)]) (I' := (up2 (up2 (up2 (up2 (up2 I 1 16 (rmI (((I 1 16) + 8) - 1) 8)) 1 9 (I 8 (tN (rmI (((I 1 16) + 8) - 1) 8)))) 1 10 (I 9 (tN (rmI (((I 1 16) + 8) - 1) 8)))) 1 11 (I 10 (tN (rmI (((I 1 16) + 8) - 1) 8)))) 1 15 ((I 1 15) - 1))) (J' := J) rfl ?_
    exact Wp.ret rfl h
theorem v_Bx_driftOnce_1_0 {d : Nat} {Q : Post} {I : I2} {J : J2} (h : CV d Bx_remember [.ref 1] I J (fun I1 J1 => ((I1 1 2) = 0 → Q none (up2 I1 1 11 ((((I1 1 11) * 1103515245) + 12345) &&& 2147483647)) J1) ∧ (¬ ((I1 1 2) = 0) → ¬ (I1 1 2) = 0 ∧ (CI d Bx_maySlide [.ref 1, .int (I1 1 9), .int (I1 1 10), .int (rmI (((((I1 1 11) * 1103515245) + 12345) &&& 2147483647) / 65536) (I1 1 2)), .int (rmI (((((I1 1 11) * 1103515245) + 12345) &&& 2147483647) / 128) 2)] (up2 I1 1 11 ((((I1 1 11) * 1103515245) + 12345) &&& 2147483647)) J1 (fun v2 I2 J2 => (v2 = 0 → Q none I2 J2) ∧ (¬ (v2 = 0) → CI d Bx_behind [.ref 1, .int (I2 1 9), .int (rmI (((((I1 1 11) * 1103515245) + 12345) &&& 2147483647) / 65536) (I1 1 2)), .int (rmI (((((I1 1 11) * 1103515245) + 12345) &&& 2147483647) / 128) 2)] I2 J2 (fun v3 I3 J3 => Q none (up2 I3 1 9 v3) J3))))))) : Wp d Bx_driftOnce Q 0 [some (.ref 1), none, none] [] I J := by
  refine Wp.steps 1 (pc' := 1) (lv' := [some (.ref 1), none, none]) (st' := [.ref 1]) (I' := I) (J' := J) rfl ?_
  refine Wp.call (M' := Bx_remember) (as := [.ref 1]) (rest := []) rfl (CV.use h (fun I1 J1 h => ?_))
  refine Wp.eqs (pc' := 4) (st' := []) rfl rfl ?_
  refine Wp.steps 12 (pc' := 26) (lv' := [some (.ref 1), none, none]) (st' := [.int (I1 1 2)]) (I' := (up2 I1 1 11 ((((I1 1 11) * 1103515245) + 12345) &&& 2147483647))) (J' := J1) rfl ?_
  refine Wp.steps 1 (pc' := if (I1 1 2) = 0 then 29 else 30) (lv' := [some (.ref 1), none, none]) (st' := []) (I' := (up2 I1 1 11 ((((I1 1 11) * 1103515245) + 12345) &&& 2147483647))) (J' := J1) rfl (Wp.ite (fun h1 => ?_) (fun h1 => ?_))
  · replace h := h.1 h1
    exact Wp.ret rfl h
  · replace h := h.2 h1
    refine Wp.steps 6 (pc' := 41) (lv' := [some (.ref 1), none, none]) (st' := [.int (I1 1 2), .int (((((I1 1 11) * 1103515245) + 12345) &&& 2147483647) / 65536)]) (I' := (up2 I1 1 11 ((((I1 1 11) * 1103515245) + 12345) &&& 2147483647))) (J' := J1) rfl ?_
    refine Wp.irem rfl h.1 ?_
    replace h := h.2
    refine Wp.steps 15 (pc' := 65) (lv' := [some (.ref 1), some (.int (rmI (((((I1 1 11) * 1103515245) + 12345) &&& 2147483647) / 65536) (I1 1 2))), some (.int (rmI (((((I1 1 11) * 1103515245) + 12345) &&& 2147483647) / 128) 2))]) (st' := [.int (rmI (((((I1 1 11) * 1103515245) + 12345) &&& 2147483647) / 128) 2), .int (rmI (((((I1 1 11) * 1103515245) + 12345) &&& 2147483647) / 65536) (I1 1 2)), .int (I1 1 10), .int (I1 1 9), .ref 1]) (I' := (up2 I1 1 11 ((((I1 1 11) * 1103515245) + 12345) &&& 2147483647))) (J' := J1) rfl ?_
    refine Wp.call (M' := Bx_maySlide) (as := [.ref 1, .int (I1 1 9), .int (I1 1 10), .int (rmI (((((I1 1 11) * 1103515245) + 12345) &&& 2147483647) / 65536) (I1 1 2)), .int (rmI (((((I1 1 11) * 1103515245) + 12345) &&& 2147483647) / 128) 2)]) (rest := []) rfl (CI.use h (fun v2 I2 J2 h => ?_))
    refine Wp.eqs (pc' := 68) (st' := [.int v2]) rfl rfl ?_
    refine Wp.steps 1 (pc' := if v2 = 0 then 85 else 71) (lv' := [some (.ref 1), some (.int (rmI (((((I1 1 11) * 1103515245) + 12345) &&& 2147483647) / 65536) (I1 1 2))), some (.int (rmI (((((I1 1 11) * 1103515245) + 12345) &&& 2147483647) / 128) 2))]) (st' := []) (I' := I2) (J' := J2) rfl (Wp.ite (fun h2 => ?_) (fun h2 => ?_))
    · replace h := h.1 h2
      exact Wp.ret rfl h
    · replace h := h.2 h2
      refine Wp.steps 6 (pc' := 79) (lv' := [some (.ref 1), some (.int (rmI (((((I1 1 11) * 1103515245) + 12345) &&& 2147483647) / 65536) (I1 1 2))), some (.int (rmI (((((I1 1 11) * 1103515245) + 12345) &&& 2147483647) / 128) 2))]) (st' := [.int (rmI (((((I1 1 11) * 1103515245) + 12345) &&& 2147483647) / 128) 2), .int (rmI (((((I1 1 11) * 1103515245) + 12345) &&& 2147483647) / 65536) (I1 1 2)), .int (I2 1 9), .ref 1, .ref 1]) (I' := I2) (J' := J2) rfl ?_
      refine Wp.call (M' := Bx_behind) (as := [.ref 1, .int (I2 1 9), .int (rmI (((((I1 1 11) * 1103515245) + 12345) &&& 2147483647) / 65536) (I1 1 2)), .int (rmI (((((I1 1 11) * 1103515245) + 12345) &&& 2147483647) / 128) 2)]) (rest := [.ref 1]) rfl (CI.use h (fun v3 I3 J3 h => ?_))
      refine Wp.eqs (pc' := 82) (st' := [.int v3, .ref 1]) rfl rfl ?_
      refine Wp.steps 1 (pc' := 85) (lv' := [some (.ref 1), some (.int (rmI (((((I1 1 11) * 1103515245) + 12345) &&& 2147483647) / 65536) (I1 1 2))), some (.int (rmI (((((I1 1 11) * 1103515245) + 12345) &&& 2147483647) / 128) 2))]) (st' := []) (I' := (up2 I3 1 9 v3)) (J' := J3) rfl ?_
      exact Wp.ret rfl h
theorem v_Bx_becomes_1_11_0 {d : Nat} {Q : Post} {I : I2} {J : J2} (h : Q none (up2 (up2 (up2 (cpI (cpI (cpI (up2 (up2 (up2 (up2 (up2 (cpI (cpI (cpI (cpI (up2 (cpI (cpI I 2 12 0 0 5) 3 13 0 0 5) 1 2 (I 11 2)) 4 14 0 0 6) 5 15 0 0 6) 6 16 0 0 6) 7 17 0 0 6) 1 7 (I 11 7)) 1 8 (I 11 8)) 1 9 (I 11 9)) 1 10 (I 11 10)) 1 11 (I 11 11)) 8 18 0 0 8) 9 19 0 0 8) 10 20 0 0 8) 1 15 (I 11 15)) 1 16 (I 11 16)) 1 17 1) J) : Wp d Bx_becomes Q 0 [some (.ref 1), some (.ref 11)] [] I J := by
  refine Wp.steps 107 (pc' := 202) (lv' := [some (.ref 1), some (.ref 11)]) (st' := []) (I' := (up2 (up2 (up2 (cpI (cpI (cpI (up2 (up2 (up2 (up2 (up2 (cpI (cpI (cpI (cpI (up2 (cpI (cpI I 2 12 0 0 5) 3 13 0 0 5) 1 2 (I 11 2)) 4 14 0 0 6) 5 15 0 0 6) 6 16 0 0 6) 7 17 0 0 6) 1 7 (I 11 7)) 1 8 (I 11 8)) 1 9 (I 11 9)) 1 10 (I 11 10)) 1 11 (I 11 11)) 8 18 0 0 8) 9 19 0 0 8) 10 20 0 0 8) 1 15 (I 11 15)) 1 16 (I 11 16)) 1 17 1)) (J' := J) rfl ?_
  exact Wp.ret rfl h
theorem v_Bx_isOpen_1_0 {d : Nat} {Q : Post} {I : I2} {J : J2} {x1 : Int32} (h : CI d Bx_hasPanel [.ref 1, .int (I 1 8)] I J (fun v1 I1 J1 => (v1 = 0 → Q (some (.int 0)) I1 J1) ∧ (¬ (v1 = 0) → CI d Sb_placeIn [.int x1, .int (I1 1 8)] I1 J1 (fun v2 I2 J2 => vp_in (I2 1 8) 5 ∧ ((v2 = (I2 3 (tN (I2 1 8))) → Q (some (.int 1)) I2 J2) ∧ (¬ (v2 = (I2 3 (tN (I2 1 8)))) → Q (some (.int 0)) I2 J2)))))) : Wp d Bx_isOpen Q 0 [some (.ref 1), some (.int x1)] [] I J := by
  refine Wp.steps 3 (pc' := 5) (lv' := [some (.ref 1), some (.int x1)]) (st' := [.int (I 1 8), .ref 1]) (I' := I) (J' := J) rfl ?_
  refine Wp.call (M' := Bx_hasPanel) (as := [.ref 1, .int (I 1 8)]) (rest := []) rfl (CI.use h (fun v1 I1 J1 h => ?_))
  refine Wp.eqs (pc' := 8) (st' := [.int v1]) rfl rfl ?_
  refine Wp.steps 1 (pc' := if v1 = 0 then 35 else 11) (lv' := [some (.ref 1), some (.int x1)]) (st' := []) (I' := I1) (J' := J1) rfl (Wp.ite (fun h1 => ?_) (fun h1 => ?_))
  · replace h := h.1 h1
    refine Wp.steps 1 (pc' := 36) (lv' := [some (.ref 1), some (.int x1)]) (st' := [.int 0]) (I' := I1) (J' := J1) rfl ?_
    exact Wp.ret rfl h
  · replace h := h.2 h1
    refine Wp.steps 3 (pc' := 16) (lv' := [some (.ref 1), some (.int x1)]) (st' := [.int (I1 1 8), .int x1]) (I' := I1) (J' := J1) rfl ?_
    refine Wp.call (M' := Sb_placeIn) (as := [.int x1, .int (I1 1 8)]) (rest := []) rfl (CI.use h (fun v2 I2 J2 h => ?_))
    refine Wp.eqs (pc' := 19) (st' := [.int v2]) rfl rfl ?_
    refine Wp.steps 4 (pc' := 27) (lv' := [some (.ref 1), some (.int x1)]) (st' := [.int (I2 1 8), .ref 3, .int v2]) (I' := I2) (J' := J2) rfl ?_
    refine Wp.iald rfl rfl h.1 ?_
    replace h := h.2
    refine Wp.steps 1 (pc' := if v2 = (I2 3 (tN (I2 1 8))) then 31 else 35) (lv' := [some (.ref 1), some (.int x1)]) (st' := []) (I' := I2) (J' := J2) rfl (Wp.ite (fun h2 => ?_) (fun h2 => ?_))
    · replace h := h.1 h2
      refine Wp.steps 2 (pc' := 36) (lv' := [some (.ref 1), some (.int x1)]) (st' := [.int 1]) (I' := I2) (J' := J2) rfl ?_
      exact Wp.ret rfl h
    · replace h := h.2 h2
      refine Wp.steps 1 (pc' := 36) (lv' := [some (.ref 1), some (.int x1)]) (st' := [.int 0]) (I' := I2) (J' := J2) rfl ?_
      exact Wp.ret rfl h
theorem v_Bx_outSet_1_0 {d : Nat} {Q : Post} {I : I2} {J : J2} (h : Wp d Bx_outSet Q 4 [some (.ref 1), some (.int 0), some (.int 0)] [] I J) : Wp d Bx_outSet Q 0 [some (.ref 1), none, none] [] I J := by
  refine Wp.steps 4 (pc' := 4) (lv' := [some (.ref 1), some (.int 0), some (.int 0)]) (st' := []) (I' := I) (J' := J) rfl ?_
  exact h
theorem v_Bx_outSet_1_4 {d : Nat} {Q : Post} {I : I2} {J : J2} {x1 : Int32} {x2 : Int32} (h : (x2 < (I 1 2) → CI d Sb_placeIn [.int (I 1 9), .int x2] I J (fun v1 I1 J1 => (0 < v1 → Wp d Bx_outSet Q 4 [some (.ref 1), some (.int (x1 ||| (slI 1 x2))), some (.int (x2 + 1))] [] I1 J1) ∧ (¬ (0 < v1) → Wp d Bx_outSet Q 4 [some (.ref 1), some (.int x1), some (.int (x2 + 1))] [] I1 J1))) ∧ (¬ (x2 < (I 1 2)) → Q (some (.int x1)) I J)) : Wp d Bx_outSet Q 4 [some (.ref 1), some (.int x1), some (.int x2)] [] I J := by
  refine Wp.steps 3 (pc' := 9) (lv' := [some (.ref 1), some (.int x1), some (.int x2)]) (st' := [.int (I 1 2), .int x2]) (I' := I) (J' := J) rfl ?_
  refine Wp.steps 1 (pc' := if x2 < (I 1 2) then 12 else 35) (lv' := [some (.ref 1), some (.int x1), some (.int x2)]) (st' := []) (I' := I) (J' := J) rfl (Wp.ite (fun h1 => ?_) (fun h1 => ?_))
  · replace h := h.1 h1
    refine Wp.steps 3 (pc' := 17) (lv' := [some (.ref 1), some (.int x1), some (.int x2)]) (st' := [.int x2, .int (I 1 9)]) (I' := I) (J' := J) rfl ?_
    refine Wp.call (M' := Sb_placeIn) (as := [.int (I 1 9), .int x2]) (rest := []) rfl (CI.use h (fun v1 I1 J1 h => ?_))
    refine Wp.eqs (pc' := 20) (st' := [.int v1]) rfl rfl ?_
    refine Wp.steps 1 (pc' := if 0 < v1 then 23 else 29) (lv' := [some (.ref 1), some (.int x1), some (.int x2)]) (st' := []) (I' := I1) (J' := J1) rfl (Wp.ite (fun h2 => ?_) (fun h2 => ?_))
    · replace h := h.1 h2
      refine Wp.steps 8 (pc' := 4) (lv' := [some (.ref 1), some (.int (x1 ||| (slI 1 x2))), some (.int (x2 + 1))]) (st' := []) (I' := I1) (J' := J1) rfl ?_
      exact h
    · replace h := h.2 h2
      refine Wp.steps 2 (pc' := 4) (lv' := [some (.ref 1), some (.int x1), some (.int (x2 + 1))]) (st' := []) (I' := I1) (J' := J1) rfl ?_
      exact h
  · replace h := h.2 h1
    refine Wp.steps 1 (pc' := 36) (lv' := [some (.ref 1), some (.int x1), some (.int x2)]) (st' := [.int x1]) (I' := I) (J' := J) rfl ?_
    exact Wp.ret rfl h
theorem v_Bx_slidesThatMay_1_0 {d : Nat} {Q : Post} {I : I2} {J : J2} (h : Wp d Bx_slidesThatMay Q 4 [some (.ref 1), some (.int 0), some (.int 0)] [] I J) : Wp d Bx_slidesThatMay Q 0 [some (.ref 1), none, none] [] I J := by
  refine Wp.steps 4 (pc' := 4) (lv' := [some (.ref 1), some (.int 0), some (.int 0)]) (st' := []) (I' := I) (J' := J) rfl ?_
  exact h
theorem v_Bx_slidesThatMay_1_4 {d : Nat} {Q : Post} {I : I2} {J : J2} {x1 : Int32} {x2 : Int32} (h : (x2 < (2 * (I 1 2)) → CI d Bx_maySlide [.ref 1, .int (I 1 9), .int (I 1 10), .int (srI x2 1), .int (x2 &&& 1)] I J (fun v1 I1 J1 => (v1 = 0 → Wp d Bx_slidesThatMay Q 4 [some (.ref 1), some (.int x1), some (.int (x2 + 1))] [] I1 J1) ∧ (¬ (v1 = 0) → Wp d Bx_slidesThatMay Q 4 [some (.ref 1), some (.int (x1 + 1)), some (.int (x2 + 1))] [] I1 J1))) ∧ (¬ (x2 < (2 * (I 1 2))) → Q (some (.int x1)) I J)) : Wp d Bx_slidesThatMay Q 4 [some (.ref 1), some (.int x1), some (.int x2)] [] I J := by
  refine Wp.steps 5 (pc' := 11) (lv' := [some (.ref 1), some (.int x1), some (.int x2)]) (st' := [.int (2 * (I 1 2)), .int x2]) (I' := I) (J' := J) rfl ?_
  refine Wp.steps 1 (pc' := if x2 < (2 * (I 1 2)) then 14 else 44) (lv' := [some (.ref 1), some (.int x1), some (.int x2)]) (st' := []) (I' := I) (J' := J) rfl (Wp.ite (fun h1 => ?_) (fun h1 => ?_))
  · replace h := h.1 h1
    refine Wp.steps 11 (pc' := 29) (lv' := [some (.ref 1), some (.int x1), some (.int x2)]) (st' := [.int (x2 &&& 1), .int (srI x2 1), .int (I 1 10), .int (I 1 9), .ref 1]) (I' := I) (J' := J) rfl ?_
    refine Wp.call (M' := Bx_maySlide) (as := [.ref 1, .int (I 1 9), .int (I 1 10), .int (srI x2 1), .int (x2 &&& 1)]) (rest := []) rfl (CI.use h (fun v1 I1 J1 h => ?_))
    refine Wp.eqs (pc' := 32) (st' := [.int v1]) rfl rfl ?_
    refine Wp.steps 1 (pc' := if v1 = 0 then 38 else 35) (lv' := [some (.ref 1), some (.int x1), some (.int x2)]) (st' := []) (I' := I1) (J' := J1) rfl (Wp.ite (fun h2 => ?_) (fun h2 => ?_))
    · replace h := h.1 h2
      refine Wp.steps 2 (pc' := 4) (lv' := [some (.ref 1), some (.int x1), some (.int (x2 + 1))]) (st' := []) (I' := I1) (J' := J1) rfl ?_
      exact h
    · replace h := h.2 h2
      refine Wp.steps 3 (pc' := 4) (lv' := [some (.ref 1), some (.int (x1 + 1)), some (.int (x2 + 1))]) (st' := []) (I' := I1) (J' := J1) rfl ?_
      exact h
  · replace h := h.2 h1
    refine Wp.steps 1 (pc' := 45) (lv' := [some (.ref 1), some (.int x1), some (.int x2)]) (st' := [.int x1]) (I' := I) (J' := J) rfl ?_
    exact Wp.ret rfl h
theorem v_Bx_hasPanel_1_0 {d : Nat} {Q : Post} {I : I2} {J : J2} {x1 : Int32} (h : (x1 < 0 → Q (some (.int 0)) I J) ∧ (¬ (x1 < 0) → (x1 < (I 1 2) → Q (some (.int 1)) I J) ∧ (¬ (x1 < (I 1 2)) → Q (some (.int 0)) I J))) : Wp d Bx_hasPanel Q 0 [some (.ref 1), some (.int x1)] [] I J := by
  refine Wp.steps 1 (pc' := 1) (lv' := [some (.ref 1), some (.int x1)]) (st' := [.int x1]) (I' := I) (J' := J) rfl ?_
  refine Wp.steps 1 (pc' := if x1 < 0 then 16 else 4) (lv' := [some (.ref 1), some (.int x1)]) (st' := []) (I' := I) (J' := J) rfl (Wp.ite (fun h1 => ?_) (fun h1 => ?_))
  · replace h := h.1 h1
    refine Wp.steps 1 (pc' := 17) (lv' := [some (.ref 1), some (.int x1)]) (st' := [.int 0]) (I' := I) (J' := J) rfl ?_
    exact Wp.ret rfl h
  · replace h := h.2 h1
    refine Wp.steps 3 (pc' := 9) (lv' := [some (.ref 1), some (.int x1)]) (st' := [.int (I 1 2), .int x1]) (I' := I) (J' := J) rfl ?_
    refine Wp.steps 1 (pc' := if x1 < (I 1 2) then 12 else 16) (lv' := [some (.ref 1), some (.int x1)]) (st' := []) (I' := I) (J' := J) rfl (Wp.ite (fun h2 => ?_) (fun h2 => ?_))
    · replace h := h.1 h2
      refine Wp.steps 2 (pc' := 17) (lv' := [some (.ref 1), some (.int x1)]) (st' := [.int 1]) (I' := I) (J' := J) rfl ?_
      exact Wp.ret rfl h
    · replace h := h.2 h2
      refine Wp.steps 1 (pc' := 17) (lv' := [some (.ref 1), some (.int x1)]) (st' := [.int 0]) (I' := I) (J' := J) rfl ?_
      exact Wp.ret rfl h
theorem v_Bx_maySlide_1_0 {d : Nat} {Q : Post} {I : I2} {J : J2} {x1 : Int32} {x2 : Int32} {x3 : Int32} {x4 : Int32} (h : CI d Bx_fits [.ref 1, .int x1, .int x3, .int x4] I J (fun v1 I1 J1 => (v1 = 0 → Q (some (.int 0)) I1 J1) ∧ (¬ (v1 = 0) → CI d Bx_holding [.ref 1, .int x1, .int x3, .int x4] I1 J1 (fun v2 I2 J2 => ((v2 &&& (x2 ^^^ (-1))) = 0 → Q (some (.int 1)) I2 J2) ∧ (¬ ((v2 &&& (x2 ^^^ (-1))) = 0) → Q (some (.int 0)) I2 J2))))) : Wp d Bx_maySlide Q 0 [some (.ref 1), some (.int x1), some (.int x2), some (.int x3), some (.int x4)] [] I J := by
  refine Wp.steps 4 (pc' := 5) (lv' := [some (.ref 1), some (.int x1), some (.int x2), some (.int x3), some (.int x4)]) (st' := [.int x4, .int x3, .int x1, .ref 1]) (I' := I) (J' := J) rfl ?_
  refine Wp.call (M' := Bx_fits) (as := [.ref 1, .int x1, .int x3, .int x4]) (rest := []) rfl (CI.use h (fun v1 I1 J1 h => ?_))
  refine Wp.eqs (pc' := 8) (st' := [.int v1]) rfl rfl ?_
  refine Wp.steps 1 (pc' := if v1 = 0 then 30 else 11) (lv' := [some (.ref 1), some (.int x1), some (.int x2), some (.int x3), some (.int x4)]) (st' := []) (I' := I1) (J' := J1) rfl (Wp.ite (fun h1 => ?_) (fun h1 => ?_))
  · replace h := h.1 h1
    refine Wp.steps 1 (pc' := 31) (lv' := [some (.ref 1), some (.int x1), some (.int x2), some (.int x3), some (.int x4)]) (st' := [.int 0]) (I' := I1) (J' := J1) rfl ?_
    exact Wp.ret rfl h
  · replace h := h.2 h1
    refine Wp.steps 4 (pc' := 16) (lv' := [some (.ref 1), some (.int x1), some (.int x2), some (.int x3), some (.int x4)]) (st' := [.int x4, .int x3, .int x1, .ref 1]) (I' := I1) (J' := J1) rfl ?_
    refine Wp.call (M' := Bx_holding) (as := [.ref 1, .int x1, .int x3, .int x4]) (rest := []) rfl (CI.use h (fun v2 I2 J2 h => ?_))
    refine Wp.eqs (pc' := 19) (st' := [.int v2]) rfl rfl ?_
    refine Wp.steps 4 (pc' := 23) (lv' := [some (.ref 1), some (.int x1), some (.int x2), some (.int x3), some (.int x4)]) (st' := [.int (v2 &&& (x2 ^^^ (-1)))]) (I' := I2) (J' := J2) rfl ?_
    refine Wp.steps 1 (pc' := if (v2 &&& (x2 ^^^ (-1))) = 0 then 26 else 30) (lv' := [some (.ref 1), some (.int x1), some (.int x2), some (.int x3), some (.int x4)]) (st' := []) (I' := I2) (J' := J2) rfl (Wp.ite (fun h2 => ?_) (fun h2 => ?_))
    · replace h := h.1 h2
      refine Wp.steps 2 (pc' := 31) (lv' := [some (.ref 1), some (.int x1), some (.int x2), some (.int x3), some (.int x4)]) (st' := [.int 1]) (I' := I2) (J' := J2) rfl ?_
      exact Wp.ret rfl h
    · replace h := h.2 h2
      refine Wp.steps 1 (pc' := 31) (lv' := [some (.ref 1), some (.int x1), some (.int x2), some (.int x3), some (.int x4)]) (st' := [.int 0]) (I' := I2) (J' := J2) rfl ?_
      exact Wp.ret rfl h
theorem v_Bx_remember_1_0 {d : Nat} {Q : Post} {I : I2} {J : J2} (h : vp_in (I 1 16) 8 ∧ (vp_in (I 1 16) 8 ∧ (vp_in (I 1 16) 8 ∧ (((I 1 15) < 8 → Q none (up2 (up2 (up2 (up2 (up2 I 8 (tN (I 1 16)) (I 1 9)) 9 (tN (I 1 16)) (I 1 10)) 10 (tN (I 1 16)) (I 1 11)) 1 16 (rmI ((I 1 16) + 1) 8)) 1 15 ((I 1 15) + 1)) J) ∧ (¬ ((I 1 15) < 8) → Q none (up2 (up2 (up2 (up2 I 8 (tN (I 1 16)) (I 1 9)) 9 (tN (I 1 16)) (I 1 10)) 10 (tN (I 1 16)) (I 1 11)) 1 16 (rmI ((I 1 16) + 1) 8)) J))))) : Wp d Bx_remember Q 0 [some (.ref 1)] [] I J := by
  refine Wp.steps 6 (pc' := 12) (lv' := [some (.ref 1)]) (st' := [.int (I 1 9), .int (I 1 16), .ref 8]) (I' := I) (J' := J) rfl ?_
  refine Wp.iast rfl rfl h.1 ?_
  replace h := h.2
  refine Wp.steps 6 (pc' := 25) (lv' := [some (.ref 1)]) (st' := [.int (I 1 10), .int (I 1 16), .ref 9]) (I' := (up2 I 8 (tN (I 1 16)) (I 1 9))) (J' := J) rfl ?_
  refine Wp.iast rfl rfl h.1 ?_
  replace h := h.2
  refine Wp.steps 6 (pc' := 38) (lv' := [some (.ref 1)]) (st' := [.int (I 1 11), .int (I 1 16), .ref 10]) (I' := (up2 (up2 I 8 (tN (I 1 16)) (I 1 9)) 9 (tN (I 1 16)) (I 1 10))) (J' := J) rfl ?_
  refine Wp.iast rfl rfl h.1 ?_
  replace h := h.2
  refine Wp.steps 11 (pc' := 58) (lv' := [some (.ref 1)]) (st' := [.int 8, .int (I 1 15)]) (I' := (up2 (up2 (up2 (up2 I 8 (tN (I 1 16)) (I 1 9)) 9 (tN (I 1 16)) (I 1 10)) 10 (tN (I 1 16)) (I 1 11)) 1 16 (rmI ((I 1 16) + 1) 8))) (J' := J) rfl ?_
  refine Wp.steps 1 (pc' := if (I 1 15) < 8 then 61 else 71) (lv' := [some (.ref 1)]) (st' := []) (I' := (up2 (up2 (up2 (up2 I 8 (tN (I 1 16)) (I 1 9)) 9 (tN (I 1 16)) (I 1 10)) 10 (tN (I 1 16)) (I 1 11)) 1 16 (rmI ((I 1 16) + 1) 8))) (J' := J) rfl (Wp.ite (fun h1 => ?_) (fun h1 => ?_))
  · replace h := h.1 h1
    refine Wp.steps 6 (pc' := 71) (lv' := [some (.ref 1)]) (st' := []) (I' := (up2 (up2 (up2 (up2 (up2 I 8 (tN (I 1 16)) (I 1 9)) 9 (tN (I 1 16)) (I 1 10)) 10 (tN (I 1 16)) (I 1 11)) 1 16 (rmI ((I 1 16) + 1) 8)) 1 15 ((I 1 15) + 1))) (J' := J) rfl ?_
    exact Wp.ret rfl h
  · replace h := h.2 h1
    exact Wp.ret rfl h
theorem v_Bx_behind_1_0 {d : Nat} {Q : Post} {I : I2} {J : J2} {x1 : Int32} {x2 : Int32} {x3 : Int32} (h : Wp d Bx_behind Q 6 [some (.ref 1), some (.int x1), some (.int x2), some (.int x3), some (.int 0), some (.int 0), none] [] I J) : Wp d Bx_behind Q 0 [some (.ref 1), some (.int x1), some (.int x2), some (.int x3), none, none, none] [] I J := by
  refine Wp.steps 4 (pc' := 6) (lv' := [some (.ref 1), some (.int x1), some (.int x2), some (.int x3), some (.int 0), some (.int 0), none]) (st' := []) (I' := I) (J' := J) rfl ?_
  exact h
theorem v_Bx_behind_1_6 {d : Nat} {Q : Post} {I : I2} {J : J2} {x1 : Int32} {x2 : Int32} {x3 : Int32} {x4 : Int32} {x5 : Int32} (h : (x5 < (I 1 2) → CI d Sb_placeIn [.int x1, .int x5] I J (fun v1 I1 J1 => (x5 = x2 → (x3 = 1 → Wp d Bx_behind Q 6 [some (.ref 1), some (.int x1), some (.int x2), some (.int x3), some (.int (x4 ||| (slI (v1 + 1) (2 * x5)))), some (.int (x5 + 1)), none] [] I1 J1) ∧ (¬ (x3 = 1) → Wp d Bx_behind Q 6 [some (.ref 1), some (.int x1), some (.int x2), some (.int x3), some (.int (x4 ||| (slI (v1 + (-1)) (2 * x5)))), some (.int (x5 + 1)), none] [] I1 J1)) ∧ (¬ (x5 = x2) → CI d Bx_slipsBack [.ref 1, .int x5, .int v1] I1 J1 (fun v2 I2 J2 => (v2 = 0 → Wp d Bx_behind Q 6 [some (.ref 1), some (.int x1), some (.int x2), some (.int x3), some (.int (x4 ||| (slI v1 (2 * x5)))), some (.int (x5 + 1)), none] [] I2 J2) ∧ (¬ (v2 = 0) → Wp d Bx_behind Q 6 [some (.ref 1), some (.int x1), some (.int x2), some (.int x3), some (.int (x4 ||| (slI (v1 + (-1)) (2 * x5)))), some (.int (x5 + 1)), none] [] I2 J2))))) ∧ (¬ (x5 < (I 1 2)) → Q (some (.int x4)) I J)) : Wp d Bx_behind Q 6 [some (.ref 1), some (.int x1), some (.int x2), some (.int x3), some (.int x4), some (.int x5), none] [] I J := by
  refine Wp.steps 3 (pc' := 12) (lv' := [some (.ref 1), some (.int x1), some (.int x2), some (.int x3), some (.int x4), some (.int x5), none]) (st' := [.int (I 1 2), .int x5]) (I' := I) (J' := J) rfl ?_
  refine Wp.steps 1 (pc' := if x5 < (I 1 2) then 15 else 79) (lv' := [some (.ref 1), some (.int x1), some (.int x2), some (.int x3), some (.int x4), some (.int x5), none]) (st' := []) (I' := I) (J' := J) rfl (Wp.ite (fun h1 => ?_) (fun h1 => ?_))
  · replace h := h.1 h1
    refine Wp.steps 2 (pc' := 18) (lv' := [some (.ref 1), some (.int x1), some (.int x2), some (.int x3), some (.int x4), some (.int x5), none]) (st' := [.int x5, .int x1]) (I' := I) (J' := J) rfl ?_
    refine Wp.call (M' := Sb_placeIn) (as := [.int x1, .int x5]) (rest := []) rfl (CI.use h (fun v1 I1 J1 h => ?_))
    refine Wp.eqs (pc' := 21) (st' := [.int v1]) rfl rfl ?_
    refine Wp.steps 3 (pc' := 26) (lv' := [some (.ref 1), some (.int x1), some (.int x2), some (.int x3), some (.int x4), some (.int x5), some (.int v1)]) (st' := [.int x2, .int x5]) (I' := I1) (J' := J1) rfl ?_
    refine Wp.steps 1 (pc' := if x5 = x2 then 29 else 47) (lv' := [some (.ref 1), some (.int x1), some (.int x2), some (.int x3), some (.int x4), some (.int x5), some (.int v1)]) (st' := []) (I' := I1) (J' := J1) rfl (Wp.ite (fun h2 => ?_) (fun h2 => ?_))
    · replace h := h.1 h2
      refine Wp.steps 3 (pc' := 33) (lv' := [some (.ref 1), some (.int x1), some (.int x2), some (.int x3), some (.int x4), some (.int x5), some (.int v1)]) (st' := [.int 1, .int x3, .int v1]) (I' := I1) (J' := J1) rfl ?_
      refine Wp.steps 1 (pc' := if x3 = 1 then 36 else 40) (lv' := [some (.ref 1), some (.int x1), some (.int x2), some (.int x3), some (.int x4), some (.int x5), some (.int v1)]) (st' := [.int v1]) (I' := I1) (J' := J1) rfl (Wp.ite (fun h3 => ?_) (fun h3 => ?_))
      · replace h := h.1 h3
        refine Wp.steps 15 (pc' := 6) (lv' := [some (.ref 1), some (.int x1), some (.int x2), some (.int x3), some (.int (x4 ||| (slI (v1 + 1) (2 * x5)))), some (.int (x5 + 1)), some (.int (v1 + 1))]) (st' := []) (I' := I1) (J' := J1) rfl ?_
        refine Wp.drop [6] (lv' := [some (.ref 1), some (.int x1), some (.int x2), some (.int x3), some (.int (x4 ||| (slI (v1 + 1) (2 * x5)))), some (.int (x5 + 1)), none]) rfl ?_
        exact h
      · replace h := h.2 h3
        refine Wp.steps 14 (pc' := 6) (lv' := [some (.ref 1), some (.int x1), some (.int x2), some (.int x3), some (.int (x4 ||| (slI (v1 + (-1)) (2 * x5)))), some (.int (x5 + 1)), some (.int (v1 + (-1)))]) (st' := []) (I' := I1) (J' := J1) rfl ?_
        refine Wp.drop [6] (lv' := [some (.ref 1), some (.int x1), some (.int x2), some (.int x3), some (.int (x4 ||| (slI (v1 + (-1)) (2 * x5)))), some (.int (x5 + 1)), none]) rfl ?_
        exact h
    · replace h := h.2 h2
      refine Wp.steps 3 (pc' := 52) (lv' := [some (.ref 1), some (.int x1), some (.int x2), some (.int x3), some (.int x4), some (.int x5), some (.int v1)]) (st' := [.int v1, .int x5, .ref 1]) (I' := I1) (J' := J1) rfl ?_
      refine Wp.call (M' := Bx_slipsBack) (as := [.ref 1, .int x5, .int v1]) (rest := []) rfl (CI.use h (fun v2 I2 J2 h => ?_))
      refine Wp.eqs (pc' := 55) (st' := [.int v2]) rfl rfl ?_
      refine Wp.steps 1 (pc' := if v2 = 0 then 61 else 58) (lv' := [some (.ref 1), some (.int x1), some (.int x2), some (.int x3), some (.int x4), some (.int x5), some (.int v1)]) (st' := []) (I' := I2) (J' := J2) rfl (Wp.ite (fun h3 => ?_) (fun h3 => ?_))
      · replace h := h.1 h3
        refine Wp.steps 10 (pc' := 6) (lv' := [some (.ref 1), some (.int x1), some (.int x2), some (.int x3), some (.int (x4 ||| (slI v1 (2 * x5)))), some (.int (x5 + 1)), some (.int v1)]) (st' := []) (I' := I2) (J' := J2) rfl ?_
        refine Wp.drop [6] (lv' := [some (.ref 1), some (.int x1), some (.int x2), some (.int x3), some (.int (x4 ||| (slI v1 (2 * x5)))), some (.int (x5 + 1)), none]) rfl ?_
        exact h
      · replace h := h.2 h3
        refine Wp.steps 11 (pc' := 6) (lv' := [some (.ref 1), some (.int x1), some (.int x2), some (.int x3), some (.int (x4 ||| (slI (v1 + (-1)) (2 * x5)))), some (.int (x5 + 1)), some (.int (v1 + (-1)))]) (st' := []) (I' := I2) (J' := J2) rfl ?_
        refine Wp.drop [6] (lv' := [some (.ref 1), some (.int x1), some (.int x2), some (.int x3), some (.int (x4 ||| (slI (v1 + (-1)) (2 * x5)))), some (.int (x5 + 1)), none]) rfl ?_
        exact h
  · replace h := h.2 h1
    refine Wp.steps 1 (pc' := 81) (lv' := [some (.ref 1), some (.int x1), some (.int x2), some (.int x3), some (.int x4), some (.int x5), none]) (st' := [.int x4]) (I' := I) (J' := J) rfl ?_
    exact Wp.ret rfl h
theorem v_Bx_becomes_1_21_0 {d : Nat} {Q : Post} {I : I2} {J : J2} (h : Q none (up2 (up2 (up2 (cpI (cpI (cpI (up2 (up2 (up2 (up2 (up2 (cpI (cpI (cpI (cpI (up2 (cpI (cpI I 2 22 0 0 5) 3 23 0 0 5) 1 2 (I 21 2)) 4 24 0 0 6) 5 25 0 0 6) 6 26 0 0 6) 7 27 0 0 6) 1 7 (I 21 7)) 1 8 (I 21 8)) 1 9 (I 21 9)) 1 10 (I 21 10)) 1 11 (I 21 11)) 8 28 0 0 8) 9 29 0 0 8) 10 30 0 0 8) 1 15 (I 21 15)) 1 16 (I 21 16)) 1 17 1) J) : Wp d Bx_becomes Q 0 [some (.ref 1), some (.ref 21)] [] I J := by
  refine Wp.steps 107 (pc' := 202) (lv' := [some (.ref 1), some (.ref 21)]) (st' := []) (I' := (up2 (up2 (up2 (cpI (cpI (cpI (up2 (up2 (up2 (up2 (up2 (cpI (cpI (cpI (cpI (up2 (cpI (cpI I 2 22 0 0 5) 3 23 0 0 5) 1 2 (I 21 2)) 4 24 0 0 6) 5 25 0 0 6) 6 26 0 0 6) 7 27 0 0 6) 1 7 (I 21 7)) 1 8 (I 21 8)) 1 9 (I 21 9)) 1 10 (I 21 10)) 1 11 (I 21 11)) 8 28 0 0 8) 9 29 0 0 8) 10 30 0 0 8) 1 15 (I 21 15)) 1 16 (I 21 16)) 1 17 1)) (J' := J) rfl ?_
  exact Wp.ret rfl h
theorem v_Bx_hasLock_1_0 {d : Nat} {Q : Post} {I : I2} {J : J2} {x1 : Int32} (h : (x1 < 0 → Q (some (.int 0)) I J) ∧ (¬ (x1 < 0) → (x1 < (I 1 7) → Q (some (.int 1)) I J) ∧ (¬ (x1 < (I 1 7)) → Q (some (.int 0)) I J))) : Wp d Bx_hasLock Q 0 [some (.ref 1), some (.int x1)] [] I J := by
  refine Wp.steps 1 (pc' := 1) (lv' := [some (.ref 1), some (.int x1)]) (st' := [.int x1]) (I' := I) (J' := J) rfl ?_
  refine Wp.steps 1 (pc' := if x1 < 0 then 16 else 4) (lv' := [some (.ref 1), some (.int x1)]) (st' := []) (I' := I) (J' := J) rfl (Wp.ite (fun h1 => ?_) (fun h1 => ?_))
  · replace h := h.1 h1
    refine Wp.steps 1 (pc' := 17) (lv' := [some (.ref 1), some (.int x1)]) (st' := [.int 0]) (I' := I) (J' := J) rfl ?_
    exact Wp.ret rfl h
  · replace h := h.2 h1
    refine Wp.steps 3 (pc' := 9) (lv' := [some (.ref 1), some (.int x1)]) (st' := [.int (I 1 7), .int x1]) (I' := I) (J' := J) rfl ?_
    refine Wp.steps 1 (pc' := if x1 < (I 1 7) then 12 else 16) (lv' := [some (.ref 1), some (.int x1)]) (st' := []) (I' := I) (J' := J) rfl (Wp.ite (fun h2 => ?_) (fun h2 => ?_))
    · replace h := h.1 h2
      refine Wp.steps 2 (pc' := 17) (lv' := [some (.ref 1), some (.int x1)]) (st' := [.int 1]) (I' := I) (J' := J) rfl ?_
      exact Wp.ret rfl h
    · replace h := h.2 h2
      refine Wp.steps 1 (pc' := 17) (lv' := [some (.ref 1), some (.int x1)]) (st' := [.int 0]) (I' := I) (J' := J) rfl ?_
      exact Wp.ret rfl h
theorem v_Bx_isMet_1_0 {d : Nat} {Q : Post} {I : I2} {J : J2} {x1 : Int32} {x2 : Int32} (h : vp_in x1 6 ∧ (vp_in x1 6 ∧ (CI d Sb_placeIn [.int x2, .int (I 6 (tN x1))] I J (fun v1 I1 J1 => (((srI (I 7 (tN x1)) v1) &&& 1) = 0 → Q (some (.int 0)) I1 J1) ∧ (¬ (((srI (I 7 (tN x1)) v1) &&& 1) = 0) → Q (some (.int 1)) I1 J1))))) : Wp d Bx_isMet Q 0 [some (.ref 1), some (.int x1), some (.int x2)] [] I J := by
  refine Wp.steps 3 (pc' := 5) (lv' := [some (.ref 1), some (.int x1), some (.int x2)]) (st' := [.int x1, .ref 7]) (I' := I) (J' := J) rfl ?_
  refine Wp.iald rfl rfl h.1 ?_
  replace h := h.2
  refine Wp.steps 4 (pc' := 12) (lv' := [some (.ref 1), some (.int x1), some (.int x2)]) (st' := [.int x1, .ref 6, .int x2, .int (I 7 (tN x1))]) (I' := I) (J' := J) rfl ?_
  refine Wp.iald rfl rfl h.1 ?_
  replace h := h.2
  refine Wp.call (M' := Sb_placeIn) (as := [.int x2, .int (I 6 (tN x1))]) (rest := [.int (I 7 (tN x1))]) rfl (CI.use h (fun v1 I1 J1 h => ?_))
  refine Wp.eqs (pc' := 16) (st' := [.int v1, .int (I 7 (tN x1))]) rfl rfl ?_
  refine Wp.steps 3 (pc' := 19) (lv' := [some (.ref 1), some (.int x1), some (.int x2)]) (st' := [.int ((srI (I 7 (tN x1)) v1) &&& 1)]) (I' := I1) (J' := J1) rfl ?_
  refine Wp.steps 1 (pc' := if ((srI (I 7 (tN x1)) v1) &&& 1) = 0 then 26 else 22) (lv' := [some (.ref 1), some (.int x1), some (.int x2)]) (st' := []) (I' := I1) (J' := J1) rfl (Wp.ite (fun h1 => ?_) (fun h1 => ?_))
  · replace h := h.1 h1
    refine Wp.steps 1 (pc' := 27) (lv' := [some (.ref 1), some (.int x1), some (.int x2)]) (st' := [.int 0]) (I' := I1) (J' := J1) rfl ?_
    exact Wp.ret rfl h
  · replace h := h.2 h1
    refine Wp.steps 2 (pc' := 27) (lv' := [some (.ref 1), some (.int x1), some (.int x2)]) (st' := [.int 1]) (I' := I1) (J' := J1) rfl ?_
    exact Wp.ret rfl h
theorem v_Bx_stateOf_1_49_0 {d : Nat} {Q : Post} {I : I2} {J : J2} {x2 : Int32} (h : Wp d Bx_stateOf Q 5 [some (.ref 1), some (.ref 49), some (.int x2), some (.int 0), some (.int 0), none, none] [] I J) : Wp d Bx_stateOf Q 0 [some (.ref 1), some (.ref 49), some (.int x2), none, none, none, none] [] I J := by
  refine Wp.steps 4 (pc' := 5) (lv' := [some (.ref 1), some (.ref 49), some (.int x2), some (.int 0), some (.int 0), none, none]) (st' := []) (I' := I) (J' := J) rfl ?_
  exact h
theorem v_Bx_stateOf_1_49_5 {d : Nat} {Q : Post} {I : I2} {J : J2} {x2 : Int32} {x3 : Int32} {x4 : Int32} (h : (x4 < (I 1 2) → CL d Sh_look [.ref 49, .int (x2 + x4)] I J (fun v1 I1 J1 => ((lg_cmp v1 0) < 0 → Q (some (.int (-2))) I1 J1) ∧ (¬ ((lg_cmp v1 0) < 0) → vp_in x4 5 ∧ ((0 < (lg_cmp v1 (Int32.toInt64 (I1 3 (tN x4)))) → Q (some (.int (-2))) I1 J1) ∧ (¬ (0 < (lg_cmp v1 (Int32.toInt64 (I1 3 (tN x4))))) → Wp d Bx_stateOf Q 5 [some (.ref 1), some (.ref 49), some (.int x2), some (.int (x3 ||| (slI (Int64.toInt32 v1) (2 * x4)))), some (.int (x4 + 1)), none, none] [] I1 J1))))) ∧ (¬ (x4 < (I 1 2)) → Q (some (.int x3)) I J)) : Wp d Bx_stateOf Q 5 [some (.ref 1), some (.ref 49), some (.int x2), some (.int x3), some (.int x4), none, none] [] I J := by
  refine Wp.steps 3 (pc' := 11) (lv' := [some (.ref 1), some (.ref 49), some (.int x2), some (.int x3), some (.int x4), none, none]) (st' := [.int (I 1 2), .int x4]) (I' := I) (J' := J) rfl ?_
  refine Wp.steps 1 (pc' := if x4 < (I 1 2) then 14 else 65) (lv' := [some (.ref 1), some (.ref 49), some (.int x2), some (.int x3), some (.int x4), none, none]) (st' := []) (I' := I) (J' := J) rfl (Wp.ite (fun h1 => ?_) (fun h1 => ?_))
  · replace h := h.1 h1
    refine Wp.steps 4 (pc' := 19) (lv' := [some (.ref 1), some (.ref 49), some (.int x2), some (.int x3), some (.int x4), none, none]) (st' := [.int (x2 + x4), .ref 49]) (I' := I) (J' := J) rfl ?_
    refine Wp.call (M' := Sh_look) (as := [.ref 49, .int (x2 + x4)]) (rest := []) rfl (CL.use h (fun v1 I1 J1 h => ?_))
    refine Wp.eqs (pc' := 22) (st' := [.long v1]) rfl rfl ?_
    refine Wp.steps 4 (pc' := 28) (lv' := [some (.ref 1), some (.ref 49), some (.int x2), some (.int x3), some (.int x4), some (.long v1), none]) (st' := [.int (lg_cmp v1 0)]) (I' := I1) (J' := J1) rfl ?_
    refine Wp.steps 1 (pc' := if (lg_cmp v1 0) < 0 then 45 else 31) (lv' := [some (.ref 1), some (.ref 49), some (.int x2), some (.int x3), some (.int x4), some (.long v1), none]) (st' := []) (I' := I1) (J' := J1) rfl (Wp.ite (fun h2 => ?_) (fun h2 => ?_))
    · replace h := h.1 h2
      refine Wp.steps 1 (pc' := 47) (lv' := [some (.ref 1), some (.ref 49), some (.int x2), some (.int x3), some (.int x4), some (.long v1), none]) (st' := [.int (-2)]) (I' := I1) (J' := J1) rfl ?_
      exact Wp.ret rfl h
    · replace h := h.2 h2
      refine Wp.steps 4 (pc' := 39) (lv' := [some (.ref 1), some (.ref 49), some (.int x2), some (.int x3), some (.int x4), some (.long v1), none]) (st' := [.int x4, .ref 3, .long v1]) (I' := I1) (J' := J1) rfl ?_
      refine Wp.iald rfl rfl h.1 ?_
      replace h := h.2
      refine Wp.steps 2 (pc' := 42) (lv' := [some (.ref 1), some (.ref 49), some (.int x2), some (.int x3), some (.int x4), some (.long v1), none]) (st' := [.int (lg_cmp v1 (Int32.toInt64 (I1 3 (tN x4))))]) (I' := I1) (J' := J1) rfl ?_
      refine Wp.steps 1 (pc' := if 0 < (lg_cmp v1 (Int32.toInt64 (I1 3 (tN x4)))) then 45 else 48) (lv' := [some (.ref 1), some (.ref 49), some (.int x2), some (.int x3), some (.int x4), some (.long v1), none]) (st' := []) (I' := I1) (J' := J1) rfl (Wp.ite (fun h3 => ?_) (fun h3 => ?_))
      · replace h := h.1 h3
        refine Wp.steps 1 (pc' := 47) (lv' := [some (.ref 1), some (.ref 49), some (.int x2), some (.int x3), some (.int x4), some (.long v1), none]) (st' := [.int (-2)]) (I' := I1) (J' := J1) rfl ?_
        exact Wp.ret rfl h
      · replace h := h.2 h3
        refine Wp.steps 11 (pc' := 5) (lv' := [some (.ref 1), some (.ref 49), some (.int x2), some (.int (x3 ||| (slI (Int64.toInt32 v1) (2 * x4)))), some (.int (x4 + 1)), some (.long v1), none]) (st' := []) (I' := I1) (J' := J1) rfl ?_
        refine Wp.drop [5] (lv' := [some (.ref 1), some (.ref 49), some (.int x2), some (.int (x3 ||| (slI (Int64.toInt32 v1) (2 * x4)))), some (.int (x4 + 1)), none, none]) rfl ?_
        exact h
  · replace h := h.2 h1
    refine Wp.steps 1 (pc' := 66) (lv' := [some (.ref 1), some (.ref 49), some (.int x2), some (.int x3), some (.int x4), none, none]) (st' := [.int x3]) (I' := I) (J' := J) rfl ?_
    exact Wp.ret rfl h
theorem v_Bx_stateOf_1_51_0 {d : Nat} {Q : Post} {I : I2} {J : J2} {x2 : Int32} (h : Wp d Bx_stateOf Q 5 [some (.ref 1), some (.ref 51), some (.int x2), some (.int 0), some (.int 0), none, none] [] I J) : Wp d Bx_stateOf Q 0 [some (.ref 1), some (.ref 51), some (.int x2), none, none, none, none] [] I J := by
  refine Wp.steps 4 (pc' := 5) (lv' := [some (.ref 1), some (.ref 51), some (.int x2), some (.int 0), some (.int 0), none, none]) (st' := []) (I' := I) (J' := J) rfl ?_
  exact h
theorem v_Bx_stateOf_1_51_5 {d : Nat} {Q : Post} {I : I2} {J : J2} {x2 : Int32} {x3 : Int32} {x4 : Int32} (h : (x4 < (I 1 2) → CL d Sh_look [.ref 51, .int (x2 + x4)] I J (fun v1 I1 J1 => ((lg_cmp v1 0) < 0 → Q (some (.int (-2))) I1 J1) ∧ (¬ ((lg_cmp v1 0) < 0) → vp_in x4 5 ∧ ((0 < (lg_cmp v1 (Int32.toInt64 (I1 3 (tN x4)))) → Q (some (.int (-2))) I1 J1) ∧ (¬ (0 < (lg_cmp v1 (Int32.toInt64 (I1 3 (tN x4))))) → Wp d Bx_stateOf Q 5 [some (.ref 1), some (.ref 51), some (.int x2), some (.int (x3 ||| (slI (Int64.toInt32 v1) (2 * x4)))), some (.int (x4 + 1)), none, none] [] I1 J1))))) ∧ (¬ (x4 < (I 1 2)) → Q (some (.int x3)) I J)) : Wp d Bx_stateOf Q 5 [some (.ref 1), some (.ref 51), some (.int x2), some (.int x3), some (.int x4), none, none] [] I J := by
  refine Wp.steps 3 (pc' := 11) (lv' := [some (.ref 1), some (.ref 51), some (.int x2), some (.int x3), some (.int x4), none, none]) (st' := [.int (I 1 2), .int x4]) (I' := I) (J' := J) rfl ?_
  refine Wp.steps 1 (pc' := if x4 < (I 1 2) then 14 else 65) (lv' := [some (.ref 1), some (.ref 51), some (.int x2), some (.int x3), some (.int x4), none, none]) (st' := []) (I' := I) (J' := J) rfl (Wp.ite (fun h1 => ?_) (fun h1 => ?_))
  · replace h := h.1 h1
    refine Wp.steps 4 (pc' := 19) (lv' := [some (.ref 1), some (.ref 51), some (.int x2), some (.int x3), some (.int x4), none, none]) (st' := [.int (x2 + x4), .ref 51]) (I' := I) (J' := J) rfl ?_
    refine Wp.call (M' := Sh_look) (as := [.ref 51, .int (x2 + x4)]) (rest := []) rfl (CL.use h (fun v1 I1 J1 h => ?_))
    refine Wp.eqs (pc' := 22) (st' := [.long v1]) rfl rfl ?_
    refine Wp.steps 4 (pc' := 28) (lv' := [some (.ref 1), some (.ref 51), some (.int x2), some (.int x3), some (.int x4), some (.long v1), none]) (st' := [.int (lg_cmp v1 0)]) (I' := I1) (J' := J1) rfl ?_
    refine Wp.steps 1 (pc' := if (lg_cmp v1 0) < 0 then 45 else 31) (lv' := [some (.ref 1), some (.ref 51), some (.int x2), some (.int x3), some (.int x4), some (.long v1), none]) (st' := []) (I' := I1) (J' := J1) rfl (Wp.ite (fun h2 => ?_) (fun h2 => ?_))
    · replace h := h.1 h2
      refine Wp.steps 1 (pc' := 47) (lv' := [some (.ref 1), some (.ref 51), some (.int x2), some (.int x3), some (.int x4), some (.long v1), none]) (st' := [.int (-2)]) (I' := I1) (J' := J1) rfl ?_
      exact Wp.ret rfl h
    · replace h := h.2 h2
      refine Wp.steps 4 (pc' := 39) (lv' := [some (.ref 1), some (.ref 51), some (.int x2), some (.int x3), some (.int x4), some (.long v1), none]) (st' := [.int x4, .ref 3, .long v1]) (I' := I1) (J' := J1) rfl ?_
      refine Wp.iald rfl rfl h.1 ?_
      replace h := h.2
      refine Wp.steps 2 (pc' := 42) (lv' := [some (.ref 1), some (.ref 51), some (.int x2), some (.int x3), some (.int x4), some (.long v1), none]) (st' := [.int (lg_cmp v1 (Int32.toInt64 (I1 3 (tN x4))))]) (I' := I1) (J' := J1) rfl ?_
      refine Wp.steps 1 (pc' := if 0 < (lg_cmp v1 (Int32.toInt64 (I1 3 (tN x4)))) then 45 else 48) (lv' := [some (.ref 1), some (.ref 51), some (.int x2), some (.int x3), some (.int x4), some (.long v1), none]) (st' := []) (I' := I1) (J' := J1) rfl (Wp.ite (fun h3 => ?_) (fun h3 => ?_))
      · replace h := h.1 h3
        refine Wp.steps 1 (pc' := 47) (lv' := [some (.ref 1), some (.ref 51), some (.int x2), some (.int x3), some (.int x4), some (.long v1), none]) (st' := [.int (-2)]) (I' := I1) (J' := J1) rfl ?_
        exact Wp.ret rfl h
      · replace h := h.2 h3
        refine Wp.steps 11 (pc' := 5) (lv' := [some (.ref 1), some (.ref 51), some (.int x2), some (.int (x3 ||| (slI (Int64.toInt32 v1) (2 * x4)))), some (.int (x4 + 1)), some (.long v1), none]) (st' := []) (I' := I1) (J' := J1) rfl ?_
        refine Wp.drop [5] (lv' := [some (.ref 1), some (.ref 51), some (.int x2), some (.int (x3 ||| (slI (Int64.toInt32 v1) (2 * x4)))), some (.int (x4 + 1)), none, none]) rfl ?_
        exact h
  · replace h := h.2 h1
    refine Wp.steps 1 (pc' := 66) (lv' := [some (.ref 1), some (.ref 51), some (.int x2), some (.int x3), some (.int x4), none, none]) (st' := [.int x3]) (I' := I) (J' := J) rfl ?_
    exact Wp.ret rfl h
theorem v_Bx_stateOf_1_53_0 {d : Nat} {Q : Post} {I : I2} {J : J2} {x2 : Int32} (h : Wp d Bx_stateOf Q 5 [some (.ref 1), some (.ref 53), some (.int x2), some (.int 0), some (.int 0), none, none] [] I J) : Wp d Bx_stateOf Q 0 [some (.ref 1), some (.ref 53), some (.int x2), none, none, none, none] [] I J := by
  refine Wp.steps 4 (pc' := 5) (lv' := [some (.ref 1), some (.ref 53), some (.int x2), some (.int 0), some (.int 0), none, none]) (st' := []) (I' := I) (J' := J) rfl ?_
  exact h
theorem v_Bx_stateOf_1_53_5 {d : Nat} {Q : Post} {I : I2} {J : J2} {x2 : Int32} {x3 : Int32} {x4 : Int32} (h : (x4 < (I 1 2) → CL d Sh_look [.ref 53, .int (x2 + x4)] I J (fun v1 I1 J1 => ((lg_cmp v1 0) < 0 → Q (some (.int (-2))) I1 J1) ∧ (¬ ((lg_cmp v1 0) < 0) → vp_in x4 5 ∧ ((0 < (lg_cmp v1 (Int32.toInt64 (I1 3 (tN x4)))) → Q (some (.int (-2))) I1 J1) ∧ (¬ (0 < (lg_cmp v1 (Int32.toInt64 (I1 3 (tN x4))))) → Wp d Bx_stateOf Q 5 [some (.ref 1), some (.ref 53), some (.int x2), some (.int (x3 ||| (slI (Int64.toInt32 v1) (2 * x4)))), some (.int (x4 + 1)), none, none] [] I1 J1))))) ∧ (¬ (x4 < (I 1 2)) → Q (some (.int x3)) I J)) : Wp d Bx_stateOf Q 5 [some (.ref 1), some (.ref 53), some (.int x2), some (.int x3), some (.int x4), none, none] [] I J := by
  refine Wp.steps 3 (pc' := 11) (lv' := [some (.ref 1), some (.ref 53), some (.int x2), some (.int x3), some (.int x4), none, none]) (st' := [.int (I 1 2), .int x4]) (I' := I) (J' := J) rfl ?_
  refine Wp.steps 1 (pc' := if x4 < (I 1 2) then 14 else 65) (lv' := [some (.ref 1), some (.ref 53), some (.int x2), some (.int x3), some (.int x4), none, none]) (st' := []) (I' := I) (J' := J) rfl (Wp.ite (fun h1 => ?_) (fun h1 => ?_))
  · replace h := h.1 h1
    refine Wp.steps 4 (pc' := 19) (lv' := [some (.ref 1), some (.ref 53), some (.int x2), some (.int x3), some (.int x4), none, none]) (st' := [.int (x2 + x4), .ref 53]) (I' := I) (J' := J) rfl ?_
    refine Wp.call (M' := Sh_look) (as := [.ref 53, .int (x2 + x4)]) (rest := []) rfl (CL.use h (fun v1 I1 J1 h => ?_))
    refine Wp.eqs (pc' := 22) (st' := [.long v1]) rfl rfl ?_
    refine Wp.steps 4 (pc' := 28) (lv' := [some (.ref 1), some (.ref 53), some (.int x2), some (.int x3), some (.int x4), some (.long v1), none]) (st' := [.int (lg_cmp v1 0)]) (I' := I1) (J' := J1) rfl ?_
    refine Wp.steps 1 (pc' := if (lg_cmp v1 0) < 0 then 45 else 31) (lv' := [some (.ref 1), some (.ref 53), some (.int x2), some (.int x3), some (.int x4), some (.long v1), none]) (st' := []) (I' := I1) (J' := J1) rfl (Wp.ite (fun h2 => ?_) (fun h2 => ?_))
    · replace h := h.1 h2
      refine Wp.steps 1 (pc' := 47) (lv' := [some (.ref 1), some (.ref 53), some (.int x2), some (.int x3), some (.int x4), some (.long v1), none]) (st' := [.int (-2)]) (I' := I1) (J' := J1) rfl ?_
      exact Wp.ret rfl h
    · replace h := h.2 h2
      refine Wp.steps 4 (pc' := 39) (lv' := [some (.ref 1), some (.ref 53), some (.int x2), some (.int x3), some (.int x4), some (.long v1), none]) (st' := [.int x4, .ref 3, .long v1]) (I' := I1) (J' := J1) rfl ?_
      refine Wp.iald rfl rfl h.1 ?_
      replace h := h.2
      refine Wp.steps 2 (pc' := 42) (lv' := [some (.ref 1), some (.ref 53), some (.int x2), some (.int x3), some (.int x4), some (.long v1), none]) (st' := [.int (lg_cmp v1 (Int32.toInt64 (I1 3 (tN x4))))]) (I' := I1) (J' := J1) rfl ?_
      refine Wp.steps 1 (pc' := if 0 < (lg_cmp v1 (Int32.toInt64 (I1 3 (tN x4)))) then 45 else 48) (lv' := [some (.ref 1), some (.ref 53), some (.int x2), some (.int x3), some (.int x4), some (.long v1), none]) (st' := []) (I' := I1) (J' := J1) rfl (Wp.ite (fun h3 => ?_) (fun h3 => ?_))
      · replace h := h.1 h3
        refine Wp.steps 1 (pc' := 47) (lv' := [some (.ref 1), some (.ref 53), some (.int x2), some (.int x3), some (.int x4), some (.long v1), none]) (st' := [.int (-2)]) (I' := I1) (J' := J1) rfl ?_
        exact Wp.ret rfl h
      · replace h := h.2 h3
        refine Wp.steps 11 (pc' := 5) (lv' := [some (.ref 1), some (.ref 53), some (.int x2), some (.int (x3 ||| (slI (Int64.toInt32 v1) (2 * x4)))), some (.int (x4 + 1)), some (.long v1), none]) (st' := []) (I' := I1) (J' := J1) rfl ?_
        refine Wp.drop [5] (lv' := [some (.ref 1), some (.ref 53), some (.int x2), some (.int (x3 ||| (slI (Int64.toInt32 v1) (2 * x4)))), some (.int (x4 + 1)), none, none]) rfl ?_
        exact h
  · replace h := h.2 h1
    refine Wp.steps 1 (pc' := 66) (lv' := [some (.ref 1), some (.ref 53), some (.int x2), some (.int x3), some (.int x4), none, none]) (st' := [.int x3]) (I' := I) (J' := J) rfl ?_
    exact Wp.ret rfl h
theorem v_Bx_stateOf_1_55_0 {d : Nat} {Q : Post} {I : I2} {J : J2} {x2 : Int32} (h : Wp d Bx_stateOf Q 5 [some (.ref 1), some (.ref 55), some (.int x2), some (.int 0), some (.int 0), none, none] [] I J) : Wp d Bx_stateOf Q 0 [some (.ref 1), some (.ref 55), some (.int x2), none, none, none, none] [] I J := by
  refine Wp.steps 4 (pc' := 5) (lv' := [some (.ref 1), some (.ref 55), some (.int x2), some (.int 0), some (.int 0), none, none]) (st' := []) (I' := I) (J' := J) rfl ?_
  exact h
theorem v_Bx_stateOf_1_55_5 {d : Nat} {Q : Post} {I : I2} {J : J2} {x2 : Int32} {x3 : Int32} {x4 : Int32} (h : (x4 < (I 1 2) → CL d Sh_look [.ref 55, .int (x2 + x4)] I J (fun v1 I1 J1 => ((lg_cmp v1 0) < 0 → Q (some (.int (-2))) I1 J1) ∧ (¬ ((lg_cmp v1 0) < 0) → vp_in x4 5 ∧ ((0 < (lg_cmp v1 (Int32.toInt64 (I1 3 (tN x4)))) → Q (some (.int (-2))) I1 J1) ∧ (¬ (0 < (lg_cmp v1 (Int32.toInt64 (I1 3 (tN x4))))) → Wp d Bx_stateOf Q 5 [some (.ref 1), some (.ref 55), some (.int x2), some (.int (x3 ||| (slI (Int64.toInt32 v1) (2 * x4)))), some (.int (x4 + 1)), none, none] [] I1 J1))))) ∧ (¬ (x4 < (I 1 2)) → Q (some (.int x3)) I J)) : Wp d Bx_stateOf Q 5 [some (.ref 1), some (.ref 55), some (.int x2), some (.int x3), some (.int x4), none, none] [] I J := by
  refine Wp.steps 3 (pc' := 11) (lv' := [some (.ref 1), some (.ref 55), some (.int x2), some (.int x3), some (.int x4), none, none]) (st' := [.int (I 1 2), .int x4]) (I' := I) (J' := J) rfl ?_
  refine Wp.steps 1 (pc' := if x4 < (I 1 2) then 14 else 65) (lv' := [some (.ref 1), some (.ref 55), some (.int x2), some (.int x3), some (.int x4), none, none]) (st' := []) (I' := I) (J' := J) rfl (Wp.ite (fun h1 => ?_) (fun h1 => ?_))
  · replace h := h.1 h1
    refine Wp.steps 4 (pc' := 19) (lv' := [some (.ref 1), some (.ref 55), some (.int x2), some (.int x3), some (.int x4), none, none]) (st' := [.int (x2 + x4), .ref 55]) (I' := I) (J' := J) rfl ?_
    refine Wp.call (M' := Sh_look) (as := [.ref 55, .int (x2 + x4)]) (rest := []) rfl (CL.use h (fun v1 I1 J1 h => ?_))
    refine Wp.eqs (pc' := 22) (st' := [.long v1]) rfl rfl ?_
    refine Wp.steps 4 (pc' := 28) (lv' := [some (.ref 1), some (.ref 55), some (.int x2), some (.int x3), some (.int x4), some (.long v1), none]) (st' := [.int (lg_cmp v1 0)]) (I' := I1) (J' := J1) rfl ?_
    refine Wp.steps 1 (pc' := if (lg_cmp v1 0) < 0 then 45 else 31) (lv' := [some (.ref 1), some (.ref 55), some (.int x2), some (.int x3), some (.int x4), some (.long v1), none]) (st' := []) (I' := I1) (J' := J1) rfl (Wp.ite (fun h2 => ?_) (fun h2 => ?_))
    · replace h := h.1 h2
      refine Wp.steps 1 (pc' := 47) (lv' := [some (.ref 1), some (.ref 55), some (.int x2), some (.int x3), some (.int x4), some (.long v1), none]) (st' := [.int (-2)]) (I' := I1) (J' := J1) rfl ?_
      exact Wp.ret rfl h
    · replace h := h.2 h2
      refine Wp.steps 4 (pc' := 39) (lv' := [some (.ref 1), some (.ref 55), some (.int x2), some (.int x3), some (.int x4), some (.long v1), none]) (st' := [.int x4, .ref 3, .long v1]) (I' := I1) (J' := J1) rfl ?_
      refine Wp.iald rfl rfl h.1 ?_
      replace h := h.2
      refine Wp.steps 2 (pc' := 42) (lv' := [some (.ref 1), some (.ref 55), some (.int x2), some (.int x3), some (.int x4), some (.long v1), none]) (st' := [.int (lg_cmp v1 (Int32.toInt64 (I1 3 (tN x4))))]) (I' := I1) (J' := J1) rfl ?_
      refine Wp.steps 1 (pc' := if 0 < (lg_cmp v1 (Int32.toInt64 (I1 3 (tN x4)))) then 45 else 48) (lv' := [some (.ref 1), some (.ref 55), some (.int x2), some (.int x3), some (.int x4), some (.long v1), none]) (st' := []) (I' := I1) (J' := J1) rfl (Wp.ite (fun h3 => ?_) (fun h3 => ?_))
      · replace h := h.1 h3
        refine Wp.steps 1 (pc' := 47) (lv' := [some (.ref 1), some (.ref 55), some (.int x2), some (.int x3), some (.int x4), some (.long v1), none]) (st' := [.int (-2)]) (I' := I1) (J' := J1) rfl ?_
        exact Wp.ret rfl h
      · replace h := h.2 h3
        refine Wp.steps 11 (pc' := 5) (lv' := [some (.ref 1), some (.ref 55), some (.int x2), some (.int (x3 ||| (slI (Int64.toInt32 v1) (2 * x4)))), some (.int (x4 + 1)), some (.long v1), none]) (st' := []) (I' := I1) (J' := J1) rfl ?_
        refine Wp.drop [5] (lv' := [some (.ref 1), some (.ref 55), some (.int x2), some (.int (x3 ||| (slI (Int64.toInt32 v1) (2 * x4)))), some (.int (x4 + 1)), none, none]) rfl ?_
        exact h
  · replace h := h.2 h1
    refine Wp.steps 1 (pc' := 66) (lv' := [some (.ref 1), some (.ref 55), some (.int x2), some (.int x3), some (.int x4), none, none]) (st' := [.int x3]) (I' := I) (J' := J) rfl ?_
    exact Wp.ret rfl h
theorem v_Bx_fits_1_0 {d : Nat} {Q : Post} {I : I2} {J : J2} {x1 : Int32} {x2 : Int32} {x3 : Int32} (h : CI d Bx_hasPanel [.ref 1, .int x2] I J (fun v1 I1 J1 => (v1 = 0 → Q (some (.int 0)) I1 J1) ∧ (¬ (v1 = 0) → CI d Sb_placeIn [.int x1, .int x2] I1 J1 (fun v2 I2 J2 => (x3 = 0 → (v2 = 0 → Q (some (.int 0)) I2 J2) ∧ (¬ (v2 = 0) → vp_in x2 5 ∧ (((I2 2 (tN x2)) = 2 → CI d Bx_ringLets [.ref 1, .int x1, .int x2] I2 J2 (fun v3 I3 J3 => (v3 = 0 → Q (some (.int 0)) I3 J3) ∧ (¬ (v3 = 0) → Q (some (.int 1)) I3 J3))) ∧ (¬ ((I2 2 (tN x2)) = 2) → vp_in x2 5 ∧ (((I2 2 (tN x2)) = 4 → (x3 = 1 → CI d Bx_ringLets [.ref 1, .int x1, .int x2] I2 J2 (fun v3 I3 J3 => (v3 = 0 → Q (some (.int 0)) I3 J3) ∧ (¬ (v3 = 0) → Q (some (.int 1)) I3 J3))) ∧ (¬ (x3 = 1) → Q (some (.int 1)) I2 J2)) ∧ (¬ ((I2 2 (tN x2)) = 4) → Q (some (.int 1)) I2 J2)))))) ∧ (¬ (x3 = 0) → vp_in x2 5 ∧ ((v2 < (I2 3 (tN x2)) → vp_in x2 5 ∧ (((I2 2 (tN x2)) = 2 → CI d Bx_ringLets [.ref 1, .int x1, .int x2] I2 J2 (fun v3 I3 J3 => (v3 = 0 → Q (some (.int 0)) I3 J3) ∧ (¬ (v3 = 0) → Q (some (.int 1)) I3 J3))) ∧ (¬ ((I2 2 (tN x2)) = 2) → vp_in x2 5 ∧ (((I2 2 (tN x2)) = 4 → (x3 = 1 → CI d Bx_ringLets [.ref 1, .int x1, .int x2] I2 J2 (fun v3 I3 J3 => (v3 = 0 → Q (some (.int 0)) I3 J3) ∧ (¬ (v3 = 0) → Q (some (.int 1)) I3 J3))) ∧ (¬ (x3 = 1) → Q (some (.int 1)) I2 J2)) ∧ (¬ ((I2 2 (tN x2)) = 4) → Q (some (.int 1)) I2 J2))))) ∧ (¬ (v2 < (I2 3 (tN x2))) → Q (some (.int 0)) I2 J2))))))) : Wp d Bx_fits Q 0 [some (.ref 1), some (.int x1), some (.int x2), some (.int x3), none, none] [] I J := by
  refine Wp.steps 2 (pc' := 2) (lv' := [some (.ref 1), some (.int x1), some (.int x2), some (.int x3), none, none]) (st' := [.int x2, .ref 1]) (I' := I) (J' := J) rfl ?_
  refine Wp.call (M' := Bx_hasPanel) (as := [.ref 1, .int x2]) (rest := []) rfl (CI.use h (fun v1 I1 J1 h => ?_))
  refine Wp.eqs (pc' := 5) (st' := [.int v1]) rfl rfl ?_
  refine Wp.steps 1 (pc' := if v1 = 0 then 8 else 10) (lv' := [some (.ref 1), some (.int x1), some (.int x2), some (.int x3), none, none]) (st' := []) (I' := I1) (J' := J1) rfl (Wp.ite (fun h1 => ?_) (fun h1 => ?_))
  · replace h := h.1 h1
    refine Wp.steps 1 (pc' := 9) (lv' := [some (.ref 1), some (.int x1), some (.int x2), some (.int x3), none, none]) (st' := [.int 0]) (I' := I1) (J' := J1) rfl ?_
    exact Wp.ret rfl h
  · replace h := h.2 h1
    refine Wp.steps 2 (pc' := 12) (lv' := [some (.ref 1), some (.int x1), some (.int x2), some (.int x3), none, none]) (st' := [.int x2, .int x1]) (I' := I1) (J' := J1) rfl ?_
    refine Wp.call (M' := Sb_placeIn) (as := [.int x1, .int x2]) (rest := []) rfl (CI.use h (fun v2 I2 J2 h => ?_))
    refine Wp.eqs (pc' := 15) (st' := [.int v2]) rfl rfl ?_
    refine Wp.steps 2 (pc' := 18) (lv' := [some (.ref 1), some (.int x1), some (.int x2), some (.int x3), some (.int v2), none]) (st' := [.int x3]) (I' := I2) (J' := J2) rfl ?_
    refine Wp.steps 1 (pc' := if x3 = 0 then 21 else 29) (lv' := [some (.ref 1), some (.int x1), some (.int x2), some (.int x3), some (.int v2), none]) (st' := []) (I' := I2) (J' := J2) rfl (Wp.ite (fun h2 => ?_) (fun h2 => ?_))
    · replace h := h.1 h2
      refine Wp.steps 1 (pc' := 23) (lv' := [some (.ref 1), some (.int x1), some (.int x2), some (.int x3), some (.int v2), none]) (st' := [.int v2]) (I' := I2) (J' := J2) rfl ?_
      refine Wp.steps 1 (pc' := if v2 = 0 then 26 else 42) (lv' := [some (.ref 1), some (.int x1), some (.int x2), some (.int x3), some (.int v2), none]) (st' := []) (I' := I2) (J' := J2) rfl (Wp.ite (fun h3 => ?_) (fun h3 => ?_))
      · replace h := h.1 h3
        refine Wp.steps 2 (pc' := 41) (lv' := [some (.ref 1), some (.int x1), some (.int x2), some (.int x3), some (.int v2), none]) (st' := [.int 0]) (I' := I2) (J' := J2) rfl ?_
        exact Wp.ret rfl h
      · replace h := h.2 h3
        refine Wp.steps 3 (pc' := 47) (lv' := [some (.ref 1), some (.int x1), some (.int x2), some (.int x3), some (.int v2), none]) (st' := [.int x2, .ref 2]) (I' := I2) (J' := J2) rfl ?_
        refine Wp.iald rfl rfl h.1 ?_
        replace h := h.2
        refine Wp.steps 1 (pc' := 49) (lv' := [some (.ref 1), some (.int x1), some (.int x2), some (.int x3), some (.int v2), none]) (st' := [.int 2, .int (I2 2 (tN x2))]) (I' := I2) (J' := J2) rfl ?_
        refine Wp.steps 1 (pc' := if (I2 2 (tN x2)) = 2 then 67 else 52) (lv' := [some (.ref 1), some (.int x1), some (.int x2), some (.int x3), some (.int v2), none]) (st' := []) (I' := I2) (J' := J2) rfl (Wp.ite (fun h4 => ?_) (fun h4 => ?_))
        · replace h := h.1 h4
          refine Wp.steps 8 (pc' := 82) (lv' := [some (.ref 1), some (.int x1), some (.int x2), some (.int x3), some (.int v2), some (.int 1)]) (st' := [.int x2, .int x1, .ref 1]) (I' := I2) (J' := J2) rfl ?_
          refine Wp.call (M' := Bx_ringLets) (as := [.ref 1, .int x1, .int x2]) (rest := []) rfl (CI.use h (fun v3 I3 J3 h => ?_))
          refine Wp.eqs (pc' := 85) (st' := [.int v3]) rfl rfl ?_
          refine Wp.steps 1 (pc' := if v3 = 0 then 92 else 88) (lv' := [some (.ref 1), some (.int x1), some (.int x2), some (.int x3), some (.int v2), some (.int 1)]) (st' := []) (I' := I3) (J' := J3) rfl (Wp.ite (fun h5 => ?_) (fun h5 => ?_))
          · replace h := h.1 h5
            refine Wp.steps 1 (pc' := 93) (lv' := [some (.ref 1), some (.int x1), some (.int x2), some (.int x3), some (.int v2), some (.int 1)]) (st' := [.int 0]) (I' := I3) (J' := J3) rfl ?_
            exact Wp.ret rfl h
          · replace h := h.2 h5
            refine Wp.steps 2 (pc' := 93) (lv' := [some (.ref 1), some (.int x1), some (.int x2), some (.int x3), some (.int v2), some (.int 1)]) (st' := [.int 1]) (I' := I3) (J' := J3) rfl ?_
            exact Wp.ret rfl h
        · replace h := h.2 h4
          refine Wp.steps 3 (pc' := 57) (lv' := [some (.ref 1), some (.int x1), some (.int x2), some (.int x3), some (.int v2), none]) (st' := [.int x2, .ref 2]) (I' := I2) (J' := J2) rfl ?_
          refine Wp.iald rfl rfl h.1 ?_
          replace h := h.2
          refine Wp.steps 1 (pc' := 59) (lv' := [some (.ref 1), some (.int x1), some (.int x2), some (.int x3), some (.int v2), none]) (st' := [.int 4, .int (I2 2 (tN x2))]) (I' := I2) (J' := J2) rfl ?_
          refine Wp.steps 1 (pc' := if (I2 2 (tN x2)) = 4 then 62 else 71) (lv' := [some (.ref 1), some (.int x1), some (.int x2), some (.int x3), some (.int v2), none]) (st' := []) (I' := I2) (J' := J2) rfl (Wp.ite (fun h5 => ?_) (fun h5 => ?_))
          · replace h := h.1 h5
            refine Wp.steps 2 (pc' := 64) (lv' := [some (.ref 1), some (.int x1), some (.int x2), some (.int x3), some (.int v2), none]) (st' := [.int 1, .int x3]) (I' := I2) (J' := J2) rfl ?_
            refine Wp.steps 1 (pc' := if x3 = 1 then 67 else 71) (lv' := [some (.ref 1), some (.int x1), some (.int x2), some (.int x3), some (.int v2), none]) (st' := []) (I' := I2) (J' := J2) rfl (Wp.ite (fun h6 => ?_) (fun h6 => ?_))
            · replace h := h.1 h6
              refine Wp.steps 8 (pc' := 82) (lv' := [some (.ref 1), some (.int x1), some (.int x2), some (.int x3), some (.int v2), some (.int 1)]) (st' := [.int x2, .int x1, .ref 1]) (I' := I2) (J' := J2) rfl ?_
              refine Wp.call (M' := Bx_ringLets) (as := [.ref 1, .int x1, .int x2]) (rest := []) rfl (CI.use h (fun v3 I3 J3 h => ?_))
              refine Wp.eqs (pc' := 85) (st' := [.int v3]) rfl rfl ?_
              refine Wp.steps 1 (pc' := if v3 = 0 then 92 else 88) (lv' := [some (.ref 1), some (.int x1), some (.int x2), some (.int x3), some (.int v2), some (.int 1)]) (st' := []) (I' := I3) (J' := J3) rfl (Wp.ite (fun h7 => ?_) (fun h7 => ?_))
              · replace h := h.1 h7
                refine Wp.steps 1 (pc' := 93) (lv' := [some (.ref 1), some (.int x1), some (.int x2), some (.int x3), some (.int v2), some (.int 1)]) (st' := [.int 0]) (I' := I3) (J' := J3) rfl ?_
                exact Wp.ret rfl h
              · replace h := h.2 h7
                refine Wp.steps 2 (pc' := 93) (lv' := [some (.ref 1), some (.int x1), some (.int x2), some (.int x3), some (.int v2), some (.int 1)]) (st' := [.int 1]) (I' := I3) (J' := J3) rfl ?_
                exact Wp.ret rfl h
            · replace h := h.2 h6
              refine Wp.steps 6 (pc' := 93) (lv' := [some (.ref 1), some (.int x1), some (.int x2), some (.int x3), some (.int v2), some (.int 0)]) (st' := [.int 1]) (I' := I2) (J' := J2) rfl ?_
              exact Wp.ret rfl h
          · replace h := h.2 h5
            refine Wp.steps 6 (pc' := 93) (lv' := [some (.ref 1), some (.int x1), some (.int x2), some (.int x3), some (.int v2), some (.int 0)]) (st' := [.int 1]) (I' := I2) (J' := J2) rfl ?_
            exact Wp.ret rfl h
    · replace h := h.2 h2
      refine Wp.steps 4 (pc' := 36) (lv' := [some (.ref 1), some (.int x1), some (.int x2), some (.int x3), some (.int v2), none]) (st' := [.int x2, .ref 3, .int v2]) (I' := I2) (J' := J2) rfl ?_
      refine Wp.iald rfl rfl h.1 ?_
      replace h := h.2
      refine Wp.steps 1 (pc' := if v2 < (I2 3 (tN x2)) then 42 else 40) (lv' := [some (.ref 1), some (.int x1), some (.int x2), some (.int x3), some (.int v2), none]) (st' := []) (I' := I2) (J' := J2) rfl (Wp.ite (fun h3 => ?_) (fun h3 => ?_))
      · replace h := h.1 h3
        refine Wp.steps 3 (pc' := 47) (lv' := [some (.ref 1), some (.int x1), some (.int x2), some (.int x3), some (.int v2), none]) (st' := [.int x2, .ref 2]) (I' := I2) (J' := J2) rfl ?_
        refine Wp.iald rfl rfl h.1 ?_
        replace h := h.2
        refine Wp.steps 1 (pc' := 49) (lv' := [some (.ref 1), some (.int x1), some (.int x2), some (.int x3), some (.int v2), none]) (st' := [.int 2, .int (I2 2 (tN x2))]) (I' := I2) (J' := J2) rfl ?_
        refine Wp.steps 1 (pc' := if (I2 2 (tN x2)) = 2 then 67 else 52) (lv' := [some (.ref 1), some (.int x1), some (.int x2), some (.int x3), some (.int v2), none]) (st' := []) (I' := I2) (J' := J2) rfl (Wp.ite (fun h4 => ?_) (fun h4 => ?_))
        · replace h := h.1 h4
          refine Wp.steps 8 (pc' := 82) (lv' := [some (.ref 1), some (.int x1), some (.int x2), some (.int x3), some (.int v2), some (.int 1)]) (st' := [.int x2, .int x1, .ref 1]) (I' := I2) (J' := J2) rfl ?_
          refine Wp.call (M' := Bx_ringLets) (as := [.ref 1, .int x1, .int x2]) (rest := []) rfl (CI.use h (fun v3 I3 J3 h => ?_))
          refine Wp.eqs (pc' := 85) (st' := [.int v3]) rfl rfl ?_
          refine Wp.steps 1 (pc' := if v3 = 0 then 92 else 88) (lv' := [some (.ref 1), some (.int x1), some (.int x2), some (.int x3), some (.int v2), some (.int 1)]) (st' := []) (I' := I3) (J' := J3) rfl (Wp.ite (fun h5 => ?_) (fun h5 => ?_))
          · replace h := h.1 h5
            refine Wp.steps 1 (pc' := 93) (lv' := [some (.ref 1), some (.int x1), some (.int x2), some (.int x3), some (.int v2), some (.int 1)]) (st' := [.int 0]) (I' := I3) (J' := J3) rfl ?_
            exact Wp.ret rfl h
          · replace h := h.2 h5
            refine Wp.steps 2 (pc' := 93) (lv' := [some (.ref 1), some (.int x1), some (.int x2), some (.int x3), some (.int v2), some (.int 1)]) (st' := [.int 1]) (I' := I3) (J' := J3) rfl ?_
            exact Wp.ret rfl h
        · replace h := h.2 h4
          refine Wp.steps 3 (pc' := 57) (lv' := [some (.ref 1), some (.int x1), some (.int x2), some (.int x3), some (.int v2), none]) (st' := [.int x2, .ref 2]) (I' := I2) (J' := J2) rfl ?_
          refine Wp.iald rfl rfl h.1 ?_
          replace h := h.2
          refine Wp.steps 1 (pc' := 59) (lv' := [some (.ref 1), some (.int x1), some (.int x2), some (.int x3), some (.int v2), none]) (st' := [.int 4, .int (I2 2 (tN x2))]) (I' := I2) (J' := J2) rfl ?_
          refine Wp.steps 1 (pc' := if (I2 2 (tN x2)) = 4 then 62 else 71) (lv' := [some (.ref 1), some (.int x1), some (.int x2), some (.int x3), some (.int v2), none]) (st' := []) (I' := I2) (J' := J2) rfl (Wp.ite (fun h5 => ?_) (fun h5 => ?_))
          · replace h := h.1 h5
            refine Wp.steps 2 (pc' := 64) (lv' := [some (.ref 1), some (.int x1), some (.int x2), some (.int x3), some (.int v2), none]) (st' := [.int 1, .int x3]) (I' := I2) (J' := J2) rfl ?_
            refine Wp.steps 1 (pc' := if x3 = 1 then 67 else 71) (lv' := [some (.ref 1), some (.int x1), some (.int x2), some (.int x3), some (.int v2), none]) (st' := []) (I' := I2) (J' := J2) rfl (Wp.ite (fun h6 => ?_) (fun h6 => ?_))
            · replace h := h.1 h6
              refine Wp.steps 8 (pc' := 82) (lv' := [some (.ref 1), some (.int x1), some (.int x2), some (.int x3), some (.int v2), some (.int 1)]) (st' := [.int x2, .int x1, .ref 1]) (I' := I2) (J' := J2) rfl ?_
              refine Wp.call (M' := Bx_ringLets) (as := [.ref 1, .int x1, .int x2]) (rest := []) rfl (CI.use h (fun v3 I3 J3 h => ?_))
              refine Wp.eqs (pc' := 85) (st' := [.int v3]) rfl rfl ?_
              refine Wp.steps 1 (pc' := if v3 = 0 then 92 else 88) (lv' := [some (.ref 1), some (.int x1), some (.int x2), some (.int x3), some (.int v2), some (.int 1)]) (st' := []) (I' := I3) (J' := J3) rfl (Wp.ite (fun h7 => ?_) (fun h7 => ?_))
              · replace h := h.1 h7
                refine Wp.steps 1 (pc' := 93) (lv' := [some (.ref 1), some (.int x1), some (.int x2), some (.int x3), some (.int v2), some (.int 1)]) (st' := [.int 0]) (I' := I3) (J' := J3) rfl ?_
                exact Wp.ret rfl h
              · replace h := h.2 h7
                refine Wp.steps 2 (pc' := 93) (lv' := [some (.ref 1), some (.int x1), some (.int x2), some (.int x3), some (.int v2), some (.int 1)]) (st' := [.int 1]) (I' := I3) (J' := J3) rfl ?_
                exact Wp.ret rfl h
            · replace h := h.2 h6
              refine Wp.steps 6 (pc' := 93) (lv' := [some (.ref 1), some (.int x1), some (.int x2), some (.int x3), some (.int v2), some (.int 0)]) (st' := [.int 1]) (I' := I2) (J' := J2) rfl ?_
              exact Wp.ret rfl h
          · replace h := h.2 h5
            refine Wp.steps 6 (pc' := 93) (lv' := [some (.ref 1), some (.int x1), some (.int x2), some (.int x3), some (.int v2), some (.int 0)]) (st' := [.int 1]) (I' := I2) (J' := J2) rfl ?_
            exact Wp.ret rfl h
      · replace h := h.2 h3
        refine Wp.steps 1 (pc' := 41) (lv' := [some (.ref 1), some (.int x1), some (.int x2), some (.int x3), some (.int v2), none]) (st' := [.int 0]) (I' := I2) (J' := J2) rfl ?_
        exact Wp.ret rfl h
theorem v_Bx_holding_1_0 {d : Nat} {Q : Post} {I : I2} {J : J2} {x1 : Int32} {x2 : Int32} {x3 : Int32} (h : Wp d Bx_holding Q 6 [some (.ref 1), some (.int x1), some (.int x2), some (.int x3), some (.int 0), some (.int 0)] [] I J) : Wp d Bx_holding Q 0 [some (.ref 1), some (.int x1), some (.int x2), some (.int x3), none, none] [] I J := by
  refine Wp.steps 4 (pc' := 6) (lv' := [some (.ref 1), some (.int x1), some (.int x2), some (.int x3), some (.int 0), some (.int 0)]) (st' := []) (I' := I) (J' := J) rfl ?_
  exact h
theorem v_Bx_holding_1_6 {d : Nat} {Q : Post} {I : I2} {J : J2} {x1 : Int32} {x2 : Int32} {x3 : Int32} {x4 : Int32} {x5 : Int32} (h : (x5 < (I 1 7) → vp_in x5 6 ∧ (((I 4 (tN x5)) = x2 → vp_in x5 6 ∧ (((I 5 (tN x5)) = 2 → CI d Bx_isMet [.ref 1, .int x5, .int x1] I J (fun v1 I1 J1 => (v1 = 0 → Wp d Bx_holding Q 6 [some (.ref 1), some (.int x1), some (.int x2), some (.int x3), some (.int (x4 ||| (slI 1 x5))), some (.int (x5 + 1))] [] I1 J1) ∧ (¬ (v1 = 0) → Wp d Bx_holding Q 6 [some (.ref 1), some (.int x1), some (.int x2), some (.int x3), some (.int x4), some (.int (x5 + 1))] [] I1 J1))) ∧ (¬ ((I 5 (tN x5)) = 2) → vp_in x5 6 ∧ (((I 5 (tN x5)) = x3 → CI d Bx_isMet [.ref 1, .int x5, .int x1] I J (fun v1 I1 J1 => (v1 = 0 → Wp d Bx_holding Q 6 [some (.ref 1), some (.int x1), some (.int x2), some (.int x3), some (.int (x4 ||| (slI 1 x5))), some (.int (x5 + 1))] [] I1 J1) ∧ (¬ (v1 = 0) → Wp d Bx_holding Q 6 [some (.ref 1), some (.int x1), some (.int x2), some (.int x3), some (.int x4), some (.int (x5 + 1))] [] I1 J1))) ∧ (¬ ((I 5 (tN x5)) = x3) → Wp d Bx_holding Q 6 [some (.ref 1), some (.int x1), some (.int x2), some (.int x3), some (.int x4), some (.int (x5 + 1))] [] I J))))) ∧ (¬ ((I 4 (tN x5)) = x2) → Wp d Bx_holding Q 6 [some (.ref 1), some (.int x1), some (.int x2), some (.int x3), some (.int x4), some (.int (x5 + 1))] [] I J))) ∧ (¬ (x5 < (I 1 7)) → Q (some (.int x4)) I J)) : Wp d Bx_holding Q 6 [some (.ref 1), some (.int x1), some (.int x2), some (.int x3), some (.int x4), some (.int x5)] [] I J := by
  refine Wp.steps 3 (pc' := 12) (lv' := [some (.ref 1), some (.int x1), some (.int x2), some (.int x3), some (.int x4), some (.int x5)]) (st' := [.int (I 1 7), .int x5]) (I' := I) (J' := J) rfl ?_
  refine Wp.steps 1 (pc' := if x5 < (I 1 7) then 15 else 76) (lv' := [some (.ref 1), some (.int x1), some (.int x2), some (.int x3), some (.int x4), some (.int x5)]) (st' := []) (I' := I) (J' := J) rfl (Wp.ite (fun h1 => ?_) (fun h1 => ?_))
  · replace h := h.1 h1
    refine Wp.steps 3 (pc' := 21) (lv' := [some (.ref 1), some (.int x1), some (.int x2), some (.int x3), some (.int x4), some (.int x5)]) (st' := [.int x5, .ref 4]) (I' := I) (J' := J) rfl ?_
    refine Wp.iald rfl rfl h.1 ?_
    replace h := h.2
    refine Wp.steps 1 (pc' := 23) (lv' := [some (.ref 1), some (.int x1), some (.int x2), some (.int x3), some (.int x4), some (.int x5)]) (st' := [.int x2, .int (I 4 (tN x5))]) (I' := I) (J' := J) rfl ?_
    refine Wp.steps 1 (pc' := if (I 4 (tN x5)) = x2 then 26 else 70) (lv' := [some (.ref 1), some (.int x1), some (.int x2), some (.int x3), some (.int x4), some (.int x5)]) (st' := []) (I' := I) (J' := J) rfl (Wp.ite (fun h2 => ?_) (fun h2 => ?_))
    · replace h := h.1 h2
      refine Wp.steps 3 (pc' := 32) (lv' := [some (.ref 1), some (.int x1), some (.int x2), some (.int x3), some (.int x4), some (.int x5)]) (st' := [.int x5, .ref 5]) (I' := I) (J' := J) rfl ?_
      refine Wp.iald rfl rfl h.1 ?_
      replace h := h.2
      refine Wp.steps 1 (pc' := 34) (lv' := [some (.ref 1), some (.int x1), some (.int x2), some (.int x3), some (.int x4), some (.int x5)]) (st' := [.int 2, .int (I 5 (tN x5))]) (I' := I) (J' := J) rfl ?_
      refine Wp.steps 1 (pc' := if (I 5 (tN x5)) = 2 then 51 else 37) (lv' := [some (.ref 1), some (.int x1), some (.int x2), some (.int x3), some (.int x4), some (.int x5)]) (st' := []) (I' := I) (J' := J) rfl (Wp.ite (fun h3 => ?_) (fun h3 => ?_))
      · replace h := h.1 h3
        refine Wp.steps 3 (pc' := 55) (lv' := [some (.ref 1), some (.int x1), some (.int x2), some (.int x3), some (.int x4), some (.int x5)]) (st' := [.int x1, .int x5, .ref 1]) (I' := I) (J' := J) rfl ?_
        refine Wp.call (M' := Bx_isMet) (as := [.ref 1, .int x5, .int x1]) (rest := []) rfl (CI.use h (fun v1 I1 J1 h => ?_))
        refine Wp.eqs (pc' := 58) (st' := [.int v1]) rfl rfl ?_
        refine Wp.steps 1 (pc' := if v1 = 0 then 61 else 70) (lv' := [some (.ref 1), some (.int x1), some (.int x2), some (.int x3), some (.int x4), some (.int x5)]) (st' := []) (I' := I1) (J' := J1) rfl (Wp.ite (fun h4 => ?_) (fun h4 => ?_))
        · replace h := h.1 h4
          refine Wp.steps 8 (pc' := 6) (lv' := [some (.ref 1), some (.int x1), some (.int x2), some (.int x3), some (.int (x4 ||| (slI 1 x5))), some (.int (x5 + 1))]) (st' := []) (I' := I1) (J' := J1) rfl ?_
          exact h
        · replace h := h.2 h4
          refine Wp.steps 2 (pc' := 6) (lv' := [some (.ref 1), some (.int x1), some (.int x2), some (.int x3), some (.int x4), some (.int (x5 + 1))]) (st' := []) (I' := I1) (J' := J1) rfl ?_
          exact h
      · replace h := h.2 h3
        refine Wp.steps 3 (pc' := 43) (lv' := [some (.ref 1), some (.int x1), some (.int x2), some (.int x3), some (.int x4), some (.int x5)]) (st' := [.int x5, .ref 5]) (I' := I) (J' := J) rfl ?_
        refine Wp.iald rfl rfl h.1 ?_
        replace h := h.2
        refine Wp.steps 1 (pc' := 45) (lv' := [some (.ref 1), some (.int x1), some (.int x2), some (.int x3), some (.int x4), some (.int x5)]) (st' := [.int x3, .int (I 5 (tN x5))]) (I' := I) (J' := J) rfl ?_
        refine Wp.steps 1 (pc' := if (I 5 (tN x5)) = x3 then 51 else 48) (lv' := [some (.ref 1), some (.int x1), some (.int x2), some (.int x3), some (.int x4), some (.int x5)]) (st' := []) (I' := I) (J' := J) rfl (Wp.ite (fun h4 => ?_) (fun h4 => ?_))
        · replace h := h.1 h4
          refine Wp.steps 3 (pc' := 55) (lv' := [some (.ref 1), some (.int x1), some (.int x2), some (.int x3), some (.int x4), some (.int x5)]) (st' := [.int x1, .int x5, .ref 1]) (I' := I) (J' := J) rfl ?_
          refine Wp.call (M' := Bx_isMet) (as := [.ref 1, .int x5, .int x1]) (rest := []) rfl (CI.use h (fun v1 I1 J1 h => ?_))
          refine Wp.eqs (pc' := 58) (st' := [.int v1]) rfl rfl ?_
          refine Wp.steps 1 (pc' := if v1 = 0 then 61 else 70) (lv' := [some (.ref 1), some (.int x1), some (.int x2), some (.int x3), some (.int x4), some (.int x5)]) (st' := []) (I' := I1) (J' := J1) rfl (Wp.ite (fun h5 => ?_) (fun h5 => ?_))
          · replace h := h.1 h5
            refine Wp.steps 8 (pc' := 6) (lv' := [some (.ref 1), some (.int x1), some (.int x2), some (.int x3), some (.int (x4 ||| (slI 1 x5))), some (.int (x5 + 1))]) (st' := []) (I' := I1) (J' := J1) rfl ?_
            exact h
          · replace h := h.2 h5
            refine Wp.steps 2 (pc' := 6) (lv' := [some (.ref 1), some (.int x1), some (.int x2), some (.int x3), some (.int x4), some (.int (x5 + 1))]) (st' := []) (I' := I1) (J' := J1) rfl ?_
            exact h
        · replace h := h.2 h4
          refine Wp.steps 3 (pc' := 6) (lv' := [some (.ref 1), some (.int x1), some (.int x2), some (.int x3), some (.int x4), some (.int (x5 + 1))]) (st' := []) (I' := I) (J' := J) rfl ?_
          exact h
    · replace h := h.2 h2
      refine Wp.steps 2 (pc' := 6) (lv' := [some (.ref 1), some (.int x1), some (.int x2), some (.int x3), some (.int x4), some (.int (x5 + 1))]) (st' := []) (I' := I) (J' := J) rfl ?_
      exact h
  · replace h := h.2 h1
    refine Wp.steps 1 (pc' := 78) (lv' := [some (.ref 1), some (.int x1), some (.int x2), some (.int x3), some (.int x4), some (.int x5)]) (st' := [.int x4]) (I' := I) (J' := J) rfl ?_
    exact Wp.ret rfl h
theorem v_Bx_slipsBack_1_0 {d : Nat} {Q : Post} {I : I2} {J : J2} {x1 : Int32} {x2 : Int32} (h : (x2 = 0 → Q (some (.int 0)) I J) ∧ (¬ (x2 = 0) → vp_in x1 5 ∧ (((I 2 (tN x1)) = 1 → Q (some (.int 1)) I J) ∧ (¬ ((I 2 (tN x1)) = 1) → vp_in x1 5 ∧ (((I 2 (tN x1)) = 3 → vp_in x1 5 ∧ ((x2 < (I 3 (tN x1)) → Q (some (.int 1)) I J) ∧ (¬ (x2 < (I 3 (tN x1))) → Q (some (.int 0)) I J))) ∧ (¬ ((I 2 (tN x1)) = 3) → Q (some (.int 0)) I J)))))) : Wp d Bx_slipsBack Q 0 [some (.ref 1), some (.int x1), some (.int x2)] [] I J := by
  refine Wp.steps 1 (pc' := 1) (lv' := [some (.ref 1), some (.int x1), some (.int x2)]) (st' := [.int x2]) (I' := I) (J' := J) rfl ?_
  refine Wp.steps 1 (pc' := if x2 = 0 then 4 else 6) (lv' := [some (.ref 1), some (.int x1), some (.int x2)]) (st' := []) (I' := I) (J' := J) rfl (Wp.ite (fun h1 => ?_) (fun h1 => ?_))
  · replace h := h.1 h1
    refine Wp.steps 1 (pc' := 5) (lv' := [some (.ref 1), some (.int x1), some (.int x2)]) (st' := [.int 0]) (I' := I) (J' := J) rfl ?_
    exact Wp.ret rfl h
  · replace h := h.2 h1
    refine Wp.steps 3 (pc' := 11) (lv' := [some (.ref 1), some (.int x1), some (.int x2)]) (st' := [.int x1, .ref 2]) (I' := I) (J' := J) rfl ?_
    refine Wp.iald rfl rfl h.1 ?_
    replace h := h.2
    refine Wp.steps 1 (pc' := 13) (lv' := [some (.ref 1), some (.int x1), some (.int x2)]) (st' := [.int 1, .int (I 2 (tN x1))]) (I' := I) (J' := J) rfl ?_
    refine Wp.steps 1 (pc' := if (I 2 (tN x1)) = 1 then 36 else 16) (lv' := [some (.ref 1), some (.int x1), some (.int x2)]) (st' := []) (I' := I) (J' := J) rfl (Wp.ite (fun h2 => ?_) (fun h2 => ?_))
    · replace h := h.1 h2
      refine Wp.steps 2 (pc' := 41) (lv' := [some (.ref 1), some (.int x1), some (.int x2)]) (st' := [.int 1]) (I' := I) (J' := J) rfl ?_
      exact Wp.ret rfl h
    · replace h := h.2 h2
      refine Wp.steps 3 (pc' := 21) (lv' := [some (.ref 1), some (.int x1), some (.int x2)]) (st' := [.int x1, .ref 2]) (I' := I) (J' := J) rfl ?_
      refine Wp.iald rfl rfl h.1 ?_
      replace h := h.2
      refine Wp.steps 1 (pc' := 23) (lv' := [some (.ref 1), some (.int x1), some (.int x2)]) (st' := [.int 3, .int (I 2 (tN x1))]) (I' := I) (J' := J) rfl ?_
      refine Wp.steps 1 (pc' := if (I 2 (tN x1)) = 3 then 26 else 40) (lv' := [some (.ref 1), some (.int x1), some (.int x2)]) (st' := []) (I' := I) (J' := J) rfl (Wp.ite (fun h3 => ?_) (fun h3 => ?_))
      · replace h := h.1 h3
        refine Wp.steps 4 (pc' := 32) (lv' := [some (.ref 1), some (.int x1), some (.int x2)]) (st' := [.int x1, .ref 3, .int x2]) (I' := I) (J' := J) rfl ?_
        refine Wp.iald rfl rfl h.1 ?_
        replace h := h.2
        refine Wp.steps 1 (pc' := if x2 < (I 3 (tN x1)) then 36 else 40) (lv' := [some (.ref 1), some (.int x1), some (.int x2)]) (st' := []) (I' := I) (J' := J) rfl (Wp.ite (fun h4 => ?_) (fun h4 => ?_))
        · replace h := h.1 h4
          refine Wp.steps 2 (pc' := 41) (lv' := [some (.ref 1), some (.int x1), some (.int x2)]) (st' := [.int 1]) (I' := I) (J' := J) rfl ?_
          exact Wp.ret rfl h
        · replace h := h.2 h4
          refine Wp.steps 1 (pc' := 41) (lv' := [some (.ref 1), some (.int x1), some (.int x2)]) (st' := [.int 0]) (I' := I) (J' := J) rfl ?_
          exact Wp.ret rfl h
      · replace h := h.2 h3
        refine Wp.steps 1 (pc' := 41) (lv' := [some (.ref 1), some (.int x1), some (.int x2)]) (st' := [.int 0]) (I' := I) (J' := J) rfl ?_
        exact Wp.ret rfl h
theorem v_Bx_clear_21_0 {d : Nat} {Q : Post} {I : I2} {J : J2} (h : CV d Bx_forget [.ref 21] (up2 (up2 (up2 (up2 (up2 I 21 2 0) 21 7 0) 21 8 0) 21 9 0) 21 10 0) J (fun I1 J1 => Q none (up2 I1 21 17 1) J1)) : Wp d Bx_clear Q 0 [some (.ref 21)] [] I J := by
  refine Wp.steps 16 (pc' := 26) (lv' := [some (.ref 21)]) (st' := [.ref 21]) (I' := (up2 (up2 (up2 (up2 (up2 I 21 2 0) 21 7 0) 21 8 0) 21 9 0) 21 10 0)) (J' := J) rfl ?_
  refine Wp.call (M' := Bx_forget) (as := [.ref 21]) (rest := []) rfl (CV.use h (fun I1 J1 h => ?_))
  refine Wp.eqs (pc' := 29) (st' := []) rfl rfl ?_
  refine Wp.steps 3 (pc' := 34) (lv' := [some (.ref 21)]) (st' := []) (I' := (up2 I1 21 17 1)) (J' := J1) rfl ?_
  exact Wp.ret rfl h
theorem v_Bx_becomes_21_1_0 {d : Nat} {Q : Post} {I : I2} {J : J2} (h : Q none (up2 (up2 (up2 (cpI (cpI (cpI (up2 (up2 (up2 (up2 (up2 (cpI (cpI (cpI (cpI (up2 (cpI (cpI I 22 2 0 0 5) 23 3 0 0 5) 21 2 (I 1 2)) 24 4 0 0 6) 25 5 0 0 6) 26 6 0 0 6) 27 7 0 0 6) 21 7 (I 1 7)) 21 8 (I 1 8)) 21 9 (I 1 9)) 21 10 (I 1 10)) 21 11 (I 1 11)) 28 8 0 0 8) 29 9 0 0 8) 30 10 0 0 8) 21 15 (I 1 15)) 21 16 (I 1 16)) 21 17 1) J) : Wp d Bx_becomes Q 0 [some (.ref 21), some (.ref 1)] [] I J := by
  refine Wp.steps 107 (pc' := 202) (lv' := [some (.ref 21), some (.ref 1)]) (st' := []) (I' := (up2 (up2 (up2 (cpI (cpI (cpI (up2 (up2 (up2 (up2 (up2 (cpI (cpI (cpI (cpI (up2 (cpI (cpI I 22 2 0 0 5) 23 3 0 0 5) 21 2 (I 1 2)) 24 4 0 0 6) 25 5 0 0 6) 26 6 0 0 6) 27 7 0 0 6) 21 7 (I 1 7)) 21 8 (I 1 8)) 21 9 (I 1 9)) 21 10 (I 1 10)) 21 11 (I 1 11)) 28 8 0 0 8) 29 9 0 0 8) 30 10 0 0 8) 21 15 (I 1 15)) 21 16 (I 1 16)) 21 17 1)) (J' := J) rfl ?_
  exact Wp.ret rfl h
theorem v_Bx_ringLets_1_0 {d : Nat} {Q : Post} {I : I2} {J : J2} {x1 : Int32} {x2 : Int32} (h : (x2 = 0 → Q (some (.int 1)) I J) ∧ (¬ (x2 = 0) → CI d Sb_placeIn [.int x1, .int (x2 - 1)] I J (fun v1 I1 J1 => (0 < v1 → ((x1 &&& ((slI 1 (2 * (x2 - 1))) - 1)) = 0 → Q (some (.int 1)) I1 J1) ∧ (¬ ((x1 &&& ((slI 1 (2 * (x2 - 1))) - 1)) = 0) → Q (some (.int 0)) I1 J1)) ∧ (¬ (0 < v1) → Q (some (.int 0)) I1 J1)))) : Wp d Bx_ringLets Q 0 [some (.ref 1), some (.int x1), some (.int x2), none, none] [] I J := by
  refine Wp.steps 1 (pc' := 1) (lv' := [some (.ref 1), some (.int x1), some (.int x2), none, none]) (st' := [.int x2]) (I' := I) (J' := J) rfl ?_
  refine Wp.steps 1 (pc' := if x2 = 0 then 4 else 6) (lv' := [some (.ref 1), some (.int x1), some (.int x2), none, none]) (st' := []) (I' := I) (J' := J) rfl (Wp.ite (fun h1 => ?_) (fun h1 => ?_))
  · replace h := h.1 h1
    refine Wp.steps 1 (pc' := 5) (lv' := [some (.ref 1), some (.int x1), some (.int x2), none, none]) (st' := [.int 1]) (I' := I) (J' := J) rfl ?_
    exact Wp.ret rfl h
  · replace h := h.2 h1
    refine Wp.steps 16 (pc' := 23) (lv' := [some (.ref 1), some (.int x1), some (.int x2), some (.int (x2 - 1)), some (.int (x1 &&& ((slI 1 (2 * (x2 - 1))) - 1)))]) (st' := [.int (x2 - 1), .int x1]) (I' := I) (J' := J) rfl ?_
    refine Wp.call (M' := Sb_placeIn) (as := [.int x1, .int (x2 - 1)]) (rest := []) rfl (CI.use h (fun v1 I1 J1 h => ?_))
    refine Wp.eqs (pc' := 26) (st' := [.int v1]) rfl rfl ?_
    refine Wp.steps 1 (pc' := if 0 < v1 then 29 else 38) (lv' := [some (.ref 1), some (.int x1), some (.int x2), some (.int (x2 - 1)), some (.int (x1 &&& ((slI 1 (2 * (x2 - 1))) - 1)))]) (st' := []) (I' := I1) (J' := J1) rfl (Wp.ite (fun h2 => ?_) (fun h2 => ?_))
    · replace h := h.1 h2
      refine Wp.steps 1 (pc' := 31) (lv' := [some (.ref 1), some (.int x1), some (.int x2), some (.int (x2 - 1)), some (.int (x1 &&& ((slI 1 (2 * (x2 - 1))) - 1)))]) (st' := [.int (x1 &&& ((slI 1 (2 * (x2 - 1))) - 1))]) (I' := I1) (J' := J1) rfl ?_
      refine Wp.steps 1 (pc' := if (x1 &&& ((slI 1 (2 * (x2 - 1))) - 1)) = 0 then 34 else 38) (lv' := [some (.ref 1), some (.int x1), some (.int x2), some (.int (x2 - 1)), some (.int (x1 &&& ((slI 1 (2 * (x2 - 1))) - 1)))]) (st' := []) (I' := I1) (J' := J1) rfl (Wp.ite (fun h3 => ?_) (fun h3 => ?_))
      · replace h := h.1 h3
        refine Wp.steps 2 (pc' := 39) (lv' := [some (.ref 1), some (.int x1), some (.int x2), some (.int (x2 - 1)), some (.int (x1 &&& ((slI 1 (2 * (x2 - 1))) - 1)))]) (st' := [.int 1]) (I' := I1) (J' := J1) rfl ?_
        exact Wp.ret rfl h
      · replace h := h.2 h3
        refine Wp.steps 1 (pc' := 39) (lv' := [some (.ref 1), some (.int x1), some (.int x2), some (.int (x2 - 1)), some (.int (x1 &&& ((slI 1 (2 * (x2 - 1))) - 1)))]) (st' := [.int 0]) (I' := I1) (J' := J1) rfl ?_
        exact Wp.ret rfl h
    · replace h := h.2 h2
      refine Wp.steps 1 (pc' := 39) (lv' := [some (.ref 1), some (.int x1), some (.int x2), some (.int (x2 - 1)), some (.int (x1 &&& ((slI 1 (2 * (x2 - 1))) - 1)))]) (st' := [.int 0]) (I' := I1) (J' := J1) rfl ?_
      exact Wp.ret rfl h
theorem v_Bx_forget_21_0 {d : Nat} {Q : Post} {I : I2} {J : J2} (h : Q none (up2 (up2 I 21 15 0) 21 16 0) J) : Wp d Bx_forget Q 0 [some (.ref 21)] [] I J := by
  refine Wp.steps 6 (pc' := 10) (lv' := [some (.ref 21)]) (st' := []) (I' := (up2 (up2 I 21 15 0) 21 16 0)) (J' := J) rfl ?_
  exact Wp.ret rfl h
theorem v_Bx_addPanel_21_0 {d : Nat} {Q : Post} {I : I2} {J : J2} {x1 : Int32} {x2 : Int32} (h : ((I 21 2) < 5 → vp_in (I 21 2) 5 ∧ (vp_in (I 21 2) 5 ∧ (Q (some (.int (I 21 2))) (up2 (up2 (up2 (up2 I 22 (tN (I 21 2)) x1) 23 (tN (I 21 2)) x2) 21 17 1) 21 2 ((I 21 2) + 1)) J))) ∧ (¬ ((I 21 2) < 5) → Q (some (.int (-3))) I J)) : Wp d Bx_addPanel Q 0 [some (.ref 21), some (.int x1), some (.int x2)] [] I J := by
  refine Wp.steps 3 (pc' := 5) (lv' := [some (.ref 21), some (.int x1), some (.int x2)]) (st' := [.int 5, .int (I 21 2)]) (I' := I) (J' := J) rfl ?_
  refine Wp.steps 1 (pc' := if (I 21 2) < 5 then 11 else 8) (lv' := [some (.ref 21), some (.int x1), some (.int x2)]) (st' := []) (I' := I) (J' := J) rfl (Wp.ite (fun h1 => ?_) (fun h1 => ?_))
  · replace h := h.1 h1
    refine Wp.steps 5 (pc' := 20) (lv' := [some (.ref 21), some (.int x1), some (.int x2)]) (st' := [.int x1, .int (I 21 2), .ref 22]) (I' := I) (J' := J) rfl ?_
    refine Wp.iast rfl rfl h.1 ?_
    replace h := h.2
    refine Wp.steps 5 (pc' := 30) (lv' := [some (.ref 21), some (.int x1), some (.int x2)]) (st' := [.int x2, .int (I 21 2), .ref 23]) (I' := (up2 I 22 (tN (I 21 2)) x1)) (J' := J) rfl ?_
    refine Wp.iast rfl rfl h.1 ?_
    replace h := h.2
    refine Wp.steps 10 (pc' := 47) (lv' := [some (.ref 21), some (.int x1), some (.int x2)]) (st' := [.int (I 21 2)]) (I' := (up2 (up2 (up2 (up2 I 22 (tN (I 21 2)) x1) 23 (tN (I 21 2)) x2) 21 17 1) 21 2 ((I 21 2) + 1))) (J' := J) rfl ?_
    exact Wp.ret rfl h
  · replace h := h.2 h1
    refine Wp.steps 1 (pc' := 10) (lv' := [some (.ref 21), some (.int x1), some (.int x2)]) (st' := [.int (-3)]) (I' := I) (J' := J) rfl ?_
    exact Wp.ret rfl h
theorem v_Bx_isState_1_0 {d : Nat} {Q : Post} {I : I2} {J : J2} {x1 : Int32} (h : Wp d Bx_isState Q 2 [some (.ref 1), some (.int x1), some (.int 0)] [] I J) : Wp d Bx_isState Q 0 [some (.ref 1), some (.int x1), none] [] I J := by
  refine Wp.steps 2 (pc' := 2) (lv' := [some (.ref 1), some (.int x1), some (.int 0)]) (st' := []) (I' := I) (J' := J) rfl ?_
  exact h
theorem v_Bx_isState_1_2 {d : Nat} {Q : Post} {I : I2} {J : J2} {x1 : Int32} {x2 : Int32} (h : (x2 < (I 1 2) → CI d Sb_placeIn [.int x1, .int x2] I J (fun v1 I1 J1 => vp_in x2 5 ∧ (((I1 3 (tN x2)) < v1 → Q (some (.int 0)) I1 J1) ∧ (¬ ((I1 3 (tN x2)) < v1) → Wp d Bx_isState Q 2 [some (.ref 1), some (.int x1), some (.int (x2 + 1))] [] I1 J1)))) ∧ (¬ (x2 < (I 1 2)) → Q (some (.int 1)) I J)) : Wp d Bx_isState Q 2 [some (.ref 1), some (.int x1), some (.int x2)] [] I J := by
  refine Wp.steps 3 (pc' := 7) (lv' := [some (.ref 1), some (.int x1), some (.int x2)]) (st' := [.int (I 1 2), .int x2]) (I' := I) (J' := J) rfl ?_
  refine Wp.steps 1 (pc' := if x2 < (I 1 2) then 10 else 32) (lv' := [some (.ref 1), some (.int x1), some (.int x2)]) (st' := []) (I' := I) (J' := J) rfl (Wp.ite (fun h1 => ?_) (fun h1 => ?_))
  · replace h := h.1 h1
    refine Wp.steps 2 (pc' := 12) (lv' := [some (.ref 1), some (.int x1), some (.int x2)]) (st' := [.int x2, .int x1]) (I' := I) (J' := J) rfl ?_
    refine Wp.call (M' := Sb_placeIn) (as := [.int x1, .int x2]) (rest := []) rfl (CI.use h (fun v1 I1 J1 h => ?_))
    refine Wp.eqs (pc' := 15) (st' := [.int v1]) rfl rfl ?_
    refine Wp.steps 3 (pc' := 20) (lv' := [some (.ref 1), some (.int x1), some (.int x2)]) (st' := [.int x2, .ref 3, .int v1]) (I' := I1) (J' := J1) rfl ?_
    refine Wp.iald rfl rfl h.1 ?_
    replace h := h.2
    refine Wp.steps 1 (pc' := if (I1 3 (tN x2)) < v1 then 24 else 26) (lv' := [some (.ref 1), some (.int x1), some (.int x2)]) (st' := []) (I' := I1) (J' := J1) rfl (Wp.ite (fun h2 => ?_) (fun h2 => ?_))
    · replace h := h.1 h2
      refine Wp.steps 1 (pc' := 25) (lv' := [some (.ref 1), some (.int x1), some (.int x2)]) (st' := [.int 0]) (I' := I1) (J' := J1) rfl ?_
      exact Wp.ret rfl h
    · replace h := h.2 h2
      refine Wp.steps 2 (pc' := 2) (lv' := [some (.ref 1), some (.int x1), some (.int (x2 + 1))]) (st' := []) (I' := I1) (J' := J1) rfl ?_
      exact h
  · replace h := h.2 h1
    refine Wp.steps 1 (pc' := 33) (lv' := [some (.ref 1), some (.int x1), some (.int x2)]) (st' := [.int 1]) (I' := I) (J' := J) rfl ?_
    exact Wp.ret rfl h
theorem v_Bx_maySlide_21_0 {d : Nat} {Q : Post} {I : I2} {J : J2} {x1 : Int32} {x2 : Int32} {x3 : Int32} {x4 : Int32} (h : CI d Bx_fits [.ref 21, .int x1, .int x3, .int x4] I J (fun v1 I1 J1 => (v1 = 0 → Q (some (.int 0)) I1 J1) ∧ (¬ (v1 = 0) → CI d Bx_holding [.ref 21, .int x1, .int x3, .int x4] I1 J1 (fun v2 I2 J2 => ((v2 &&& (x2 ^^^ (-1))) = 0 → Q (some (.int 1)) I2 J2) ∧ (¬ ((v2 &&& (x2 ^^^ (-1))) = 0) → Q (some (.int 0)) I2 J2))))) : Wp d Bx_maySlide Q 0 [some (.ref 21), some (.int x1), some (.int x2), some (.int x3), some (.int x4)] [] I J := by
  refine Wp.steps 4 (pc' := 5) (lv' := [some (.ref 21), some (.int x1), some (.int x2), some (.int x3), some (.int x4)]) (st' := [.int x4, .int x3, .int x1, .ref 21]) (I' := I) (J' := J) rfl ?_
  refine Wp.call (M' := Bx_fits) (as := [.ref 21, .int x1, .int x3, .int x4]) (rest := []) rfl (CI.use h (fun v1 I1 J1 h => ?_))
  refine Wp.eqs (pc' := 8) (st' := [.int v1]) rfl rfl ?_
  refine Wp.steps 1 (pc' := if v1 = 0 then 30 else 11) (lv' := [some (.ref 21), some (.int x1), some (.int x2), some (.int x3), some (.int x4)]) (st' := []) (I' := I1) (J' := J1) rfl (Wp.ite (fun h1 => ?_) (fun h1 => ?_))
  · replace h := h.1 h1
    refine Wp.steps 1 (pc' := 31) (lv' := [some (.ref 21), some (.int x1), some (.int x2), some (.int x3), some (.int x4)]) (st' := [.int 0]) (I' := I1) (J' := J1) rfl ?_
    exact Wp.ret rfl h
  · replace h := h.2 h1
    refine Wp.steps 4 (pc' := 16) (lv' := [some (.ref 21), some (.int x1), some (.int x2), some (.int x3), some (.int x4)]) (st' := [.int x4, .int x3, .int x1, .ref 21]) (I' := I1) (J' := J1) rfl ?_
    refine Wp.call (M' := Bx_holding) (as := [.ref 21, .int x1, .int x3, .int x4]) (rest := []) rfl (CI.use h (fun v2 I2 J2 h => ?_))
    refine Wp.eqs (pc' := 19) (st' := [.int v2]) rfl rfl ?_
    refine Wp.steps 4 (pc' := 23) (lv' := [some (.ref 21), some (.int x1), some (.int x2), some (.int x3), some (.int x4)]) (st' := [.int (v2 &&& (x2 ^^^ (-1)))]) (I' := I2) (J' := J2) rfl ?_
    refine Wp.steps 1 (pc' := if (v2 &&& (x2 ^^^ (-1))) = 0 then 26 else 30) (lv' := [some (.ref 21), some (.int x1), some (.int x2), some (.int x3), some (.int x4)]) (st' := []) (I' := I2) (J' := J2) rfl (Wp.ite (fun h2 => ?_) (fun h2 => ?_))
    · replace h := h.1 h2
      refine Wp.steps 2 (pc' := 31) (lv' := [some (.ref 21), some (.int x1), some (.int x2), some (.int x3), some (.int x4)]) (st' := [.int 1]) (I' := I2) (J' := J2) rfl ?_
      exact Wp.ret rfl h
    · replace h := h.2 h2
      refine Wp.steps 1 (pc' := 31) (lv' := [some (.ref 21), some (.int x1), some (.int x2), some (.int x3), some (.int x4)]) (st' := [.int 0]) (I' := I2) (J' := J2) rfl ?_
      exact Wp.ret rfl h
theorem v_Bx_behind_21_0 {d : Nat} {Q : Post} {I : I2} {J : J2} {x1 : Int32} {x2 : Int32} {x3 : Int32} (h : Wp d Bx_behind Q 6 [some (.ref 21), some (.int x1), some (.int x2), some (.int x3), some (.int 0), some (.int 0), none] [] I J) : Wp d Bx_behind Q 0 [some (.ref 21), some (.int x1), some (.int x2), some (.int x3), none, none, none] [] I J := by
  refine Wp.steps 4 (pc' := 6) (lv' := [some (.ref 21), some (.int x1), some (.int x2), some (.int x3), some (.int 0), some (.int 0), none]) (st' := []) (I' := I) (J' := J) rfl ?_
  exact h
theorem v_Bx_behind_21_6 {d : Nat} {Q : Post} {I : I2} {J : J2} {x1 : Int32} {x2 : Int32} {x3 : Int32} {x4 : Int32} {x5 : Int32} (h : (x5 < (I 21 2) → CI d Sb_placeIn [.int x1, .int x5] I J (fun v1 I1 J1 => (x5 = x2 → (x3 = 1 → Wp d Bx_behind Q 6 [some (.ref 21), some (.int x1), some (.int x2), some (.int x3), some (.int (x4 ||| (slI (v1 + 1) (2 * x5)))), some (.int (x5 + 1)), none] [] I1 J1) ∧ (¬ (x3 = 1) → Wp d Bx_behind Q 6 [some (.ref 21), some (.int x1), some (.int x2), some (.int x3), some (.int (x4 ||| (slI (v1 + (-1)) (2 * x5)))), some (.int (x5 + 1)), none] [] I1 J1)) ∧ (¬ (x5 = x2) → CI d Bx_slipsBack [.ref 21, .int x5, .int v1] I1 J1 (fun v2 I2 J2 => (v2 = 0 → Wp d Bx_behind Q 6 [some (.ref 21), some (.int x1), some (.int x2), some (.int x3), some (.int (x4 ||| (slI v1 (2 * x5)))), some (.int (x5 + 1)), none] [] I2 J2) ∧ (¬ (v2 = 0) → Wp d Bx_behind Q 6 [some (.ref 21), some (.int x1), some (.int x2), some (.int x3), some (.int (x4 ||| (slI (v1 + (-1)) (2 * x5)))), some (.int (x5 + 1)), none] [] I2 J2))))) ∧ (¬ (x5 < (I 21 2)) → Q (some (.int x4)) I J)) : Wp d Bx_behind Q 6 [some (.ref 21), some (.int x1), some (.int x2), some (.int x3), some (.int x4), some (.int x5), none] [] I J := by
  refine Wp.steps 3 (pc' := 12) (lv' := [some (.ref 21), some (.int x1), some (.int x2), some (.int x3), some (.int x4), some (.int x5), none]) (st' := [.int (I 21 2), .int x5]) (I' := I) (J' := J) rfl ?_
  refine Wp.steps 1 (pc' := if x5 < (I 21 2) then 15 else 79) (lv' := [some (.ref 21), some (.int x1), some (.int x2), some (.int x3), some (.int x4), some (.int x5), none]) (st' := []) (I' := I) (J' := J) rfl (Wp.ite (fun h1 => ?_) (fun h1 => ?_))
  · replace h := h.1 h1
    refine Wp.steps 2 (pc' := 18) (lv' := [some (.ref 21), some (.int x1), some (.int x2), some (.int x3), some (.int x4), some (.int x5), none]) (st' := [.int x5, .int x1]) (I' := I) (J' := J) rfl ?_
    refine Wp.call (M' := Sb_placeIn) (as := [.int x1, .int x5]) (rest := []) rfl (CI.use h (fun v1 I1 J1 h => ?_))
    refine Wp.eqs (pc' := 21) (st' := [.int v1]) rfl rfl ?_
    refine Wp.steps 3 (pc' := 26) (lv' := [some (.ref 21), some (.int x1), some (.int x2), some (.int x3), some (.int x4), some (.int x5), some (.int v1)]) (st' := [.int x2, .int x5]) (I' := I1) (J' := J1) rfl ?_
    refine Wp.steps 1 (pc' := if x5 = x2 then 29 else 47) (lv' := [some (.ref 21), some (.int x1), some (.int x2), some (.int x3), some (.int x4), some (.int x5), some (.int v1)]) (st' := []) (I' := I1) (J' := J1) rfl (Wp.ite (fun h2 => ?_) (fun h2 => ?_))
    · replace h := h.1 h2
      refine Wp.steps 3 (pc' := 33) (lv' := [some (.ref 21), some (.int x1), some (.int x2), some (.int x3), some (.int x4), some (.int x5), some (.int v1)]) (st' := [.int 1, .int x3, .int v1]) (I' := I1) (J' := J1) rfl ?_
      refine Wp.steps 1 (pc' := if x3 = 1 then 36 else 40) (lv' := [some (.ref 21), some (.int x1), some (.int x2), some (.int x3), some (.int x4), some (.int x5), some (.int v1)]) (st' := [.int v1]) (I' := I1) (J' := J1) rfl (Wp.ite (fun h3 => ?_) (fun h3 => ?_))
      · replace h := h.1 h3
        refine Wp.steps 15 (pc' := 6) (lv' := [some (.ref 21), some (.int x1), some (.int x2), some (.int x3), some (.int (x4 ||| (slI (v1 + 1) (2 * x5)))), some (.int (x5 + 1)), some (.int (v1 + 1))]) (st' := []) (I' := I1) (J' := J1) rfl ?_
        refine Wp.drop [6] (lv' := [some (.ref 21), some (.int x1), some (.int x2), some (.int x3), some (.int (x4 ||| (slI (v1 + 1) (2 * x5)))), some (.int (x5 + 1)), none]) rfl ?_
        exact h
      · replace h := h.2 h3
        refine Wp.steps 14 (pc' := 6) (lv' := [some (.ref 21), some (.int x1), some (.int x2), some (.int x3), some (.int (x4 ||| (slI (v1 + (-1)) (2 * x5)))), some (.int (x5 + 1)), some (.int (v1 + (-1)))]) (st' := []) (I' := I1) (J' := J1) rfl ?_
        refine Wp.drop [6] (lv' := [some (.ref 21), some (.int x1), some (.int x2), some (.int x3), some (.int (x4 ||| (slI (v1 + (-1)) (2 * x5)))), some (.int (x5 + 1)), none]) rfl ?_
        exact h
    · replace h := h.2 h2
      refine Wp.steps 3 (pc' := 52) (lv' := [some (.ref 21), some (.int x1), some (.int x2), some (.int x3), some (.int x4), some (.int x5), some (.int v1)]) (st' := [.int v1, .int x5, .ref 21]) (I' := I1) (J' := J1) rfl ?_
      refine Wp.call (M' := Bx_slipsBack) (as := [.ref 21, .int x5, .int v1]) (rest := []) rfl (CI.use h (fun v2 I2 J2 h => ?_))
      refine Wp.eqs (pc' := 55) (st' := [.int v2]) rfl rfl ?_
      refine Wp.steps 1 (pc' := if v2 = 0 then 61 else 58) (lv' := [some (.ref 21), some (.int x1), some (.int x2), some (.int x3), some (.int x4), some (.int x5), some (.int v1)]) (st' := []) (I' := I2) (J' := J2) rfl (Wp.ite (fun h3 => ?_) (fun h3 => ?_))
      · replace h := h.1 h3
        refine Wp.steps 10 (pc' := 6) (lv' := [some (.ref 21), some (.int x1), some (.int x2), some (.int x3), some (.int (x4 ||| (slI v1 (2 * x5)))), some (.int (x5 + 1)), some (.int v1)]) (st' := []) (I' := I2) (J' := J2) rfl ?_
        refine Wp.drop [6] (lv' := [some (.ref 21), some (.int x1), some (.int x2), some (.int x3), some (.int (x4 ||| (slI v1 (2 * x5)))), some (.int (x5 + 1)), none]) rfl ?_
        exact h
      · replace h := h.2 h3
        refine Wp.steps 11 (pc' := 6) (lv' := [some (.ref 21), some (.int x1), some (.int x2), some (.int x3), some (.int (x4 ||| (slI (v1 + (-1)) (2 * x5)))), some (.int (x5 + 1)), some (.int (v1 + (-1)))]) (st' := []) (I' := I2) (J' := J2) rfl ?_
        refine Wp.drop [6] (lv' := [some (.ref 21), some (.int x1), some (.int x2), some (.int x3), some (.int (x4 ||| (slI (v1 + (-1)) (2 * x5)))), some (.int (x5 + 1)), none]) rfl ?_
        exact h
  · replace h := h.2 h1
    refine Wp.steps 1 (pc' := 81) (lv' := [some (.ref 21), some (.int x1), some (.int x2), some (.int x3), some (.int x4), some (.int x5), none]) (st' := [.int x4]) (I' := I) (J' := J) rfl ?_
    exact Wp.ret rfl h
theorem v_Bx_hasPanel_21_0 {d : Nat} {Q : Post} {I : I2} {J : J2} {x1 : Int32} (h : (x1 < 0 → Q (some (.int 0)) I J) ∧ (¬ (x1 < 0) → (x1 < (I 21 2) → Q (some (.int 1)) I J) ∧ (¬ (x1 < (I 21 2)) → Q (some (.int 0)) I J))) : Wp d Bx_hasPanel Q 0 [some (.ref 21), some (.int x1)] [] I J := by
  refine Wp.steps 1 (pc' := 1) (lv' := [some (.ref 21), some (.int x1)]) (st' := [.int x1]) (I' := I) (J' := J) rfl ?_
  refine Wp.steps 1 (pc' := if x1 < 0 then 16 else 4) (lv' := [some (.ref 21), some (.int x1)]) (st' := []) (I' := I) (J' := J) rfl (Wp.ite (fun h1 => ?_) (fun h1 => ?_))
  · replace h := h.1 h1
    refine Wp.steps 1 (pc' := 17) (lv' := [some (.ref 21), some (.int x1)]) (st' := [.int 0]) (I' := I) (J' := J) rfl ?_
    exact Wp.ret rfl h
  · replace h := h.2 h1
    refine Wp.steps 3 (pc' := 9) (lv' := [some (.ref 21), some (.int x1)]) (st' := [.int (I 21 2), .int x1]) (I' := I) (J' := J) rfl ?_
    refine Wp.steps 1 (pc' := if x1 < (I 21 2) then 12 else 16) (lv' := [some (.ref 21), some (.int x1)]) (st' := []) (I' := I) (J' := J) rfl (Wp.ite (fun h2 => ?_) (fun h2 => ?_))
    · replace h := h.1 h2
      refine Wp.steps 2 (pc' := 17) (lv' := [some (.ref 21), some (.int x1)]) (st' := [.int 1]) (I' := I) (J' := J) rfl ?_
      exact Wp.ret rfl h
    · replace h := h.2 h2
      refine Wp.steps 1 (pc' := 17) (lv' := [some (.ref 21), some (.int x1)]) (st' := [.int 0]) (I' := I) (J' := J) rfl ?_
      exact Wp.ret rfl h
theorem v_Bx_addLock_21_0 {d : Nat} {Q : Post} {I : I2} {J : J2} {x1 : Int32} {x2 : Int32} {x3 : Int32} {x4 : Int32} (h : ((I 21 7) < 6 → vp_in (I 21 7) 6 ∧ (vp_in (I 21 7) 6 ∧ (vp_in (I 21 7) 6 ∧ (vp_in (I 21 7) 6 ∧ (Q (some (.int (I 21 7))) (up2 (up2 (up2 (up2 (up2 (up2 I 24 (tN (I 21 7)) x1) 25 (tN (I 21 7)) x2) 26 (tN (I 21 7)) x3) 27 (tN (I 21 7)) x4) 21 17 1) 21 7 ((I 21 7) + 1)) J))))) ∧ (¬ ((I 21 7) < 6) → Q (some (.int (-3))) I J)) : Wp d Bx_addLock Q 0 [some (.ref 21), some (.int x1), some (.int x2), some (.int x3), some (.int x4)] [] I J := by
  refine Wp.steps 3 (pc' := 6) (lv' := [some (.ref 21), some (.int x1), some (.int x2), some (.int x3), some (.int x4)]) (st' := [.int 6, .int (I 21 7)]) (I' := I) (J' := J) rfl ?_
  refine Wp.steps 1 (pc' := if (I 21 7) < 6 then 12 else 9) (lv' := [some (.ref 21), some (.int x1), some (.int x2), some (.int x3), some (.int x4)]) (st' := []) (I' := I) (J' := J) rfl (Wp.ite (fun h1 => ?_) (fun h1 => ?_))
  · replace h := h.1 h1
    refine Wp.steps 5 (pc' := 21) (lv' := [some (.ref 21), some (.int x1), some (.int x2), some (.int x3), some (.int x4)]) (st' := [.int x1, .int (I 21 7), .ref 24]) (I' := I) (J' := J) rfl ?_
    refine Wp.iast rfl rfl h.1 ?_
    replace h := h.2
    refine Wp.steps 5 (pc' := 31) (lv' := [some (.ref 21), some (.int x1), some (.int x2), some (.int x3), some (.int x4)]) (st' := [.int x2, .int (I 21 7), .ref 25]) (I' := (up2 I 24 (tN (I 21 7)) x1)) (J' := J) rfl ?_
    refine Wp.iast rfl rfl h.1 ?_
    replace h := h.2
    refine Wp.steps 5 (pc' := 41) (lv' := [some (.ref 21), some (.int x1), some (.int x2), some (.int x3), some (.int x4)]) (st' := [.int x3, .int (I 21 7), .ref 26]) (I' := (up2 (up2 I 24 (tN (I 21 7)) x1) 25 (tN (I 21 7)) x2)) (J' := J) rfl ?_
    refine Wp.iast rfl rfl h.1 ?_
    replace h := h.2
    refine Wp.steps 5 (pc' := 52) (lv' := [some (.ref 21), some (.int x1), some (.int x2), some (.int x3), some (.int x4)]) (st' := [.int x4, .int (I 21 7), .ref 27]) (I' := (up2 (up2 (up2 I 24 (tN (I 21 7)) x1) 25 (tN (I 21 7)) x2) 26 (tN (I 21 7)) x3)) (J' := J) rfl ?_
    refine Wp.iast rfl rfl h.1 ?_
    replace h := h.2
    refine Wp.steps 10 (pc' := 69) (lv' := [some (.ref 21), some (.int x1), some (.int x2), some (.int x3), some (.int x4)]) (st' := [.int (I 21 7)]) (I' := (up2 (up2 (up2 (up2 (up2 (up2 I 24 (tN (I 21 7)) x1) 25 (tN (I 21 7)) x2) 26 (tN (I 21 7)) x3) 27 (tN (I 21 7)) x4) 21 17 1) 21 7 ((I 21 7) + 1))) (J' := J) rfl ?_
    exact Wp.ret rfl h
  · replace h := h.2 h1
    refine Wp.steps 1 (pc' := 11) (lv' := [some (.ref 21), some (.int x1), some (.int x2), some (.int x3), some (.int x4)]) (st' := [.int (-3)]) (I' := I) (J' := J) rfl ?_
    exact Wp.ret rfl h
theorem v_Bx_fits_21_0 {d : Nat} {Q : Post} {I : I2} {J : J2} {x1 : Int32} {x2 : Int32} {x3 : Int32} (h : CI d Bx_hasPanel [.ref 21, .int x2] I J (fun v1 I1 J1 => (v1 = 0 → Q (some (.int 0)) I1 J1) ∧ (¬ (v1 = 0) → CI d Sb_placeIn [.int x1, .int x2] I1 J1 (fun v2 I2 J2 => (x3 = 0 → (v2 = 0 → Q (some (.int 0)) I2 J2) ∧ (¬ (v2 = 0) → vp_in x2 5 ∧ (((I2 22 (tN x2)) = 2 → CI d Bx_ringLets [.ref 21, .int x1, .int x2] I2 J2 (fun v3 I3 J3 => (v3 = 0 → Q (some (.int 0)) I3 J3) ∧ (¬ (v3 = 0) → Q (some (.int 1)) I3 J3))) ∧ (¬ ((I2 22 (tN x2)) = 2) → vp_in x2 5 ∧ (((I2 22 (tN x2)) = 4 → (x3 = 1 → CI d Bx_ringLets [.ref 21, .int x1, .int x2] I2 J2 (fun v3 I3 J3 => (v3 = 0 → Q (some (.int 0)) I3 J3) ∧ (¬ (v3 = 0) → Q (some (.int 1)) I3 J3))) ∧ (¬ (x3 = 1) → Q (some (.int 1)) I2 J2)) ∧ (¬ ((I2 22 (tN x2)) = 4) → Q (some (.int 1)) I2 J2)))))) ∧ (¬ (x3 = 0) → vp_in x2 5 ∧ ((v2 < (I2 23 (tN x2)) → vp_in x2 5 ∧ (((I2 22 (tN x2)) = 2 → CI d Bx_ringLets [.ref 21, .int x1, .int x2] I2 J2 (fun v3 I3 J3 => (v3 = 0 → Q (some (.int 0)) I3 J3) ∧ (¬ (v3 = 0) → Q (some (.int 1)) I3 J3))) ∧ (¬ ((I2 22 (tN x2)) = 2) → vp_in x2 5 ∧ (((I2 22 (tN x2)) = 4 → (x3 = 1 → CI d Bx_ringLets [.ref 21, .int x1, .int x2] I2 J2 (fun v3 I3 J3 => (v3 = 0 → Q (some (.int 0)) I3 J3) ∧ (¬ (v3 = 0) → Q (some (.int 1)) I3 J3))) ∧ (¬ (x3 = 1) → Q (some (.int 1)) I2 J2)) ∧ (¬ ((I2 22 (tN x2)) = 4) → Q (some (.int 1)) I2 J2))))) ∧ (¬ (v2 < (I2 23 (tN x2))) → Q (some (.int 0)) I2 J2))))))) : Wp d Bx_fits Q 0 [some (.ref 21), some (.int x1), some (.int x2), some (.int x3), none, none] [] I J := by
  refine Wp.steps 2 (pc' := 2) (lv' := [some (.ref 21), some (.int x1), some (.int x2), some (.int x3), none, none]) (st' := [.int x2, .ref 21]) (I' := I) (J' := J) rfl ?_
  refine Wp.call (M' := Bx_hasPanel) (as := [.ref 21, .int x2]) (rest := []) rfl (CI.use h (fun v1 I1 J1 h => ?_))
  refine Wp.eqs (pc' := 5) (st' := [.int v1]) rfl rfl ?_
  refine Wp.steps 1 (pc' := if v1 = 0 then 8 else 10) (lv' := [some (.ref 21), some (.int x1), some (.int x2), some (.int x3), none, none]) (st' := []) (I' := I1) (J' := J1) rfl (Wp.ite (fun h1 => ?_) (fun h1 => ?_))
  · replace h := h.1 h1
    refine Wp.steps 1 (pc' := 9) (lv' := [some (.ref 21), some (.int x1), some (.int x2), some (.int x3), none, none]) (st' := [.int 0]) (I' := I1) (J' := J1) rfl ?_
    exact Wp.ret rfl h
  · replace h := h.2 h1
    refine Wp.steps 2 (pc' := 12) (lv' := [some (.ref 21), some (.int x1), some (.int x2), some (.int x3), none, none]) (st' := [.int x2, .int x1]) (I' := I1) (J' := J1) rfl ?_
    refine Wp.call (M' := Sb_placeIn) (as := [.int x1, .int x2]) (rest := []) rfl (CI.use h (fun v2 I2 J2 h => ?_))
    refine Wp.eqs (pc' := 15) (st' := [.int v2]) rfl rfl ?_
    refine Wp.steps 2 (pc' := 18) (lv' := [some (.ref 21), some (.int x1), some (.int x2), some (.int x3), some (.int v2), none]) (st' := [.int x3]) (I' := I2) (J' := J2) rfl ?_
    refine Wp.steps 1 (pc' := if x3 = 0 then 21 else 29) (lv' := [some (.ref 21), some (.int x1), some (.int x2), some (.int x3), some (.int v2), none]) (st' := []) (I' := I2) (J' := J2) rfl (Wp.ite (fun h2 => ?_) (fun h2 => ?_))
    · replace h := h.1 h2
      refine Wp.steps 1 (pc' := 23) (lv' := [some (.ref 21), some (.int x1), some (.int x2), some (.int x3), some (.int v2), none]) (st' := [.int v2]) (I' := I2) (J' := J2) rfl ?_
      refine Wp.steps 1 (pc' := if v2 = 0 then 26 else 42) (lv' := [some (.ref 21), some (.int x1), some (.int x2), some (.int x3), some (.int v2), none]) (st' := []) (I' := I2) (J' := J2) rfl (Wp.ite (fun h3 => ?_) (fun h3 => ?_))
      · replace h := h.1 h3
        refine Wp.steps 2 (pc' := 41) (lv' := [some (.ref 21), some (.int x1), some (.int x2), some (.int x3), some (.int v2), none]) (st' := [.int 0]) (I' := I2) (J' := J2) rfl ?_
        exact Wp.ret rfl h
      · replace h := h.2 h3
        refine Wp.steps 3 (pc' := 47) (lv' := [some (.ref 21), some (.int x1), some (.int x2), some (.int x3), some (.int v2), none]) (st' := [.int x2, .ref 22]) (I' := I2) (J' := J2) rfl ?_
        refine Wp.iald rfl rfl h.1 ?_
        replace h := h.2
        refine Wp.steps 1 (pc' := 49) (lv' := [some (.ref 21), some (.int x1), some (.int x2), some (.int x3), some (.int v2), none]) (st' := [.int 2, .int (I2 22 (tN x2))]) (I' := I2) (J' := J2) rfl ?_
        refine Wp.steps 1 (pc' := if (I2 22 (tN x2)) = 2 then 67 else 52) (lv' := [some (.ref 21), some (.int x1), some (.int x2), some (.int x3), some (.int v2), none]) (st' := []) (I' := I2) (J' := J2) rfl (Wp.ite (fun h4 => ?_) (fun h4 => ?_))
        · replace h := h.1 h4
          refine Wp.steps 8 (pc' := 82) (lv' := [some (.ref 21), some (.int x1), some (.int x2), some (.int x3), some (.int v2), some (.int 1)]) (st' := [.int x2, .int x1, .ref 21]) (I' := I2) (J' := J2) rfl ?_
          refine Wp.call (M' := Bx_ringLets) (as := [.ref 21, .int x1, .int x2]) (rest := []) rfl (CI.use h (fun v3 I3 J3 h => ?_))
          refine Wp.eqs (pc' := 85) (st' := [.int v3]) rfl rfl ?_
          refine Wp.steps 1 (pc' := if v3 = 0 then 92 else 88) (lv' := [some (.ref 21), some (.int x1), some (.int x2), some (.int x3), some (.int v2), some (.int 1)]) (st' := []) (I' := I3) (J' := J3) rfl (Wp.ite (fun h5 => ?_) (fun h5 => ?_))
          · replace h := h.1 h5
            refine Wp.steps 1 (pc' := 93) (lv' := [some (.ref 21), some (.int x1), some (.int x2), some (.int x3), some (.int v2), some (.int 1)]) (st' := [.int 0]) (I' := I3) (J' := J3) rfl ?_
            exact Wp.ret rfl h
          · replace h := h.2 h5
            refine Wp.steps 2 (pc' := 93) (lv' := [some (.ref 21), some (.int x1), some (.int x2), some (.int x3), some (.int v2), some (.int 1)]) (st' := [.int 1]) (I' := I3) (J' := J3) rfl ?_
            exact Wp.ret rfl h
        · replace h := h.2 h4
          refine Wp.steps 3 (pc' := 57) (lv' := [some (.ref 21), some (.int x1), some (.int x2), some (.int x3), some (.int v2), none]) (st' := [.int x2, .ref 22]) (I' := I2) (J' := J2) rfl ?_
          refine Wp.iald rfl rfl h.1 ?_
          replace h := h.2
          refine Wp.steps 1 (pc' := 59) (lv' := [some (.ref 21), some (.int x1), some (.int x2), some (.int x3), some (.int v2), none]) (st' := [.int 4, .int (I2 22 (tN x2))]) (I' := I2) (J' := J2) rfl ?_
          refine Wp.steps 1 (pc' := if (I2 22 (tN x2)) = 4 then 62 else 71) (lv' := [some (.ref 21), some (.int x1), some (.int x2), some (.int x3), some (.int v2), none]) (st' := []) (I' := I2) (J' := J2) rfl (Wp.ite (fun h5 => ?_) (fun h5 => ?_))
          · replace h := h.1 h5
            refine Wp.steps 2 (pc' := 64) (lv' := [some (.ref 21), some (.int x1), some (.int x2), some (.int x3), some (.int v2), none]) (st' := [.int 1, .int x3]) (I' := I2) (J' := J2) rfl ?_
            refine Wp.steps 1 (pc' := if x3 = 1 then 67 else 71) (lv' := [some (.ref 21), some (.int x1), some (.int x2), some (.int x3), some (.int v2), none]) (st' := []) (I' := I2) (J' := J2) rfl (Wp.ite (fun h6 => ?_) (fun h6 => ?_))
            · replace h := h.1 h6
              refine Wp.steps 8 (pc' := 82) (lv' := [some (.ref 21), some (.int x1), some (.int x2), some (.int x3), some (.int v2), some (.int 1)]) (st' := [.int x2, .int x1, .ref 21]) (I' := I2) (J' := J2) rfl ?_
              refine Wp.call (M' := Bx_ringLets) (as := [.ref 21, .int x1, .int x2]) (rest := []) rfl (CI.use h (fun v3 I3 J3 h => ?_))
              refine Wp.eqs (pc' := 85) (st' := [.int v3]) rfl rfl ?_
              refine Wp.steps 1 (pc' := if v3 = 0 then 92 else 88) (lv' := [some (.ref 21), some (.int x1), some (.int x2), some (.int x3), some (.int v2), some (.int 1)]) (st' := []) (I' := I3) (J' := J3) rfl (Wp.ite (fun h7 => ?_) (fun h7 => ?_))
              · replace h := h.1 h7
                refine Wp.steps 1 (pc' := 93) (lv' := [some (.ref 21), some (.int x1), some (.int x2), some (.int x3), some (.int v2), some (.int 1)]) (st' := [.int 0]) (I' := I3) (J' := J3) rfl ?_
                exact Wp.ret rfl h
              · replace h := h.2 h7
                refine Wp.steps 2 (pc' := 93) (lv' := [some (.ref 21), some (.int x1), some (.int x2), some (.int x3), some (.int v2), some (.int 1)]) (st' := [.int 1]) (I' := I3) (J' := J3) rfl ?_
                exact Wp.ret rfl h
            · replace h := h.2 h6
              refine Wp.steps 6 (pc' := 93) (lv' := [some (.ref 21), some (.int x1), some (.int x2), some (.int x3), some (.int v2), some (.int 0)]) (st' := [.int 1]) (I' := I2) (J' := J2) rfl ?_
              exact Wp.ret rfl h
          · replace h := h.2 h5
            refine Wp.steps 6 (pc' := 93) (lv' := [some (.ref 21), some (.int x1), some (.int x2), some (.int x3), some (.int v2), some (.int 0)]) (st' := [.int 1]) (I' := I2) (J' := J2) rfl ?_
            exact Wp.ret rfl h
    · replace h := h.2 h2
      refine Wp.steps 4 (pc' := 36) (lv' := [some (.ref 21), some (.int x1), some (.int x2), some (.int x3), some (.int v2), none]) (st' := [.int x2, .ref 23, .int v2]) (I' := I2) (J' := J2) rfl ?_
      refine Wp.iald rfl rfl h.1 ?_
      replace h := h.2
      refine Wp.steps 1 (pc' := if v2 < (I2 23 (tN x2)) then 42 else 40) (lv' := [some (.ref 21), some (.int x1), some (.int x2), some (.int x3), some (.int v2), none]) (st' := []) (I' := I2) (J' := J2) rfl (Wp.ite (fun h3 => ?_) (fun h3 => ?_))
      · replace h := h.1 h3
        refine Wp.steps 3 (pc' := 47) (lv' := [some (.ref 21), some (.int x1), some (.int x2), some (.int x3), some (.int v2), none]) (st' := [.int x2, .ref 22]) (I' := I2) (J' := J2) rfl ?_
        refine Wp.iald rfl rfl h.1 ?_
        replace h := h.2
        refine Wp.steps 1 (pc' := 49) (lv' := [some (.ref 21), some (.int x1), some (.int x2), some (.int x3), some (.int v2), none]) (st' := [.int 2, .int (I2 22 (tN x2))]) (I' := I2) (J' := J2) rfl ?_
        refine Wp.steps 1 (pc' := if (I2 22 (tN x2)) = 2 then 67 else 52) (lv' := [some (.ref 21), some (.int x1), some (.int x2), some (.int x3), some (.int v2), none]) (st' := []) (I' := I2) (J' := J2) rfl (Wp.ite (fun h4 => ?_) (fun h4 => ?_))
        · replace h := h.1 h4
          refine Wp.steps 8 (pc' := 82) (lv' := [some (.ref 21), some (.int x1), some (.int x2), some (.int x3), some (.int v2), some (.int 1)]) (st' := [.int x2, .int x1, .ref 21]) (I' := I2) (J' := J2) rfl ?_
          refine Wp.call (M' := Bx_ringLets) (as := [.ref 21, .int x1, .int x2]) (rest := []) rfl (CI.use h (fun v3 I3 J3 h => ?_))
          refine Wp.eqs (pc' := 85) (st' := [.int v3]) rfl rfl ?_
          refine Wp.steps 1 (pc' := if v3 = 0 then 92 else 88) (lv' := [some (.ref 21), some (.int x1), some (.int x2), some (.int x3), some (.int v2), some (.int 1)]) (st' := []) (I' := I3) (J' := J3) rfl (Wp.ite (fun h5 => ?_) (fun h5 => ?_))
          · replace h := h.1 h5
            refine Wp.steps 1 (pc' := 93) (lv' := [some (.ref 21), some (.int x1), some (.int x2), some (.int x3), some (.int v2), some (.int 1)]) (st' := [.int 0]) (I' := I3) (J' := J3) rfl ?_
            exact Wp.ret rfl h
          · replace h := h.2 h5
            refine Wp.steps 2 (pc' := 93) (lv' := [some (.ref 21), some (.int x1), some (.int x2), some (.int x3), some (.int v2), some (.int 1)]) (st' := [.int 1]) (I' := I3) (J' := J3) rfl ?_
            exact Wp.ret rfl h
        · replace h := h.2 h4
          refine Wp.steps 3 (pc' := 57) (lv' := [some (.ref 21), some (.int x1), some (.int x2), some (.int x3), some (.int v2), none]) (st' := [.int x2, .ref 22]) (I' := I2) (J' := J2) rfl ?_
          refine Wp.iald rfl rfl h.1 ?_
          replace h := h.2
          refine Wp.steps 1 (pc' := 59) (lv' := [some (.ref 21), some (.int x1), some (.int x2), some (.int x3), some (.int v2), none]) (st' := [.int 4, .int (I2 22 (tN x2))]) (I' := I2) (J' := J2) rfl ?_
          refine Wp.steps 1 (pc' := if (I2 22 (tN x2)) = 4 then 62 else 71) (lv' := [some (.ref 21), some (.int x1), some (.int x2), some (.int x3), some (.int v2), none]) (st' := []) (I' := I2) (J' := J2) rfl (Wp.ite (fun h5 => ?_) (fun h5 => ?_))
          · replace h := h.1 h5
            refine Wp.steps 2 (pc' := 64) (lv' := [some (.ref 21), some (.int x1), some (.int x2), some (.int x3), some (.int v2), none]) (st' := [.int 1, .int x3]) (I' := I2) (J' := J2) rfl ?_
            refine Wp.steps 1 (pc' := if x3 = 1 then 67 else 71) (lv' := [some (.ref 21), some (.int x1), some (.int x2), some (.int x3), some (.int v2), none]) (st' := []) (I' := I2) (J' := J2) rfl (Wp.ite (fun h6 => ?_) (fun h6 => ?_))
            · replace h := h.1 h6
              refine Wp.steps 8 (pc' := 82) (lv' := [some (.ref 21), some (.int x1), some (.int x2), some (.int x3), some (.int v2), some (.int 1)]) (st' := [.int x2, .int x1, .ref 21]) (I' := I2) (J' := J2) rfl ?_
              refine Wp.call (M' := Bx_ringLets) (as := [.ref 21, .int x1, .int x2]) (rest := []) rfl (CI.use h (fun v3 I3 J3 h => ?_))
              refine Wp.eqs (pc' := 85) (st' := [.int v3]) rfl rfl ?_
              refine Wp.steps 1 (pc' := if v3 = 0 then 92 else 88) (lv' := [some (.ref 21), some (.int x1), some (.int x2), some (.int x3), some (.int v2), some (.int 1)]) (st' := []) (I' := I3) (J' := J3) rfl (Wp.ite (fun h7 => ?_) (fun h7 => ?_))
              · replace h := h.1 h7
                refine Wp.steps 1 (pc' := 93) (lv' := [some (.ref 21), some (.int x1), some (.int x2), some (.int x3), some (.int v2), some (.int 1)]) (st' := [.int 0]) (I' := I3) (J' := J3) rfl ?_
                exact Wp.ret rfl h
              · replace h := h.2 h7
                refine Wp.steps 2 (pc' := 93) (lv' := [some (.ref 21), some (.int x1), some (.int x2), some (.int x3), some (.int v2), some (.int 1)]) (st' := [.int 1]) (I' := I3) (J' := J3) rfl ?_
                exact Wp.ret rfl h
            · replace h := h.2 h6
              refine Wp.steps 6 (pc' := 93) (lv' := [some (.ref 21), some (.int x1), some (.int x2), some (.int x3), some (.int v2), some (.int 0)]) (st' := [.int 1]) (I' := I2) (J' := J2) rfl ?_
              exact Wp.ret rfl h
          · replace h := h.2 h5
            refine Wp.steps 6 (pc' := 93) (lv' := [some (.ref 21), some (.int x1), some (.int x2), some (.int x3), some (.int v2), some (.int 0)]) (st' := [.int 1]) (I' := I2) (J' := J2) rfl ?_
            exact Wp.ret rfl h
      · replace h := h.2 h3
        refine Wp.steps 1 (pc' := 41) (lv' := [some (.ref 21), some (.int x1), some (.int x2), some (.int x3), some (.int v2), none]) (st' := [.int 0]) (I' := I2) (J' := J2) rfl ?_
        exact Wp.ret rfl h
