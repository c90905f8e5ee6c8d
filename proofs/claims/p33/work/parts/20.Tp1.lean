/-! what each way through a method asks (by program): Tp_write_31, Tp_read_31_21, Tp_readPanels_31_21, Tp_isEnd_31, Tp_accept_31, Tp_readLocks_31_21, Tp_oneOf_31_201, Tp_digit_31, Tp_peek_31, Tp_readLock_31_21, Tp_oneOf_31_202, Tp_readPlaces_31 -/
theorem v_Tp_write_31_0 {d : Nat} {Q : Post} {I : I2} {J : J2} {x1 : Int32} (h : ((I 31 1) < 90 → vp_in (I 31 1) 90 ∧ (Q (some (.int ((I 31 1) + 1))) (up2 (up2 I 32 (tN (I 31 1)) (vp_nar .char x1)) 31 1 ((I 31 1) + 1)) J)) ∧ (¬ ((I 31 1) < 90) → Q (some (.int (-3))) I J)) : Wp d Tp_write Q 0 [some (.ref 31), some (.int x1)] [] I J := by
  refine Wp.steps 3 (pc' := 6) (lv' := [some (.ref 31), some (.int x1)]) (st' := [.int 90, .int (I 31 1)]) (I' := I) (J' := J) rfl ?_
  refine Wp.steps 1 (pc' := if (I 31 1) < 90 then 12 else 9) (lv' := [some (.ref 31), some (.int x1)]) (st' := []) (I' := I) (J' := J) rfl (Wp.ite (fun h1 => ?_) (fun h1 => ?_))
  · replace h := h.1 h1
    refine Wp.steps 5 (pc' := 21) (lv' := [some (.ref 31), some (.int x1)]) (st' := [.int x1, .int (I 31 1), .ref 32]) (I' := I) (J' := J) rfl ?_
    refine Wp.cast rfl rfl h.1 ?_
    replace h := h.2
    refine Wp.steps 8 (pc' := 36) (lv' := [some (.ref 31), some (.int x1)]) (st' := [.int ((I 31 1) + 1)]) (I' := (up2 (up2 I 32 (tN (I 31 1)) (vp_nar .char x1)) 31 1 ((I 31 1) + 1))) (J' := J) rfl ?_
    exact Wp.ret rfl h
  · replace h := h.2 h1
    refine Wp.steps 1 (pc' := 11) (lv' := [some (.ref 31), some (.int x1)]) (st' := [.int (-3)]) (I' := I) (J' := J) rfl ?_
    exact Wp.ret rfl h
theorem v_Tp_read_31_21_0 {d : Nat} {Q : Post} {I : I2} {J : J2} (h : CV d Bx_clear [.ref 21] (up2 I 31 2 0) J (fun I1 J1 => CI d Tp_readPanels [.ref 31, .ref 21] I1 J1 (fun v2 I2 J2 => (v2 = 0 → Q (some (.int ((-20) - (I2 31 2)))) (up2 I2 31 1 0) J2) ∧ (¬ (v2 = 0) → CI d Tp_isEnd [.ref 31] I2 J2 (fun v3 I3 J3 => (v3 = 0 → CI d Tp_accept [.ref 31, .int 59] I3 J3 (fun v4 I4 J4 => (v4 = 0 → Q (some (.int ((-20) - (I4 31 2)))) (up2 I4 31 1 0) J4) ∧ (¬ (v4 = 0) → CI d Tp_readLocks [.ref 31, .ref 21] I4 J4 (fun v5 I5 J5 => (v5 = 0 → Q (some (.int ((-20) - (I5 31 2)))) (up2 I5 31 1 0) J5) ∧ (¬ (v5 = 0) → Q (some (.int (I5 21 2))) (up2 I5 31 1 0) J5))))) ∧ (¬ (v3 = 0) → Q (some (.int (I3 21 2))) (up2 I3 31 1 0) J3)))))) : Wp d Tp_read Q 0 [some (.ref 31), some (.ref 21), none] [] I J := by
  refine Wp.steps 4 (pc' := 6) (lv' := [some (.ref 31), some (.ref 21), none]) (st' := [.ref 21]) (I' := (up2 I 31 2 0)) (J' := J) rfl ?_
  refine Wp.call (M' := Bx_clear) (as := [.ref 21]) (rest := []) rfl (CV.use h (fun I1 J1 h => ?_))
  refine Wp.eqs (pc' := 9) (st' := []) rfl rfl ?_
  refine Wp.steps 2 (pc' := 11) (lv' := [some (.ref 31), some (.ref 21), none]) (st' := [.ref 21, .ref 31]) (I' := I1) (J' := J1) rfl ?_
  refine Wp.call (M' := Tp_readPanels) (as := [.ref 31, .ref 21]) (rest := []) rfl (CI.use h (fun v2 I2 J2 h => ?_))
  refine Wp.eqs (pc' := 14) (st' := [.int v2]) rfl rfl ?_
  refine Wp.steps 1 (pc' := if v2 = 0 then 45 else 17) (lv' := [some (.ref 31), some (.ref 21), none]) (st' := []) (I' := I2) (J' := J2) rfl (Wp.ite (fun h1 => ?_) (fun h1 => ?_))
  · replace h := h.1 h1
    refine Wp.steps 11 (pc' := 70) (lv' := [some (.ref 31), some (.ref 21), some (.int 0)]) (st' := [.int ((-20) - (I2 31 2))]) (I' := (up2 I2 31 1 0)) (J' := J2) rfl ?_
    exact Wp.ret rfl h
  · replace h := h.2 h1
    refine Wp.steps 1 (pc' := 18) (lv' := [some (.ref 31), some (.ref 21), none]) (st' := [.ref 31]) (I' := I2) (J' := J2) rfl ?_
    refine Wp.call (M' := Tp_isEnd) (as := [.ref 31]) (rest := []) rfl (CI.use h (fun v3 I3 J3 h => ?_))
    refine Wp.eqs (pc' := 21) (st' := [.int v3]) rfl rfl ?_
    refine Wp.steps 1 (pc' := if v3 = 0 then 24 else 41) (lv' := [some (.ref 31), some (.ref 21), none]) (st' := []) (I' := I3) (J' := J3) rfl (Wp.ite (fun h2 => ?_) (fun h2 => ?_))
    · replace h := h.1 h2
      refine Wp.steps 2 (pc' := 27) (lv' := [some (.ref 31), some (.ref 21), none]) (st' := [.int 59, .ref 31]) (I' := I3) (J' := J3) rfl ?_
      refine Wp.call (M' := Tp_accept) (as := [.ref 31, .int 59]) (rest := []) rfl (CI.use h (fun v4 I4 J4 h => ?_))
      refine Wp.eqs (pc' := 30) (st' := [.int v4]) rfl rfl ?_
      refine Wp.steps 1 (pc' := if v4 = 0 then 45 else 33) (lv' := [some (.ref 31), some (.ref 21), none]) (st' := []) (I' := I4) (J' := J4) rfl (Wp.ite (fun h3 => ?_) (fun h3 => ?_))
      · replace h := h.1 h3
        refine Wp.steps 11 (pc' := 70) (lv' := [some (.ref 31), some (.ref 21), some (.int 0)]) (st' := [.int ((-20) - (I4 31 2))]) (I' := (up2 I4 31 1 0)) (J' := J4) rfl ?_
        exact Wp.ret rfl h
      · replace h := h.2 h3
        refine Wp.steps 2 (pc' := 35) (lv' := [some (.ref 31), some (.ref 21), none]) (st' := [.ref 21, .ref 31]) (I' := I4) (J' := J4) rfl ?_
        refine Wp.call (M' := Tp_readLocks) (as := [.ref 31, .ref 21]) (rest := []) rfl (CI.use h (fun v5 I5 J5 h => ?_))
        refine Wp.eqs (pc' := 38) (st' := [.int v5]) rfl rfl ?_
        refine Wp.steps 1 (pc' := if v5 = 0 then 45 else 41) (lv' := [some (.ref 31), some (.ref 21), none]) (st' := []) (I' := I5) (J' := J5) rfl (Wp.ite (fun h4 => ?_) (fun h4 => ?_))
        · replace h := h.1 h4
          refine Wp.steps 11 (pc' := 70) (lv' := [some (.ref 31), some (.ref 21), some (.int 0)]) (st' := [.int ((-20) - (I5 31 2))]) (I' := (up2 I5 31 1 0)) (J' := J5) rfl ?_
          exact Wp.ret rfl h
        · replace h := h.2 h4
          refine Wp.steps 11 (pc' := 70) (lv' := [some (.ref 31), some (.ref 21), some (.int 1)]) (st' := [.int (I5 21 2)]) (I' := (up2 I5 31 1 0)) (J' := J5) rfl ?_
          exact Wp.ret rfl h
    · replace h := h.2 h2
      refine Wp.steps 11 (pc' := 70) (lv' := [some (.ref 31), some (.ref 21), some (.int 1)]) (st' := [.int (I3 21 2)]) (I' := (up2 I3 31 1 0)) (J' := J3) rfl ?_
      exact Wp.ret rfl h
theorem v_Tp_readPanels_31_21_0 {d : Nat} {Q : Post} {I : I2} {J : J2} (h : Wp d Tp_readPanels Q 4 [some (.ref 31), some (.ref 21), some (.int 0), some (.int 0), none, none] [] I J) : Wp d Tp_readPanels Q 0 [some (.ref 31), some (.ref 21), none, none, none, none] [] I J := by
  refine Wp.steps 4 (pc' := 4) (lv' := [some (.ref 31), some (.ref 21), some (.int 0), some (.int 0), none, none]) (st' := []) (I' := I) (J' := J) rfl ?_
  exact h
theorem v_Tp_readPanels_31_21_4 {d : Nat} {Q : Post} {I : I2} {J : J2} {x2 : Int32} {x3 : Int32} (h : (x3 < 5 → (0 < x3 → CI d Tp_accept [.ref 31, .int 44] I J (fun v1 I1 J1 => (v1 = 0 → Q (some (.int 1)) I1 J1) ∧ (¬ (v1 = 0) → CI d Tp_oneOf [.ref 31, .ref 201] I1 J1 (fun v2 I2 J2 => (v2 < 0 → Q (some (.int 0)) I2 J2) ∧ (¬ (v2 < 0) → CI d Tp_digit [.ref 31, .int 1, .int 3] I2 J2 (fun v3 I3 J3 => (v3 < 0 → Q (some (.int 0)) I3 J3) ∧ (¬ (v3 < 0) → CI d Bx_addPanel [.ref 21, .int v2, .int v3] I3 J3 (fun v4 I4 J4 => (x2 = 0 → CI d Tp_accept [.ref 31, .int 33] I4 J4 (fun v5 I5 J5 => (v5 = 0 → Wp d Tp_readPanels Q 4 [some (.ref 31), some (.ref 21), some (.int x2), some (.int (x3 + 1)), none, none] [] I5 J5) ∧ (¬ (v5 = 0) → Wp d Tp_readPanels Q 4 [some (.ref 31), some (.ref 21), some (.int 1), some (.int (x3 + 1)), none, none] [] (up2 I5 21 8 x3) J5))) ∧ (¬ (x2 = 0) → Wp d Tp_readPanels Q 4 [some (.ref 31), some (.ref 21), some (.int x2), some (.int (x3 + 1)), none, none] [] I4 J4))))))))) ∧ (¬ (0 < x3) → CI d Tp_oneOf [.ref 31, .ref 201] I J (fun v1 I1 J1 => (v1 < 0 → Q (some (.int 0)) I1 J1) ∧ (¬ (v1 < 0) → CI d Tp_digit [.ref 31, .int 1, .int 3] I1 J1 (fun v2 I2 J2 => (v2 < 0 → Q (some (.int 0)) I2 J2) ∧ (¬ (v2 < 0) → CI d Bx_addPanel [.ref 21, .int v1, .int v2] I2 J2 (fun v3 I3 J3 => (x2 = 0 → CI d Tp_accept [.ref 31, .int 33] I3 J3 (fun v4 I4 J4 => (v4 = 0 → Wp d Tp_readPanels Q 4 [some (.ref 31), some (.ref 21), some (.int x2), some (.int (x3 + 1)), none, none] [] I4 J4) ∧ (¬ (v4 = 0) → Wp d Tp_readPanels Q 4 [some (.ref 31), some (.ref 21), some (.int 1), some (.int (x3 + 1)), none, none] [] (up2 I4 21 8 x3) J4))) ∧ (¬ (x2 = 0) → Wp d Tp_readPanels Q 4 [some (.ref 31), some (.ref 21), some (.int x2), some (.int (x3 + 1)), none, none] [] I3 J3)))))))) ∧ (¬ (x3 < 5) → Q (some (.int 1)) I J)) : Wp d Tp_readPanels Q 4 [some (.ref 31), some (.ref 21), some (.int x2), some (.int x3), none, none] [] I J := by
  refine Wp.steps 2 (pc' := 6) (lv' := [some (.ref 31), some (.ref 21), some (.int x2), some (.int x3), none, none]) (st' := [.int 5, .int x3]) (I' := I) (J' := J) rfl ?_
  refine Wp.steps 1 (pc' := if x3 < 5 then 9 else 89) (lv' := [some (.ref 31), some (.ref 21), some (.int x2), some (.int x3), none, none]) (st' := []) (I' := I) (J' := J) rfl (Wp.ite (fun h1 => ?_) (fun h1 => ?_))
  · replace h := h.1 h1
    refine Wp.steps 1 (pc' := 10) (lv' := [some (.ref 31), some (.ref 21), some (.int x2), some (.int x3), none, none]) (st' := [.int x3]) (I' := I) (J' := J) rfl ?_
    refine Wp.steps 1 (pc' := if 0 < x3 then 13 else 24) (lv' := [some (.ref 31), some (.ref 21), some (.int x2), some (.int x3), none, none]) (st' := []) (I' := I) (J' := J) rfl (Wp.ite (fun h2 => ?_) (fun h2 => ?_))
    · replace h := h.1 h2
      refine Wp.steps 2 (pc' := 16) (lv' := [some (.ref 31), some (.ref 21), some (.int x2), some (.int x3), none, none]) (st' := [.int 44, .ref 31]) (I' := I) (J' := J) rfl ?_
      refine Wp.call (M' := Tp_accept) (as := [.ref 31, .int 44]) (rest := []) rfl (CI.use h (fun v1 I1 J1 h => ?_))
      refine Wp.eqs (pc' := 19) (st' := [.int v1]) rfl rfl ?_
      refine Wp.steps 1 (pc' := if v1 = 0 then 22 else 24) (lv' := [some (.ref 31), some (.ref 21), some (.int x2), some (.int x3), none, none]) (st' := []) (I' := I1) (J' := J1) rfl (Wp.ite (fun h3 => ?_) (fun h3 => ?_))
      · replace h := h.1 h3
        refine Wp.steps 1 (pc' := 23) (lv' := [some (.ref 31), some (.ref 21), some (.int x2), some (.int x3), none, none]) (st' := [.int 1]) (I' := I1) (J' := J1) rfl ?_
        exact Wp.ret rfl h
      · replace h := h.2 h3
        refine Wp.steps 2 (pc' := 27) (lv' := [some (.ref 31), some (.ref 21), some (.int x2), some (.int x3), none, none]) (st' := [.ref 201, .ref 31]) (I' := I1) (J' := J1) rfl ?_
        refine Wp.call (M' := Tp_oneOf) (as := [.ref 31, .ref 201]) (rest := []) rfl (CI.use h (fun v2 I2 J2 h => ?_))
        refine Wp.eqs (pc' := 30) (st' := [.int v2]) rfl rfl ?_
        refine Wp.steps 2 (pc' := 34) (lv' := [some (.ref 31), some (.ref 21), some (.int x2), some (.int x3), some (.int v2), none]) (st' := [.int v2]) (I' := I2) (J' := J2) rfl ?_
        refine Wp.steps 1 (pc' := if v2 < 0 then 37 else 39) (lv' := [some (.ref 31), some (.ref 21), some (.int x2), some (.int x3), some (.int v2), none]) (st' := []) (I' := I2) (J' := J2) rfl (Wp.ite (fun h4 => ?_) (fun h4 => ?_))
        · replace h := h.1 h4
          refine Wp.steps 1 (pc' := 38) (lv' := [some (.ref 31), some (.ref 21), some (.int x2), some (.int x3), some (.int v2), none]) (st' := [.int 0]) (I' := I2) (J' := J2) rfl ?_
          exact Wp.ret rfl h
        · replace h := h.2 h4
          refine Wp.steps 3 (pc' := 42) (lv' := [some (.ref 31), some (.ref 21), some (.int x2), some (.int x3), some (.int v2), none]) (st' := [.int 3, .int 1, .ref 31]) (I' := I2) (J' := J2) rfl ?_
          refine Wp.call (M' := Tp_digit) (as := [.ref 31, .int 1, .int 3]) (rest := []) rfl (CI.use h (fun v3 I3 J3 h => ?_))
          refine Wp.eqs (pc' := 45) (st' := [.int v3]) rfl rfl ?_
          refine Wp.steps 2 (pc' := 49) (lv' := [some (.ref 31), some (.ref 21), some (.int x2), some (.int x3), some (.int v2), some (.int v3)]) (st' := [.int v3]) (I' := I3) (J' := J3) rfl ?_
          refine Wp.steps 1 (pc' := if v3 < 0 then 52 else 54) (lv' := [some (.ref 31), some (.ref 21), some (.int x2), some (.int x3), some (.int v2), some (.int v3)]) (st' := []) (I' := I3) (J' := J3) rfl (Wp.ite (fun h5 => ?_) (fun h5 => ?_))
          · replace h := h.1 h5
            refine Wp.steps 1 (pc' := 53) (lv' := [some (.ref 31), some (.ref 21), some (.int x2), some (.int x3), some (.int v2), some (.int v3)]) (st' := [.int 0]) (I' := I3) (J' := J3) rfl ?_
            exact Wp.ret rfl h
          · replace h := h.2 h5
            refine Wp.steps 3 (pc' := 59) (lv' := [some (.ref 31), some (.ref 21), some (.int x2), some (.int x3), some (.int v2), some (.int v3)]) (st' := [.int v3, .int v2, .ref 21]) (I' := I3) (J' := J3) rfl ?_
            refine Wp.call (M' := Bx_addPanel) (as := [.ref 21, .int v2, .int v3]) (rest := []) rfl (CI.use h (fun v4 I4 J4 h => ?_))
            refine Wp.eqs (pc' := 62) (st' := [.int v4]) rfl rfl ?_
            refine Wp.steps 2 (pc' := 64) (lv' := [some (.ref 31), some (.ref 21), some (.int x2), some (.int x3), some (.int v2), some (.int v3)]) (st' := [.int x2]) (I' := I4) (J' := J4) rfl ?_
            refine Wp.steps 1 (pc' := if x2 = 0 then 67 else 83) (lv' := [some (.ref 31), some (.ref 21), some (.int x2), some (.int x3), some (.int v2), some (.int v3)]) (st' := []) (I' := I4) (J' := J4) rfl (Wp.ite (fun h6 => ?_) (fun h6 => ?_))
            · replace h := h.1 h6
              refine Wp.steps 2 (pc' := 70) (lv' := [some (.ref 31), some (.ref 21), some (.int x2), some (.int x3), some (.int v2), some (.int v3)]) (st' := [.int 33, .ref 31]) (I' := I4) (J' := J4) rfl ?_
              refine Wp.call (M' := Tp_accept) (as := [.ref 31, .int 33]) (rest := []) rfl (CI.use h (fun v5 I5 J5 h => ?_))
              refine Wp.eqs (pc' := 73) (st' := [.int v5]) rfl rfl ?_
              refine Wp.steps 1 (pc' := if v5 = 0 then 83 else 76) (lv' := [some (.ref 31), some (.ref 21), some (.int x2), some (.int x3), some (.int v2), some (.int v3)]) (st' := []) (I' := I5) (J' := J5) rfl (Wp.ite (fun h7 => ?_) (fun h7 => ?_))
              · replace h := h.1 h7
                refine Wp.steps 2 (pc' := 4) (lv' := [some (.ref 31), some (.ref 21), some (.int x2), some (.int (x3 + 1)), some (.int v2), some (.int v3)]) (st' := []) (I' := I5) (J' := J5) rfl ?_
                refine Wp.drop [4, 5] (lv' := [some (.ref 31), some (.ref 21), some (.int x2), some (.int (x3 + 1)), none, none]) rfl ?_
                exact h
              · replace h := h.2 h7
                refine Wp.steps 7 (pc' := 4) (lv' := [some (.ref 31), some (.ref 21), some (.int 1), some (.int (x3 + 1)), some (.int v2), some (.int v3)]) (st' := []) (I' := (up2 I5 21 8 x3)) (J' := J5) rfl ?_
                refine Wp.drop [4, 5] (lv' := [some (.ref 31), some (.ref 21), some (.int 1), some (.int (x3 + 1)), none, none]) rfl ?_
                exact h
            · replace h := h.2 h6
              refine Wp.steps 2 (pc' := 4) (lv' := [some (.ref 31), some (.ref 21), some (.int x2), some (.int (x3 + 1)), some (.int v2), some (.int v3)]) (st' := []) (I' := I4) (J' := J4) rfl ?_
              refine Wp.drop [4, 5] (lv' := [some (.ref 31), some (.ref 21), some (.int x2), some (.int (x3 + 1)), none, none]) rfl ?_
              exact h
    · replace h := h.2 h2
      refine Wp.steps 2 (pc' := 27) (lv' := [some (.ref 31), some (.ref 21), some (.int x2), some (.int x3), none, none]) (st' := [.ref 201, .ref 31]) (I' := I) (J' := J) rfl ?_
      refine Wp.call (M' := Tp_oneOf) (as := [.ref 31, .ref 201]) (rest := []) rfl (CI.use h (fun v1 I1 J1 h => ?_))
      refine Wp.eqs (pc' := 30) (st' := [.int v1]) rfl rfl ?_
      refine Wp.steps 2 (pc' := 34) (lv' := [some (.ref 31), some (.ref 21), some (.int x2), some (.int x3), some (.int v1), none]) (st' := [.int v1]) (I' := I1) (J' := J1) rfl ?_
      refine Wp.steps 1 (pc' := if v1 < 0 then 37 else 39) (lv' := [some (.ref 31), some (.ref 21), some (.int x2), some (.int x3), some (.int v1), none]) (st' := []) (I' := I1) (J' := J1) rfl (Wp.ite (fun h3 => ?_) (fun h3 => ?_))
      · replace h := h.1 h3
        refine Wp.steps 1 (pc' := 38) (lv' := [some (.ref 31), some (.ref 21), some (.int x2), some (.int x3), some (.int v1), none]) (st' := [.int 0]) (I' := I1) (J' := J1) rfl ?_
        exact Wp.ret rfl h
      · replace h := h.2 h3
        refine Wp.steps 3 (pc' := 42) (lv' := [some (.ref 31), some (.ref 21), some (.int x2), some (.int x3), some (.int v1), none]) (st' := [.int 3, .int 1, .ref 31]) (I' := I1) (J' := J1) rfl ?_
        refine Wp.call (M' := Tp_digit) (as := [.ref 31, .int 1, .int 3]) (rest := []) rfl (CI.use h (fun v2 I2 J2 h => ?_))
        refine Wp.eqs (pc' := 45) (st' := [.int v2]) rfl rfl ?_
        refine Wp.steps 2 (pc' := 49) (lv' := [some (.ref 31), some (.ref 21), some (.int x2), some (.int x3), some (.int v1), some (.int v2)]) (st' := [.int v2]) (I' := I2) (J' := J2) rfl ?_
        refine Wp.steps 1 (pc' := if v2 < 0 then 52 else 54) (lv' := [some (.ref 31), some (.ref 21), some (.int x2), some (.int x3), some (.int v1), some (.int v2)]) (st' := []) (I' := I2) (J' := J2) rfl (Wp.ite (fun h4 => ?_) (fun h4 => ?_))
        · replace h := h.1 h4
          refine Wp.steps 1 (pc' := 53) (lv' := [some (.ref 31), some (.ref 21), some (.int x2), some (.int x3), some (.int v1), some (.int v2)]) (st' := [.int 0]) (I' := I2) (J' := J2) rfl ?_
          exact Wp.ret rfl h
        · replace h := h.2 h4
          refine Wp.steps 3 (pc' := 59) (lv' := [some (.ref 31), some (.ref 21), some (.int x2), some (.int x3), some (.int v1), some (.int v2)]) (st' := [.int v2, .int v1, .ref 21]) (I' := I2) (J' := J2) rfl ?_
          refine Wp.call (M' := Bx_addPanel) (as := [.ref 21, .int v1, .int v2]) (rest := []) rfl (CI.use h (fun v3 I3 J3 h => ?_))
          refine Wp.eqs (pc' := 62) (st' := [.int v3]) rfl rfl ?_
          refine Wp.steps 2 (pc' := 64) (lv' := [some (.ref 31), some (.ref 21), some (.int x2), some (.int x3), some (.int v1), some (.int v2)]) (st' := [.int x2]) (I' := I3) (J' := J3) rfl ?_
          refine Wp.steps 1 (pc' := if x2 = 0 then 67 else 83) (lv' := [some (.ref 31), some (.ref 21), some (.int x2), some (.int x3), some (.int v1), some (.int v2)]) (st' := []) (I' := I3) (J' := J3) rfl (Wp.ite (fun h5 => ?_) (fun h5 => ?_))
          · replace h := h.1 h5
            refine Wp.steps 2 (pc' := 70) (lv' := [some (.ref 31), some (.ref 21), some (.int x2), some (.int x3), some (.int v1), some (.int v2)]) (st' := [.int 33, .ref 31]) (I' := I3) (J' := J3) rfl ?_
            refine Wp.call (M' := Tp_accept) (as := [.ref 31, .int 33]) (rest := []) rfl (CI.use h (fun v4 I4 J4 h => ?_))
            refine Wp.eqs (pc' := 73) (st' := [.int v4]) rfl rfl ?_
            refine Wp.steps 1 (pc' := if v4 = 0 then 83 else 76) (lv' := [some (.ref 31), some (.ref 21), some (.int x2), some (.int x3), some (.int v1), some (.int v2)]) (st' := []) (I' := I4) (J' := J4) rfl (Wp.ite (fun h6 => ?_) (fun h6 => ?_))
            · replace h := h.1 h6
              refine Wp.steps 2 (pc' := 4) (lv' := [some (.ref 31), some (.ref 21), some (.int x2), some (.int (x3 + 1)), some (.int v1), some (.int v2)]) (st' := []) (I' := I4) (J' := J4) rfl ?_
              refine Wp.drop [4, 5] (lv' := [some (.ref 31), some (.ref 21), some (.int x2), some (.int (x3 + 1)), none, none]) rfl ?_
              exact h
            · replace h := h.2 h6
              refine Wp.steps 7 (pc' := 4) (lv' := [some (.ref 31), some (.ref 21), some (.int 1), some (.int (x3 + 1)), some (.int v1), some (.int v2)]) (st' := []) (I' := (up2 I4 21 8 x3)) (J' := J4) rfl ?_
              refine Wp.drop [4, 5] (lv' := [some (.ref 31), some (.ref 21), some (.int 1), some (.int (x3 + 1)), none, none]) rfl ?_
              exact h
          · replace h := h.2 h5
            refine Wp.steps 2 (pc' := 4) (lv' := [some (.ref 31), some (.ref 21), some (.int x2), some (.int (x3 + 1)), some (.int v1), some (.int v2)]) (st' := []) (I' := I3) (J' := J3) rfl ?_
            refine Wp.drop [4, 5] (lv' := [some (.ref 31), some (.ref 21), some (.int x2), some (.int (x3 + 1)), none, none]) rfl ?_
            exact h
  · replace h := h.2 h1
    refine Wp.steps 1 (pc' := 90) (lv' := [some (.ref 31), some (.ref 21), some (.int x2), some (.int x3), none, none]) (st' := [.int 1]) (I' := I) (J' := J) rfl ?_
    exact Wp.ret rfl h
theorem v_Tp_isEnd_31_0 {d : Nat} {Q : Post} {I : I2} {J : J2} (h : CI d Tp_peek [.ref 31] I J (fun v1 I1 J1 => (v1 = 0 → Q (some (.int 1)) I1 J1) ∧ (¬ (v1 = 0) → Q (some (.int 0)) I1 J1))) : Wp d Tp_isEnd Q 0 [some (.ref 31)] [] I J := by
  refine Wp.steps 1 (pc' := 1) (lv' := [some (.ref 31)]) (st' := [.ref 31]) (I' := I) (J' := J) rfl ?_
  refine Wp.call (M' := Tp_peek) (as := [.ref 31]) (rest := []) rfl (CI.use h (fun v1 I1 J1 h => ?_))
  refine Wp.eqs (pc' := 4) (st' := [.int v1]) rfl rfl ?_
  refine Wp.steps 1 (pc' := if v1 = 0 then 7 else 11) (lv' := [some (.ref 31)]) (st' := []) (I' := I1) (J' := J1) rfl (Wp.ite (fun h1 => ?_) (fun h1 => ?_))
  · replace h := h.1 h1
    refine Wp.steps 2 (pc' := 12) (lv' := [some (.ref 31)]) (st' := [.int 1]) (I' := I1) (J' := J1) rfl ?_
    exact Wp.ret rfl h
  · replace h := h.2 h1
    refine Wp.steps 1 (pc' := 12) (lv' := [some (.ref 31)]) (st' := [.int 0]) (I' := I1) (J' := J1) rfl ?_
    exact Wp.ret rfl h
theorem v_Tp_accept_31_0 {d : Nat} {Q : Post} {I : I2} {J : J2} {x1 : Int32} (h : CI d Tp_peek [.ref 31] I J (fun v1 I1 J1 => (v1 = x1 → Q (some (.int 1)) (up2 I1 31 2 ((I1 31 2) + 1)) J1) ∧ (¬ (v1 = x1) → Q (some (.int 0)) I1 J1))) : Wp d Tp_accept Q 0 [some (.ref 31), some (.int x1)] [] I J := by
  refine Wp.steps 1 (pc' := 1) (lv' := [some (.ref 31), some (.int x1)]) (st' := [.ref 31]) (I' := I) (J' := J) rfl ?_
  refine Wp.call (M' := Tp_peek) (as := [.ref 31]) (rest := []) rfl (CI.use h (fun v1 I1 J1 h => ?_))
  refine Wp.eqs (pc' := 4) (st' := [.int v1]) rfl rfl ?_
  refine Wp.steps 1 (pc' := 5) (lv' := [some (.ref 31), some (.int x1)]) (st' := [.int x1, .int v1]) (I' := I1) (J' := J1) rfl ?_
  refine Wp.steps 1 (pc' := if v1 = x1 then 10 else 8) (lv' := [some (.ref 31), some (.int x1)]) (st' := []) (I' := I1) (J' := J1) rfl (Wp.ite (fun h1 => ?_) (fun h1 => ?_))
  · replace h := h.1 h1
    refine Wp.steps 7 (pc' := 21) (lv' := [some (.ref 31), some (.int x1)]) (st' := [.int 1]) (I' := (up2 I1 31 2 ((I1 31 2) + 1))) (J' := J1) rfl ?_
    exact Wp.ret rfl h
  · replace h := h.2 h1
    refine Wp.steps 1 (pc' := 9) (lv' := [some (.ref 31), some (.int x1)]) (st' := [.int 0]) (I' := I1) (J' := J1) rfl ?_
    exact Wp.ret rfl h
theorem v_Tp_readLocks_31_21_0 {d : Nat} {Q : Post} {I : I2} {J : J2} (h : Wp d Tp_readLocks Q 2 [some (.ref 31), some (.ref 21), some (.int 0)] [] I J) : Wp d Tp_readLocks Q 0 [some (.ref 31), some (.ref 21), none] [] I J := by
  refine Wp.steps 2 (pc' := 2) (lv' := [some (.ref 31), some (.ref 21), some (.int 0)]) (st' := []) (I' := I) (J' := J) rfl ?_
  exact h
theorem v_Tp_readLocks_31_21_2 {d : Nat} {Q : Post} {I : I2} {J : J2} {x2 : Int32} (h : (x2 < 6 → (0 < x2 → CI d Tp_accept [.ref 31, .int 44] I J (fun v1 I1 J1 => (v1 = 0 → CI d Tp_isEnd [.ref 31] I1 J1 (fun v2 I2 J2 => (v2 = 0 ∨ v2 = 1) ∧ Q (some (.int v2)) I2 J2)) ∧ (¬ (v1 = 0) → CI d Tp_readLock [.ref 31, .ref 21] I1 J1 (fun v2 I2 J2 => (v2 = 0 → Q (some (.int 0)) I2 J2) ∧ (¬ (v2 = 0) → Wp d Tp_readLocks Q 2 [some (.ref 31), some (.ref 21), some (.int (x2 + 1))] [] I2 J2))))) ∧ (¬ (0 < x2) → CI d Tp_readLock [.ref 31, .ref 21] I J (fun v1 I1 J1 => (v1 = 0 → Q (some (.int 0)) I1 J1) ∧ (¬ (v1 = 0) → Wp d Tp_readLocks Q 2 [some (.ref 31), some (.ref 21), some (.int (x2 + 1))] [] I1 J1)))) ∧ (¬ (x2 < 6) → CI d Tp_isEnd [.ref 31] I J (fun v1 I1 J1 => (v1 = 0 ∨ v1 = 1) ∧ Q (some (.int v1)) I1 J1))) : Wp d Tp_readLocks Q 2 [some (.ref 31), some (.ref 21), some (.int x2)] [] I J := by
  refine Wp.steps 2 (pc' := 5) (lv' := [some (.ref 31), some (.ref 21), some (.int x2)]) (st' := [.int 6, .int x2]) (I' := I) (J' := J) rfl ?_
  refine Wp.steps 1 (pc' := if x2 < 6 then 8 else 42) (lv' := [some (.ref 31), some (.ref 21), some (.int x2)]) (st' := []) (I' := I) (J' := J) rfl (Wp.ite (fun h1 => ?_) (fun h1 => ?_))
  · replace h := h.1 h1
    refine Wp.steps 1 (pc' := 9) (lv' := [some (.ref 31), some (.ref 21), some (.int x2)]) (st' := [.int x2]) (I' := I) (J' := J) rfl ?_
    refine Wp.steps 1 (pc' := if 0 < x2 then 12 else 26) (lv' := [some (.ref 31), some (.ref 21), some (.int x2)]) (st' := []) (I' := I) (J' := J) rfl (Wp.ite (fun h2 => ?_) (fun h2 => ?_))
    · replace h := h.1 h2
      refine Wp.steps 2 (pc' := 15) (lv' := [some (.ref 31), some (.ref 21), some (.int x2)]) (st' := [.int 44, .ref 31]) (I' := I) (J' := J) rfl ?_
      refine Wp.call (M' := Tp_accept) (as := [.ref 31, .int 44]) (rest := []) rfl (CI.use h (fun v1 I1 J1 h => ?_))
      refine Wp.eqs (pc' := 18) (st' := [.int v1]) rfl rfl ?_
      refine Wp.steps 1 (pc' := if v1 = 0 then 21 else 26) (lv' := [some (.ref 31), some (.ref 21), some (.int x2)]) (st' := []) (I' := I1) (J' := J1) rfl (Wp.ite (fun h3 => ?_) (fun h3 => ?_))
      · replace h := h.1 h3
        refine Wp.steps 1 (pc' := 22) (lv' := [some (.ref 31), some (.ref 21), some (.int x2)]) (st' := [.ref 31]) (I' := I1) (J' := J1) rfl ?_
        refine Wp.call (M' := Tp_isEnd) (as := [.ref 31]) (rest := []) rfl (CI.use h (fun v2 I2 J2 h => ?_))
        refine Wp.eqs (pc' := 25) (st' := [.int v2]) rfl rfl ?_
        exact Wp.retZ rfl rfl rfl h.1 h.2
      · replace h := h.2 h3
        refine Wp.steps 2 (pc' := 28) (lv' := [some (.ref 31), some (.ref 21), some (.int x2)]) (st' := [.ref 21, .ref 31]) (I' := I1) (J' := J1) rfl ?_
        refine Wp.call (M' := Tp_readLock) (as := [.ref 31, .ref 21]) (rest := []) rfl (CI.use h (fun v2 I2 J2 h => ?_))
        refine Wp.eqs (pc' := 31) (st' := [.int v2]) rfl rfl ?_
        refine Wp.steps 1 (pc' := if v2 = 0 then 34 else 36) (lv' := [some (.ref 31), some (.ref 21), some (.int x2)]) (st' := []) (I' := I2) (J' := J2) rfl (Wp.ite (fun h4 => ?_) (fun h4 => ?_))
        · replace h := h.1 h4
          refine Wp.steps 1 (pc' := 35) (lv' := [some (.ref 31), some (.ref 21), some (.int x2)]) (st' := [.int 0]) (I' := I2) (J' := J2) rfl ?_
          exact Wp.ret rfl h
        · replace h := h.2 h4
          refine Wp.steps 2 (pc' := 2) (lv' := [some (.ref 31), some (.ref 21), some (.int (x2 + 1))]) (st' := []) (I' := I2) (J' := J2) rfl ?_
          exact h
    · replace h := h.2 h2
      refine Wp.steps 2 (pc' := 28) (lv' := [some (.ref 31), some (.ref 21), some (.int x2)]) (st' := [.ref 21, .ref 31]) (I' := I) (J' := J) rfl ?_
      refine Wp.call (M' := Tp_readLock) (as := [.ref 31, .ref 21]) (rest := []) rfl (CI.use h (fun v1 I1 J1 h => ?_))
      refine Wp.eqs (pc' := 31) (st' := [.int v1]) rfl rfl ?_
      refine Wp.steps 1 (pc' := if v1 = 0 then 34 else 36) (lv' := [some (.ref 31), some (.ref 21), some (.int x2)]) (st' := []) (I' := I1) (J' := J1) rfl (Wp.ite (fun h3 => ?_) (fun h3 => ?_))
      · replace h := h.1 h3
        refine Wp.steps 1 (pc' := 35) (lv' := [some (.ref 31), some (.ref 21), some (.int x2)]) (st' := [.int 0]) (I' := I1) (J' := J1) rfl ?_
        exact Wp.ret rfl h
      · replace h := h.2 h3
        refine Wp.steps 2 (pc' := 2) (lv' := [some (.ref 31), some (.ref 21), some (.int (x2 + 1))]) (st' := []) (I' := I1) (J' := J1) rfl ?_
        exact h
  · replace h := h.2 h1
    refine Wp.steps 1 (pc' := 43) (lv' := [some (.ref 31), some (.ref 21), some (.int x2)]) (st' := [.ref 31]) (I' := I) (J' := J) rfl ?_
    refine Wp.call (M' := Tp_isEnd) (as := [.ref 31]) (rest := []) rfl (CI.use h (fun v1 I1 J1 h => ?_))
    refine Wp.eqs (pc' := 46) (st' := [.int v1]) rfl rfl ?_
    exact Wp.retZ rfl rfl rfl h.1 h.2
theorem v_Tp_oneOf_31_201_0 {d : Nat} {Q : Post} {I : I2} {J : J2} (h : CI d Tp_peek [.ref 31] I J (fun v1 I1 J1 => ((txF v1 tx1 0) < 0 → Q (some (.int (txF v1 tx1 0))) I1 J1) ∧ (¬ ((txF v1 tx1 0) < 0) → Q (some (.int (txF v1 tx1 0))) (up2 I1 31 2 ((I1 31 2) + 1)) J1))) : Wp d Tp_oneOf Q 0 [some (.ref 31), some (.ref 201), none] [] I J := by
  refine Wp.steps 2 (pc' := 2) (lv' := [some (.ref 31), some (.ref 201), none]) (st' := [.ref 31, .ref 201]) (I' := I) (J' := J) rfl ?_
  refine Wp.call (M' := Tp_peek) (as := [.ref 31]) (rest := [.ref 201]) rfl (CI.use h (fun v1 I1 J1 h => ?_))
  refine Wp.eqs (pc' := 5) (st' := [.int v1, .ref 201]) rfl rfl ?_
  refine Wp.steps 3 (pc' := 10) (lv' := [some (.ref 31), some (.ref 201), some (.int (txF v1 tx1 0))]) (st' := [.int (txF v1 tx1 0)]) (I' := I1) (J' := J1) rfl ?_
  refine Wp.steps 1 (pc' := if (txF v1 tx1 0) < 0 then 23 else 13) (lv' := [some (.ref 31), some (.ref 201), some (.int (txF v1 tx1 0))]) (st' := []) (I' := I1) (J' := J1) rfl (Wp.ite (fun h1 => ?_) (fun h1 => ?_))
  · replace h := h.1 h1
    refine Wp.steps 1 (pc' := 24) (lv' := [some (.ref 31), some (.ref 201), some (.int (txF v1 tx1 0))]) (st' := [.int (txF v1 tx1 0)]) (I' := I1) (J' := J1) rfl ?_
    exact Wp.ret rfl h
  · replace h := h.2 h1
    refine Wp.steps 7 (pc' := 24) (lv' := [some (.ref 31), some (.ref 201), some (.int (txF v1 tx1 0))]) (st' := [.int (txF v1 tx1 0)]) (I' := (up2 I1 31 2 ((I1 31 2) + 1))) (J' := J1) rfl ?_
    exact Wp.ret rfl h
theorem v_Tp_digit_31_0 {d : Nat} {Q : Post} {I : I2} {J : J2} {x1 : Int32} {x2 : Int32} (h : CI d Tp_peek [.ref 31] I J (fun v1 I1 J1 => ((v1 - 48) < x1 → Q (some (.int (-1))) I1 J1) ∧ (¬ ((v1 - 48) < x1) → (x2 < (v1 - 48) → Q (some (.int (-1))) I1 J1) ∧ (¬ (x2 < (v1 - 48)) → Q (some (.int (v1 - 48))) (up2 I1 31 2 ((I1 31 2) + 1)) J1)))) : Wp d Tp_digit Q 0 [some (.ref 31), some (.int x1), some (.int x2), none] [] I J := by
  refine Wp.steps 1 (pc' := 1) (lv' := [some (.ref 31), some (.int x1), some (.int x2), none]) (st' := [.ref 31]) (I' := I) (J' := J) rfl ?_
  refine Wp.call (M' := Tp_peek) (as := [.ref 31]) (rest := []) rfl (CI.use h (fun v1 I1 J1 h => ?_))
  refine Wp.eqs (pc' := 4) (st' := [.int v1]) rfl rfl ?_
  refine Wp.steps 5 (pc' := 10) (lv' := [some (.ref 31), some (.int x1), some (.int x2), some (.int (v1 - 48))]) (st' := [.int x1, .int (v1 - 48)]) (I' := I1) (J' := J1) rfl ?_
  refine Wp.steps 1 (pc' := if (v1 - 48) < x1 then 18 else 13) (lv' := [some (.ref 31), some (.int x1), some (.int x2), some (.int (v1 - 48))]) (st' := []) (I' := I1) (J' := J1) rfl (Wp.ite (fun h1 => ?_) (fun h1 => ?_))
  · replace h := h.1 h1
    refine Wp.steps 1 (pc' := 19) (lv' := [some (.ref 31), some (.int x1), some (.int x2), some (.int (v1 - 48))]) (st' := [.int (-1)]) (I' := I1) (J' := J1) rfl ?_
    exact Wp.ret rfl h
  · replace h := h.2 h1
    refine Wp.steps 2 (pc' := 15) (lv' := [some (.ref 31), some (.int x1), some (.int x2), some (.int (v1 - 48))]) (st' := [.int x2, .int (v1 - 48)]) (I' := I1) (J' := J1) rfl ?_
    refine Wp.steps 1 (pc' := if x2 < (v1 - 48) then 18 else 20) (lv' := [some (.ref 31), some (.int x1), some (.int x2), some (.int (v1 - 48))]) (st' := []) (I' := I1) (J' := J1) rfl (Wp.ite (fun h2 => ?_) (fun h2 => ?_))
    · replace h := h.1 h2
      refine Wp.steps 1 (pc' := 19) (lv' := [some (.ref 31), some (.int x1), some (.int x2), some (.int (v1 - 48))]) (st' := [.int (-1)]) (I' := I1) (J' := J1) rfl ?_
      exact Wp.ret rfl h
    · replace h := h.2 h2
      refine Wp.steps 7 (pc' := 31) (lv' := [some (.ref 31), some (.int x1), some (.int x2), some (.int (v1 - 48))]) (st' := [.int (v1 - 48)]) (I' := (up2 I1 31 2 ((I1 31 2) + 1))) (J' := J1) rfl ?_
      exact Wp.ret rfl h
theorem v_Tp_peek_31_0 {d : Nat} {Q : Post} {I : I2} {J : J2} (h : ((I 31 2) < (I 31 1) → ((I 31 2) < 90 → vp_in (I 31 2) 90 ∧ (((I 32 (tN (I 31 2))) = 32 → Wp d Tp_peek Q 0 [some (.ref 31)] [] (up2 I 31 2 ((I 31 2) + 1)) J) ∧ (¬ ((I 32 (tN (I 31 2))) = 32) → vp_in (I 31 2) 90 ∧ (vp_nar .char (I 32 (tN (I 31 2))) = (I 32 (tN (I 31 2))) ∧ Q (some (.int (I 32 (tN (I 31 2))))) I J)))) ∧ (¬ ((I 31 2) < 90) → vp_nar .char 0 = 0 ∧ Q (some (.int 0)) I J)) ∧ (¬ ((I 31 2) < (I 31 1)) → vp_nar .char 0 = 0 ∧ Q (some (.int 0)) I J)) : Wp d Tp_peek Q 0 [some (.ref 31)] [] I J := by
  refine Wp.steps 4 (pc' := 8) (lv' := [some (.ref 31)]) (st' := [.int (I 31 1), .int (I 31 2)]) (I' := I) (J' := J) rfl ?_
  refine Wp.steps 1 (pc' := if (I 31 2) < (I 31 1) then 11 else 47) (lv' := [some (.ref 31)]) (st' := []) (I' := I) (J' := J) rfl (Wp.ite (fun h1 => ?_) (fun h1 => ?_))
  · replace h := h.1 h1
    refine Wp.steps 3 (pc' := 17) (lv' := [some (.ref 31)]) (st' := [.int 90, .int (I 31 2)]) (I' := I) (J' := J) rfl ?_
    refine Wp.steps 1 (pc' := if (I 31 2) < 90 then 20 else 47) (lv' := [some (.ref 31)]) (st' := []) (I' := I) (J' := J) rfl (Wp.ite (fun h2 => ?_) (fun h2 => ?_))
    · replace h := h.1 h2
      refine Wp.steps 4 (pc' := 28) (lv' := [some (.ref 31)]) (st' := [.int (I 31 2), .ref 32]) (I' := I) (J' := J) rfl ?_
      refine Wp.cald rfl rfl h.1 ?_
      replace h := h.2
      refine Wp.steps 1 (pc' := 31) (lv' := [some (.ref 31)]) (st' := [.int 32, .int (I 32 (tN (I 31 2)))]) (I' := I) (J' := J) rfl ?_
      refine Wp.steps 1 (pc' := if (I 32 (tN (I 31 2))) = 32 then 34 else 47) (lv' := [some (.ref 31)]) (st' := []) (I' := I) (J' := J) rfl (Wp.ite (fun h3 => ?_) (fun h3 => ?_))
      · replace h := h.1 h3
        refine Wp.steps 7 (pc' := 0) (lv' := [some (.ref 31)]) (st' := []) (I' := (up2 I 31 2 ((I 31 2) + 1))) (J' := J) rfl ?_
        exact h
      · replace h := h.2 h3
        refine Wp.steps 4 (pc' := 55) (lv' := [some (.ref 31)]) (st' := [.int (I 31 1), .int (I 31 2)]) (I' := I) (J' := J) rfl ?_
        refine Wp.steps 1 (pc' := if (I 31 2) < (I 31 1) then 58 else 79) (lv' := [some (.ref 31)]) (st' := []) (I' := I) (J' := J) rfl ?_
        rw [if_pos h1]
        refine Wp.steps 3 (pc' := 64) (lv' := [some (.ref 31)]) (st' := [.int 90, .int (I 31 2)]) (I' := I) (J' := J) rfl ?_
        refine Wp.steps 1 (pc' := if (I 31 2) < 90 then 67 else 79) (lv' := [some (.ref 31)]) (st' := []) (I' := I) (J' := J) rfl ?_
        rw [if_pos h2]
        refine Wp.steps 4 (pc' := 75) (lv' := [some (.ref 31)]) (st' := [.int (I 31 2), .ref 32]) (I' := I) (J' := J) rfl ?_
        refine Wp.cald rfl rfl h.1 ?_
        replace h := h.2
        refine Wp.steps 1 (pc' := 80) (lv' := [some (.ref 31)]) (st' := [.int (I 32 (tN (I 31 2)))]) (I' := I) (J' := J) rfl ?_
        exact Wp.retC rfl rfl rfl h.1 h.2
    · replace h := h.2 h2
      refine Wp.steps 4 (pc' := 55) (lv' := [some (.ref 31)]) (st' := [.int (I 31 1), .int (I 31 2)]) (I' := I) (J' := J) rfl ?_
      refine Wp.steps 1 (pc' := if (I 31 2) < (I 31 1) then 58 else 79) (lv' := [some (.ref 31)]) (st' := []) (I' := I) (J' := J) rfl ?_
      rw [if_pos h1]
      refine Wp.steps 3 (pc' := 64) (lv' := [some (.ref 31)]) (st' := [.int 90, .int (I 31 2)]) (I' := I) (J' := J) rfl ?_
      refine Wp.steps 1 (pc' := if (I 31 2) < 90 then 67 else 79) (lv' := [some (.ref 31)]) (st' := []) (I' := I) (J' := J) rfl ?_
      rw [if_neg h2]
      refine Wp.steps 1 (pc' := 80) (lv' := [some (.ref 31)]) (st' := [.int 0]) (I' := I) (J' := J) rfl ?_
      exact Wp.retC rfl rfl rfl h.1 h.2
  · replace h := h.2 h1
    refine Wp.steps 4 (pc' := 55) (lv' := [some (.ref 31)]) (st' := [.int (I 31 1), .int (I 31 2)]) (I' := I) (J' := J) rfl ?_
    refine Wp.steps 1 (pc' := if (I 31 2) < (I 31 1) then 58 else 79) (lv' := [some (.ref 31)]) (st' := []) (I' := I) (J' := J) rfl ?_
    rw [if_neg h1]
    refine Wp.steps 1 (pc' := 80) (lv' := [some (.ref 31)]) (st' := [.int 0]) (I' := I) (J' := J) rfl ?_
    exact Wp.retC rfl rfl rfl h.1 h.2
theorem v_Tp_readLock_31_21_0 {d : Nat} {Q : Post} {I : I2} {J : J2} (h : CI d Tp_digit [.ref 31, .int 0, .int ((I 21 2) - 1)] I J (fun v1 I1 J1 => (v1 < 0 → Q (some (.int 0)) I1 J1) ∧ (¬ (v1 < 0) → CI d Tp_oneOf [.ref 31, .ref 202] I1 J1 (fun v2 I2 J2 => (v2 < 0 → Q (some (.int 0)) I2 J2) ∧ (¬ (v2 < 0) → CI d Tp_peek [.ref 31] I2 J2 (fun v3 I3 J3 => ((v3 - 48) = v1 → Q (some (.int 0)) I3 J3) ∧ (¬ ((v3 - 48) = v1) → CI d Tp_digit [.ref 31, .int 0, .int ((I3 21 2) - 1)] I3 J3 (fun v4 I4 J4 => CI d Bx_hasPanel [.ref 21, .int v4] I4 J4 (fun v5 I5 J5 => (v5 = 0 → Q (some (.int 0)) I5 J5) ∧ (¬ (v5 = 0) → vp_in v4 5 ∧ (CI d Tp_readPlaces [.ref 31, .int (I5 23 (tN v4))] I5 J5 (fun v6 I6 J6 => (v6 = 0 → Q (some (.int 0)) I6 J6) ∧ (¬ (v6 = 0) → CI d Bx_addLock [.ref 21, .int v1, .int v2, .int v4, .int v6] I6 J6 (fun v7 I7 J7 => Q (some (.int 1)) I7 J7)))))))))))))) : Wp d Tp_readLock Q 0 [some (.ref 31), some (.ref 21), none, none, none, none] [] I J := by
  refine Wp.steps 6 (pc' := 8) (lv' := [some (.ref 31), some (.ref 21), none, none, none, none]) (st' := [.int ((I 21 2) - 1), .int 0, .ref 31]) (I' := I) (J' := J) rfl ?_
  refine Wp.call (M' := Tp_digit) (as := [.ref 31, .int 0, .int ((I 21 2) - 1)]) (rest := []) rfl (CI.use h (fun v1 I1 J1 h => ?_))
  refine Wp.eqs (pc' := 11) (st' := [.int v1]) rfl rfl ?_
  refine Wp.steps 2 (pc' := 13) (lv' := [some (.ref 31), some (.ref 21), some (.int v1), none, none, none]) (st' := [.int v1]) (I' := I1) (J' := J1) rfl ?_
  refine Wp.steps 1 (pc' := if v1 < 0 then 16 else 18) (lv' := [some (.ref 31), some (.ref 21), some (.int v1), none, none, none]) (st' := []) (I' := I1) (J' := J1) rfl (Wp.ite (fun h1 => ?_) (fun h1 => ?_))
  · replace h := h.1 h1
    refine Wp.steps 1 (pc' := 17) (lv' := [some (.ref 31), some (.ref 21), some (.int v1), none, none, none]) (st' := [.int 0]) (I' := I1) (J' := J1) rfl ?_
    exact Wp.ret rfl h
  · replace h := h.2 h1
    refine Wp.steps 2 (pc' := 21) (lv' := [some (.ref 31), some (.ref 21), some (.int v1), none, none, none]) (st' := [.ref 202, .ref 31]) (I' := I1) (J' := J1) rfl ?_
    refine Wp.call (M' := Tp_oneOf) (as := [.ref 31, .ref 202]) (rest := []) rfl (CI.use h (fun v2 I2 J2 h => ?_))
    refine Wp.eqs (pc' := 24) (st' := [.int v2]) rfl rfl ?_
    refine Wp.steps 2 (pc' := 26) (lv' := [some (.ref 31), some (.ref 21), some (.int v1), some (.int v2), none, none]) (st' := [.int v2]) (I' := I2) (J' := J2) rfl ?_
    refine Wp.steps 1 (pc' := if v2 < 0 then 40 else 29) (lv' := [some (.ref 31), some (.ref 21), some (.int v1), some (.int v2), none, none]) (st' := []) (I' := I2) (J' := J2) rfl (Wp.ite (fun h2 => ?_) (fun h2 => ?_))
    · replace h := h.1 h2
      refine Wp.steps 1 (pc' := 41) (lv' := [some (.ref 31), some (.ref 21), some (.int v1), some (.int v2), none, none]) (st' := [.int 0]) (I' := I2) (J' := J2) rfl ?_
      exact Wp.ret rfl h
    · replace h := h.2 h2
      refine Wp.steps 1 (pc' := 30) (lv' := [some (.ref 31), some (.ref 21), some (.int v1), some (.int v2), none, none]) (st' := [.ref 31]) (I' := I2) (J' := J2) rfl ?_
      refine Wp.call (M' := Tp_peek) (as := [.ref 31]) (rest := []) rfl (CI.use h (fun v3 I3 J3 h => ?_))
      refine Wp.eqs (pc' := 33) (st' := [.int v3]) rfl rfl ?_
      refine Wp.steps 3 (pc' := 37) (lv' := [some (.ref 31), some (.ref 21), some (.int v1), some (.int v2), none, none]) (st' := [.int v1, .int (v3 - 48)]) (I' := I3) (J' := J3) rfl ?_
      refine Wp.steps 1 (pc' := if (v3 - 48) = v1 then 40 else 42) (lv' := [some (.ref 31), some (.ref 21), some (.int v1), some (.int v2), none, none]) (st' := []) (I' := I3) (J' := J3) rfl (Wp.ite (fun h3 => ?_) (fun h3 => ?_))
      · replace h := h.1 h3
        refine Wp.steps 1 (pc' := 41) (lv' := [some (.ref 31), some (.ref 21), some (.int v1), some (.int v2), none, none]) (st' := [.int 0]) (I' := I3) (J' := J3) rfl ?_
        exact Wp.ret rfl h
      · replace h := h.2 h3
        refine Wp.steps 6 (pc' := 50) (lv' := [some (.ref 31), some (.ref 21), some (.int v1), some (.int v2), none, none]) (st' := [.int ((I3 21 2) - 1), .int 0, .ref 31]) (I' := I3) (J' := J3) rfl ?_
        refine Wp.call (M' := Tp_digit) (as := [.ref 31, .int 0, .int ((I3 21 2) - 1)]) (rest := []) rfl (CI.use h (fun v4 I4 J4 h => ?_))
        refine Wp.eqs (pc' := 53) (st' := [.int v4]) rfl rfl ?_
        refine Wp.steps 3 (pc' := 58) (lv' := [some (.ref 31), some (.ref 21), some (.int v1), some (.int v2), some (.int v4), none]) (st' := [.int v4, .ref 21]) (I' := I4) (J' := J4) rfl ?_
        refine Wp.call (M' := Bx_hasPanel) (as := [.ref 21, .int v4]) (rest := []) rfl (CI.use h (fun v5 I5 J5 h => ?_))
        refine Wp.eqs (pc' := 61) (st' := [.int v5]) rfl rfl ?_
        refine Wp.steps 1 (pc' := if v5 = 0 then 64 else 66) (lv' := [some (.ref 31), some (.ref 21), some (.int v1), some (.int v2), some (.int v4), none]) (st' := []) (I' := I5) (J' := J5) rfl (Wp.ite (fun h4 => ?_) (fun h4 => ?_))
        · replace h := h.1 h4
          refine Wp.steps 1 (pc' := 65) (lv' := [some (.ref 31), some (.ref 21), some (.int v1), some (.int v2), some (.int v4), none]) (st' := [.int 0]) (I' := I5) (J' := J5) rfl ?_
          exact Wp.ret rfl h
        · replace h := h.2 h4
          refine Wp.steps 4 (pc' := 73) (lv' := [some (.ref 31), some (.ref 21), some (.int v1), some (.int v2), some (.int v4), none]) (st' := [.int v4, .ref 23, .ref 31]) (I' := I5) (J' := J5) rfl ?_
          refine Wp.iald rfl rfl h.1 ?_
          replace h := h.2
          refine Wp.call (M' := Tp_readPlaces) (as := [.ref 31, .int (I5 23 (tN v4))]) (rest := []) rfl (CI.use h (fun v6 I6 J6 h => ?_))
          refine Wp.eqs (pc' := 77) (st' := [.int v6]) rfl rfl ?_
          refine Wp.steps 2 (pc' := 81) (lv' := [some (.ref 31), some (.ref 21), some (.int v1), some (.int v2), some (.int v4), some (.int v6)]) (st' := [.int v6]) (I' := I6) (J' := J6) rfl ?_
          refine Wp.steps 1 (pc' := if v6 = 0 then 84 else 86) (lv' := [some (.ref 31), some (.ref 21), some (.int v1), some (.int v2), some (.int v4), some (.int v6)]) (st' := []) (I' := I6) (J' := J6) rfl (Wp.ite (fun h5 => ?_) (fun h5 => ?_))
          · replace h := h.1 h5
            refine Wp.steps 1 (pc' := 85) (lv' := [some (.ref 31), some (.ref 21), some (.int v1), some (.int v2), some (.int v4), some (.int v6)]) (st' := [.int 0]) (I' := I6) (J' := J6) rfl ?_
            exact Wp.ret rfl h
          · replace h := h.2 h5
            refine Wp.steps 5 (pc' := 93) (lv' := [some (.ref 31), some (.ref 21), some (.int v1), some (.int v2), some (.int v4), some (.int v6)]) (st' := [.int v6, .int v4, .int v2, .int v1, .ref 21]) (I' := I6) (J' := J6) rfl ?_
            refine Wp.call (M' := Bx_addLock) (as := [.ref 21, .int v1, .int v2, .int v4, .int v6]) (rest := []) rfl (CI.use h (fun v7 I7 J7 h => ?_))
            refine Wp.eqs (pc' := 96) (st' := [.int v7]) rfl rfl ?_
            refine Wp.steps 2 (pc' := 98) (lv' := [some (.ref 31), some (.ref 21), some (.int v1), some (.int v2), some (.int v4), some (.int v6)]) (st' := [.int 1]) (I' := I7) (J' := J7) rfl ?_
            exact Wp.ret rfl h
theorem v_Tp_oneOf_31_202_0 {d : Nat} {Q : Post} {I : I2} {J : J2} (h : CI d Tp_peek [.ref 31] I J (fun v1 I1 J1 => ((txF v1 tx2 0) < 0 → Q (some (.int (txF v1 tx2 0))) I1 J1) ∧ (¬ ((txF v1 tx2 0) < 0) → Q (some (.int (txF v1 tx2 0))) (up2 I1 31 2 ((I1 31 2) + 1)) J1))) : Wp d Tp_oneOf Q 0 [some (.ref 31), some (.ref 202), none] [] I J := by
  refine Wp.steps 2 (pc' := 2) (lv' := [some (.ref 31), some (.ref 202), none]) (st' := [.ref 31, .ref 202]) (I' := I) (J' := J) rfl ?_
  refine Wp.call (M' := Tp_peek) (as := [.ref 31]) (rest := [.ref 202]) rfl (CI.use h (fun v1 I1 J1 h => ?_))
  refine Wp.eqs (pc' := 5) (st' := [.int v1, .ref 202]) rfl rfl ?_
  refine Wp.steps 3 (pc' := 10) (lv' := [some (.ref 31), some (.ref 202), some (.int (txF v1 tx2 0))]) (st' := [.int (txF v1 tx2 0)]) (I' := I1) (J' := J1) rfl ?_
  refine Wp.steps 1 (pc' := if (txF v1 tx2 0) < 0 then 23 else 13) (lv' := [some (.ref 31), some (.ref 202), some (.int (txF v1 tx2 0))]) (st' := []) (I' := I1) (J' := J1) rfl (Wp.ite (fun h1 => ?_) (fun h1 => ?_))
  · replace h := h.1 h1
    refine Wp.steps 1 (pc' := 24) (lv' := [some (.ref 31), some (.ref 202), some (.int (txF v1 tx2 0))]) (st' := [.int (txF v1 tx2 0)]) (I' := I1) (J' := J1) rfl ?_
    exact Wp.ret rfl h
  · replace h := h.2 h1
    refine Wp.steps 7 (pc' := 24) (lv' := [some (.ref 31), some (.ref 202), some (.int (txF v1 tx2 0))]) (st' := [.int (txF v1 tx2 0)]) (I' := (up2 I1 31 2 ((I1 31 2) + 1))) (J' := J1) rfl ?_
    exact Wp.ret rfl h
theorem v_Tp_readPlaces_31_0 {d : Nat} {Q : Post} {I : I2} {J : J2} {x1 : Int32} (h : Wp d Tp_readPlaces Q 7 [some (.ref 31), some (.int x1), some (.int 0), some (.int 0), some (.int 0), none] [] I J) : Wp d Tp_readPlaces Q 0 [some (.ref 31), some (.int x1), none, none, none, none] [] I J := by
  refine Wp.steps 6 (pc' := 7) (lv' := [some (.ref 31), some (.int x1), some (.int 0), some (.int 0), some (.int 0), none]) (st' := []) (I' := I) (J' := J) rfl ?_
  exact h
theorem v_Tp_readPlaces_31_7 {d : Nat} {Q : Post} {I : I2} {J : J2} {x1 : Int32} {x2 : Int32} {x3 : Int32} {x4 : Int32} (h : (x1 < x4 → Q (some (.int x2)) I J) ∧ (¬ (x1 < x4) → CI d Tp_digit [.ref 31, .int x3, .int x1] I J (fun v1 I1 J1 => (v1 < 0 → Q (some (.int x2)) I1 J1) ∧ (¬ (v1 < 0) → Wp d Tp_readPlaces Q 7 [some (.ref 31), some (.int x1), some (.int (x2 ||| (slI 1 v1))), some (.int (v1 + 1)), some (.int (x4 + 1)), none] [] I1 J1)))) : Wp d Tp_readPlaces Q 7 [some (.ref 31), some (.int x1), some (.int x2), some (.int x3), some (.int x4), none] [] I J := by
  refine Wp.steps 2 (pc' := 10) (lv' := [some (.ref 31), some (.int x1), some (.int x2), some (.int x3), some (.int x4), none]) (st' := [.int x1, .int x4]) (I' := I) (J' := J) rfl ?_
  refine Wp.steps 1 (pc' := if x1 < x4 then 46 else 13) (lv' := [some (.ref 31), some (.int x1), some (.int x2), some (.int x3), some (.int x4), none]) (st' := []) (I' := I) (J' := J) rfl (Wp.ite (fun h1 => ?_) (fun h1 => ?_))
  · replace h := h.1 h1
    refine Wp.steps 1 (pc' := 47) (lv' := [some (.ref 31), some (.int x1), some (.int x2), some (.int x3), some (.int x4), none]) (st' := [.int x2]) (I' := I) (J' := J) rfl ?_
    exact Wp.ret rfl h
  · replace h := h.2 h1
    refine Wp.steps 3 (pc' := 16) (lv' := [some (.ref 31), some (.int x1), some (.int x2), some (.int x3), some (.int x4), none]) (st' := [.int x1, .int x3, .ref 31]) (I' := I) (J' := J) rfl ?_
    refine Wp.call (M' := Tp_digit) (as := [.ref 31, .int x3, .int x1]) (rest := []) rfl (CI.use h (fun v1 I1 J1 h => ?_))
    refine Wp.eqs (pc' := 19) (st' := [.int v1]) rfl rfl ?_
    refine Wp.steps 2 (pc' := 23) (lv' := [some (.ref 31), some (.int x1), some (.int x2), some (.int x3), some (.int x4), some (.int v1)]) (st' := [.int v1]) (I' := I1) (J' := J1) rfl ?_
    refine Wp.steps 1 (pc' := if v1 < 0 then 26 else 28) (lv' := [some (.ref 31), some (.int x1), some (.int x2), some (.int x3), some (.int x4), some (.int v1)]) (st' := []) (I' := I1) (J' := J1) rfl (Wp.ite (fun h2 => ?_) (fun h2 => ?_))
    · replace h := h.1 h2
      refine Wp.steps 1 (pc' := 27) (lv' := [some (.ref 31), some (.int x1), some (.int x2), some (.int x3), some (.int x4), some (.int v1)]) (st' := [.int x2]) (I' := I1) (J' := J1) rfl ?_
      exact Wp.ret rfl h
    · replace h := h.2 h2
      refine Wp.steps 12 (pc' := 7) (lv' := [some (.ref 31), some (.int x1), some (.int (x2 ||| (slI 1 v1))), some (.int (v1 + 1)), some (.int (x4 + 1)), some (.int v1)]) (st' := []) (I' := I1) (J' := J1) rfl ?_
      refine Wp.drop [5] (lv' := [some (.ref 31), some (.int x1), some (.int (x2 ||| (slI 1 v1))), some (.int (v1 + 1)), some (.int (x4 + 1)), none]) rfl ?_
      exact h
