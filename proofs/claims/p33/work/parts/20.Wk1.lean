/-! what each way through a method asks (by program): Wk_from_33, Wk_firstOpen_33, Wk_told_33, Wk_rowsToOpen_33, Wk_farthest_33, Wk_chart_33, Wk_visit_33, Wk_slideOf, Wk_next_33, Wk_chartMove_33 -/
theorem v_Wk_from_33_0 {d : Nat} {Q : Post} {I : I2} {J : J2} {x1 : Int32} {x2 : Int32} (h : (x1 < 0 → Q none I J) ∧ (¬ (x1 < 0) → (x1 < 1024 → ((I 1 17) = 0 → ((I 33 10) = x1 → ((I 33 11) = x2 → Q none I J) ∧ (¬ ((I 33 11) = x2) → Wp d Wk_from Q 76 [some (.ref 33), some (.int x1), some (.int x2), some (.int 0), some (.int 0)] [] (up2 (up2 I 33 10 x1) 33 11 x2) J)) ∧ (¬ ((I 33 10) = x1) → Wp d Wk_from Q 76 [some (.ref 33), some (.int x1), some (.int x2), some (.int 0), some (.int 0)] [] (up2 (up2 I 33 10 x1) 33 11 x2) J)) ∧ (¬ ((I 1 17) = 0) → CV d Wk_chart [.ref 33] I J (fun I1 J1 => Wp d Wk_from Q 76 [some (.ref 33), some (.int x1), some (.int x2), some (.int 0), some (.int 0)] [] (up2 (up2 I1 33 10 x1) 33 11 x2) J1))) ∧ (¬ (x1 < 1024) → Q none I J))) : Wp d Wk_from Q 0 [some (.ref 33), some (.int x1), some (.int x2), none, none] [] I J := by
  refine Wp.steps 1 (pc' := 1) (lv' := [some (.ref 33), some (.int x1), some (.int x2), none, none]) (st' := [.int x1]) (I' := I) (J' := J) rfl ?_
  refine Wp.steps 1 (pc' := if x1 < 0 then 11 else 4) (lv' := [some (.ref 33), some (.int x1), some (.int x2), none, none]) (st' := []) (I' := I) (J' := J) rfl (Wp.ite (fun h1 => ?_) (fun h1 => ?_))
  · replace h := h.1 h1
    exact Wp.ret rfl h
  · replace h := h.2 h1
    refine Wp.steps 2 (pc' := 8) (lv' := [some (.ref 33), some (.int x1), some (.int x2), none, none]) (st' := [.int 1024, .int x1]) (I' := I) (J' := J) rfl ?_
    refine Wp.steps 1 (pc' := if x1 < 1024 then 12 else 11) (lv' := [some (.ref 33), some (.int x1), some (.int x2), none, none]) (st' := []) (I' := I) (J' := J) rfl (Wp.ite (fun h2 => ?_) (fun h2 => ?_))
    · replace h := h.1 h2
      refine Wp.steps 3 (pc' := 19) (lv' := [some (.ref 33), some (.int x1), some (.int x2), none, none]) (st' := [.int (I 1 17)]) (I' := I) (J' := J) rfl ?_
      refine Wp.steps 1 (pc' := if (I 1 17) = 0 then 22 else 42) (lv' := [some (.ref 33), some (.int x1), some (.int x2), none, none]) (st' := []) (I' := I) (J' := J) rfl (Wp.ite (fun h3 => ?_) (fun h3 => ?_))
      · replace h := h.1 h3
        refine Wp.steps 3 (pc' := 27) (lv' := [some (.ref 33), some (.int x1), some (.int x2), none, none]) (st' := [.int x1, .int (I 33 10)]) (I' := I) (J' := J) rfl ?_
        refine Wp.steps 1 (pc' := if (I 33 10) = x1 then 30 else 42) (lv' := [some (.ref 33), some (.int x1), some (.int x2), none, none]) (st' := []) (I' := I) (J' := J) rfl (Wp.ite (fun h4 => ?_) (fun h4 => ?_))
        · replace h := h.1 h4
          refine Wp.steps 3 (pc' := 35) (lv' := [some (.ref 33), some (.int x1), some (.int x2), none, none]) (st' := [.int x2, .int (I 33 11)]) (I' := I) (J' := J) rfl ?_
          refine Wp.steps 1 (pc' := if (I 33 11) = x2 then 38 else 42) (lv' := [some (.ref 33), some (.int x1), some (.int x2), none, none]) (st' := []) (I' := I) (J' := J) rfl (Wp.ite (fun h5 => ?_) (fun h5 => ?_))
          · replace h := h.1 h5
            refine Wp.steps 5 (pc' := 48) (lv' := [some (.ref 33), some (.int x1), some (.int x2), some (.int 1), none]) (st' := []) (I' := I) (J' := J) rfl ?_
            exact Wp.ret rfl h
          · replace h := h.2 h5
            refine Wp.steps 7 (pc' := 56) (lv' := [some (.ref 33), some (.int x1), some (.int x2), some (.int 0), none]) (st' := [.int (I 1 17)]) (I' := I) (J' := J) rfl ?_
            refine Wp.steps 1 (pc' := if (I 1 17) = 0 then 63 else 59) (lv' := [some (.ref 33), some (.int x1), some (.int x2), some (.int 0), none]) (st' := []) (I' := I) (J' := J) rfl ?_
            rw [if_pos h3]
            refine Wp.steps 8 (pc' := 76) (lv' := [some (.ref 33), some (.int x1), some (.int x2), some (.int 0), some (.int 0)]) (st' := []) (I' := (up2 (up2 I 33 10 x1) 33 11 x2)) (J' := J) rfl ?_
            exact h
        · replace h := h.2 h4
          refine Wp.steps 7 (pc' := 56) (lv' := [some (.ref 33), some (.int x1), some (.int x2), some (.int 0), none]) (st' := [.int (I 1 17)]) (I' := I) (J' := J) rfl ?_
          refine Wp.steps 1 (pc' := if (I 1 17) = 0 then 63 else 59) (lv' := [some (.ref 33), some (.int x1), some (.int x2), some (.int 0), none]) (st' := []) (I' := I) (J' := J) rfl ?_
          rw [if_pos h3]
          refine Wp.steps 8 (pc' := 76) (lv' := [some (.ref 33), some (.int x1), some (.int x2), some (.int 0), some (.int 0)]) (st' := []) (I' := (up2 (up2 I 33 10 x1) 33 11 x2)) (J' := J) rfl ?_
          exact h
      · replace h := h.2 h3
        refine Wp.steps 7 (pc' := 56) (lv' := [some (.ref 33), some (.int x1), some (.int x2), some (.int 0), none]) (st' := [.int (I 1 17)]) (I' := I) (J' := J) rfl ?_
        refine Wp.steps 1 (pc' := if (I 1 17) = 0 then 63 else 59) (lv' := [some (.ref 33), some (.int x1), some (.int x2), some (.int 0), none]) (st' := []) (I' := I) (J' := J) rfl ?_
        rw [if_neg h3]
        refine Wp.steps 1 (pc' := 60) (lv' := [some (.ref 33), some (.int x1), some (.int x2), some (.int 0), none]) (st' := [.ref 33]) (I' := I) (J' := J) rfl ?_
        refine Wp.call (M' := Wk_chart) (as := [.ref 33]) (rest := []) rfl (CV.use h (fun I1 J1 h => ?_))
        refine Wp.eqs (pc' := 63) (st' := []) rfl rfl ?_
        refine Wp.steps 8 (pc' := 76) (lv' := [some (.ref 33), some (.int x1), some (.int x2), some (.int 0), some (.int 0)]) (st' := []) (I' := (up2 (up2 I1 33 10 x1) 33 11 x2)) (J' := J1) rfl ?_
        exact h
    · replace h := h.2 h2
      exact Wp.ret rfl h
theorem v_Wk_from_33_76 {d : Nat} {Q : Post} {I : I2} {J : J2} {x1 : Int32} {x2 : Int32} {x3 : Int32} {x4 : Int32} (h : (x4 < 1024 → vp_in x4 1024 ∧ (Wp d Wk_from Q 76 [some (.ref 33), some (.int x1), some (.int x2), some (.int x3), some (.int (x4 + 1))] [] (up2 I 37 (tN x4) (-1)) J)) ∧ (¬ (x4 < 1024) → vp_in x1 1024 ∧ (vp_in x1 1024 ∧ (Wp d Wk_from Q 127 [some (.ref 33), some (.int x1), some (.int x2), some (.int x3), some (.int 0)] [] (up2 (up2 (up2 (up2 I 37 (tN x1) 0) 40 (tN x1) 1) 36 0 x1) 33 9 1) J)))) : Wp d Wk_from Q 76 [some (.ref 33), some (.int x1), some (.int x2), some (.int x3), some (.int x4)] [] I J := by
  refine Wp.steps 2 (pc' := 81) (lv' := [some (.ref 33), some (.int x1), some (.int x2), some (.int x3), some (.int x4)]) (st' := [.int 1024, .int x4]) (I' := I) (J' := J) rfl ?_
  refine Wp.steps 1 (pc' := if x4 < 1024 then 84 else 98) (lv' := [some (.ref 33), some (.int x1), some (.int x2), some (.int x3), some (.int x4)]) (st' := []) (I' := I) (J' := J) rfl (Wp.ite (fun h1 => ?_) (fun h1 => ?_))
  · replace h := h.1 h1
    refine Wp.steps 4 (pc' := 91) (lv' := [some (.ref 33), some (.int x1), some (.int x2), some (.int x3), some (.int x4)]) (st' := [.int (-1), .int x4, .ref 37]) (I' := I) (J' := J) rfl ?_
    refine Wp.iast rfl rfl h.1 ?_
    replace h := h.2
    refine Wp.steps 2 (pc' := 76) (lv' := [some (.ref 33), some (.int x1), some (.int x2), some (.int x3), some (.int (x4 + 1))]) (st' := []) (I' := (up2 I 37 (tN x4) (-1))) (J' := J) rfl ?_
    exact h
  · replace h := h.2 h1
    refine Wp.steps 4 (pc' := 104) (lv' := [some (.ref 33), some (.int x1), some (.int x2), some (.int x3), some (.int x4)]) (st' := [.int 0, .int x1, .ref 37]) (I' := I) (J' := J) rfl ?_
    refine Wp.iast rfl rfl h.1 ?_
    replace h := h.2
    refine Wp.steps 4 (pc' := 111) (lv' := [some (.ref 33), some (.int x1), some (.int x2), some (.int x3), some (.int x4)]) (st' := [.int 1, .int x1, .ref 40]) (I' := (up2 I 37 (tN x1) 0)) (J' := J) rfl ?_
    refine Wp.iast rfl rfl h.1 ?_
    replace h := h.2
    refine Wp.steps 10 (pc' := 127) (lv' := [some (.ref 33), some (.int x1), some (.int x2), some (.int x3), some (.int 0)]) (st' := []) (I' := (up2 (up2 (up2 (up2 I 37 (tN x1) 0) 40 (tN x1) 1) 36 0 x1) 33 9 1)) (J' := J) rfl ?_
    exact h
theorem v_Wk_from_33_127 {d : Nat} {Q : Post} {I : I2} {J : J2} {x1 : Int32} {x2 : Int32} {x3 : Int32} {x4 : Int32} (h : (x4 < (I 33 9) → (x4 < 1024 → vp_in x4 1024 ∧ (CV d Wk_visit [.ref 33, .int (I 36 (tN x4))] I J (fun I1 J1 => Wp d Wk_from Q 127 [some (.ref 33), some (.int x1), some (.int x2), some (.int x3), some (.int (x4 + 1))] [] I1 J1))) ∧ (¬ (x4 < 1024) → Q none I J)) ∧ (¬ (x4 < (I 33 9)) → Q none I J)) : Wp d Wk_from Q 127 [some (.ref 33), some (.int x1), some (.int x2), some (.int x3), some (.int x4)] [] I J := by
  refine Wp.steps 3 (pc' := 133) (lv' := [some (.ref 33), some (.int x1), some (.int x2), some (.int x3), some (.int x4)]) (st' := [.int (I 33 9), .int x4]) (I' := I) (J' := J) rfl ?_
  refine Wp.steps 1 (pc' := if x4 < (I 33 9) then 136 else 161) (lv' := [some (.ref 33), some (.int x1), some (.int x2), some (.int x3), some (.int x4)]) (st' := []) (I' := I) (J' := J) rfl (Wp.ite (fun h1 => ?_) (fun h1 => ?_))
  · replace h := h.1 h1
    refine Wp.steps 2 (pc' := 141) (lv' := [some (.ref 33), some (.int x1), some (.int x2), some (.int x3), some (.int x4)]) (st' := [.int 1024, .int x4]) (I' := I) (J' := J) rfl ?_
    refine Wp.steps 1 (pc' := if x4 < 1024 then 144 else 161) (lv' := [some (.ref 33), some (.int x1), some (.int x2), some (.int x3), some (.int x4)]) (st' := []) (I' := I) (J' := J) rfl (Wp.ite (fun h2 => ?_) (fun h2 => ?_))
    · replace h := h.1 h2
      refine Wp.steps 4 (pc' := 151) (lv' := [some (.ref 33), some (.int x1), some (.int x2), some (.int x3), some (.int x4)]) (st' := [.int x4, .ref 36, .ref 33]) (I' := I) (J' := J) rfl ?_
      refine Wp.iald rfl rfl h.1 ?_
      replace h := h.2
      refine Wp.call (M' := Wk_visit) (as := [.ref 33, .int (I 36 (tN x4))]) (rest := []) rfl (CV.use h (fun I1 J1 h => ?_))
      refine Wp.eqs (pc' := 155) (st' := []) rfl rfl ?_
      refine Wp.steps 2 (pc' := 127) (lv' := [some (.ref 33), some (.int x1), some (.int x2), some (.int x3), some (.int (x4 + 1))]) (st' := []) (I' := I1) (J' := J1) rfl ?_
      exact h
    · replace h := h.2 h2
      exact Wp.ret rfl h
  · replace h := h.2 h1
    exact Wp.ret rfl h
theorem v_Wk_firstOpen_33_0 {d : Nat} {Q : Post} {I : I2} {J : J2} (h : Wp d Wk_firstOpen Q 2 [some (.ref 33), some (.int 0)] [] I J) : Wp d Wk_firstOpen Q 0 [some (.ref 33), none] [] I J := by
  refine Wp.steps 2 (pc' := 2) (lv' := [some (.ref 33), some (.int 0)]) (st' := []) (I' := I) (J' := J) rfl ?_
  exact h
theorem v_Wk_firstOpen_33_2 {d : Nat} {Q : Post} {I : I2} {J : J2} {x1 : Int32} (h : (x1 < (I 33 9) → vp_in x1 1024 ∧ (CI d Bx_isOpen [.ref 1, .int (I 36 (tN x1))] I J (fun v1 I1 J1 => (v1 = 0 → Wp d Wk_firstOpen Q 2 [some (.ref 33), some (.int (x1 + 1))] [] I1 J1) ∧ (¬ (v1 = 0) → vp_in x1 1024 ∧ (Q (some (.int (I1 36 (tN x1)))) I1 J1))))) ∧ (¬ (x1 < (I 33 9)) → Q (some (.int (-4))) I J)) : Wp d Wk_firstOpen Q 2 [some (.ref 33), some (.int x1)] [] I J := by
  refine Wp.steps 3 (pc' := 7) (lv' := [some (.ref 33), some (.int x1)]) (st' := [.int (I 33 9), .int x1]) (I' := I) (J' := J) rfl ?_
  refine Wp.steps 1 (pc' := if x1 < (I 33 9) then 10 else 39) (lv' := [some (.ref 33), some (.int x1)]) (st' := []) (I' := I) (J' := J) rfl (Wp.ite (fun h1 => ?_) (fun h1 => ?_))
  · replace h := h.1 h1
    refine Wp.steps 5 (pc' := 19) (lv' := [some (.ref 33), some (.int x1)]) (st' := [.int x1, .ref 36, .ref 1]) (I' := I) (J' := J) rfl ?_
    refine Wp.iald rfl rfl h.1 ?_
    replace h := h.2
    refine Wp.call (M' := Bx_isOpen) (as := [.ref 1, .int (I 36 (tN x1))]) (rest := []) rfl (CI.use h (fun v1 I1 J1 h => ?_))
    refine Wp.eqs (pc' := 23) (st' := [.int v1]) rfl rfl ?_
    refine Wp.steps 1 (pc' := if v1 = 0 then 33 else 26) (lv' := [some (.ref 33), some (.int x1)]) (st' := []) (I' := I1) (J' := J1) rfl (Wp.ite (fun h2 => ?_) (fun h2 => ?_))
    · replace h := h.1 h2
      refine Wp.steps 2 (pc' := 2) (lv' := [some (.ref 33), some (.int (x1 + 1))]) (st' := []) (I' := I1) (J' := J1) rfl ?_
      exact h
    · replace h := h.2 h2
      refine Wp.steps 3 (pc' := 31) (lv' := [some (.ref 33), some (.int x1)]) (st' := [.int x1, .ref 36]) (I' := I1) (J' := J1) rfl ?_
      refine Wp.iald rfl rfl h.1 ?_
      replace h := h.2
      exact Wp.ret rfl h
  · replace h := h.2 h1
    refine Wp.steps 1 (pc' := 41) (lv' := [some (.ref 33), some (.int x1)]) (st' := [.int (-4)]) (I' := I) (J' := J) rfl ?_
    exact Wp.ret rfl h
theorem v_Wk_told_33_0 {d : Nat} {Q : Post} {I : I2} {J : J2} {x1 : Int32} {x2 : Int32} (h : (x1 < 0 → Q (some (.int (-4))) I J) ∧ (¬ (x1 < 0) → (x1 < 1024 → vp_in x1 1024 ∧ (((I 37 (tN x1)) < 0 → Q (some (.int (-4))) I J) ∧ (¬ ((I 37 (tN x1)) < 0) → (x2 < 0 → vp_in x1 1024 ∧ (Q (some (.int (I 37 (tN x1)))) I J)) ∧ (¬ (x2 < 0) → vp_in x1 1024 ∧ ((x2 < (I 37 (tN x1)) → vp_in x1 1024 ∧ (Wp d Wk_told Q 57 [some (.ref 33), some (.int x1), some (.int x2), some (.int x1), some (.int (I 37 (tN x1)))] [] I J)) ∧ (¬ (x2 < (I 37 (tN x1))) → Q (some (.int (-4))) I J)))))) ∧ (¬ (x1 < 1024) → Q (some (.int (-4))) I J))) : Wp d Wk_told Q 0 [some (.ref 33), some (.int x1), some (.int x2), none, none] [] I J := by
  refine Wp.steps 1 (pc' := 1) (lv' := [some (.ref 33), some (.int x1), some (.int x2), none, none]) (st' := [.int x1]) (I' := I) (J' := J) rfl ?_
  refine Wp.steps 1 (pc' := if x1 < 0 then 20 else 4) (lv' := [some (.ref 33), some (.int x1), some (.int x2), none, none]) (st' := []) (I' := I) (J' := J) rfl (Wp.ite (fun h1 => ?_) (fun h1 => ?_))
  · replace h := h.1 h1
    refine Wp.steps 1 (pc' := 22) (lv' := [some (.ref 33), some (.int x1), some (.int x2), none, none]) (st' := [.int (-4)]) (I' := I) (J' := J) rfl ?_
    exact Wp.ret rfl h
  · replace h := h.2 h1
    refine Wp.steps 2 (pc' := 8) (lv' := [some (.ref 33), some (.int x1), some (.int x2), none, none]) (st' := [.int 1024, .int x1]) (I' := I) (J' := J) rfl ?_
    refine Wp.steps 1 (pc' := if x1 < 1024 then 11 else 20) (lv' := [some (.ref 33), some (.int x1), some (.int x2), none, none]) (st' := []) (I' := I) (J' := J) rfl (Wp.ite (fun h2 => ?_) (fun h2 => ?_))
    · replace h := h.1 h2
      refine Wp.steps 3 (pc' := 16) (lv' := [some (.ref 33), some (.int x1), some (.int x2), none, none]) (st' := [.int x1, .ref 37]) (I' := I) (J' := J) rfl ?_
      refine Wp.iald rfl rfl h.1 ?_
      replace h := h.2
      refine Wp.steps 1 (pc' := if (I 37 (tN x1)) < 0 then 20 else 23) (lv' := [some (.ref 33), some (.int x1), some (.int x2), none, none]) (st' := []) (I' := I) (J' := J) rfl (Wp.ite (fun h3 => ?_) (fun h3 => ?_))
      · replace h := h.1 h3
        refine Wp.steps 1 (pc' := 22) (lv' := [some (.ref 33), some (.int x1), some (.int x2), none, none]) (st' := [.int (-4)]) (I' := I) (J' := J) rfl ?_
        exact Wp.ret rfl h
      · replace h := h.2 h3
        refine Wp.steps 1 (pc' := 24) (lv' := [some (.ref 33), some (.int x1), some (.int x2), none, none]) (st' := [.int x2]) (I' := I) (J' := J) rfl ?_
        refine Wp.steps 1 (pc' := if x2 < 0 then 27 else 34) (lv' := [some (.ref 33), some (.int x1), some (.int x2), none, none]) (st' := []) (I' := I) (J' := J) rfl (Wp.ite (fun h4 => ?_) (fun h4 => ?_))
        · replace h := h.1 h4
          refine Wp.steps 3 (pc' := 32) (lv' := [some (.ref 33), some (.int x1), some (.int x2), none, none]) (st' := [.int x1, .ref 37]) (I' := I) (J' := J) rfl ?_
          refine Wp.iald rfl rfl h.1 ?_
          replace h := h.2
          exact Wp.ret rfl h
        · replace h := h.2 h4
          refine Wp.steps 4 (pc' := 40) (lv' := [some (.ref 33), some (.int x1), some (.int x2), none, none]) (st' := [.int x1, .ref 37, .int x2]) (I' := I) (J' := J) rfl ?_
          refine Wp.iald rfl rfl h.1 ?_
          replace h := h.2
          refine Wp.steps 1 (pc' := if x2 < (I 37 (tN x1)) then 47 else 44) (lv' := [some (.ref 33), some (.int x1), some (.int x2), none, none]) (st' := []) (I' := I) (J' := J) rfl (Wp.ite (fun h5 => ?_) (fun h5 => ?_))
          · replace h := h.1 h5
            refine Wp.steps 5 (pc' := 54) (lv' := [some (.ref 33), some (.int x1), some (.int x2), some (.int x1), none]) (st' := [.int x1, .ref 37]) (I' := I) (J' := J) rfl ?_
            refine Wp.iald rfl rfl h.1 ?_
            replace h := h.2
            refine Wp.steps 1 (pc' := 57) (lv' := [some (.ref 33), some (.int x1), some (.int x2), some (.int x1), some (.int (I 37 (tN x1)))]) (st' := []) (I' := I) (J' := J) rfl ?_
            exact h
          · replace h := h.2 h5
            refine Wp.steps 1 (pc' := 46) (lv' := [some (.ref 33), some (.int x1), some (.int x2), none, none]) (st' := [.int (-4)]) (I' := I) (J' := J) rfl ?_
            exact Wp.ret rfl h
    · replace h := h.2 h2
      refine Wp.steps 1 (pc' := 22) (lv' := [some (.ref 33), some (.int x1), some (.int x2), none, none]) (st' := [.int (-4)]) (I' := I) (J' := J) rfl ?_
      exact Wp.ret rfl h
theorem v_Wk_told_33_57 {d : Nat} {Q : Post} {I : I2} {J : J2} {x1 : Int32} {x2 : Int32} {x3 : Int32} {x4 : Int32} (h : ((x2 + 1) < x4 → vp_in x3 1024 ∧ (Wp d Wk_told Q 57 [some (.ref 33), some (.int x1), some (.int x2), some (.int (I 38 (tN x3))), some (.int (x4 + (-1)))] [] I J)) ∧ (¬ ((x2 + 1) < x4) → vp_in x3 1024 ∧ (CI d Wk_slideOf [.int (I 39 (tN x3))] I J (fun v1 I1 J1 => Q (some (.int v1)) I1 J1)))) : Wp d Wk_told Q 57 [some (.ref 33), some (.int x1), some (.int x2), some (.int x3), some (.int x4)] [] I J := by
  refine Wp.steps 4 (pc' := 62) (lv' := [some (.ref 33), some (.int x1), some (.int x2), some (.int x3), some (.int x4)]) (st' := [.int (x2 + 1), .int x4]) (I' := I) (J' := J) rfl ?_
  refine Wp.steps 1 (pc' := if (x2 + 1) < x4 then 65 else 78) (lv' := [some (.ref 33), some (.int x1), some (.int x2), some (.int x3), some (.int x4)]) (st' := []) (I' := I) (J' := J) rfl (Wp.ite (fun h1 => ?_) (fun h1 => ?_))
  · replace h := h.1 h1
    refine Wp.steps 3 (pc' := 70) (lv' := [some (.ref 33), some (.int x1), some (.int x2), some (.int x3), some (.int x4)]) (st' := [.int x3, .ref 38]) (I' := I) (J' := J) rfl ?_
    refine Wp.iald rfl rfl h.1 ?_
    replace h := h.2
    refine Wp.steps 3 (pc' := 57) (lv' := [some (.ref 33), some (.int x1), some (.int x2), some (.int (I 38 (tN x3))), some (.int (x4 + (-1)))]) (st' := []) (I' := I) (J' := J) rfl ?_
    exact h
  · replace h := h.2 h1
    refine Wp.steps 3 (pc' := 83) (lv' := [some (.ref 33), some (.int x1), some (.int x2), some (.int x3), some (.int x4)]) (st' := [.int x3, .ref 39]) (I' := I) (J' := J) rfl ?_
    refine Wp.iald rfl rfl h.1 ?_
    replace h := h.2
    refine Wp.call (M' := Wk_slideOf) (as := [.int (I 39 (tN x3))]) (rest := []) rfl (CI.use h (fun v1 I1 J1 h => ?_))
    refine Wp.eqs (pc' := 87) (st' := [.int v1]) rfl rfl ?_
    exact Wp.ret rfl h
theorem v_Wk_rowsToOpen_33_0 {d : Nat} {Q : Post} {I : I2} {J : J2} (h : CI d Wk_firstOpen [.ref 33] I J (fun v1 I1 J1 => (v1 < 0 → Q (some (.int 0)) I1 J1) ∧ (¬ (v1 < 0) → Wp d Wk_rowsToOpen Q 15 [some (.ref 33), some (.int v1), some (.int 0), some (.int 0), none] [] I1 J1))) : Wp d Wk_rowsToOpen Q 0 [some (.ref 33), none, none, none, none] [] I J := by
  refine Wp.steps 1 (pc' := 1) (lv' := [some (.ref 33), none, none, none, none]) (st' := [.ref 33]) (I' := I) (J' := J) rfl ?_
  refine Wp.call (M' := Wk_firstOpen) (as := [.ref 33]) (rest := []) rfl (CI.use h (fun v1 I1 J1 h => ?_))
  refine Wp.eqs (pc' := 4) (st' := [.int v1]) rfl rfl ?_
  refine Wp.steps 2 (pc' := 6) (lv' := [some (.ref 33), some (.int v1), none, none, none]) (st' := [.int v1]) (I' := I1) (J' := J1) rfl ?_
  refine Wp.steps 1 (pc' := if v1 < 0 then 9 else 11) (lv' := [some (.ref 33), some (.int v1), none, none, none]) (st' := []) (I' := I1) (J' := J1) rfl (Wp.ite (fun h1 => ?_) (fun h1 => ?_))
  · replace h := h.1 h1
    refine Wp.steps 1 (pc' := 10) (lv' := [some (.ref 33), some (.int v1), none, none, none]) (st' := [.int 0]) (I' := I1) (J' := J1) rfl ?_
    exact Wp.ret rfl h
  · replace h := h.2 h1
    refine Wp.steps 4 (pc' := 15) (lv' := [some (.ref 33), some (.int v1), some (.int 0), some (.int 0), none]) (st' := []) (I' := I1) (J' := J1) rfl ?_
    exact h
theorem v_Wk_rowsToOpen_33_15 {d : Nat} {Q : Post} {I : I2} {J : J2} {x1 : Int32} {x2 : Int32} {x3 : Int32} (h : (x3 < (I 33 9) → vp_in x3 1024 ∧ (vp_in (I 36 (tN x3)) 1024 ∧ (vp_in x1 1024 ∧ (((I 37 (tN (I 36 (tN x3)))) = (I 37 (tN x1)) → CI d Bx_isOpen [.ref 1, .int (I 36 (tN x3))] I J (fun v1 I1 J1 => (v1 = 0 → Wp d Wk_rowsToOpen Q 15 [some (.ref 33), some (.int x1), some (.int x2), some (.int (x3 + 1)), none] [] I1 J1) ∧ (¬ (v1 = 0) → vp_in (I 36 (tN x3)) 1024 ∧ (Wp d Wk_rowsToOpen Q 15 [some (.ref 33), some (.int x1), some (.int (rmI (x2 + (I1 40 (tN (I 36 (tN x3))))) 1000003)), some (.int (x3 + 1)), none] [] I1 J1)))) ∧ (¬ ((I 37 (tN (I 36 (tN x3)))) = (I 37 (tN x1))) → Wp d Wk_rowsToOpen Q 15 [some (.ref 33), some (.int x1), some (.int x2), some (.int (x3 + 1)), none] [] I J))))) ∧ (¬ (x3 < (I 33 9)) → Q (some (.int x2)) I J)) : Wp d Wk_rowsToOpen Q 15 [some (.ref 33), some (.int x1), some (.int x2), some (.int x3), none] [] I J := by
  refine Wp.steps 3 (pc' := 20) (lv' := [some (.ref 33), some (.int x1), some (.int x2), some (.int x3), none]) (st' := [.int (I 33 9), .int x3]) (I' := I) (J' := J) rfl ?_
  refine Wp.steps 1 (pc' := if x3 < (I 33 9) then 23 else 78) (lv' := [some (.ref 33), some (.int x1), some (.int x2), some (.int x3), none]) (st' := []) (I' := I) (J' := J) rfl (Wp.ite (fun h1 => ?_) (fun h1 => ?_))
  · replace h := h.1 h1
    refine Wp.steps 3 (pc' := 28) (lv' := [some (.ref 33), some (.int x1), some (.int x2), some (.int x3), none]) (st' := [.int x3, .ref 36]) (I' := I) (J' := J) rfl ?_
    refine Wp.iald rfl rfl h.1 ?_
    replace h := h.2
    refine Wp.steps 4 (pc' := 37) (lv' := [some (.ref 33), some (.int x1), some (.int x2), some (.int x3), some (.int (I 36 (tN x3)))]) (st' := [.int (I 36 (tN x3)), .ref 37]) (I' := I) (J' := J) rfl ?_
    refine Wp.iald rfl rfl h.1 ?_
    replace h := h.2
    refine Wp.steps 3 (pc' := 43) (lv' := [some (.ref 33), some (.int x1), some (.int x2), some (.int x3), some (.int (I 36 (tN x3)))]) (st' := [.int x1, .ref 37, .int (I 37 (tN (I 36 (tN x3))))]) (I' := I) (J' := J) rfl ?_
    refine Wp.iald rfl rfl h.1 ?_
    replace h := h.2
    refine Wp.steps 1 (pc' := if (I 37 (tN (I 36 (tN x3)))) = (I 37 (tN x1)) then 47 else 72) (lv' := [some (.ref 33), some (.int x1), some (.int x2), some (.int x3), some (.int (I 36 (tN x3)))]) (st' := []) (I' := I) (J' := J) rfl (Wp.ite (fun h2 => ?_) (fun h2 => ?_))
    · replace h := h.1 h2
      refine Wp.steps 3 (pc' := 53) (lv' := [some (.ref 33), some (.int x1), some (.int x2), some (.int x3), some (.int (I 36 (tN x3)))]) (st' := [.int (I 36 (tN x3)), .ref 1]) (I' := I) (J' := J) rfl ?_
      refine Wp.call (M' := Bx_isOpen) (as := [.ref 1, .int (I 36 (tN x3))]) (rest := []) rfl (CI.use h (fun v1 I1 J1 h => ?_))
      refine Wp.eqs (pc' := 56) (st' := [.int v1]) rfl rfl ?_
      refine Wp.steps 1 (pc' := if v1 = 0 then 72 else 59) (lv' := [some (.ref 33), some (.int x1), some (.int x2), some (.int x3), some (.int (I 36 (tN x3)))]) (st' := []) (I' := I1) (J' := J1) rfl (Wp.ite (fun h3 => ?_) (fun h3 => ?_))
      · replace h := h.1 h3
        refine Wp.steps 2 (pc' := 15) (lv' := [some (.ref 33), some (.int x1), some (.int x2), some (.int (x3 + 1)), some (.int (I 36 (tN x3)))]) (st' := []) (I' := I1) (J' := J1) rfl ?_
        refine Wp.drop [4] (lv' := [some (.ref 33), some (.int x1), some (.int x2), some (.int (x3 + 1)), none]) rfl ?_
        exact h
      · replace h := h.2 h3
        refine Wp.steps 4 (pc' := 66) (lv' := [some (.ref 33), some (.int x1), some (.int x2), some (.int x3), some (.int (I 36 (tN x3)))]) (st' := [.int (I 36 (tN x3)), .ref 40, .int x2]) (I' := I1) (J' := J1) rfl ?_
        refine Wp.iald rfl rfl h.1 ?_
        replace h := h.2
        refine Wp.steps 6 (pc' := 15) (lv' := [some (.ref 33), some (.int x1), some (.int (rmI (x2 + (I1 40 (tN (I 36 (tN x3))))) 1000003)), some (.int (x3 + 1)), some (.int (I 36 (tN x3)))]) (st' := []) (I' := I1) (J' := J1) rfl ?_
        refine Wp.drop [4] (lv' := [some (.ref 33), some (.int x1), some (.int (rmI (x2 + (I1 40 (tN (I 36 (tN x3))))) 1000003)), some (.int (x3 + 1)), none]) rfl ?_
        exact h
    · replace h := h.2 h2
      refine Wp.steps 2 (pc' := 15) (lv' := [some (.ref 33), some (.int x1), some (.int x2), some (.int (x3 + 1)), some (.int (I 36 (tN x3)))]) (st' := []) (I' := I) (J' := J) rfl ?_
      refine Wp.drop [4] (lv' := [some (.ref 33), some (.int x1), some (.int x2), some (.int (x3 + 1)), none]) rfl ?_
      exact h
  · replace h := h.2 h1
    refine Wp.steps 1 (pc' := 79) (lv' := [some (.ref 33), some (.int x1), some (.int x2), some (.int x3), none]) (st' := [.int x2]) (I' := I) (J' := J) rfl ?_
    exact Wp.ret rfl h
theorem v_Wk_farthest_33_0 {d : Nat} {Q : Post} {I : I2} {J : J2} (h : ((I 33 9) = 0 → Q (some (.int 0)) I J) ∧ (¬ ((I 33 9) = 0) → vp_in ((I 33 9) - 1) 1024 ∧ (vp_in (I 36 (tN ((I 33 9) - 1))) 1024 ∧ (Q (some (.int (I 37 (tN (I 36 (tN ((I 33 9) - 1))))))) I J)))) : Wp d Wk_farthest Q 0 [some (.ref 33)] [] I J := by
  refine Wp.steps 2 (pc' := 4) (lv' := [some (.ref 33)]) (st' := [.int (I 33 9)]) (I' := I) (J' := J) rfl ?_
  refine Wp.steps 1 (pc' := if (I 33 9) = 0 then 7 else 11) (lv' := [some (.ref 33)]) (st' := []) (I' := I) (J' := J) rfl (Wp.ite (fun h1 => ?_) (fun h1 => ?_))
  · replace h := h.1 h1
    refine Wp.steps 2 (pc' := 27) (lv' := [some (.ref 33)]) (st' := [.int 0]) (I' := I) (J' := J) rfl ?_
    exact Wp.ret rfl h
  · replace h := h.2 h1
    refine Wp.steps 8 (pc' := 25) (lv' := [some (.ref 33)]) (st' := [.int ((I 33 9) - 1), .ref 36, .ref 37]) (I' := I) (J' := J) rfl ?_
    refine Wp.iald rfl rfl h.1 ?_
    replace h := h.2
    refine Wp.iald rfl rfl h.1 ?_
    replace h := h.2
    exact Wp.ret rfl h
theorem v_Wk_chart_33_0 {d : Nat} {Q : Post} {I : I2} {J : J2} (h : Wp d Wk_chart Q 15 [some (.ref 33), some (.int 0), none] [] (up2 I 33 8 (2 * (I 1 2))) J) : Wp d Wk_chart Q 0 [some (.ref 33), none, none] [] I J := by
  refine Wp.steps 9 (pc' := 15) (lv' := [some (.ref 33), some (.int 0), none]) (st' := []) (I' := (up2 I 33 8 (2 * (I 1 2)))) (J' := J) rfl ?_
  exact h
theorem v_Wk_chart_33_15 {d : Nat} {Q : Post} {I : I2} {J : J2} {x1 : Int32} (h : (x1 < (slI 1 (I 33 8)) → (x1 < 1024 → CI d Bx_isState [.ref 1, .int x1] I J (fun v1 I1 J1 => (v1 = 0 → Wp d Wk_chart Q 15 [some (.ref 33), some (.int (x1 + 1)), none] [] I1 J1) ∧ (¬ (v1 = 0) → Wp d Wk_chart Q 48 [some (.ref 33), some (.int x1), some (.int 0)] [] I1 J1))) ∧ (¬ (x1 < 1024) → Q none (up2 I 1 17 0) J)) ∧ (¬ (x1 < (slI 1 (I 33 8))) → Q none (up2 I 1 17 0) J)) : Wp d Wk_chart Q 15 [some (.ref 33), some (.int x1), none] [] I J := by
  refine Wp.steps 5 (pc' := 22) (lv' := [some (.ref 33), some (.int x1), none]) (st' := [.int (slI 1 (I 33 8)), .int x1]) (I' := I) (J' := J) rfl ?_
  refine Wp.steps 1 (pc' := if x1 < (slI 1 (I 33 8)) then 25 else 74) (lv' := [some (.ref 33), some (.int x1), none]) (st' := []) (I' := I) (J' := J) rfl (Wp.ite (fun h1 => ?_) (fun h1 => ?_))
  · replace h := h.1 h1
    refine Wp.steps 2 (pc' := 29) (lv' := [some (.ref 33), some (.int x1), none]) (st' := [.int 1024, .int x1]) (I' := I) (J' := J) rfl ?_
    refine Wp.steps 1 (pc' := if x1 < 1024 then 32 else 74) (lv' := [some (.ref 33), some (.int x1), none]) (st' := []) (I' := I) (J' := J) rfl (Wp.ite (fun h2 => ?_) (fun h2 => ?_))
    · replace h := h.1 h2
      refine Wp.steps 3 (pc' := 37) (lv' := [some (.ref 33), some (.int x1), none]) (st' := [.int x1, .ref 1]) (I' := I) (J' := J) rfl ?_
      refine Wp.call (M' := Bx_isState) (as := [.ref 1, .int x1]) (rest := []) rfl (CI.use h (fun v1 I1 J1 h => ?_))
      refine Wp.eqs (pc' := 40) (st' := [.int v1]) rfl rfl ?_
      refine Wp.steps 1 (pc' := if v1 = 0 then 43 else 46) (lv' := [some (.ref 33), some (.int x1), none]) (st' := []) (I' := I1) (J' := J1) rfl (Wp.ite (fun h3 => ?_) (fun h3 => ?_))
      · replace h := h.1 h3
        refine Wp.steps 3 (pc' := 15) (lv' := [some (.ref 33), some (.int (x1 + 1)), none]) (st' := []) (I' := I1) (J' := J1) rfl ?_
        exact h
      · replace h := h.2 h3
        refine Wp.steps 2 (pc' := 48) (lv' := [some (.ref 33), some (.int x1), some (.int 0)]) (st' := []) (I' := I1) (J' := J1) rfl ?_
        exact h
    · replace h := h.2 h2
      refine Wp.steps 4 (pc' := 82) (lv' := [some (.ref 33), some (.int x1), none]) (st' := []) (I' := (up2 I 1 17 0)) (J' := J) rfl ?_
      exact Wp.ret rfl h
  · replace h := h.2 h1
    refine Wp.steps 4 (pc' := 82) (lv' := [some (.ref 33), some (.int x1), none]) (st' := []) (I' := (up2 I 1 17 0)) (J' := J) rfl ?_
    exact Wp.ret rfl h
theorem v_Wk_chart_33_48 {d : Nat} {Q : Post} {I : I2} {J : J2} {x1 : Int32} {x2 : Int32} (h : (x2 < (I 33 8) → CV d Wk_chartMove [.ref 33, .int x1, .int x2] I J (fun I1 J1 => Wp d Wk_chart Q 48 [some (.ref 33), some (.int x1), some (.int (x2 + 1))] [] I1 J1)) ∧ (¬ (x2 < (I 33 8)) → Wp d Wk_chart Q 15 [some (.ref 33), some (.int (x1 + 1)), none] [] I J)) : Wp d Wk_chart Q 48 [some (.ref 33), some (.int x1), some (.int x2)] [] I J := by
  refine Wp.steps 3 (pc' := 53) (lv' := [some (.ref 33), some (.int x1), some (.int x2)]) (st' := [.int (I 33 8), .int x2]) (I' := I) (J' := J) rfl ?_
  refine Wp.steps 1 (pc' := if x2 < (I 33 8) then 56 else 68) (lv' := [some (.ref 33), some (.int x1), some (.int x2)]) (st' := []) (I' := I) (J' := J) rfl (Wp.ite (fun h1 => ?_) (fun h1 => ?_))
  · replace h := h.1 h1
    refine Wp.steps 3 (pc' := 59) (lv' := [some (.ref 33), some (.int x1), some (.int x2)]) (st' := [.int x2, .int x1, .ref 33]) (I' := I) (J' := J) rfl ?_
    refine Wp.call (M' := Wk_chartMove) (as := [.ref 33, .int x1, .int x2]) (rest := []) rfl (CV.use h (fun I1 J1 h => ?_))
    refine Wp.eqs (pc' := 62) (st' := []) rfl rfl ?_
    refine Wp.steps 2 (pc' := 48) (lv' := [some (.ref 33), some (.int x1), some (.int (x2 + 1))]) (st' := []) (I' := I1) (J' := J1) rfl ?_
    exact h
  · replace h := h.2 h1
    refine Wp.steps 2 (pc' := 15) (lv' := [some (.ref 33), some (.int (x1 + 1)), some (.int x2)]) (st' := []) (I' := I) (J' := J) rfl ?_
    refine Wp.drop [2] (lv' := [some (.ref 33), some (.int (x1 + 1)), none]) rfl ?_
    exact h
theorem v_Wk_visit_33_0 {d : Nat} {Q : Post} {I : I2} {J : J2} {x1 : Int32} (h : Wp d Wk_visit Q 2 [some (.ref 33), some (.int x1), some (.int 0), none] [] I J) : Wp d Wk_visit Q 0 [some (.ref 33), some (.int x1), none, none] [] I J := by
  refine Wp.steps 2 (pc' := 2) (lv' := [some (.ref 33), some (.int x1), some (.int 0), none]) (st' := []) (I' := I) (J' := J) rfl ?_
  exact h
theorem v_Wk_visit_33_2 {d : Nat} {Q : Post} {I : I2} {J : J2} {x1 : Int32} {x2 : Int32} (h : (x2 < (I 33 8) → CI d Wk_next [.ref 33, .int x1, .int x2] I J (fun v1 I1 J1 => (v1 < 0 → Wp d Wk_visit Q 2 [some (.ref 33), some (.int x1), some (.int (x2 + 1)), none] [] I1 J1) ∧ (¬ (v1 < 0) → vp_in v1 1024 ∧ (((I1 37 (tN v1)) < 0 → ((I1 33 9) < 1024 → vp_in x1 1024 ∧ (vp_in v1 1024 ∧ (vp_in v1 1024 ∧ (vp_in v1 1024 ∧ (vp_in v1 1024 ∧ (vp_in (I1 33 9) 1024 ∧ (vp_in v1 1024 ∧ (vp_in x1 1024 ∧ ((((up2 I1 37 (tN v1) ((I1 37 (tN x1)) + 1)) 37 (tN v1)) = (((up2 I1 37 (tN v1) ((I1 37 (tN x1)) + 1)) 37 (tN x1)) + 1) → vp_in v1 1024 ∧ (vp_in x1 1024 ∧ (vp_in v1 1024 ∧ (Wp d Wk_visit Q 2 [some (.ref 33), some (.int x1), some (.int (x2 + 1)), none] [] (up2 (up2 (up2 (up2 (up2 (up2 (up2 I1 37 (tN v1) ((I1 37 (tN x1)) + 1)) 38 (tN v1) x1) 39 (tN v1) x2) 40 (tN v1) 0) 36 (tN (I1 33 9)) v1) 33 9 ((I1 33 9) + 1)) 40 (tN v1) (rmI (((up2 (up2 (up2 (up2 I1 37 (tN v1) ((I1 37 (tN x1)) + 1)) 38 (tN v1) x1) 39 (tN v1) x2) 40 (tN v1) 0) 40 (tN v1)) + ((up2 (up2 (up2 (up2 I1 37 (tN v1) ((I1 37 (tN x1)) + 1)) 38 (tN v1) x1) 39 (tN v1) x2) 40 (tN v1) 0) 40 (tN x1))) 1000003)) J1)))) ∧ (¬ (((up2 I1 37 (tN v1) ((I1 37 (tN x1)) + 1)) 37 (tN v1)) = (((up2 I1 37 (tN v1) ((I1 37 (tN x1)) + 1)) 37 (tN x1)) + 1)) → Wp d Wk_visit Q 2 [some (.ref 33), some (.int x1), some (.int (x2 + 1)), none] [] (up2 (up2 (up2 (up2 (up2 (up2 I1 37 (tN v1) ((I1 37 (tN x1)) + 1)) 38 (tN v1) x1) 39 (tN v1) x2) 40 (tN v1) 0) 36 (tN (I1 33 9)) v1) 33 9 ((I1 33 9) + 1)) J1)))))))))) ∧ (¬ ((I1 33 9) < 1024) → vp_in v1 1024 ∧ (vp_in x1 1024 ∧ (((I1 37 (tN v1)) = ((I1 37 (tN x1)) + 1) → vp_in v1 1024 ∧ (vp_in x1 1024 ∧ (vp_in v1 1024 ∧ (Wp d Wk_visit Q 2 [some (.ref 33), some (.int x1), some (.int (x2 + 1)), none] [] (up2 I1 40 (tN v1) (rmI ((I1 40 (tN v1)) + (I1 40 (tN x1))) 1000003)) J1)))) ∧ (¬ ((I1 37 (tN v1)) = ((I1 37 (tN x1)) + 1)) → Wp d Wk_visit Q 2 [some (.ref 33), some (.int x1), some (.int (x2 + 1)), none] [] I1 J1))))) ∧ (¬ ((I1 37 (tN v1)) < 0) → vp_in v1 1024 ∧ (vp_in x1 1024 ∧ (((I1 37 (tN v1)) = ((I1 37 (tN x1)) + 1) → vp_in v1 1024 ∧ (vp_in x1 1024 ∧ (vp_in v1 1024 ∧ (Wp d Wk_visit Q 2 [some (.ref 33), some (.int x1), some (.int (x2 + 1)), none] [] (up2 I1 40 (tN v1) (rmI ((I1 40 (tN v1)) + (I1 40 (tN x1))) 1000003)) J1)))) ∧ (¬ ((I1 37 (tN v1)) = ((I1 37 (tN x1)) + 1)) → Wp d Wk_visit Q 2 [some (.ref 33), some (.int x1), some (.int (x2 + 1)), none] [] I1 J1)))))))) ∧ (¬ (x2 < (I 33 8)) → Q none I J)) : Wp d Wk_visit Q 2 [some (.ref 33), some (.int x1), some (.int x2), none] [] I J := by
  refine Wp.steps 3 (pc' := 7) (lv' := [some (.ref 33), some (.int x1), some (.int x2), none]) (st' := [.int (I 33 8), .int x2]) (I' := I) (J' := J) rfl ?_
  refine Wp.steps 1 (pc' := if x2 < (I 33 8) then 10 else 143) (lv' := [some (.ref 33), some (.int x1), some (.int x2), none]) (st' := []) (I' := I) (J' := J) rfl (Wp.ite (fun h1 => ?_) (fun h1 => ?_))
  · replace h := h.1 h1
    refine Wp.steps 3 (pc' := 13) (lv' := [some (.ref 33), some (.int x1), some (.int x2), none]) (st' := [.int x2, .int x1, .ref 33]) (I' := I) (J' := J) rfl ?_
    refine Wp.call (M' := Wk_next) (as := [.ref 33, .int x1, .int x2]) (rest := []) rfl (CI.use h (fun v1 I1 J1 h => ?_))
    refine Wp.eqs (pc' := 16) (st' := [.int v1]) rfl rfl ?_
    refine Wp.steps 2 (pc' := 18) (lv' := [some (.ref 33), some (.int x1), some (.int x2), some (.int v1)]) (st' := [.int v1]) (I' := I1) (J' := J1) rfl ?_
    refine Wp.steps 1 (pc' := if v1 < 0 then 21 else 24) (lv' := [some (.ref 33), some (.int x1), some (.int x2), some (.int v1)]) (st' := []) (I' := I1) (J' := J1) rfl (Wp.ite (fun h2 => ?_) (fun h2 => ?_))
    · replace h := h.1 h2
      refine Wp.steps 3 (pc' := 2) (lv' := [some (.ref 33), some (.int x1), some (.int (x2 + 1)), some (.int v1)]) (st' := []) (I' := I1) (J' := J1) rfl ?_
      refine Wp.drop [3] (lv' := [some (.ref 33), some (.int x1), some (.int (x2 + 1)), none]) rfl ?_
      exact h
    · replace h := h.2 h2
      refine Wp.steps 3 (pc' := 29) (lv' := [some (.ref 33), some (.int x1), some (.int x2), some (.int v1)]) (st' := [.int v1, .ref 37]) (I' := I1) (J' := J1) rfl ?_
      refine Wp.iald rfl rfl h.1 ?_
      replace h := h.2
      refine Wp.steps 1 (pc' := if (I1 37 (tN v1)) < 0 then 33 else 98) (lv' := [some (.ref 33), some (.int x1), some (.int x2), some (.int v1)]) (st' := []) (I' := I1) (J' := J1) rfl (Wp.ite (fun h3 => ?_) (fun h3 => ?_))
      · replace h := h.1 h3
        refine Wp.steps 3 (pc' := 40) (lv' := [some (.ref 33), some (.int x1), some (.int x2), some (.int v1)]) (st' := [.int 1024, .int (I1 33 9)]) (I' := I1) (J' := J1) rfl ?_
        refine Wp.steps 1 (pc' := if (I1 33 9) < 1024 then 43 else 98) (lv' := [some (.ref 33), some (.int x1), some (.int x2), some (.int v1)]) (st' := []) (I' := I1) (J' := J1) rfl (Wp.ite (fun h4 => ?_) (fun h4 => ?_))
        · replace h := h.1 h4
          refine Wp.steps 6 (pc' := 53) (lv' := [some (.ref 33), some (.int x1), some (.int x2), some (.int v1)]) (st' := [.int x1, .ref 37, .int v1, .ref 37]) (I' := I1) (J' := J1) rfl ?_
          refine Wp.iald rfl rfl h.1 ?_
          replace h := h.2
          refine Wp.steps 2 (pc' := 56) (lv' := [some (.ref 33), some (.int x1), some (.int x2), some (.int v1)]) (st' := [.int ((I1 37 (tN x1)) + 1), .int v1, .ref 37]) (I' := I1) (J' := J1) rfl ?_
          refine Wp.iast rfl rfl h.1 ?_
          replace h := h.2
          refine Wp.steps 4 (pc' := 63) (lv' := [some (.ref 33), some (.int x1), some (.int x2), some (.int v1)]) (st' := [.int x1, .int v1, .ref 38]) (I' := (up2 I1 37 (tN v1) ((I1 37 (tN x1)) + 1))) (J' := J1) rfl ?_
          refine Wp.iast rfl rfl h.1 ?_
          replace h := h.2
          refine Wp.steps 4 (pc' := 70) (lv' := [some (.ref 33), some (.int x1), some (.int x2), some (.int v1)]) (st' := [.int x2, .int v1, .ref 39]) (I' := (up2 (up2 I1 37 (tN v1) ((I1 37 (tN x1)) + 1)) 38 (tN v1) x1)) (J' := J1) rfl ?_
          refine Wp.iast rfl rfl h.1 ?_
          replace h := h.2
          refine Wp.steps 4 (pc' := 77) (lv' := [some (.ref 33), some (.int x1), some (.int x2), some (.int v1)]) (st' := [.int 0, .int v1, .ref 40]) (I' := (up2 (up2 (up2 I1 37 (tN v1) ((I1 37 (tN x1)) + 1)) 38 (tN v1) x1) 39 (tN v1) x2)) (J' := J1) rfl ?_
          refine Wp.iast rfl rfl h.1 ?_
          replace h := h.2
          refine Wp.steps 5 (pc' := 87) (lv' := [some (.ref 33), some (.int x1), some (.int x2), some (.int v1)]) (st' := [.int v1, .int (I1 33 9), .ref 36]) (I' := (up2 (up2 (up2 (up2 I1 37 (tN v1) ((I1 37 (tN x1)) + 1)) 38 (tN v1) x1) 39 (tN v1) x2) 40 (tN v1) 0)) (J' := J1) rfl ?_
          refine Wp.iast rfl rfl h.1 ?_
          replace h := h.2
          refine Wp.steps 9 (pc' := 103) (lv' := [some (.ref 33), some (.int x1), some (.int x2), some (.int v1)]) (st' := [.int v1, .ref 37]) (I' := (up2 (up2 (up2 (up2 (up2 (up2 I1 37 (tN v1) ((I1 37 (tN x1)) + 1)) 38 (tN v1) x1) 39 (tN v1) x2) 40 (tN v1) 0) 36 (tN (I1 33 9)) v1) 33 9 ((I1 33 9) + 1))) (J' := J1) rfl ?_
          refine Wp.iald rfl rfl h.1 ?_
          replace h := h.2
          refine Wp.steps 3 (pc' := 109) (lv' := [some (.ref 33), some (.int x1), some (.int x2), some (.int v1)]) (st' := [.int x1, .ref 37, .int ((up2 I1 37 (tN v1) ((I1 37 (tN x1)) + 1)) 37 (tN v1))]) (I' := (up2 (up2 (up2 (up2 (up2 (up2 I1 37 (tN v1) ((I1 37 (tN x1)) + 1)) 38 (tN v1) x1) 39 (tN v1) x2) 40 (tN v1) 0) 36 (tN (I1 33 9)) v1) 33 9 ((I1 33 9) + 1))) (J' := J1) rfl ?_
          refine Wp.iald rfl rfl h.1 ?_
          replace h := h.2
          refine Wp.steps 2 (pc' := 112) (lv' := [some (.ref 33), some (.int x1), some (.int x2), some (.int v1)]) (st' := [.int (((up2 I1 37 (tN v1) ((I1 37 (tN x1)) + 1)) 37 (tN x1)) + 1), .int ((up2 I1 37 (tN v1) ((I1 37 (tN x1)) + 1)) 37 (tN v1))]) (I' := (up2 (up2 (up2 (up2 (up2 (up2 I1 37 (tN v1) ((I1 37 (tN x1)) + 1)) 38 (tN v1) x1) 39 (tN v1) x2) 40 (tN v1) 0) 36 (tN (I1 33 9)) v1) 33 9 ((I1 33 9) + 1))) (J' := J1) rfl ?_
          refine Wp.steps 1 (pc' := if ((up2 I1 37 (tN v1) ((I1 37 (tN x1)) + 1)) 37 (tN v1)) = (((up2 I1 37 (tN v1) ((I1 37 (tN x1)) + 1)) 37 (tN x1)) + 1) then 115 else 137) (lv' := [some (.ref 33), some (.int x1), some (.int x2), some (.int v1)]) (st' := []) (I' := (up2 (up2 (up2 (up2 (up2 (up2 I1 37 (tN v1) ((I1 37 (tN x1)) + 1)) 38 (tN v1) x1) 39 (tN v1) x2) 40 (tN v1) 0) 36 (tN (I1 33 9)) v1) 33 9 ((I1 33 9) + 1))) (J' := J1) rfl (Wp.ite (fun h5 => ?_) (fun h5 => ?_))
          · replace h := h.1 h5
            refine Wp.steps 6 (pc' := 125) (lv' := [some (.ref 33), some (.int x1), some (.int x2), some (.int v1)]) (st' := [.int v1, .ref 40, .int v1, .ref 40]) (I' := (up2 (up2 (up2 (up2 (up2 (up2 I1 37 (tN v1) ((I1 37 (tN x1)) + 1)) 38 (tN v1) x1) 39 (tN v1) x2) 40 (tN v1) 0) 36 (tN (I1 33 9)) v1) 33 9 ((I1 33 9) + 1))) (J' := J1) rfl ?_
            refine Wp.iald rfl rfl h.1 ?_
            replace h := h.2
            refine Wp.steps 3 (pc' := 131) (lv' := [some (.ref 33), some (.int x1), some (.int x2), some (.int v1)]) (st' := [.int x1, .ref 40, .int ((up2 (up2 (up2 (up2 I1 37 (tN v1) ((I1 37 (tN x1)) + 1)) 38 (tN v1) x1) 39 (tN v1) x2) 40 (tN v1) 0) 40 (tN v1)), .int v1, .ref 40]) (I' := (up2 (up2 (up2 (up2 (up2 (up2 I1 37 (tN v1) ((I1 37 (tN x1)) + 1)) 38 (tN v1) x1) 39 (tN v1) x2) 40 (tN v1) 0) 36 (tN (I1 33 9)) v1) 33 9 ((I1 33 9) + 1))) (J' := J1) rfl ?_
            refine Wp.iald rfl rfl h.1 ?_
            replace h := h.2
            refine Wp.steps 3 (pc' := 136) (lv' := [some (.ref 33), some (.int x1), some (.int x2), some (.int v1)]) (st' := [.int (rmI (((up2 (up2 (up2 (up2 I1 37 (tN v1) ((I1 37 (tN x1)) + 1)) 38 (tN v1) x1) 39 (tN v1) x2) 40 (tN v1) 0) 40 (tN v1)) + ((up2 (up2 (up2 (up2 I1 37 (tN v1) ((I1 37 (tN x1)) + 1)) 38 (tN v1) x1) 39 (tN v1) x2) 40 (tN v1) 0) 40 (tN x1))) 1000003), .int v1, .ref 40]) (I' := (up2 (up2 (up2 (up2 (up2 (up2 I1 37 (tN v1) ((I1 37 (tN x1)) + 1)) 38 (tN v1) x1) 39 (tN v1) x2) 40 (tN v1) 0) 36 (tN (I1 33 9)) v1) 33 9 ((I1 33 9) + 1))) (J' := J1) rfl ?_
            refine Wp.iast rfl rfl h.1 ?_
            replace h := h.2
            refine Wp.steps 2 (pc' := 2) (lv' := [some (.ref 33), some (.int x1), some (.int (x2 + 1)), some (.int v1)]) (st' := []) (I' := (up2 (up2 (up2 (up2 (up2 (up2 (up2 I1 37 (tN v1) ((I1 37 (tN x1)) + 1)) 38 (tN v1) x1) 39 (tN v1) x2) 40 (tN v1) 0) 36 (tN (I1 33 9)) v1) 33 9 ((I1 33 9) + 1)) 40 (tN v1) (rmI (((up2 (up2 (up2 (up2 I1 37 (tN v1) ((I1 37 (tN x1)) + 1)) 38 (tN v1) x1) 39 (tN v1) x2) 40 (tN v1) 0) 40 (tN v1)) + ((up2 (up2 (up2 (up2 I1 37 (tN v1) ((I1 37 (tN x1)) + 1)) 38 (tN v1) x1) 39 (tN v1) x2) 40 (tN v1) 0) 40 (tN x1))) 1000003))) (J' := J1) rfl ?_
            refine Wp.drop [3] (lv' := [some (.ref 33), some (.int x1), some (.int (x2 + 1)), none]) rfl ?_
            exact h
          · replace h := h.2 h5
            refine Wp.steps 2 (pc' := 2) (lv' := [some (.ref 33), some (.int x1), some (.int (x2 + 1)), some (.int v1)]) (st' := []) (I' := (up2 (up2 (up2 (up2 (up2 (up2 I1 37 (tN v1) ((I1 37 (tN x1)) + 1)) 38 (tN v1) x1) 39 (tN v1) x2) 40 (tN v1) 0) 36 (tN (I1 33 9)) v1) 33 9 ((I1 33 9) + 1))) (J' := J1) rfl ?_
            refine Wp.drop [3] (lv' := [some (.ref 33), some (.int x1), some (.int (x2 + 1)), none]) rfl ?_
            exact h
        · replace h := h.2 h4
          refine Wp.steps 3 (pc' := 103) (lv' := [some (.ref 33), some (.int x1), some (.int x2), some (.int v1)]) (st' := [.int v1, .ref 37]) (I' := I1) (J' := J1) rfl ?_
          refine Wp.iald rfl rfl h.1 ?_
          replace h := h.2
          refine Wp.steps 3 (pc' := 109) (lv' := [some (.ref 33), some (.int x1), some (.int x2), some (.int v1)]) (st' := [.int x1, .ref 37, .int (I1 37 (tN v1))]) (I' := I1) (J' := J1) rfl ?_
          refine Wp.iald rfl rfl h.1 ?_
          replace h := h.2
          refine Wp.steps 2 (pc' := 112) (lv' := [some (.ref 33), some (.int x1), some (.int x2), some (.int v1)]) (st' := [.int ((I1 37 (tN x1)) + 1), .int (I1 37 (tN v1))]) (I' := I1) (J' := J1) rfl ?_
          refine Wp.steps 1 (pc' := if (I1 37 (tN v1)) = ((I1 37 (tN x1)) + 1) then 115 else 137) (lv' := [some (.ref 33), some (.int x1), some (.int x2), some (.int v1)]) (st' := []) (I' := I1) (J' := J1) rfl (Wp.ite (fun h5 => ?_) (fun h5 => ?_))
          · replace h := h.1 h5
            refine Wp.steps 6 (pc' := 125) (lv' := [some (.ref 33), some (.int x1), some (.int x2), some (.int v1)]) (st' := [.int v1, .ref 40, .int v1, .ref 40]) (I' := I1) (J' := J1) rfl ?_
            refine Wp.iald rfl rfl h.1 ?_
            replace h := h.2
            refine Wp.steps 3 (pc' := 131) (lv' := [some (.ref 33), some (.int x1), some (.int x2), some (.int v1)]) (st' := [.int x1, .ref 40, .int (I1 40 (tN v1)), .int v1, .ref 40]) (I' := I1) (J' := J1) rfl ?_
            refine Wp.iald rfl rfl h.1 ?_
            replace h := h.2
            refine Wp.steps 3 (pc' := 136) (lv' := [some (.ref 33), some (.int x1), some (.int x2), some (.int v1)]) (st' := [.int (rmI ((I1 40 (tN v1)) + (I1 40 (tN x1))) 1000003), .int v1, .ref 40]) (I' := I1) (J' := J1) rfl ?_
            refine Wp.iast rfl rfl h.1 ?_
            replace h := h.2
            refine Wp.steps 2 (pc' := 2) (lv' := [some (.ref 33), some (.int x1), some (.int (x2 + 1)), some (.int v1)]) (st' := []) (I' := (up2 I1 40 (tN v1) (rmI ((I1 40 (tN v1)) + (I1 40 (tN x1))) 1000003))) (J' := J1) rfl ?_
            refine Wp.drop [3] (lv' := [some (.ref 33), some (.int x1), some (.int (x2 + 1)), none]) rfl ?_
            exact h
          · replace h := h.2 h5
            refine Wp.steps 2 (pc' := 2) (lv' := [some (.ref 33), some (.int x1), some (.int (x2 + 1)), some (.int v1)]) (st' := []) (I' := I1) (J' := J1) rfl ?_
            refine Wp.drop [3] (lv' := [some (.ref 33), some (.int x1), some (.int (x2 + 1)), none]) rfl ?_
            exact h
      · replace h := h.2 h3
        refine Wp.steps 3 (pc' := 103) (lv' := [some (.ref 33), some (.int x1), some (.int x2), some (.int v1)]) (st' := [.int v1, .ref 37]) (I' := I1) (J' := J1) rfl ?_
        refine Wp.iald rfl rfl h.1 ?_
        replace h := h.2
        refine Wp.steps 3 (pc' := 109) (lv' := [some (.ref 33), some (.int x1), some (.int x2), some (.int v1)]) (st' := [.int x1, .ref 37, .int (I1 37 (tN v1))]) (I' := I1) (J' := J1) rfl ?_
        refine Wp.iald rfl rfl h.1 ?_
        replace h := h.2
        refine Wp.steps 2 (pc' := 112) (lv' := [some (.ref 33), some (.int x1), some (.int x2), some (.int v1)]) (st' := [.int ((I1 37 (tN x1)) + 1), .int (I1 37 (tN v1))]) (I' := I1) (J' := J1) rfl ?_
        refine Wp.steps 1 (pc' := if (I1 37 (tN v1)) = ((I1 37 (tN x1)) + 1) then 115 else 137) (lv' := [some (.ref 33), some (.int x1), some (.int x2), some (.int v1)]) (st' := []) (I' := I1) (J' := J1) rfl (Wp.ite (fun h4 => ?_) (fun h4 => ?_))
        · replace h := h.1 h4
          refine Wp.steps 6 (pc' := 125) (lv' := [some (.ref 33), some (.int x1), some (.int x2), some (.int v1)]) (st' := [.int v1, .ref 40, .int v1, .ref 40]) (I' := I1) (J' := J1) rfl ?_
          refine Wp.iald rfl rfl h.1 ?_
          replace h := h.2
          refine Wp.steps 3 (pc' := 131) (lv' := [some (.ref 33), some (.int x1), some (.int x2), some (.int v1)]) (st' := [.int x1, .ref 40, .int (I1 40 (tN v1)), .int v1, .ref 40]) (I' := I1) (J' := J1) rfl ?_
          refine Wp.iald rfl rfl h.1 ?_
          replace h := h.2
          refine Wp.steps 3 (pc' := 136) (lv' := [some (.ref 33), some (.int x1), some (.int x2), some (.int v1)]) (st' := [.int (rmI ((I1 40 (tN v1)) + (I1 40 (tN x1))) 1000003), .int v1, .ref 40]) (I' := I1) (J' := J1) rfl ?_
          refine Wp.iast rfl rfl h.1 ?_
          replace h := h.2
          refine Wp.steps 2 (pc' := 2) (lv' := [some (.ref 33), some (.int x1), some (.int (x2 + 1)), some (.int v1)]) (st' := []) (I' := (up2 I1 40 (tN v1) (rmI ((I1 40 (tN v1)) + (I1 40 (tN x1))) 1000003))) (J' := J1) rfl ?_
          refine Wp.drop [3] (lv' := [some (.ref 33), some (.int x1), some (.int (x2 + 1)), none]) rfl ?_
          exact h
        · replace h := h.2 h4
          refine Wp.steps 2 (pc' := 2) (lv' := [some (.ref 33), some (.int x1), some (.int (x2 + 1)), some (.int v1)]) (st' := []) (I' := I1) (J' := J1) rfl ?_
          refine Wp.drop [3] (lv' := [some (.ref 33), some (.int x1), some (.int (x2 + 1)), none]) rfl ?_
          exact h
  · replace h := h.2 h1
    exact Wp.ret rfl h
theorem v_Wk_slideOf_0 {d : Nat} {Q : Post} {I : I2} {J : J2} {x0 : Int32} (h : Q (some (.int ((10 * (srI x0 1)) + (x0 &&& 1)))) I J) : Wp d Wk_slideOf Q 0 [some (.int x0)] [] I J := by
  refine Wp.steps 9 (pc' := 10) (lv' := [some (.int x0)]) (st' := [.int ((10 * (srI x0 1)) + (x0 &&& 1))]) (I' := I) (J' := J) rfl ?_
  exact Wp.ret rfl h
theorem v_Wk_next_33_0 {d : Nat} {Q : Post} {I : I2} {J : J2} {x1 : Int32} {x2 : Int32} (h : vp_in ((10 * x1) + x2) 10240 ∧ ((((I 35 (tN ((10 * x1) + x2))) &&& ((I 33 11) ^^^ (-1))) = 0 → vp_in ((10 * x1) + x2) 10240 ∧ (Q (some (.int (I 34 (tN ((10 * x1) + x2))))) I J)) ∧ (¬ (((I 35 (tN ((10 * x1) + x2))) &&& ((I 33 11) ^^^ (-1))) = 0) → Q (some (.int (-1))) I J))) : Wp d Wk_next Q 0 [some (.ref 33), some (.int x1), some (.int x2), none] [] I J := by
  refine Wp.steps 9 (pc' := 12) (lv' := [some (.ref 33), some (.int x1), some (.int x2), some (.int ((10 * x1) + x2))]) (st' := [.int ((10 * x1) + x2), .ref 35]) (I' := I) (J' := J) rfl ?_
  refine Wp.iald rfl rfl h.1 ?_
  replace h := h.2
  refine Wp.steps 5 (pc' := 20) (lv' := [some (.ref 33), some (.int x1), some (.int x2), some (.int ((10 * x1) + x2))]) (st' := [.int ((I 35 (tN ((10 * x1) + x2))) &&& ((I 33 11) ^^^ (-1)))]) (I' := I) (J' := J) rfl ?_
  refine Wp.steps 1 (pc' := if ((I 35 (tN ((10 * x1) + x2))) &&& ((I 33 11) ^^^ (-1))) = 0 then 23 else 32) (lv' := [some (.ref 33), some (.int x1), some (.int x2), some (.int ((10 * x1) + x2))]) (st' := []) (I' := I) (J' := J) rfl (Wp.ite (fun h1 => ?_) (fun h1 => ?_))
  · replace h := h.1 h1
    refine Wp.steps 3 (pc' := 28) (lv' := [some (.ref 33), some (.int x1), some (.int x2), some (.int ((10 * x1) + x2))]) (st' := [.int ((10 * x1) + x2), .ref 34]) (I' := I) (J' := J) rfl ?_
    refine Wp.iald rfl rfl h.1 ?_
    replace h := h.2
    refine Wp.steps 1 (pc' := 33) (lv' := [some (.ref 33), some (.int x1), some (.int x2), some (.int ((10 * x1) + x2))]) (st' := [.int (I 34 (tN ((10 * x1) + x2)))]) (I' := I) (J' := J) rfl ?_
    exact Wp.ret rfl h
  · replace h := h.2 h1
    refine Wp.steps 1 (pc' := 33) (lv' := [some (.ref 33), some (.int x1), some (.int x2), some (.int ((10 * x1) + x2))]) (st' := [.int (-1)]) (I' := I) (J' := J) rfl ?_
    exact Wp.ret rfl h
theorem v_Wk_chartMove_33_0 {d : Nat} {Q : Post} {I : I2} {J : J2} {x1 : Int32} {x2 : Int32} (h : CI d Bx_fits [.ref 1, .int x1, .int (srI x2 1), .int (x2 &&& 1)] I J (fun v1 I1 J1 => (v1 = 0 → vp_in ((10 * x1) + x2) 10240 ∧ (CI d Bx_holding [.ref 1, .int x1, .int (srI x2 1), .int (x2 &&& 1)] (up2 I1 34 (tN ((10 * x1) + x2)) (-1)) J1 (fun v2 I2 J2 => vp_in ((10 * x1) + x2) 10240 ∧ (Q none (up2 I2 35 (tN ((10 * x1) + x2)) v2) J2)))) ∧ (¬ (v1 = 0) → CI d Bx_behind [.ref 1, .int x1, .int (srI x2 1), .int (x2 &&& 1)] I1 J1 (fun v2 I2 J2 => vp_in ((10 * x1) + x2) 10240 ∧ (CI d Bx_holding [.ref 1, .int x1, .int (srI x2 1), .int (x2 &&& 1)] (up2 I2 34 (tN ((10 * x1) + x2)) v2) J2 (fun v3 I3 J3 => vp_in ((10 * x1) + x2) 10240 ∧ (Q none (up2 I3 35 (tN ((10 * x1) + x2)) v3) J3))))))) : Wp d Wk_chartMove Q 0 [some (.ref 33), some (.int x1), some (.int x2), none, none, none] [] I J := by
  refine Wp.steps 22 (pc' := 31) (lv' := [some (.ref 33), some (.int x1), some (.int x2), some (.int (srI x2 1)), some (.int (x2 &&& 1)), some (.int ((10 * x1) + x2))]) (st' := [.int (x2 &&& 1), .int (srI x2 1), .int x1, .ref 1, .int ((10 * x1) + x2), .ref 34]) (I' := I) (J' := J) rfl ?_
  refine Wp.call (M' := Bx_fits) (as := [.ref 1, .int x1, .int (srI x2 1), .int (x2 &&& 1)]) (rest := [.int ((10 * x1) + x2), .ref 34]) rfl (CI.use h (fun v1 I1 J1 h => ?_))
  refine Wp.eqs (pc' := 34) (st' := [.int v1, .int ((10 * x1) + x2), .ref 34]) rfl rfl ?_
  refine Wp.steps 1 (pc' := if v1 = 0 then 51 else 37) (lv' := [some (.ref 33), some (.int x1), some (.int x2), some (.int (srI x2 1)), some (.int (x2 &&& 1)), some (.int ((10 * x1) + x2))]) (st' := [.int ((10 * x1) + x2), .ref 34]) (I' := I1) (J' := J1) rfl (Wp.ite (fun h1 => ?_) (fun h1 => ?_))
  · replace h := h.1 h1
    refine Wp.steps 1 (pc' := 52) (lv' := [some (.ref 33), some (.int x1), some (.int x2), some (.int (srI x2 1)), some (.int (x2 &&& 1)), some (.int ((10 * x1) + x2))]) (st' := [.int (-1), .int ((10 * x1) + x2), .ref 34]) (I' := I1) (J' := J1) rfl ?_
    refine Wp.iast rfl rfl h.1 ?_
    replace h := h.2
    refine Wp.steps 8 (pc' := 67) (lv' := [some (.ref 33), some (.int x1), some (.int x2), some (.int (srI x2 1)), some (.int (x2 &&& 1)), some (.int ((10 * x1) + x2))]) (st' := [.int (x2 &&& 1), .int (srI x2 1), .int x1, .ref 1, .int ((10 * x1) + x2), .ref 35]) (I' := (up2 I1 34 (tN ((10 * x1) + x2)) (-1))) (J' := J1) rfl ?_
    refine Wp.call (M' := Bx_holding) (as := [.ref 1, .int x1, .int (srI x2 1), .int (x2 &&& 1)]) (rest := [.int ((10 * x1) + x2), .ref 35]) rfl (CI.use h (fun v2 I2 J2 h => ?_))
    refine Wp.eqs (pc' := 70) (st' := [.int v2, .int ((10 * x1) + x2), .ref 35]) rfl rfl ?_
    refine Wp.iast rfl rfl h.1 ?_
    replace h := h.2
    exact Wp.ret rfl h
  · replace h := h.2 h1
    refine Wp.steps 5 (pc' := 45) (lv' := [some (.ref 33), some (.int x1), some (.int x2), some (.int (srI x2 1)), some (.int (x2 &&& 1)), some (.int ((10 * x1) + x2))]) (st' := [.int (x2 &&& 1), .int (srI x2 1), .int x1, .ref 1, .int ((10 * x1) + x2), .ref 34]) (I' := I1) (J' := J1) rfl ?_
    refine Wp.call (M' := Bx_behind) (as := [.ref 1, .int x1, .int (srI x2 1), .int (x2 &&& 1)]) (rest := [.int ((10 * x1) + x2), .ref 34]) rfl (CI.use h (fun v2 I2 J2 h => ?_))
    refine Wp.eqs (pc' := 48) (st' := [.int v2, .int ((10 * x1) + x2), .ref 34]) rfl rfl ?_
    refine Wp.steps 1 (pc' := 52) (lv' := [some (.ref 33), some (.int x1), some (.int x2), some (.int (srI x2 1)), some (.int (x2 &&& 1)), some (.int ((10 * x1) + x2))]) (st' := [.int v2, .int ((10 * x1) + x2), .ref 34]) (I' := I2) (J' := J2) rfl ?_
    refine Wp.iast rfl rfl h.1 ?_
    replace h := h.2
    refine Wp.steps 8 (pc' := 67) (lv' := [some (.ref 33), some (.int x1), some (.int x2), some (.int (srI x2 1)), some (.int (x2 &&& 1)), some (.int ((10 * x1) + x2))]) (st' := [.int (x2 &&& 1), .int (srI x2 1), .int x1, .ref 1, .int ((10 * x1) + x2), .ref 35]) (I' := (up2 I2 34 (tN ((10 * x1) + x2)) v2)) (J' := J2) rfl ?_
    refine Wp.call (M' := Bx_holding) (as := [.ref 1, .int x1, .int (srI x2 1), .int (x2 &&& 1)]) (rest := [.int ((10 * x1) + x2), .ref 35]) rfl (CI.use h (fun v3 I3 J3 h => ?_))
    refine Wp.eqs (pc' := 70) (st' := [.int v3, .int ((10 * x1) + x2), .ref 35]) rfl rfl ?_
    refine Wp.iast rfl rfl h.1 ?_
    replace h := h.2
    exact Wp.ret rfl h
