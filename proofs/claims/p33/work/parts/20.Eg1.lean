/-! what each way through a method asks (by program): Eg_dead_41, Eg_solve_41, Eg_firstSlide_41, Eg_begin_41, Eg_settle_41, Eg_learn_41, Eg_leadsTo_41, Eg_chain_41 -/
theorem v_Eg_dead_41_0 {d : Nat} {Q : Post} {I : I2} {J : J2} (h : CV d Eg_begin [.ref 41] I J (fun I1 J1 => Wp d Eg_dead Q 6 [some (.ref 41), some (.int 0), none, none, none] [] I1 J1)) : Wp d Eg_dead Q 0 [some (.ref 41), none, none, none, none] [] I J := by
  refine Wp.steps 1 (pc' := 1) (lv' := [some (.ref 41), none, none, none, none]) (st' := [.ref 41]) (I' := I) (J' := J) rfl ?_
  refine Wp.call (M' := Eg_begin) (as := [.ref 41]) (rest := []) rfl (CV.use h (fun I1 J1 h => ?_))
  refine Wp.eqs (pc' := 4) (st' := []) rfl rfl ?_
  refine Wp.steps 2 (pc' := 6) (lv' := [some (.ref 41), some (.int 0), none, none, none]) (st' := []) (I' := I1) (J' := J1) rfl ?_
  exact h
theorem v_Eg_dead_41_6 {d : Nat} {Q : Post} {I : I2} {J : J2} {x1 : Int32} (h : (x1 < (I 33 9) → vp_in x1 1024 ∧ (CI d Bx_isOpen [.ref 1, .int (I 36 (tN x1))] I J (fun v1 I1 J1 => (v1 = 0 → Wp d Eg_dead Q 6 [some (.ref 41), some (.int (x1 + 1)), none, none, none] [] I1 J1) ∧ (¬ (v1 = 0) → vp_in x1 1024 ∧ (CV d Eg_settle [.ref 41, .int (I1 36 (tN x1)), .int 1, .int 0] I1 J1 (fun I2 J2 => Wp d Eg_dead Q 6 [some (.ref 41), some (.int (x1 + 1)), none, none, none] [] I2 J2)))))) ∧ (¬ (x1 < (I 33 9)) → Wp d Eg_dead Q 59 [some (.ref 41), some (.int 0), none, none, none] [] I J)) : Wp d Eg_dead Q 6 [some (.ref 41), some (.int x1), none, none, none] [] I J := by
  refine Wp.steps 4 (pc' := 14) (lv' := [some (.ref 41), some (.int x1), none, none, none]) (st' := [.int (I 33 9), .int x1]) (I' := I) (J' := J) rfl ?_
  refine Wp.steps 1 (pc' := if x1 < (I 33 9) then 17 else 57) (lv' := [some (.ref 41), some (.int x1), none, none, none]) (st' := []) (I' := I) (J' := J) rfl (Wp.ite (fun h1 => ?_) (fun h1 => ?_))
  · replace h := h.1 h1
    refine Wp.steps 6 (pc' := 29) (lv' := [some (.ref 41), some (.int x1), none, none, none]) (st' := [.int x1, .ref 36, .ref 1]) (I' := I) (J' := J) rfl ?_
    refine Wp.iald rfl rfl h.1 ?_
    replace h := h.2
    refine Wp.call (M' := Bx_isOpen) (as := [.ref 1, .int (I 36 (tN x1))]) (rest := []) rfl (CI.use h (fun v1 I1 J1 h => ?_))
    refine Wp.eqs (pc' := 33) (st' := [.int v1]) rfl rfl ?_
    refine Wp.steps 1 (pc' := if v1 = 0 then 51 else 36) (lv' := [some (.ref 41), some (.int x1), none, none, none]) (st' := []) (I' := I1) (J' := J1) rfl (Wp.ite (fun h2 => ?_) (fun h2 => ?_))
    · replace h := h.1 h2
      refine Wp.steps 2 (pc' := 6) (lv' := [some (.ref 41), some (.int (x1 + 1)), none, none, none]) (st' := []) (I' := I1) (J' := J1) rfl ?_
      exact h
    · replace h := h.2 h2
      refine Wp.steps 5 (pc' := 45) (lv' := [some (.ref 41), some (.int x1), none, none, none]) (st' := [.int x1, .ref 36, .ref 41]) (I' := I1) (J' := J1) rfl ?_
      refine Wp.iald rfl rfl h.1 ?_
      replace h := h.2
      refine Wp.steps 2 (pc' := 48) (lv' := [some (.ref 41), some (.int x1), none, none, none]) (st' := [.int 0, .int 1, .int (I1 36 (tN x1)), .ref 41]) (I' := I1) (J' := J1) rfl ?_
      refine Wp.call (M' := Eg_settle) (as := [.ref 41, .int (I1 36 (tN x1)), .int 1, .int 0]) (rest := []) rfl (CV.use h (fun I2 J2 h => ?_))
      refine Wp.eqs (pc' := 51) (st' := []) rfl rfl ?_
      refine Wp.steps 2 (pc' := 6) (lv' := [some (.ref 41), some (.int (x1 + 1)), none, none, none]) (st' := []) (I' := I2) (J' := J2) rfl ?_
      exact h
  · replace h := h.2 h1
    refine Wp.steps 2 (pc' := 59) (lv' := [some (.ref 41), some (.int 0), none, none, none]) (st' := []) (I' := I) (J' := J) rfl ?_
    exact h
theorem v_Eg_dead_41_59 {d : Nat} {Q : Post} {I : I2} {J : J2} {x1 : Int32} (h : (x1 < (I 41 6) → (x1 < 1024 → vp_in x1 1024 ∧ (vp_in (I 45 (tN x1)) 1024 ∧ (Wp d Eg_dead Q 88 [some (.ref 41), some (.int x1), some (.int (I 42 (tN (I 45 (tN x1))))), some (.int 0), none] [] I J))) ∧ (¬ (x1 < 1024) → Q (some (.int ((I 33 9) - (I 41 6)))) I J)) ∧ (¬ (x1 < (I 41 6)) → Q (some (.int ((I 33 9) - (I 41 6)))) I J)) : Wp d Eg_dead Q 59 [some (.ref 41), some (.int x1), none, none, none] [] I J := by
  refine Wp.steps 3 (pc' := 64) (lv' := [some (.ref 41), some (.int x1), none, none, none]) (st' := [.int (I 41 6), .int x1]) (I' := I) (J' := J) rfl ?_
  refine Wp.steps 1 (pc' := if x1 < (I 41 6) then 67 else 142) (lv' := [some (.ref 41), some (.int x1), none, none, none]) (st' := []) (I' := I) (J' := J) rfl (Wp.ite (fun h1 => ?_) (fun h1 => ?_))
  · replace h := h.1 h1
    refine Wp.steps 2 (pc' := 71) (lv' := [some (.ref 41), some (.int x1), none, none, none]) (st' := [.int 1024, .int x1]) (I' := I) (J' := J) rfl ?_
    refine Wp.steps 1 (pc' := if x1 < 1024 then 74 else 142) (lv' := [some (.ref 41), some (.int x1), none, none, none]) (st' := []) (I' := I) (J' := J) rfl (Wp.ite (fun h2 => ?_) (fun h2 => ?_))
    · replace h := h.1 h2
      refine Wp.steps 5 (pc' := 83) (lv' := [some (.ref 41), some (.int x1), none, none, none]) (st' := [.int x1, .ref 45, .ref 42]) (I' := I) (J' := J) rfl ?_
      refine Wp.iald rfl rfl h.1 ?_
      replace h := h.2
      refine Wp.iald rfl rfl h.1 ?_
      replace h := h.2
      refine Wp.steps 3 (pc' := 88) (lv' := [some (.ref 41), some (.int x1), some (.int (I 42 (tN (I 45 (tN x1))))), some (.int 0), none]) (st' := []) (I' := I) (J' := J) rfl ?_
      exact h
    · replace h := h.2 h2
      refine Wp.steps 6 (pc' := 154) (lv' := [some (.ref 41), some (.int x1), none, none, none]) (st' := [.int ((I 33 9) - (I 41 6))]) (I' := I) (J' := J) rfl ?_
      exact Wp.ret rfl h
  · replace h := h.2 h1
    refine Wp.steps 6 (pc' := 154) (lv' := [some (.ref 41), some (.int x1), none, none, none]) (st' := [.int ((I 33 9) - (I 41 6))]) (I' := I) (J' := J) rfl ?_
    exact Wp.ret rfl h
theorem v_Eg_dead_41_88 {d : Nat} {Q : Post} {I : I2} {J : J2} {x1 : Int32} {x2 : Int32} {x3 : Int32} (h : (x3 < 10240 → (x2 < 0 → Wp d Eg_dead Q 59 [some (.ref 41), some (.int (x1 + 1)), none, none, none] [] I J) ∧ (¬ (x2 < 0) → vp_in (x2 / 10) 1024 ∧ (((I 46 (tN (x2 / 10))) = 0 → CV d Eg_settle [.ref 41, .int (x2 / 10), .int 1, .int 0] I J (fun I1 J1 => vp_in x2 10240 ∧ (Wp d Eg_dead Q 88 [some (.ref 41), some (.int x1), some (.int (I1 43 (tN x2))), some (.int (x3 + 1)), none] [] I1 J1))) ∧ (¬ ((I 46 (tN (x2 / 10))) = 0) → vp_in x2 10240 ∧ (Wp d Eg_dead Q 88 [some (.ref 41), some (.int x1), some (.int (I 43 (tN x2))), some (.int (x3 + 1)), none] [] I J))))) ∧ (¬ (x3 < 10240) → Wp d Eg_dead Q 59 [some (.ref 41), some (.int (x1 + 1)), none, none, none] [] I J)) : Wp d Eg_dead Q 88 [some (.ref 41), some (.int x1), some (.int x2), some (.int x3), none] [] I J := by
  refine Wp.steps 2 (pc' := 92) (lv' := [some (.ref 41), some (.int x1), some (.int x2), some (.int x3), none]) (st' := [.int 10240, .int x3]) (I' := I) (J' := J) rfl ?_
  refine Wp.steps 1 (pc' := if x3 < 10240 then 95 else 136) (lv' := [some (.ref 41), some (.int x1), some (.int x2), some (.int x3), none]) (st' := []) (I' := I) (J' := J) rfl (Wp.ite (fun h1 => ?_) (fun h1 => ?_))
  · replace h := h.1 h1
    refine Wp.steps 1 (pc' := 96) (lv' := [some (.ref 41), some (.int x1), some (.int x2), some (.int x3), none]) (st' := [.int x2]) (I' := I) (J' := J) rfl ?_
    refine Wp.steps 1 (pc' := if x2 < 0 then 136 else 99) (lv' := [some (.ref 41), some (.int x1), some (.int x2), some (.int x3), none]) (st' := []) (I' := I) (J' := J) rfl (Wp.ite (fun h2 => ?_) (fun h2 => ?_))
    · replace h := h.1 h2
      refine Wp.steps 2 (pc' := 59) (lv' := [some (.ref 41), some (.int (x1 + 1)), some (.int x2), some (.int x3), none]) (st' := []) (I' := I) (J' := J) rfl ?_
      refine Wp.drop [2, 3] (lv' := [some (.ref 41), some (.int (x1 + 1)), none, none, none]) rfl ?_
      exact h
    · replace h := h.2 h2
      refine Wp.steps 7 (pc' := 111) (lv' := [some (.ref 41), some (.int x1), some (.int x2), some (.int x3), some (.int (x2 / 10))]) (st' := [.int (x2 / 10), .ref 46]) (I' := I) (J' := J) rfl ?_
      refine Wp.iald rfl rfl h.1 ?_
      replace h := h.2
      refine Wp.steps 1 (pc' := if (I 46 (tN (x2 / 10))) = 0 then 115 else 123) (lv' := [some (.ref 41), some (.int x1), some (.int x2), some (.int x3), some (.int (x2 / 10))]) (st' := []) (I' := I) (J' := J) rfl (Wp.ite (fun h3 => ?_) (fun h3 => ?_))
      · replace h := h.1 h3
        refine Wp.steps 4 (pc' := 120) (lv' := [some (.ref 41), some (.int x1), some (.int x2), some (.int x3), some (.int (x2 / 10))]) (st' := [.int 0, .int 1, .int (x2 / 10), .ref 41]) (I' := I) (J' := J) rfl ?_
        refine Wp.call (M' := Eg_settle) (as := [.ref 41, .int (x2 / 10), .int 1, .int 0]) (rest := []) rfl (CV.use h (fun I1 J1 h => ?_))
        refine Wp.eqs (pc' := 123) (st' := []) rfl rfl ?_
        refine Wp.steps 3 (pc' := 128) (lv' := [some (.ref 41), some (.int x1), some (.int x2), some (.int x3), some (.int (x2 / 10))]) (st' := [.int x2, .ref 43]) (I' := I1) (J' := J1) rfl ?_
        refine Wp.iald rfl rfl h.1 ?_
        replace h := h.2
        refine Wp.steps 3 (pc' := 88) (lv' := [some (.ref 41), some (.int x1), some (.int (I1 43 (tN x2))), some (.int (x3 + 1)), some (.int (x2 / 10))]) (st' := []) (I' := I1) (J' := J1) rfl ?_
        refine Wp.drop [4] (lv' := [some (.ref 41), some (.int x1), some (.int (I1 43 (tN x2))), some (.int (x3 + 1)), none]) rfl ?_
        exact h
      · replace h := h.2 h3
        refine Wp.steps 3 (pc' := 128) (lv' := [some (.ref 41), some (.int x1), some (.int x2), some (.int x3), some (.int (x2 / 10))]) (st' := [.int x2, .ref 43]) (I' := I) (J' := J) rfl ?_
        refine Wp.iald rfl rfl h.1 ?_
        replace h := h.2
        refine Wp.steps 3 (pc' := 88) (lv' := [some (.ref 41), some (.int x1), some (.int (I 43 (tN x2))), some (.int (x3 + 1)), some (.int (x2 / 10))]) (st' := []) (I' := I) (J' := J) rfl ?_
        refine Wp.drop [4] (lv' := [some (.ref 41), some (.int x1), some (.int (I 43 (tN x2))), some (.int (x3 + 1)), none]) rfl ?_
        exact h
  · replace h := h.2 h1
    refine Wp.steps 2 (pc' := 59) (lv' := [some (.ref 41), some (.int (x1 + 1)), some (.int x2), some (.int x3), none]) (st' := []) (I' := I) (J' := J) rfl ?_
    refine Wp.drop [2, 3] (lv' := [some (.ref 41), some (.int (x1 + 1)), none, none, none]) rfl ?_
    exact h
theorem v_Eg_solve_41_0 {d : Nat} {Q : Post} {I : I2} {J : J2} (h : CV d Eg_begin [.ref 41] I J (fun I1 J1 => Wp d Eg_solve Q 6 [some (.ref 41), some (.int 0), none, none] [] I1 J1)) : Wp d Eg_solve Q 0 [some (.ref 41), none, none, none] [] I J := by
  refine Wp.steps 1 (pc' := 1) (lv' := [some (.ref 41), none, none, none]) (st' := [.ref 41]) (I' := I) (J' := J) rfl ?_
  refine Wp.call (M' := Eg_begin) (as := [.ref 41]) (rest := []) rfl (CV.use h (fun I1 J1 h => ?_))
  refine Wp.eqs (pc' := 4) (st' := []) rfl rfl ?_
  refine Wp.steps 2 (pc' := 6) (lv' := [some (.ref 41), some (.int 0), none, none]) (st' := []) (I' := I1) (J' := J1) rfl ?_
  exact h
theorem v_Eg_solve_41_6 {d : Nat} {Q : Post} {I : I2} {J : J2} {x1 : Int32} (h : (x1 < (I 33 9) → vp_in x1 1024 ∧ (CI d Bx_isOpen [.ref 1, .int (I 36 (tN x1))] I J (fun v1 I1 J1 => (v1 = 0 → vp_in (I 36 (tN x1)) 1024 ∧ (((I1 44 (tN (I 36 (tN x1)))) = 0 → CV d Eg_settle [.ref 41, .int (I 36 (tN x1)), .int 2, .int 0] I1 J1 (fun I2 J2 => Wp d Eg_solve Q 6 [some (.ref 41), some (.int (x1 + 1)), none, none] [] I2 J2)) ∧ (¬ ((I1 44 (tN (I 36 (tN x1)))) = 0) → Wp d Eg_solve Q 6 [some (.ref 41), some (.int (x1 + 1)), none, none] [] I1 J1))) ∧ (¬ (v1 = 0) → CV d Eg_settle [.ref 41, .int (I 36 (tN x1)), .int 2, .int 0] I1 J1 (fun I2 J2 => Wp d Eg_solve Q 6 [some (.ref 41), some (.int (x1 + 1)), none, none] [] I2 J2))))) ∧ (¬ (x1 < (I 33 9)) → Wp d Eg_solve Q 62 [some (.ref 41), some (.int 0), none, none] [] I J)) : Wp d Eg_solve Q 6 [some (.ref 41), some (.int x1), none, none] [] I J := by
  refine Wp.steps 4 (pc' := 14) (lv' := [some (.ref 41), some (.int x1), none, none]) (st' := [.int (I 33 9), .int x1]) (I' := I) (J' := J) rfl ?_
  refine Wp.steps 1 (pc' := if x1 < (I 33 9) then 17 else 60) (lv' := [some (.ref 41), some (.int x1), none, none]) (st' := []) (I' := I) (J' := J) rfl (Wp.ite (fun h1 => ?_) (fun h1 => ?_))
  · replace h := h.1 h1
    refine Wp.steps 4 (pc' := 25) (lv' := [some (.ref 41), some (.int x1), none, none]) (st' := [.int x1, .ref 36]) (I' := I) (J' := J) rfl ?_
    refine Wp.iald rfl rfl h.1 ?_
    replace h := h.2
    refine Wp.steps 4 (pc' := 32) (lv' := [some (.ref 41), some (.int x1), some (.int (I 36 (tN x1))), none]) (st' := [.int (I 36 (tN x1)), .ref 1]) (I' := I) (J' := J) rfl ?_
    refine Wp.call (M' := Bx_isOpen) (as := [.ref 1, .int (I 36 (tN x1))]) (rest := []) rfl (CI.use h (fun v1 I1 J1 h => ?_))
    refine Wp.eqs (pc' := 35) (st' := [.int v1]) rfl rfl ?_
    refine Wp.steps 1 (pc' := if v1 = 0 then 38 else 47) (lv' := [some (.ref 41), some (.int x1), some (.int (I 36 (tN x1))), none]) (st' := []) (I' := I1) (J' := J1) rfl (Wp.ite (fun h2 => ?_) (fun h2 => ?_))
    · replace h := h.1 h2
      refine Wp.steps 3 (pc' := 43) (lv' := [some (.ref 41), some (.int x1), some (.int (I 36 (tN x1))), none]) (st' := [.int (I 36 (tN x1)), .ref 44]) (I' := I1) (J' := J1) rfl ?_
      refine Wp.iald rfl rfl h.1 ?_
      replace h := h.2
      refine Wp.steps 1 (pc' := if (I1 44 (tN (I 36 (tN x1)))) = 0 then 47 else 54) (lv' := [some (.ref 41), some (.int x1), some (.int (I 36 (tN x1))), none]) (st' := []) (I' := I1) (J' := J1) rfl (Wp.ite (fun h3 => ?_) (fun h3 => ?_))
      · replace h := h.1 h3
        refine Wp.steps 4 (pc' := 51) (lv' := [some (.ref 41), some (.int x1), some (.int (I 36 (tN x1))), none]) (st' := [.int 0, .int 2, .int (I 36 (tN x1)), .ref 41]) (I' := I1) (J' := J1) rfl ?_
        refine Wp.call (M' := Eg_settle) (as := [.ref 41, .int (I 36 (tN x1)), .int 2, .int 0]) (rest := []) rfl (CV.use h (fun I2 J2 h => ?_))
        refine Wp.eqs (pc' := 54) (st' := []) rfl rfl ?_
        refine Wp.steps 2 (pc' := 6) (lv' := [some (.ref 41), some (.int (x1 + 1)), some (.int (I 36 (tN x1))), none]) (st' := []) (I' := I2) (J' := J2) rfl ?_
        refine Wp.drop [2] (lv' := [some (.ref 41), some (.int (x1 + 1)), none, none]) rfl ?_
        exact h
      · replace h := h.2 h3
        refine Wp.steps 2 (pc' := 6) (lv' := [some (.ref 41), some (.int (x1 + 1)), some (.int (I 36 (tN x1))), none]) (st' := []) (I' := I1) (J' := J1) rfl ?_
        refine Wp.drop [2] (lv' := [some (.ref 41), some (.int (x1 + 1)), none, none]) rfl ?_
        exact h
    · replace h := h.2 h2
      refine Wp.steps 4 (pc' := 51) (lv' := [some (.ref 41), some (.int x1), some (.int (I 36 (tN x1))), none]) (st' := [.int 0, .int 2, .int (I 36 (tN x1)), .ref 41]) (I' := I1) (J' := J1) rfl ?_
      refine Wp.call (M' := Eg_settle) (as := [.ref 41, .int (I 36 (tN x1)), .int 2, .int 0]) (rest := []) rfl (CV.use h (fun I2 J2 h => ?_))
      refine Wp.eqs (pc' := 54) (st' := []) rfl rfl ?_
      refine Wp.steps 2 (pc' := 6) (lv' := [some (.ref 41), some (.int (x1 + 1)), some (.int (I 36 (tN x1))), none]) (st' := []) (I' := I2) (J' := J2) rfl ?_
      refine Wp.drop [2] (lv' := [some (.ref 41), some (.int (x1 + 1)), none, none]) rfl ?_
      exact h
  · replace h := h.2 h1
    refine Wp.steps 2 (pc' := 62) (lv' := [some (.ref 41), some (.int 0), none, none]) (st' := []) (I' := I) (J' := J) rfl ?_
    exact h
theorem v_Eg_solve_41_62 {d : Nat} {Q : Post} {I : I2} {J : J2} {x1 : Int32} (h : (x1 < (I 41 6) → (x1 < 1024 → vp_in x1 1024 ∧ (vp_in (I 45 (tN x1)) 1024 ∧ (Wp d Eg_solve Q 91 [some (.ref 41), some (.int x1), some (.int (I 42 (tN (I 45 (tN x1))))), some (.int 0)] [] I J))) ∧ (¬ (x1 < 1024) → Q none I J)) ∧ (¬ (x1 < (I 41 6)) → Q none I J)) : Wp d Eg_solve Q 62 [some (.ref 41), some (.int x1), none, none] [] I J := by
  refine Wp.steps 3 (pc' := 67) (lv' := [some (.ref 41), some (.int x1), none, none]) (st' := [.int (I 41 6), .int x1]) (I' := I) (J' := J) rfl ?_
  refine Wp.steps 1 (pc' := if x1 < (I 41 6) then 70 else 135) (lv' := [some (.ref 41), some (.int x1), none, none]) (st' := []) (I' := I) (J' := J) rfl (Wp.ite (fun h1 => ?_) (fun h1 => ?_))
  · replace h := h.1 h1
    refine Wp.steps 2 (pc' := 74) (lv' := [some (.ref 41), some (.int x1), none, none]) (st' := [.int 1024, .int x1]) (I' := I) (J' := J) rfl ?_
    refine Wp.steps 1 (pc' := if x1 < 1024 then 77 else 135) (lv' := [some (.ref 41), some (.int x1), none, none]) (st' := []) (I' := I) (J' := J) rfl (Wp.ite (fun h2 => ?_) (fun h2 => ?_))
    · replace h := h.1 h2
      refine Wp.steps 5 (pc' := 86) (lv' := [some (.ref 41), some (.int x1), none, none]) (st' := [.int x1, .ref 45, .ref 42]) (I' := I) (J' := J) rfl ?_
      refine Wp.iald rfl rfl h.1 ?_
      replace h := h.2
      refine Wp.iald rfl rfl h.1 ?_
      replace h := h.2
      refine Wp.steps 3 (pc' := 91) (lv' := [some (.ref 41), some (.int x1), some (.int (I 42 (tN (I 45 (tN x1))))), some (.int 0)]) (st' := []) (I' := I) (J' := J) rfl ?_
      exact h
    · replace h := h.2 h2
      exact Wp.ret rfl h
  · replace h := h.2 h1
    exact Wp.ret rfl h
theorem v_Eg_solve_41_91 {d : Nat} {Q : Post} {I : I2} {J : J2} {x1 : Int32} {x2 : Int32} {x3 : Int32} (h : (x3 < 10240 → (x2 < 0 → Wp d Eg_solve Q 62 [some (.ref 41), some (.int (x1 + 1)), none, none] [] I J) ∧ (¬ (x2 < 0) → vp_in x1 1024 ∧ (CV d Eg_learn [.ref 41, .int (x2 / 10), .int (I 45 (tN x1))] I J (fun I1 J1 => vp_in x2 10240 ∧ (Wp d Eg_solve Q 91 [some (.ref 41), some (.int x1), some (.int (I1 43 (tN x2))), some (.int (x3 + 1))] [] I1 J1))))) ∧ (¬ (x3 < 10240) → Wp d Eg_solve Q 62 [some (.ref 41), some (.int (x1 + 1)), none, none] [] I J)) : Wp d Eg_solve Q 91 [some (.ref 41), some (.int x1), some (.int x2), some (.int x3)] [] I J := by
  refine Wp.steps 2 (pc' := 95) (lv' := [some (.ref 41), some (.int x1), some (.int x2), some (.int x3)]) (st' := [.int 10240, .int x3]) (I' := I) (J' := J) rfl ?_
  refine Wp.steps 1 (pc' := if x3 < 10240 then 98 else 129) (lv' := [some (.ref 41), some (.int x1), some (.int x2), some (.int x3)]) (st' := []) (I' := I) (J' := J) rfl (Wp.ite (fun h1 => ?_) (fun h1 => ?_))
  · replace h := h.1 h1
    refine Wp.steps 1 (pc' := 99) (lv' := [some (.ref 41), some (.int x1), some (.int x2), some (.int x3)]) (st' := [.int x2]) (I' := I) (J' := J) rfl ?_
    refine Wp.steps 1 (pc' := if x2 < 0 then 129 else 102) (lv' := [some (.ref 41), some (.int x1), some (.int x2), some (.int x3)]) (st' := []) (I' := I) (J' := J) rfl (Wp.ite (fun h2 => ?_) (fun h2 => ?_))
    · replace h := h.1 h2
      refine Wp.steps 2 (pc' := 62) (lv' := [some (.ref 41), some (.int (x1 + 1)), some (.int x2), some (.int x3)]) (st' := []) (I' := I) (J' := J) rfl ?_
      refine Wp.drop [2, 3] (lv' := [some (.ref 41), some (.int (x1 + 1)), none, none]) rfl ?_
      exact h
    · replace h := h.2 h2
      refine Wp.steps 7 (pc' := 112) (lv' := [some (.ref 41), some (.int x1), some (.int x2), some (.int x3)]) (st' := [.int x1, .ref 45, .int (x2 / 10), .ref 41]) (I' := I) (J' := J) rfl ?_
      refine Wp.iald rfl rfl h.1 ?_
      replace h := h.2
      refine Wp.call (M' := Eg_learn) (as := [.ref 41, .int (x2 / 10), .int (I 45 (tN x1))]) (rest := []) rfl (CV.use h (fun I1 J1 h => ?_))
      refine Wp.eqs (pc' := 116) (st' := []) rfl rfl ?_
      refine Wp.steps 3 (pc' := 121) (lv' := [some (.ref 41), some (.int x1), some (.int x2), some (.int x3)]) (st' := [.int x2, .ref 43]) (I' := I1) (J' := J1) rfl ?_
      refine Wp.iald rfl rfl h.1 ?_
      replace h := h.2
      refine Wp.steps 3 (pc' := 91) (lv' := [some (.ref 41), some (.int x1), some (.int (I1 43 (tN x2))), some (.int (x3 + 1))]) (st' := []) (I' := I1) (J' := J1) rfl ?_
      exact h
  · replace h := h.2 h1
    refine Wp.steps 2 (pc' := 62) (lv' := [some (.ref 41), some (.int (x1 + 1)), some (.int x2), some (.int x3)]) (st' := []) (I' := I) (J' := J) rfl ?_
    refine Wp.drop [2, 3] (lv' := [some (.ref 41), some (.int (x1 + 1)), none, none]) rfl ?_
    exact h
theorem v_Eg_firstSlide_41_0 {d : Nat} {Q : Post} {I : I2} {J : J2} {x1 : Int32} (h : CI d Bx_isOpen [.ref 1, .int x1] I J (fun v1 I1 J1 => (v1 = 0 → Wp d Eg_firstSlide Q 16 [some (.ref 41), some (.int x1), some (.int 0), none] [] I1 J1) ∧ (¬ (v1 = 0) → Q (some (.int (-4))) I1 J1))) : Wp d Eg_firstSlide Q 0 [some (.ref 41), some (.int x1), none, none] [] I J := by
  refine Wp.steps 3 (pc' := 5) (lv' := [some (.ref 41), some (.int x1), none, none]) (st' := [.int x1, .ref 1]) (I' := I) (J' := J) rfl ?_
  refine Wp.call (M' := Bx_isOpen) (as := [.ref 1, .int x1]) (rest := []) rfl (CI.use h (fun v1 I1 J1 h => ?_))
  refine Wp.eqs (pc' := 8) (st' := [.int v1]) rfl rfl ?_
  refine Wp.steps 1 (pc' := if v1 = 0 then 14 else 11) (lv' := [some (.ref 41), some (.int x1), none, none]) (st' := []) (I' := I1) (J' := J1) rfl (Wp.ite (fun h1 => ?_) (fun h1 => ?_))
  · replace h := h.1 h1
    refine Wp.steps 2 (pc' := 16) (lv' := [some (.ref 41), some (.int x1), some (.int 0), none]) (st' := []) (I' := I1) (J' := J1) rfl ?_
    exact h
  · replace h := h.2 h1
    refine Wp.steps 1 (pc' := 13) (lv' := [some (.ref 41), some (.int x1), none, none]) (st' := [.int (-4)]) (I' := I1) (J' := J1) rfl ?_
    exact Wp.ret rfl h
theorem v_Eg_firstSlide_41_16 {d : Nat} {Q : Post} {I : I2} {J : J2} {x1 : Int32} {x2 : Int32} (h : (x2 < (I 33 8) → CI d Wk_next [.ref 33, .int x1, .int x2] I J (fun v1 I1 J1 => (v1 < 0 → Wp d Eg_firstSlide Q 16 [some (.ref 41), some (.int x1), some (.int (x2 + 1)), none] [] I1 J1) ∧ (¬ (v1 < 0) → CI d Eg_leadsTo [.ref 41, .int x1, .int v1] I1 J1 (fun v2 I2 J2 => (v2 = 0 → Wp d Eg_firstSlide Q 16 [some (.ref 41), some (.int x1), some (.int (x2 + 1)), none] [] I2 J2) ∧ (¬ (v2 = 0) → CI d Wk_slideOf [.int x2] I2 J2 (fun v3 I3 J3 => Q (some (.int v3)) I3 J3)))))) ∧ (¬ (x2 < (I 33 8)) → Q (some (.int (-4))) I J)) : Wp d Eg_firstSlide Q 16 [some (.ref 41), some (.int x1), some (.int x2), none] [] I J := by
  refine Wp.steps 4 (pc' := 24) (lv' := [some (.ref 41), some (.int x1), some (.int x2), none]) (st' := [.int (I 33 8), .int x2]) (I' := I) (J' := J) rfl ?_
  refine Wp.steps 1 (pc' := if x2 < (I 33 8) then 27 else 61) (lv' := [some (.ref 41), some (.int x1), some (.int x2), none]) (st' := []) (I' := I) (J' := J) rfl (Wp.ite (fun h1 => ?_) (fun h1 => ?_))
  · replace h := h.1 h1
    refine Wp.steps 4 (pc' := 33) (lv' := [some (.ref 41), some (.int x1), some (.int x2), none]) (st' := [.int x2, .int x1, .ref 33]) (I' := I) (J' := J) rfl ?_
    refine Wp.call (M' := Wk_next) (as := [.ref 33, .int x1, .int x2]) (rest := []) rfl (CI.use h (fun v1 I1 J1 h => ?_))
    refine Wp.eqs (pc' := 36) (st' := [.int v1]) rfl rfl ?_
    refine Wp.steps 2 (pc' := 38) (lv' := [some (.ref 41), some (.int x1), some (.int x2), some (.int v1)]) (st' := [.int v1]) (I' := I1) (J' := J1) rfl ?_
    refine Wp.steps 1 (pc' := if v1 < 0 then 55 else 41) (lv' := [some (.ref 41), some (.int x1), some (.int x2), some (.int v1)]) (st' := []) (I' := I1) (J' := J1) rfl (Wp.ite (fun h2 => ?_) (fun h2 => ?_))
    · replace h := h.1 h2
      refine Wp.steps 2 (pc' := 16) (lv' := [some (.ref 41), some (.int x1), some (.int (x2 + 1)), some (.int v1)]) (st' := []) (I' := I1) (J' := J1) rfl ?_
      refine Wp.drop [3] (lv' := [some (.ref 41), some (.int x1), some (.int (x2 + 1)), none]) rfl ?_
      exact h
    · replace h := h.2 h2
      refine Wp.steps 3 (pc' := 44) (lv' := [some (.ref 41), some (.int x1), some (.int x2), some (.int v1)]) (st' := [.int v1, .int x1, .ref 41]) (I' := I1) (J' := J1) rfl ?_
      refine Wp.call (M' := Eg_leadsTo) (as := [.ref 41, .int x1, .int v1]) (rest := []) rfl (CI.use h (fun v2 I2 J2 h => ?_))
      refine Wp.eqs (pc' := 47) (st' := [.int v2]) rfl rfl ?_
      refine Wp.steps 1 (pc' := if v2 = 0 then 55 else 50) (lv' := [some (.ref 41), some (.int x1), some (.int x2), some (.int v1)]) (st' := []) (I' := I2) (J' := J2) rfl (Wp.ite (fun h3 => ?_) (fun h3 => ?_))
      · replace h := h.1 h3
        refine Wp.steps 2 (pc' := 16) (lv' := [some (.ref 41), some (.int x1), some (.int (x2 + 1)), some (.int v1)]) (st' := []) (I' := I2) (J' := J2) rfl ?_
        refine Wp.drop [3] (lv' := [some (.ref 41), some (.int x1), some (.int (x2 + 1)), none]) rfl ?_
        exact h
      · replace h := h.2 h3
        refine Wp.steps 1 (pc' := 51) (lv' := [some (.ref 41), some (.int x1), some (.int x2), some (.int v1)]) (st' := [.int x2]) (I' := I2) (J' := J2) rfl ?_
        refine Wp.call (M' := Wk_slideOf) (as := [.int x2]) (rest := []) rfl (CI.use h (fun v3 I3 J3 h => ?_))
        refine Wp.eqs (pc' := 54) (st' := [.int v3]) rfl rfl ?_
        exact Wp.ret rfl h
  · replace h := h.2 h1
    refine Wp.steps 1 (pc' := 63) (lv' := [some (.ref 41), some (.int x1), some (.int x2), none]) (st' := [.int (-4)]) (I' := I) (J' := J) rfl ?_
    exact Wp.ret rfl h
theorem v_Eg_begin_41_0 {d : Nat} {Q : Post} {I : I2} {J : J2} (h : Wp d Eg_begin Q 2 [some (.ref 41), some (.int 0), none] [] I J) : Wp d Eg_begin Q 0 [some (.ref 41), none, none] [] I J := by
  refine Wp.steps 2 (pc' := 2) (lv' := [some (.ref 41), some (.int 0), none]) (st' := []) (I' := I) (J' := J) rfl ?_
  exact h
theorem v_Eg_begin_41_2 {d : Nat} {Q : Post} {I : I2} {J : J2} {x1 : Int32} (h : (x1 < (I 33 9) → vp_in x1 1024 ∧ (vp_in (I 36 (tN x1)) 1024 ∧ (vp_in (I 36 (tN x1)) 1024 ∧ (vp_in (I 36 (tN x1)) 1024 ∧ (vp_in (I 36 (tN x1)) 1024 ∧ (Wp d Eg_begin Q 2 [some (.ref 41), some (.int (x1 + 1)), none] [] (up2 (up2 (up2 (up2 I 42 (tN (I 36 (tN x1))) (-1)) 44 (tN (I 36 (tN x1))) 0) 46 (tN (I 36 (tN x1))) 0) 47 (tN (I 36 (tN x1))) 0) J)))))) ∧ (¬ (x1 < (I 33 9)) → Wp d Eg_begin Q 59 [some (.ref 41), some (.int 0), none] [] I J)) : Wp d Eg_begin Q 2 [some (.ref 41), some (.int x1), none] [] I J := by
  refine Wp.steps 4 (pc' := 10) (lv' := [some (.ref 41), some (.int x1), none]) (st' := [.int (I 33 9), .int x1]) (I' := I) (J' := J) rfl ?_
  refine Wp.steps 1 (pc' := if x1 < (I 33 9) then 13 else 57) (lv' := [some (.ref 41), some (.int x1), none]) (st' := []) (I' := I) (J' := J) rfl (Wp.ite (fun h1 => ?_) (fun h1 => ?_))
  · replace h := h.1 h1
    refine Wp.steps 4 (pc' := 21) (lv' := [some (.ref 41), some (.int x1), none]) (st' := [.int x1, .ref 36]) (I' := I) (J' := J) rfl ?_
    refine Wp.iald rfl rfl h.1 ?_
    replace h := h.2
    refine Wp.steps 5 (pc' := 29) (lv' := [some (.ref 41), some (.int x1), some (.int (I 36 (tN x1)))]) (st' := [.int (-1), .int (I 36 (tN x1)), .ref 42]) (I' := I) (J' := J) rfl ?_
    refine Wp.iast rfl rfl h.1 ?_
    replace h := h.2
    refine Wp.steps 4 (pc' := 36) (lv' := [some (.ref 41), some (.int x1), some (.int (I 36 (tN x1)))]) (st' := [.int 0, .int (I 36 (tN x1)), .ref 44]) (I' := (up2 I 42 (tN (I 36 (tN x1))) (-1))) (J' := J) rfl ?_
    refine Wp.iast rfl rfl h.1 ?_
    replace h := h.2
    refine Wp.steps 4 (pc' := 43) (lv' := [some (.ref 41), some (.int x1), some (.int (I 36 (tN x1)))]) (st' := [.int 0, .int (I 36 (tN x1)), .ref 46]) (I' := (up2 (up2 I 42 (tN (I 36 (tN x1))) (-1)) 44 (tN (I 36 (tN x1))) 0)) (J' := J) rfl ?_
    refine Wp.iast rfl rfl h.1 ?_
    replace h := h.2
    refine Wp.steps 4 (pc' := 50) (lv' := [some (.ref 41), some (.int x1), some (.int (I 36 (tN x1)))]) (st' := [.int 0, .int (I 36 (tN x1)), .ref 47]) (I' := (up2 (up2 (up2 I 42 (tN (I 36 (tN x1))) (-1)) 44 (tN (I 36 (tN x1))) 0) 46 (tN (I 36 (tN x1))) 0)) (J' := J) rfl ?_
    refine Wp.iast rfl rfl h.1 ?_
    replace h := h.2
    refine Wp.steps 2 (pc' := 2) (lv' := [some (.ref 41), some (.int (x1 + 1)), some (.int (I 36 (tN x1)))]) (st' := []) (I' := (up2 (up2 (up2 (up2 I 42 (tN (I 36 (tN x1))) (-1)) 44 (tN (I 36 (tN x1))) 0) 46 (tN (I 36 (tN x1))) 0) 47 (tN (I 36 (tN x1))) 0)) (J' := J) rfl ?_
    refine Wp.drop [2] (lv' := [some (.ref 41), some (.int (x1 + 1)), none]) rfl ?_
    exact h
  · replace h := h.2 h1
    refine Wp.steps 2 (pc' := 59) (lv' := [some (.ref 41), some (.int 0), none]) (st' := []) (I' := I) (J' := J) rfl ?_
    exact h
theorem v_Eg_begin_41_59 {d : Nat} {Q : Post} {I : I2} {J : J2} {x1 : Int32} (h : (x1 < (I 33 9) → vp_in x1 1024 ∧ (CV d Eg_chain [.ref 41, .int (I 36 (tN x1))] I J (fun I1 J1 => Wp d Eg_begin Q 59 [some (.ref 41), some (.int (x1 + 1)), none] [] I1 J1))) ∧ (¬ (x1 < (I 33 9)) → Q none (up2 I 41 6 0) J)) : Wp d Eg_begin Q 59 [some (.ref 41), some (.int x1), none] [] I J := by
  refine Wp.steps 4 (pc' := 67) (lv' := [some (.ref 41), some (.int x1), none]) (st' := [.int (I 33 9), .int x1]) (I' := I) (J' := J) rfl ?_
  refine Wp.steps 1 (pc' := if x1 < (I 33 9) then 70 else 89) (lv' := [some (.ref 41), some (.int x1), none]) (st' := []) (I' := I) (J' := J) rfl (Wp.ite (fun h1 => ?_) (fun h1 => ?_))
  · replace h := h.1 h1
    refine Wp.steps 5 (pc' := 79) (lv' := [some (.ref 41), some (.int x1), none]) (st' := [.int x1, .ref 36, .ref 41]) (I' := I) (J' := J) rfl ?_
    refine Wp.iald rfl rfl h.1 ?_
    replace h := h.2
    refine Wp.call (M' := Eg_chain) (as := [.ref 41, .int (I 36 (tN x1))]) (rest := []) rfl (CV.use h (fun I1 J1 h => ?_))
    refine Wp.eqs (pc' := 83) (st' := []) rfl rfl ?_
    refine Wp.steps 2 (pc' := 59) (lv' := [some (.ref 41), some (.int (x1 + 1)), none]) (st' := []) (I' := I1) (J' := J1) rfl ?_
    exact h
  · replace h := h.2 h1
    refine Wp.steps 3 (pc' := 94) (lv' := [some (.ref 41), some (.int x1), none]) (st' := []) (I' := (up2 I 41 6 0)) (J' := J) rfl ?_
    exact Wp.ret rfl h
theorem v_Eg_settle_41_0 {d : Nat} {Q : Post} {I : I2} {J : J2} {x1 : Int32} {x2 : Int32} {x3 : Int32} (h : ((I 41 6) < 1024 → vp_in x1 1024 ∧ (vp_in x1 1024 ∧ (vp_in (I 41 6) 1024 ∧ (Q none (up2 (up2 (up2 (up2 I 46 (tN x1) x2) 47 (tN x1) x3) 45 (tN (I 41 6)) x1) 41 6 ((I 41 6) + 1)) J)))) ∧ (¬ ((I 41 6) < 1024) → Q none I J)) : Wp d Eg_settle Q 0 [some (.ref 41), some (.int x1), some (.int x2), some (.int x3)] [] I J := by
  refine Wp.steps 3 (pc' := 7) (lv' := [some (.ref 41), some (.int x1), some (.int x2), some (.int x3)]) (st' := [.int 1024, .int (I 41 6)]) (I' := I) (J' := J) rfl ?_
  refine Wp.steps 1 (pc' := if (I 41 6) < 1024 then 11 else 10) (lv' := [some (.ref 41), some (.int x1), some (.int x2), some (.int x3)]) (st' := []) (I' := I) (J' := J) rfl (Wp.ite (fun h1 => ?_) (fun h1 => ?_))
  · replace h := h.1 h1
    refine Wp.steps 4 (pc' := 17) (lv' := [some (.ref 41), some (.int x1), some (.int x2), some (.int x3)]) (st' := [.int x2, .int x1, .ref 46]) (I' := I) (J' := J) rfl ?_
    refine Wp.iast rfl rfl h.1 ?_
    replace h := h.2
    refine Wp.steps 4 (pc' := 24) (lv' := [some (.ref 41), some (.int x1), some (.int x2), some (.int x3)]) (st' := [.int x3, .int x1, .ref 47]) (I' := (up2 I 46 (tN x1) x2)) (J' := J) rfl ?_
    refine Wp.iast rfl rfl h.1 ?_
    replace h := h.2
    refine Wp.steps 5 (pc' := 34) (lv' := [some (.ref 41), some (.int x1), some (.int x2), some (.int x3)]) (st' := [.int x1, .int (I 41 6), .ref 45]) (I' := (up2 (up2 I 46 (tN x1) x2) 47 (tN x1) x3)) (J' := J) rfl ?_
    refine Wp.iast rfl rfl h.1 ?_
    replace h := h.2
    refine Wp.steps 6 (pc' := 45) (lv' := [some (.ref 41), some (.int x1), some (.int x2), some (.int x3)]) (st' := []) (I' := (up2 (up2 (up2 (up2 I 46 (tN x1) x2) 47 (tN x1) x3) 45 (tN (I 41 6)) x1) 41 6 ((I 41 6) + 1))) (J' := J) rfl ?_
    exact Wp.ret rfl h
  · replace h := h.2 h1
    exact Wp.ret rfl h
theorem v_Eg_learn_41_0 {d : Nat} {Q : Post} {I : I2} {J : J2} {x1 : Int32} {x2 : Int32} (h : vp_in x1 1024 ∧ (((I 46 (tN x1)) = 0 → vp_in x2 1024 ∧ (((I 46 (tN x2)) = 2 → vp_in x2 1024 ∧ (CV d Eg_settle [.ref 41, .int x1, .int 1, .int ((I 47 (tN x2)) + 1)] I J (fun I1 J1 => Q none I1 J1))) ∧ (¬ ((I 46 (tN x2)) = 2) → vp_in x1 1024 ∧ (vp_in x1 1024 ∧ (vp_in x1 1024 ∧ ((((up2 I 44 (tN x1) ((I 44 (tN x1)) - 1)) 44 (tN x1)) = 0 → vp_in x2 1024 ∧ (CV d Eg_settle [.ref 41, .int x1, .int 2, .int ((I 47 (tN x2)) + 1)] (up2 I 44 (tN x1) ((I 44 (tN x1)) - 1)) J (fun I1 J1 => Q none I1 J1))) ∧ (¬ (((up2 I 44 (tN x1) ((I 44 (tN x1)) - 1)) 44 (tN x1)) = 0) → Q none (up2 I 44 (tN x1) ((I 44 (tN x1)) - 1)) J))))))) ∧ (¬ ((I 46 (tN x1)) = 0) → Q none I J))) : Wp d Eg_learn Q 0 [some (.ref 41), some (.int x1), some (.int x2)] [] I J := by
  refine Wp.steps 3 (pc' := 5) (lv' := [some (.ref 41), some (.int x1), some (.int x2)]) (st' := [.int x1, .ref 46]) (I' := I) (J' := J) rfl ?_
  refine Wp.iald rfl rfl h.1 ?_
  replace h := h.2
  refine Wp.steps 1 (pc' := if (I 46 (tN x1)) = 0 then 10 else 9) (lv' := [some (.ref 41), some (.int x1), some (.int x2)]) (st' := []) (I' := I) (J' := J) rfl (Wp.ite (fun h1 => ?_) (fun h1 => ?_))
  · replace h := h.1 h1
    refine Wp.steps 3 (pc' := 15) (lv' := [some (.ref 41), some (.int x1), some (.int x2)]) (st' := [.int x2, .ref 46]) (I' := I) (J' := J) rfl ?_
    refine Wp.iald rfl rfl h.1 ?_
    replace h := h.2
    refine Wp.steps 1 (pc' := 17) (lv' := [some (.ref 41), some (.int x1), some (.int x2)]) (st' := [.int 2, .int (I 46 (tN x2))]) (I' := I) (J' := J) rfl ?_
    refine Wp.steps 1 (pc' := if (I 46 (tN x2)) = 2 then 20 else 35) (lv' := [some (.ref 41), some (.int x1), some (.int x2)]) (st' := []) (I' := I) (J' := J) rfl (Wp.ite (fun h2 => ?_) (fun h2 => ?_))
    · replace h := h.1 h2
      refine Wp.steps 6 (pc' := 28) (lv' := [some (.ref 41), some (.int x1), some (.int x2)]) (st' := [.int x2, .ref 47, .int 1, .int x1, .ref 41]) (I' := I) (J' := J) rfl ?_
      refine Wp.iald rfl rfl h.1 ?_
      replace h := h.2
      refine Wp.steps 2 (pc' := 31) (lv' := [some (.ref 41), some (.int x1), some (.int x2)]) (st' := [.int ((I 47 (tN x2)) + 1), .int 1, .int x1, .ref 41]) (I' := I) (J' := J) rfl ?_
      refine Wp.call (M' := Eg_settle) (as := [.ref 41, .int x1, .int 1, .int ((I 47 (tN x2)) + 1)]) (rest := []) rfl (CV.use h (fun I1 J1 h => ?_))
      refine Wp.eqs (pc' := 34) (st' := []) rfl rfl ?_
      exact Wp.ret rfl h
    · replace h := h.2 h2
      refine Wp.steps 4 (pc' := 41) (lv' := [some (.ref 41), some (.int x1), some (.int x2)]) (st' := [.int x1, .ref 44, .int x1, .ref 44]) (I' := I) (J' := J) rfl ?_
      refine Wp.iald rfl rfl h.1 ?_
      replace h := h.2
      refine Wp.steps 2 (pc' := 44) (lv' := [some (.ref 41), some (.int x1), some (.int x2)]) (st' := [.int ((I 44 (tN x1)) - 1), .int x1, .ref 44]) (I' := I) (J' := J) rfl ?_
      refine Wp.iast rfl rfl h.1 ?_
      replace h := h.2
      refine Wp.steps 3 (pc' := 50) (lv' := [some (.ref 41), some (.int x1), some (.int x2)]) (st' := [.int x1, .ref 44]) (I' := (up2 I 44 (tN x1) ((I 44 (tN x1)) - 1))) (J' := J) rfl ?_
      refine Wp.iald rfl rfl h.1 ?_
      replace h := h.2
      refine Wp.steps 1 (pc' := if ((up2 I 44 (tN x1) ((I 44 (tN x1)) - 1)) 44 (tN x1)) = 0 then 54 else 68) (lv' := [some (.ref 41), some (.int x1), some (.int x2)]) (st' := []) (I' := (up2 I 44 (tN x1) ((I 44 (tN x1)) - 1))) (J' := J) rfl (Wp.ite (fun h3 => ?_) (fun h3 => ?_))
      · replace h := h.1 h3
        refine Wp.steps 6 (pc' := 62) (lv' := [some (.ref 41), some (.int x1), some (.int x2)]) (st' := [.int x2, .ref 47, .int 2, .int x1, .ref 41]) (I' := (up2 I 44 (tN x1) ((I 44 (tN x1)) - 1))) (J' := J) rfl ?_
        refine Wp.iald rfl rfl h.1 ?_
        replace h := h.2
        refine Wp.steps 2 (pc' := 65) (lv' := [some (.ref 41), some (.int x1), some (.int x2)]) (st' := [.int ((I 47 (tN x2)) + 1), .int 2, .int x1, .ref 41]) (I' := (up2 I 44 (tN x1) ((I 44 (tN x1)) - 1))) (J' := J) rfl ?_
        refine Wp.call (M' := Eg_settle) (as := [.ref 41, .int x1, .int 2, .int ((I 47 (tN x2)) + 1)]) (rest := []) rfl (CV.use h (fun I1 J1 h => ?_))
        refine Wp.eqs (pc' := 68) (st' := []) rfl rfl ?_
        exact Wp.ret rfl h
      · replace h := h.2 h3
        exact Wp.ret rfl h
  · replace h := h.2 h1
    exact Wp.ret rfl h
theorem v_Eg_leadsTo_41_0 {d : Nat} {Q : Post} {I : I2} {J : J2} {x1 : Int32} {x2 : Int32} (h : vp_in x1 1024 ∧ (((I 46 (tN x1)) = 0 → vp_in x2 1024 ∧ (((I 46 (tN x2)) = 0 → Q (some (.int 1)) I J) ∧ (¬ ((I 46 (tN x2)) = 0) → Q (some (.int 0)) I J))) ∧ (¬ ((I 46 (tN x1)) = 0) → vp_in x2 1024 ∧ (((I 46 (tN x2)) = 0 → Q (some (.int 0)) I J) ∧ (¬ ((I 46 (tN x2)) = 0) → vp_in x2 1024 ∧ (vp_in x1 1024 ∧ (((I 46 (tN x2)) = (I 46 (tN x1)) → Q (some (.int 0)) I J) ∧ (¬ ((I 46 (tN x2)) = (I 46 (tN x1))) → vp_in x2 1024 ∧ (vp_in x1 1024 ∧ ((((I 47 (tN x2)) + 1) = (I 47 (tN x1)) → Q (some (.int 1)) I J) ∧ (¬ (((I 47 (tN x2)) + 1) = (I 47 (tN x1))) → Q (some (.int 0)) I J))))))))))) : Wp d Eg_leadsTo Q 0 [some (.ref 41), some (.int x1), some (.int x2)] [] I J := by
  refine Wp.steps 3 (pc' := 5) (lv' := [some (.ref 41), some (.int x1), some (.int x2)]) (st' := [.int x1, .ref 46]) (I' := I) (J' := J) rfl ?_
  refine Wp.iald rfl rfl h.1 ?_
  replace h := h.2
  refine Wp.steps 1 (pc' := if (I 46 (tN x1)) = 0 then 9 else 24) (lv' := [some (.ref 41), some (.int x1), some (.int x2)]) (st' := []) (I' := I) (J' := J) rfl (Wp.ite (fun h1 => ?_) (fun h1 => ?_))
  · replace h := h.1 h1
    refine Wp.steps 3 (pc' := 14) (lv' := [some (.ref 41), some (.int x1), some (.int x2)]) (st' := [.int x2, .ref 46]) (I' := I) (J' := J) rfl ?_
    refine Wp.iald rfl rfl h.1 ?_
    replace h := h.2
    refine Wp.steps 1 (pc' := if (I 46 (tN x2)) = 0 then 18 else 22) (lv' := [some (.ref 41), some (.int x1), some (.int x2)]) (st' := []) (I' := I) (J' := J) rfl (Wp.ite (fun h2 => ?_) (fun h2 => ?_))
    · replace h := h.1 h2
      refine Wp.steps 2 (pc' := 23) (lv' := [some (.ref 41), some (.int x1), some (.int x2)]) (st' := [.int 1]) (I' := I) (J' := J) rfl ?_
      exact Wp.ret rfl h
    · replace h := h.2 h2
      refine Wp.steps 1 (pc' := 23) (lv' := [some (.ref 41), some (.int x1), some (.int x2)]) (st' := [.int 0]) (I' := I) (J' := J) rfl ?_
      exact Wp.ret rfl h
  · replace h := h.2 h1
    refine Wp.steps 3 (pc' := 29) (lv' := [some (.ref 41), some (.int x1), some (.int x2)]) (st' := [.int x2, .ref 46]) (I' := I) (J' := J) rfl ?_
    refine Wp.iald rfl rfl h.1 ?_
    replace h := h.2
    refine Wp.steps 1 (pc' := if (I 46 (tN x2)) = 0 then 69 else 33) (lv' := [some (.ref 41), some (.int x1), some (.int x2)]) (st' := []) (I' := I) (J' := J) rfl (Wp.ite (fun h2 => ?_) (fun h2 => ?_))
    · replace h := h.1 h2
      refine Wp.steps 1 (pc' := 70) (lv' := [some (.ref 41), some (.int x1), some (.int x2)]) (st' := [.int 0]) (I' := I) (J' := J) rfl ?_
      exact Wp.ret rfl h
    · replace h := h.2 h2
      refine Wp.steps 3 (pc' := 38) (lv' := [some (.ref 41), some (.int x1), some (.int x2)]) (st' := [.int x2, .ref 46]) (I' := I) (J' := J) rfl ?_
      refine Wp.iald rfl rfl h.1 ?_
      replace h := h.2
      refine Wp.steps 3 (pc' := 44) (lv' := [some (.ref 41), some (.int x1), some (.int x2)]) (st' := [.int x1, .ref 46, .int (I 46 (tN x2))]) (I' := I) (J' := J) rfl ?_
      refine Wp.iald rfl rfl h.1 ?_
      replace h := h.2
      refine Wp.steps 1 (pc' := if (I 46 (tN x2)) = (I 46 (tN x1)) then 69 else 48) (lv' := [some (.ref 41), some (.int x1), some (.int x2)]) (st' := []) (I' := I) (J' := J) rfl (Wp.ite (fun h3 => ?_) (fun h3 => ?_))
      · replace h := h.1 h3
        refine Wp.steps 1 (pc' := 70) (lv' := [some (.ref 41), some (.int x1), some (.int x2)]) (st' := [.int 0]) (I' := I) (J' := J) rfl ?_
        exact Wp.ret rfl h
      · replace h := h.2 h3
        refine Wp.steps 3 (pc' := 53) (lv' := [some (.ref 41), some (.int x1), some (.int x2)]) (st' := [.int x2, .ref 47]) (I' := I) (J' := J) rfl ?_
        refine Wp.iald rfl rfl h.1 ?_
        replace h := h.2
        refine Wp.steps 5 (pc' := 61) (lv' := [some (.ref 41), some (.int x1), some (.int x2)]) (st' := [.int x1, .ref 47, .int ((I 47 (tN x2)) + 1)]) (I' := I) (J' := J) rfl ?_
        refine Wp.iald rfl rfl h.1 ?_
        replace h := h.2
        refine Wp.steps 1 (pc' := if ((I 47 (tN x2)) + 1) = (I 47 (tN x1)) then 65 else 69) (lv' := [some (.ref 41), some (.int x1), some (.int x2)]) (st' := []) (I' := I) (J' := J) rfl (Wp.ite (fun h4 => ?_) (fun h4 => ?_))
        · replace h := h.1 h4
          refine Wp.steps 2 (pc' := 70) (lv' := [some (.ref 41), some (.int x1), some (.int x2)]) (st' := [.int 1]) (I' := I) (J' := J) rfl ?_
          exact Wp.ret rfl h
        · replace h := h.2 h4
          refine Wp.steps 1 (pc' := 70) (lv' := [some (.ref 41), some (.int x1), some (.int x2)]) (st' := [.int 0]) (I' := I) (J' := J) rfl ?_
          exact Wp.ret rfl h
theorem v_Eg_chain_41_0 {d : Nat} {Q : Post} {I : I2} {J : J2} {x1 : Int32} (h : Wp d Eg_chain Q 2 [some (.ref 41), some (.int x1), some (.int 0), none, none] [] I J) : Wp d Eg_chain Q 0 [some (.ref 41), some (.int x1), none, none, none] [] I J := by
  refine Wp.steps 2 (pc' := 2) (lv' := [some (.ref 41), some (.int x1), some (.int 0), none, none]) (st' := []) (I' := I) (J' := J) rfl ?_
  exact h
theorem v_Eg_chain_41_2 {d : Nat} {Q : Post} {I : I2} {J : J2} {x1 : Int32} {x2 : Int32} (h : (x2 < (I 33 8) → CI d Wk_next [.ref 33, .int x1, .int x2] I J (fun v1 I1 J1 => (v1 < 0 → Wp d Eg_chain Q 2 [some (.ref 41), some (.int x1), some (.int (x2 + 1)), none, none] [] I1 J1) ∧ (¬ (v1 < 0) → vp_in x1 1024 ∧ (vp_in x1 1024 ∧ (vp_in v1 1024 ∧ (vp_in ((10 * x1) + x2) 10240 ∧ (vp_in v1 1024 ∧ (Wp d Eg_chain Q 2 [some (.ref 41), some (.int x1), some (.int (x2 + 1)), none, none] [] (up2 (up2 (up2 I1 44 (tN x1) ((I1 44 (tN x1)) + 1)) 43 (tN ((10 * x1) + x2)) (I1 42 (tN v1))) 42 (tN v1) ((10 * x1) + x2)) J1)))))))) ∧ (¬ (x2 < (I 33 8)) → Q none I J)) : Wp d Eg_chain Q 2 [some (.ref 41), some (.int x1), some (.int x2), none, none] [] I J := by
  refine Wp.steps 4 (pc' := 10) (lv' := [some (.ref 41), some (.int x1), some (.int x2), none, none]) (st' := [.int (I 33 8), .int x2]) (I' := I) (J' := J) rfl ?_
  refine Wp.steps 1 (pc' := if x2 < (I 33 8) then 13 else 75) (lv' := [some (.ref 41), some (.int x1), some (.int x2), none, none]) (st' := []) (I' := I) (J' := J) rfl (Wp.ite (fun h1 => ?_) (fun h1 => ?_))
  · replace h := h.1 h1
    refine Wp.steps 4 (pc' := 19) (lv' := [some (.ref 41), some (.int x1), some (.int x2), none, none]) (st' := [.int x2, .int x1, .ref 33]) (I' := I) (J' := J) rfl ?_
    refine Wp.call (M' := Wk_next) (as := [.ref 33, .int x1, .int x2]) (rest := []) rfl (CI.use h (fun v1 I1 J1 h => ?_))
    refine Wp.eqs (pc' := 22) (st' := [.int v1]) rfl rfl ?_
    refine Wp.steps 2 (pc' := 24) (lv' := [some (.ref 41), some (.int x1), some (.int x2), some (.int v1), none]) (st' := [.int v1]) (I' := I1) (J' := J1) rfl ?_
    refine Wp.steps 1 (pc' := if v1 < 0 then 27 else 30) (lv' := [some (.ref 41), some (.int x1), some (.int x2), some (.int v1), none]) (st' := []) (I' := I1) (J' := J1) rfl (Wp.ite (fun h2 => ?_) (fun h2 => ?_))
    · replace h := h.1 h2
      refine Wp.steps 3 (pc' := 2) (lv' := [some (.ref 41), some (.int x1), some (.int (x2 + 1)), some (.int v1), none]) (st' := []) (I' := I1) (J' := J1) rfl ?_
      refine Wp.drop [3] (lv' := [some (.ref 41), some (.int x1), some (.int (x2 + 1)), none, none]) rfl ?_
      exact h
    · replace h := h.2 h2
      refine Wp.steps 4 (pc' := 36) (lv' := [some (.ref 41), some (.int x1), some (.int x2), some (.int v1), none]) (st' := [.int x1, .ref 44, .int x1, .ref 44]) (I' := I1) (J' := J1) rfl ?_
      refine Wp.iald rfl rfl h.1 ?_
      replace h := h.2
      refine Wp.steps 2 (pc' := 39) (lv' := [some (.ref 41), some (.int x1), some (.int x2), some (.int v1), none]) (st' := [.int ((I1 44 (tN x1)) + 1), .int x1, .ref 44]) (I' := I1) (J' := J1) rfl ?_
      refine Wp.iast rfl rfl h.1 ?_
      replace h := h.2
      refine Wp.steps 12 (pc' := 59) (lv' := [some (.ref 41), some (.int x1), some (.int x2), some (.int v1), some (.int ((10 * x1) + x2))]) (st' := [.int v1, .ref 42, .int ((10 * x1) + x2), .ref 43]) (I' := (up2 I1 44 (tN x1) ((I1 44 (tN x1)) + 1))) (J' := J1) rfl ?_
      refine Wp.iald rfl rfl h.1 ?_
      replace h := h.2
      refine Wp.iast rfl rfl h.1 ?_
      replace h := h.2
      refine Wp.steps 4 (pc' := 68) (lv' := [some (.ref 41), some (.int x1), some (.int x2), some (.int v1), some (.int ((10 * x1) + x2))]) (st' := [.int ((10 * x1) + x2), .int v1, .ref 42]) (I' := (up2 (up2 I1 44 (tN x1) ((I1 44 (tN x1)) + 1)) 43 (tN ((10 * x1) + x2)) (I1 42 (tN v1)))) (J' := J1) rfl ?_
      refine Wp.iast rfl rfl h.1 ?_
      replace h := h.2
      refine Wp.steps 2 (pc' := 2) (lv' := [some (.ref 41), some (.int x1), some (.int (x2 + 1)), some (.int v1), some (.int ((10 * x1) + x2))]) (st' := []) (I' := (up2 (up2 (up2 I1 44 (tN x1) ((I1 44 (tN x1)) + 1)) 43 (tN ((10 * x1) + x2)) (I1 42 (tN v1))) 42 (tN v1) ((10 * x1) + x2))) (J' := J1) rfl ?_
      refine Wp.drop [3, 4] (lv' := [some (.ref 41), some (.int x1), some (.int (x2 + 1)), none, none]) rfl ?_
      exact h
  · replace h := h.2 h1
    exact Wp.ret rfl h
