/-! what each way through a method asks (by program): Md_wayTo_57, Md_dead_57, Md_solves_57, Md_slideTo_57, Md_fumbles_57, Md_isSheet, Md_isLane, Md_why_57, Md_clicksSo_57, Md_kindsBy_57, Md_may_57, Md_must_57, Md_digit_57 -/
theorem v_Md_wayTo_57_0 {d : Nat} {Q : Post} {I : I2} {J : J2} {x1 : Int32} {x2 : Int32} (h : (x1 < 0 → Q (some (.int (-4))) I J) ∧ (¬ (x1 < 0) → (x2 < 0 → vp_in x1 1024 ∧ (Q (some (.int (I 64 (tN x1)))) I J)) ∧ (¬ (x2 < 0) → vp_in x1 1024 ∧ ((x2 < (I 64 (tN x1)) → Wp d Md_wayTo Q 33 [some (.ref 57), some (.int x1), some (.int x2), some (.int x1)] [] I J) ∧ (¬ (x2 < (I 64 (tN x1))) → Q (some (.int (-4))) I J))))) : Wp d Md_wayTo Q 0 [some (.ref 57), some (.int x1), some (.int x2), none] [] I J := by
  refine Wp.steps 1 (pc' := 1) (lv' := [some (.ref 57), some (.int x1), some (.int x2), none]) (st' := [.int x1]) (I' := I) (J' := J) rfl ?_
  refine Wp.steps 1 (pc' := if x1 < 0 then 4 else 7) (lv' := [some (.ref 57), some (.int x1), some (.int x2), none]) (st' := []) (I' := I) (J' := J) rfl (Wp.ite (fun h1 => ?_) (fun h1 => ?_))
  · replace h := h.1 h1
    refine Wp.steps 1 (pc' := 6) (lv' := [some (.ref 57), some (.int x1), some (.int x2), none]) (st' := [.int (-4)]) (I' := I) (J' := J) rfl ?_
    exact Wp.ret rfl h
  · replace h := h.2 h1
    refine Wp.steps 1 (pc' := 8) (lv' := [some (.ref 57), some (.int x1), some (.int x2), none]) (st' := [.int x2]) (I' := I) (J' := J) rfl ?_
    refine Wp.steps 1 (pc' := if x2 < 0 then 11 else 18) (lv' := [some (.ref 57), some (.int x1), some (.int x2), none]) (st' := []) (I' := I) (J' := J) rfl (Wp.ite (fun h2 => ?_) (fun h2 => ?_))
    · replace h := h.1 h2
      refine Wp.steps 3 (pc' := 16) (lv' := [some (.ref 57), some (.int x1), some (.int x2), none]) (st' := [.int x1, .ref 64]) (I' := I) (J' := J) rfl ?_
      refine Wp.iald rfl rfl h.1 ?_
      replace h := h.2
      exact Wp.ret rfl h
    · replace h := h.2 h2
      refine Wp.steps 4 (pc' := 24) (lv' := [some (.ref 57), some (.int x1), some (.int x2), none]) (st' := [.int x1, .ref 64, .int x2]) (I' := I) (J' := J) rfl ?_
      refine Wp.iald rfl rfl h.1 ?_
      replace h := h.2
      refine Wp.steps 1 (pc' := if x2 < (I 64 (tN x1)) then 31 else 28) (lv' := [some (.ref 57), some (.int x1), some (.int x2), none]) (st' := []) (I' := I) (J' := J) rfl (Wp.ite (fun h3 => ?_) (fun h3 => ?_))
      · replace h := h.1 h3
        refine Wp.steps 2 (pc' := 33) (lv' := [some (.ref 57), some (.int x1), some (.int x2), some (.int x1)]) (st' := []) (I' := I) (J' := J) rfl ?_
        exact h
      · replace h := h.2 h3
        refine Wp.steps 1 (pc' := 30) (lv' := [some (.ref 57), some (.int x1), some (.int x2), none]) (st' := [.int (-4)]) (I' := I) (J' := J) rfl ?_
        exact Wp.ret rfl h
theorem v_Md_wayTo_57_33 {d : Nat} {Q : Post} {I : I2} {J : J2} {x1 : Int32} {x2 : Int32} {x3 : Int32} (h : vp_in x3 1024 ∧ (((x2 + 1) < (I 64 (tN x3)) → vp_in x3 1024 ∧ (Wp d Md_wayTo Q 33 [some (.ref 57), some (.int x1), some (.int x2), some (.int (I 65 (tN x3)))] [] I J)) ∧ (¬ ((x2 + 1) < (I 64 (tN x3))) → vp_in x3 1024 ∧ (vp_in x3 1024 ∧ (Q (some (.int ((10 * ((I 66 (tN x3)) / 2)) + (rmI (I 66 (tN x3)) 2)))) I J))))) : Wp d Md_wayTo Q 33 [some (.ref 57), some (.int x1), some (.int x2), some (.int x3)] [] I J := by
  refine Wp.steps 3 (pc' := 38) (lv' := [some (.ref 57), some (.int x1), some (.int x2), some (.int x3)]) (st' := [.int x3, .ref 64]) (I' := I) (J' := J) rfl ?_
  refine Wp.iald rfl rfl h.1 ?_
  replace h := h.2
  refine Wp.steps 3 (pc' := 42) (lv' := [some (.ref 57), some (.int x1), some (.int x2), some (.int x3)]) (st' := [.int (x2 + 1), .int (I 64 (tN x3))]) (I' := I) (J' := J) rfl ?_
  refine Wp.steps 1 (pc' := if (x2 + 1) < (I 64 (tN x3)) then 45 else 55) (lv' := [some (.ref 57), some (.int x1), some (.int x2), some (.int x3)]) (st' := []) (I' := I) (J' := J) rfl (Wp.ite (fun h1 => ?_) (fun h1 => ?_))
  · replace h := h.1 h1
    refine Wp.steps 3 (pc' := 50) (lv' := [some (.ref 57), some (.int x1), some (.int x2), some (.int x3)]) (st' := [.int x3, .ref 65]) (I' := I) (J' := J) rfl ?_
    refine Wp.iald rfl rfl h.1 ?_
    replace h := h.2
    refine Wp.steps 2 (pc' := 33) (lv' := [some (.ref 57), some (.int x1), some (.int x2), some (.int (I 65 (tN x3)))]) (st' := []) (I' := I) (J' := J) rfl ?_
    exact h
  · replace h := h.2 h1
    refine Wp.steps 4 (pc' := 62) (lv' := [some (.ref 57), some (.int x1), some (.int x2), some (.int x3)]) (st' := [.int x3, .ref 66, .int 10]) (I' := I) (J' := J) rfl ?_
    refine Wp.iald rfl rfl h.1 ?_
    replace h := h.2
    refine Wp.steps 6 (pc' := 71) (lv' := [some (.ref 57), some (.int x1), some (.int x2), some (.int x3)]) (st' := [.int x3, .ref 66, .int (10 * ((I 66 (tN x3)) / 2))]) (I' := I) (J' := J) rfl ?_
    refine Wp.iald rfl rfl h.1 ?_
    replace h := h.2
    refine Wp.steps 3 (pc' := 75) (lv' := [some (.ref 57), some (.int x1), some (.int x2), some (.int x3)]) (st' := [.int ((10 * ((I 66 (tN x3)) / 2)) + (rmI (I 66 (tN x3)) 2))]) (I' := I) (J' := J) rfl ?_
    exact Wp.ret rfl h
theorem v_Md_dead_57_0 {d : Nat} {Q : Post} {I : I2} {J : J2} (h : Wp d Md_dead Q 2 [some (.ref 57), some (.int 0), none, none] [] I J) : Wp d Md_dead Q 0 [some (.ref 57), none, none, none] [] I J := by
  refine Wp.steps 2 (pc' := 2) (lv' := [some (.ref 57), some (.int 0), none, none]) (st' := []) (I' := I) (J' := J) rfl ?_
  exact h
theorem v_Md_dead_57_2 {d : Nat} {Q : Post} {I : I2} {J : J2} {x1 : Int32} (h : (x1 < (I 57 11) → vp_in x1 1024 ∧ (vp_in x1 1024 ∧ (CI d Md_isOpen [.ref 57, .int (I 63 (tN x1))] I J (fun v1 I1 J1 => (v1 = 0 → vp_in (I 63 (tN x1)) 1024 ∧ (Wp d Md_dead Q 2 [some (.ref 57), some (.int (x1 + 1)), none, none] [] (up2 I1 69 (tN (I 63 (tN x1))) 0) J1)) ∧ (¬ (v1 = 0) → vp_in (I 63 (tN x1)) 1024 ∧ (Wp d Md_dead Q 2 [some (.ref 57), some (.int (x1 + 1)), none, none] [] (up2 I1 69 (tN (I 63 (tN x1))) 1) J1)))))) ∧ (¬ (x1 < (I 57 11)) → Wp d Md_dead Q 47 [some (.ref 57), some (.int 1), none, none] [] I J)) : Wp d Md_dead Q 2 [some (.ref 57), some (.int x1), none, none] [] I J := by
  refine Wp.steps 3 (pc' := 7) (lv' := [some (.ref 57), some (.int x1), none, none]) (st' := [.int (I 57 11), .int x1]) (I' := I) (J' := J) rfl ?_
  refine Wp.steps 1 (pc' := if x1 < (I 57 11) then 10 else 45) (lv' := [some (.ref 57), some (.int x1), none, none]) (st' := []) (I' := I) (J' := J) rfl (Wp.ite (fun h1 => ?_) (fun h1 => ?_))
  · replace h := h.1 h1
    refine Wp.steps 5 (pc' := 19) (lv' := [some (.ref 57), some (.int x1), none, none]) (st' := [.int x1, .ref 63, .ref 69]) (I' := I) (J' := J) rfl ?_
    refine Wp.iald rfl rfl h.1 ?_
    replace h := h.2
    refine Wp.steps 4 (pc' := 26) (lv' := [some (.ref 57), some (.int x1), none, none]) (st' := [.int x1, .ref 63, .ref 57, .int (I 63 (tN x1)), .ref 69]) (I' := I) (J' := J) rfl ?_
    refine Wp.iald rfl rfl h.1 ?_
    replace h := h.2
    refine Wp.call (M' := Md_isOpen) (as := [.ref 57, .int (I 63 (tN x1))]) (rest := [.int (I 63 (tN x1)), .ref 69]) rfl (CI.use h (fun v1 I1 J1 h => ?_))
    refine Wp.eqs (pc' := 30) (st' := [.int v1, .int (I 63 (tN x1)), .ref 69]) rfl rfl ?_
    refine Wp.steps 1 (pc' := if v1 = 0 then 37 else 33) (lv' := [some (.ref 57), some (.int x1), none, none]) (st' := [.int (I 63 (tN x1)), .ref 69]) (I' := I1) (J' := J1) rfl (Wp.ite (fun h2 => ?_) (fun h2 => ?_))
    · replace h := h.1 h2
      refine Wp.steps 1 (pc' := 38) (lv' := [some (.ref 57), some (.int x1), none, none]) (st' := [.int 0, .int (I 63 (tN x1)), .ref 69]) (I' := I1) (J' := J1) rfl ?_
      refine Wp.iast rfl rfl h.1 ?_
      replace h := h.2
      refine Wp.steps 2 (pc' := 2) (lv' := [some (.ref 57), some (.int (x1 + 1)), none, none]) (st' := []) (I' := (up2 I1 69 (tN (I 63 (tN x1))) 0)) (J' := J1) rfl ?_
      exact h
    · replace h := h.2 h2
      refine Wp.steps 2 (pc' := 38) (lv' := [some (.ref 57), some (.int x1), none, none]) (st' := [.int 1, .int (I 63 (tN x1)), .ref 69]) (I' := I1) (J' := J1) rfl ?_
      refine Wp.iast rfl rfl h.1 ?_
      replace h := h.2
      refine Wp.steps 2 (pc' := 2) (lv' := [some (.ref 57), some (.int (x1 + 1)), none, none]) (st' := []) (I' := (up2 I1 69 (tN (I 63 (tN x1))) 1)) (J' := J1) rfl ?_
      exact h
  · replace h := h.2 h1
    refine Wp.steps 2 (pc' := 47) (lv' := [some (.ref 57), some (.int 1), none, none]) (st' := []) (I' := I) (J' := J) rfl ?_
    exact h
theorem v_Md_dead_57_47 {d : Nat} {Q : Post} {I : I2} {J : J2} {x1 : Int32} (h : (x1 = 0 → Wp d Md_dead Q 117 [some (.ref 57), some (.int x1), some (.int 0), some (.int 0)] [] I J) ∧ (¬ (x1 = 0) → Wp d Md_dead Q 55 [some (.ref 57), some (.int 0), some (.int 0), none] [] I J)) : Wp d Md_dead Q 47 [some (.ref 57), some (.int x1), none, none] [] I J := by
  refine Wp.steps 1 (pc' := 48) (lv' := [some (.ref 57), some (.int x1), none, none]) (st' := [.int x1]) (I' := I) (J' := J) rfl ?_
  refine Wp.steps 1 (pc' := if x1 = 0 then 113 else 51) (lv' := [some (.ref 57), some (.int x1), none, none]) (st' := []) (I' := I) (J' := J) rfl (Wp.ite (fun h1 => ?_) (fun h1 => ?_))
  · replace h := h.1 h1
    refine Wp.steps 4 (pc' := 117) (lv' := [some (.ref 57), some (.int x1), some (.int 0), some (.int 0)]) (st' := []) (I' := I) (J' := J) rfl ?_
    exact h
  · replace h := h.2 h1
    refine Wp.steps 4 (pc' := 55) (lv' := [some (.ref 57), some (.int 0), some (.int 0), none]) (st' := []) (I' := I) (J' := J) rfl ?_
    exact h
theorem v_Md_dead_57_55 {d : Nat} {Q : Post} {I : I2} {J : J2} {x1 : Int32} {x2 : Int32} (h : (x2 < (I 57 11) → vp_in x2 1024 ∧ (vp_in (I 63 (tN x2)) 1024 ∧ (((I 69 (tN (I 63 (tN x2)))) = 0 → vp_in x2 1024 ∧ (CI d Md_leadsToKnown [.ref 57, .int (I 63 (tN x2))] I J (fun v1 I1 J1 => (v1 = 0 → Wp d Md_dead Q 55 [some (.ref 57), some (.int x1), some (.int (x2 + 1)), none] [] I1 J1) ∧ (¬ (v1 = 0) → vp_in x2 1024 ∧ (vp_in (I1 63 (tN x2)) 1024 ∧ (Wp d Md_dead Q 55 [some (.ref 57), some (.int 1), some (.int (x2 + 1)), none] [] (up2 I1 69 (tN (I1 63 (tN x2))) 1) J1)))))) ∧ (¬ ((I 69 (tN (I 63 (tN x2)))) = 0) → Wp d Md_dead Q 55 [some (.ref 57), some (.int x1), some (.int (x2 + 1)), none] [] I J)))) ∧ (¬ (x2 < (I 57 11)) → Wp d Md_dead Q 47 [some (.ref 57), some (.int x1), none, none] [] I J)) : Wp d Md_dead Q 55 [some (.ref 57), some (.int x1), some (.int x2), none] [] I J := by
  refine Wp.steps 3 (pc' := 60) (lv' := [some (.ref 57), some (.int x1), some (.int x2), none]) (st' := [.int (I 57 11), .int x2]) (I' := I) (J' := J) rfl ?_
  refine Wp.steps 1 (pc' := if x2 < (I 57 11) then 63 else 110) (lv' := [some (.ref 57), some (.int x1), some (.int x2), none]) (st' := []) (I' := I) (J' := J) rfl (Wp.ite (fun h1 => ?_) (fun h1 => ?_))
  · replace h := h.1 h1
    refine Wp.steps 5 (pc' := 72) (lv' := [some (.ref 57), some (.int x1), some (.int x2), none]) (st' := [.int x2, .ref 63, .ref 69]) (I' := I) (J' := J) rfl ?_
    refine Wp.iald rfl rfl h.1 ?_
    replace h := h.2
    refine Wp.iald rfl rfl h.1 ?_
    replace h := h.2
    refine Wp.steps 1 (pc' := if (I 69 (tN (I 63 (tN x2)))) = 0 then 77 else 104) (lv' := [some (.ref 57), some (.int x1), some (.int x2), none]) (st' := []) (I' := I) (J' := J) rfl (Wp.ite (fun h2 => ?_) (fun h2 => ?_))
    · replace h := h.1 h2
      refine Wp.steps 4 (pc' := 83) (lv' := [some (.ref 57), some (.int x1), some (.int x2), none]) (st' := [.int x2, .ref 63, .ref 57]) (I' := I) (J' := J) rfl ?_
      refine Wp.iald rfl rfl h.1 ?_
      replace h := h.2
      refine Wp.call (M' := Md_leadsToKnown) (as := [.ref 57, .int (I 63 (tN x2))]) (rest := []) rfl (CI.use h (fun v1 I1 J1 h => ?_))
      refine Wp.eqs (pc' := 87) (st' := [.int v1]) rfl rfl ?_
      refine Wp.steps 1 (pc' := if v1 = 0 then 104 else 90) (lv' := [some (.ref 57), some (.int x1), some (.int x2), none]) (st' := []) (I' := I1) (J' := J1) rfl (Wp.ite (fun h3 => ?_) (fun h3 => ?_))
      · replace h := h.1 h3
        refine Wp.steps 2 (pc' := 55) (lv' := [some (.ref 57), some (.int x1), some (.int (x2 + 1)), none]) (st' := []) (I' := I1) (J' := J1) rfl ?_
        exact h
      · replace h := h.2 h3
        refine Wp.steps 5 (pc' := 99) (lv' := [some (.ref 57), some (.int x1), some (.int x2), none]) (st' := [.int x2, .ref 63, .ref 69]) (I' := I1) (J' := J1) rfl ?_
        refine Wp.iald rfl rfl h.1 ?_
        replace h := h.2
        refine Wp.steps 1 (pc' := 101) (lv' := [some (.ref 57), some (.int x1), some (.int x2), none]) (st' := [.int 1, .int (I1 63 (tN x2)), .ref 69]) (I' := I1) (J' := J1) rfl ?_
        refine Wp.iast rfl rfl h.1 ?_
        replace h := h.2
        refine Wp.steps 4 (pc' := 55) (lv' := [some (.ref 57), some (.int 1), some (.int (x2 + 1)), none]) (st' := []) (I' := (up2 I1 69 (tN (I1 63 (tN x2))) 1)) (J' := J1) rfl ?_
        exact h
    · replace h := h.2 h2
      refine Wp.steps 2 (pc' := 55) (lv' := [some (.ref 57), some (.int x1), some (.int (x2 + 1)), none]) (st' := []) (I' := I) (J' := J) rfl ?_
      exact h
  · replace h := h.2 h1
    refine Wp.steps 1 (pc' := 47) (lv' := [some (.ref 57), some (.int x1), some (.int x2), none]) (st' := []) (I' := I) (J' := J) rfl ?_
    refine Wp.drop [2] (lv' := [some (.ref 57), some (.int x1), none, none]) rfl ?_
    exact h
theorem v_Md_dead_57_117 {d : Nat} {Q : Post} {I : I2} {J : J2} {x1 : Int32} {x2 : Int32} {x3 : Int32} (h : (x3 < (I 57 11) → vp_in x3 1024 ∧ (vp_in (I 63 (tN x3)) 1024 ∧ (Wp d Md_dead Q 117 [some (.ref 57), some (.int x1), some (.int (x2 + (1 - (I 69 (tN (I 63 (tN x3))))))), some (.int (x3 + 1))] [] I J))) ∧ (¬ (x3 < (I 57 11)) → Q (some (.int x2)) I J)) : Wp d Md_dead Q 117 [some (.ref 57), some (.int x1), some (.int x2), some (.int x3)] [] I J := by
  refine Wp.steps 3 (pc' := 122) (lv' := [some (.ref 57), some (.int x1), some (.int x2), some (.int x3)]) (st' := [.int (I 57 11), .int x3]) (I' := I) (J' := J) rfl ?_
  refine Wp.steps 1 (pc' := if x3 < (I 57 11) then 125 else 147) (lv' := [some (.ref 57), some (.int x1), some (.int x2), some (.int x3)]) (st' := []) (I' := I) (J' := J) rfl (Wp.ite (fun h1 => ?_) (fun h1 => ?_))
  · replace h := h.1 h1
    refine Wp.steps 7 (pc' := 136) (lv' := [some (.ref 57), some (.int x1), some (.int x2), some (.int x3)]) (st' := [.int x3, .ref 63, .ref 69, .int 1, .int x2]) (I' := I) (J' := J) rfl ?_
    refine Wp.iald rfl rfl h.1 ?_
    replace h := h.2
    refine Wp.iald rfl rfl h.1 ?_
    replace h := h.2
    refine Wp.steps 5 (pc' := 117) (lv' := [some (.ref 57), some (.int x1), some (.int (x2 + (1 - (I 69 (tN (I 63 (tN x3))))))), some (.int (x3 + 1))]) (st' := []) (I' := I) (J' := J) rfl ?_
    exact h
  · replace h := h.2 h1
    refine Wp.steps 1 (pc' := 148) (lv' := [some (.ref 57), some (.int x1), some (.int x2), some (.int x3)]) (st' := [.int x2]) (I' := I) (J' := J) rfl ?_
    exact Wp.ret rfl h
theorem v_Md_solves_57_0 {d : Nat} {Q : Post} {I : I2} {J : J2} (h : Wp d Md_solves Q 2 [some (.ref 57), some (.int 0), none, none, none] [] I J) : Wp d Md_solves Q 0 [some (.ref 57), none, none, none, none] [] I J := by
  refine Wp.steps 2 (pc' := 2) (lv' := [some (.ref 57), some (.int 0), none, none, none]) (st' := []) (I' := I) (J' := J) rfl ?_
  exact h
theorem v_Md_solves_57_2 {d : Nat} {Q : Post} {I : I2} {J : J2} {x1 : Int32} (h : (x1 < (I 57 11) → vp_in x1 1024 ∧ (CI d Md_isOpen [.ref 57, .int (I 63 (tN x1))] I J (fun v1 I1 J1 => (v1 = 0 → CI d Md_areAll [.ref 57, .int (I 63 (tN x1)), .int (-1)] I1 J1 (fun v2 I2 J2 => (v2 = 0 → vp_in (I 63 (tN x1)) 1024 ∧ (vp_in (I 63 (tN x1)) 1024 ∧ (Wp d Md_solves Q 2 [some (.ref 57), some (.int (x1 + 1)), none, none, none] [] (up2 (up2 I2 69 (tN (I 63 (tN x1))) 0) 70 (tN (I 63 (tN x1))) 0) J2))) ∧ (¬ (v2 = 0) → vp_in (I 63 (tN x1)) 1024 ∧ (vp_in (I 63 (tN x1)) 1024 ∧ (Wp d Md_solves Q 2 [some (.ref 57), some (.int (x1 + 1)), none, none, none] [] (up2 (up2 I2 69 (tN (I 63 (tN x1))) 2) 70 (tN (I 63 (tN x1))) 0) J2))))) ∧ (¬ (v1 = 0) → vp_in (I 63 (tN x1)) 1024 ∧ (vp_in (I 63 (tN x1)) 1024 ∧ (Wp d Md_solves Q 2 [some (.ref 57), some (.int (x1 + 1)), none, none, none] [] (up2 (up2 I1 69 (tN (I 63 (tN x1))) 2) 70 (tN (I 63 (tN x1))) 0) J1)))))) ∧ (¬ (x1 < (I 57 11)) → Wp d Md_solves Q 62 [some (.ref 57), some (.int 1), some (.int 1), none, none] [] I J)) : Wp d Md_solves Q 2 [some (.ref 57), some (.int x1), none, none, none] [] I J := by
  refine Wp.steps 3 (pc' := 7) (lv' := [some (.ref 57), some (.int x1), none, none, none]) (st' := [.int (I 57 11), .int x1]) (I' := I) (J' := J) rfl ?_
  refine Wp.steps 1 (pc' := if x1 < (I 57 11) then 10 else 58) (lv' := [some (.ref 57), some (.int x1), none, none, none]) (st' := []) (I' := I) (J' := J) rfl (Wp.ite (fun h1 => ?_) (fun h1 => ?_))
  · replace h := h.1 h1
    refine Wp.steps 3 (pc' := 15) (lv' := [some (.ref 57), some (.int x1), none, none, none]) (st' := [.int x1, .ref 63]) (I' := I) (J' := J) rfl ?_
    refine Wp.iald rfl rfl h.1 ?_
    replace h := h.2
    refine Wp.steps 6 (pc' := 24) (lv' := [some (.ref 57), some (.int x1), some (.int (I 63 (tN x1))), none, none]) (st' := [.int (I 63 (tN x1)), .ref 57, .int (I 63 (tN x1)), .ref 69]) (I' := I) (J' := J) rfl ?_
    refine Wp.call (M' := Md_isOpen) (as := [.ref 57, .int (I 63 (tN x1))]) (rest := [.int (I 63 (tN x1)), .ref 69]) rfl (CI.use h (fun v1 I1 J1 h => ?_))
    refine Wp.eqs (pc' := 27) (st' := [.int v1, .int (I 63 (tN x1)), .ref 69]) rfl rfl ?_
    refine Wp.steps 1 (pc' := if v1 = 0 then 30 else 39) (lv' := [some (.ref 57), some (.int x1), some (.int (I 63 (tN x1))), none, none]) (st' := [.int (I 63 (tN x1)), .ref 69]) (I' := I1) (J' := J1) rfl (Wp.ite (fun h2 => ?_) (fun h2 => ?_))
    · replace h := h.1 h2
      refine Wp.steps 3 (pc' := 33) (lv' := [some (.ref 57), some (.int x1), some (.int (I 63 (tN x1))), none, none]) (st' := [.int (-1), .int (I 63 (tN x1)), .ref 57, .int (I 63 (tN x1)), .ref 69]) (I' := I1) (J' := J1) rfl ?_
      refine Wp.call (M' := Md_areAll) (as := [.ref 57, .int (I 63 (tN x1)), .int (-1)]) (rest := [.int (I 63 (tN x1)), .ref 69]) rfl (CI.use h (fun v2 I2 J2 h => ?_))
      refine Wp.eqs (pc' := 36) (st' := [.int v2, .int (I 63 (tN x1)), .ref 69]) rfl rfl ?_
      refine Wp.steps 1 (pc' := if v2 = 0 then 43 else 39) (lv' := [some (.ref 57), some (.int x1), some (.int (I 63 (tN x1))), none, none]) (st' := [.int (I 63 (tN x1)), .ref 69]) (I' := I2) (J' := J2) rfl (Wp.ite (fun h3 => ?_) (fun h3 => ?_))
      · replace h := h.1 h3
        refine Wp.steps 1 (pc' := 44) (lv' := [some (.ref 57), some (.int x1), some (.int (I 63 (tN x1))), none, none]) (st' := [.int 0, .int (I 63 (tN x1)), .ref 69]) (I' := I2) (J' := J2) rfl ?_
        refine Wp.iast rfl rfl h.1 ?_
        replace h := h.2
        refine Wp.steps 4 (pc' := 51) (lv' := [some (.ref 57), some (.int x1), some (.int (I 63 (tN x1))), none, none]) (st' := [.int 0, .int (I 63 (tN x1)), .ref 70]) (I' := (up2 I2 69 (tN (I 63 (tN x1))) 0)) (J' := J2) rfl ?_
        refine Wp.iast rfl rfl h.1 ?_
        replace h := h.2
        refine Wp.steps 2 (pc' := 2) (lv' := [some (.ref 57), some (.int (x1 + 1)), some (.int (I 63 (tN x1))), none, none]) (st' := []) (I' := (up2 (up2 I2 69 (tN (I 63 (tN x1))) 0) 70 (tN (I 63 (tN x1))) 0)) (J' := J2) rfl ?_
        refine Wp.drop [2] (lv' := [some (.ref 57), some (.int (x1 + 1)), none, none, none]) rfl ?_
        exact h
      · replace h := h.2 h3
        refine Wp.steps 2 (pc' := 44) (lv' := [some (.ref 57), some (.int x1), some (.int (I 63 (tN x1))), none, none]) (st' := [.int 2, .int (I 63 (tN x1)), .ref 69]) (I' := I2) (J' := J2) rfl ?_
        refine Wp.iast rfl rfl h.1 ?_
        replace h := h.2
        refine Wp.steps 4 (pc' := 51) (lv' := [some (.ref 57), some (.int x1), some (.int (I 63 (tN x1))), none, none]) (st' := [.int 0, .int (I 63 (tN x1)), .ref 70]) (I' := (up2 I2 69 (tN (I 63 (tN x1))) 2)) (J' := J2) rfl ?_
        refine Wp.iast rfl rfl h.1 ?_
        replace h := h.2
        refine Wp.steps 2 (pc' := 2) (lv' := [some (.ref 57), some (.int (x1 + 1)), some (.int (I 63 (tN x1))), none, none]) (st' := []) (I' := (up2 (up2 I2 69 (tN (I 63 (tN x1))) 2) 70 (tN (I 63 (tN x1))) 0)) (J' := J2) rfl ?_
        refine Wp.drop [2] (lv' := [some (.ref 57), some (.int (x1 + 1)), none, none, none]) rfl ?_
        exact h
    · replace h := h.2 h2
      refine Wp.steps 2 (pc' := 44) (lv' := [some (.ref 57), some (.int x1), some (.int (I 63 (tN x1))), none, none]) (st' := [.int 2, .int (I 63 (tN x1)), .ref 69]) (I' := I1) (J' := J1) rfl ?_
      refine Wp.iast rfl rfl h.1 ?_
      replace h := h.2
      refine Wp.steps 4 (pc' := 51) (lv' := [some (.ref 57), some (.int x1), some (.int (I 63 (tN x1))), none, none]) (st' := [.int 0, .int (I 63 (tN x1)), .ref 70]) (I' := (up2 I1 69 (tN (I 63 (tN x1))) 2)) (J' := J1) rfl ?_
      refine Wp.iast rfl rfl h.1 ?_
      replace h := h.2
      refine Wp.steps 2 (pc' := 2) (lv' := [some (.ref 57), some (.int (x1 + 1)), some (.int (I 63 (tN x1))), none, none]) (st' := []) (I' := (up2 (up2 I1 69 (tN (I 63 (tN x1))) 2) 70 (tN (I 63 (tN x1))) 0)) (J' := J1) rfl ?_
      refine Wp.drop [2] (lv' := [some (.ref 57), some (.int (x1 + 1)), none, none, none]) rfl ?_
      exact h
  · replace h := h.2 h1
    refine Wp.steps 4 (pc' := 62) (lv' := [some (.ref 57), some (.int 1), some (.int 1), none, none]) (st' := []) (I' := I) (J' := J) rfl ?_
    exact h
theorem v_Md_solves_57_62 {d : Nat} {Q : Post} {I : I2} {J : J2} {x1 : Int32} {x2 : Int32} (h : (x1 = 0 → Q none I J) ∧ (¬ (x1 = 0) → Wp d Md_solves Q 70 [some (.ref 57), some (.int 0), some (.int x2), some (.int 0), none] [] I J)) : Wp d Md_solves Q 62 [some (.ref 57), some (.int x1), some (.int x2), none, none] [] I J := by
  refine Wp.steps 1 (pc' := 63) (lv' := [some (.ref 57), some (.int x1), some (.int x2), none, none]) (st' := [.int x1]) (I' := I) (J' := J) rfl ?_
  refine Wp.steps 1 (pc' := if x1 = 0 then 226 else 66) (lv' := [some (.ref 57), some (.int x1), some (.int x2), none, none]) (st' := []) (I' := I) (J' := J) rfl (Wp.ite (fun h1 => ?_) (fun h1 => ?_))
  · replace h := h.1 h1
    exact Wp.ret rfl h
  · replace h := h.2 h1
    refine Wp.steps 4 (pc' := 70) (lv' := [some (.ref 57), some (.int 0), some (.int x2), some (.int 0), none]) (st' := []) (I' := I) (J' := J) rfl ?_
    exact h
theorem v_Md_solves_57_70 {d : Nat} {Q : Post} {I : I2} {J : J2} {x1 : Int32} {x2 : Int32} {x3 : Int32} (h : (x3 < (I 57 11) → vp_in x3 1024 ∧ (vp_in (I 63 (tN x3)) 1024 ∧ (((I 69 (tN (I 63 (tN x3)))) = 0 → CI d Md_slideTo [.ref 57, .int (I 63 (tN x3)), .int 2, .int (x2 - 1)] I J (fun v1 I1 J1 => (v1 = (-4) → CI d Md_areAll [.ref 57, .int (I 63 (tN x3)), .int 1] I1 J1 (fun v2 I2 J2 => (v2 = 0 → vp_in (I 63 (tN x3)) 1024 ∧ (Wp d Md_solves Q 70 [some (.ref 57), some (.int x1), some (.int x2), some (.int (x3 + 1)), none] [] (up2 I2 70 (tN (I 63 (tN x3))) 0) J2)) ∧ (¬ (v2 = 0) → vp_in (I 63 (tN x3)) 1024 ∧ (Wp d Md_solves Q 70 [some (.ref 57), some (.int x1), some (.int x2), some (.int (x3 + 1)), none] [] (up2 I2 70 (tN (I 63 (tN x3))) (-x2)) J2)))) ∧ (¬ (v1 = (-4)) → vp_in (I 63 (tN x3)) 1024 ∧ (Wp d Md_solves Q 70 [some (.ref 57), some (.int x1), some (.int x2), some (.int (x3 + 1)), none] [] (up2 I1 70 (tN (I 63 (tN x3))) x2) J1)))) ∧ (¬ ((I 69 (tN (I 63 (tN x3)))) = 0) → Wp d Md_solves Q 70 [some (.ref 57), some (.int x1), some (.int x2), some (.int (x3 + 1)), none] [] I J)))) ∧ (¬ (x3 < (I 57 11)) → Wp d Md_solves Q 146 [some (.ref 57), some (.int x1), some (.int x2), some (.int 0), none] [] I J)) : Wp d Md_solves Q 70 [some (.ref 57), some (.int x1), some (.int x2), some (.int x3), none] [] I J := by
  refine Wp.steps 3 (pc' := 75) (lv' := [some (.ref 57), some (.int x1), some (.int x2), some (.int x3), none]) (st' := [.int (I 57 11), .int x3]) (I' := I) (J' := J) rfl ?_
  refine Wp.steps 1 (pc' := if x3 < (I 57 11) then 78 else 144) (lv' := [some (.ref 57), some (.int x1), some (.int x2), some (.int x3), none]) (st' := []) (I' := I) (J' := J) rfl (Wp.ite (fun h1 => ?_) (fun h1 => ?_))
  · replace h := h.1 h1
    refine Wp.steps 3 (pc' := 83) (lv' := [some (.ref 57), some (.int x1), some (.int x2), some (.int x3), none]) (st' := [.int x3, .ref 63]) (I' := I) (J' := J) rfl ?_
    refine Wp.iald rfl rfl h.1 ?_
    replace h := h.2
    refine Wp.steps 4 (pc' := 92) (lv' := [some (.ref 57), some (.int x1), some (.int x2), some (.int x3), some (.int (I 63 (tN x3)))]) (st' := [.int (I 63 (tN x3)), .ref 69]) (I' := I) (J' := J) rfl ?_
    refine Wp.iald rfl rfl h.1 ?_
    replace h := h.2
    refine Wp.steps 1 (pc' := if (I 69 (tN (I 63 (tN x3)))) = 0 then 96 else 138) (lv' := [some (.ref 57), some (.int x1), some (.int x2), some (.int x3), some (.int (I 63 (tN x3)))]) (st' := []) (I' := I) (J' := J) rfl (Wp.ite (fun h2 => ?_) (fun h2 => ?_))
    · replace h := h.1 h2
      refine Wp.steps 9 (pc' := 109) (lv' := [some (.ref 57), some (.int x1), some (.int x2), some (.int x3), some (.int (I 63 (tN x3)))]) (st' := [.int (x2 - 1), .int 2, .int (I 63 (tN x3)), .ref 57, .int (I 63 (tN x3)), .ref 70]) (I' := I) (J' := J) rfl ?_
      refine Wp.call (M' := Md_slideTo) (as := [.ref 57, .int (I 63 (tN x3)), .int 2, .int (x2 - 1)]) (rest := [.int (I 63 (tN x3)), .ref 70]) rfl (CI.use h (fun v1 I1 J1 h => ?_))
      refine Wp.eqs (pc' := 112) (st' := [.int v1, .int (I 63 (tN x3)), .ref 70]) rfl rfl ?_
      refine Wp.steps 1 (pc' := 114) (lv' := [some (.ref 57), some (.int x1), some (.int x2), some (.int x3), some (.int (I 63 (tN x3)))]) (st' := [.int (-4), .int v1, .int (I 63 (tN x3)), .ref 70]) (I' := I1) (J' := J1) rfl ?_
      refine Wp.steps 1 (pc' := if v1 = (-4) then 121 else 117) (lv' := [some (.ref 57), some (.int x1), some (.int x2), some (.int x3), some (.int (I 63 (tN x3)))]) (st' := [.int (I 63 (tN x3)), .ref 70]) (I' := I1) (J' := J1) rfl (Wp.ite (fun h3 => ?_) (fun h3 => ?_))
      · replace h := h.1 h3
        refine Wp.steps 3 (pc' := 125) (lv' := [some (.ref 57), some (.int x1), some (.int x2), some (.int x3), some (.int (I 63 (tN x3)))]) (st' := [.int 1, .int (I 63 (tN x3)), .ref 57, .int (I 63 (tN x3)), .ref 70]) (I' := I1) (J' := J1) rfl ?_
        refine Wp.call (M' := Md_areAll) (as := [.ref 57, .int (I 63 (tN x3)), .int 1]) (rest := [.int (I 63 (tN x3)), .ref 70]) rfl (CI.use h (fun v2 I2 J2 h => ?_))
        refine Wp.eqs (pc' := 128) (st' := [.int v2, .int (I 63 (tN x3)), .ref 70]) rfl rfl ?_
        refine Wp.steps 1 (pc' := if v2 = 0 then 136 else 131) (lv' := [some (.ref 57), some (.int x1), some (.int x2), some (.int x3), some (.int (I 63 (tN x3)))]) (st' := [.int (I 63 (tN x3)), .ref 70]) (I' := I2) (J' := J2) rfl (Wp.ite (fun h4 => ?_) (fun h4 => ?_))
        · replace h := h.1 h4
          refine Wp.steps 1 (pc' := 137) (lv' := [some (.ref 57), some (.int x1), some (.int x2), some (.int x3), some (.int (I 63 (tN x3)))]) (st' := [.int 0, .int (I 63 (tN x3)), .ref 70]) (I' := I2) (J' := J2) rfl ?_
          refine Wp.iast rfl rfl h.1 ?_
          replace h := h.2
          refine Wp.steps 2 (pc' := 70) (lv' := [some (.ref 57), some (.int x1), some (.int x2), some (.int (x3 + 1)), some (.int (I 63 (tN x3)))]) (st' := []) (I' := (up2 I2 70 (tN (I 63 (tN x3))) 0)) (J' := J2) rfl ?_
          refine Wp.drop [4] (lv' := [some (.ref 57), some (.int x1), some (.int x2), some (.int (x3 + 1)), none]) rfl ?_
          exact h
        · replace h := h.2 h4
          refine Wp.steps 3 (pc' := 137) (lv' := [some (.ref 57), some (.int x1), some (.int x2), some (.int x3), some (.int (I 63 (tN x3)))]) (st' := [.int (-x2), .int (I 63 (tN x3)), .ref 70]) (I' := I2) (J' := J2) rfl ?_
          refine Wp.iast rfl rfl h.1 ?_
          replace h := h.2
          refine Wp.steps 2 (pc' := 70) (lv' := [some (.ref 57), some (.int x1), some (.int x2), some (.int (x3 + 1)), some (.int (I 63 (tN x3)))]) (st' := []) (I' := (up2 I2 70 (tN (I 63 (tN x3))) (-x2))) (J' := J2) rfl ?_
          refine Wp.drop [4] (lv' := [some (.ref 57), some (.int x1), some (.int x2), some (.int (x3 + 1)), none]) rfl ?_
          exact h
      · replace h := h.2 h3
        refine Wp.steps 2 (pc' := 137) (lv' := [some (.ref 57), some (.int x1), some (.int x2), some (.int x3), some (.int (I 63 (tN x3)))]) (st' := [.int x2, .int (I 63 (tN x3)), .ref 70]) (I' := I1) (J' := J1) rfl ?_
        refine Wp.iast rfl rfl h.1 ?_
        replace h := h.2
        refine Wp.steps 2 (pc' := 70) (lv' := [some (.ref 57), some (.int x1), some (.int x2), some (.int (x3 + 1)), some (.int (I 63 (tN x3)))]) (st' := []) (I' := (up2 I1 70 (tN (I 63 (tN x3))) x2)) (J' := J1) rfl ?_
        refine Wp.drop [4] (lv' := [some (.ref 57), some (.int x1), some (.int x2), some (.int (x3 + 1)), none]) rfl ?_
        exact h
    · replace h := h.2 h2
      refine Wp.steps 2 (pc' := 70) (lv' := [some (.ref 57), some (.int x1), some (.int x2), some (.int (x3 + 1)), some (.int (I 63 (tN x3)))]) (st' := []) (I' := I) (J' := J) rfl ?_
      refine Wp.drop [4] (lv' := [some (.ref 57), some (.int x1), some (.int x2), some (.int (x3 + 1)), none]) rfl ?_
      exact h
  · replace h := h.2 h1
    refine Wp.steps 2 (pc' := 146) (lv' := [some (.ref 57), some (.int x1), some (.int x2), some (.int 0), none]) (st' := []) (I' := I) (J' := J) rfl ?_
    exact h
theorem v_Md_solves_57_146 {d : Nat} {Q : Post} {I : I2} {J : J2} {x1 : Int32} {x2 : Int32} {x3 : Int32} (h : (x3 < (I 57 11) → vp_in x3 1024 ∧ (vp_in (I 63 (tN x3)) 1024 ∧ (((I 69 (tN (I 63 (tN x3)))) = 0 → vp_in (I 63 (tN x3)) 1024 ∧ (((I 70 (tN (I 63 (tN x3)))) = 0 → Wp d Md_solves Q 146 [some (.ref 57), some (.int x1), some (.int x2), some (.int (x3 + 1)), none] [] I J) ∧ (¬ ((I 70 (tN (I 63 (tN x3)))) = 0) → vp_in (I 63 (tN x3)) 1024 ∧ ((0 < (I 70 (tN (I 63 (tN x3)))) → vp_in (I 63 (tN x3)) 1024 ∧ (vp_in (I 63 (tN x3)) 1024 ∧ (Wp d Md_solves Q 146 [some (.ref 57), some (.int 1), some (.int x2), some (.int (x3 + 1)), none] [] (up2 (up2 I 69 (tN (I 63 (tN x3))) 1) 70 (tN (I 63 (tN x3))) x2) J))) ∧ (¬ (0 < (I 70 (tN (I 63 (tN x3))))) → vp_in (I 63 (tN x3)) 1024 ∧ (vp_in (I 63 (tN x3)) 1024 ∧ (Wp d Md_solves Q 146 [some (.ref 57), some (.int 1), some (.int x2), some (.int (x3 + 1)), none] [] (up2 (up2 I 69 (tN (I 63 (tN x3))) 2) 70 (tN (I 63 (tN x3))) x2) J))))))) ∧ (¬ ((I 69 (tN (I 63 (tN x3)))) = 0) → Wp d Md_solves Q 146 [some (.ref 57), some (.int x1), some (.int x2), some (.int (x3 + 1)), none] [] I J)))) ∧ (¬ (x3 < (I 57 11)) → Wp d Md_solves Q 62 [some (.ref 57), some (.int x1), some (.int (x2 + 1)), none, none] [] I J)) : Wp d Md_solves Q 146 [some (.ref 57), some (.int x1), some (.int x2), some (.int x3), none] [] I J := by
  refine Wp.steps 3 (pc' := 151) (lv' := [some (.ref 57), some (.int x1), some (.int x2), some (.int x3), none]) (st' := [.int (I 57 11), .int x3]) (I' := I) (J' := J) rfl ?_
  refine Wp.steps 1 (pc' := if x3 < (I 57 11) then 154 else 220) (lv' := [some (.ref 57), some (.int x1), some (.int x2), some (.int x3), none]) (st' := []) (I' := I) (J' := J) rfl (Wp.ite (fun h1 => ?_) (fun h1 => ?_))
  · replace h := h.1 h1
    refine Wp.steps 3 (pc' := 159) (lv' := [some (.ref 57), some (.int x1), some (.int x2), some (.int x3), none]) (st' := [.int x3, .ref 63]) (I' := I) (J' := J) rfl ?_
    refine Wp.iald rfl rfl h.1 ?_
    replace h := h.2
    refine Wp.steps 4 (pc' := 168) (lv' := [some (.ref 57), some (.int x1), some (.int x2), some (.int x3), some (.int (I 63 (tN x3)))]) (st' := [.int (I 63 (tN x3)), .ref 69]) (I' := I) (J' := J) rfl ?_
    refine Wp.iald rfl rfl h.1 ?_
    replace h := h.2
    refine Wp.steps 1 (pc' := if (I 69 (tN (I 63 (tN x3)))) = 0 then 172 else 214) (lv' := [some (.ref 57), some (.int x1), some (.int x2), some (.int x3), some (.int (I 63 (tN x3)))]) (st' := []) (I' := I) (J' := J) rfl (Wp.ite (fun h2 => ?_) (fun h2 => ?_))
    · replace h := h.1 h2
      refine Wp.steps 3 (pc' := 178) (lv' := [some (.ref 57), some (.int x1), some (.int x2), some (.int x3), some (.int (I 63 (tN x3)))]) (st' := [.int (I 63 (tN x3)), .ref 70]) (I' := I) (J' := J) rfl ?_
      refine Wp.iald rfl rfl h.1 ?_
      replace h := h.2
      refine Wp.steps 1 (pc' := if (I 70 (tN (I 63 (tN x3)))) = 0 then 214 else 182) (lv' := [some (.ref 57), some (.int x1), some (.int x2), some (.int x3), some (.int (I 63 (tN x3)))]) (st' := []) (I' := I) (J' := J) rfl (Wp.ite (fun h3 => ?_) (fun h3 => ?_))
      · replace h := h.1 h3
        refine Wp.steps 2 (pc' := 146) (lv' := [some (.ref 57), some (.int x1), some (.int x2), some (.int (x3 + 1)), some (.int (I 63 (tN x3)))]) (st' := []) (I' := I) (J' := J) rfl ?_
        refine Wp.drop [4] (lv' := [some (.ref 57), some (.int x1), some (.int x2), some (.int (x3 + 1)), none]) rfl ?_
        exact h
      · replace h := h.2 h3
        refine Wp.steps 6 (pc' := 194) (lv' := [some (.ref 57), some (.int x1), some (.int x2), some (.int x3), some (.int (I 63 (tN x3)))]) (st' := [.int (I 63 (tN x3)), .ref 70, .int (I 63 (tN x3)), .ref 69]) (I' := I) (J' := J) rfl ?_
        refine Wp.iald rfl rfl h.1 ?_
        replace h := h.2
        refine Wp.steps 1 (pc' := if 0 < (I 70 (tN (I 63 (tN x3)))) then 198 else 202) (lv' := [some (.ref 57), some (.int x1), some (.int x2), some (.int x3), some (.int (I 63 (tN x3)))]) (st' := [.int (I 63 (tN x3)), .ref 69]) (I' := I) (J' := J) rfl (Wp.ite (fun h4 => ?_) (fun h4 => ?_))
        · replace h := h.1 h4
          refine Wp.steps 2 (pc' := 203) (lv' := [some (.ref 57), some (.int x1), some (.int x2), some (.int x3), some (.int (I 63 (tN x3)))]) (st' := [.int 1, .int (I 63 (tN x3)), .ref 69]) (I' := I) (J' := J) rfl ?_
          refine Wp.iast rfl rfl h.1 ?_
          replace h := h.2
          refine Wp.steps 4 (pc' := 211) (lv' := [some (.ref 57), some (.int x1), some (.int x2), some (.int x3), some (.int (I 63 (tN x3)))]) (st' := [.int x2, .int (I 63 (tN x3)), .ref 70]) (I' := (up2 I 69 (tN (I 63 (tN x3))) 1)) (J' := J) rfl ?_
          refine Wp.iast rfl rfl h.1 ?_
          replace h := h.2
          refine Wp.steps 4 (pc' := 146) (lv' := [some (.ref 57), some (.int 1), some (.int x2), some (.int (x3 + 1)), some (.int (I 63 (tN x3)))]) (st' := []) (I' := (up2 (up2 I 69 (tN (I 63 (tN x3))) 1) 70 (tN (I 63 (tN x3))) x2)) (J' := J) rfl ?_
          refine Wp.drop [4] (lv' := [some (.ref 57), some (.int 1), some (.int x2), some (.int (x3 + 1)), none]) rfl ?_
          exact h
        · replace h := h.2 h4
          refine Wp.steps 1 (pc' := 203) (lv' := [some (.ref 57), some (.int x1), some (.int x2), some (.int x3), some (.int (I 63 (tN x3)))]) (st' := [.int 2, .int (I 63 (tN x3)), .ref 69]) (I' := I) (J' := J) rfl ?_
          refine Wp.iast rfl rfl h.1 ?_
          replace h := h.2
          refine Wp.steps 4 (pc' := 211) (lv' := [some (.ref 57), some (.int x1), some (.int x2), some (.int x3), some (.int (I 63 (tN x3)))]) (st' := [.int x2, .int (I 63 (tN x3)), .ref 70]) (I' := (up2 I 69 (tN (I 63 (tN x3))) 2)) (J' := J) rfl ?_
          refine Wp.iast rfl rfl h.1 ?_
          replace h := h.2
          refine Wp.steps 4 (pc' := 146) (lv' := [some (.ref 57), some (.int 1), some (.int x2), some (.int (x3 + 1)), some (.int (I 63 (tN x3)))]) (st' := []) (I' := (up2 (up2 I 69 (tN (I 63 (tN x3))) 2) 70 (tN (I 63 (tN x3))) x2)) (J' := J) rfl ?_
          refine Wp.drop [4] (lv' := [some (.ref 57), some (.int 1), some (.int x2), some (.int (x3 + 1)), none]) rfl ?_
          exact h
    · replace h := h.2 h2
      refine Wp.steps 2 (pc' := 146) (lv' := [some (.ref 57), some (.int x1), some (.int x2), some (.int (x3 + 1)), some (.int (I 63 (tN x3)))]) (st' := []) (I' := I) (J' := J) rfl ?_
      refine Wp.drop [4] (lv' := [some (.ref 57), some (.int x1), some (.int x2), some (.int (x3 + 1)), none]) rfl ?_
      exact h
  · replace h := h.2 h1
    refine Wp.steps 2 (pc' := 62) (lv' := [some (.ref 57), some (.int x1), some (.int (x2 + 1)), some (.int x3), none]) (st' := []) (I' := I) (J' := J) rfl ?_
    refine Wp.drop [3] (lv' := [some (.ref 57), some (.int x1), some (.int (x2 + 1)), none, none]) rfl ?_
    exact h
theorem v_Md_slideTo_57_0 {d : Nat} {Q : Post} {I : I2} {J : J2} {x1 : Int32} {x2 : Int32} {x3 : Int32} (h : Wp d Md_slideTo Q 16 [some (.ref 57), some (.int x1), some (.int x2), some (.int x3), some (.int (-4)), some (.int ((2 * (I 58 0)) - 1)), none] [] I J) : Wp d Md_slideTo Q 0 [some (.ref 57), some (.int x1), some (.int x2), some (.int x3), none, none, none] [] I J := by
  refine Wp.steps 11 (pc' := 16) (lv' := [some (.ref 57), some (.int x1), some (.int x2), some (.int x3), some (.int (-4)), some (.int ((2 * (I 58 0)) - 1)), none]) (st' := []) (I' := I) (J' := J) rfl ?_
  exact h
theorem v_Md_slideTo_57_16 {d : Nat} {Q : Post} {I : I2} {J : J2} {x1 : Int32} {x2 : Int32} {x3 : Int32} {x4 : Int32} {x5 : Int32} (h : (x5 < 0 → Q (some (.int x4)) I J) ∧ (¬ (x5 < 0) → vp_in ((10 * x1) + x5) 10240 ∧ (((I 68 (tN ((10 * x1) + x5))) < 0 → Wp d Md_slideTo Q 16 [some (.ref 57), some (.int x1), some (.int x2), some (.int x3), some (.int x4), some (.int (x5 + (-1))), none] [] I J) ∧ (¬ ((I 68 (tN ((10 * x1) + x5))) < 0) → vp_in (I 68 (tN ((10 * x1) + x5))) 1024 ∧ (((I 69 (tN (I 68 (tN ((10 * x1) + x5))))) = x2 → (x3 < 0 → Wp d Md_slideTo Q 16 [some (.ref 57), some (.int x1), some (.int x2), some (.int x3), some (.int x5), some (.int (x5 + (-1))), none] [] I J) ∧ (¬ (x3 < 0) → vp_in (I 68 (tN ((10 * x1) + x5))) 1024 ∧ (((I 70 (tN (I 68 (tN ((10 * x1) + x5))))) = x3 → Wp d Md_slideTo Q 16 [some (.ref 57), some (.int x1), some (.int x2), some (.int x3), some (.int x5), some (.int (x5 + (-1))), none] [] I J) ∧ (¬ ((I 70 (tN (I 68 (tN ((10 * x1) + x5))))) = x3) → Wp d Md_slideTo Q 16 [some (.ref 57), some (.int x1), some (.int x2), some (.int x3), some (.int x4), some (.int (x5 + (-1))), none] [] I J)))) ∧ (¬ ((I 69 (tN (I 68 (tN ((10 * x1) + x5))))) = x2) → Wp d Md_slideTo Q 16 [some (.ref 57), some (.int x1), some (.int x2), some (.int x3), some (.int x4), some (.int (x5 + (-1))), none] [] I J)))))) : Wp d Md_slideTo Q 16 [some (.ref 57), some (.int x1), some (.int x2), some (.int x3), some (.int x4), some (.int x5), none] [] I J := by
  refine Wp.steps 1 (pc' := 18) (lv' := [some (.ref 57), some (.int x1), some (.int x2), some (.int x3), some (.int x4), some (.int x5), none]) (st' := [.int x5]) (I' := I) (J' := J) rfl ?_
  refine Wp.steps 1 (pc' := if x5 < 0 then 81 else 21) (lv' := [some (.ref 57), some (.int x1), some (.int x2), some (.int x3), some (.int x4), some (.int x5), none]) (st' := []) (I' := I) (J' := J) rfl (Wp.ite (fun h1 => ?_) (fun h1 => ?_))
  · replace h := h.1 h1
    refine Wp.steps 1 (pc' := 83) (lv' := [some (.ref 57), some (.int x1), some (.int x2), some (.int x3), some (.int x4), some (.int x5), none]) (st' := [.int x4]) (I' := I) (J' := J) rfl ?_
    exact Wp.ret rfl h
  · replace h := h.2 h1
    refine Wp.steps 7 (pc' := 32) (lv' := [some (.ref 57), some (.int x1), some (.int x2), some (.int x3), some (.int x4), some (.int x5), none]) (st' := [.int ((10 * x1) + x5), .ref 68]) (I' := I) (J' := J) rfl ?_
    refine Wp.iald rfl rfl h.1 ?_
    replace h := h.2
    refine Wp.steps 2 (pc' := 37) (lv' := [some (.ref 57), some (.int x1), some (.int x2), some (.int x3), some (.int x4), some (.int x5), some (.int (I 68 (tN ((10 * x1) + x5))))]) (st' := [.int (I 68 (tN ((10 * x1) + x5)))]) (I' := I) (J' := J) rfl ?_
    refine Wp.steps 1 (pc' := if (I 68 (tN ((10 * x1) + x5))) < 0 then 71 else 40) (lv' := [some (.ref 57), some (.int x1), some (.int x2), some (.int x3), some (.int x4), some (.int x5), some (.int (I 68 (tN ((10 * x1) + x5))))]) (st' := []) (I' := I) (J' := J) rfl (Wp.ite (fun h2 => ?_) (fun h2 => ?_))
    · replace h := h.1 h2
      refine Wp.steps 4 (pc' := 16) (lv' := [some (.ref 57), some (.int x1), some (.int x2), some (.int x3), some (.int x4), some (.int (x5 + (-1))), some (.int (I 68 (tN ((10 * x1) + x5))))]) (st' := []) (I' := I) (J' := J) rfl ?_
      refine Wp.drop [6] (lv' := [some (.ref 57), some (.int x1), some (.int x2), some (.int x3), some (.int x4), some (.int (x5 + (-1))), none]) rfl ?_
      exact h
    · replace h := h.2 h2
      refine Wp.steps 3 (pc' := 46) (lv' := [some (.ref 57), some (.int x1), some (.int x2), some (.int x3), some (.int x4), some (.int x5), some (.int (I 68 (tN ((10 * x1) + x5))))]) (st' := [.int (I 68 (tN ((10 * x1) + x5))), .ref 69]) (I' := I) (J' := J) rfl ?_
      refine Wp.iald rfl rfl h.1 ?_
      replace h := h.2
      refine Wp.steps 1 (pc' := 48) (lv' := [some (.ref 57), some (.int x1), some (.int x2), some (.int x3), some (.int x4), some (.int x5), some (.int (I 68 (tN ((10 * x1) + x5))))]) (st' := [.int x2, .int (I 69 (tN (I 68 (tN ((10 * x1) + x5)))))]) (I' := I) (J' := J) rfl ?_
      refine Wp.steps 1 (pc' := if (I 69 (tN (I 68 (tN ((10 * x1) + x5))))) = x2 then 51 else 71) (lv' := [some (.ref 57), some (.int x1), some (.int x2), some (.int x3), some (.int x4), some (.int x5), some (.int (I 68 (tN ((10 * x1) + x5))))]) (st' := []) (I' := I) (J' := J) rfl (Wp.ite (fun h3 => ?_) (fun h3 => ?_))
      · replace h := h.1 h3
        refine Wp.steps 1 (pc' := 52) (lv' := [some (.ref 57), some (.int x1), some (.int x2), some (.int x3), some (.int x4), some (.int x5), some (.int (I 68 (tN ((10 * x1) + x5))))]) (st' := [.int x3]) (I' := I) (J' := J) rfl ?_
        refine Wp.steps 1 (pc' := if x3 < 0 then 66 else 55) (lv' := [some (.ref 57), some (.int x1), some (.int x2), some (.int x3), some (.int x4), some (.int x5), some (.int (I 68 (tN ((10 * x1) + x5))))]) (st' := []) (I' := I) (J' := J) rfl (Wp.ite (fun h4 => ?_) (fun h4 => ?_))
        · replace h := h.1 h4
          refine Wp.steps 5 (pc' := 16) (lv' := [some (.ref 57), some (.int x1), some (.int x2), some (.int x3), some (.int x5), some (.int (x5 + (-1))), some (.int (I 68 (tN ((10 * x1) + x5))))]) (st' := []) (I' := I) (J' := J) rfl ?_
          refine Wp.drop [6] (lv' := [some (.ref 57), some (.int x1), some (.int x2), some (.int x3), some (.int x5), some (.int (x5 + (-1))), none]) rfl ?_
          exact h
        · replace h := h.2 h4
          refine Wp.steps 3 (pc' := 61) (lv' := [some (.ref 57), some (.int x1), some (.int x2), some (.int x3), some (.int x4), some (.int x5), some (.int (I 68 (tN ((10 * x1) + x5))))]) (st' := [.int (I 68 (tN ((10 * x1) + x5))), .ref 70]) (I' := I) (J' := J) rfl ?_
          refine Wp.iald rfl rfl h.1 ?_
          replace h := h.2
          refine Wp.steps 1 (pc' := 63) (lv' := [some (.ref 57), some (.int x1), some (.int x2), some (.int x3), some (.int x4), some (.int x5), some (.int (I 68 (tN ((10 * x1) + x5))))]) (st' := [.int x3, .int (I 70 (tN (I 68 (tN ((10 * x1) + x5)))))]) (I' := I) (J' := J) rfl ?_
          refine Wp.steps 1 (pc' := if (I 70 (tN (I 68 (tN ((10 * x1) + x5))))) = x3 then 66 else 71) (lv' := [some (.ref 57), some (.int x1), some (.int x2), some (.int x3), some (.int x4), some (.int x5), some (.int (I 68 (tN ((10 * x1) + x5))))]) (st' := []) (I' := I) (J' := J) rfl (Wp.ite (fun h5 => ?_) (fun h5 => ?_))
          · replace h := h.1 h5
            refine Wp.steps 5 (pc' := 16) (lv' := [some (.ref 57), some (.int x1), some (.int x2), some (.int x3), some (.int x5), some (.int (x5 + (-1))), some (.int (I 68 (tN ((10 * x1) + x5))))]) (st' := []) (I' := I) (J' := J) rfl ?_
            refine Wp.drop [6] (lv' := [some (.ref 57), some (.int x1), some (.int x2), some (.int x3), some (.int x5), some (.int (x5 + (-1))), none]) rfl ?_
            exact h
          · replace h := h.2 h5
            refine Wp.steps 4 (pc' := 16) (lv' := [some (.ref 57), some (.int x1), some (.int x2), some (.int x3), some (.int x4), some (.int (x5 + (-1))), some (.int (I 68 (tN ((10 * x1) + x5))))]) (st' := []) (I' := I) (J' := J) rfl ?_
            refine Wp.drop [6] (lv' := [some (.ref 57), some (.int x1), some (.int x2), some (.int x3), some (.int x4), some (.int (x5 + (-1))), none]) rfl ?_
            exact h
      · replace h := h.2 h3
        refine Wp.steps 4 (pc' := 16) (lv' := [some (.ref 57), some (.int x1), some (.int x2), some (.int x3), some (.int x4), some (.int (x5 + (-1))), some (.int (I 68 (tN ((10 * x1) + x5))))]) (st' := []) (I' := I) (J' := J) rfl ?_
        refine Wp.drop [6] (lv' := [some (.ref 57), some (.int x1), some (.int x2), some (.int x3), some (.int x4), some (.int (x5 + (-1))), none]) rfl ?_
        exact h
theorem v_Md_fumbles_57_0 {d : Nat} {Q : Post} {I : I2} {J : J2} (h : Wp d Md_fumbles Q 2 [some (.ref 57), some (.int 0), none, none, none, none, none] [] I J) : Wp d Md_fumbles Q 0 [some (.ref 57), none, none, none, none, none, none] [] I J := by
  refine Wp.steps 2 (pc' := 2) (lv' := [some (.ref 57), some (.int 0), none, none, none, none, none]) (st' := []) (I' := I) (J' := J) rfl ?_
  exact h
theorem v_Md_fumbles_57_2 {d : Nat} {Q : Post} {I : I2} {J : J2} {x1 : Int32} (h : (x1 < (I 57 11) → vp_in x1 1024 ∧ (vp_in (I 63 (tN x1)) 1024 ∧ (Wp d Md_fumbles Q 2 [some (.ref 57), some (.int (x1 + 1)), none, none, none, none, none] [] I (upJ J 72 (tN (I 63 (tN x1))) 0)))) ∧ (¬ (x1 < (I 57 11)) → Wp d Md_fumbles Q 30 [some (.ref 57), some (.int 0), none, none, none, none, none] [] I J)) : Wp d Md_fumbles Q 2 [some (.ref 57), some (.int x1), none, none, none, none, none] [] I J := by
  refine Wp.steps 3 (pc' := 7) (lv' := [some (.ref 57), some (.int x1), none, none, none, none, none]) (st' := [.int (I 57 11), .int x1]) (I' := I) (J' := J) rfl ?_
  refine Wp.steps 1 (pc' := if x1 < (I 57 11) then 10 else 28) (lv' := [some (.ref 57), some (.int x1), none, none, none, none, none]) (st' := []) (I' := I) (J' := J) rfl (Wp.ite (fun h1 => ?_) (fun h1 => ?_))
  · replace h := h.1 h1
    refine Wp.steps 5 (pc' := 19) (lv' := [some (.ref 57), some (.int x1), none, none, none, none, none]) (st' := [.int x1, .ref 63, .ref 72]) (I' := I) (J' := J) rfl ?_
    refine Wp.iald rfl rfl h.1 ?_
    replace h := h.2
    refine Wp.steps 1 (pc' := 21) (lv' := [some (.ref 57), some (.int x1), none, none, none, none, none]) (st' := [.long 0, .int (I 63 (tN x1)), .ref 72]) (I' := I) (J' := J) rfl ?_
    refine Wp.last rfl rfl h.1 ?_
    replace h := h.2
    refine Wp.steps 2 (pc' := 2) (lv' := [some (.ref 57), some (.int (x1 + 1)), none, none, none, none, none]) (st' := []) (I' := I) (J' := (upJ J 72 (tN (I 63 (tN x1))) 0)) rfl ?_
    exact h
  · replace h := h.2 h1
    refine Wp.steps 2 (pc' := 30) (lv' := [some (.ref 57), some (.int 0), none, none, none, none, none]) (st' := []) (I' := I) (J' := J) rfl ?_
    exact h
theorem v_Md_fumbles_57_30 {d : Nat} {Q : Post} {I : I2} {J : J2} {x1 : Int32} (h : (x1 < (I 57 11) → vp_in x1 1024 ∧ (Wp d Md_fumbles Q 50 [some (.ref 57), some (.int x1), some (.int (I 63 (tN x1))), some (.int 0), some (.int 0), none, none] [] I J)) ∧ (¬ (x1 < (I 57 11)) → Wp d Md_fumbles Q 216 [some (.ref 57), some (.int 0), none, none, none, none, none] [] I J)) : Wp d Md_fumbles Q 30 [some (.ref 57), some (.int x1), none, none, none, none, none] [] I J := by
  refine Wp.steps 3 (pc' := 35) (lv' := [some (.ref 57), some (.int x1), none, none, none, none, none]) (st' := [.int (I 57 11), .int x1]) (I' := I) (J' := J) rfl ?_
  refine Wp.steps 1 (pc' := if x1 < (I 57 11) then 38 else 214) (lv' := [some (.ref 57), some (.int x1), none, none, none, none, none]) (st' := []) (I' := I) (J' := J) rfl (Wp.ite (fun h1 => ?_) (fun h1 => ?_))
  · replace h := h.1 h1
    refine Wp.steps 3 (pc' := 43) (lv' := [some (.ref 57), some (.int x1), none, none, none, none, none]) (st' := [.int x1, .ref 63]) (I' := I) (J' := J) rfl ?_
    refine Wp.iald rfl rfl h.1 ?_
    replace h := h.2
    refine Wp.steps 5 (pc' := 50) (lv' := [some (.ref 57), some (.int x1), some (.int (I 63 (tN x1))), some (.int 0), some (.int 0), none, none]) (st' := []) (I' := I) (J' := J) rfl ?_
    exact h
  · replace h := h.2 h1
    refine Wp.steps 2 (pc' := 216) (lv' := [some (.ref 57), some (.int 0), none, none, none, none, none]) (st' := []) (I' := I) (J' := J) rfl ?_
    exact h
theorem v_Md_fumbles_57_50 {d : Nat} {Q : Post} {I : I2} {J : J2} {x1 : Int32} {x2 : Int32} {x3 : Int32} {x4 : Int32} (h : (x4 < (2 * (I 58 0)) → vp_in ((10 * x2) + x4) 10240 ∧ (((I 68 (tN ((10 * x2) + x4))) < 0 → Wp d Md_fumbles Q 50 [some (.ref 57), some (.int x1), some (.int x2), some (.int (x3 + 0)), some (.int (x4 + 1)), none, none] [] I J) ∧ (¬ ((I 68 (tN ((10 * x2) + x4))) < 0) → Wp d Md_fumbles Q 50 [some (.ref 57), some (.int x1), some (.int x2), some (.int (x3 + 1)), some (.int (x4 + 1)), none, none] [] I J))) ∧ (¬ (x4 < (2 * (I 58 0))) → (x3 = 0 → vp_in x2 1024 ∧ (vp_in x2 1024 ∧ (vp_in x2 1024 ∧ (Wp d Md_fumbles Q 142 [some (.ref 57), some (.int x1), some (.int x2), some (.int x3), some (.int 1), some (.int 0), none] [] I (upJ J 72 (tN x2) ((J 72 (tN x2)) + (2520 * (J 71 (tN x2))))))))) ∧ (¬ (x3 = 0) → CI d Md_isOpen [.ref 57, .int x2] I J (fun v1 I1 J1 => (v1 = 0 → vp_in x2 1024 ∧ (vp_in x2 1024 ∧ (Wp d Md_fumbles Q 142 [some (.ref 57), some (.int x1), some (.int x2), some (.int x3), some (.int 0), some (.int 0), none] [] I1 (upJ J1 72 (tN x2) ((J1 72 (tN x2)) + 0))))) ∧ (¬ (v1 = 0) → vp_in x2 1024 ∧ (vp_in x2 1024 ∧ (vp_in x2 1024 ∧ (Wp d Md_fumbles Q 142 [some (.ref 57), some (.int x1), some (.int x2), some (.int x3), some (.int 1), some (.int 0), none] [] I1 (upJ J1 72 (tN x2) ((J1 72 (tN x2)) + (2520 * (J1 71 (tN x2))))))))))))) : Wp d Md_fumbles Q 50 [some (.ref 57), some (.int x1), some (.int x2), some (.int x3), some (.int x4), none, none] [] I J := by
  refine Wp.steps 7 (pc' := 60) (lv' := [some (.ref 57), some (.int x1), some (.int x2), some (.int x3), some (.int x4), none, none]) (st' := [.int (2 * (I 58 0)), .int x4]) (I' := I) (J' := J) rfl ?_
  refine Wp.steps 1 (pc' := if x4 < (2 * (I 58 0)) then 63 else 92) (lv' := [some (.ref 57), some (.int x1), some (.int x2), some (.int x3), some (.int x4), none, none]) (st' := []) (I' := I) (J' := J) rfl (Wp.ite (fun h1 => ?_) (fun h1 => ?_))
  · replace h := h.1 h1
    refine Wp.steps 8 (pc' := 75) (lv' := [some (.ref 57), some (.int x1), some (.int x2), some (.int x3), some (.int x4), none, none]) (st' := [.int ((10 * x2) + x4), .ref 68, .int x3]) (I' := I) (J' := J) rfl ?_
    refine Wp.iald rfl rfl h.1 ?_
    replace h := h.2
    refine Wp.steps 1 (pc' := if (I 68 (tN ((10 * x2) + x4))) < 0 then 83 else 79) (lv' := [some (.ref 57), some (.int x1), some (.int x2), some (.int x3), some (.int x4), none, none]) (st' := [.int x3]) (I' := I) (J' := J) rfl (Wp.ite (fun h2 => ?_) (fun h2 => ?_))
    · replace h := h.1 h2
      refine Wp.steps 5 (pc' := 50) (lv' := [some (.ref 57), some (.int x1), some (.int x2), some (.int (x3 + 0)), some (.int (x4 + 1)), none, none]) (st' := []) (I' := I) (J' := J) rfl ?_
      exact h
    · replace h := h.2 h2
      refine Wp.steps 6 (pc' := 50) (lv' := [some (.ref 57), some (.int x1), some (.int x2), some (.int (x3 + 1)), some (.int (x4 + 1)), none, none]) (st' := []) (I' := I) (J' := J) rfl ?_
      exact h
  · replace h := h.2 h1
    refine Wp.steps 1 (pc' := 93) (lv' := [some (.ref 57), some (.int x1), some (.int x2), some (.int x3), some (.int x4), none, none]) (st' := [.int x3]) (I' := I) (J' := J) rfl ?_
    refine Wp.steps 1 (pc' := if x3 = 0 then 104 else 96) (lv' := [some (.ref 57), some (.int x1), some (.int x2), some (.int x3), some (.int x4), none, none]) (st' := []) (I' := I) (J' := J) rfl (Wp.ite (fun h2 => ?_) (fun h2 => ?_))
    · replace h := h.1 h2
      refine Wp.steps 7 (pc' := 117) (lv' := [some (.ref 57), some (.int x1), some (.int x2), some (.int x3), some (.int 1), none, none]) (st' := [.int x2, .ref 72, .int x2, .ref 72]) (I' := I) (J' := J) rfl ?_
      refine Wp.lald rfl rfl h.1 ?_
      replace h := h.2
      refine Wp.steps 6 (pc' := 131) (lv' := [some (.ref 57), some (.int x1), some (.int x2), some (.int x3), some (.int 1), none, none]) (st' := [.int x2, .ref 71, .long 2520, .long (J 72 (tN x2)), .int x2, .ref 72]) (I' := I) (J' := J) rfl ?_
      refine Wp.lald rfl rfl h.1 ?_
      replace h := h.2
      refine Wp.steps 3 (pc' := 138) (lv' := [some (.ref 57), some (.int x1), some (.int x2), some (.int x3), some (.int 1), none, none]) (st' := [.long ((J 72 (tN x2)) + (2520 * (J 71 (tN x2)))), .int x2, .ref 72]) (I' := I) (J' := J) rfl ?_
      refine Wp.last rfl rfl h.1 ?_
      replace h := h.2
      refine Wp.steps 2 (pc' := 142) (lv' := [some (.ref 57), some (.int x1), some (.int x2), some (.int x3), some (.int 1), some (.int 0), none]) (st' := []) (I' := I) (J' := (upJ J 72 (tN x2) ((J 72 (tN x2)) + (2520 * (J 71 (tN x2)))))) rfl ?_
      exact h
    · replace h := h.2 h2
      refine Wp.steps 2 (pc' := 98) (lv' := [some (.ref 57), some (.int x1), some (.int x2), some (.int x3), some (.int x4), none, none]) (st' := [.int x2, .ref 57]) (I' := I) (J' := J) rfl ?_
      refine Wp.call (M' := Md_isOpen) (as := [.ref 57, .int x2]) (rest := []) rfl (CI.use h (fun v1 I1 J1 h => ?_))
      refine Wp.eqs (pc' := 101) (st' := [.int v1]) rfl rfl ?_
      refine Wp.steps 1 (pc' := if v1 = 0 then 108 else 104) (lv' := [some (.ref 57), some (.int x1), some (.int x2), some (.int x3), some (.int x4), none, none]) (st' := []) (I' := I1) (J' := J1) rfl (Wp.ite (fun h3 => ?_) (fun h3 => ?_))
      · replace h := h.1 h3
        refine Wp.steps 6 (pc' := 117) (lv' := [some (.ref 57), some (.int x1), some (.int x2), some (.int x3), some (.int 0), none, none]) (st' := [.int x2, .ref 72, .int x2, .ref 72]) (I' := I1) (J' := J1) rfl ?_
        refine Wp.lald rfl rfl h.1 ?_
        replace h := h.2
        refine Wp.steps 4 (pc' := 138) (lv' := [some (.ref 57), some (.int x1), some (.int x2), some (.int x3), some (.int 0), none, none]) (st' := [.long ((J1 72 (tN x2)) + 0), .int x2, .ref 72]) (I' := I1) (J' := J1) rfl ?_
        refine Wp.last rfl rfl h.1 ?_
        replace h := h.2
        refine Wp.steps 2 (pc' := 142) (lv' := [some (.ref 57), some (.int x1), some (.int x2), some (.int x3), some (.int 0), some (.int 0), none]) (st' := []) (I' := I1) (J' := (upJ J1 72 (tN x2) ((J1 72 (tN x2)) + 0))) rfl ?_
        exact h
      · replace h := h.2 h3
        refine Wp.steps 7 (pc' := 117) (lv' := [some (.ref 57), some (.int x1), some (.int x2), some (.int x3), some (.int 1), none, none]) (st' := [.int x2, .ref 72, .int x2, .ref 72]) (I' := I1) (J' := J1) rfl ?_
        refine Wp.lald rfl rfl h.1 ?_
        replace h := h.2
        refine Wp.steps 6 (pc' := 131) (lv' := [some (.ref 57), some (.int x1), some (.int x2), some (.int x3), some (.int 1), none, none]) (st' := [.int x2, .ref 71, .long 2520, .long (J1 72 (tN x2)), .int x2, .ref 72]) (I' := I1) (J' := J1) rfl ?_
        refine Wp.lald rfl rfl h.1 ?_
        replace h := h.2
        refine Wp.steps 3 (pc' := 138) (lv' := [some (.ref 57), some (.int x1), some (.int x2), some (.int x3), some (.int 1), none, none]) (st' := [.long ((J1 72 (tN x2)) + (2520 * (J1 71 (tN x2)))), .int x2, .ref 72]) (I' := I1) (J' := J1) rfl ?_
        refine Wp.last rfl rfl h.1 ?_
        replace h := h.2
        refine Wp.steps 2 (pc' := 142) (lv' := [some (.ref 57), some (.int x1), some (.int x2), some (.int x3), some (.int 1), some (.int 0), none]) (st' := []) (I' := I1) (J' := (upJ J1 72 (tN x2) ((J1 72 (tN x2)) + (2520 * (J1 71 (tN x2)))))) rfl ?_
        exact h
theorem v_Md_fumbles_57_142 {d : Nat} {Q : Post} {I : I2} {J : J2} {x1 : Int32} {x2 : Int32} {x3 : Int32} {x4 : Int32} {x5 : Int32} (h : (x5 < (2 * (I 58 0)) → (x4 = 0 → vp_in ((10 * x2) + x5) 10240 ∧ (((I 68 (tN ((10 * x2) + x5))) < 0 → Wp d Md_fumbles Q 142 [some (.ref 57), some (.int x1), some (.int x2), some (.int x3), some (.int x4), some (.int (x5 + 1)), none] [] I J) ∧ (¬ ((I 68 (tN ((10 * x2) + x5))) < 0) → vp_in (I 68 (tN ((10 * x2) + x5))) 1024 ∧ (¬ (Int32.toInt64 x3) = 0 ∧ (vp_in x2 1024 ∧ (vp_in (I 68 (tN ((10 * x2) + x5))) 1024 ∧ (Wp d Md_fumbles Q 142 [some (.ref 57), some (.int x1), some (.int x2), some (.int x3), some (.int x4), some (.int (x5 + 1)), none] [] I (upJ J 72 (tN (I 68 (tN ((10 * x2) + x5)))) ((J 72 (tN (I 68 (tN ((10 * x2) + x5))))) + ((2520 / (Int32.toInt64 x3)) * (J 71 (tN x2)))))))))))) ∧ (¬ (x4 = 0) → Wp d Md_fumbles Q 30 [some (.ref 57), some (.int (x1 + 1)), none, none, none, none, none] [] I J)) ∧ (¬ (x5 < (2 * (I 58 0))) → Wp d Md_fumbles Q 30 [some (.ref 57), some (.int (x1 + 1)), none, none, none, none, none] [] I J)) : Wp d Md_fumbles Q 142 [some (.ref 57), some (.int x1), some (.int x2), some (.int x3), some (.int x4), some (.int x5), none] [] I J := by
  refine Wp.steps 7 (pc' := 152) (lv' := [some (.ref 57), some (.int x1), some (.int x2), some (.int x3), some (.int x4), some (.int x5), none]) (st' := [.int (2 * (I 58 0)), .int x5]) (I' := I) (J' := J) rfl ?_
  refine Wp.steps 1 (pc' := if x5 < (2 * (I 58 0)) then 155 else 208) (lv' := [some (.ref 57), some (.int x1), some (.int x2), some (.int x3), some (.int x4), some (.int x5), none]) (st' := []) (I' := I) (J' := J) rfl (Wp.ite (fun h1 => ?_) (fun h1 => ?_))
  · replace h := h.1 h1
    refine Wp.steps 1 (pc' := 157) (lv' := [some (.ref 57), some (.int x1), some (.int x2), some (.int x3), some (.int x4), some (.int x5), none]) (st' := [.int x4]) (I' := I) (J' := J) rfl ?_
    refine Wp.steps 1 (pc' := if x4 = 0 then 160 else 208) (lv' := [some (.ref 57), some (.int x1), some (.int x2), some (.int x3), some (.int x4), some (.int x5), none]) (st' := []) (I' := I) (J' := J) rfl (Wp.ite (fun h2 => ?_) (fun h2 => ?_))
    · replace h := h.1 h2
      refine Wp.steps 7 (pc' := 171) (lv' := [some (.ref 57), some (.int x1), some (.int x2), some (.int x3), some (.int x4), some (.int x5), none]) (st' := [.int ((10 * x2) + x5), .ref 68]) (I' := I) (J' := J) rfl ?_
      refine Wp.iald rfl rfl h.1 ?_
      replace h := h.2
      refine Wp.steps 2 (pc' := 176) (lv' := [some (.ref 57), some (.int x1), some (.int x2), some (.int x3), some (.int x4), some (.int x5), some (.int (I 68 (tN ((10 * x2) + x5))))]) (st' := [.int (I 68 (tN ((10 * x2) + x5)))]) (I' := I) (J' := J) rfl ?_
      refine Wp.steps 1 (pc' := if (I 68 (tN ((10 * x2) + x5))) < 0 then 202 else 179) (lv' := [some (.ref 57), some (.int x1), some (.int x2), some (.int x3), some (.int x4), some (.int x5), some (.int (I 68 (tN ((10 * x2) + x5))))]) (st' := []) (I' := I) (J' := J) rfl (Wp.ite (fun h3 => ?_) (fun h3 => ?_))
      · replace h := h.1 h3
        refine Wp.steps 2 (pc' := 142) (lv' := [some (.ref 57), some (.int x1), some (.int x2), some (.int x3), some (.int x4), some (.int (x5 + 1)), some (.int (I 68 (tN ((10 * x2) + x5))))]) (st' := []) (I' := I) (J' := J) rfl ?_
        refine Wp.drop [6] (lv' := [some (.ref 57), some (.int x1), some (.int x2), some (.int x3), some (.int x4), some (.int (x5 + 1)), none]) rfl ?_
        exact h
      · replace h := h.2 h3
        refine Wp.steps 4 (pc' := 186) (lv' := [some (.ref 57), some (.int x1), some (.int x2), some (.int x3), some (.int x4), some (.int x5), some (.int (I 68 (tN ((10 * x2) + x5))))]) (st' := [.int (I 68 (tN ((10 * x2) + x5))), .ref 72, .int (I 68 (tN ((10 * x2) + x5))), .ref 72]) (I' := I) (J' := J) rfl ?_
        refine Wp.lald rfl rfl h.1 ?_
        replace h := h.2
        refine Wp.steps 3 (pc' := 192) (lv' := [some (.ref 57), some (.int x1), some (.int x2), some (.int x3), some (.int x4), some (.int x5), some (.int (I 68 (tN ((10 * x2) + x5))))]) (st' := [.long (Int32.toInt64 x3), .long 2520, .long (J 72 (tN (I 68 (tN ((10 * x2) + x5))))), .int (I 68 (tN ((10 * x2) + x5))), .ref 72]) (I' := I) (J' := J) rfl ?_
        refine Wp.ldiv rfl h.1 ?_
        replace h := h.2
        refine Wp.steps 3 (pc' := 198) (lv' := [some (.ref 57), some (.int x1), some (.int x2), some (.int x3), some (.int x4), some (.int x5), some (.int (I 68 (tN ((10 * x2) + x5))))]) (st' := [.int x2, .ref 71, .long (2520 / (Int32.toInt64 x3)), .long (J 72 (tN (I 68 (tN ((10 * x2) + x5))))), .int (I 68 (tN ((10 * x2) + x5))), .ref 72]) (I' := I) (J' := J) rfl ?_
        refine Wp.lald rfl rfl h.1 ?_
        replace h := h.2
        refine Wp.steps 2 (pc' := 201) (lv' := [some (.ref 57), some (.int x1), some (.int x2), some (.int x3), some (.int x4), some (.int x5), some (.int (I 68 (tN ((10 * x2) + x5))))]) (st' := [.long ((J 72 (tN (I 68 (tN ((10 * x2) + x5))))) + ((2520 / (Int32.toInt64 x3)) * (J 71 (tN x2)))), .int (I 68 (tN ((10 * x2) + x5))), .ref 72]) (I' := I) (J' := J) rfl ?_
        refine Wp.last rfl rfl h.1 ?_
        replace h := h.2
        refine Wp.steps 2 (pc' := 142) (lv' := [some (.ref 57), some (.int x1), some (.int x2), some (.int x3), some (.int x4), some (.int (x5 + 1)), some (.int (I 68 (tN ((10 * x2) + x5))))]) (st' := []) (I' := I) (J' := (upJ J 72 (tN (I 68 (tN ((10 * x2) + x5)))) ((J 72 (tN (I 68 (tN ((10 * x2) + x5))))) + ((2520 / (Int32.toInt64 x3)) * (J 71 (tN x2)))))) rfl ?_
        refine Wp.drop [6] (lv' := [some (.ref 57), some (.int x1), some (.int x2), some (.int x3), some (.int x4), some (.int (x5 + 1)), none]) rfl ?_
        exact h
    · replace h := h.2 h2
      refine Wp.steps 2 (pc' := 30) (lv' := [some (.ref 57), some (.int (x1 + 1)), some (.int x2), some (.int x3), some (.int x4), some (.int x5), none]) (st' := []) (I' := I) (J' := J) rfl ?_
      refine Wp.drop [2, 3, 4, 5] (lv' := [some (.ref 57), some (.int (x1 + 1)), none, none, none, none, none]) rfl ?_
      exact h
  · replace h := h.2 h1
    refine Wp.steps 2 (pc' := 30) (lv' := [some (.ref 57), some (.int (x1 + 1)), some (.int x2), some (.int x3), some (.int x4), some (.int x5), none]) (st' := []) (I' := I) (J' := J) rfl ?_
    refine Wp.drop [2, 3, 4, 5] (lv' := [some (.ref 57), some (.int (x1 + 1)), none, none, none, none, none]) rfl ?_
    exact h
theorem v_Md_fumbles_57_216 {d : Nat} {Q : Post} {I : I2} {J : J2} {x1 : Int32} (h : (x1 < (I 57 11) → vp_in x1 1024 ∧ (vp_in x1 1024 ∧ (vp_in (I 63 (tN x1)) 1024 ∧ (vp_in (I 63 (tN x1)) 1024 ∧ (Wp d Md_fumbles Q 216 [some (.ref 57), some (.int (x1 + 1)), none, none, none, none, none] [] I (upJ J 71 (tN (I 63 (tN x1))) (J 72 (tN (I 63 (tN x1)))))))))) ∧ (¬ (x1 < (I 57 11)) → Q none I J)) : Wp d Md_fumbles Q 216 [some (.ref 57), some (.int x1), none, none, none, none, none] [] I J := by
  refine Wp.steps 3 (pc' := 221) (lv' := [some (.ref 57), some (.int x1), none, none, none, none, none]) (st' := [.int (I 57 11), .int x1]) (I' := I) (J' := J) rfl ?_
  refine Wp.steps 1 (pc' := if x1 < (I 57 11) then 224 else 252) (lv' := [some (.ref 57), some (.int x1), none, none, none, none, none]) (st' := []) (I' := I) (J' := J) rfl (Wp.ite (fun h1 => ?_) (fun h1 => ?_))
  · replace h := h.1 h1
    refine Wp.steps 5 (pc' := 233) (lv' := [some (.ref 57), some (.int x1), none, none, none, none, none]) (st' := [.int x1, .ref 63, .ref 71]) (I' := I) (J' := J) rfl ?_
    refine Wp.iald rfl rfl h.1 ?_
    replace h := h.2
    refine Wp.steps 5 (pc' := 243) (lv' := [some (.ref 57), some (.int x1), none, none, none, none, none]) (st' := [.int x1, .ref 63, .ref 72, .int (I 63 (tN x1)), .ref 71]) (I' := I) (J' := J) rfl ?_
    refine Wp.iald rfl rfl h.1 ?_
    replace h := h.2
    refine Wp.lald rfl rfl h.1 ?_
    replace h := h.2
    refine Wp.last rfl rfl h.1 ?_
    replace h := h.2
    refine Wp.steps 2 (pc' := 216) (lv' := [some (.ref 57), some (.int (x1 + 1)), none, none, none, none, none]) (st' := []) (I' := I) (J' := (upJ J 71 (tN (I 63 (tN x1))) (J 72 (tN (I 63 (tN x1)))))) rfl ?_
    exact h
  · replace h := h.2 h1
    exact Wp.ret rfl h
theorem v_Md_isSheet_0 {d : Nat} {Q : Post} {I : I2} {J : J2} {x0 : Int32} (h : CI d Md_in [.long (Int32.toInt64 x0), .long 0, .long 3] I J (fun v1 I1 J1 => (v1 = 0 ∨ v1 = 1) ∧ Q (some (.int v1)) I1 J1)) : Wp d Md_isSheet Q 0 [some (.int x0)] [] I J := by
  refine Wp.steps 4 (pc' := 6) (lv' := [some (.int x0)]) (st' := [.long 3, .long 0, .long (Int32.toInt64 x0)]) (I' := I) (J' := J) rfl ?_
  refine Wp.call (M' := Md_in) (as := [.long (Int32.toInt64 x0), .long 0, .long 3]) (rest := []) rfl (CI.use h (fun v1 I1 J1 h => ?_))
  refine Wp.eqs (pc' := 9) (st' := [.int v1]) rfl rfl ?_
  exact Wp.retZ rfl rfl h.1 h.2
theorem v_Md_isLane_0 {d : Nat} {Q : Post} {I : I2} {J : J2} {x0 : Int32} (h : CI d Md_in [.long (Int32.toInt64 x0), .long 0, .long 3] I J (fun v1 I1 J1 => (v1 = 0 ∨ v1 = 1) ∧ Q (some (.int v1)) I1 J1)) : Wp d Md_isLane Q 0 [some (.int x0)] [] I J := by
  refine Wp.steps 4 (pc' := 6) (lv' := [some (.int x0)]) (st' := [.long 3, .long 0, .long (Int32.toInt64 x0)]) (I' := I) (J' := J) rfl ?_
  refine Wp.call (M' := Md_in) (as := [.long (Int32.toInt64 x0), .long 0, .long 3]) (rest := []) rfl (CI.use h (fun v1 I1 J1 h => ?_))
  refine Wp.eqs (pc' := 9) (st' := [.int v1]) rfl rfl ?_
  exact Wp.retZ rfl rfl h.1 h.2
theorem v_Md_why_57_0 {d : Nat} {Q : Post} {I : I2} {J : J2} {x1 : Int32} {x2 : Int32} {x3 : Int32} {x4 : Int32} (h : vp_in x1 4 ∧ (((I 74 (tN x1)) < 0 → Q (some (.int (-11))) I J) ∧ (¬ ((I 74 (tN x1)) < 0) → vp_in x1 4 ∧ (((I 74 (tN x1)) = x2 → (x3 < 0 → Q (some (.int (-13))) I J) ∧ (¬ (x3 < 0) → (x4 < 0 → Q (some (.int (-13))) I J) ∧ (¬ (x4 < 0) → vp_in x1 4 ∧ ((0 < (lg_cmp ((Int32.toInt64 x3) + (Int32.toInt64 x4)) (Int32.toInt64 (I 75 (tN x1)))) → Q (some (.int (-13))) I J) ∧ (¬ (0 < (lg_cmp ((Int32.toInt64 x3) + (Int32.toInt64 x4)) (Int32.toInt64 (I 75 (tN x1))))) → Q (some (.int 0)) I J))))) ∧ (¬ ((I 74 (tN x1)) = x2) → Q (some (.int (-12))) I J))))) : Wp d Md_why Q 0 [some (.ref 57), some (.int x1), some (.int x2), some (.int x3), some (.int x4)] [] I J := by
  refine Wp.steps 3 (pc' := 5) (lv' := [some (.ref 57), some (.int x1), some (.int x2), some (.int x3), some (.int x4)]) (st' := [.int x1, .ref 74]) (I' := I) (J' := J) rfl ?_
  refine Wp.iald rfl rfl h.1 ?_
  replace h := h.2
  refine Wp.steps 1 (pc' := if (I 74 (tN x1)) < 0 then 9 else 12) (lv' := [some (.ref 57), some (.int x1), some (.int x2), some (.int x3), some (.int x4)]) (st' := []) (I' := I) (J' := J) rfl (Wp.ite (fun h1 => ?_) (fun h1 => ?_))
  · replace h := h.1 h1
    refine Wp.steps 1 (pc' := 11) (lv' := [some (.ref 57), some (.int x1), some (.int x2), some (.int x3), some (.int x4)]) (st' := [.int (-11)]) (I' := I) (J' := J) rfl ?_
    exact Wp.ret rfl h
  · replace h := h.2 h1
    refine Wp.steps 3 (pc' := 17) (lv' := [some (.ref 57), some (.int x1), some (.int x2), some (.int x3), some (.int x4)]) (st' := [.int x1, .ref 74]) (I' := I) (J' := J) rfl ?_
    refine Wp.iald rfl rfl h.1 ?_
    replace h := h.2
    refine Wp.steps 1 (pc' := 19) (lv' := [some (.ref 57), some (.int x1), some (.int x2), some (.int x3), some (.int x4)]) (st' := [.int x2, .int (I 74 (tN x1))]) (I' := I) (J' := J) rfl ?_
    refine Wp.steps 1 (pc' := if (I 74 (tN x1)) = x2 then 25 else 22) (lv' := [some (.ref 57), some (.int x1), some (.int x2), some (.int x3), some (.int x4)]) (st' := []) (I' := I) (J' := J) rfl (Wp.ite (fun h2 => ?_) (fun h2 => ?_))
    · replace h := h.1 h2
      refine Wp.steps 1 (pc' := 26) (lv' := [some (.ref 57), some (.int x1), some (.int x2), some (.int x3), some (.int x4)]) (st' := [.int x3]) (I' := I) (J' := J) rfl ?_
      refine Wp.steps 1 (pc' := if x3 < 0 then 51 else 29) (lv' := [some (.ref 57), some (.int x1), some (.int x2), some (.int x3), some (.int x4)]) (st' := []) (I' := I) (J' := J) rfl (Wp.ite (fun h3 => ?_) (fun h3 => ?_))
      · replace h := h.1 h3
        refine Wp.steps 2 (pc' := 57) (lv' := [some (.ref 57), some (.int x1), some (.int x2), some (.int x3), some (.int x4)]) (st' := [.int (-13)]) (I' := I) (J' := J) rfl ?_
        exact Wp.ret rfl h
      · replace h := h.2 h3
        refine Wp.steps 1 (pc' := 31) (lv' := [some (.ref 57), some (.int x1), some (.int x2), some (.int x3), some (.int x4)]) (st' := [.int x4]) (I' := I) (J' := J) rfl ?_
        refine Wp.steps 1 (pc' := if x4 < 0 then 51 else 34) (lv' := [some (.ref 57), some (.int x1), some (.int x2), some (.int x3), some (.int x4)]) (st' := []) (I' := I) (J' := J) rfl (Wp.ite (fun h4 => ?_) (fun h4 => ?_))
        · replace h := h.1 h4
          refine Wp.steps 2 (pc' := 57) (lv' := [some (.ref 57), some (.int x1), some (.int x2), some (.int x3), some (.int x4)]) (st' := [.int (-13)]) (I' := I) (J' := J) rfl ?_
          exact Wp.ret rfl h
        · replace h := h.2 h4
          refine Wp.steps 8 (pc' := 45) (lv' := [some (.ref 57), some (.int x1), some (.int x2), some (.int x3), some (.int x4)]) (st' := [.int x1, .ref 75, .long ((Int32.toInt64 x3) + (Int32.toInt64 x4))]) (I' := I) (J' := J) rfl ?_
          refine Wp.iald rfl rfl h.1 ?_
          replace h := h.2
          refine Wp.steps 2 (pc' := 48) (lv' := [some (.ref 57), some (.int x1), some (.int x2), some (.int x3), some (.int x4)]) (st' := [.int (lg_cmp ((Int32.toInt64 x3) + (Int32.toInt64 x4)) (Int32.toInt64 (I 75 (tN x1))))]) (I' := I) (J' := J) rfl ?_
          refine Wp.steps 1 (pc' := if 0 < (lg_cmp ((Int32.toInt64 x3) + (Int32.toInt64 x4)) (Int32.toInt64 (I 75 (tN x1)))) then 51 else 56) (lv' := [some (.ref 57), some (.int x1), some (.int x2), some (.int x3), some (.int x4)]) (st' := []) (I' := I) (J' := J) rfl (Wp.ite (fun h5 => ?_) (fun h5 => ?_))
          · replace h := h.1 h5
            refine Wp.steps 2 (pc' := 57) (lv' := [some (.ref 57), some (.int x1), some (.int x2), some (.int x3), some (.int x4)]) (st' := [.int (-13)]) (I' := I) (J' := J) rfl ?_
            exact Wp.ret rfl h
          · replace h := h.2 h5
            refine Wp.steps 1 (pc' := 57) (lv' := [some (.ref 57), some (.int x1), some (.int x2), some (.int x3), some (.int x4)]) (st' := [.int 0]) (I' := I) (J' := J) rfl ?_
            exact Wp.ret rfl h
    · replace h := h.2 h2
      refine Wp.steps 1 (pc' := 24) (lv' := [some (.ref 57), some (.int x1), some (.int x2), some (.int x3), some (.int x4)]) (st' := [.int (-12)]) (I' := I) (J' := J) rfl ?_
      exact Wp.ret rfl h
theorem v_Md_clicksSo_57_0 {d : Nat} {Q : Post} {I : I2} {J : J2} {x1 : Int32} {x2 : Int32} {x3 : Int32} (h : Wp d Md_clicksSo Q 14 [some (.ref 57), some (.int x1), some (.int x2), some (.int x3), some (.int (I 58 5)), some (.int 1), some (.int 0), none, none] [] I J) : Wp d Md_clicksSo Q 0 [some (.ref 57), some (.int x1), some (.int x2), some (.int x3), none, none, none, none, none] [] I J := by
  refine Wp.steps 9 (pc' := 14) (lv' := [some (.ref 57), some (.int x1), some (.int x2), some (.int x3), some (.int (I 58 5)), some (.int 1), some (.int 0), none, none]) (st' := []) (I' := I) (J' := J) rfl ?_
  exact h
theorem v_Md_clicksSo_57_14 {d : Nat} {Q : Post} {I : I2} {J : J2} {x1 : Int32} {x2 : Int32} {x3 : Int32} {x4 : Int32} {x5 : Int32} {x6 : Int32} (h : (x6 < x2 → (x5 = 0 → (x5 = 0 ∨ x5 = 1) ∧ Q (some (.int x5)) I J) ∧ (¬ (x5 = 0) → vp_in (x1 + (2 * x6)) 96 ∧ (CI d Md_may [.ref 57, .int x4, .int ((Int64.toInt32 (J 76 (tN (x1 + (2 * x6))))) / 10), .int (rmI (Int64.toInt32 (J 76 (tN (x1 + (2 * x6))))) 10), .int x3] I J (fun v1 I1 J1 => vp_in ((x1 + (2 * x6)) + 1) 96 ∧ (((lg_cmp (J1 76 (tN ((x1 + (2 * x6)) + 1))) 1) = 0 → (v1 = 1 → (v1 = 0 → Wp d Md_clicksSo Q 14 [some (.ref 57), some (.int x1), some (.int x2), some (.int x3), some (.int x4), some (.int 1), some (.int (x6 + 1)), none, none] [] I1 J1) ∧ (¬ (v1 = 0) → CI d Md_behind [.ref 57, .int x4, .int ((Int64.toInt32 (J 76 (tN (x1 + (2 * x6))))) / 10), .int (rmI (Int64.toInt32 (J 76 (tN (x1 + (2 * x6))))) 10)] I1 J1 (fun v2 I2 J2 => Wp d Md_clicksSo Q 14 [some (.ref 57), some (.int x1), some (.int x2), some (.int x3), some (.int v2), some (.int 1), some (.int (x6 + 1)), none, none] [] I2 J2))) ∧ (¬ (v1 = 1) → (v1 = 0 → Wp d Md_clicksSo Q 14 [some (.ref 57), some (.int x1), some (.int x2), some (.int x3), some (.int x4), some (.int 0), some (.int (x6 + 1)), none, none] [] I1 J1) ∧ (¬ (v1 = 0) → CI d Md_behind [.ref 57, .int x4, .int ((Int64.toInt32 (J 76 (tN (x1 + (2 * x6))))) / 10), .int (rmI (Int64.toInt32 (J 76 (tN (x1 + (2 * x6))))) 10)] I1 J1 (fun v2 I2 J2 => Wp d Md_clicksSo Q 14 [some (.ref 57), some (.int x1), some (.int x2), some (.int x3), some (.int v2), some (.int 0), some (.int (x6 + 1)), none, none] [] I2 J2)))) ∧ (¬ ((lg_cmp (J1 76 (tN ((x1 + (2 * x6)) + 1))) 1) = 0) → (v1 = 0 → Wp d Md_clicksSo Q 14 [some (.ref 57), some (.int x1), some (.int x2), some (.int x3), some (.int x4), some (.int 1), some (.int (x6 + 1)), none, none] [] I1 J1) ∧ (¬ (v1 = 0) → CI d Md_behind [.ref 57, .int x4, .int ((Int64.toInt32 (J 76 (tN (x1 + (2 * x6))))) / 10), .int (rmI (Int64.toInt32 (J 76 (tN (x1 + (2 * x6))))) 10)] I1 J1 (fun v2 I2 J2 => Wp d Md_clicksSo Q 14 [some (.ref 57), some (.int x1), some (.int x2), some (.int x3), some (.int v2), some (.int 0), some (.int (x6 + 1)), none, none] [] I2 J2)))))))) ∧ (¬ (x6 < x2) → (x5 = 0 ∨ x5 = 1) ∧ Q (some (.int x5)) I J)) : Wp d Md_clicksSo Q 14 [some (.ref 57), some (.int x1), some (.int x2), some (.int x3), some (.int x4), some (.int x5), some (.int x6), none, none] [] I J := by
  refine Wp.steps 2 (pc' := 17) (lv' := [some (.ref 57), some (.int x1), some (.int x2), some (.int x3), some (.int x4), some (.int x5), some (.int x6), none, none]) (st' := [.int x2, .int x6]) (I' := I) (J' := J) rfl ?_
  refine Wp.steps 1 (pc' := if x6 < x2 then 20 else 127) (lv' := [some (.ref 57), some (.int x1), some (.int x2), some (.int x3), some (.int x4), some (.int x5), some (.int x6), none, none]) (st' := []) (I' := I) (J' := J) rfl (Wp.ite (fun h1 => ?_) (fun h1 => ?_))
  · replace h := h.1 h1
    refine Wp.steps 1 (pc' := 22) (lv' := [some (.ref 57), some (.int x1), some (.int x2), some (.int x3), some (.int x4), some (.int x5), some (.int x6), none, none]) (st' := [.int x5]) (I' := I) (J' := J) rfl ?_
    refine Wp.steps 1 (pc' := if x5 = 0 then 127 else 25) (lv' := [some (.ref 57), some (.int x1), some (.int x2), some (.int x3), some (.int x4), some (.int x5), some (.int x6), none, none]) (st' := []) (I' := I) (J' := J) rfl (Wp.ite (fun h2 => ?_) (fun h2 => ?_))
    · replace h := h.1 h2
      refine Wp.steps 1 (pc' := 129) (lv' := [some (.ref 57), some (.int x1), some (.int x2), some (.int x3), some (.int x4), some (.int x5), some (.int x6), none, none]) (st' := [.int x5]) (I' := I) (J' := J) rfl ?_
      exact Wp.retZ rfl rfl h.1 h.2
    · replace h := h.2 h2
      refine Wp.steps 7 (pc' := 35) (lv' := [some (.ref 57), some (.int x1), some (.int x2), some (.int x3), some (.int x4), some (.int x5), some (.int x6), none, none]) (st' := [.int (x1 + (2 * x6)), .ref 76]) (I' := I) (J' := J) rfl ?_
      refine Wp.lald rfl rfl h.1 ?_
      replace h := h.2
      refine Wp.steps 11 (pc' := 53) (lv' := [some (.ref 57), some (.int x1), some (.int x2), some (.int x3), some (.int x4), some (.int x5), some (.int x6), some (.int (Int64.toInt32 (J 76 (tN (x1 + (2 * x6)))))), none]) (st' := [.int x3, .int (rmI (Int64.toInt32 (J 76 (tN (x1 + (2 * x6))))) 10), .int ((Int64.toInt32 (J 76 (tN (x1 + (2 * x6))))) / 10), .int x4, .ref 57]) (I' := I) (J' := J) rfl ?_
      refine Wp.call (M' := Md_may) (as := [.ref 57, .int x4, .int ((Int64.toInt32 (J 76 (tN (x1 + (2 * x6))))) / 10), .int (rmI (Int64.toInt32 (J 76 (tN (x1 + (2 * x6))))) 10), .int x3]) (rest := []) rfl (CI.use h (fun v1 I1 J1 h => ?_))
      refine Wp.eqs (pc' := 56) (st' := [.int v1]) rfl rfl ?_
      refine Wp.steps 11 (pc' := 72) (lv' := [some (.ref 57), some (.int x1), some (.int x2), some (.int x3), some (.int x4), some (.int x5), some (.int x6), some (.int (Int64.toInt32 (J 76 (tN (x1 + (2 * x6)))))), some (.int v1)]) (st' := [.int ((x1 + (2 * x6)) + 1), .ref 76, .int v1]) (I' := I1) (J' := J1) rfl ?_
      refine Wp.lald rfl rfl h.1 ?_
      replace h := h.2
      refine Wp.steps 2 (pc' := 75) (lv' := [some (.ref 57), some (.int x1), some (.int x2), some (.int x3), some (.int x4), some (.int x5), some (.int x6), some (.int (Int64.toInt32 (J 76 (tN (x1 + (2 * x6)))))), some (.int v1)]) (st' := [.int (lg_cmp (J1 76 (tN ((x1 + (2 * x6)) + 1))) 1), .int v1]) (I' := I1) (J' := J1) rfl ?_
      refine Wp.steps 1 (pc' := if (lg_cmp (J1 76 (tN ((x1 + (2 * x6)) + 1))) 1) = 0 then 78 else 82) (lv' := [some (.ref 57), some (.int x1), some (.int x2), some (.int x3), some (.int x4), some (.int x5), some (.int x6), some (.int (Int64.toInt32 (J 76 (tN (x1 + (2 * x6)))))), some (.int v1)]) (st' := [.int v1]) (I' := I1) (J' := J1) rfl (Wp.ite (fun h3 => ?_) (fun h3 => ?_))
      · replace h := h.1 h3
        refine Wp.steps 2 (pc' := 83) (lv' := [some (.ref 57), some (.int x1), some (.int x2), some (.int x3), some (.int x4), some (.int x5), some (.int x6), some (.int (Int64.toInt32 (J 76 (tN (x1 + (2 * x6)))))), some (.int v1)]) (st' := [.int 1, .int v1]) (I' := I1) (J' := J1) rfl ?_
        refine Wp.steps 1 (pc' := if v1 = 1 then 86 else 90) (lv' := [some (.ref 57), some (.int x1), some (.int x2), some (.int x3), some (.int x4), some (.int x5), some (.int x6), some (.int (Int64.toInt32 (J 76 (tN (x1 + (2 * x6)))))), some (.int v1)]) (st' := []) (I' := I1) (J' := J1) rfl (Wp.ite (fun h4 => ?_) (fun h4 => ?_))
        · replace h := h.1 h4
          refine Wp.steps 4 (pc' := 95) (lv' := [some (.ref 57), some (.int x1), some (.int x2), some (.int x3), some (.int x4), some (.int 1), some (.int x6), some (.int (Int64.toInt32 (J 76 (tN (x1 + (2 * x6)))))), some (.int v1)]) (st' := [.int v1]) (I' := I1) (J' := J1) rfl ?_
          refine Wp.steps 1 (pc' := if v1 = 0 then 117 else 98) (lv' := [some (.ref 57), some (.int x1), some (.int x2), some (.int x3), some (.int x4), some (.int 1), some (.int x6), some (.int (Int64.toInt32 (J 76 (tN (x1 + (2 * x6)))))), some (.int v1)]) (st' := []) (I' := I1) (J' := J1) rfl (Wp.ite (fun h5 => ?_) (fun h5 => ?_))
          · replace h := h.1 h5
            refine Wp.steps 4 (pc' := 14) (lv' := [some (.ref 57), some (.int x1), some (.int x2), some (.int x3), some (.int x4), some (.int 1), some (.int (x6 + 1)), some (.int (Int64.toInt32 (J 76 (tN (x1 + (2 * x6)))))), some (.int v1)]) (st' := []) (I' := I1) (J' := J1) rfl ?_
            refine Wp.drop [7, 8] (lv' := [some (.ref 57), some (.int x1), some (.int x2), some (.int x3), some (.int x4), some (.int 1), some (.int (x6 + 1)), none, none]) rfl ?_
            exact h
          · replace h := h.2 h5
            refine Wp.steps 8 (pc' := 111) (lv' := [some (.ref 57), some (.int x1), some (.int x2), some (.int x3), some (.int x4), some (.int 1), some (.int x6), some (.int (Int64.toInt32 (J 76 (tN (x1 + (2 * x6)))))), some (.int v1)]) (st' := [.int (rmI (Int64.toInt32 (J 76 (tN (x1 + (2 * x6))))) 10), .int ((Int64.toInt32 (J 76 (tN (x1 + (2 * x6))))) / 10), .int x4, .ref 57]) (I' := I1) (J' := J1) rfl ?_
            refine Wp.call (M' := Md_behind) (as := [.ref 57, .int x4, .int ((Int64.toInt32 (J 76 (tN (x1 + (2 * x6))))) / 10), .int (rmI (Int64.toInt32 (J 76 (tN (x1 + (2 * x6))))) 10)]) (rest := []) rfl (CI.use h (fun v2 I2 J2 h => ?_))
            refine Wp.eqs (pc' := 114) (st' := [.int v2]) rfl rfl ?_
            refine Wp.steps 4 (pc' := 14) (lv' := [some (.ref 57), some (.int x1), some (.int x2), some (.int x3), some (.int v2), some (.int 1), some (.int (x6 + 1)), some (.int (Int64.toInt32 (J 76 (tN (x1 + (2 * x6)))))), some (.int v1)]) (st' := []) (I' := I2) (J' := J2) rfl ?_
            refine Wp.drop [7, 8] (lv' := [some (.ref 57), some (.int x1), some (.int x2), some (.int x3), some (.int v2), some (.int 1), some (.int (x6 + 1)), none, none]) rfl ?_
            exact h
        · replace h := h.2 h4
          refine Wp.steps 3 (pc' := 95) (lv' := [some (.ref 57), some (.int x1), some (.int x2), some (.int x3), some (.int x4), some (.int 0), some (.int x6), some (.int (Int64.toInt32 (J 76 (tN (x1 + (2 * x6)))))), some (.int v1)]) (st' := [.int v1]) (I' := I1) (J' := J1) rfl ?_
          refine Wp.steps 1 (pc' := if v1 = 0 then 117 else 98) (lv' := [some (.ref 57), some (.int x1), some (.int x2), some (.int x3), some (.int x4), some (.int 0), some (.int x6), some (.int (Int64.toInt32 (J 76 (tN (x1 + (2 * x6)))))), some (.int v1)]) (st' := []) (I' := I1) (J' := J1) rfl (Wp.ite (fun h5 => ?_) (fun h5 => ?_))
          · replace h := h.1 h5
            refine Wp.steps 4 (pc' := 14) (lv' := [some (.ref 57), some (.int x1), some (.int x2), some (.int x3), some (.int x4), some (.int 0), some (.int (x6 + 1)), some (.int (Int64.toInt32 (J 76 (tN (x1 + (2 * x6)))))), some (.int v1)]) (st' := []) (I' := I1) (J' := J1) rfl ?_
            refine Wp.drop [7, 8] (lv' := [some (.ref 57), some (.int x1), some (.int x2), some (.int x3), some (.int x4), some (.int 0), some (.int (x6 + 1)), none, none]) rfl ?_
            exact h
          · replace h := h.2 h5
            refine Wp.steps 8 (pc' := 111) (lv' := [some (.ref 57), some (.int x1), some (.int x2), some (.int x3), some (.int x4), some (.int 0), some (.int x6), some (.int (Int64.toInt32 (J 76 (tN (x1 + (2 * x6)))))), some (.int v1)]) (st' := [.int (rmI (Int64.toInt32 (J 76 (tN (x1 + (2 * x6))))) 10), .int ((Int64.toInt32 (J 76 (tN (x1 + (2 * x6))))) / 10), .int x4, .ref 57]) (I' := I1) (J' := J1) rfl ?_
            refine Wp.call (M' := Md_behind) (as := [.ref 57, .int x4, .int ((Int64.toInt32 (J 76 (tN (x1 + (2 * x6))))) / 10), .int (rmI (Int64.toInt32 (J 76 (tN (x1 + (2 * x6))))) 10)]) (rest := []) rfl (CI.use h (fun v2 I2 J2 h => ?_))
            refine Wp.eqs (pc' := 114) (st' := [.int v2]) rfl rfl ?_
            refine Wp.steps 4 (pc' := 14) (lv' := [some (.ref 57), some (.int x1), some (.int x2), some (.int x3), some (.int v2), some (.int 0), some (.int (x6 + 1)), some (.int (Int64.toInt32 (J 76 (tN (x1 + (2 * x6)))))), some (.int v1)]) (st' := []) (I' := I2) (J' := J2) rfl ?_
            refine Wp.drop [7, 8] (lv' := [some (.ref 57), some (.int x1), some (.int x2), some (.int x3), some (.int v2), some (.int 0), some (.int (x6 + 1)), none, none]) rfl ?_
            exact h
      · replace h := h.2 h3
        refine Wp.steps 1 (pc' := 83) (lv' := [some (.ref 57), some (.int x1), some (.int x2), some (.int x3), some (.int x4), some (.int x5), some (.int x6), some (.int (Int64.toInt32 (J 76 (tN (x1 + (2 * x6)))))), some (.int v1)]) (st' := [.int 0, .int v1]) (I' := I1) (J' := J1) rfl ?_
        refine Wp.steps 1 (pc' := if v1 = 0 then 86 else 90) (lv' := [some (.ref 57), some (.int x1), some (.int x2), some (.int x3), some (.int x4), some (.int x5), some (.int x6), some (.int (Int64.toInt32 (J 76 (tN (x1 + (2 * x6)))))), some (.int v1)]) (st' := []) (I' := I1) (J' := J1) rfl (Wp.ite (fun h4 => ?_) (fun h4 => ?_))
        · replace h := h.1 h4
          refine Wp.steps 4 (pc' := 95) (lv' := [some (.ref 57), some (.int x1), some (.int x2), some (.int x3), some (.int x4), some (.int 1), some (.int x6), some (.int (Int64.toInt32 (J 76 (tN (x1 + (2 * x6)))))), some (.int v1)]) (st' := [.int v1]) (I' := I1) (J' := J1) rfl ?_
          refine Wp.steps 1 (pc' := if v1 = 0 then 117 else 98) (lv' := [some (.ref 57), some (.int x1), some (.int x2), some (.int x3), some (.int x4), some (.int 1), some (.int x6), some (.int (Int64.toInt32 (J 76 (tN (x1 + (2 * x6)))))), some (.int v1)]) (st' := []) (I' := I1) (J' := J1) rfl ?_
          rw [if_pos h4]
          refine Wp.steps 4 (pc' := 14) (lv' := [some (.ref 57), some (.int x1), some (.int x2), some (.int x3), some (.int x4), some (.int 1), some (.int (x6 + 1)), some (.int (Int64.toInt32 (J 76 (tN (x1 + (2 * x6)))))), some (.int v1)]) (st' := []) (I' := I1) (J' := J1) rfl ?_
          refine Wp.drop [7, 8] (lv' := [some (.ref 57), some (.int x1), some (.int x2), some (.int x3), some (.int x4), some (.int 1), some (.int (x6 + 1)), none, none]) rfl ?_
          exact h
        · replace h := h.2 h4
          refine Wp.steps 3 (pc' := 95) (lv' := [some (.ref 57), some (.int x1), some (.int x2), some (.int x3), some (.int x4), some (.int 0), some (.int x6), some (.int (Int64.toInt32 (J 76 (tN (x1 + (2 * x6)))))), some (.int v1)]) (st' := [.int v1]) (I' := I1) (J' := J1) rfl ?_
          refine Wp.steps 1 (pc' := if v1 = 0 then 117 else 98) (lv' := [some (.ref 57), some (.int x1), some (.int x2), some (.int x3), some (.int x4), some (.int 0), some (.int x6), some (.int (Int64.toInt32 (J 76 (tN (x1 + (2 * x6)))))), some (.int v1)]) (st' := []) (I' := I1) (J' := J1) rfl ?_
          rw [if_neg h4]
          refine Wp.steps 8 (pc' := 111) (lv' := [some (.ref 57), some (.int x1), some (.int x2), some (.int x3), some (.int x4), some (.int 0), some (.int x6), some (.int (Int64.toInt32 (J 76 (tN (x1 + (2 * x6)))))), some (.int v1)]) (st' := [.int (rmI (Int64.toInt32 (J 76 (tN (x1 + (2 * x6))))) 10), .int ((Int64.toInt32 (J 76 (tN (x1 + (2 * x6))))) / 10), .int x4, .ref 57]) (I' := I1) (J' := J1) rfl ?_
          refine Wp.call (M' := Md_behind) (as := [.ref 57, .int x4, .int ((Int64.toInt32 (J 76 (tN (x1 + (2 * x6))))) / 10), .int (rmI (Int64.toInt32 (J 76 (tN (x1 + (2 * x6))))) 10)]) (rest := []) rfl (CI.use h (fun v2 I2 J2 h => ?_))
          refine Wp.eqs (pc' := 114) (st' := [.int v2]) rfl rfl ?_
          refine Wp.steps 4 (pc' := 14) (lv' := [some (.ref 57), some (.int x1), some (.int x2), some (.int x3), some (.int v2), some (.int 0), some (.int (x6 + 1)), some (.int (Int64.toInt32 (J 76 (tN (x1 + (2 * x6)))))), some (.int v1)]) (st' := []) (I' := I2) (J' := J2) rfl ?_
          refine Wp.drop [7, 8] (lv' := [some (.ref 57), some (.int x1), some (.int x2), some (.int x3), some (.int v2), some (.int 0), some (.int (x6 + 1)), none, none]) rfl ?_
          exact h
  · replace h := h.2 h1
    refine Wp.steps 1 (pc' := 129) (lv' := [some (.ref 57), some (.int x1), some (.int x2), some (.int x3), some (.int x4), some (.int x5), some (.int x6), none, none]) (st' := [.int x5]) (I' := I) (J' := J) rfl ?_
    exact Wp.retZ rfl rfl h.1 h.2
theorem v_Md_kindsBy_57_0 {d : Nat} {Q : Post} {I : I2} {J : J2} {x1 : Int32} {x2 : Int32} {x3 : Int32} (h : CI d Md_kind [.ref 57, .int x1] I J (fun v1 I1 J1 => Wp d Md_kindsBy Q 13 [some (.ref 57), some (.int x1), some (.int x2), some (.int x3), some (.int v1), some (.int 0), some (.int 0)] [] I1 J1)) : Wp d Md_kindsBy Q 0 [some (.ref 57), some (.int x1), some (.int x2), some (.int x3), none, none, none] [] I J := by
  refine Wp.steps 2 (pc' := 2) (lv' := [some (.ref 57), some (.int x1), some (.int x2), some (.int x3), none, none, none]) (st' := [.int x1, .ref 57]) (I' := I) (J' := J) rfl ?_
  refine Wp.call (M' := Md_kind) (as := [.ref 57, .int x1]) (rest := []) rfl (CI.use h (fun v1 I1 J1 h => ?_))
  refine Wp.eqs (pc' := 5) (st' := [.int v1]) rfl rfl ?_
  refine Wp.steps 5 (pc' := 13) (lv' := [some (.ref 57), some (.int x1), some (.int x2), some (.int x3), some (.int v1), some (.int 0), some (.int 0)]) (st' := []) (I' := I1) (J' := J1) rfl ?_
  exact h
theorem v_Md_kindsBy_57_13 {d : Nat} {Q : Post} {I : I2} {J : J2} {x1 : Int32} {x2 : Int32} {x3 : Int32} {x4 : Int32} {x5 : Int32} {x6 : Int32} (h : (x6 < 5 → vp_in (6 + (2 * x1)) 40 ∧ (CI d Md_clicksSo [.ref 57, .int x2, .int x3, .int ((up2 I 58 (tN (6 + (2 * x1))) x6) 58 3)] (up2 I 58 (tN (6 + (2 * x1))) x6) J (fun v1 I1 J1 => (v1 = 0 → Wp d Md_kindsBy Q 13 [some (.ref 57), some (.int x1), some (.int x2), some (.int x3), some (.int x4), some (.int (x5 ||| 0)), some (.int (x6 + 1))] [] I1 J1) ∧ (¬ (v1 = 0) → Wp d Md_kindsBy Q 13 [some (.ref 57), some (.int x1), some (.int x2), some (.int x3), some (.int x4), some (.int (x5 ||| (slI 1 x6))), some (.int (x6 + 1))] [] I1 J1)))) ∧ (¬ (x6 < 5) → vp_in (6 + (2 * x1)) 40 ∧ (Q (some (.int x5)) (up2 I 58 (tN (6 + (2 * x1))) x4) J))) : Wp d Md_kindsBy Q 13 [some (.ref 57), some (.int x1), some (.int x2), some (.int x3), some (.int x4), some (.int x5), some (.int x6)] [] I J := by
  refine Wp.steps 2 (pc' := 16) (lv' := [some (.ref 57), some (.int x1), some (.int x2), some (.int x3), some (.int x4), some (.int x5), some (.int x6)]) (st' := [.int 5, .int x6]) (I' := I) (J' := J) rfl ?_
  refine Wp.steps 1 (pc' := if x6 < 5 then 19 else 66) (lv' := [some (.ref 57), some (.int x1), some (.int x2), some (.int x3), some (.int x4), some (.int x5), some (.int x6)]) (st' := []) (I' := I) (J' := J) rfl (Wp.ite (fun h1 => ?_) (fun h1 => ?_))
  · replace h := h.1 h1
    refine Wp.steps 8 (pc' := 31) (lv' := [some (.ref 57), some (.int x1), some (.int x2), some (.int x3), some (.int x4), some (.int x5), some (.int x6)]) (st' := [.int x6, .int (6 + (2 * x1)), .ref 58]) (I' := I) (J' := J) rfl ?_
    refine Wp.iast rfl rfl h.1 ?_
    replace h := h.2
    refine Wp.steps 8 (pc' := 43) (lv' := [some (.ref 57), some (.int x1), some (.int x2), some (.int x3), some (.int x4), some (.int x5), some (.int x6)]) (st' := [.int ((up2 I 58 (tN (6 + (2 * x1))) x6) 58 3), .int x3, .int x2, .ref 57, .int x5]) (I' := (up2 I 58 (tN (6 + (2 * x1))) x6)) (J' := J) rfl ?_
    refine Wp.call (M' := Md_clicksSo) (as := [.ref 57, .int x2, .int x3, .int ((up2 I 58 (tN (6 + (2 * x1))) x6) 58 3)]) (rest := [.int x5]) rfl (CI.use h (fun v1 I1 J1 h => ?_))
    refine Wp.eqs (pc' := 46) (st' := [.int v1, .int x5]) rfl rfl ?_
    refine Wp.steps 1 (pc' := if v1 = 0 then 56 else 49) (lv' := [some (.ref 57), some (.int x1), some (.int x2), some (.int x3), some (.int x4), some (.int x5), some (.int x6)]) (st' := [.int x5]) (I' := I1) (J' := J1) rfl (Wp.ite (fun h2 => ?_) (fun h2 => ?_))
    · replace h := h.1 h2
      refine Wp.steps 5 (pc' := 13) (lv' := [some (.ref 57), some (.int x1), some (.int x2), some (.int x3), some (.int x4), some (.int (x5 ||| 0)), some (.int (x6 + 1))]) (st' := []) (I' := I1) (J' := J1) rfl ?_
      exact h
    · replace h := h.2 h2
      refine Wp.steps 8 (pc' := 13) (lv' := [some (.ref 57), some (.int x1), some (.int x2), some (.int x3), some (.int x4), some (.int (x5 ||| (slI 1 x6))), some (.int (x6 + 1))]) (st' := []) (I' := I1) (J' := J1) rfl ?_
      exact h
  · replace h := h.2 h1
    refine Wp.steps 8 (pc' := 78) (lv' := [some (.ref 57), some (.int x1), some (.int x2), some (.int x3), some (.int x4), some (.int x5), some (.int x6)]) (st' := [.int x4, .int (6 + (2 * x1)), .ref 58]) (I' := I) (J' := J) rfl ?_
    refine Wp.iast rfl rfl h.1 ?_
    replace h := h.2
    refine Wp.steps 1 (pc' := 81) (lv' := [some (.ref 57), some (.int x1), some (.int x2), some (.int x3), some (.int x4), some (.int x5), some (.int x6)]) (st' := [.int x5]) (I' := (up2 I 58 (tN (6 + (2 * x1))) x4)) (J' := J) rfl ?_
    exact Wp.ret rfl h
theorem v_Md_may_57_0 {d : Nat} {Q : Post} {I : I2} {J : J2} {x1 : Int32} {x2 : Int32} {x3 : Int32} {x4 : Int32} (h : (x3 = 0 → CI d Md_placeIn [.int x1, .int x2] I J (fun v1 I1 J1 => (0 < v1 → Wp d Md_may Q 43 [some (.ref 57), some (.int x1), some (.int x2), some (.int x3), some (.int x4), some (.int 1), some (.int 0)] [] I1 J1) ∧ (¬ (0 < v1) → Wp d Md_may Q 43 [some (.ref 57), some (.int x1), some (.int x2), some (.int x3), some (.int x4), some (.int 0), some (.int 0)] [] I1 J1))) ∧ (¬ (x3 = 0) → CI d Md_placeIn [.int x1, .int x2] I J (fun v1 I1 J1 => CI d Md_deep [.ref 57, .int x2] I1 J1 (fun v2 I2 J2 => (v1 < v2 → Wp d Md_may Q 43 [some (.ref 57), some (.int x1), some (.int x2), some (.int x3), some (.int x4), some (.int 1), some (.int 0)] [] I2 J2) ∧ (¬ (v1 < v2) → Wp d Md_may Q 43 [some (.ref 57), some (.int x1), some (.int x2), some (.int x3), some (.int x4), some (.int 0), some (.int 0)] [] I2 J2))))) : Wp d Md_may Q 0 [some (.ref 57), some (.int x1), some (.int x2), some (.int x3), some (.int x4), none, none] [] I J := by
  refine Wp.steps 1 (pc' := 1) (lv' := [some (.ref 57), some (.int x1), some (.int x2), some (.int x3), some (.int x4), none, none]) (st' := [.int x3]) (I' := I) (J' := J) rfl ?_
  refine Wp.steps 1 (pc' := if x3 = 0 then 4 else 20) (lv' := [some (.ref 57), some (.int x1), some (.int x2), some (.int x3), some (.int x4), none, none]) (st' := []) (I' := I) (J' := J) rfl (Wp.ite (fun h1 => ?_) (fun h1 => ?_))
  · replace h := h.1 h1
    refine Wp.steps 2 (pc' := 6) (lv' := [some (.ref 57), some (.int x1), some (.int x2), some (.int x3), some (.int x4), none, none]) (st' := [.int x2, .int x1]) (I' := I) (J' := J) rfl ?_
    refine Wp.call (M' := Md_placeIn) (as := [.int x1, .int x2]) (rest := []) rfl (CI.use h (fun v1 I1 J1 h => ?_))
    refine Wp.eqs (pc' := 9) (st' := [.int v1]) rfl rfl ?_
    refine Wp.steps 1 (pc' := if 0 < v1 then 12 else 16) (lv' := [some (.ref 57), some (.int x1), some (.int x2), some (.int x3), some (.int x4), none, none]) (st' := []) (I' := I1) (J' := J1) rfl (Wp.ite (fun h2 => ?_) (fun h2 => ?_))
    · replace h := h.1 h2
      refine Wp.steps 5 (pc' := 43) (lv' := [some (.ref 57), some (.int x1), some (.int x2), some (.int x3), some (.int x4), some (.int 1), some (.int 0)]) (st' := []) (I' := I1) (J' := J1) rfl ?_
      exact h
    · replace h := h.2 h2
      refine Wp.steps 5 (pc' := 43) (lv' := [some (.ref 57), some (.int x1), some (.int x2), some (.int x3), some (.int x4), some (.int 0), some (.int 0)]) (st' := []) (I' := I1) (J' := J1) rfl ?_
      exact h
  · replace h := h.2 h1
    refine Wp.steps 2 (pc' := 22) (lv' := [some (.ref 57), some (.int x1), some (.int x2), some (.int x3), some (.int x4), none, none]) (st' := [.int x2, .int x1]) (I' := I) (J' := J) rfl ?_
    refine Wp.call (M' := Md_placeIn) (as := [.int x1, .int x2]) (rest := []) rfl (CI.use h (fun v1 I1 J1 h => ?_))
    refine Wp.eqs (pc' := 25) (st' := [.int v1]) rfl rfl ?_
    refine Wp.steps 2 (pc' := 27) (lv' := [some (.ref 57), some (.int x1), some (.int x2), some (.int x3), some (.int x4), none, none]) (st' := [.int x2, .ref 57, .int v1]) (I' := I1) (J' := J1) rfl ?_
    refine Wp.call (M' := Md_deep) (as := [.ref 57, .int x2]) (rest := [.int v1]) rfl (CI.use h (fun v2 I2 J2 h => ?_))
    refine Wp.eqs (pc' := 30) (st' := [.int v2, .int v1]) rfl rfl ?_
    refine Wp.steps 1 (pc' := if v1 < v2 then 33 else 37) (lv' := [some (.ref 57), some (.int x1), some (.int x2), some (.int x3), some (.int x4), none, none]) (st' := []) (I' := I2) (J' := J2) rfl (Wp.ite (fun h2 => ?_) (fun h2 => ?_))
    · replace h := h.1 h2
      refine Wp.steps 5 (pc' := 43) (lv' := [some (.ref 57), some (.int x1), some (.int x2), some (.int x3), some (.int x4), some (.int 1), some (.int 0)]) (st' := []) (I' := I2) (J' := J2) rfl ?_
      exact h
    · replace h := h.2 h2
      refine Wp.steps 4 (pc' := 43) (lv' := [some (.ref 57), some (.int x1), some (.int x2), some (.int x3), some (.int x4), some (.int 0), some (.int 0)]) (st' := []) (I' := I2) (J' := J2) rfl ?_
      exact h
theorem v_Md_may_57_43 {d : Nat} {Q : Post} {I : I2} {J : J2} {x1 : Int32} {x2 : Int32} {x3 : Int32} {x4 : Int32} {x5 : Int32} {x6 : Int32} (h : (x6 < (I 58 1) → (x5 = 0 → CI d Md_kind [.ref 57, .int x2] I J (fun v1 I1 J1 => (v1 = 2 → Q (some (.int 0)) I1 J1) ∧ (¬ (v1 = 2) → CI d Md_kind [.ref 57, .int x2] I1 J1 (fun v2 I2 J2 => (v2 = 4 → (x3 = 1 → Q (some (.int 0)) I2 J2) ∧ (¬ (x3 = 1) → Q (some (.int 0)) I2 J2)) ∧ (¬ (v2 = 4) → Q (some (.int 0)) I2 J2))))) ∧ (¬ (x5 = 0) → CI d Md_lets [.ref 57, .int x6, .int x1, .int x2, .int x3, .int x4] I J (fun v1 I1 J1 => Wp d Md_may Q 43 [some (.ref 57), some (.int x1), some (.int x2), some (.int x3), some (.int x4), some (.int v1), some (.int (x6 + 1))] [] I1 J1))) ∧ (¬ (x6 < (I 58 1)) → CI d Md_kind [.ref 57, .int x2] I J (fun v1 I1 J1 => (v1 = 2 → (x5 = 0 → Q (some (.int 0)) I1 J1) ∧ (¬ (x5 = 0) → CI d Md_isRing [.int x1, .int x2] I1 J1 (fun v2 I2 J2 => (v2 = 0 → Q (some (.int 0)) I2 J2) ∧ (¬ (v2 = 0) → Q (some (.int 1)) I2 J2)))) ∧ (¬ (v1 = 2) → CI d Md_kind [.ref 57, .int x2] I1 J1 (fun v2 I2 J2 => (v2 = 4 → (x3 = 1 → (x5 = 0 → Q (some (.int 0)) I2 J2) ∧ (¬ (x5 = 0) → CI d Md_isRing [.int x1, .int x2] I2 J2 (fun v3 I3 J3 => (v3 = 0 → Q (some (.int 0)) I3 J3) ∧ (¬ (v3 = 0) → Q (some (.int 1)) I3 J3)))) ∧ (¬ (x3 = 1) → (x5 = 0 → Q (some (.int 0)) I2 J2) ∧ (¬ (x5 = 0) → Q (some (.int 1)) I2 J2))) ∧ (¬ (v2 = 4) → (x5 = 0 → Q (some (.int 0)) I2 J2) ∧ (¬ (x5 = 0) → Q (some (.int 1)) I2 J2))))))) : Wp d Md_may Q 43 [some (.ref 57), some (.int x1), some (.int x2), some (.int x3), some (.int x4), some (.int x5), some (.int x6)] [] I J := by
  refine Wp.steps 5 (pc' := 51) (lv' := [some (.ref 57), some (.int x1), some (.int x2), some (.int x3), some (.int x4), some (.int x5), some (.int x6)]) (st' := [.int (I 58 1), .int x6]) (I' := I) (J' := J) rfl ?_
  refine Wp.steps 1 (pc' := if x6 < (I 58 1) then 54 else 78) (lv' := [some (.ref 57), some (.int x1), some (.int x2), some (.int x3), some (.int x4), some (.int x5), some (.int x6)]) (st' := []) (I' := I) (J' := J) rfl (Wp.ite (fun h1 => ?_) (fun h1 => ?_))
  · replace h := h.1 h1
    refine Wp.steps 1 (pc' := 56) (lv' := [some (.ref 57), some (.int x1), some (.int x2), some (.int x3), some (.int x4), some (.int x5), some (.int x6)]) (st' := [.int x5]) (I' := I) (J' := J) rfl ?_
    refine Wp.steps 1 (pc' := if x5 = 0 then 78 else 59) (lv' := [some (.ref 57), some (.int x1), some (.int x2), some (.int x3), some (.int x4), some (.int x5), some (.int x6)]) (st' := []) (I' := I) (J' := J) rfl (Wp.ite (fun h2 => ?_) (fun h2 => ?_))
    · replace h := h.1 h2
      refine Wp.steps 2 (pc' := 80) (lv' := [some (.ref 57), some (.int x1), some (.int x2), some (.int x3), some (.int x4), some (.int x5), some (.int x6)]) (st' := [.int x2, .ref 57]) (I' := I) (J' := J) rfl ?_
      refine Wp.call (M' := Md_kind) (as := [.ref 57, .int x2]) (rest := []) rfl (CI.use h (fun v1 I1 J1 h => ?_))
      refine Wp.eqs (pc' := 83) (st' := [.int v1]) rfl rfl ?_
      refine Wp.steps 1 (pc' := 84) (lv' := [some (.ref 57), some (.int x1), some (.int x2), some (.int x3), some (.int x4), some (.int x5), some (.int x6)]) (st' := [.int 2, .int v1]) (I' := I1) (J' := J1) rfl ?_
      refine Wp.steps 1 (pc' := if v1 = 2 then 101 else 87) (lv' := [some (.ref 57), some (.int x1), some (.int x2), some (.int x3), some (.int x4), some (.int x5), some (.int x6)]) (st' := []) (I' := I1) (J' := J1) rfl (Wp.ite (fun h3 => ?_) (fun h3 => ?_))
      · replace h := h.1 h3
        refine Wp.steps 4 (pc' := 110) (lv' := [some (.ref 57), some (.int x1), some (.int x2), some (.int x3), some (.int x4), some (.int x5), some (.int 1)]) (st' := [.int x5]) (I' := I1) (J' := J1) rfl ?_
        refine Wp.steps 1 (pc' := if x5 = 0 then 130 else 113) (lv' := [some (.ref 57), some (.int x1), some (.int x2), some (.int x3), some (.int x4), some (.int x5), some (.int 1)]) (st' := []) (I' := I1) (J' := J1) rfl ?_
        rw [if_pos h2]
        refine Wp.steps 1 (pc' := 131) (lv' := [some (.ref 57), some (.int x1), some (.int x2), some (.int x3), some (.int x4), some (.int x5), some (.int 1)]) (st' := [.int 0]) (I' := I1) (J' := J1) rfl ?_
        exact Wp.ret rfl h
      · replace h := h.2 h3
        refine Wp.steps 2 (pc' := 89) (lv' := [some (.ref 57), some (.int x1), some (.int x2), some (.int x3), some (.int x4), some (.int x5), some (.int x6)]) (st' := [.int x2, .ref 57]) (I' := I1) (J' := J1) rfl ?_
        refine Wp.call (M' := Md_kind) (as := [.ref 57, .int x2]) (rest := []) rfl (CI.use h (fun v2 I2 J2 h => ?_))
        refine Wp.eqs (pc' := 92) (st' := [.int v2]) rfl rfl ?_
        refine Wp.steps 1 (pc' := 93) (lv' := [some (.ref 57), some (.int x1), some (.int x2), some (.int x3), some (.int x4), some (.int x5), some (.int x6)]) (st' := [.int 4, .int v2]) (I' := I2) (J' := J2) rfl ?_
        refine Wp.steps 1 (pc' := if v2 = 4 then 96 else 105) (lv' := [some (.ref 57), some (.int x1), some (.int x2), some (.int x3), some (.int x4), some (.int x5), some (.int x6)]) (st' := []) (I' := I2) (J' := J2) rfl (Wp.ite (fun h4 => ?_) (fun h4 => ?_))
        · replace h := h.1 h4
          refine Wp.steps 2 (pc' := 98) (lv' := [some (.ref 57), some (.int x1), some (.int x2), some (.int x3), some (.int x4), some (.int x5), some (.int x6)]) (st' := [.int 1, .int x3]) (I' := I2) (J' := J2) rfl ?_
          refine Wp.steps 1 (pc' := if x3 = 1 then 101 else 105) (lv' := [some (.ref 57), some (.int x1), some (.int x2), some (.int x3), some (.int x4), some (.int x5), some (.int x6)]) (st' := []) (I' := I2) (J' := J2) rfl (Wp.ite (fun h5 => ?_) (fun h5 => ?_))
          · replace h := h.1 h5
            refine Wp.steps 4 (pc' := 110) (lv' := [some (.ref 57), some (.int x1), some (.int x2), some (.int x3), some (.int x4), some (.int x5), some (.int 1)]) (st' := [.int x5]) (I' := I2) (J' := J2) rfl ?_
            refine Wp.steps 1 (pc' := if x5 = 0 then 130 else 113) (lv' := [some (.ref 57), some (.int x1), some (.int x2), some (.int x3), some (.int x4), some (.int x5), some (.int 1)]) (st' := []) (I' := I2) (J' := J2) rfl ?_
            rw [if_pos h2]
            refine Wp.steps 1 (pc' := 131) (lv' := [some (.ref 57), some (.int x1), some (.int x2), some (.int x3), some (.int x4), some (.int x5), some (.int 1)]) (st' := [.int 0]) (I' := I2) (J' := J2) rfl ?_
            exact Wp.ret rfl h
          · replace h := h.2 h5
            refine Wp.steps 3 (pc' := 110) (lv' := [some (.ref 57), some (.int x1), some (.int x2), some (.int x3), some (.int x4), some (.int x5), some (.int 0)]) (st' := [.int x5]) (I' := I2) (J' := J2) rfl ?_
            refine Wp.steps 1 (pc' := if x5 = 0 then 130 else 113) (lv' := [some (.ref 57), some (.int x1), some (.int x2), some (.int x3), some (.int x4), some (.int x5), some (.int 0)]) (st' := []) (I' := I2) (J' := J2) rfl ?_
            rw [if_pos h2]
            refine Wp.steps 1 (pc' := 131) (lv' := [some (.ref 57), some (.int x1), some (.int x2), some (.int x3), some (.int x4), some (.int x5), some (.int 0)]) (st' := [.int 0]) (I' := I2) (J' := J2) rfl ?_
            exact Wp.ret rfl h
        · replace h := h.2 h4
          refine Wp.steps 3 (pc' := 110) (lv' := [some (.ref 57), some (.int x1), some (.int x2), some (.int x3), some (.int x4), some (.int x5), some (.int 0)]) (st' := [.int x5]) (I' := I2) (J' := J2) rfl ?_
          refine Wp.steps 1 (pc' := if x5 = 0 then 130 else 113) (lv' := [some (.ref 57), some (.int x1), some (.int x2), some (.int x3), some (.int x4), some (.int x5), some (.int 0)]) (st' := []) (I' := I2) (J' := J2) rfl ?_
          rw [if_pos h2]
          refine Wp.steps 1 (pc' := 131) (lv' := [some (.ref 57), some (.int x1), some (.int x2), some (.int x3), some (.int x4), some (.int x5), some (.int 0)]) (st' := [.int 0]) (I' := I2) (J' := J2) rfl ?_
          exact Wp.ret rfl h
    · replace h := h.2 h2
      refine Wp.steps 6 (pc' := 67) (lv' := [some (.ref 57), some (.int x1), some (.int x2), some (.int x3), some (.int x4), some (.int x5), some (.int x6)]) (st' := [.int x4, .int x3, .int x2, .int x1, .int x6, .ref 57]) (I' := I) (J' := J) rfl ?_
      refine Wp.call (M' := Md_lets) (as := [.ref 57, .int x6, .int x1, .int x2, .int x3, .int x4]) (rest := []) rfl (CI.use h (fun v1 I1 J1 h => ?_))
      refine Wp.eqs (pc' := 70) (st' := [.int v1]) rfl rfl ?_
      refine Wp.steps 3 (pc' := 43) (lv' := [some (.ref 57), some (.int x1), some (.int x2), some (.int x3), some (.int x4), some (.int v1), some (.int (x6 + 1))]) (st' := []) (I' := I1) (J' := J1) rfl ?_
      exact h
  · replace h := h.2 h1
    refine Wp.steps 2 (pc' := 80) (lv' := [some (.ref 57), some (.int x1), some (.int x2), some (.int x3), some (.int x4), some (.int x5), some (.int x6)]) (st' := [.int x2, .ref 57]) (I' := I) (J' := J) rfl ?_
    refine Wp.call (M' := Md_kind) (as := [.ref 57, .int x2]) (rest := []) rfl (CI.use h (fun v1 I1 J1 h => ?_))
    refine Wp.eqs (pc' := 83) (st' := [.int v1]) rfl rfl ?_
    refine Wp.steps 1 (pc' := 84) (lv' := [some (.ref 57), some (.int x1), some (.int x2), some (.int x3), some (.int x4), some (.int x5), some (.int x6)]) (st' := [.int 2, .int v1]) (I' := I1) (J' := J1) rfl ?_
    refine Wp.steps 1 (pc' := if v1 = 2 then 101 else 87) (lv' := [some (.ref 57), some (.int x1), some (.int x2), some (.int x3), some (.int x4), some (.int x5), some (.int x6)]) (st' := []) (I' := I1) (J' := J1) rfl (Wp.ite (fun h2 => ?_) (fun h2 => ?_))
    · replace h := h.1 h2
      refine Wp.steps 4 (pc' := 110) (lv' := [some (.ref 57), some (.int x1), some (.int x2), some (.int x3), some (.int x4), some (.int x5), some (.int 1)]) (st' := [.int x5]) (I' := I1) (J' := J1) rfl ?_
      refine Wp.steps 1 (pc' := if x5 = 0 then 130 else 113) (lv' := [some (.ref 57), some (.int x1), some (.int x2), some (.int x3), some (.int x4), some (.int x5), some (.int 1)]) (st' := []) (I' := I1) (J' := J1) rfl (Wp.ite (fun h3 => ?_) (fun h3 => ?_))
      · replace h := h.1 h3
        refine Wp.steps 1 (pc' := 131) (lv' := [some (.ref 57), some (.int x1), some (.int x2), some (.int x3), some (.int x4), some (.int x5), some (.int 1)]) (st' := [.int 0]) (I' := I1) (J' := J1) rfl ?_
        exact Wp.ret rfl h
      · replace h := h.2 h3
        refine Wp.steps 4 (pc' := 120) (lv' := [some (.ref 57), some (.int x1), some (.int x2), some (.int x3), some (.int x4), some (.int x5), some (.int 1)]) (st' := [.int x2, .int x1]) (I' := I1) (J' := J1) rfl ?_
        refine Wp.call (M' := Md_isRing) (as := [.int x1, .int x2]) (rest := []) rfl (CI.use h (fun v2 I2 J2 h => ?_))
        refine Wp.eqs (pc' := 123) (st' := [.int v2]) rfl rfl ?_
        refine Wp.steps 1 (pc' := if v2 = 0 then 130 else 126) (lv' := [some (.ref 57), some (.int x1), some (.int x2), some (.int x3), some (.int x4), some (.int x5), some (.int 1)]) (st' := []) (I' := I2) (J' := J2) rfl (Wp.ite (fun h4 => ?_) (fun h4 => ?_))
        · replace h := h.1 h4
          refine Wp.steps 1 (pc' := 131) (lv' := [some (.ref 57), some (.int x1), some (.int x2), some (.int x3), some (.int x4), some (.int x5), some (.int 1)]) (st' := [.int 0]) (I' := I2) (J' := J2) rfl ?_
          exact Wp.ret rfl h
        · replace h := h.2 h4
          refine Wp.steps 2 (pc' := 131) (lv' := [some (.ref 57), some (.int x1), some (.int x2), some (.int x3), some (.int x4), some (.int x5), some (.int 1)]) (st' := [.int 1]) (I' := I2) (J' := J2) rfl ?_
          exact Wp.ret rfl h
    · replace h := h.2 h2
      refine Wp.steps 2 (pc' := 89) (lv' := [some (.ref 57), some (.int x1), some (.int x2), some (.int x3), some (.int x4), some (.int x5), some (.int x6)]) (st' := [.int x2, .ref 57]) (I' := I1) (J' := J1) rfl ?_
      refine Wp.call (M' := Md_kind) (as := [.ref 57, .int x2]) (rest := []) rfl (CI.use h (fun v2 I2 J2 h => ?_))
      refine Wp.eqs (pc' := 92) (st' := [.int v2]) rfl rfl ?_
      refine Wp.steps 1 (pc' := 93) (lv' := [some (.ref 57), some (.int x1), some (.int x2), some (.int x3), some (.int x4), some (.int x5), some (.int x6)]) (st' := [.int 4, .int v2]) (I' := I2) (J' := J2) rfl ?_
      refine Wp.steps 1 (pc' := if v2 = 4 then 96 else 105) (lv' := [some (.ref 57), some (.int x1), some (.int x2), some (.int x3), some (.int x4), some (.int x5), some (.int x6)]) (st' := []) (I' := I2) (J' := J2) rfl (Wp.ite (fun h3 => ?_) (fun h3 => ?_))
      · replace h := h.1 h3
        refine Wp.steps 2 (pc' := 98) (lv' := [some (.ref 57), some (.int x1), some (.int x2), some (.int x3), some (.int x4), some (.int x5), some (.int x6)]) (st' := [.int 1, .int x3]) (I' := I2) (J' := J2) rfl ?_
        refine Wp.steps 1 (pc' := if x3 = 1 then 101 else 105) (lv' := [some (.ref 57), some (.int x1), some (.int x2), some (.int x3), some (.int x4), some (.int x5), some (.int x6)]) (st' := []) (I' := I2) (J' := J2) rfl (Wp.ite (fun h4 => ?_) (fun h4 => ?_))
        · replace h := h.1 h4
          refine Wp.steps 4 (pc' := 110) (lv' := [some (.ref 57), some (.int x1), some (.int x2), some (.int x3), some (.int x4), some (.int x5), some (.int 1)]) (st' := [.int x5]) (I' := I2) (J' := J2) rfl ?_
          refine Wp.steps 1 (pc' := if x5 = 0 then 130 else 113) (lv' := [some (.ref 57), some (.int x1), some (.int x2), some (.int x3), some (.int x4), some (.int x5), some (.int 1)]) (st' := []) (I' := I2) (J' := J2) rfl (Wp.ite (fun h5 => ?_) (fun h5 => ?_))
          · replace h := h.1 h5
            refine Wp.steps 1 (pc' := 131) (lv' := [some (.ref 57), some (.int x1), some (.int x2), some (.int x3), some (.int x4), some (.int x5), some (.int 1)]) (st' := [.int 0]) (I' := I2) (J' := J2) rfl ?_
            exact Wp.ret rfl h
          · replace h := h.2 h5
            refine Wp.steps 4 (pc' := 120) (lv' := [some (.ref 57), some (.int x1), some (.int x2), some (.int x3), some (.int x4), some (.int x5), some (.int 1)]) (st' := [.int x2, .int x1]) (I' := I2) (J' := J2) rfl ?_
            refine Wp.call (M' := Md_isRing) (as := [.int x1, .int x2]) (rest := []) rfl (CI.use h (fun v3 I3 J3 h => ?_))
            refine Wp.eqs (pc' := 123) (st' := [.int v3]) rfl rfl ?_
            refine Wp.steps 1 (pc' := if v3 = 0 then 130 else 126) (lv' := [some (.ref 57), some (.int x1), some (.int x2), some (.int x3), some (.int x4), some (.int x5), some (.int 1)]) (st' := []) (I' := I3) (J' := J3) rfl (Wp.ite (fun h6 => ?_) (fun h6 => ?_))
            · replace h := h.1 h6
              refine Wp.steps 1 (pc' := 131) (lv' := [some (.ref 57), some (.int x1), some (.int x2), some (.int x3), some (.int x4), some (.int x5), some (.int 1)]) (st' := [.int 0]) (I' := I3) (J' := J3) rfl ?_
              exact Wp.ret rfl h
            · replace h := h.2 h6
              refine Wp.steps 2 (pc' := 131) (lv' := [some (.ref 57), some (.int x1), some (.int x2), some (.int x3), some (.int x4), some (.int x5), some (.int 1)]) (st' := [.int 1]) (I' := I3) (J' := J3) rfl ?_
              exact Wp.ret rfl h
        · replace h := h.2 h4
          refine Wp.steps 3 (pc' := 110) (lv' := [some (.ref 57), some (.int x1), some (.int x2), some (.int x3), some (.int x4), some (.int x5), some (.int 0)]) (st' := [.int x5]) (I' := I2) (J' := J2) rfl ?_
          refine Wp.steps 1 (pc' := if x5 = 0 then 130 else 113) (lv' := [some (.ref 57), some (.int x1), some (.int x2), some (.int x3), some (.int x4), some (.int x5), some (.int 0)]) (st' := []) (I' := I2) (J' := J2) rfl (Wp.ite (fun h5 => ?_) (fun h5 => ?_))
          · replace h := h.1 h5
            refine Wp.steps 1 (pc' := 131) (lv' := [some (.ref 57), some (.int x1), some (.int x2), some (.int x3), some (.int x4), some (.int x5), some (.int 0)]) (st' := [.int 0]) (I' := I2) (J' := J2) rfl ?_
            exact Wp.ret rfl h
          · replace h := h.2 h5
            refine Wp.steps 4 (pc' := 131) (lv' := [some (.ref 57), some (.int x1), some (.int x2), some (.int x3), some (.int x4), some (.int x5), some (.int 0)]) (st' := [.int 1]) (I' := I2) (J' := J2) rfl ?_
            exact Wp.ret rfl h
      · replace h := h.2 h3
        refine Wp.steps 3 (pc' := 110) (lv' := [some (.ref 57), some (.int x1), some (.int x2), some (.int x3), some (.int x4), some (.int x5), some (.int 0)]) (st' := [.int x5]) (I' := I2) (J' := J2) rfl ?_
        refine Wp.steps 1 (pc' := if x5 = 0 then 130 else 113) (lv' := [some (.ref 57), some (.int x1), some (.int x2), some (.int x3), some (.int x4), some (.int x5), some (.int 0)]) (st' := []) (I' := I2) (J' := J2) rfl (Wp.ite (fun h4 => ?_) (fun h4 => ?_))
        · replace h := h.1 h4
          refine Wp.steps 1 (pc' := 131) (lv' := [some (.ref 57), some (.int x1), some (.int x2), some (.int x3), some (.int x4), some (.int x5), some (.int 0)]) (st' := [.int 0]) (I' := I2) (J' := J2) rfl ?_
          exact Wp.ret rfl h
        · replace h := h.2 h4
          refine Wp.steps 4 (pc' := 131) (lv' := [some (.ref 57), some (.int x1), some (.int x2), some (.int x3), some (.int x4), some (.int x5), some (.int 0)]) (st' := [.int 1]) (I' := I2) (J' := J2) rfl ?_
          exact Wp.ret rfl h
theorem v_Md_must_57_0 {d : Nat} {Q : Post} {I : I2} {J : J2} {x1 : Int32} (h : ((I 57 4) = 0 → (x1 = 0 → ((1 : Int32) = 0 → Q none (up2 (up2 I 57 4 1) 57 3 ((I 57 3) + 1)) J) ∧ (¬ ((1 : Int32) = 0) → Q none (up2 (up2 I 57 4 1) 57 3 ((I 57 3) + 0)) J)) ∧ (¬ (x1 = 0) → ((0 : Int32) = 0 → Q none (up2 (up2 I 57 4 0) 57 3 ((I 57 3) + 1)) J) ∧ (¬ ((0 : Int32) = 0) → Q none (up2 (up2 I 57 4 0) 57 3 ((I 57 3) + 0)) J))) ∧ (¬ ((I 57 4) = 0) → ((1 : Int32) = 0 → Q none (up2 (up2 I 57 4 1) 57 3 ((I 57 3) + 1)) J) ∧ (¬ ((1 : Int32) = 0) → Q none (up2 (up2 I 57 4 1) 57 3 ((I 57 3) + 0)) J))) : Wp d Md_must Q 0 [some (.ref 57), some (.int x1)] [] I J := by
  refine Wp.steps 3 (pc' := 5) (lv' := [some (.ref 57), some (.int x1)]) (st' := [.int (I 57 4), .ref 57]) (I' := I) (J' := J) rfl ?_
  refine Wp.steps 1 (pc' := if (I 57 4) = 0 then 8 else 12) (lv' := [some (.ref 57), some (.int x1)]) (st' := [.ref 57]) (I' := I) (J' := J) rfl (Wp.ite (fun h1 => ?_) (fun h1 => ?_))
  · replace h := h.1 h1
    refine Wp.steps 1 (pc' := 9) (lv' := [some (.ref 57), some (.int x1)]) (st' := [.int x1, .ref 57]) (I' := I) (J' := J) rfl ?_
    refine Wp.steps 1 (pc' := if x1 = 0 then 12 else 16) (lv' := [some (.ref 57), some (.int x1)]) (st' := [.ref 57]) (I' := I) (J' := J) rfl (Wp.ite (fun h2 => ?_) (fun h2 => ?_))
    · replace h := h.1 h2
      refine Wp.steps 8 (pc' := 29) (lv' := [some (.ref 57), some (.int x1)]) (st' := [.int 1, .int (I 57 3), .ref 57]) (I' := (up2 I 57 4 1)) (J' := J) rfl ?_
      refine Wp.steps 1 (pc' := if (1 : Int32) = 0 then 36 else 32) (lv' := [some (.ref 57), some (.int x1)]) (st' := [.int (I 57 3), .ref 57]) (I' := (up2 I 57 4 1)) (J' := J) rfl (Wp.ite (fun h3 => ?_) (fun h3 => ?_))
      · replace h := h.1 h3
        refine Wp.steps 3 (pc' := 41) (lv' := [some (.ref 57), some (.int x1)]) (st' := []) (I' := (up2 (up2 I 57 4 1) 57 3 ((I 57 3) + 1))) (J' := J) rfl ?_
        exact Wp.ret rfl h
      · replace h := h.2 h3
        refine Wp.steps 4 (pc' := 41) (lv' := [some (.ref 57), some (.int x1)]) (st' := []) (I' := (up2 (up2 I 57 4 1) 57 3 ((I 57 3) + 0))) (J' := J) rfl ?_
        exact Wp.ret rfl h
    · replace h := h.2 h2
      refine Wp.steps 7 (pc' := 29) (lv' := [some (.ref 57), some (.int x1)]) (st' := [.int 0, .int (I 57 3), .ref 57]) (I' := (up2 I 57 4 0)) (J' := J) rfl ?_
      refine Wp.steps 1 (pc' := if (0 : Int32) = 0 then 36 else 32) (lv' := [some (.ref 57), some (.int x1)]) (st' := [.int (I 57 3), .ref 57]) (I' := (up2 I 57 4 0)) (J' := J) rfl (Wp.ite (fun h3 => ?_) (fun h3 => ?_))
      · replace h := h.1 h3
        refine Wp.steps 3 (pc' := 41) (lv' := [some (.ref 57), some (.int x1)]) (st' := []) (I' := (up2 (up2 I 57 4 0) 57 3 ((I 57 3) + 1))) (J' := J) rfl ?_
        exact Wp.ret rfl h
      · replace h := h.2 h3
        refine Wp.steps 4 (pc' := 41) (lv' := [some (.ref 57), some (.int x1)]) (st' := []) (I' := (up2 (up2 I 57 4 0) 57 3 ((I 57 3) + 0))) (J' := J) rfl ?_
        exact Wp.ret rfl h
  · replace h := h.2 h1
    refine Wp.steps 8 (pc' := 29) (lv' := [some (.ref 57), some (.int x1)]) (st' := [.int 1, .int (I 57 3), .ref 57]) (I' := (up2 I 57 4 1)) (J' := J) rfl ?_
    refine Wp.steps 1 (pc' := if (1 : Int32) = 0 then 36 else 32) (lv' := [some (.ref 57), some (.int x1)]) (st' := [.int (I 57 3), .ref 57]) (I' := (up2 I 57 4 1)) (J' := J) rfl (Wp.ite (fun h2 => ?_) (fun h2 => ?_))
    · replace h := h.1 h2
      refine Wp.steps 3 (pc' := 41) (lv' := [some (.ref 57), some (.int x1)]) (st' := []) (I' := (up2 (up2 I 57 4 1) 57 3 ((I 57 3) + 1))) (J' := J) rfl ?_
      exact Wp.ret rfl h
    · replace h := h.2 h2
      refine Wp.steps 4 (pc' := 41) (lv' := [some (.ref 57), some (.int x1)]) (st' := []) (I' := (up2 (up2 I 57 4 1) 57 3 ((I 57 3) + 0))) (J' := J) rfl ?_
      exact Wp.ret rfl h
theorem v_Md_digit_57_0 {d : Nat} {Q : Post} {I : I2} {J : J2} {x1 : Int32} {x2 : Int32} (h : ((I 57 4) = 0 → CI d Md_here [.ref 57] I J (fun v1 I1 J1 => CI d Md_in [.long (Int32.toInt64 (v1 - 48)), .long (Int32.toInt64 x1), .long (Int32.toInt64 x2)] I1 J1 (fun v2 I2 J2 => CV d Md_must [.ref 57, .int v2] I2 J2 (fun I3 J3 => Q (some (.int (v1 - 48))) I3 J3)))) ∧ (¬ ((I 57 4) = 0) → CI d Md_in [.long (Int32.toInt64 (-1)), .long (Int32.toInt64 x1), .long (Int32.toInt64 x2)] I J (fun v1 I1 J1 => CV d Md_must [.ref 57, .int v1] I1 J1 (fun I2 J2 => Q (some (.int (-1))) I2 J2)))) : Wp d Md_digit Q 0 [some (.ref 57), some (.int x1), some (.int x2), none] [] I J := by
  refine Wp.steps 2 (pc' := 4) (lv' := [some (.ref 57), some (.int x1), some (.int x2), none]) (st' := [.int (I 57 4)]) (I' := I) (J' := J) rfl ?_
  refine Wp.steps 1 (pc' := if (I 57 4) = 0 then 11 else 7) (lv' := [some (.ref 57), some (.int x1), some (.int x2), none]) (st' := []) (I' := I) (J' := J) rfl (Wp.ite (fun h1 => ?_) (fun h1 => ?_))
  · replace h := h.1 h1
    refine Wp.steps 1 (pc' := 12) (lv' := [some (.ref 57), some (.int x1), some (.int x2), none]) (st' := [.ref 57]) (I' := I) (J' := J) rfl ?_
    refine Wp.call (M' := Md_here) (as := [.ref 57]) (rest := []) rfl (CI.use h (fun v1 I1 J1 h => ?_))
    refine Wp.eqs (pc' := 15) (st' := [.int v1]) rfl rfl ?_
    refine Wp.steps 10 (pc' := 26) (lv' := [some (.ref 57), some (.int x1), some (.int x2), some (.int (v1 - 48))]) (st' := [.long (Int32.toInt64 x2), .long (Int32.toInt64 x1), .long (Int32.toInt64 (v1 - 48)), .ref 57]) (I' := I1) (J' := J1) rfl ?_
    refine Wp.call (M' := Md_in) (as := [.long (Int32.toInt64 (v1 - 48)), .long (Int32.toInt64 x1), .long (Int32.toInt64 x2)]) (rest := [.ref 57]) rfl (CI.use h (fun v2 I2 J2 h => ?_))
    refine Wp.eqs (pc' := 29) (st' := [.int v2, .ref 57]) rfl rfl ?_
    refine Wp.call (M' := Md_must) (as := [.ref 57, .int v2]) (rest := []) rfl (CV.use h (fun I3 J3 h => ?_))
    refine Wp.eqs (pc' := 32) (st' := []) rfl rfl ?_
    refine Wp.steps 1 (pc' := 33) (lv' := [some (.ref 57), some (.int x1), some (.int x2), some (.int (v1 - 48))]) (st' := [.int (v1 - 48)]) (I' := I3) (J' := J3) rfl ?_
    exact Wp.ret rfl h
  · replace h := h.2 h1
    refine Wp.steps 10 (pc' := 26) (lv' := [some (.ref 57), some (.int x1), some (.int x2), some (.int (-1))]) (st' := [.long (Int32.toInt64 x2), .long (Int32.toInt64 x1), .long (Int32.toInt64 (-1)), .ref 57]) (I' := I) (J' := J) rfl ?_
    refine Wp.call (M' := Md_in) (as := [.long (Int32.toInt64 (-1)), .long (Int32.toInt64 x1), .long (Int32.toInt64 x2)]) (rest := [.ref 57]) rfl (CI.use h (fun v1 I1 J1 h => ?_))
    refine Wp.eqs (pc' := 29) (st' := [.int v1, .ref 57]) rfl rfl ?_
    refine Wp.call (M' := Md_must) (as := [.ref 57, .int v1]) (rest := []) rfl (CV.use h (fun I2 J2 h => ?_))
    refine Wp.eqs (pc' := 32) (st' := []) rfl rfl ?_
    refine Wp.steps 1 (pc' := 33) (lv' := [some (.ref 57), some (.int x1), some (.int x2), some (.int (-1))]) (st' := [.int (-1)]) (I' := I2) (J' := J2) rfl ?_
    exact Wp.ret rfl h
