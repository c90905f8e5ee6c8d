/-! what each way through a method asks (by program): Lw_lays_0_100_57, Lw_stands_0_57, Lw_cell_100, Lw_acts_0_57 -/
set_option maxHeartbeats 16000000 in
theorem v_Lw_lays_0_100_57_0 {d : Nat} {Q : Post} {I : I2} {J : J2} {x3 : Int32} (h : CI d Lw_cell [.ref 100, .int 0] I J (fun v1 I1 J1 => ¬ x3 = 0 ∧ ((((srI v1 3) &&& 3) = 0 → Wp d Lw_lays Q 43 [some (.ref 0), some (.ref 100), some (.ref 57), some (.int x3), some (.int v1), some (.int (1 + (rmI v1 x3))), some (.int (-1)), some (.int 1), some (.int 0), none, none, none, none] [] I1 J1) ∧ (¬ (((srI v1 3) &&& 3) = 0) → ¬ (1 + (rmI v1 x3)) = 0 ∧ (Wp d Lw_lays Q 43 [some (.ref 0), some (.ref 100), some (.ref 57), some (.int x3), some (.int v1), some (.int (1 + (rmI v1 x3))), some (.int (rmI (srI v1 5) (1 + (rmI v1 x3)))), some (.int 1), some (.int 0), none, none, none, none] [] I1 J1))))) : Wp d Lw_lays Q 0 [some (.ref 0), some (.ref 100), some (.ref 57), some (.int x3), none, none, none, none, none, none, none, none, none] [] I J := by
  refine Wp.steps 2 (pc' := 2) (lv' := [some (.ref 0), some (.ref 100), some (.ref 57), some (.int x3), none, none, none, none, none, none, none, none, none]) (st' := [.int 0, .ref 100]) (I' := I) (J' := J) rfl ?_
  refine Wp.call (M' := Lw_cell) (as := [.ref 100, .int 0]) (rest := []) rfl (CI.use h (fun v1 I1 J1 h => ?_))
  refine Wp.eqs (pc' := 5) (st' := [.int v1]) rfl rfl ?_
  refine Wp.steps 4 (pc' := 11) (lv' := [some (.ref 0), some (.ref 100), some (.ref 57), some (.int x3), some (.int v1), none, none, none, none, none, none, none, none]) (st' := [.int x3, .int v1, .int 1]) (I' := I1) (J' := J1) rfl ?_
  refine Wp.irem rfl h.1 ?_
  replace h := h.2
  refine Wp.steps 7 (pc' := 21) (lv' := [some (.ref 0), some (.ref 100), some (.ref 57), some (.int x3), some (.int v1), some (.int (1 + (rmI v1 x3))), none, none, none, none, none, none, none]) (st' := [.int ((srI v1 3) &&& 3)]) (I' := I1) (J' := J1) rfl ?_
  refine Wp.steps 1 (pc' := if ((srI v1 3) &&& 3) = 0 then 24 else 28) (lv' := [some (.ref 0), some (.ref 100), some (.ref 57), some (.int x3), some (.int v1), some (.int (1 + (rmI v1 x3))), none, none, none, none, none, none, none]) (st' := []) (I' := I1) (J' := J1) rfl (Wp.ite (fun h1 => ?_) (fun h1 => ?_))
  · replace h := h.1 h1
    refine Wp.steps 7 (pc' := 43) (lv' := [some (.ref 0), some (.ref 100), some (.ref 57), some (.int x3), some (.int v1), some (.int (1 + (rmI v1 x3))), some (.int (-1)), some (.int 1), some (.int 0), none, none, none, none]) (st' := []) (I' := I1) (J' := J1) rfl ?_
    exact h
  · replace h := h.2 h1
    refine Wp.steps 4 (pc' := 34) (lv' := [some (.ref 0), some (.ref 100), some (.ref 57), some (.int x3), some (.int v1), some (.int (1 + (rmI v1 x3))), none, none, none, none, none, none, none]) (st' := [.int (1 + (rmI v1 x3)), .int (srI v1 5)]) (I' := I1) (J' := J1) rfl ?_
    refine Wp.irem rfl h.1 ?_
    replace h := h.2
    refine Wp.steps 5 (pc' := 43) (lv' := [some (.ref 0), some (.ref 100), some (.ref 57), some (.int x3), some (.int v1), some (.int (1 + (rmI v1 x3))), some (.int (rmI (srI v1 5) (1 + (rmI v1 x3)))), some (.int 1), some (.int 0), none, none, none, none]) (st' := []) (I' := I1) (J' := J1) rfl ?_
    exact h
set_option maxHeartbeats 16000000 in
theorem v_Lw_lays_0_100_57_43 {d : Nat} {Q : Post} {I : I2} {J : J2} {x3 : Int32} {x4 : Int32} {x5 : Int32} {x6 : Int32} {x7 : Int32} {x8 : Int32} (h : (x8 < x5 → (x7 = 0 → (x6 < 0 → Wp d Lw_lays Q 218 [some (.ref 0), some (.ref 100), some (.ref 57), some (.int x3), some (.int x4), some (.int x5), some (.int x6), some (.int x7), some (.int x8), none, none, none, none] [] (up2 I 57 2 0) J) ∧ (¬ (x6 < 0) → Wp d Lw_lays Q 218 [some (.ref 0), some (.ref 100), some (.ref 57), some (.int x3), some (.int x4), some (.int x5), some (.int x6), some (.int x7), some (.int x8), none, none, none, none] [] (up2 I 57 2 x6) J)) ∧ (¬ (x7 = 0) → CI d Lw_cell [.ref 100, .int 1] I J (fun v1 I1 J1 => (((srI x4 8) &&& 1) = 0 → vp_in (6 + (2 * x8)) 40 ∧ (Wp d Lw_lays Q 97 [some (.ref 0), some (.ref 100), some (.ref 57), some (.int x3), some (.int x4), some (.int x5), some (.int x6), some (.int x7), some (.int x8), some (.int (srI v1 (5 * x8))), none, none, none] [] (up2 I1 57 (tN (6 + (2 * x8))) 0) J1)) ∧ (¬ (((srI x4 8) &&& 1) = 0) → vp_in (6 + (2 * x8)) 40 ∧ (Wp d Lw_lays Q 97 [some (.ref 0), some (.ref 100), some (.ref 57), some (.int x3), some (.int x4), some (.int x5), some (.int x6), some (.int x7), some (.int x8), some (.int (srI v1 (5 * x8))), none, none, none] [] (up2 I1 57 (tN (6 + (2 * x8))) (rmI ((srI v1 (5 * x8)) &&& 7) 5)) J1))))) ∧ (¬ (x8 < x5) → (x6 < 0 → Wp d Lw_lays Q 218 [some (.ref 0), some (.ref 100), some (.ref 57), some (.int x3), some (.int x4), some (.int x5), some (.int x6), some (.int x7), some (.int x8), none, none, none, none] [] (up2 I 57 2 0) J) ∧ (¬ (x6 < 0) → Wp d Lw_lays Q 218 [some (.ref 0), some (.ref 100), some (.ref 57), some (.int x3), some (.int x4), some (.int x5), some (.int x6), some (.int x7), some (.int x8), none, none, none, none] [] (up2 I 57 2 x6) J))) : Wp d Lw_lays Q 43 [some (.ref 0), some (.ref 100), some (.ref 57), some (.int x3), some (.int x4), some (.int x5), some (.int x6), some (.int x7), some (.int x8), none, none, none, none] [] I J := by
  refine Wp.steps 2 (pc' := 47) (lv' := [some (.ref 0), some (.ref 100), some (.ref 57), some (.int x3), some (.int x4), some (.int x5), some (.int x6), some (.int x7), some (.int x8), none, none, none, none]) (st' := [.int x5, .int x8]) (I' := I) (J' := J) rfl ?_
  refine Wp.steps 1 (pc' := if x8 < x5 then 50 else 204) (lv' := [some (.ref 0), some (.ref 100), some (.ref 57), some (.int x3), some (.int x4), some (.int x5), some (.int x6), some (.int x7), some (.int x8), none, none, none, none]) (st' := []) (I' := I) (J' := J) rfl (Wp.ite (fun h1 => ?_) (fun h1 => ?_))
  · replace h := h.1 h1
    refine Wp.steps 1 (pc' := 52) (lv' := [some (.ref 0), some (.ref 100), some (.ref 57), some (.int x3), some (.int x4), some (.int x5), some (.int x6), some (.int x7), some (.int x8), none, none, none, none]) (st' := [.int x7]) (I' := I) (J' := J) rfl ?_
    refine Wp.steps 1 (pc' := if x7 = 0 then 204 else 55) (lv' := [some (.ref 0), some (.ref 100), some (.ref 57), some (.int x3), some (.int x4), some (.int x5), some (.int x6), some (.int x7), some (.int x8), none, none, none, none]) (st' := []) (I' := I) (J' := J) rfl (Wp.ite (fun h2 => ?_) (fun h2 => ?_))
    · replace h := h.1 h2
      refine Wp.steps 3 (pc' := 208) (lv' := [some (.ref 0), some (.ref 100), some (.ref 57), some (.int x3), some (.int x4), some (.int x5), some (.int x6), some (.int x7), some (.int x8), none, none, none, none]) (st' := [.int x6, .int 2, .ref 57]) (I' := I) (J' := J) rfl ?_
      refine Wp.steps 1 (pc' := if x6 < 0 then 211 else 215) (lv' := [some (.ref 0), some (.ref 100), some (.ref 57), some (.int x3), some (.int x4), some (.int x5), some (.int x6), some (.int x7), some (.int x8), none, none, none, none]) (st' := [.int 2, .ref 57]) (I' := I) (J' := J) rfl (Wp.ite (fun h3 => ?_) (fun h3 => ?_))
      · replace h := h.1 h3
        refine Wp.steps 3 (pc' := 218) (lv' := [some (.ref 0), some (.ref 100), some (.ref 57), some (.int x3), some (.int x4), some (.int x5), some (.int x6), some (.int x7), some (.int x8), none, none, none, none]) (st' := []) (I' := (up2 I 57 2 0)) (J' := J) rfl ?_
        exact h
      · replace h := h.2 h3
        refine Wp.steps 2 (pc' := 218) (lv' := [some (.ref 0), some (.ref 100), some (.ref 57), some (.int x3), some (.int x4), some (.int x5), some (.int x6), some (.int x7), some (.int x8), none, none, none, none]) (st' := []) (I' := (up2 I 57 2 x6)) (J' := J) rfl ?_
        exact h
    · replace h := h.2 h2
      refine Wp.steps 2 (pc' := 57) (lv' := [some (.ref 0), some (.ref 100), some (.ref 57), some (.int x3), some (.int x4), some (.int x5), some (.int x6), some (.int x7), some (.int x8), none, none, none, none]) (st' := [.int 1, .ref 100]) (I' := I) (J' := J) rfl ?_
      refine Wp.call (M' := Lw_cell) (as := [.ref 100, .int 1]) (rest := []) rfl (CI.use h (fun v1 I1 J1 h => ?_))
      refine Wp.eqs (pc' := 60) (st' := [.int v1]) rfl rfl ?_
      refine Wp.steps 16 (pc' := 82) (lv' := [some (.ref 0), some (.ref 100), some (.ref 57), some (.int x3), some (.int x4), some (.int x5), some (.int x6), some (.int x7), some (.int x8), some (.int (srI v1 (5 * x8))), none, none, none]) (st' := [.int ((srI x4 8) &&& 1), .int (6 + (2 * x8)), .ref 57]) (I' := I1) (J' := J1) rfl ?_
      refine Wp.steps 1 (pc' := if ((srI x4 8) &&& 1) = 0 then 85 else 89) (lv' := [some (.ref 0), some (.ref 100), some (.ref 57), some (.int x3), some (.int x4), some (.int x5), some (.int x6), some (.int x7), some (.int x8), some (.int (srI v1 (5 * x8))), none, none, none]) (st' := [.int (6 + (2 * x8)), .ref 57]) (I' := I1) (J' := J1) rfl (Wp.ite (fun h3 => ?_) (fun h3 => ?_))
      · replace h := h.1 h3
        refine Wp.steps 2 (pc' := 96) (lv' := [some (.ref 0), some (.ref 100), some (.ref 57), some (.int x3), some (.int x4), some (.int x5), some (.int x6), some (.int x7), some (.int x8), some (.int (srI v1 (5 * x8))), none, none, none]) (st' := [.int 0, .int (6 + (2 * x8)), .ref 57]) (I' := I1) (J' := J1) rfl ?_
        refine Wp.iast rfl rfl h.1 ?_
        replace h := h.2
        exact h
      · replace h := h.2 h3
        refine Wp.steps 5 (pc' := 96) (lv' := [some (.ref 0), some (.ref 100), some (.ref 57), some (.int x3), some (.int x4), some (.int x5), some (.int x6), some (.int x7), some (.int x8), some (.int (srI v1 (5 * x8))), none, none, none]) (st' := [.int (rmI ((srI v1 (5 * x8)) &&& 7) 5), .int (6 + (2 * x8)), .ref 57]) (I' := I1) (J' := J1) rfl ?_
        refine Wp.iast rfl rfl h.1 ?_
        replace h := h.2
        exact h
  · replace h := h.2 h1
    refine Wp.steps 3 (pc' := 208) (lv' := [some (.ref 0), some (.ref 100), some (.ref 57), some (.int x3), some (.int x4), some (.int x5), some (.int x6), some (.int x7), some (.int x8), none, none, none, none]) (st' := [.int x6, .int 2, .ref 57]) (I' := I) (J' := J) rfl ?_
    refine Wp.steps 1 (pc' := if x6 < 0 then 211 else 215) (lv' := [some (.ref 0), some (.ref 100), some (.ref 57), some (.int x3), some (.int x4), some (.int x5), some (.int x6), some (.int x7), some (.int x8), none, none, none, none]) (st' := [.int 2, .ref 57]) (I' := I) (J' := J) rfl (Wp.ite (fun h2 => ?_) (fun h2 => ?_))
    · replace h := h.1 h2
      refine Wp.steps 3 (pc' := 218) (lv' := [some (.ref 0), some (.ref 100), some (.ref 57), some (.int x3), some (.int x4), some (.int x5), some (.int x6), some (.int x7), some (.int x8), none, none, none, none]) (st' := []) (I' := (up2 I 57 2 0)) (J' := J) rfl ?_
      exact h
    · replace h := h.2 h2
      refine Wp.steps 2 (pc' := 218) (lv' := [some (.ref 0), some (.ref 100), some (.ref 57), some (.int x3), some (.int x4), some (.int x5), some (.int x6), some (.int x7), some (.int x8), none, none, none, none]) (st' := []) (I' := (up2 I 57 2 x6)) (J' := J) rfl ?_
      exact h
set_option maxHeartbeats 16000000 in
theorem v_Lw_lays_0_100_57_97 {d : Nat} {Q : Post} {I : I2} {J : J2} {x3 : Int32} {x4 : Int32} {x5 : Int32} {x6 : Int32} {x7 : Int32} {x8 : Int32} {x9 : Int32} (h : vp_in (7 + (2 * x8)) 40 ∧ (Wp d Lw_lays Q 116 [some (.ref 0), some (.ref 100), some (.ref 57), some (.int x3), some (.int x4), some (.int x5), some (.int x6), some (.int x7), some (.int x8), some (.int x9), none, none, none] [] (up2 I 57 (tN (7 + (2 * x8))) (1 + (rmI ((srI x9 3) &&& 3) 3))) J)) : Wp d Lw_lays Q 97 [some (.ref 0), some (.ref 100), some (.ref 57), some (.int x3), some (.int x4), some (.int x5), some (.int x6), some (.int x7), some (.int x8), some (.int x9), none, none, none] [] I J := by
  refine Wp.steps 15 (pc' := 115) (lv' := [some (.ref 0), some (.ref 100), some (.ref 57), some (.int x3), some (.int x4), some (.int x5), some (.int x6), some (.int x7), some (.int x8), some (.int x9), none, none, none]) (st' := [.int (1 + (rmI ((srI x9 3) &&& 3) 3)), .int (7 + (2 * x8)), .ref 57]) (I' := I) (J' := J) rfl ?_
  refine Wp.iast rfl rfl h.1 ?_
  replace h := h.2
  exact h
set_option maxHeartbeats 16000000 in
theorem v_Lw_lays_0_100_57_116 {d : Nat} {Q : Post} {I : I2} {J : J2} {x3 : Int32} {x4 : Int32} {x5 : Int32} {x6 : Int32} {x7 : Int32} {x8 : Int32} {x9 : Int32} (h : (x8 = 0 → vp_in (6 + (2 * x8)) 40 ∧ (CI d Lw_sort [.int (I 57 (tN (6 + (2 * x8))))] I J (fun v1 I1 J1 => CI d Sb_type [.ref 0, .int v1] I1 J1 (fun v2 I2 J2 => (0 < v2 → vp_in (7 + (2 * x8)) 40 ∧ (CI d Sb_type [.ref 0, .int (48 + (I2 57 (tN (7 + (2 * x8)))))] I2 J2 (fun v3 I3 J3 => (0 < v3 → (x8 = x6 → CI d Sb_type [.ref 0, .int 33] I3 J3 (fun v4 I4 J4 => (0 < v4 → Wp d Lw_lays Q 198 [some (.ref 0), some (.ref 100), some (.ref 57), some (.int x3), some (.int x4), some (.int x5), some (.int x6), some (.int 1), some (.int x8), some (.int x9), none, none, none] [] (up2 I4 57 0 ((I4 57 0) + 1)) J4) ∧ (¬ (0 < v4) → Wp d Lw_lays Q 198 [some (.ref 0), some (.ref 100), some (.ref 57), some (.int x3), some (.int x4), some (.int x5), some (.int x6), some (.int 0), some (.int x8), some (.int x9), none, none, none] [] (up2 I4 57 0 ((I4 57 0) + 1)) J4))) ∧ (¬ (x8 = x6) → Wp d Lw_lays Q 198 [some (.ref 0), some (.ref 100), some (.ref 57), some (.int x3), some (.int x4), some (.int x5), some (.int x6), some (.int 1), some (.int x8), some (.int x9), none, none, none] [] (up2 I3 57 0 ((I3 57 0) + 1)) J3)) ∧ (¬ (0 < v3) → Wp d Lw_lays Q 198 [some (.ref 0), some (.ref 100), some (.ref 57), some (.int x3), some (.int x4), some (.int x5), some (.int x6), some (.int 0), some (.int x8), some (.int x9), none, none, none] [] (up2 I3 57 0 ((I3 57 0) + 1)) J3)))) ∧ (¬ (0 < v2) → Wp d Lw_lays Q 198 [some (.ref 0), some (.ref 100), some (.ref 57), some (.int x3), some (.int x4), some (.int x5), some (.int x6), some (.int 0), some (.int x8), some (.int x9), none, none, none] [] (up2 I2 57 0 ((I2 57 0) + 1)) J2))))) ∧ (¬ (x8 = 0) → CI d Sb_type [.ref 0, .int 44] I J (fun v1 I1 J1 => (0 < v1 → vp_in (6 + (2 * x8)) 40 ∧ (CI d Lw_sort [.int (I1 57 (tN (6 + (2 * x8))))] I1 J1 (fun v2 I2 J2 => CI d Sb_type [.ref 0, .int v2] I2 J2 (fun v3 I3 J3 => (0 < v3 → vp_in (7 + (2 * x8)) 40 ∧ (CI d Sb_type [.ref 0, .int (48 + (I3 57 (tN (7 + (2 * x8)))))] I3 J3 (fun v4 I4 J4 => (0 < v4 → (x8 = x6 → CI d Sb_type [.ref 0, .int 33] I4 J4 (fun v5 I5 J5 => (0 < v5 → Wp d Lw_lays Q 198 [some (.ref 0), some (.ref 100), some (.ref 57), some (.int x3), some (.int x4), some (.int x5), some (.int x6), some (.int 1), some (.int x8), some (.int x9), none, none, none] [] (up2 I5 57 0 ((I5 57 0) + 1)) J5) ∧ (¬ (0 < v5) → Wp d Lw_lays Q 198 [some (.ref 0), some (.ref 100), some (.ref 57), some (.int x3), some (.int x4), some (.int x5), some (.int x6), some (.int 0), some (.int x8), some (.int x9), none, none, none] [] (up2 I5 57 0 ((I5 57 0) + 1)) J5))) ∧ (¬ (x8 = x6) → Wp d Lw_lays Q 198 [some (.ref 0), some (.ref 100), some (.ref 57), some (.int x3), some (.int x4), some (.int x5), some (.int x6), some (.int 1), some (.int x8), some (.int x9), none, none, none] [] (up2 I4 57 0 ((I4 57 0) + 1)) J4)) ∧ (¬ (0 < v4) → Wp d Lw_lays Q 198 [some (.ref 0), some (.ref 100), some (.ref 57), some (.int x3), some (.int x4), some (.int x5), some (.int x6), some (.int 0), some (.int x8), some (.int x9), none, none, none] [] (up2 I4 57 0 ((I4 57 0) + 1)) J4)))) ∧ (¬ (0 < v3) → Wp d Lw_lays Q 198 [some (.ref 0), some (.ref 100), some (.ref 57), some (.int x3), some (.int x4), some (.int x5), some (.int x6), some (.int 0), some (.int x8), some (.int x9), none, none, none] [] (up2 I3 57 0 ((I3 57 0) + 1)) J3))))) ∧ (¬ (0 < v1) → Wp d Lw_lays Q 198 [some (.ref 0), some (.ref 100), some (.ref 57), some (.int x3), some (.int x4), some (.int x5), some (.int x6), some (.int 0), some (.int x8), some (.int x9), none, none, none] [] (up2 I1 57 0 ((I1 57 0) + 1)) J1)))) : Wp d Lw_lays Q 116 [some (.ref 0), some (.ref 100), some (.ref 57), some (.int x3), some (.int x4), some (.int x5), some (.int x6), some (.int x7), some (.int x8), some (.int x9), none, none, none] [] I J := by
  refine Wp.steps 1 (pc' := 118) (lv' := [some (.ref 0), some (.ref 100), some (.ref 57), some (.int x3), some (.int x4), some (.int x5), some (.int x6), some (.int x7), some (.int x8), some (.int x9), none, none, none]) (st' := [.int x8]) (I' := I) (J' := J) rfl ?_
  refine Wp.steps 1 (pc' := if x8 = 0 then 130 else 121) (lv' := [some (.ref 0), some (.ref 100), some (.ref 57), some (.int x3), some (.int x4), some (.int x5), some (.int x6), some (.int x7), some (.int x8), some (.int x9), none, none, none]) (st' := []) (I' := I) (J' := J) rfl (Wp.ite (fun h1 => ?_) (fun h1 => ?_))
  · replace h := h.1 h1
    refine Wp.steps 7 (pc' := 139) (lv' := [some (.ref 0), some (.ref 100), some (.ref 57), some (.int x3), some (.int x4), some (.int x5), some (.int x6), some (.int x7), some (.int x8), some (.int x9), none, none, none]) (st' := [.int (6 + (2 * x8)), .ref 57, .ref 0]) (I' := I) (J' := J) rfl ?_
    refine Wp.iald rfl rfl h.1 ?_
    replace h := h.2
    refine Wp.call (M' := Lw_sort) (as := [.int (I 57 (tN (6 + (2 * x8))))]) (rest := [.ref 0]) rfl (CI.use h (fun v1 I1 J1 h => ?_))
    refine Wp.eqs (pc' := 143) (st' := [.int v1, .ref 0]) rfl rfl ?_
    refine Wp.call (M' := Sb_type) (as := [.ref 0, .int v1]) (rest := []) rfl (CI.use h (fun v2 I2 J2 h => ?_))
    refine Wp.eqs (pc' := 146) (st' := [.int v2]) rfl rfl ?_
    refine Wp.steps 1 (pc' := if 0 < v2 then 149 else 188) (lv' := [some (.ref 0), some (.ref 100), some (.ref 57), some (.int x3), some (.int x4), some (.int x5), some (.int x6), some (.int x7), some (.int x8), some (.int x9), none, none, none]) (st' := []) (I' := I2) (J' := J2) rfl (Wp.ite (fun h2 => ?_) (fun h2 => ?_))
    · replace h := h.1 h2
      refine Wp.steps 8 (pc' := 160) (lv' := [some (.ref 0), some (.ref 100), some (.ref 57), some (.int x3), some (.int x4), some (.int x5), some (.int x6), some (.int x7), some (.int x8), some (.int x9), none, none, none]) (st' := [.int (7 + (2 * x8)), .ref 57, .int 48, .ref 0]) (I' := I2) (J' := J2) rfl ?_
      refine Wp.iald rfl rfl h.1 ?_
      replace h := h.2
      refine Wp.steps 1 (pc' := 162) (lv' := [some (.ref 0), some (.ref 100), some (.ref 57), some (.int x3), some (.int x4), some (.int x5), some (.int x6), some (.int x7), some (.int x8), some (.int x9), none, none, none]) (st' := [.int (48 + (I2 57 (tN (7 + (2 * x8))))), .ref 0]) (I' := I2) (J' := J2) rfl ?_
      refine Wp.call (M' := Sb_type) (as := [.ref 0, .int (48 + (I2 57 (tN (7 + (2 * x8)))))]) (rest := []) rfl (CI.use h (fun v3 I3 J3 h => ?_))
      refine Wp.eqs (pc' := 165) (st' := [.int v3]) rfl rfl ?_
      refine Wp.steps 1 (pc' := if 0 < v3 then 168 else 188) (lv' := [some (.ref 0), some (.ref 100), some (.ref 57), some (.int x3), some (.int x4), some (.int x5), some (.int x6), some (.int x7), some (.int x8), some (.int x9), none, none, none]) (st' := []) (I' := I3) (J' := J3) rfl (Wp.ite (fun h3 => ?_) (fun h3 => ?_))
      · replace h := h.1 h3
        refine Wp.steps 2 (pc' := 172) (lv' := [some (.ref 0), some (.ref 100), some (.ref 57), some (.int x3), some (.int x4), some (.int x5), some (.int x6), some (.int x7), some (.int x8), some (.int x9), none, none, none]) (st' := [.int x6, .int x8]) (I' := I3) (J' := J3) rfl ?_
        refine Wp.steps 1 (pc' := if x8 = x6 then 175 else 184) (lv' := [some (.ref 0), some (.ref 100), some (.ref 57), some (.int x3), some (.int x4), some (.int x5), some (.int x6), some (.int x7), some (.int x8), some (.int x9), none, none, none]) (st' := []) (I' := I3) (J' := J3) rfl (Wp.ite (fun h4 => ?_) (fun h4 => ?_))
        · replace h := h.1 h4
          refine Wp.steps 2 (pc' := 178) (lv' := [some (.ref 0), some (.ref 100), some (.ref 57), some (.int x3), some (.int x4), some (.int x5), some (.int x6), some (.int x7), some (.int x8), some (.int x9), none, none, none]) (st' := [.int 33, .ref 0]) (I' := I3) (J' := J3) rfl ?_
          refine Wp.call (M' := Sb_type) (as := [.ref 0, .int 33]) (rest := []) rfl (CI.use h (fun v4 I4 J4 h => ?_))
          refine Wp.eqs (pc' := 181) (st' := [.int v4]) rfl rfl ?_
          refine Wp.steps 1 (pc' := if 0 < v4 then 184 else 188) (lv' := [some (.ref 0), some (.ref 100), some (.ref 57), some (.int x3), some (.int x4), some (.int x5), some (.int x6), some (.int x7), some (.int x8), some (.int x9), none, none, none]) (st' := []) (I' := I4) (J' := J4) rfl (Wp.ite (fun h5 => ?_) (fun h5 => ?_))
          · replace h := h.1 h5
            refine Wp.steps 10 (pc' := 198) (lv' := [some (.ref 0), some (.ref 100), some (.ref 57), some (.int x3), some (.int x4), some (.int x5), some (.int x6), some (.int 1), some (.int x8), some (.int x9), none, none, none]) (st' := []) (I' := (up2 I4 57 0 ((I4 57 0) + 1))) (J' := J4) rfl ?_
            exact h
          · replace h := h.2 h5
            refine Wp.steps 9 (pc' := 198) (lv' := [some (.ref 0), some (.ref 100), some (.ref 57), some (.int x3), some (.int x4), some (.int x5), some (.int x6), some (.int 0), some (.int x8), some (.int x9), none, none, none]) (st' := []) (I' := (up2 I4 57 0 ((I4 57 0) + 1))) (J' := J4) rfl ?_
            exact h
        · replace h := h.2 h4
          refine Wp.steps 10 (pc' := 198) (lv' := [some (.ref 0), some (.ref 100), some (.ref 57), some (.int x3), some (.int x4), some (.int x5), some (.int x6), some (.int 1), some (.int x8), some (.int x9), none, none, none]) (st' := []) (I' := (up2 I3 57 0 ((I3 57 0) + 1))) (J' := J3) rfl ?_
          exact h
      · replace h := h.2 h3
        refine Wp.steps 9 (pc' := 198) (lv' := [some (.ref 0), some (.ref 100), some (.ref 57), some (.int x3), some (.int x4), some (.int x5), some (.int x6), some (.int 0), some (.int x8), some (.int x9), none, none, none]) (st' := []) (I' := (up2 I3 57 0 ((I3 57 0) + 1))) (J' := J3) rfl ?_
        exact h
    · replace h := h.2 h2
      refine Wp.steps 9 (pc' := 198) (lv' := [some (.ref 0), some (.ref 100), some (.ref 57), some (.int x3), some (.int x4), some (.int x5), some (.int x6), some (.int 0), some (.int x8), some (.int x9), none, none, none]) (st' := []) (I' := (up2 I2 57 0 ((I2 57 0) + 1))) (J' := J2) rfl ?_
      exact h
  · replace h := h.2 h1
    refine Wp.steps 2 (pc' := 124) (lv' := [some (.ref 0), some (.ref 100), some (.ref 57), some (.int x3), some (.int x4), some (.int x5), some (.int x6), some (.int x7), some (.int x8), some (.int x9), none, none, none]) (st' := [.int 44, .ref 0]) (I' := I) (J' := J) rfl ?_
    refine Wp.call (M' := Sb_type) (as := [.ref 0, .int 44]) (rest := []) rfl (CI.use h (fun v1 I1 J1 h => ?_))
    refine Wp.eqs (pc' := 127) (st' := [.int v1]) rfl rfl ?_
    refine Wp.steps 1 (pc' := if 0 < v1 then 130 else 188) (lv' := [some (.ref 0), some (.ref 100), some (.ref 57), some (.int x3), some (.int x4), some (.int x5), some (.int x6), some (.int x7), some (.int x8), some (.int x9), none, none, none]) (st' := []) (I' := I1) (J' := J1) rfl (Wp.ite (fun h2 => ?_) (fun h2 => ?_))
    · replace h := h.1 h2
      refine Wp.steps 7 (pc' := 139) (lv' := [some (.ref 0), some (.ref 100), some (.ref 57), some (.int x3), some (.int x4), some (.int x5), some (.int x6), some (.int x7), some (.int x8), some (.int x9), none, none, none]) (st' := [.int (6 + (2 * x8)), .ref 57, .ref 0]) (I' := I1) (J' := J1) rfl ?_
      refine Wp.iald rfl rfl h.1 ?_
      replace h := h.2
      refine Wp.call (M' := Lw_sort) (as := [.int (I1 57 (tN (6 + (2 * x8))))]) (rest := [.ref 0]) rfl (CI.use h (fun v2 I2 J2 h => ?_))
      refine Wp.eqs (pc' := 143) (st' := [.int v2, .ref 0]) rfl rfl ?_
      refine Wp.call (M' := Sb_type) (as := [.ref 0, .int v2]) (rest := []) rfl (CI.use h (fun v3 I3 J3 h => ?_))
      refine Wp.eqs (pc' := 146) (st' := [.int v3]) rfl rfl ?_
      refine Wp.steps 1 (pc' := if 0 < v3 then 149 else 188) (lv' := [some (.ref 0), some (.ref 100), some (.ref 57), some (.int x3), some (.int x4), some (.int x5), some (.int x6), some (.int x7), some (.int x8), some (.int x9), none, none, none]) (st' := []) (I' := I3) (J' := J3) rfl (Wp.ite (fun h3 => ?_) (fun h3 => ?_))
      · replace h := h.1 h3
        refine Wp.steps 8 (pc' := 160) (lv' := [some (.ref 0), some (.ref 100), some (.ref 57), some (.int x3), some (.int x4), some (.int x5), some (.int x6), some (.int x7), some (.int x8), some (.int x9), none, none, none]) (st' := [.int (7 + (2 * x8)), .ref 57, .int 48, .ref 0]) (I' := I3) (J' := J3) rfl ?_
        refine Wp.iald rfl rfl h.1 ?_
        replace h := h.2
        refine Wp.steps 1 (pc' := 162) (lv' := [some (.ref 0), some (.ref 100), some (.ref 57), some (.int x3), some (.int x4), some (.int x5), some (.int x6), some (.int x7), some (.int x8), some (.int x9), none, none, none]) (st' := [.int (48 + (I3 57 (tN (7 + (2 * x8))))), .ref 0]) (I' := I3) (J' := J3) rfl ?_
        refine Wp.call (M' := Sb_type) (as := [.ref 0, .int (48 + (I3 57 (tN (7 + (2 * x8)))))]) (rest := []) rfl (CI.use h (fun v4 I4 J4 h => ?_))
        refine Wp.eqs (pc' := 165) (st' := [.int v4]) rfl rfl ?_
        refine Wp.steps 1 (pc' := if 0 < v4 then 168 else 188) (lv' := [some (.ref 0), some (.ref 100), some (.ref 57), some (.int x3), some (.int x4), some (.int x5), some (.int x6), some (.int x7), some (.int x8), some (.int x9), none, none, none]) (st' := []) (I' := I4) (J' := J4) rfl (Wp.ite (fun h4 => ?_) (fun h4 => ?_))
        · replace h := h.1 h4
          refine Wp.steps 2 (pc' := 172) (lv' := [some (.ref 0), some (.ref 100), some (.ref 57), some (.int x3), some (.int x4), some (.int x5), some (.int x6), some (.int x7), some (.int x8), some (.int x9), none, none, none]) (st' := [.int x6, .int x8]) (I' := I4) (J' := J4) rfl ?_
          refine Wp.steps 1 (pc' := if x8 = x6 then 175 else 184) (lv' := [some (.ref 0), some (.ref 100), some (.ref 57), some (.int x3), some (.int x4), some (.int x5), some (.int x6), some (.int x7), some (.int x8), some (.int x9), none, none, none]) (st' := []) (I' := I4) (J' := J4) rfl (Wp.ite (fun h5 => ?_) (fun h5 => ?_))
          · replace h := h.1 h5
            refine Wp.steps 2 (pc' := 178) (lv' := [some (.ref 0), some (.ref 100), some (.ref 57), some (.int x3), some (.int x4), some (.int x5), some (.int x6), some (.int x7), some (.int x8), some (.int x9), none, none, none]) (st' := [.int 33, .ref 0]) (I' := I4) (J' := J4) rfl ?_
            refine Wp.call (M' := Sb_type) (as := [.ref 0, .int 33]) (rest := []) rfl (CI.use h (fun v5 I5 J5 h => ?_))
            refine Wp.eqs (pc' := 181) (st' := [.int v5]) rfl rfl ?_
            refine Wp.steps 1 (pc' := if 0 < v5 then 184 else 188) (lv' := [some (.ref 0), some (.ref 100), some (.ref 57), some (.int x3), some (.int x4), some (.int x5), some (.int x6), some (.int x7), some (.int x8), some (.int x9), none, none, none]) (st' := []) (I' := I5) (J' := J5) rfl (Wp.ite (fun h6 => ?_) (fun h6 => ?_))
            · replace h := h.1 h6
              refine Wp.steps 10 (pc' := 198) (lv' := [some (.ref 0), some (.ref 100), some (.ref 57), some (.int x3), some (.int x4), some (.int x5), some (.int x6), some (.int 1), some (.int x8), some (.int x9), none, none, none]) (st' := []) (I' := (up2 I5 57 0 ((I5 57 0) + 1))) (J' := J5) rfl ?_
              exact h
            · replace h := h.2 h6
              refine Wp.steps 9 (pc' := 198) (lv' := [some (.ref 0), some (.ref 100), some (.ref 57), some (.int x3), some (.int x4), some (.int x5), some (.int x6), some (.int 0), some (.int x8), some (.int x9), none, none, none]) (st' := []) (I' := (up2 I5 57 0 ((I5 57 0) + 1))) (J' := J5) rfl ?_
              exact h
          · replace h := h.2 h5
            refine Wp.steps 10 (pc' := 198) (lv' := [some (.ref 0), some (.ref 100), some (.ref 57), some (.int x3), some (.int x4), some (.int x5), some (.int x6), some (.int 1), some (.int x8), some (.int x9), none, none, none]) (st' := []) (I' := (up2 I4 57 0 ((I4 57 0) + 1))) (J' := J4) rfl ?_
            exact h
        · replace h := h.2 h4
          refine Wp.steps 9 (pc' := 198) (lv' := [some (.ref 0), some (.ref 100), some (.ref 57), some (.int x3), some (.int x4), some (.int x5), some (.int x6), some (.int 0), some (.int x8), some (.int x9), none, none, none]) (st' := []) (I' := (up2 I4 57 0 ((I4 57 0) + 1))) (J' := J4) rfl ?_
          exact h
      · replace h := h.2 h3
        refine Wp.steps 9 (pc' := 198) (lv' := [some (.ref 0), some (.ref 100), some (.ref 57), some (.int x3), some (.int x4), some (.int x5), some (.int x6), some (.int 0), some (.int x8), some (.int x9), none, none, none]) (st' := []) (I' := (up2 I3 57 0 ((I3 57 0) + 1))) (J' := J3) rfl ?_
        exact h
    · replace h := h.2 h2
      refine Wp.steps 9 (pc' := 198) (lv' := [some (.ref 0), some (.ref 100), some (.ref 57), some (.int x3), some (.int x4), some (.int x5), some (.int x6), some (.int 0), some (.int x8), some (.int x9), none, none, none]) (st' := []) (I' := (up2 I1 57 0 ((I1 57 0) + 1))) (J' := J1) rfl ?_
      exact h
set_option maxHeartbeats 16000000 in
theorem v_Lw_lays_0_100_57_198 {d : Nat} {Q : Post} {I : I2} {J : J2} {x3 : Int32} {x4 : Int32} {x5 : Int32} {x6 : Int32} {x7 : Int32} {x8 : Int32} {x9 : Int32} (h : Wp d Lw_lays Q 43 [some (.ref 0), some (.ref 100), some (.ref 57), some (.int x3), some (.int x4), some (.int x5), some (.int x6), some (.int x7), some (.int (x8 + 1)), none, none, none, none] [] I J) : Wp d Lw_lays Q 198 [some (.ref 0), some (.ref 100), some (.ref 57), some (.int x3), some (.int x4), some (.int x5), some (.int x6), some (.int x7), some (.int x8), some (.int x9), none, none, none] [] I J := by
  refine Wp.steps 2 (pc' := 43) (lv' := [some (.ref 0), some (.ref 100), some (.ref 57), some (.int x3), some (.int x4), some (.int x5), some (.int x6), some (.int x7), some (.int (x8 + 1)), some (.int x9), none, none, none]) (st' := []) (I' := I) (J' := J) rfl ?_
  refine Wp.drop [9] (lv' := [some (.ref 0), some (.ref 100), some (.ref 57), some (.int x3), some (.int x4), some (.int x5), some (.int x6), some (.int x7), some (.int (x8 + 1)), none, none, none, none]) rfl ?_
  exact h
set_option maxHeartbeats 16000000 in
theorem v_Lw_lays_0_100_57_218 {d : Nat} {Q : Post} {I : I2} {J : J2} {x3 : Int32} {x4 : Int32} {x5 : Int32} {x6 : Int32} {x7 : Int32} {x8 : Int32} (h : (x5 = 1 → Wp d Lw_lays Q 241 [some (.ref 0), some (.ref 100), some (.ref 57), some (.int x3), some (.int x4), some (.int x5), some (.int x6), some (.int x7), some (.int 0), some (.int 0), none, none, none] [] I J) ∧ (¬ (x5 = 1) → Wp d Lw_lays Q 241 [some (.ref 0), some (.ref 100), some (.ref 57), some (.int x3), some (.int x4), some (.int x5), some (.int x6), some (.int x7), some (.int (rmI (srI x4 9) 6)), some (.int 0), none, none, none] [] I J)) : Wp d Lw_lays Q 218 [some (.ref 0), some (.ref 100), some (.ref 57), some (.int x3), some (.int x4), some (.int x5), some (.int x6), some (.int x7), some (.int x8), none, none, none, none] [] I J := by
  refine Wp.steps 2 (pc' := 221) (lv' := [some (.ref 0), some (.ref 100), some (.ref 57), some (.int x3), some (.int x4), some (.int x5), some (.int x6), some (.int x7), some (.int x8), none, none, none, none]) (st' := [.int 1, .int x5]) (I' := I) (J' := J) rfl ?_
  refine Wp.steps 1 (pc' := if x5 = 1 then 224 else 228) (lv' := [some (.ref 0), some (.ref 100), some (.ref 57), some (.int x3), some (.int x4), some (.int x5), some (.int x6), some (.int x7), some (.int x8), none, none, none, none]) (st' := []) (I' := I) (J' := J) rfl (Wp.ite (fun h1 => ?_) (fun h1 => ?_))
  · replace h := h.1 h1
    refine Wp.steps 5 (pc' := 241) (lv' := [some (.ref 0), some (.ref 100), some (.ref 57), some (.int x3), some (.int x4), some (.int x5), some (.int x6), some (.int x7), some (.int 0), some (.int 0), none, none, none]) (st' := []) (I' := I) (J' := J) rfl ?_
    exact h
  · replace h := h.2 h1
    refine Wp.steps 8 (pc' := 241) (lv' := [some (.ref 0), some (.ref 100), some (.ref 57), some (.int x3), some (.int x4), some (.int x5), some (.int x6), some (.int x7), some (.int (rmI (srI x4 9) 6)), some (.int 0), none, none, none]) (st' := []) (I' := I) (J' := J) rfl ?_
    exact h
set_option maxHeartbeats 16000000 in
theorem v_Lw_lays_0_100_57_241 {d : Nat} {Q : Post} {I : I2} {J : J2} {x3 : Int32} {x4 : Int32} {x5 : Int32} {x6 : Int32} {x7 : Int32} {x8 : Int32} {x9 : Int32} (h : (x9 < x8 → (x7 = 0 → Wp d Lw_lays Q 490 [some (.ref 0), some (.ref 100), some (.ref 57), some (.int x3), some (.int x4), some (.int x5), some (.int x6), some (.int x7), some (.int x8), some (.int x9), none, none, none] [] (up2 I 57 4 1) J) ∧ (¬ (x7 = 0) → CI d Lw_cell [.ref 100, .int (2 + (x9 / 2))] I J (fun v1 I1 J1 => ¬ x5 = 0 ∧ (vp_in (16 + (4 * x9)) 40 ∧ (Wp d Lw_lays Q 291 [some (.ref 0), some (.ref 100), some (.ref 57), some (.int x3), some (.int x4), some (.int x5), some (.int x6), some (.int x7), some (.int x8), some (.int x9), some (.int (srI v1 (15 * (rmI x9 2)))), some (.int (16 + (4 * x9))), none] [] (up2 I1 57 (tN (16 + (4 * x9))) (rmI (srI v1 (15 * (rmI x9 2))) x5)) J1))))) ∧ (¬ (x9 < x8) → Wp d Lw_lays Q 490 [some (.ref 0), some (.ref 100), some (.ref 57), some (.int x3), some (.int x4), some (.int x5), some (.int x6), some (.int x7), some (.int x8), some (.int x9), none, none, none] [] (up2 I 57 4 1) J)) : Wp d Lw_lays Q 241 [some (.ref 0), some (.ref 100), some (.ref 57), some (.int x3), some (.int x4), some (.int x5), some (.int x6), some (.int x7), some (.int x8), some (.int x9), none, none, none] [] I J := by
  refine Wp.steps 2 (pc' := 245) (lv' := [some (.ref 0), some (.ref 100), some (.ref 57), some (.int x3), some (.int x4), some (.int x5), some (.int x6), some (.int x7), some (.int x8), some (.int x9), none, none, none]) (st' := [.int x8, .int x9]) (I' := I) (J' := J) rfl ?_
  refine Wp.steps 1 (pc' := if x9 < x8 then 248 else 486) (lv' := [some (.ref 0), some (.ref 100), some (.ref 57), some (.int x3), some (.int x4), some (.int x5), some (.int x6), some (.int x7), some (.int x8), some (.int x9), none, none, none]) (st' := []) (I' := I) (J' := J) rfl (Wp.ite (fun h1 => ?_) (fun h1 => ?_))
  · replace h := h.1 h1
    refine Wp.steps 1 (pc' := 250) (lv' := [some (.ref 0), some (.ref 100), some (.ref 57), some (.int x3), some (.int x4), some (.int x5), some (.int x6), some (.int x7), some (.int x8), some (.int x9), none, none, none]) (st' := [.int x7]) (I' := I) (J' := J) rfl ?_
    refine Wp.steps 1 (pc' := if x7 = 0 then 486 else 253) (lv' := [some (.ref 0), some (.ref 100), some (.ref 57), some (.int x3), some (.int x4), some (.int x5), some (.int x6), some (.int x7), some (.int x8), some (.int x9), none, none, none]) (st' := []) (I' := I) (J' := J) rfl (Wp.ite (fun h2 => ?_) (fun h2 => ?_))
    · replace h := h.1 h2
      refine Wp.steps 4 (pc' := 490) (lv' := [some (.ref 0), some (.ref 100), some (.ref 57), some (.int x3), some (.int x4), some (.int x5), some (.int x6), some (.int x7), some (.int x8), some (.int x9), none, none, none]) (st' := []) (I' := (up2 I 57 4 1)) (J' := J) rfl ?_
      exact h
    · replace h := h.2 h2
      refine Wp.steps 6 (pc' := 260) (lv' := [some (.ref 0), some (.ref 100), some (.ref 57), some (.int x3), some (.int x4), some (.int x5), some (.int x6), some (.int x7), some (.int x8), some (.int x9), none, none, none]) (st' := [.int (2 + (x9 / 2)), .ref 100]) (I' := I) (J' := J) rfl ?_
      refine Wp.call (M' := Lw_cell) (as := [.ref 100, .int (2 + (x9 / 2))]) (rest := []) rfl (CI.use h (fun v1 I1 J1 h => ?_))
      refine Wp.eqs (pc' := 263) (st' := [.int v1]) rfl rfl ?_
      refine Wp.steps 17 (pc' := 289) (lv' := [some (.ref 0), some (.ref 100), some (.ref 57), some (.int x3), some (.int x4), some (.int x5), some (.int x6), some (.int x7), some (.int x8), some (.int x9), some (.int (srI v1 (15 * (rmI x9 2)))), some (.int (16 + (4 * x9))), none]) (st' := [.int x5, .int (srI v1 (15 * (rmI x9 2))), .int (16 + (4 * x9)), .ref 57]) (I' := I1) (J' := J1) rfl ?_
      refine Wp.irem rfl h.1 ?_
      replace h := h.2
      refine Wp.iast rfl rfl h.1 ?_
      replace h := h.2
      exact h
  · replace h := h.2 h1
    refine Wp.steps 4 (pc' := 490) (lv' := [some (.ref 0), some (.ref 100), some (.ref 57), some (.int x3), some (.int x4), some (.int x5), some (.int x6), some (.int x7), some (.int x8), some (.int x9), none, none, none]) (st' := []) (I' := (up2 I 57 4 1)) (J' := J) rfl ?_
    exact h
set_option maxHeartbeats 16000000 in
theorem v_Lw_lays_0_100_57_291 {d : Nat} {Q : Post} {I : I2} {J : J2} {x3 : Int32} {x4 : Int32} {x5 : Int32} {x6 : Int32} {x7 : Int32} {x8 : Int32} {x9 : Int32} {x10 : Int32} {x11 : Int32} (h : vp_in (x11 + 1) 40 ∧ (Wp d Lw_lays Q 303 [some (.ref 0), some (.ref 100), some (.ref 57), some (.int x3), some (.int x4), some (.int x5), some (.int x6), some (.int x7), some (.int x8), some (.int x9), some (.int x10), some (.int x11), none] [] (up2 I 57 (tN (x11 + 1)) (rmI (srI x10 3) 3)) J)) : Wp d Lw_lays Q 291 [some (.ref 0), some (.ref 100), some (.ref 57), some (.int x3), some (.int x4), some (.int x5), some (.int x6), some (.int x7), some (.int x8), some (.int x9), some (.int x10), some (.int x11), none] [] I J := by
  refine Wp.steps 9 (pc' := 302) (lv' := [some (.ref 0), some (.ref 100), some (.ref 57), some (.int x3), some (.int x4), some (.int x5), some (.int x6), some (.int x7), some (.int x8), some (.int x9), some (.int x10), some (.int x11), none]) (st' := [.int (rmI (srI x10 3) 3), .int (x11 + 1), .ref 57]) (I' := I) (J' := J) rfl ?_
  refine Wp.iast rfl rfl h.1 ?_
  replace h := h.2
  exact h
set_option maxHeartbeats 16000000 in
theorem v_Lw_lays_0_100_57_303 {d : Nat} {Q : Post} {I : I2} {J : J2} {x3 : Int32} {x4 : Int32} {x5 : Int32} {x6 : Int32} {x7 : Int32} {x8 : Int32} {x9 : Int32} {x10 : Int32} {x11 : Int32} (h : vp_in x11 40 ∧ (¬ (x5 - 1) = 0 ∧ (¬ x5 = 0 ∧ (vp_in (x11 + 2) 40 ∧ (Wp d Lw_lays Q 328 [some (.ref 0), some (.ref 100), some (.ref 57), some (.int x3), some (.int x4), some (.int x5), some (.int x6), some (.int x7), some (.int x8), some (.int x9), some (.int x10), some (.int x11), none] [] (up2 I 57 (tN (x11 + 2)) (rmI (((I 57 (tN x11)) + 1) + (rmI (srI x10 5) (x5 - 1))) x5)) J))))) : Wp d Lw_lays Q 303 [some (.ref 0), some (.ref 100), some (.ref 57), some (.int x3), some (.int x4), some (.int x5), some (.int x6), some (.int x7), some (.int x8), some (.int x9), some (.int x10), some (.int x11), none] [] I J := by
  refine Wp.steps 6 (pc' := 311) (lv' := [some (.ref 0), some (.ref 100), some (.ref 57), some (.int x3), some (.int x4), some (.int x5), some (.int x6), some (.int x7), some (.int x8), some (.int x9), some (.int x10), some (.int x11), none]) (st' := [.int x11, .ref 57, .int (x11 + 2), .ref 57]) (I' := I) (J' := J) rfl ?_
  refine Wp.iald rfl rfl h.1 ?_
  replace h := h.2
  refine Wp.steps 8 (pc' := 322) (lv' := [some (.ref 0), some (.ref 100), some (.ref 57), some (.int x3), some (.int x4), some (.int x5), some (.int x6), some (.int x7), some (.int x8), some (.int x9), some (.int x10), some (.int x11), none]) (st' := [.int (x5 - 1), .int (srI x10 5), .int ((I 57 (tN x11)) + 1), .int (x11 + 2), .ref 57]) (I' := I) (J' := J) rfl ?_
  refine Wp.irem rfl h.1 ?_
  replace h := h.2
  refine Wp.steps 2 (pc' := 326) (lv' := [some (.ref 0), some (.ref 100), some (.ref 57), some (.int x3), some (.int x4), some (.int x5), some (.int x6), some (.int x7), some (.int x8), some (.int x9), some (.int x10), some (.int x11), none]) (st' := [.int x5, .int (((I 57 (tN x11)) + 1) + (rmI (srI x10 5) (x5 - 1))), .int (x11 + 2), .ref 57]) (I' := I) (J' := J) rfl ?_
  refine Wp.irem rfl h.1 ?_
  replace h := h.2
  refine Wp.iast rfl rfl h.1 ?_
  replace h := h.2
  exact h
set_option maxHeartbeats 16000000 in
theorem v_Lw_lays_0_100_57_328 {d : Nat} {Q : Post} {I : I2} {J : J2} {x3 : Int32} {x4 : Int32} {x5 : Int32} {x6 : Int32} {x7 : Int32} {x8 : Int32} {x9 : Int32} {x10 : Int32} {x11 : Int32} (h : vp_in (x11 + 2) 40 ∧ (vp_in (7 + (2 * (I 57 (tN (x11 + 2))))) 40 ∧ (¬ ((slI 2 (I 57 (tN (7 + (2 * (I 57 (tN (x11 + 2)))))))) - 1) = 0 ∧ (vp_in (x11 + 3) 40 ∧ (Wp d Lw_lays Q 366 [some (.ref 0), some (.ref 100), some (.ref 57), some (.int x3), some (.int x4), some (.int x5), some (.int x6), some (.int x7), some (.int x8), some (.int x9), some (.int x10), some (.int x11), some (.int (I 57 (tN (7 + (2 * (I 57 (tN (x11 + 2))))))))] [] (up2 I 57 (tN (x11 + 3)) (1 + (rmI ((srI x10 8) &&& 15) ((slI 2 (I 57 (tN (7 + (2 * (I 57 (tN (x11 + 2)))))))) - 1)))) J))))) : Wp d Lw_lays Q 328 [some (.ref 0), some (.ref 100), some (.ref 57), some (.int x3), some (.int x4), some (.int x5), some (.int x6), some (.int x7), some (.int x8), some (.int x9), some (.int x10), some (.int x11), none] [] I J := by
  refine Wp.steps 7 (pc' := 337) (lv' := [some (.ref 0), some (.ref 100), some (.ref 57), some (.int x3), some (.int x4), some (.int x5), some (.int x6), some (.int x7), some (.int x8), some (.int x9), some (.int x10), some (.int x11), none]) (st' := [.int (x11 + 2), .ref 57, .int 2, .int 7, .ref 57]) (I' := I) (J' := J) rfl ?_
  refine Wp.iald rfl rfl h.1 ?_
  replace h := h.2
  refine Wp.steps 2 (pc' := 340) (lv' := [some (.ref 0), some (.ref 100), some (.ref 57), some (.int x3), some (.int x4), some (.int x5), some (.int x6), some (.int x7), some (.int x8), some (.int x9), some (.int x10), some (.int x11), none]) (st' := [.int (7 + (2 * (I 57 (tN (x11 + 2))))), .ref 57]) (I' := I) (J' := J) rfl ?_
  refine Wp.iald rfl rfl h.1 ?_
  replace h := h.2
  refine Wp.steps 16 (pc' := 363) (lv' := [some (.ref 0), some (.ref 100), some (.ref 57), some (.int x3), some (.int x4), some (.int x5), some (.int x6), some (.int x7), some (.int x8), some (.int x9), some (.int x10), some (.int x11), some (.int (I 57 (tN (7 + (2 * (I 57 (tN (x11 + 2))))))))]) (st' := [.int ((slI 2 (I 57 (tN (7 + (2 * (I 57 (tN (x11 + 2)))))))) - 1), .int ((srI x10 8) &&& 15), .int 1, .int (x11 + 3), .ref 57]) (I' := I) (J' := J) rfl ?_
  refine Wp.irem rfl h.1 ?_
  replace h := h.2
  refine Wp.steps 1 (pc' := 365) (lv' := [some (.ref 0), some (.ref 100), some (.ref 57), some (.int x3), some (.int x4), some (.int x5), some (.int x6), some (.int x7), some (.int x8), some (.int x9), some (.int x10), some (.int x11), some (.int (I 57 (tN (7 + (2 * (I 57 (tN (x11 + 2))))))))]) (st' := [.int (1 + (rmI ((srI x10 8) &&& 15) ((slI 2 (I 57 (tN (7 + (2 * (I 57 (tN (x11 + 2)))))))) - 1))), .int (x11 + 3), .ref 57]) (I' := I) (J' := J) rfl ?_
  refine Wp.iast rfl rfl h.1 ?_
  replace h := h.2
  exact h
set_option maxHeartbeats 16000000 in
theorem v_Lw_lays_0_100_57_366 {d : Nat} {Q : Post} {I : I2} {J : J2} {x3 : Int32} {x4 : Int32} {x5 : Int32} {x6 : Int32} {x7 : Int32} {x8 : Int32} {x9 : Int32} {x10 : Int32} {x11 : Int32} {x12 : Int32} (h : (x9 = 0 → CI d Sb_type [.ref 0, .int 59] I J (fun v1 I1 J1 => (0 < v1 → vp_in x11 40 ∧ (CI d Sb_type [.ref 0, .int (48 + (I1 57 (tN x11)))] I1 J1 (fun v2 I2 J2 => (0 < v2 → vp_in (x11 + 1) 40 ∧ (((I2 57 (tN (x11 + 1))) = 0 → Wp d Lw_lays Q 431 [some (.ref 0), some (.ref 100), some (.ref 57), some (.int x3), some (.int x4), some (.int x5), some (.int x6), some (.int x7), some (.int x8), some (.int x9), some (.int x10), some (.int x11), some (.int x12)] [.int 60, .ref 0] I2 J2) ∧ (¬ ((I2 57 (tN (x11 + 1))) = 0) → vp_in (x11 + 1) 40 ∧ (((I2 57 (tN (x11 + 1))) = 1 → Wp d Lw_lays Q 431 [some (.ref 0), some (.ref 100), some (.ref 57), some (.int x3), some (.int x4), some (.int x5), some (.int x6), some (.int x7), some (.int x8), some (.int x9), some (.int x10), some (.int x11), some (.int x12)] [.int 62, .ref 0] I2 J2) ∧ (¬ ((I2 57 (tN (x11 + 1))) = 1) → Wp d Lw_lays Q 431 [some (.ref 0), some (.ref 100), some (.ref 57), some (.int x3), some (.int x4), some (.int x5), some (.int x6), some (.int x7), some (.int x8), some (.int x9), some (.int x10), some (.int x11), some (.int x12)] [.int 61, .ref 0] I2 J2))))) ∧ (¬ (0 < v2) → Wp d Lw_lays Q 480 [some (.ref 0), some (.ref 100), some (.ref 57), some (.int x3), some (.int x4), some (.int x5), some (.int x6), some (.int 0), some (.int x8), some (.int x9), some (.int x10), some (.int x11), some (.int x12)] [] (up2 I2 57 1 ((I2 57 1) + 1)) J2)))) ∧ (¬ (0 < v1) → Wp d Lw_lays Q 480 [some (.ref 0), some (.ref 100), some (.ref 57), some (.int x3), some (.int x4), some (.int x5), some (.int x6), some (.int 0), some (.int x8), some (.int x9), some (.int x10), some (.int x11), some (.int x12)] [] (up2 I1 57 1 ((I1 57 1) + 1)) J1))) ∧ (¬ (x9 = 0) → CI d Sb_type [.ref 0, .int 44] I J (fun v1 I1 J1 => (0 < v1 → vp_in x11 40 ∧ (CI d Sb_type [.ref 0, .int (48 + (I1 57 (tN x11)))] I1 J1 (fun v2 I2 J2 => (0 < v2 → vp_in (x11 + 1) 40 ∧ (((I2 57 (tN (x11 + 1))) = 0 → Wp d Lw_lays Q 431 [some (.ref 0), some (.ref 100), some (.ref 57), some (.int x3), some (.int x4), some (.int x5), some (.int x6), some (.int x7), some (.int x8), some (.int x9), some (.int x10), some (.int x11), some (.int x12)] [.int 60, .ref 0] I2 J2) ∧ (¬ ((I2 57 (tN (x11 + 1))) = 0) → vp_in (x11 + 1) 40 ∧ (((I2 57 (tN (x11 + 1))) = 1 → Wp d Lw_lays Q 431 [some (.ref 0), some (.ref 100), some (.ref 57), some (.int x3), some (.int x4), some (.int x5), some (.int x6), some (.int x7), some (.int x8), some (.int x9), some (.int x10), some (.int x11), some (.int x12)] [.int 62, .ref 0] I2 J2) ∧ (¬ ((I2 57 (tN (x11 + 1))) = 1) → Wp d Lw_lays Q 431 [some (.ref 0), some (.ref 100), some (.ref 57), some (.int x3), some (.int x4), some (.int x5), some (.int x6), some (.int x7), some (.int x8), some (.int x9), some (.int x10), some (.int x11), some (.int x12)] [.int 61, .ref 0] I2 J2))))) ∧ (¬ (0 < v2) → Wp d Lw_lays Q 480 [some (.ref 0), some (.ref 100), some (.ref 57), some (.int x3), some (.int x4), some (.int x5), some (.int x6), some (.int 0), some (.int x8), some (.int x9), some (.int x10), some (.int x11), some (.int x12)] [] (up2 I2 57 1 ((I2 57 1) + 1)) J2)))) ∧ (¬ (0 < v1) → Wp d Lw_lays Q 480 [some (.ref 0), some (.ref 100), some (.ref 57), some (.int x3), some (.int x4), some (.int x5), some (.int x6), some (.int 0), some (.int x8), some (.int x9), some (.int x10), some (.int x11), some (.int x12)] [] (up2 I1 57 1 ((I1 57 1) + 1)) J1)))) : Wp d Lw_lays Q 366 [some (.ref 0), some (.ref 100), some (.ref 57), some (.int x3), some (.int x4), some (.int x5), some (.int x6), some (.int x7), some (.int x8), some (.int x9), some (.int x10), some (.int x11), some (.int x12)] [] I J := by
  refine Wp.steps 2 (pc' := 369) (lv' := [some (.ref 0), some (.ref 100), some (.ref 57), some (.int x3), some (.int x4), some (.int x5), some (.int x6), some (.int x7), some (.int x8), some (.int x9), some (.int x10), some (.int x11), some (.int x12)]) (st' := [.int x9, .ref 0]) (I' := I) (J' := J) rfl ?_
  refine Wp.steps 1 (pc' := if x9 = 0 then 372 else 377) (lv' := [some (.ref 0), some (.ref 100), some (.ref 57), some (.int x3), some (.int x4), some (.int x5), some (.int x6), some (.int x7), some (.int x8), some (.int x9), some (.int x10), some (.int x11), some (.int x12)]) (st' := [.ref 0]) (I' := I) (J' := J) rfl (Wp.ite (fun h1 => ?_) (fun h1 => ?_))
  · replace h := h.1 h1
    refine Wp.steps 2 (pc' := 379) (lv' := [some (.ref 0), some (.ref 100), some (.ref 57), some (.int x3), some (.int x4), some (.int x5), some (.int x6), some (.int x7), some (.int x8), some (.int x9), some (.int x10), some (.int x11), some (.int x12)]) (st' := [.int 59, .ref 0]) (I' := I) (J' := J) rfl ?_
    refine Wp.call (M' := Sb_type) (as := [.ref 0, .int 59]) (rest := []) rfl (CI.use h (fun v1 I1 J1 h => ?_))
    refine Wp.eqs (pc' := 382) (st' := [.int v1]) rfl rfl ?_
    refine Wp.steps 1 (pc' := if 0 < v1 then 385 else 470) (lv' := [some (.ref 0), some (.ref 100), some (.ref 57), some (.int x3), some (.int x4), some (.int x5), some (.int x6), some (.int x7), some (.int x8), some (.int x9), some (.int x10), some (.int x11), some (.int x12)]) (st' := []) (I' := I1) (J' := J1) rfl (Wp.ite (fun h2 => ?_) (fun h2 => ?_))
    · replace h := h.1 h2
      refine Wp.steps 4 (pc' := 391) (lv' := [some (.ref 0), some (.ref 100), some (.ref 57), some (.int x3), some (.int x4), some (.int x5), some (.int x6), some (.int x7), some (.int x8), some (.int x9), some (.int x10), some (.int x11), some (.int x12)]) (st' := [.int x11, .ref 57, .int 48, .ref 0]) (I' := I1) (J' := J1) rfl ?_
      refine Wp.iald rfl rfl h.1 ?_
      replace h := h.2
      refine Wp.steps 1 (pc' := 393) (lv' := [some (.ref 0), some (.ref 100), some (.ref 57), some (.int x3), some (.int x4), some (.int x5), some (.int x6), some (.int x7), some (.int x8), some (.int x9), some (.int x10), some (.int x11), some (.int x12)]) (st' := [.int (48 + (I1 57 (tN x11))), .ref 0]) (I' := I1) (J' := J1) rfl ?_
      refine Wp.call (M' := Sb_type) (as := [.ref 0, .int (48 + (I1 57 (tN x11)))]) (rest := []) rfl (CI.use h (fun v2 I2 J2 h => ?_))
      refine Wp.eqs (pc' := 396) (st' := [.int v2]) rfl rfl ?_
      refine Wp.steps 1 (pc' := if 0 < v2 then 399 else 470) (lv' := [some (.ref 0), some (.ref 100), some (.ref 57), some (.int x3), some (.int x4), some (.int x5), some (.int x6), some (.int x7), some (.int x8), some (.int x9), some (.int x10), some (.int x11), some (.int x12)]) (st' := []) (I' := I2) (J' := J2) rfl (Wp.ite (fun h3 => ?_) (fun h3 => ?_))
      · replace h := h.1 h3
        refine Wp.steps 5 (pc' := 405) (lv' := [some (.ref 0), some (.ref 100), some (.ref 57), some (.int x3), some (.int x4), some (.int x5), some (.int x6), some (.int x7), some (.int x8), some (.int x9), some (.int x10), some (.int x11), some (.int x12)]) (st' := [.int (x11 + 1), .ref 57, .ref 0]) (I' := I2) (J' := J2) rfl ?_
        refine Wp.iald rfl rfl h.1 ?_
        replace h := h.2
        refine Wp.steps 1 (pc' := if (I2 57 (tN (x11 + 1))) = 0 then 409 else 414) (lv' := [some (.ref 0), some (.ref 100), some (.ref 57), some (.int x3), some (.int x4), some (.int x5), some (.int x6), some (.int x7), some (.int x8), some (.int x9), some (.int x10), some (.int x11), some (.int x12)]) (st' := [.ref 0]) (I' := I2) (J' := J2) rfl (Wp.ite (fun h4 => ?_) (fun h4 => ?_))
        · replace h := h.1 h4
          refine Wp.steps 2 (pc' := 431) (lv' := [some (.ref 0), some (.ref 100), some (.ref 57), some (.int x3), some (.int x4), some (.int x5), some (.int x6), some (.int x7), some (.int x8), some (.int x9), some (.int x10), some (.int x11), some (.int x12)]) (st' := [.int 60, .ref 0]) (I' := I2) (J' := J2) rfl ?_
          exact h
        · replace h := h.2 h4
          refine Wp.steps 4 (pc' := 419) (lv' := [some (.ref 0), some (.ref 100), some (.ref 57), some (.int x3), some (.int x4), some (.int x5), some (.int x6), some (.int x7), some (.int x8), some (.int x9), some (.int x10), some (.int x11), some (.int x12)]) (st' := [.int (x11 + 1), .ref 57, .ref 0]) (I' := I2) (J' := J2) rfl ?_
          refine Wp.iald rfl rfl h.1 ?_
          replace h := h.2
          refine Wp.steps 1 (pc' := 421) (lv' := [some (.ref 0), some (.ref 100), some (.ref 57), some (.int x3), some (.int x4), some (.int x5), some (.int x6), some (.int x7), some (.int x8), some (.int x9), some (.int x10), some (.int x11), some (.int x12)]) (st' := [.int 1, .int (I2 57 (tN (x11 + 1))), .ref 0]) (I' := I2) (J' := J2) rfl ?_
          refine Wp.steps 1 (pc' := if (I2 57 (tN (x11 + 1))) = 1 then 424 else 429) (lv' := [some (.ref 0), some (.ref 100), some (.ref 57), some (.int x3), some (.int x4), some (.int x5), some (.int x6), some (.int x7), some (.int x8), some (.int x9), some (.int x10), some (.int x11), some (.int x12)]) (st' := [.ref 0]) (I' := I2) (J' := J2) rfl (Wp.ite (fun h5 => ?_) (fun h5 => ?_))
          · replace h := h.1 h5
            refine Wp.steps 2 (pc' := 431) (lv' := [some (.ref 0), some (.ref 100), some (.ref 57), some (.int x3), some (.int x4), some (.int x5), some (.int x6), some (.int x7), some (.int x8), some (.int x9), some (.int x10), some (.int x11), some (.int x12)]) (st' := [.int 62, .ref 0]) (I' := I2) (J' := J2) rfl ?_
            exact h
          · replace h := h.2 h5
            refine Wp.steps 1 (pc' := 431) (lv' := [some (.ref 0), some (.ref 100), some (.ref 57), some (.int x3), some (.int x4), some (.int x5), some (.int x6), some (.int x7), some (.int x8), some (.int x9), some (.int x10), some (.int x11), some (.int x12)]) (st' := [.int 61, .ref 0]) (I' := I2) (J' := J2) rfl ?_
            exact h
      · replace h := h.2 h3
        refine Wp.steps 9 (pc' := 480) (lv' := [some (.ref 0), some (.ref 100), some (.ref 57), some (.int x3), some (.int x4), some (.int x5), some (.int x6), some (.int 0), some (.int x8), some (.int x9), some (.int x10), some (.int x11), some (.int x12)]) (st' := []) (I' := (up2 I2 57 1 ((I2 57 1) + 1))) (J' := J2) rfl ?_
        exact h
    · replace h := h.2 h2
      refine Wp.steps 9 (pc' := 480) (lv' := [some (.ref 0), some (.ref 100), some (.ref 57), some (.int x3), some (.int x4), some (.int x5), some (.int x6), some (.int 0), some (.int x8), some (.int x9), some (.int x10), some (.int x11), some (.int x12)]) (st' := []) (I' := (up2 I1 57 1 ((I1 57 1) + 1))) (J' := J1) rfl ?_
      exact h
  · replace h := h.2 h1
    refine Wp.steps 1 (pc' := 379) (lv' := [some (.ref 0), some (.ref 100), some (.ref 57), some (.int x3), some (.int x4), some (.int x5), some (.int x6), some (.int x7), some (.int x8), some (.int x9), some (.int x10), some (.int x11), some (.int x12)]) (st' := [.int 44, .ref 0]) (I' := I) (J' := J) rfl ?_
    refine Wp.call (M' := Sb_type) (as := [.ref 0, .int 44]) (rest := []) rfl (CI.use h (fun v1 I1 J1 h => ?_))
    refine Wp.eqs (pc' := 382) (st' := [.int v1]) rfl rfl ?_
    refine Wp.steps 1 (pc' := if 0 < v1 then 385 else 470) (lv' := [some (.ref 0), some (.ref 100), some (.ref 57), some (.int x3), some (.int x4), some (.int x5), some (.int x6), some (.int x7), some (.int x8), some (.int x9), some (.int x10), some (.int x11), some (.int x12)]) (st' := []) (I' := I1) (J' := J1) rfl (Wp.ite (fun h2 => ?_) (fun h2 => ?_))
    · replace h := h.1 h2
      refine Wp.steps 4 (pc' := 391) (lv' := [some (.ref 0), some (.ref 100), some (.ref 57), some (.int x3), some (.int x4), some (.int x5), some (.int x6), some (.int x7), some (.int x8), some (.int x9), some (.int x10), some (.int x11), some (.int x12)]) (st' := [.int x11, .ref 57, .int 48, .ref 0]) (I' := I1) (J' := J1) rfl ?_
      refine Wp.iald rfl rfl h.1 ?_
      replace h := h.2
      refine Wp.steps 1 (pc' := 393) (lv' := [some (.ref 0), some (.ref 100), some (.ref 57), some (.int x3), some (.int x4), some (.int x5), some (.int x6), some (.int x7), some (.int x8), some (.int x9), some (.int x10), some (.int x11), some (.int x12)]) (st' := [.int (48 + (I1 57 (tN x11))), .ref 0]) (I' := I1) (J' := J1) rfl ?_
      refine Wp.call (M' := Sb_type) (as := [.ref 0, .int (48 + (I1 57 (tN x11)))]) (rest := []) rfl (CI.use h (fun v2 I2 J2 h => ?_))
      refine Wp.eqs (pc' := 396) (st' := [.int v2]) rfl rfl ?_
      refine Wp.steps 1 (pc' := if 0 < v2 then 399 else 470) (lv' := [some (.ref 0), some (.ref 100), some (.ref 57), some (.int x3), some (.int x4), some (.int x5), some (.int x6), some (.int x7), some (.int x8), some (.int x9), some (.int x10), some (.int x11), some (.int x12)]) (st' := []) (I' := I2) (J' := J2) rfl (Wp.ite (fun h3 => ?_) (fun h3 => ?_))
      · replace h := h.1 h3
        refine Wp.steps 5 (pc' := 405) (lv' := [some (.ref 0), some (.ref 100), some (.ref 57), some (.int x3), some (.int x4), some (.int x5), some (.int x6), some (.int x7), some (.int x8), some (.int x9), some (.int x10), some (.int x11), some (.int x12)]) (st' := [.int (x11 + 1), .ref 57, .ref 0]) (I' := I2) (J' := J2) rfl ?_
        refine Wp.iald rfl rfl h.1 ?_
        replace h := h.2
        refine Wp.steps 1 (pc' := if (I2 57 (tN (x11 + 1))) = 0 then 409 else 414) (lv' := [some (.ref 0), some (.ref 100), some (.ref 57), some (.int x3), some (.int x4), some (.int x5), some (.int x6), some (.int x7), some (.int x8), some (.int x9), some (.int x10), some (.int x11), some (.int x12)]) (st' := [.ref 0]) (I' := I2) (J' := J2) rfl (Wp.ite (fun h4 => ?_) (fun h4 => ?_))
        · replace h := h.1 h4
          refine Wp.steps 2 (pc' := 431) (lv' := [some (.ref 0), some (.ref 100), some (.ref 57), some (.int x3), some (.int x4), some (.int x5), some (.int x6), some (.int x7), some (.int x8), some (.int x9), some (.int x10), some (.int x11), some (.int x12)]) (st' := [.int 60, .ref 0]) (I' := I2) (J' := J2) rfl ?_
          exact h
        · replace h := h.2 h4
          refine Wp.steps 4 (pc' := 419) (lv' := [some (.ref 0), some (.ref 100), some (.ref 57), some (.int x3), some (.int x4), some (.int x5), some (.int x6), some (.int x7), some (.int x8), some (.int x9), some (.int x10), some (.int x11), some (.int x12)]) (st' := [.int (x11 + 1), .ref 57, .ref 0]) (I' := I2) (J' := J2) rfl ?_
          refine Wp.iald rfl rfl h.1 ?_
          replace h := h.2
          refine Wp.steps 1 (pc' := 421) (lv' := [some (.ref 0), some (.ref 100), some (.ref 57), some (.int x3), some (.int x4), some (.int x5), some (.int x6), some (.int x7), some (.int x8), some (.int x9), some (.int x10), some (.int x11), some (.int x12)]) (st' := [.int 1, .int (I2 57 (tN (x11 + 1))), .ref 0]) (I' := I2) (J' := J2) rfl ?_
          refine Wp.steps 1 (pc' := if (I2 57 (tN (x11 + 1))) = 1 then 424 else 429) (lv' := [some (.ref 0), some (.ref 100), some (.ref 57), some (.int x3), some (.int x4), some (.int x5), some (.int x6), some (.int x7), some (.int x8), some (.int x9), some (.int x10), some (.int x11), some (.int x12)]) (st' := [.ref 0]) (I' := I2) (J' := J2) rfl (Wp.ite (fun h5 => ?_) (fun h5 => ?_))
          · replace h := h.1 h5
            refine Wp.steps 2 (pc' := 431) (lv' := [some (.ref 0), some (.ref 100), some (.ref 57), some (.int x3), some (.int x4), some (.int x5), some (.int x6), some (.int x7), some (.int x8), some (.int x9), some (.int x10), some (.int x11), some (.int x12)]) (st' := [.int 62, .ref 0]) (I' := I2) (J' := J2) rfl ?_
            exact h
          · replace h := h.2 h5
            refine Wp.steps 1 (pc' := 431) (lv' := [some (.ref 0), some (.ref 100), some (.ref 57), some (.int x3), some (.int x4), some (.int x5), some (.int x6), some (.int x7), some (.int x8), some (.int x9), some (.int x10), some (.int x11), some (.int x12)]) (st' := [.int 61, .ref 0]) (I' := I2) (J' := J2) rfl ?_
            exact h
      · replace h := h.2 h3
        refine Wp.steps 9 (pc' := 480) (lv' := [some (.ref 0), some (.ref 100), some (.ref 57), some (.int x3), some (.int x4), some (.int x5), some (.int x6), some (.int 0), some (.int x8), some (.int x9), some (.int x10), some (.int x11), some (.int x12)]) (st' := []) (I' := (up2 I2 57 1 ((I2 57 1) + 1))) (J' := J2) rfl ?_
        exact h
    · replace h := h.2 h2
      refine Wp.steps 9 (pc' := 480) (lv' := [some (.ref 0), some (.ref 100), some (.ref 57), some (.int x3), some (.int x4), some (.int x5), some (.int x6), some (.int 0), some (.int x8), some (.int x9), some (.int x10), some (.int x11), some (.int x12)]) (st' := []) (I' := (up2 I1 57 1 ((I1 57 1) + 1))) (J' := J1) rfl ?_
      exact h
set_option maxHeartbeats 16000000 in
theorem v_Lw_lays_0_100_57_431 {d : Nat} {Q : Post} {I : I2} {J : J2} {x3 : Int32} {x4 : Int32} {x5 : Int32} {x6 : Int32} {x7 : Int32} {x8 : Int32} {x9 : Int32} {x10 : Int32} {x11 : Int32} {x12 : Int32} {s0 : Int32} (h : CI d Sb_type [.ref 0, .int s0] I J (fun v1 I1 J1 => (0 < v1 → vp_in (x11 + 2) 40 ∧ (CI d Sb_type [.ref 0, .int (48 + (I1 57 (tN (x11 + 2))))] I1 J1 (fun v2 I2 J2 => (0 < v2 → vp_in (x11 + 3) 40 ∧ (CI d Lw_digits [.ref 0, .int (I2 57 (tN (x11 + 3)))] I2 J2 (fun v3 I3 J3 => (v3 = 0 → Wp d Lw_lays Q 480 [some (.ref 0), some (.ref 100), some (.ref 57), some (.int x3), some (.int x4), some (.int x5), some (.int x6), some (.int 0), some (.int x8), some (.int x9), some (.int x10), some (.int x11), some (.int x12)] [] (up2 I3 57 1 ((I3 57 1) + 1)) J3) ∧ (¬ (v3 = 0) → Wp d Lw_lays Q 480 [some (.ref 0), some (.ref 100), some (.ref 57), some (.int x3), some (.int x4), some (.int x5), some (.int x6), some (.int 1), some (.int x8), some (.int x9), some (.int x10), some (.int x11), some (.int x12)] [] (up2 I3 57 1 ((I3 57 1) + 1)) J3)))) ∧ (¬ (0 < v2) → Wp d Lw_lays Q 480 [some (.ref 0), some (.ref 100), some (.ref 57), some (.int x3), some (.int x4), some (.int x5), some (.int x6), some (.int 0), some (.int x8), some (.int x9), some (.int x10), some (.int x11), some (.int x12)] [] (up2 I2 57 1 ((I2 57 1) + 1)) J2)))) ∧ (¬ (0 < v1) → Wp d Lw_lays Q 480 [some (.ref 0), some (.ref 100), some (.ref 57), some (.int x3), some (.int x4), some (.int x5), some (.int x6), some (.int 0), some (.int x8), some (.int x9), some (.int x10), some (.int x11), some (.int x12)] [] (up2 I1 57 1 ((I1 57 1) + 1)) J1))) : Wp d Lw_lays Q 431 [some (.ref 0), some (.ref 100), some (.ref 57), some (.int x3), some (.int x4), some (.int x5), some (.int x6), some (.int x7), some (.int x8), some (.int x9), some (.int x10), some (.int x11), some (.int x12)] [.int s0, .ref 0] I J := by
  refine Wp.call (M' := Sb_type) (as := [.ref 0, .int s0]) (rest := []) rfl (CI.use h (fun v1 I1 J1 h => ?_))
  refine Wp.eqs (pc' := 434) (st' := [.int v1]) rfl rfl ?_
  refine Wp.steps 1 (pc' := if 0 < v1 then 437 else 470) (lv' := [some (.ref 0), some (.ref 100), some (.ref 57), some (.int x3), some (.int x4), some (.int x5), some (.int x6), some (.int x7), some (.int x8), some (.int x9), some (.int x10), some (.int x11), some (.int x12)]) (st' := []) (I' := I1) (J' := J1) rfl (Wp.ite (fun h1 => ?_) (fun h1 => ?_))
  · replace h := h.1 h1
    refine Wp.steps 6 (pc' := 445) (lv' := [some (.ref 0), some (.ref 100), some (.ref 57), some (.int x3), some (.int x4), some (.int x5), some (.int x6), some (.int x7), some (.int x8), some (.int x9), some (.int x10), some (.int x11), some (.int x12)]) (st' := [.int (x11 + 2), .ref 57, .int 48, .ref 0]) (I' := I1) (J' := J1) rfl ?_
    refine Wp.iald rfl rfl h.1 ?_
    replace h := h.2
    refine Wp.steps 1 (pc' := 447) (lv' := [some (.ref 0), some (.ref 100), some (.ref 57), some (.int x3), some (.int x4), some (.int x5), some (.int x6), some (.int x7), some (.int x8), some (.int x9), some (.int x10), some (.int x11), some (.int x12)]) (st' := [.int (48 + (I1 57 (tN (x11 + 2)))), .ref 0]) (I' := I1) (J' := J1) rfl ?_
    refine Wp.call (M' := Sb_type) (as := [.ref 0, .int (48 + (I1 57 (tN (x11 + 2))))]) (rest := []) rfl (CI.use h (fun v2 I2 J2 h => ?_))
    refine Wp.eqs (pc' := 450) (st' := [.int v2]) rfl rfl ?_
    refine Wp.steps 1 (pc' := if 0 < v2 then 453 else 470) (lv' := [some (.ref 0), some (.ref 100), some (.ref 57), some (.int x3), some (.int x4), some (.int x5), some (.int x6), some (.int x7), some (.int x8), some (.int x9), some (.int x10), some (.int x11), some (.int x12)]) (st' := []) (I' := I2) (J' := J2) rfl (Wp.ite (fun h2 => ?_) (fun h2 => ?_))
    · replace h := h.1 h2
      refine Wp.steps 5 (pc' := 459) (lv' := [some (.ref 0), some (.ref 100), some (.ref 57), some (.int x3), some (.int x4), some (.int x5), some (.int x6), some (.int x7), some (.int x8), some (.int x9), some (.int x10), some (.int x11), some (.int x12)]) (st' := [.int (x11 + 3), .ref 57, .ref 0]) (I' := I2) (J' := J2) rfl ?_
      refine Wp.iald rfl rfl h.1 ?_
      replace h := h.2
      refine Wp.call (M' := Lw_digits) (as := [.ref 0, .int (I2 57 (tN (x11 + 3)))]) (rest := []) rfl (CI.use h (fun v3 I3 J3 h => ?_))
      refine Wp.eqs (pc' := 463) (st' := [.int v3]) rfl rfl ?_
      refine Wp.steps 1 (pc' := if v3 = 0 then 470 else 466) (lv' := [some (.ref 0), some (.ref 100), some (.ref 57), some (.int x3), some (.int x4), some (.int x5), some (.int x6), some (.int x7), some (.int x8), some (.int x9), some (.int x10), some (.int x11), some (.int x12)]) (st' := []) (I' := I3) (J' := J3) rfl (Wp.ite (fun h3 => ?_) (fun h3 => ?_))
      · replace h := h.1 h3
        refine Wp.steps 9 (pc' := 480) (lv' := [some (.ref 0), some (.ref 100), some (.ref 57), some (.int x3), some (.int x4), some (.int x5), some (.int x6), some (.int 0), some (.int x8), some (.int x9), some (.int x10), some (.int x11), some (.int x12)]) (st' := []) (I' := (up2 I3 57 1 ((I3 57 1) + 1))) (J' := J3) rfl ?_
        exact h
      · replace h := h.2 h3
        refine Wp.steps 10 (pc' := 480) (lv' := [some (.ref 0), some (.ref 100), some (.ref 57), some (.int x3), some (.int x4), some (.int x5), some (.int x6), some (.int 1), some (.int x8), some (.int x9), some (.int x10), some (.int x11), some (.int x12)]) (st' := []) (I' := (up2 I3 57 1 ((I3 57 1) + 1))) (J' := J3) rfl ?_
        exact h
    · replace h := h.2 h2
      refine Wp.steps 9 (pc' := 480) (lv' := [some (.ref 0), some (.ref 100), some (.ref 57), some (.int x3), some (.int x4), some (.int x5), some (.int x6), some (.int 0), some (.int x8), some (.int x9), some (.int x10), some (.int x11), some (.int x12)]) (st' := []) (I' := (up2 I2 57 1 ((I2 57 1) + 1))) (J' := J2) rfl ?_
      exact h
  · replace h := h.2 h1
    refine Wp.steps 9 (pc' := 480) (lv' := [some (.ref 0), some (.ref 100), some (.ref 57), some (.int x3), some (.int x4), some (.int x5), some (.int x6), some (.int 0), some (.int x8), some (.int x9), some (.int x10), some (.int x11), some (.int x12)]) (st' := []) (I' := (up2 I1 57 1 ((I1 57 1) + 1))) (J' := J1) rfl ?_
    exact h
set_option maxHeartbeats 16000000 in
theorem v_Lw_lays_0_100_57_480 {d : Nat} {Q : Post} {I : I2} {J : J2} {x3 : Int32} {x4 : Int32} {x5 : Int32} {x6 : Int32} {x7 : Int32} {x8 : Int32} {x9 : Int32} {x10 : Int32} {x11 : Int32} {x12 : Int32} (h : Wp d Lw_lays Q 241 [some (.ref 0), some (.ref 100), some (.ref 57), some (.int x3), some (.int x4), some (.int x5), some (.int x6), some (.int x7), some (.int x8), some (.int (x9 + 1)), none, none, none] [] I J) : Wp d Lw_lays Q 480 [some (.ref 0), some (.ref 100), some (.ref 57), some (.int x3), some (.int x4), some (.int x5), some (.int x6), some (.int x7), some (.int x8), some (.int x9), some (.int x10), some (.int x11), some (.int x12)] [] I J := by
  refine Wp.steps 2 (pc' := 241) (lv' := [some (.ref 0), some (.ref 100), some (.ref 57), some (.int x3), some (.int x4), some (.int x5), some (.int x6), some (.int x7), some (.int x8), some (.int (x9 + 1)), some (.int x10), some (.int x11), some (.int x12)]) (st' := []) (I' := I) (J' := J) rfl ?_
  refine Wp.drop [10, 11, 12] (lv' := [some (.ref 0), some (.ref 100), some (.ref 57), some (.int x3), some (.int x4), some (.int x5), some (.int x6), some (.int x7), some (.int x8), some (.int (x9 + 1)), none, none, none]) rfl ?_
  exact h
set_option maxHeartbeats 16000000 in
theorem v_Lw_lays_0_100_57_490 {d : Nat} {Q : Post} {I : I2} {J : J2} {x3 : Int32} {x4 : Int32} {x5 : Int32} {x6 : Int32} {x7 : Int32} {x8 : Int32} {x9 : Int32} (h : (x7 = 0 → Q (some (.int 0)) I J) ∧ (¬ (x7 = 0) → CI d Sb_box [.ref 0] I J (fun v1 I1 J1 => (v1 = x5 → Q (some (.int 1)) I1 J1) ∧ (¬ (v1 = x5) → Q (some (.int 0)) I1 J1)))) : Wp d Lw_lays Q 490 [some (.ref 0), some (.ref 100), some (.ref 57), some (.int x3), some (.int x4), some (.int x5), some (.int x6), some (.int x7), some (.int x8), some (.int x9), none, none, none] [] I J := by
  refine Wp.steps 1 (pc' := 492) (lv' := [some (.ref 0), some (.ref 100), some (.ref 57), some (.int x3), some (.int x4), some (.int x5), some (.int x6), some (.int x7), some (.int x8), some (.int x9), none, none, none]) (st' := [.int x7]) (I' := I) (J' := J) rfl ?_
  refine Wp.steps 1 (pc' := if x7 = 0 then 508 else 495) (lv' := [some (.ref 0), some (.ref 100), some (.ref 57), some (.int x3), some (.int x4), some (.int x5), some (.int x6), some (.int x7), some (.int x8), some (.int x9), none, none, none]) (st' := []) (I' := I) (J' := J) rfl (Wp.ite (fun h1 => ?_) (fun h1 => ?_))
  · replace h := h.1 h1
    refine Wp.steps 1 (pc' := 509) (lv' := [some (.ref 0), some (.ref 100), some (.ref 57), some (.int x3), some (.int x4), some (.int x5), some (.int x6), some (.int x7), some (.int x8), some (.int x9), none, none, none]) (st' := [.int 0]) (I' := I) (J' := J) rfl ?_
    exact Wp.ret rfl h
  · replace h := h.2 h1
    refine Wp.steps 1 (pc' := 496) (lv' := [some (.ref 0), some (.ref 100), some (.ref 57), some (.int x3), some (.int x4), some (.int x5), some (.int x6), some (.int x7), some (.int x8), some (.int x9), none, none, none]) (st' := [.ref 0]) (I' := I) (J' := J) rfl ?_
    refine Wp.call (M' := Sb_box) (as := [.ref 0]) (rest := []) rfl (CI.use h (fun v1 I1 J1 h => ?_))
    refine Wp.eqs (pc' := 499) (st' := [.int v1]) rfl rfl ?_
    refine Wp.steps 1 (pc' := 501) (lv' := [some (.ref 0), some (.ref 100), some (.ref 57), some (.int x3), some (.int x4), some (.int x5), some (.int x6), some (.int x7), some (.int x8), some (.int x9), none, none, none]) (st' := [.int x5, .int v1]) (I' := I1) (J' := J1) rfl ?_
    refine Wp.steps 1 (pc' := if v1 = x5 then 504 else 508) (lv' := [some (.ref 0), some (.ref 100), some (.ref 57), some (.int x3), some (.int x4), some (.int x5), some (.int x6), some (.int x7), some (.int x8), some (.int x9), none, none, none]) (st' := []) (I' := I1) (J' := J1) rfl (Wp.ite (fun h2 => ?_) (fun h2 => ?_))
    · replace h := h.1 h2
      refine Wp.steps 2 (pc' := 509) (lv' := [some (.ref 0), some (.ref 100), some (.ref 57), some (.int x3), some (.int x4), some (.int x5), some (.int x6), some (.int x7), some (.int x8), some (.int x9), none, none, none]) (st' := [.int 1]) (I' := I1) (J' := J1) rfl ?_
      exact Wp.ret rfl h
    · replace h := h.2 h2
      refine Wp.steps 1 (pc' := 509) (lv' := [some (.ref 0), some (.ref 100), some (.ref 57), some (.int x3), some (.int x4), some (.int x5), some (.int x6), some (.int x7), some (.int x8), some (.int x9), none, none, none]) (st' := [.int 0]) (I' := I1) (J' := J1) rfl ?_
      exact Wp.ret rfl h
set_option maxHeartbeats 16000000 in
theorem v_Lw_stands_0_57_0 {d : Nat} {Q : Post} {I : I2} {J : J2} (h : Wp d Lw_stands Q 17 [some (.ref 0), some (.ref 57), some (.int 0), some (.int 0), some (.int 0), some (.int 1), some (.int ((I 57 0) - 1)), none] [] I J) : Wp d Lw_stands Q 0 [some (.ref 0), some (.ref 57), none, none, none, none, none, none] [] I J := by
  refine Wp.steps 14 (pc' := 17) (lv' := [some (.ref 0), some (.ref 57), some (.int 0), some (.int 0), some (.int 0), some (.int 1), some (.int ((I 57 0) - 1)), none]) (st' := []) (I' := I) (J' := J) rfl ?_
  exact h
set_option maxHeartbeats 16000000 in
theorem v_Lw_stands_0_57_17 {d : Nat} {Q : Post} {I : I2} {J : J2} {x2 : Int32} {x3 : Int32} {x4 : Int32} {x5 : Int32} {x6 : Int32} (h : (x6 < 0 → CI d Sb_count [.ref 0, .int 2] I J (fun v1 I1 J1 => Wp d Lw_stands Q 156 [some (.ref 0), some (.ref 57), some (.int x2), some (.int x3), some (.int x4), some (.int x5), some (.int v1), some (.int 0)] [] I1 J1)) ∧ (¬ (x6 < 0) → (x5 = 0 → CI d Sb_count [.ref 0, .int 2] I J (fun v1 I1 J1 => Wp d Lw_stands Q 156 [some (.ref 0), some (.ref 57), some (.int x2), some (.int x3), some (.int x4), some (.int x5), some (.int v1), some (.int 0)] [] I1 J1)) ∧ (¬ (x5 = 0) → CI d Sb_of [.ref 0, .int x6, .int 2] I J (fun v1 I1 J1 => (v1 < 0 → CI d Sb_of [.ref 0, .int x6, .int 3] I1 J1 (fun v2 I2 J2 => CI d Sb_of [.ref 0, .int x6, .int 4] I2 J2 (fun v3 I3 J3 => (0 < v1 → Wp d Lw_stands Q 17 [some (.ref 0), some (.ref 57), some (.int (x2 + (v2 + v3))), some (.int (x3 ||| (slI 1 x6))), some (.int ((4 * x4) + v1)), some (.int 0), some (.int (x6 + (-1))), none] [] I3 J3) ∧ (¬ (0 < v1) → Wp d Lw_stands Q 17 [some (.ref 0), some (.ref 57), some (.int (x2 + (v2 + v3))), some (.int (x3 ||| 0)), some (.int ((4 * x4) + v1)), some (.int 0), some (.int (x6 + (-1))), none] [] I3 J3)))) ∧ (¬ (v1 < 0) → CI d Sb_of [.ref 0, .int x6, .int 1] I1 J1 (fun v2 I2 J2 => (v2 < v1 → CI d Sb_of [.ref 0, .int x6, .int 3] I2 J2 (fun v3 I3 J3 => CI d Sb_of [.ref 0, .int x6, .int 4] I3 J3 (fun v4 I4 J4 => (0 < v1 → Wp d Lw_stands Q 17 [some (.ref 0), some (.ref 57), some (.int (x2 + (v3 + v4))), some (.int (x3 ||| (slI 1 x6))), some (.int ((4 * x4) + v1)), some (.int 0), some (.int (x6 + (-1))), none] [] I4 J4) ∧ (¬ (0 < v1) → Wp d Lw_stands Q 17 [some (.ref 0), some (.ref 57), some (.int (x2 + (v3 + v4))), some (.int (x3 ||| 0)), some (.int ((4 * x4) + v1)), some (.int 0), some (.int (x6 + (-1))), none] [] I4 J4)))) ∧ (¬ (v2 < v1) → (0 < v1 → CI d Sb_of [.ref 0, .int x6, .int 1] I2 J2 (fun v3 I3 J3 => (v1 < v3 → CI d Sb_of [.ref 0, .int x6, .int 3] I3 J3 (fun v4 I4 J4 => CI d Sb_of [.ref 0, .int x6, .int 4] I4 J4 (fun v5 I5 J5 => Wp d Lw_stands Q 17 [some (.ref 0), some (.ref 57), some (.int (x2 + (v4 + v5))), some (.int (x3 ||| (slI 1 x6))), some (.int ((4 * x4) + v1)), some (.int 1), some (.int (x6 + (-1))), none] [] I5 J5))) ∧ (¬ (v1 < v3) → CI d Sb_of [.ref 0, .int x6, .int 4] I3 J3 (fun v4 I4 J4 => (v4 = 0 → CI d Sb_of [.ref 0, .int x6, .int 3] I4 J4 (fun v5 I5 J5 => CI d Sb_of [.ref 0, .int x6, .int 4] I5 J5 (fun v6 I6 J6 => Wp d Lw_stands Q 17 [some (.ref 0), some (.ref 57), some (.int (x2 + (v5 + v6))), some (.int (x3 ||| (slI 1 x6))), some (.int ((4 * x4) + v1)), some (.int 1), some (.int (x6 + (-1))), none] [] I6 J6))) ∧ (¬ (v4 = 0) → CI d Sb_of [.ref 0, .int x6, .int 3] I4 J4 (fun v5 I5 J5 => CI d Sb_of [.ref 0, .int x6, .int 4] I5 J5 (fun v6 I6 J6 => Wp d Lw_stands Q 17 [some (.ref 0), some (.ref 57), some (.int (x2 + (v5 + v6))), some (.int (x3 ||| (slI 1 x6))), some (.int ((4 * x4) + v1)), some (.int 0), some (.int (x6 + (-1))), none] [] I6 J6))))))) ∧ (¬ (0 < v1) → CI d Sb_of [.ref 0, .int x6, .int 3] I2 J2 (fun v3 I3 J3 => (v3 = 0 → CI d Sb_of [.ref 0, .int x6, .int 1] I3 J3 (fun v4 I4 J4 => (v1 < v4 → CI d Sb_of [.ref 0, .int x6, .int 3] I4 J4 (fun v5 I5 J5 => CI d Sb_of [.ref 0, .int x6, .int 4] I5 J5 (fun v6 I6 J6 => Wp d Lw_stands Q 17 [some (.ref 0), some (.ref 57), some (.int (x2 + (v5 + v6))), some (.int (x3 ||| 0)), some (.int ((4 * x4) + v1)), some (.int 1), some (.int (x6 + (-1))), none] [] I6 J6))) ∧ (¬ (v1 < v4) → CI d Sb_of [.ref 0, .int x6, .int 4] I4 J4 (fun v5 I5 J5 => (v5 = 0 → CI d Sb_of [.ref 0, .int x6, .int 3] I5 J5 (fun v6 I6 J6 => CI d Sb_of [.ref 0, .int x6, .int 4] I6 J6 (fun v7 I7 J7 => Wp d Lw_stands Q 17 [some (.ref 0), some (.ref 57), some (.int (x2 + (v6 + v7))), some (.int (x3 ||| 0)), some (.int ((4 * x4) + v1)), some (.int 1), some (.int (x6 + (-1))), none] [] I7 J7))) ∧ (¬ (v5 = 0) → CI d Sb_of [.ref 0, .int x6, .int 3] I5 J5 (fun v6 I6 J6 => CI d Sb_of [.ref 0, .int x6, .int 4] I6 J6 (fun v7 I7 J7 => Wp d Lw_stands Q 17 [some (.ref 0), some (.ref 57), some (.int (x2 + (v6 + v7))), some (.int (x3 ||| 0)), some (.int ((4 * x4) + v1)), some (.int 0), some (.int (x6 + (-1))), none] [] I7 J7))))))) ∧ (¬ (v3 = 0) → CI d Sb_of [.ref 0, .int x6, .int 3] I3 J3 (fun v4 I4 J4 => CI d Sb_of [.ref 0, .int x6, .int 4] I4 J4 (fun v5 I5 J5 => Wp d Lw_stands Q 17 [some (.ref 0), some (.ref 57), some (.int (x2 + (v4 + v5))), some (.int (x3 ||| 0)), some (.int ((4 * x4) + v1)), some (.int 0), some (.int (x6 + (-1))), none] [] I5 J5)))))))))))) : Wp d Lw_stands Q 17 [some (.ref 0), some (.ref 57), some (.int x2), some (.int x3), some (.int x4), some (.int x5), some (.int x6), none] [] I J := by
  refine Wp.steps 1 (pc' := 19) (lv' := [some (.ref 0), some (.ref 57), some (.int x2), some (.int x3), some (.int x4), some (.int x5), some (.int x6), none]) (st' := [.int x6]) (I' := I) (J' := J) rfl ?_
  refine Wp.steps 1 (pc' := if x6 < 0 then 146 else 22) (lv' := [some (.ref 0), some (.ref 57), some (.int x2), some (.int x3), some (.int x4), some (.int x5), some (.int x6), none]) (st' := []) (I' := I) (J' := J) rfl (Wp.ite (fun h1 => ?_) (fun h1 => ?_))
  · replace h := h.1 h1
    refine Wp.steps 2 (pc' := 148) (lv' := [some (.ref 0), some (.ref 57), some (.int x2), some (.int x3), some (.int x4), some (.int x5), some (.int x6), none]) (st' := [.int 2, .ref 0]) (I' := I) (J' := J) rfl ?_
    refine Wp.call (M' := Sb_count) (as := [.ref 0, .int 2]) (rest := []) rfl (CI.use h (fun v1 I1 J1 h => ?_))
    refine Wp.eqs (pc' := 151) (st' := [.int v1]) rfl rfl ?_
    refine Wp.steps 3 (pc' := 156) (lv' := [some (.ref 0), some (.ref 57), some (.int x2), some (.int x3), some (.int x4), some (.int x5), some (.int v1), some (.int 0)]) (st' := []) (I' := I1) (J' := J1) rfl ?_
    exact h
  · replace h := h.2 h1
    refine Wp.steps 1 (pc' := 24) (lv' := [some (.ref 0), some (.ref 57), some (.int x2), some (.int x3), some (.int x4), some (.int x5), some (.int x6), none]) (st' := [.int x5]) (I' := I) (J' := J) rfl ?_
    refine Wp.steps 1 (pc' := if x5 = 0 then 146 else 27) (lv' := [some (.ref 0), some (.ref 57), some (.int x2), some (.int x3), some (.int x4), some (.int x5), some (.int x6), none]) (st' := []) (I' := I) (J' := J) rfl (Wp.ite (fun h2 => ?_) (fun h2 => ?_))
    · replace h := h.1 h2
      refine Wp.steps 2 (pc' := 148) (lv' := [some (.ref 0), some (.ref 57), some (.int x2), some (.int x3), some (.int x4), some (.int x5), some (.int x6), none]) (st' := [.int 2, .ref 0]) (I' := I) (J' := J) rfl ?_
      refine Wp.call (M' := Sb_count) (as := [.ref 0, .int 2]) (rest := []) rfl (CI.use h (fun v1 I1 J1 h => ?_))
      refine Wp.eqs (pc' := 151) (st' := [.int v1]) rfl rfl ?_
      refine Wp.steps 3 (pc' := 156) (lv' := [some (.ref 0), some (.ref 57), some (.int x2), some (.int x3), some (.int x4), some (.int x5), some (.int v1), some (.int 0)]) (st' := []) (I' := I1) (J' := J1) rfl ?_
      exact h
    · replace h := h.2 h2
      refine Wp.steps 3 (pc' := 31) (lv' := [some (.ref 0), some (.ref 57), some (.int x2), some (.int x3), some (.int x4), some (.int x5), some (.int x6), none]) (st' := [.int 2, .int x6, .ref 0]) (I' := I) (J' := J) rfl ?_
      refine Wp.call (M' := Sb_of) (as := [.ref 0, .int x6, .int 2]) (rest := []) rfl (CI.use h (fun v1 I1 J1 h => ?_))
      refine Wp.eqs (pc' := 34) (st' := [.int v1]) rfl rfl ?_
      refine Wp.steps 2 (pc' := 38) (lv' := [some (.ref 0), some (.ref 57), some (.int x2), some (.int x3), some (.int x4), some (.int x5), some (.int x6), some (.int v1)]) (st' := [.int v1]) (I' := I1) (J' := J1) rfl ?_
      refine Wp.steps 1 (pc' := if v1 < 0 then 94 else 41) (lv' := [some (.ref 0), some (.ref 57), some (.int x2), some (.int x3), some (.int x4), some (.int x5), some (.int x6), some (.int v1)]) (st' := []) (I' := I1) (J' := J1) rfl (Wp.ite (fun h3 => ?_) (fun h3 => ?_))
      · replace h := h.1 h3
        refine Wp.steps 6 (pc' := 102) (lv' := [some (.ref 0), some (.ref 57), some (.int x2), some (.int x3), some (.int x4), some (.int 0), some (.int x6), some (.int v1)]) (st' := [.int 3, .int x6, .ref 0, .int x2]) (I' := I1) (J' := J1) rfl ?_
        refine Wp.call (M' := Sb_of) (as := [.ref 0, .int x6, .int 3]) (rest := [.int x2]) rfl (CI.use h (fun v2 I2 J2 h => ?_))
        refine Wp.eqs (pc' := 105) (st' := [.int v2, .int x2]) rfl rfl ?_
        refine Wp.steps 3 (pc' := 109) (lv' := [some (.ref 0), some (.ref 57), some (.int x2), some (.int x3), some (.int x4), some (.int 0), some (.int x6), some (.int v1)]) (st' := [.int 4, .int x6, .ref 0, .int v2, .int x2]) (I' := I2) (J' := J2) rfl ?_
        refine Wp.call (M' := Sb_of) (as := [.ref 0, .int x6, .int 4]) (rest := [.int v2, .int x2]) rfl (CI.use h (fun v3 I3 J3 h => ?_))
        refine Wp.eqs (pc' := 112) (st' := [.int v3, .int v2, .int x2]) rfl rfl ?_
        refine Wp.steps 5 (pc' := 118) (lv' := [some (.ref 0), some (.ref 57), some (.int (x2 + (v2 + v3))), some (.int x3), some (.int x4), some (.int 0), some (.int x6), some (.int v1)]) (st' := [.int v1, .int x3]) (I' := I3) (J' := J3) rfl ?_
        refine Wp.steps 1 (pc' := if 0 < v1 then 121 else 128) (lv' := [some (.ref 0), some (.ref 57), some (.int (x2 + (v2 + v3))), some (.int x3), some (.int x4), some (.int 0), some (.int x6), some (.int v1)]) (st' := [.int x3]) (I' := I3) (J' := J3) rfl (Wp.ite (fun h4 => ?_) (fun h4 => ?_))
        · replace h := h.1 h4
          refine Wp.steps 14 (pc' := 17) (lv' := [some (.ref 0), some (.ref 57), some (.int (x2 + (v2 + v3))), some (.int (x3 ||| (slI 1 x6))), some (.int ((4 * x4) + v1)), some (.int 0), some (.int (x6 + (-1))), some (.int v1)]) (st' := []) (I' := I3) (J' := J3) rfl ?_
          refine Wp.drop [7] (lv' := [some (.ref 0), some (.ref 57), some (.int (x2 + (v2 + v3))), some (.int (x3 ||| (slI 1 x6))), some (.int ((4 * x4) + v1)), some (.int 0), some (.int (x6 + (-1))), none]) rfl ?_
          exact h
        · replace h := h.2 h4
          refine Wp.steps 11 (pc' := 17) (lv' := [some (.ref 0), some (.ref 57), some (.int (x2 + (v2 + v3))), some (.int (x3 ||| 0)), some (.int ((4 * x4) + v1)), some (.int 0), some (.int (x6 + (-1))), some (.int v1)]) (st' := []) (I' := I3) (J' := J3) rfl ?_
          refine Wp.drop [7] (lv' := [some (.ref 0), some (.ref 57), some (.int (x2 + (v2 + v3))), some (.int (x3 ||| 0)), some (.int ((4 * x4) + v1)), some (.int 0), some (.int (x6 + (-1))), none]) rfl ?_
          exact h
      · replace h := h.2 h3
        refine Wp.steps 4 (pc' := 47) (lv' := [some (.ref 0), some (.ref 57), some (.int x2), some (.int x3), some (.int x4), some (.int x5), some (.int x6), some (.int v1)]) (st' := [.int 1, .int x6, .ref 0, .int v1]) (I' := I1) (J' := J1) rfl ?_
        refine Wp.call (M' := Sb_of) (as := [.ref 0, .int x6, .int 1]) (rest := [.int v1]) rfl (CI.use h (fun v2 I2 J2 h => ?_))
        refine Wp.eqs (pc' := 50) (st' := [.int v2, .int v1]) rfl rfl ?_
        refine Wp.steps 1 (pc' := if v2 < v1 then 94 else 53) (lv' := [some (.ref 0), some (.ref 57), some (.int x2), some (.int x3), some (.int x4), some (.int x5), some (.int x6), some (.int v1)]) (st' := []) (I' := I2) (J' := J2) rfl (Wp.ite (fun h4 => ?_) (fun h4 => ?_))
        · replace h := h.1 h4
          refine Wp.steps 6 (pc' := 102) (lv' := [some (.ref 0), some (.ref 57), some (.int x2), some (.int x3), some (.int x4), some (.int 0), some (.int x6), some (.int v1)]) (st' := [.int 3, .int x6, .ref 0, .int x2]) (I' := I2) (J' := J2) rfl ?_
          refine Wp.call (M' := Sb_of) (as := [.ref 0, .int x6, .int 3]) (rest := [.int x2]) rfl (CI.use h (fun v3 I3 J3 h => ?_))
          refine Wp.eqs (pc' := 105) (st' := [.int v3, .int x2]) rfl rfl ?_
          refine Wp.steps 3 (pc' := 109) (lv' := [some (.ref 0), some (.ref 57), some (.int x2), some (.int x3), some (.int x4), some (.int 0), some (.int x6), some (.int v1)]) (st' := [.int 4, .int x6, .ref 0, .int v3, .int x2]) (I' := I3) (J' := J3) rfl ?_
          refine Wp.call (M' := Sb_of) (as := [.ref 0, .int x6, .int 4]) (rest := [.int v3, .int x2]) rfl (CI.use h (fun v4 I4 J4 h => ?_))
          refine Wp.eqs (pc' := 112) (st' := [.int v4, .int v3, .int x2]) rfl rfl ?_
          refine Wp.steps 5 (pc' := 118) (lv' := [some (.ref 0), some (.ref 57), some (.int (x2 + (v3 + v4))), some (.int x3), some (.int x4), some (.int 0), some (.int x6), some (.int v1)]) (st' := [.int v1, .int x3]) (I' := I4) (J' := J4) rfl ?_
          refine Wp.steps 1 (pc' := if 0 < v1 then 121 else 128) (lv' := [some (.ref 0), some (.ref 57), some (.int (x2 + (v3 + v4))), some (.int x3), some (.int x4), some (.int 0), some (.int x6), some (.int v1)]) (st' := [.int x3]) (I' := I4) (J' := J4) rfl (Wp.ite (fun h5 => ?_) (fun h5 => ?_))
          · replace h := h.1 h5
            refine Wp.steps 14 (pc' := 17) (lv' := [some (.ref 0), some (.ref 57), some (.int (x2 + (v3 + v4))), some (.int (x3 ||| (slI 1 x6))), some (.int ((4 * x4) + v1)), some (.int 0), some (.int (x6 + (-1))), some (.int v1)]) (st' := []) (I' := I4) (J' := J4) rfl ?_
            refine Wp.drop [7] (lv' := [some (.ref 0), some (.ref 57), some (.int (x2 + (v3 + v4))), some (.int (x3 ||| (slI 1 x6))), some (.int ((4 * x4) + v1)), some (.int 0), some (.int (x6 + (-1))), none]) rfl ?_
            exact h
          · replace h := h.2 h5
            refine Wp.steps 11 (pc' := 17) (lv' := [some (.ref 0), some (.ref 57), some (.int (x2 + (v3 + v4))), some (.int (x3 ||| 0)), some (.int ((4 * x4) + v1)), some (.int 0), some (.int (x6 + (-1))), some (.int v1)]) (st' := []) (I' := I4) (J' := J4) rfl ?_
            refine Wp.drop [7] (lv' := [some (.ref 0), some (.ref 57), some (.int (x2 + (v3 + v4))), some (.int (x3 ||| 0)), some (.int ((4 * x4) + v1)), some (.int 0), some (.int (x6 + (-1))), none]) rfl ?_
            exact h
        · replace h := h.2 h4
          refine Wp.steps 1 (pc' := 55) (lv' := [some (.ref 0), some (.ref 57), some (.int x2), some (.int x3), some (.int x4), some (.int x5), some (.int x6), some (.int v1)]) (st' := [.int v1]) (I' := I2) (J' := J2) rfl ?_
          refine Wp.steps 1 (pc' := if 0 < v1 then 68 else 58) (lv' := [some (.ref 0), some (.ref 57), some (.int x2), some (.int x3), some (.int x4), some (.int x5), some (.int x6), some (.int v1)]) (st' := []) (I' := I2) (J' := J2) rfl (Wp.ite (fun h5 => ?_) (fun h5 => ?_))
          · replace h := h.1 h5
            refine Wp.steps 4 (pc' := 74) (lv' := [some (.ref 0), some (.ref 57), some (.int x2), some (.int x3), some (.int x4), some (.int x5), some (.int x6), some (.int v1)]) (st' := [.int 1, .int x6, .ref 0, .int v1]) (I' := I2) (J' := J2) rfl ?_
            refine Wp.call (M' := Sb_of) (as := [.ref 0, .int x6, .int 1]) (rest := [.int v1]) rfl (CI.use h (fun v3 I3 J3 h => ?_))
            refine Wp.eqs (pc' := 77) (st' := [.int v3, .int v1]) rfl rfl ?_
            refine Wp.steps 1 (pc' := if v1 < v3 then 90 else 80) (lv' := [some (.ref 0), some (.ref 57), some (.int x2), some (.int x3), some (.int x4), some (.int x5), some (.int x6), some (.int v1)]) (st' := []) (I' := I3) (J' := J3) rfl (Wp.ite (fun h6 => ?_) (fun h6 => ?_))
            · replace h := h.1 h6
              refine Wp.steps 7 (pc' := 102) (lv' := [some (.ref 0), some (.ref 57), some (.int x2), some (.int x3), some (.int x4), some (.int 1), some (.int x6), some (.int v1)]) (st' := [.int 3, .int x6, .ref 0, .int x2]) (I' := I3) (J' := J3) rfl ?_
              refine Wp.call (M' := Sb_of) (as := [.ref 0, .int x6, .int 3]) (rest := [.int x2]) rfl (CI.use h (fun v4 I4 J4 h => ?_))
              refine Wp.eqs (pc' := 105) (st' := [.int v4, .int x2]) rfl rfl ?_
              refine Wp.steps 3 (pc' := 109) (lv' := [some (.ref 0), some (.ref 57), some (.int x2), some (.int x3), some (.int x4), some (.int 1), some (.int x6), some (.int v1)]) (st' := [.int 4, .int x6, .ref 0, .int v4, .int x2]) (I' := I4) (J' := J4) rfl ?_
              refine Wp.call (M' := Sb_of) (as := [.ref 0, .int x6, .int 4]) (rest := [.int v4, .int x2]) rfl (CI.use h (fun v5 I5 J5 h => ?_))
              refine Wp.eqs (pc' := 112) (st' := [.int v5, .int v4, .int x2]) rfl rfl ?_
              refine Wp.steps 5 (pc' := 118) (lv' := [some (.ref 0), some (.ref 57), some (.int (x2 + (v4 + v5))), some (.int x3), some (.int x4), some (.int 1), some (.int x6), some (.int v1)]) (st' := [.int v1, .int x3]) (I' := I5) (J' := J5) rfl ?_
              refine Wp.steps 1 (pc' := if 0 < v1 then 121 else 128) (lv' := [some (.ref 0), some (.ref 57), some (.int (x2 + (v4 + v5))), some (.int x3), some (.int x4), some (.int 1), some (.int x6), some (.int v1)]) (st' := [.int x3]) (I' := I5) (J' := J5) rfl ?_
              rw [if_pos h5]
              refine Wp.steps 14 (pc' := 17) (lv' := [some (.ref 0), some (.ref 57), some (.int (x2 + (v4 + v5))), some (.int (x3 ||| (slI 1 x6))), some (.int ((4 * x4) + v1)), some (.int 1), some (.int (x6 + (-1))), some (.int v1)]) (st' := []) (I' := I5) (J' := J5) rfl ?_
              refine Wp.drop [7] (lv' := [some (.ref 0), some (.ref 57), some (.int (x2 + (v4 + v5))), some (.int (x3 ||| (slI 1 x6))), some (.int ((4 * x4) + v1)), some (.int 1), some (.int (x6 + (-1))), none]) rfl ?_
              exact h
            · replace h := h.2 h6
              refine Wp.steps 3 (pc' := 84) (lv' := [some (.ref 0), some (.ref 57), some (.int x2), some (.int x3), some (.int x4), some (.int x5), some (.int x6), some (.int v1)]) (st' := [.int 4, .int x6, .ref 0]) (I' := I3) (J' := J3) rfl ?_
              refine Wp.call (M' := Sb_of) (as := [.ref 0, .int x6, .int 4]) (rest := []) rfl (CI.use h (fun v4 I4 J4 h => ?_))
              refine Wp.eqs (pc' := 87) (st' := [.int v4]) rfl rfl ?_
              refine Wp.steps 1 (pc' := if v4 = 0 then 90 else 94) (lv' := [some (.ref 0), some (.ref 57), some (.int x2), some (.int x3), some (.int x4), some (.int x5), some (.int x6), some (.int v1)]) (st' := []) (I' := I4) (J' := J4) rfl (Wp.ite (fun h7 => ?_) (fun h7 => ?_))
              · replace h := h.1 h7
                refine Wp.steps 7 (pc' := 102) (lv' := [some (.ref 0), some (.ref 57), some (.int x2), some (.int x3), some (.int x4), some (.int 1), some (.int x6), some (.int v1)]) (st' := [.int 3, .int x6, .ref 0, .int x2]) (I' := I4) (J' := J4) rfl ?_
                refine Wp.call (M' := Sb_of) (as := [.ref 0, .int x6, .int 3]) (rest := [.int x2]) rfl (CI.use h (fun v5 I5 J5 h => ?_))
                refine Wp.eqs (pc' := 105) (st' := [.int v5, .int x2]) rfl rfl ?_
                refine Wp.steps 3 (pc' := 109) (lv' := [some (.ref 0), some (.ref 57), some (.int x2), some (.int x3), some (.int x4), some (.int 1), some (.int x6), some (.int v1)]) (st' := [.int 4, .int x6, .ref 0, .int v5, .int x2]) (I' := I5) (J' := J5) rfl ?_
                refine Wp.call (M' := Sb_of) (as := [.ref 0, .int x6, .int 4]) (rest := [.int v5, .int x2]) rfl (CI.use h (fun v6 I6 J6 h => ?_))
                refine Wp.eqs (pc' := 112) (st' := [.int v6, .int v5, .int x2]) rfl rfl ?_
                refine Wp.steps 5 (pc' := 118) (lv' := [some (.ref 0), some (.ref 57), some (.int (x2 + (v5 + v6))), some (.int x3), some (.int x4), some (.int 1), some (.int x6), some (.int v1)]) (st' := [.int v1, .int x3]) (I' := I6) (J' := J6) rfl ?_
                refine Wp.steps 1 (pc' := if 0 < v1 then 121 else 128) (lv' := [some (.ref 0), some (.ref 57), some (.int (x2 + (v5 + v6))), some (.int x3), some (.int x4), some (.int 1), some (.int x6), some (.int v1)]) (st' := [.int x3]) (I' := I6) (J' := J6) rfl ?_
                rw [if_pos h5]
                refine Wp.steps 14 (pc' := 17) (lv' := [some (.ref 0), some (.ref 57), some (.int (x2 + (v5 + v6))), some (.int (x3 ||| (slI 1 x6))), some (.int ((4 * x4) + v1)), some (.int 1), some (.int (x6 + (-1))), some (.int v1)]) (st' := []) (I' := I6) (J' := J6) rfl ?_
                refine Wp.drop [7] (lv' := [some (.ref 0), some (.ref 57), some (.int (x2 + (v5 + v6))), some (.int (x3 ||| (slI 1 x6))), some (.int ((4 * x4) + v1)), some (.int 1), some (.int (x6 + (-1))), none]) rfl ?_
                exact h
              · replace h := h.2 h7
                refine Wp.steps 6 (pc' := 102) (lv' := [some (.ref 0), some (.ref 57), some (.int x2), some (.int x3), some (.int x4), some (.int 0), some (.int x6), some (.int v1)]) (st' := [.int 3, .int x6, .ref 0, .int x2]) (I' := I4) (J' := J4) rfl ?_
                refine Wp.call (M' := Sb_of) (as := [.ref 0, .int x6, .int 3]) (rest := [.int x2]) rfl (CI.use h (fun v5 I5 J5 h => ?_))
                refine Wp.eqs (pc' := 105) (st' := [.int v5, .int x2]) rfl rfl ?_
                refine Wp.steps 3 (pc' := 109) (lv' := [some (.ref 0), some (.ref 57), some (.int x2), some (.int x3), some (.int x4), some (.int 0), some (.int x6), some (.int v1)]) (st' := [.int 4, .int x6, .ref 0, .int v5, .int x2]) (I' := I5) (J' := J5) rfl ?_
                refine Wp.call (M' := Sb_of) (as := [.ref 0, .int x6, .int 4]) (rest := [.int v5, .int x2]) rfl (CI.use h (fun v6 I6 J6 h => ?_))
                refine Wp.eqs (pc' := 112) (st' := [.int v6, .int v5, .int x2]) rfl rfl ?_
                refine Wp.steps 5 (pc' := 118) (lv' := [some (.ref 0), some (.ref 57), some (.int (x2 + (v5 + v6))), some (.int x3), some (.int x4), some (.int 0), some (.int x6), some (.int v1)]) (st' := [.int v1, .int x3]) (I' := I6) (J' := J6) rfl ?_
                refine Wp.steps 1 (pc' := if 0 < v1 then 121 else 128) (lv' := [some (.ref 0), some (.ref 57), some (.int (x2 + (v5 + v6))), some (.int x3), some (.int x4), some (.int 0), some (.int x6), some (.int v1)]) (st' := [.int x3]) (I' := I6) (J' := J6) rfl ?_
                rw [if_pos h5]
                refine Wp.steps 14 (pc' := 17) (lv' := [some (.ref 0), some (.ref 57), some (.int (x2 + (v5 + v6))), some (.int (x3 ||| (slI 1 x6))), some (.int ((4 * x4) + v1)), some (.int 0), some (.int (x6 + (-1))), some (.int v1)]) (st' := []) (I' := I6) (J' := J6) rfl ?_
                refine Wp.drop [7] (lv' := [some (.ref 0), some (.ref 57), some (.int (x2 + (v5 + v6))), some (.int (x3 ||| (slI 1 x6))), some (.int ((4 * x4) + v1)), some (.int 0), some (.int (x6 + (-1))), none]) rfl ?_
                exact h
          · replace h := h.2 h5
            refine Wp.steps 3 (pc' := 62) (lv' := [some (.ref 0), some (.ref 57), some (.int x2), some (.int x3), some (.int x4), some (.int x5), some (.int x6), some (.int v1)]) (st' := [.int 3, .int x6, .ref 0]) (I' := I2) (J' := J2) rfl ?_
            refine Wp.call (M' := Sb_of) (as := [.ref 0, .int x6, .int 3]) (rest := []) rfl (CI.use h (fun v3 I3 J3 h => ?_))
            refine Wp.eqs (pc' := 65) (st' := [.int v3]) rfl rfl ?_
            refine Wp.steps 1 (pc' := if v3 = 0 then 68 else 94) (lv' := [some (.ref 0), some (.ref 57), some (.int x2), some (.int x3), some (.int x4), some (.int x5), some (.int x6), some (.int v1)]) (st' := []) (I' := I3) (J' := J3) rfl (Wp.ite (fun h6 => ?_) (fun h6 => ?_))
            · replace h := h.1 h6
              refine Wp.steps 4 (pc' := 74) (lv' := [some (.ref 0), some (.ref 57), some (.int x2), some (.int x3), some (.int x4), some (.int x5), some (.int x6), some (.int v1)]) (st' := [.int 1, .int x6, .ref 0, .int v1]) (I' := I3) (J' := J3) rfl ?_
              refine Wp.call (M' := Sb_of) (as := [.ref 0, .int x6, .int 1]) (rest := [.int v1]) rfl (CI.use h (fun v4 I4 J4 h => ?_))
              refine Wp.eqs (pc' := 77) (st' := [.int v4, .int v1]) rfl rfl ?_
              refine Wp.steps 1 (pc' := if v1 < v4 then 90 else 80) (lv' := [some (.ref 0), some (.ref 57), some (.int x2), some (.int x3), some (.int x4), some (.int x5), some (.int x6), some (.int v1)]) (st' := []) (I' := I4) (J' := J4) rfl (Wp.ite (fun h7 => ?_) (fun h7 => ?_))
              · replace h := h.1 h7
                refine Wp.steps 7 (pc' := 102) (lv' := [some (.ref 0), some (.ref 57), some (.int x2), some (.int x3), some (.int x4), some (.int 1), some (.int x6), some (.int v1)]) (st' := [.int 3, .int x6, .ref 0, .int x2]) (I' := I4) (J' := J4) rfl ?_
                refine Wp.call (M' := Sb_of) (as := [.ref 0, .int x6, .int 3]) (rest := [.int x2]) rfl (CI.use h (fun v5 I5 J5 h => ?_))
                refine Wp.eqs (pc' := 105) (st' := [.int v5, .int x2]) rfl rfl ?_
                refine Wp.steps 3 (pc' := 109) (lv' := [some (.ref 0), some (.ref 57), some (.int x2), some (.int x3), some (.int x4), some (.int 1), some (.int x6), some (.int v1)]) (st' := [.int 4, .int x6, .ref 0, .int v5, .int x2]) (I' := I5) (J' := J5) rfl ?_
                refine Wp.call (M' := Sb_of) (as := [.ref 0, .int x6, .int 4]) (rest := [.int v5, .int x2]) rfl (CI.use h (fun v6 I6 J6 h => ?_))
                refine Wp.eqs (pc' := 112) (st' := [.int v6, .int v5, .int x2]) rfl rfl ?_
                refine Wp.steps 5 (pc' := 118) (lv' := [some (.ref 0), some (.ref 57), some (.int (x2 + (v5 + v6))), some (.int x3), some (.int x4), some (.int 1), some (.int x6), some (.int v1)]) (st' := [.int v1, .int x3]) (I' := I6) (J' := J6) rfl ?_
                refine Wp.steps 1 (pc' := if 0 < v1 then 121 else 128) (lv' := [some (.ref 0), some (.ref 57), some (.int (x2 + (v5 + v6))), some (.int x3), some (.int x4), some (.int 1), some (.int x6), some (.int v1)]) (st' := [.int x3]) (I' := I6) (J' := J6) rfl ?_
                rw [if_neg h5]
                refine Wp.steps 11 (pc' := 17) (lv' := [some (.ref 0), some (.ref 57), some (.int (x2 + (v5 + v6))), some (.int (x3 ||| 0)), some (.int ((4 * x4) + v1)), some (.int 1), some (.int (x6 + (-1))), some (.int v1)]) (st' := []) (I' := I6) (J' := J6) rfl ?_
                refine Wp.drop [7] (lv' := [some (.ref 0), some (.ref 57), some (.int (x2 + (v5 + v6))), some (.int (x3 ||| 0)), some (.int ((4 * x4) + v1)), some (.int 1), some (.int (x6 + (-1))), none]) rfl ?_
                exact h
              · replace h := h.2 h7
                refine Wp.steps 3 (pc' := 84) (lv' := [some (.ref 0), some (.ref 57), some (.int x2), some (.int x3), some (.int x4), some (.int x5), some (.int x6), some (.int v1)]) (st' := [.int 4, .int x6, .ref 0]) (I' := I4) (J' := J4) rfl ?_
                refine Wp.call (M' := Sb_of) (as := [.ref 0, .int x6, .int 4]) (rest := []) rfl (CI.use h (fun v5 I5 J5 h => ?_))
                refine Wp.eqs (pc' := 87) (st' := [.int v5]) rfl rfl ?_
                refine Wp.steps 1 (pc' := if v5 = 0 then 90 else 94) (lv' := [some (.ref 0), some (.ref 57), some (.int x2), some (.int x3), some (.int x4), some (.int x5), some (.int x6), some (.int v1)]) (st' := []) (I' := I5) (J' := J5) rfl (Wp.ite (fun h8 => ?_) (fun h8 => ?_))
                · replace h := h.1 h8
                  refine Wp.steps 7 (pc' := 102) (lv' := [some (.ref 0), some (.ref 57), some (.int x2), some (.int x3), some (.int x4), some (.int 1), some (.int x6), some (.int v1)]) (st' := [.int 3, .int x6, .ref 0, .int x2]) (I' := I5) (J' := J5) rfl ?_
                  refine Wp.call (M' := Sb_of) (as := [.ref 0, .int x6, .int 3]) (rest := [.int x2]) rfl (CI.use h (fun v6 I6 J6 h => ?_))
                  refine Wp.eqs (pc' := 105) (st' := [.int v6, .int x2]) rfl rfl ?_
                  refine Wp.steps 3 (pc' := 109) (lv' := [some (.ref 0), some (.ref 57), some (.int x2), some (.int x3), some (.int x4), some (.int 1), some (.int x6), some (.int v1)]) (st' := [.int 4, .int x6, .ref 0, .int v6, .int x2]) (I' := I6) (J' := J6) rfl ?_
                  refine Wp.call (M' := Sb_of) (as := [.ref 0, .int x6, .int 4]) (rest := [.int v6, .int x2]) rfl (CI.use h (fun v7 I7 J7 h => ?_))
                  refine Wp.eqs (pc' := 112) (st' := [.int v7, .int v6, .int x2]) rfl rfl ?_
                  refine Wp.steps 5 (pc' := 118) (lv' := [some (.ref 0), some (.ref 57), some (.int (x2 + (v6 + v7))), some (.int x3), some (.int x4), some (.int 1), some (.int x6), some (.int v1)]) (st' := [.int v1, .int x3]) (I' := I7) (J' := J7) rfl ?_
                  refine Wp.steps 1 (pc' := if 0 < v1 then 121 else 128) (lv' := [some (.ref 0), some (.ref 57), some (.int (x2 + (v6 + v7))), some (.int x3), some (.int x4), some (.int 1), some (.int x6), some (.int v1)]) (st' := [.int x3]) (I' := I7) (J' := J7) rfl ?_
                  rw [if_neg h5]
                  refine Wp.steps 11 (pc' := 17) (lv' := [some (.ref 0), some (.ref 57), some (.int (x2 + (v6 + v7))), some (.int (x3 ||| 0)), some (.int ((4 * x4) + v1)), some (.int 1), some (.int (x6 + (-1))), some (.int v1)]) (st' := []) (I' := I7) (J' := J7) rfl ?_
                  refine Wp.drop [7] (lv' := [some (.ref 0), some (.ref 57), some (.int (x2 + (v6 + v7))), some (.int (x3 ||| 0)), some (.int ((4 * x4) + v1)), some (.int 1), some (.int (x6 + (-1))), none]) rfl ?_
                  exact h
                · replace h := h.2 h8
                  refine Wp.steps 6 (pc' := 102) (lv' := [some (.ref 0), some (.ref 57), some (.int x2), some (.int x3), some (.int x4), some (.int 0), some (.int x6), some (.int v1)]) (st' := [.int 3, .int x6, .ref 0, .int x2]) (I' := I5) (J' := J5) rfl ?_
                  refine Wp.call (M' := Sb_of) (as := [.ref 0, .int x6, .int 3]) (rest := [.int x2]) rfl (CI.use h (fun v6 I6 J6 h => ?_))
                  refine Wp.eqs (pc' := 105) (st' := [.int v6, .int x2]) rfl rfl ?_
                  refine Wp.steps 3 (pc' := 109) (lv' := [some (.ref 0), some (.ref 57), some (.int x2), some (.int x3), some (.int x4), some (.int 0), some (.int x6), some (.int v1)]) (st' := [.int 4, .int x6, .ref 0, .int v6, .int x2]) (I' := I6) (J' := J6) rfl ?_
                  refine Wp.call (M' := Sb_of) (as := [.ref 0, .int x6, .int 4]) (rest := [.int v6, .int x2]) rfl (CI.use h (fun v7 I7 J7 h => ?_))
                  refine Wp.eqs (pc' := 112) (st' := [.int v7, .int v6, .int x2]) rfl rfl ?_
                  refine Wp.steps 5 (pc' := 118) (lv' := [some (.ref 0), some (.ref 57), some (.int (x2 + (v6 + v7))), some (.int x3), some (.int x4), some (.int 0), some (.int x6), some (.int v1)]) (st' := [.int v1, .int x3]) (I' := I7) (J' := J7) rfl ?_
                  refine Wp.steps 1 (pc' := if 0 < v1 then 121 else 128) (lv' := [some (.ref 0), some (.ref 57), some (.int (x2 + (v6 + v7))), some (.int x3), some (.int x4), some (.int 0), some (.int x6), some (.int v1)]) (st' := [.int x3]) (I' := I7) (J' := J7) rfl ?_
                  rw [if_neg h5]
                  refine Wp.steps 11 (pc' := 17) (lv' := [some (.ref 0), some (.ref 57), some (.int (x2 + (v6 + v7))), some (.int (x3 ||| 0)), some (.int ((4 * x4) + v1)), some (.int 0), some (.int (x6 + (-1))), some (.int v1)]) (st' := []) (I' := I7) (J' := J7) rfl ?_
                  refine Wp.drop [7] (lv' := [some (.ref 0), some (.ref 57), some (.int (x2 + (v6 + v7))), some (.int (x3 ||| 0)), some (.int ((4 * x4) + v1)), some (.int 0), some (.int (x6 + (-1))), none]) rfl ?_
                  exact h
            · replace h := h.2 h6
              refine Wp.steps 6 (pc' := 102) (lv' := [some (.ref 0), some (.ref 57), some (.int x2), some (.int x3), some (.int x4), some (.int 0), some (.int x6), some (.int v1)]) (st' := [.int 3, .int x6, .ref 0, .int x2]) (I' := I3) (J' := J3) rfl ?_
              refine Wp.call (M' := Sb_of) (as := [.ref 0, .int x6, .int 3]) (rest := [.int x2]) rfl (CI.use h (fun v4 I4 J4 h => ?_))
              refine Wp.eqs (pc' := 105) (st' := [.int v4, .int x2]) rfl rfl ?_
              refine Wp.steps 3 (pc' := 109) (lv' := [some (.ref 0), some (.ref 57), some (.int x2), some (.int x3), some (.int x4), some (.int 0), some (.int x6), some (.int v1)]) (st' := [.int 4, .int x6, .ref 0, .int v4, .int x2]) (I' := I4) (J' := J4) rfl ?_
              refine Wp.call (M' := Sb_of) (as := [.ref 0, .int x6, .int 4]) (rest := [.int v4, .int x2]) rfl (CI.use h (fun v5 I5 J5 h => ?_))
              refine Wp.eqs (pc' := 112) (st' := [.int v5, .int v4, .int x2]) rfl rfl ?_
              refine Wp.steps 5 (pc' := 118) (lv' := [some (.ref 0), some (.ref 57), some (.int (x2 + (v4 + v5))), some (.int x3), some (.int x4), some (.int 0), some (.int x6), some (.int v1)]) (st' := [.int v1, .int x3]) (I' := I5) (J' := J5) rfl ?_
              refine Wp.steps 1 (pc' := if 0 < v1 then 121 else 128) (lv' := [some (.ref 0), some (.ref 57), some (.int (x2 + (v4 + v5))), some (.int x3), some (.int x4), some (.int 0), some (.int x6), some (.int v1)]) (st' := [.int x3]) (I' := I5) (J' := J5) rfl ?_
              rw [if_neg h5]
              refine Wp.steps 11 (pc' := 17) (lv' := [some (.ref 0), some (.ref 57), some (.int (x2 + (v4 + v5))), some (.int (x3 ||| 0)), some (.int ((4 * x4) + v1)), some (.int 0), some (.int (x6 + (-1))), some (.int v1)]) (st' := []) (I' := I5) (J' := J5) rfl ?_
              refine Wp.drop [7] (lv' := [some (.ref 0), some (.ref 57), some (.int (x2 + (v4 + v5))), some (.int (x3 ||| 0)), some (.int ((4 * x4) + v1)), some (.int 0), some (.int (x6 + (-1))), none]) rfl ?_
              exact h
set_option maxHeartbeats 16000000 in
theorem v_Lw_stands_0_57_156 {d : Nat} {Q : Post} {I : I2} {J : J2} {x2 : Int32} {x3 : Int32} {x4 : Int32} {x5 : Int32} {x6 : Int32} {x7 : Int32} (h : (x7 < (I 57 1) → (x5 = 0 → Wp d Lw_stands Q 398 [some (.ref 0), some (.ref 57), some (.int x2), some (.int x3), some (.int x4), some (.int x5), some (.int x6), some (.int x7)] [] I J) ∧ (¬ (x5 = 0) → CI d Sb_count [.ref 0, .int 5] I J (fun v1 I1 J1 => CI d Sb_at [.ref 0, .int x7, .int 4] I1 J1 (fun v2 I2 J2 => (((srI v1 x7) &&& 1) = v2 → CI d Sb_at [.ref 0, .int x7, .int 5] I2 J2 (fun v3 I3 J3 => CI d Sb_at [.ref 0, .int x7, .int 3] I3 J3 (fun v4 I4 J4 => CI d Sb_at [.ref 0, .int x7, .int 2] I4 J4 (fun v5 I5 J5 => CI d Sb_of [.ref 0, .int v5, .int 2] I5 J5 (fun v6 I6 J6 => (v3 = ((srI v4 v6) &&& 1) → CI d Sb_at [.ref 0, .int x7, .int 4] I6 J6 (fun v7 I7 J7 => (v7 = 1 → Wp d Lw_stands Q 268 [some (.ref 0), some (.ref 57), some (.int x2), some (.int x3), some (.int x4), some (.int x5), some (.int x6), some (.int x7)] [] I7 J7) ∧ (¬ (v7 = 1) → CI d Sb_at [.ref 0, .int x7, .int 5] I7 J7 (fun v8 I8 J8 => (v8 = 1 → Wp d Lw_stands Q 268 [some (.ref 0), some (.ref 57), some (.int x2), some (.int x3), some (.int x4), some (.int x5), some (.int x6), some (.int x7)] [] I8 J8) ∧ (¬ (v8 = 1) → CI d Sb_at [.ref 0, .int x7, .int 1] I8 J8 (fun v9 I9 J9 => (v9 = 0 → Wp d Lw_stands Q 268 [some (.ref 0), some (.ref 57), some (.int x2), some (.int x3), some (.int x4), some (.int x5), some (.int x6), some (.int x7)] [] I9 J9) ∧ (¬ (v9 = 0) → CI d Sb_at [.ref 0, .int x7, .int 0] I9 J9 (fun v10 I10 J10 => CI d Sb_of [.ref 0, .int v10, .int 4] I10 J10 (fun v11 I11 J11 => (v11 = 0 → Wp d Lw_stands Q 268 [some (.ref 0), some (.ref 57), some (.int x2), some (.int x3), some (.int x4), some (.int x5), some (.int x6), some (.int x7)] [] I11 J11) ∧ (¬ (v11 = 0) → Wp d Lw_stands Q 156 [some (.ref 0), some (.ref 57), some (.int x2), some (.int x3), some (.int x4), some (.int 0), some (.int x6), some (.int (x7 + 1))] [] I11 J11)))))))))) ∧ (¬ (v3 = ((srI v4 v6) &&& 1)) → Wp d Lw_stands Q 156 [some (.ref 0), some (.ref 57), some (.int x2), some (.int x3), some (.int x4), some (.int 0), some (.int x6), some (.int (x7 + 1))] [] I6 J6)))))) ∧ (¬ (((srI v1 x7) &&& 1) = v2) → Wp d Lw_stands Q 156 [some (.ref 0), some (.ref 57), some (.int x2), some (.int x3), some (.int x4), some (.int 0), some (.int x6), some (.int (x7 + 1))] [] I2 J2))))) ∧ (¬ (x7 < (I 57 1)) → (x5 = 0 → Wp d Lw_stands Q 398 [some (.ref 0), some (.ref 57), some (.int x2), some (.int x3), some (.int x4), some (.int x5), some (.int x6), some (.int x7)] [] I J) ∧ (¬ (x5 = 0) → CI d Sb_count [.ref 0, .int 6] I J (fun v1 I1 J1 => (x2 = v1 → CI d Sb_count [.ref 0, .int 4] I1 J1 (fun v2 I2 J2 => (x3 = v2 → CI d Sb_count [.ref 0, .int 7] I2 J2 (fun v3 I3 J3 => (x4 = v3 → CI d Sb_count [.ref 0, .int 3] I3 J3 (fun v4 I4 J4 => CI d Sb_of [.ref 0, .int x6, .int 2] I4 J4 (fun v5 I5 J5 => CI d Sb_of [.ref 0, .int x6, .int 1] I5 J5 (fun v6 I6 J6 => (v5 = v6 → (v4 = 1 → Q (some (.int 1)) I6 J6) ∧ (¬ (v4 = 1) → Wp d Lw_stands Q 398 [some (.ref 0), some (.ref 57), some (.int x2), some (.int x3), some (.int x4), some (.int x5), some (.int x6), some (.int x7)] [] I6 J6)) ∧ (¬ (v5 = v6) → (v4 = 0 → Q (some (.int 1)) I6 J6) ∧ (¬ (v4 = 0) → Wp d Lw_stands Q 398 [some (.ref 0), some (.ref 57), some (.int x2), some (.int x3), some (.int x4), some (.int x5), some (.int x6), some (.int x7)] [] I6 J6)))))) ∧ (¬ (x4 = v3) → Wp d Lw_stands Q 398 [some (.ref 0), some (.ref 57), some (.int x2), some (.int x3), some (.int x4), some (.int x5), some (.int x6), some (.int x7)] [] I3 J3))) ∧ (¬ (x3 = v2) → Wp d Lw_stands Q 398 [some (.ref 0), some (.ref 57), some (.int x2), some (.int x3), some (.int x4), some (.int x5), some (.int x6), some (.int x7)] [] I2 J2))) ∧ (¬ (x2 = v1) → Wp d Lw_stands Q 398 [some (.ref 0), some (.ref 57), some (.int x2), some (.int x3), some (.int x4), some (.int x5), some (.int x6), some (.int x7)] [] I1 J1))))) : Wp d Lw_stands Q 156 [some (.ref 0), some (.ref 57), some (.int x2), some (.int x3), some (.int x4), some (.int x5), some (.int x6), some (.int x7)] [] I J := by
  refine Wp.steps 4 (pc' := 161) (lv' := [some (.ref 0), some (.ref 57), some (.int x2), some (.int x3), some (.int x4), some (.int x5), some (.int x6), some (.int x7)]) (st' := [.int (I 57 1), .int x7]) (I' := I) (J' := J) rfl ?_
  refine Wp.steps 1 (pc' := if x7 < (I 57 1) then 164 else 329) (lv' := [some (.ref 0), some (.ref 57), some (.int x2), some (.int x3), some (.int x4), some (.int x5), some (.int x6), some (.int x7)]) (st' := []) (I' := I) (J' := J) rfl (Wp.ite (fun h1 => ?_) (fun h1 => ?_))
  · replace h := h.1 h1
    refine Wp.steps 1 (pc' := 166) (lv' := [some (.ref 0), some (.ref 57), some (.int x2), some (.int x3), some (.int x4), some (.int x5), some (.int x6), some (.int x7)]) (st' := [.int x5]) (I' := I) (J' := J) rfl ?_
    refine Wp.steps 1 (pc' := if x5 = 0 then 329 else 169) (lv' := [some (.ref 0), some (.ref 57), some (.int x2), some (.int x3), some (.int x4), some (.int x5), some (.int x6), some (.int x7)]) (st' := []) (I' := I) (J' := J) rfl (Wp.ite (fun h2 => ?_) (fun h2 => ?_))
    · replace h := h.1 h2
      refine Wp.steps 1 (pc' := 331) (lv' := [some (.ref 0), some (.ref 57), some (.int x2), some (.int x3), some (.int x4), some (.int x5), some (.int x6), some (.int x7)]) (st' := [.int x5]) (I' := I) (J' := J) rfl ?_
      refine Wp.steps 1 (pc' := if x5 = 0 then 398 else 334) (lv' := [some (.ref 0), some (.ref 57), some (.int x2), some (.int x3), some (.int x4), some (.int x5), some (.int x6), some (.int x7)]) (st' := []) (I' := I) (J' := J) rfl ?_
      rw [if_pos h2]
      exact h
    · replace h := h.2 h2
      refine Wp.steps 2 (pc' := 171) (lv' := [some (.ref 0), some (.ref 57), some (.int x2), some (.int x3), some (.int x4), some (.int x5), some (.int x6), some (.int x7)]) (st' := [.int 5, .ref 0]) (I' := I) (J' := J) rfl ?_
      refine Wp.call (M' := Sb_count) (as := [.ref 0, .int 5]) (rest := []) rfl (CI.use h (fun v1 I1 J1 h => ?_))
      refine Wp.eqs (pc' := 174) (st' := [.int v1]) rfl rfl ?_
      refine Wp.steps 7 (pc' := 183) (lv' := [some (.ref 0), some (.ref 57), some (.int x2), some (.int x3), some (.int x4), some (.int x5), some (.int x6), some (.int x7)]) (st' := [.int 4, .int x7, .ref 0, .int ((srI v1 x7) &&& 1)]) (I' := I1) (J' := J1) rfl ?_
      refine Wp.call (M' := Sb_at) (as := [.ref 0, .int x7, .int 4]) (rest := [.int ((srI v1 x7) &&& 1)]) rfl (CI.use h (fun v2 I2 J2 h => ?_))
      refine Wp.eqs (pc' := 186) (st' := [.int v2, .int ((srI v1 x7) &&& 1)]) rfl rfl ?_
      refine Wp.steps 1 (pc' := if ((srI v1 x7) &&& 1) = v2 then 189 else 320) (lv' := [some (.ref 0), some (.ref 57), some (.int x2), some (.int x3), some (.int x4), some (.int x5), some (.int x6), some (.int x7)]) (st' := []) (I' := I2) (J' := J2) rfl (Wp.ite (fun h3 => ?_) (fun h3 => ?_))
      · replace h := h.1 h3
        refine Wp.steps 3 (pc' := 193) (lv' := [some (.ref 0), some (.ref 57), some (.int x2), some (.int x3), some (.int x4), some (.int x5), some (.int x6), some (.int x7)]) (st' := [.int 5, .int x7, .ref 0]) (I' := I2) (J' := J2) rfl ?_
        refine Wp.call (M' := Sb_at) (as := [.ref 0, .int x7, .int 5]) (rest := []) rfl (CI.use h (fun v3 I3 J3 h => ?_))
        refine Wp.eqs (pc' := 196) (st' := [.int v3]) rfl rfl ?_
        refine Wp.steps 3 (pc' := 200) (lv' := [some (.ref 0), some (.ref 57), some (.int x2), some (.int x3), some (.int x4), some (.int x5), some (.int x6), some (.int x7)]) (st' := [.int 3, .int x7, .ref 0, .int v3]) (I' := I3) (J' := J3) rfl ?_
        refine Wp.call (M' := Sb_at) (as := [.ref 0, .int x7, .int 3]) (rest := [.int v3]) rfl (CI.use h (fun v4 I4 J4 h => ?_))
        refine Wp.eqs (pc' := 203) (st' := [.int v4, .int v3]) rfl rfl ?_
        refine Wp.steps 4 (pc' := 208) (lv' := [some (.ref 0), some (.ref 57), some (.int x2), some (.int x3), some (.int x4), some (.int x5), some (.int x6), some (.int x7)]) (st' := [.int 2, .int x7, .ref 0, .ref 0, .int v4, .int v3]) (I' := I4) (J' := J4) rfl ?_
        refine Wp.call (M' := Sb_at) (as := [.ref 0, .int x7, .int 2]) (rest := [.ref 0, .int v4, .int v3]) rfl (CI.use h (fun v5 I5 J5 h => ?_))
        refine Wp.eqs (pc' := 211) (st' := [.int v5, .ref 0, .int v4, .int v3]) rfl rfl ?_
        refine Wp.steps 1 (pc' := 212) (lv' := [some (.ref 0), some (.ref 57), some (.int x2), some (.int x3), some (.int x4), some (.int x5), some (.int x6), some (.int x7)]) (st' := [.int 2, .int v5, .ref 0, .int v4, .int v3]) (I' := I5) (J' := J5) rfl ?_
        refine Wp.call (M' := Sb_of) (as := [.ref 0, .int v5, .int 2]) (rest := [.int v4, .int v3]) rfl (CI.use h (fun v6 I6 J6 h => ?_))
        refine Wp.eqs (pc' := 215) (st' := [.int v6, .int v4, .int v3]) rfl rfl ?_
        refine Wp.steps 3 (pc' := 218) (lv' := [some (.ref 0), some (.ref 57), some (.int x2), some (.int x3), some (.int x4), some (.int x5), some (.int x6), some (.int x7)]) (st' := [.int ((srI v4 v6) &&& 1), .int v3]) (I' := I6) (J' := J6) rfl ?_
        refine Wp.steps 1 (pc' := if v3 = ((srI v4 v6) &&& 1) then 221 else 320) (lv' := [some (.ref 0), some (.ref 57), some (.int x2), some (.int x3), some (.int x4), some (.int x5), some (.int x6), some (.int x7)]) (st' := []) (I' := I6) (J' := J6) rfl (Wp.ite (fun h4 => ?_) (fun h4 => ?_))
        · replace h := h.1 h4
          refine Wp.steps 3 (pc' := 225) (lv' := [some (.ref 0), some (.ref 57), some (.int x2), some (.int x3), some (.int x4), some (.int x5), some (.int x6), some (.int x7)]) (st' := [.int 4, .int x7, .ref 0]) (I' := I6) (J' := J6) rfl ?_
          refine Wp.call (M' := Sb_at) (as := [.ref 0, .int x7, .int 4]) (rest := []) rfl (CI.use h (fun v7 I7 J7 h => ?_))
          refine Wp.eqs (pc' := 228) (st' := [.int v7]) rfl rfl ?_
          refine Wp.steps 1 (pc' := 229) (lv' := [some (.ref 0), some (.ref 57), some (.int x2), some (.int x3), some (.int x4), some (.int x5), some (.int x6), some (.int x7)]) (st' := [.int 1, .int v7]) (I' := I7) (J' := J7) rfl ?_
          refine Wp.steps 1 (pc' := if v7 = 1 then 268 else 232) (lv' := [some (.ref 0), some (.ref 57), some (.int x2), some (.int x3), some (.int x4), some (.int x5), some (.int x6), some (.int x7)]) (st' := []) (I' := I7) (J' := J7) rfl (Wp.ite (fun h5 => ?_) (fun h5 => ?_))
          · replace h := h.1 h5
            exact h
          · replace h := h.2 h5
            refine Wp.steps 3 (pc' := 236) (lv' := [some (.ref 0), some (.ref 57), some (.int x2), some (.int x3), some (.int x4), some (.int x5), some (.int x6), some (.int x7)]) (st' := [.int 5, .int x7, .ref 0]) (I' := I7) (J' := J7) rfl ?_
            refine Wp.call (M' := Sb_at) (as := [.ref 0, .int x7, .int 5]) (rest := []) rfl (CI.use h (fun v8 I8 J8 h => ?_))
            refine Wp.eqs (pc' := 239) (st' := [.int v8]) rfl rfl ?_
            refine Wp.steps 1 (pc' := 240) (lv' := [some (.ref 0), some (.ref 57), some (.int x2), some (.int x3), some (.int x4), some (.int x5), some (.int x6), some (.int x7)]) (st' := [.int 1, .int v8]) (I' := I8) (J' := J8) rfl ?_
            refine Wp.steps 1 (pc' := if v8 = 1 then 268 else 243) (lv' := [some (.ref 0), some (.ref 57), some (.int x2), some (.int x3), some (.int x4), some (.int x5), some (.int x6), some (.int x7)]) (st' := []) (I' := I8) (J' := J8) rfl (Wp.ite (fun h6 => ?_) (fun h6 => ?_))
            · replace h := h.1 h6
              exact h
            · replace h := h.2 h6
              refine Wp.steps 3 (pc' := 247) (lv' := [some (.ref 0), some (.ref 57), some (.int x2), some (.int x3), some (.int x4), some (.int x5), some (.int x6), some (.int x7)]) (st' := [.int 1, .int x7, .ref 0]) (I' := I8) (J' := J8) rfl ?_
              refine Wp.call (M' := Sb_at) (as := [.ref 0, .int x7, .int 1]) (rest := []) rfl (CI.use h (fun v9 I9 J9 h => ?_))
              refine Wp.eqs (pc' := 250) (st' := [.int v9]) rfl rfl ?_
              refine Wp.steps 1 (pc' := if v9 = 0 then 268 else 253) (lv' := [some (.ref 0), some (.ref 57), some (.int x2), some (.int x3), some (.int x4), some (.int x5), some (.int x6), some (.int x7)]) (st' := []) (I' := I9) (J' := J9) rfl (Wp.ite (fun h7 => ?_) (fun h7 => ?_))
              · replace h := h.1 h7
                exact h
              · replace h := h.2 h7
                refine Wp.steps 4 (pc' := 258) (lv' := [some (.ref 0), some (.ref 57), some (.int x2), some (.int x3), some (.int x4), some (.int x5), some (.int x6), some (.int x7)]) (st' := [.int 0, .int x7, .ref 0, .ref 0]) (I' := I9) (J' := J9) rfl ?_
                refine Wp.call (M' := Sb_at) (as := [.ref 0, .int x7, .int 0]) (rest := [.ref 0]) rfl (CI.use h (fun v10 I10 J10 h => ?_))
                refine Wp.eqs (pc' := 261) (st' := [.int v10, .ref 0]) rfl rfl ?_
                refine Wp.steps 1 (pc' := 262) (lv' := [some (.ref 0), some (.ref 57), some (.int x2), some (.int x3), some (.int x4), some (.int x5), some (.int x6), some (.int x7)]) (st' := [.int 4, .int v10, .ref 0]) (I' := I10) (J' := J10) rfl ?_
                refine Wp.call (M' := Sb_of) (as := [.ref 0, .int v10, .int 4]) (rest := []) rfl (CI.use h (fun v11 I11 J11 h => ?_))
                refine Wp.eqs (pc' := 265) (st' := [.int v11]) rfl rfl ?_
                refine Wp.steps 1 (pc' := if v11 = 0 then 268 else 320) (lv' := [some (.ref 0), some (.ref 57), some (.int x2), some (.int x3), some (.int x4), some (.int x5), some (.int x6), some (.int x7)]) (st' := []) (I' := I11) (J' := J11) rfl (Wp.ite (fun h8 => ?_) (fun h8 => ?_))
                · replace h := h.1 h8
                  exact h
                · replace h := h.2 h8
                  refine Wp.steps 4 (pc' := 156) (lv' := [some (.ref 0), some (.ref 57), some (.int x2), some (.int x3), some (.int x4), some (.int 0), some (.int x6), some (.int (x7 + 1))]) (st' := []) (I' := I11) (J' := J11) rfl ?_
                  exact h
        · replace h := h.2 h4
          refine Wp.steps 4 (pc' := 156) (lv' := [some (.ref 0), some (.ref 57), some (.int x2), some (.int x3), some (.int x4), some (.int 0), some (.int x6), some (.int (x7 + 1))]) (st' := []) (I' := I6) (J' := J6) rfl ?_
          exact h
      · replace h := h.2 h3
        refine Wp.steps 4 (pc' := 156) (lv' := [some (.ref 0), some (.ref 57), some (.int x2), some (.int x3), some (.int x4), some (.int 0), some (.int x6), some (.int (x7 + 1))]) (st' := []) (I' := I2) (J' := J2) rfl ?_
        exact h
  · replace h := h.2 h1
    refine Wp.steps 1 (pc' := 331) (lv' := [some (.ref 0), some (.ref 57), some (.int x2), some (.int x3), some (.int x4), some (.int x5), some (.int x6), some (.int x7)]) (st' := [.int x5]) (I' := I) (J' := J) rfl ?_
    refine Wp.steps 1 (pc' := if x5 = 0 then 398 else 334) (lv' := [some (.ref 0), some (.ref 57), some (.int x2), some (.int x3), some (.int x4), some (.int x5), some (.int x6), some (.int x7)]) (st' := []) (I' := I) (J' := J) rfl (Wp.ite (fun h2 => ?_) (fun h2 => ?_))
    · replace h := h.1 h2
      exact h
    · replace h := h.2 h2
      refine Wp.steps 3 (pc' := 338) (lv' := [some (.ref 0), some (.ref 57), some (.int x2), some (.int x3), some (.int x4), some (.int x5), some (.int x6), some (.int x7)]) (st' := [.int 6, .ref 0, .int x2]) (I' := I) (J' := J) rfl ?_
      refine Wp.call (M' := Sb_count) (as := [.ref 0, .int 6]) (rest := [.int x2]) rfl (CI.use h (fun v1 I1 J1 h => ?_))
      refine Wp.eqs (pc' := 341) (st' := [.int v1, .int x2]) rfl rfl ?_
      refine Wp.steps 1 (pc' := if x2 = v1 then 344 else 398) (lv' := [some (.ref 0), some (.ref 57), some (.int x2), some (.int x3), some (.int x4), some (.int x5), some (.int x6), some (.int x7)]) (st' := []) (I' := I1) (J' := J1) rfl (Wp.ite (fun h3 => ?_) (fun h3 => ?_))
      · replace h := h.1 h3
        refine Wp.steps 3 (pc' := 347) (lv' := [some (.ref 0), some (.ref 57), some (.int x2), some (.int x3), some (.int x4), some (.int x5), some (.int x6), some (.int x7)]) (st' := [.int 4, .ref 0, .int x3]) (I' := I1) (J' := J1) rfl ?_
        refine Wp.call (M' := Sb_count) (as := [.ref 0, .int 4]) (rest := [.int x3]) rfl (CI.use h (fun v2 I2 J2 h => ?_))
        refine Wp.eqs (pc' := 350) (st' := [.int v2, .int x3]) rfl rfl ?_
        refine Wp.steps 1 (pc' := if x3 = v2 then 353 else 398) (lv' := [some (.ref 0), some (.ref 57), some (.int x2), some (.int x3), some (.int x4), some (.int x5), some (.int x6), some (.int x7)]) (st' := []) (I' := I2) (J' := J2) rfl (Wp.ite (fun h4 => ?_) (fun h4 => ?_))
        · replace h := h.1 h4
          refine Wp.steps 3 (pc' := 358) (lv' := [some (.ref 0), some (.ref 57), some (.int x2), some (.int x3), some (.int x4), some (.int x5), some (.int x6), some (.int x7)]) (st' := [.int 7, .ref 0, .int x4]) (I' := I2) (J' := J2) rfl ?_
          refine Wp.call (M' := Sb_count) (as := [.ref 0, .int 7]) (rest := [.int x4]) rfl (CI.use h (fun v3 I3 J3 h => ?_))
          refine Wp.eqs (pc' := 361) (st' := [.int v3, .int x4]) rfl rfl ?_
          refine Wp.steps 1 (pc' := if x4 = v3 then 364 else 398) (lv' := [some (.ref 0), some (.ref 57), some (.int x2), some (.int x3), some (.int x4), some (.int x5), some (.int x6), some (.int x7)]) (st' := []) (I' := I3) (J' := J3) rfl (Wp.ite (fun h5 => ?_) (fun h5 => ?_))
          · replace h := h.1 h5
            refine Wp.steps 2 (pc' := 366) (lv' := [some (.ref 0), some (.ref 57), some (.int x2), some (.int x3), some (.int x4), some (.int x5), some (.int x6), some (.int x7)]) (st' := [.int 3, .ref 0]) (I' := I3) (J' := J3) rfl ?_
            refine Wp.call (M' := Sb_count) (as := [.ref 0, .int 3]) (rest := []) rfl (CI.use h (fun v4 I4 J4 h => ?_))
            refine Wp.eqs (pc' := 369) (st' := [.int v4]) rfl rfl ?_
            refine Wp.steps 3 (pc' := 373) (lv' := [some (.ref 0), some (.ref 57), some (.int x2), some (.int x3), some (.int x4), some (.int x5), some (.int x6), some (.int x7)]) (st' := [.int 2, .int x6, .ref 0, .int v4]) (I' := I4) (J' := J4) rfl ?_
            refine Wp.call (M' := Sb_of) (as := [.ref 0, .int x6, .int 2]) (rest := [.int v4]) rfl (CI.use h (fun v5 I5 J5 h => ?_))
            refine Wp.eqs (pc' := 376) (st' := [.int v5, .int v4]) rfl rfl ?_
            refine Wp.steps 3 (pc' := 380) (lv' := [some (.ref 0), some (.ref 57), some (.int x2), some (.int x3), some (.int x4), some (.int x5), some (.int x6), some (.int x7)]) (st' := [.int 1, .int x6, .ref 0, .int v5, .int v4]) (I' := I5) (J' := J5) rfl ?_
            refine Wp.call (M' := Sb_of) (as := [.ref 0, .int x6, .int 1]) (rest := [.int v5, .int v4]) rfl (CI.use h (fun v6 I6 J6 h => ?_))
            refine Wp.eqs (pc' := 383) (st' := [.int v6, .int v5, .int v4]) rfl rfl ?_
            refine Wp.steps 1 (pc' := if v5 = v6 then 386 else 390) (lv' := [some (.ref 0), some (.ref 57), some (.int x2), some (.int x3), some (.int x4), some (.int x5), some (.int x6), some (.int x7)]) (st' := [.int v4]) (I' := I6) (J' := J6) rfl (Wp.ite (fun h6 => ?_) (fun h6 => ?_))
            · replace h := h.1 h6
              refine Wp.steps 2 (pc' := 391) (lv' := [some (.ref 0), some (.ref 57), some (.int x2), some (.int x3), some (.int x4), some (.int x5), some (.int x6), some (.int x7)]) (st' := [.int 1, .int v4]) (I' := I6) (J' := J6) rfl ?_
              refine Wp.steps 1 (pc' := if v4 = 1 then 394 else 398) (lv' := [some (.ref 0), some (.ref 57), some (.int x2), some (.int x3), some (.int x4), some (.int x5), some (.int x6), some (.int x7)]) (st' := []) (I' := I6) (J' := J6) rfl (Wp.ite (fun h7 => ?_) (fun h7 => ?_))
              · replace h := h.1 h7
                refine Wp.steps 2 (pc' := 399) (lv' := [some (.ref 0), some (.ref 57), some (.int x2), some (.int x3), some (.int x4), some (.int x5), some (.int x6), some (.int x7)]) (st' := [.int 1]) (I' := I6) (J' := J6) rfl ?_
                exact Wp.ret rfl h
              · replace h := h.2 h7
                exact h
            · replace h := h.2 h6
              refine Wp.steps 1 (pc' := 391) (lv' := [some (.ref 0), some (.ref 57), some (.int x2), some (.int x3), some (.int x4), some (.int x5), some (.int x6), some (.int x7)]) (st' := [.int 0, .int v4]) (I' := I6) (J' := J6) rfl ?_
              refine Wp.steps 1 (pc' := if v4 = 0 then 394 else 398) (lv' := [some (.ref 0), some (.ref 57), some (.int x2), some (.int x3), some (.int x4), some (.int x5), some (.int x6), some (.int x7)]) (st' := []) (I' := I6) (J' := J6) rfl (Wp.ite (fun h7 => ?_) (fun h7 => ?_))
              · replace h := h.1 h7
                refine Wp.steps 2 (pc' := 399) (lv' := [some (.ref 0), some (.ref 57), some (.int x2), some (.int x3), some (.int x4), some (.int x5), some (.int x6), some (.int x7)]) (st' := [.int 1]) (I' := I6) (J' := J6) rfl ?_
                exact Wp.ret rfl h
              · replace h := h.2 h7
                exact h
          · replace h := h.2 h5
            exact h
        · replace h := h.2 h4
          exact h
      · replace h := h.2 h3
        exact h
set_option maxHeartbeats 16000000 in
theorem v_Lw_stands_0_57_268 {d : Nat} {Q : Post} {I : I2} {J : J2} {x2 : Int32} {x3 : Int32} {x4 : Int32} {x5 : Int32} {x6 : Int32} {x7 : Int32} (h : CI d Sb_at [.ref 0, .int x7, .int 4] I J (fun v1 I1 J1 => (v1 = 1 → Wp d Lw_stands Q 156 [some (.ref 0), some (.ref 57), some (.int x2), some (.int x3), some (.int x4), some (.int 1), some (.int x6), some (.int (x7 + 1))] [] I1 J1) ∧ (¬ (v1 = 1) → CI d Sb_at [.ref 0, .int x7, .int 5] I1 J1 (fun v2 I2 J2 => (v2 = 1 → Wp d Lw_stands Q 156 [some (.ref 0), some (.ref 57), some (.int x2), some (.int x3), some (.int x4), some (.int 1), some (.int x6), some (.int (x7 + 1))] [] I2 J2) ∧ (¬ (v2 = 1) → CI d Sb_at [.ref 0, .int x7, .int 1] I2 J2 (fun v3 I3 J3 => (v3 = 1 → Wp d Lw_stands Q 156 [some (.ref 0), some (.ref 57), some (.int x2), some (.int x3), some (.int x4), some (.int 1), some (.int x6), some (.int (x7 + 1))] [] I3 J3) ∧ (¬ (v3 = 1) → CI d Sb_at [.ref 0, .int x7, .int 0] I3 J3 (fun v4 I4 J4 => CI d Sb_of [.ref 0, .int v4, .int 3] I4 J4 (fun v5 I5 J5 => (v5 = 0 → Wp d Lw_stands Q 156 [some (.ref 0), some (.ref 57), some (.int x2), some (.int x3), some (.int x4), some (.int 1), some (.int x6), some (.int (x7 + 1))] [] I5 J5) ∧ (¬ (v5 = 0) → Wp d Lw_stands Q 156 [some (.ref 0), some (.ref 57), some (.int x2), some (.int x3), some (.int x4), some (.int 0), some (.int x6), some (.int (x7 + 1))] [] I5 J5)))))))))) : Wp d Lw_stands Q 268 [some (.ref 0), some (.ref 57), some (.int x2), some (.int x3), some (.int x4), some (.int x5), some (.int x6), some (.int x7)] [] I J := by
  refine Wp.steps 3 (pc' := 272) (lv' := [some (.ref 0), some (.ref 57), some (.int x2), some (.int x3), some (.int x4), some (.int x5), some (.int x6), some (.int x7)]) (st' := [.int 4, .int x7, .ref 0]) (I' := I) (J' := J) rfl ?_
  refine Wp.call (M' := Sb_at) (as := [.ref 0, .int x7, .int 4]) (rest := []) rfl (CI.use h (fun v1 I1 J1 h => ?_))
  refine Wp.eqs (pc' := 275) (st' := [.int v1]) rfl rfl ?_
  refine Wp.steps 1 (pc' := 276) (lv' := [some (.ref 0), some (.ref 57), some (.int x2), some (.int x3), some (.int x4), some (.int x5), some (.int x6), some (.int x7)]) (st' := [.int 1, .int v1]) (I' := I1) (J' := J1) rfl ?_
  refine Wp.steps 1 (pc' := if v1 = 1 then 316 else 279) (lv' := [some (.ref 0), some (.ref 57), some (.int x2), some (.int x3), some (.int x4), some (.int x5), some (.int x6), some (.int x7)]) (st' := []) (I' := I1) (J' := J1) rfl (Wp.ite (fun h1 => ?_) (fun h1 => ?_))
  · replace h := h.1 h1
    refine Wp.steps 5 (pc' := 156) (lv' := [some (.ref 0), some (.ref 57), some (.int x2), some (.int x3), some (.int x4), some (.int 1), some (.int x6), some (.int (x7 + 1))]) (st' := []) (I' := I1) (J' := J1) rfl ?_
    exact h
  · replace h := h.2 h1
    refine Wp.steps 3 (pc' := 283) (lv' := [some (.ref 0), some (.ref 57), some (.int x2), some (.int x3), some (.int x4), some (.int x5), some (.int x6), some (.int x7)]) (st' := [.int 5, .int x7, .ref 0]) (I' := I1) (J' := J1) rfl ?_
    refine Wp.call (M' := Sb_at) (as := [.ref 0, .int x7, .int 5]) (rest := []) rfl (CI.use h (fun v2 I2 J2 h => ?_))
    refine Wp.eqs (pc' := 286) (st' := [.int v2]) rfl rfl ?_
    refine Wp.steps 1 (pc' := 287) (lv' := [some (.ref 0), some (.ref 57), some (.int x2), some (.int x3), some (.int x4), some (.int x5), some (.int x6), some (.int x7)]) (st' := [.int 1, .int v2]) (I' := I2) (J' := J2) rfl ?_
    refine Wp.steps 1 (pc' := if v2 = 1 then 316 else 290) (lv' := [some (.ref 0), some (.ref 57), some (.int x2), some (.int x3), some (.int x4), some (.int x5), some (.int x6), some (.int x7)]) (st' := []) (I' := I2) (J' := J2) rfl (Wp.ite (fun h2 => ?_) (fun h2 => ?_))
    · replace h := h.1 h2
      refine Wp.steps 5 (pc' := 156) (lv' := [some (.ref 0), some (.ref 57), some (.int x2), some (.int x3), some (.int x4), some (.int 1), some (.int x6), some (.int (x7 + 1))]) (st' := []) (I' := I2) (J' := J2) rfl ?_
      exact h
    · replace h := h.2 h2
      refine Wp.steps 3 (pc' := 294) (lv' := [some (.ref 0), some (.ref 57), some (.int x2), some (.int x3), some (.int x4), some (.int x5), some (.int x6), some (.int x7)]) (st' := [.int 1, .int x7, .ref 0]) (I' := I2) (J' := J2) rfl ?_
      refine Wp.call (M' := Sb_at) (as := [.ref 0, .int x7, .int 1]) (rest := []) rfl (CI.use h (fun v3 I3 J3 h => ?_))
      refine Wp.eqs (pc' := 297) (st' := [.int v3]) rfl rfl ?_
      refine Wp.steps 1 (pc' := 298) (lv' := [some (.ref 0), some (.ref 57), some (.int x2), some (.int x3), some (.int x4), some (.int x5), some (.int x6), some (.int x7)]) (st' := [.int 1, .int v3]) (I' := I3) (J' := J3) rfl ?_
      refine Wp.steps 1 (pc' := if v3 = 1 then 316 else 301) (lv' := [some (.ref 0), some (.ref 57), some (.int x2), some (.int x3), some (.int x4), some (.int x5), some (.int x6), some (.int x7)]) (st' := []) (I' := I3) (J' := J3) rfl (Wp.ite (fun h3 => ?_) (fun h3 => ?_))
      · replace h := h.1 h3
        refine Wp.steps 5 (pc' := 156) (lv' := [some (.ref 0), some (.ref 57), some (.int x2), some (.int x3), some (.int x4), some (.int 1), some (.int x6), some (.int (x7 + 1))]) (st' := []) (I' := I3) (J' := J3) rfl ?_
        exact h
      · replace h := h.2 h3
        refine Wp.steps 4 (pc' := 306) (lv' := [some (.ref 0), some (.ref 57), some (.int x2), some (.int x3), some (.int x4), some (.int x5), some (.int x6), some (.int x7)]) (st' := [.int 0, .int x7, .ref 0, .ref 0]) (I' := I3) (J' := J3) rfl ?_
        refine Wp.call (M' := Sb_at) (as := [.ref 0, .int x7, .int 0]) (rest := [.ref 0]) rfl (CI.use h (fun v4 I4 J4 h => ?_))
        refine Wp.eqs (pc' := 309) (st' := [.int v4, .ref 0]) rfl rfl ?_
        refine Wp.steps 1 (pc' := 310) (lv' := [some (.ref 0), some (.ref 57), some (.int x2), some (.int x3), some (.int x4), some (.int x5), some (.int x6), some (.int x7)]) (st' := [.int 3, .int v4, .ref 0]) (I' := I4) (J' := J4) rfl ?_
        refine Wp.call (M' := Sb_of) (as := [.ref 0, .int v4, .int 3]) (rest := []) rfl (CI.use h (fun v5 I5 J5 h => ?_))
        refine Wp.eqs (pc' := 313) (st' := [.int v5]) rfl rfl ?_
        refine Wp.steps 1 (pc' := if v5 = 0 then 316 else 320) (lv' := [some (.ref 0), some (.ref 57), some (.int x2), some (.int x3), some (.int x4), some (.int x5), some (.int x6), some (.int x7)]) (st' := []) (I' := I5) (J' := J5) rfl (Wp.ite (fun h4 => ?_) (fun h4 => ?_))
        · replace h := h.1 h4
          refine Wp.steps 5 (pc' := 156) (lv' := [some (.ref 0), some (.ref 57), some (.int x2), some (.int x3), some (.int x4), some (.int 1), some (.int x6), some (.int (x7 + 1))]) (st' := []) (I' := I5) (J' := J5) rfl ?_
          exact h
        · replace h := h.2 h4
          refine Wp.steps 4 (pc' := 156) (lv' := [some (.ref 0), some (.ref 57), some (.int x2), some (.int x3), some (.int x4), some (.int 0), some (.int x6), some (.int (x7 + 1))]) (st' := []) (I' := I5) (J' := J5) rfl ?_
          exact h
set_option maxHeartbeats 16000000 in
theorem v_Lw_stands_0_57_398 {d : Nat} {Q : Post} {I : I2} {J : J2} {x2 : Int32} {x3 : Int32} {x4 : Int32} {x5 : Int32} {x6 : Int32} {x7 : Int32} (h : Q (some (.int 0)) I J) : Wp d Lw_stands Q 398 [some (.ref 0), some (.ref 57), some (.int x2), some (.int x3), some (.int x4), some (.int x5), some (.int x6), some (.int x7)] [] I J := by
  refine Wp.steps 1 (pc' := 399) (lv' := [some (.ref 0), some (.ref 57), some (.int x2), some (.int x3), some (.int x4), some (.int x5), some (.int x6), some (.int x7)]) (st' := [.int 0]) (I' := I) (J' := J) rfl ?_
  exact Wp.ret rfl h
set_option maxHeartbeats 16000000 in
theorem v_Lw_cell_100_0 {d : Nat} {Q : Post} {I : I2} {J : J2} {x1 : Int32} (h : (x1 < (I 101 0) → vp_in x1 (I 101 0).toNatClampNeg ∧ (Q (some (.int ((I 100 (tN x1)) &&& 2147483647))) I J)) ∧ (¬ (x1 < (I 101 0)) → Q (some (.int (((15485957 * x1) + 107) &&& 2147483647))) I J)) : Wp d Lw_cell Q 0 [some (.ref 100), some (.int x1)] [] I J := by
  refine Wp.steps 3 (pc' := 3) (lv' := [some (.ref 100), some (.int x1)]) (st' := [.int (I 101 0), .int x1]) (I' := I) (J' := J) rfl ?_
  refine Wp.steps 1 (pc' := if x1 < (I 101 0) then 6 else 12) (lv' := [some (.ref 100), some (.int x1)]) (st' := []) (I' := I) (J' := J) rfl (Wp.ite (fun h1 => ?_) (fun h1 => ?_))
  · replace h := h.1 h1
    refine Wp.steps 2 (pc' := 8) (lv' := [some (.ref 100), some (.int x1)]) (st' := [.int x1, .ref 100]) (I' := I) (J' := J) rfl ?_
    refine Wp.isld rfl rfl h.1 ?_
    replace h := h.2
    refine Wp.steps 3 (pc' := 22) (lv' := [some (.ref 100), some (.int x1)]) (st' := [.int ((I 100 (tN x1)) &&& 2147483647)]) (I' := I) (J' := J) rfl ?_
    exact Wp.ret rfl h
  · replace h := h.2 h1
    refine Wp.steps 7 (pc' := 22) (lv' := [some (.ref 100), some (.int x1)]) (st' := [.int (((15485957 * x1) + 107) &&& 2147483647)]) (I' := I) (J' := J) rfl ?_
    exact Wp.ret rfl h
set_option maxHeartbeats 16000000 in
theorem v_Lw_acts_0_57_0 {d : Nat} {Q : Post} {I : I2} {J : J2} {x2 : Int32} (h : ((x2 &&& 7) = 0 → CI d Lw_outs [.ref 57] I J (fun v1 I1 J1 => CI d Lw_size [.int v1] I1 J1 (fun v2 I2 J2 => CI d Sb_shut [.ref 0] (up2 I2 57 5 0) J2 (fun v3 I3 J3 => (v2 = 0 → (v3 = (-2) → Wp d Lw_acts Q 57 [some (.ref 0), some (.ref 57), some (.int x2), some (.int (srI x2 3)), some (.int v2), none, none] [.int 0] I3 J3) ∧ (¬ (v3 = (-2)) → Wp d Lw_acts Q 57 [some (.ref 0), some (.ref 57), some (.int x2), some (.int (srI x2 3)), some (.int v2), none, none] [.int (-1)] I3 J3)) ∧ (¬ (v2 = 0) → (v3 = v2 → Wp d Lw_acts Q 57 [some (.ref 0), some (.ref 57), some (.int x2), some (.int (srI x2 3)), some (.int v2), none, none] [.int 1] I3 J3) ∧ (¬ (v3 = v2) → Wp d Lw_acts Q 57 [some (.ref 0), some (.ref 57), some (.int x2), some (.int (srI x2 3)), some (.int v2), none, none] [.int (-1)] I3 J3)))))) ∧ (¬ ((x2 &&& 7) = 0) → ((x2 &&& 7) = 1 → (0 < (I 57 1) → ¬ (I 57 1) = 0 ∧ (CI d Sb_file [.ref 0, .int (rmI (srI x2 3) (I 57 1))] (up2 I 57 3 ((I 57 3) ||| (slI 1 (rmI (srI x2 3) (I 57 1))))) J (fun v1 I1 J1 => ((I 57 3) = (I1 57 3) → (v1 = (-2) → Wp d Lw_acts Q 136 [some (.ref 0), some (.ref 57), some (.int x2), some (.int (srI x2 3)), some (.int (rmI (srI x2 3) (I 57 1))), some (.int (I 57 3)), none] [.int 0] I1 J1) ∧ (¬ (v1 = (-2)) → Wp d Lw_acts Q 136 [some (.ref 0), some (.ref 57), some (.int x2), some (.int (srI x2 3)), some (.int (rmI (srI x2 3) (I 57 1))), some (.int (I 57 3)), none] [.int (-1)] I1 J1)) ∧ (¬ ((I 57 3) = (I1 57 3)) → (v1 = (I1 57 3) → Wp d Lw_acts Q 136 [some (.ref 0), some (.ref 57), some (.int x2), some (.int (srI x2 3)), some (.int (rmI (srI x2 3) (I 57 1))), some (.int (I 57 3)), none] [.int 1] I1 J1) ∧ (¬ (v1 = (I1 57 3)) → Wp d Lw_acts Q 136 [some (.ref 0), some (.ref 57), some (.int x2), some (.int (srI x2 3)), some (.int (rmI (srI x2 3) (I 57 1))), some (.int (I 57 3)), none] [.int (-1)] I1 J1))))) ∧ (¬ (0 < (I 57 1)) → ¬ (I 57 0) = 0 ∧ (((x2 &&& 7) < 4 → Wp d Lw_acts Q 157 [some (.ref 0), some (.ref 57), some (.int x2), some (.int (srI x2 3)), some (.int (rmI (srI x2 3) (I 57 0))), none, none] [.int 0] I J) ∧ (¬ ((x2 &&& 7) < 4) → Wp d Lw_acts Q 157 [some (.ref 0), some (.ref 57), some (.int x2), some (.int (srI x2 3)), some (.int (rmI (srI x2 3) (I 57 0))), none, none] [.int 1] I J)))) ∧ (¬ ((x2 &&& 7) = 1) → ¬ (I 57 0) = 0 ∧ (((x2 &&& 7) < 4 → Wp d Lw_acts Q 157 [some (.ref 0), some (.ref 57), some (.int x2), some (.int (srI x2 3)), some (.int (rmI (srI x2 3) (I 57 0))), none, none] [.int 0] I J) ∧ (¬ ((x2 &&& 7) < 4) → Wp d Lw_acts Q 157 [some (.ref 0), some (.ref 57), some (.int x2), some (.int (srI x2 3)), some (.int (rmI (srI x2 3) (I 57 0))), none, none] [.int 1] I J))))) : Wp d Lw_acts Q 0 [some (.ref 0), some (.ref 57), some (.int x2), none, none, none, none] [] I J := by
  refine Wp.steps 7 (pc' := 8) (lv' := [some (.ref 0), some (.ref 57), some (.int x2), some (.int (srI x2 3)), none, none, none]) (st' := [.int (x2 &&& 7)]) (I' := I) (J' := J) rfl ?_
  refine Wp.steps 1 (pc' := if (x2 &&& 7) = 0 then 11 else 58) (lv' := [some (.ref 0), some (.ref 57), some (.int x2), some (.int (srI x2 3)), none, none, none]) (st' := []) (I' := I) (J' := J) rfl (Wp.ite (fun h1 => ?_) (fun h1 => ?_))
  · replace h := h.1 h1
    refine Wp.steps 1 (pc' := 12) (lv' := [some (.ref 0), some (.ref 57), some (.int x2), some (.int (srI x2 3)), none, none, none]) (st' := [.ref 57]) (I' := I) (J' := J) rfl ?_
    refine Wp.call (M' := Lw_outs) (as := [.ref 57]) (rest := []) rfl (CI.use h (fun v1 I1 J1 h => ?_))
    refine Wp.eqs (pc' := 15) (st' := [.int v1]) rfl rfl ?_
    refine Wp.call (M' := Lw_size) (as := [.int v1]) (rest := []) rfl (CI.use h (fun v2 I2 J2 h => ?_))
    refine Wp.eqs (pc' := 18) (st' := [.int v2]) rfl rfl ?_
    refine Wp.steps 6 (pc' := 25) (lv' := [some (.ref 0), some (.ref 57), some (.int x2), some (.int (srI x2 3)), some (.int v2), none, none]) (st' := [.ref 0]) (I' := (up2 I2 57 5 0)) (J' := J2) rfl ?_
    refine Wp.call (M' := Sb_shut) (as := [.ref 0]) (rest := []) rfl (CI.use h (fun v3 I3 J3 h => ?_))
    refine Wp.eqs (pc' := 28) (st' := [.int v3]) rfl rfl ?_
    refine Wp.steps 1 (pc' := 30) (lv' := [some (.ref 0), some (.ref 57), some (.int x2), some (.int (srI x2 3)), some (.int v2), none, none]) (st' := [.int v2, .int v3]) (I' := I3) (J' := J3) rfl ?_
    refine Wp.steps 1 (pc' := if v2 = 0 then 33 else 38) (lv' := [some (.ref 0), some (.ref 57), some (.int x2), some (.int (srI x2 3)), some (.int v2), none, none]) (st' := [.int v3]) (I' := I3) (J' := J3) rfl (Wp.ite (fun h2 => ?_) (fun h2 => ?_))
    · replace h := h.1 h2
      refine Wp.steps 2 (pc' := 40) (lv' := [some (.ref 0), some (.ref 57), some (.int x2), some (.int (srI x2 3)), some (.int v2), none, none]) (st' := [.int (-2), .int v3]) (I' := I3) (J' := J3) rfl ?_
      refine Wp.steps 1 (pc' := if v3 = (-2) then 43 else 56) (lv' := [some (.ref 0), some (.ref 57), some (.int x2), some (.int (srI x2 3)), some (.int v2), none, none]) (st' := []) (I' := I3) (J' := J3) rfl (Wp.ite (fun h3 => ?_) (fun h3 => ?_))
      · replace h := h.1 h3
        refine Wp.steps 1 (pc' := 45) (lv' := [some (.ref 0), some (.ref 57), some (.int x2), some (.int (srI x2 3)), some (.int v2), none, none]) (st' := [.int v2]) (I' := I3) (J' := J3) rfl ?_
        refine Wp.steps 1 (pc' := if v2 = 0 then 48 else 52) (lv' := [some (.ref 0), some (.ref 57), some (.int x2), some (.int (srI x2 3)), some (.int v2), none, none]) (st' := []) (I' := I3) (J' := J3) rfl ?_
        rw [if_pos h2]
        refine Wp.steps 2 (pc' := 57) (lv' := [some (.ref 0), some (.ref 57), some (.int x2), some (.int (srI x2 3)), some (.int v2), none, none]) (st' := [.int 0]) (I' := I3) (J' := J3) rfl ?_
        exact h
      · replace h := h.2 h3
        refine Wp.steps 1 (pc' := 57) (lv' := [some (.ref 0), some (.ref 57), some (.int x2), some (.int (srI x2 3)), some (.int v2), none, none]) (st' := [.int (-1)]) (I' := I3) (J' := J3) rfl ?_
        exact h
    · replace h := h.2 h2
      refine Wp.steps 1 (pc' := 40) (lv' := [some (.ref 0), some (.ref 57), some (.int x2), some (.int (srI x2 3)), some (.int v2), none, none]) (st' := [.int v2, .int v3]) (I' := I3) (J' := J3) rfl ?_
      refine Wp.steps 1 (pc' := if v3 = v2 then 43 else 56) (lv' := [some (.ref 0), some (.ref 57), some (.int x2), some (.int (srI x2 3)), some (.int v2), none, none]) (st' := []) (I' := I3) (J' := J3) rfl (Wp.ite (fun h3 => ?_) (fun h3 => ?_))
      · replace h := h.1 h3
        refine Wp.steps 1 (pc' := 45) (lv' := [some (.ref 0), some (.ref 57), some (.int x2), some (.int (srI x2 3)), some (.int v2), none, none]) (st' := [.int v2]) (I' := I3) (J' := J3) rfl ?_
        refine Wp.steps 1 (pc' := if v2 = 0 then 48 else 52) (lv' := [some (.ref 0), some (.ref 57), some (.int x2), some (.int (srI x2 3)), some (.int v2), none, none]) (st' := []) (I' := I3) (J' := J3) rfl ?_
        rw [if_neg h2]
        refine Wp.steps 2 (pc' := 57) (lv' := [some (.ref 0), some (.ref 57), some (.int x2), some (.int (srI x2 3)), some (.int v2), none, none]) (st' := [.int 1]) (I' := I3) (J' := J3) rfl ?_
        exact h
      · replace h := h.2 h3
        refine Wp.steps 1 (pc' := 57) (lv' := [some (.ref 0), some (.ref 57), some (.int x2), some (.int (srI x2 3)), some (.int v2), none, none]) (st' := [.int (-1)]) (I' := I3) (J' := J3) rfl ?_
        exact h
  · replace h := h.2 h1
    refine Wp.steps 4 (pc' := 63) (lv' := [some (.ref 0), some (.ref 57), some (.int x2), some (.int (srI x2 3)), none, none, none]) (st' := [.int 1, .int (x2 &&& 7)]) (I' := I) (J' := J) rfl ?_
    refine Wp.steps 1 (pc' := if (x2 &&& 7) = 1 then 66 else 137) (lv' := [some (.ref 0), some (.ref 57), some (.int x2), some (.int (srI x2 3)), none, none, none]) (st' := []) (I' := I) (J' := J) rfl (Wp.ite (fun h2 => ?_) (fun h2 => ?_))
    · replace h := h.1 h2
      refine Wp.steps 3 (pc' := 69) (lv' := [some (.ref 0), some (.ref 57), some (.int x2), some (.int (srI x2 3)), none, none, none]) (st' := [.int (I 57 1)]) (I' := I) (J' := J) rfl ?_
      refine Wp.steps 1 (pc' := if 0 < (I 57 1) then 72 else 137) (lv' := [some (.ref 0), some (.ref 57), some (.int x2), some (.int (srI x2 3)), none, none, none]) (st' := []) (I' := I) (J' := J) rfl (Wp.ite (fun h3 => ?_) (fun h3 => ?_))
      · replace h := h.1 h3
        refine Wp.steps 4 (pc' := 76) (lv' := [some (.ref 0), some (.ref 57), some (.int x2), some (.int (srI x2 3)), none, none, none]) (st' := [.int (I 57 1), .int (srI x2 3)]) (I' := I) (J' := J) rfl ?_
        refine Wp.irem rfl h.1 ?_
        replace h := h.2
        refine Wp.steps 16 (pc' := 97) (lv' := [some (.ref 0), some (.ref 57), some (.int x2), some (.int (srI x2 3)), some (.int (rmI (srI x2 3) (I 57 1))), some (.int (I 57 3)), none]) (st' := [.int (rmI (srI x2 3) (I 57 1)), .ref 0]) (I' := (up2 I 57 3 ((I 57 3) ||| (slI 1 (rmI (srI x2 3) (I 57 1)))))) (J' := J) rfl ?_
        refine Wp.call (M' := Sb_file) (as := [.ref 0, .int (rmI (srI x2 3) (I 57 1))]) (rest := []) rfl (CI.use h (fun v1 I1 J1 h => ?_))
        refine Wp.eqs (pc' := 100) (st' := [.int v1]) rfl rfl ?_
        refine Wp.steps 4 (pc' := 105) (lv' := [some (.ref 0), some (.ref 57), some (.int x2), some (.int (srI x2 3)), some (.int (rmI (srI x2 3) (I 57 1))), some (.int (I 57 3)), none]) (st' := [.int (I1 57 3), .int (I 57 3), .int v1]) (I' := I1) (J' := J1) rfl ?_
        refine Wp.steps 1 (pc' := if (I 57 3) = (I1 57 3) then 108 else 113) (lv' := [some (.ref 0), some (.ref 57), some (.int x2), some (.int (srI x2 3)), some (.int (rmI (srI x2 3) (I 57 1))), some (.int (I 57 3)), none]) (st' := [.int v1]) (I' := I1) (J' := J1) rfl (Wp.ite (fun h4 => ?_) (fun h4 => ?_))
        · replace h := h.1 h4
          refine Wp.steps 2 (pc' := 116) (lv' := [some (.ref 0), some (.ref 57), some (.int x2), some (.int (srI x2 3)), some (.int (rmI (srI x2 3) (I 57 1))), some (.int (I 57 3)), none]) (st' := [.int (-2), .int v1]) (I' := I1) (J' := J1) rfl ?_
          refine Wp.steps 1 (pc' := if v1 = (-2) then 119 else 135) (lv' := [some (.ref 0), some (.ref 57), some (.int x2), some (.int (srI x2 3)), some (.int (rmI (srI x2 3) (I 57 1))), some (.int (I 57 3)), none]) (st' := []) (I' := I1) (J' := J1) rfl (Wp.ite (fun h5 => ?_) (fun h5 => ?_))
          · replace h := h.1 h5
            refine Wp.steps 4 (pc' := 124) (lv' := [some (.ref 0), some (.ref 57), some (.int x2), some (.int (srI x2 3)), some (.int (rmI (srI x2 3) (I 57 1))), some (.int (I 57 3)), none]) (st' := [.int (I1 57 3), .int (I 57 3)]) (I' := I1) (J' := J1) rfl ?_
            refine Wp.steps 1 (pc' := if (I 57 3) = (I1 57 3) then 127 else 131) (lv' := [some (.ref 0), some (.ref 57), some (.int x2), some (.int (srI x2 3)), some (.int (rmI (srI x2 3) (I 57 1))), some (.int (I 57 3)), none]) (st' := []) (I' := I1) (J' := J1) rfl ?_
            rw [if_pos h4]
            refine Wp.steps 2 (pc' := 136) (lv' := [some (.ref 0), some (.ref 57), some (.int x2), some (.int (srI x2 3)), some (.int (rmI (srI x2 3) (I 57 1))), some (.int (I 57 3)), none]) (st' := [.int 0]) (I' := I1) (J' := J1) rfl ?_
            exact h
          · replace h := h.2 h5
            refine Wp.steps 1 (pc' := 136) (lv' := [some (.ref 0), some (.ref 57), some (.int x2), some (.int (srI x2 3)), some (.int (rmI (srI x2 3) (I 57 1))), some (.int (I 57 3)), none]) (st' := [.int (-1)]) (I' := I1) (J' := J1) rfl ?_
            exact h
        · replace h := h.2 h4
          refine Wp.steps 3 (pc' := 116) (lv' := [some (.ref 0), some (.ref 57), some (.int x2), some (.int (srI x2 3)), some (.int (rmI (srI x2 3) (I 57 1))), some (.int (I 57 3)), none]) (st' := [.int (I1 57 3), .int v1]) (I' := I1) (J' := J1) rfl ?_
          refine Wp.steps 1 (pc' := if v1 = (I1 57 3) then 119 else 135) (lv' := [some (.ref 0), some (.ref 57), some (.int x2), some (.int (srI x2 3)), some (.int (rmI (srI x2 3) (I 57 1))), some (.int (I 57 3)), none]) (st' := []) (I' := I1) (J' := J1) rfl (Wp.ite (fun h5 => ?_) (fun h5 => ?_))
          · replace h := h.1 h5
            refine Wp.steps 4 (pc' := 124) (lv' := [some (.ref 0), some (.ref 57), some (.int x2), some (.int (srI x2 3)), some (.int (rmI (srI x2 3) (I 57 1))), some (.int (I 57 3)), none]) (st' := [.int (I1 57 3), .int (I 57 3)]) (I' := I1) (J' := J1) rfl ?_
            refine Wp.steps 1 (pc' := if (I 57 3) = (I1 57 3) then 127 else 131) (lv' := [some (.ref 0), some (.ref 57), some (.int x2), some (.int (srI x2 3)), some (.int (rmI (srI x2 3) (I 57 1))), some (.int (I 57 3)), none]) (st' := []) (I' := I1) (J' := J1) rfl ?_
            rw [if_neg h4]
            refine Wp.steps 2 (pc' := 136) (lv' := [some (.ref 0), some (.ref 57), some (.int x2), some (.int (srI x2 3)), some (.int (rmI (srI x2 3) (I 57 1))), some (.int (I 57 3)), none]) (st' := [.int 1]) (I' := I1) (J' := J1) rfl ?_
            exact h
          · replace h := h.2 h5
            refine Wp.steps 1 (pc' := 136) (lv' := [some (.ref 0), some (.ref 57), some (.int x2), some (.int (srI x2 3)), some (.int (rmI (srI x2 3) (I 57 1))), some (.int (I 57 3)), none]) (st' := [.int (-1)]) (I' := I1) (J' := J1) rfl ?_
            exact h
      · replace h := h.2 h3
        refine Wp.steps 4 (pc' := 141) (lv' := [some (.ref 0), some (.ref 57), some (.int x2), some (.int (srI x2 3)), none, none, none]) (st' := [.int (I 57 0), .int (srI x2 3)]) (I' := I) (J' := J) rfl ?_
        refine Wp.irem rfl h.1 ?_
        replace h := h.2
        refine Wp.steps 5 (pc' := 149) (lv' := [some (.ref 0), some (.ref 57), some (.int x2), some (.int (srI x2 3)), some (.int (rmI (srI x2 3) (I 57 0))), none, none]) (st' := [.int 4, .int (x2 &&& 7)]) (I' := I) (J' := J) rfl ?_
        refine Wp.steps 1 (pc' := if (x2 &&& 7) < 4 then 152 else 156) (lv' := [some (.ref 0), some (.ref 57), some (.int x2), some (.int (srI x2 3)), some (.int (rmI (srI x2 3) (I 57 0))), none, none]) (st' := []) (I' := I) (J' := J) rfl (Wp.ite (fun h4 => ?_) (fun h4 => ?_))
        · replace h := h.1 h4
          refine Wp.steps 2 (pc' := 157) (lv' := [some (.ref 0), some (.ref 57), some (.int x2), some (.int (srI x2 3)), some (.int (rmI (srI x2 3) (I 57 0))), none, none]) (st' := [.int 0]) (I' := I) (J' := J) rfl ?_
          exact h
        · replace h := h.2 h4
          refine Wp.steps 1 (pc' := 157) (lv' := [some (.ref 0), some (.ref 57), some (.int x2), some (.int (srI x2 3)), some (.int (rmI (srI x2 3) (I 57 0))), none, none]) (st' := [.int 1]) (I' := I) (J' := J) rfl ?_
          exact h
    · replace h := h.2 h2
      refine Wp.steps 4 (pc' := 141) (lv' := [some (.ref 0), some (.ref 57), some (.int x2), some (.int (srI x2 3)), none, none, none]) (st' := [.int (I 57 0), .int (srI x2 3)]) (I' := I) (J' := J) rfl ?_
      refine Wp.irem rfl h.1 ?_
      replace h := h.2
      refine Wp.steps 5 (pc' := 149) (lv' := [some (.ref 0), some (.ref 57), some (.int x2), some (.int (srI x2 3)), some (.int (rmI (srI x2 3) (I 57 0))), none, none]) (st' := [.int 4, .int (x2 &&& 7)]) (I' := I) (J' := J) rfl ?_
      refine Wp.steps 1 (pc' := if (x2 &&& 7) < 4 then 152 else 156) (lv' := [some (.ref 0), some (.ref 57), some (.int x2), some (.int (srI x2 3)), some (.int (rmI (srI x2 3) (I 57 0))), none, none]) (st' := []) (I' := I) (J' := J) rfl (Wp.ite (fun h3 => ?_) (fun h3 => ?_))
      · replace h := h.1 h3
        refine Wp.steps 2 (pc' := 157) (lv' := [some (.ref 0), some (.ref 57), some (.int x2), some (.int (srI x2 3)), some (.int (rmI (srI x2 3) (I 57 0))), none, none]) (st' := [.int 0]) (I' := I) (J' := J) rfl ?_
        exact h
      · replace h := h.2 h3
        refine Wp.steps 1 (pc' := 157) (lv' := [some (.ref 0), some (.ref 57), some (.int x2), some (.int (srI x2 3)), some (.int (rmI (srI x2 3) (I 57 0))), none, none]) (st' := [.int 1]) (I' := I) (J' := J) rfl ?_
        exact h
set_option maxHeartbeats 16000000 in
theorem v_Lw_acts_0_57_57 {d : Nat} {Q : Post} {I : I2} {J : J2} {x2 : Int32} {x3 : Int32} {x4 : Int32} {s0 : Int32} (h : Q (some (.int s0)) I J) : Wp d Lw_acts Q 57 [some (.ref 0), some (.ref 57), some (.int x2), some (.int x3), some (.int x4), none, none] [.int s0] I J := by
  exact Wp.ret rfl h
set_option maxHeartbeats 16000000 in
theorem v_Lw_acts_0_57_136 {d : Nat} {Q : Post} {I : I2} {J : J2} {x2 : Int32} {x3 : Int32} {x4 : Int32} {x5 : Int32} {s0 : Int32} (h : Q (some (.int s0)) I J) : Wp d Lw_acts Q 136 [some (.ref 0), some (.ref 57), some (.int x2), some (.int x3), some (.int x4), some (.int x5), none] [.int s0] I J := by
  exact Wp.ret rfl h
set_option maxHeartbeats 16000000 in
theorem v_Lw_acts_0_57_157 {d : Nat} {Q : Post} {I : I2} {J : J2} {x2 : Int32} {x3 : Int32} {x4 : Int32} {s0 : Int32} (h : CI d Lw_slid [.ref 57, .int (I 57 5), .int x4, .int s0, .int (I 57 3)] I J (fun v1 I1 J1 => (v1 < 0 → CI d Sb_slide [.ref 0, .int x4, .int s0] I1 J1 (fun v2 I2 J2 => (v2 = (-2) → Q (some (.int 0)) I2 J2) ∧ (¬ (v2 = (-2)) → Q (some (.int (-1))) I2 J2))) ∧ (¬ (v1 < 0) → CI d Sb_slide [.ref 0, .int x4, .int s0] (up2 I1 57 5 v1) J1 (fun v2 I2 J2 => (v2 = v1 → Q (some (.int 1)) I2 J2) ∧ (¬ (v2 = v1) → Q (some (.int (-1))) I2 J2))))) : Wp d Lw_acts Q 157 [some (.ref 0), some (.ref 57), some (.int x2), some (.int x3), some (.int x4), none, none] [.int s0] I J := by
  refine Wp.steps 10 (pc' := 170) (lv' := [some (.ref 0), some (.ref 57), some (.int x2), some (.int x3), some (.int x4), some (.int s0), none]) (st' := [.int (I 57 3), .int s0, .int x4, .int (I 57 5), .ref 57]) (I' := I) (J' := J) rfl ?_
  refine Wp.call (M' := Lw_slid) (as := [.ref 57, .int (I 57 5), .int x4, .int s0, .int (I 57 3)]) (rest := []) rfl (CI.use h (fun v1 I1 J1 h => ?_))
  refine Wp.eqs (pc' := 173) (st' := [.int v1]) rfl rfl ?_
  refine Wp.steps 2 (pc' := 177) (lv' := [some (.ref 0), some (.ref 57), some (.int x2), some (.int x3), some (.int x4), some (.int s0), some (.int v1)]) (st' := [.int v1]) (I' := I1) (J' := J1) rfl ?_
  refine Wp.steps 1 (pc' := if v1 < 0 then 180 else 199) (lv' := [some (.ref 0), some (.ref 57), some (.int x2), some (.int x3), some (.int x4), some (.int s0), some (.int v1)]) (st' := []) (I' := I1) (J' := J1) rfl (Wp.ite (fun h1 => ?_) (fun h1 => ?_))
  · replace h := h.1 h1
    refine Wp.steps 3 (pc' := 185) (lv' := [some (.ref 0), some (.ref 57), some (.int x2), some (.int x3), some (.int x4), some (.int s0), some (.int v1)]) (st' := [.int s0, .int x4, .ref 0]) (I' := I1) (J' := J1) rfl ?_
    refine Wp.call (M' := Sb_slide) (as := [.ref 0, .int x4, .int s0]) (rest := []) rfl (CI.use h (fun v2 I2 J2 h => ?_))
    refine Wp.eqs (pc' := 188) (st' := [.int v2]) rfl rfl ?_
    refine Wp.steps 1 (pc' := 190) (lv' := [some (.ref 0), some (.ref 57), some (.int x2), some (.int x3), some (.int x4), some (.int s0), some (.int v1)]) (st' := [.int (-2), .int v2]) (I' := I2) (J' := J2) rfl ?_
    refine Wp.steps 1 (pc' := if v2 = (-2) then 193 else 197) (lv' := [some (.ref 0), some (.ref 57), some (.int x2), some (.int x3), some (.int x4), some (.int s0), some (.int v1)]) (st' := []) (I' := I2) (J' := J2) rfl (Wp.ite (fun h2 => ?_) (fun h2 => ?_))
    · replace h := h.1 h2
      refine Wp.steps 2 (pc' := 198) (lv' := [some (.ref 0), some (.ref 57), some (.int x2), some (.int x3), some (.int x4), some (.int s0), some (.int v1)]) (st' := [.int 0]) (I' := I2) (J' := J2) rfl ?_
      exact Wp.ret rfl h
    · replace h := h.2 h2
      refine Wp.steps 1 (pc' := 198) (lv' := [some (.ref 0), some (.ref 57), some (.int x2), some (.int x3), some (.int x4), some (.int s0), some (.int v1)]) (st' := [.int (-1)]) (I' := I2) (J' := J2) rfl ?_
      exact Wp.ret rfl h
  · replace h := h.2 h1
    refine Wp.steps 7 (pc' := 209) (lv' := [some (.ref 0), some (.ref 57), some (.int x2), some (.int x3), some (.int x4), some (.int s0), some (.int v1)]) (st' := [.int s0, .int x4, .ref 0]) (I' := (up2 I1 57 5 v1)) (J' := J1) rfl ?_
    refine Wp.call (M' := Sb_slide) (as := [.ref 0, .int x4, .int s0]) (rest := []) rfl (CI.use h (fun v2 I2 J2 h => ?_))
    refine Wp.eqs (pc' := 212) (st' := [.int v2]) rfl rfl ?_
    refine Wp.steps 1 (pc' := 214) (lv' := [some (.ref 0), some (.ref 57), some (.int x2), some (.int x3), some (.int x4), some (.int s0), some (.int v1)]) (st' := [.int v1, .int v2]) (I' := I2) (J' := J2) rfl ?_
    refine Wp.steps 1 (pc' := if v2 = v1 then 217 else 221) (lv' := [some (.ref 0), some (.ref 57), some (.int x2), some (.int x3), some (.int x4), some (.int s0), some (.int v1)]) (st' := []) (I' := I2) (J' := J2) rfl (Wp.ite (fun h2 => ?_) (fun h2 => ?_))
    · replace h := h.1 h2
      refine Wp.steps 2 (pc' := 222) (lv' := [some (.ref 0), some (.ref 57), some (.int x2), some (.int x3), some (.int x4), some (.int s0), some (.int v1)]) (st' := [.int 1]) (I' := I2) (J' := J2) rfl ?_
      exact Wp.ret rfl h
    · replace h := h.2 h2
      refine Wp.steps 1 (pc' := 222) (lv' := [some (.ref 0), some (.ref 57), some (.int x2), some (.int x3), some (.int x4), some (.int s0), some (.int v1)]) (st' := [.int (-1)]) (I' := I2) (J' := J2) rfl ?_
      exact Wp.ret rfl h
