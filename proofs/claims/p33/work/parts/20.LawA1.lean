/-! what each way through a method asks (by program): LawA -/
set_option maxHeartbeats 16000000 in
theorem v_LawA_13 {d : Nat} {Q : Post} {I : I2} {J : J2} (h : CI d Lw_lays [.ref 0, .ref 100, .ref 57, .int 4] I J (fun v1 I1 J1 => (v1 = 0 → Wp d LawA Q 40 [some (.ref 100), some (.ref 0), some (.ref 57), some (.int 0), some (.int 0), none, none, none, none, none, none, none] [] I1 J1) ∧ (¬ (v1 = 0) → CI d Lw_stands [.ref 0, .ref 57] I1 J1 (fun v2 I2 J2 => (v2 = 0 → Wp d LawA Q 40 [some (.ref 100), some (.ref 0), some (.ref 57), some (.int 0), some (.int 0), none, none, none, none, none, none, none] [] I2 J2) ∧ (¬ (v2 = 0) → Wp d LawA Q 40 [some (.ref 100), some (.ref 0), some (.ref 57), some (.int 1), some (.int 0), none, none, none, none, none, none, none] [] I2 J2))))) : Wp d LawA Q 13 [some (.ref 100), some (.ref 0), some (.ref 57), none, none, none, none, none, none, none, none, none] [] I J := by
  refine Wp.steps 4 (pc' := 17) (lv' := [some (.ref 100), some (.ref 0), some (.ref 57), none, none, none, none, none, none, none, none, none]) (st' := [.int 4, .ref 57, .ref 100, .ref 0]) (I' := I) (J' := J) rfl ?_
  refine Wp.call (M' := Lw_lays) (as := [.ref 0, .ref 100, .ref 57, .int 4]) (rest := []) rfl (CI.use h (fun v1 I1 J1 h => ?_))
  refine Wp.eqs (pc' := 20) (st' := [.int v1]) rfl rfl ?_
  refine Wp.steps 1 (pc' := if v1 = 0 then 35 else 23) (lv' := [some (.ref 100), some (.ref 0), some (.ref 57), none, none, none, none, none, none, none, none, none]) (st' := []) (I' := I1) (J' := J1) rfl (Wp.ite (fun h1 => ?_) (fun h1 => ?_))
  · replace h := h.1 h1
    refine Wp.steps 4 (pc' := 40) (lv' := [some (.ref 100), some (.ref 0), some (.ref 57), some (.int 0), some (.int 0), none, none, none, none, none, none, none]) (st' := []) (I' := I1) (J' := J1) rfl ?_
    exact h
  · replace h := h.2 h1
    refine Wp.steps 2 (pc' := 25) (lv' := [some (.ref 100), some (.ref 0), some (.ref 57), none, none, none, none, none, none, none, none, none]) (st' := [.ref 57, .ref 0]) (I' := I1) (J' := J1) rfl ?_
    refine Wp.call (M' := Lw_stands) (as := [.ref 0, .ref 57]) (rest := []) rfl (CI.use h (fun v2 I2 J2 h => ?_))
    refine Wp.eqs (pc' := 28) (st' := [.int v2]) rfl rfl ?_
    refine Wp.steps 1 (pc' := if v2 = 0 then 35 else 31) (lv' := [some (.ref 100), some (.ref 0), some (.ref 57), none, none, none, none, none, none, none, none, none]) (st' := []) (I' := I2) (J' := J2) rfl (Wp.ite (fun h2 => ?_) (fun h2 => ?_))
    · replace h := h.1 h2
      refine Wp.steps 4 (pc' := 40) (lv' := [some (.ref 100), some (.ref 0), some (.ref 57), some (.int 0), some (.int 0), none, none, none, none, none, none, none]) (st' := []) (I' := I2) (J' := J2) rfl ?_
      exact h
    · replace h := h.2 h2
      refine Wp.steps 5 (pc' := 40) (lv' := [some (.ref 100), some (.ref 0), some (.ref 57), some (.int 1), some (.int 0), none, none, none, none, none, none, none]) (st' := []) (I' := I2) (J' := J2) rfl ?_
      exact h
set_option maxHeartbeats 16000000 in
theorem v_LawA_40 {d : Nat} {Q : Post} {I : I2} {J : J2} {x3 : Int32} {x4 : Int32} (h : (x4 < 5 → (x3 = 0 → CI d Lw_cell [.ref 100, .int 14] I J (fun v1 I1 J1 => Wp d LawA Q 306 [some (.ref 100), some (.ref 0), some (.ref 57), some (.int 0), some (.long 0), none, some (.int v1), some (.int 0), some (.int 0), some (.long 0), none, some (.int 0)] [] I1 J1)) ∧ (¬ (x3 = 0) → CI d Lw_cell [.ref 100, .int (6 + x4)] I J (fun v1 I1 J1 => CI d Lw_acts [.ref 0, .ref 57, .int ((srI v1 9) &&& 4095)] I1 J1 (fun v2 I2 J2 => (v2 < 0 → Wp d LawA Q 40 [some (.ref 100), some (.ref 0), some (.ref 57), some (.int 0), some (.int (x4 + 1)), none, none, none, none, none, none, none] [] I2 J2) ∧ (¬ (v2 < 0) → CI d Lw_stands [.ref 0, .ref 57] I2 J2 (fun v3 I3 J3 => (v3 = 0 → Wp d LawA Q 40 [some (.ref 100), some (.ref 0), some (.ref 57), some (.int 0), some (.int (x4 + 1)), none, none, none, none, none, none, none] [] I3 J3) ∧ (¬ (v3 = 0) → Wp d LawA Q 40 [some (.ref 100), some (.ref 0), some (.ref 57), some (.int 1), some (.int (x4 + 1)), none, none, none, none, none, none, none] [] I3 J3))))))) ∧ (¬ (x4 < 5) → (x3 = 0 → CI d Lw_cell [.ref 100, .int 14] I J (fun v1 I1 J1 => Wp d LawA Q 306 [some (.ref 100), some (.ref 0), some (.ref 57), some (.int 0), some (.long 0), none, some (.int v1), some (.int 0), some (.int 0), some (.long 0), none, some (.int 0)] [] I1 J1)) ∧ (¬ (x3 = 0) → CI d Sb_image [.ref 0] I J (fun v1 I1 J1 => (v1 = 1 → CL d Lw_hash [.ref 0, .ref 57] I1 J1 (fun v2 I2 J2 => Q (some (.long v2)) I2 J2)) ∧ (¬ (v1 = 1) → CI d Lw_cell [.ref 100, .int 14] I1 J1 (fun v2 I2 J2 => Wp d LawA Q 306 [some (.ref 100), some (.ref 0), some (.ref 57), some (.int 0), some (.long 0), none, some (.int v2), some (.int 0), some (.int 0), some (.long 0), none, some (.int 0)] [] I2 J2)))))) : Wp d LawA Q 40 [some (.ref 100), some (.ref 0), some (.ref 57), some (.int x3), some (.int x4), none, none, none, none, none, none, none] [] I J := by
  refine Wp.steps 2 (pc' := 43) (lv' := [some (.ref 100), some (.ref 0), some (.ref 57), some (.int x3), some (.int x4), none, none, none, none, none, none, none]) (st' := [.int 5, .int x4]) (I' := I) (J' := J) rfl ?_
  refine Wp.steps 1 (pc' := if x4 < 5 then 46 else 94) (lv' := [some (.ref 100), some (.ref 0), some (.ref 57), some (.int x3), some (.int x4), none, none, none, none, none, none, none]) (st' := []) (I' := I) (J' := J) rfl (Wp.ite (fun h1 => ?_) (fun h1 => ?_))
  · replace h := h.1 h1
    refine Wp.steps 1 (pc' := 47) (lv' := [some (.ref 100), some (.ref 0), some (.ref 57), some (.int x3), some (.int x4), none, none, none, none, none, none, none]) (st' := [.int x3]) (I' := I) (J' := J) rfl ?_
    refine Wp.steps 1 (pc' := if x3 = 0 then 94 else 50) (lv' := [some (.ref 100), some (.ref 0), some (.ref 57), some (.int x3), some (.int x4), none, none, none, none, none, none, none]) (st' := []) (I' := I) (J' := J) rfl (Wp.ite (fun h2 => ?_) (fun h2 => ?_))
    · replace h := h.1 h2
      refine Wp.steps 1 (pc' := 95) (lv' := [some (.ref 100), some (.ref 0), some (.ref 57), some (.int x3), some (.int x4), none, none, none, none, none, none, none]) (st' := [.int x3]) (I' := I) (J' := J) rfl ?_
      refine Wp.steps 1 (pc' := if x3 = 0 then 110 else 98) (lv' := [some (.ref 100), some (.ref 0), some (.ref 57), some (.int x3), some (.int x4), none, none, none, none, none, none, none]) (st' := []) (I' := I) (J' := J) rfl ?_
      rw [if_pos h2]
      refine Wp.steps 12 (pc' := 203) (lv' := [some (.ref 100), some (.ref 0), some (.ref 57), some (.int 0), some (.long 0), none, none, none, none, none, none, none]) (st' := [.int 14, .ref 100]) (I' := I) (J' := J) rfl ?_
      refine Wp.call (M' := Lw_cell) (as := [.ref 100, .int 14]) (rest := []) rfl (CI.use h (fun v1 I1 J1 h => ?_))
      refine Wp.eqs (pc' := 206) (st' := [.int v1]) rfl rfl ?_
      refine Wp.steps 23 (pc' := 306) (lv' := [some (.ref 100), some (.ref 0), some (.ref 57), some (.int 0), some (.long 0), none, some (.int v1), some (.int 0), some (.int 0), some (.long 0), none, some (.int 0)]) (st' := []) (I' := I1) (J' := J1) rfl ?_
      exact h
    · replace h := h.2 h2
      refine Wp.steps 6 (pc' := 58) (lv' := [some (.ref 100), some (.ref 0), some (.ref 57), some (.int x3), some (.int x4), none, none, none, none, none, none, none]) (st' := [.int (6 + x4), .ref 100, .ref 57, .ref 0]) (I' := I) (J' := J) rfl ?_
      refine Wp.call (M' := Lw_cell) (as := [.ref 100, .int (6 + x4)]) (rest := [.ref 57, .ref 0]) rfl (CI.use h (fun v1 I1 J1 h => ?_))
      refine Wp.eqs (pc' := 61) (st' := [.int v1, .ref 57, .ref 0]) rfl rfl ?_
      refine Wp.steps 4 (pc' := 68) (lv' := [some (.ref 100), some (.ref 0), some (.ref 57), some (.int x3), some (.int x4), none, none, none, none, none, none, none]) (st' := [.int ((srI v1 9) &&& 4095), .ref 57, .ref 0]) (I' := I1) (J' := J1) rfl ?_
      refine Wp.call (M' := Lw_acts) (as := [.ref 0, .ref 57, .int ((srI v1 9) &&& 4095)]) (rest := []) rfl (CI.use h (fun v2 I2 J2 h => ?_))
      refine Wp.eqs (pc' := 71) (st' := [.int v2]) rfl rfl ?_
      refine Wp.steps 1 (pc' := if v2 < 0 then 86 else 74) (lv' := [some (.ref 100), some (.ref 0), some (.ref 57), some (.int x3), some (.int x4), none, none, none, none, none, none, none]) (st' := []) (I' := I2) (J' := J2) rfl (Wp.ite (fun h3 => ?_) (fun h3 => ?_))
      · replace h := h.1 h3
        refine Wp.steps 4 (pc' := 40) (lv' := [some (.ref 100), some (.ref 0), some (.ref 57), some (.int 0), some (.int (x4 + 1)), none, none, none, none, none, none, none]) (st' := []) (I' := I2) (J' := J2) rfl ?_
        exact h
      · replace h := h.2 h3
        refine Wp.steps 2 (pc' := 76) (lv' := [some (.ref 100), some (.ref 0), some (.ref 57), some (.int x3), some (.int x4), none, none, none, none, none, none, none]) (st' := [.ref 57, .ref 0]) (I' := I2) (J' := J2) rfl ?_
        refine Wp.call (M' := Lw_stands) (as := [.ref 0, .ref 57]) (rest := []) rfl (CI.use h (fun v3 I3 J3 h => ?_))
        refine Wp.eqs (pc' := 79) (st' := [.int v3]) rfl rfl ?_
        refine Wp.steps 1 (pc' := if v3 = 0 then 86 else 82) (lv' := [some (.ref 100), some (.ref 0), some (.ref 57), some (.int x3), some (.int x4), none, none, none, none, none, none, none]) (st' := []) (I' := I3) (J' := J3) rfl (Wp.ite (fun h4 => ?_) (fun h4 => ?_))
        · replace h := h.1 h4
          refine Wp.steps 4 (pc' := 40) (lv' := [some (.ref 100), some (.ref 0), some (.ref 57), some (.int 0), some (.int (x4 + 1)), none, none, none, none, none, none, none]) (st' := []) (I' := I3) (J' := J3) rfl ?_
          exact h
        · replace h := h.2 h4
          refine Wp.steps 5 (pc' := 40) (lv' := [some (.ref 100), some (.ref 0), some (.ref 57), some (.int 1), some (.int (x4 + 1)), none, none, none, none, none, none, none]) (st' := []) (I' := I3) (J' := J3) rfl ?_
          exact h
  · replace h := h.2 h1
    refine Wp.steps 1 (pc' := 95) (lv' := [some (.ref 100), some (.ref 0), some (.ref 57), some (.int x3), some (.int x4), none, none, none, none, none, none, none]) (st' := [.int x3]) (I' := I) (J' := J) rfl ?_
    refine Wp.steps 1 (pc' := if x3 = 0 then 110 else 98) (lv' := [some (.ref 100), some (.ref 0), some (.ref 57), some (.int x3), some (.int x4), none, none, none, none, none, none, none]) (st' := []) (I' := I) (J' := J) rfl (Wp.ite (fun h2 => ?_) (fun h2 => ?_))
    · replace h := h.1 h2
      refine Wp.steps 12 (pc' := 203) (lv' := [some (.ref 100), some (.ref 0), some (.ref 57), some (.int 0), some (.long 0), none, none, none, none, none, none, none]) (st' := [.int 14, .ref 100]) (I' := I) (J' := J) rfl ?_
      refine Wp.call (M' := Lw_cell) (as := [.ref 100, .int 14]) (rest := []) rfl (CI.use h (fun v1 I1 J1 h => ?_))
      refine Wp.eqs (pc' := 206) (st' := [.int v1]) rfl rfl ?_
      refine Wp.steps 23 (pc' := 306) (lv' := [some (.ref 100), some (.ref 0), some (.ref 57), some (.int 0), some (.long 0), none, some (.int v1), some (.int 0), some (.int 0), some (.long 0), none, some (.int 0)]) (st' := []) (I' := I1) (J' := J1) rfl ?_
      exact h
    · replace h := h.2 h2
      refine Wp.steps 1 (pc' := 99) (lv' := [some (.ref 100), some (.ref 0), some (.ref 57), some (.int x3), some (.int x4), none, none, none, none, none, none, none]) (st' := [.ref 0]) (I' := I) (J' := J) rfl ?_
      refine Wp.call (M' := Sb_image) (as := [.ref 0]) (rest := []) rfl (CI.use h (fun v1 I1 J1 h => ?_))
      refine Wp.eqs (pc' := 102) (st' := [.int v1]) rfl rfl ?_
      refine Wp.steps 1 (pc' := 103) (lv' := [some (.ref 100), some (.ref 0), some (.ref 57), some (.int x3), some (.int x4), none, none, none, none, none, none, none]) (st' := [.int 1, .int v1]) (I' := I1) (J' := J1) rfl ?_
      refine Wp.steps 1 (pc' := if v1 = 1 then 106 else 110) (lv' := [some (.ref 100), some (.ref 0), some (.ref 57), some (.int x3), some (.int x4), none, none, none, none, none, none, none]) (st' := []) (I' := I1) (J' := J1) rfl (Wp.ite (fun h3 => ?_) (fun h3 => ?_))
      · replace h := h.1 h3
        refine Wp.steps 7 (pc' := 118) (lv' := [some (.ref 100), some (.ref 0), some (.ref 57), some (.int 1), some (.int x4), none, none, none, none, none, none, none]) (st' := [.ref 57, .ref 0]) (I' := I1) (J' := J1) rfl ?_
        refine Wp.call (M' := Lw_hash) (as := [.ref 0, .ref 57]) (rest := []) rfl (CL.use h (fun v2 I2 J2 h => ?_))
        refine Wp.eqs (pc' := 121) (st' := [.long v2]) rfl rfl ?_
        refine Wp.steps 4 (pc' := 131) (lv' := [some (.ref 100), some (.ref 0), some (.ref 57), some (.int 1), some (.long v2), none, none, none, none, none, none, none]) (st' := []) (I' := I2) (J' := J2) rfl ?_
        exact Wp.ret rfl h
      · replace h := h.2 h3
        refine Wp.steps 12 (pc' := 203) (lv' := [some (.ref 100), some (.ref 0), some (.ref 57), some (.int 0), some (.long 0), none, none, none, none, none, none, none]) (st' := [.int 14, .ref 100]) (I' := I1) (J' := J1) rfl ?_
        refine Wp.call (M' := Lw_cell) (as := [.ref 100, .int 14]) (rest := []) rfl (CI.use h (fun v2 I2 J2 h => ?_))
        refine Wp.eqs (pc' := 206) (st' := [.int v2]) rfl rfl ?_
        refine Wp.steps 23 (pc' := 306) (lv' := [some (.ref 100), some (.ref 0), some (.ref 57), some (.int 0), some (.long 0), none, some (.int v2), some (.int 0), some (.int 0), some (.long 0), none, some (.int 0)]) (st' := []) (I' := I2) (J' := J2) rfl ?_
        exact h
set_option maxHeartbeats 16000000 in
theorem v_LawA_306 {d : Nat} {Q : Post} {I : I2} {J : J2} {x3 : Int32} {x4 : Int64} {x6 : Int32} {x7 : Int32} {x8 : Int32} {x9 : Int64} {x11 : Int32} (h : (x11 < 8 → (x3 = 0 → False) ∧ (¬ (x3 = 0) → CI d Sb_undo [.ref 0] I J (fun v1 I1 J1 => (v1 = (7 - x11) → Wp d LawA Q 306 [some (.ref 100), some (.ref 0), some (.ref 57), some (.int 1), some (.long x4), none, some (.int x6), some (.int x7), some (.int x8), some (.long x9), none, some (.int (x11 + 1))] [] I1 J1) ∧ (¬ (v1 = (7 - x11)) → Wp d LawA Q 306 [some (.ref 100), some (.ref 0), some (.ref 57), some (.int 0), some (.long x4), none, some (.int x6), some (.int x7), some (.int x8), some (.long x9), none, some (.int (x11 + 1))] [] I1 J1)))) ∧ (¬ (x11 < 8) → (x3 = 0 → False) ∧ (¬ (x3 = 0) → CL d Lw_hash [.ref 0, .ref 57] I J (fun v1 I1 J1 => ((lg_cmp v1 x4) = 0 → CI d Sb_undo [.ref 0] I1 J1 (fun v2 I2 J2 => (v2 = (-4) → CI d Sb_drift [.ref 0, .int 8] I2 J2 (fun v3 I3 J3 => (v3 = x8 → CL d Lw_hash [.ref 0, .ref 57] I3 J3 (fun v4 I4 J4 => ((lg_cmp v4 x9) = 0 → CI d Sb_restore [.ref 0] I4 J4 (fun v5 I5 J5 => (v5 = 1 → CI d Sb_count [.ref 0, .int 8] I5 J5 (fun v6 I6 J6 => (v6 = x7 → CL d Lw_hash [.ref 0, .ref 57] I6 J6 (fun v7 I7 J7 => ((lg_cmp v7 x4) = 0 → False) ∧ (¬ ((lg_cmp v7 x4) = 0) → False))) ∧ (¬ (v6 = x7) → False))) ∧ (¬ (v5 = 1) → False))) ∧ (¬ ((lg_cmp v4 x9) = 0) → False))) ∧ (¬ (v3 = x8) → False))) ∧ (¬ (v2 = (-4)) → False))) ∧ (¬ ((lg_cmp v1 x4) = 0) → False))))) : Wp d LawA Q 306 [some (.ref 100), some (.ref 0), some (.ref 57), some (.int x3), some (.long x4), none, some (.int x6), some (.int x7), some (.int x8), some (.long x9), none, some (.int x11)] [] I J := by
  refine Wp.steps 2 (pc' := 310) (lv' := [some (.ref 100), some (.ref 0), some (.ref 57), some (.int x3), some (.long x4), none, some (.int x6), some (.int x7), some (.int x8), some (.long x9), none, some (.int x11)]) (st' := [.int 8, .int x11]) (I' := I) (J' := J) rfl ?_
  refine Wp.steps 1 (pc' := if x11 < 8 then 313 else 341) (lv' := [some (.ref 100), some (.ref 0), some (.ref 57), some (.int x3), some (.long x4), none, some (.int x6), some (.int x7), some (.int x8), some (.long x9), none, some (.int x11)]) (st' := []) (I' := I) (J' := J) rfl (Wp.ite (fun h1 => ?_) (fun h1 => ?_))
  · replace h := h.1 h1
    refine Wp.steps 1 (pc' := 314) (lv' := [some (.ref 100), some (.ref 0), some (.ref 57), some (.int x3), some (.long x4), none, some (.int x6), some (.int x7), some (.int x8), some (.long x9), none, some (.int x11)]) (st' := [.int x3]) (I' := I) (J' := J) rfl ?_
    refine Wp.steps 1 (pc' := if x3 = 0 then 341 else 317) (lv' := [some (.ref 100), some (.ref 0), some (.ref 57), some (.int x3), some (.long x4), none, some (.int x6), some (.int x7), some (.int x8), some (.long x9), none, some (.int x11)]) (st' := []) (I' := I) (J' := J) rfl (Wp.ite (fun h2 => ?_) (fun h2 => ?_))
    · replace h := h.1 h2
      refine Wp.steps 1 (pc' := 342) (lv' := [some (.ref 100), some (.ref 0), some (.ref 57), some (.int x3), some (.long x4), none, some (.int x6), some (.int x7), some (.int x8), some (.long x9), none, some (.int x11)]) (st' := [.int x3]) (I' := I) (J' := J) rfl ?_
      refine Wp.steps 1 (pc' := if x3 = 0 then 391 else 345) (lv' := [some (.ref 100), some (.ref 0), some (.ref 57), some (.int x3), some (.long x4), none, some (.int x6), some (.int x7), some (.int x8), some (.long x9), none, some (.int x11)]) (st' := []) (I' := I) (J' := J) rfl ?_
      rw [if_pos h2]
      refine Wp.steps 5 (pc' := 432) (lv' := [some (.ref 100), some (.ref 0), some (.ref 57), some (.int 0), some (.long x4), none, some (.int x6), some (.int x7), some (.int x8), some (.long x9), none, some (.int x11)]) (st' := [.int 0]) (I' := I) (J' := J) rfl ?_
      exact h.elim
    · replace h := h.2 h2
      refine Wp.steps 1 (pc' := 318) (lv' := [some (.ref 100), some (.ref 0), some (.ref 57), some (.int x3), some (.long x4), none, some (.int x6), some (.int x7), some (.int x8), some (.long x9), none, some (.int x11)]) (st' := [.ref 0]) (I' := I) (J' := J) rfl ?_
      refine Wp.call (M' := Sb_undo) (as := [.ref 0]) (rest := []) rfl (CI.use h (fun v1 I1 J1 h => ?_))
      refine Wp.eqs (pc' := 321) (st' := [.int v1]) rfl rfl ?_
      refine Wp.steps 3 (pc' := 326) (lv' := [some (.ref 100), some (.ref 0), some (.ref 57), some (.int x3), some (.long x4), none, some (.int x6), some (.int x7), some (.int x8), some (.long x9), none, some (.int x11)]) (st' := [.int (7 - x11), .int v1]) (I' := I1) (J' := J1) rfl ?_
      refine Wp.steps 1 (pc' := if v1 = (7 - x11) then 329 else 333) (lv' := [some (.ref 100), some (.ref 0), some (.ref 57), some (.int x3), some (.long x4), none, some (.int x6), some (.int x7), some (.int x8), some (.long x9), none, some (.int x11)]) (st' := []) (I' := I1) (J' := J1) rfl (Wp.ite (fun h3 => ?_) (fun h3 => ?_))
      · replace h := h.1 h3
        refine Wp.steps 5 (pc' := 306) (lv' := [some (.ref 100), some (.ref 0), some (.ref 57), some (.int 1), some (.long x4), none, some (.int x6), some (.int x7), some (.int x8), some (.long x9), none, some (.int (x11 + 1))]) (st' := []) (I' := I1) (J' := J1) rfl ?_
        exact h
      · replace h := h.2 h3
        refine Wp.steps 4 (pc' := 306) (lv' := [some (.ref 100), some (.ref 0), some (.ref 57), some (.int 0), some (.long x4), none, some (.int x6), some (.int x7), some (.int x8), some (.long x9), none, some (.int (x11 + 1))]) (st' := []) (I' := I1) (J' := J1) rfl ?_
        exact h
  · replace h := h.2 h1
    refine Wp.steps 1 (pc' := 342) (lv' := [some (.ref 100), some (.ref 0), some (.ref 57), some (.int x3), some (.long x4), none, some (.int x6), some (.int x7), some (.int x8), some (.long x9), none, some (.int x11)]) (st' := [.int x3]) (I' := I) (J' := J) rfl ?_
    refine Wp.steps 1 (pc' := if x3 = 0 then 391 else 345) (lv' := [some (.ref 100), some (.ref 0), some (.ref 57), some (.int x3), some (.long x4), none, some (.int x6), some (.int x7), some (.int x8), some (.long x9), none, some (.int x11)]) (st' := []) (I' := I) (J' := J) rfl (Wp.ite (fun h2 => ?_) (fun h2 => ?_))
    · replace h := h.1 h2
      refine Wp.steps 5 (pc' := 432) (lv' := [some (.ref 100), some (.ref 0), some (.ref 57), some (.int 0), some (.long x4), none, some (.int x6), some (.int x7), some (.int x8), some (.long x9), none, some (.int x11)]) (st' := [.int 0]) (I' := I) (J' := J) rfl ?_
      exact h.elim
    · replace h := h.2 h2
      refine Wp.steps 2 (pc' := 347) (lv' := [some (.ref 100), some (.ref 0), some (.ref 57), some (.int x3), some (.long x4), none, some (.int x6), some (.int x7), some (.int x8), some (.long x9), none, some (.int x11)]) (st' := [.ref 57, .ref 0]) (I' := I) (J' := J) rfl ?_
      refine Wp.call (M' := Lw_hash) (as := [.ref 0, .ref 57]) (rest := []) rfl (CL.use h (fun v1 I1 J1 h => ?_))
      refine Wp.eqs (pc' := 350) (st' := [.long v1]) rfl rfl ?_
      refine Wp.steps 2 (pc' := 353) (lv' := [some (.ref 100), some (.ref 0), some (.ref 57), some (.int x3), some (.long x4), none, some (.int x6), some (.int x7), some (.int x8), some (.long x9), none, some (.int x11)]) (st' := [.int (lg_cmp v1 x4)]) (I' := I1) (J' := J1) rfl ?_
      refine Wp.steps 1 (pc' := if (lg_cmp v1 x4) = 0 then 356 else 391) (lv' := [some (.ref 100), some (.ref 0), some (.ref 57), some (.int x3), some (.long x4), none, some (.int x6), some (.int x7), some (.int x8), some (.long x9), none, some (.int x11)]) (st' := []) (I' := I1) (J' := J1) rfl (Wp.ite (fun h3 => ?_) (fun h3 => ?_))
      · replace h := h.1 h3
        refine Wp.steps 1 (pc' := 357) (lv' := [some (.ref 100), some (.ref 0), some (.ref 57), some (.int x3), some (.long x4), none, some (.int x6), some (.int x7), some (.int x8), some (.long x9), none, some (.int x11)]) (st' := [.ref 0]) (I' := I1) (J' := J1) rfl ?_
        refine Wp.call (M' := Sb_undo) (as := [.ref 0]) (rest := []) rfl (CI.use h (fun v2 I2 J2 h => ?_))
        refine Wp.eqs (pc' := 360) (st' := [.int v2]) rfl rfl ?_
        refine Wp.steps 1 (pc' := 362) (lv' := [some (.ref 100), some (.ref 0), some (.ref 57), some (.int x3), some (.long x4), none, some (.int x6), some (.int x7), some (.int x8), some (.long x9), none, some (.int x11)]) (st' := [.int (-4), .int v2]) (I' := I2) (J' := J2) rfl ?_
        refine Wp.steps 1 (pc' := if v2 = (-4) then 365 else 391) (lv' := [some (.ref 100), some (.ref 0), some (.ref 57), some (.int x3), some (.long x4), none, some (.int x6), some (.int x7), some (.int x8), some (.long x9), none, some (.int x11)]) (st' := []) (I' := I2) (J' := J2) rfl (Wp.ite (fun h4 => ?_) (fun h4 => ?_))
        · replace h := h.1 h4
          refine Wp.steps 2 (pc' := 368) (lv' := [some (.ref 100), some (.ref 0), some (.ref 57), some (.int x3), some (.long x4), none, some (.int x6), some (.int x7), some (.int x8), some (.long x9), none, some (.int x11)]) (st' := [.int 8, .ref 0]) (I' := I2) (J' := J2) rfl ?_
          refine Wp.call (M' := Sb_drift) (as := [.ref 0, .int 8]) (rest := []) rfl (CI.use h (fun v3 I3 J3 h => ?_))
          refine Wp.eqs (pc' := 371) (st' := [.int v3]) rfl rfl ?_
          refine Wp.steps 1 (pc' := 373) (lv' := [some (.ref 100), some (.ref 0), some (.ref 57), some (.int x3), some (.long x4), none, some (.int x6), some (.int x7), some (.int x8), some (.long x9), none, some (.int x11)]) (st' := [.int x8, .int v3]) (I' := I3) (J' := J3) rfl ?_
          refine Wp.steps 1 (pc' := if v3 = x8 then 376 else 391) (lv' := [some (.ref 100), some (.ref 0), some (.ref 57), some (.int x3), some (.long x4), none, some (.int x6), some (.int x7), some (.int x8), some (.long x9), none, some (.int x11)]) (st' := []) (I' := I3) (J' := J3) rfl (Wp.ite (fun h5 => ?_) (fun h5 => ?_))
          · replace h := h.1 h5
            refine Wp.steps 2 (pc' := 378) (lv' := [some (.ref 100), some (.ref 0), some (.ref 57), some (.int x3), some (.long x4), none, some (.int x6), some (.int x7), some (.int x8), some (.long x9), none, some (.int x11)]) (st' := [.ref 57, .ref 0]) (I' := I3) (J' := J3) rfl ?_
            refine Wp.call (M' := Lw_hash) (as := [.ref 0, .ref 57]) (rest := []) rfl (CL.use h (fun v4 I4 J4 h => ?_))
            refine Wp.eqs (pc' := 381) (st' := [.long v4]) rfl rfl ?_
            refine Wp.steps 2 (pc' := 384) (lv' := [some (.ref 100), some (.ref 0), some (.ref 57), some (.int x3), some (.long x4), none, some (.int x6), some (.int x7), some (.int x8), some (.long x9), none, some (.int x11)]) (st' := [.int (lg_cmp v4 x9)]) (I' := I4) (J' := J4) rfl ?_
            refine Wp.steps 1 (pc' := if (lg_cmp v4 x9) = 0 then 387 else 391) (lv' := [some (.ref 100), some (.ref 0), some (.ref 57), some (.int x3), some (.long x4), none, some (.int x6), some (.int x7), some (.int x8), some (.long x9), none, some (.int x11)]) (st' := []) (I' := I4) (J' := J4) rfl (Wp.ite (fun h6 => ?_) (fun h6 => ?_))
            · replace h := h.1 h6
              refine Wp.steps 6 (pc' := 398) (lv' := [some (.ref 100), some (.ref 0), some (.ref 57), some (.int 1), some (.long x4), none, some (.int x6), some (.int x7), some (.int x8), some (.long x9), none, some (.int x11)]) (st' := [.ref 0]) (I' := I4) (J' := J4) rfl ?_
              refine Wp.call (M' := Sb_restore) (as := [.ref 0]) (rest := []) rfl (CI.use h (fun v5 I5 J5 h => ?_))
              refine Wp.eqs (pc' := 401) (st' := [.int v5]) rfl rfl ?_
              refine Wp.steps 1 (pc' := 402) (lv' := [some (.ref 100), some (.ref 0), some (.ref 57), some (.int 1), some (.long x4), none, some (.int x6), some (.int x7), some (.int x8), some (.long x9), none, some (.int x11)]) (st' := [.int 1, .int v5]) (I' := I5) (J' := J5) rfl ?_
              refine Wp.steps 1 (pc' := if v5 = 1 then 405 else 431) (lv' := [some (.ref 100), some (.ref 0), some (.ref 57), some (.int 1), some (.long x4), none, some (.int x6), some (.int x7), some (.int x8), some (.long x9), none, some (.int x11)]) (st' := []) (I' := I5) (J' := J5) rfl (Wp.ite (fun h7 => ?_) (fun h7 => ?_))
              · replace h := h.1 h7
                refine Wp.steps 2 (pc' := 408) (lv' := [some (.ref 100), some (.ref 0), some (.ref 57), some (.int 1), some (.long x4), none, some (.int x6), some (.int x7), some (.int x8), some (.long x9), none, some (.int x11)]) (st' := [.int 8, .ref 0]) (I' := I5) (J' := J5) rfl ?_
                refine Wp.call (M' := Sb_count) (as := [.ref 0, .int 8]) (rest := []) rfl (CI.use h (fun v6 I6 J6 h => ?_))
                refine Wp.eqs (pc' := 411) (st' := [.int v6]) rfl rfl ?_
                refine Wp.steps 1 (pc' := 413) (lv' := [some (.ref 100), some (.ref 0), some (.ref 57), some (.int 1), some (.long x4), none, some (.int x6), some (.int x7), some (.int x8), some (.long x9), none, some (.int x11)]) (st' := [.int x7, .int v6]) (I' := I6) (J' := J6) rfl ?_
                refine Wp.steps 1 (pc' := if v6 = x7 then 416 else 431) (lv' := [some (.ref 100), some (.ref 0), some (.ref 57), some (.int 1), some (.long x4), none, some (.int x6), some (.int x7), some (.int x8), some (.long x9), none, some (.int x11)]) (st' := []) (I' := I6) (J' := J6) rfl (Wp.ite (fun h8 => ?_) (fun h8 => ?_))
                · replace h := h.1 h8
                  refine Wp.steps 2 (pc' := 418) (lv' := [some (.ref 100), some (.ref 0), some (.ref 57), some (.int 1), some (.long x4), none, some (.int x6), some (.int x7), some (.int x8), some (.long x9), none, some (.int x11)]) (st' := [.ref 57, .ref 0]) (I' := I6) (J' := J6) rfl ?_
                  refine Wp.call (M' := Lw_hash) (as := [.ref 0, .ref 57]) (rest := []) rfl (CL.use h (fun v7 I7 J7 h => ?_))
                  refine Wp.eqs (pc' := 421) (st' := [.long v7]) rfl rfl ?_
                  refine Wp.steps 2 (pc' := 424) (lv' := [some (.ref 100), some (.ref 0), some (.ref 57), some (.int 1), some (.long x4), none, some (.int x6), some (.int x7), some (.int x8), some (.long x9), none, some (.int x11)]) (st' := [.int (lg_cmp v7 x4)]) (I' := I7) (J' := J7) rfl ?_
                  refine Wp.steps 1 (pc' := if (lg_cmp v7 x4) = 0 then 427 else 431) (lv' := [some (.ref 100), some (.ref 0), some (.ref 57), some (.int 1), some (.long x4), none, some (.int x6), some (.int x7), some (.int x8), some (.long x9), none, some (.int x11)]) (st' := []) (I' := I7) (J' := J7) rfl (Wp.ite (fun h9 => ?_) (fun h9 => ?_))
                  · replace h := h.1 h9
                    refine Wp.steps 2 (pc' := 432) (lv' := [some (.ref 100), some (.ref 0), some (.ref 57), some (.int 1), some (.long x4), none, some (.int x6), some (.int x7), some (.int x8), some (.long x9), none, some (.int x11)]) (st' := [.int 1]) (I' := I7) (J' := J7) rfl ?_
                    exact h.elim
                  · replace h := h.2 h9
                    refine Wp.steps 1 (pc' := 432) (lv' := [some (.ref 100), some (.ref 0), some (.ref 57), some (.int 1), some (.long x4), none, some (.int x6), some (.int x7), some (.int x8), some (.long x9), none, some (.int x11)]) (st' := [.int 0]) (I' := I7) (J' := J7) rfl ?_
                    exact h.elim
                · replace h := h.2 h8
                  refine Wp.steps 1 (pc' := 432) (lv' := [some (.ref 100), some (.ref 0), some (.ref 57), some (.int 1), some (.long x4), none, some (.int x6), some (.int x7), some (.int x8), some (.long x9), none, some (.int x11)]) (st' := [.int 0]) (I' := I6) (J' := J6) rfl ?_
                  exact h.elim
              · replace h := h.2 h7
                refine Wp.steps 1 (pc' := 432) (lv' := [some (.ref 100), some (.ref 0), some (.ref 57), some (.int 1), some (.long x4), none, some (.int x6), some (.int x7), some (.int x8), some (.long x9), none, some (.int x11)]) (st' := [.int 0]) (I' := I5) (J' := J5) rfl ?_
                exact h.elim
            · replace h := h.2 h6
              refine Wp.steps 5 (pc' := 432) (lv' := [some (.ref 100), some (.ref 0), some (.ref 57), some (.int 0), some (.long x4), none, some (.int x6), some (.int x7), some (.int x8), some (.long x9), none, some (.int x11)]) (st' := [.int 0]) (I' := I4) (J' := J4) rfl ?_
              exact h.elim
          · replace h := h.2 h5
            refine Wp.steps 5 (pc' := 432) (lv' := [some (.ref 100), some (.ref 0), some (.ref 57), some (.int 0), some (.long x4), none, some (.int x6), some (.int x7), some (.int x8), some (.long x9), none, some (.int x11)]) (st' := [.int 0]) (I' := I3) (J' := J3) rfl ?_
            exact h.elim
        · replace h := h.2 h4
          refine Wp.steps 5 (pc' := 432) (lv' := [some (.ref 100), some (.ref 0), some (.ref 57), some (.int 0), some (.long x4), none, some (.int x6), some (.int x7), some (.int x8), some (.long x9), none, some (.int x11)]) (st' := [.int 0]) (I' := I2) (J' := J2) rfl ?_
          exact h.elim
      · replace h := h.2 h3
        refine Wp.steps 5 (pc' := 432) (lv' := [some (.ref 100), some (.ref 0), some (.ref 57), some (.int 0), some (.long x4), none, some (.int x6), some (.int x7), some (.int x8), some (.long x9), none, some (.int x11)]) (st' := [.int 0]) (I' := I1) (J' := J1) rfl ?_
        exact h.elim
