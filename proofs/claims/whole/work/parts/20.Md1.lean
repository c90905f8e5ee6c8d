/-! what each way through a method asks (by program): Md_panel_57, Md_lock_57, Md_lid_57, Md_of_57, Md_at_57, Md_count_57, Md_type_57, Md_box_57, Md_slide_57, Md_shut_57, Md_file_57, Md_drift_57, Md_undo_57, Md_seed_57, Md_opens_57, Md_rows_57, Md_reach_57, Md_key_57, Md_files_57 -/
theorem v_Md_panel_57_0 {d : Nat} {Q : Post} {I : I2} {J : J2} {x1 : Int32} {x2 : Int32} (h : CI d Md_in [.long (Int32.toInt64 x1), .long 0, .long 4] I J (fun v1 I1 J1 => (v1 = 0 → Q (some (.int (-1))) I1 J1) ∧ (¬ (v1 = 0) → CI d Md_in [.long (Int32.toInt64 x2), .long 1, .long 3] I1 J1 (fun v2 I2 J2 => (v2 = 0 → Q (some (.int (-1))) I2 J2) ∧ (¬ (v2 = 0) → ((I2 58 0) = 5 → Q (some (.int (-3))) I2 J2) ∧ (¬ ((I2 58 0) = 5) → CV d Md_panelComes [.ref 57, .int x1, .int x2] I2 J2 (fun I3 J3 => Q (some (.int ((I3 58 0) - 1))) I3 J3))))))) : Wp d Md_panel Q 0 [some (.ref 57), some (.int x1), some (.int x2)] [] I J := by
  refine Wp.steps 4 (pc' := 6) (lv' := [some (.ref 57), some (.int x1), some (.int x2)]) (st' := [.long 4, .long 0, .long (Int32.toInt64 x1)]) (I' := I) (J' := J) rfl ?_
  refine Wp.call (M' := Md_in) (as := [.long (Int32.toInt64 x1), .long 0, .long 4]) (rest := []) rfl (CI.use h (fun v1 I1 J1 h => ?_))
  refine Wp.eqs (pc' := 9) (st' := [.int v1]) rfl rfl ?_
  refine Wp.steps 1 (pc' := if v1 = 0 then 24 else 12) (lv' := [some (.ref 57), some (.int x1), some (.int x2)]) (st' := []) (I' := I1) (J' := J1) rfl (Wp.ite (fun h1 => ?_) (fun h1 => ?_))
  · replace h := h.1 h1
    refine Wp.steps 1 (pc' := 25) (lv' := [some (.ref 57), some (.int x1), some (.int x2)]) (st' := [.int (-1)]) (I' := I1) (J' := J1) rfl ?_
    exact Wp.ret rfl h
  · replace h := h.2 h1
    refine Wp.steps 4 (pc' := 18) (lv' := [some (.ref 57), some (.int x1), some (.int x2)]) (st' := [.long 3, .long 1, .long (Int32.toInt64 x2)]) (I' := I1) (J' := J1) rfl ?_
    refine Wp.call (M' := Md_in) (as := [.long (Int32.toInt64 x2), .long 1, .long 3]) (rest := []) rfl (CI.use h (fun v2 I2 J2 h => ?_))
    refine Wp.eqs (pc' := 21) (st' := [.int v2]) rfl rfl ?_
    refine Wp.steps 1 (pc' := if v2 = 0 then 24 else 26) (lv' := [some (.ref 57), some (.int x1), some (.int x2)]) (st' := []) (I' := I2) (J' := J2) rfl (Wp.ite (fun h2 => ?_) (fun h2 => ?_))
    · replace h := h.1 h2
      refine Wp.steps 1 (pc' := 25) (lv' := [some (.ref 57), some (.int x1), some (.int x2)]) (st' := [.int (-1)]) (I' := I2) (J' := J2) rfl ?_
      exact Wp.ret rfl h
    · replace h := h.2 h2
      refine Wp.steps 5 (pc' := 33) (lv' := [some (.ref 57), some (.int x1), some (.int x2)]) (st' := [.int 5, .int (I2 58 0)]) (I' := I2) (J' := J2) rfl ?_
      refine Wp.steps 1 (pc' := if (I2 58 0) = 5 then 36 else 39) (lv' := [some (.ref 57), some (.int x1), some (.int x2)]) (st' := []) (I' := I2) (J' := J2) rfl (Wp.ite (fun h3 => ?_) (fun h3 => ?_))
      · replace h := h.1 h3
        refine Wp.steps 1 (pc' := 38) (lv' := [some (.ref 57), some (.int x1), some (.int x2)]) (st' := [.int (-3)]) (I' := I2) (J' := J2) rfl ?_
        exact Wp.ret rfl h
      · replace h := h.2 h3
        refine Wp.steps 3 (pc' := 42) (lv' := [some (.ref 57), some (.int x1), some (.int x2)]) (st' := [.int x2, .int x1, .ref 57]) (I' := I2) (J' := J2) rfl ?_
        refine Wp.call (M' := Md_panelComes) (as := [.ref 57, .int x1, .int x2]) (rest := []) rfl (CV.use h (fun I3 J3 h => ?_))
        refine Wp.eqs (pc' := 45) (st' := []) rfl rfl ?_
        refine Wp.steps 6 (pc' := 53) (lv' := [some (.ref 57), some (.int x1), some (.int x2)]) (st' := [.int ((I3 58 0) - 1)]) (I' := I3) (J' := J3) rfl ?_
        exact Wp.ret rfl h
theorem v_Md_lock_57_0 {d : Nat} {Q : Post} {I : I2} {J : J2} {x1 : Int32} {x2 : Int32} {x3 : Int32} {x4 : Int32} (h : CI d Md_isPanel [.ref 57, .int x1] I J (fun v1 I1 J1 => (v1 = 0 → Q (some (.int (-1))) I1 J1) ∧ (¬ (v1 = 0) → CI d Md_in [.long (Int32.toInt64 x2), .long 0, .long 2] I1 J1 (fun v2 I2 J2 => (v2 = 0 → Q (some (.int (-1))) I2 J2) ∧ (¬ (v2 = 0) → CI d Md_isPanel [.ref 57, .int x3] I2 J2 (fun v3 I3 J3 => (v3 = 0 → Q (some (.int (-1))) I3 J3) ∧ (¬ (v3 = 0) → (x1 = x3 → Q (some (.int (-1))) I3 J3) ∧ (¬ (x1 = x3) → CI d Md_in [.long (Int32.toInt64 x4), .long 1, .long 15] I3 J3 (fun v4 I4 J4 => (v4 = 0 → Q (some (.int (-1))) I4 J4) ∧ (¬ (v4 = 0) → ((I4 58 1) = 6 → Q (some (.int (-3))) I4 J4) ∧ (¬ ((I4 58 1) = 6) → CV d Md_lockComes [.ref 57, .int x1, .int x2, .int x3, .int x4] I4 J4 (fun I5 J5 => Q (some (.int ((I5 58 1) - 1))) I5 J5)))))))))))) : Wp d Md_lock Q 0 [some (.ref 57), some (.int x1), some (.int x2), some (.int x3), some (.int x4)] [] I J := by
  refine Wp.steps 2 (pc' := 2) (lv' := [some (.ref 57), some (.int x1), some (.int x2), some (.int x3), some (.int x4)]) (st' := [.int x1, .ref 57]) (I' := I) (J' := J) rfl ?_
  refine Wp.call (M' := Md_isPanel) (as := [.ref 57, .int x1]) (rest := []) rfl (CI.use h (fun v1 I1 J1 h => ?_))
  refine Wp.eqs (pc' := 5) (st' := [.int v1]) rfl rfl ?_
  refine Wp.steps 1 (pc' := if v1 = 0 then 46 else 8) (lv' := [some (.ref 57), some (.int x1), some (.int x2), some (.int x3), some (.int x4)]) (st' := []) (I' := I1) (J' := J1) rfl (Wp.ite (fun h1 => ?_) (fun h1 => ?_))
  · replace h := h.1 h1
    refine Wp.steps 1 (pc' := 47) (lv' := [some (.ref 57), some (.int x1), some (.int x2), some (.int x3), some (.int x4)]) (st' := [.int (-1)]) (I' := I1) (J' := J1) rfl ?_
    exact Wp.ret rfl h
  · replace h := h.2 h1
    refine Wp.steps 4 (pc' := 14) (lv' := [some (.ref 57), some (.int x1), some (.int x2), some (.int x3), some (.int x4)]) (st' := [.long 2, .long 0, .long (Int32.toInt64 x2)]) (I' := I1) (J' := J1) rfl ?_
    refine Wp.call (M' := Md_in) (as := [.long (Int32.toInt64 x2), .long 0, .long 2]) (rest := []) rfl (CI.use h (fun v2 I2 J2 h => ?_))
    refine Wp.eqs (pc' := 17) (st' := [.int v2]) rfl rfl ?_
    refine Wp.steps 1 (pc' := if v2 = 0 then 46 else 20) (lv' := [some (.ref 57), some (.int x1), some (.int x2), some (.int x3), some (.int x4)]) (st' := []) (I' := I2) (J' := J2) rfl (Wp.ite (fun h2 => ?_) (fun h2 => ?_))
    · replace h := h.1 h2
      refine Wp.steps 1 (pc' := 47) (lv' := [some (.ref 57), some (.int x1), some (.int x2), some (.int x3), some (.int x4)]) (st' := [.int (-1)]) (I' := I2) (J' := J2) rfl ?_
      exact Wp.ret rfl h
    · replace h := h.2 h2
      refine Wp.steps 2 (pc' := 22) (lv' := [some (.ref 57), some (.int x1), some (.int x2), some (.int x3), some (.int x4)]) (st' := [.int x3, .ref 57]) (I' := I2) (J' := J2) rfl ?_
      refine Wp.call (M' := Md_isPanel) (as := [.ref 57, .int x3]) (rest := []) rfl (CI.use h (fun v3 I3 J3 h => ?_))
      refine Wp.eqs (pc' := 25) (st' := [.int v3]) rfl rfl ?_
      refine Wp.steps 1 (pc' := if v3 = 0 then 46 else 28) (lv' := [some (.ref 57), some (.int x1), some (.int x2), some (.int x3), some (.int x4)]) (st' := []) (I' := I3) (J' := J3) rfl (Wp.ite (fun h3 => ?_) (fun h3 => ?_))
      · replace h := h.1 h3
        refine Wp.steps 1 (pc' := 47) (lv' := [some (.ref 57), some (.int x1), some (.int x2), some (.int x3), some (.int x4)]) (st' := [.int (-1)]) (I' := I3) (J' := J3) rfl ?_
        exact Wp.ret rfl h
      · replace h := h.2 h3
        refine Wp.steps 2 (pc' := 30) (lv' := [some (.ref 57), some (.int x1), some (.int x2), some (.int x3), some (.int x4)]) (st' := [.int x3, .int x1]) (I' := I3) (J' := J3) rfl ?_
        refine Wp.steps 1 (pc' := if x1 = x3 then 46 else 33) (lv' := [some (.ref 57), some (.int x1), some (.int x2), some (.int x3), some (.int x4)]) (st' := []) (I' := I3) (J' := J3) rfl (Wp.ite (fun h4 => ?_) (fun h4 => ?_))
        · replace h := h.1 h4
          refine Wp.steps 1 (pc' := 47) (lv' := [some (.ref 57), some (.int x1), some (.int x2), some (.int x3), some (.int x4)]) (st' := [.int (-1)]) (I' := I3) (J' := J3) rfl ?_
          exact Wp.ret rfl h
        · replace h := h.2 h4
          refine Wp.steps 4 (pc' := 40) (lv' := [some (.ref 57), some (.int x1), some (.int x2), some (.int x3), some (.int x4)]) (st' := [.long 15, .long 1, .long (Int32.toInt64 x4)]) (I' := I3) (J' := J3) rfl ?_
          refine Wp.call (M' := Md_in) (as := [.long (Int32.toInt64 x4), .long 1, .long 15]) (rest := []) rfl (CI.use h (fun v4 I4 J4 h => ?_))
          refine Wp.eqs (pc' := 43) (st' := [.int v4]) rfl rfl ?_
          refine Wp.steps 1 (pc' := if v4 = 0 then 46 else 48) (lv' := [some (.ref 57), some (.int x1), some (.int x2), some (.int x3), some (.int x4)]) (st' := []) (I' := I4) (J' := J4) rfl (Wp.ite (fun h5 => ?_) (fun h5 => ?_))
          · replace h := h.1 h5
            refine Wp.steps 1 (pc' := 47) (lv' := [some (.ref 57), some (.int x1), some (.int x2), some (.int x3), some (.int x4)]) (st' := [.int (-1)]) (I' := I4) (J' := J4) rfl ?_
            exact Wp.ret rfl h
          · replace h := h.2 h5
            refine Wp.steps 5 (pc' := 56) (lv' := [some (.ref 57), some (.int x1), some (.int x2), some (.int x3), some (.int x4)]) (st' := [.int 6, .int (I4 58 1)]) (I' := I4) (J' := J4) rfl ?_
            refine Wp.steps 1 (pc' := if (I4 58 1) = 6 then 59 else 62) (lv' := [some (.ref 57), some (.int x1), some (.int x2), some (.int x3), some (.int x4)]) (st' := []) (I' := I4) (J' := J4) rfl (Wp.ite (fun h6 => ?_) (fun h6 => ?_))
            · replace h := h.1 h6
              refine Wp.steps 1 (pc' := 61) (lv' := [some (.ref 57), some (.int x1), some (.int x2), some (.int x3), some (.int x4)]) (st' := [.int (-3)]) (I' := I4) (J' := J4) rfl ?_
              exact Wp.ret rfl h
            · replace h := h.2 h6
              refine Wp.steps 5 (pc' := 68) (lv' := [some (.ref 57), some (.int x1), some (.int x2), some (.int x3), some (.int x4)]) (st' := [.int x4, .int x3, .int x2, .int x1, .ref 57]) (I' := I4) (J' := J4) rfl ?_
              refine Wp.call (M' := Md_lockComes) (as := [.ref 57, .int x1, .int x2, .int x3, .int x4]) (rest := []) rfl (CV.use h (fun I5 J5 h => ?_))
              refine Wp.eqs (pc' := 71) (st' := []) rfl rfl ?_
              refine Wp.steps 6 (pc' := 79) (lv' := [some (.ref 57), some (.int x1), some (.int x2), some (.int x3), some (.int x4)]) (st' := [.int ((I5 58 1) - 1)]) (I' := I5) (J' := J5) rfl ?_
              exact Wp.ret rfl h
theorem v_Md_lid_57_0 {d : Nat} {Q : Post} {I : I2} {J : J2} {x1 : Int32} (h : CI d Md_isPanel [.ref 57, .int x1] I J (fun v1 I1 J1 => (v1 = 0 → Q (some (.int (-1))) I1 J1) ∧ (¬ (v1 = 0) → Q (some (.int (I1 58 2))) (up2 I1 58 2 x1) J1))) : Wp d Md_lid Q 0 [some (.ref 57), some (.int x1), none] [] I J := by
  refine Wp.steps 2 (pc' := 2) (lv' := [some (.ref 57), some (.int x1), none]) (st' := [.int x1, .ref 57]) (I' := I) (J' := J) rfl ?_
  refine Wp.call (M' := Md_isPanel) (as := [.ref 57, .int x1]) (rest := []) rfl (CI.use h (fun v1 I1 J1 h => ?_))
  refine Wp.eqs (pc' := 5) (st' := [.int v1]) rfl rfl ?_
  refine Wp.steps 1 (pc' := if v1 = 0 then 8 else 10) (lv' := [some (.ref 57), some (.int x1), none]) (st' := []) (I' := I1) (J' := J1) rfl (Wp.ite (fun h1 => ?_) (fun h1 => ?_))
  · replace h := h.1 h1
    refine Wp.steps 1 (pc' := 9) (lv' := [some (.ref 57), some (.int x1), none]) (st' := [.int (-1)]) (I' := I1) (J' := J1) rfl ?_
    exact Wp.ret rfl h
  · replace h := h.2 h1
    refine Wp.steps 11 (pc' := 25) (lv' := [some (.ref 57), some (.int x1), some (.int (I1 58 2))]) (st' := [.int (I1 58 2)]) (I' := (up2 I1 58 2 x1)) (J' := J1) rfl ?_
    exact Wp.ret rfl h
theorem v_Md_of_57_0 {d : Nat} {Q : Post} {I : I2} {J : J2} {x1 : Int32} {x2 : Int32} (h : CI d Md_isPanel [.ref 57, .int x1] I J (fun v1 I1 J1 => (v1 = 0 → Q (some (.int (-1))) I1 J1) ∧ (¬ (v1 = 0) → CI d Md_in [.long (Int32.toInt64 x2), .long 0, .long 4] I1 J1 (fun v2 I2 J2 => (v2 = 0 → Q (some (.int (-1))) I2 J2) ∧ (¬ (v2 = 0) → (x2 = 0 → CI d Md_kind [.ref 57, .int x1] I2 J2 (fun v3 I3 J3 => Q (some (.int v3)) I3 J3)) ∧ (¬ (x2 = 0) → (x2 = 1 → CI d Md_deep [.ref 57, .int x1] I2 J2 (fun v3 I3 J3 => Q (some (.int v3)) I3 J3)) ∧ (¬ (x2 = 1) → (x2 = 2 → CI d Md_placeIn [.int (I2 58 5), .int x1] I2 J2 (fun v3 I3 J3 => Q (some (.int v3)) I3 J3)) ∧ (¬ (x2 = 2) → CI d Md_mayNow [.ref 57, .int x1, .int (x2 - 3)] I2 J2 (fun v3 I3 J3 => Q (some (.int v3)) I3 J3))))))))) : Wp d Md_of Q 0 [some (.ref 57), some (.int x1), some (.int x2)] [] I J := by
  refine Wp.steps 2 (pc' := 2) (lv' := [some (.ref 57), some (.int x1), some (.int x2)]) (st' := [.int x1, .ref 57]) (I' := I) (J' := J) rfl ?_
  refine Wp.call (M' := Md_isPanel) (as := [.ref 57, .int x1]) (rest := []) rfl (CI.use h (fun v1 I1 J1 h => ?_))
  refine Wp.eqs (pc' := 5) (st' := [.int v1]) rfl rfl ?_
  refine Wp.steps 1 (pc' := if v1 = 0 then 20 else 8) (lv' := [some (.ref 57), some (.int x1), some (.int x2)]) (st' := []) (I' := I1) (J' := J1) rfl (Wp.ite (fun h1 => ?_) (fun h1 => ?_))
  · replace h := h.1 h1
    refine Wp.steps 1 (pc' := 21) (lv' := [some (.ref 57), some (.int x1), some (.int x2)]) (st' := [.int (-1)]) (I' := I1) (J' := J1) rfl ?_
    exact Wp.ret rfl h
  · replace h := h.2 h1
    refine Wp.steps 4 (pc' := 14) (lv' := [some (.ref 57), some (.int x1), some (.int x2)]) (st' := [.long 4, .long 0, .long (Int32.toInt64 x2)]) (I' := I1) (J' := J1) rfl ?_
    refine Wp.call (M' := Md_in) (as := [.long (Int32.toInt64 x2), .long 0, .long 4]) (rest := []) rfl (CI.use h (fun v2 I2 J2 h => ?_))
    refine Wp.eqs (pc' := 17) (st' := [.int v2]) rfl rfl ?_
    refine Wp.steps 1 (pc' := if v2 = 0 then 20 else 22) (lv' := [some (.ref 57), some (.int x1), some (.int x2)]) (st' := []) (I' := I2) (J' := J2) rfl (Wp.ite (fun h2 => ?_) (fun h2 => ?_))
    · replace h := h.1 h2
      refine Wp.steps 1 (pc' := 21) (lv' := [some (.ref 57), some (.int x1), some (.int x2)]) (st' := [.int (-1)]) (I' := I2) (J' := J2) rfl ?_
      exact Wp.ret rfl h
    · replace h := h.2 h2
      refine Wp.steps 1 (pc' := 23) (lv' := [some (.ref 57), some (.int x1), some (.int x2)]) (st' := [.int x2]) (I' := I2) (J' := J2) rfl ?_
      refine Wp.steps 1 (pc' := if x2 = 0 then 26 else 34) (lv' := [some (.ref 57), some (.int x1), some (.int x2)]) (st' := []) (I' := I2) (J' := J2) rfl (Wp.ite (fun h3 => ?_) (fun h3 => ?_))
      · replace h := h.1 h3
        refine Wp.steps 2 (pc' := 28) (lv' := [some (.ref 57), some (.int x1), some (.int x2)]) (st' := [.int x1, .ref 57]) (I' := I2) (J' := J2) rfl ?_
        refine Wp.call (M' := Md_kind) (as := [.ref 57, .int x1]) (rest := []) rfl (CI.use h (fun v3 I3 J3 h => ?_))
        refine Wp.eqs (pc' := 31) (st' := [.int v3]) rfl rfl ?_
        refine Wp.steps 1 (pc' := 73) (lv' := [some (.ref 57), some (.int x1), some (.int x2)]) (st' := [.int v3]) (I' := I3) (J' := J3) rfl ?_
        exact Wp.ret rfl h
      · replace h := h.2 h3
        refine Wp.steps 2 (pc' := 36) (lv' := [some (.ref 57), some (.int x1), some (.int x2)]) (st' := [.int 1, .int x2]) (I' := I2) (J' := J2) rfl ?_
        refine Wp.steps 1 (pc' := if x2 = 1 then 39 else 47) (lv' := [some (.ref 57), some (.int x1), some (.int x2)]) (st' := []) (I' := I2) (J' := J2) rfl (Wp.ite (fun h4 => ?_) (fun h4 => ?_))
        · replace h := h.1 h4
          refine Wp.steps 2 (pc' := 41) (lv' := [some (.ref 57), some (.int x1), some (.int x2)]) (st' := [.int x1, .ref 57]) (I' := I2) (J' := J2) rfl ?_
          refine Wp.call (M' := Md_deep) (as := [.ref 57, .int x1]) (rest := []) rfl (CI.use h (fun v3 I3 J3 h => ?_))
          refine Wp.eqs (pc' := 44) (st' := [.int v3]) rfl rfl ?_
          refine Wp.steps 1 (pc' := 73) (lv' := [some (.ref 57), some (.int x1), some (.int x2)]) (st' := [.int v3]) (I' := I3) (J' := J3) rfl ?_
          exact Wp.ret rfl h
        · replace h := h.2 h4
          refine Wp.steps 2 (pc' := 49) (lv' := [some (.ref 57), some (.int x1), some (.int x2)]) (st' := [.int 2, .int x2]) (I' := I2) (J' := J2) rfl ?_
          refine Wp.steps 1 (pc' := if x2 = 2 then 52 else 65) (lv' := [some (.ref 57), some (.int x1), some (.int x2)]) (st' := []) (I' := I2) (J' := J2) rfl (Wp.ite (fun h5 => ?_) (fun h5 => ?_))
          · replace h := h.1 h5
            refine Wp.steps 5 (pc' := 59) (lv' := [some (.ref 57), some (.int x1), some (.int x2)]) (st' := [.int x1, .int (I2 58 5)]) (I' := I2) (J' := J2) rfl ?_
            refine Wp.call (M' := Md_placeIn) (as := [.int (I2 58 5), .int x1]) (rest := []) rfl (CI.use h (fun v3 I3 J3 h => ?_))
            refine Wp.eqs (pc' := 62) (st' := [.int v3]) rfl rfl ?_
            refine Wp.steps 1 (pc' := 73) (lv' := [some (.ref 57), some (.int x1), some (.int x2)]) (st' := [.int v3]) (I' := I3) (J' := J3) rfl ?_
            exact Wp.ret rfl h
          · replace h := h.2 h5
            refine Wp.steps 5 (pc' := 70) (lv' := [some (.ref 57), some (.int x1), some (.int x2)]) (st' := [.int (x2 - 3), .int x1, .ref 57]) (I' := I2) (J' := J2) rfl ?_
            refine Wp.call (M' := Md_mayNow) (as := [.ref 57, .int x1, .int (x2 - 3)]) (rest := []) rfl (CI.use h (fun v3 I3 J3 h => ?_))
            refine Wp.eqs (pc' := 73) (st' := [.int v3]) rfl rfl ?_
            exact Wp.ret rfl h
theorem v_Md_at_57_0 {d : Nat} {Q : Post} {I : I2} {J : J2} {x1 : Int32} {x2 : Int32} (h : CI d Md_isLock [.ref 57, .int x1] I J (fun v1 I1 J1 => (v1 = 0 → Q (some (.int (-1))) I1 J1) ∧ (¬ (v1 = 0) → CI d Md_in [.long (Int32.toInt64 x2), .long 0, .long 5] I1 J1 (fun v2 I2 J2 => (v2 = 0 → Q (some (.int (-1))) I2 J2) ∧ (¬ (v2 = 0) → (x2 < 4 → CI d Md_ofLock [.ref 57, .int x1, .int x2] I2 J2 (fun v3 I3 J3 => Q (some (.int v3)) I3 J3)) ∧ (¬ (x2 < 4) → (x2 = 4 → Q (some (.int ((srI (I2 58 3) x1) &&& 1))) I2 J2) ∧ (¬ (x2 = 4) → CI d Md_ofLock [.ref 57, .int x1, .int 3] I2 J2 (fun v3 I3 J3 => CI d Md_ofLock [.ref 57, .int x1, .int 2] I3 J3 (fun v4 I4 J4 => CI d Md_placeIn [.int (I3 58 5), .int v4] I4 J4 (fun v5 I5 J5 => Q (some (.int ((srI v3 v5) &&& 1))) I5 J5)))))))))) : Wp d Md_at Q 0 [some (.ref 57), some (.int x1), some (.int x2)] [] I J := by
  refine Wp.steps 2 (pc' := 2) (lv' := [some (.ref 57), some (.int x1), some (.int x2)]) (st' := [.int x1, .ref 57]) (I' := I) (J' := J) rfl ?_
  refine Wp.call (M' := Md_isLock) (as := [.ref 57, .int x1]) (rest := []) rfl (CI.use h (fun v1 I1 J1 h => ?_))
  refine Wp.eqs (pc' := 5) (st' := [.int v1]) rfl rfl ?_
  refine Wp.steps 1 (pc' := if v1 = 0 then 20 else 8) (lv' := [some (.ref 57), some (.int x1), some (.int x2)]) (st' := []) (I' := I1) (J' := J1) rfl (Wp.ite (fun h1 => ?_) (fun h1 => ?_))
  · replace h := h.1 h1
    refine Wp.steps 1 (pc' := 21) (lv' := [some (.ref 57), some (.int x1), some (.int x2)]) (st' := [.int (-1)]) (I' := I1) (J' := J1) rfl ?_
    exact Wp.ret rfl h
  · replace h := h.2 h1
    refine Wp.steps 4 (pc' := 14) (lv' := [some (.ref 57), some (.int x1), some (.int x2)]) (st' := [.long 5, .long 0, .long (Int32.toInt64 x2)]) (I' := I1) (J' := J1) rfl ?_
    refine Wp.call (M' := Md_in) (as := [.long (Int32.toInt64 x2), .long 0, .long 5]) (rest := []) rfl (CI.use h (fun v2 I2 J2 h => ?_))
    refine Wp.eqs (pc' := 17) (st' := [.int v2]) rfl rfl ?_
    refine Wp.steps 1 (pc' := if v2 = 0 then 20 else 22) (lv' := [some (.ref 57), some (.int x1), some (.int x2)]) (st' := []) (I' := I2) (J' := J2) rfl (Wp.ite (fun h2 => ?_) (fun h2 => ?_))
    · replace h := h.1 h2
      refine Wp.steps 1 (pc' := 21) (lv' := [some (.ref 57), some (.int x1), some (.int x2)]) (st' := [.int (-1)]) (I' := I2) (J' := J2) rfl ?_
      exact Wp.ret rfl h
    · replace h := h.2 h2
      refine Wp.steps 2 (pc' := 24) (lv' := [some (.ref 57), some (.int x1), some (.int x2)]) (st' := [.int 4, .int x2]) (I' := I2) (J' := J2) rfl ?_
      refine Wp.steps 1 (pc' := if x2 < 4 then 27 else 36) (lv' := [some (.ref 57), some (.int x1), some (.int x2)]) (st' := []) (I' := I2) (J' := J2) rfl (Wp.ite (fun h3 => ?_) (fun h3 => ?_))
      · replace h := h.1 h3
        refine Wp.steps 3 (pc' := 30) (lv' := [some (.ref 57), some (.int x1), some (.int x2)]) (st' := [.int x2, .int x1, .ref 57]) (I' := I2) (J' := J2) rfl ?_
        refine Wp.call (M' := Md_ofLock) (as := [.ref 57, .int x1, .int x2]) (rest := []) rfl (CI.use h (fun v3 I3 J3 h => ?_))
        refine Wp.eqs (pc' := 33) (st' := [.int v3]) rfl rfl ?_
        refine Wp.steps 1 (pc' := 78) (lv' := [some (.ref 57), some (.int x1), some (.int x2)]) (st' := [.int v3]) (I' := I3) (J' := J3) rfl ?_
        exact Wp.ret rfl h
      · replace h := h.2 h3
        refine Wp.steps 2 (pc' := 38) (lv' := [some (.ref 57), some (.int x1), some (.int x2)]) (st' := [.int 4, .int x2]) (I' := I2) (J' := J2) rfl ?_
        refine Wp.steps 1 (pc' := if x2 = 4 then 41 else 54) (lv' := [some (.ref 57), some (.int x1), some (.int x2)]) (st' := []) (I' := I2) (J' := J2) rfl (Wp.ite (fun h4 => ?_) (fun h4 => ?_))
        · replace h := h.1 h4
          refine Wp.steps 9 (pc' := 78) (lv' := [some (.ref 57), some (.int x1), some (.int x2)]) (st' := [.int ((srI (I2 58 3) x1) &&& 1)]) (I' := I2) (J' := J2) rfl ?_
          exact Wp.ret rfl h
        · replace h := h.2 h4
          refine Wp.steps 3 (pc' := 57) (lv' := [some (.ref 57), some (.int x1), some (.int x2)]) (st' := [.int 3, .int x1, .ref 57]) (I' := I2) (J' := J2) rfl ?_
          refine Wp.call (M' := Md_ofLock) (as := [.ref 57, .int x1, .int 3]) (rest := []) rfl (CI.use h (fun v3 I3 J3 h => ?_))
          refine Wp.eqs (pc' := 60) (st' := [.int v3]) rfl rfl ?_
          refine Wp.steps 7 (pc' := 69) (lv' := [some (.ref 57), some (.int x1), some (.int x2)]) (st' := [.int 2, .int x1, .ref 57, .int (I3 58 5), .int v3]) (I' := I3) (J' := J3) rfl ?_
          refine Wp.call (M' := Md_ofLock) (as := [.ref 57, .int x1, .int 2]) (rest := [.int (I3 58 5), .int v3]) rfl (CI.use h (fun v4 I4 J4 h => ?_))
          refine Wp.eqs (pc' := 72) (st' := [.int v4, .int (I3 58 5), .int v3]) rfl rfl ?_
          refine Wp.call (M' := Md_placeIn) (as := [.int (I3 58 5), .int v4]) (rest := [.int v3]) rfl (CI.use h (fun v5 I5 J5 h => ?_))
          refine Wp.eqs (pc' := 75) (st' := [.int v5, .int v3]) rfl rfl ?_
          refine Wp.steps 3 (pc' := 78) (lv' := [some (.ref 57), some (.int x1), some (.int x2)]) (st' := [.int ((srI v3 v5) &&& 1)]) (I' := I5) (J' := J5) rfl ?_
          exact Wp.ret rfl h
theorem v_Md_count_57_0 {d : Nat} {Q : Post} {I : I2} {J : J2} {x1 : Int32} (h : (x1 = 0 → Q (some (.int (I 58 0))) I J) ∧ (x1 = 1 → Q (some (.int (I 58 1))) I J) ∧ (x1 = 2 → Q (some (.int (I 58 2))) I J) ∧ (x1 = 3 → CI d Md_isOpen [.ref 57, .int (I 58 5)] I J (fun v1 I1 J1 => (v1 = 0 → Q (some (.int 0)) I1 J1) ∧ (¬ (v1 = 0) → Q (some (.int 1)) I1 J1))) ∧ (x1 = 4 → CI d Md_outs [.ref 57] I J (fun v1 I1 J1 => Q (some (.int v1)) I1 J1)) ∧ (x1 = 5 → Q (some (.int (I 58 3))) I J) ∧ (x1 = 6 → CI d Md_slides [.ref 57] I J (fun v1 I1 J1 => Q (some (.int v1)) I1 J1)) ∧ (x1 = 7 → Q (some (.int (I 58 5))) I J) ∧ (x1 = 8 → Q (some (.int (I 57 9))) I J) ∧ (¬ (x1 = 0) ∧ ¬ (x1 = 1) ∧ ¬ (x1 = 2) ∧ ¬ (x1 = 3) ∧ ¬ (x1 = 4) ∧ ¬ (x1 = 5) ∧ ¬ (x1 = 6) ∧ ¬ (x1 = 7) ∧ ¬ (x1 = 8) → Q (some (.int (-1))) I J)) : Wp d Md_count Q 0 [some (.ref 57), some (.int x1)] [] I J := by
  refine Wp.steps 1 (pc' := 1) (lv' := [some (.ref 57), some (.int x1)]) (st' := [.int x1]) (I' := I) (J' := J) rfl ?_
  refine Wp.steps 1 (pc' := (if x1 = 0 then 52 else (if x1 = 1 then 59 else (if x1 = 2 then 66 else (if x1 = 3 then 73 else (if x1 = 4 then 92 else (if x1 = 5 then 97 else (if x1 = 6 then 104 else (if x1 = 7 then 109 else (if x1 = 8 then 116 else 121)))))))))) (lv' := [some (.ref 57), some (.int x1)]) (st' := []) (I' := I) (J' := J) rfl ?_
  refine Wp.ite (fun g0 => ?_) (fun g0 => ?_)
  · replace h := h.1 g0
    refine Wp.steps 4 (pc' := 58) (lv' := [some (.ref 57), some (.int x1)]) (st' := [.int (I 58 0)]) (I' := I) (J' := J) rfl ?_
    exact Wp.ret rfl h
  refine Wp.ite (fun g1 => ?_) (fun g1 => ?_)
  · replace h := h.2.1 g1
    refine Wp.steps 4 (pc' := 65) (lv' := [some (.ref 57), some (.int x1)]) (st' := [.int (I 58 1)]) (I' := I) (J' := J) rfl ?_
    exact Wp.ret rfl h
  refine Wp.ite (fun g2 => ?_) (fun g2 => ?_)
  · replace h := h.2.2.1 g2
    refine Wp.steps 4 (pc' := 72) (lv' := [some (.ref 57), some (.int x1)]) (st' := [.int (I 58 2)]) (I' := I) (J' := J) rfl ?_
    exact Wp.ret rfl h
  refine Wp.ite (fun g3 => ?_) (fun g3 => ?_)
  · replace h := h.2.2.2.1 g3
    refine Wp.steps 5 (pc' := 80) (lv' := [some (.ref 57), some (.int x1)]) (st' := [.int (I 58 5), .ref 57]) (I' := I) (J' := J) rfl ?_
    refine Wp.call (M' := Md_isOpen) (as := [.ref 57, .int (I 58 5)]) (rest := []) rfl (CI.use h (fun v1 I1 J1 h => ?_))
    refine Wp.eqs (pc' := 83) (st' := [.int v1]) rfl rfl ?_
    refine Wp.steps 1 (pc' := if v1 = 0 then 90 else 86) (lv' := [some (.ref 57), some (.int x1)]) (st' := []) (I' := I1) (J' := J1) rfl (Wp.ite (fun h1 => ?_) (fun h1 => ?_))
    · replace h := h.1 h1
      refine Wp.steps 1 (pc' := 91) (lv' := [some (.ref 57), some (.int x1)]) (st' := [.int 0]) (I' := I1) (J' := J1) rfl ?_
      exact Wp.ret rfl h
    · replace h := h.2 h1
      refine Wp.steps 2 (pc' := 91) (lv' := [some (.ref 57), some (.int x1)]) (st' := [.int 1]) (I' := I1) (J' := J1) rfl ?_
      exact Wp.ret rfl h
  refine Wp.ite (fun g4 => ?_) (fun g4 => ?_)
  · replace h := h.2.2.2.2.1 g4
    refine Wp.steps 1 (pc' := 93) (lv' := [some (.ref 57), some (.int x1)]) (st' := [.ref 57]) (I' := I) (J' := J) rfl ?_
    refine Wp.call (M' := Md_outs) (as := [.ref 57]) (rest := []) rfl (CI.use h (fun v1 I1 J1 h => ?_))
    refine Wp.eqs (pc' := 96) (st' := [.int v1]) rfl rfl ?_
    exact Wp.ret rfl h
  refine Wp.ite (fun g5 => ?_) (fun g5 => ?_)
  · replace h := h.2.2.2.2.2.1 g5
    refine Wp.steps 4 (pc' := 103) (lv' := [some (.ref 57), some (.int x1)]) (st' := [.int (I 58 3)]) (I' := I) (J' := J) rfl ?_
    exact Wp.ret rfl h
  refine Wp.ite (fun g6 => ?_) (fun g6 => ?_)
  · replace h := h.2.2.2.2.2.2.1 g6
    refine Wp.steps 1 (pc' := 105) (lv' := [some (.ref 57), some (.int x1)]) (st' := [.ref 57]) (I' := I) (J' := J) rfl ?_
    refine Wp.call (M' := Md_slides) (as := [.ref 57]) (rest := []) rfl (CI.use h (fun v1 I1 J1 h => ?_))
    refine Wp.eqs (pc' := 108) (st' := [.int v1]) rfl rfl ?_
    exact Wp.ret rfl h
  refine Wp.ite (fun g7 => ?_) (fun g7 => ?_)
  · replace h := h.2.2.2.2.2.2.2.1 g7
    refine Wp.steps 4 (pc' := 115) (lv' := [some (.ref 57), some (.int x1)]) (st' := [.int (I 58 5)]) (I' := I) (J' := J) rfl ?_
    exact Wp.ret rfl h
  refine Wp.ite (fun g8 => ?_) (fun g8 => ?_)
  · replace h := h.2.2.2.2.2.2.2.2.1 g8
    refine Wp.steps 2 (pc' := 120) (lv' := [some (.ref 57), some (.int x1)]) (st' := [.int (I 57 9)]) (I' := I) (J' := J) rfl ?_
    exact Wp.ret rfl h
  replace h := h.2.2.2.2.2.2.2.2.2 ⟨g0, g1, g2, g3, g4, g5, g6, g7, g8⟩
  refine Wp.steps 1 (pc' := 122) (lv' := [some (.ref 57), some (.int x1)]) (st' := [.int (-1)]) (I' := I) (J' := J) rfl ?_
  exact Wp.ret rfl h
theorem v_Md_type_57_0 {d : Nat} {Q : Post} {I : I2} {J : J2} {x1 : Int32} (h : CI d Md_in [.long (Int32.toInt64 x1), .long 32, .long 126] I J (fun v1 I1 J1 => (v1 = 0 → Q (some (.int (-1))) I1 J1) ∧ (¬ (v1 = 0) → ((I1 57 2) = 90 → Q (some (.int (-3))) I1 J1) ∧ (¬ ((I1 57 2) = 90) → vp_in (I1 57 2) 90 ∧ (Q (some (.int ((I1 57 2) + 1))) (up2 (up2 I1 59 (tN (I1 57 2)) x1) 57 2 ((I1 57 2) + 1)) J1))))) : Wp d Md_type Q 0 [some (.ref 57), some (.int x1)] [] I J := by
  refine Wp.steps 4 (pc' := 8) (lv' := [some (.ref 57), some (.int x1)]) (st' := [.long 126, .long 32, .long (Int32.toInt64 x1)]) (I' := I) (J' := J) rfl ?_
  refine Wp.call (M' := Md_in) (as := [.long (Int32.toInt64 x1), .long 32, .long 126]) (rest := []) rfl (CI.use h (fun v1 I1 J1 h => ?_))
  refine Wp.eqs (pc' := 11) (st' := [.int v1]) rfl rfl ?_
  refine Wp.steps 1 (pc' := if v1 = 0 then 14 else 16) (lv' := [some (.ref 57), some (.int x1)]) (st' := []) (I' := I1) (J' := J1) rfl (Wp.ite (fun h1 => ?_) (fun h1 => ?_))
  · replace h := h.1 h1
    refine Wp.steps 1 (pc' := 15) (lv' := [some (.ref 57), some (.int x1)]) (st' := [.int (-1)]) (I' := I1) (J' := J1) rfl ?_
    exact Wp.ret rfl h
  · replace h := h.2 h1
    refine Wp.steps 3 (pc' := 22) (lv' := [some (.ref 57), some (.int x1)]) (st' := [.int 90, .int (I1 57 2)]) (I' := I1) (J' := J1) rfl ?_
    refine Wp.steps 1 (pc' := if (I1 57 2) = 90 then 25 else 28) (lv' := [some (.ref 57), some (.int x1)]) (st' := []) (I' := I1) (J' := J1) rfl (Wp.ite (fun h2 => ?_) (fun h2 => ?_))
    · replace h := h.1 h2
      refine Wp.steps 1 (pc' := 27) (lv' := [some (.ref 57), some (.int x1)]) (st' := [.int (-3)]) (I' := I1) (J' := J1) rfl ?_
      exact Wp.ret rfl h
    · replace h := h.2 h2
      refine Wp.steps 5 (pc' := 37) (lv' := [some (.ref 57), some (.int x1)]) (st' := [.int x1, .int (I1 57 2), .ref 59]) (I' := I1) (J' := J1) rfl ?_
      refine Wp.iast rfl rfl h.1 ?_
      replace h := h.2
      refine Wp.steps 8 (pc' := 52) (lv' := [some (.ref 57), some (.int x1)]) (st' := [.int ((I1 57 2) + 1)]) (I' := (up2 (up2 I1 59 (tN (I1 57 2)) x1) 57 2 ((I1 57 2) + 1))) (J' := J1) rfl ?_
      exact Wp.ret rfl h
theorem v_Md_box_57_0 {d : Nat} {Q : Post} {I : I2} {J : J2} (h : CI d Md_panelsRead [.ref 57] (up2 (up2 I 57 3 0) 57 4 0) J (fun v1 I1 J1 => ((I1 57 4) = 0 → CI d Md_here [.ref 57] I1 J1 (fun v2 I2 J2 => (v2 = 59 → CI d Md_locksRead [.ref 57, .int v1] (up2 I2 57 3 ((I2 57 3) + 1)) J2 (fun v3 I3 J3 => ((I3 57 4) = 0 → CI d Md_here [.ref 57] I3 J3 (fun v4 I4 J4 => (v4 = 0 → ((0 : Int32) = 0 → ((I4 57 6) < 0 → Wp d Md_box Q 143 [some (.ref 57), some (.int v1), some (.int v3), some (.int 0)] [] (up2 (up2 (up2 (up2 (up2 (up2 (up2 I4 57 4 0) 57 2 0) 58 0 0) 58 1 0) 58 2 0) 58 3 0) 58 5 0) J4) ∧ (¬ ((I4 57 6) < 0) → Wp d Md_box Q 143 [some (.ref 57), some (.int v1), some (.int v3), some (.int 0)] [] (up2 (up2 (up2 (up2 (up2 (up2 (up2 I4 57 4 0) 57 2 0) 58 0 0) 58 1 0) 58 2 (I4 57 6)) 58 3 0) 58 5 0) J4)) ∧ (¬ ((0 : Int32) = 0) → Q (some (.int ((-20) - (I4 57 3)))) (up2 (up2 I4 57 4 0) 57 2 0) J4)) ∧ (¬ (v4 = 0) → Wp d Md_box Q 64 [some (.ref 57), some (.int v1), some (.int v3), none] [.ref 57] I4 J4))) ∧ (¬ ((I3 57 4) = 0) → Wp d Md_box Q 64 [some (.ref 57), some (.int v1), some (.int v3), none] [.ref 57] I3 J3))) ∧ (¬ (v2 = 59) → ((I2 57 4) = 0 → CI d Md_here [.ref 57] I2 J2 (fun v3 I3 J3 => (v3 = 0 → ((0 : Int32) = 0 → ((I3 57 6) < 0 → Wp d Md_box Q 143 [some (.ref 57), some (.int v1), some (.int 0), some (.int 0)] [] (up2 (up2 (up2 (up2 (up2 (up2 (up2 I3 57 4 0) 57 2 0) 58 0 0) 58 1 0) 58 2 0) 58 3 0) 58 5 0) J3) ∧ (¬ ((I3 57 6) < 0) → Wp d Md_box Q 143 [some (.ref 57), some (.int v1), some (.int 0), some (.int 0)] [] (up2 (up2 (up2 (up2 (up2 (up2 (up2 I3 57 4 0) 57 2 0) 58 0 0) 58 1 0) 58 2 (I3 57 6)) 58 3 0) 58 5 0) J3)) ∧ (¬ ((0 : Int32) = 0) → Q (some (.int ((-20) - (I3 57 3)))) (up2 (up2 I3 57 4 0) 57 2 0) J3)) ∧ (¬ (v3 = 0) → Wp d Md_box Q 64 [some (.ref 57), some (.int v1), some (.int 0), none] [.ref 57] I3 J3))) ∧ (¬ ((I2 57 4) = 0) → Wp d Md_box Q 64 [some (.ref 57), some (.int v1), some (.int 0), none] [.ref 57] I2 J2)))) ∧ (¬ ((I1 57 4) = 0) → Wp d Md_box Q 64 [some (.ref 57), some (.int v1), some (.int 0), none] [.ref 57] I1 J1))) : Wp d Md_box Q 0 [some (.ref 57), none, none, none] [] I J := by
  refine Wp.steps 7 (pc' := 11) (lv' := [some (.ref 57), none, none, none]) (st' := [.ref 57]) (I' := (up2 (up2 I 57 3 0) 57 4 0)) (J' := J) rfl ?_
  refine Wp.call (M' := Md_panelsRead) (as := [.ref 57]) (rest := []) rfl (CI.use h (fun v1 I1 J1 h => ?_))
  refine Wp.eqs (pc' := 14) (st' := [.int v1]) rfl rfl ?_
  refine Wp.steps 5 (pc' := 21) (lv' := [some (.ref 57), some (.int v1), some (.int 0), none]) (st' := [.int (I1 57 4)]) (I' := I1) (J' := J1) rfl ?_
  refine Wp.steps 1 (pc' := if (I1 57 4) = 0 then 24 else 49) (lv' := [some (.ref 57), some (.int v1), some (.int 0), none]) (st' := []) (I' := I1) (J' := J1) rfl (Wp.ite (fun h1 => ?_) (fun h1 => ?_))
  · replace h := h.1 h1
    refine Wp.steps 1 (pc' := 25) (lv' := [some (.ref 57), some (.int v1), some (.int 0), none]) (st' := [.ref 57]) (I' := I1) (J' := J1) rfl ?_
    refine Wp.call (M' := Md_here) (as := [.ref 57]) (rest := []) rfl (CI.use h (fun v2 I2 J2 h => ?_))
    refine Wp.eqs (pc' := 28) (st' := [.int v2]) rfl rfl ?_
    refine Wp.steps 1 (pc' := 30) (lv' := [some (.ref 57), some (.int v1), some (.int 0), none]) (st' := [.int 59, .int v2]) (I' := I2) (J' := J2) rfl ?_
    refine Wp.steps 1 (pc' := if v2 = 59 then 33 else 49) (lv' := [some (.ref 57), some (.int v1), some (.int 0), none]) (st' := []) (I' := I2) (J' := J2) rfl (Wp.ite (fun h2 => ?_) (fun h2 => ?_))
    · replace h := h.1 h2
      refine Wp.steps 8 (pc' := 45) (lv' := [some (.ref 57), some (.int v1), some (.int 0), none]) (st' := [.int v1, .ref 57]) (I' := (up2 I2 57 3 ((I2 57 3) + 1))) (J' := J2) rfl ?_
      refine Wp.call (M' := Md_locksRead) (as := [.ref 57, .int v1]) (rest := []) rfl (CI.use h (fun v3 I3 J3 h => ?_))
      refine Wp.eqs (pc' := 48) (st' := [.int v3]) rfl rfl ?_
      refine Wp.steps 4 (pc' := 54) (lv' := [some (.ref 57), some (.int v1), some (.int v3), none]) (st' := [.int (I3 57 4), .ref 57]) (I' := I3) (J' := J3) rfl ?_
      refine Wp.steps 1 (pc' := if (I3 57 4) = 0 then 57 else 64) (lv' := [some (.ref 57), some (.int v1), some (.int v3), none]) (st' := [.ref 57]) (I' := I3) (J' := J3) rfl (Wp.ite (fun h3 => ?_) (fun h3 => ?_))
      · replace h := h.1 h3
        refine Wp.steps 1 (pc' := 58) (lv' := [some (.ref 57), some (.int v1), some (.int v3), none]) (st' := [.ref 57, .ref 57]) (I' := I3) (J' := J3) rfl ?_
        refine Wp.call (M' := Md_here) (as := [.ref 57]) (rest := [.ref 57]) rfl (CI.use h (fun v4 I4 J4 h => ?_))
        refine Wp.eqs (pc' := 61) (st' := [.int v4, .ref 57]) rfl rfl ?_
        refine Wp.steps 1 (pc' := if v4 = 0 then 68 else 64) (lv' := [some (.ref 57), some (.int v1), some (.int v3), none]) (st' := [.ref 57]) (I' := I4) (J' := J4) rfl (Wp.ite (fun h4 => ?_) (fun h4 => ?_))
        · replace h := h.1 h4
          refine Wp.steps 7 (pc' := 81) (lv' := [some (.ref 57), some (.int v1), some (.int v3), none]) (st' := [.int 0]) (I' := (up2 (up2 I4 57 4 0) 57 2 0)) (J' := J4) rfl ?_
          refine Wp.steps 1 (pc' := if (0 : Int32) = 0 then 92 else 84) (lv' := [some (.ref 57), some (.int v1), some (.int v3), none]) (st' := []) (I' := (up2 (up2 I4 57 4 0) 57 2 0)) (J' := J4) rfl (Wp.ite (fun h5 => ?_) (fun h5 => ?_))
          · replace h := h.1 h5
            refine Wp.steps 15 (pc' := 115) (lv' := [some (.ref 57), some (.int v1), some (.int v3), none]) (st' := [.int (I4 57 6), .int 2, .ref 58]) (I' := (up2 (up2 (up2 (up2 I4 57 4 0) 57 2 0) 58 0 0) 58 1 0)) (J' := J4) rfl ?_
            refine Wp.steps 1 (pc' := if (I4 57 6) < 0 then 118 else 122) (lv' := [some (.ref 57), some (.int v1), some (.int v3), none]) (st' := [.int 2, .ref 58]) (I' := (up2 (up2 (up2 (up2 I4 57 4 0) 57 2 0) 58 0 0) 58 1 0)) (J' := J4) rfl (Wp.ite (fun h6 => ?_) (fun h6 => ?_))
            · replace h := h.1 h6
              refine Wp.steps 15 (pc' := 143) (lv' := [some (.ref 57), some (.int v1), some (.int v3), some (.int 0)]) (st' := []) (I' := (up2 (up2 (up2 (up2 (up2 (up2 (up2 I4 57 4 0) 57 2 0) 58 0 0) 58 1 0) 58 2 0) 58 3 0) 58 5 0)) (J' := J4) rfl ?_
              exact h
            · replace h := h.2 h6
              refine Wp.steps 15 (pc' := 143) (lv' := [some (.ref 57), some (.int v1), some (.int v3), some (.int 0)]) (st' := []) (I' := (up2 (up2 (up2 (up2 (up2 (up2 (up2 I4 57 4 0) 57 2 0) 58 0 0) 58 1 0) 58 2 (I4 57 6)) 58 3 0) 58 5 0)) (J' := J4) rfl ?_
              exact h
          · replace h := h.2 h5
            refine Wp.steps 4 (pc' := 91) (lv' := [some (.ref 57), some (.int v1), some (.int v3), none]) (st' := [.int ((-20) - (I4 57 3))]) (I' := (up2 (up2 I4 57 4 0) 57 2 0)) (J' := J4) rfl ?_
            exact Wp.ret rfl h
        · replace h := h.2 h4
          exact h
      · replace h := h.2 h3
        exact h
    · replace h := h.2 h2
      refine Wp.steps 3 (pc' := 54) (lv' := [some (.ref 57), some (.int v1), some (.int 0), none]) (st' := [.int (I2 57 4), .ref 57]) (I' := I2) (J' := J2) rfl ?_
      refine Wp.steps 1 (pc' := if (I2 57 4) = 0 then 57 else 64) (lv' := [some (.ref 57), some (.int v1), some (.int 0), none]) (st' := [.ref 57]) (I' := I2) (J' := J2) rfl (Wp.ite (fun h3 => ?_) (fun h3 => ?_))
      · replace h := h.1 h3
        refine Wp.steps 1 (pc' := 58) (lv' := [some (.ref 57), some (.int v1), some (.int 0), none]) (st' := [.ref 57, .ref 57]) (I' := I2) (J' := J2) rfl ?_
        refine Wp.call (M' := Md_here) (as := [.ref 57]) (rest := [.ref 57]) rfl (CI.use h (fun v3 I3 J3 h => ?_))
        refine Wp.eqs (pc' := 61) (st' := [.int v3, .ref 57]) rfl rfl ?_
        refine Wp.steps 1 (pc' := if v3 = 0 then 68 else 64) (lv' := [some (.ref 57), some (.int v1), some (.int 0), none]) (st' := [.ref 57]) (I' := I3) (J' := J3) rfl (Wp.ite (fun h4 => ?_) (fun h4 => ?_))
        · replace h := h.1 h4
          refine Wp.steps 7 (pc' := 81) (lv' := [some (.ref 57), some (.int v1), some (.int 0), none]) (st' := [.int 0]) (I' := (up2 (up2 I3 57 4 0) 57 2 0)) (J' := J3) rfl ?_
          refine Wp.steps 1 (pc' := if (0 : Int32) = 0 then 92 else 84) (lv' := [some (.ref 57), some (.int v1), some (.int 0), none]) (st' := []) (I' := (up2 (up2 I3 57 4 0) 57 2 0)) (J' := J3) rfl (Wp.ite (fun h5 => ?_) (fun h5 => ?_))
          · replace h := h.1 h5
            refine Wp.steps 15 (pc' := 115) (lv' := [some (.ref 57), some (.int v1), some (.int 0), none]) (st' := [.int (I3 57 6), .int 2, .ref 58]) (I' := (up2 (up2 (up2 (up2 I3 57 4 0) 57 2 0) 58 0 0) 58 1 0)) (J' := J3) rfl ?_
            refine Wp.steps 1 (pc' := if (I3 57 6) < 0 then 118 else 122) (lv' := [some (.ref 57), some (.int v1), some (.int 0), none]) (st' := [.int 2, .ref 58]) (I' := (up2 (up2 (up2 (up2 I3 57 4 0) 57 2 0) 58 0 0) 58 1 0)) (J' := J3) rfl (Wp.ite (fun h6 => ?_) (fun h6 => ?_))
            · replace h := h.1 h6
              refine Wp.steps 15 (pc' := 143) (lv' := [some (.ref 57), some (.int v1), some (.int 0), some (.int 0)]) (st' := []) (I' := (up2 (up2 (up2 (up2 (up2 (up2 (up2 I3 57 4 0) 57 2 0) 58 0 0) 58 1 0) 58 2 0) 58 3 0) 58 5 0)) (J' := J3) rfl ?_
              exact h
            · replace h := h.2 h6
              refine Wp.steps 15 (pc' := 143) (lv' := [some (.ref 57), some (.int v1), some (.int 0), some (.int 0)]) (st' := []) (I' := (up2 (up2 (up2 (up2 (up2 (up2 (up2 I3 57 4 0) 57 2 0) 58 0 0) 58 1 0) 58 2 (I3 57 6)) 58 3 0) 58 5 0)) (J' := J3) rfl ?_
              exact h
          · replace h := h.2 h5
            refine Wp.steps 4 (pc' := 91) (lv' := [some (.ref 57), some (.int v1), some (.int 0), none]) (st' := [.int ((-20) - (I3 57 3))]) (I' := (up2 (up2 I3 57 4 0) 57 2 0)) (J' := J3) rfl ?_
            exact Wp.ret rfl h
        · replace h := h.2 h4
          exact h
      · replace h := h.2 h3
        exact h
  · replace h := h.2 h1
    refine Wp.steps 3 (pc' := 54) (lv' := [some (.ref 57), some (.int v1), some (.int 0), none]) (st' := [.int (I1 57 4), .ref 57]) (I' := I1) (J' := J1) rfl ?_
    refine Wp.steps 1 (pc' := if (I1 57 4) = 0 then 57 else 64) (lv' := [some (.ref 57), some (.int v1), some (.int 0), none]) (st' := [.ref 57]) (I' := I1) (J' := J1) rfl ?_
    rw [if_neg h1]
    exact h
theorem v_Md_box_57_64 {d : Nat} {Q : Post} {I : I2} {J : J2} {x1 : Int32} {x2 : Int32} (h : ((1 : Int32) = 0 → ((I 57 6) < 0 → Wp d Md_box Q 143 [some (.ref 57), some (.int x1), some (.int x2), some (.int 0)] [] (up2 (up2 (up2 (up2 (up2 (up2 (up2 I 57 4 1) 57 2 0) 58 0 0) 58 1 0) 58 2 0) 58 3 0) 58 5 0) J) ∧ (¬ ((I 57 6) < 0) → Wp d Md_box Q 143 [some (.ref 57), some (.int x1), some (.int x2), some (.int 0)] [] (up2 (up2 (up2 (up2 (up2 (up2 (up2 I 57 4 1) 57 2 0) 58 0 0) 58 1 0) 58 2 (I 57 6)) 58 3 0) 58 5 0) J)) ∧ (¬ ((1 : Int32) = 0) → Q (some (.int ((-20) - (I 57 3)))) (up2 (up2 I 57 4 1) 57 2 0) J)) : Wp d Md_box Q 64 [some (.ref 57), some (.int x1), some (.int x2), none] [.ref 57] I J := by
  refine Wp.steps 8 (pc' := 81) (lv' := [some (.ref 57), some (.int x1), some (.int x2), none]) (st' := [.int 1]) (I' := (up2 (up2 I 57 4 1) 57 2 0)) (J' := J) rfl ?_
  refine Wp.steps 1 (pc' := if (1 : Int32) = 0 then 92 else 84) (lv' := [some (.ref 57), some (.int x1), some (.int x2), none]) (st' := []) (I' := (up2 (up2 I 57 4 1) 57 2 0)) (J' := J) rfl (Wp.ite (fun h1 => ?_) (fun h1 => ?_))
  · replace h := h.1 h1
    refine Wp.steps 15 (pc' := 115) (lv' := [some (.ref 57), some (.int x1), some (.int x2), none]) (st' := [.int (I 57 6), .int 2, .ref 58]) (I' := (up2 (up2 (up2 (up2 I 57 4 1) 57 2 0) 58 0 0) 58 1 0)) (J' := J) rfl ?_
    refine Wp.steps 1 (pc' := if (I 57 6) < 0 then 118 else 122) (lv' := [some (.ref 57), some (.int x1), some (.int x2), none]) (st' := [.int 2, .ref 58]) (I' := (up2 (up2 (up2 (up2 I 57 4 1) 57 2 0) 58 0 0) 58 1 0)) (J' := J) rfl (Wp.ite (fun h2 => ?_) (fun h2 => ?_))
    · replace h := h.1 h2
      refine Wp.steps 15 (pc' := 143) (lv' := [some (.ref 57), some (.int x1), some (.int x2), some (.int 0)]) (st' := []) (I' := (up2 (up2 (up2 (up2 (up2 (up2 (up2 I 57 4 1) 57 2 0) 58 0 0) 58 1 0) 58 2 0) 58 3 0) 58 5 0)) (J' := J) rfl ?_
      exact h
    · replace h := h.2 h2
      refine Wp.steps 15 (pc' := 143) (lv' := [some (.ref 57), some (.int x1), some (.int x2), some (.int 0)]) (st' := []) (I' := (up2 (up2 (up2 (up2 (up2 (up2 (up2 I 57 4 1) 57 2 0) 58 0 0) 58 1 0) 58 2 (I 57 6)) 58 3 0) 58 5 0)) (J' := J) rfl ?_
      exact h
  · replace h := h.2 h1
    refine Wp.steps 4 (pc' := 91) (lv' := [some (.ref 57), some (.int x1), some (.int x2), none]) (st' := [.int ((-20) - (I 57 3))]) (I' := (up2 (up2 I 57 4 1) 57 2 0)) (J' := J) rfl ?_
    exact Wp.ret rfl h
theorem v_Md_box_57_143 {d : Nat} {Q : Post} {I : I2} {J : J2} {x1 : Int32} {x2 : Int32} {x3 : Int32} (h : (x3 < x1 → vp_in (2 * x3) 10 ∧ (vp_in ((2 * x3) + 1) 10 ∧ (CV d Md_panelComes [.ref 57, .int (I 60 (tN (2 * x3))), .int (I 60 (tN ((2 * x3) + 1)))] I J (fun I1 J1 => Wp d Md_box Q 143 [some (.ref 57), some (.int x1), some (.int x2), some (.int (x3 + 1))] [] I1 J1)))) ∧ (¬ (x3 < x1) → Wp d Md_box Q 178 [some (.ref 57), some (.int x1), some (.int x2), some (.int 0)] [] I J)) : Wp d Md_box Q 143 [some (.ref 57), some (.int x1), some (.int x2), some (.int x3)] [] I J := by
  refine Wp.steps 2 (pc' := 145) (lv' := [some (.ref 57), some (.int x1), some (.int x2), some (.int x3)]) (st' := [.int x1, .int x3]) (I' := I) (J' := J) rfl ?_
  refine Wp.steps 1 (pc' := if x3 < x1 then 148 else 176) (lv' := [some (.ref 57), some (.int x1), some (.int x2), some (.int x3)]) (st' := []) (I' := I) (J' := J) rfl (Wp.ite (fun h1 => ?_) (fun h1 => ?_))
  · replace h := h.1 h1
    refine Wp.steps 6 (pc' := 156) (lv' := [some (.ref 57), some (.int x1), some (.int x2), some (.int x3)]) (st' := [.int (2 * x3), .ref 60, .ref 57]) (I' := I) (J' := J) rfl ?_
    refine Wp.iald rfl rfl h.1 ?_
    replace h := h.2
    refine Wp.steps 7 (pc' := 166) (lv' := [some (.ref 57), some (.int x1), some (.int x2), some (.int x3)]) (st' := [.int ((2 * x3) + 1), .ref 60, .int (I 60 (tN (2 * x3))), .ref 57]) (I' := I) (J' := J) rfl ?_
    refine Wp.iald rfl rfl h.1 ?_
    replace h := h.2
    refine Wp.call (M' := Md_panelComes) (as := [.ref 57, .int (I 60 (tN (2 * x3))), .int (I 60 (tN ((2 * x3) + 1)))]) (rest := []) rfl (CV.use h (fun I1 J1 h => ?_))
    refine Wp.eqs (pc' := 170) (st' := []) rfl rfl ?_
    refine Wp.steps 2 (pc' := 143) (lv' := [some (.ref 57), some (.int x1), some (.int x2), some (.int (x3 + 1))]) (st' := []) (I' := I1) (J' := J1) rfl ?_
    exact h
  · replace h := h.2 h1
    refine Wp.steps 2 (pc' := 178) (lv' := [some (.ref 57), some (.int x1), some (.int x2), some (.int 0)]) (st' := []) (I' := I) (J' := J) rfl ?_
    exact h
theorem v_Md_box_57_178 {d : Nat} {Q : Post} {I : I2} {J : J2} {x1 : Int32} {x2 : Int32} {x3 : Int32} (h : (x3 < x2 → vp_in (4 * x3) 24 ∧ (vp_in ((4 * x3) + 1) 24 ∧ (vp_in ((4 * x3) + 2) 24 ∧ (vp_in ((4 * x3) + 3) 24 ∧ (CV d Md_lockComes [.ref 57, .int (I 61 (tN (4 * x3))), .int (I 61 (tN ((4 * x3) + 1))), .int (I 61 (tN ((4 * x3) + 2))), .int (I 61 (tN ((4 * x3) + 3)))] I J (fun I1 J1 => Wp d Md_box Q 178 [some (.ref 57), some (.int x1), some (.int x2), some (.int (x3 + 1))] [] I1 J1)))))) ∧ (¬ (x3 < x2) → Q (some (.int x1)) I J)) : Wp d Md_box Q 178 [some (.ref 57), some (.int x1), some (.int x2), some (.int x3)] [] I J := by
  refine Wp.steps 2 (pc' := 180) (lv' := [some (.ref 57), some (.int x1), some (.int x2), some (.int x3)]) (st' := [.int x2, .int x3]) (I' := I) (J' := J) rfl ?_
  refine Wp.steps 1 (pc' := if x3 < x2 then 183 else 231) (lv' := [some (.ref 57), some (.int x1), some (.int x2), some (.int x3)]) (st' := []) (I' := I) (J' := J) rfl (Wp.ite (fun h1 => ?_) (fun h1 => ?_))
  · replace h := h.1 h1
    refine Wp.steps 6 (pc' := 191) (lv' := [some (.ref 57), some (.int x1), some (.int x2), some (.int x3)]) (st' := [.int (4 * x3), .ref 61, .ref 57]) (I' := I) (J' := J) rfl ?_
    refine Wp.iald rfl rfl h.1 ?_
    replace h := h.2
    refine Wp.steps 7 (pc' := 201) (lv' := [some (.ref 57), some (.int x1), some (.int x2), some (.int x3)]) (st' := [.int ((4 * x3) + 1), .ref 61, .int (I 61 (tN (4 * x3))), .ref 57]) (I' := I) (J' := J) rfl ?_
    refine Wp.iald rfl rfl h.1 ?_
    replace h := h.2
    refine Wp.steps 7 (pc' := 211) (lv' := [some (.ref 57), some (.int x1), some (.int x2), some (.int x3)]) (st' := [.int ((4 * x3) + 2), .ref 61, .int (I 61 (tN ((4 * x3) + 1))), .int (I 61 (tN (4 * x3))), .ref 57]) (I' := I) (J' := J) rfl ?_
    refine Wp.iald rfl rfl h.1 ?_
    replace h := h.2
    refine Wp.steps 7 (pc' := 221) (lv' := [some (.ref 57), some (.int x1), some (.int x2), some (.int x3)]) (st' := [.int ((4 * x3) + 3), .ref 61, .int (I 61 (tN ((4 * x3) + 2))), .int (I 61 (tN ((4 * x3) + 1))), .int (I 61 (tN (4 * x3))), .ref 57]) (I' := I) (J' := J) rfl ?_
    refine Wp.iald rfl rfl h.1 ?_
    replace h := h.2
    refine Wp.call (M' := Md_lockComes) (as := [.ref 57, .int (I 61 (tN (4 * x3))), .int (I 61 (tN ((4 * x3) + 1))), .int (I 61 (tN ((4 * x3) + 2))), .int (I 61 (tN ((4 * x3) + 3)))]) (rest := []) rfl (CV.use h (fun I1 J1 h => ?_))
    refine Wp.eqs (pc' := 225) (st' := []) rfl rfl ?_
    refine Wp.steps 2 (pc' := 178) (lv' := [some (.ref 57), some (.int x1), some (.int x2), some (.int (x3 + 1))]) (st' := []) (I' := I1) (J' := J1) rfl ?_
    exact h
  · replace h := h.2 h1
    refine Wp.steps 1 (pc' := 232) (lv' := [some (.ref 57), some (.int x1), some (.int x2), some (.int x3)]) (st' := [.int x1]) (I' := I) (J' := J) rfl ?_
    exact Wp.ret rfl h
theorem v_Md_slide_57_0 {d : Nat} {Q : Post} {I : I2} {J : J2} {x1 : Int32} {x2 : Int32} (h : CI d Md_isPanel [.ref 57, .int x1] I J (fun v1 I1 J1 => (v1 = 0 → Q (some (.int (-1))) I1 J1) ∧ (¬ (v1 = 0) → CI d Md_in [.long (Int32.toInt64 x2), .long 0, .long 1] I1 J1 (fun v2 I2 J2 => (v2 = 0 → Q (some (.int (-1))) I2 J2) ∧ (¬ (v2 = 0) → CI d Md_mayNow [.ref 57, .int x1, .int x2] I2 J2 (fun v3 I3 J3 => (v3 = 0 → Q (some (.int (-2))) I3 J3) ∧ (¬ (v3 = 0) → CV d Md_notes [.ref 57] I3 J3 (fun I4 J4 => CI d Md_behind [.ref 57, .int (I4 58 5), .int x1, .int x2] I4 J4 (fun v5 I5 J5 => Q (some (.int v5)) (up2 I5 58 5 v5) J5))))))))) : Wp d Md_slide Q 0 [some (.ref 57), some (.int x1), some (.int x2)] [] I J := by
  refine Wp.steps 2 (pc' := 2) (lv' := [some (.ref 57), some (.int x1), some (.int x2)]) (st' := [.int x1, .ref 57]) (I' := I) (J' := J) rfl ?_
  refine Wp.call (M' := Md_isPanel) (as := [.ref 57, .int x1]) (rest := []) rfl (CI.use h (fun v1 I1 J1 h => ?_))
  refine Wp.eqs (pc' := 5) (st' := [.int v1]) rfl rfl ?_
  refine Wp.steps 1 (pc' := if v1 = 0 then 18 else 8) (lv' := [some (.ref 57), some (.int x1), some (.int x2)]) (st' := []) (I' := I1) (J' := J1) rfl (Wp.ite (fun h1 => ?_) (fun h1 => ?_))
  · replace h := h.1 h1
    refine Wp.steps 1 (pc' := 19) (lv' := [some (.ref 57), some (.int x1), some (.int x2)]) (st' := [.int (-1)]) (I' := I1) (J' := J1) rfl ?_
    exact Wp.ret rfl h
  · replace h := h.2 h1
    refine Wp.steps 4 (pc' := 12) (lv' := [some (.ref 57), some (.int x1), some (.int x2)]) (st' := [.long 1, .long 0, .long (Int32.toInt64 x2)]) (I' := I1) (J' := J1) rfl ?_
    refine Wp.call (M' := Md_in) (as := [.long (Int32.toInt64 x2), .long 0, .long 1]) (rest := []) rfl (CI.use h (fun v2 I2 J2 h => ?_))
    refine Wp.eqs (pc' := 15) (st' := [.int v2]) rfl rfl ?_
    refine Wp.steps 1 (pc' := if v2 = 0 then 18 else 20) (lv' := [some (.ref 57), some (.int x1), some (.int x2)]) (st' := []) (I' := I2) (J' := J2) rfl (Wp.ite (fun h2 => ?_) (fun h2 => ?_))
    · replace h := h.1 h2
      refine Wp.steps 1 (pc' := 19) (lv' := [some (.ref 57), some (.int x1), some (.int x2)]) (st' := [.int (-1)]) (I' := I2) (J' := J2) rfl ?_
      exact Wp.ret rfl h
    · replace h := h.2 h2
      refine Wp.steps 3 (pc' := 23) (lv' := [some (.ref 57), some (.int x1), some (.int x2)]) (st' := [.int x2, .int x1, .ref 57]) (I' := I2) (J' := J2) rfl ?_
      refine Wp.call (M' := Md_mayNow) (as := [.ref 57, .int x1, .int x2]) (rest := []) rfl (CI.use h (fun v3 I3 J3 h => ?_))
      refine Wp.eqs (pc' := 26) (st' := [.int v3]) rfl rfl ?_
      refine Wp.steps 1 (pc' := if v3 = 0 then 29 else 32) (lv' := [some (.ref 57), some (.int x1), some (.int x2)]) (st' := []) (I' := I3) (J' := J3) rfl (Wp.ite (fun h3 => ?_) (fun h3 => ?_))
      · replace h := h.1 h3
        refine Wp.steps 1 (pc' := 31) (lv' := [some (.ref 57), some (.int x1), some (.int x2)]) (st' := [.int (-2)]) (I' := I3) (J' := J3) rfl ?_
        exact Wp.ret rfl h
      · replace h := h.2 h3
        refine Wp.steps 1 (pc' := 33) (lv' := [some (.ref 57), some (.int x1), some (.int x2)]) (st' := [.ref 57]) (I' := I3) (J' := J3) rfl ?_
        refine Wp.call (M' := Md_notes) (as := [.ref 57]) (rest := []) rfl (CV.use h (fun I4 J4 h => ?_))
        refine Wp.eqs (pc' := 36) (st' := []) rfl rfl ?_
        refine Wp.steps 10 (pc' := 50) (lv' := [some (.ref 57), some (.int x1), some (.int x2)]) (st' := [.int x2, .int x1, .int (I4 58 5), .ref 57, .int 5, .ref 58]) (I' := I4) (J' := J4) rfl ?_
        refine Wp.call (M' := Md_behind) (as := [.ref 57, .int (I4 58 5), .int x1, .int x2]) (rest := [.int 5, .ref 58]) rfl (CI.use h (fun v5 I5 J5 h => ?_))
        refine Wp.eqs (pc' := 53) (st' := [.int v5, .int 5, .ref 58]) rfl rfl ?_
        refine Wp.steps 5 (pc' := 60) (lv' := [some (.ref 57), some (.int x1), some (.int x2)]) (st' := [.int v5]) (I' := (up2 I5 58 5 v5)) (J' := J5) rfl ?_
        exact Wp.ret rfl h
theorem v_Md_shut_57_0 {d : Nat} {Q : Post} {I : I2} {J : J2} (h : CI d Md_outs [.ref 57] I J (fun v1 I1 J1 => CI d Md_many [.int v1] I1 J1 (fun v2 I2 J2 => (v2 = 0 → Q (some (.int (-2))) I2 J2) ∧ (¬ (v2 = 0) → CV d Md_notes [.ref 57] I2 J2 (fun I3 J3 => Q (some (.int v2)) (up2 I3 58 5 0) J3))))) : Wp d Md_shut Q 0 [some (.ref 57), none] [] I J := by
  refine Wp.steps 1 (pc' := 1) (lv' := [some (.ref 57), none]) (st' := [.ref 57]) (I' := I) (J' := J) rfl ?_
  refine Wp.call (M' := Md_outs) (as := [.ref 57]) (rest := []) rfl (CI.use h (fun v1 I1 J1 h => ?_))
  refine Wp.eqs (pc' := 4) (st' := [.int v1]) rfl rfl ?_
  refine Wp.call (M' := Md_many) (as := [.int v1]) (rest := []) rfl (CI.use h (fun v2 I2 J2 h => ?_))
  refine Wp.eqs (pc' := 7) (st' := [.int v2]) rfl rfl ?_
  refine Wp.steps 2 (pc' := 9) (lv' := [some (.ref 57), some (.int v2)]) (st' := [.int v2]) (I' := I2) (J' := J2) rfl ?_
  refine Wp.steps 1 (pc' := if v2 = 0 then 12 else 15) (lv' := [some (.ref 57), some (.int v2)]) (st' := []) (I' := I2) (J' := J2) rfl (Wp.ite (fun h1 => ?_) (fun h1 => ?_))
  · replace h := h.1 h1
    refine Wp.steps 1 (pc' := 14) (lv' := [some (.ref 57), some (.int v2)]) (st' := [.int (-2)]) (I' := I2) (J' := J2) rfl ?_
    exact Wp.ret rfl h
  · replace h := h.2 h1
    refine Wp.steps 1 (pc' := 16) (lv' := [some (.ref 57), some (.int v2)]) (st' := [.ref 57]) (I' := I2) (J' := J2) rfl ?_
    refine Wp.call (M' := Md_notes) (as := [.ref 57]) (rest := []) rfl (CV.use h (fun I3 J3 h => ?_))
    refine Wp.eqs (pc' := 19) (st' := []) rfl rfl ?_
    refine Wp.steps 6 (pc' := 27) (lv' := [some (.ref 57), some (.int v2)]) (st' := [.int v2]) (I' := (up2 I3 58 5 0)) (J' := J3) rfl ?_
    exact Wp.ret rfl h
theorem v_Md_file_57_0 {d : Nat} {Q : Post} {I : I2} {J : J2} {x1 : Int32} (h : CI d Md_isLock [.ref 57, .int x1] I J (fun v1 I1 J1 => (v1 = 0 → Q (some (.int (-1))) I1 J1) ∧ (¬ (v1 = 0) → (((srI (I1 58 3) x1) &&& 1) = 1 → Q (some (.int (-2))) I1 J1) ∧ (¬ (((srI (I1 58 3) x1) &&& 1) = 1) → CV d Md_notes [.ref 57] I1 J1 (fun I2 J2 => Q (some (.int ((I2 58 3) ||| (slI 1 x1)))) (up2 I2 58 3 ((I2 58 3) ||| (slI 1 x1))) J2))))) : Wp d Md_file Q 0 [some (.ref 57), some (.int x1)] [] I J := by
  refine Wp.steps 2 (pc' := 2) (lv' := [some (.ref 57), some (.int x1)]) (st' := [.int x1, .ref 57]) (I' := I) (J' := J) rfl ?_
  refine Wp.call (M' := Md_isLock) (as := [.ref 57, .int x1]) (rest := []) rfl (CI.use h (fun v1 I1 J1 h => ?_))
  refine Wp.eqs (pc' := 5) (st' := [.int v1]) rfl rfl ?_
  refine Wp.steps 1 (pc' := if v1 = 0 then 8 else 10) (lv' := [some (.ref 57), some (.int x1)]) (st' := []) (I' := I1) (J' := J1) rfl (Wp.ite (fun h1 => ?_) (fun h1 => ?_))
  · replace h := h.1 h1
    refine Wp.steps 1 (pc' := 9) (lv' := [some (.ref 57), some (.int x1)]) (st' := [.int (-1)]) (I' := I1) (J' := J1) rfl ?_
    exact Wp.ret rfl h
  · replace h := h.2 h1
    refine Wp.steps 9 (pc' := 21) (lv' := [some (.ref 57), some (.int x1)]) (st' := [.int 1, .int ((srI (I1 58 3) x1) &&& 1)]) (I' := I1) (J' := J1) rfl ?_
    refine Wp.steps 1 (pc' := if ((srI (I1 58 3) x1) &&& 1) = 1 then 24 else 27) (lv' := [some (.ref 57), some (.int x1)]) (st' := []) (I' := I1) (J' := J1) rfl (Wp.ite (fun h2 => ?_) (fun h2 => ?_))
    · replace h := h.1 h2
      refine Wp.steps 1 (pc' := 26) (lv' := [some (.ref 57), some (.int x1)]) (st' := [.int (-2)]) (I' := I1) (J' := J1) rfl ?_
      exact Wp.ret rfl h
    · replace h := h.2 h2
      refine Wp.steps 1 (pc' := 28) (lv' := [some (.ref 57), some (.int x1)]) (st' := [.ref 57]) (I' := I1) (J' := J1) rfl ?_
      refine Wp.call (M' := Md_notes) (as := [.ref 57]) (rest := []) rfl (CV.use h (fun I2 J2 h => ?_))
      refine Wp.eqs (pc' := 31) (st' := []) rfl rfl ?_
      refine Wp.steps 14 (pc' := 49) (lv' := [some (.ref 57), some (.int x1)]) (st' := [.int ((I2 58 3) ||| (slI 1 x1))]) (I' := (up2 I2 58 3 ((I2 58 3) ||| (slI 1 x1)))) (J' := J2) rfl ?_
      exact Wp.ret rfl h
theorem v_Md_drift_57_0 {d : Nat} {Q : Post} {I : I2} {J : J2} {x1 : Int32} (h : CI d Md_in [.long (Int32.toInt64 x1), .long 1, .long 40] I J (fun v1 I1 J1 => (v1 = 0 → Q (some (.int (-1))) I1 J1) ∧ (¬ (v1 = 0) → Wp d Md_drift Q 16 [some (.ref 57), some (.int x1), some (.int 0), none, none] [] I1 J1))) : Wp d Md_drift Q 0 [some (.ref 57), some (.int x1), none, none, none] [] I J := by
  refine Wp.steps 4 (pc' := 6) (lv' := [some (.ref 57), some (.int x1), none, none, none]) (st' := [.long 40, .long 1, .long (Int32.toInt64 x1)]) (I' := I) (J' := J) rfl ?_
  refine Wp.call (M' := Md_in) (as := [.long (Int32.toInt64 x1), .long 1, .long 40]) (rest := []) rfl (CI.use h (fun v1 I1 J1 h => ?_))
  refine Wp.eqs (pc' := 9) (st' := [.int v1]) rfl rfl ?_
  refine Wp.steps 1 (pc' := if v1 = 0 then 12 else 14) (lv' := [some (.ref 57), some (.int x1), none, none, none]) (st' := []) (I' := I1) (J' := J1) rfl (Wp.ite (fun h1 => ?_) (fun h1 => ?_))
  · replace h := h.1 h1
    refine Wp.steps 1 (pc' := 13) (lv' := [some (.ref 57), some (.int x1), none, none, none]) (st' := [.int (-1)]) (I' := I1) (J' := J1) rfl ?_
    exact Wp.ret rfl h
  · replace h := h.2 h1
    refine Wp.steps 2 (pc' := 16) (lv' := [some (.ref 57), some (.int x1), some (.int 0), none, none]) (st' := []) (I' := I1) (J' := J1) rfl ?_
    exact h
theorem v_Md_drift_57_16 {d : Nat} {Q : Post} {I : I2} {J : J2} {x1 : Int32} {x2 : Int32} (h : (x2 < x1 → CV d Md_notes [.ref 57] I J (fun I1 J1 => (0 < (I1 58 0) → ¬ (I1 58 0) = 0 ∧ (CI d Md_mayNow [.ref 57, .int (rmI ((Int64.toInt32 ((((Int32.toInt64 (I1 58 4)) * 1103515245) + 12345) &&& 2147483647)) / 65536) (I1 58 0)), .int (rmI ((Int64.toInt32 ((((Int32.toInt64 (I1 58 4)) * 1103515245) + 12345) &&& 2147483647)) / 128) 2)] (up2 I1 58 4 (Int64.toInt32 ((((Int32.toInt64 (I1 58 4)) * 1103515245) + 12345) &&& 2147483647))) J1 (fun v2 I2 J2 => (v2 = 1 → CI d Md_behind [.ref 57, .int (I2 58 5), .int (rmI ((Int64.toInt32 ((((Int32.toInt64 (I1 58 4)) * 1103515245) + 12345) &&& 2147483647)) / 65536) (I1 58 0)), .int (rmI ((Int64.toInt32 ((((Int32.toInt64 (I1 58 4)) * 1103515245) + 12345) &&& 2147483647)) / 128) 2)] I2 J2 (fun v3 I3 J3 => Wp d Md_drift Q 16 [some (.ref 57), some (.int x1), some (.int (x2 + 1)), none, none] [] (up2 I3 58 5 v3) J3)) ∧ (¬ (v2 = 1) → Wp d Md_drift Q 16 [some (.ref 57), some (.int x1), some (.int (x2 + 1)), none, none] [] (up2 I2 58 5 (I2 58 5)) J2)))) ∧ (¬ (0 < (I1 58 0)) → Wp d Md_drift Q 16 [some (.ref 57), some (.int x1), some (.int (x2 + 1)), none, none] [] (up2 I1 58 4 (Int64.toInt32 ((((Int32.toInt64 (I1 58 4)) * 1103515245) + 12345) &&& 2147483647))) J1))) ∧ (¬ (x2 < x1) → Q (some (.int (I 58 5))) I J)) : Wp d Md_drift Q 16 [some (.ref 57), some (.int x1), some (.int x2), none, none] [] I J := by
  refine Wp.steps 2 (pc' := 18) (lv' := [some (.ref 57), some (.int x1), some (.int x2), none, none]) (st' := [.int x1, .int x2]) (I' := I) (J' := J) rfl ?_
  refine Wp.steps 1 (pc' := if x2 < x1 then 21 else 136) (lv' := [some (.ref 57), some (.int x1), some (.int x2), none, none]) (st' := []) (I' := I) (J' := J) rfl (Wp.ite (fun h1 => ?_) (fun h1 => ?_))
  · replace h := h.1 h1
    refine Wp.steps 1 (pc' := 22) (lv' := [some (.ref 57), some (.int x1), some (.int x2), none, none]) (st' := [.ref 57]) (I' := I) (J' := J) rfl ?_
    refine Wp.call (M' := Md_notes) (as := [.ref 57]) (rest := []) rfl (CV.use h (fun I1 J1 h => ?_))
    refine Wp.eqs (pc' := 25) (st' := []) rfl rfl ?_
    refine Wp.steps 20 (pc' := 57) (lv' := [some (.ref 57), some (.int x1), some (.int x2), none, none]) (st' := [.int (I1 58 0)]) (I' := (up2 I1 58 4 (Int64.toInt32 ((((Int32.toInt64 (I1 58 4)) * 1103515245) + 12345) &&& 2147483647)))) (J' := J1) rfl ?_
    refine Wp.steps 1 (pc' := if 0 < (I1 58 0) then 60 else 130) (lv' := [some (.ref 57), some (.int x1), some (.int x2), none, none]) (st' := []) (I' := (up2 I1 58 4 (Int64.toInt32 ((((Int32.toInt64 (I1 58 4)) * 1103515245) + 12345) &&& 2147483647)))) (J' := J1) rfl (Wp.ite (fun h2 => ?_) (fun h2 => ?_))
    · replace h := h.1 h2
      refine Wp.steps 10 (pc' := 75) (lv' := [some (.ref 57), some (.int x1), some (.int x2), none, none]) (st' := [.int (I1 58 0), .int ((Int64.toInt32 ((((Int32.toInt64 (I1 58 4)) * 1103515245) + 12345) &&& 2147483647)) / 65536)]) (I' := (up2 I1 58 4 (Int64.toInt32 ((((Int32.toInt64 (I1 58 4)) * 1103515245) + 12345) &&& 2147483647)))) (J' := J1) rfl ?_
      refine Wp.irem rfl h.1 ?_
      replace h := h.2
      refine Wp.steps 16 (pc' := 100) (lv' := [some (.ref 57), some (.int x1), some (.int x2), some (.int (rmI ((Int64.toInt32 ((((Int32.toInt64 (I1 58 4)) * 1103515245) + 12345) &&& 2147483647)) / 65536) (I1 58 0))), some (.int (rmI ((Int64.toInt32 ((((Int32.toInt64 (I1 58 4)) * 1103515245) + 12345) &&& 2147483647)) / 128) 2))]) (st' := [.int (rmI ((Int64.toInt32 ((((Int32.toInt64 (I1 58 4)) * 1103515245) + 12345) &&& 2147483647)) / 128) 2), .int (rmI ((Int64.toInt32 ((((Int32.toInt64 (I1 58 4)) * 1103515245) + 12345) &&& 2147483647)) / 65536) (I1 58 0)), .ref 57, .int 5, .ref 58]) (I' := (up2 I1 58 4 (Int64.toInt32 ((((Int32.toInt64 (I1 58 4)) * 1103515245) + 12345) &&& 2147483647)))) (J' := J1) rfl ?_
      refine Wp.call (M' := Md_mayNow) (as := [.ref 57, .int (rmI ((Int64.toInt32 ((((Int32.toInt64 (I1 58 4)) * 1103515245) + 12345) &&& 2147483647)) / 65536) (I1 58 0)), .int (rmI ((Int64.toInt32 ((((Int32.toInt64 (I1 58 4)) * 1103515245) + 12345) &&& 2147483647)) / 128) 2)]) (rest := [.int 5, .ref 58]) rfl (CI.use h (fun v2 I2 J2 h => ?_))
      refine Wp.eqs (pc' := 103) (st' := [.int v2, .int 5, .ref 58]) rfl rfl ?_
      refine Wp.steps 1 (pc' := 104) (lv' := [some (.ref 57), some (.int x1), some (.int x2), some (.int (rmI ((Int64.toInt32 ((((Int32.toInt64 (I1 58 4)) * 1103515245) + 12345) &&& 2147483647)) / 65536) (I1 58 0))), some (.int (rmI ((Int64.toInt32 ((((Int32.toInt64 (I1 58 4)) * 1103515245) + 12345) &&& 2147483647)) / 128) 2))]) (st' := [.int 1, .int v2, .int 5, .ref 58]) (I' := I2) (J' := J2) rfl ?_
      refine Wp.steps 1 (pc' := if v2 = 1 then 107 else 123) (lv' := [some (.ref 57), some (.int x1), some (.int x2), some (.int (rmI ((Int64.toInt32 ((((Int32.toInt64 (I1 58 4)) * 1103515245) + 12345) &&& 2147483647)) / 65536) (I1 58 0))), some (.int (rmI ((Int64.toInt32 ((((Int32.toInt64 (I1 58 4)) * 1103515245) + 12345) &&& 2147483647)) / 128) 2))]) (st' := [.int 5, .ref 58]) (I' := I2) (J' := J2) rfl (Wp.ite (fun h3 => ?_) (fun h3 => ?_))
      · replace h := h.1 h3
        refine Wp.steps 7 (pc' := 117) (lv' := [some (.ref 57), some (.int x1), some (.int x2), some (.int (rmI ((Int64.toInt32 ((((Int32.toInt64 (I1 58 4)) * 1103515245) + 12345) &&& 2147483647)) / 65536) (I1 58 0))), some (.int (rmI ((Int64.toInt32 ((((Int32.toInt64 (I1 58 4)) * 1103515245) + 12345) &&& 2147483647)) / 128) 2))]) (st' := [.int (rmI ((Int64.toInt32 ((((Int32.toInt64 (I1 58 4)) * 1103515245) + 12345) &&& 2147483647)) / 128) 2), .int (rmI ((Int64.toInt32 ((((Int32.toInt64 (I1 58 4)) * 1103515245) + 12345) &&& 2147483647)) / 65536) (I1 58 0)), .int (I2 58 5), .ref 57, .int 5, .ref 58]) (I' := I2) (J' := J2) rfl ?_
        refine Wp.call (M' := Md_behind) (as := [.ref 57, .int (I2 58 5), .int (rmI ((Int64.toInt32 ((((Int32.toInt64 (I1 58 4)) * 1103515245) + 12345) &&& 2147483647)) / 65536) (I1 58 0)), .int (rmI ((Int64.toInt32 ((((Int32.toInt64 (I1 58 4)) * 1103515245) + 12345) &&& 2147483647)) / 128) 2)]) (rest := [.int 5, .ref 58]) rfl (CI.use h (fun v3 I3 J3 h => ?_))
        refine Wp.eqs (pc' := 120) (st' := [.int v3, .int 5, .ref 58]) rfl rfl ?_
        refine Wp.steps 4 (pc' := 16) (lv' := [some (.ref 57), some (.int x1), some (.int (x2 + 1)), some (.int (rmI ((Int64.toInt32 ((((Int32.toInt64 (I1 58 4)) * 1103515245) + 12345) &&& 2147483647)) / 65536) (I1 58 0))), some (.int (rmI ((Int64.toInt32 ((((Int32.toInt64 (I1 58 4)) * 1103515245) + 12345) &&& 2147483647)) / 128) 2))]) (st' := []) (I' := (up2 I3 58 5 v3)) (J' := J3) rfl ?_
        refine Wp.drop [3, 4] (lv' := [some (.ref 57), some (.int x1), some (.int (x2 + 1)), none, none]) rfl ?_
        exact h
      · replace h := h.2 h3
        refine Wp.steps 7 (pc' := 16) (lv' := [some (.ref 57), some (.int x1), some (.int (x2 + 1)), some (.int (rmI ((Int64.toInt32 ((((Int32.toInt64 (I1 58 4)) * 1103515245) + 12345) &&& 2147483647)) / 65536) (I1 58 0))), some (.int (rmI ((Int64.toInt32 ((((Int32.toInt64 (I1 58 4)) * 1103515245) + 12345) &&& 2147483647)) / 128) 2))]) (st' := []) (I' := (up2 I2 58 5 (I2 58 5))) (J' := J2) rfl ?_
        refine Wp.drop [3, 4] (lv' := [some (.ref 57), some (.int x1), some (.int (x2 + 1)), none, none]) rfl ?_
        exact h
    · replace h := h.2 h2
      refine Wp.steps 2 (pc' := 16) (lv' := [some (.ref 57), some (.int x1), some (.int (x2 + 1)), none, none]) (st' := []) (I' := (up2 I1 58 4 (Int64.toInt32 ((((Int32.toInt64 (I1 58 4)) * 1103515245) + 12345) &&& 2147483647)))) (J' := J1) rfl ?_
      exact h
  · replace h := h.2 h1
    refine Wp.steps 4 (pc' := 142) (lv' := [some (.ref 57), some (.int x1), some (.int x2), none, none]) (st' := [.int (I 58 5)]) (I' := I) (J' := J) rfl ?_
    exact Wp.ret rfl h
theorem v_Md_undo_57_0 {d : Nat} {Q : Post} {I : I2} {J : J2} (h : ((I 57 9) = 0 → Q (some (.int (-4))) I J) ∧ (¬ ((I 57 9) = 0) → vp_in (3 * ((I 57 9) - 1)) 24 ∧ (vp_in ((3 * ((I 57 9) - 1)) + 1) 24 ∧ (vp_in ((3 * ((I 57 9) - 1)) + 2) 24 ∧ (Q (some (.int ((I 57 9) - 1))) (up2 (up2 (up2 (up2 I 57 9 ((I 57 9) - 1)) 58 5 (I 62 (tN (3 * ((I 57 9) - 1))))) 58 3 (I 62 (tN ((3 * ((I 57 9) - 1)) + 1)))) 58 4 (I 62 (tN ((3 * ((I 57 9) - 1)) + 2)))) J))))) : Wp d Md_undo Q 0 [some (.ref 57)] [] I J := by
  refine Wp.steps 2 (pc' := 4) (lv' := [some (.ref 57)]) (st' := [.int (I 57 9)]) (I' := I) (J' := J) rfl ?_
  refine Wp.steps 1 (pc' := if (I 57 9) = 0 then 7 else 10) (lv' := [some (.ref 57)]) (st' := []) (I' := I) (J' := J) rfl (Wp.ite (fun h1 => ?_) (fun h1 => ?_))
  · replace h := h.1 h1
    refine Wp.steps 1 (pc' := 9) (lv' := [some (.ref 57)]) (st' := [.int (-4)]) (I' := I) (J' := J) rfl ?_
    exact Wp.ret rfl h
  · replace h := h.2 h1
    refine Wp.steps 15 (pc' := 35) (lv' := [some (.ref 57)]) (st' := [.int (3 * ((I 57 9) - 1)), .ref 62, .int 5, .ref 58]) (I' := (up2 I 57 9 ((I 57 9) - 1))) (J' := J) rfl ?_
    refine Wp.iald rfl rfl h.1 ?_
    replace h := h.2
    refine Wp.steps 12 (pc' := 54) (lv' := [some (.ref 57)]) (st' := [.int ((3 * ((I 57 9) - 1)) + 1), .ref 62, .int 3, .ref 58]) (I' := (up2 (up2 I 57 9 ((I 57 9) - 1)) 58 5 (I 62 (tN (3 * ((I 57 9) - 1)))))) (J' := J) rfl ?_
    refine Wp.iald rfl rfl h.1 ?_
    replace h := h.2
    refine Wp.steps 12 (pc' := 73) (lv' := [some (.ref 57)]) (st' := [.int ((3 * ((I 57 9) - 1)) + 2), .ref 62, .int 4, .ref 58]) (I' := (up2 (up2 (up2 I 57 9 ((I 57 9) - 1)) 58 5 (I 62 (tN (3 * ((I 57 9) - 1))))) 58 3 (I 62 (tN ((3 * ((I 57 9) - 1)) + 1))))) (J' := J) rfl ?_
    refine Wp.iald rfl rfl h.1 ?_
    replace h := h.2
    refine Wp.steps 3 (pc' := 79) (lv' := [some (.ref 57)]) (st' := [.int ((I 57 9) - 1)]) (I' := (up2 (up2 (up2 (up2 I 57 9 ((I 57 9) - 1)) 58 5 (I 62 (tN (3 * ((I 57 9) - 1))))) 58 3 (I 62 (tN ((3 * ((I 57 9) - 1)) + 1)))) 58 4 (I 62 (tN ((3 * ((I 57 9) - 1)) + 2))))) (J' := J) rfl ?_
    exact Wp.ret rfl h
theorem v_Md_seed_57_0 {d : Nat} {Q : Post} {I : I2} {J : J2} {x1 : Int32} (h : (x1 < 0 → Q (some (.int (-1))) I J) ∧ (¬ (x1 < 0) → Q (some (.int (I 58 4))) (up2 I 58 4 x1) J)) : Wp d Md_seed Q 0 [some (.ref 57), some (.int x1), none] [] I J := by
  refine Wp.steps 1 (pc' := 1) (lv' := [some (.ref 57), some (.int x1), none]) (st' := [.int x1]) (I' := I) (J' := J) rfl ?_
  refine Wp.steps 1 (pc' := if x1 < 0 then 4 else 6) (lv' := [some (.ref 57), some (.int x1), none]) (st' := []) (I' := I) (J' := J) rfl (Wp.ite (fun h1 => ?_) (fun h1 => ?_))
  · replace h := h.1 h1
    refine Wp.steps 1 (pc' := 5) (lv' := [some (.ref 57), some (.int x1), none]) (st' := [.int (-1)]) (I' := I) (J' := J) rfl ?_
    exact Wp.ret rfl h
  · replace h := h.2 h1
    refine Wp.steps 11 (pc' := 21) (lv' := [some (.ref 57), some (.int x1), some (.int (I 58 4))]) (st' := [.int (I 58 4)]) (I' := (up2 I 58 4 x1)) (J' := J) rfl ?_
    exact Wp.ret rfl h
theorem v_Md_opens_57_0 {d : Nat} {Q : Post} {I : I2} {J : J2} {x1 : Int32} (h : (x1 < (-1) → Q (some (.int (-1))) I J) ∧ (¬ (x1 < (-1)) → ((I 58 0) = 0 → Q (some (.int (-4))) I J) ∧ (¬ ((I 58 0) = 0) → CV d Md_goesThrough [.ref 57, .int (I 58 3)] I J (fun I1 J1 => CI d Md_firstOpen [.ref 57] I1 J1 (fun v2 I2 J2 => CI d Md_wayTo [.ref 57, .int v2, .int x1] I2 J2 (fun v3 I3 J3 => Q (some (.int v3)) I3 J3)))))) : Wp d Md_opens Q 0 [some (.ref 57), some (.int x1)] [] I J := by
  refine Wp.steps 2 (pc' := 2) (lv' := [some (.ref 57), some (.int x1)]) (st' := [.int (-1), .int x1]) (I' := I) (J' := J) rfl ?_
  refine Wp.steps 1 (pc' := if x1 < (-1) then 5 else 7) (lv' := [some (.ref 57), some (.int x1)]) (st' := []) (I' := I) (J' := J) rfl (Wp.ite (fun h1 => ?_) (fun h1 => ?_))
  · replace h := h.1 h1
    refine Wp.steps 1 (pc' := 6) (lv' := [some (.ref 57), some (.int x1)]) (st' := [.int (-1)]) (I' := I) (J' := J) rfl ?_
    exact Wp.ret rfl h
  · replace h := h.2 h1
    refine Wp.steps 4 (pc' := 13) (lv' := [some (.ref 57), some (.int x1)]) (st' := [.int (I 58 0)]) (I' := I) (J' := J) rfl ?_
    refine Wp.steps 1 (pc' := if (I 58 0) = 0 then 16 else 19) (lv' := [some (.ref 57), some (.int x1)]) (st' := []) (I' := I) (J' := J) rfl (Wp.ite (fun h2 => ?_) (fun h2 => ?_))
    · replace h := h.1 h2
      refine Wp.steps 1 (pc' := 18) (lv' := [some (.ref 57), some (.int x1)]) (st' := [.int (-4)]) (I' := I) (J' := J) rfl ?_
      exact Wp.ret rfl h
    · replace h := h.2 h2
      refine Wp.steps 5 (pc' := 26) (lv' := [some (.ref 57), some (.int x1)]) (st' := [.int (I 58 3), .ref 57]) (I' := I) (J' := J) rfl ?_
      refine Wp.call (M' := Md_goesThrough) (as := [.ref 57, .int (I 58 3)]) (rest := []) rfl (CV.use h (fun I1 J1 h => ?_))
      refine Wp.eqs (pc' := 29) (st' := []) rfl rfl ?_
      refine Wp.steps 2 (pc' := 31) (lv' := [some (.ref 57), some (.int x1)]) (st' := [.ref 57, .ref 57]) (I' := I1) (J' := J1) rfl ?_
      refine Wp.call (M' := Md_firstOpen) (as := [.ref 57]) (rest := [.ref 57]) rfl (CI.use h (fun v2 I2 J2 h => ?_))
      refine Wp.eqs (pc' := 34) (st' := [.int v2, .ref 57]) rfl rfl ?_
      refine Wp.steps 1 (pc' := 35) (lv' := [some (.ref 57), some (.int x1)]) (st' := [.int x1, .int v2, .ref 57]) (I' := I2) (J' := J2) rfl ?_
      refine Wp.call (M' := Md_wayTo) (as := [.ref 57, .int v2, .int x1]) (rest := []) rfl (CI.use h (fun v3 I3 J3 h => ?_))
      refine Wp.eqs (pc' := 38) (st' := [.int v3]) rfl rfl ?_
      exact Wp.ret rfl h
theorem v_Md_rows_57_0 {d : Nat} {Q : Post} {I : I2} {J : J2} (h : ((I 58 0) = 0 → Q (some (.int 0)) I J) ∧ (¬ ((I 58 0) = 0) → CV d Md_goesThrough [.ref 57, .int (I 58 3)] I J (fun I1 J1 => CI d Md_firstOpen [.ref 57] I1 J1 (fun v2 I2 J2 => Wp d Md_rows Q 30 [some (.ref 57), some (.int v2), some (.int 0), some (.int 0)] [] I2 J2)))) : Wp d Md_rows Q 0 [some (.ref 57), none, none, none] [] I J := by
  refine Wp.steps 4 (pc' := 6) (lv' := [some (.ref 57), none, none, none]) (st' := [.int (I 58 0)]) (I' := I) (J' := J) rfl ?_
  refine Wp.steps 1 (pc' := if (I 58 0) = 0 then 9 else 11) (lv' := [some (.ref 57), none, none, none]) (st' := []) (I' := I) (J' := J) rfl (Wp.ite (fun h1 => ?_) (fun h1 => ?_))
  · replace h := h.1 h1
    refine Wp.steps 1 (pc' := 10) (lv' := [some (.ref 57), none, none, none]) (st' := [.int 0]) (I' := I) (J' := J) rfl ?_
    exact Wp.ret rfl h
  · replace h := h.2 h1
    refine Wp.steps 5 (pc' := 18) (lv' := [some (.ref 57), none, none, none]) (st' := [.int (I 58 3), .ref 57]) (I' := I) (J' := J) rfl ?_
    refine Wp.call (M' := Md_goesThrough) (as := [.ref 57, .int (I 58 3)]) (rest := []) rfl (CV.use h (fun I1 J1 h => ?_))
    refine Wp.eqs (pc' := 21) (st' := []) rfl rfl ?_
    refine Wp.steps 1 (pc' := 22) (lv' := [some (.ref 57), none, none, none]) (st' := [.ref 57]) (I' := I1) (J' := J1) rfl ?_
    refine Wp.call (M' := Md_firstOpen) (as := [.ref 57]) (rest := []) rfl (CI.use h (fun v2 I2 J2 h => ?_))
    refine Wp.eqs (pc' := 25) (st' := [.int v2]) rfl rfl ?_
    refine Wp.steps 5 (pc' := 30) (lv' := [some (.ref 57), some (.int v2), some (.int 0), some (.int 0)]) (st' := []) (I' := I2) (J' := J2) rfl ?_
    exact h
theorem v_Md_rows_57_30 {d : Nat} {Q : Post} {I : I2} {J : J2} {x1 : Int32} {x2 : Int32} {x3 : Int32} (h : (x3 < (I 57 11) → (x1 < 0 → Q (some (.int x2)) I J) ∧ (¬ (x1 < 0) → vp_in x3 1024 ∧ (CI d Md_isOpen [.ref 57, .int (I 63 (tN x3))] I J (fun v1 I1 J1 => (v1 = 0 → Wp d Md_rows Q 30 [some (.ref 57), some (.int x1), some (.int x2), some (.int (x3 + 1))] [] I1 J1) ∧ (¬ (v1 = 0) → vp_in x3 1024 ∧ (vp_in (I1 63 (tN x3)) 1024 ∧ (vp_in x1 1024 ∧ (((I1 64 (tN (I1 63 (tN x3)))) = (I1 64 (tN x1)) → vp_in x3 1024 ∧ (vp_in (I1 63 (tN x3)) 1024 ∧ (Wp d Md_rows Q 30 [some (.ref 57), some (.int x1), some (.int (rmI (x2 + (I1 67 (tN (I1 63 (tN x3))))) 1000003)), some (.int (x3 + 1))] [] I1 J1))) ∧ (¬ ((I1 64 (tN (I1 63 (tN x3)))) = (I1 64 (tN x1))) → Wp d Md_rows Q 30 [some (.ref 57), some (.int x1), some (.int x2), some (.int (x3 + 1))] [] I1 J1))))))))) ∧ (¬ (x3 < (I 57 11)) → Q (some (.int x2)) I J)) : Wp d Md_rows Q 30 [some (.ref 57), some (.int x1), some (.int x2), some (.int x3)] [] I J := by
  refine Wp.steps 3 (pc' := 35) (lv' := [some (.ref 57), some (.int x1), some (.int x2), some (.int x3)]) (st' := [.int (I 57 11), .int x3]) (I' := I) (J' := J) rfl ?_
  refine Wp.steps 1 (pc' := if x3 < (I 57 11) then 38 else 102) (lv' := [some (.ref 57), some (.int x1), some (.int x2), some (.int x3)]) (st' := []) (I' := I) (J' := J) rfl (Wp.ite (fun h1 => ?_) (fun h1 => ?_))
  · replace h := h.1 h1
    refine Wp.steps 1 (pc' := 39) (lv' := [some (.ref 57), some (.int x1), some (.int x2), some (.int x3)]) (st' := [.int x1]) (I' := I) (J' := J) rfl ?_
    refine Wp.steps 1 (pc' := if x1 < 0 then 102 else 42) (lv' := [some (.ref 57), some (.int x1), some (.int x2), some (.int x3)]) (st' := []) (I' := I) (J' := J) rfl (Wp.ite (fun h2 => ?_) (fun h2 => ?_))
    · replace h := h.1 h2
      refine Wp.steps 1 (pc' := 103) (lv' := [some (.ref 57), some (.int x1), some (.int x2), some (.int x3)]) (st' := [.int x2]) (I' := I) (J' := J) rfl ?_
      exact Wp.ret rfl h
    · replace h := h.2 h2
      refine Wp.steps 4 (pc' := 48) (lv' := [some (.ref 57), some (.int x1), some (.int x2), some (.int x3)]) (st' := [.int x3, .ref 63, .ref 57]) (I' := I) (J' := J) rfl ?_
      refine Wp.iald rfl rfl h.1 ?_
      replace h := h.2
      refine Wp.call (M' := Md_isOpen) (as := [.ref 57, .int (I 63 (tN x3))]) (rest := []) rfl (CI.use h (fun v1 I1 J1 h => ?_))
      refine Wp.eqs (pc' := 52) (st' := [.int v1]) rfl rfl ?_
      refine Wp.steps 1 (pc' := if v1 = 0 then 94 else 55) (lv' := [some (.ref 57), some (.int x1), some (.int x2), some (.int x3)]) (st' := []) (I' := I1) (J' := J1) rfl (Wp.ite (fun h3 => ?_) (fun h3 => ?_))
      · replace h := h.1 h3
        refine Wp.steps 4 (pc' := 30) (lv' := [some (.ref 57), some (.int x1), some (.int x2), some (.int (x3 + 1))]) (st' := []) (I' := I1) (J' := J1) rfl ?_
        exact h
      · replace h := h.2 h3
        refine Wp.steps 5 (pc' := 64) (lv' := [some (.ref 57), some (.int x1), some (.int x2), some (.int x3)]) (st' := [.int x3, .ref 63, .ref 64]) (I' := I1) (J' := J1) rfl ?_
        refine Wp.iald rfl rfl h.1 ?_
        replace h := h.2
        refine Wp.iald rfl rfl h.1 ?_
        replace h := h.2
        refine Wp.steps 3 (pc' := 71) (lv' := [some (.ref 57), some (.int x1), some (.int x2), some (.int x3)]) (st' := [.int x1, .ref 64, .int (I1 64 (tN (I1 63 (tN x3))))]) (I' := I1) (J' := J1) rfl ?_
        refine Wp.iald rfl rfl h.1 ?_
        replace h := h.2
        refine Wp.steps 1 (pc' := if (I1 64 (tN (I1 63 (tN x3)))) = (I1 64 (tN x1)) then 75 else 94) (lv' := [some (.ref 57), some (.int x1), some (.int x2), some (.int x3)]) (st' := []) (I' := I1) (J' := J1) rfl (Wp.ite (fun h4 => ?_) (fun h4 => ?_))
        · replace h := h.1 h4
          refine Wp.steps 6 (pc' := 85) (lv' := [some (.ref 57), some (.int x1), some (.int x2), some (.int x3)]) (st' := [.int x3, .ref 63, .ref 67, .int x2]) (I' := I1) (J' := J1) rfl ?_
          refine Wp.iald rfl rfl h.1 ?_
          replace h := h.2
          refine Wp.iald rfl rfl h.1 ?_
          replace h := h.2
          refine Wp.steps 7 (pc' := 30) (lv' := [some (.ref 57), some (.int x1), some (.int (rmI (x2 + (I1 67 (tN (I1 63 (tN x3))))) 1000003)), some (.int (x3 + 1))]) (st' := []) (I' := I1) (J' := J1) rfl ?_
          exact h
        · replace h := h.2 h4
          refine Wp.steps 4 (pc' := 30) (lv' := [some (.ref 57), some (.int x1), some (.int x2), some (.int (x3 + 1))]) (st' := []) (I' := I1) (J' := J1) rfl ?_
          exact h
  · replace h := h.2 h1
    refine Wp.steps 1 (pc' := 103) (lv' := [some (.ref 57), some (.int x1), some (.int x2), some (.int x3)]) (st' := [.int x2]) (I' := I) (J' := J) rfl ?_
    exact Wp.ret rfl h
theorem v_Md_reach_57_0 {d : Nat} {Q : Post} {I : I2} {J : J2} {x1 : Int32} (h : CI d Md_in [.long (Int32.toInt64 x1), .long 0, .long 2] I J (fun v1 I1 J1 => (v1 = 0 → Q (some (.int (-1))) I1 J1) ∧ (¬ (v1 = 0) → CV d Md_goesThrough [.ref 57, .int (I1 58 3)] I1 J1 (fun I2 J2 => (x1 = 0 → Q (some (.int (I2 57 11))) I2 J2) ∧ (¬ (x1 = 0) → (x1 = 1 → vp_in ((I2 57 11) - 1) 1024 ∧ (vp_in (I2 63 (tN ((I2 57 11) - 1))) 1024 ∧ (Q (some (.int (I2 64 (tN (I2 63 (tN ((I2 57 11) - 1))))))) I2 J2))) ∧ (¬ (x1 = 1) → CI d Md_dead [.ref 57] I2 J2 (fun v3 I3 J3 => Q (some (.int v3)) I3 J3))))))) : Wp d Md_reach Q 0 [some (.ref 57), some (.int x1)] [] I J := by
  refine Wp.steps 4 (pc' := 6) (lv' := [some (.ref 57), some (.int x1)]) (st' := [.long 2, .long 0, .long (Int32.toInt64 x1)]) (I' := I) (J' := J) rfl ?_
  refine Wp.call (M' := Md_in) (as := [.long (Int32.toInt64 x1), .long 0, .long 2]) (rest := []) rfl (CI.use h (fun v1 I1 J1 h => ?_))
  refine Wp.eqs (pc' := 9) (st' := [.int v1]) rfl rfl ?_
  refine Wp.steps 1 (pc' := if v1 = 0 then 12 else 14) (lv' := [some (.ref 57), some (.int x1)]) (st' := []) (I' := I1) (J' := J1) rfl (Wp.ite (fun h1 => ?_) (fun h1 => ?_))
  · replace h := h.1 h1
    refine Wp.steps 1 (pc' := 13) (lv' := [some (.ref 57), some (.int x1)]) (st' := [.int (-1)]) (I' := I1) (J' := J1) rfl ?_
    exact Wp.ret rfl h
  · replace h := h.2 h1
    refine Wp.steps 5 (pc' := 21) (lv' := [some (.ref 57), some (.int x1)]) (st' := [.int (I1 58 3), .ref 57]) (I' := I1) (J' := J1) rfl ?_
    refine Wp.call (M' := Md_goesThrough) (as := [.ref 57, .int (I1 58 3)]) (rest := []) rfl (CV.use h (fun I2 J2 h => ?_))
    refine Wp.eqs (pc' := 24) (st' := []) rfl rfl ?_
    refine Wp.steps 1 (pc' := 25) (lv' := [some (.ref 57), some (.int x1)]) (st' := [.int x1]) (I' := I2) (J' := J2) rfl ?_
    refine Wp.steps 1 (pc' := if x1 = 0 then 28 else 35) (lv' := [some (.ref 57), some (.int x1)]) (st' := []) (I' := I2) (J' := J2) rfl (Wp.ite (fun h2 => ?_) (fun h2 => ?_))
    · replace h := h.1 h2
      refine Wp.steps 3 (pc' := 63) (lv' := [some (.ref 57), some (.int x1)]) (st' := [.int (I2 57 11)]) (I' := I2) (J' := J2) rfl ?_
      exact Wp.ret rfl h
    · replace h := h.2 h2
      refine Wp.steps 2 (pc' := 37) (lv' := [some (.ref 57), some (.int x1)]) (st' := [.int 1, .int x1]) (I' := I2) (J' := J2) rfl ?_
      refine Wp.steps 1 (pc' := if x1 = 1 then 40 else 59) (lv' := [some (.ref 57), some (.int x1)]) (st' := []) (I' := I2) (J' := J2) rfl (Wp.ite (fun h3 => ?_) (fun h3 => ?_))
      · replace h := h.1 h3
        refine Wp.steps 8 (pc' := 54) (lv' := [some (.ref 57), some (.int x1)]) (st' := [.int ((I2 57 11) - 1), .ref 63, .ref 64]) (I' := I2) (J' := J2) rfl ?_
        refine Wp.iald rfl rfl h.1 ?_
        replace h := h.2
        refine Wp.iald rfl rfl h.1 ?_
        replace h := h.2
        refine Wp.steps 1 (pc' := 63) (lv' := [some (.ref 57), some (.int x1)]) (st' := [.int (I2 64 (tN (I2 63 (tN ((I2 57 11) - 1)))))]) (I' := I2) (J' := J2) rfl ?_
        exact Wp.ret rfl h
      · replace h := h.2 h3
        refine Wp.steps 1 (pc' := 60) (lv' := [some (.ref 57), some (.int x1)]) (st' := [.ref 57]) (I' := I2) (J' := J2) rfl ?_
        refine Wp.call (M' := Md_dead) (as := [.ref 57]) (rest := []) rfl (CI.use h (fun v3 I3 J3 h => ?_))
        refine Wp.eqs (pc' := 63) (st' := [.int v3]) rfl rfl ?_
        exact Wp.ret rfl h
theorem v_Md_key_57_0 {d : Nat} {Q : Post} {I : I2} {J : J2} {x1 : Int32} (h : CI d Md_in [.long (Int32.toInt64 x1), .long 0, .long 1] I J (fun v1 I1 J1 => (v1 = 0 → Q (some (.int (-1))) I1 J1) ∧ (¬ (v1 = 0) → Wp d Md_key Q 22 [some (.ref 57), some (.int x1), some (.int (-4)), some (.int 9999), some (.int 0), none, none] [] I1 J1))) : Wp d Md_key Q 0 [some (.ref 57), some (.int x1), none, none, none, none, none] [] I J := by
  refine Wp.steps 4 (pc' := 4) (lv' := [some (.ref 57), some (.int x1), none, none, none, none, none]) (st' := [.long 1, .long 0, .long (Int32.toInt64 x1)]) (I' := I) (J' := J) rfl ?_
  refine Wp.call (M' := Md_in) (as := [.long (Int32.toInt64 x1), .long 0, .long 1]) (rest := []) rfl (CI.use h (fun v1 I1 J1 h => ?_))
  refine Wp.eqs (pc' := 7) (st' := [.int v1]) rfl rfl ?_
  refine Wp.steps 1 (pc' := if v1 = 0 then 10 else 12) (lv' := [some (.ref 57), some (.int x1), none, none, none, none, none]) (st' := []) (I' := I1) (J' := J1) rfl (Wp.ite (fun h1 => ?_) (fun h1 => ?_))
  · replace h := h.1 h1
    refine Wp.steps 1 (pc' := 11) (lv' := [some (.ref 57), some (.int x1), none, none, none, none, none]) (st' := [.int (-1)]) (I' := I1) (J' := J1) rfl ?_
    exact Wp.ret rfl h
  · replace h := h.2 h1
    refine Wp.steps 6 (pc' := 22) (lv' := [some (.ref 57), some (.int x1), some (.int (-4)), some (.int 9999), some (.int 0), none, none]) (st' := []) (I' := I1) (J' := J1) rfl ?_
    exact h
theorem v_Md_key_57_22 {d : Nat} {Q : Post} {I : I2} {J : J2} {x1 : Int32} {x2 : Int32} {x3 : Int32} {x4 : Int32} (h : (x4 < (I 58 1) → (((srI (I 58 3) x4) &&& 1) = 0 → CV d Md_goesThrough [.ref 57, .int ((I 58 3) ||| (slI 1 x4))] I J (fun I1 J1 => CI d Md_firstOpen [.ref 57] I1 J1 (fun v2 I2 J2 => (v2 < 0 → Wp d Md_key Q 22 [some (.ref 57), some (.int x1), some (.int x2), some (.int x3), some (.int (x4 + 1)), none, none] [] I2 J2) ∧ (¬ (v2 < 0) → vp_in v2 1024 ∧ (((I2 64 (tN v2)) < x3 → vp_in v2 1024 ∧ (Wp d Md_key Q 22 [some (.ref 57), some (.int x1), some (.int x4), some (.int (I2 64 (tN v2))), some (.int (x4 + 1)), none, none] [] I2 J2)) ∧ (¬ ((I2 64 (tN v2)) < x3) → Wp d Md_key Q 22 [some (.ref 57), some (.int x1), some (.int x2), some (.int x3), some (.int (x4 + 1)), none, none] [] I2 J2)))))) ∧ (¬ (((srI (I 58 3) x4) &&& 1) = 0) → Wp d Md_key Q 22 [some (.ref 57), some (.int x1), some (.int x2), some (.int x3), some (.int (x4 + 1)), none, none] [] I J)) ∧ (¬ (x4 < (I 58 1)) → (x1 = 0 → Q (some (.int x2)) I J) ∧ (¬ (x1 = 0) → (x2 = (-4) → Q (some (.int x2)) I J) ∧ (¬ (x2 = (-4)) → Q (some (.int x3)) I J)))) : Wp d Md_key Q 22 [some (.ref 57), some (.int x1), some (.int x2), some (.int x3), some (.int x4), none, none] [] I J := by
  refine Wp.steps 5 (pc' := 30) (lv' := [some (.ref 57), some (.int x1), some (.int x2), some (.int x3), some (.int x4), none, none]) (st' := [.int (I 58 1), .int x4]) (I' := I) (J' := J) rfl ?_
  refine Wp.steps 1 (pc' := if x4 < (I 58 1) then 33 else 126) (lv' := [some (.ref 57), some (.int x1), some (.int x2), some (.int x3), some (.int x4), none, none]) (st' := []) (I' := I) (J' := J) rfl (Wp.ite (fun h1 => ?_) (fun h1 => ?_))
  · replace h := h.1 h1
    refine Wp.steps 8 (pc' := 44) (lv' := [some (.ref 57), some (.int x1), some (.int x2), some (.int x3), some (.int x4), none, none]) (st' := [.int ((srI (I 58 3) x4) &&& 1)]) (I' := I) (J' := J) rfl ?_
    refine Wp.steps 1 (pc' := if ((srI (I 58 3) x4) &&& 1) = 0 then 47 else 120) (lv' := [some (.ref 57), some (.int x1), some (.int x2), some (.int x3), some (.int x4), none, none]) (st' := []) (I' := I) (J' := J) rfl (Wp.ite (fun h2 => ?_) (fun h2 => ?_))
    · replace h := h.1 h2
      refine Wp.steps 9 (pc' := 59) (lv' := [some (.ref 57), some (.int x1), some (.int x2), some (.int x3), some (.int x4), none, none]) (st' := [.int ((I 58 3) ||| (slI 1 x4)), .ref 57]) (I' := I) (J' := J) rfl ?_
      refine Wp.call (M' := Md_goesThrough) (as := [.ref 57, .int ((I 58 3) ||| (slI 1 x4))]) (rest := []) rfl (CV.use h (fun I1 J1 h => ?_))
      refine Wp.eqs (pc' := 62) (st' := []) rfl rfl ?_
      refine Wp.steps 1 (pc' := 63) (lv' := [some (.ref 57), some (.int x1), some (.int x2), some (.int x3), some (.int x4), none, none]) (st' := [.ref 57]) (I' := I1) (J' := J1) rfl ?_
      refine Wp.call (M' := Md_firstOpen) (as := [.ref 57]) (rest := []) rfl (CI.use h (fun v2 I2 J2 h => ?_))
      refine Wp.eqs (pc' := 66) (st' := [.int v2]) rfl rfl ?_
      refine Wp.steps 2 (pc' := 70) (lv' := [some (.ref 57), some (.int x1), some (.int x2), some (.int x3), some (.int x4), some (.int v2), none]) (st' := [.int v2]) (I' := I2) (J' := J2) rfl ?_
      refine Wp.steps 1 (pc' := if v2 < 0 then 88 else 73) (lv' := [some (.ref 57), some (.int x1), some (.int x2), some (.int x3), some (.int x4), some (.int v2), none]) (st' := []) (I' := I2) (J' := J2) rfl (Wp.ite (fun h3 => ?_) (fun h3 => ?_))
      · replace h := h.1 h3
        refine Wp.steps 12 (pc' := 22) (lv' := [some (.ref 57), some (.int x1), some (.int x2), some (.int x3), some (.int (x4 + 1)), some (.int v2), some (.int 0)]) (st' := []) (I' := I2) (J' := J2) rfl ?_
        refine Wp.drop [5, 6] (lv' := [some (.ref 57), some (.int x1), some (.int x2), some (.int x3), some (.int (x4 + 1)), none, none]) rfl ?_
        exact h
      · replace h := h.2 h3
        refine Wp.steps 3 (pc' := 79) (lv' := [some (.ref 57), some (.int x1), some (.int x2), some (.int x3), some (.int x4), some (.int v2), none]) (st' := [.int v2, .ref 64]) (I' := I2) (J' := J2) rfl ?_
        refine Wp.iald rfl rfl h.1 ?_
        replace h := h.2
        refine Wp.steps 1 (pc' := 81) (lv' := [some (.ref 57), some (.int x1), some (.int x2), some (.int x3), some (.int x4), some (.int v2), none]) (st' := [.int x3, .int (I2 64 (tN v2))]) (I' := I2) (J' := J2) rfl ?_
        refine Wp.steps 1 (pc' := if (I2 64 (tN v2)) < x3 then 84 else 88) (lv' := [some (.ref 57), some (.int x1), some (.int x2), some (.int x3), some (.int x4), some (.int v2), none]) (st' := []) (I' := I2) (J' := J2) rfl (Wp.ite (fun h4 => ?_) (fun h4 => ?_))
        · replace h := h.1 h4
          refine Wp.steps 13 (pc' := 114) (lv' := [some (.ref 57), some (.int x1), some (.int x4), some (.int x3), some (.int x4), some (.int v2), some (.int 1)]) (st' := [.int v2, .ref 64]) (I' := I2) (J' := J2) rfl ?_
          refine Wp.iald rfl rfl h.1 ?_
          replace h := h.2
          refine Wp.steps 4 (pc' := 22) (lv' := [some (.ref 57), some (.int x1), some (.int x4), some (.int (I2 64 (tN v2))), some (.int (x4 + 1)), some (.int v2), some (.int 1)]) (st' := []) (I' := I2) (J' := J2) rfl ?_
          refine Wp.drop [5, 6] (lv' := [some (.ref 57), some (.int x1), some (.int x4), some (.int (I2 64 (tN v2))), some (.int (x4 + 1)), none, none]) rfl ?_
          exact h
        · replace h := h.2 h4
          refine Wp.steps 12 (pc' := 22) (lv' := [some (.ref 57), some (.int x1), some (.int x2), some (.int x3), some (.int (x4 + 1)), some (.int v2), some (.int 0)]) (st' := []) (I' := I2) (J' := J2) rfl ?_
          refine Wp.drop [5, 6] (lv' := [some (.ref 57), some (.int x1), some (.int x2), some (.int x3), some (.int (x4 + 1)), none, none]) rfl ?_
          exact h
    · replace h := h.2 h2
      refine Wp.steps 2 (pc' := 22) (lv' := [some (.ref 57), some (.int x1), some (.int x2), some (.int x3), some (.int (x4 + 1)), none, none]) (st' := []) (I' := I) (J' := J) rfl ?_
      exact h
  · replace h := h.2 h1
    refine Wp.steps 1 (pc' := 127) (lv' := [some (.ref 57), some (.int x1), some (.int x2), some (.int x3), some (.int x4), none, none]) (st' := [.int x1]) (I' := I) (J' := J) rfl ?_
    refine Wp.steps 1 (pc' := if x1 = 0 then 136 else 130) (lv' := [some (.ref 57), some (.int x1), some (.int x2), some (.int x3), some (.int x4), none, none]) (st' := []) (I' := I) (J' := J) rfl (Wp.ite (fun h2 => ?_) (fun h2 => ?_))
    · replace h := h.1 h2
      refine Wp.steps 2 (pc' := 141) (lv' := [some (.ref 57), some (.int x1), some (.int x2), some (.int x3), some (.int x4), none, none]) (st' := [.int x2]) (I' := I) (J' := J) rfl ?_
      exact Wp.ret rfl h
    · replace h := h.2 h2
      refine Wp.steps 2 (pc' := 133) (lv' := [some (.ref 57), some (.int x1), some (.int x2), some (.int x3), some (.int x4), none, none]) (st' := [.int (-4), .int x2]) (I' := I) (J' := J) rfl ?_
      refine Wp.steps 1 (pc' := if x2 = (-4) then 136 else 140) (lv' := [some (.ref 57), some (.int x1), some (.int x2), some (.int x3), some (.int x4), none, none]) (st' := []) (I' := I) (J' := J) rfl (Wp.ite (fun h3 => ?_) (fun h3 => ?_))
      · replace h := h.1 h3
        refine Wp.steps 2 (pc' := 141) (lv' := [some (.ref 57), some (.int x1), some (.int x2), some (.int x3), some (.int x4), none, none]) (st' := [.int x2]) (I' := I) (J' := J) rfl ?_
        exact Wp.ret rfl h
      · replace h := h.2 h3
        refine Wp.steps 1 (pc' := 141) (lv' := [some (.ref 57), some (.int x1), some (.int x2), some (.int x3), some (.int x4), none, none]) (st' := [.int x3]) (I' := I) (J' := J) rfl ?_
        exact Wp.ret rfl h
theorem v_Md_files_57_0 {d : Nat} {Q : Post} {I : I2} {J : J2} {x1 : Int32} {x2 : Int32} (h : CI d Md_in [.long (Int32.toInt64 x1), .long 0, .long 60] I J (fun v1 I1 J1 => (v1 = 0 → Q (some (.int (-1))) I1 J1) ∧ (¬ (v1 = 0) → CI d Md_in [.long (Int32.toInt64 x2), .long 0, .long 1] I1 J1 (fun v2 I2 J2 => (v2 = 0 → Q (some (.int (-1))) I2 J2) ∧ (¬ (v2 = 0) → Wp d Md_files Q 30 [some (.ref 57), some (.int x1), some (.int x2), some (.int (-4)), some (.int 0), none] [] I2 J2))))) : Wp d Md_files Q 0 [some (.ref 57), some (.int x1), some (.int x2), none, none, none] [] I J := by
  refine Wp.steps 4 (pc' := 6) (lv' := [some (.ref 57), some (.int x1), some (.int x2), none, none, none]) (st' := [.long 60, .long 0, .long (Int32.toInt64 x1)]) (I' := I) (J' := J) rfl ?_
  refine Wp.call (M' := Md_in) (as := [.long (Int32.toInt64 x1), .long 0, .long 60]) (rest := []) rfl (CI.use h (fun v1 I1 J1 h => ?_))
  refine Wp.eqs (pc' := 9) (st' := [.int v1]) rfl rfl ?_
  refine Wp.steps 1 (pc' := if v1 = 0 then 22 else 12) (lv' := [some (.ref 57), some (.int x1), some (.int x2), none, none, none]) (st' := []) (I' := I1) (J' := J1) rfl (Wp.ite (fun h1 => ?_) (fun h1 => ?_))
  · replace h := h.1 h1
    refine Wp.steps 1 (pc' := 23) (lv' := [some (.ref 57), some (.int x1), some (.int x2), none, none, none]) (st' := [.int (-1)]) (I' := I1) (J' := J1) rfl ?_
    exact Wp.ret rfl h
  · replace h := h.2 h1
    refine Wp.steps 4 (pc' := 16) (lv' := [some (.ref 57), some (.int x1), some (.int x2), none, none, none]) (st' := [.long 1, .long 0, .long (Int32.toInt64 x2)]) (I' := I1) (J' := J1) rfl ?_
    refine Wp.call (M' := Md_in) (as := [.long (Int32.toInt64 x2), .long 0, .long 1]) (rest := []) rfl (CI.use h (fun v2 I2 J2 h => ?_))
    refine Wp.eqs (pc' := 19) (st' := [.int v2]) rfl rfl ?_
    refine Wp.steps 1 (pc' := if v2 = 0 then 22 else 24) (lv' := [some (.ref 57), some (.int x1), some (.int x2), none, none, none]) (st' := []) (I' := I2) (J' := J2) rfl (Wp.ite (fun h2 => ?_) (fun h2 => ?_))
    · replace h := h.1 h2
      refine Wp.steps 1 (pc' := 23) (lv' := [some (.ref 57), some (.int x1), some (.int x2), none, none, none]) (st' := [.int (-1)]) (I' := I2) (J' := J2) rfl ?_
      exact Wp.ret rfl h
    · replace h := h.2 h2
      refine Wp.steps 4 (pc' := 30) (lv' := [some (.ref 57), some (.int x1), some (.int x2), some (.int (-4)), some (.int 0), none]) (st' := []) (I' := I2) (J' := J2) rfl ?_
      exact h
theorem v_Md_files_57_30 {d : Nat} {Q : Post} {I : I2} {J : J2} {x1 : Int32} {x2 : Int32} {x3 : Int32} {x4 : Int32} (h : (x4 < (slI 1 (I 58 1)) → (0 < (I 58 0) → ((x4 &&& (I 58 3)) = 0 → (x3 = (-4) → CV d Md_goesThrough [.ref 57, .int ((I 58 3) ||| x4)] I J (fun I1 J1 => CI d Md_firstOpen [.ref 57] I1 J1 (fun v2 I2 J2 => (v2 < 0 → Wp d Md_files Q 30 [some (.ref 57), some (.int x1), some (.int x2), some (.int x3), some (.int (x4 + 1)), none] [] I2 J2) ∧ (¬ (v2 < 0) → vp_in v2 1024 ∧ ((x1 < (I2 64 (tN v2)) → Wp d Md_files Q 30 [some (.ref 57), some (.int x1), some (.int x2), some (.int x3), some (.int (x4 + 1)), none] [] I2 J2) ∧ (¬ (x1 < (I2 64 (tN v2))) → Wp d Md_files Q 30 [some (.ref 57), some (.int x1), some (.int x2), some (.int x4), some (.int (x4 + 1)), none] [] I2 J2)))))) ∧ (¬ (x3 = (-4)) → CI d Md_many [.int x4] I J (fun v1 I1 J1 => CI d Md_many [.int x3] I1 J1 (fun v2 I2 J2 => (v1 < v2 → CV d Md_goesThrough [.ref 57, .int ((I2 58 3) ||| x4)] I2 J2 (fun I3 J3 => CI d Md_firstOpen [.ref 57] I3 J3 (fun v4 I4 J4 => (v4 < 0 → Wp d Md_files Q 30 [some (.ref 57), some (.int x1), some (.int x2), some (.int x3), some (.int (x4 + 1)), none] [] I4 J4) ∧ (¬ (v4 < 0) → vp_in v4 1024 ∧ ((x1 < (I4 64 (tN v4)) → Wp d Md_files Q 30 [some (.ref 57), some (.int x1), some (.int x2), some (.int x3), some (.int (x4 + 1)), none] [] I4 J4) ∧ (¬ (x1 < (I4 64 (tN v4))) → Wp d Md_files Q 30 [some (.ref 57), some (.int x1), some (.int x2), some (.int x4), some (.int (x4 + 1)), none] [] I4 J4)))))) ∧ (¬ (v1 < v2) → Wp d Md_files Q 30 [some (.ref 57), some (.int x1), some (.int x2), some (.int x3), some (.int (x4 + 1)), none] [] I2 J2))))) ∧ (¬ ((x4 &&& (I 58 3)) = 0) → Wp d Md_files Q 30 [some (.ref 57), some (.int x1), some (.int x2), some (.int x3), some (.int (x4 + 1)), none] [] I J)) ∧ (¬ (0 < (I 58 0)) → (x2 = 1 → Q (some (.int x3)) I J) ∧ (¬ (x2 = 1) → (x3 = (-4) → Q (some (.int x3)) I J) ∧ (¬ (x3 = (-4)) → CI d Md_many [.int x3] I J (fun v1 I1 J1 => Q (some (.int v1)) I1 J1))))) ∧ (¬ (x4 < (slI 1 (I 58 1))) → (x2 = 1 → Q (some (.int x3)) I J) ∧ (¬ (x2 = 1) → (x3 = (-4) → Q (some (.int x3)) I J) ∧ (¬ (x3 = (-4)) → CI d Md_many [.int x3] I J (fun v1 I1 J1 => Q (some (.int v1)) I1 J1))))) : Wp d Md_files Q 30 [some (.ref 57), some (.int x1), some (.int x2), some (.int x3), some (.int x4), none] [] I J := by
  refine Wp.steps 7 (pc' := 40) (lv' := [some (.ref 57), some (.int x1), some (.int x2), some (.int x3), some (.int x4), none]) (st' := [.int (slI 1 (I 58 1)), .int x4]) (I' := I) (J' := J) rfl ?_
  refine Wp.steps 1 (pc' := if x4 < (slI 1 (I 58 1)) then 43 else 130) (lv' := [some (.ref 57), some (.int x1), some (.int x2), some (.int x3), some (.int x4), none]) (st' := []) (I' := I) (J' := J) rfl (Wp.ite (fun h1 => ?_) (fun h1 => ?_))
  · replace h := h.1 h1
    refine Wp.steps 4 (pc' := 49) (lv' := [some (.ref 57), some (.int x1), some (.int x2), some (.int x3), some (.int x4), none]) (st' := [.int (I 58 0)]) (I' := I) (J' := J) rfl ?_
    refine Wp.steps 1 (pc' := if 0 < (I 58 0) then 52 else 130) (lv' := [some (.ref 57), some (.int x1), some (.int x2), some (.int x3), some (.int x4), none]) (st' := []) (I' := I) (J' := J) rfl (Wp.ite (fun h2 => ?_) (fun h2 => ?_))
    · replace h := h.1 h2
      refine Wp.steps 6 (pc' := 61) (lv' := [some (.ref 57), some (.int x1), some (.int x2), some (.int x3), some (.int x4), none]) (st' := [.int (x4 &&& (I 58 3))]) (I' := I) (J' := J) rfl ?_
      refine Wp.steps 1 (pc' := if (x4 &&& (I 58 3)) = 0 then 64 else 124) (lv' := [some (.ref 57), some (.int x1), some (.int x2), some (.int x3), some (.int x4), none]) (st' := []) (I' := I) (J' := J) rfl (Wp.ite (fun h3 => ?_) (fun h3 => ?_))
      · replace h := h.1 h3
        refine Wp.steps 2 (pc' := 67) (lv' := [some (.ref 57), some (.int x1), some (.int x2), some (.int x3), some (.int x4), none]) (st' := [.int (-4), .int x3]) (I' := I) (J' := J) rfl ?_
        refine Wp.steps 1 (pc' := if x3 = (-4) then 82 else 70) (lv' := [some (.ref 57), some (.int x1), some (.int x2), some (.int x3), some (.int x4), none]) (st' := []) (I' := I) (J' := J) rfl (Wp.ite (fun h4 => ?_) (fun h4 => ?_))
        · replace h := h.1 h4
          refine Wp.steps 7 (pc' := 92) (lv' := [some (.ref 57), some (.int x1), some (.int x2), some (.int x3), some (.int x4), none]) (st' := [.int ((I 58 3) ||| x4), .ref 57]) (I' := I) (J' := J) rfl ?_
          refine Wp.call (M' := Md_goesThrough) (as := [.ref 57, .int ((I 58 3) ||| x4)]) (rest := []) rfl (CV.use h (fun I1 J1 h => ?_))
          refine Wp.eqs (pc' := 95) (st' := []) rfl rfl ?_
          refine Wp.steps 1 (pc' := 96) (lv' := [some (.ref 57), some (.int x1), some (.int x2), some (.int x3), some (.int x4), none]) (st' := [.ref 57]) (I' := I1) (J' := J1) rfl ?_
          refine Wp.call (M' := Md_firstOpen) (as := [.ref 57]) (rest := []) rfl (CI.use h (fun v2 I2 J2 h => ?_))
          refine Wp.eqs (pc' := 99) (st' := [.int v2]) rfl rfl ?_
          refine Wp.steps 2 (pc' := 103) (lv' := [some (.ref 57), some (.int x1), some (.int x2), some (.int x3), some (.int x4), some (.int v2)]) (st' := [.int v2]) (I' := I2) (J' := J2) rfl ?_
          refine Wp.steps 1 (pc' := if v2 < 0 then 122 else 106) (lv' := [some (.ref 57), some (.int x1), some (.int x2), some (.int x3), some (.int x4), some (.int v2)]) (st' := []) (I' := I2) (J' := J2) rfl (Wp.ite (fun h5 => ?_) (fun h5 => ?_))
          · replace h := h.1 h5
            refine Wp.steps 4 (pc' := 30) (lv' := [some (.ref 57), some (.int x1), some (.int x2), some (.int x3), some (.int (x4 + 1)), some (.int v2)]) (st' := []) (I' := I2) (J' := J2) rfl ?_
            refine Wp.drop [5] (lv' := [some (.ref 57), some (.int x1), some (.int x2), some (.int x3), some (.int (x4 + 1)), none]) rfl ?_
            exact h
          · replace h := h.2 h5
            refine Wp.steps 3 (pc' := 112) (lv' := [some (.ref 57), some (.int x1), some (.int x2), some (.int x3), some (.int x4), some (.int v2)]) (st' := [.int v2, .ref 64]) (I' := I2) (J' := J2) rfl ?_
            refine Wp.iald rfl rfl h.1 ?_
            replace h := h.2
            refine Wp.steps 1 (pc' := 114) (lv' := [some (.ref 57), some (.int x1), some (.int x2), some (.int x3), some (.int x4), some (.int v2)]) (st' := [.int x1, .int (I2 64 (tN v2))]) (I' := I2) (J' := J2) rfl ?_
            refine Wp.steps 1 (pc' := if x1 < (I2 64 (tN v2)) then 122 else 117) (lv' := [some (.ref 57), some (.int x1), some (.int x2), some (.int x3), some (.int x4), some (.int v2)]) (st' := []) (I' := I2) (J' := J2) rfl (Wp.ite (fun h6 => ?_) (fun h6 => ?_))
            · replace h := h.1 h6
              refine Wp.steps 4 (pc' := 30) (lv' := [some (.ref 57), some (.int x1), some (.int x2), some (.int x3), some (.int (x4 + 1)), some (.int v2)]) (st' := []) (I' := I2) (J' := J2) rfl ?_
              refine Wp.drop [5] (lv' := [some (.ref 57), some (.int x1), some (.int x2), some (.int x3), some (.int (x4 + 1)), none]) rfl ?_
              exact h
            · replace h := h.2 h6
              refine Wp.steps 5 (pc' := 30) (lv' := [some (.ref 57), some (.int x1), some (.int x2), some (.int x4), some (.int (x4 + 1)), some (.int v2)]) (st' := []) (I' := I2) (J' := J2) rfl ?_
              refine Wp.drop [5] (lv' := [some (.ref 57), some (.int x1), some (.int x2), some (.int x4), some (.int (x4 + 1)), none]) rfl ?_
              exact h
        · replace h := h.2 h4
          refine Wp.steps 1 (pc' := 72) (lv' := [some (.ref 57), some (.int x1), some (.int x2), some (.int x3), some (.int x4), none]) (st' := [.int x4]) (I' := I) (J' := J) rfl ?_
          refine Wp.call (M' := Md_many) (as := [.int x4]) (rest := []) rfl (CI.use h (fun v1 I1 J1 h => ?_))
          refine Wp.eqs (pc' := 75) (st' := [.int v1]) rfl rfl ?_
          refine Wp.steps 1 (pc' := 76) (lv' := [some (.ref 57), some (.int x1), some (.int x2), some (.int x3), some (.int x4), none]) (st' := [.int x3, .int v1]) (I' := I1) (J' := J1) rfl ?_
          refine Wp.call (M' := Md_many) (as := [.int x3]) (rest := [.int v1]) rfl (CI.use h (fun v2 I2 J2 h => ?_))
          refine Wp.eqs (pc' := 79) (st' := [.int v2, .int v1]) rfl rfl ?_
          refine Wp.steps 1 (pc' := if v1 < v2 then 82 else 124) (lv' := [some (.ref 57), some (.int x1), some (.int x2), some (.int x3), some (.int x4), none]) (st' := []) (I' := I2) (J' := J2) rfl (Wp.ite (fun h5 => ?_) (fun h5 => ?_))
          · replace h := h.1 h5
            refine Wp.steps 7 (pc' := 92) (lv' := [some (.ref 57), some (.int x1), some (.int x2), some (.int x3), some (.int x4), none]) (st' := [.int ((I2 58 3) ||| x4), .ref 57]) (I' := I2) (J' := J2) rfl ?_
            refine Wp.call (M' := Md_goesThrough) (as := [.ref 57, .int ((I2 58 3) ||| x4)]) (rest := []) rfl (CV.use h (fun I3 J3 h => ?_))
            refine Wp.eqs (pc' := 95) (st' := []) rfl rfl ?_
            refine Wp.steps 1 (pc' := 96) (lv' := [some (.ref 57), some (.int x1), some (.int x2), some (.int x3), some (.int x4), none]) (st' := [.ref 57]) (I' := I3) (J' := J3) rfl ?_
            refine Wp.call (M' := Md_firstOpen) (as := [.ref 57]) (rest := []) rfl (CI.use h (fun v4 I4 J4 h => ?_))
            refine Wp.eqs (pc' := 99) (st' := [.int v4]) rfl rfl ?_
            refine Wp.steps 2 (pc' := 103) (lv' := [some (.ref 57), some (.int x1), some (.int x2), some (.int x3), some (.int x4), some (.int v4)]) (st' := [.int v4]) (I' := I4) (J' := J4) rfl ?_
            refine Wp.steps 1 (pc' := if v4 < 0 then 122 else 106) (lv' := [some (.ref 57), some (.int x1), some (.int x2), some (.int x3), some (.int x4), some (.int v4)]) (st' := []) (I' := I4) (J' := J4) rfl (Wp.ite (fun h6 => ?_) (fun h6 => ?_))
            · replace h := h.1 h6
              refine Wp.steps 4 (pc' := 30) (lv' := [some (.ref 57), some (.int x1), some (.int x2), some (.int x3), some (.int (x4 + 1)), some (.int v4)]) (st' := []) (I' := I4) (J' := J4) rfl ?_
              refine Wp.drop [5] (lv' := [some (.ref 57), some (.int x1), some (.int x2), some (.int x3), some (.int (x4 + 1)), none]) rfl ?_
              exact h
            · replace h := h.2 h6
              refine Wp.steps 3 (pc' := 112) (lv' := [some (.ref 57), some (.int x1), some (.int x2), some (.int x3), some (.int x4), some (.int v4)]) (st' := [.int v4, .ref 64]) (I' := I4) (J' := J4) rfl ?_
              refine Wp.iald rfl rfl h.1 ?_
              replace h := h.2
              refine Wp.steps 1 (pc' := 114) (lv' := [some (.ref 57), some (.int x1), some (.int x2), some (.int x3), some (.int x4), some (.int v4)]) (st' := [.int x1, .int (I4 64 (tN v4))]) (I' := I4) (J' := J4) rfl ?_
              refine Wp.steps 1 (pc' := if x1 < (I4 64 (tN v4)) then 122 else 117) (lv' := [some (.ref 57), some (.int x1), some (.int x2), some (.int x3), some (.int x4), some (.int v4)]) (st' := []) (I' := I4) (J' := J4) rfl (Wp.ite (fun h7 => ?_) (fun h7 => ?_))
              · replace h := h.1 h7
                refine Wp.steps 4 (pc' := 30) (lv' := [some (.ref 57), some (.int x1), some (.int x2), some (.int x3), some (.int (x4 + 1)), some (.int v4)]) (st' := []) (I' := I4) (J' := J4) rfl ?_
                refine Wp.drop [5] (lv' := [some (.ref 57), some (.int x1), some (.int x2), some (.int x3), some (.int (x4 + 1)), none]) rfl ?_
                exact h
              · replace h := h.2 h7
                refine Wp.steps 5 (pc' := 30) (lv' := [some (.ref 57), some (.int x1), some (.int x2), some (.int x4), some (.int (x4 + 1)), some (.int v4)]) (st' := []) (I' := I4) (J' := J4) rfl ?_
                refine Wp.drop [5] (lv' := [some (.ref 57), some (.int x1), some (.int x2), some (.int x4), some (.int (x4 + 1)), none]) rfl ?_
                exact h
          · replace h := h.2 h5
            refine Wp.steps 2 (pc' := 30) (lv' := [some (.ref 57), some (.int x1), some (.int x2), some (.int x3), some (.int (x4 + 1)), none]) (st' := []) (I' := I2) (J' := J2) rfl ?_
            exact h
      · replace h := h.2 h3
        refine Wp.steps 2 (pc' := 30) (lv' := [some (.ref 57), some (.int x1), some (.int x2), some (.int x3), some (.int (x4 + 1)), none]) (st' := []) (I' := I) (J' := J) rfl ?_
        exact h
    · replace h := h.2 h2
      refine Wp.steps 2 (pc' := 132) (lv' := [some (.ref 57), some (.int x1), some (.int x2), some (.int x3), some (.int x4), none]) (st' := [.int 1, .int x2]) (I' := I) (J' := J) rfl ?_
      refine Wp.steps 1 (pc' := if x2 = 1 then 141 else 135) (lv' := [some (.ref 57), some (.int x1), some (.int x2), some (.int x3), some (.int x4), none]) (st' := []) (I' := I) (J' := J) rfl (Wp.ite (fun h3 => ?_) (fun h3 => ?_))
      · replace h := h.1 h3
        refine Wp.steps 2 (pc' := 149) (lv' := [some (.ref 57), some (.int x1), some (.int x2), some (.int x3), some (.int x4), none]) (st' := [.int x3]) (I' := I) (J' := J) rfl ?_
        exact Wp.ret rfl h
      · replace h := h.2 h3
        refine Wp.steps 2 (pc' := 138) (lv' := [some (.ref 57), some (.int x1), some (.int x2), some (.int x3), some (.int x4), none]) (st' := [.int (-4), .int x3]) (I' := I) (J' := J) rfl ?_
        refine Wp.steps 1 (pc' := if x3 = (-4) then 141 else 145) (lv' := [some (.ref 57), some (.int x1), some (.int x2), some (.int x3), some (.int x4), none]) (st' := []) (I' := I) (J' := J) rfl (Wp.ite (fun h4 => ?_) (fun h4 => ?_))
        · replace h := h.1 h4
          refine Wp.steps 2 (pc' := 149) (lv' := [some (.ref 57), some (.int x1), some (.int x2), some (.int x3), some (.int x4), none]) (st' := [.int x3]) (I' := I) (J' := J) rfl ?_
          exact Wp.ret rfl h
        · replace h := h.2 h4
          refine Wp.steps 1 (pc' := 146) (lv' := [some (.ref 57), some (.int x1), some (.int x2), some (.int x3), some (.int x4), none]) (st' := [.int x3]) (I' := I) (J' := J) rfl ?_
          refine Wp.call (M' := Md_many) (as := [.int x3]) (rest := []) rfl (CI.use h (fun v1 I1 J1 h => ?_))
          refine Wp.eqs (pc' := 149) (st' := [.int v1]) rfl rfl ?_
          exact Wp.ret rfl h
  · replace h := h.2 h1
    refine Wp.steps 2 (pc' := 132) (lv' := [some (.ref 57), some (.int x1), some (.int x2), some (.int x3), some (.int x4), none]) (st' := [.int 1, .int x2]) (I' := I) (J' := J) rfl ?_
    refine Wp.steps 1 (pc' := if x2 = 1 then 141 else 135) (lv' := [some (.ref 57), some (.int x1), some (.int x2), some (.int x3), some (.int x4), none]) (st' := []) (I' := I) (J' := J) rfl (Wp.ite (fun h2 => ?_) (fun h2 => ?_))
    · replace h := h.1 h2
      refine Wp.steps 2 (pc' := 149) (lv' := [some (.ref 57), some (.int x1), some (.int x2), some (.int x3), some (.int x4), none]) (st' := [.int x3]) (I' := I) (J' := J) rfl ?_
      exact Wp.ret rfl h
    · replace h := h.2 h2
      refine Wp.steps 2 (pc' := 138) (lv' := [some (.ref 57), some (.int x1), some (.int x2), some (.int x3), some (.int x4), none]) (st' := [.int (-4), .int x3]) (I' := I) (J' := J) rfl ?_
      refine Wp.steps 1 (pc' := if x3 = (-4) then 141 else 145) (lv' := [some (.ref 57), some (.int x1), some (.int x2), some (.int x3), some (.int x4), none]) (st' := []) (I' := I) (J' := J) rfl (Wp.ite (fun h3 => ?_) (fun h3 => ?_))
      · replace h := h.1 h3
        refine Wp.steps 2 (pc' := 149) (lv' := [some (.ref 57), some (.int x1), some (.int x2), some (.int x3), some (.int x4), none]) (st' := [.int x3]) (I' := I) (J' := J) rfl ?_
        exact Wp.ret rfl h
      · replace h := h.2 h3
        refine Wp.steps 1 (pc' := 146) (lv' := [some (.ref 57), some (.int x1), some (.int x2), some (.int x3), some (.int x4), none]) (st' := [.int x3]) (I' := I) (J' := J) rfl ?_
        refine Wp.call (M' := Md_many) (as := [.int x3]) (rest := []) rfl (CI.use h (fun v1 I1 J1 h => ?_))
        refine Wp.eqs (pc' := 149) (st' := [.int v1]) rfl rfl ?_
        exact Wp.ret rfl h
