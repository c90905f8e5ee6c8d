/-! what each way through a method asks (by program): Lw_clicked_0_100_57, Lw_sort, Lw_digits_0, Lw_outs_57, Lw_size, Lw_slid_57, Lw_flipped_0_100_57, Lw_place -/
set_option maxHeartbeats 16000000 in
theorem v_Lw_clicked_0_100_57_0 {d : Nat} {Q : Post} {I : I2} {J : J2} {x3 : Int64} (h : CI d Lw_cell [.ref 100, .int 13] I J (fun v1 I1 J1 => CI d Sb_sheet [.ref 0, .int 3, .int 1, .int 16] I1 J1 (fun v2 I2 J2 => (v2 = 16 → Wp d Lw_clicked Q 36 [some (.ref 0), some (.ref 100), some (.ref 57), some (.long x3), none, some (.int (1 + (rmI v1 8))), some (.int 1), some (.int 0), none, none] [] I2 J2) ∧ (¬ (v2 = 16) → Wp d Lw_clicked Q 36 [some (.ref 0), some (.ref 100), some (.ref 57), some (.long x3), none, some (.int (1 + (rmI v1 8))), some (.int 0), some (.int 0), none, none] [] I2 J2)))) : Wp d Lw_clicked Q 0 [some (.ref 0), some (.ref 100), some (.ref 57), some (.long x3), none, none, none, none, none, none] [] I J := by
  refine Wp.steps 3 (pc' := 4) (lv' := [some (.ref 0), some (.ref 100), some (.ref 57), some (.long x3), none, none, none, none, none, none]) (st' := [.int 13, .ref 100, .int 1]) (I' := I) (J' := J) rfl ?_
  refine Wp.call (M' := Lw_cell) (as := [.ref 100, .int 13]) (rest := [.int 1]) rfl (CI.use h (fun v1 I1 J1 h => ?_))
  refine Wp.eqs (pc' := 7) (st' := [.int v1, .int 1]) rfl rfl ?_
  refine Wp.steps 8 (pc' := 18) (lv' := [some (.ref 0), some (.ref 100), some (.ref 57), some (.long x3), none, some (.int (1 + (rmI v1 8))), none, none, none, none]) (st' := [.int 16, .int 1, .int 3, .ref 0]) (I' := I1) (J' := J1) rfl ?_
  refine Wp.call (M' := Sb_sheet) (as := [.ref 0, .int 3, .int 1, .int 16]) (rest := []) rfl (CI.use h (fun v2 I2 J2 h => ?_))
  refine Wp.eqs (pc' := 21) (st' := [.int v2]) rfl rfl ?_
  refine Wp.steps 1 (pc' := 23) (lv' := [some (.ref 0), some (.ref 100), some (.ref 57), some (.long x3), none, some (.int (1 + (rmI v1 8))), none, none, none, none]) (st' := [.int 16, .int v2]) (I' := I2) (J' := J2) rfl ?_
  refine Wp.steps 1 (pc' := if v2 = 16 then 26 else 30) (lv' := [some (.ref 0), some (.ref 100), some (.ref 57), some (.long x3), none, some (.int (1 + (rmI v1 8))), none, none, none, none]) (st' := []) (I' := I2) (J' := J2) rfl (Wp.ite (fun h1 => ?_) (fun h1 => ?_))
  · replace h := h.1 h1
    refine Wp.steps 5 (pc' := 36) (lv' := [some (.ref 0), some (.ref 100), some (.ref 57), some (.long x3), none, some (.int (1 + (rmI v1 8))), some (.int 1), some (.int 0), none, none]) (st' := []) (I' := I2) (J' := J2) rfl ?_
    exact h
  · replace h := h.2 h1
    refine Wp.steps 4 (pc' := 36) (lv' := [some (.ref 0), some (.ref 100), some (.ref 57), some (.long x3), none, some (.int (1 + (rmI v1 8))), some (.int 0), some (.int 0), none, none]) (st' := []) (I' := I2) (J' := J2) rfl ?_
    exact h
set_option maxHeartbeats 16000000 in
theorem v_Lw_clicked_0_100_57_36 {d : Nat} {Q : Post} {I : I2} {J : J2} {x3 : Int64} {x5 : Int32} {x6 : Int32} {x7 : Int32} (h : (x7 < x5 → (x6 = 0 → Wp d Lw_clicked Q 216 [some (.ref 0), some (.ref 100), some (.ref 57), some (.long x3), none, some (.int x5), some (.int 0), some (.int 0), none, none] [] I J) ∧ (¬ (x6 = 0) → CI d Lw_cell [.ref 100, .int 13] I J (fun v1 I1 J1 => ¬ (2 * (I1 57 0)) = 0 ∧ (CI d Sb_slide [.ref 0, .int ((rmI ((srI v1 (3 + (2 * x7))) &&& 15) (2 * (I1 57 0))) / 2), .int (rmI (rmI ((srI v1 (3 + (2 * x7))) &&& 15) (2 * (I1 57 0))) 2)] I1 J1 (fun v2 I2 J2 => CI d Sb_item [.ref 0, .int 3, .int 1, .int (2 * x7), .long (Int32.toInt64 ((10 * ((rmI ((srI v1 (3 + (2 * x7))) &&& 15) (2 * (I1 57 0))) / 2)) + (rmI (rmI ((srI v1 (3 + (2 * x7))) &&& 15) (2 * (I1 57 0))) 2)))] I2 J2 (fun v3 I3 J3 => (v3 = 1 → (v2 < 0 → CI d Sb_item [.ref 0, .int 3, .int 1, .int ((2 * x7) + 1), .long 0] I3 J3 (fun v4 I4 J4 => (v4 = 1 → Wp d Lw_clicked Q 36 [some (.ref 0), some (.ref 100), some (.ref 57), some (.long x3), none, some (.int x5), some (.int 1), some (.int (x7 + 1)), none, none] [] I4 J4) ∧ (¬ (v4 = 1) → Wp d Lw_clicked Q 36 [some (.ref 0), some (.ref 100), some (.ref 57), some (.long x3), none, some (.int x5), some (.int 0), some (.int (x7 + 1)), none, none] [] I4 J4))) ∧ (¬ (v2 < 0) → CI d Sb_item [.ref 0, .int 3, .int 1, .int ((2 * x7) + 1), .long 1] I3 J3 (fun v4 I4 J4 => (v4 = 1 → Wp d Lw_clicked Q 36 [some (.ref 0), some (.ref 100), some (.ref 57), some (.long x3), none, some (.int x5), some (.int 1), some (.int (x7 + 1)), none, none] [] I4 J4) ∧ (¬ (v4 = 1) → Wp d Lw_clicked Q 36 [some (.ref 0), some (.ref 100), some (.ref 57), some (.long x3), none, some (.int x5), some (.int 0), some (.int (x7 + 1)), none, none] [] I4 J4)))) ∧ (¬ (v3 = 1) → Wp d Lw_clicked Q 36 [some (.ref 0), some (.ref 100), some (.ref 57), some (.long x3), none, some (.int x5), some (.int 0), some (.int (x7 + 1)), none, none] [] I3 J3))))))) ∧ (¬ (x7 < x5) → (x6 = 0 → Wp d Lw_clicked Q 216 [some (.ref 0), some (.ref 100), some (.ref 57), some (.long x3), none, some (.int x5), some (.int 0), some (.int 0), none, none] [] I J) ∧ (¬ (x6 = 0) → CI d Sb_restore [.ref 0] I J (fun v1 I1 J1 => (v1 = 1 → CI d Sb_clicks [.ref 0, .int (-4), .int 3, .int 1, .int 0, .int x5] I1 J1 (fun v2 I2 J2 => ((v2 &&& 64) = 64 → CI d Sb_clicks [.ref 0, .int (-4), .int 3, .int 1, .int 0, .int x5] I2 J2 (fun v3 I3 J3 => (v3 < (64 + (slI 1 (I3 57 1))) → Wp d Lw_clicked Q 216 [some (.ref 0), some (.ref 100), some (.ref 57), some (.long x3), none, some (.int x5), some (.int 1), some (.int 0), none, none] [] I3 J3) ∧ (¬ (v3 < (64 + (slI 1 (I3 57 1)))) → Wp d Lw_clicked Q 216 [some (.ref 0), some (.ref 100), some (.ref 57), some (.long x3), none, some (.int x5), some (.int 0), some (.int 0), none, none] [] I3 J3))) ∧ (¬ ((v2 &&& 64) = 64) → Wp d Lw_clicked Q 216 [some (.ref 0), some (.ref 100), some (.ref 57), some (.long x3), none, some (.int x5), some (.int 0), some (.int 0), none, none] [] I2 J2))) ∧ (¬ (v1 = 1) → Wp d Lw_clicked Q 216 [some (.ref 0), some (.ref 100), some (.ref 57), some (.long x3), none, some (.int x5), some (.int 0), some (.int 0), none, none] [] I1 J1))))) : Wp d Lw_clicked Q 36 [some (.ref 0), some (.ref 100), some (.ref 57), some (.long x3), none, some (.int x5), some (.int x6), some (.int x7), none, none] [] I J := by
  refine Wp.steps 2 (pc' := 40) (lv' := [some (.ref 0), some (.ref 100), some (.ref 57), some (.long x3), none, some (.int x5), some (.int x6), some (.int x7), none, none]) (st' := [.int x5, .int x7]) (I' := I) (J' := J) rfl ?_
  refine Wp.steps 1 (pc' := if x7 < x5 then 43 else 152) (lv' := [some (.ref 0), some (.ref 100), some (.ref 57), some (.long x3), none, some (.int x5), some (.int x6), some (.int x7), none, none]) (st' := []) (I' := I) (J' := J) rfl (Wp.ite (fun h1 => ?_) (fun h1 => ?_))
  · replace h := h.1 h1
    refine Wp.steps 1 (pc' := 45) (lv' := [some (.ref 0), some (.ref 100), some (.ref 57), some (.long x3), none, some (.int x5), some (.int x6), some (.int x7), none, none]) (st' := [.int x6]) (I' := I) (J' := J) rfl ?_
    refine Wp.steps 1 (pc' := if x6 = 0 then 152 else 48) (lv' := [some (.ref 0), some (.ref 100), some (.ref 57), some (.long x3), none, some (.int x5), some (.int x6), some (.int x7), none, none]) (st' := []) (I' := I) (J' := J) rfl (Wp.ite (fun h2 => ?_) (fun h2 => ?_))
    · replace h := h.1 h2
      refine Wp.steps 1 (pc' := 154) (lv' := [some (.ref 0), some (.ref 100), some (.ref 57), some (.long x3), none, some (.int x5), some (.int x6), some (.int x7), none, none]) (st' := [.int x6]) (I' := I) (J' := J) rfl ?_
      refine Wp.steps 1 (pc' := if x6 = 0 then 210 else 157) (lv' := [some (.ref 0), some (.ref 100), some (.ref 57), some (.long x3), none, some (.int x5), some (.int x6), some (.int x7), none, none]) (st' := []) (I' := I) (J' := J) rfl ?_
      rw [if_pos h2]
      refine Wp.steps 4 (pc' := 216) (lv' := [some (.ref 0), some (.ref 100), some (.ref 57), some (.long x3), none, some (.int x5), some (.int 0), some (.int 0), none, none]) (st' := []) (I' := I) (J' := J) rfl ?_
      exact h
    · replace h := h.2 h2
      refine Wp.steps 2 (pc' := 51) (lv' := [some (.ref 0), some (.ref 100), some (.ref 57), some (.long x3), none, some (.int x5), some (.int x6), some (.int x7), none, none]) (st' := [.int 13, .ref 100]) (I' := I) (J' := J) rfl ?_
      refine Wp.call (M' := Lw_cell) (as := [.ref 100, .int 13]) (rest := []) rfl (CI.use h (fun v1 I1 J1 h => ?_))
      refine Wp.eqs (pc' := 54) (st' := [.int v1]) rfl rfl ?_
      refine Wp.steps 13 (pc' := 69) (lv' := [some (.ref 0), some (.ref 100), some (.ref 57), some (.long x3), none, some (.int x5), some (.int x6), some (.int x7), none, none]) (st' := [.int (2 * (I1 57 0)), .int ((srI v1 (3 + (2 * x7))) &&& 15)]) (I' := I1) (J' := J1) rfl ?_
      refine Wp.irem rfl h.1 ?_
      replace h := h.2
      refine Wp.steps 8 (pc' := 81) (lv' := [some (.ref 0), some (.ref 100), some (.ref 57), some (.long x3), none, some (.int x5), some (.int x6), some (.int x7), some (.int (rmI ((srI v1 (3 + (2 * x7))) &&& 15) (2 * (I1 57 0)))), none]) (st' := [.int (rmI (rmI ((srI v1 (3 + (2 * x7))) &&& 15) (2 * (I1 57 0))) 2), .int ((rmI ((srI v1 (3 + (2 * x7))) &&& 15) (2 * (I1 57 0))) / 2), .ref 0]) (I' := I1) (J' := J1) rfl ?_
      refine Wp.call (M' := Sb_slide) (as := [.ref 0, .int ((rmI ((srI v1 (3 + (2 * x7))) &&& 15) (2 * (I1 57 0))) / 2), .int (rmI (rmI ((srI v1 (3 + (2 * x7))) &&& 15) (2 * (I1 57 0))) 2)]) (rest := []) rfl (CI.use h (fun v2 I2 J2 h => ?_))
      refine Wp.eqs (pc' := 84) (st' := [.int v2]) rfl rfl ?_
      refine Wp.steps 17 (pc' := 106) (lv' := [some (.ref 0), some (.ref 100), some (.ref 57), some (.long x3), none, some (.int x5), some (.int x6), some (.int x7), some (.int (rmI ((srI v1 (3 + (2 * x7))) &&& 15) (2 * (I1 57 0)))), some (.int v2)]) (st' := [.long (Int32.toInt64 ((10 * ((rmI ((srI v1 (3 + (2 * x7))) &&& 15) (2 * (I1 57 0))) / 2)) + (rmI (rmI ((srI v1 (3 + (2 * x7))) &&& 15) (2 * (I1 57 0))) 2))), .int (2 * x7), .int 1, .int 3, .ref 0]) (I' := I2) (J' := J2) rfl ?_
      refine Wp.call (M' := Sb_item) (as := [.ref 0, .int 3, .int 1, .int (2 * x7), .long (Int32.toInt64 ((10 * ((rmI ((srI v1 (3 + (2 * x7))) &&& 15) (2 * (I1 57 0))) / 2)) + (rmI (rmI ((srI v1 (3 + (2 * x7))) &&& 15) (2 * (I1 57 0))) 2)))]) (rest := []) rfl (CI.use h (fun v3 I3 J3 h => ?_))
      refine Wp.eqs (pc' := 109) (st' := [.int v3]) rfl rfl ?_
      refine Wp.steps 1 (pc' := 110) (lv' := [some (.ref 0), some (.ref 100), some (.ref 57), some (.long x3), none, some (.int x5), some (.int x6), some (.int x7), some (.int (rmI ((srI v1 (3 + (2 * x7))) &&& 15) (2 * (I1 57 0)))), some (.int v2)]) (st' := [.int 1, .int v3]) (I' := I3) (J' := J3) rfl ?_
      refine Wp.steps 1 (pc' := if v3 = 1 then 113 else 143) (lv' := [some (.ref 0), some (.ref 100), some (.ref 57), some (.long x3), none, some (.int x5), some (.int x6), some (.int x7), some (.int (rmI ((srI v1 (3 + (2 * x7))) &&& 15) (2 * (I1 57 0)))), some (.int v2)]) (st' := []) (I' := I3) (J' := J3) rfl (Wp.ite (fun h3 => ?_) (fun h3 => ?_))
      · replace h := h.1 h3
        refine Wp.steps 9 (pc' := 124) (lv' := [some (.ref 0), some (.ref 100), some (.ref 57), some (.long x3), none, some (.int x5), some (.int x6), some (.int x7), some (.int (rmI ((srI v1 (3 + (2 * x7))) &&& 15) (2 * (I1 57 0)))), some (.int v2)]) (st' := [.int v2, .int ((2 * x7) + 1), .int 1, .int 3, .ref 0]) (I' := I3) (J' := J3) rfl ?_
        refine Wp.steps 1 (pc' := if v2 < 0 then 131 else 127) (lv' := [some (.ref 0), some (.ref 100), some (.ref 57), some (.long x3), none, some (.int x5), some (.int x6), some (.int x7), some (.int (rmI ((srI v1 (3 + (2 * x7))) &&& 15) (2 * (I1 57 0)))), some (.int v2)]) (st' := [.int ((2 * x7) + 1), .int 1, .int 3, .ref 0]) (I' := I3) (J' := J3) rfl (Wp.ite (fun h4 => ?_) (fun h4 => ?_))
        · replace h := h.1 h4
          refine Wp.steps 1 (pc' := 132) (lv' := [some (.ref 0), some (.ref 100), some (.ref 57), some (.long x3), none, some (.int x5), some (.int x6), some (.int x7), some (.int (rmI ((srI v1 (3 + (2 * x7))) &&& 15) (2 * (I1 57 0)))), some (.int v2)]) (st' := [.long 0, .int ((2 * x7) + 1), .int 1, .int 3, .ref 0]) (I' := I3) (J' := J3) rfl ?_
          refine Wp.call (M' := Sb_item) (as := [.ref 0, .int 3, .int 1, .int ((2 * x7) + 1), .long 0]) (rest := []) rfl (CI.use h (fun v4 I4 J4 h => ?_))
          refine Wp.eqs (pc' := 135) (st' := [.int v4]) rfl rfl ?_
          refine Wp.steps 1 (pc' := 136) (lv' := [some (.ref 0), some (.ref 100), some (.ref 57), some (.long x3), none, some (.int x5), some (.int x6), some (.int x7), some (.int (rmI ((srI v1 (3 + (2 * x7))) &&& 15) (2 * (I1 57 0)))), some (.int v2)]) (st' := [.int 1, .int v4]) (I' := I4) (J' := J4) rfl ?_
          refine Wp.steps 1 (pc' := if v4 = 1 then 139 else 143) (lv' := [some (.ref 0), some (.ref 100), some (.ref 57), some (.long x3), none, some (.int x5), some (.int x6), some (.int x7), some (.int (rmI ((srI v1 (3 + (2 * x7))) &&& 15) (2 * (I1 57 0)))), some (.int v2)]) (st' := []) (I' := I4) (J' := J4) rfl (Wp.ite (fun h5 => ?_) (fun h5 => ?_))
          · replace h := h.1 h5
            refine Wp.steps 5 (pc' := 36) (lv' := [some (.ref 0), some (.ref 100), some (.ref 57), some (.long x3), none, some (.int x5), some (.int 1), some (.int (x7 + 1)), some (.int (rmI ((srI v1 (3 + (2 * x7))) &&& 15) (2 * (I1 57 0)))), some (.int v2)]) (st' := []) (I' := I4) (J' := J4) rfl ?_
            refine Wp.drop [8, 9] (lv' := [some (.ref 0), some (.ref 100), some (.ref 57), some (.long x3), none, some (.int x5), some (.int 1), some (.int (x7 + 1)), none, none]) rfl ?_
            exact h
          · replace h := h.2 h5
            refine Wp.steps 4 (pc' := 36) (lv' := [some (.ref 0), some (.ref 100), some (.ref 57), some (.long x3), none, some (.int x5), some (.int 0), some (.int (x7 + 1)), some (.int (rmI ((srI v1 (3 + (2 * x7))) &&& 15) (2 * (I1 57 0)))), some (.int v2)]) (st' := []) (I' := I4) (J' := J4) rfl ?_
            refine Wp.drop [8, 9] (lv' := [some (.ref 0), some (.ref 100), some (.ref 57), some (.long x3), none, some (.int x5), some (.int 0), some (.int (x7 + 1)), none, none]) rfl ?_
            exact h
        · replace h := h.2 h4
          refine Wp.steps 2 (pc' := 132) (lv' := [some (.ref 0), some (.ref 100), some (.ref 57), some (.long x3), none, some (.int x5), some (.int x6), some (.int x7), some (.int (rmI ((srI v1 (3 + (2 * x7))) &&& 15) (2 * (I1 57 0)))), some (.int v2)]) (st' := [.long 1, .int ((2 * x7) + 1), .int 1, .int 3, .ref 0]) (I' := I3) (J' := J3) rfl ?_
          refine Wp.call (M' := Sb_item) (as := [.ref 0, .int 3, .int 1, .int ((2 * x7) + 1), .long 1]) (rest := []) rfl (CI.use h (fun v4 I4 J4 h => ?_))
          refine Wp.eqs (pc' := 135) (st' := [.int v4]) rfl rfl ?_
          refine Wp.steps 1 (pc' := 136) (lv' := [some (.ref 0), some (.ref 100), some (.ref 57), some (.long x3), none, some (.int x5), some (.int x6), some (.int x7), some (.int (rmI ((srI v1 (3 + (2 * x7))) &&& 15) (2 * (I1 57 0)))), some (.int v2)]) (st' := [.int 1, .int v4]) (I' := I4) (J' := J4) rfl ?_
          refine Wp.steps 1 (pc' := if v4 = 1 then 139 else 143) (lv' := [some (.ref 0), some (.ref 100), some (.ref 57), some (.long x3), none, some (.int x5), some (.int x6), some (.int x7), some (.int (rmI ((srI v1 (3 + (2 * x7))) &&& 15) (2 * (I1 57 0)))), some (.int v2)]) (st' := []) (I' := I4) (J' := J4) rfl (Wp.ite (fun h5 => ?_) (fun h5 => ?_))
          · replace h := h.1 h5
            refine Wp.steps 5 (pc' := 36) (lv' := [some (.ref 0), some (.ref 100), some (.ref 57), some (.long x3), none, some (.int x5), some (.int 1), some (.int (x7 + 1)), some (.int (rmI ((srI v1 (3 + (2 * x7))) &&& 15) (2 * (I1 57 0)))), some (.int v2)]) (st' := []) (I' := I4) (J' := J4) rfl ?_
            refine Wp.drop [8, 9] (lv' := [some (.ref 0), some (.ref 100), some (.ref 57), some (.long x3), none, some (.int x5), some (.int 1), some (.int (x7 + 1)), none, none]) rfl ?_
            exact h
          · replace h := h.2 h5
            refine Wp.steps 4 (pc' := 36) (lv' := [some (.ref 0), some (.ref 100), some (.ref 57), some (.long x3), none, some (.int x5), some (.int 0), some (.int (x7 + 1)), some (.int (rmI ((srI v1 (3 + (2 * x7))) &&& 15) (2 * (I1 57 0)))), some (.int v2)]) (st' := []) (I' := I4) (J' := J4) rfl ?_
            refine Wp.drop [8, 9] (lv' := [some (.ref 0), some (.ref 100), some (.ref 57), some (.long x3), none, some (.int x5), some (.int 0), some (.int (x7 + 1)), none, none]) rfl ?_
            exact h
      · replace h := h.2 h3
        refine Wp.steps 4 (pc' := 36) (lv' := [some (.ref 0), some (.ref 100), some (.ref 57), some (.long x3), none, some (.int x5), some (.int 0), some (.int (x7 + 1)), some (.int (rmI ((srI v1 (3 + (2 * x7))) &&& 15) (2 * (I1 57 0)))), some (.int v2)]) (st' := []) (I' := I3) (J' := J3) rfl ?_
        refine Wp.drop [8, 9] (lv' := [some (.ref 0), some (.ref 100), some (.ref 57), some (.long x3), none, some (.int x5), some (.int 0), some (.int (x7 + 1)), none, none]) rfl ?_
        exact h
  · replace h := h.2 h1
    refine Wp.steps 1 (pc' := 154) (lv' := [some (.ref 0), some (.ref 100), some (.ref 57), some (.long x3), none, some (.int x5), some (.int x6), some (.int x7), none, none]) (st' := [.int x6]) (I' := I) (J' := J) rfl ?_
    refine Wp.steps 1 (pc' := if x6 = 0 then 210 else 157) (lv' := [some (.ref 0), some (.ref 100), some (.ref 57), some (.long x3), none, some (.int x5), some (.int x6), some (.int x7), none, none]) (st' := []) (I' := I) (J' := J) rfl (Wp.ite (fun h2 => ?_) (fun h2 => ?_))
    · replace h := h.1 h2
      refine Wp.steps 4 (pc' := 216) (lv' := [some (.ref 0), some (.ref 100), some (.ref 57), some (.long x3), none, some (.int x5), some (.int 0), some (.int 0), none, none]) (st' := []) (I' := I) (J' := J) rfl ?_
      exact h
    · replace h := h.2 h2
      refine Wp.steps 1 (pc' := 158) (lv' := [some (.ref 0), some (.ref 100), some (.ref 57), some (.long x3), none, some (.int x5), some (.int x6), some (.int x7), none, none]) (st' := [.ref 0]) (I' := I) (J' := J) rfl ?_
      refine Wp.call (M' := Sb_restore) (as := [.ref 0]) (rest := []) rfl (CI.use h (fun v1 I1 J1 h => ?_))
      refine Wp.eqs (pc' := 161) (st' := [.int v1]) rfl rfl ?_
      refine Wp.steps 1 (pc' := 162) (lv' := [some (.ref 0), some (.ref 100), some (.ref 57), some (.long x3), none, some (.int x5), some (.int x6), some (.int x7), none, none]) (st' := [.int 1, .int v1]) (I' := I1) (J' := J1) rfl ?_
      refine Wp.steps 1 (pc' := if v1 = 1 then 165 else 210) (lv' := [some (.ref 0), some (.ref 100), some (.ref 57), some (.long x3), none, some (.int x5), some (.int x6), some (.int x7), none, none]) (st' := []) (I' := I1) (J' := J1) rfl (Wp.ite (fun h3 => ?_) (fun h3 => ?_))
      · replace h := h.1 h3
        refine Wp.steps 6 (pc' := 173) (lv' := [some (.ref 0), some (.ref 100), some (.ref 57), some (.long x3), none, some (.int x5), some (.int x6), some (.int x7), none, none]) (st' := [.int x5, .int 0, .int 1, .int 3, .int (-4), .ref 0]) (I' := I1) (J' := J1) rfl ?_
        refine Wp.call (M' := Sb_clicks) (as := [.ref 0, .int (-4), .int 3, .int 1, .int 0, .int x5]) (rest := []) rfl (CI.use h (fun v2 I2 J2 h => ?_))
        refine Wp.eqs (pc' := 176) (st' := [.int v2]) rfl rfl ?_
        refine Wp.steps 3 (pc' := 181) (lv' := [some (.ref 0), some (.ref 100), some (.ref 57), some (.long x3), none, some (.int x5), some (.int x6), some (.int x7), none, none]) (st' := [.int 64, .int (v2 &&& 64)]) (I' := I2) (J' := J2) rfl ?_
        refine Wp.steps 1 (pc' := if (v2 &&& 64) = 64 then 184 else 210) (lv' := [some (.ref 0), some (.ref 100), some (.ref 57), some (.long x3), none, some (.int x5), some (.int x6), some (.int x7), none, none]) (st' := []) (I' := I2) (J' := J2) rfl (Wp.ite (fun h4 => ?_) (fun h4 => ?_))
        · replace h := h.1 h4
          refine Wp.steps 6 (pc' := 192) (lv' := [some (.ref 0), some (.ref 100), some (.ref 57), some (.long x3), none, some (.int x5), some (.int x6), some (.int x7), none, none]) (st' := [.int x5, .int 0, .int 1, .int 3, .int (-4), .ref 0]) (I' := I2) (J' := J2) rfl ?_
          refine Wp.call (M' := Sb_clicks) (as := [.ref 0, .int (-4), .int 3, .int 1, .int 0, .int x5]) (rest := []) rfl (CI.use h (fun v3 I3 J3 h => ?_))
          refine Wp.eqs (pc' := 195) (st' := [.int v3]) rfl rfl ?_
          refine Wp.steps 7 (pc' := 203) (lv' := [some (.ref 0), some (.ref 100), some (.ref 57), some (.long x3), none, some (.int x5), some (.int x6), some (.int x7), none, none]) (st' := [.int (64 + (slI 1 (I3 57 1))), .int v3]) (I' := I3) (J' := J3) rfl ?_
          refine Wp.steps 1 (pc' := if v3 < (64 + (slI 1 (I3 57 1))) then 206 else 210) (lv' := [some (.ref 0), some (.ref 100), some (.ref 57), some (.long x3), none, some (.int x5), some (.int x6), some (.int x7), none, none]) (st' := []) (I' := I3) (J' := J3) rfl (Wp.ite (fun h5 => ?_) (fun h5 => ?_))
          · replace h := h.1 h5
            refine Wp.steps 5 (pc' := 216) (lv' := [some (.ref 0), some (.ref 100), some (.ref 57), some (.long x3), none, some (.int x5), some (.int 1), some (.int 0), none, none]) (st' := []) (I' := I3) (J' := J3) rfl ?_
            exact h
          · replace h := h.2 h5
            refine Wp.steps 4 (pc' := 216) (lv' := [some (.ref 0), some (.ref 100), some (.ref 57), some (.long x3), none, some (.int x5), some (.int 0), some (.int 0), none, none]) (st' := []) (I' := I3) (J' := J3) rfl ?_
            exact h
        · replace h := h.2 h4
          refine Wp.steps 4 (pc' := 216) (lv' := [some (.ref 0), some (.ref 100), some (.ref 57), some (.long x3), none, some (.int x5), some (.int 0), some (.int 0), none, none]) (st' := []) (I' := I2) (J' := J2) rfl ?_
          exact h
      · replace h := h.2 h3
        refine Wp.steps 4 (pc' := 216) (lv' := [some (.ref 0), some (.ref 100), some (.ref 57), some (.long x3), none, some (.int x5), some (.int 0), some (.int 0), none, none]) (st' := []) (I' := I1) (J' := J1) rfl ?_
        exact h
set_option maxHeartbeats 16000000 in
theorem v_Lw_clicked_0_100_57_216 {d : Nat} {Q : Post} {I : I2} {J : J2} {x3 : Int64} {x5 : Int32} {x6 : Int32} {x7 : Int32} (h : (x7 < (I 57 0) → (x6 = 0 → CI d Lw_cell [.ref 100, .int 15] I J (fun v1 I1 J1 => ¬ x5 = 0 ∧ (Q (some (.int 0)) I1 J1))) ∧ (¬ (x6 = 0) → CI d Sb_clicks [.ref 0, .int x7, .int 3, .int 1, .int 0, .int x5] I J (fun v1 I1 J1 => CI d Sb_of [.ref 0, .int x7, .int 0] I1 J1 (fun v2 I2 J2 => (((srI v1 v2) &&& 1) = 1 → (v1 < 32 → (x5 = 1 → Wp d Lw_clicked Q 216 [some (.ref 0), some (.ref 100), some (.ref 57), some (.long x3), none, some (.int x5), some (.int 1), some (.int (x7 + 1)), none, none] [] I2 J2) ∧ (¬ (x5 = 1) → CI d Sb_clicks [.ref 0, .int x7, .int 3, .int 1, .int 0, .int (x5 - 1)] I2 J2 (fun v3 I3 J3 => ((v3 &&& v1) = v1 → Wp d Lw_clicked Q 216 [some (.ref 0), some (.ref 100), some (.ref 57), some (.long x3), none, some (.int x5), some (.int 1), some (.int (x7 + 1)), none, none] [] I3 J3) ∧ (¬ ((v3 &&& v1) = v1) → Wp d Lw_clicked Q 216 [some (.ref 0), some (.ref 100), some (.ref 57), some (.long x3), none, some (.int x5), some (.int 0), some (.int (x7 + 1)), none, none] [] I3 J3)))) ∧ (¬ (v1 < 32) → Wp d Lw_clicked Q 216 [some (.ref 0), some (.ref 100), some (.ref 57), some (.long x3), none, some (.int x5), some (.int 0), some (.int (x7 + 1)), none, none] [] I2 J2)) ∧ (¬ (((srI v1 v2) &&& 1) = 1) → Wp d Lw_clicked Q 216 [some (.ref 0), some (.ref 100), some (.ref 57), some (.long x3), none, some (.int x5), some (.int 0), some (.int (x7 + 1)), none, none] [] I2 J2))))) ∧ (¬ (x7 < (I 57 0)) → CI d Lw_cell [.ref 100, .int 15] I J (fun v1 I1 J1 => ¬ x5 = 0 ∧ ((x6 = 0 → Q (some (.int 0)) I1 J1) ∧ (¬ (x6 = 0) → CI d Lw_flipped [.ref 0, .ref 100, .ref 57, .int (rmI (v1 &&& 7) x5)] I1 J1 (fun v2 I2 J2 => (v2 = 0 → Q (some (.int 0)) I2 J2) ∧ (¬ (v2 = 0) → CI d Sb_clicks [.ref 0, .int (-4), .int 3, .int 1, .int 0, .int x5] I2 J2 (fun v3 I3 J3 => ((v3 &&& 64) = 0 → CI d Sb_drop [.ref 0, .int 3] I3 J3 (fun v4 I4 J4 => (v4 = 16 → CL d Lw_hash [.ref 0, .ref 57] I4 J4 (fun v5 I5 J5 => ((lg_cmp v5 x3) = 0 → Q (some (.int 1)) I5 J5) ∧ (¬ ((lg_cmp v5 x3) = 0) → Q (some (.int 0)) I5 J5))) ∧ (¬ (v4 = 16) → Q (some (.int 0)) I4 J4))) ∧ (¬ ((v3 &&& 64) = 0) → Q (some (.int 0)) I3 J3))))))))) : Wp d Lw_clicked Q 216 [some (.ref 0), some (.ref 100), some (.ref 57), some (.long x3), none, some (.int x5), some (.int x6), some (.int x7), none, none] [] I J := by
  refine Wp.steps 4 (pc' := 221) (lv' := [some (.ref 0), some (.ref 100), some (.ref 57), some (.long x3), none, some (.int x5), some (.int x6), some (.int x7), none, none]) (st' := [.int (I 57 0), .int x7]) (I' := I) (J' := J) rfl ?_
  refine Wp.steps 1 (pc' := if x7 < (I 57 0) then 224 else 305) (lv' := [some (.ref 0), some (.ref 100), some (.ref 57), some (.long x3), none, some (.int x5), some (.int x6), some (.int x7), none, none]) (st' := []) (I' := I) (J' := J) rfl (Wp.ite (fun h1 => ?_) (fun h1 => ?_))
  · replace h := h.1 h1
    refine Wp.steps 1 (pc' := 226) (lv' := [some (.ref 0), some (.ref 100), some (.ref 57), some (.long x3), none, some (.int x5), some (.int x6), some (.int x7), none, none]) (st' := [.int x6]) (I' := I) (J' := J) rfl ?_
    refine Wp.steps 1 (pc' := if x6 = 0 then 305 else 229) (lv' := [some (.ref 0), some (.ref 100), some (.ref 57), some (.long x3), none, some (.int x5), some (.int x6), some (.int x7), none, none]) (st' := []) (I' := I) (J' := J) rfl (Wp.ite (fun h2 => ?_) (fun h2 => ?_))
    · replace h := h.1 h2
      refine Wp.steps 2 (pc' := 308) (lv' := [some (.ref 0), some (.ref 100), some (.ref 57), some (.long x3), none, some (.int x5), some (.int x6), some (.int x7), none, none]) (st' := [.int 15, .ref 100]) (I' := I) (J' := J) rfl ?_
      refine Wp.call (M' := Lw_cell) (as := [.ref 100, .int 15]) (rest := []) rfl (CI.use h (fun v1 I1 J1 h => ?_))
      refine Wp.eqs (pc' := 311) (st' := [.int v1]) rfl rfl ?_
      refine Wp.steps 3 (pc' := 316) (lv' := [some (.ref 0), some (.ref 100), some (.ref 57), some (.long x3), none, some (.int x5), some (.int x6), some (.int x7), none, none]) (st' := [.int x5, .int (v1 &&& 7)]) (I' := I1) (J' := J1) rfl ?_
      refine Wp.irem rfl h.1 ?_
      replace h := h.2
      refine Wp.steps 2 (pc' := 321) (lv' := [some (.ref 0), some (.ref 100), some (.ref 57), some (.long x3), none, some (.int x5), some (.int x6), some (.int (rmI (v1 &&& 7) x5)), none, none]) (st' := [.int x6]) (I' := I1) (J' := J1) rfl ?_
      refine Wp.steps 1 (pc' := if x6 = 0 then 356 else 324) (lv' := [some (.ref 0), some (.ref 100), some (.ref 57), some (.long x3), none, some (.int x5), some (.int x6), some (.int (rmI (v1 &&& 7) x5)), none, none]) (st' := []) (I' := I1) (J' := J1) rfl ?_
      rw [if_pos h2]
      refine Wp.steps 5 (pc' := 389) (lv' := [some (.ref 0), some (.ref 100), some (.ref 57), some (.long x3), none, some (.int x5), some (.int 0), some (.int (rmI (v1 &&& 7) x5)), none, none]) (st' := [.int 0]) (I' := I1) (J' := J1) rfl ?_
      exact Wp.ret rfl h
    · replace h := h.2 h2
      refine Wp.steps 6 (pc' := 237) (lv' := [some (.ref 0), some (.ref 100), some (.ref 57), some (.long x3), none, some (.int x5), some (.int x6), some (.int x7), none, none]) (st' := [.int x5, .int 0, .int 1, .int 3, .int x7, .ref 0]) (I' := I) (J' := J) rfl ?_
      refine Wp.call (M' := Sb_clicks) (as := [.ref 0, .int x7, .int 3, .int 1, .int 0, .int x5]) (rest := []) rfl (CI.use h (fun v1 I1 J1 h => ?_))
      refine Wp.eqs (pc' := 240) (st' := [.int v1]) rfl rfl ?_
      refine Wp.steps 5 (pc' := 248) (lv' := [some (.ref 0), some (.ref 100), some (.ref 57), some (.long x3), none, some (.int x5), some (.int x6), some (.int x7), some (.int v1), none]) (st' := [.int 0, .int x7, .ref 0, .int v1]) (I' := I1) (J' := J1) rfl ?_
      refine Wp.call (M' := Sb_of) (as := [.ref 0, .int x7, .int 0]) (rest := [.int v1]) rfl (CI.use h (fun v2 I2 J2 h => ?_))
      refine Wp.eqs (pc' := 251) (st' := [.int v2, .int v1]) rfl rfl ?_
      refine Wp.steps 4 (pc' := 255) (lv' := [some (.ref 0), some (.ref 100), some (.ref 57), some (.long x3), none, some (.int x5), some (.int x6), some (.int x7), some (.int v1), none]) (st' := [.int 1, .int ((srI v1 v2) &&& 1)]) (I' := I2) (J' := J2) rfl ?_
      refine Wp.steps 1 (pc' := if ((srI v1 v2) &&& 1) = 1 then 258 else 296) (lv' := [some (.ref 0), some (.ref 100), some (.ref 57), some (.long x3), none, some (.int x5), some (.int x6), some (.int x7), some (.int v1), none]) (st' := []) (I' := I2) (J' := J2) rfl (Wp.ite (fun h3 => ?_) (fun h3 => ?_))
      · replace h := h.1 h3
        refine Wp.steps 2 (pc' := 262) (lv' := [some (.ref 0), some (.ref 100), some (.ref 57), some (.long x3), none, some (.int x5), some (.int x6), some (.int x7), some (.int v1), none]) (st' := [.int 32, .int v1]) (I' := I2) (J' := J2) rfl ?_
        refine Wp.steps 1 (pc' := if v1 < 32 then 265 else 296) (lv' := [some (.ref 0), some (.ref 100), some (.ref 57), some (.long x3), none, some (.int x5), some (.int x6), some (.int x7), some (.int v1), none]) (st' := []) (I' := I2) (J' := J2) rfl (Wp.ite (fun h4 => ?_) (fun h4 => ?_))
        · replace h := h.1 h4
          refine Wp.steps 2 (pc' := 268) (lv' := [some (.ref 0), some (.ref 100), some (.ref 57), some (.long x3), none, some (.int x5), some (.int x6), some (.int x7), some (.int v1), none]) (st' := [.int 1, .int x5]) (I' := I2) (J' := J2) rfl ?_
          refine Wp.steps 1 (pc' := if x5 = 1 then 292 else 271) (lv' := [some (.ref 0), some (.ref 100), some (.ref 57), some (.long x3), none, some (.int x5), some (.int x6), some (.int x7), some (.int v1), none]) (st' := []) (I' := I2) (J' := J2) rfl (Wp.ite (fun h5 => ?_) (fun h5 => ?_))
          · replace h := h.1 h5
            refine Wp.steps 5 (pc' := 216) (lv' := [some (.ref 0), some (.ref 100), some (.ref 57), some (.long x3), none, some (.int x5), some (.int 1), some (.int (x7 + 1)), some (.int v1), none]) (st' := []) (I' := I2) (J' := J2) rfl ?_
            refine Wp.drop [8] (lv' := [some (.ref 0), some (.ref 100), some (.ref 57), some (.long x3), none, some (.int x5), some (.int 1), some (.int (x7 + 1)), none, none]) rfl ?_
            exact h
          · replace h := h.2 h5
            refine Wp.steps 8 (pc' := 281) (lv' := [some (.ref 0), some (.ref 100), some (.ref 57), some (.long x3), none, some (.int x5), some (.int x6), some (.int x7), some (.int v1), none]) (st' := [.int (x5 - 1), .int 0, .int 1, .int 3, .int x7, .ref 0]) (I' := I2) (J' := J2) rfl ?_
            refine Wp.call (M' := Sb_clicks) (as := [.ref 0, .int x7, .int 3, .int 1, .int 0, .int (x5 - 1)]) (rest := []) rfl (CI.use h (fun v3 I3 J3 h => ?_))
            refine Wp.eqs (pc' := 284) (st' := [.int v3]) rfl rfl ?_
            refine Wp.steps 3 (pc' := 289) (lv' := [some (.ref 0), some (.ref 100), some (.ref 57), some (.long x3), none, some (.int x5), some (.int x6), some (.int x7), some (.int v1), none]) (st' := [.int v1, .int (v3 &&& v1)]) (I' := I3) (J' := J3) rfl ?_
            refine Wp.steps 1 (pc' := if (v3 &&& v1) = v1 then 292 else 296) (lv' := [some (.ref 0), some (.ref 100), some (.ref 57), some (.long x3), none, some (.int x5), some (.int x6), some (.int x7), some (.int v1), none]) (st' := []) (I' := I3) (J' := J3) rfl (Wp.ite (fun h6 => ?_) (fun h6 => ?_))
            · replace h := h.1 h6
              refine Wp.steps 5 (pc' := 216) (lv' := [some (.ref 0), some (.ref 100), some (.ref 57), some (.long x3), none, some (.int x5), some (.int 1), some (.int (x7 + 1)), some (.int v1), none]) (st' := []) (I' := I3) (J' := J3) rfl ?_
              refine Wp.drop [8] (lv' := [some (.ref 0), some (.ref 100), some (.ref 57), some (.long x3), none, some (.int x5), some (.int 1), some (.int (x7 + 1)), none, none]) rfl ?_
              exact h
            · replace h := h.2 h6
              refine Wp.steps 4 (pc' := 216) (lv' := [some (.ref 0), some (.ref 100), some (.ref 57), some (.long x3), none, some (.int x5), some (.int 0), some (.int (x7 + 1)), some (.int v1), none]) (st' := []) (I' := I3) (J' := J3) rfl ?_
              refine Wp.drop [8] (lv' := [some (.ref 0), some (.ref 100), some (.ref 57), some (.long x3), none, some (.int x5), some (.int 0), some (.int (x7 + 1)), none, none]) rfl ?_
              exact h
        · replace h := h.2 h4
          refine Wp.steps 4 (pc' := 216) (lv' := [some (.ref 0), some (.ref 100), some (.ref 57), some (.long x3), none, some (.int x5), some (.int 0), some (.int (x7 + 1)), some (.int v1), none]) (st' := []) (I' := I2) (J' := J2) rfl ?_
          refine Wp.drop [8] (lv' := [some (.ref 0), some (.ref 100), some (.ref 57), some (.long x3), none, some (.int x5), some (.int 0), some (.int (x7 + 1)), none, none]) rfl ?_
          exact h
      · replace h := h.2 h3
        refine Wp.steps 4 (pc' := 216) (lv' := [some (.ref 0), some (.ref 100), some (.ref 57), some (.long x3), none, some (.int x5), some (.int 0), some (.int (x7 + 1)), some (.int v1), none]) (st' := []) (I' := I2) (J' := J2) rfl ?_
        refine Wp.drop [8] (lv' := [some (.ref 0), some (.ref 100), some (.ref 57), some (.long x3), none, some (.int x5), some (.int 0), some (.int (x7 + 1)), none, none]) rfl ?_
        exact h
  · replace h := h.2 h1
    refine Wp.steps 2 (pc' := 308) (lv' := [some (.ref 0), some (.ref 100), some (.ref 57), some (.long x3), none, some (.int x5), some (.int x6), some (.int x7), none, none]) (st' := [.int 15, .ref 100]) (I' := I) (J' := J) rfl ?_
    refine Wp.call (M' := Lw_cell) (as := [.ref 100, .int 15]) (rest := []) rfl (CI.use h (fun v1 I1 J1 h => ?_))
    refine Wp.eqs (pc' := 311) (st' := [.int v1]) rfl rfl ?_
    refine Wp.steps 3 (pc' := 316) (lv' := [some (.ref 0), some (.ref 100), some (.ref 57), some (.long x3), none, some (.int x5), some (.int x6), some (.int x7), none, none]) (st' := [.int x5, .int (v1 &&& 7)]) (I' := I1) (J' := J1) rfl ?_
    refine Wp.irem rfl h.1 ?_
    replace h := h.2
    refine Wp.steps 2 (pc' := 321) (lv' := [some (.ref 0), some (.ref 100), some (.ref 57), some (.long x3), none, some (.int x5), some (.int x6), some (.int (rmI (v1 &&& 7) x5)), none, none]) (st' := [.int x6]) (I' := I1) (J' := J1) rfl ?_
    refine Wp.steps 1 (pc' := if x6 = 0 then 356 else 324) (lv' := [some (.ref 0), some (.ref 100), some (.ref 57), some (.long x3), none, some (.int x5), some (.int x6), some (.int (rmI (v1 &&& 7) x5)), none, none]) (st' := []) (I' := I1) (J' := J1) rfl (Wp.ite (fun h2 => ?_) (fun h2 => ?_))
    · replace h := h.1 h2
      refine Wp.steps 5 (pc' := 389) (lv' := [some (.ref 0), some (.ref 100), some (.ref 57), some (.long x3), none, some (.int x5), some (.int 0), some (.int (rmI (v1 &&& 7) x5)), none, none]) (st' := [.int 0]) (I' := I1) (J' := J1) rfl ?_
      exact Wp.ret rfl h
    · replace h := h.2 h2
      refine Wp.steps 4 (pc' := 329) (lv' := [some (.ref 0), some (.ref 100), some (.ref 57), some (.long x3), none, some (.int x5), some (.int x6), some (.int (rmI (v1 &&& 7) x5)), none, none]) (st' := [.int (rmI (v1 &&& 7) x5), .ref 57, .ref 100, .ref 0]) (I' := I1) (J' := J1) rfl ?_
      refine Wp.call (M' := Lw_flipped) (as := [.ref 0, .ref 100, .ref 57, .int (rmI (v1 &&& 7) x5)]) (rest := []) rfl (CI.use h (fun v2 I2 J2 h => ?_))
      refine Wp.eqs (pc' := 332) (st' := [.int v2]) rfl rfl ?_
      refine Wp.steps 1 (pc' := if v2 = 0 then 356 else 335) (lv' := [some (.ref 0), some (.ref 100), some (.ref 57), some (.long x3), none, some (.int x5), some (.int x6), some (.int (rmI (v1 &&& 7) x5)), none, none]) (st' := []) (I' := I2) (J' := J2) rfl (Wp.ite (fun h3 => ?_) (fun h3 => ?_))
      · replace h := h.1 h3
        refine Wp.steps 5 (pc' := 389) (lv' := [some (.ref 0), some (.ref 100), some (.ref 57), some (.long x3), none, some (.int x5), some (.int 0), some (.int (rmI (v1 &&& 7) x5)), none, none]) (st' := [.int 0]) (I' := I2) (J' := J2) rfl ?_
        exact Wp.ret rfl h
      · replace h := h.2 h3
        refine Wp.steps 6 (pc' := 343) (lv' := [some (.ref 0), some (.ref 100), some (.ref 57), some (.long x3), none, some (.int x5), some (.int x6), some (.int (rmI (v1 &&& 7) x5)), none, none]) (st' := [.int x5, .int 0, .int 1, .int 3, .int (-4), .ref 0]) (I' := I2) (J' := J2) rfl ?_
        refine Wp.call (M' := Sb_clicks) (as := [.ref 0, .int (-4), .int 3, .int 1, .int 0, .int x5]) (rest := []) rfl (CI.use h (fun v3 I3 J3 h => ?_))
        refine Wp.eqs (pc' := 346) (st' := [.int v3]) rfl rfl ?_
        refine Wp.steps 2 (pc' := 349) (lv' := [some (.ref 0), some (.ref 100), some (.ref 57), some (.long x3), none, some (.int x5), some (.int x6), some (.int (rmI (v1 &&& 7) x5)), none, none]) (st' := [.int (v3 &&& 64)]) (I' := I3) (J' := J3) rfl ?_
        refine Wp.steps 1 (pc' := if (v3 &&& 64) = 0 then 352 else 356) (lv' := [some (.ref 0), some (.ref 100), some (.ref 57), some (.long x3), none, some (.int x5), some (.int x6), some (.int (rmI (v1 &&& 7) x5)), none, none]) (st' := []) (I' := I3) (J' := J3) rfl (Wp.ite (fun h4 => ?_) (fun h4 => ?_))
        · replace h := h.1 h4
          refine Wp.steps 7 (pc' := 366) (lv' := [some (.ref 0), some (.ref 100), some (.ref 57), some (.long x3), none, some (.int x5), some (.int 1), some (.int (rmI (v1 &&& 7) x5)), none, none]) (st' := [.int 3, .ref 0]) (I' := I3) (J' := J3) rfl ?_
          refine Wp.call (M' := Sb_drop) (as := [.ref 0, .int 3]) (rest := []) rfl (CI.use h (fun v4 I4 J4 h => ?_))
          refine Wp.eqs (pc' := 369) (st' := [.int v4]) rfl rfl ?_
          refine Wp.steps 1 (pc' := 371) (lv' := [some (.ref 0), some (.ref 100), some (.ref 57), some (.long x3), none, some (.int x5), some (.int 1), some (.int (rmI (v1 &&& 7) x5)), none, none]) (st' := [.int 16, .int v4]) (I' := I4) (J' := J4) rfl ?_
          refine Wp.steps 1 (pc' := if v4 = 16 then 374 else 388) (lv' := [some (.ref 0), some (.ref 100), some (.ref 57), some (.long x3), none, some (.int x5), some (.int 1), some (.int (rmI (v1 &&& 7) x5)), none, none]) (st' := []) (I' := I4) (J' := J4) rfl (Wp.ite (fun h5 => ?_) (fun h5 => ?_))
          · replace h := h.1 h5
            refine Wp.steps 2 (pc' := 376) (lv' := [some (.ref 0), some (.ref 100), some (.ref 57), some (.long x3), none, some (.int x5), some (.int 1), some (.int (rmI (v1 &&& 7) x5)), none, none]) (st' := [.ref 57, .ref 0]) (I' := I4) (J' := J4) rfl ?_
            refine Wp.call (M' := Lw_hash) (as := [.ref 0, .ref 57]) (rest := []) rfl (CL.use h (fun v5 I5 J5 h => ?_))
            refine Wp.eqs (pc' := 379) (st' := [.long v5]) rfl rfl ?_
            refine Wp.steps 2 (pc' := 381) (lv' := [some (.ref 0), some (.ref 100), some (.ref 57), some (.long x3), none, some (.int x5), some (.int 1), some (.int (rmI (v1 &&& 7) x5)), none, none]) (st' := [.int (lg_cmp v5 x3)]) (I' := I5) (J' := J5) rfl ?_
            refine Wp.steps 1 (pc' := if (lg_cmp v5 x3) = 0 then 384 else 388) (lv' := [some (.ref 0), some (.ref 100), some (.ref 57), some (.long x3), none, some (.int x5), some (.int 1), some (.int (rmI (v1 &&& 7) x5)), none, none]) (st' := []) (I' := I5) (J' := J5) rfl (Wp.ite (fun h6 => ?_) (fun h6 => ?_))
            · replace h := h.1 h6
              refine Wp.steps 2 (pc' := 389) (lv' := [some (.ref 0), some (.ref 100), some (.ref 57), some (.long x3), none, some (.int x5), some (.int 1), some (.int (rmI (v1 &&& 7) x5)), none, none]) (st' := [.int 1]) (I' := I5) (J' := J5) rfl ?_
              exact Wp.ret rfl h
            · replace h := h.2 h6
              refine Wp.steps 1 (pc' := 389) (lv' := [some (.ref 0), some (.ref 100), some (.ref 57), some (.long x3), none, some (.int x5), some (.int 1), some (.int (rmI (v1 &&& 7) x5)), none, none]) (st' := [.int 0]) (I' := I5) (J' := J5) rfl ?_
              exact Wp.ret rfl h
          · replace h := h.2 h5
            refine Wp.steps 1 (pc' := 389) (lv' := [some (.ref 0), some (.ref 100), some (.ref 57), some (.long x3), none, some (.int x5), some (.int 1), some (.int (rmI (v1 &&& 7) x5)), none, none]) (st' := [.int 0]) (I' := I4) (J' := J4) rfl ?_
            exact Wp.ret rfl h
        · replace h := h.2 h4
          refine Wp.steps 5 (pc' := 389) (lv' := [some (.ref 0), some (.ref 100), some (.ref 57), some (.long x3), none, some (.int x5), some (.int 0), some (.int (rmI (v1 &&& 7) x5)), none, none]) (st' := [.int 0]) (I' := I3) (J' := J3) rfl ?_
          exact Wp.ret rfl h
set_option maxHeartbeats 16000000 in
theorem v_Lw_sort_0 {d : Nat} {Q : Post} {I : I2} {J : J2} {x0 : Int32} (h : (x0 = 0 → Q (some (.int 112)) I J) ∧ (¬ (x0 = 0) → (x0 = 1 → Q (some (.int 115)) I J) ∧ (¬ (x0 = 1) → (x0 = 2 → Q (some (.int 114)) I J) ∧ (¬ (x0 = 2) → (x0 = 3 → Q (some (.int 108)) I J) ∧ (¬ (x0 = 3) → Q (some (.int 98)) I J))))) : Wp d Lw_sort Q 0 [some (.int x0)] [] I J := by
  refine Wp.steps 1 (pc' := 1) (lv' := [some (.int x0)]) (st' := [.int x0]) (I' := I) (J' := J) rfl ?_
  refine Wp.steps 1 (pc' := if x0 = 0 then 4 else 9) (lv' := [some (.int x0)]) (st' := []) (I' := I) (J' := J) rfl (Wp.ite (fun h1 => ?_) (fun h1 => ?_))
  · replace h := h.1 h1
    refine Wp.steps 2 (pc' := 41) (lv' := [some (.int x0)]) (st' := [.int 112]) (I' := I) (J' := J) rfl ?_
    exact Wp.ret rfl h
  · replace h := h.2 h1
    refine Wp.steps 2 (pc' := 11) (lv' := [some (.int x0)]) (st' := [.int 1, .int x0]) (I' := I) (J' := J) rfl ?_
    refine Wp.steps 1 (pc' := if x0 = 1 then 14 else 19) (lv' := [some (.int x0)]) (st' := []) (I' := I) (J' := J) rfl (Wp.ite (fun h2 => ?_) (fun h2 => ?_))
    · replace h := h.1 h2
      refine Wp.steps 2 (pc' := 41) (lv' := [some (.int x0)]) (st' := [.int 115]) (I' := I) (J' := J) rfl ?_
      exact Wp.ret rfl h
    · replace h := h.2 h2
      refine Wp.steps 2 (pc' := 21) (lv' := [some (.int x0)]) (st' := [.int 2, .int x0]) (I' := I) (J' := J) rfl ?_
      refine Wp.steps 1 (pc' := if x0 = 2 then 24 else 29) (lv' := [some (.int x0)]) (st' := []) (I' := I) (J' := J) rfl (Wp.ite (fun h3 => ?_) (fun h3 => ?_))
      · replace h := h.1 h3
        refine Wp.steps 2 (pc' := 41) (lv' := [some (.int x0)]) (st' := [.int 114]) (I' := I) (J' := J) rfl ?_
        exact Wp.ret rfl h
      · replace h := h.2 h3
        refine Wp.steps 2 (pc' := 31) (lv' := [some (.int x0)]) (st' := [.int 3, .int x0]) (I' := I) (J' := J) rfl ?_
        refine Wp.steps 1 (pc' := if x0 = 3 then 34 else 39) (lv' := [some (.int x0)]) (st' := []) (I' := I) (J' := J) rfl (Wp.ite (fun h4 => ?_) (fun h4 => ?_))
        · replace h := h.1 h4
          refine Wp.steps 2 (pc' := 41) (lv' := [some (.int x0)]) (st' := [.int 108]) (I' := I) (J' := J) rfl ?_
          exact Wp.ret rfl h
        · replace h := h.2 h4
          refine Wp.steps 1 (pc' := 41) (lv' := [some (.int x0)]) (st' := [.int 98]) (I' := I) (J' := J) rfl ?_
          exact Wp.ret rfl h
set_option maxHeartbeats 16000000 in
theorem v_Lw_digits_0_0 {d : Nat} {Q : Post} {I : I2} {J : J2} {x1 : Int32} (h : Wp d Lw_digits Q 4 [some (.ref 0), some (.int x1), some (.int 1), some (.int 0)] [] I J) : Wp d Lw_digits Q 0 [some (.ref 0), some (.int x1), none, none] [] I J := by
  refine Wp.steps 4 (pc' := 4) (lv' := [some (.ref 0), some (.int x1), some (.int 1), some (.int 0)]) (st' := []) (I' := I) (J' := J) rfl ?_
  exact h
set_option maxHeartbeats 16000000 in
theorem v_Lw_digits_0_4 {d : Nat} {Q : Post} {I : I2} {J : J2} {x1 : Int32} {x2 : Int32} {x3 : Int32} (h : (x3 < 4 → (x2 = 0 → (x2 = 0 ∨ x2 = 1) ∧ Q (some (.int x2)) I J) ∧ (¬ (x2 = 0) → (((srI x1 x3) &&& 1) = 0 → Wp d Lw_digits Q 4 [some (.ref 0), some (.int x1), some (.int 1), some (.int (x3 + 1))] [] I J) ∧ (¬ (((srI x1 x3) &&& 1) = 0) → CI d Sb_type [.ref 0, .int (48 + x3)] I J (fun v1 I1 J1 => (0 < v1 → Wp d Lw_digits Q 4 [some (.ref 0), some (.int x1), some (.int 1), some (.int (x3 + 1))] [] I1 J1) ∧ (¬ (0 < v1) → Wp d Lw_digits Q 4 [some (.ref 0), some (.int x1), some (.int 0), some (.int (x3 + 1))] [] I1 J1))))) ∧ (¬ (x3 < 4) → (x2 = 0 ∨ x2 = 1) ∧ Q (some (.int x2)) I J)) : Wp d Lw_digits Q 4 [some (.ref 0), some (.int x1), some (.int x2), some (.int x3)] [] I J := by
  refine Wp.steps 2 (pc' := 6) (lv' := [some (.ref 0), some (.int x1), some (.int x2), some (.int x3)]) (st' := [.int 4, .int x3]) (I' := I) (J' := J) rfl ?_
  refine Wp.steps 1 (pc' := if x3 < 4 then 9 else 44) (lv' := [some (.ref 0), some (.int x1), some (.int x2), some (.int x3)]) (st' := []) (I' := I) (J' := J) rfl (Wp.ite (fun h1 => ?_) (fun h1 => ?_))
  · replace h := h.1 h1
    refine Wp.steps 1 (pc' := 10) (lv' := [some (.ref 0), some (.int x1), some (.int x2), some (.int x3)]) (st' := [.int x2]) (I' := I) (J' := J) rfl ?_
    refine Wp.steps 1 (pc' := if x2 = 0 then 44 else 13) (lv' := [some (.ref 0), some (.int x1), some (.int x2), some (.int x3)]) (st' := []) (I' := I) (J' := J) rfl (Wp.ite (fun h2 => ?_) (fun h2 => ?_))
    · replace h := h.1 h2
      refine Wp.steps 1 (pc' := 45) (lv' := [some (.ref 0), some (.int x1), some (.int x2), some (.int x3)]) (st' := [.int x2]) (I' := I) (J' := J) rfl ?_
      exact Wp.retZ rfl rfl rfl h.1 h.2
    · replace h := h.2 h2
      refine Wp.steps 5 (pc' := 18) (lv' := [some (.ref 0), some (.int x1), some (.int x2), some (.int x3)]) (st' := [.int ((srI x1 x3) &&& 1)]) (I' := I) (J' := J) rfl ?_
      refine Wp.steps 1 (pc' := if ((srI x1 x3) &&& 1) = 0 then 32 else 21) (lv' := [some (.ref 0), some (.int x1), some (.int x2), some (.int x3)]) (st' := []) (I' := I) (J' := J) rfl (Wp.ite (fun h3 => ?_) (fun h3 => ?_))
      · replace h := h.1 h3
        refine Wp.steps 5 (pc' := 4) (lv' := [some (.ref 0), some (.int x1), some (.int 1), some (.int (x3 + 1))]) (st' := []) (I' := I) (J' := J) rfl ?_
        exact h
      · replace h := h.2 h3
        refine Wp.steps 4 (pc' := 26) (lv' := [some (.ref 0), some (.int x1), some (.int x2), some (.int x3)]) (st' := [.int (48 + x3), .ref 0]) (I' := I) (J' := J) rfl ?_
        refine Wp.call (M' := Sb_type) (as := [.ref 0, .int (48 + x3)]) (rest := []) rfl (CI.use h (fun v1 I1 J1 h => ?_))
        refine Wp.eqs (pc' := 29) (st' := [.int v1]) rfl rfl ?_
        refine Wp.steps 1 (pc' := if 0 < v1 then 32 else 36) (lv' := [some (.ref 0), some (.int x1), some (.int x2), some (.int x3)]) (st' := []) (I' := I1) (J' := J1) rfl (Wp.ite (fun h4 => ?_) (fun h4 => ?_))
        · replace h := h.1 h4
          refine Wp.steps 5 (pc' := 4) (lv' := [some (.ref 0), some (.int x1), some (.int 1), some (.int (x3 + 1))]) (st' := []) (I' := I1) (J' := J1) rfl ?_
          exact h
        · replace h := h.2 h4
          refine Wp.steps 4 (pc' := 4) (lv' := [some (.ref 0), some (.int x1), some (.int 0), some (.int (x3 + 1))]) (st' := []) (I' := I1) (J' := J1) rfl ?_
          exact h
  · replace h := h.2 h1
    refine Wp.steps 1 (pc' := 45) (lv' := [some (.ref 0), some (.int x1), some (.int x2), some (.int x3)]) (st' := [.int x2]) (I' := I) (J' := J) rfl ?_
    exact Wp.retZ rfl rfl rfl h.1 h.2
set_option maxHeartbeats 16000000 in
theorem v_Lw_outs_57_0 {d : Nat} {Q : Post} {I : I2} {J : J2} (h : Wp d Lw_outs Q 4 [some (.ref 57), some (.int 0), some (.int 0)] [] I J) : Wp d Lw_outs Q 0 [some (.ref 57), none, none] [] I J := by
  refine Wp.steps 4 (pc' := 4) (lv' := [some (.ref 57), some (.int 0), some (.int 0)]) (st' := []) (I' := I) (J' := J) rfl ?_
  exact h
set_option maxHeartbeats 16000000 in
theorem v_Lw_outs_57_4 {d : Nat} {Q : Post} {I : I2} {J : J2} {x1 : Int32} {x2 : Int32} (h : (x2 < (I 57 0) → CI d Lw_place [.int (I 57 5), .int x2] I J (fun v1 I1 J1 => (0 < v1 → Wp d Lw_outs Q 4 [some (.ref 57), some (.int (x1 ||| (slI 1 x2))), some (.int (x2 + 1))] [] I1 J1) ∧ (¬ (0 < v1) → Wp d Lw_outs Q 4 [some (.ref 57), some (.int (x1 ||| 0)), some (.int (x2 + 1))] [] I1 J1))) ∧ (¬ (x2 < (I 57 0)) → Q (some (.int x1)) I J)) : Wp d Lw_outs Q 4 [some (.ref 57), some (.int x1), some (.int x2)] [] I J := by
  refine Wp.steps 4 (pc' := 8) (lv' := [some (.ref 57), some (.int x1), some (.int x2)]) (st' := [.int (I 57 0), .int x2]) (I' := I) (J' := J) rfl ?_
  refine Wp.steps 1 (pc' := if x2 < (I 57 0) then 11 else 37) (lv' := [some (.ref 57), some (.int x1), some (.int x2)]) (st' := []) (I' := I) (J' := J) rfl (Wp.ite (fun h1 => ?_) (fun h1 => ?_))
  · replace h := h.1 h1
    refine Wp.steps 5 (pc' := 16) (lv' := [some (.ref 57), some (.int x1), some (.int x2)]) (st' := [.int x2, .int (I 57 5), .int x1]) (I' := I) (J' := J) rfl ?_
    refine Wp.call (M' := Lw_place) (as := [.int (I 57 5), .int x2]) (rest := [.int x1]) rfl (CI.use h (fun v1 I1 J1 h => ?_))
    refine Wp.eqs (pc' := 19) (st' := [.int v1, .int x1]) rfl rfl ?_
    refine Wp.steps 1 (pc' := if 0 < v1 then 22 else 28) (lv' := [some (.ref 57), some (.int x1), some (.int x2)]) (st' := [.int x1]) (I' := I1) (J' := J1) rfl (Wp.ite (fun h2 => ?_) (fun h2 => ?_))
    · replace h := h.1 h2
      refine Wp.steps 8 (pc' := 4) (lv' := [some (.ref 57), some (.int (x1 ||| (slI 1 x2))), some (.int (x2 + 1))]) (st' := []) (I' := I1) (J' := J1) rfl ?_
      exact h
    · replace h := h.2 h2
      refine Wp.steps 5 (pc' := 4) (lv' := [some (.ref 57), some (.int (x1 ||| 0)), some (.int (x2 + 1))]) (st' := []) (I' := I1) (J' := J1) rfl ?_
      exact h
  · replace h := h.2 h1
    refine Wp.steps 1 (pc' := 38) (lv' := [some (.ref 57), some (.int x1), some (.int x2)]) (st' := [.int x1]) (I' := I) (J' := J) rfl ?_
    exact Wp.ret rfl h
set_option maxHeartbeats 16000000 in
theorem v_Lw_size_0 {d : Nat} {Q : Post} {I : I2} {J : J2} {x0 : Int32} (h : Wp d Lw_size Q 4 [some (.int x0), some (.int 0), some (.int 0)] [] I J) : Wp d Lw_size Q 0 [some (.int x0), none, none] [] I J := by
  refine Wp.steps 4 (pc' := 4) (lv' := [some (.int x0), some (.int 0), some (.int 0)]) (st' := []) (I' := I) (J' := J) rfl ?_
  exact h
set_option maxHeartbeats 16000000 in
theorem v_Lw_size_4 {d : Nat} {Q : Post} {I : I2} {J : J2} {x0 : Int32} {x1 : Int32} {x2 : Int32} (h : (x2 < 6 → Wp d Lw_size Q 4 [some (.int x0), some (.int (x1 + ((srI x0 x2) &&& 1))), some (.int (x2 + 1))] [] I J) ∧ (¬ (x2 < 6) → Q (some (.int x1)) I J)) : Wp d Lw_size Q 4 [some (.int x0), some (.int x1), some (.int x2)] [] I J := by
  refine Wp.steps 2 (pc' := 7) (lv' := [some (.int x0), some (.int x1), some (.int x2)]) (st' := [.int 6, .int x2]) (I' := I) (J' := J) rfl ?_
  refine Wp.steps 1 (pc' := if x2 < 6 then 10 else 24) (lv' := [some (.int x0), some (.int x1), some (.int x2)]) (st' := []) (I' := I) (J' := J) rfl (Wp.ite (fun h1 => ?_) (fun h1 => ?_))
  · replace h := h.1 h1
    refine Wp.steps 10 (pc' := 4) (lv' := [some (.int x0), some (.int (x1 + ((srI x0 x2) &&& 1))), some (.int (x2 + 1))]) (st' := []) (I' := I) (J' := J) rfl ?_
    exact h
  · replace h := h.2 h1
    refine Wp.steps 1 (pc' := 25) (lv' := [some (.int x0), some (.int x1), some (.int x2)]) (st' := [.int x1]) (I' := I) (J' := J) rfl ?_
    exact Wp.ret rfl h
set_option maxHeartbeats 16000000 in
theorem v_Lw_slid_57_0 {d : Nat} {Q : Post} {I : I2} {J : J2} {x1 : Int32} {x2 : Int32} {x3 : Int32} {x4 : Int32} (h : CI d Lw_place [.int x1, .int x2] I J (fun v1 I1 J1 => vp_in (6 + (2 * x2)) 40 ∧ ((((v1 + (2 * x3)) - 1) < 0 → Wp d Lw_slid Q 51 [some (.ref 57), some (.int x1), some (.int x2), some (.int x3), some (.int x4), some (.int ((v1 + (2 * x3)) - 1)), some (.int (I1 57 (tN (6 + (2 * x2))))), some (.int 0), some (.int 0), none, none, none, none] [] I1 J1) ∧ (¬ (((v1 + (2 * x3)) - 1) < 0) → vp_in (7 + (2 * x2)) 40 ∧ (((I1 57 (tN (7 + (2 * x2)))) < ((v1 + (2 * x3)) - 1) → Wp d Lw_slid Q 51 [some (.ref 57), some (.int x1), some (.int x2), some (.int x3), some (.int x4), some (.int ((v1 + (2 * x3)) - 1)), some (.int (I1 57 (tN (6 + (2 * x2))))), some (.int 0), some (.int 0), none, none, none, none] [] I1 J1) ∧ (¬ ((I1 57 (tN (7 + (2 * x2)))) < ((v1 + (2 * x3)) - 1)) → Wp d Lw_slid Q 51 [some (.ref 57), some (.int x1), some (.int x2), some (.int x3), some (.int x4), some (.int ((v1 + (2 * x3)) - 1)), some (.int (I1 57 (tN (6 + (2 * x2))))), some (.int 1), some (.int 0), none, none, none, none] [] I1 J1)))))) : Wp d Lw_slid Q 0 [some (.ref 57), some (.int x1), some (.int x2), some (.int x3), some (.int x4), none, none, none, none, none, none, none, none] [] I J := by
  refine Wp.steps 2 (pc' := 2) (lv' := [some (.ref 57), some (.int x1), some (.int x2), some (.int x3), some (.int x4), none, none, none, none, none, none, none, none]) (st' := [.int x2, .int x1]) (I' := I) (J' := J) rfl ?_
  refine Wp.call (M' := Lw_place) (as := [.int x1, .int x2]) (rest := []) rfl (CI.use h (fun v1 I1 J1 h => ?_))
  refine Wp.eqs (pc' := 5) (st' := [.int v1]) rfl rfl ?_
  refine Wp.steps 13 (pc' := 20) (lv' := [some (.ref 57), some (.int x1), some (.int x2), some (.int x3), some (.int x4), some (.int ((v1 + (2 * x3)) - 1)), none, none, none, none, none, none, none]) (st' := [.int (6 + (2 * x2)), .ref 57]) (I' := I1) (J' := J1) rfl ?_
  refine Wp.iald rfl rfl h.1 ?_
  replace h := h.2
  refine Wp.steps 2 (pc' := 25) (lv' := [some (.ref 57), some (.int x1), some (.int x2), some (.int x3), some (.int x4), some (.int ((v1 + (2 * x3)) - 1)), some (.int (I1 57 (tN (6 + (2 * x2))))), none, none, none, none, none, none]) (st' := [.int ((v1 + (2 * x3)) - 1)]) (I' := I1) (J' := J1) rfl ?_
  refine Wp.steps 1 (pc' := if ((v1 + (2 * x3)) - 1) < 0 then 45 else 28) (lv' := [some (.ref 57), some (.int x1), some (.int x2), some (.int x3), some (.int x4), some (.int ((v1 + (2 * x3)) - 1)), some (.int (I1 57 (tN (6 + (2 * x2))))), none, none, none, none, none, none]) (st' := []) (I' := I1) (J' := J1) rfl (Wp.ite (fun h1 => ?_) (fun h1 => ?_))
  · replace h := h.1 h1
    refine Wp.steps 4 (pc' := 51) (lv' := [some (.ref 57), some (.int x1), some (.int x2), some (.int x3), some (.int x4), some (.int ((v1 + (2 * x3)) - 1)), some (.int (I1 57 (tN (6 + (2 * x2))))), some (.int 0), some (.int 0), none, none, none, none]) (st' := []) (I' := I1) (J' := J1) rfl ?_
    exact h
  · replace h := h.2 h1
    refine Wp.steps 7 (pc' := 37) (lv' := [some (.ref 57), some (.int x1), some (.int x2), some (.int x3), some (.int x4), some (.int ((v1 + (2 * x3)) - 1)), some (.int (I1 57 (tN (6 + (2 * x2))))), none, none, none, none, none, none]) (st' := [.int (7 + (2 * x2)), .ref 57, .int ((v1 + (2 * x3)) - 1)]) (I' := I1) (J' := J1) rfl ?_
    refine Wp.iald rfl rfl h.1 ?_
    replace h := h.2
    refine Wp.steps 1 (pc' := if (I1 57 (tN (7 + (2 * x2)))) < ((v1 + (2 * x3)) - 1) then 45 else 41) (lv' := [some (.ref 57), some (.int x1), some (.int x2), some (.int x3), some (.int x4), some (.int ((v1 + (2 * x3)) - 1)), some (.int (I1 57 (tN (6 + (2 * x2))))), none, none, none, none, none, none]) (st' := []) (I' := I1) (J' := J1) rfl (Wp.ite (fun h2 => ?_) (fun h2 => ?_))
    · replace h := h.1 h2
      refine Wp.steps 4 (pc' := 51) (lv' := [some (.ref 57), some (.int x1), some (.int x2), some (.int x3), some (.int x4), some (.int ((v1 + (2 * x3)) - 1)), some (.int (I1 57 (tN (6 + (2 * x2))))), some (.int 0), some (.int 0), none, none, none, none]) (st' := []) (I' := I1) (J' := J1) rfl ?_
      exact h
    · replace h := h.2 h2
      refine Wp.steps 5 (pc' := 51) (lv' := [some (.ref 57), some (.int x1), some (.int x2), some (.int x3), some (.int x4), some (.int ((v1 + (2 * x3)) - 1)), some (.int (I1 57 (tN (6 + (2 * x2))))), some (.int 1), some (.int 0), none, none, none, none]) (st' := []) (I' := I1) (J' := J1) rfl ?_
      exact h
set_option maxHeartbeats 16000000 in
theorem v_Lw_slid_57_51 {d : Nat} {Q : Post} {I : I2} {J : J2} {x1 : Int32} {x2 : Int32} {x3 : Int32} {x4 : Int32} {x5 : Int32} {x6 : Int32} {x7 : Int32} {x8 : Int32} (h : (x8 < (I 57 1) → (((srI x4 x8) &&& 1) = 0 → vp_in (16 + (4 * x8)) 40 ∧ (((I 57 (tN (16 + (4 * x8)))) = x2 → vp_in ((16 + (4 * x8)) + 1) 40 ∧ (((I 57 (tN ((16 + (4 * x8)) + 1))) = (1 - x3) → Wp d Lw_slid Q 124 [some (.ref 57), some (.int x1), some (.int x2), some (.int x3), some (.int x4), some (.int x5), some (.int x6), some (.int x7), some (.int x8), some (.int (16 + (4 * x8))), none, none, none] [] I J) ∧ (¬ ((I 57 (tN ((16 + (4 * x8)) + 1))) = (1 - x3)) → vp_in ((16 + (4 * x8)) + 3) 40 ∧ (vp_in ((16 + (4 * x8)) + 2) 40 ∧ (CI d Lw_place [.int x1, .int (I 57 (tN ((16 + (4 * x8)) + 2)))] I J (fun v1 I1 J1 => (((srI (I 57 (tN ((16 + (4 * x8)) + 3))) v1) &&& 1) = 0 → (x7 = 0 → Wp d Lw_slid Q 51 [some (.ref 57), some (.int x1), some (.int x2), some (.int x3), some (.int x4), some (.int x5), some (.int x6), some (.int 0), some (.int (x8 + 1)), none, none, none, none] [] I1 J1) ∧ (¬ (x7 = 0) → Wp d Lw_slid Q 51 [some (.ref 57), some (.int x1), some (.int x2), some (.int x3), some (.int x4), some (.int x5), some (.int x6), some (.int 0), some (.int (x8 + 1)), none, none, none, none] [] I1 J1)) ∧ (¬ (((srI (I 57 (tN ((16 + (4 * x8)) + 3))) v1) &&& 1) = 0) → Wp d Lw_slid Q 124 [some (.ref 57), some (.int x1), some (.int x2), some (.int x3), some (.int x4), some (.int x5), some (.int x6), some (.int x7), some (.int x8), some (.int (16 + (4 * x8))), none, none, none] [] I1 J1))))))) ∧ (¬ ((I 57 (tN (16 + (4 * x8)))) = x2) → Wp d Lw_slid Q 124 [some (.ref 57), some (.int x1), some (.int x2), some (.int x3), some (.int x4), some (.int x5), some (.int x6), some (.int x7), some (.int x8), some (.int (16 + (4 * x8))), none, none, none] [] I J))) ∧ (¬ (((srI x4 x8) &&& 1) = 0) → Wp d Lw_slid Q 124 [some (.ref 57), some (.int x1), some (.int x2), some (.int x3), some (.int x4), some (.int x5), some (.int x6), some (.int x7), some (.int x8), some (.int (16 + (4 * x8))), none, none, none] [] I J)) ∧ (¬ (x8 < (I 57 1)) → (0 < x2 → (x6 = 2 → (x7 = 0 → Wp d Lw_slid Q 196 [some (.ref 57), some (.int x1), some (.int x2), some (.int x3), some (.int x4), some (.int x5), some (.int x6), some (.int 0), some (.int 0), none, none, none, none] [] I J) ∧ (¬ (x7 = 0) → CI d Lw_place [.int x1, .int (x2 - 1)] I J (fun v1 I1 J1 => (0 < v1 → Wp d Lw_slid Q 196 [some (.ref 57), some (.int x1), some (.int x2), some (.int x3), some (.int x4), some (.int x5), some (.int x6), some (.int 1), some (.int 0), none, none, none, none] [] I1 J1) ∧ (¬ (0 < v1) → Wp d Lw_slid Q 196 [some (.ref 57), some (.int x1), some (.int x2), some (.int x3), some (.int x4), some (.int x5), some (.int x6), some (.int 0), some (.int 0), none, none, none, none] [] I1 J1)))) ∧ (¬ (x6 = 2) → (x6 = 4 → (x3 = 1 → (x7 = 0 → Wp d Lw_slid Q 196 [some (.ref 57), some (.int x1), some (.int x2), some (.int x3), some (.int x4), some (.int x5), some (.int x6), some (.int 0), some (.int 0), none, none, none, none] [] I J) ∧ (¬ (x7 = 0) → CI d Lw_place [.int x1, .int (x2 - 1)] I J (fun v1 I1 J1 => (0 < v1 → Wp d Lw_slid Q 196 [some (.ref 57), some (.int x1), some (.int x2), some (.int x3), some (.int x4), some (.int x5), some (.int x6), some (.int 1), some (.int 0), none, none, none, none] [] I1 J1) ∧ (¬ (0 < v1) → Wp d Lw_slid Q 196 [some (.ref 57), some (.int x1), some (.int x2), some (.int x3), some (.int x4), some (.int x5), some (.int x6), some (.int 0), some (.int 0), none, none, none, none] [] I1 J1)))) ∧ (¬ (x3 = 1) → Wp d Lw_slid Q 241 [some (.ref 57), some (.int x1), some (.int x2), some (.int x3), some (.int x4), some (.int x5), some (.int x6), some (.int x7), some (.int 0), some (.int ((I 57 0) - 1)), none, none, none] [] I J)) ∧ (¬ (x6 = 4) → Wp d Lw_slid Q 241 [some (.ref 57), some (.int x1), some (.int x2), some (.int x3), some (.int x4), some (.int x5), some (.int x6), some (.int x7), some (.int 0), some (.int ((I 57 0) - 1)), none, none, none] [] I J))) ∧ (¬ (0 < x2) → Wp d Lw_slid Q 241 [some (.ref 57), some (.int x1), some (.int x2), some (.int x3), some (.int x4), some (.int x5), some (.int x6), some (.int x7), some (.int 0), some (.int ((I 57 0) - 1)), none, none, none] [] I J))) : Wp d Lw_slid Q 51 [some (.ref 57), some (.int x1), some (.int x2), some (.int x3), some (.int x4), some (.int x5), some (.int x6), some (.int x7), some (.int x8), none, none, none, none] [] I J := by
  refine Wp.steps 4 (pc' := 56) (lv' := [some (.ref 57), some (.int x1), some (.int x2), some (.int x3), some (.int x4), some (.int x5), some (.int x6), some (.int x7), some (.int x8), none, none, none, none]) (st' := [.int (I 57 1), .int x8]) (I' := I) (J' := J) rfl ?_
  refine Wp.steps 1 (pc' := if x8 < (I 57 1) then 59 else 150) (lv' := [some (.ref 57), some (.int x1), some (.int x2), some (.int x3), some (.int x4), some (.int x5), some (.int x6), some (.int x7), some (.int x8), none, none, none, none]) (st' := []) (I' := I) (J' := J) rfl (Wp.ite (fun h1 => ?_) (fun h1 => ?_))
  · replace h := h.1 h1
    refine Wp.steps 11 (pc' := 75) (lv' := [some (.ref 57), some (.int x1), some (.int x2), some (.int x3), some (.int x4), some (.int x5), some (.int x6), some (.int x7), some (.int x8), some (.int (16 + (4 * x8))), none, none, none]) (st' := [.int ((srI x4 x8) &&& 1)]) (I' := I) (J' := J) rfl ?_
    refine Wp.steps 1 (pc' := if ((srI x4 x8) &&& 1) = 0 then 78 else 124) (lv' := [some (.ref 57), some (.int x1), some (.int x2), some (.int x3), some (.int x4), some (.int x5), some (.int x6), some (.int x7), some (.int x8), some (.int (16 + (4 * x8))), none, none, none]) (st' := []) (I' := I) (J' := J) rfl (Wp.ite (fun h2 => ?_) (fun h2 => ?_))
    · replace h := h.1 h2
      refine Wp.steps 2 (pc' := 81) (lv' := [some (.ref 57), some (.int x1), some (.int x2), some (.int x3), some (.int x4), some (.int x5), some (.int x6), some (.int x7), some (.int x8), some (.int (16 + (4 * x8))), none, none, none]) (st' := [.int (16 + (4 * x8)), .ref 57]) (I' := I) (J' := J) rfl ?_
      refine Wp.iald rfl rfl h.1 ?_
      replace h := h.2
      refine Wp.steps 1 (pc' := 83) (lv' := [some (.ref 57), some (.int x1), some (.int x2), some (.int x3), some (.int x4), some (.int x5), some (.int x6), some (.int x7), some (.int x8), some (.int (16 + (4 * x8))), none, none, none]) (st' := [.int x2, .int (I 57 (tN (16 + (4 * x8))))]) (I' := I) (J' := J) rfl ?_
      refine Wp.steps 1 (pc' := if (I 57 (tN (16 + (4 * x8)))) = x2 then 86 else 124) (lv' := [some (.ref 57), some (.int x1), some (.int x2), some (.int x3), some (.int x4), some (.int x5), some (.int x6), some (.int x7), some (.int x8), some (.int (16 + (4 * x8))), none, none, none]) (st' := []) (I' := I) (J' := J) rfl (Wp.ite (fun h3 => ?_) (fun h3 => ?_))
      · replace h := h.1 h3
        refine Wp.steps 4 (pc' := 91) (lv' := [some (.ref 57), some (.int x1), some (.int x2), some (.int x3), some (.int x4), some (.int x5), some (.int x6), some (.int x7), some (.int x8), some (.int (16 + (4 * x8))), none, none, none]) (st' := [.int ((16 + (4 * x8)) + 1), .ref 57]) (I' := I) (J' := J) rfl ?_
        refine Wp.iald rfl rfl h.1 ?_
        replace h := h.2
        refine Wp.steps 3 (pc' := 95) (lv' := [some (.ref 57), some (.int x1), some (.int x2), some (.int x3), some (.int x4), some (.int x5), some (.int x6), some (.int x7), some (.int x8), some (.int (16 + (4 * x8))), none, none, none]) (st' := [.int (1 - x3), .int (I 57 (tN ((16 + (4 * x8)) + 1)))]) (I' := I) (J' := J) rfl ?_
        refine Wp.steps 1 (pc' := if (I 57 (tN ((16 + (4 * x8)) + 1))) = (1 - x3) then 124 else 98) (lv' := [some (.ref 57), some (.int x1), some (.int x2), some (.int x3), some (.int x4), some (.int x5), some (.int x6), some (.int x7), some (.int x8), some (.int (16 + (4 * x8))), none, none, none]) (st' := []) (I' := I) (J' := J) rfl (Wp.ite (fun h4 => ?_) (fun h4 => ?_))
        · replace h := h.1 h4
          exact h
        · replace h := h.2 h4
          refine Wp.steps 4 (pc' := 103) (lv' := [some (.ref 57), some (.int x1), some (.int x2), some (.int x3), some (.int x4), some (.int x5), some (.int x6), some (.int x7), some (.int x8), some (.int (16 + (4 * x8))), none, none, none]) (st' := [.int ((16 + (4 * x8)) + 3), .ref 57]) (I' := I) (J' := J) rfl ?_
          refine Wp.iald rfl rfl h.1 ?_
          replace h := h.2
          refine Wp.steps 5 (pc' := 110) (lv' := [some (.ref 57), some (.int x1), some (.int x2), some (.int x3), some (.int x4), some (.int x5), some (.int x6), some (.int x7), some (.int x8), some (.int (16 + (4 * x8))), none, none, none]) (st' := [.int ((16 + (4 * x8)) + 2), .ref 57, .int x1, .int (I 57 (tN ((16 + (4 * x8)) + 3)))]) (I' := I) (J' := J) rfl ?_
          refine Wp.iald rfl rfl h.1 ?_
          replace h := h.2
          refine Wp.call (M' := Lw_place) (as := [.int x1, .int (I 57 (tN ((16 + (4 * x8)) + 2)))]) (rest := [.int (I 57 (tN ((16 + (4 * x8)) + 3)))]) rfl (CI.use h (fun v1 I1 J1 h => ?_))
          refine Wp.eqs (pc' := 114) (st' := [.int v1, .int (I 57 (tN ((16 + (4 * x8)) + 3)))]) rfl rfl ?_
          refine Wp.steps 3 (pc' := 117) (lv' := [some (.ref 57), some (.int x1), some (.int x2), some (.int x3), some (.int x4), some (.int x5), some (.int x6), some (.int x7), some (.int x8), some (.int (16 + (4 * x8))), none, none, none]) (st' := [.int ((srI (I 57 (tN ((16 + (4 * x8)) + 3))) v1) &&& 1)]) (I' := I1) (J' := J1) rfl ?_
          refine Wp.steps 1 (pc' := if ((srI (I 57 (tN ((16 + (4 * x8)) + 3))) v1) &&& 1) = 0 then 120 else 124) (lv' := [some (.ref 57), some (.int x1), some (.int x2), some (.int x3), some (.int x4), some (.int x5), some (.int x6), some (.int x7), some (.int x8), some (.int (16 + (4 * x8))), none, none, none]) (st' := []) (I' := I1) (J' := J1) rfl (Wp.ite (fun h5 => ?_) (fun h5 => ?_))
          · replace h := h.1 h5
            refine Wp.steps 4 (pc' := 129) (lv' := [some (.ref 57), some (.int x1), some (.int x2), some (.int x3), some (.int x4), some (.int x5), some (.int x6), some (.int x7), some (.int x8), some (.int (16 + (4 * x8))), some (.int 1), none, none]) (st' := [.int x7]) (I' := I1) (J' := J1) rfl ?_
            refine Wp.steps 1 (pc' := if x7 = 0 then 141 else 132) (lv' := [some (.ref 57), some (.int x1), some (.int x2), some (.int x3), some (.int x4), some (.int x5), some (.int x6), some (.int x7), some (.int x8), some (.int (16 + (4 * x8))), some (.int 1), none, none]) (st' := []) (I' := I1) (J' := J1) rfl (Wp.ite (fun h6 => ?_) (fun h6 => ?_))
            · replace h := h.1 h6
              refine Wp.steps 4 (pc' := 51) (lv' := [some (.ref 57), some (.int x1), some (.int x2), some (.int x3), some (.int x4), some (.int x5), some (.int x6), some (.int 0), some (.int (x8 + 1)), some (.int (16 + (4 * x8))), some (.int 1), none, none]) (st' := []) (I' := I1) (J' := J1) rfl ?_
              refine Wp.drop [9, 10] (lv' := [some (.ref 57), some (.int x1), some (.int x2), some (.int x3), some (.int x4), some (.int x5), some (.int x6), some (.int 0), some (.int (x8 + 1)), none, none, none, none]) rfl ?_
              exact h
            · replace h := h.2 h6
              refine Wp.steps 6 (pc' := 51) (lv' := [some (.ref 57), some (.int x1), some (.int x2), some (.int x3), some (.int x4), some (.int x5), some (.int x6), some (.int 0), some (.int (x8 + 1)), some (.int (16 + (4 * x8))), some (.int 1), none, none]) (st' := []) (I' := I1) (J' := J1) rfl ?_
              refine Wp.drop [9, 10] (lv' := [some (.ref 57), some (.int x1), some (.int x2), some (.int x3), some (.int x4), some (.int x5), some (.int x6), some (.int 0), some (.int (x8 + 1)), none, none, none, none]) rfl ?_
              exact h
          · replace h := h.2 h5
            exact h
      · replace h := h.2 h3
        exact h
    · replace h := h.2 h2
      exact h
  · replace h := h.2 h1
    refine Wp.steps 1 (pc' := 151) (lv' := [some (.ref 57), some (.int x1), some (.int x2), some (.int x3), some (.int x4), some (.int x5), some (.int x6), some (.int x7), some (.int x8), none, none, none, none]) (st' := [.int x2]) (I' := I) (J' := J) rfl ?_
    refine Wp.steps 1 (pc' := if 0 < x2 then 154 else 231) (lv' := [some (.ref 57), some (.int x1), some (.int x2), some (.int x3), some (.int x4), some (.int x5), some (.int x6), some (.int x7), some (.int x8), none, none, none, none]) (st' := []) (I' := I) (J' := J) rfl (Wp.ite (fun h2 => ?_) (fun h2 => ?_))
    · replace h := h.1 h2
      refine Wp.steps 2 (pc' := 157) (lv' := [some (.ref 57), some (.int x1), some (.int x2), some (.int x3), some (.int x4), some (.int x5), some (.int x6), some (.int x7), some (.int x8), none, none, none, none]) (st' := [.int 2, .int x6]) (I' := I) (J' := J) rfl ?_
      refine Wp.steps 1 (pc' := if x6 = 2 then 171 else 160) (lv' := [some (.ref 57), some (.int x1), some (.int x2), some (.int x3), some (.int x4), some (.int x5), some (.int x6), some (.int x7), some (.int x8), none, none, none, none]) (st' := []) (I' := I) (J' := J) rfl (Wp.ite (fun h3 => ?_) (fun h3 => ?_))
      · replace h := h.1 h3
        refine Wp.steps 1 (pc' := 173) (lv' := [some (.ref 57), some (.int x1), some (.int x2), some (.int x3), some (.int x4), some (.int x5), some (.int x6), some (.int x7), some (.int x8), none, none, none, none]) (st' := [.int x7]) (I' := I) (J' := J) rfl ?_
        refine Wp.steps 1 (pc' := if x7 = 0 then 190 else 176) (lv' := [some (.ref 57), some (.int x1), some (.int x2), some (.int x3), some (.int x4), some (.int x5), some (.int x6), some (.int x7), some (.int x8), none, none, none, none]) (st' := []) (I' := I) (J' := J) rfl (Wp.ite (fun h4 => ?_) (fun h4 => ?_))
        · replace h := h.1 h4
          refine Wp.steps 4 (pc' := 196) (lv' := [some (.ref 57), some (.int x1), some (.int x2), some (.int x3), some (.int x4), some (.int x5), some (.int x6), some (.int 0), some (.int 0), none, none, none, none]) (st' := []) (I' := I) (J' := J) rfl ?_
          exact h
        · replace h := h.2 h4
          refine Wp.steps 4 (pc' := 180) (lv' := [some (.ref 57), some (.int x1), some (.int x2), some (.int x3), some (.int x4), some (.int x5), some (.int x6), some (.int x7), some (.int x8), none, none, none, none]) (st' := [.int (x2 - 1), .int x1]) (I' := I) (J' := J) rfl ?_
          refine Wp.call (M' := Lw_place) (as := [.int x1, .int (x2 - 1)]) (rest := []) rfl (CI.use h (fun v1 I1 J1 h => ?_))
          refine Wp.eqs (pc' := 183) (st' := [.int v1]) rfl rfl ?_
          refine Wp.steps 1 (pc' := if 0 < v1 then 186 else 190) (lv' := [some (.ref 57), some (.int x1), some (.int x2), some (.int x3), some (.int x4), some (.int x5), some (.int x6), some (.int x7), some (.int x8), none, none, none, none]) (st' := []) (I' := I1) (J' := J1) rfl (Wp.ite (fun h5 => ?_) (fun h5 => ?_))
          · replace h := h.1 h5
            refine Wp.steps 5 (pc' := 196) (lv' := [some (.ref 57), some (.int x1), some (.int x2), some (.int x3), some (.int x4), some (.int x5), some (.int x6), some (.int 1), some (.int 0), none, none, none, none]) (st' := []) (I' := I1) (J' := J1) rfl ?_
            exact h
          · replace h := h.2 h5
            refine Wp.steps 4 (pc' := 196) (lv' := [some (.ref 57), some (.int x1), some (.int x2), some (.int x3), some (.int x4), some (.int x5), some (.int x6), some (.int 0), some (.int 0), none, none, none, none]) (st' := []) (I' := I1) (J' := J1) rfl ?_
            exact h
      · replace h := h.2 h3
        refine Wp.steps 2 (pc' := 163) (lv' := [some (.ref 57), some (.int x1), some (.int x2), some (.int x3), some (.int x4), some (.int x5), some (.int x6), some (.int x7), some (.int x8), none, none, none, none]) (st' := [.int 4, .int x6]) (I' := I) (J' := J) rfl ?_
        refine Wp.steps 1 (pc' := if x6 = 4 then 166 else 231) (lv' := [some (.ref 57), some (.int x1), some (.int x2), some (.int x3), some (.int x4), some (.int x5), some (.int x6), some (.int x7), some (.int x8), none, none, none, none]) (st' := []) (I' := I) (J' := J) rfl (Wp.ite (fun h4 => ?_) (fun h4 => ?_))
        · replace h := h.1 h4
          refine Wp.steps 2 (pc' := 168) (lv' := [some (.ref 57), some (.int x1), some (.int x2), some (.int x3), some (.int x4), some (.int x5), some (.int x6), some (.int x7), some (.int x8), none, none, none, none]) (st' := [.int 1, .int x3]) (I' := I) (J' := J) rfl ?_
          refine Wp.steps 1 (pc' := if x3 = 1 then 171 else 231) (lv' := [some (.ref 57), some (.int x1), some (.int x2), some (.int x3), some (.int x4), some (.int x5), some (.int x6), some (.int x7), some (.int x8), none, none, none, none]) (st' := []) (I' := I) (J' := J) rfl (Wp.ite (fun h5 => ?_) (fun h5 => ?_))
          · replace h := h.1 h5
            refine Wp.steps 1 (pc' := 173) (lv' := [some (.ref 57), some (.int x1), some (.int x2), some (.int x3), some (.int x4), some (.int x5), some (.int x6), some (.int x7), some (.int x8), none, none, none, none]) (st' := [.int x7]) (I' := I) (J' := J) rfl ?_
            refine Wp.steps 1 (pc' := if x7 = 0 then 190 else 176) (lv' := [some (.ref 57), some (.int x1), some (.int x2), some (.int x3), some (.int x4), some (.int x5), some (.int x6), some (.int x7), some (.int x8), none, none, none, none]) (st' := []) (I' := I) (J' := J) rfl (Wp.ite (fun h6 => ?_) (fun h6 => ?_))
            · replace h := h.1 h6
              refine Wp.steps 4 (pc' := 196) (lv' := [some (.ref 57), some (.int x1), some (.int x2), some (.int x3), some (.int x4), some (.int x5), some (.int x6), some (.int 0), some (.int 0), none, none, none, none]) (st' := []) (I' := I) (J' := J) rfl ?_
              exact h
            · replace h := h.2 h6
              refine Wp.steps 4 (pc' := 180) (lv' := [some (.ref 57), some (.int x1), some (.int x2), some (.int x3), some (.int x4), some (.int x5), some (.int x6), some (.int x7), some (.int x8), none, none, none, none]) (st' := [.int (x2 - 1), .int x1]) (I' := I) (J' := J) rfl ?_
              refine Wp.call (M' := Lw_place) (as := [.int x1, .int (x2 - 1)]) (rest := []) rfl (CI.use h (fun v1 I1 J1 h => ?_))
              refine Wp.eqs (pc' := 183) (st' := [.int v1]) rfl rfl ?_
              refine Wp.steps 1 (pc' := if 0 < v1 then 186 else 190) (lv' := [some (.ref 57), some (.int x1), some (.int x2), some (.int x3), some (.int x4), some (.int x5), some (.int x6), some (.int x7), some (.int x8), none, none, none, none]) (st' := []) (I' := I1) (J' := J1) rfl (Wp.ite (fun h7 => ?_) (fun h7 => ?_))
              · replace h := h.1 h7
                refine Wp.steps 5 (pc' := 196) (lv' := [some (.ref 57), some (.int x1), some (.int x2), some (.int x3), some (.int x4), some (.int x5), some (.int x6), some (.int 1), some (.int 0), none, none, none, none]) (st' := []) (I' := I1) (J' := J1) rfl ?_
                exact h
              · replace h := h.2 h7
                refine Wp.steps 4 (pc' := 196) (lv' := [some (.ref 57), some (.int x1), some (.int x2), some (.int x3), some (.int x4), some (.int x5), some (.int x6), some (.int 0), some (.int 0), none, none, none, none]) (st' := []) (I' := I1) (J' := J1) rfl ?_
                exact h
          · replace h := h.2 h5
            refine Wp.steps 8 (pc' := 241) (lv' := [some (.ref 57), some (.int x1), some (.int x2), some (.int x3), some (.int x4), some (.int x5), some (.int x6), some (.int x7), some (.int 0), some (.int ((I 57 0) - 1)), none, none, none]) (st' := []) (I' := I) (J' := J) rfl ?_
            exact h
        · replace h := h.2 h4
          refine Wp.steps 8 (pc' := 241) (lv' := [some (.ref 57), some (.int x1), some (.int x2), some (.int x3), some (.int x4), some (.int x5), some (.int x6), some (.int x7), some (.int 0), some (.int ((I 57 0) - 1)), none, none, none]) (st' := []) (I' := I) (J' := J) rfl ?_
          exact h
    · replace h := h.2 h2
      refine Wp.steps 8 (pc' := 241) (lv' := [some (.ref 57), some (.int x1), some (.int x2), some (.int x3), some (.int x4), some (.int x5), some (.int x6), some (.int x7), some (.int 0), some (.int ((I 57 0) - 1)), none, none, none]) (st' := []) (I' := I) (J' := J) rfl ?_
      exact h
set_option maxHeartbeats 16000000 in
theorem v_Lw_slid_57_124 {d : Nat} {Q : Post} {I : I2} {J : J2} {x1 : Int32} {x2 : Int32} {x3 : Int32} {x4 : Int32} {x5 : Int32} {x6 : Int32} {x7 : Int32} {x8 : Int32} {x9 : Int32} (h : (x7 = 0 → Wp d Lw_slid Q 51 [some (.ref 57), some (.int x1), some (.int x2), some (.int x3), some (.int x4), some (.int x5), some (.int x6), some (.int 0), some (.int (x8 + 1)), none, none, none, none] [] I J) ∧ (¬ (x7 = 0) → Wp d Lw_slid Q 51 [some (.ref 57), some (.int x1), some (.int x2), some (.int x3), some (.int x4), some (.int x5), some (.int x6), some (.int 1), some (.int (x8 + 1)), none, none, none, none] [] I J)) : Wp d Lw_slid Q 124 [some (.ref 57), some (.int x1), some (.int x2), some (.int x3), some (.int x4), some (.int x5), some (.int x6), some (.int x7), some (.int x8), some (.int x9), none, none, none] [] I J := by
  refine Wp.steps 3 (pc' := 129) (lv' := [some (.ref 57), some (.int x1), some (.int x2), some (.int x3), some (.int x4), some (.int x5), some (.int x6), some (.int x7), some (.int x8), some (.int x9), some (.int 0), none, none]) (st' := [.int x7]) (I' := I) (J' := J) rfl ?_
  refine Wp.steps 1 (pc' := if x7 = 0 then 141 else 132) (lv' := [some (.ref 57), some (.int x1), some (.int x2), some (.int x3), some (.int x4), some (.int x5), some (.int x6), some (.int x7), some (.int x8), some (.int x9), some (.int 0), none, none]) (st' := []) (I' := I) (J' := J) rfl (Wp.ite (fun h1 => ?_) (fun h1 => ?_))
  · replace h := h.1 h1
    refine Wp.steps 4 (pc' := 51) (lv' := [some (.ref 57), some (.int x1), some (.int x2), some (.int x3), some (.int x4), some (.int x5), some (.int x6), some (.int 0), some (.int (x8 + 1)), some (.int x9), some (.int 0), none, none]) (st' := []) (I' := I) (J' := J) rfl ?_
    refine Wp.drop [9, 10] (lv' := [some (.ref 57), some (.int x1), some (.int x2), some (.int x3), some (.int x4), some (.int x5), some (.int x6), some (.int 0), some (.int (x8 + 1)), none, none, none, none]) rfl ?_
    exact h
  · replace h := h.2 h1
    refine Wp.steps 7 (pc' := 51) (lv' := [some (.ref 57), some (.int x1), some (.int x2), some (.int x3), some (.int x4), some (.int x5), some (.int x6), some (.int 1), some (.int (x8 + 1)), some (.int x9), some (.int 0), none, none]) (st' := []) (I' := I) (J' := J) rfl ?_
    refine Wp.drop [9, 10] (lv' := [some (.ref 57), some (.int x1), some (.int x2), some (.int x3), some (.int x4), some (.int x5), some (.int x6), some (.int 1), some (.int (x8 + 1)), none, none, none, none]) rfl ?_
    exact h
set_option maxHeartbeats 16000000 in
theorem v_Lw_slid_57_196 {d : Nat} {Q : Post} {I : I2} {J : J2} {x1 : Int32} {x2 : Int32} {x3 : Int32} {x4 : Int32} {x5 : Int32} {x6 : Int32} {x7 : Int32} {x8 : Int32} (h : (x8 < (x2 - 1) → (x7 = 0 → Wp d Lw_slid Q 196 [some (.ref 57), some (.int x1), some (.int x2), some (.int x3), some (.int x4), some (.int x5), some (.int x6), some (.int 0), some (.int (x8 + 1)), none, none, none, none] [] I J) ∧ (¬ (x7 = 0) → CI d Lw_place [.int x1, .int x8] I J (fun v1 I1 J1 => (v1 = 0 → Wp d Lw_slid Q 196 [some (.ref 57), some (.int x1), some (.int x2), some (.int x3), some (.int x4), some (.int x5), some (.int x6), some (.int 1), some (.int (x8 + 1)), none, none, none, none] [] I1 J1) ∧ (¬ (v1 = 0) → Wp d Lw_slid Q 196 [some (.ref 57), some (.int x1), some (.int x2), some (.int x3), some (.int x4), some (.int x5), some (.int x6), some (.int 0), some (.int (x8 + 1)), none, none, none, none] [] I1 J1)))) ∧ (¬ (x8 < (x2 - 1)) → Wp d Lw_slid Q 241 [some (.ref 57), some (.int x1), some (.int x2), some (.int x3), some (.int x4), some (.int x5), some (.int x6), some (.int x7), some (.int 0), some (.int ((I 57 0) - 1)), none, none, none] [] I J)) : Wp d Lw_slid Q 196 [some (.ref 57), some (.int x1), some (.int x2), some (.int x3), some (.int x4), some (.int x5), some (.int x6), some (.int x7), some (.int x8), none, none, none, none] [] I J := by
  refine Wp.steps 4 (pc' := 201) (lv' := [some (.ref 57), some (.int x1), some (.int x2), some (.int x3), some (.int x4), some (.int x5), some (.int x6), some (.int x7), some (.int x8), none, none, none, none]) (st' := [.int (x2 - 1), .int x8]) (I' := I) (J' := J) rfl ?_
  refine Wp.steps 1 (pc' := if x8 < (x2 - 1) then 204 else 231) (lv' := [some (.ref 57), some (.int x1), some (.int x2), some (.int x3), some (.int x4), some (.int x5), some (.int x6), some (.int x7), some (.int x8), none, none, none, none]) (st' := []) (I' := I) (J' := J) rfl (Wp.ite (fun h1 => ?_) (fun h1 => ?_))
  · replace h := h.1 h1
    refine Wp.steps 1 (pc' := 206) (lv' := [some (.ref 57), some (.int x1), some (.int x2), some (.int x3), some (.int x4), some (.int x5), some (.int x6), some (.int x7), some (.int x8), none, none, none, none]) (st' := [.int x7]) (I' := I) (J' := J) rfl ?_
    refine Wp.steps 1 (pc' := if x7 = 0 then 222 else 209) (lv' := [some (.ref 57), some (.int x1), some (.int x2), some (.int x3), some (.int x4), some (.int x5), some (.int x6), some (.int x7), some (.int x8), none, none, none, none]) (st' := []) (I' := I) (J' := J) rfl (Wp.ite (fun h2 => ?_) (fun h2 => ?_))
    · replace h := h.1 h2
      refine Wp.steps 4 (pc' := 196) (lv' := [some (.ref 57), some (.int x1), some (.int x2), some (.int x3), some (.int x4), some (.int x5), some (.int x6), some (.int 0), some (.int (x8 + 1)), none, none, none, none]) (st' := []) (I' := I) (J' := J) rfl ?_
      exact h
    · replace h := h.2 h2
      refine Wp.steps 2 (pc' := 212) (lv' := [some (.ref 57), some (.int x1), some (.int x2), some (.int x3), some (.int x4), some (.int x5), some (.int x6), some (.int x7), some (.int x8), none, none, none, none]) (st' := [.int x8, .int x1]) (I' := I) (J' := J) rfl ?_
      refine Wp.call (M' := Lw_place) (as := [.int x1, .int x8]) (rest := []) rfl (CI.use h (fun v1 I1 J1 h => ?_))
      refine Wp.eqs (pc' := 215) (st' := [.int v1]) rfl rfl ?_
      refine Wp.steps 1 (pc' := if v1 = 0 then 218 else 222) (lv' := [some (.ref 57), some (.int x1), some (.int x2), some (.int x3), some (.int x4), some (.int x5), some (.int x6), some (.int x7), some (.int x8), none, none, none, none]) (st' := []) (I' := I1) (J' := J1) rfl (Wp.ite (fun h3 => ?_) (fun h3 => ?_))
      · replace h := h.1 h3
        refine Wp.steps 5 (pc' := 196) (lv' := [some (.ref 57), some (.int x1), some (.int x2), some (.int x3), some (.int x4), some (.int x5), some (.int x6), some (.int 1), some (.int (x8 + 1)), none, none, none, none]) (st' := []) (I' := I1) (J' := J1) rfl ?_
        exact h
      · replace h := h.2 h3
        refine Wp.steps 4 (pc' := 196) (lv' := [some (.ref 57), some (.int x1), some (.int x2), some (.int x3), some (.int x4), some (.int x5), some (.int x6), some (.int 0), some (.int (x8 + 1)), none, none, none, none]) (st' := []) (I' := I1) (J' := J1) rfl ?_
        exact h
  · replace h := h.2 h1
    refine Wp.steps 8 (pc' := 241) (lv' := [some (.ref 57), some (.int x1), some (.int x2), some (.int x3), some (.int x4), some (.int x5), some (.int x6), some (.int x7), some (.int 0), some (.int ((I 57 0) - 1)), none, none, none]) (st' := []) (I' := I) (J' := J) rfl ?_
    exact h
set_option maxHeartbeats 16000000 in
theorem v_Lw_slid_57_241 {d : Nat} {Q : Post} {I : I2} {J : J2} {x1 : Int32} {x2 : Int32} {x3 : Int32} {x4 : Int32} {x5 : Int32} {x6 : Int32} {x7 : Int32} {x8 : Int32} {x9 : Int32} (h : (x9 < 0 → (x7 = 0 → Q (some (.int (-1))) I J) ∧ (¬ (x7 = 0) → Q (some (.int x8)) I J)) ∧ (¬ (x9 < 0) → CI d Lw_place [.int x1, .int x9] I J (fun v1 I1 J1 => vp_in (6 + (2 * x9)) 40 ∧ ((x9 = x2 → Wp d Lw_slid Q 241 [some (.ref 57), some (.int x1), some (.int x2), some (.int x3), some (.int x4), some (.int x5), some (.int x6), some (.int x7), some (.int ((4 * x8) + x5)), some (.int (x9 + (-1))), none, none, none] [] I1 J1) ∧ (¬ (x9 = x2) → (0 < v1 → ((I1 57 (tN (6 + (2 * x9)))) = 1 → Wp d Lw_slid Q 241 [some (.ref 57), some (.int x1), some (.int x2), some (.int x3), some (.int x4), some (.int x5), some (.int x6), some (.int x7), some (.int ((4 * x8) + (v1 - 1))), some (.int (x9 + (-1))), none, none, none] [] I1 J1) ∧ (¬ ((I1 57 (tN (6 + (2 * x9)))) = 1) → ((I1 57 (tN (6 + (2 * x9)))) = 3 → vp_in (7 + (2 * x9)) 40 ∧ ((v1 < (I1 57 (tN (7 + (2 * x9)))) → Wp d Lw_slid Q 241 [some (.ref 57), some (.int x1), some (.int x2), some (.int x3), some (.int x4), some (.int x5), some (.int x6), some (.int x7), some (.int ((4 * x8) + (v1 - 1))), some (.int (x9 + (-1))), none, none, none] [] I1 J1) ∧ (¬ (v1 < (I1 57 (tN (7 + (2 * x9))))) → Wp d Lw_slid Q 241 [some (.ref 57), some (.int x1), some (.int x2), some (.int x3), some (.int x4), some (.int x5), some (.int x6), some (.int x7), some (.int ((4 * x8) + v1)), some (.int (x9 + (-1))), none, none, none] [] I1 J1))) ∧ (¬ ((I1 57 (tN (6 + (2 * x9)))) = 3) → Wp d Lw_slid Q 241 [some (.ref 57), some (.int x1), some (.int x2), some (.int x3), some (.int x4), some (.int x5), some (.int x6), some (.int x7), some (.int ((4 * x8) + v1)), some (.int (x9 + (-1))), none, none, none] [] I1 J1))) ∧ (¬ (0 < v1) → Wp d Lw_slid Q 241 [some (.ref 57), some (.int x1), some (.int x2), some (.int x3), some (.int x4), some (.int x5), some (.int x6), some (.int x7), some (.int ((4 * x8) + v1)), some (.int (x9 + (-1))), none, none, none] [] I1 J1)))))) : Wp d Lw_slid Q 241 [some (.ref 57), some (.int x1), some (.int x2), some (.int x3), some (.int x4), some (.int x5), some (.int x6), some (.int x7), some (.int x8), some (.int x9), none, none, none] [] I J := by
  refine Wp.steps 1 (pc' := 243) (lv' := [some (.ref 57), some (.int x1), some (.int x2), some (.int x3), some (.int x4), some (.int x5), some (.int x6), some (.int x7), some (.int x8), some (.int x9), none, none, none]) (st' := [.int x9]) (I' := I) (J' := J) rfl ?_
  refine Wp.steps 1 (pc' := if x9 < 0 then 347 else 246) (lv' := [some (.ref 57), some (.int x1), some (.int x2), some (.int x3), some (.int x4), some (.int x5), some (.int x6), some (.int x7), some (.int x8), some (.int x9), none, none, none]) (st' := []) (I' := I) (J' := J) rfl (Wp.ite (fun h1 => ?_) (fun h1 => ?_))
  · replace h := h.1 h1
    refine Wp.steps 1 (pc' := 349) (lv' := [some (.ref 57), some (.int x1), some (.int x2), some (.int x3), some (.int x4), some (.int x5), some (.int x6), some (.int x7), some (.int x8), some (.int x9), none, none, none]) (st' := [.int x7]) (I' := I) (J' := J) rfl ?_
    refine Wp.steps 1 (pc' := if x7 = 0 then 357 else 352) (lv' := [some (.ref 57), some (.int x1), some (.int x2), some (.int x3), some (.int x4), some (.int x5), some (.int x6), some (.int x7), some (.int x8), some (.int x9), none, none, none]) (st' := []) (I' := I) (J' := J) rfl (Wp.ite (fun h2 => ?_) (fun h2 => ?_))
    · replace h := h.1 h2
      refine Wp.steps 1 (pc' := 358) (lv' := [some (.ref 57), some (.int x1), some (.int x2), some (.int x3), some (.int x4), some (.int x5), some (.int x6), some (.int x7), some (.int x8), some (.int x9), none, none, none]) (st' := [.int (-1)]) (I' := I) (J' := J) rfl ?_
      exact Wp.ret rfl h
    · replace h := h.2 h2
      refine Wp.steps 2 (pc' := 358) (lv' := [some (.ref 57), some (.int x1), some (.int x2), some (.int x3), some (.int x4), some (.int x5), some (.int x6), some (.int x7), some (.int x8), some (.int x9), none, none, none]) (st' := [.int x8]) (I' := I) (J' := J) rfl ?_
      exact Wp.ret rfl h
  · replace h := h.2 h1
    refine Wp.steps 2 (pc' := 249) (lv' := [some (.ref 57), some (.int x1), some (.int x2), some (.int x3), some (.int x4), some (.int x5), some (.int x6), some (.int x7), some (.int x8), some (.int x9), none, none, none]) (st' := [.int x9, .int x1]) (I' := I) (J' := J) rfl ?_
    refine Wp.call (M' := Lw_place) (as := [.int x1, .int x9]) (rest := []) rfl (CI.use h (fun v1 I1 J1 h => ?_))
    refine Wp.eqs (pc' := 252) (st' := [.int v1]) rfl rfl ?_
    refine Wp.steps 7 (pc' := 262) (lv' := [some (.ref 57), some (.int x1), some (.int x2), some (.int x3), some (.int x4), some (.int x5), some (.int x6), some (.int x7), some (.int x8), some (.int x9), some (.int v1), none, none]) (st' := [.int (6 + (2 * x9)), .ref 57]) (I' := I1) (J' := J1) rfl ?_
    refine Wp.iald rfl rfl h.1 ?_
    replace h := h.2
    refine Wp.steps 3 (pc' := 268) (lv' := [some (.ref 57), some (.int x1), some (.int x2), some (.int x3), some (.int x4), some (.int x5), some (.int x6), some (.int x7), some (.int x8), some (.int x9), some (.int v1), some (.int (I1 57 (tN (6 + (2 * x9))))), none]) (st' := [.int x2, .int x9]) (I' := I1) (J' := J1) rfl ?_
    refine Wp.steps 1 (pc' := if x9 = x2 then 306 else 271) (lv' := [some (.ref 57), some (.int x1), some (.int x2), some (.int x3), some (.int x4), some (.int x5), some (.int x6), some (.int x7), some (.int x8), some (.int x9), some (.int v1), some (.int (I1 57 (tN (6 + (2 * x9))))), none]) (st' := []) (I' := I1) (J' := J1) rfl (Wp.ite (fun h2 => ?_) (fun h2 => ?_))
    · replace h := h.1 h2
      refine Wp.steps 7 (pc' := 316) (lv' := [some (.ref 57), some (.int x1), some (.int x2), some (.int x3), some (.int x4), some (.int x5), some (.int x6), some (.int x7), some (.int x8), some (.int x9), some (.int v1), some (.int (I1 57 (tN (6 + (2 * x9))))), some (.int 0)]) (st' := [.int x2, .int x9, .int (4 * x8)]) (I' := I1) (J' := J1) rfl ?_
      refine Wp.steps 1 (pc' := if x9 = x2 then 319 else 324) (lv' := [some (.ref 57), some (.int x1), some (.int x2), some (.int x3), some (.int x4), some (.int x5), some (.int x6), some (.int x7), some (.int x8), some (.int x9), some (.int v1), some (.int (I1 57 (tN (6 + (2 * x9))))), some (.int 0)]) (st' := [.int (4 * x8)]) (I' := I1) (J' := J1) rfl ?_
      rw [if_pos h2]
      refine Wp.steps 6 (pc' := 241) (lv' := [some (.ref 57), some (.int x1), some (.int x2), some (.int x3), some (.int x4), some (.int x5), some (.int x6), some (.int x7), some (.int ((4 * x8) + x5)), some (.int (x9 + (-1))), some (.int v1), some (.int (I1 57 (tN (6 + (2 * x9))))), some (.int 0)]) (st' := []) (I' := I1) (J' := J1) rfl ?_
      refine Wp.drop [10, 11, 12] (lv' := [some (.ref 57), some (.int x1), some (.int x2), some (.int x3), some (.int x4), some (.int x5), some (.int x6), some (.int x7), some (.int ((4 * x8) + x5)), some (.int (x9 + (-1))), none, none, none]) rfl ?_
      exact h
    · replace h := h.2 h2
      refine Wp.steps 1 (pc' := 273) (lv' := [some (.ref 57), some (.int x1), some (.int x2), some (.int x3), some (.int x4), some (.int x5), some (.int x6), some (.int x7), some (.int x8), some (.int x9), some (.int v1), some (.int (I1 57 (tN (6 + (2 * x9))))), none]) (st' := [.int v1]) (I' := I1) (J' := J1) rfl ?_
      refine Wp.steps 1 (pc' := if 0 < v1 then 276 else 306) (lv' := [some (.ref 57), some (.int x1), some (.int x2), some (.int x3), some (.int x4), some (.int x5), some (.int x6), some (.int x7), some (.int x8), some (.int x9), some (.int v1), some (.int (I1 57 (tN (6 + (2 * x9))))), none]) (st' := []) (I' := I1) (J' := J1) rfl (Wp.ite (fun h3 => ?_) (fun h3 => ?_))
      · replace h := h.1 h3
        refine Wp.steps 2 (pc' := 279) (lv' := [some (.ref 57), some (.int x1), some (.int x2), some (.int x3), some (.int x4), some (.int x5), some (.int x6), some (.int x7), some (.int x8), some (.int x9), some (.int v1), some (.int (I1 57 (tN (6 + (2 * x9))))), none]) (st' := [.int 1, .int (I1 57 (tN (6 + (2 * x9))))]) (I' := I1) (J' := J1) rfl ?_
        refine Wp.steps 1 (pc' := if (I1 57 (tN (6 + (2 * x9)))) = 1 then 302 else 282) (lv' := [some (.ref 57), some (.int x1), some (.int x2), some (.int x3), some (.int x4), some (.int x5), some (.int x6), some (.int x7), some (.int x8), some (.int x9), some (.int v1), some (.int (I1 57 (tN (6 + (2 * x9))))), none]) (st' := []) (I' := I1) (J' := J1) rfl (Wp.ite (fun h4 => ?_) (fun h4 => ?_))
        · replace h := h.1 h4
          refine Wp.steps 8 (pc' := 316) (lv' := [some (.ref 57), some (.int x1), some (.int x2), some (.int x3), some (.int x4), some (.int x5), some (.int x6), some (.int x7), some (.int x8), some (.int x9), some (.int v1), some (.int (I1 57 (tN (6 + (2 * x9))))), some (.int 1)]) (st' := [.int x2, .int x9, .int (4 * x8)]) (I' := I1) (J' := J1) rfl ?_
          refine Wp.steps 1 (pc' := if x9 = x2 then 319 else 324) (lv' := [some (.ref 57), some (.int x1), some (.int x2), some (.int x3), some (.int x4), some (.int x5), some (.int x6), some (.int x7), some (.int x8), some (.int x9), some (.int v1), some (.int (I1 57 (tN (6 + (2 * x9))))), some (.int 1)]) (st' := [.int (4 * x8)]) (I' := I1) (J' := J1) rfl ?_
          rw [if_neg h2]
          refine Wp.steps 10 (pc' := 241) (lv' := [some (.ref 57), some (.int x1), some (.int x2), some (.int x3), some (.int x4), some (.int x5), some (.int x6), some (.int x7), some (.int ((4 * x8) + (v1 - 1))), some (.int (x9 + (-1))), some (.int v1), some (.int (I1 57 (tN (6 + (2 * x9))))), some (.int 1)]) (st' := []) (I' := I1) (J' := J1) rfl ?_
          refine Wp.drop [10, 11, 12] (lv' := [some (.ref 57), some (.int x1), some (.int x2), some (.int x3), some (.int x4), some (.int x5), some (.int x6), some (.int x7), some (.int ((4 * x8) + (v1 - 1))), some (.int (x9 + (-1))), none, none, none]) rfl ?_
          exact h
        · replace h := h.2 h4
          refine Wp.steps 2 (pc' := 285) (lv' := [some (.ref 57), some (.int x1), some (.int x2), some (.int x3), some (.int x4), some (.int x5), some (.int x6), some (.int x7), some (.int x8), some (.int x9), some (.int v1), some (.int (I1 57 (tN (6 + (2 * x9))))), none]) (st' := [.int 3, .int (I1 57 (tN (6 + (2 * x9))))]) (I' := I1) (J' := J1) rfl ?_
          refine Wp.steps 1 (pc' := if (I1 57 (tN (6 + (2 * x9)))) = 3 then 288 else 306) (lv' := [some (.ref 57), some (.int x1), some (.int x2), some (.int x3), some (.int x4), some (.int x5), some (.int x6), some (.int x7), some (.int x8), some (.int x9), some (.int v1), some (.int (I1 57 (tN (6 + (2 * x9))))), none]) (st' := []) (I' := I1) (J' := J1) rfl (Wp.ite (fun h5 => ?_) (fun h5 => ?_))
          · replace h := h.1 h5
            refine Wp.steps 7 (pc' := 298) (lv' := [some (.ref 57), some (.int x1), some (.int x2), some (.int x3), some (.int x4), some (.int x5), some (.int x6), some (.int x7), some (.int x8), some (.int x9), some (.int v1), some (.int (I1 57 (tN (6 + (2 * x9))))), none]) (st' := [.int (7 + (2 * x9)), .ref 57, .int v1]) (I' := I1) (J' := J1) rfl ?_
            refine Wp.iald rfl rfl h.1 ?_
            replace h := h.2
            refine Wp.steps 1 (pc' := if v1 < (I1 57 (tN (7 + (2 * x9)))) then 302 else 306) (lv' := [some (.ref 57), some (.int x1), some (.int x2), some (.int x3), some (.int x4), some (.int x5), some (.int x6), some (.int x7), some (.int x8), some (.int x9), some (.int v1), some (.int (I1 57 (tN (6 + (2 * x9))))), none]) (st' := []) (I' := I1) (J' := J1) rfl (Wp.ite (fun h6 => ?_) (fun h6 => ?_))
            · replace h := h.1 h6
              refine Wp.steps 8 (pc' := 316) (lv' := [some (.ref 57), some (.int x1), some (.int x2), some (.int x3), some (.int x4), some (.int x5), some (.int x6), some (.int x7), some (.int x8), some (.int x9), some (.int v1), some (.int (I1 57 (tN (6 + (2 * x9))))), some (.int 1)]) (st' := [.int x2, .int x9, .int (4 * x8)]) (I' := I1) (J' := J1) rfl ?_
              refine Wp.steps 1 (pc' := if x9 = x2 then 319 else 324) (lv' := [some (.ref 57), some (.int x1), some (.int x2), some (.int x3), some (.int x4), some (.int x5), some (.int x6), some (.int x7), some (.int x8), some (.int x9), some (.int v1), some (.int (I1 57 (tN (6 + (2 * x9))))), some (.int 1)]) (st' := [.int (4 * x8)]) (I' := I1) (J' := J1) rfl ?_
              rw [if_neg h2]
              refine Wp.steps 10 (pc' := 241) (lv' := [some (.ref 57), some (.int x1), some (.int x2), some (.int x3), some (.int x4), some (.int x5), some (.int x6), some (.int x7), some (.int ((4 * x8) + (v1 - 1))), some (.int (x9 + (-1))), some (.int v1), some (.int (I1 57 (tN (6 + (2 * x9))))), some (.int 1)]) (st' := []) (I' := I1) (J' := J1) rfl ?_
              refine Wp.drop [10, 11, 12] (lv' := [some (.ref 57), some (.int x1), some (.int x2), some (.int x3), some (.int x4), some (.int x5), some (.int x6), some (.int x7), some (.int ((4 * x8) + (v1 - 1))), some (.int (x9 + (-1))), none, none, none]) rfl ?_
              exact h
            · replace h := h.2 h6
              refine Wp.steps 7 (pc' := 316) (lv' := [some (.ref 57), some (.int x1), some (.int x2), some (.int x3), some (.int x4), some (.int x5), some (.int x6), some (.int x7), some (.int x8), some (.int x9), some (.int v1), some (.int (I1 57 (tN (6 + (2 * x9))))), some (.int 0)]) (st' := [.int x2, .int x9, .int (4 * x8)]) (I' := I1) (J' := J1) rfl ?_
              refine Wp.steps 1 (pc' := if x9 = x2 then 319 else 324) (lv' := [some (.ref 57), some (.int x1), some (.int x2), some (.int x3), some (.int x4), some (.int x5), some (.int x6), some (.int x7), some (.int x8), some (.int x9), some (.int v1), some (.int (I1 57 (tN (6 + (2 * x9))))), some (.int 0)]) (st' := [.int (4 * x8)]) (I' := I1) (J' := J1) rfl ?_
              rw [if_neg h2]
              refine Wp.steps 7 (pc' := 241) (lv' := [some (.ref 57), some (.int x1), some (.int x2), some (.int x3), some (.int x4), some (.int x5), some (.int x6), some (.int x7), some (.int ((4 * x8) + v1)), some (.int (x9 + (-1))), some (.int v1), some (.int (I1 57 (tN (6 + (2 * x9))))), some (.int 0)]) (st' := []) (I' := I1) (J' := J1) rfl ?_
              refine Wp.drop [10, 11, 12] (lv' := [some (.ref 57), some (.int x1), some (.int x2), some (.int x3), some (.int x4), some (.int x5), some (.int x6), some (.int x7), some (.int ((4 * x8) + v1)), some (.int (x9 + (-1))), none, none, none]) rfl ?_
              exact h
          · replace h := h.2 h5
            refine Wp.steps 7 (pc' := 316) (lv' := [some (.ref 57), some (.int x1), some (.int x2), some (.int x3), some (.int x4), some (.int x5), some (.int x6), some (.int x7), some (.int x8), some (.int x9), some (.int v1), some (.int (I1 57 (tN (6 + (2 * x9))))), some (.int 0)]) (st' := [.int x2, .int x9, .int (4 * x8)]) (I' := I1) (J' := J1) rfl ?_
            refine Wp.steps 1 (pc' := if x9 = x2 then 319 else 324) (lv' := [some (.ref 57), some (.int x1), some (.int x2), some (.int x3), some (.int x4), some (.int x5), some (.int x6), some (.int x7), some (.int x8), some (.int x9), some (.int v1), some (.int (I1 57 (tN (6 + (2 * x9))))), some (.int 0)]) (st' := [.int (4 * x8)]) (I' := I1) (J' := J1) rfl ?_
            rw [if_neg h2]
            refine Wp.steps 7 (pc' := 241) (lv' := [some (.ref 57), some (.int x1), some (.int x2), some (.int x3), some (.int x4), some (.int x5), some (.int x6), some (.int x7), some (.int ((4 * x8) + v1)), some (.int (x9 + (-1))), some (.int v1), some (.int (I1 57 (tN (6 + (2 * x9))))), some (.int 0)]) (st' := []) (I' := I1) (J' := J1) rfl ?_
            refine Wp.drop [10, 11, 12] (lv' := [some (.ref 57), some (.int x1), some (.int x2), some (.int x3), some (.int x4), some (.int x5), some (.int x6), some (.int x7), some (.int ((4 * x8) + v1)), some (.int (x9 + (-1))), none, none, none]) rfl ?_
            exact h
      · replace h := h.2 h3
        refine Wp.steps 7 (pc' := 316) (lv' := [some (.ref 57), some (.int x1), some (.int x2), some (.int x3), some (.int x4), some (.int x5), some (.int x6), some (.int x7), some (.int x8), some (.int x9), some (.int v1), some (.int (I1 57 (tN (6 + (2 * x9))))), some (.int 0)]) (st' := [.int x2, .int x9, .int (4 * x8)]) (I' := I1) (J' := J1) rfl ?_
        refine Wp.steps 1 (pc' := if x9 = x2 then 319 else 324) (lv' := [some (.ref 57), some (.int x1), some (.int x2), some (.int x3), some (.int x4), some (.int x5), some (.int x6), some (.int x7), some (.int x8), some (.int x9), some (.int v1), some (.int (I1 57 (tN (6 + (2 * x9))))), some (.int 0)]) (st' := [.int (4 * x8)]) (I' := I1) (J' := J1) rfl ?_
        rw [if_neg h2]
        refine Wp.steps 7 (pc' := 241) (lv' := [some (.ref 57), some (.int x1), some (.int x2), some (.int x3), some (.int x4), some (.int x5), some (.int x6), some (.int x7), some (.int ((4 * x8) + v1)), some (.int (x9 + (-1))), some (.int v1), some (.int (I1 57 (tN (6 + (2 * x9))))), some (.int 0)]) (st' := []) (I' := I1) (J' := J1) rfl ?_
        refine Wp.drop [10, 11, 12] (lv' := [some (.ref 57), some (.int x1), some (.int x2), some (.int x3), some (.int x4), some (.int x5), some (.int x6), some (.int x7), some (.int ((4 * x8) + v1)), some (.int (x9 + (-1))), none, none, none]) rfl ?_
        exact h
set_option maxHeartbeats 16000000 in
theorem v_Lw_flipped_0_100_57_0 {d : Nat} {Q : Post} {I : I2} {J : J2} {x3 : Int32} (h : CI d Lw_cell [.ref 100, .int 13] I J (fun v1 I1 J1 => Wp d Lw_flipped Q 22 [some (.ref 0), some (.ref 100), some (.ref 57), some (.int x3), some (.int 1), some (.int (1 + (rmI v1 8))), some (.int 0), some (.int 0), none, none] [] I1 J1)) : Wp d Lw_flipped Q 0 [some (.ref 0), some (.ref 100), some (.ref 57), some (.int x3), none, none, none, none, none, none] [] I J := by
  refine Wp.steps 5 (pc' := 7) (lv' := [some (.ref 0), some (.ref 100), some (.ref 57), some (.int x3), some (.int 1), none, none, none, none, none]) (st' := [.int 13, .ref 100, .int 1]) (I' := I) (J' := J) rfl ?_
  refine Wp.call (M' := Lw_cell) (as := [.ref 100, .int 13]) (rest := [.int 1]) rfl (CI.use h (fun v1 I1 J1 h => ?_))
  refine Wp.eqs (pc' := 10) (st' := [.int v1, .int 1]) rfl rfl ?_
  refine Wp.steps 8 (pc' := 22) (lv' := [some (.ref 0), some (.ref 100), some (.ref 57), some (.int x3), some (.int 1), some (.int (1 + (rmI v1 8))), some (.int 0), some (.int 0), none, none]) (st' := []) (I' := I1) (J' := J1) rfl ?_
  exact h
set_option maxHeartbeats 16000000 in
theorem v_Lw_flipped_0_100_57_22 {d : Nat} {Q : Post} {I : I2} {J : J2} {x3 : Int32} {x4 : Int32} {x5 : Int32} {x6 : Int32} {x7 : Int32} (h : (x7 < x5 → (x4 = 0 → CI d Sb_restore [.ref 0] I J (fun v1 I1 J1 => (v1 = 1 → CI d Sb_item [.ref 0, .int 3, .int 1, .int ((2 * x3) + 1), .long (Int32.toInt64 (1 - x6))] I1 J1 (fun v2 I2 J2 => (v2 = 1 → Q (some (.int 1)) I2 J2) ∧ (¬ (v2 = 1) → Q (some (.int 0)) I2 J2))) ∧ (¬ (v1 = 1) → Q (some (.int 0)) I1 J1))) ∧ (¬ (x4 = 0) → CI d Lw_cell [.ref 100, .int 13] I J (fun v1 I1 J1 => ¬ (2 * (I1 57 0)) = 0 ∧ (CI d Sb_slide [.ref 0, .int ((rmI ((srI v1 (3 + (2 * x7))) &&& 15) (2 * (I1 57 0))) / 2), .int (rmI (rmI ((srI v1 (3 + (2 * x7))) &&& 15) (2 * (I1 57 0))) 2)] I1 J1 (fun v2 I2 J2 => (x7 = x3 → (v2 < 0 → Wp d Lw_flipped Q 22 [some (.ref 0), some (.ref 100), some (.ref 57), some (.int x3), some (.int x4), some (.int x5), some (.int 0), some (.int (x7 + 1)), none, none] [] I2 J2) ∧ (¬ (v2 < 0) → Wp d Lw_flipped Q 22 [some (.ref 0), some (.ref 100), some (.ref 57), some (.int x3), some (.int x4), some (.int x5), some (.int 1), some (.int (x7 + 1)), none, none] [] I2 J2)) ∧ (¬ (x7 = x3) → Wp d Lw_flipped Q 22 [some (.ref 0), some (.ref 100), some (.ref 57), some (.int x3), some (.int x4), some (.int x5), some (.int x6), some (.int (x7 + 1)), none, none] [] I2 J2)))))) ∧ (¬ (x7 < x5) → CI d Sb_restore [.ref 0] I J (fun v1 I1 J1 => (v1 = 1 → CI d Sb_item [.ref 0, .int 3, .int 1, .int ((2 * x3) + 1), .long (Int32.toInt64 (1 - x6))] I1 J1 (fun v2 I2 J2 => (v2 = 1 → Q (some (.int 1)) I2 J2) ∧ (¬ (v2 = 1) → Q (some (.int 0)) I2 J2))) ∧ (¬ (v1 = 1) → Q (some (.int 0)) I1 J1)))) : Wp d Lw_flipped Q 22 [some (.ref 0), some (.ref 100), some (.ref 57), some (.int x3), some (.int x4), some (.int x5), some (.int x6), some (.int x7), none, none] [] I J := by
  refine Wp.steps 2 (pc' := 26) (lv' := [some (.ref 0), some (.ref 100), some (.ref 57), some (.int x3), some (.int x4), some (.int x5), some (.int x6), some (.int x7), none, none]) (st' := [.int x5, .int x7]) (I' := I) (J' := J) rfl ?_
  refine Wp.steps 1 (pc' := if x7 < x5 then 29 else 101) (lv' := [some (.ref 0), some (.ref 100), some (.ref 57), some (.int x3), some (.int x4), some (.int x5), some (.int x6), some (.int x7), none, none]) (st' := []) (I' := I) (J' := J) rfl (Wp.ite (fun h1 => ?_) (fun h1 => ?_))
  · replace h := h.1 h1
    refine Wp.steps 1 (pc' := 31) (lv' := [some (.ref 0), some (.ref 100), some (.ref 57), some (.int x3), some (.int x4), some (.int x5), some (.int x6), some (.int x7), none, none]) (st' := [.int x4]) (I' := I) (J' := J) rfl ?_
    refine Wp.steps 1 (pc' := if x4 = 0 then 101 else 34) (lv' := [some (.ref 0), some (.ref 100), some (.ref 57), some (.int x3), some (.int x4), some (.int x5), some (.int x6), some (.int x7), none, none]) (st' := []) (I' := I) (J' := J) rfl (Wp.ite (fun h2 => ?_) (fun h2 => ?_))
    · replace h := h.1 h2
      refine Wp.steps 1 (pc' := 102) (lv' := [some (.ref 0), some (.ref 100), some (.ref 57), some (.int x3), some (.int x4), some (.int x5), some (.int x6), some (.int x7), none, none]) (st' := [.ref 0]) (I' := I) (J' := J) rfl ?_
      refine Wp.call (M' := Sb_restore) (as := [.ref 0]) (rest := []) rfl (CI.use h (fun v1 I1 J1 h => ?_))
      refine Wp.eqs (pc' := 105) (st' := [.int v1]) rfl rfl ?_
      refine Wp.steps 1 (pc' := 106) (lv' := [some (.ref 0), some (.ref 100), some (.ref 57), some (.int x3), some (.int x4), some (.int x5), some (.int x6), some (.int x7), none, none]) (st' := [.int 1, .int v1]) (I' := I1) (J' := J1) rfl ?_
      refine Wp.steps 1 (pc' := if v1 = 1 then 109 else 133) (lv' := [some (.ref 0), some (.ref 100), some (.ref 57), some (.int x3), some (.int x4), some (.int x5), some (.int x6), some (.int x7), none, none]) (st' := []) (I' := I1) (J' := J1) rfl (Wp.ite (fun h3 => ?_) (fun h3 => ?_))
      · replace h := h.1 h3
        refine Wp.steps 12 (pc' := 122) (lv' := [some (.ref 0), some (.ref 100), some (.ref 57), some (.int x3), some (.int x4), some (.int x5), some (.int x6), some (.int x7), none, none]) (st' := [.long (Int32.toInt64 (1 - x6)), .int ((2 * x3) + 1), .int 1, .int 3, .ref 0]) (I' := I1) (J' := J1) rfl ?_
        refine Wp.call (M' := Sb_item) (as := [.ref 0, .int 3, .int 1, .int ((2 * x3) + 1), .long (Int32.toInt64 (1 - x6))]) (rest := []) rfl (CI.use h (fun v2 I2 J2 h => ?_))
        refine Wp.eqs (pc' := 125) (st' := [.int v2]) rfl rfl ?_
        refine Wp.steps 1 (pc' := 126) (lv' := [some (.ref 0), some (.ref 100), some (.ref 57), some (.int x3), some (.int x4), some (.int x5), some (.int x6), some (.int x7), none, none]) (st' := [.int 1, .int v2]) (I' := I2) (J' := J2) rfl ?_
        refine Wp.steps 1 (pc' := if v2 = 1 then 129 else 133) (lv' := [some (.ref 0), some (.ref 100), some (.ref 57), some (.int x3), some (.int x4), some (.int x5), some (.int x6), some (.int x7), none, none]) (st' := []) (I' := I2) (J' := J2) rfl (Wp.ite (fun h4 => ?_) (fun h4 => ?_))
        · replace h := h.1 h4
          refine Wp.steps 2 (pc' := 134) (lv' := [some (.ref 0), some (.ref 100), some (.ref 57), some (.int x3), some (.int x4), some (.int x5), some (.int x6), some (.int x7), none, none]) (st' := [.int 1]) (I' := I2) (J' := J2) rfl ?_
          exact Wp.ret rfl h
        · replace h := h.2 h4
          refine Wp.steps 1 (pc' := 134) (lv' := [some (.ref 0), some (.ref 100), some (.ref 57), some (.int x3), some (.int x4), some (.int x5), some (.int x6), some (.int x7), none, none]) (st' := [.int 0]) (I' := I2) (J' := J2) rfl ?_
          exact Wp.ret rfl h
      · replace h := h.2 h3
        refine Wp.steps 1 (pc' := 134) (lv' := [some (.ref 0), some (.ref 100), some (.ref 57), some (.int x3), some (.int x4), some (.int x5), some (.int x6), some (.int x7), none, none]) (st' := [.int 0]) (I' := I1) (J' := J1) rfl ?_
        exact Wp.ret rfl h
    · replace h := h.2 h2
      refine Wp.steps 2 (pc' := 37) (lv' := [some (.ref 0), some (.ref 100), some (.ref 57), some (.int x3), some (.int x4), some (.int x5), some (.int x6), some (.int x7), none, none]) (st' := [.int 13, .ref 100]) (I' := I) (J' := J) rfl ?_
      refine Wp.call (M' := Lw_cell) (as := [.ref 100, .int 13]) (rest := []) rfl (CI.use h (fun v1 I1 J1 h => ?_))
      refine Wp.eqs (pc' := 40) (st' := [.int v1]) rfl rfl ?_
      refine Wp.steps 13 (pc' := 55) (lv' := [some (.ref 0), some (.ref 100), some (.ref 57), some (.int x3), some (.int x4), some (.int x5), some (.int x6), some (.int x7), none, none]) (st' := [.int (2 * (I1 57 0)), .int ((srI v1 (3 + (2 * x7))) &&& 15)]) (I' := I1) (J' := J1) rfl ?_
      refine Wp.irem rfl h.1 ?_
      replace h := h.2
      refine Wp.steps 8 (pc' := 67) (lv' := [some (.ref 0), some (.ref 100), some (.ref 57), some (.int x3), some (.int x4), some (.int x5), some (.int x6), some (.int x7), some (.int (rmI ((srI v1 (3 + (2 * x7))) &&& 15) (2 * (I1 57 0)))), none]) (st' := [.int (rmI (rmI ((srI v1 (3 + (2 * x7))) &&& 15) (2 * (I1 57 0))) 2), .int ((rmI ((srI v1 (3 + (2 * x7))) &&& 15) (2 * (I1 57 0))) / 2), .ref 0]) (I' := I1) (J' := J1) rfl ?_
      refine Wp.call (M' := Sb_slide) (as := [.ref 0, .int ((rmI ((srI v1 (3 + (2 * x7))) &&& 15) (2 * (I1 57 0))) / 2), .int (rmI (rmI ((srI v1 (3 + (2 * x7))) &&& 15) (2 * (I1 57 0))) 2)]) (rest := []) rfl (CI.use h (fun v2 I2 J2 h => ?_))
      refine Wp.eqs (pc' := 70) (st' := [.int v2]) rfl rfl ?_
      refine Wp.steps 3 (pc' := 75) (lv' := [some (.ref 0), some (.ref 100), some (.ref 57), some (.int x3), some (.int x4), some (.int x5), some (.int x6), some (.int x7), some (.int (rmI ((srI v1 (3 + (2 * x7))) &&& 15) (2 * (I1 57 0)))), some (.int v2)]) (st' := [.int x3, .int x7]) (I' := I2) (J' := J2) rfl ?_
      refine Wp.steps 1 (pc' := if x7 = x3 then 78 else 91) (lv' := [some (.ref 0), some (.ref 100), some (.ref 57), some (.int x3), some (.int x4), some (.int x5), some (.int x6), some (.int x7), some (.int (rmI ((srI v1 (3 + (2 * x7))) &&& 15) (2 * (I1 57 0)))), some (.int v2)]) (st' := []) (I' := I2) (J' := J2) rfl (Wp.ite (fun h3 => ?_) (fun h3 => ?_))
      · replace h := h.1 h3
        refine Wp.steps 1 (pc' := 80) (lv' := [some (.ref 0), some (.ref 100), some (.ref 57), some (.int x3), some (.int x4), some (.int x5), some (.int x6), some (.int x7), some (.int (rmI ((srI v1 (3 + (2 * x7))) &&& 15) (2 * (I1 57 0)))), some (.int v2)]) (st' := [.int v2]) (I' := I2) (J' := J2) rfl ?_
        refine Wp.steps 1 (pc' := if v2 < 0 then 87 else 83) (lv' := [some (.ref 0), some (.ref 100), some (.ref 57), some (.int x3), some (.int x4), some (.int x5), some (.int x6), some (.int x7), some (.int (rmI ((srI v1 (3 + (2 * x7))) &&& 15) (2 * (I1 57 0)))), some (.int v2)]) (st' := []) (I' := I2) (J' := J2) rfl (Wp.ite (fun h4 => ?_) (fun h4 => ?_))
        · replace h := h.1 h4
          refine Wp.steps 5 (pc' := 22) (lv' := [some (.ref 0), some (.ref 100), some (.ref 57), some (.int x3), some (.int x4), some (.int x5), some (.int 0), some (.int (x7 + 1)), some (.int (rmI ((srI v1 (3 + (2 * x7))) &&& 15) (2 * (I1 57 0)))), some (.int v2)]) (st' := []) (I' := I2) (J' := J2) rfl ?_
          refine Wp.drop [8, 9] (lv' := [some (.ref 0), some (.ref 100), some (.ref 57), some (.int x3), some (.int x4), some (.int x5), some (.int 0), some (.int (x7 + 1)), none, none]) rfl ?_
          exact h
        · replace h := h.2 h4
          refine Wp.steps 5 (pc' := 22) (lv' := [some (.ref 0), some (.ref 100), some (.ref 57), some (.int x3), some (.int x4), some (.int x5), some (.int 1), some (.int (x7 + 1)), some (.int (rmI ((srI v1 (3 + (2 * x7))) &&& 15) (2 * (I1 57 0)))), some (.int v2)]) (st' := []) (I' := I2) (J' := J2) rfl ?_
          refine Wp.drop [8, 9] (lv' := [some (.ref 0), some (.ref 100), some (.ref 57), some (.int x3), some (.int x4), some (.int x5), some (.int 1), some (.int (x7 + 1)), none, none]) rfl ?_
          exact h
      · replace h := h.2 h3
        refine Wp.steps 4 (pc' := 22) (lv' := [some (.ref 0), some (.ref 100), some (.ref 57), some (.int x3), some (.int x4), some (.int x5), some (.int x6), some (.int (x7 + 1)), some (.int (rmI ((srI v1 (3 + (2 * x7))) &&& 15) (2 * (I1 57 0)))), some (.int v2)]) (st' := []) (I' := I2) (J' := J2) rfl ?_
        refine Wp.drop [8, 9] (lv' := [some (.ref 0), some (.ref 100), some (.ref 57), some (.int x3), some (.int x4), some (.int x5), some (.int x6), some (.int (x7 + 1)), none, none]) rfl ?_
        exact h
  · replace h := h.2 h1
    refine Wp.steps 1 (pc' := 102) (lv' := [some (.ref 0), some (.ref 100), some (.ref 57), some (.int x3), some (.int x4), some (.int x5), some (.int x6), some (.int x7), none, none]) (st' := [.ref 0]) (I' := I) (J' := J) rfl ?_
    refine Wp.call (M' := Sb_restore) (as := [.ref 0]) (rest := []) rfl (CI.use h (fun v1 I1 J1 h => ?_))
    refine Wp.eqs (pc' := 105) (st' := [.int v1]) rfl rfl ?_
    refine Wp.steps 1 (pc' := 106) (lv' := [some (.ref 0), some (.ref 100), some (.ref 57), some (.int x3), some (.int x4), some (.int x5), some (.int x6), some (.int x7), none, none]) (st' := [.int 1, .int v1]) (I' := I1) (J' := J1) rfl ?_
    refine Wp.steps 1 (pc' := if v1 = 1 then 109 else 133) (lv' := [some (.ref 0), some (.ref 100), some (.ref 57), some (.int x3), some (.int x4), some (.int x5), some (.int x6), some (.int x7), none, none]) (st' := []) (I' := I1) (J' := J1) rfl (Wp.ite (fun h2 => ?_) (fun h2 => ?_))
    · replace h := h.1 h2
      refine Wp.steps 12 (pc' := 122) (lv' := [some (.ref 0), some (.ref 100), some (.ref 57), some (.int x3), some (.int x4), some (.int x5), some (.int x6), some (.int x7), none, none]) (st' := [.long (Int32.toInt64 (1 - x6)), .int ((2 * x3) + 1), .int 1, .int 3, .ref 0]) (I' := I1) (J' := J1) rfl ?_
      refine Wp.call (M' := Sb_item) (as := [.ref 0, .int 3, .int 1, .int ((2 * x3) + 1), .long (Int32.toInt64 (1 - x6))]) (rest := []) rfl (CI.use h (fun v2 I2 J2 h => ?_))
      refine Wp.eqs (pc' := 125) (st' := [.int v2]) rfl rfl ?_
      refine Wp.steps 1 (pc' := 126) (lv' := [some (.ref 0), some (.ref 100), some (.ref 57), some (.int x3), some (.int x4), some (.int x5), some (.int x6), some (.int x7), none, none]) (st' := [.int 1, .int v2]) (I' := I2) (J' := J2) rfl ?_
      refine Wp.steps 1 (pc' := if v2 = 1 then 129 else 133) (lv' := [some (.ref 0), some (.ref 100), some (.ref 57), some (.int x3), some (.int x4), some (.int x5), some (.int x6), some (.int x7), none, none]) (st' := []) (I' := I2) (J' := J2) rfl (Wp.ite (fun h3 => ?_) (fun h3 => ?_))
      · replace h := h.1 h3
        refine Wp.steps 2 (pc' := 134) (lv' := [some (.ref 0), some (.ref 100), some (.ref 57), some (.int x3), some (.int x4), some (.int x5), some (.int x6), some (.int x7), none, none]) (st' := [.int 1]) (I' := I2) (J' := J2) rfl ?_
        exact Wp.ret rfl h
      · replace h := h.2 h3
        refine Wp.steps 1 (pc' := 134) (lv' := [some (.ref 0), some (.ref 100), some (.ref 57), some (.int x3), some (.int x4), some (.int x5), some (.int x6), some (.int x7), none, none]) (st' := [.int 0]) (I' := I2) (J' := J2) rfl ?_
        exact Wp.ret rfl h
    · replace h := h.2 h2
      refine Wp.steps 1 (pc' := 134) (lv' := [some (.ref 0), some (.ref 100), some (.ref 57), some (.int x3), some (.int x4), some (.int x5), some (.int x6), some (.int x7), none, none]) (st' := [.int 0]) (I' := I1) (J' := J1) rfl ?_
      exact Wp.ret rfl h
set_option maxHeartbeats 16000000 in
theorem v_Lw_place_0 {d : Nat} {Q : Post} {I : I2} {J : J2} {x0 : Int32} {x1 : Int32} (h : Q (some (.int ((srI x0 (x1 + x1)) &&& 3))) I J) : Wp d Lw_place Q 0 [some (.int x0), some (.int x1)] [] I J := by
  refine Wp.steps 7 (pc' := 7) (lv' := [some (.int x0), some (.int x1)]) (st' := [.int ((srI x0 (x1 + x1)) &&& 3)]) (I' := I) (J' := J) rfl ?_
  exact Wp.ret rfl h
