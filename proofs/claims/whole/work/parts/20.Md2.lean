/-! what each way through a method asks (by program): Md_game_57, Md_fumble_57, Md_image_57, Md_restore_57, Md_to_57, Md_clicks_57, Md_film_57, Md_sheet_57, Md_drop_57, Md_item_57, Md_copy_57, Md_in, Md_panelComes_57, Md_isPanel_57, Md_lockComes_57, Md_kind_57, Md_deep_57, Md_placeIn, Md_mayNow_57, Md_isLock_57, Md_ofLock_57, Md_isOpen_57, Md_outs_57, Md_slides_57 -/
theorem v_Md_game_57_0 {d : Nat} {Q : Post} {I : I2} {J : J2} {x1 : Int32} (h : CI d Md_in [.long (Int32.toInt64 x1), .long 0, .long 2] I J (fun v1 I1 J1 => (v1 = 0 → Q (some (.int (-1))) I1 J1) ∧ (¬ (v1 = 0) → ((I1 58 0) = 0 → Q (some (.int (-4))) I1 J1) ∧ (¬ ((I1 58 0) = 0) → CV d Md_goesThrough [.ref 57, .int (I1 58 3)] I1 J1 (fun I2 J2 => CV d Md_solves [.ref 57] I2 J2 (fun I3 J3 => (x1 < 2 → (x1 = 0 → vp_in (I3 58 5) 1024 ∧ (Q (some (.int (I3 69 (tN (I3 58 5))))) I3 J3)) ∧ (¬ (x1 = 0) → vp_in (I3 58 5) 1024 ∧ (((I3 69 (tN (I3 58 5))) = 0 → Q (some (.int 0)) I3 J3) ∧ (¬ ((I3 69 (tN (I3 58 5))) = 0) → vp_in (I3 58 5) 1024 ∧ (Q (some (.int (I3 70 (tN (I3 58 5))))) I3 J3))))) ∧ (¬ (x1 < 2) → CI d Md_isOpen [.ref 57, .int (I3 58 5)] I3 J3 (fun v4 I4 J4 => (v4 = 0 → vp_in (I3 58 5) 1024 ∧ (((I4 69 (tN (I3 58 5))) = 0 → CI d Md_slideTo [.ref 57, .int (I3 58 5), .int 0, .int (-1)] I4 J4 (fun v5 I5 J5 => (v5 = (-4) → Q (some (.int (-4))) I5 J5) ∧ (¬ (v5 = (-4)) → Q (some (.int ((10 * (v5 / 2)) + (rmI v5 2)))) I5 J5))) ∧ (¬ ((I4 69 (tN (I3 58 5))) = 0) → vp_in (I3 58 5) 1024 ∧ (vp_in (I3 58 5) 1024 ∧ (CI d Md_slideTo [.ref 57, .int (I3 58 5), .int (3 - (I4 69 (tN (I3 58 5)))), .int ((I4 70 (tN (I3 58 5))) - 1)] I4 J4 (fun v5 I5 J5 => (v5 = (-4) → Q (some (.int (-4))) I5 J5) ∧ (¬ (v5 = (-4)) → Q (some (.int ((10 * (v5 / 2)) + (rmI v5 2)))) I5 J5))))))) ∧ (¬ (v4 = 0) → Q (some (.int (-4))) I4 J4))))))))) : Wp d Md_game Q 0 [some (.ref 57), some (.int x1), none, none] [] I J := by
  refine Wp.steps 4 (pc' := 6) (lv' := [some (.ref 57), some (.int x1), none, none]) (st' := [.long 2, .long 0, .long (Int32.toInt64 x1)]) (I' := I) (J' := J) rfl ?_
  refine Wp.call (M' := Md_in) (as := [.long (Int32.toInt64 x1), .long 0, .long 2]) (rest := []) rfl (CI.use h (fun v1 I1 J1 h => ?_))
  refine Wp.eqs (pc' := 9) (st' := [.int v1]) rfl rfl ?_
  refine Wp.steps 1 (pc' := if v1 = 0 then 12 else 14) (lv' := [some (.ref 57), some (.int x1), none, none]) (st' := []) (I' := I1) (J' := J1) rfl (Wp.ite (fun h1 => ?_) (fun h1 => ?_))
  · replace h := h.1 h1
    refine Wp.steps 1 (pc' := 13) (lv' := [some (.ref 57), some (.int x1), none, none]) (st' := [.int (-1)]) (I' := I1) (J' := J1) rfl ?_
    exact Wp.ret rfl h
  · replace h := h.2 h1
    refine Wp.steps 4 (pc' := 20) (lv' := [some (.ref 57), some (.int x1), none, none]) (st' := [.int (I1 58 0)]) (I' := I1) (J' := J1) rfl ?_
    refine Wp.steps 1 (pc' := if (I1 58 0) = 0 then 23 else 26) (lv' := [some (.ref 57), some (.int x1), none, none]) (st' := []) (I' := I1) (J' := J1) rfl (Wp.ite (fun h2 => ?_) (fun h2 => ?_))
    · replace h := h.1 h2
      refine Wp.steps 1 (pc' := 25) (lv' := [some (.ref 57), some (.int x1), none, none]) (st' := [.int (-4)]) (I' := I1) (J' := J1) rfl ?_
      exact Wp.ret rfl h
    · replace h := h.2 h2
      refine Wp.steps 5 (pc' := 33) (lv' := [some (.ref 57), some (.int x1), none, none]) (st' := [.int (I1 58 3), .ref 57]) (I' := I1) (J' := J1) rfl ?_
      refine Wp.call (M' := Md_goesThrough) (as := [.ref 57, .int (I1 58 3)]) (rest := []) rfl (CV.use h (fun I2 J2 h => ?_))
      refine Wp.eqs (pc' := 36) (st' := []) rfl rfl ?_
      refine Wp.steps 1 (pc' := 37) (lv' := [some (.ref 57), some (.int x1), none, none]) (st' := [.ref 57]) (I' := I2) (J' := J2) rfl ?_
      refine Wp.call (M' := Md_solves) (as := [.ref 57]) (rest := []) rfl (CV.use h (fun I3 J3 h => ?_))
      refine Wp.eqs (pc' := 40) (st' := []) rfl rfl ?_
      refine Wp.steps 7 (pc' := 49) (lv' := [some (.ref 57), some (.int x1), some (.int (I3 58 5)), none]) (st' := [.int 2, .int x1]) (I' := I3) (J' := J3) rfl ?_
      refine Wp.steps 1 (pc' := if x1 < 2 then 52 else 85) (lv' := [some (.ref 57), some (.int x1), some (.int (I3 58 5)), none]) (st' := []) (I' := I3) (J' := J3) rfl (Wp.ite (fun h3 => ?_) (fun h3 => ?_))
      · replace h := h.1 h3
        refine Wp.steps 1 (pc' := 53) (lv' := [some (.ref 57), some (.int x1), some (.int (I3 58 5)), none]) (st' := [.int x1]) (I' := I3) (J' := J3) rfl ?_
        refine Wp.steps 1 (pc' := if x1 = 0 then 56 else 65) (lv' := [some (.ref 57), some (.int x1), some (.int (I3 58 5)), none]) (st' := []) (I' := I3) (J' := J3) rfl (Wp.ite (fun h4 => ?_) (fun h4 => ?_))
        · replace h := h.1 h4
          refine Wp.steps 3 (pc' := 61) (lv' := [some (.ref 57), some (.int x1), some (.int (I3 58 5)), none]) (st' := [.int (I3 58 5), .ref 69]) (I' := I3) (J' := J3) rfl ?_
          refine Wp.iald rfl rfl h.1 ?_
          replace h := h.2
          refine Wp.steps 1 (pc' := 84) (lv' := [some (.ref 57), some (.int x1), some (.int (I3 58 5)), none]) (st' := [.int (I3 69 (tN (I3 58 5)))]) (I' := I3) (J' := J3) rfl ?_
          exact Wp.ret rfl h
        · replace h := h.2 h4
          refine Wp.steps 3 (pc' := 70) (lv' := [some (.ref 57), some (.int x1), some (.int (I3 58 5)), none]) (st' := [.int (I3 58 5), .ref 69]) (I' := I3) (J' := J3) rfl ?_
          refine Wp.iald rfl rfl h.1 ?_
          replace h := h.2
          refine Wp.steps 1 (pc' := if (I3 69 (tN (I3 58 5))) = 0 then 74 else 78) (lv' := [some (.ref 57), some (.int x1), some (.int (I3 58 5)), none]) (st' := []) (I' := I3) (J' := J3) rfl (Wp.ite (fun h5 => ?_) (fun h5 => ?_))
          · replace h := h.1 h5
            refine Wp.steps 2 (pc' := 84) (lv' := [some (.ref 57), some (.int x1), some (.int (I3 58 5)), none]) (st' := [.int 0]) (I' := I3) (J' := J3) rfl ?_
            exact Wp.ret rfl h
          · replace h := h.2 h5
            refine Wp.steps 3 (pc' := 83) (lv' := [some (.ref 57), some (.int x1), some (.int (I3 58 5)), none]) (st' := [.int (I3 58 5), .ref 70]) (I' := I3) (J' := J3) rfl ?_
            refine Wp.iald rfl rfl h.1 ?_
            replace h := h.2
            exact Wp.ret rfl h
      · replace h := h.2 h3
        refine Wp.steps 2 (pc' := 87) (lv' := [some (.ref 57), some (.int x1), some (.int (I3 58 5)), none]) (st' := [.int (I3 58 5), .ref 57]) (I' := I3) (J' := J3) rfl ?_
        refine Wp.call (M' := Md_isOpen) (as := [.ref 57, .int (I3 58 5)]) (rest := []) rfl (CI.use h (fun v4 I4 J4 h => ?_))
        refine Wp.eqs (pc' := 90) (st' := [.int v4]) rfl rfl ?_
        refine Wp.steps 1 (pc' := if v4 = 0 then 96 else 93) (lv' := [some (.ref 57), some (.int x1), some (.int (I3 58 5)), none]) (st' := []) (I' := I4) (J' := J4) rfl (Wp.ite (fun h4 => ?_) (fun h4 => ?_))
        · replace h := h.1 h4
          refine Wp.steps 3 (pc' := 101) (lv' := [some (.ref 57), some (.int x1), some (.int (I3 58 5)), none]) (st' := [.int (I3 58 5), .ref 69]) (I' := I4) (J' := J4) rfl ?_
          refine Wp.iald rfl rfl h.1 ?_
          replace h := h.2
          refine Wp.steps 1 (pc' := if (I4 69 (tN (I3 58 5))) = 0 then 105 else 115) (lv' := [some (.ref 57), some (.int x1), some (.int (I3 58 5)), none]) (st' := []) (I' := I4) (J' := J4) rfl (Wp.ite (fun h5 => ?_) (fun h5 => ?_))
          · replace h := h.1 h5
            refine Wp.steps 4 (pc' := 109) (lv' := [some (.ref 57), some (.int x1), some (.int (I3 58 5)), none]) (st' := [.int (-1), .int 0, .int (I3 58 5), .ref 57]) (I' := I4) (J' := J4) rfl ?_
            refine Wp.call (M' := Md_slideTo) (as := [.ref 57, .int (I3 58 5), .int 0, .int (-1)]) (rest := []) rfl (CI.use h (fun v5 I5 J5 h => ?_))
            refine Wp.eqs (pc' := 112) (st' := [.int v5]) rfl rfl ?_
            refine Wp.steps 4 (pc' := 140) (lv' := [some (.ref 57), some (.int x1), some (.int (I3 58 5)), some (.int v5)]) (st' := [.int (-4), .int v5]) (I' := I5) (J' := J5) rfl ?_
            refine Wp.steps 1 (pc' := if v5 = (-4) then 143 else 148) (lv' := [some (.ref 57), some (.int x1), some (.int (I3 58 5)), some (.int v5)]) (st' := []) (I' := I5) (J' := J5) rfl (Wp.ite (fun h6 => ?_) (fun h6 => ?_))
            · replace h := h.1 h6
              refine Wp.steps 2 (pc' := 158) (lv' := [some (.ref 57), some (.int x1), some (.int (I3 58 5)), some (.int v5)]) (st' := [.int (-4)]) (I' := I5) (J' := J5) rfl ?_
              exact Wp.ret rfl h
            · replace h := h.2 h6
              refine Wp.steps 9 (pc' := 158) (lv' := [some (.ref 57), some (.int x1), some (.int (I3 58 5)), some (.int v5)]) (st' := [.int ((10 * (v5 / 2)) + (rmI v5 2))]) (I' := I5) (J' := J5) rfl ?_
              exact Wp.ret rfl h
          · replace h := h.2 h5
            refine Wp.steps 6 (pc' := 123) (lv' := [some (.ref 57), some (.int x1), some (.int (I3 58 5)), none]) (st' := [.int (I3 58 5), .ref 69, .int 3, .int (I3 58 5), .ref 57]) (I' := I4) (J' := J4) rfl ?_
            refine Wp.iald rfl rfl h.1 ?_
            replace h := h.2
            refine Wp.steps 4 (pc' := 130) (lv' := [some (.ref 57), some (.int x1), some (.int (I3 58 5)), none]) (st' := [.int (I3 58 5), .ref 70, .int (3 - (I4 69 (tN (I3 58 5)))), .int (I3 58 5), .ref 57]) (I' := I4) (J' := J4) rfl ?_
            refine Wp.iald rfl rfl h.1 ?_
            replace h := h.2
            refine Wp.steps 2 (pc' := 133) (lv' := [some (.ref 57), some (.int x1), some (.int (I3 58 5)), none]) (st' := [.int ((I4 70 (tN (I3 58 5))) - 1), .int (3 - (I4 69 (tN (I3 58 5)))), .int (I3 58 5), .ref 57]) (I' := I4) (J' := J4) rfl ?_
            refine Wp.call (M' := Md_slideTo) (as := [.ref 57, .int (I3 58 5), .int (3 - (I4 69 (tN (I3 58 5)))), .int ((I4 70 (tN (I3 58 5))) - 1)]) (rest := []) rfl (CI.use h (fun v5 I5 J5 h => ?_))
            refine Wp.eqs (pc' := 136) (st' := [.int v5]) rfl rfl ?_
            refine Wp.steps 3 (pc' := 140) (lv' := [some (.ref 57), some (.int x1), some (.int (I3 58 5)), some (.int v5)]) (st' := [.int (-4), .int v5]) (I' := I5) (J' := J5) rfl ?_
            refine Wp.steps 1 (pc' := if v5 = (-4) then 143 else 148) (lv' := [some (.ref 57), some (.int x1), some (.int (I3 58 5)), some (.int v5)]) (st' := []) (I' := I5) (J' := J5) rfl (Wp.ite (fun h6 => ?_) (fun h6 => ?_))
            · replace h := h.1 h6
              refine Wp.steps 2 (pc' := 158) (lv' := [some (.ref 57), some (.int x1), some (.int (I3 58 5)), some (.int v5)]) (st' := [.int (-4)]) (I' := I5) (J' := J5) rfl ?_
              exact Wp.ret rfl h
            · replace h := h.2 h6
              refine Wp.steps 9 (pc' := 158) (lv' := [some (.ref 57), some (.int x1), some (.int (I3 58 5)), some (.int v5)]) (st' := [.int ((10 * (v5 / 2)) + (rmI v5 2))]) (I' := I5) (J' := J5) rfl ?_
              exact Wp.ret rfl h
        · replace h := h.2 h4
          refine Wp.steps 1 (pc' := 95) (lv' := [some (.ref 57), some (.int x1), some (.int (I3 58 5)), none]) (st' := [.int (-4)]) (I' := I4) (J' := J4) rfl ?_
          exact Wp.ret rfl h
theorem v_Md_fumble_57_0 {d : Nat} {Q : Post} {I : I2} {J : J2} {x1 : Int32} {x2 : Int32} (h : CI d Md_in [.long (Int32.toInt64 x1), .long 0, .long 3] I J (fun v1 I1 J1 => (v1 = 0 → Q (some (.long (-1))) I1 J1) ∧ (¬ (v1 = 0) → CI d Md_in [.long (Int32.toInt64 x2), .long 0, .long 1] I1 J1 (fun v2 I2 J2 => (v2 = 0 → Q (some (.long (-1))) I2 J2) ∧ (¬ (v2 = 0) → CV d Md_goesThrough [.ref 57, .int (I2 58 3)] I2 J2 (fun I3 J3 => Wp d Md_fumble Q 38 [some (.ref 57), some (.int x1), some (.int x2), some (.int 0), none, none, none, none, none, none, none, none, none] [] I3 J3)))))) : Wp d Md_fumble Q 0 [some (.ref 57), some (.int x1), some (.int x2), none, none, none, none, none, none, none, none, none, none] [] I J := by
  refine Wp.steps 4 (pc' := 6) (lv' := [some (.ref 57), some (.int x1), some (.int x2), none, none, none, none, none, none, none, none, none, none]) (st' := [.long 3, .long 0, .long (Int32.toInt64 x1)]) (I' := I) (J' := J) rfl ?_
  refine Wp.call (M' := Md_in) (as := [.long (Int32.toInt64 x1), .long 0, .long 3]) (rest := []) rfl (CI.use h (fun v1 I1 J1 h => ?_))
  refine Wp.eqs (pc' := 9) (st' := [.int v1]) rfl rfl ?_
  refine Wp.steps 1 (pc' := if v1 = 0 then 22 else 12) (lv' := [some (.ref 57), some (.int x1), some (.int x2), none, none, none, none, none, none, none, none, none, none]) (st' := []) (I' := I1) (J' := J1) rfl (Wp.ite (fun h1 => ?_) (fun h1 => ?_))
  · replace h := h.1 h1
    refine Wp.steps 1 (pc' := 25) (lv' := [some (.ref 57), some (.int x1), some (.int x2), none, none, none, none, none, none, none, none, none, none]) (st' := [.long (-1)]) (I' := I1) (J' := J1) rfl ?_
    exact Wp.ret rfl h
  · replace h := h.2 h1
    refine Wp.steps 4 (pc' := 16) (lv' := [some (.ref 57), some (.int x1), some (.int x2), none, none, none, none, none, none, none, none, none, none]) (st' := [.long 1, .long 0, .long (Int32.toInt64 x2)]) (I' := I1) (J' := J1) rfl ?_
    refine Wp.call (M' := Md_in) (as := [.long (Int32.toInt64 x2), .long 0, .long 1]) (rest := []) rfl (CI.use h (fun v2 I2 J2 h => ?_))
    refine Wp.eqs (pc' := 19) (st' := [.int v2]) rfl rfl ?_
    refine Wp.steps 1 (pc' := if v2 = 0 then 22 else 26) (lv' := [some (.ref 57), some (.int x1), some (.int x2), none, none, none, none, none, none, none, none, none, none]) (st' := []) (I' := I2) (J' := J2) rfl (Wp.ite (fun h2 => ?_) (fun h2 => ?_))
    · replace h := h.1 h2
      refine Wp.steps 1 (pc' := 25) (lv' := [some (.ref 57), some (.int x1), some (.int x2), none, none, none, none, none, none, none, none, none, none]) (st' := [.long (-1)]) (I' := I2) (J' := J2) rfl ?_
      exact Wp.ret rfl h
    · replace h := h.2 h2
      refine Wp.steps 5 (pc' := 33) (lv' := [some (.ref 57), some (.int x1), some (.int x2), none, none, none, none, none, none, none, none, none, none]) (st' := [.int (I2 58 3), .ref 57]) (I' := I2) (J' := J2) rfl ?_
      refine Wp.call (M' := Md_goesThrough) (as := [.ref 57, .int (I2 58 3)]) (rest := []) rfl (CV.use h (fun I3 J3 h => ?_))
      refine Wp.eqs (pc' := 36) (st' := []) rfl rfl ?_
      refine Wp.steps 2 (pc' := 38) (lv' := [some (.ref 57), some (.int x1), some (.int x2), some (.int 0), none, none, none, none, none, none, none, none, none]) (st' := []) (I' := I3) (J' := J3) rfl ?_
      exact h
theorem v_Md_fumble_57_38 {d : Nat} {Q : Post} {I : I2} {J : J2} {x1 : Int32} {x2 : Int32} {x3 : Int32} (h : (x3 < (I 57 11) → vp_in x3 1024 ∧ (vp_in (I 63 (tN x3)) 1024 ∧ (Wp d Md_fumble Q 38 [some (.ref 57), some (.int x1), some (.int x2), some (.int (x3 + 1)), none, none, none, none, none, none, none, none, none] [] I (upJ J 71 (tN (I 63 (tN x3))) 0)))) ∧ (¬ (x3 < (I 57 11)) → vp_in (I 58 5) 1024 ∧ (Wp d Md_fumble Q 81 [some (.ref 57), some (.int x1), some (.int x2), some (.long 1), none, some (.int 0), none, none, none, none, none, none, none] [] I (upJ J 71 (tN (I 58 5)) 1)))) : Wp d Md_fumble Q 38 [some (.ref 57), some (.int x1), some (.int x2), some (.int x3), none, none, none, none, none, none, none, none, none] [] I J := by
  refine Wp.steps 3 (pc' := 43) (lv' := [some (.ref 57), some (.int x1), some (.int x2), some (.int x3), none, none, none, none, none, none, none, none, none]) (st' := [.int (I 57 11), .int x3]) (I' := I) (J' := J) rfl ?_
  refine Wp.steps 1 (pc' := if x3 < (I 57 11) then 46 else 64) (lv' := [some (.ref 57), some (.int x1), some (.int x2), some (.int x3), none, none, none, none, none, none, none, none, none]) (st' := []) (I' := I) (J' := J) rfl (Wp.ite (fun h1 => ?_) (fun h1 => ?_))
  · replace h := h.1 h1
    refine Wp.steps 5 (pc' := 55) (lv' := [some (.ref 57), some (.int x1), some (.int x2), some (.int x3), none, none, none, none, none, none, none, none, none]) (st' := [.int x3, .ref 63, .ref 71]) (I' := I) (J' := J) rfl ?_
    refine Wp.iald rfl rfl h.1 ?_
    replace h := h.2
    refine Wp.steps 1 (pc' := 57) (lv' := [some (.ref 57), some (.int x1), some (.int x2), some (.int x3), none, none, none, none, none, none, none, none, none]) (st' := [.long 0, .int (I 63 (tN x3)), .ref 71]) (I' := I) (J' := J) rfl ?_
    refine Wp.last rfl rfl h.1 ?_
    replace h := h.2
    refine Wp.steps 2 (pc' := 38) (lv' := [some (.ref 57), some (.int x1), some (.int x2), some (.int (x3 + 1)), none, none, none, none, none, none, none, none, none]) (st' := []) (I' := I) (J' := (upJ J 71 (tN (I 63 (tN x3))) 0)) rfl ?_
    exact h
  · replace h := h.2 h1
    refine Wp.steps 7 (pc' := 75) (lv' := [some (.ref 57), some (.int x1), some (.int x2), some (.int x3), none, none, none, none, none, none, none, none, none]) (st' := [.long 1, .int (I 58 5), .ref 71]) (I' := I) (J' := J) rfl ?_
    refine Wp.last rfl rfl h.1 ?_
    replace h := h.2
    refine Wp.steps 4 (pc' := 81) (lv' := [some (.ref 57), some (.int x1), some (.int x2), some (.long 1), none, some (.int 0), none, none, none, none, none, none, none]) (st' := []) (I' := I) (J' := (upJ J 71 (tN (I 58 5)) 1)) rfl ?_
    exact h
theorem v_Md_fumble_57_81 {d : Nat} {Q : Post} {I : I2} {J : J2} {x1 : Int32} {x2 : Int32} {x3 : Int64} {x5 : Int32} (h : (x5 < x1 → CV d Md_fumbles [.ref 57] I J (fun I1 J1 => Wp d Md_fumble Q 81 [some (.ref 57), some (.int x1), some (.int x2), some (.long (x3 * 2520)), none, some (.int (x5 + 1)), none, none, none, none, none, none, none] [] I1 J1)) ∧ (¬ (x5 < x1) → Wp d Md_fumble Q 109 [some (.ref 57), some (.int x1), some (.int x2), some (.long x3), none, some (.long 0), none, some (.int 0), none, none, none, none, none] [] I J)) : Wp d Md_fumble Q 81 [some (.ref 57), some (.int x1), some (.int x2), some (.long x3), none, some (.int x5), none, none, none, none, none, none, none] [] I J := by
  refine Wp.steps 2 (pc' := 84) (lv' := [some (.ref 57), some (.int x1), some (.int x2), some (.long x3), none, some (.int x5), none, none, none, none, none, none, none]) (st' := [.int x1, .int x5]) (I' := I) (J' := J) rfl ?_
  refine Wp.steps 1 (pc' := if x5 < x1 then 87 else 103) (lv' := [some (.ref 57), some (.int x1), some (.int x2), some (.long x3), none, some (.int x5), none, none, none, none, none, none, none]) (st' := []) (I' := I) (J' := J) rfl (Wp.ite (fun h1 => ?_) (fun h1 => ?_))
  · replace h := h.1 h1
    refine Wp.steps 1 (pc' := 88) (lv' := [some (.ref 57), some (.int x1), some (.int x2), some (.long x3), none, some (.int x5), none, none, none, none, none, none, none]) (st' := [.ref 57]) (I' := I) (J' := J) rfl ?_
    refine Wp.call (M' := Md_fumbles) (as := [.ref 57]) (rest := []) rfl (CV.use h (fun I1 J1 h => ?_))
    refine Wp.eqs (pc' := 91) (st' := []) rfl rfl ?_
    refine Wp.steps 6 (pc' := 81) (lv' := [some (.ref 57), some (.int x1), some (.int x2), some (.long (x3 * 2520)), none, some (.int (x5 + 1)), none, none, none, none, none, none, none]) (st' := []) (I' := I1) (J' := J1) rfl ?_
    exact h
  · replace h := h.2 h1
    refine Wp.steps 4 (pc' := 109) (lv' := [some (.ref 57), some (.int x1), some (.int x2), some (.long x3), none, some (.long 0), none, some (.int 0), none, none, none, none, none]) (st' := []) (I' := I) (J' := J) rfl ?_
    exact h
theorem v_Md_fumble_57_109 {d : Nat} {Q : Post} {I : I2} {J : J2} {x1 : Int32} {x2 : Int32} {x3 : Int64} {x5 : Int64} {x7 : Int32} (h : (x7 < (I 57 11) → vp_in x7 1024 ∧ (CI d Md_isOpen [.ref 57, .int (I 63 (tN x7))] I J (fun v1 I1 J1 => (v1 = 0 → Wp d Md_fumble Q 109 [some (.ref 57), some (.int x1), some (.int x2), some (.long x3), none, some (.long (x5 + 0)), none, some (.int (x7 + 1)), none, none, none, none, none] [] I1 J1) ∧ (¬ (v1 = 0) → vp_in x7 1024 ∧ (vp_in (I1 63 (tN x7)) 1024 ∧ (Wp d Md_fumble Q 109 [some (.ref 57), some (.int x1), some (.int x2), some (.long x3), none, some (.long (x5 + (J1 71 (tN (I1 63 (tN x7)))))), none, some (.int (x7 + 1)), none, none, none, none, none] [] I1 J1)))))) ∧ (¬ (x7 < (I 57 11)) → Wp d Md_fumble Q 166 [some (.ref 57), some (.int x1), some (.int x2), some (.long x3), none, some (.long x5), none, some (.long x5), none, some (.long x3), none, none, none] [] I J)) : Wp d Md_fumble Q 109 [some (.ref 57), some (.int x1), some (.int x2), some (.long x3), none, some (.long x5), none, some (.int x7), none, none, none, none, none] [] I J := by
  refine Wp.steps 3 (pc' := 115) (lv' := [some (.ref 57), some (.int x1), some (.int x2), some (.long x3), none, some (.long x5), none, some (.int x7), none, none, none, none, none]) (st' := [.int (I 57 11), .int x7]) (I' := I) (J' := J) rfl ?_
  refine Wp.steps 1 (pc' := if x7 < (I 57 11) then 118 else 159) (lv' := [some (.ref 57), some (.int x1), some (.int x2), some (.long x3), none, some (.long x5), none, some (.int x7), none, none, none, none, none]) (st' := []) (I' := I) (J' := J) rfl (Wp.ite (fun h1 => ?_) (fun h1 => ?_))
  · replace h := h.1 h1
    refine Wp.steps 5 (pc' := 127) (lv' := [some (.ref 57), some (.int x1), some (.int x2), some (.long x3), none, some (.long x5), none, some (.int x7), none, none, none, none, none]) (st' := [.int x7, .ref 63, .ref 57, .long x5]) (I' := I) (J' := J) rfl ?_
    refine Wp.iald rfl rfl h.1 ?_
    replace h := h.2
    refine Wp.call (M' := Md_isOpen) (as := [.ref 57, .int (I 63 (tN x7))]) (rest := [.long x5]) rfl (CI.use h (fun v1 I1 J1 h => ?_))
    refine Wp.eqs (pc' := 131) (st' := [.int v1, .long x5]) rfl rfl ?_
    refine Wp.steps 1 (pc' := if v1 = 0 then 149 else 134) (lv' := [some (.ref 57), some (.int x1), some (.int x2), some (.long x3), none, some (.long x5), none, some (.int x7), none, none, none, none, none]) (st' := [.long x5]) (I' := I1) (J' := J1) rfl (Wp.ite (fun h2 => ?_) (fun h2 => ?_))
    · replace h := h.1 h2
      refine Wp.steps 5 (pc' := 109) (lv' := [some (.ref 57), some (.int x1), some (.int x2), some (.long x3), none, some (.long (x5 + 0)), none, some (.int (x7 + 1)), none, none, none, none, none]) (st' := []) (I' := I1) (J' := J1) rfl ?_
      exact h
    · replace h := h.2 h2
      refine Wp.steps 5 (pc' := 144) (lv' := [some (.ref 57), some (.int x1), some (.int x2), some (.long x3), none, some (.long x5), none, some (.int x7), none, none, none, none, none]) (st' := [.int x7, .ref 63, .ref 71, .long x5]) (I' := I1) (J' := J1) rfl ?_
      refine Wp.iald rfl rfl h.1 ?_
      replace h := h.2
      refine Wp.lald rfl rfl h.1 ?_
      replace h := h.2
      refine Wp.steps 5 (pc' := 109) (lv' := [some (.ref 57), some (.int x1), some (.int x2), some (.long x3), none, some (.long (x5 + (J1 71 (tN (I1 63 (tN x7)))))), none, some (.int (x7 + 1)), none, none, none, none, none]) (st' := []) (I' := I1) (J' := J1) rfl ?_
      exact h
  · replace h := h.2 h1
    refine Wp.steps 4 (pc' := 166) (lv' := [some (.ref 57), some (.int x1), some (.int x2), some (.long x3), none, some (.long x5), none, some (.long x5), none, some (.long x3), none, none, none]) (st' := []) (I' := I) (J' := J) rfl ?_
    exact h
theorem v_Md_fumble_57_166 {d : Nat} {Q : Post} {I : I2} {J : J2} {x1 : Int32} {x2 : Int32} {x3 : Int64} {x5 : Int64} {x7 : Int64} {x9 : Int64} (h : ((lg_cmp x9 0) = 0 → (x2 = 0 → ¬ x7 = 0 ∧ (Q (some (.long (x5 / x7))) I J)) ∧ (¬ (x2 = 0) → ¬ x7 = 0 ∧ (Q (some (.long (x3 / x7))) I J))) ∧ (¬ ((lg_cmp x9 0) = 0) → ¬ x9 = 0 ∧ (Wp d Md_fumble Q 166 [some (.ref 57), some (.int x1), some (.int x2), some (.long x3), none, some (.long x5), none, some (.long x9), none, some (.long (rmL x7 x9)), none, none, none] [] I J))) : Wp d Md_fumble Q 166 [some (.ref 57), some (.int x1), some (.int x2), some (.long x3), none, some (.long x5), none, some (.long x7), none, some (.long x9), none, none, none] [] I J := by
  refine Wp.steps 3 (pc' := 170) (lv' := [some (.ref 57), some (.int x1), some (.int x2), some (.long x3), none, some (.long x5), none, some (.long x7), none, some (.long x9), none, none, none]) (st' := [.int (lg_cmp x9 0)]) (I' := I) (J' := J) rfl ?_
  refine Wp.steps 1 (pc' := if (lg_cmp x9 0) = 0 then 191 else 173) (lv' := [some (.ref 57), some (.int x1), some (.int x2), some (.long x3), none, some (.long x5), none, some (.long x7), none, some (.long x9), none, none, none]) (st' := []) (I' := I) (J' := J) rfl (Wp.ite (fun h1 => ?_) (fun h1 => ?_))
  · replace h := h.1 h1
    refine Wp.steps 1 (pc' := 192) (lv' := [some (.ref 57), some (.int x1), some (.int x2), some (.long x3), none, some (.long x5), none, some (.long x7), none, some (.long x9), none, none, none]) (st' := [.int x2]) (I' := I) (J' := J) rfl ?_
    refine Wp.steps 1 (pc' := if x2 = 0 then 195 else 203) (lv' := [some (.ref 57), some (.int x1), some (.int x2), some (.long x3), none, some (.long x5), none, some (.long x7), none, some (.long x9), none, none, none]) (st' := []) (I' := I) (J' := J) rfl (Wp.ite (fun h2 => ?_) (fun h2 => ?_))
    · replace h := h.1 h2
      refine Wp.steps 2 (pc' := 199) (lv' := [some (.ref 57), some (.int x1), some (.int x2), some (.long x3), none, some (.long x5), none, some (.long x7), none, some (.long x9), none, none, none]) (st' := [.long x7, .long x5]) (I' := I) (J' := J) rfl ?_
      refine Wp.ldiv rfl h.1 ?_
      replace h := h.2
      refine Wp.steps 1 (pc' := 207) (lv' := [some (.ref 57), some (.int x1), some (.int x2), some (.long x3), none, some (.long x5), none, some (.long x7), none, some (.long x9), none, none, none]) (st' := [.long (x5 / x7)]) (I' := I) (J' := J) rfl ?_
      exact Wp.ret rfl h
    · replace h := h.2 h2
      refine Wp.steps 2 (pc' := 206) (lv' := [some (.ref 57), some (.int x1), some (.int x2), some (.long x3), none, some (.long x5), none, some (.long x7), none, some (.long x9), none, none, none]) (st' := [.long x7, .long x3]) (I' := I) (J' := J) rfl ?_
      refine Wp.ldiv rfl h.1 ?_
      replace h := h.2
      exact Wp.ret rfl h
  · replace h := h.2 h1
    refine Wp.steps 2 (pc' := 177) (lv' := [some (.ref 57), some (.int x1), some (.int x2), some (.long x3), none, some (.long x5), none, some (.long x7), none, some (.long x9), none, none, none]) (st' := [.long x9, .long x7]) (I' := I) (J' := J) rfl ?_
    refine Wp.lrem rfl h.1 ?_
    replace h := h.2
    refine Wp.steps 6 (pc' := 166) (lv' := [some (.ref 57), some (.int x1), some (.int x2), some (.long x3), none, some (.long x5), none, some (.long x9), none, some (.long (rmL x7 x9)), none, some (.long (rmL x7 x9)), none]) (st' := []) (I' := I) (J' := J) rfl ?_
    refine Wp.drop [11] (lv' := [some (.ref 57), some (.int x1), some (.int x2), some (.long x3), none, some (.long x5), none, some (.long x9), none, some (.long (rmL x7 x9)), none, none, none]) rfl ?_
    exact h
theorem v_Md_image_57_0 {d : Nat} {Q : Post} {I : I2} {J : J2} (h : Wp d Md_image Q 2 [some (.ref 57), some (.int 0)] [] I J) : Wp d Md_image Q 0 [some (.ref 57), none] [] I J := by
  refine Wp.steps 2 (pc' := 2) (lv' := [some (.ref 57), some (.int 0)]) (st' := []) (I' := I) (J' := J) rfl ?_
  exact h
theorem v_Md_image_57_2 {d : Nat} {Q : Post} {I : I2} {J : J2} {x1 : Int32} (h : (x1 < 40 → vp_in x1 40 ∧ (vp_in x1 64 ∧ (Wp d Md_image Q 2 [some (.ref 57), some (.int (x1 + 1))] [] (up2 I 73 (tN x1) (I 58 (tN x1))) J))) ∧ (¬ (x1 < 40) → Wp d Md_image Q 28 [some (.ref 57), some (.int 0)] [] I J)) : Wp d Md_image Q 2 [some (.ref 57), some (.int x1)] [] I J := by
  refine Wp.steps 2 (pc' := 5) (lv' := [some (.ref 57), some (.int x1)]) (st' := [.int 40, .int x1]) (I' := I) (J' := J) rfl ?_
  refine Wp.steps 1 (pc' := if x1 < 40 then 8 else 26) (lv' := [some (.ref 57), some (.int x1)]) (st' := []) (I' := I) (J' := J) rfl (Wp.ite (fun h1 => ?_) (fun h1 => ?_))
  · replace h := h.1 h1
    refine Wp.steps 6 (pc' := 18) (lv' := [some (.ref 57), some (.int x1)]) (st' := [.int x1, .ref 58, .int x1, .ref 73]) (I' := I) (J' := J) rfl ?_
    refine Wp.iald rfl rfl h.1 ?_
    replace h := h.2
    refine Wp.iast rfl rfl h.1 ?_
    replace h := h.2
    refine Wp.steps 2 (pc' := 2) (lv' := [some (.ref 57), some (.int (x1 + 1))]) (st' := []) (I' := (up2 I 73 (tN x1) (I 58 (tN x1)))) (J' := J) rfl ?_
    exact h
  · replace h := h.2 h1
    refine Wp.steps 2 (pc' := 28) (lv' := [some (.ref 57), some (.int 0)]) (st' := []) (I' := I) (J' := J) rfl ?_
    exact h
theorem v_Md_image_57_28 {d : Nat} {Q : Post} {I : I2} {J : J2} {x1 : Int32} (h : (x1 < 24 → vp_in x1 24 ∧ (vp_in (40 + x1) 64 ∧ (Wp d Md_image Q 28 [some (.ref 57), some (.int (x1 + 1))] [] (up2 I 73 (tN (40 + x1)) (I 62 (tN x1))) J))) ∧ (¬ (x1 < 24) → Q (some (.int 1)) (up2 (up2 I 57 22 (I 57 9)) 57 23 1) J)) : Wp d Md_image Q 28 [some (.ref 57), some (.int x1)] [] I J := by
  refine Wp.steps 2 (pc' := 31) (lv' := [some (.ref 57), some (.int x1)]) (st' := [.int 24, .int x1]) (I' := I) (J' := J) rfl ?_
  refine Wp.steps 1 (pc' := if x1 < 24 then 34 else 55) (lv' := [some (.ref 57), some (.int x1)]) (st' := []) (I' := I) (J' := J) rfl (Wp.ite (fun h1 => ?_) (fun h1 => ?_))
  · replace h := h.1 h1
    refine Wp.steps 8 (pc' := 47) (lv' := [some (.ref 57), some (.int x1)]) (st' := [.int x1, .ref 62, .int (40 + x1), .ref 73]) (I' := I) (J' := J) rfl ?_
    refine Wp.iald rfl rfl h.1 ?_
    replace h := h.2
    refine Wp.iast rfl rfl h.1 ?_
    replace h := h.2
    refine Wp.steps 2 (pc' := 28) (lv' := [some (.ref 57), some (.int (x1 + 1))]) (st' := []) (I' := (up2 I 73 (tN (40 + x1)) (I 62 (tN x1)))) (J' := J) rfl ?_
    exact h
  · replace h := h.2 h1
    refine Wp.steps 8 (pc' := 69) (lv' := [some (.ref 57), some (.int x1)]) (st' := [.int 1]) (I' := (up2 (up2 I 57 22 (I 57 9)) 57 23 1)) (J' := J) rfl ?_
    exact Wp.ret rfl h
theorem v_Md_restore_57_0 {d : Nat} {Q : Post} {I : I2} {J : J2} (h : ((I 57 23) = 0 → Q (some (.int (-4))) I J) ∧ (¬ ((I 57 23) = 0) → Wp d Md_restore Q 12 [some (.ref 57), some (.int 0)] [] I J)) : Wp d Md_restore Q 0 [some (.ref 57), none] [] I J := by
  refine Wp.steps 2 (pc' := 4) (lv' := [some (.ref 57), none]) (st' := [.int (I 57 23)]) (I' := I) (J' := J) rfl ?_
  refine Wp.steps 1 (pc' := if (I 57 23) = 0 then 7 else 10) (lv' := [some (.ref 57), none]) (st' := []) (I' := I) (J' := J) rfl (Wp.ite (fun h1 => ?_) (fun h1 => ?_))
  · replace h := h.1 h1
    refine Wp.steps 1 (pc' := 9) (lv' := [some (.ref 57), none]) (st' := [.int (-4)]) (I' := I) (J' := J) rfl ?_
    exact Wp.ret rfl h
  · replace h := h.2 h1
    refine Wp.steps 2 (pc' := 12) (lv' := [some (.ref 57), some (.int 0)]) (st' := []) (I' := I) (J' := J) rfl ?_
    exact h
theorem v_Md_restore_57_12 {d : Nat} {Q : Post} {I : I2} {J : J2} {x1 : Int32} (h : (x1 < 40 → vp_in x1 64 ∧ (vp_in x1 40 ∧ (Wp d Md_restore Q 12 [some (.ref 57), some (.int (x1 + 1))] [] (up2 I 58 (tN x1) (I 73 (tN x1))) J))) ∧ (¬ (x1 < 40) → Wp d Md_restore Q 38 [some (.ref 57), some (.int 0)] [] I J)) : Wp d Md_restore Q 12 [some (.ref 57), some (.int x1)] [] I J := by
  refine Wp.steps 2 (pc' := 15) (lv' := [some (.ref 57), some (.int x1)]) (st' := [.int 40, .int x1]) (I' := I) (J' := J) rfl ?_
  refine Wp.steps 1 (pc' := if x1 < 40 then 18 else 36) (lv' := [some (.ref 57), some (.int x1)]) (st' := []) (I' := I) (J' := J) rfl (Wp.ite (fun h1 => ?_) (fun h1 => ?_))
  · replace h := h.1 h1
    refine Wp.steps 6 (pc' := 28) (lv' := [some (.ref 57), some (.int x1)]) (st' := [.int x1, .ref 73, .int x1, .ref 58]) (I' := I) (J' := J) rfl ?_
    refine Wp.iald rfl rfl h.1 ?_
    replace h := h.2
    refine Wp.iast rfl rfl h.1 ?_
    replace h := h.2
    refine Wp.steps 2 (pc' := 12) (lv' := [some (.ref 57), some (.int (x1 + 1))]) (st' := []) (I' := (up2 I 58 (tN x1) (I 73 (tN x1)))) (J' := J) rfl ?_
    exact h
  · replace h := h.2 h1
    refine Wp.steps 2 (pc' := 38) (lv' := [some (.ref 57), some (.int 0)]) (st' := []) (I' := I) (J' := J) rfl ?_
    exact h
theorem v_Md_restore_57_38 {d : Nat} {Q : Post} {I : I2} {J : J2} {x1 : Int32} (h : (x1 < 24 → vp_in (40 + x1) 64 ∧ (vp_in x1 24 ∧ (Wp d Md_restore Q 38 [some (.ref 57), some (.int (x1 + 1))] [] (up2 I 62 (tN x1) (I 73 (tN (40 + x1)))) J))) ∧ (¬ (x1 < 24) → Q (some (.int 1)) (up2 I 57 9 (I 57 22)) J)) : Wp d Md_restore Q 38 [some (.ref 57), some (.int x1)] [] I J := by
  refine Wp.steps 2 (pc' := 41) (lv' := [some (.ref 57), some (.int x1)]) (st' := [.int 24, .int x1]) (I' := I) (J' := J) rfl ?_
  refine Wp.steps 1 (pc' := if x1 < 24 then 44 else 65) (lv' := [some (.ref 57), some (.int x1)]) (st' := []) (I' := I) (J' := J) rfl (Wp.ite (fun h1 => ?_) (fun h1 => ?_))
  · replace h := h.1 h1
    refine Wp.steps 8 (pc' := 57) (lv' := [some (.ref 57), some (.int x1)]) (st' := [.int (40 + x1), .ref 73, .int x1, .ref 62]) (I' := I) (J' := J) rfl ?_
    refine Wp.iald rfl rfl h.1 ?_
    replace h := h.2
    refine Wp.iast rfl rfl h.1 ?_
    replace h := h.2
    refine Wp.steps 2 (pc' := 38) (lv' := [some (.ref 57), some (.int (x1 + 1))]) (st' := []) (I' := (up2 I 62 (tN x1) (I 73 (tN (40 + x1))))) (J' := J) rfl ?_
    exact h
  · replace h := h.2 h1
    refine Wp.steps 5 (pc' := 74) (lv' := [some (.ref 57), some (.int x1)]) (st' := [.int 1]) (I' := (up2 I 57 9 (I 57 22))) (J' := J) rfl ?_
    exact Wp.ret rfl h
theorem v_Md_to_57_0 {d : Nat} {Q : Post} {I : I2} {J : J2} {x1 : Int32} {x2 : Int32} {x3 : Int32} {x4 : Int32} (h : CI d Md_isSheet [.int x1] I J (fun v1 I1 J1 => (v1 = 0 → Q (some (.int (-1))) I1 J1) ∧ (¬ (v1 = 0) → CI d Md_isLane [.int x2] I1 J1 (fun v2 I2 J2 => (v2 = 0 → Q (some (.int (-1))) I2 J2) ∧ (¬ (v2 = 0) → (x4 < (-1) → Q (some (.int (-1))) I2 J2) ∧ (¬ (x4 < (-1)) → ((I2 58 0) = 0 → Q (some (.int (-1))) I2 J2) ∧ (¬ ((I2 58 0) = 0) → CI d Md_why [.ref 57, .int x1, .int x2, .int x3, .int (I2 58 0)] I2 J2 (fun v3 I3 J3 => (v3 < 0 → Q (some (.int v3)) I3 J3) ∧ (¬ (v3 < 0) → Wp d Md_to Q 60 [some (.ref 57), some (.int x1), some (.int x2), some (.int x3), some (.int x4), some (.int v3), some (.int 0), some (.int 0), none, none] [] I3 J3))))))))) : Wp d Md_to Q 0 [some (.ref 57), some (.int x1), some (.int x2), some (.int x3), some (.int x4), none, none, none, none, none] [] I J := by
  refine Wp.steps 1 (pc' := 1) (lv' := [some (.ref 57), some (.int x1), some (.int x2), some (.int x3), some (.int x4), none, none, none, none, none]) (st' := [.int x1]) (I' := I) (J' := J) rfl ?_
  refine Wp.call (M' := Md_isSheet) (as := [.int x1]) (rest := []) rfl (CI.use h (fun v1 I1 J1 h => ?_))
  refine Wp.eqs (pc' := 4) (st' := [.int v1]) rfl rfl ?_
  refine Wp.steps 1 (pc' := if v1 = 0 then 29 else 7) (lv' := [some (.ref 57), some (.int x1), some (.int x2), some (.int x3), some (.int x4), none, none, none, none, none]) (st' := []) (I' := I1) (J' := J1) rfl (Wp.ite (fun h1 => ?_) (fun h1 => ?_))
  · replace h := h.1 h1
    refine Wp.steps 1 (pc' := 30) (lv' := [some (.ref 57), some (.int x1), some (.int x2), some (.int x3), some (.int x4), none, none, none, none, none]) (st' := [.int (-1)]) (I' := I1) (J' := J1) rfl ?_
    exact Wp.ret rfl h
  · replace h := h.2 h1
    refine Wp.steps 1 (pc' := 8) (lv' := [some (.ref 57), some (.int x1), some (.int x2), some (.int x3), some (.int x4), none, none, none, none, none]) (st' := [.int x2]) (I' := I1) (J' := J1) rfl ?_
    refine Wp.call (M' := Md_isLane) (as := [.int x2]) (rest := []) rfl (CI.use h (fun v2 I2 J2 h => ?_))
    refine Wp.eqs (pc' := 11) (st' := [.int v2]) rfl rfl ?_
    refine Wp.steps 1 (pc' := if v2 = 0 then 29 else 14) (lv' := [some (.ref 57), some (.int x1), some (.int x2), some (.int x3), some (.int x4), none, none, none, none, none]) (st' := []) (I' := I2) (J' := J2) rfl (Wp.ite (fun h2 => ?_) (fun h2 => ?_))
    · replace h := h.1 h2
      refine Wp.steps 1 (pc' := 30) (lv' := [some (.ref 57), some (.int x1), some (.int x2), some (.int x3), some (.int x4), none, none, none, none, none]) (st' := [.int (-1)]) (I' := I2) (J' := J2) rfl ?_
      exact Wp.ret rfl h
    · replace h := h.2 h2
      refine Wp.steps 2 (pc' := 17) (lv' := [some (.ref 57), some (.int x1), some (.int x2), some (.int x3), some (.int x4), none, none, none, none, none]) (st' := [.int (-1), .int x4]) (I' := I2) (J' := J2) rfl ?_
      refine Wp.steps 1 (pc' := if x4 < (-1) then 29 else 20) (lv' := [some (.ref 57), some (.int x1), some (.int x2), some (.int x3), some (.int x4), none, none, none, none, none]) (st' := []) (I' := I2) (J' := J2) rfl (Wp.ite (fun h3 => ?_) (fun h3 => ?_))
      · replace h := h.1 h3
        refine Wp.steps 1 (pc' := 30) (lv' := [some (.ref 57), some (.int x1), some (.int x2), some (.int x3), some (.int x4), none, none, none, none, none]) (st' := [.int (-1)]) (I' := I2) (J' := J2) rfl ?_
        exact Wp.ret rfl h
      · replace h := h.2 h3
        refine Wp.steps 4 (pc' := 26) (lv' := [some (.ref 57), some (.int x1), some (.int x2), some (.int x3), some (.int x4), none, none, none, none, none]) (st' := [.int (I2 58 0)]) (I' := I2) (J' := J2) rfl ?_
        refine Wp.steps 1 (pc' := if (I2 58 0) = 0 then 29 else 31) (lv' := [some (.ref 57), some (.int x1), some (.int x2), some (.int x3), some (.int x4), none, none, none, none, none]) (st' := []) (I' := I2) (J' := J2) rfl (Wp.ite (fun h4 => ?_) (fun h4 => ?_))
        · replace h := h.1 h4
          refine Wp.steps 1 (pc' := 30) (lv' := [some (.ref 57), some (.int x1), some (.int x2), some (.int x3), some (.int x4), none, none, none, none, none]) (st' := [.int (-1)]) (I' := I2) (J' := J2) rfl ?_
          exact Wp.ret rfl h
        · replace h := h.2 h4
          refine Wp.steps 8 (pc' := 41) (lv' := [some (.ref 57), some (.int x1), some (.int x2), some (.int x3), some (.int x4), none, none, none, none, none]) (st' := [.int (I2 58 0), .int x3, .int x2, .int x1, .ref 57]) (I' := I2) (J' := J2) rfl ?_
          refine Wp.call (M' := Md_why) (as := [.ref 57, .int x1, .int x2, .int x3, .int (I2 58 0)]) (rest := []) rfl (CI.use h (fun v3 I3 J3 h => ?_))
          refine Wp.eqs (pc' := 44) (st' := [.int v3]) rfl rfl ?_
          refine Wp.steps 2 (pc' := 48) (lv' := [some (.ref 57), some (.int x1), some (.int x2), some (.int x3), some (.int x4), some (.int v3), none, none, none, none]) (st' := [.int v3]) (I' := I3) (J' := J3) rfl ?_
          refine Wp.steps 1 (pc' := if v3 < 0 then 51 else 54) (lv' := [some (.ref 57), some (.int x1), some (.int x2), some (.int x3), some (.int x4), some (.int v3), none, none, none, none]) (st' := []) (I' := I3) (J' := J3) rfl (Wp.ite (fun h5 => ?_) (fun h5 => ?_))
          · replace h := h.1 h5
            refine Wp.steps 1 (pc' := 53) (lv' := [some (.ref 57), some (.int x1), some (.int x2), some (.int x3), some (.int x4), some (.int v3), none, none, none, none]) (st' := [.int v3]) (I' := I3) (J' := J3) rfl ?_
            exact Wp.ret rfl h
          · replace h := h.2 h5
            refine Wp.steps 4 (pc' := 60) (lv' := [some (.ref 57), some (.int x1), some (.int x2), some (.int x3), some (.int x4), some (.int v3), some (.int 0), some (.int 0), none, none]) (st' := []) (I' := I3) (J' := J3) rfl ?_
            exact h
theorem v_Md_to_57_60 {d : Nat} {Q : Post} {I : I2} {J : J2} {x1 : Int32} {x2 : Int32} {x3 : Int32} {x4 : Int32} {x5 : Int32} {x6 : Int32} {x7 : Int32} (h : (x7 < (I 58 0) → vp_in (((24 * x1) + x3) + x7) 96 ∧ (CI d Md_deep [.ref 57, .int x7] I J (fun v1 I1 J1 => CI d Md_in [.long (J 76 (tN (((24 * x1) + x3) + x7))), .long 0, .long (Int32.toInt64 v1)] I1 J1 (fun v2 I2 J2 => (v2 = 0 → Q (some (.int (-2))) I2 J2) ∧ (¬ (v2 = 0) → Wp d Md_to Q 60 [some (.ref 57), some (.int x1), some (.int x2), some (.int x3), some (.int x4), some (.int x5), some (.int (x6 ||| (slI (Int64.toInt32 (J 76 (tN (((24 * x1) + x3) + x7)))) (2 * x7)))), some (.int (x7 + 1)), none, none] [] I2 J2))))) ∧ (¬ (x7 < (I 58 0)) → CV d Md_goesThrough [.ref 57, .int (I 58 3)] I J (fun I1 J1 => vp_in x6 1024 ∧ (((I1 64 (tN x6)) < 0 → CI d Md_wayTo [.ref 57, .int (-1), .int x4] I1 J1 (fun v2 I2 J2 => Q (some (.int v2)) I2 J2)) ∧ (¬ ((I1 64 (tN x6)) < 0) → CI d Md_wayTo [.ref 57, .int x6, .int x4] I1 J1 (fun v2 I2 J2 => Q (some (.int v2)) I2 J2)))))) : Wp d Md_to Q 60 [some (.ref 57), some (.int x1), some (.int x2), some (.int x3), some (.int x4), some (.int x5), some (.int x6), some (.int x7), none, none] [] I J := by
  refine Wp.steps 5 (pc' := 68) (lv' := [some (.ref 57), some (.int x1), some (.int x2), some (.int x3), some (.int x4), some (.int x5), some (.int x6), some (.int x7), none, none]) (st' := [.int (I 58 0), .int x7]) (I' := I) (J' := J) rfl ?_
  refine Wp.steps 1 (pc' := if x7 < (I 58 0) then 71 else 125) (lv' := [some (.ref 57), some (.int x1), some (.int x2), some (.int x3), some (.int x4), some (.int x5), some (.int x6), some (.int x7), none, none]) (st' := []) (I' := I) (J' := J) rfl (Wp.ite (fun h1 => ?_) (fun h1 => ?_))
  · replace h := h.1 h1
    refine Wp.steps 9 (pc' := 84) (lv' := [some (.ref 57), some (.int x1), some (.int x2), some (.int x3), some (.int x4), some (.int x5), some (.int x6), some (.int x7), none, none]) (st' := [.int (((24 * x1) + x3) + x7), .ref 76]) (I' := I) (J' := J) rfl ?_
    refine Wp.lald rfl rfl h.1 ?_
    replace h := h.2
    refine Wp.steps 5 (pc' := 93) (lv' := [some (.ref 57), some (.int x1), some (.int x2), some (.int x3), some (.int x4), some (.int x5), some (.int x6), some (.int x7), some (.long (J 76 (tN (((24 * x1) + x3) + x7)))), none]) (st' := [.int x7, .ref 57, .long 0, .long (J 76 (tN (((24 * x1) + x3) + x7)))]) (I' := I) (J' := J) rfl ?_
    refine Wp.call (M' := Md_deep) (as := [.ref 57, .int x7]) (rest := [.long 0, .long (J 76 (tN (((24 * x1) + x3) + x7)))]) rfl (CI.use h (fun v1 I1 J1 h => ?_))
    refine Wp.eqs (pc' := 96) (st' := [.int v1, .long 0, .long (J 76 (tN (((24 * x1) + x3) + x7)))]) rfl rfl ?_
    refine Wp.steps 1 (pc' := 97) (lv' := [some (.ref 57), some (.int x1), some (.int x2), some (.int x3), some (.int x4), some (.int x5), some (.int x6), some (.int x7), some (.long (J 76 (tN (((24 * x1) + x3) + x7)))), none]) (st' := [.long (Int32.toInt64 v1), .long 0, .long (J 76 (tN (((24 * x1) + x3) + x7)))]) (I' := I1) (J' := J1) rfl ?_
    refine Wp.call (M' := Md_in) (as := [.long (J 76 (tN (((24 * x1) + x3) + x7))), .long 0, .long (Int32.toInt64 v1)]) (rest := []) rfl (CI.use h (fun v2 I2 J2 h => ?_))
    refine Wp.eqs (pc' := 100) (st' := [.int v2]) rfl rfl ?_
    refine Wp.steps 1 (pc' := if v2 = 0 then 103 else 106) (lv' := [some (.ref 57), some (.int x1), some (.int x2), some (.int x3), some (.int x4), some (.int x5), some (.int x6), some (.int x7), some (.long (J 76 (tN (((24 * x1) + x3) + x7)))), none]) (st' := []) (I' := I2) (J' := J2) rfl (Wp.ite (fun h2 => ?_) (fun h2 => ?_))
    · replace h := h.1 h2
      refine Wp.steps 1 (pc' := 105) (lv' := [some (.ref 57), some (.int x1), some (.int x2), some (.int x3), some (.int x4), some (.int x5), some (.int x6), some (.int x7), some (.long (J 76 (tN (((24 * x1) + x3) + x7)))), none]) (st' := [.int (-2)]) (I' := I2) (J' := J2) rfl ?_
      exact Wp.ret rfl h
    · replace h := h.2 h2
      refine Wp.steps 11 (pc' := 60) (lv' := [some (.ref 57), some (.int x1), some (.int x2), some (.int x3), some (.int x4), some (.int x5), some (.int (x6 ||| (slI (Int64.toInt32 (J 76 (tN (((24 * x1) + x3) + x7)))) (2 * x7)))), some (.int (x7 + 1)), some (.long (J 76 (tN (((24 * x1) + x3) + x7)))), none]) (st' := []) (I' := I2) (J' := J2) rfl ?_
      refine Wp.drop [8] (lv' := [some (.ref 57), some (.int x1), some (.int x2), some (.int x3), some (.int x4), some (.int x5), some (.int (x6 ||| (slI (Int64.toInt32 (J 76 (tN (((24 * x1) + x3) + x7)))) (2 * x7)))), some (.int (x7 + 1)), none, none]) rfl ?_
      exact h
  · replace h := h.2 h1
    refine Wp.steps 5 (pc' := 132) (lv' := [some (.ref 57), some (.int x1), some (.int x2), some (.int x3), some (.int x4), some (.int x5), some (.int x6), some (.int x7), none, none]) (st' := [.int (I 58 3), .ref 57]) (I' := I) (J' := J) rfl ?_
    refine Wp.call (M' := Md_goesThrough) (as := [.ref 57, .int (I 58 3)]) (rest := []) rfl (CV.use h (fun I1 J1 h => ?_))
    refine Wp.eqs (pc' := 135) (st' := []) rfl rfl ?_
    refine Wp.steps 4 (pc' := 142) (lv' := [some (.ref 57), some (.int x1), some (.int x2), some (.int x3), some (.int x4), some (.int x5), some (.int x6), some (.int x7), none, none]) (st' := [.int x6, .ref 64, .ref 57]) (I' := I1) (J' := J1) rfl ?_
    refine Wp.iald rfl rfl h.1 ?_
    replace h := h.2
    refine Wp.steps 1 (pc' := if (I1 64 (tN x6)) < 0 then 146 else 150) (lv' := [some (.ref 57), some (.int x1), some (.int x2), some (.int x3), some (.int x4), some (.int x5), some (.int x6), some (.int x7), none, none]) (st' := [.ref 57]) (I' := I1) (J' := J1) rfl (Wp.ite (fun h2 => ?_) (fun h2 => ?_))
    · replace h := h.1 h2
      refine Wp.steps 3 (pc' := 154) (lv' := [some (.ref 57), some (.int x1), some (.int x2), some (.int x3), some (.int x4), some (.int x5), some (.int x6), some (.int x7), none, none]) (st' := [.int x4, .int (-1), .ref 57]) (I' := I1) (J' := J1) rfl ?_
      refine Wp.call (M' := Md_wayTo) (as := [.ref 57, .int (-1), .int x4]) (rest := []) rfl (CI.use h (fun v2 I2 J2 h => ?_))
      refine Wp.eqs (pc' := 157) (st' := [.int v2]) rfl rfl ?_
      exact Wp.ret rfl h
    · replace h := h.2 h2
      refine Wp.steps 2 (pc' := 154) (lv' := [some (.ref 57), some (.int x1), some (.int x2), some (.int x3), some (.int x4), some (.int x5), some (.int x6), some (.int x7), none, none]) (st' := [.int x4, .int x6, .ref 57]) (I' := I1) (J' := J1) rfl ?_
      refine Wp.call (M' := Md_wayTo) (as := [.ref 57, .int x6, .int x4]) (rest := []) rfl (CI.use h (fun v2 I2 J2 h => ?_))
      refine Wp.eqs (pc' := 157) (st' := [.int v2]) rfl rfl ?_
      exact Wp.ret rfl h
theorem v_Md_clicks_57_0 {d : Nat} {Q : Post} {I : I2} {J : J2} {x1 : Int32} {x2 : Int32} {x3 : Int32} {x4 : Int32} {x5 : Int32} (h : (x1 = (-4) → CI d Md_isSheet [.int x2] I J (fun v1 I1 J1 => (v1 = 0 → Q (some (.int (-1))) I1 J1) ∧ (¬ (v1 = 0) → CI d Md_isLane [.int x3] I1 J1 (fun v2 I2 J2 => (v2 = 0 → Q (some (.int (-1))) I2 J2) ∧ (¬ (v2 = 0) → CI d Md_in [.long (Int32.toInt64 x5), .long 1, .long 8] I2 J2 (fun v3 I3 J3 => (v3 = 0 → Q (some (.int (-1))) I3 J3) ∧ (¬ (v3 = 0) → CI d Md_why [.ref 57, .int x2, .int x3, .int x4, .int (2 * x5)] I3 J3 (fun v4 I4 J4 => (v4 < 0 → Q (some (.int v4)) I4 J4) ∧ (¬ (v4 < 0) → Wp d Md_clicks Q 77 [some (.ref 57), some (.int x1), some (.int x2), some (.int x3), some (.int x4), some (.int x5), some (.int v4), some (.int ((24 * x2) + x4)), some (.int 0), none, none] [] I4 J4))))))))) ∧ (¬ (x1 = (-4)) → CI d Md_isPanel [.ref 57, .int x1] I J (fun v1 I1 J1 => (v1 = 0 → Q (some (.int (-1))) I1 J1) ∧ (¬ (v1 = 0) → CI d Md_isSheet [.int x2] I1 J1 (fun v2 I2 J2 => (v2 = 0 → Q (some (.int (-1))) I2 J2) ∧ (¬ (v2 = 0) → CI d Md_isLane [.int x3] I2 J2 (fun v3 I3 J3 => (v3 = 0 → Q (some (.int (-1))) I3 J3) ∧ (¬ (v3 = 0) → CI d Md_in [.long (Int32.toInt64 x5), .long 1, .long 8] I3 J3 (fun v4 I4 J4 => (v4 = 0 → Q (some (.int (-1))) I4 J4) ∧ (¬ (v4 = 0) → CI d Md_why [.ref 57, .int x2, .int x3, .int x4, .int (2 * x5)] I4 J4 (fun v5 I5 J5 => (v5 < 0 → Q (some (.int v5)) I5 J5) ∧ (¬ (v5 < 0) → Wp d Md_clicks Q 77 [some (.ref 57), some (.int x1), some (.int x2), some (.int x3), some (.int x4), some (.int x5), some (.int v5), some (.int ((24 * x2) + x4)), some (.int 0), none, none] [] I5 J5)))))))))))) : Wp d Md_clicks Q 0 [some (.ref 57), some (.int x1), some (.int x2), some (.int x3), some (.int x4), some (.int x5), none, none, none, none, none] [] I J := by
  refine Wp.steps 2 (pc' := 3) (lv' := [some (.ref 57), some (.int x1), some (.int x2), some (.int x3), some (.int x4), some (.int x5), none, none, none, none, none]) (st' := [.int (-4), .int x1]) (I' := I) (J' := J) rfl ?_
  refine Wp.steps 1 (pc' := if x1 = (-4) then 14 else 6) (lv' := [some (.ref 57), some (.int x1), some (.int x2), some (.int x3), some (.int x4), some (.int x5), none, none, none, none, none]) (st' := []) (I' := I) (J' := J) rfl (Wp.ite (fun h1 => ?_) (fun h1 => ?_))
  · replace h := h.1 h1
    refine Wp.steps 1 (pc' := 15) (lv' := [some (.ref 57), some (.int x1), some (.int x2), some (.int x3), some (.int x4), some (.int x5), none, none, none, none, none]) (st' := [.int x2]) (I' := I) (J' := J) rfl ?_
    refine Wp.call (M' := Md_isSheet) (as := [.int x2]) (rest := []) rfl (CI.use h (fun v1 I1 J1 h => ?_))
    refine Wp.eqs (pc' := 18) (st' := [.int v1]) rfl rfl ?_
    refine Wp.steps 1 (pc' := if v1 = 0 then 41 else 21) (lv' := [some (.ref 57), some (.int x1), some (.int x2), some (.int x3), some (.int x4), some (.int x5), none, none, none, none, none]) (st' := []) (I' := I1) (J' := J1) rfl (Wp.ite (fun h2 => ?_) (fun h2 => ?_))
    · replace h := h.1 h2
      refine Wp.steps 1 (pc' := 42) (lv' := [some (.ref 57), some (.int x1), some (.int x2), some (.int x3), some (.int x4), some (.int x5), none, none, none, none, none]) (st' := [.int (-1)]) (I' := I1) (J' := J1) rfl ?_
      exact Wp.ret rfl h
    · replace h := h.2 h2
      refine Wp.steps 1 (pc' := 22) (lv' := [some (.ref 57), some (.int x1), some (.int x2), some (.int x3), some (.int x4), some (.int x5), none, none, none, none, none]) (st' := [.int x3]) (I' := I1) (J' := J1) rfl ?_
      refine Wp.call (M' := Md_isLane) (as := [.int x3]) (rest := []) rfl (CI.use h (fun v2 I2 J2 h => ?_))
      refine Wp.eqs (pc' := 25) (st' := [.int v2]) rfl rfl ?_
      refine Wp.steps 1 (pc' := if v2 = 0 then 41 else 28) (lv' := [some (.ref 57), some (.int x1), some (.int x2), some (.int x3), some (.int x4), some (.int x5), none, none, none, none, none]) (st' := []) (I' := I2) (J' := J2) rfl (Wp.ite (fun h3 => ?_) (fun h3 => ?_))
      · replace h := h.1 h3
        refine Wp.steps 1 (pc' := 42) (lv' := [some (.ref 57), some (.int x1), some (.int x2), some (.int x3), some (.int x4), some (.int x5), none, none, none, none, none]) (st' := [.int (-1)]) (I' := I2) (J' := J2) rfl ?_
        exact Wp.ret rfl h
      · replace h := h.2 h3
        refine Wp.steps 4 (pc' := 35) (lv' := [some (.ref 57), some (.int x1), some (.int x2), some (.int x3), some (.int x4), some (.int x5), none, none, none, none, none]) (st' := [.long 8, .long 1, .long (Int32.toInt64 x5)]) (I' := I2) (J' := J2) rfl ?_
        refine Wp.call (M' := Md_in) (as := [.long (Int32.toInt64 x5), .long 1, .long 8]) (rest := []) rfl (CI.use h (fun v3 I3 J3 h => ?_))
        refine Wp.eqs (pc' := 38) (st' := [.int v3]) rfl rfl ?_
        refine Wp.steps 1 (pc' := if v3 = 0 then 41 else 43) (lv' := [some (.ref 57), some (.int x1), some (.int x2), some (.int x3), some (.int x4), some (.int x5), none, none, none, none, none]) (st' := []) (I' := I3) (J' := J3) rfl (Wp.ite (fun h4 => ?_) (fun h4 => ?_))
        · replace h := h.1 h4
          refine Wp.steps 1 (pc' := 42) (lv' := [some (.ref 57), some (.int x1), some (.int x2), some (.int x3), some (.int x4), some (.int x5), none, none, none, none, none]) (st' := [.int (-1)]) (I' := I3) (J' := J3) rfl ?_
          exact Wp.ret rfl h
        · replace h := h.2 h4
          refine Wp.steps 7 (pc' := 52) (lv' := [some (.ref 57), some (.int x1), some (.int x2), some (.int x3), some (.int x4), some (.int x5), none, none, none, none, none]) (st' := [.int (2 * x5), .int x4, .int x3, .int x2, .ref 57]) (I' := I3) (J' := J3) rfl ?_
          refine Wp.call (M' := Md_why) (as := [.ref 57, .int x2, .int x3, .int x4, .int (2 * x5)]) (rest := []) rfl (CI.use h (fun v4 I4 J4 h => ?_))
          refine Wp.eqs (pc' := 55) (st' := [.int v4]) rfl rfl ?_
          refine Wp.steps 2 (pc' := 59) (lv' := [some (.ref 57), some (.int x1), some (.int x2), some (.int x3), some (.int x4), some (.int x5), some (.int v4), none, none, none, none]) (st' := [.int v4]) (I' := I4) (J' := J4) rfl ?_
          refine Wp.steps 1 (pc' := if v4 < 0 then 62 else 65) (lv' := [some (.ref 57), some (.int x1), some (.int x2), some (.int x3), some (.int x4), some (.int x5), some (.int v4), none, none, none, none]) (st' := []) (I' := I4) (J' := J4) rfl (Wp.ite (fun h5 => ?_) (fun h5 => ?_))
          · replace h := h.1 h5
            refine Wp.steps 1 (pc' := 64) (lv' := [some (.ref 57), some (.int x1), some (.int x2), some (.int x3), some (.int x4), some (.int x5), some (.int v4), none, none, none, none]) (st' := [.int v4]) (I' := I4) (J' := J4) rfl ?_
            exact Wp.ret rfl h
          · replace h := h.2 h5
            refine Wp.steps 8 (pc' := 77) (lv' := [some (.ref 57), some (.int x1), some (.int x2), some (.int x3), some (.int x4), some (.int x5), some (.int v4), some (.int ((24 * x2) + x4)), some (.int 0), none, none]) (st' := []) (I' := I4) (J' := J4) rfl ?_
            exact h
  · replace h := h.2 h1
    refine Wp.steps 2 (pc' := 8) (lv' := [some (.ref 57), some (.int x1), some (.int x2), some (.int x3), some (.int x4), some (.int x5), none, none, none, none, none]) (st' := [.int x1, .ref 57]) (I' := I) (J' := J) rfl ?_
    refine Wp.call (M' := Md_isPanel) (as := [.ref 57, .int x1]) (rest := []) rfl (CI.use h (fun v1 I1 J1 h => ?_))
    refine Wp.eqs (pc' := 11) (st' := [.int v1]) rfl rfl ?_
    refine Wp.steps 1 (pc' := if v1 = 0 then 41 else 14) (lv' := [some (.ref 57), some (.int x1), some (.int x2), some (.int x3), some (.int x4), some (.int x5), none, none, none, none, none]) (st' := []) (I' := I1) (J' := J1) rfl (Wp.ite (fun h2 => ?_) (fun h2 => ?_))
    · replace h := h.1 h2
      refine Wp.steps 1 (pc' := 42) (lv' := [some (.ref 57), some (.int x1), some (.int x2), some (.int x3), some (.int x4), some (.int x5), none, none, none, none, none]) (st' := [.int (-1)]) (I' := I1) (J' := J1) rfl ?_
      exact Wp.ret rfl h
    · replace h := h.2 h2
      refine Wp.steps 1 (pc' := 15) (lv' := [some (.ref 57), some (.int x1), some (.int x2), some (.int x3), some (.int x4), some (.int x5), none, none, none, none, none]) (st' := [.int x2]) (I' := I1) (J' := J1) rfl ?_
      refine Wp.call (M' := Md_isSheet) (as := [.int x2]) (rest := []) rfl (CI.use h (fun v2 I2 J2 h => ?_))
      refine Wp.eqs (pc' := 18) (st' := [.int v2]) rfl rfl ?_
      refine Wp.steps 1 (pc' := if v2 = 0 then 41 else 21) (lv' := [some (.ref 57), some (.int x1), some (.int x2), some (.int x3), some (.int x4), some (.int x5), none, none, none, none, none]) (st' := []) (I' := I2) (J' := J2) rfl (Wp.ite (fun h3 => ?_) (fun h3 => ?_))
      · replace h := h.1 h3
        refine Wp.steps 1 (pc' := 42) (lv' := [some (.ref 57), some (.int x1), some (.int x2), some (.int x3), some (.int x4), some (.int x5), none, none, none, none, none]) (st' := [.int (-1)]) (I' := I2) (J' := J2) rfl ?_
        exact Wp.ret rfl h
      · replace h := h.2 h3
        refine Wp.steps 1 (pc' := 22) (lv' := [some (.ref 57), some (.int x1), some (.int x2), some (.int x3), some (.int x4), some (.int x5), none, none, none, none, none]) (st' := [.int x3]) (I' := I2) (J' := J2) rfl ?_
        refine Wp.call (M' := Md_isLane) (as := [.int x3]) (rest := []) rfl (CI.use h (fun v3 I3 J3 h => ?_))
        refine Wp.eqs (pc' := 25) (st' := [.int v3]) rfl rfl ?_
        refine Wp.steps 1 (pc' := if v3 = 0 then 41 else 28) (lv' := [some (.ref 57), some (.int x1), some (.int x2), some (.int x3), some (.int x4), some (.int x5), none, none, none, none, none]) (st' := []) (I' := I3) (J' := J3) rfl (Wp.ite (fun h4 => ?_) (fun h4 => ?_))
        · replace h := h.1 h4
          refine Wp.steps 1 (pc' := 42) (lv' := [some (.ref 57), some (.int x1), some (.int x2), some (.int x3), some (.int x4), some (.int x5), none, none, none, none, none]) (st' := [.int (-1)]) (I' := I3) (J' := J3) rfl ?_
          exact Wp.ret rfl h
        · replace h := h.2 h4
          refine Wp.steps 4 (pc' := 35) (lv' := [some (.ref 57), some (.int x1), some (.int x2), some (.int x3), some (.int x4), some (.int x5), none, none, none, none, none]) (st' := [.long 8, .long 1, .long (Int32.toInt64 x5)]) (I' := I3) (J' := J3) rfl ?_
          refine Wp.call (M' := Md_in) (as := [.long (Int32.toInt64 x5), .long 1, .long 8]) (rest := []) rfl (CI.use h (fun v4 I4 J4 h => ?_))
          refine Wp.eqs (pc' := 38) (st' := [.int v4]) rfl rfl ?_
          refine Wp.steps 1 (pc' := if v4 = 0 then 41 else 43) (lv' := [some (.ref 57), some (.int x1), some (.int x2), some (.int x3), some (.int x4), some (.int x5), none, none, none, none, none]) (st' := []) (I' := I4) (J' := J4) rfl (Wp.ite (fun h5 => ?_) (fun h5 => ?_))
          · replace h := h.1 h5
            refine Wp.steps 1 (pc' := 42) (lv' := [some (.ref 57), some (.int x1), some (.int x2), some (.int x3), some (.int x4), some (.int x5), none, none, none, none, none]) (st' := [.int (-1)]) (I' := I4) (J' := J4) rfl ?_
            exact Wp.ret rfl h
          · replace h := h.2 h5
            refine Wp.steps 7 (pc' := 52) (lv' := [some (.ref 57), some (.int x1), some (.int x2), some (.int x3), some (.int x4), some (.int x5), none, none, none, none, none]) (st' := [.int (2 * x5), .int x4, .int x3, .int x2, .ref 57]) (I' := I4) (J' := J4) rfl ?_
            refine Wp.call (M' := Md_why) (as := [.ref 57, .int x2, .int x3, .int x4, .int (2 * x5)]) (rest := []) rfl (CI.use h (fun v5 I5 J5 h => ?_))
            refine Wp.eqs (pc' := 55) (st' := [.int v5]) rfl rfl ?_
            refine Wp.steps 2 (pc' := 59) (lv' := [some (.ref 57), some (.int x1), some (.int x2), some (.int x3), some (.int x4), some (.int x5), some (.int v5), none, none, none, none]) (st' := [.int v5]) (I' := I5) (J' := J5) rfl ?_
            refine Wp.steps 1 (pc' := if v5 < 0 then 62 else 65) (lv' := [some (.ref 57), some (.int x1), some (.int x2), some (.int x3), some (.int x4), some (.int x5), some (.int v5), none, none, none, none]) (st' := []) (I' := I5) (J' := J5) rfl (Wp.ite (fun h6 => ?_) (fun h6 => ?_))
            · replace h := h.1 h6
              refine Wp.steps 1 (pc' := 64) (lv' := [some (.ref 57), some (.int x1), some (.int x2), some (.int x3), some (.int x4), some (.int x5), some (.int v5), none, none, none, none]) (st' := [.int v5]) (I' := I5) (J' := J5) rfl ?_
              exact Wp.ret rfl h
            · replace h := h.2 h6
              refine Wp.steps 8 (pc' := 77) (lv' := [some (.ref 57), some (.int x1), some (.int x2), some (.int x3), some (.int x4), some (.int x5), some (.int v5), some (.int ((24 * x2) + x4)), some (.int 0), none, none]) (st' := []) (I' := I5) (J' := J5) rfl ?_
              exact h
theorem v_Md_clicks_57_77 {d : Nat} {Q : Post} {I : I2} {J : J2} {x1 : Int32} {x2 : Int32} {x3 : Int32} {x4 : Int32} {x5 : Int32} {x6 : Int32} {x7 : Int32} {x8 : Int32} (h : (x8 < x5 → vp_in (x7 + (2 * x8)) 96 ∧ (CI d Md_in [.long (J 76 (tN (x7 + (2 * x8)))), .long 0, .long ((10 * (Int32.toInt64 (I 58 0))) - 1)] I J (fun v1 I1 J1 => (v1 = 0 → Q (some (.int (-2))) I1 J1) ∧ (¬ (v1 = 0) → (0 < (lg_cmp (rmL (J 76 (tN (x7 + (2 * x8)))) 10) 1) → Q (some (.int (-2))) I1 J1) ∧ (¬ (0 < (lg_cmp (rmL (J 76 (tN (x7 + (2 * x8)))) 10) 1)) → vp_in ((x7 + (2 * x8)) + 1) 96 ∧ (CI d Md_in [.long (J1 76 (tN ((x7 + (2 * x8)) + 1))), .long 0, .long 1] I1 J1 (fun v2 I2 J2 => (v2 = 0 → Q (some (.int (-2))) I2 J2) ∧ (¬ (v2 = 0) → Wp d Md_clicks Q 77 [some (.ref 57), some (.int x1), some (.int x2), some (.int x3), some (.int x4), some (.int x5), some (.int x6), some (.int x7), some (.int (x8 + 1)), none, none] [] I2 J2)))))))) ∧ (¬ (x8 < x5) → (x1 = (-4) → CI d Md_clicksSo [.ref 57, .int x7, .int x5, .int (I 58 3)] I J (fun v1 I1 J1 => (v1 = 0 → Wp d Md_clicks Q 206 [some (.ref 57), some (.int x1), some (.int x2), some (.int x3), some (.int x4), some (.int x5), some (.int x6), some (.int x7), some (.int 0), some (.int 0), none] [] I1 J1) ∧ (¬ (v1 = 0) → Wp d Md_clicks Q 206 [some (.ref 57), some (.int x1), some (.int x2), some (.int x3), some (.int x4), some (.int x5), some (.int x6), some (.int x7), some (.int 64), some (.int 0), none] [] I1 J1))) ∧ (¬ (x1 = (-4)) → CI d Md_kindsBy [.ref 57, .int x1, .int x7, .int x5] I J (fun v1 I1 J1 => Q (some (.int v1)) I1 J1)))) : Wp d Md_clicks Q 77 [some (.ref 57), some (.int x1), some (.int x2), some (.int x3), some (.int x4), some (.int x5), some (.int x6), some (.int x7), some (.int x8), none, none] [] I J := by
  refine Wp.steps 2 (pc' := 81) (lv' := [some (.ref 57), some (.int x1), some (.int x2), some (.int x3), some (.int x4), some (.int x5), some (.int x6), some (.int x7), some (.int x8), none, none]) (st' := [.int x5, .int x8]) (I' := I) (J' := J) rfl ?_
  refine Wp.steps 1 (pc' := if x8 < x5 then 84 else 162) (lv' := [some (.ref 57), some (.int x1), some (.int x2), some (.int x3), some (.int x4), some (.int x5), some (.int x6), some (.int x7), some (.int x8), none, none]) (st' := []) (I' := I) (J' := J) rfl (Wp.ite (fun h1 => ?_) (fun h1 => ?_))
  · replace h := h.1 h1
    refine Wp.steps 7 (pc' := 95) (lv' := [some (.ref 57), some (.int x1), some (.int x2), some (.int x3), some (.int x4), some (.int x5), some (.int x6), some (.int x7), some (.int x8), none, none]) (st' := [.int (x7 + (2 * x8)), .ref 76]) (I' := I) (J' := J) rfl ?_
    refine Wp.lald rfl rfl h.1 ?_
    replace h := h.2
    refine Wp.steps 12 (pc' := 114) (lv' := [some (.ref 57), some (.int x1), some (.int x2), some (.int x3), some (.int x4), some (.int x5), some (.int x6), some (.int x7), some (.int x8), some (.long (J 76 (tN (x7 + (2 * x8))))), none]) (st' := [.long ((10 * (Int32.toInt64 (I 58 0))) - 1), .long 0, .long (J 76 (tN (x7 + (2 * x8))))]) (I' := I) (J' := J) rfl ?_
    refine Wp.call (M' := Md_in) (as := [.long (J 76 (tN (x7 + (2 * x8)))), .long 0, .long ((10 * (Int32.toInt64 (I 58 0))) - 1)]) (rest := []) rfl (CI.use h (fun v1 I1 J1 h => ?_))
    refine Wp.eqs (pc' := 117) (st' := [.int v1]) rfl rfl ?_
    refine Wp.steps 1 (pc' := if v1 = 0 then 153 else 120) (lv' := [some (.ref 57), some (.int x1), some (.int x2), some (.int x3), some (.int x4), some (.int x5), some (.int x6), some (.int x7), some (.int x8), some (.long (J 76 (tN (x7 + (2 * x8))))), none]) (st' := []) (I' := I1) (J' := J1) rfl (Wp.ite (fun h2 => ?_) (fun h2 => ?_))
    · replace h := h.1 h2
      refine Wp.steps 1 (pc' := 155) (lv' := [some (.ref 57), some (.int x1), some (.int x2), some (.int x3), some (.int x4), some (.int x5), some (.int x6), some (.int x7), some (.int x8), some (.long (J 76 (tN (x7 + (2 * x8))))), none]) (st' := [.int (-2)]) (I' := I1) (J' := J1) rfl ?_
      exact Wp.ret rfl h
    · replace h := h.2 h2
      refine Wp.steps 5 (pc' := 128) (lv' := [some (.ref 57), some (.int x1), some (.int x2), some (.int x3), some (.int x4), some (.int x5), some (.int x6), some (.int x7), some (.int x8), some (.long (J 76 (tN (x7 + (2 * x8))))), none]) (st' := [.int (lg_cmp (rmL (J 76 (tN (x7 + (2 * x8)))) 10) 1)]) (I' := I1) (J' := J1) rfl ?_
      refine Wp.steps 1 (pc' := if 0 < (lg_cmp (rmL (J 76 (tN (x7 + (2 * x8)))) 10) 1) then 153 else 131) (lv' := [some (.ref 57), some (.int x1), some (.int x2), some (.int x3), some (.int x4), some (.int x5), some (.int x6), some (.int x7), some (.int x8), some (.long (J 76 (tN (x7 + (2 * x8))))), none]) (st' := []) (I' := I1) (J' := J1) rfl (Wp.ite (fun h3 => ?_) (fun h3 => ?_))
      · replace h := h.1 h3
        refine Wp.steps 1 (pc' := 155) (lv' := [some (.ref 57), some (.int x1), some (.int x2), some (.int x3), some (.int x4), some (.int x5), some (.int x6), some (.int x7), some (.int x8), some (.long (J 76 (tN (x7 + (2 * x8))))), none]) (st' := [.int (-2)]) (I' := I1) (J' := J1) rfl ?_
        exact Wp.ret rfl h
      · replace h := h.2 h3
        refine Wp.steps 9 (pc' := 144) (lv' := [some (.ref 57), some (.int x1), some (.int x2), some (.int x3), some (.int x4), some (.int x5), some (.int x6), some (.int x7), some (.int x8), some (.long (J 76 (tN (x7 + (2 * x8))))), none]) (st' := [.int ((x7 + (2 * x8)) + 1), .ref 76]) (I' := I1) (J' := J1) rfl ?_
        refine Wp.lald rfl rfl h.1 ?_
        replace h := h.2
        refine Wp.steps 2 (pc' := 147) (lv' := [some (.ref 57), some (.int x1), some (.int x2), some (.int x3), some (.int x4), some (.int x5), some (.int x6), some (.int x7), some (.int x8), some (.long (J 76 (tN (x7 + (2 * x8))))), none]) (st' := [.long 1, .long 0, .long (J1 76 (tN ((x7 + (2 * x8)) + 1)))]) (I' := I1) (J' := J1) rfl ?_
        refine Wp.call (M' := Md_in) (as := [.long (J1 76 (tN ((x7 + (2 * x8)) + 1))), .long 0, .long 1]) (rest := []) rfl (CI.use h (fun v2 I2 J2 h => ?_))
        refine Wp.eqs (pc' := 150) (st' := [.int v2]) rfl rfl ?_
        refine Wp.steps 1 (pc' := if v2 = 0 then 153 else 156) (lv' := [some (.ref 57), some (.int x1), some (.int x2), some (.int x3), some (.int x4), some (.int x5), some (.int x6), some (.int x7), some (.int x8), some (.long (J 76 (tN (x7 + (2 * x8))))), none]) (st' := []) (I' := I2) (J' := J2) rfl (Wp.ite (fun h4 => ?_) (fun h4 => ?_))
        · replace h := h.1 h4
          refine Wp.steps 1 (pc' := 155) (lv' := [some (.ref 57), some (.int x1), some (.int x2), some (.int x3), some (.int x4), some (.int x5), some (.int x6), some (.int x7), some (.int x8), some (.long (J 76 (tN (x7 + (2 * x8))))), none]) (st' := [.int (-2)]) (I' := I2) (J' := J2) rfl ?_
          exact Wp.ret rfl h
        · replace h := h.2 h4
          refine Wp.steps 2 (pc' := 77) (lv' := [some (.ref 57), some (.int x1), some (.int x2), some (.int x3), some (.int x4), some (.int x5), some (.int x6), some (.int x7), some (.int (x8 + 1)), some (.long (J 76 (tN (x7 + (2 * x8))))), none]) (st' := []) (I' := I2) (J' := J2) rfl ?_
          refine Wp.drop [9] (lv' := [some (.ref 57), some (.int x1), some (.int x2), some (.int x3), some (.int x4), some (.int x5), some (.int x6), some (.int x7), some (.int (x8 + 1)), none, none]) rfl ?_
          exact h
  · replace h := h.2 h1
    refine Wp.steps 2 (pc' := 165) (lv' := [some (.ref 57), some (.int x1), some (.int x2), some (.int x3), some (.int x4), some (.int x5), some (.int x6), some (.int x7), some (.int x8), none, none]) (st' := [.int (-4), .int x1]) (I' := I) (J' := J) rfl ?_
    refine Wp.steps 1 (pc' := if x1 = (-4) then 178 else 168) (lv' := [some (.ref 57), some (.int x1), some (.int x2), some (.int x3), some (.int x4), some (.int x5), some (.int x6), some (.int x7), some (.int x8), none, none]) (st' := []) (I' := I) (J' := J) rfl (Wp.ite (fun h2 => ?_) (fun h2 => ?_))
    · replace h := h.1 h2
      refine Wp.steps 7 (pc' := 189) (lv' := [some (.ref 57), some (.int x1), some (.int x2), some (.int x3), some (.int x4), some (.int x5), some (.int x6), some (.int x7), some (.int x8), none, none]) (st' := [.int (I 58 3), .int x5, .int x7, .ref 57]) (I' := I) (J' := J) rfl ?_
      refine Wp.call (M' := Md_clicksSo) (as := [.ref 57, .int x7, .int x5, .int (I 58 3)]) (rest := []) rfl (CI.use h (fun v1 I1 J1 h => ?_))
      refine Wp.eqs (pc' := 192) (st' := [.int v1]) rfl rfl ?_
      refine Wp.steps 1 (pc' := if v1 = 0 then 200 else 195) (lv' := [some (.ref 57), some (.int x1), some (.int x2), some (.int x3), some (.int x4), some (.int x5), some (.int x6), some (.int x7), some (.int x8), none, none]) (st' := []) (I' := I1) (J' := J1) rfl (Wp.ite (fun h3 => ?_) (fun h3 => ?_))
      · replace h := h.1 h3
        refine Wp.steps 4 (pc' := 206) (lv' := [some (.ref 57), some (.int x1), some (.int x2), some (.int x3), some (.int x4), some (.int x5), some (.int x6), some (.int x7), some (.int 0), some (.int 0), none]) (st' := []) (I' := I1) (J' := J1) rfl ?_
        exact h
      · replace h := h.2 h3
        refine Wp.steps 5 (pc' := 206) (lv' := [some (.ref 57), some (.int x1), some (.int x2), some (.int x3), some (.int x4), some (.int x5), some (.int x6), some (.int x7), some (.int 64), some (.int 0), none]) (st' := []) (I' := I1) (J' := J1) rfl ?_
        exact h
    · replace h := h.2 h2
      refine Wp.steps 4 (pc' := 174) (lv' := [some (.ref 57), some (.int x1), some (.int x2), some (.int x3), some (.int x4), some (.int x5), some (.int x6), some (.int x7), some (.int x8), none, none]) (st' := [.int x5, .int x7, .int x1, .ref 57]) (I' := I) (J' := J) rfl ?_
      refine Wp.call (M' := Md_kindsBy) (as := [.ref 57, .int x1, .int x7, .int x5]) (rest := []) rfl (CI.use h (fun v1 I1 J1 h => ?_))
      refine Wp.eqs (pc' := 177) (st' := [.int v1]) rfl rfl ?_
      exact Wp.ret rfl h
theorem v_Md_clicks_57_206 {d : Nat} {Q : Post} {I : I2} {J : J2} {x1 : Int32} {x2 : Int32} {x3 : Int32} {x4 : Int32} {x5 : Int32} {x6 : Int32} {x7 : Int32} {x8 : Int32} {x9 : Int32} (h : (x9 < (I 58 1) → CI d Md_clicksSo [.ref 57, .int x7, .int x5, .int ((I 58 3) ^^^ (slI 1 x9))] I J (fun v1 I1 J1 => (v1 = 0 → Wp d Md_clicks Q 206 [some (.ref 57), some (.int x1), some (.int x2), some (.int x3), some (.int x4), some (.int x5), some (.int x6), some (.int x7), some (.int (x8 ||| 0)), some (.int (x9 + 1)), none] [] I1 J1) ∧ (¬ (v1 = 0) → Wp d Md_clicks Q 206 [some (.ref 57), some (.int x1), some (.int x2), some (.int x3), some (.int x4), some (.int x5), some (.int x6), some (.int x7), some (.int (x8 ||| (slI 1 x9))), some (.int (x9 + 1)), none] [] I1 J1))) ∧ (¬ (x9 < (I 58 1)) → Q (some (.int x8)) I J)) : Wp d Md_clicks Q 206 [some (.ref 57), some (.int x1), some (.int x2), some (.int x3), some (.int x4), some (.int x5), some (.int x6), some (.int x7), some (.int x8), some (.int x9), none] [] I J := by
  refine Wp.steps 5 (pc' := 214) (lv' := [some (.ref 57), some (.int x1), some (.int x2), some (.int x3), some (.int x4), some (.int x5), some (.int x6), some (.int x7), some (.int x8), some (.int x9), none]) (st' := [.int (I 58 1), .int x9]) (I' := I) (J' := J) rfl ?_
  refine Wp.steps 1 (pc' := if x9 < (I 58 1) then 217 else 258) (lv' := [some (.ref 57), some (.int x1), some (.int x2), some (.int x3), some (.int x4), some (.int x5), some (.int x6), some (.int x7), some (.int x8), some (.int x9), none]) (st' := []) (I' := I) (J' := J) rfl (Wp.ite (fun h1 => ?_) (fun h1 => ?_))
  · replace h := h.1 h1
    refine Wp.steps 12 (pc' := 235) (lv' := [some (.ref 57), some (.int x1), some (.int x2), some (.int x3), some (.int x4), some (.int x5), some (.int x6), some (.int x7), some (.int x8), some (.int x9), none]) (st' := [.int ((I 58 3) ^^^ (slI 1 x9)), .int x5, .int x7, .ref 57, .int x8]) (I' := I) (J' := J) rfl ?_
    refine Wp.call (M' := Md_clicksSo) (as := [.ref 57, .int x7, .int x5, .int ((I 58 3) ^^^ (slI 1 x9))]) (rest := [.int x8]) rfl (CI.use h (fun v1 I1 J1 h => ?_))
    refine Wp.eqs (pc' := 238) (st' := [.int v1, .int x8]) rfl rfl ?_
    refine Wp.steps 1 (pc' := if v1 = 0 then 248 else 241) (lv' := [some (.ref 57), some (.int x1), some (.int x2), some (.int x3), some (.int x4), some (.int x5), some (.int x6), some (.int x7), some (.int x8), some (.int x9), none]) (st' := [.int x8]) (I' := I1) (J' := J1) rfl (Wp.ite (fun h2 => ?_) (fun h2 => ?_))
    · replace h := h.1 h2
      refine Wp.steps 5 (pc' := 206) (lv' := [some (.ref 57), some (.int x1), some (.int x2), some (.int x3), some (.int x4), some (.int x5), some (.int x6), some (.int x7), some (.int (x8 ||| 0)), some (.int (x9 + 1)), none]) (st' := []) (I' := I1) (J' := J1) rfl ?_
      exact h
    · replace h := h.2 h2
      refine Wp.steps 8 (pc' := 206) (lv' := [some (.ref 57), some (.int x1), some (.int x2), some (.int x3), some (.int x4), some (.int x5), some (.int x6), some (.int x7), some (.int (x8 ||| (slI 1 x9))), some (.int (x9 + 1)), none]) (st' := []) (I' := I1) (J' := J1) rfl ?_
      exact h
  · replace h := h.2 h1
    refine Wp.steps 1 (pc' := 260) (lv' := [some (.ref 57), some (.int x1), some (.int x2), some (.int x3), some (.int x4), some (.int x5), some (.int x6), some (.int x7), some (.int x8), some (.int x9), none]) (st' := [.int x8]) (I' := I) (J' := J) rfl ?_
    exact Wp.ret rfl h
theorem v_Md_film_57_0 {d : Nat} {Q : Post} {I : I2} {J : J2} {x1 : Int32} {x2 : Int32} {x3 : Int32} (h : CI d Md_isSheet [.int x1] I J (fun v1 I1 J1 => (v1 = 0 → Q (some (.int (-1))) I1 J1) ∧ (¬ (v1 = 0) → CI d Md_isLane [.int x2] I1 J1 (fun v2 I2 J2 => (v2 = 0 → Q (some (.int (-1))) I2 J2) ∧ (¬ (v2 = 0) → ((I2 58 0) = 0 → Q (some (.int (-1))) I2 J2) ∧ (¬ ((I2 58 0) = 0) → CI d Md_why [.ref 57, .int x1, .int x2, .int x3, .int (I2 58 0)] I2 J2 (fun v3 I3 J3 => (v3 < 0 → Q (some (.int v3)) I3 J3) ∧ (¬ (v3 < 0) → Wp d Md_film Q 51 [some (.ref 57), some (.int x1), some (.int x2), some (.int x3), some (.int v3), some (.int 0)] [] I3 J3)))))))) : Wp d Md_film Q 0 [some (.ref 57), some (.int x1), some (.int x2), some (.int x3), none, none] [] I J := by
  refine Wp.steps 1 (pc' := 1) (lv' := [some (.ref 57), some (.int x1), some (.int x2), some (.int x3), none, none]) (st' := [.int x1]) (I' := I) (J' := J) rfl ?_
  refine Wp.call (M' := Md_isSheet) (as := [.int x1]) (rest := []) rfl (CI.use h (fun v1 I1 J1 h => ?_))
  refine Wp.eqs (pc' := 4) (st' := [.int v1]) rfl rfl ?_
  refine Wp.steps 1 (pc' := if v1 = 0 then 23 else 7) (lv' := [some (.ref 57), some (.int x1), some (.int x2), some (.int x3), none, none]) (st' := []) (I' := I1) (J' := J1) rfl (Wp.ite (fun h1 => ?_) (fun h1 => ?_))
  · replace h := h.1 h1
    refine Wp.steps 1 (pc' := 24) (lv' := [some (.ref 57), some (.int x1), some (.int x2), some (.int x3), none, none]) (st' := [.int (-1)]) (I' := I1) (J' := J1) rfl ?_
    exact Wp.ret rfl h
  · replace h := h.2 h1
    refine Wp.steps 1 (pc' := 8) (lv' := [some (.ref 57), some (.int x1), some (.int x2), some (.int x3), none, none]) (st' := [.int x2]) (I' := I1) (J' := J1) rfl ?_
    refine Wp.call (M' := Md_isLane) (as := [.int x2]) (rest := []) rfl (CI.use h (fun v2 I2 J2 h => ?_))
    refine Wp.eqs (pc' := 11) (st' := [.int v2]) rfl rfl ?_
    refine Wp.steps 1 (pc' := if v2 = 0 then 23 else 14) (lv' := [some (.ref 57), some (.int x1), some (.int x2), some (.int x3), none, none]) (st' := []) (I' := I2) (J' := J2) rfl (Wp.ite (fun h2 => ?_) (fun h2 => ?_))
    · replace h := h.1 h2
      refine Wp.steps 1 (pc' := 24) (lv' := [some (.ref 57), some (.int x1), some (.int x2), some (.int x3), none, none]) (st' := [.int (-1)]) (I' := I2) (J' := J2) rfl ?_
      exact Wp.ret rfl h
    · replace h := h.2 h2
      refine Wp.steps 4 (pc' := 20) (lv' := [some (.ref 57), some (.int x1), some (.int x2), some (.int x3), none, none]) (st' := [.int (I2 58 0)]) (I' := I2) (J' := J2) rfl ?_
      refine Wp.steps 1 (pc' := if (I2 58 0) = 0 then 23 else 25) (lv' := [some (.ref 57), some (.int x1), some (.int x2), some (.int x3), none, none]) (st' := []) (I' := I2) (J' := J2) rfl (Wp.ite (fun h3 => ?_) (fun h3 => ?_))
      · replace h := h.1 h3
        refine Wp.steps 1 (pc' := 24) (lv' := [some (.ref 57), some (.int x1), some (.int x2), some (.int x3), none, none]) (st' := [.int (-1)]) (I' := I2) (J' := J2) rfl ?_
        exact Wp.ret rfl h
      · replace h := h.2 h3
        refine Wp.steps 8 (pc' := 35) (lv' := [some (.ref 57), some (.int x1), some (.int x2), some (.int x3), none, none]) (st' := [.int (I2 58 0), .int x3, .int x2, .int x1, .ref 57]) (I' := I2) (J' := J2) rfl ?_
        refine Wp.call (M' := Md_why) (as := [.ref 57, .int x1, .int x2, .int x3, .int (I2 58 0)]) (rest := []) rfl (CI.use h (fun v3 I3 J3 h => ?_))
        refine Wp.eqs (pc' := 38) (st' := [.int v3]) rfl rfl ?_
        refine Wp.steps 2 (pc' := 42) (lv' := [some (.ref 57), some (.int x1), some (.int x2), some (.int x3), some (.int v3), none]) (st' := [.int v3]) (I' := I3) (J' := J3) rfl ?_
        refine Wp.steps 1 (pc' := if v3 < 0 then 45 else 48) (lv' := [some (.ref 57), some (.int x1), some (.int x2), some (.int x3), some (.int v3), none]) (st' := []) (I' := I3) (J' := J3) rfl (Wp.ite (fun h4 => ?_) (fun h4 => ?_))
        · replace h := h.1 h4
          refine Wp.steps 1 (pc' := 47) (lv' := [some (.ref 57), some (.int x1), some (.int x2), some (.int x3), some (.int v3), none]) (st' := [.int v3]) (I' := I3) (J' := J3) rfl ?_
          exact Wp.ret rfl h
        · replace h := h.2 h4
          refine Wp.steps 2 (pc' := 51) (lv' := [some (.ref 57), some (.int x1), some (.int x2), some (.int x3), some (.int v3), some (.int 0)]) (st' := []) (I' := I3) (J' := J3) rfl ?_
          exact h
theorem v_Md_film_57_51 {d : Nat} {Q : Post} {I : I2} {J : J2} {x1 : Int32} {x2 : Int32} {x3 : Int32} {x4 : Int32} {x5 : Int32} (h : (x5 < (I 58 0) → CI d Md_placeIn [.int (I 58 5), .int x5] I J (fun v1 I1 J1 => vp_in (((24 * x1) + x3) + x5) 96 ∧ (Wp d Md_film Q 51 [some (.ref 57), some (.int x1), some (.int x2), some (.int x3), some (.int x4), some (.int (x5 + 1))] [] I1 (upJ J1 76 (tN (((24 * x1) + x3) + x5)) (Int32.toInt64 v1))))) ∧ (¬ (x5 < (I 58 0)) → Q (some (.int (I 58 0))) I J)) : Wp d Md_film Q 51 [some (.ref 57), some (.int x1), some (.int x2), some (.int x3), some (.int x4), some (.int x5)] [] I J := by
  refine Wp.steps 5 (pc' := 59) (lv' := [some (.ref 57), some (.int x1), some (.int x2), some (.int x3), some (.int x4), some (.int x5)]) (st' := [.int (I 58 0), .int x5]) (I' := I) (J' := J) rfl ?_
  refine Wp.steps 1 (pc' := if x5 < (I 58 0) then 62 else 94) (lv' := [some (.ref 57), some (.int x1), some (.int x2), some (.int x3), some (.int x4), some (.int x5)]) (st' := []) (I' := I) (J' := J) rfl (Wp.ite (fun h1 => ?_) (fun h1 => ?_))
  · replace h := h.1 h1
    refine Wp.steps 14 (pc' := 83) (lv' := [some (.ref 57), some (.int x1), some (.int x2), some (.int x3), some (.int x4), some (.int x5)]) (st' := [.int x5, .int (I 58 5), .int (((24 * x1) + x3) + x5), .ref 76]) (I' := I) (J' := J) rfl ?_
    refine Wp.call (M' := Md_placeIn) (as := [.int (I 58 5), .int x5]) (rest := [.int (((24 * x1) + x3) + x5), .ref 76]) rfl (CI.use h (fun v1 I1 J1 h => ?_))
    refine Wp.eqs (pc' := 86) (st' := [.int v1, .int (((24 * x1) + x3) + x5), .ref 76]) rfl rfl ?_
    refine Wp.steps 1 (pc' := 87) (lv' := [some (.ref 57), some (.int x1), some (.int x2), some (.int x3), some (.int x4), some (.int x5)]) (st' := [.long (Int32.toInt64 v1), .int (((24 * x1) + x3) + x5), .ref 76]) (I' := I1) (J' := J1) rfl ?_
    refine Wp.last rfl rfl h.1 ?_
    replace h := h.2
    refine Wp.steps 2 (pc' := 51) (lv' := [some (.ref 57), some (.int x1), some (.int x2), some (.int x3), some (.int x4), some (.int (x5 + 1))]) (st' := []) (I' := I1) (J' := (upJ J1 76 (tN (((24 * x1) + x3) + x5)) (Int32.toInt64 v1))) rfl ?_
    exact h
  · replace h := h.2 h1
    refine Wp.steps 4 (pc' := 100) (lv' := [some (.ref 57), some (.int x1), some (.int x2), some (.int x3), some (.int x4), some (.int x5)]) (st' := [.int (I 58 0)]) (I' := I) (J' := J) rfl ?_
    exact Wp.ret rfl h
theorem v_Md_sheet_57_0 {d : Nat} {Q : Post} {I : I2} {J : J2} {x1 : Int32} {x2 : Int32} {x3 : Int32} (h : CI d Md_isSheet [.int x1] I J (fun v1 I1 J1 => (v1 = 0 → Q (some (.int (-1))) I1 J1) ∧ (¬ (v1 = 0) → CI d Md_isLane [.int x2] I1 J1 (fun v2 I2 J2 => (v2 = 0 → Q (some (.int (-1))) I2 J2) ∧ (¬ (v2 = 0) → (24 < x3 → Q (some (.int (-1))) I2 J2) ∧ (¬ (24 < x3) → (x3 < 0 → Q (some (.int (-14))) I2 J2) ∧ (¬ (x3 < 0) → vp_in x1 4 ∧ (vp_in x1 4 ∧ (Wp d Md_sheet Q 46 [some (.ref 57), some (.int x1), some (.int x2), some (.int x3), some (.int 0)] [] (up2 (up2 I2 74 (tN x1) x2) 75 (tN x1) x3) J2))))))))) : Wp d Md_sheet Q 0 [some (.ref 57), some (.int x1), some (.int x2), some (.int x3), none] [] I J := by
  refine Wp.steps 1 (pc' := 1) (lv' := [some (.ref 57), some (.int x1), some (.int x2), some (.int x3), none]) (st' := [.int x1]) (I' := I) (J' := J) rfl ?_
  refine Wp.call (M' := Md_isSheet) (as := [.int x1]) (rest := []) rfl (CI.use h (fun v1 I1 J1 h => ?_))
  refine Wp.eqs (pc' := 4) (st' := [.int v1]) rfl rfl ?_
  refine Wp.steps 1 (pc' := if v1 = 0 then 20 else 7) (lv' := [some (.ref 57), some (.int x1), some (.int x2), some (.int x3), none]) (st' := []) (I' := I1) (J' := J1) rfl (Wp.ite (fun h1 => ?_) (fun h1 => ?_))
  · replace h := h.1 h1
    refine Wp.steps 1 (pc' := 21) (lv' := [some (.ref 57), some (.int x1), some (.int x2), some (.int x3), none]) (st' := [.int (-1)]) (I' := I1) (J' := J1) rfl ?_
    exact Wp.ret rfl h
  · replace h := h.2 h1
    refine Wp.steps 1 (pc' := 8) (lv' := [some (.ref 57), some (.int x1), some (.int x2), some (.int x3), none]) (st' := [.int x2]) (I' := I1) (J' := J1) rfl ?_
    refine Wp.call (M' := Md_isLane) (as := [.int x2]) (rest := []) rfl (CI.use h (fun v2 I2 J2 h => ?_))
    refine Wp.eqs (pc' := 11) (st' := [.int v2]) rfl rfl ?_
    refine Wp.steps 1 (pc' := if v2 = 0 then 20 else 14) (lv' := [some (.ref 57), some (.int x1), some (.int x2), some (.int x3), none]) (st' := []) (I' := I2) (J' := J2) rfl (Wp.ite (fun h2 => ?_) (fun h2 => ?_))
    · replace h := h.1 h2
      refine Wp.steps 1 (pc' := 21) (lv' := [some (.ref 57), some (.int x1), some (.int x2), some (.int x3), none]) (st' := [.int (-1)]) (I' := I2) (J' := J2) rfl ?_
      exact Wp.ret rfl h
    · replace h := h.2 h2
      refine Wp.steps 2 (pc' := 17) (lv' := [some (.ref 57), some (.int x1), some (.int x2), some (.int x3), none]) (st' := [.int 24, .int x3]) (I' := I2) (J' := J2) rfl ?_
      refine Wp.steps 1 (pc' := if 24 < x3 then 20 else 22) (lv' := [some (.ref 57), some (.int x1), some (.int x2), some (.int x3), none]) (st' := []) (I' := I2) (J' := J2) rfl (Wp.ite (fun h3 => ?_) (fun h3 => ?_))
      · replace h := h.1 h3
        refine Wp.steps 1 (pc' := 21) (lv' := [some (.ref 57), some (.int x1), some (.int x2), some (.int x3), none]) (st' := [.int (-1)]) (I' := I2) (J' := J2) rfl ?_
        exact Wp.ret rfl h
      · replace h := h.2 h3
        refine Wp.steps 1 (pc' := 23) (lv' := [some (.ref 57), some (.int x1), some (.int x2), some (.int x3), none]) (st' := [.int x3]) (I' := I2) (J' := J2) rfl ?_
        refine Wp.steps 1 (pc' := if x3 < 0 then 26 else 29) (lv' := [some (.ref 57), some (.int x1), some (.int x2), some (.int x3), none]) (st' := []) (I' := I2) (J' := J2) rfl (Wp.ite (fun h4 => ?_) (fun h4 => ?_))
        · replace h := h.1 h4
          refine Wp.steps 1 (pc' := 28) (lv' := [some (.ref 57), some (.int x1), some (.int x2), some (.int x3), none]) (st' := [.int (-14)]) (I' := I2) (J' := J2) rfl ?_
          exact Wp.ret rfl h
        · replace h := h.2 h4
          refine Wp.steps 4 (pc' := 35) (lv' := [some (.ref 57), some (.int x1), some (.int x2), some (.int x3), none]) (st' := [.int x2, .int x1, .ref 74]) (I' := I2) (J' := J2) rfl ?_
          refine Wp.iast rfl rfl h.1 ?_
          replace h := h.2
          refine Wp.steps 4 (pc' := 42) (lv' := [some (.ref 57), some (.int x1), some (.int x2), some (.int x3), none]) (st' := [.int x3, .int x1, .ref 75]) (I' := (up2 I2 74 (tN x1) x2)) (J' := J2) rfl ?_
          refine Wp.iast rfl rfl h.1 ?_
          replace h := h.2
          refine Wp.steps 2 (pc' := 46) (lv' := [some (.ref 57), some (.int x1), some (.int x2), some (.int x3), some (.int 0)]) (st' := []) (I' := (up2 (up2 I2 74 (tN x1) x2) 75 (tN x1) x3)) (J' := J2) rfl ?_
          exact h
theorem v_Md_sheet_57_46 {d : Nat} {Q : Post} {I : I2} {J : J2} {x1 : Int32} {x2 : Int32} {x3 : Int32} {x4 : Int32} (h : (x4 < 24 → vp_in ((24 * x1) + x4) 96 ∧ (Wp d Md_sheet Q 46 [some (.ref 57), some (.int x1), some (.int x2), some (.int x3), some (.int (x4 + 1))] [] I (upJ J 76 (tN ((24 * x1) + x4)) 0))) ∧ (¬ (x4 < 24) → Q (some (.int x3)) I J)) : Wp d Md_sheet Q 46 [some (.ref 57), some (.int x1), some (.int x2), some (.int x3), some (.int x4)] [] I J := by
  refine Wp.steps 2 (pc' := 50) (lv' := [some (.ref 57), some (.int x1), some (.int x2), some (.int x3), some (.int x4)]) (st' := [.int 24, .int x4]) (I' := I) (J' := J) rfl ?_
  refine Wp.steps 1 (pc' := if x4 < 24 then 53 else 72) (lv' := [some (.ref 57), some (.int x1), some (.int x2), some (.int x3), some (.int x4)]) (st' := []) (I' := I) (J' := J) rfl (Wp.ite (fun h1 => ?_) (fun h1 => ?_))
  · replace h := h.1 h1
    refine Wp.steps 8 (pc' := 65) (lv' := [some (.ref 57), some (.int x1), some (.int x2), some (.int x3), some (.int x4)]) (st' := [.long 0, .int ((24 * x1) + x4), .ref 76]) (I' := I) (J' := J) rfl ?_
    refine Wp.last rfl rfl h.1 ?_
    replace h := h.2
    refine Wp.steps 2 (pc' := 46) (lv' := [some (.ref 57), some (.int x1), some (.int x2), some (.int x3), some (.int (x4 + 1))]) (st' := []) (I' := I) (J' := (upJ J 76 (tN ((24 * x1) + x4)) 0)) rfl ?_
    exact h
  · replace h := h.2 h1
    refine Wp.steps 1 (pc' := 73) (lv' := [some (.ref 57), some (.int x1), some (.int x2), some (.int x3), some (.int x4)]) (st' := [.int x3]) (I' := I) (J' := J) rfl ?_
    exact Wp.ret rfl h
theorem v_Md_drop_57_0 {d : Nat} {Q : Post} {I : I2} {J : J2} {x1 : Int32} (h : CI d Md_isSheet [.int x1] I J (fun v1 I1 J1 => (v1 = 0 → Q (some (.int (-1))) I1 J1) ∧ (¬ (v1 = 0) → vp_in x1 4 ∧ (((I1 74 (tN x1)) < 0 → Q (some (.int (-11))) I1 J1) ∧ (¬ ((I1 74 (tN x1)) < 0) → vp_in x1 4 ∧ (vp_in x1 4 ∧ (Q (some (.int (I1 75 (tN x1)))) (up2 I1 74 (tN x1) (-1)) J1))))))) : Wp d Md_drop Q 0 [some (.ref 57), some (.int x1)] [] I J := by
  refine Wp.steps 1 (pc' := 1) (lv' := [some (.ref 57), some (.int x1)]) (st' := [.int x1]) (I' := I) (J' := J) rfl ?_
  refine Wp.call (M' := Md_isSheet) (as := [.int x1]) (rest := []) rfl (CI.use h (fun v1 I1 J1 h => ?_))
  refine Wp.eqs (pc' := 4) (st' := [.int v1]) rfl rfl ?_
  refine Wp.steps 1 (pc' := if v1 = 0 then 7 else 9) (lv' := [some (.ref 57), some (.int x1)]) (st' := []) (I' := I1) (J' := J1) rfl (Wp.ite (fun h1 => ?_) (fun h1 => ?_))
  · replace h := h.1 h1
    refine Wp.steps 1 (pc' := 8) (lv' := [some (.ref 57), some (.int x1)]) (st' := [.int (-1)]) (I' := I1) (J' := J1) rfl ?_
    exact Wp.ret rfl h
  · replace h := h.2 h1
    refine Wp.steps 3 (pc' := 14) (lv' := [some (.ref 57), some (.int x1)]) (st' := [.int x1, .ref 74]) (I' := I1) (J' := J1) rfl ?_
    refine Wp.iald rfl rfl h.1 ?_
    replace h := h.2
    refine Wp.steps 1 (pc' := if (I1 74 (tN x1)) < 0 then 18 else 21) (lv' := [some (.ref 57), some (.int x1)]) (st' := []) (I' := I1) (J' := J1) rfl (Wp.ite (fun h2 => ?_) (fun h2 => ?_))
    · replace h := h.1 h2
      refine Wp.steps 1 (pc' := 20) (lv' := [some (.ref 57), some (.int x1)]) (st' := [.int (-11)]) (I' := I1) (J' := J1) rfl ?_
      exact Wp.ret rfl h
    · replace h := h.2 h2
      refine Wp.steps 4 (pc' := 27) (lv' := [some (.ref 57), some (.int x1)]) (st' := [.int (-1), .int x1, .ref 74]) (I' := I1) (J' := J1) rfl ?_
      refine Wp.iast rfl rfl h.1 ?_
      replace h := h.2
      refine Wp.steps 3 (pc' := 33) (lv' := [some (.ref 57), some (.int x1)]) (st' := [.int x1, .ref 75]) (I' := (up2 I1 74 (tN x1) (-1))) (J' := J1) rfl ?_
      refine Wp.iald rfl rfl h.1 ?_
      replace h := h.2
      exact Wp.ret rfl h
theorem v_Md_item_57_0 {d : Nat} {Q : Post} {I : I2} {J : J2} {x1 : Int32} {x2 : Int32} {x3 : Int32} {x4 : Int64} (h : CI d Md_isSheet [.int x1] I J (fun v1 I1 J1 => (v1 = 0 → Q (some (.int (-1))) I1 J1) ∧ (¬ (v1 = 0) → CI d Md_isLane [.int x2] I1 J1 (fun v2 I2 J2 => (v2 = 0 → Q (some (.int (-1))) I2 J2) ∧ (¬ (v2 = 0) → CI d Md_why [.ref 57, .int x1, .int x2, .int x3, .int 1] I2 J2 (fun v3 I3 J3 => (v3 < 0 → Q (some (.int v3)) I3 J3) ∧ (¬ (v3 < 0) → (x2 = 0 → vp_in ((24 * x1) + x3) 96 ∧ (Q (some (.int 1)) I3 (upJ J3 76 (tN ((24 * x1) + x3)) (Int32.toInt64 (i2b (Int64.toInt32 x4)))))) ∧ (¬ (x2 = 0) → (x2 = 1 → vp_in ((24 * x1) + x3) 96 ∧ (Q (some (.int 1)) I3 (upJ J3 76 (tN ((24 * x1) + x3)) (Int32.toInt64 (i2s (Int64.toInt32 x4)))))) ∧ (¬ (x2 = 1) → (x2 = 2 → vp_in ((24 * x1) + x3) 96 ∧ (Q (some (.int 1)) I3 (upJ J3 76 (tN ((24 * x1) + x3)) (Int32.toInt64 (Int64.toInt32 x4))))) ∧ (¬ (x2 = 2) → vp_in ((24 * x1) + x3) 96 ∧ (Q (some (.int 1)) I3 (upJ J3 76 (tN ((24 * x1) + x3)) x4)))))))))))) : Wp d Md_item Q 0 [some (.ref 57), some (.int x1), some (.int x2), some (.int x3), some (.long x4), none, none] [] I J := by
  refine Wp.steps 1 (pc' := 1) (lv' := [some (.ref 57), some (.int x1), some (.int x2), some (.int x3), some (.long x4), none, none]) (st' := [.int x1]) (I' := I) (J' := J) rfl ?_
  refine Wp.call (M' := Md_isSheet) (as := [.int x1]) (rest := []) rfl (CI.use h (fun v1 I1 J1 h => ?_))
  refine Wp.eqs (pc' := 4) (st' := [.int v1]) rfl rfl ?_
  refine Wp.steps 1 (pc' := if v1 = 0 then 14 else 7) (lv' := [some (.ref 57), some (.int x1), some (.int x2), some (.int x3), some (.long x4), none, none]) (st' := []) (I' := I1) (J' := J1) rfl (Wp.ite (fun h1 => ?_) (fun h1 => ?_))
  · replace h := h.1 h1
    refine Wp.steps 1 (pc' := 15) (lv' := [some (.ref 57), some (.int x1), some (.int x2), some (.int x3), some (.long x4), none, none]) (st' := [.int (-1)]) (I' := I1) (J' := J1) rfl ?_
    exact Wp.ret rfl h
  · replace h := h.2 h1
    refine Wp.steps 1 (pc' := 8) (lv' := [some (.ref 57), some (.int x1), some (.int x2), some (.int x3), some (.long x4), none, none]) (st' := [.int x2]) (I' := I1) (J' := J1) rfl ?_
    refine Wp.call (M' := Md_isLane) (as := [.int x2]) (rest := []) rfl (CI.use h (fun v2 I2 J2 h => ?_))
    refine Wp.eqs (pc' := 11) (st' := [.int v2]) rfl rfl ?_
    refine Wp.steps 1 (pc' := if v2 = 0 then 14 else 16) (lv' := [some (.ref 57), some (.int x1), some (.int x2), some (.int x3), some (.long x4), none, none]) (st' := []) (I' := I2) (J' := J2) rfl (Wp.ite (fun h2 => ?_) (fun h2 => ?_))
    · replace h := h.1 h2
      refine Wp.steps 1 (pc' := 15) (lv' := [some (.ref 57), some (.int x1), some (.int x2), some (.int x3), some (.long x4), none, none]) (st' := [.int (-1)]) (I' := I2) (J' := J2) rfl ?_
      exact Wp.ret rfl h
    · replace h := h.2 h2
      refine Wp.steps 5 (pc' := 21) (lv' := [some (.ref 57), some (.int x1), some (.int x2), some (.int x3), some (.long x4), none, none]) (st' := [.int 1, .int x3, .int x2, .int x1, .ref 57]) (I' := I2) (J' := J2) rfl ?_
      refine Wp.call (M' := Md_why) (as := [.ref 57, .int x1, .int x2, .int x3, .int 1]) (rest := []) rfl (CI.use h (fun v3 I3 J3 h => ?_))
      refine Wp.eqs (pc' := 24) (st' := [.int v3]) rfl rfl ?_
      refine Wp.steps 2 (pc' := 28) (lv' := [some (.ref 57), some (.int x1), some (.int x2), some (.int x3), some (.long x4), none, some (.int v3)]) (st' := [.int v3]) (I' := I3) (J' := J3) rfl ?_
      refine Wp.steps 1 (pc' := if v3 < 0 then 31 else 34) (lv' := [some (.ref 57), some (.int x1), some (.int x2), some (.int x3), some (.long x4), none, some (.int v3)]) (st' := []) (I' := I3) (J' := J3) rfl (Wp.ite (fun h3 => ?_) (fun h3 => ?_))
      · replace h := h.1 h3
        refine Wp.steps 1 (pc' := 33) (lv' := [some (.ref 57), some (.int x1), some (.int x2), some (.int x3), some (.long x4), none, some (.int v3)]) (st' := [.int v3]) (I' := I3) (J' := J3) rfl ?_
        exact Wp.ret rfl h
      · replace h := h.2 h3
        refine Wp.steps 8 (pc' := 45) (lv' := [some (.ref 57), some (.int x1), some (.int x2), some (.int x3), some (.long x4), none, some (.int v3)]) (st' := [.int x2, .int ((24 * x1) + x3), .ref 76]) (I' := I3) (J' := J3) rfl ?_
        refine Wp.steps 1 (pc' := if x2 = 0 then 48 else 56) (lv' := [some (.ref 57), some (.int x1), some (.int x2), some (.int x3), some (.long x4), none, some (.int v3)]) (st' := [.int ((24 * x1) + x3), .ref 76]) (I' := I3) (J' := J3) rfl (Wp.ite (fun h4 => ?_) (fun h4 => ?_))
        · replace h := h.1 h4
          refine Wp.steps 5 (pc' := 83) (lv' := [some (.ref 57), some (.int x1), some (.int x2), some (.int x3), some (.long x4), none, some (.int v3)]) (st' := [.long (Int32.toInt64 (i2b (Int64.toInt32 x4))), .int ((24 * x1) + x3), .ref 76]) (I' := I3) (J' := J3) rfl ?_
          refine Wp.last rfl rfl h.1 ?_
          replace h := h.2
          refine Wp.steps 1 (pc' := 85) (lv' := [some (.ref 57), some (.int x1), some (.int x2), some (.int x3), some (.long x4), none, some (.int v3)]) (st' := [.int 1]) (I' := I3) (J' := (upJ J3 76 (tN ((24 * x1) + x3)) (Int32.toInt64 (i2b (Int64.toInt32 x4))))) rfl ?_
          exact Wp.ret rfl h
        · replace h := h.2 h4
          refine Wp.steps 2 (pc' := 58) (lv' := [some (.ref 57), some (.int x1), some (.int x2), some (.int x3), some (.long x4), none, some (.int v3)]) (st' := [.int 1, .int x2, .int ((24 * x1) + x3), .ref 76]) (I' := I3) (J' := J3) rfl ?_
          refine Wp.steps 1 (pc' := if x2 = 1 then 61 else 69) (lv' := [some (.ref 57), some (.int x1), some (.int x2), some (.int x3), some (.long x4), none, some (.int v3)]) (st' := [.int ((24 * x1) + x3), .ref 76]) (I' := I3) (J' := J3) rfl (Wp.ite (fun h5 => ?_) (fun h5 => ?_))
          · replace h := h.1 h5
            refine Wp.steps 5 (pc' := 83) (lv' := [some (.ref 57), some (.int x1), some (.int x2), some (.int x3), some (.long x4), none, some (.int v3)]) (st' := [.long (Int32.toInt64 (i2s (Int64.toInt32 x4))), .int ((24 * x1) + x3), .ref 76]) (I' := I3) (J' := J3) rfl ?_
            refine Wp.last rfl rfl h.1 ?_
            replace h := h.2
            refine Wp.steps 1 (pc' := 85) (lv' := [some (.ref 57), some (.int x1), some (.int x2), some (.int x3), some (.long x4), none, some (.int v3)]) (st' := [.int 1]) (I' := I3) (J' := (upJ J3 76 (tN ((24 * x1) + x3)) (Int32.toInt64 (i2s (Int64.toInt32 x4))))) rfl ?_
            exact Wp.ret rfl h
          · replace h := h.2 h5
            refine Wp.steps 2 (pc' := 71) (lv' := [some (.ref 57), some (.int x1), some (.int x2), some (.int x3), some (.long x4), none, some (.int v3)]) (st' := [.int 2, .int x2, .int ((24 * x1) + x3), .ref 76]) (I' := I3) (J' := J3) rfl ?_
            refine Wp.steps 1 (pc' := if x2 = 2 then 74 else 81) (lv' := [some (.ref 57), some (.int x1), some (.int x2), some (.int x3), some (.long x4), none, some (.int v3)]) (st' := [.int ((24 * x1) + x3), .ref 76]) (I' := I3) (J' := J3) rfl (Wp.ite (fun h6 => ?_) (fun h6 => ?_))
            · replace h := h.1 h6
              refine Wp.steps 4 (pc' := 83) (lv' := [some (.ref 57), some (.int x1), some (.int x2), some (.int x3), some (.long x4), none, some (.int v3)]) (st' := [.long (Int32.toInt64 (Int64.toInt32 x4)), .int ((24 * x1) + x3), .ref 76]) (I' := I3) (J' := J3) rfl ?_
              refine Wp.last rfl rfl h.1 ?_
              replace h := h.2
              refine Wp.steps 1 (pc' := 85) (lv' := [some (.ref 57), some (.int x1), some (.int x2), some (.int x3), some (.long x4), none, some (.int v3)]) (st' := [.int 1]) (I' := I3) (J' := (upJ J3 76 (tN ((24 * x1) + x3)) (Int32.toInt64 (Int64.toInt32 x4)))) rfl ?_
              exact Wp.ret rfl h
            · replace h := h.2 h6
              refine Wp.steps 1 (pc' := 83) (lv' := [some (.ref 57), some (.int x1), some (.int x2), some (.int x3), some (.long x4), none, some (.int v3)]) (st' := [.long x4, .int ((24 * x1) + x3), .ref 76]) (I' := I3) (J' := J3) rfl ?_
              refine Wp.last rfl rfl h.1 ?_
              replace h := h.2
              refine Wp.steps 1 (pc' := 85) (lv' := [some (.ref 57), some (.int x1), some (.int x2), some (.int x3), some (.long x4), none, some (.int v3)]) (st' := [.int 1]) (I' := I3) (J' := (upJ J3 76 (tN ((24 * x1) + x3)) x4)) rfl ?_
              exact Wp.ret rfl h
theorem v_Md_copy_57_0 {d : Nat} {Q : Post} {I : I2} {J : J2} {x1 : Int32} {x2 : Int32} {x3 : Int32} {x4 : Int32} {x5 : Int32} (h : CI d Md_isSheet [.int x1] I J (fun v1 I1 J1 => (v1 = 0 → Q (some (.int (-1))) I1 J1) ∧ (¬ (v1 = 0) → CI d Md_isSheet [.int x3] I1 J1 (fun v2 I2 J2 => (v2 = 0 → Q (some (.int (-1))) I2 J2) ∧ (¬ (v2 = 0) → vp_in x1 4 ∧ (((I2 74 (tN x1)) < 0 → Q (some (.int (-11))) I2 J2) ∧ (¬ ((I2 74 (tN x1)) < 0) → vp_in x3 4 ∧ (((I2 74 (tN x3)) < 0 → Q (some (.int (-11))) I2 J2) ∧ (¬ ((I2 74 (tN x3)) < 0) → vp_in x1 4 ∧ (CI d Md_why [.ref 57, .int x3, .int (I2 74 (tN x1)), .int x4, .int x5] I2 J2 (fun v3 I3 J3 => (v3 = 0 → vp_in x1 4 ∧ (CI d Md_why [.ref 57, .int x1, .int (I3 74 (tN x1)), .int x2, .int x5] I3 J3 (fun v4 I4 J4 => (v4 < 0 → Q (some (.int v4)) I4 J4) ∧ (¬ (v4 < 0) → Wp d Md_copy Q 91 [some (.ref 57), some (.int x1), some (.int x2), some (.int x3), some (.int x4), some (.int x5), some (.int v4), some (.int 0)] [] I4 J4)))) ∧ (¬ (v3 = 0) → (v3 < 0 → Q (some (.int v3)) I3 J3) ∧ (¬ (v3 < 0) → Wp d Md_copy Q 91 [some (.ref 57), some (.int x1), some (.int x2), some (.int x3), some (.int x4), some (.int x5), some (.int v3), some (.int 0)] [] I3 J3))))))))))))) : Wp d Md_copy Q 0 [some (.ref 57), some (.int x1), some (.int x2), some (.int x3), some (.int x4), some (.int x5), none, none] [] I J := by
  refine Wp.steps 1 (pc' := 1) (lv' := [some (.ref 57), some (.int x1), some (.int x2), some (.int x3), some (.int x4), some (.int x5), none, none]) (st' := [.int x1]) (I' := I) (J' := J) rfl ?_
  refine Wp.call (M' := Md_isSheet) (as := [.int x1]) (rest := []) rfl (CI.use h (fun v1 I1 J1 h => ?_))
  refine Wp.eqs (pc' := 4) (st' := [.int v1]) rfl rfl ?_
  refine Wp.steps 1 (pc' := if v1 = 0 then 14 else 7) (lv' := [some (.ref 57), some (.int x1), some (.int x2), some (.int x3), some (.int x4), some (.int x5), none, none]) (st' := []) (I' := I1) (J' := J1) rfl (Wp.ite (fun h1 => ?_) (fun h1 => ?_))
  · replace h := h.1 h1
    refine Wp.steps 1 (pc' := 15) (lv' := [some (.ref 57), some (.int x1), some (.int x2), some (.int x3), some (.int x4), some (.int x5), none, none]) (st' := [.int (-1)]) (I' := I1) (J' := J1) rfl ?_
    exact Wp.ret rfl h
  · replace h := h.2 h1
    refine Wp.steps 1 (pc' := 8) (lv' := [some (.ref 57), some (.int x1), some (.int x2), some (.int x3), some (.int x4), some (.int x5), none, none]) (st' := [.int x3]) (I' := I1) (J' := J1) rfl ?_
    refine Wp.call (M' := Md_isSheet) (as := [.int x3]) (rest := []) rfl (CI.use h (fun v2 I2 J2 h => ?_))
    refine Wp.eqs (pc' := 11) (st' := [.int v2]) rfl rfl ?_
    refine Wp.steps 1 (pc' := if v2 = 0 then 14 else 16) (lv' := [some (.ref 57), some (.int x1), some (.int x2), some (.int x3), some (.int x4), some (.int x5), none, none]) (st' := []) (I' := I2) (J' := J2) rfl (Wp.ite (fun h2 => ?_) (fun h2 => ?_))
    · replace h := h.1 h2
      refine Wp.steps 1 (pc' := 15) (lv' := [some (.ref 57), some (.int x1), some (.int x2), some (.int x3), some (.int x4), some (.int x5), none, none]) (st' := [.int (-1)]) (I' := I2) (J' := J2) rfl ?_
      exact Wp.ret rfl h
    · replace h := h.2 h2
      refine Wp.steps 3 (pc' := 21) (lv' := [some (.ref 57), some (.int x1), some (.int x2), some (.int x3), some (.int x4), some (.int x5), none, none]) (st' := [.int x1, .ref 74]) (I' := I2) (J' := J2) rfl ?_
      refine Wp.iald rfl rfl h.1 ?_
      replace h := h.2
      refine Wp.steps 1 (pc' := if (I2 74 (tN x1)) < 0 then 34 else 25) (lv' := [some (.ref 57), some (.int x1), some (.int x2), some (.int x3), some (.int x4), some (.int x5), none, none]) (st' := []) (I' := I2) (J' := J2) rfl (Wp.ite (fun h3 => ?_) (fun h3 => ?_))
      · replace h := h.1 h3
        refine Wp.steps 1 (pc' := 36) (lv' := [some (.ref 57), some (.int x1), some (.int x2), some (.int x3), some (.int x4), some (.int x5), none, none]) (st' := [.int (-11)]) (I' := I2) (J' := J2) rfl ?_
        exact Wp.ret rfl h
      · replace h := h.2 h3
        refine Wp.steps 3 (pc' := 30) (lv' := [some (.ref 57), some (.int x1), some (.int x2), some (.int x3), some (.int x4), some (.int x5), none, none]) (st' := [.int x3, .ref 74]) (I' := I2) (J' := J2) rfl ?_
        refine Wp.iald rfl rfl h.1 ?_
        replace h := h.2
        refine Wp.steps 1 (pc' := if (I2 74 (tN x3)) < 0 then 34 else 37) (lv' := [some (.ref 57), some (.int x1), some (.int x2), some (.int x3), some (.int x4), some (.int x5), none, none]) (st' := []) (I' := I2) (J' := J2) rfl (Wp.ite (fun h4 => ?_) (fun h4 => ?_))
        · replace h := h.1 h4
          refine Wp.steps 1 (pc' := 36) (lv' := [some (.ref 57), some (.int x1), some (.int x2), some (.int x3), some (.int x4), some (.int x5), none, none]) (st' := [.int (-11)]) (I' := I2) (J' := J2) rfl ?_
          exact Wp.ret rfl h
        · replace h := h.2 h4
          refine Wp.steps 5 (pc' := 44) (lv' := [some (.ref 57), some (.int x1), some (.int x2), some (.int x3), some (.int x4), some (.int x5), none, none]) (st' := [.int x1, .ref 74, .int x3, .ref 57]) (I' := I2) (J' := J2) rfl ?_
          refine Wp.iald rfl rfl h.1 ?_
          replace h := h.2
          refine Wp.steps 2 (pc' := 49) (lv' := [some (.ref 57), some (.int x1), some (.int x2), some (.int x3), some (.int x4), some (.int x5), none, none]) (st' := [.int x5, .int x4, .int (I2 74 (tN x1)), .int x3, .ref 57]) (I' := I2) (J' := J2) rfl ?_
          refine Wp.call (M' := Md_why) (as := [.ref 57, .int x3, .int (I2 74 (tN x1)), .int x4, .int x5]) (rest := []) rfl (CI.use h (fun v3 I3 J3 h => ?_))
          refine Wp.eqs (pc' := 52) (st' := [.int v3]) rfl rfl ?_
          refine Wp.steps 2 (pc' := 56) (lv' := [some (.ref 57), some (.int x1), some (.int x2), some (.int x3), some (.int x4), some (.int x5), some (.int v3), none]) (st' := [.int v3]) (I' := I3) (J' := J3) rfl ?_
          refine Wp.steps 1 (pc' := if v3 = 0 then 59 else 76) (lv' := [some (.ref 57), some (.int x1), some (.int x2), some (.int x3), some (.int x4), some (.int x5), some (.int v3), none]) (st' := []) (I' := I3) (J' := J3) rfl (Wp.ite (fun h5 => ?_) (fun h5 => ?_))
          · replace h := h.1 h5
            refine Wp.steps 5 (pc' := 66) (lv' := [some (.ref 57), some (.int x1), some (.int x2), some (.int x3), some (.int x4), some (.int x5), some (.int v3), none]) (st' := [.int x1, .ref 74, .int x1, .ref 57]) (I' := I3) (J' := J3) rfl ?_
            refine Wp.iald rfl rfl h.1 ?_
            replace h := h.2
            refine Wp.steps 2 (pc' := 70) (lv' := [some (.ref 57), some (.int x1), some (.int x2), some (.int x3), some (.int x4), some (.int x5), some (.int v3), none]) (st' := [.int x5, .int x2, .int (I3 74 (tN x1)), .int x1, .ref 57]) (I' := I3) (J' := J3) rfl ?_
            refine Wp.call (M' := Md_why) (as := [.ref 57, .int x1, .int (I3 74 (tN x1)), .int x2, .int x5]) (rest := []) rfl (CI.use h (fun v4 I4 J4 h => ?_))
            refine Wp.eqs (pc' := 73) (st' := [.int v4]) rfl rfl ?_
            refine Wp.steps 3 (pc' := 82) (lv' := [some (.ref 57), some (.int x1), some (.int x2), some (.int x3), some (.int x4), some (.int x5), some (.int v4), none]) (st' := [.int v4]) (I' := I4) (J' := J4) rfl ?_
            refine Wp.steps 1 (pc' := if v4 < 0 then 85 else 88) (lv' := [some (.ref 57), some (.int x1), some (.int x2), some (.int x3), some (.int x4), some (.int x5), some (.int v4), none]) (st' := []) (I' := I4) (J' := J4) rfl (Wp.ite (fun h6 => ?_) (fun h6 => ?_))
            · replace h := h.1 h6
              refine Wp.steps 1 (pc' := 87) (lv' := [some (.ref 57), some (.int x1), some (.int x2), some (.int x3), some (.int x4), some (.int x5), some (.int v4), none]) (st' := [.int v4]) (I' := I4) (J' := J4) rfl ?_
              exact Wp.ret rfl h
            · replace h := h.2 h6
              refine Wp.steps 2 (pc' := 91) (lv' := [some (.ref 57), some (.int x1), some (.int x2), some (.int x3), some (.int x4), some (.int x5), some (.int v4), some (.int 0)]) (st' := []) (I' := I4) (J' := J4) rfl ?_
              exact h
          · replace h := h.2 h5
            refine Wp.steps 3 (pc' := 82) (lv' := [some (.ref 57), some (.int x1), some (.int x2), some (.int x3), some (.int x4), some (.int x5), some (.int v3), none]) (st' := [.int v3]) (I' := I3) (J' := J3) rfl ?_
            refine Wp.steps 1 (pc' := if v3 < 0 then 85 else 88) (lv' := [some (.ref 57), some (.int x1), some (.int x2), some (.int x3), some (.int x4), some (.int x5), some (.int v3), none]) (st' := []) (I' := I3) (J' := J3) rfl (Wp.ite (fun h6 => ?_) (fun h6 => ?_))
            · replace h := h.1 h6
              refine Wp.steps 1 (pc' := 87) (lv' := [some (.ref 57), some (.int x1), some (.int x2), some (.int x3), some (.int x4), some (.int x5), some (.int v3), none]) (st' := [.int v3]) (I' := I3) (J' := J3) rfl ?_
              exact Wp.ret rfl h
            · replace h := h.2 h6
              refine Wp.steps 2 (pc' := 91) (lv' := [some (.ref 57), some (.int x1), some (.int x2), some (.int x3), some (.int x4), some (.int x5), some (.int v3), some (.int 0)]) (st' := []) (I' := I3) (J' := J3) rfl ?_
              exact h
theorem v_Md_copy_57_91 {d : Nat} {Q : Post} {I : I2} {J : J2} {x1 : Int32} {x2 : Int32} {x3 : Int32} {x4 : Int32} {x5 : Int32} {x6 : Int32} {x7 : Int32} (h : (x7 < x5 → vp_in (((24 * x1) + x2) + x7) 96 ∧ (vp_in x7 24 ∧ (Wp d Md_copy Q 91 [some (.ref 57), some (.int x1), some (.int x2), some (.int x3), some (.int x4), some (.int x5), some (.int x6), some (.int (x7 + 1))] [] I (upJ J 77 (tN x7) (J 76 (tN (((24 * x1) + x2) + x7))))))) ∧ (¬ (x7 < x5) → Wp d Md_copy Q 128 [some (.ref 57), some (.int x1), some (.int x2), some (.int x3), some (.int x4), some (.int x5), some (.int x6), some (.int 0)] [] I J)) : Wp d Md_copy Q 91 [some (.ref 57), some (.int x1), some (.int x2), some (.int x3), some (.int x4), some (.int x5), some (.int x6), some (.int x7)] [] I J := by
  refine Wp.steps 2 (pc' := 95) (lv' := [some (.ref 57), some (.int x1), some (.int x2), some (.int x3), some (.int x4), some (.int x5), some (.int x6), some (.int x7)]) (st' := [.int x5, .int x7]) (I' := I) (J' := J) rfl ?_
  refine Wp.steps 1 (pc' := if x7 < x5 then 98 else 125) (lv' := [some (.ref 57), some (.int x1), some (.int x2), some (.int x3), some (.int x4), some (.int x5), some (.int x6), some (.int x7)]) (st' := []) (I' := I) (J' := J) rfl (Wp.ite (fun h1 => ?_) (fun h1 => ?_))
  · replace h := h.1 h1
    refine Wp.steps 12 (pc' := 117) (lv' := [some (.ref 57), some (.int x1), some (.int x2), some (.int x3), some (.int x4), some (.int x5), some (.int x6), some (.int x7)]) (st' := [.int (((24 * x1) + x2) + x7), .ref 76, .int x7, .ref 77]) (I' := I) (J' := J) rfl ?_
    refine Wp.lald rfl rfl h.1 ?_
    replace h := h.2
    refine Wp.last rfl rfl h.1 ?_
    replace h := h.2
    refine Wp.steps 2 (pc' := 91) (lv' := [some (.ref 57), some (.int x1), some (.int x2), some (.int x3), some (.int x4), some (.int x5), some (.int x6), some (.int (x7 + 1))]) (st' := []) (I' := I) (J' := (upJ J 77 (tN x7) (J 76 (tN (((24 * x1) + x2) + x7))))) rfl ?_
    exact h
  · replace h := h.2 h1
    refine Wp.steps 2 (pc' := 128) (lv' := [some (.ref 57), some (.int x1), some (.int x2), some (.int x3), some (.int x4), some (.int x5), some (.int x6), some (.int 0)]) (st' := []) (I' := I) (J' := J) rfl ?_
    exact h
theorem v_Md_copy_57_128 {d : Nat} {Q : Post} {I : I2} {J : J2} {x1 : Int32} {x2 : Int32} {x3 : Int32} {x4 : Int32} {x5 : Int32} {x6 : Int32} {x7 : Int32} (h : (x7 < x5 → vp_in x7 24 ∧ (vp_in (((24 * x3) + x4) + x7) 96 ∧ (Wp d Md_copy Q 128 [some (.ref 57), some (.int x1), some (.int x2), some (.int x3), some (.int x4), some (.int x5), some (.int x6), some (.int (x7 + 1))] [] I (upJ J 76 (tN (((24 * x3) + x4) + x7)) (J 77 (tN x7)))))) ∧ (¬ (x7 < x5) → Q (some (.int x5)) I J)) : Wp d Md_copy Q 128 [some (.ref 57), some (.int x1), some (.int x2), some (.int x3), some (.int x4), some (.int x5), some (.int x6), some (.int x7)] [] I J := by
  refine Wp.steps 2 (pc' := 132) (lv' := [some (.ref 57), some (.int x1), some (.int x2), some (.int x3), some (.int x4), some (.int x5), some (.int x6), some (.int x7)]) (st' := [.int x5, .int x7]) (I' := I) (J' := J) rfl ?_
  refine Wp.steps 1 (pc' := if x7 < x5 then 135 else 163) (lv' := [some (.ref 57), some (.int x1), some (.int x2), some (.int x3), some (.int x4), some (.int x5), some (.int x6), some (.int x7)]) (st' := []) (I' := I) (J' := J) rfl (Wp.ite (fun h1 => ?_) (fun h1 => ?_))
  · replace h := h.1 h1
    refine Wp.steps 12 (pc' := 155) (lv' := [some (.ref 57), some (.int x1), some (.int x2), some (.int x3), some (.int x4), some (.int x5), some (.int x6), some (.int x7)]) (st' := [.int x7, .ref 77, .int (((24 * x3) + x4) + x7), .ref 76]) (I' := I) (J' := J) rfl ?_
    refine Wp.lald rfl rfl h.1 ?_
    replace h := h.2
    refine Wp.last rfl rfl h.1 ?_
    replace h := h.2
    refine Wp.steps 2 (pc' := 128) (lv' := [some (.ref 57), some (.int x1), some (.int x2), some (.int x3), some (.int x4), some (.int x5), some (.int x6), some (.int (x7 + 1))]) (st' := []) (I' := I) (J' := (upJ J 76 (tN (((24 * x3) + x4) + x7)) (J 77 (tN x7)))) rfl ?_
    exact h
  · replace h := h.2 h1
    refine Wp.steps 1 (pc' := 165) (lv' := [some (.ref 57), some (.int x1), some (.int x2), some (.int x3), some (.int x4), some (.int x5), some (.int x6), some (.int x7)]) (st' := [.int x5]) (I' := I) (J' := J) rfl ?_
    exact Wp.ret rfl h
theorem v_Md_in_0 {d : Nat} {Q : Post} {I : I2} {J : J2} {x0 : Int64} {x2 : Int64} {x4 : Int64} (h : ((lg_cmp x0 x2) < 0 → Q (some (.int 0)) I J) ∧ (¬ ((lg_cmp x0 x2) < 0) → (0 < (lg_cmp x0 x4) → Q (some (.int 0)) I J) ∧ (¬ (0 < (lg_cmp x0 x4)) → Q (some (.int 1)) I J))) : Wp d Md_in Q 0 [some (.long x0), none, some (.long x2), none, some (.long x4), none] [] I J := by
  refine Wp.steps 3 (pc' := 3) (lv' := [some (.long x0), none, some (.long x2), none, some (.long x4), none]) (st' := [.int (lg_cmp x0 x2)]) (I' := I) (J' := J) rfl ?_
  refine Wp.steps 1 (pc' := if (lg_cmp x0 x2) < 0 then 17 else 6) (lv' := [some (.long x0), none, some (.long x2), none, some (.long x4), none]) (st' := []) (I' := I) (J' := J) rfl (Wp.ite (fun h1 => ?_) (fun h1 => ?_))
  · replace h := h.1 h1
    refine Wp.steps 1 (pc' := 18) (lv' := [some (.long x0), none, some (.long x2), none, some (.long x4), none]) (st' := [.int 0]) (I' := I) (J' := J) rfl ?_
    exact Wp.ret rfl h
  · replace h := h.2 h1
    refine Wp.steps 3 (pc' := 10) (lv' := [some (.long x0), none, some (.long x2), none, some (.long x4), none]) (st' := [.int (lg_cmp x0 x4)]) (I' := I) (J' := J) rfl ?_
    refine Wp.steps 1 (pc' := if 0 < (lg_cmp x0 x4) then 17 else 13) (lv' := [some (.long x0), none, some (.long x2), none, some (.long x4), none]) (st' := []) (I' := I) (J' := J) rfl (Wp.ite (fun h2 => ?_) (fun h2 => ?_))
    · replace h := h.1 h2
      refine Wp.steps 1 (pc' := 18) (lv' := [some (.long x0), none, some (.long x2), none, some (.long x4), none]) (st' := [.int 0]) (I' := I) (J' := J) rfl ?_
      exact Wp.ret rfl h
    · replace h := h.2 h2
      refine Wp.steps 2 (pc' := 18) (lv' := [some (.long x0), none, some (.long x2), none, some (.long x4), none]) (st' := [.int 1]) (I' := I) (J' := J) rfl ?_
      exact Wp.ret rfl h
theorem v_Md_panelComes_57_0 {d : Nat} {Q : Post} {I : I2} {J : J2} {x1 : Int32} {x2 : Int32} (h : vp_in (6 + (2 * (I 58 0))) 40 ∧ (vp_in ((6 + (2 * ((up2 I 58 (tN (6 + (2 * (I 58 0)))) x1) 58 0))) + 1) 40 ∧ (Q none (up2 (up2 (up2 (up2 I 58 (tN (6 + (2 * (I 58 0)))) x1) 58 (tN ((6 + (2 * ((up2 I 58 (tN (6 + (2 * (I 58 0)))) x1) 58 0))) + 1)) x2) 58 0 (((up2 (up2 I 58 (tN (6 + (2 * (I 58 0)))) x1) 58 (tN ((6 + (2 * ((up2 I 58 (tN (6 + (2 * (I 58 0)))) x1) 58 0))) + 1)) x2) 58 0) + 1)) 57 9 0) J))) : Wp d Md_panelComes Q 0 [some (.ref 57), some (.int x1), some (.int x2)] [] I J := by
  refine Wp.steps 11 (pc' := 16) (lv' := [some (.ref 57), some (.int x1), some (.int x2)]) (st' := [.int x1, .int (6 + (2 * (I 58 0))), .ref 58]) (I' := I) (J' := J) rfl ?_
  refine Wp.iast rfl rfl h.1 ?_
  replace h := h.2
  refine Wp.steps 13 (pc' := 35) (lv' := [some (.ref 57), some (.int x1), some (.int x2)]) (st' := [.int x2, .int ((6 + (2 * ((up2 I 58 (tN (6 + (2 * (I 58 0)))) x1) 58 0))) + 1), .ref 58]) (I' := (up2 I 58 (tN (6 + (2 * (I 58 0)))) x1)) (J' := J) rfl ?_
  refine Wp.iast rfl rfl h.1 ?_
  replace h := h.2
  refine Wp.steps 11 (pc' := 51) (lv' := [some (.ref 57), some (.int x1), some (.int x2)]) (st' := []) (I' := (up2 (up2 (up2 (up2 I 58 (tN (6 + (2 * (I 58 0)))) x1) 58 (tN ((6 + (2 * ((up2 I 58 (tN (6 + (2 * (I 58 0)))) x1) 58 0))) + 1)) x2) 58 0 (((up2 (up2 I 58 (tN (6 + (2 * (I 58 0)))) x1) 58 (tN ((6 + (2 * ((up2 I 58 (tN (6 + (2 * (I 58 0)))) x1) 58 0))) + 1)) x2) 58 0) + 1)) 57 9 0)) (J' := J) rfl ?_
  exact Wp.ret rfl h
theorem v_Md_isPanel_57_0 {d : Nat} {Q : Post} {I : I2} {J : J2} {x1 : Int32} (h : CI d Md_in [.long (Int32.toInt64 x1), .long 0, .long (Int32.toInt64 ((I 58 0) - 1))] I J (fun v1 I1 J1 => (v1 = 0 ∨ v1 = 1) ∧ Q (some (.int v1)) I1 J1)) : Wp d Md_isPanel Q 0 [some (.ref 57), some (.int x1)] [] I J := by
  refine Wp.steps 10 (pc' := 12) (lv' := [some (.ref 57), some (.int x1)]) (st' := [.long (Int32.toInt64 ((I 58 0) - 1)), .long 0, .long (Int32.toInt64 x1)]) (I' := I) (J' := J) rfl ?_
  refine Wp.call (M' := Md_in) (as := [.long (Int32.toInt64 x1), .long 0, .long (Int32.toInt64 ((I 58 0) - 1))]) (rest := []) rfl (CI.use h (fun v1 I1 J1 h => ?_))
  refine Wp.eqs (pc' := 15) (st' := [.int v1]) rfl rfl ?_
  exact Wp.retZ rfl rfl h.1 h.2
theorem v_Md_lockComes_57_0 {d : Nat} {Q : Post} {I : I2} {J : J2} {x1 : Int32} {x2 : Int32} {x3 : Int32} {x4 : Int32} (h : vp_in (16 + (4 * (I 58 1))) 40 ∧ (vp_in ((16 + (4 * (I 58 1))) + 1) 40 ∧ (vp_in ((16 + (4 * (I 58 1))) + 2) 40 ∧ (vp_in ((16 + (4 * (I 58 1))) + 3) 40 ∧ (Q none (up2 (up2 (up2 (up2 (up2 (up2 I 58 (tN (16 + (4 * (I 58 1)))) x1) 58 (tN ((16 + (4 * (I 58 1))) + 1)) x2) 58 (tN ((16 + (4 * (I 58 1))) + 2)) x3) 58 (tN ((16 + (4 * (I 58 1))) + 3)) x4) 58 1 (((up2 (up2 (up2 (up2 I 58 (tN (16 + (4 * (I 58 1)))) x1) 58 (tN ((16 + (4 * (I 58 1))) + 1)) x2) 58 (tN ((16 + (4 * (I 58 1))) + 2)) x3) 58 (tN ((16 + (4 * (I 58 1))) + 3)) x4) 58 1) + 1)) 57 9 0) J))))) : Wp d Md_lockComes Q 0 [some (.ref 57), some (.int x1), some (.int x2), some (.int x3), some (.int x4), none] [] I J := by
  refine Wp.steps 13 (pc' := 20) (lv' := [some (.ref 57), some (.int x1), some (.int x2), some (.int x3), some (.int x4), some (.int (16 + (4 * (I 58 1))))]) (st' := [.int x1, .int (16 + (4 * (I 58 1))), .ref 58]) (I' := I) (J' := J) rfl ?_
  refine Wp.iast rfl rfl h.1 ?_
  replace h := h.2
  refine Wp.steps 6 (pc' := 30) (lv' := [some (.ref 57), some (.int x1), some (.int x2), some (.int x3), some (.int x4), some (.int (16 + (4 * (I 58 1))))]) (st' := [.int x2, .int ((16 + (4 * (I 58 1))) + 1), .ref 58]) (I' := (up2 I 58 (tN (16 + (4 * (I 58 1)))) x1)) (J' := J) rfl ?_
  refine Wp.iast rfl rfl h.1 ?_
  replace h := h.2
  refine Wp.steps 6 (pc' := 40) (lv' := [some (.ref 57), some (.int x1), some (.int x2), some (.int x3), some (.int x4), some (.int (16 + (4 * (I 58 1))))]) (st' := [.int x3, .int ((16 + (4 * (I 58 1))) + 2), .ref 58]) (I' := (up2 (up2 I 58 (tN (16 + (4 * (I 58 1)))) x1) 58 (tN ((16 + (4 * (I 58 1))) + 1)) x2)) (J' := J) rfl ?_
  refine Wp.iast rfl rfl h.1 ?_
  replace h := h.2
  refine Wp.steps 6 (pc' := 51) (lv' := [some (.ref 57), some (.int x1), some (.int x2), some (.int x3), some (.int x4), some (.int (16 + (4 * (I 58 1))))]) (st' := [.int x4, .int ((16 + (4 * (I 58 1))) + 3), .ref 58]) (I' := (up2 (up2 (up2 I 58 (tN (16 + (4 * (I 58 1)))) x1) 58 (tN ((16 + (4 * (I 58 1))) + 1)) x2) 58 (tN ((16 + (4 * (I 58 1))) + 2)) x3)) (J' := J) rfl ?_
  refine Wp.iast rfl rfl h.1 ?_
  replace h := h.2
  refine Wp.steps 11 (pc' := 67) (lv' := [some (.ref 57), some (.int x1), some (.int x2), some (.int x3), some (.int x4), some (.int (16 + (4 * (I 58 1))))]) (st' := []) (I' := (up2 (up2 (up2 (up2 (up2 (up2 I 58 (tN (16 + (4 * (I 58 1)))) x1) 58 (tN ((16 + (4 * (I 58 1))) + 1)) x2) 58 (tN ((16 + (4 * (I 58 1))) + 2)) x3) 58 (tN ((16 + (4 * (I 58 1))) + 3)) x4) 58 1 (((up2 (up2 (up2 (up2 I 58 (tN (16 + (4 * (I 58 1)))) x1) 58 (tN ((16 + (4 * (I 58 1))) + 1)) x2) 58 (tN ((16 + (4 * (I 58 1))) + 2)) x3) 58 (tN ((16 + (4 * (I 58 1))) + 3)) x4) 58 1) + 1)) 57 9 0)) (J' := J) rfl ?_
  exact Wp.ret rfl h
theorem v_Md_kind_57_0 {d : Nat} {Q : Post} {I : I2} {J : J2} {x1 : Int32} (h : vp_in (6 + (2 * x1)) 40 ∧ (Q (some (.int (I 58 (tN (6 + (2 * x1)))))) I J)) : Wp d Md_kind Q 0 [some (.ref 57), some (.int x1)] [] I J := by
  refine Wp.steps 7 (pc' := 10) (lv' := [some (.ref 57), some (.int x1)]) (st' := [.int (6 + (2 * x1)), .ref 58]) (I' := I) (J' := J) rfl ?_
  refine Wp.iald rfl rfl h.1 ?_
  replace h := h.2
  exact Wp.ret rfl h
theorem v_Md_deep_57_0 {d : Nat} {Q : Post} {I : I2} {J : J2} {x1 : Int32} (h : vp_in ((6 + (2 * x1)) + 1) 40 ∧ (Q (some (.int (I 58 (tN ((6 + (2 * x1)) + 1))))) I J)) : Wp d Md_deep Q 0 [some (.ref 57), some (.int x1)] [] I J := by
  refine Wp.steps 9 (pc' := 12) (lv' := [some (.ref 57), some (.int x1)]) (st' := [.int ((6 + (2 * x1)) + 1), .ref 58]) (I' := I) (J' := J) rfl ?_
  refine Wp.iald rfl rfl h.1 ?_
  replace h := h.2
  exact Wp.ret rfl h
theorem v_Md_placeIn_0 {d : Nat} {Q : Post} {I : I2} {J : J2} {x0 : Int32} {x1 : Int32} (h : Q (some (.int ((srI x0 (2 * x1)) &&& 3))) I J) : Wp d Md_placeIn Q 0 [some (.int x0), some (.int x1)] [] I J := by
  refine Wp.steps 7 (pc' := 7) (lv' := [some (.int x0), some (.int x1)]) (st' := [.int ((srI x0 (2 * x1)) &&& 3)]) (I' := I) (J' := J) rfl ?_
  exact Wp.ret rfl h
theorem v_Md_mayNow_57_0 {d : Nat} {Q : Post} {I : I2} {J : J2} {x1 : Int32} {x2 : Int32} (h : CI d Md_may [.ref 57, .int (I 58 5), .int x1, .int x2, .int (I 58 3)] I J (fun v1 I1 J1 => (v1 = 0 → Q (some (.int 0)) I1 J1) ∧ (¬ (v1 = 0) → Q (some (.int 1)) I1 J1))) : Wp d Md_mayNow Q 0 [some (.ref 57), some (.int x1), some (.int x2)] [] I J := by
  refine Wp.steps 11 (pc' := 15) (lv' := [some (.ref 57), some (.int x1), some (.int x2)]) (st' := [.int (I 58 3), .int x2, .int x1, .int (I 58 5), .ref 57]) (I' := I) (J' := J) rfl ?_
  refine Wp.call (M' := Md_may) (as := [.ref 57, .int (I 58 5), .int x1, .int x2, .int (I 58 3)]) (rest := []) rfl (CI.use h (fun v1 I1 J1 h => ?_))
  refine Wp.eqs (pc' := 18) (st' := [.int v1]) rfl rfl ?_
  refine Wp.steps 1 (pc' := if v1 = 0 then 25 else 21) (lv' := [some (.ref 57), some (.int x1), some (.int x2)]) (st' := []) (I' := I1) (J' := J1) rfl (Wp.ite (fun h1 => ?_) (fun h1 => ?_))
  · replace h := h.1 h1
    refine Wp.steps 1 (pc' := 26) (lv' := [some (.ref 57), some (.int x1), some (.int x2)]) (st' := [.int 0]) (I' := I1) (J' := J1) rfl ?_
    exact Wp.ret rfl h
  · replace h := h.2 h1
    refine Wp.steps 2 (pc' := 26) (lv' := [some (.ref 57), some (.int x1), some (.int x2)]) (st' := [.int 1]) (I' := I1) (J' := J1) rfl ?_
    exact Wp.ret rfl h
theorem v_Md_isLock_57_0 {d : Nat} {Q : Post} {I : I2} {J : J2} {x1 : Int32} (h : CI d Md_in [.long (Int32.toInt64 x1), .long 0, .long (Int32.toInt64 ((I 58 1) - 1))] I J (fun v1 I1 J1 => (v1 = 0 ∨ v1 = 1) ∧ Q (some (.int v1)) I1 J1)) : Wp d Md_isLock Q 0 [some (.ref 57), some (.int x1)] [] I J := by
  refine Wp.steps 10 (pc' := 12) (lv' := [some (.ref 57), some (.int x1)]) (st' := [.long (Int32.toInt64 ((I 58 1) - 1)), .long 0, .long (Int32.toInt64 x1)]) (I' := I) (J' := J) rfl ?_
  refine Wp.call (M' := Md_in) (as := [.long (Int32.toInt64 x1), .long 0, .long (Int32.toInt64 ((I 58 1) - 1))]) (rest := []) rfl (CI.use h (fun v1 I1 J1 h => ?_))
  refine Wp.eqs (pc' := 15) (st' := [.int v1]) rfl rfl ?_
  exact Wp.retZ rfl rfl h.1 h.2
theorem v_Md_ofLock_57_0 {d : Nat} {Q : Post} {I : I2} {J : J2} {x1 : Int32} {x2 : Int32} (h : vp_in ((16 + (4 * x1)) + x2) 40 ∧ (Q (some (.int (I 58 (tN ((16 + (4 * x1)) + x2))))) I J)) : Wp d Md_ofLock Q 0 [some (.ref 57), some (.int x1), some (.int x2)] [] I J := by
  refine Wp.steps 9 (pc' := 12) (lv' := [some (.ref 57), some (.int x1), some (.int x2)]) (st' := [.int ((16 + (4 * x1)) + x2), .ref 58]) (I' := I) (J' := J) rfl ?_
  refine Wp.iald rfl rfl h.1 ?_
  replace h := h.2
  exact Wp.ret rfl h
theorem v_Md_isOpen_57_0 {d : Nat} {Q : Post} {I : I2} {J : J2} {x1 : Int32} (h : (0 < (I 58 0) → CI d Md_placeIn [.int x1, .int (I 58 2)] I J (fun v1 I1 J1 => CI d Md_deep [.ref 57, .int (I1 58 2)] I1 J1 (fun v2 I2 J2 => (v1 = v2 → Q (some (.int 1)) I2 J2) ∧ (¬ (v1 = v2) → Q (some (.int 0)) I2 J2)))) ∧ (¬ (0 < (I 58 0)) → Q (some (.int 0)) I J)) : Wp d Md_isOpen Q 0 [some (.ref 57), some (.int x1)] [] I J := by
  refine Wp.steps 4 (pc' := 6) (lv' := [some (.ref 57), some (.int x1)]) (st' := [.int (I 58 0)]) (I' := I) (J' := J) rfl ?_
  refine Wp.steps 1 (pc' := if 0 < (I 58 0) then 9 else 36) (lv' := [some (.ref 57), some (.int x1)]) (st' := []) (I' := I) (J' := J) rfl (Wp.ite (fun h1 => ?_) (fun h1 => ?_))
  · replace h := h.1 h1
    refine Wp.steps 5 (pc' := 16) (lv' := [some (.ref 57), some (.int x1)]) (st' := [.int (I 58 2), .int x1]) (I' := I) (J' := J) rfl ?_
    refine Wp.call (M' := Md_placeIn) (as := [.int x1, .int (I 58 2)]) (rest := []) rfl (CI.use h (fun v1 I1 J1 h => ?_))
    refine Wp.eqs (pc' := 19) (st' := [.int v1]) rfl rfl ?_
    refine Wp.steps 5 (pc' := 26) (lv' := [some (.ref 57), some (.int x1)]) (st' := [.int (I1 58 2), .ref 57, .int v1]) (I' := I1) (J' := J1) rfl ?_
    refine Wp.call (M' := Md_deep) (as := [.ref 57, .int (I1 58 2)]) (rest := [.int v1]) rfl (CI.use h (fun v2 I2 J2 h => ?_))
    refine Wp.eqs (pc' := 29) (st' := [.int v2, .int v1]) rfl rfl ?_
    refine Wp.steps 1 (pc' := if v1 = v2 then 32 else 36) (lv' := [some (.ref 57), some (.int x1)]) (st' := []) (I' := I2) (J' := J2) rfl (Wp.ite (fun h2 => ?_) (fun h2 => ?_))
    · replace h := h.1 h2
      refine Wp.steps 2 (pc' := 37) (lv' := [some (.ref 57), some (.int x1)]) (st' := [.int 1]) (I' := I2) (J' := J2) rfl ?_
      exact Wp.ret rfl h
    · replace h := h.2 h2
      refine Wp.steps 1 (pc' := 37) (lv' := [some (.ref 57), some (.int x1)]) (st' := [.int 0]) (I' := I2) (J' := J2) rfl ?_
      exact Wp.ret rfl h
  · replace h := h.2 h1
    refine Wp.steps 1 (pc' := 37) (lv' := [some (.ref 57), some (.int x1)]) (st' := [.int 0]) (I' := I) (J' := J) rfl ?_
    exact Wp.ret rfl h
theorem v_Md_outs_57_0 {d : Nat} {Q : Post} {I : I2} {J : J2} (h : Wp d Md_outs Q 4 [some (.ref 57), some (.int 0), some (.int 0)] [] I J) : Wp d Md_outs Q 0 [some (.ref 57), none, none] [] I J := by
  refine Wp.steps 4 (pc' := 4) (lv' := [some (.ref 57), some (.int 0), some (.int 0)]) (st' := []) (I' := I) (J' := J) rfl ?_
  exact h
theorem v_Md_outs_57_4 {d : Nat} {Q : Post} {I : I2} {J : J2} {x1 : Int32} {x2 : Int32} (h : (x2 < (I 58 0) → CI d Md_placeIn [.int (I 58 5), .int x2] I J (fun v1 I1 J1 => (0 < v1 → Wp d Md_outs Q 4 [some (.ref 57), some (.int (x1 ||| (slI 1 x2))), some (.int (x2 + 1))] [] I1 J1) ∧ (¬ (0 < v1) → Wp d Md_outs Q 4 [some (.ref 57), some (.int (x1 ||| 0)), some (.int (x2 + 1))] [] I1 J1))) ∧ (¬ (x2 < (I 58 0)) → Q (some (.int x1)) I J)) : Wp d Md_outs Q 4 [some (.ref 57), some (.int x1), some (.int x2)] [] I J := by
  refine Wp.steps 5 (pc' := 11) (lv' := [some (.ref 57), some (.int x1), some (.int x2)]) (st' := [.int (I 58 0), .int x2]) (I' := I) (J' := J) rfl ?_
  refine Wp.steps 1 (pc' := if x2 < (I 58 0) then 14 else 43) (lv' := [some (.ref 57), some (.int x1), some (.int x2)]) (st' := []) (I' := I) (J' := J) rfl (Wp.ite (fun h1 => ?_) (fun h1 => ?_))
  · replace h := h.1 h1
    refine Wp.steps 6 (pc' := 22) (lv' := [some (.ref 57), some (.int x1), some (.int x2)]) (st' := [.int x2, .int (I 58 5), .int x1]) (I' := I) (J' := J) rfl ?_
    refine Wp.call (M' := Md_placeIn) (as := [.int (I 58 5), .int x2]) (rest := [.int x1]) rfl (CI.use h (fun v1 I1 J1 h => ?_))
    refine Wp.eqs (pc' := 25) (st' := [.int v1, .int x1]) rfl rfl ?_
    refine Wp.steps 1 (pc' := if 0 < v1 then 28 else 34) (lv' := [some (.ref 57), some (.int x1), some (.int x2)]) (st' := [.int x1]) (I' := I1) (J' := J1) rfl (Wp.ite (fun h2 => ?_) (fun h2 => ?_))
    · replace h := h.1 h2
      refine Wp.steps 8 (pc' := 4) (lv' := [some (.ref 57), some (.int (x1 ||| (slI 1 x2))), some (.int (x2 + 1))]) (st' := []) (I' := I1) (J' := J1) rfl ?_
      exact h
    · replace h := h.2 h2
      refine Wp.steps 5 (pc' := 4) (lv' := [some (.ref 57), some (.int (x1 ||| 0)), some (.int (x2 + 1))]) (st' := []) (I' := I1) (J' := J1) rfl ?_
      exact h
  · replace h := h.2 h1
    refine Wp.steps 1 (pc' := 44) (lv' := [some (.ref 57), some (.int x1), some (.int x2)]) (st' := [.int x1]) (I' := I) (J' := J) rfl ?_
    exact Wp.ret rfl h
theorem v_Md_slides_57_0 {d : Nat} {Q : Post} {I : I2} {J : J2} (h : Wp d Md_slides Q 4 [some (.ref 57), some (.int 0), some (.int 0)] [] I J) : Wp d Md_slides Q 0 [some (.ref 57), none, none] [] I J := by
  refine Wp.steps 4 (pc' := 4) (lv' := [some (.ref 57), some (.int 0), some (.int 0)]) (st' := []) (I' := I) (J' := J) rfl ?_
  exact h
theorem v_Md_slides_57_4 {d : Nat} {Q : Post} {I : I2} {J : J2} {x1 : Int32} {x2 : Int32} (h : (x2 < (I 58 0) → CI d Md_mayNow [.ref 57, .int x2, .int 0] I J (fun v1 I1 J1 => CI d Md_mayNow [.ref 57, .int x2, .int 1] I1 J1 (fun v2 I2 J2 => Wp d Md_slides Q 4 [some (.ref 57), some (.int (x1 + (v1 + v2))), some (.int (x2 + 1))] [] I2 J2))) ∧ (¬ (x2 < (I 58 0)) → Q (some (.int x1)) I J)) : Wp d Md_slides Q 4 [some (.ref 57), some (.int x1), some (.int x2)] [] I J := by
  refine Wp.steps 5 (pc' := 11) (lv' := [some (.ref 57), some (.int x1), some (.int x2)]) (st' := [.int (I 58 0), .int x2]) (I' := I) (J' := J) rfl ?_
  refine Wp.steps 1 (pc' := if x2 < (I 58 0) then 14 else 36) (lv' := [some (.ref 57), some (.int x1), some (.int x2)]) (st' := []) (I' := I) (J' := J) rfl (Wp.ite (fun h1 => ?_) (fun h1 => ?_))
  · replace h := h.1 h1
    refine Wp.steps 4 (pc' := 18) (lv' := [some (.ref 57), some (.int x1), some (.int x2)]) (st' := [.int 0, .int x2, .ref 57, .int x1]) (I' := I) (J' := J) rfl ?_
    refine Wp.call (M' := Md_mayNow) (as := [.ref 57, .int x2, .int 0]) (rest := [.int x1]) rfl (CI.use h (fun v1 I1 J1 h => ?_))
    refine Wp.eqs (pc' := 21) (st' := [.int v1, .int x1]) rfl rfl ?_
    refine Wp.steps 3 (pc' := 24) (lv' := [some (.ref 57), some (.int x1), some (.int x2)]) (st' := [.int 1, .int x2, .ref 57, .int v1, .int x1]) (I' := I1) (J' := J1) rfl ?_
    refine Wp.call (M' := Md_mayNow) (as := [.ref 57, .int x2, .int 1]) (rest := [.int v1, .int x1]) rfl (CI.use h (fun v2 I2 J2 h => ?_))
    refine Wp.eqs (pc' := 27) (st' := [.int v2, .int v1, .int x1]) rfl rfl ?_
    refine Wp.steps 5 (pc' := 4) (lv' := [some (.ref 57), some (.int (x1 + (v1 + v2))), some (.int (x2 + 1))]) (st' := []) (I' := I2) (J' := J2) rfl ?_
    exact h
  · replace h := h.2 h1
    refine Wp.steps 1 (pc' := 37) (lv' := [some (.ref 57), some (.int x1), some (.int x2)]) (st' := [.int x1]) (I' := I) (J' := J) rfl ?_
    exact Wp.ret rfl h
