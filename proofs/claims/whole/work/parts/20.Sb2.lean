/-! what each way through a method asks (by program): Sb_to_0, Sb_clicks_0, Sb_film_0, Sb_sheet_0, Sb_drop_0, Sb_item_0 -/
theorem v_Sb_to_0_0 {d : Nat} {Q : Post} {I : I2} {J : J2} {x1 : Int32} {x2 : Int32} {x3 : Int32} {x4 : Int32} (h : (x4 < (-1) → Q (some (.int (-1))) I J) ∧ (¬ (x4 < (-1)) → ((I 1 2) = 0 → Q (some (.int (-1))) I J) ∧ (¬ ((I 1 2) = 0) → CI d Sb_isSheet [.int x1] I J (fun v1 I1 J1 => (v1 = 0 → Q (some (.int (-1))) I1 J1) ∧ (¬ (v1 = 0) → CI d Sb_isLane [.int x2] I1 J1 (fun v2 I2 J2 => (v2 = 0 → Q (some (.int (-1))) I2 J2) ∧ (¬ (v2 = 0) → vp_in x1 4 ∧ (x1 = 0 → CI d Sh_fault [.ref 49, .int x2, .int x3, .int (I2 1 2)] I2 J2 (fun v3 I3 J3 => (v3 = 0 → CI d Bx_stateOf [.ref 1, .ref 49, .int x3] I3 J3 (fun v4 I4 J4 => (v4 < 0 → Q (some (.int (-2))) I4 J4) ∧ (¬ (v4 < 0) → CV d Wk_from [.ref 33, .int (I4 1 9), .int (I4 1 10)] I4 J4 (fun I5 J5 => CI d Wk_told [.ref 33, .int v4, .int x4] I5 J5 (fun v6 I6 J6 => Q (some (.int v6)) I6 J6))))) ∧ (¬ (v3 = 0) → Q (some (.int v3)) I3 J3))) ∧ (x1 = 1 → CI d Sh_fault [.ref 51, .int x2, .int x3, .int (I2 1 2)] I2 J2 (fun v3 I3 J3 => (v3 = 0 → CI d Bx_stateOf [.ref 1, .ref 51, .int x3] I3 J3 (fun v4 I4 J4 => (v4 < 0 → Q (some (.int (-2))) I4 J4) ∧ (¬ (v4 < 0) → CV d Wk_from [.ref 33, .int (I4 1 9), .int (I4 1 10)] I4 J4 (fun I5 J5 => CI d Wk_told [.ref 33, .int v4, .int x4] I5 J5 (fun v6 I6 J6 => Q (some (.int v6)) I6 J6))))) ∧ (¬ (v3 = 0) → Q (some (.int v3)) I3 J3))) ∧ (x1 = 2 → CI d Sh_fault [.ref 53, .int x2, .int x3, .int (I2 1 2)] I2 J2 (fun v3 I3 J3 => (v3 = 0 → CI d Bx_stateOf [.ref 1, .ref 53, .int x3] I3 J3 (fun v4 I4 J4 => (v4 < 0 → Q (some (.int (-2))) I4 J4) ∧ (¬ (v4 < 0) → CV d Wk_from [.ref 33, .int (I4 1 9), .int (I4 1 10)] I4 J4 (fun I5 J5 => CI d Wk_told [.ref 33, .int v4, .int x4] I5 J5 (fun v6 I6 J6 => Q (some (.int v6)) I6 J6))))) ∧ (¬ (v3 = 0) → Q (some (.int v3)) I3 J3))) ∧ (x1 = 3 → CI d Sh_fault [.ref 55, .int x2, .int x3, .int (I2 1 2)] I2 J2 (fun v3 I3 J3 => (v3 = 0 → CI d Bx_stateOf [.ref 1, .ref 55, .int x3] I3 J3 (fun v4 I4 J4 => (v4 < 0 → Q (some (.int (-2))) I4 J4) ∧ (¬ (v4 < 0) → CV d Wk_from [.ref 33, .int (I4 1 9), .int (I4 1 10)] I4 J4 (fun I5 J5 => CI d Wk_told [.ref 33, .int v4, .int x4] I5 J5 (fun v6 I6 J6 => Q (some (.int v6)) I6 J6))))) ∧ (¬ (v3 = 0) → Q (some (.int v3)) I3 J3)))))))))) : Wp d Sb_to Q 0 [some (.ref 0), some (.int x1), some (.int x2), some (.int x3), some (.int x4), none, none] [] I J := by
  refine Wp.steps 2 (pc' := 3) (lv' := [some (.ref 0), some (.int x1), some (.int x2), some (.int x3), some (.int x4), none, none]) (st' := [.int (-1), .int x4]) (I' := I) (J' := J) rfl ?_
  refine Wp.steps 1 (pc' := if x4 < (-1) then 30 else 6) (lv' := [some (.ref 0), some (.int x1), some (.int x2), some (.int x3), some (.int x4), none, none]) (st' := []) (I' := I) (J' := J) rfl (Wp.ite (fun h1 => ?_) (fun h1 => ?_))
  · replace h := h.1 h1
    refine Wp.steps 1 (pc' := 31) (lv' := [some (.ref 0), some (.int x1), some (.int x2), some (.int x3), some (.int x4), none, none]) (st' := [.int (-1)]) (I' := I) (J' := J) rfl ?_
    exact Wp.ret rfl h
  · replace h := h.2 h1
    refine Wp.steps 3 (pc' := 13) (lv' := [some (.ref 0), some (.int x1), some (.int x2), some (.int x3), some (.int x4), none, none]) (st' := [.int (I 1 2)]) (I' := I) (J' := J) rfl ?_
    refine Wp.steps 1 (pc' := if (I 1 2) = 0 then 30 else 16) (lv' := [some (.ref 0), some (.int x1), some (.int x2), some (.int x3), some (.int x4), none, none]) (st' := []) (I' := I) (J' := J) rfl (Wp.ite (fun h2 => ?_) (fun h2 => ?_))
    · replace h := h.1 h2
      refine Wp.steps 1 (pc' := 31) (lv' := [some (.ref 0), some (.int x1), some (.int x2), some (.int x3), some (.int x4), none, none]) (st' := [.int (-1)]) (I' := I) (J' := J) rfl ?_
      exact Wp.ret rfl h
    · replace h := h.2 h2
      refine Wp.steps 1 (pc' := 17) (lv' := [some (.ref 0), some (.int x1), some (.int x2), some (.int x3), some (.int x4), none, none]) (st' := [.int x1]) (I' := I) (J' := J) rfl ?_
      refine Wp.call (M' := Sb_isSheet) (as := [.int x1]) (rest := []) rfl (CI.use h (fun v1 I1 J1 h => ?_))
      refine Wp.eqs (pc' := 20) (st' := [.int v1]) rfl rfl ?_
      refine Wp.steps 1 (pc' := if v1 = 0 then 30 else 23) (lv' := [some (.ref 0), some (.int x1), some (.int x2), some (.int x3), some (.int x4), none, none]) (st' := []) (I' := I1) (J' := J1) rfl (Wp.ite (fun h3 => ?_) (fun h3 => ?_))
      · replace h := h.1 h3
        refine Wp.steps 1 (pc' := 31) (lv' := [some (.ref 0), some (.int x1), some (.int x2), some (.int x3), some (.int x4), none, none]) (st' := [.int (-1)]) (I' := I1) (J' := J1) rfl ?_
        exact Wp.ret rfl h
      · replace h := h.2 h3
        refine Wp.steps 1 (pc' := 24) (lv' := [some (.ref 0), some (.int x1), some (.int x2), some (.int x3), some (.int x4), none, none]) (st' := [.int x2]) (I' := I1) (J' := J1) rfl ?_
        refine Wp.call (M' := Sb_isLane) (as := [.int x2]) (rest := []) rfl (CI.use h (fun v2 I2 J2 h => ?_))
        refine Wp.eqs (pc' := 27) (st' := [.int v2]) rfl rfl ?_
        refine Wp.steps 1 (pc' := if v2 = 0 then 30 else 32) (lv' := [some (.ref 0), some (.int x1), some (.int x2), some (.int x3), some (.int x4), none, none]) (st' := []) (I' := I2) (J' := J2) rfl (Wp.ite (fun h4 => ?_) (fun h4 => ?_))
        · replace h := h.1 h4
          refine Wp.steps 1 (pc' := 31) (lv' := [some (.ref 0), some (.int x1), some (.int x2), some (.int x3), some (.int x4), none, none]) (st' := [.int (-1)]) (I' := I2) (J' := J2) rfl ?_
          exact Wp.ret rfl h
        · replace h := h.2 h4
          refine Wp.steps 3 (pc' := 37) (lv' := [some (.ref 0), some (.int x1), some (.int x2), some (.int x3), some (.int x4), none, none]) (st' := [.int x1, .ref 48]) (I' := I2) (J' := J2) rfl ?_
          rcases vp_4 h.1 with g5 | g5 | g5 | g5
          · replace h := h.2.1 g5
            refine Wp.steps 1 (pc' := 38) (lv' := [some (.ref 0), some (.int x1), some (.int x2), some (.int x3), some (.int x4), none, none]) (st' := [.ref 49]) (I' := I2) (J' := J2) (by rw [g5]; rfl) ?_
            refine Wp.steps 5 (pc' := 47) (lv' := [some (.ref 0), some (.int x1), some (.int x2), some (.int x3), some (.int x4), none, none]) (st' := [.int (I2 1 2), .int x3, .int x2, .ref 49]) (I' := I2) (J' := J2) rfl ?_
            refine Wp.call (M' := Sh_fault) (as := [.ref 49, .int x2, .int x3, .int (I2 1 2)]) (rest := []) rfl (CI.use h (fun v3 I3 J3 h => ?_))
            refine Wp.eqs (pc' := 50) (st' := [.int v3]) rfl rfl ?_
            refine Wp.steps 2 (pc' := 54) (lv' := [some (.ref 0), some (.int x1), some (.int x2), some (.int x3), some (.int x4), some (.int v3), none]) (st' := [.int v3]) (I' := I3) (J' := J3) rfl ?_
            refine Wp.steps 1 (pc' := if v3 = 0 then 60 else 57) (lv' := [some (.ref 0), some (.int x1), some (.int x2), some (.int x3), some (.int x4), some (.int v3), none]) (st' := []) (I' := I3) (J' := J3) rfl (Wp.ite (fun h6 => ?_) (fun h6 => ?_))
            · replace h := h.1 h6
              refine Wp.steps 5 (pc' := 69) (lv' := [some (.ref 0), some (.int x1), some (.int x2), some (.int x3), some (.int x4), some (.int v3), none]) (st' := [.int x1, .ref 48, .ref 1]) (I' := I3) (J' := J3) rfl ?_
              refine Wp.steps 1 (pc' := 70) (lv' := [some (.ref 0), some (.int x1), some (.int x2), some (.int x3), some (.int x4), some (.int v3), none]) (st' := [.ref 49, .ref 1]) (I' := I3) (J' := J3) (by rw [g5]; rfl) ?_
              refine Wp.steps 1 (pc' := 71) (lv' := [some (.ref 0), some (.int x1), some (.int x2), some (.int x3), some (.int x4), some (.int v3), none]) (st' := [.int x3, .ref 49, .ref 1]) (I' := I3) (J' := J3) rfl ?_
              refine Wp.call (M' := Bx_stateOf) (as := [.ref 1, .ref 49, .int x3]) (rest := []) rfl (CI.use h (fun v4 I4 J4 h => ?_))
              refine Wp.eqs (pc' := 74) (st' := [.int v4]) rfl rfl ?_
              refine Wp.steps 2 (pc' := 78) (lv' := [some (.ref 0), some (.int x1), some (.int x2), some (.int x3), some (.int x4), some (.int v3), some (.int v4)]) (st' := [.int v4]) (I' := I4) (J' := J4) rfl ?_
              refine Wp.steps 1 (pc' := if v4 < 0 then 81 else 84) (lv' := [some (.ref 0), some (.int x1), some (.int x2), some (.int x3), some (.int x4), some (.int v3), some (.int v4)]) (st' := []) (I' := I4) (J' := J4) rfl (Wp.ite (fun h7 => ?_) (fun h7 => ?_))
              · replace h := h.1 h7
                refine Wp.steps 1 (pc' := 83) (lv' := [some (.ref 0), some (.int x1), some (.int x2), some (.int x3), some (.int x4), some (.int v3), some (.int v4)]) (st' := [.int (-2)]) (I' := I4) (J' := J4) rfl ?_
                exact Wp.ret rfl h
              · replace h := h.2 h7
                refine Wp.steps 8 (pc' := 102) (lv' := [some (.ref 0), some (.int x1), some (.int x2), some (.int x3), some (.int x4), some (.int v3), some (.int v4)]) (st' := [.int (I4 1 10), .int (I4 1 9), .ref 33]) (I' := I4) (J' := J4) rfl ?_
                refine Wp.call (M' := Wk_from) (as := [.ref 33, .int (I4 1 9), .int (I4 1 10)]) (rest := []) rfl (CV.use h (fun I5 J5 h => ?_))
                refine Wp.eqs (pc' := 105) (st' := []) rfl rfl ?_
                refine Wp.steps 4 (pc' := 113) (lv' := [some (.ref 0), some (.int x1), some (.int x2), some (.int x3), some (.int x4), some (.int v3), some (.int v4)]) (st' := [.int x4, .int v4, .ref 33]) (I' := I5) (J' := J5) rfl ?_
                refine Wp.call (M' := Wk_told) (as := [.ref 33, .int v4, .int x4]) (rest := []) rfl (CI.use h (fun v6 I6 J6 h => ?_))
                refine Wp.eqs (pc' := 116) (st' := [.int v6]) rfl rfl ?_
                exact Wp.ret rfl h
            · replace h := h.2 h6
              refine Wp.steps 1 (pc' := 59) (lv' := [some (.ref 0), some (.int x1), some (.int x2), some (.int x3), some (.int x4), some (.int v3), none]) (st' := [.int v3]) (I' := I3) (J' := J3) rfl ?_
              exact Wp.ret rfl h
          · replace h := h.2.2.1 g5
            refine Wp.steps 1 (pc' := 38) (lv' := [some (.ref 0), some (.int x1), some (.int x2), some (.int x3), some (.int x4), none, none]) (st' := [.ref 51]) (I' := I2) (J' := J2) (by rw [g5]; rfl) ?_
            refine Wp.steps 5 (pc' := 47) (lv' := [some (.ref 0), some (.int x1), some (.int x2), some (.int x3), some (.int x4), none, none]) (st' := [.int (I2 1 2), .int x3, .int x2, .ref 51]) (I' := I2) (J' := J2) rfl ?_
            refine Wp.call (M' := Sh_fault) (as := [.ref 51, .int x2, .int x3, .int (I2 1 2)]) (rest := []) rfl (CI.use h (fun v3 I3 J3 h => ?_))
            refine Wp.eqs (pc' := 50) (st' := [.int v3]) rfl rfl ?_
            refine Wp.steps 2 (pc' := 54) (lv' := [some (.ref 0), some (.int x1), some (.int x2), some (.int x3), some (.int x4), some (.int v3), none]) (st' := [.int v3]) (I' := I3) (J' := J3) rfl ?_
            refine Wp.steps 1 (pc' := if v3 = 0 then 60 else 57) (lv' := [some (.ref 0), some (.int x1), some (.int x2), some (.int x3), some (.int x4), some (.int v3), none]) (st' := []) (I' := I3) (J' := J3) rfl (Wp.ite (fun h6 => ?_) (fun h6 => ?_))
            · replace h := h.1 h6
              refine Wp.steps 5 (pc' := 69) (lv' := [some (.ref 0), some (.int x1), some (.int x2), some (.int x3), some (.int x4), some (.int v3), none]) (st' := [.int x1, .ref 48, .ref 1]) (I' := I3) (J' := J3) rfl ?_
              refine Wp.steps 1 (pc' := 70) (lv' := [some (.ref 0), some (.int x1), some (.int x2), some (.int x3), some (.int x4), some (.int v3), none]) (st' := [.ref 51, .ref 1]) (I' := I3) (J' := J3) (by rw [g5]; rfl) ?_
              refine Wp.steps 1 (pc' := 71) (lv' := [some (.ref 0), some (.int x1), some (.int x2), some (.int x3), some (.int x4), some (.int v3), none]) (st' := [.int x3, .ref 51, .ref 1]) (I' := I3) (J' := J3) rfl ?_
              refine Wp.call (M' := Bx_stateOf) (as := [.ref 1, .ref 51, .int x3]) (rest := []) rfl (CI.use h (fun v4 I4 J4 h => ?_))
              refine Wp.eqs (pc' := 74) (st' := [.int v4]) rfl rfl ?_
              refine Wp.steps 2 (pc' := 78) (lv' := [some (.ref 0), some (.int x1), some (.int x2), some (.int x3), some (.int x4), some (.int v3), some (.int v4)]) (st' := [.int v4]) (I' := I4) (J' := J4) rfl ?_
              refine Wp.steps 1 (pc' := if v4 < 0 then 81 else 84) (lv' := [some (.ref 0), some (.int x1), some (.int x2), some (.int x3), some (.int x4), some (.int v3), some (.int v4)]) (st' := []) (I' := I4) (J' := J4) rfl (Wp.ite (fun h7 => ?_) (fun h7 => ?_))
              · replace h := h.1 h7
                refine Wp.steps 1 (pc' := 83) (lv' := [some (.ref 0), some (.int x1), some (.int x2), some (.int x3), some (.int x4), some (.int v3), some (.int v4)]) (st' := [.int (-2)]) (I' := I4) (J' := J4) rfl ?_
                exact Wp.ret rfl h
              · replace h := h.2 h7
                refine Wp.steps 8 (pc' := 102) (lv' := [some (.ref 0), some (.int x1), some (.int x2), some (.int x3), some (.int x4), some (.int v3), some (.int v4)]) (st' := [.int (I4 1 10), .int (I4 1 9), .ref 33]) (I' := I4) (J' := J4) rfl ?_
                refine Wp.call (M' := Wk_from) (as := [.ref 33, .int (I4 1 9), .int (I4 1 10)]) (rest := []) rfl (CV.use h (fun I5 J5 h => ?_))
                refine Wp.eqs (pc' := 105) (st' := []) rfl rfl ?_
                refine Wp.steps 4 (pc' := 113) (lv' := [some (.ref 0), some (.int x1), some (.int x2), some (.int x3), some (.int x4), some (.int v3), some (.int v4)]) (st' := [.int x4, .int v4, .ref 33]) (I' := I5) (J' := J5) rfl ?_
                refine Wp.call (M' := Wk_told) (as := [.ref 33, .int v4, .int x4]) (rest := []) rfl (CI.use h (fun v6 I6 J6 h => ?_))
                refine Wp.eqs (pc' := 116) (st' := [.int v6]) rfl rfl ?_
                exact Wp.ret rfl h
            · replace h := h.2 h6
              refine Wp.steps 1 (pc' := 59) (lv' := [some (.ref 0), some (.int x1), some (.int x2), some (.int x3), some (.int x4), some (.int v3), none]) (st' := [.int v3]) (I' := I3) (J' := J3) rfl ?_
              exact Wp.ret rfl h
          · replace h := h.2.2.2.1 g5
            refine Wp.steps 1 (pc' := 38) (lv' := [some (.ref 0), some (.int x1), some (.int x2), some (.int x3), some (.int x4), none, none]) (st' := [.ref 53]) (I' := I2) (J' := J2) (by rw [g5]; rfl) ?_
            refine Wp.steps 5 (pc' := 47) (lv' := [some (.ref 0), some (.int x1), some (.int x2), some (.int x3), some (.int x4), none, none]) (st' := [.int (I2 1 2), .int x3, .int x2, .ref 53]) (I' := I2) (J' := J2) rfl ?_
            refine Wp.call (M' := Sh_fault) (as := [.ref 53, .int x2, .int x3, .int (I2 1 2)]) (rest := []) rfl (CI.use h (fun v3 I3 J3 h => ?_))
            refine Wp.eqs (pc' := 50) (st' := [.int v3]) rfl rfl ?_
            refine Wp.steps 2 (pc' := 54) (lv' := [some (.ref 0), some (.int x1), some (.int x2), some (.int x3), some (.int x4), some (.int v3), none]) (st' := [.int v3]) (I' := I3) (J' := J3) rfl ?_
            refine Wp.steps 1 (pc' := if v3 = 0 then 60 else 57) (lv' := [some (.ref 0), some (.int x1), some (.int x2), some (.int x3), some (.int x4), some (.int v3), none]) (st' := []) (I' := I3) (J' := J3) rfl (Wp.ite (fun h6 => ?_) (fun h6 => ?_))
            · replace h := h.1 h6
              refine Wp.steps 5 (pc' := 69) (lv' := [some (.ref 0), some (.int x1), some (.int x2), some (.int x3), some (.int x4), some (.int v3), none]) (st' := [.int x1, .ref 48, .ref 1]) (I' := I3) (J' := J3) rfl ?_
              refine Wp.steps 1 (pc' := 70) (lv' := [some (.ref 0), some (.int x1), some (.int x2), some (.int x3), some (.int x4), some (.int v3), none]) (st' := [.ref 53, .ref 1]) (I' := I3) (J' := J3) (by rw [g5]; rfl) ?_
              refine Wp.steps 1 (pc' := 71) (lv' := [some (.ref 0), some (.int x1), some (.int x2), some (.int x3), some (.int x4), some (.int v3), none]) (st' := [.int x3, .ref 53, .ref 1]) (I' := I3) (J' := J3) rfl ?_
              refine Wp.call (M' := Bx_stateOf) (as := [.ref 1, .ref 53, .int x3]) (rest := []) rfl (CI.use h (fun v4 I4 J4 h => ?_))
              refine Wp.eqs (pc' := 74) (st' := [.int v4]) rfl rfl ?_
              refine Wp.steps 2 (pc' := 78) (lv' := [some (.ref 0), some (.int x1), some (.int x2), some (.int x3), some (.int x4), some (.int v3), some (.int v4)]) (st' := [.int v4]) (I' := I4) (J' := J4) rfl ?_
              refine Wp.steps 1 (pc' := if v4 < 0 then 81 else 84) (lv' := [some (.ref 0), some (.int x1), some (.int x2), some (.int x3), some (.int x4), some (.int v3), some (.int v4)]) (st' := []) (I' := I4) (J' := J4) rfl (Wp.ite (fun h7 => ?_) (fun h7 => ?_))
              · replace h := h.1 h7
                refine Wp.steps 1 (pc' := 83) (lv' := [some (.ref 0), some (.int x1), some (.int x2), some (.int x3), some (.int x4), some (.int v3), some (.int v4)]) (st' := [.int (-2)]) (I' := I4) (J' := J4) rfl ?_
                exact Wp.ret rfl h
              · replace h := h.2 h7
                refine Wp.steps 8 (pc' := 102) (lv' := [some (.ref 0), some (.int x1), some (.int x2), some (.int x3), some (.int x4), some (.int v3), some (.int v4)]) (st' := [.int (I4 1 10), .int (I4 1 9), .ref 33]) (I' := I4) (J' := J4) rfl ?_
                refine Wp.call (M' := Wk_from) (as := [.ref 33, .int (I4 1 9), .int (I4 1 10)]) (rest := []) rfl (CV.use h (fun I5 J5 h => ?_))
                refine Wp.eqs (pc' := 105) (st' := []) rfl rfl ?_
                refine Wp.steps 4 (pc' := 113) (lv' := [some (.ref 0), some (.int x1), some (.int x2), some (.int x3), some (.int x4), some (.int v3), some (.int v4)]) (st' := [.int x4, .int v4, .ref 33]) (I' := I5) (J' := J5) rfl ?_
                refine Wp.call (M' := Wk_told) (as := [.ref 33, .int v4, .int x4]) (rest := []) rfl (CI.use h (fun v6 I6 J6 h => ?_))
                refine Wp.eqs (pc' := 116) (st' := [.int v6]) rfl rfl ?_
                exact Wp.ret rfl h
            · replace h := h.2 h6
              refine Wp.steps 1 (pc' := 59) (lv' := [some (.ref 0), some (.int x1), some (.int x2), some (.int x3), some (.int x4), some (.int v3), none]) (st' := [.int v3]) (I' := I3) (J' := J3) rfl ?_
              exact Wp.ret rfl h
          · replace h := h.2.2.2.2 g5
            refine Wp.steps 1 (pc' := 38) (lv' := [some (.ref 0), some (.int x1), some (.int x2), some (.int x3), some (.int x4), none, none]) (st' := [.ref 55]) (I' := I2) (J' := J2) (by rw [g5]; rfl) ?_
            refine Wp.steps 5 (pc' := 47) (lv' := [some (.ref 0), some (.int x1), some (.int x2), some (.int x3), some (.int x4), none, none]) (st' := [.int (I2 1 2), .int x3, .int x2, .ref 55]) (I' := I2) (J' := J2) rfl ?_
            refine Wp.call (M' := Sh_fault) (as := [.ref 55, .int x2, .int x3, .int (I2 1 2)]) (rest := []) rfl (CI.use h (fun v3 I3 J3 h => ?_))
            refine Wp.eqs (pc' := 50) (st' := [.int v3]) rfl rfl ?_
            refine Wp.steps 2 (pc' := 54) (lv' := [some (.ref 0), some (.int x1), some (.int x2), some (.int x3), some (.int x4), some (.int v3), none]) (st' := [.int v3]) (I' := I3) (J' := J3) rfl ?_
            refine Wp.steps 1 (pc' := if v3 = 0 then 60 else 57) (lv' := [some (.ref 0), some (.int x1), some (.int x2), some (.int x3), some (.int x4), some (.int v3), none]) (st' := []) (I' := I3) (J' := J3) rfl (Wp.ite (fun h6 => ?_) (fun h6 => ?_))
            · replace h := h.1 h6
              refine Wp.steps 5 (pc' := 69) (lv' := [some (.ref 0), some (.int x1), some (.int x2), some (.int x3), some (.int x4), some (.int v3), none]) (st' := [.int x1, .ref 48, .ref 1]) (I' := I3) (J' := J3) rfl ?_
              refine Wp.steps 1 (pc' := 70) (lv' := [some (.ref 0), some (.int x1), some (.int x2), some (.int x3), some (.int x4), some (.int v3), none]) (st' := [.ref 55, .ref 1]) (I' := I3) (J' := J3) (by rw [g5]; rfl) ?_
              refine Wp.steps 1 (pc' := 71) (lv' := [some (.ref 0), some (.int x1), some (.int x2), some (.int x3), some (.int x4), some (.int v3), none]) (st' := [.int x3, .ref 55, .ref 1]) (I' := I3) (J' := J3) rfl ?_
              refine Wp.call (M' := Bx_stateOf) (as := [.ref 1, .ref 55, .int x3]) (rest := []) rfl (CI.use h (fun v4 I4 J4 h => ?_))
              refine Wp.eqs (pc' := 74) (st' := [.int v4]) rfl rfl ?_
              refine Wp.steps 2 (pc' := 78) (lv' := [some (.ref 0), some (.int x1), some (.int x2), some (.int x3), some (.int x4), some (.int v3), some (.int v4)]) (st' := [.int v4]) (I' := I4) (J' := J4) rfl ?_
              refine Wp.steps 1 (pc' := if v4 < 0 then 81 else 84) (lv' := [some (.ref 0), some (.int x1), some (.int x2), some (.int x3), some (.int x4), some (.int v3), some (.int v4)]) (st' := []) (I' := I4) (J' := J4) rfl (Wp.ite (fun h7 => ?_) (fun h7 => ?_))
              · replace h := h.1 h7
                refine Wp.steps 1 (pc' := 83) (lv' := [some (.ref 0), some (.int x1), some (.int x2), some (.int x3), some (.int x4), some (.int v3), some (.int v4)]) (st' := [.int (-2)]) (I' := I4) (J' := J4) rfl ?_
                exact Wp.ret rfl h
              · replace h := h.2 h7
                refine Wp.steps 8 (pc' := 102) (lv' := [some (.ref 0), some (.int x1), some (.int x2), some (.int x3), some (.int x4), some (.int v3), some (.int v4)]) (st' := [.int (I4 1 10), .int (I4 1 9), .ref 33]) (I' := I4) (J' := J4) rfl ?_
                refine Wp.call (M' := Wk_from) (as := [.ref 33, .int (I4 1 9), .int (I4 1 10)]) (rest := []) rfl (CV.use h (fun I5 J5 h => ?_))
                refine Wp.eqs (pc' := 105) (st' := []) rfl rfl ?_
                refine Wp.steps 4 (pc' := 113) (lv' := [some (.ref 0), some (.int x1), some (.int x2), some (.int x3), some (.int x4), some (.int v3), some (.int v4)]) (st' := [.int x4, .int v4, .ref 33]) (I' := I5) (J' := J5) rfl ?_
                refine Wp.call (M' := Wk_told) (as := [.ref 33, .int v4, .int x4]) (rest := []) rfl (CI.use h (fun v6 I6 J6 h => ?_))
                refine Wp.eqs (pc' := 116) (st' := [.int v6]) rfl rfl ?_
                exact Wp.ret rfl h
            · replace h := h.2 h6
              refine Wp.steps 1 (pc' := 59) (lv' := [some (.ref 0), some (.int x1), some (.int x2), some (.int x3), some (.int x4), some (.int v3), none]) (st' := [.int v3]) (I' := I3) (J' := J3) rfl ?_
              exact Wp.ret rfl h
theorem v_Sb_clicks_0_0 {d : Nat} {Q : Post} {I : I2} {J : J2} {x1 : Int32} {x2 : Int32} {x3 : Int32} {x4 : Int32} {x5 : Int32} (h : (x1 = (-4) → CI d Sb_isSheet [.int x2] I J (fun v1 I1 J1 => (v1 = 0 → Q (some (.int (-1))) I1 J1) ∧ (¬ (v1 = 0) → CI d Sb_isLane [.int x3] I1 J1 (fun v2 I2 J2 => (v2 = 0 → Q (some (.int (-1))) I2 J2) ∧ (¬ (v2 = 0) → (x5 < 1 → Q (some (.int (-1))) I2 J2) ∧ (¬ (x5 < 1) → (8 < x5 → Q (some (.int (-1))) I2 J2) ∧ (¬ (8 < x5) → vp_in x2 4 ∧ (x2 = 0 → CI d Sh_fault [.ref 49, .int x3, .int x4, .int (2 * x5)] I2 J2 (fun v3 I3 J3 => (v3 = 0 → CI d Sb_areClicks [.ref 0, .ref 49, .int x4, .int x5] I3 J3 (fun v4 I4 J4 => (v4 = 0 → Q (some (.int (-2))) I4 J4) ∧ (¬ (v4 = 0) → CI d Sb_locksByClicks [.ref 0, .ref 49, .int x4, .int x5] I4 J4 (fun v5 I5 J5 => Q (some (.int v5)) I5 J5)))) ∧ (¬ (v3 = 0) → Q (some (.int v3)) I3 J3))) ∧ (x2 = 1 → CI d Sh_fault [.ref 51, .int x3, .int x4, .int (2 * x5)] I2 J2 (fun v3 I3 J3 => (v3 = 0 → CI d Sb_areClicks [.ref 0, .ref 51, .int x4, .int x5] I3 J3 (fun v4 I4 J4 => (v4 = 0 → Q (some (.int (-2))) I4 J4) ∧ (¬ (v4 = 0) → CI d Sb_locksByClicks [.ref 0, .ref 51, .int x4, .int x5] I4 J4 (fun v5 I5 J5 => Q (some (.int v5)) I5 J5)))) ∧ (¬ (v3 = 0) → Q (some (.int v3)) I3 J3))) ∧ (x2 = 2 → CI d Sh_fault [.ref 53, .int x3, .int x4, .int (2 * x5)] I2 J2 (fun v3 I3 J3 => (v3 = 0 → CI d Sb_areClicks [.ref 0, .ref 53, .int x4, .int x5] I3 J3 (fun v4 I4 J4 => (v4 = 0 → Q (some (.int (-2))) I4 J4) ∧ (¬ (v4 = 0) → CI d Sb_locksByClicks [.ref 0, .ref 53, .int x4, .int x5] I4 J4 (fun v5 I5 J5 => Q (some (.int v5)) I5 J5)))) ∧ (¬ (v3 = 0) → Q (some (.int v3)) I3 J3))) ∧ (x2 = 3 → CI d Sh_fault [.ref 55, .int x3, .int x4, .int (2 * x5)] I2 J2 (fun v3 I3 J3 => (v3 = 0 → CI d Sb_areClicks [.ref 0, .ref 55, .int x4, .int x5] I3 J3 (fun v4 I4 J4 => (v4 = 0 → Q (some (.int (-2))) I4 J4) ∧ (¬ (v4 = 0) → CI d Sb_locksByClicks [.ref 0, .ref 55, .int x4, .int x5] I4 J4 (fun v5 I5 J5 => Q (some (.int v5)) I5 J5)))) ∧ (¬ (v3 = 0) → Q (some (.int v3)) I3 J3)))))))))) ∧ (¬ (x1 = (-4)) → CI d Bx_hasPanel [.ref 1, .int x1] I J (fun v1 I1 J1 => (v1 = 0 → Q (some (.int (-1))) I1 J1) ∧ (¬ (v1 = 0) → CI d Sb_isSheet [.int x2] I1 J1 (fun v2 I2 J2 => (v2 = 0 → Q (some (.int (-1))) I2 J2) ∧ (¬ (v2 = 0) → CI d Sb_isLane [.int x3] I2 J2 (fun v3 I3 J3 => (v3 = 0 → Q (some (.int (-1))) I3 J3) ∧ (¬ (v3 = 0) → (x5 < 1 → Q (some (.int (-1))) I3 J3) ∧ (¬ (x5 < 1) → (8 < x5 → Q (some (.int (-1))) I3 J3) ∧ (¬ (8 < x5) → vp_in x2 4 ∧ (x2 = 0 → CI d Sh_fault [.ref 49, .int x3, .int x4, .int (2 * x5)] I3 J3 (fun v4 I4 J4 => (v4 = 0 → CI d Sb_areClicks [.ref 0, .ref 49, .int x4, .int x5] I4 J4 (fun v5 I5 J5 => (v5 = 0 → Q (some (.int (-2))) I5 J5) ∧ (¬ (v5 = 0) → CI d Sb_kindsByClicks [.ref 0, .int x1, .ref 49, .int x4, .int x5] I5 J5 (fun v6 I6 J6 => Q (some (.int v6)) I6 J6)))) ∧ (¬ (v4 = 0) → Q (some (.int v4)) I4 J4))) ∧ (x2 = 1 → CI d Sh_fault [.ref 51, .int x3, .int x4, .int (2 * x5)] I3 J3 (fun v4 I4 J4 => (v4 = 0 → CI d Sb_areClicks [.ref 0, .ref 51, .int x4, .int x5] I4 J4 (fun v5 I5 J5 => (v5 = 0 → Q (some (.int (-2))) I5 J5) ∧ (¬ (v5 = 0) → CI d Sb_kindsByClicks [.ref 0, .int x1, .ref 51, .int x4, .int x5] I5 J5 (fun v6 I6 J6 => Q (some (.int v6)) I6 J6)))) ∧ (¬ (v4 = 0) → Q (some (.int v4)) I4 J4))) ∧ (x2 = 2 → CI d Sh_fault [.ref 53, .int x3, .int x4, .int (2 * x5)] I3 J3 (fun v4 I4 J4 => (v4 = 0 → CI d Sb_areClicks [.ref 0, .ref 53, .int x4, .int x5] I4 J4 (fun v5 I5 J5 => (v5 = 0 → Q (some (.int (-2))) I5 J5) ∧ (¬ (v5 = 0) → CI d Sb_kindsByClicks [.ref 0, .int x1, .ref 53, .int x4, .int x5] I5 J5 (fun v6 I6 J6 => Q (some (.int v6)) I6 J6)))) ∧ (¬ (v4 = 0) → Q (some (.int v4)) I4 J4))) ∧ (x2 = 3 → CI d Sh_fault [.ref 55, .int x3, .int x4, .int (2 * x5)] I3 J3 (fun v4 I4 J4 => (v4 = 0 → CI d Sb_areClicks [.ref 0, .ref 55, .int x4, .int x5] I4 J4 (fun v5 I5 J5 => (v5 = 0 → Q (some (.int (-2))) I5 J5) ∧ (¬ (v5 = 0) → CI d Sb_kindsByClicks [.ref 0, .int x1, .ref 55, .int x4, .int x5] I5 J5 (fun v6 I6 J6 => Q (some (.int v6)) I6 J6)))) ∧ (¬ (v4 = 0) → Q (some (.int v4)) I4 J4))))))))))))) : Wp d Sb_clicks Q 0 [some (.ref 0), some (.int x1), some (.int x2), some (.int x3), some (.int x4), some (.int x5), none] [] I J := by
  refine Wp.steps 2 (pc' := 3) (lv' := [some (.ref 0), some (.int x1), some (.int x2), some (.int x3), some (.int x4), some (.int x5), none]) (st' := [.int (-4), .int x1]) (I' := I) (J' := J) rfl ?_
  refine Wp.steps 1 (pc' := if x1 = (-4) then 17 else 6) (lv' := [some (.ref 0), some (.int x1), some (.int x2), some (.int x3), some (.int x4), some (.int x5), none]) (st' := []) (I' := I) (J' := J) rfl (Wp.ite (fun h1 => ?_) (fun h1 => ?_))
  · replace h := h.1 h1
    refine Wp.steps 1 (pc' := 18) (lv' := [some (.ref 0), some (.int x1), some (.int x2), some (.int x3), some (.int x4), some (.int x5), none]) (st' := [.int x2]) (I' := I) (J' := J) rfl ?_
    refine Wp.call (M' := Sb_isSheet) (as := [.int x2]) (rest := []) rfl (CI.use h (fun v1 I1 J1 h => ?_))
    refine Wp.eqs (pc' := 21) (st' := [.int v1]) rfl rfl ?_
    refine Wp.steps 1 (pc' := if v1 = 0 then 31 else 24) (lv' := [some (.ref 0), some (.int x1), some (.int x2), some (.int x3), some (.int x4), some (.int x5), none]) (st' := []) (I' := I1) (J' := J1) rfl (Wp.ite (fun h2 => ?_) (fun h2 => ?_))
    · replace h := h.1 h2
      refine Wp.steps 1 (pc' := 32) (lv' := [some (.ref 0), some (.int x1), some (.int x2), some (.int x3), some (.int x4), some (.int x5), none]) (st' := [.int (-1)]) (I' := I1) (J' := J1) rfl ?_
      exact Wp.ret rfl h
    · replace h := h.2 h2
      refine Wp.steps 1 (pc' := 25) (lv' := [some (.ref 0), some (.int x1), some (.int x2), some (.int x3), some (.int x4), some (.int x5), none]) (st' := [.int x3]) (I' := I1) (J' := J1) rfl ?_
      refine Wp.call (M' := Sb_isLane) (as := [.int x3]) (rest := []) rfl (CI.use h (fun v2 I2 J2 h => ?_))
      refine Wp.eqs (pc' := 28) (st' := [.int v2]) rfl rfl ?_
      refine Wp.steps 1 (pc' := if v2 = 0 then 31 else 33) (lv' := [some (.ref 0), some (.int x1), some (.int x2), some (.int x3), some (.int x4), some (.int x5), none]) (st' := []) (I' := I2) (J' := J2) rfl (Wp.ite (fun h3 => ?_) (fun h3 => ?_))
      · replace h := h.1 h3
        refine Wp.steps 1 (pc' := 32) (lv' := [some (.ref 0), some (.int x1), some (.int x2), some (.int x3), some (.int x4), some (.int x5), none]) (st' := [.int (-1)]) (I' := I2) (J' := J2) rfl ?_
        exact Wp.ret rfl h
      · replace h := h.2 h3
        refine Wp.steps 2 (pc' := 36) (lv' := [some (.ref 0), some (.int x1), some (.int x2), some (.int x3), some (.int x4), some (.int x5), none]) (st' := [.int 1, .int x5]) (I' := I2) (J' := J2) rfl ?_
        refine Wp.steps 1 (pc' := if x5 < 1 then 46 else 39) (lv' := [some (.ref 0), some (.int x1), some (.int x2), some (.int x3), some (.int x4), some (.int x5), none]) (st' := []) (I' := I2) (J' := J2) rfl (Wp.ite (fun h4 => ?_) (fun h4 => ?_))
        · replace h := h.1 h4
          refine Wp.steps 1 (pc' := 47) (lv' := [some (.ref 0), some (.int x1), some (.int x2), some (.int x3), some (.int x4), some (.int x5), none]) (st' := [.int (-1)]) (I' := I2) (J' := J2) rfl ?_
          exact Wp.ret rfl h
        · replace h := h.2 h4
          refine Wp.steps 2 (pc' := 43) (lv' := [some (.ref 0), some (.int x1), some (.int x2), some (.int x3), some (.int x4), some (.int x5), none]) (st' := [.int 8, .int x5]) (I' := I2) (J' := J2) rfl ?_
          refine Wp.steps 1 (pc' := if 8 < x5 then 46 else 48) (lv' := [some (.ref 0), some (.int x1), some (.int x2), some (.int x3), some (.int x4), some (.int x5), none]) (st' := []) (I' := I2) (J' := J2) rfl (Wp.ite (fun h5 => ?_) (fun h5 => ?_))
          · replace h := h.1 h5
            refine Wp.steps 1 (pc' := 47) (lv' := [some (.ref 0), some (.int x1), some (.int x2), some (.int x3), some (.int x4), some (.int x5), none]) (st' := [.int (-1)]) (I' := I2) (J' := J2) rfl ?_
            exact Wp.ret rfl h
          · replace h := h.2 h5
            refine Wp.steps 3 (pc' := 53) (lv' := [some (.ref 0), some (.int x1), some (.int x2), some (.int x3), some (.int x4), some (.int x5), none]) (st' := [.int x2, .ref 48]) (I' := I2) (J' := J2) rfl ?_
            rcases vp_4 h.1 with g6 | g6 | g6 | g6
            · replace h := h.2.1 g6
              refine Wp.steps 1 (pc' := 54) (lv' := [some (.ref 0), some (.int x1), some (.int x2), some (.int x3), some (.int x4), some (.int x5), none]) (st' := [.ref 49]) (I' := I2) (J' := J2) (by rw [g6]; rfl) ?_
              refine Wp.steps 5 (pc' := 61) (lv' := [some (.ref 0), some (.int x1), some (.int x2), some (.int x3), some (.int x4), some (.int x5), none]) (st' := [.int (2 * x5), .int x4, .int x3, .ref 49]) (I' := I2) (J' := J2) rfl ?_
              refine Wp.call (M' := Sh_fault) (as := [.ref 49, .int x3, .int x4, .int (2 * x5)]) (rest := []) rfl (CI.use h (fun v3 I3 J3 h => ?_))
              refine Wp.eqs (pc' := 64) (st' := [.int v3]) rfl rfl ?_
              refine Wp.steps 2 (pc' := 68) (lv' := [some (.ref 0), some (.int x1), some (.int x2), some (.int x3), some (.int x4), some (.int x5), some (.int v3)]) (st' := [.int v3]) (I' := I3) (J' := J3) rfl ?_
              refine Wp.steps 1 (pc' := if v3 = 0 then 74 else 71) (lv' := [some (.ref 0), some (.int x1), some (.int x2), some (.int x3), some (.int x4), some (.int x5), some (.int v3)]) (st' := []) (I' := I3) (J' := J3) rfl (Wp.ite (fun h7 => ?_) (fun h7 => ?_))
              · replace h := h.1 h7
                refine Wp.steps 4 (pc' := 80) (lv' := [some (.ref 0), some (.int x1), some (.int x2), some (.int x3), some (.int x4), some (.int x5), some (.int v3)]) (st' := [.int x2, .ref 48, .ref 0]) (I' := I3) (J' := J3) rfl ?_
                refine Wp.steps 1 (pc' := 81) (lv' := [some (.ref 0), some (.int x1), some (.int x2), some (.int x3), some (.int x4), some (.int x5), some (.int v3)]) (st' := [.ref 49, .ref 0]) (I' := I3) (J' := J3) (by rw [g6]; rfl) ?_
                refine Wp.steps 2 (pc' := 85) (lv' := [some (.ref 0), some (.int x1), some (.int x2), some (.int x3), some (.int x4), some (.int x5), some (.int v3)]) (st' := [.int x5, .int x4, .ref 49, .ref 0]) (I' := I3) (J' := J3) rfl ?_
                refine Wp.call (M' := Sb_areClicks) (as := [.ref 0, .ref 49, .int x4, .int x5]) (rest := []) rfl (CI.use h (fun v4 I4 J4 h => ?_))
                refine Wp.eqs (pc' := 88) (st' := [.int v4]) rfl rfl ?_
                refine Wp.steps 1 (pc' := if v4 = 0 then 91 else 94) (lv' := [some (.ref 0), some (.int x1), some (.int x2), some (.int x3), some (.int x4), some (.int x5), some (.int v3)]) (st' := []) (I' := I4) (J' := J4) rfl (Wp.ite (fun h8 => ?_) (fun h8 => ?_))
                · replace h := h.1 h8
                  refine Wp.steps 1 (pc' := 93) (lv' := [some (.ref 0), some (.int x1), some (.int x2), some (.int x3), some (.int x4), some (.int x5), some (.int v3)]) (st' := [.int (-2)]) (I' := I4) (J' := J4) rfl ?_
                  exact Wp.ret rfl h
                · replace h := h.2 h8
                  refine Wp.steps 2 (pc' := 97) (lv' := [some (.ref 0), some (.int x1), some (.int x2), some (.int x3), some (.int x4), some (.int x5), some (.int v3)]) (st' := [.int (-4), .int x1]) (I' := I4) (J' := J4) rfl ?_
                  refine Wp.steps 1 (pc' := if x1 = (-4) then 100 else 117) (lv' := [some (.ref 0), some (.int x1), some (.int x2), some (.int x3), some (.int x4), some (.int x5), some (.int v3)]) (st' := []) (I' := I4) (J' := J4) rfl ?_
                  rw [if_pos h1]
                  refine Wp.steps 4 (pc' := 106) (lv' := [some (.ref 0), some (.int x1), some (.int x2), some (.int x3), some (.int x4), some (.int x5), some (.int v3)]) (st' := [.int x2, .ref 48, .ref 0]) (I' := I4) (J' := J4) rfl ?_
                  refine Wp.steps 1 (pc' := 107) (lv' := [some (.ref 0), some (.int x1), some (.int x2), some (.int x3), some (.int x4), some (.int x5), some (.int v3)]) (st' := [.ref 49, .ref 0]) (I' := I4) (J' := J4) (by rw [g6]; rfl) ?_
                  refine Wp.steps 2 (pc' := 111) (lv' := [some (.ref 0), some (.int x1), some (.int x2), some (.int x3), some (.int x4), some (.int x5), some (.int v3)]) (st' := [.int x5, .int x4, .ref 49, .ref 0]) (I' := I4) (J' := J4) rfl ?_
                  refine Wp.call (M' := Sb_locksByClicks) (as := [.ref 0, .ref 49, .int x4, .int x5]) (rest := []) rfl (CI.use h (fun v5 I5 J5 h => ?_))
                  refine Wp.eqs (pc' := 114) (st' := [.int v5]) rfl rfl ?_
                  refine Wp.steps 1 (pc' := 132) (lv' := [some (.ref 0), some (.int x1), some (.int x2), some (.int x3), some (.int x4), some (.int x5), some (.int v3)]) (st' := [.int v5]) (I' := I5) (J' := J5) rfl ?_
                  exact Wp.ret rfl h
              · replace h := h.2 h7
                refine Wp.steps 1 (pc' := 73) (lv' := [some (.ref 0), some (.int x1), some (.int x2), some (.int x3), some (.int x4), some (.int x5), some (.int v3)]) (st' := [.int v3]) (I' := I3) (J' := J3) rfl ?_
                exact Wp.ret rfl h
            · replace h := h.2.2.1 g6
              refine Wp.steps 1 (pc' := 54) (lv' := [some (.ref 0), some (.int x1), some (.int x2), some (.int x3), some (.int x4), some (.int x5), none]) (st' := [.ref 51]) (I' := I2) (J' := J2) (by rw [g6]; rfl) ?_
              refine Wp.steps 5 (pc' := 61) (lv' := [some (.ref 0), some (.int x1), some (.int x2), some (.int x3), some (.int x4), some (.int x5), none]) (st' := [.int (2 * x5), .int x4, .int x3, .ref 51]) (I' := I2) (J' := J2) rfl ?_
              refine Wp.call (M' := Sh_fault) (as := [.ref 51, .int x3, .int x4, .int (2 * x5)]) (rest := []) rfl (CI.use h (fun v3 I3 J3 h => ?_))
              refine Wp.eqs (pc' := 64) (st' := [.int v3]) rfl rfl ?_
              refine Wp.steps 2 (pc' := 68) (lv' := [some (.ref 0), some (.int x1), some (.int x2), some (.int x3), some (.int x4), some (.int x5), some (.int v3)]) (st' := [.int v3]) (I' := I3) (J' := J3) rfl ?_
              refine Wp.steps 1 (pc' := if v3 = 0 then 74 else 71) (lv' := [some (.ref 0), some (.int x1), some (.int x2), some (.int x3), some (.int x4), some (.int x5), some (.int v3)]) (st' := []) (I' := I3) (J' := J3) rfl (Wp.ite (fun h7 => ?_) (fun h7 => ?_))
              · replace h := h.1 h7
                refine Wp.steps 4 (pc' := 80) (lv' := [some (.ref 0), some (.int x1), some (.int x2), some (.int x3), some (.int x4), some (.int x5), some (.int v3)]) (st' := [.int x2, .ref 48, .ref 0]) (I' := I3) (J' := J3) rfl ?_
                refine Wp.steps 1 (pc' := 81) (lv' := [some (.ref 0), some (.int x1), some (.int x2), some (.int x3), some (.int x4), some (.int x5), some (.int v3)]) (st' := [.ref 51, .ref 0]) (I' := I3) (J' := J3) (by rw [g6]; rfl) ?_
                refine Wp.steps 2 (pc' := 85) (lv' := [some (.ref 0), some (.int x1), some (.int x2), some (.int x3), some (.int x4), some (.int x5), some (.int v3)]) (st' := [.int x5, .int x4, .ref 51, .ref 0]) (I' := I3) (J' := J3) rfl ?_
                refine Wp.call (M' := Sb_areClicks) (as := [.ref 0, .ref 51, .int x4, .int x5]) (rest := []) rfl (CI.use h (fun v4 I4 J4 h => ?_))
                refine Wp.eqs (pc' := 88) (st' := [.int v4]) rfl rfl ?_
                refine Wp.steps 1 (pc' := if v4 = 0 then 91 else 94) (lv' := [some (.ref 0), some (.int x1), some (.int x2), some (.int x3), some (.int x4), some (.int x5), some (.int v3)]) (st' := []) (I' := I4) (J' := J4) rfl (Wp.ite (fun h8 => ?_) (fun h8 => ?_))
                · replace h := h.1 h8
                  refine Wp.steps 1 (pc' := 93) (lv' := [some (.ref 0), some (.int x1), some (.int x2), some (.int x3), some (.int x4), some (.int x5), some (.int v3)]) (st' := [.int (-2)]) (I' := I4) (J' := J4) rfl ?_
                  exact Wp.ret rfl h
                · replace h := h.2 h8
                  refine Wp.steps 2 (pc' := 97) (lv' := [some (.ref 0), some (.int x1), some (.int x2), some (.int x3), some (.int x4), some (.int x5), some (.int v3)]) (st' := [.int (-4), .int x1]) (I' := I4) (J' := J4) rfl ?_
                  refine Wp.steps 1 (pc' := if x1 = (-4) then 100 else 117) (lv' := [some (.ref 0), some (.int x1), some (.int x2), some (.int x3), some (.int x4), some (.int x5), some (.int v3)]) (st' := []) (I' := I4) (J' := J4) rfl ?_
                  rw [if_pos h1]
                  refine Wp.steps 4 (pc' := 106) (lv' := [some (.ref 0), some (.int x1), some (.int x2), some (.int x3), some (.int x4), some (.int x5), some (.int v3)]) (st' := [.int x2, .ref 48, .ref 0]) (I' := I4) (J' := J4) rfl ?_
                  refine Wp.steps 1 (pc' := 107) (lv' := [some (.ref 0), some (.int x1), some (.int x2), some (.int x3), some (.int x4), some (.int x5), some (.int v3)]) (st' := [.ref 51, .ref 0]) (I' := I4) (J' := J4) (by rw [g6]; rfl) ?_
                  refine Wp.steps 2 (pc' := 111) (lv' := [some (.ref 0), some (.int x1), some (.int x2), some (.int x3), some (.int x4), some (.int x5), some (.int v3)]) (st' := [.int x5, .int x4, .ref 51, .ref 0]) (I' := I4) (J' := J4) rfl ?_
                  refine Wp.call (M' := Sb_locksByClicks) (as := [.ref 0, .ref 51, .int x4, .int x5]) (rest := []) rfl (CI.use h (fun v5 I5 J5 h => ?_))
                  refine Wp.eqs (pc' := 114) (st' := [.int v5]) rfl rfl ?_
                  refine Wp.steps 1 (pc' := 132) (lv' := [some (.ref 0), some (.int x1), some (.int x2), some (.int x3), some (.int x4), some (.int x5), some (.int v3)]) (st' := [.int v5]) (I' := I5) (J' := J5) rfl ?_
                  exact Wp.ret rfl h
              · replace h := h.2 h7
                refine Wp.steps 1 (pc' := 73) (lv' := [some (.ref 0), some (.int x1), some (.int x2), some (.int x3), some (.int x4), some (.int x5), some (.int v3)]) (st' := [.int v3]) (I' := I3) (J' := J3) rfl ?_
                exact Wp.ret rfl h
            · replace h := h.2.2.2.1 g6
              refine Wp.steps 1 (pc' := 54) (lv' := [some (.ref 0), some (.int x1), some (.int x2), some (.int x3), some (.int x4), some (.int x5), none]) (st' := [.ref 53]) (I' := I2) (J' := J2) (by rw [g6]; rfl) ?_
              refine Wp.steps 5 (pc' := 61) (lv' := [some (.ref 0), some (.int x1), some (.int x2), some (.int x3), some (.int x4), some (.int x5), none]) (st' := [.int (2 * x5), .int x4, .int x3, .ref 53]) (I' := I2) (J' := J2) rfl ?_
              refine Wp.call (M' := Sh_fault) (as := [.ref 53, .int x3, .int x4, .int (2 * x5)]) (rest := []) rfl (CI.use h (fun v3 I3 J3 h => ?_))
              refine Wp.eqs (pc' := 64) (st' := [.int v3]) rfl rfl ?_
              refine Wp.steps 2 (pc' := 68) (lv' := [some (.ref 0), some (.int x1), some (.int x2), some (.int x3), some (.int x4), some (.int x5), some (.int v3)]) (st' := [.int v3]) (I' := I3) (J' := J3) rfl ?_
              refine Wp.steps 1 (pc' := if v3 = 0 then 74 else 71) (lv' := [some (.ref 0), some (.int x1), some (.int x2), some (.int x3), some (.int x4), some (.int x5), some (.int v3)]) (st' := []) (I' := I3) (J' := J3) rfl (Wp.ite (fun h7 => ?_) (fun h7 => ?_))
              · replace h := h.1 h7
                refine Wp.steps 4 (pc' := 80) (lv' := [some (.ref 0), some (.int x1), some (.int x2), some (.int x3), some (.int x4), some (.int x5), some (.int v3)]) (st' := [.int x2, .ref 48, .ref 0]) (I' := I3) (J' := J3) rfl ?_
                refine Wp.steps 1 (pc' := 81) (lv' := [some (.ref 0), some (.int x1), some (.int x2), some (.int x3), some (.int x4), some (.int x5), some (.int v3)]) (st' := [.ref 53, .ref 0]) (I' := I3) (J' := J3) (by rw [g6]; rfl) ?_
                refine Wp.steps 2 (pc' := 85) (lv' := [some (.ref 0), some (.int x1), some (.int x2), some (.int x3), some (.int x4), some (.int x5), some (.int v3)]) (st' := [.int x5, .int x4, .ref 53, .ref 0]) (I' := I3) (J' := J3) rfl ?_
                refine Wp.call (M' := Sb_areClicks) (as := [.ref 0, .ref 53, .int x4, .int x5]) (rest := []) rfl (CI.use h (fun v4 I4 J4 h => ?_))
                refine Wp.eqs (pc' := 88) (st' := [.int v4]) rfl rfl ?_
                refine Wp.steps 1 (pc' := if v4 = 0 then 91 else 94) (lv' := [some (.ref 0), some (.int x1), some (.int x2), some (.int x3), some (.int x4), some (.int x5), some (.int v3)]) (st' := []) (I' := I4) (J' := J4) rfl (Wp.ite (fun h8 => ?_) (fun h8 => ?_))
                · replace h := h.1 h8
                  refine Wp.steps 1 (pc' := 93) (lv' := [some (.ref 0), some (.int x1), some (.int x2), some (.int x3), some (.int x4), some (.int x5), some (.int v3)]) (st' := [.int (-2)]) (I' := I4) (J' := J4) rfl ?_
                  exact Wp.ret rfl h
                · replace h := h.2 h8
                  refine Wp.steps 2 (pc' := 97) (lv' := [some (.ref 0), some (.int x1), some (.int x2), some (.int x3), some (.int x4), some (.int x5), some (.int v3)]) (st' := [.int (-4), .int x1]) (I' := I4) (J' := J4) rfl ?_
                  refine Wp.steps 1 (pc' := if x1 = (-4) then 100 else 117) (lv' := [some (.ref 0), some (.int x1), some (.int x2), some (.int x3), some (.int x4), some (.int x5), some (.int v3)]) (st' := []) (I' := I4) (J' := J4) rfl ?_
                  rw [if_pos h1]
                  refine Wp.steps 4 (pc' := 106) (lv' := [some (.ref 0), some (.int x1), some (.int x2), some (.int x3), some (.int x4), some (.int x5), some (.int v3)]) (st' := [.int x2, .ref 48, .ref 0]) (I' := I4) (J' := J4) rfl ?_
                  refine Wp.steps 1 (pc' := 107) (lv' := [some (.ref 0), some (.int x1), some (.int x2), some (.int x3), some (.int x4), some (.int x5), some (.int v3)]) (st' := [.ref 53, .ref 0]) (I' := I4) (J' := J4) (by rw [g6]; rfl) ?_
                  refine Wp.steps 2 (pc' := 111) (lv' := [some (.ref 0), some (.int x1), some (.int x2), some (.int x3), some (.int x4), some (.int x5), some (.int v3)]) (st' := [.int x5, .int x4, .ref 53, .ref 0]) (I' := I4) (J' := J4) rfl ?_
                  refine Wp.call (M' := Sb_locksByClicks) (as := [.ref 0, .ref 53, .int x4, .int x5]) (rest := []) rfl (CI.use h (fun v5 I5 J5 h => ?_))
                  refine Wp.eqs (pc' := 114) (st' := [.int v5]) rfl rfl ?_
                  refine Wp.steps 1 (pc' := 132) (lv' := [some (.ref 0), some (.int x1), some (.int x2), some (.int x3), some (.int x4), some (.int x5), some (.int v3)]) (st' := [.int v5]) (I' := I5) (J' := J5) rfl ?_
                  exact Wp.ret rfl h
              · replace h := h.2 h7
                refine Wp.steps 1 (pc' := 73) (lv' := [some (.ref 0), some (.int x1), some (.int x2), some (.int x3), some (.int x4), some (.int x5), some (.int v3)]) (st' := [.int v3]) (I' := I3) (J' := J3) rfl ?_
                exact Wp.ret rfl h
            · replace h := h.2.2.2.2 g6
              refine Wp.steps 1 (pc' := 54) (lv' := [some (.ref 0), some (.int x1), some (.int x2), some (.int x3), some (.int x4), some (.int x5), none]) (st' := [.ref 55]) (I' := I2) (J' := J2) (by rw [g6]; rfl) ?_
              refine Wp.steps 5 (pc' := 61) (lv' := [some (.ref 0), some (.int x1), some (.int x2), some (.int x3), some (.int x4), some (.int x5), none]) (st' := [.int (2 * x5), .int x4, .int x3, .ref 55]) (I' := I2) (J' := J2) rfl ?_
              refine Wp.call (M' := Sh_fault) (as := [.ref 55, .int x3, .int x4, .int (2 * x5)]) (rest := []) rfl (CI.use h (fun v3 I3 J3 h => ?_))
              refine Wp.eqs (pc' := 64) (st' := [.int v3]) rfl rfl ?_
              refine Wp.steps 2 (pc' := 68) (lv' := [some (.ref 0), some (.int x1), some (.int x2), some (.int x3), some (.int x4), some (.int x5), some (.int v3)]) (st' := [.int v3]) (I' := I3) (J' := J3) rfl ?_
              refine Wp.steps 1 (pc' := if v3 = 0 then 74 else 71) (lv' := [some (.ref 0), some (.int x1), some (.int x2), some (.int x3), some (.int x4), some (.int x5), some (.int v3)]) (st' := []) (I' := I3) (J' := J3) rfl (Wp.ite (fun h7 => ?_) (fun h7 => ?_))
              · replace h := h.1 h7
                refine Wp.steps 4 (pc' := 80) (lv' := [some (.ref 0), some (.int x1), some (.int x2), some (.int x3), some (.int x4), some (.int x5), some (.int v3)]) (st' := [.int x2, .ref 48, .ref 0]) (I' := I3) (J' := J3) rfl ?_
                refine Wp.steps 1 (pc' := 81) (lv' := [some (.ref 0), some (.int x1), some (.int x2), some (.int x3), some (.int x4), some (.int x5), some (.int v3)]) (st' := [.ref 55, .ref 0]) (I' := I3) (J' := J3) (by rw [g6]; rfl) ?_
                refine Wp.steps 2 (pc' := 85) (lv' := [some (.ref 0), some (.int x1), some (.int x2), some (.int x3), some (.int x4), some (.int x5), some (.int v3)]) (st' := [.int x5, .int x4, .ref 55, .ref 0]) (I' := I3) (J' := J3) rfl ?_
                refine Wp.call (M' := Sb_areClicks) (as := [.ref 0, .ref 55, .int x4, .int x5]) (rest := []) rfl (CI.use h (fun v4 I4 J4 h => ?_))
                refine Wp.eqs (pc' := 88) (st' := [.int v4]) rfl rfl ?_
                refine Wp.steps 1 (pc' := if v4 = 0 then 91 else 94) (lv' := [some (.ref 0), some (.int x1), some (.int x2), some (.int x3), some (.int x4), some (.int x5), some (.int v3)]) (st' := []) (I' := I4) (J' := J4) rfl (Wp.ite (fun h8 => ?_) (fun h8 => ?_))
                · replace h := h.1 h8
                  refine Wp.steps 1 (pc' := 93) (lv' := [some (.ref 0), some (.int x1), some (.int x2), some (.int x3), some (.int x4), some (.int x5), some (.int v3)]) (st' := [.int (-2)]) (I' := I4) (J' := J4) rfl ?_
                  exact Wp.ret rfl h
                · replace h := h.2 h8
                  refine Wp.steps 2 (pc' := 97) (lv' := [some (.ref 0), some (.int x1), some (.int x2), some (.int x3), some (.int x4), some (.int x5), some (.int v3)]) (st' := [.int (-4), .int x1]) (I' := I4) (J' := J4) rfl ?_
                  refine Wp.steps 1 (pc' := if x1 = (-4) then 100 else 117) (lv' := [some (.ref 0), some (.int x1), some (.int x2), some (.int x3), some (.int x4), some (.int x5), some (.int v3)]) (st' := []) (I' := I4) (J' := J4) rfl ?_
                  rw [if_pos h1]
                  refine Wp.steps 4 (pc' := 106) (lv' := [some (.ref 0), some (.int x1), some (.int x2), some (.int x3), some (.int x4), some (.int x5), some (.int v3)]) (st' := [.int x2, .ref 48, .ref 0]) (I' := I4) (J' := J4) rfl ?_
                  refine Wp.steps 1 (pc' := 107) (lv' := [some (.ref 0), some (.int x1), some (.int x2), some (.int x3), some (.int x4), some (.int x5), some (.int v3)]) (st' := [.ref 55, .ref 0]) (I' := I4) (J' := J4) (by rw [g6]; rfl) ?_
                  refine Wp.steps 2 (pc' := 111) (lv' := [some (.ref 0), some (.int x1), some (.int x2), some (.int x3), some (.int x4), some (.int x5), some (.int v3)]) (st' := [.int x5, .int x4, .ref 55, .ref 0]) (I' := I4) (J' := J4) rfl ?_
                  refine Wp.call (M' := Sb_locksByClicks) (as := [.ref 0, .ref 55, .int x4, .int x5]) (rest := []) rfl (CI.use h (fun v5 I5 J5 h => ?_))
                  refine Wp.eqs (pc' := 114) (st' := [.int v5]) rfl rfl ?_
                  refine Wp.steps 1 (pc' := 132) (lv' := [some (.ref 0), some (.int x1), some (.int x2), some (.int x3), some (.int x4), some (.int x5), some (.int v3)]) (st' := [.int v5]) (I' := I5) (J' := J5) rfl ?_
                  exact Wp.ret rfl h
              · replace h := h.2 h7
                refine Wp.steps 1 (pc' := 73) (lv' := [some (.ref 0), some (.int x1), some (.int x2), some (.int x3), some (.int x4), some (.int x5), some (.int v3)]) (st' := [.int v3]) (I' := I3) (J' := J3) rfl ?_
                exact Wp.ret rfl h
  · replace h := h.2 h1
    refine Wp.steps 3 (pc' := 11) (lv' := [some (.ref 0), some (.int x1), some (.int x2), some (.int x3), some (.int x4), some (.int x5), none]) (st' := [.int x1, .ref 1]) (I' := I) (J' := J) rfl ?_
    refine Wp.call (M' := Bx_hasPanel) (as := [.ref 1, .int x1]) (rest := []) rfl (CI.use h (fun v1 I1 J1 h => ?_))
    refine Wp.eqs (pc' := 14) (st' := [.int v1]) rfl rfl ?_
    refine Wp.steps 1 (pc' := if v1 = 0 then 31 else 17) (lv' := [some (.ref 0), some (.int x1), some (.int x2), some (.int x3), some (.int x4), some (.int x5), none]) (st' := []) (I' := I1) (J' := J1) rfl (Wp.ite (fun h2 => ?_) (fun h2 => ?_))
    · replace h := h.1 h2
      refine Wp.steps 1 (pc' := 32) (lv' := [some (.ref 0), some (.int x1), some (.int x2), some (.int x3), some (.int x4), some (.int x5), none]) (st' := [.int (-1)]) (I' := I1) (J' := J1) rfl ?_
      exact Wp.ret rfl h
    · replace h := h.2 h2
      refine Wp.steps 1 (pc' := 18) (lv' := [some (.ref 0), some (.int x1), some (.int x2), some (.int x3), some (.int x4), some (.int x5), none]) (st' := [.int x2]) (I' := I1) (J' := J1) rfl ?_
      refine Wp.call (M' := Sb_isSheet) (as := [.int x2]) (rest := []) rfl (CI.use h (fun v2 I2 J2 h => ?_))
      refine Wp.eqs (pc' := 21) (st' := [.int v2]) rfl rfl ?_
      refine Wp.steps 1 (pc' := if v2 = 0 then 31 else 24) (lv' := [some (.ref 0), some (.int x1), some (.int x2), some (.int x3), some (.int x4), some (.int x5), none]) (st' := []) (I' := I2) (J' := J2) rfl (Wp.ite (fun h3 => ?_) (fun h3 => ?_))
      · replace h := h.1 h3
        refine Wp.steps 1 (pc' := 32) (lv' := [some (.ref 0), some (.int x1), some (.int x2), some (.int x3), some (.int x4), some (.int x5), none]) (st' := [.int (-1)]) (I' := I2) (J' := J2) rfl ?_
        exact Wp.ret rfl h
      · replace h := h.2 h3
        refine Wp.steps 1 (pc' := 25) (lv' := [some (.ref 0), some (.int x1), some (.int x2), some (.int x3), some (.int x4), some (.int x5), none]) (st' := [.int x3]) (I' := I2) (J' := J2) rfl ?_
        refine Wp.call (M' := Sb_isLane) (as := [.int x3]) (rest := []) rfl (CI.use h (fun v3 I3 J3 h => ?_))
        refine Wp.eqs (pc' := 28) (st' := [.int v3]) rfl rfl ?_
        refine Wp.steps 1 (pc' := if v3 = 0 then 31 else 33) (lv' := [some (.ref 0), some (.int x1), some (.int x2), some (.int x3), some (.int x4), some (.int x5), none]) (st' := []) (I' := I3) (J' := J3) rfl (Wp.ite (fun h4 => ?_) (fun h4 => ?_))
        · replace h := h.1 h4
          refine Wp.steps 1 (pc' := 32) (lv' := [some (.ref 0), some (.int x1), some (.int x2), some (.int x3), some (.int x4), some (.int x5), none]) (st' := [.int (-1)]) (I' := I3) (J' := J3) rfl ?_
          exact Wp.ret rfl h
        · replace h := h.2 h4
          refine Wp.steps 2 (pc' := 36) (lv' := [some (.ref 0), some (.int x1), some (.int x2), some (.int x3), some (.int x4), some (.int x5), none]) (st' := [.int 1, .int x5]) (I' := I3) (J' := J3) rfl ?_
          refine Wp.steps 1 (pc' := if x5 < 1 then 46 else 39) (lv' := [some (.ref 0), some (.int x1), some (.int x2), some (.int x3), some (.int x4), some (.int x5), none]) (st' := []) (I' := I3) (J' := J3) rfl (Wp.ite (fun h5 => ?_) (fun h5 => ?_))
          · replace h := h.1 h5
            refine Wp.steps 1 (pc' := 47) (lv' := [some (.ref 0), some (.int x1), some (.int x2), some (.int x3), some (.int x4), some (.int x5), none]) (st' := [.int (-1)]) (I' := I3) (J' := J3) rfl ?_
            exact Wp.ret rfl h
          · replace h := h.2 h5
            refine Wp.steps 2 (pc' := 43) (lv' := [some (.ref 0), some (.int x1), some (.int x2), some (.int x3), some (.int x4), some (.int x5), none]) (st' := [.int 8, .int x5]) (I' := I3) (J' := J3) rfl ?_
            refine Wp.steps 1 (pc' := if 8 < x5 then 46 else 48) (lv' := [some (.ref 0), some (.int x1), some (.int x2), some (.int x3), some (.int x4), some (.int x5), none]) (st' := []) (I' := I3) (J' := J3) rfl (Wp.ite (fun h6 => ?_) (fun h6 => ?_))
            · replace h := h.1 h6
              refine Wp.steps 1 (pc' := 47) (lv' := [some (.ref 0), some (.int x1), some (.int x2), some (.int x3), some (.int x4), some (.int x5), none]) (st' := [.int (-1)]) (I' := I3) (J' := J3) rfl ?_
              exact Wp.ret rfl h
            · replace h := h.2 h6
              refine Wp.steps 3 (pc' := 53) (lv' := [some (.ref 0), some (.int x1), some (.int x2), some (.int x3), some (.int x4), some (.int x5), none]) (st' := [.int x2, .ref 48]) (I' := I3) (J' := J3) rfl ?_
              rcases vp_4 h.1 with g7 | g7 | g7 | g7
              · replace h := h.2.1 g7
                refine Wp.steps 1 (pc' := 54) (lv' := [some (.ref 0), some (.int x1), some (.int x2), some (.int x3), some (.int x4), some (.int x5), none]) (st' := [.ref 49]) (I' := I3) (J' := J3) (by rw [g7]; rfl) ?_
                refine Wp.steps 5 (pc' := 61) (lv' := [some (.ref 0), some (.int x1), some (.int x2), some (.int x3), some (.int x4), some (.int x5), none]) (st' := [.int (2 * x5), .int x4, .int x3, .ref 49]) (I' := I3) (J' := J3) rfl ?_
                refine Wp.call (M' := Sh_fault) (as := [.ref 49, .int x3, .int x4, .int (2 * x5)]) (rest := []) rfl (CI.use h (fun v4 I4 J4 h => ?_))
                refine Wp.eqs (pc' := 64) (st' := [.int v4]) rfl rfl ?_
                refine Wp.steps 2 (pc' := 68) (lv' := [some (.ref 0), some (.int x1), some (.int x2), some (.int x3), some (.int x4), some (.int x5), some (.int v4)]) (st' := [.int v4]) (I' := I4) (J' := J4) rfl ?_
                refine Wp.steps 1 (pc' := if v4 = 0 then 74 else 71) (lv' := [some (.ref 0), some (.int x1), some (.int x2), some (.int x3), some (.int x4), some (.int x5), some (.int v4)]) (st' := []) (I' := I4) (J' := J4) rfl (Wp.ite (fun h8 => ?_) (fun h8 => ?_))
                · replace h := h.1 h8
                  refine Wp.steps 4 (pc' := 80) (lv' := [some (.ref 0), some (.int x1), some (.int x2), some (.int x3), some (.int x4), some (.int x5), some (.int v4)]) (st' := [.int x2, .ref 48, .ref 0]) (I' := I4) (J' := J4) rfl ?_
                  refine Wp.steps 1 (pc' := 81) (lv' := [some (.ref 0), some (.int x1), some (.int x2), some (.int x3), some (.int x4), some (.int x5), some (.int v4)]) (st' := [.ref 49, .ref 0]) (I' := I4) (J' := J4) (by rw [g7]; rfl) ?_
                  refine Wp.steps 2 (pc' := 85) (lv' := [some (.ref 0), some (.int x1), some (.int x2), some (.int x3), some (.int x4), some (.int x5), some (.int v4)]) (st' := [.int x5, .int x4, .ref 49, .ref 0]) (I' := I4) (J' := J4) rfl ?_
                  refine Wp.call (M' := Sb_areClicks) (as := [.ref 0, .ref 49, .int x4, .int x5]) (rest := []) rfl (CI.use h (fun v5 I5 J5 h => ?_))
                  refine Wp.eqs (pc' := 88) (st' := [.int v5]) rfl rfl ?_
                  refine Wp.steps 1 (pc' := if v5 = 0 then 91 else 94) (lv' := [some (.ref 0), some (.int x1), some (.int x2), some (.int x3), some (.int x4), some (.int x5), some (.int v4)]) (st' := []) (I' := I5) (J' := J5) rfl (Wp.ite (fun h9 => ?_) (fun h9 => ?_))
                  · replace h := h.1 h9
                    refine Wp.steps 1 (pc' := 93) (lv' := [some (.ref 0), some (.int x1), some (.int x2), some (.int x3), some (.int x4), some (.int x5), some (.int v4)]) (st' := [.int (-2)]) (I' := I5) (J' := J5) rfl ?_
                    exact Wp.ret rfl h
                  · replace h := h.2 h9
                    refine Wp.steps 2 (pc' := 97) (lv' := [some (.ref 0), some (.int x1), some (.int x2), some (.int x3), some (.int x4), some (.int x5), some (.int v4)]) (st' := [.int (-4), .int x1]) (I' := I5) (J' := J5) rfl ?_
                    refine Wp.steps 1 (pc' := if x1 = (-4) then 100 else 117) (lv' := [some (.ref 0), some (.int x1), some (.int x2), some (.int x3), some (.int x4), some (.int x5), some (.int v4)]) (st' := []) (I' := I5) (J' := J5) rfl ?_
                    rw [if_neg h1]
                    refine Wp.steps 5 (pc' := 124) (lv' := [some (.ref 0), some (.int x1), some (.int x2), some (.int x3), some (.int x4), some (.int x5), some (.int v4)]) (st' := [.int x2, .ref 48, .int x1, .ref 0]) (I' := I5) (J' := J5) rfl ?_
                    refine Wp.steps 1 (pc' := 125) (lv' := [some (.ref 0), some (.int x1), some (.int x2), some (.int x3), some (.int x4), some (.int x5), some (.int v4)]) (st' := [.ref 49, .int x1, .ref 0]) (I' := I5) (J' := J5) (by rw [g7]; rfl) ?_
                    refine Wp.steps 2 (pc' := 129) (lv' := [some (.ref 0), some (.int x1), some (.int x2), some (.int x3), some (.int x4), some (.int x5), some (.int v4)]) (st' := [.int x5, .int x4, .ref 49, .int x1, .ref 0]) (I' := I5) (J' := J5) rfl ?_
                    refine Wp.call (M' := Sb_kindsByClicks) (as := [.ref 0, .int x1, .ref 49, .int x4, .int x5]) (rest := []) rfl (CI.use h (fun v6 I6 J6 h => ?_))
                    refine Wp.eqs (pc' := 132) (st' := [.int v6]) rfl rfl ?_
                    exact Wp.ret rfl h
                · replace h := h.2 h8
                  refine Wp.steps 1 (pc' := 73) (lv' := [some (.ref 0), some (.int x1), some (.int x2), some (.int x3), some (.int x4), some (.int x5), some (.int v4)]) (st' := [.int v4]) (I' := I4) (J' := J4) rfl ?_
                  exact Wp.ret rfl h
              · replace h := h.2.2.1 g7
                refine Wp.steps 1 (pc' := 54) (lv' := [some (.ref 0), some (.int x1), some (.int x2), some (.int x3), some (.int x4), some (.int x5), none]) (st' := [.ref 51]) (I' := I3) (J' := J3) (by rw [g7]; rfl) ?_
                refine Wp.steps 5 (pc' := 61) (lv' := [some (.ref 0), some (.int x1), some (.int x2), some (.int x3), some (.int x4), some (.int x5), none]) (st' := [.int (2 * x5), .int x4, .int x3, .ref 51]) (I' := I3) (J' := J3) rfl ?_
                refine Wp.call (M' := Sh_fault) (as := [.ref 51, .int x3, .int x4, .int (2 * x5)]) (rest := []) rfl (CI.use h (fun v4 I4 J4 h => ?_))
                refine Wp.eqs (pc' := 64) (st' := [.int v4]) rfl rfl ?_
                refine Wp.steps 2 (pc' := 68) (lv' := [some (.ref 0), some (.int x1), some (.int x2), some (.int x3), some (.int x4), some (.int x5), some (.int v4)]) (st' := [.int v4]) (I' := I4) (J' := J4) rfl ?_
                refine Wp.steps 1 (pc' := if v4 = 0 then 74 else 71) (lv' := [some (.ref 0), some (.int x1), some (.int x2), some (.int x3), some (.int x4), some (.int x5), some (.int v4)]) (st' := []) (I' := I4) (J' := J4) rfl (Wp.ite (fun h8 => ?_) (fun h8 => ?_))
                · replace h := h.1 h8
                  refine Wp.steps 4 (pc' := 80) (lv' := [some (.ref 0), some (.int x1), some (.int x2), some (.int x3), some (.int x4), some (.int x5), some (.int v4)]) (st' := [.int x2, .ref 48, .ref 0]) (I' := I4) (J' := J4) rfl ?_
                  refine Wp.steps 1 (pc' := 81) (lv' := [some (.ref 0), some (.int x1), some (.int x2), some (.int x3), some (.int x4), some (.int x5), some (.int v4)]) (st' := [.ref 51, .ref 0]) (I' := I4) (J' := J4) (by rw [g7]; rfl) ?_
                  refine Wp.steps 2 (pc' := 85) (lv' := [some (.ref 0), some (.int x1), some (.int x2), some (.int x3), some (.int x4), some (.int x5), some (.int v4)]) (st' := [.int x5, .int x4, .ref 51, .ref 0]) (I' := I4) (J' := J4) rfl ?_
                  refine Wp.call (M' := Sb_areClicks) (as := [.ref 0, .ref 51, .int x4, .int x5]) (rest := []) rfl (CI.use h (fun v5 I5 J5 h => ?_))
                  refine Wp.eqs (pc' := 88) (st' := [.int v5]) rfl rfl ?_
                  refine Wp.steps 1 (pc' := if v5 = 0 then 91 else 94) (lv' := [some (.ref 0), some (.int x1), some (.int x2), some (.int x3), some (.int x4), some (.int x5), some (.int v4)]) (st' := []) (I' := I5) (J' := J5) rfl (Wp.ite (fun h9 => ?_) (fun h9 => ?_))
                  · replace h := h.1 h9
                    refine Wp.steps 1 (pc' := 93) (lv' := [some (.ref 0), some (.int x1), some (.int x2), some (.int x3), some (.int x4), some (.int x5), some (.int v4)]) (st' := [.int (-2)]) (I' := I5) (J' := J5) rfl ?_
                    exact Wp.ret rfl h
                  · replace h := h.2 h9
                    refine Wp.steps 2 (pc' := 97) (lv' := [some (.ref 0), some (.int x1), some (.int x2), some (.int x3), some (.int x4), some (.int x5), some (.int v4)]) (st' := [.int (-4), .int x1]) (I' := I5) (J' := J5) rfl ?_
                    refine Wp.steps 1 (pc' := if x1 = (-4) then 100 else 117) (lv' := [some (.ref 0), some (.int x1), some (.int x2), some (.int x3), some (.int x4), some (.int x5), some (.int v4)]) (st' := []) (I' := I5) (J' := J5) rfl ?_
                    rw [if_neg h1]
                    refine Wp.steps 5 (pc' := 124) (lv' := [some (.ref 0), some (.int x1), some (.int x2), some (.int x3), some (.int x4), some (.int x5), some (.int v4)]) (st' := [.int x2, .ref 48, .int x1, .ref 0]) (I' := I5) (J' := J5) rfl ?_
                    refine Wp.steps 1 (pc' := 125) (lv' := [some (.ref 0), some (.int x1), some (.int x2), some (.int x3), some (.int x4), some (.int x5), some (.int v4)]) (st' := [.ref 51, .int x1, .ref 0]) (I' := I5) (J' := J5) (by rw [g7]; rfl) ?_
                    refine Wp.steps 2 (pc' := 129) (lv' := [some (.ref 0), some (.int x1), some (.int x2), some (.int x3), some (.int x4), some (.int x5), some (.int v4)]) (st' := [.int x5, .int x4, .ref 51, .int x1, .ref 0]) (I' := I5) (J' := J5) rfl ?_
                    refine Wp.call (M' := Sb_kindsByClicks) (as := [.ref 0, .int x1, .ref 51, .int x4, .int x5]) (rest := []) rfl (CI.use h (fun v6 I6 J6 h => ?_))
                    refine Wp.eqs (pc' := 132) (st' := [.int v6]) rfl rfl ?_
                    exact Wp.ret rfl h
                · replace h := h.2 h8
                  refine Wp.steps 1 (pc' := 73) (lv' := [some (.ref 0), some (.int x1), some (.int x2), some (.int x3), some (.int x4), some (.int x5), some (.int v4)]) (st' := [.int v4]) (I' := I4) (J' := J4) rfl ?_
                  exact Wp.ret rfl h
              · replace h := h.2.2.2.1 g7
                refine Wp.steps 1 (pc' := 54) (lv' := [some (.ref 0), some (.int x1), some (.int x2), some (.int x3), some (.int x4), some (.int x5), none]) (st' := [.ref 53]) (I' := I3) (J' := J3) (by rw [g7]; rfl) ?_
                refine Wp.steps 5 (pc' := 61) (lv' := [some (.ref 0), some (.int x1), some (.int x2), some (.int x3), some (.int x4), some (.int x5), none]) (st' := [.int (2 * x5), .int x4, .int x3, .ref 53]) (I' := I3) (J' := J3) rfl ?_
                refine Wp.call (M' := Sh_fault) (as := [.ref 53, .int x3, .int x4, .int (2 * x5)]) (rest := []) rfl (CI.use h (fun v4 I4 J4 h => ?_))
                refine Wp.eqs (pc' := 64) (st' := [.int v4]) rfl rfl ?_
                refine Wp.steps 2 (pc' := 68) (lv' := [some (.ref 0), some (.int x1), some (.int x2), some (.int x3), some (.int x4), some (.int x5), some (.int v4)]) (st' := [.int v4]) (I' := I4) (J' := J4) rfl ?_
                refine Wp.steps 1 (pc' := if v4 = 0 then 74 else 71) (lv' := [some (.ref 0), some (.int x1), some (.int x2), some (.int x3), some (.int x4), some (.int x5), some (.int v4)]) (st' := []) (I' := I4) (J' := J4) rfl (Wp.ite (fun h8 => ?_) (fun h8 => ?_))
                · replace h := h.1 h8
                  refine Wp.steps 4 (pc' := 80) (lv' := [some (.ref 0), some (.int x1), some (.int x2), some (.int x3), some (.int x4), some (.int x5), some (.int v4)]) (st' := [.int x2, .ref 48, .ref 0]) (I' := I4) (J' := J4) rfl ?_
                  refine Wp.steps 1 (pc' := 81) (lv' := [some (.ref 0), some (.int x1), some (.int x2), some (.int x3), some (.int x4), some (.int x5), some (.int v4)]) (st' := [.ref 53, .ref 0]) (I' := I4) (J' := J4) (by rw [g7]; rfl) ?_
                  refine Wp.steps 2 (pc' := 85) (lv' := [some (.ref 0), some (.int x1), some (.int x2), some (.int x3), some (.int x4), some (.int x5), some (.int v4)]) (st' := [.int x5, .int x4, .ref 53, .ref 0]) (I' := I4) (J' := J4) rfl ?_
                  refine Wp.call (M' := Sb_areClicks) (as := [.ref 0, .ref 53, .int x4, .int x5]) (rest := []) rfl (CI.use h (fun v5 I5 J5 h => ?_))
                  refine Wp.eqs (pc' := 88) (st' := [.int v5]) rfl rfl ?_
                  refine Wp.steps 1 (pc' := if v5 = 0 then 91 else 94) (lv' := [some (.ref 0), some (.int x1), some (.int x2), some (.int x3), some (.int x4), some (.int x5), some (.int v4)]) (st' := []) (I' := I5) (J' := J5) rfl (Wp.ite (fun h9 => ?_) (fun h9 => ?_))
                  · replace h := h.1 h9
                    refine Wp.steps 1 (pc' := 93) (lv' := [some (.ref 0), some (.int x1), some (.int x2), some (.int x3), some (.int x4), some (.int x5), some (.int v4)]) (st' := [.int (-2)]) (I' := I5) (J' := J5) rfl ?_
                    exact Wp.ret rfl h
                  · replace h := h.2 h9
                    refine Wp.steps 2 (pc' := 97) (lv' := [some (.ref 0), some (.int x1), some (.int x2), some (.int x3), some (.int x4), some (.int x5), some (.int v4)]) (st' := [.int (-4), .int x1]) (I' := I5) (J' := J5) rfl ?_
                    refine Wp.steps 1 (pc' := if x1 = (-4) then 100 else 117) (lv' := [some (.ref 0), some (.int x1), some (.int x2), some (.int x3), some (.int x4), some (.int x5), some (.int v4)]) (st' := []) (I' := I5) (J' := J5) rfl ?_
                    rw [if_neg h1]
                    refine Wp.steps 5 (pc' := 124) (lv' := [some (.ref 0), some (.int x1), some (.int x2), some (.int x3), some (.int x4), some (.int x5), some (.int v4)]) (st' := [.int x2, .ref 48, .int x1, .ref 0]) (I' := I5) (J' := J5) rfl ?_
                    refine Wp.steps 1 (pc' := 125) (lv' := [some (.ref 0), some (.int x1), some (.int x2), some (.int x3), some (.int x4), some (.int x5), some (.int v4)]) (st' := [.ref 53, .int x1, .ref 0]) (I' := I5) (J' := J5) (by rw [g7]; rfl) ?_
                    refine Wp.steps 2 (pc' := 129) (lv' := [some (.ref 0), some (.int x1), some (.int x2), some (.int x3), some (.int x4), some (.int x5), some (.int v4)]) (st' := [.int x5, .int x4, .ref 53, .int x1, .ref 0]) (I' := I5) (J' := J5) rfl ?_
                    refine Wp.call (M' := Sb_kindsByClicks) (as := [.ref 0, .int x1, .ref 53, .int x4, .int x5]) (rest := []) rfl (CI.use h (fun v6 I6 J6 h => ?_))
                    refine Wp.eqs (pc' := 132) (st' := [.int v6]) rfl rfl ?_
                    exact Wp.ret rfl h
                · replace h := h.2 h8
                  refine Wp.steps 1 (pc' := 73) (lv' := [some (.ref 0), some (.int x1), some (.int x2), some (.int x3), some (.int x4), some (.int x5), some (.int v4)]) (st' := [.int v4]) (I' := I4) (J' := J4) rfl ?_
                  exact Wp.ret rfl h
              · replace h := h.2.2.2.2 g7
                refine Wp.steps 1 (pc' := 54) (lv' := [some (.ref 0), some (.int x1), some (.int x2), some (.int x3), some (.int x4), some (.int x5), none]) (st' := [.ref 55]) (I' := I3) (J' := J3) (by rw [g7]; rfl) ?_
                refine Wp.steps 5 (pc' := 61) (lv' := [some (.ref 0), some (.int x1), some (.int x2), some (.int x3), some (.int x4), some (.int x5), none]) (st' := [.int (2 * x5), .int x4, .int x3, .ref 55]) (I' := I3) (J' := J3) rfl ?_
                refine Wp.call (M' := Sh_fault) (as := [.ref 55, .int x3, .int x4, .int (2 * x5)]) (rest := []) rfl (CI.use h (fun v4 I4 J4 h => ?_))
                refine Wp.eqs (pc' := 64) (st' := [.int v4]) rfl rfl ?_
                refine Wp.steps 2 (pc' := 68) (lv' := [some (.ref 0), some (.int x1), some (.int x2), some (.int x3), some (.int x4), some (.int x5), some (.int v4)]) (st' := [.int v4]) (I' := I4) (J' := J4) rfl ?_
                refine Wp.steps 1 (pc' := if v4 = 0 then 74 else 71) (lv' := [some (.ref 0), some (.int x1), some (.int x2), some (.int x3), some (.int x4), some (.int x5), some (.int v4)]) (st' := []) (I' := I4) (J' := J4) rfl (Wp.ite (fun h8 => ?_) (fun h8 => ?_))
                · replace h := h.1 h8
                  refine Wp.steps 4 (pc' := 80) (lv' := [some (.ref 0), some (.int x1), some (.int x2), some (.int x3), some (.int x4), some (.int x5), some (.int v4)]) (st' := [.int x2, .ref 48, .ref 0]) (I' := I4) (J' := J4) rfl ?_
                  refine Wp.steps 1 (pc' := 81) (lv' := [some (.ref 0), some (.int x1), some (.int x2), some (.int x3), some (.int x4), some (.int x5), some (.int v4)]) (st' := [.ref 55, .ref 0]) (I' := I4) (J' := J4) (by rw [g7]; rfl) ?_
                  refine Wp.steps 2 (pc' := 85) (lv' := [some (.ref 0), some (.int x1), some (.int x2), some (.int x3), some (.int x4), some (.int x5), some (.int v4)]) (st' := [.int x5, .int x4, .ref 55, .ref 0]) (I' := I4) (J' := J4) rfl ?_
                  refine Wp.call (M' := Sb_areClicks) (as := [.ref 0, .ref 55, .int x4, .int x5]) (rest := []) rfl (CI.use h (fun v5 I5 J5 h => ?_))
                  refine Wp.eqs (pc' := 88) (st' := [.int v5]) rfl rfl ?_
                  refine Wp.steps 1 (pc' := if v5 = 0 then 91 else 94) (lv' := [some (.ref 0), some (.int x1), some (.int x2), some (.int x3), some (.int x4), some (.int x5), some (.int v4)]) (st' := []) (I' := I5) (J' := J5) rfl (Wp.ite (fun h9 => ?_) (fun h9 => ?_))
                  · replace h := h.1 h9
                    refine Wp.steps 1 (pc' := 93) (lv' := [some (.ref 0), some (.int x1), some (.int x2), some (.int x3), some (.int x4), some (.int x5), some (.int v4)]) (st' := [.int (-2)]) (I' := I5) (J' := J5) rfl ?_
                    exact Wp.ret rfl h
                  · replace h := h.2 h9
                    refine Wp.steps 2 (pc' := 97) (lv' := [some (.ref 0), some (.int x1), some (.int x2), some (.int x3), some (.int x4), some (.int x5), some (.int v4)]) (st' := [.int (-4), .int x1]) (I' := I5) (J' := J5) rfl ?_
                    refine Wp.steps 1 (pc' := if x1 = (-4) then 100 else 117) (lv' := [some (.ref 0), some (.int x1), some (.int x2), some (.int x3), some (.int x4), some (.int x5), some (.int v4)]) (st' := []) (I' := I5) (J' := J5) rfl ?_
                    rw [if_neg h1]
                    refine Wp.steps 5 (pc' := 124) (lv' := [some (.ref 0), some (.int x1), some (.int x2), some (.int x3), some (.int x4), some (.int x5), some (.int v4)]) (st' := [.int x2, .ref 48, .int x1, .ref 0]) (I' := I5) (J' := J5) rfl ?_
                    refine Wp.steps 1 (pc' := 125) (lv' := [some (.ref 0), some (.int x1), some (.int x2), some (.int x3), some (.int x4), some (.int x5), some (.int v4)]) (st' := [.ref 55, .int x1, .ref 0]) (I' := I5) (J' := J5) (by rw [g7]; rfl) ?_
                    refine Wp.steps 2 (pc' := 129) (lv' := [some (.ref 0), some (.int x1), some (.int x2), some (.int x3), some (.int x4), some (.int x5), some (.int v4)]) (st' := [.int x5, .int x4, .ref 55, .int x1, .ref 0]) (I' := I5) (J' := J5) rfl ?_
                    refine Wp.call (M' := Sb_kindsByClicks) (as := [.ref 0, .int x1, .ref 55, .int x4, .int x5]) (rest := []) rfl (CI.use h (fun v6 I6 J6 h => ?_))
                    refine Wp.eqs (pc' := 132) (st' := [.int v6]) rfl rfl ?_
                    exact Wp.ret rfl h
                · replace h := h.2 h8
                  refine Wp.steps 1 (pc' := 73) (lv' := [some (.ref 0), some (.int x1), some (.int x2), some (.int x3), some (.int x4), some (.int x5), some (.int v4)]) (st' := [.int v4]) (I' := I4) (J' := J4) rfl ?_
                  exact Wp.ret rfl h
theorem v_Sb_film_0_0 {d : Nat} {Q : Post} {I : I2} {J : J2} {x1 : Int32} {x2 : Int32} {x3 : Int32} (h : ((I 1 2) = 0 → Q (some (.int (-1))) I J) ∧ (¬ ((I 1 2) = 0) → CI d Sb_isSheet [.int x1] I J (fun v1 I1 J1 => (v1 = 0 → Q (some (.int (-1))) I1 J1) ∧ (¬ (v1 = 0) → CI d Sb_isLane [.int x2] I1 J1 (fun v2 I2 J2 => (v2 = 0 → Q (some (.int (-1))) I2 J2) ∧ (¬ (v2 = 0) → vp_in x1 4 ∧ (x1 = 0 → CI d Sh_fault [.ref 49, .int x2, .int x3, .int (I2 1 2)] I2 J2 (fun v3 I3 J3 => (v3 = 0 → Wp d Sb_film Q 57 [some (.ref 0), some (.int x1), some (.int x2), some (.int x3), some (.int v3), some (.int 0)] [] I3 J3) ∧ (¬ (v3 = 0) → Q (some (.int v3)) I3 J3))) ∧ (x1 = 1 → CI d Sh_fault [.ref 51, .int x2, .int x3, .int (I2 1 2)] I2 J2 (fun v3 I3 J3 => (v3 = 0 → Wp d Sb_film Q 57 [some (.ref 0), some (.int x1), some (.int x2), some (.int x3), some (.int v3), some (.int 0)] [] I3 J3) ∧ (¬ (v3 = 0) → Q (some (.int v3)) I3 J3))) ∧ (x1 = 2 → CI d Sh_fault [.ref 53, .int x2, .int x3, .int (I2 1 2)] I2 J2 (fun v3 I3 J3 => (v3 = 0 → Wp d Sb_film Q 57 [some (.ref 0), some (.int x1), some (.int x2), some (.int x3), some (.int v3), some (.int 0)] [] I3 J3) ∧ (¬ (v3 = 0) → Q (some (.int v3)) I3 J3))) ∧ (x1 = 3 → CI d Sh_fault [.ref 55, .int x2, .int x3, .int (I2 1 2)] I2 J2 (fun v3 I3 J3 => (v3 = 0 → Wp d Sb_film Q 57 [some (.ref 0), some (.int x1), some (.int x2), some (.int x3), some (.int v3), some (.int 0)] [] I3 J3) ∧ (¬ (v3 = 0) → Q (some (.int v3)) I3 J3))))))))) : Wp d Sb_film Q 0 [some (.ref 0), some (.int x1), some (.int x2), some (.int x3), none, none] [] I J := by
  refine Wp.steps 3 (pc' := 7) (lv' := [some (.ref 0), some (.int x1), some (.int x2), some (.int x3), none, none]) (st' := [.int (I 1 2)]) (I' := I) (J' := J) rfl ?_
  refine Wp.steps 1 (pc' := if (I 1 2) = 0 then 24 else 10) (lv' := [some (.ref 0), some (.int x1), some (.int x2), some (.int x3), none, none]) (st' := []) (I' := I) (J' := J) rfl (Wp.ite (fun h1 => ?_) (fun h1 => ?_))
  · replace h := h.1 h1
    refine Wp.steps 1 (pc' := 25) (lv' := [some (.ref 0), some (.int x1), some (.int x2), some (.int x3), none, none]) (st' := [.int (-1)]) (I' := I) (J' := J) rfl ?_
    exact Wp.ret rfl h
  · replace h := h.2 h1
    refine Wp.steps 1 (pc' := 11) (lv' := [some (.ref 0), some (.int x1), some (.int x2), some (.int x3), none, none]) (st' := [.int x1]) (I' := I) (J' := J) rfl ?_
    refine Wp.call (M' := Sb_isSheet) (as := [.int x1]) (rest := []) rfl (CI.use h (fun v1 I1 J1 h => ?_))
    refine Wp.eqs (pc' := 14) (st' := [.int v1]) rfl rfl ?_
    refine Wp.steps 1 (pc' := if v1 = 0 then 24 else 17) (lv' := [some (.ref 0), some (.int x1), some (.int x2), some (.int x3), none, none]) (st' := []) (I' := I1) (J' := J1) rfl (Wp.ite (fun h2 => ?_) (fun h2 => ?_))
    · replace h := h.1 h2
      refine Wp.steps 1 (pc' := 25) (lv' := [some (.ref 0), some (.int x1), some (.int x2), some (.int x3), none, none]) (st' := [.int (-1)]) (I' := I1) (J' := J1) rfl ?_
      exact Wp.ret rfl h
    · replace h := h.2 h2
      refine Wp.steps 1 (pc' := 18) (lv' := [some (.ref 0), some (.int x1), some (.int x2), some (.int x3), none, none]) (st' := [.int x2]) (I' := I1) (J' := J1) rfl ?_
      refine Wp.call (M' := Sb_isLane) (as := [.int x2]) (rest := []) rfl (CI.use h (fun v2 I2 J2 h => ?_))
      refine Wp.eqs (pc' := 21) (st' := [.int v2]) rfl rfl ?_
      refine Wp.steps 1 (pc' := if v2 = 0 then 24 else 26) (lv' := [some (.ref 0), some (.int x1), some (.int x2), some (.int x3), none, none]) (st' := []) (I' := I2) (J' := J2) rfl (Wp.ite (fun h3 => ?_) (fun h3 => ?_))
      · replace h := h.1 h3
        refine Wp.steps 1 (pc' := 25) (lv' := [some (.ref 0), some (.int x1), some (.int x2), some (.int x3), none, none]) (st' := [.int (-1)]) (I' := I2) (J' := J2) rfl ?_
        exact Wp.ret rfl h
      · replace h := h.2 h3
        refine Wp.steps 3 (pc' := 31) (lv' := [some (.ref 0), some (.int x1), some (.int x2), some (.int x3), none, none]) (st' := [.int x1, .ref 48]) (I' := I2) (J' := J2) rfl ?_
        rcases vp_4 h.1 with g4 | g4 | g4 | g4
        · replace h := h.2.1 g4
          refine Wp.steps 1 (pc' := 32) (lv' := [some (.ref 0), some (.int x1), some (.int x2), some (.int x3), none, none]) (st' := [.ref 49]) (I' := I2) (J' := J2) (by rw [g4]; rfl) ?_
          refine Wp.steps 5 (pc' := 41) (lv' := [some (.ref 0), some (.int x1), some (.int x2), some (.int x3), none, none]) (st' := [.int (I2 1 2), .int x3, .int x2, .ref 49]) (I' := I2) (J' := J2) rfl ?_
          refine Wp.call (M' := Sh_fault) (as := [.ref 49, .int x2, .int x3, .int (I2 1 2)]) (rest := []) rfl (CI.use h (fun v3 I3 J3 h => ?_))
          refine Wp.eqs (pc' := 44) (st' := [.int v3]) rfl rfl ?_
          refine Wp.steps 2 (pc' := 48) (lv' := [some (.ref 0), some (.int x1), some (.int x2), some (.int x3), some (.int v3), none]) (st' := [.int v3]) (I' := I3) (J' := J3) rfl ?_
          refine Wp.steps 1 (pc' := if v3 = 0 then 54 else 51) (lv' := [some (.ref 0), some (.int x1), some (.int x2), some (.int x3), some (.int v3), none]) (st' := []) (I' := I3) (J' := J3) rfl (Wp.ite (fun h5 => ?_) (fun h5 => ?_))
          · replace h := h.1 h5
            refine Wp.steps 2 (pc' := 57) (lv' := [some (.ref 0), some (.int x1), some (.int x2), some (.int x3), some (.int v3), some (.int 0)]) (st' := []) (I' := I3) (J' := J3) rfl ?_
            exact h
          · replace h := h.2 h5
            refine Wp.steps 1 (pc' := 53) (lv' := [some (.ref 0), some (.int x1), some (.int x2), some (.int x3), some (.int v3), none]) (st' := [.int v3]) (I' := I3) (J' := J3) rfl ?_
            exact Wp.ret rfl h
        · replace h := h.2.2.1 g4
          refine Wp.steps 1 (pc' := 32) (lv' := [some (.ref 0), some (.int x1), some (.int x2), some (.int x3), none, none]) (st' := [.ref 51]) (I' := I2) (J' := J2) (by rw [g4]; rfl) ?_
          refine Wp.steps 5 (pc' := 41) (lv' := [some (.ref 0), some (.int x1), some (.int x2), some (.int x3), none, none]) (st' := [.int (I2 1 2), .int x3, .int x2, .ref 51]) (I' := I2) (J' := J2) rfl ?_
          refine Wp.call (M' := Sh_fault) (as := [.ref 51, .int x2, .int x3, .int (I2 1 2)]) (rest := []) rfl (CI.use h (fun v3 I3 J3 h => ?_))
          refine Wp.eqs (pc' := 44) (st' := [.int v3]) rfl rfl ?_
          refine Wp.steps 2 (pc' := 48) (lv' := [some (.ref 0), some (.int x1), some (.int x2), some (.int x3), some (.int v3), none]) (st' := [.int v3]) (I' := I3) (J' := J3) rfl ?_
          refine Wp.steps 1 (pc' := if v3 = 0 then 54 else 51) (lv' := [some (.ref 0), some (.int x1), some (.int x2), some (.int x3), some (.int v3), none]) (st' := []) (I' := I3) (J' := J3) rfl (Wp.ite (fun h5 => ?_) (fun h5 => ?_))
          · replace h := h.1 h5
            refine Wp.steps 2 (pc' := 57) (lv' := [some (.ref 0), some (.int x1), some (.int x2), some (.int x3), some (.int v3), some (.int 0)]) (st' := []) (I' := I3) (J' := J3) rfl ?_
            exact h
          · replace h := h.2 h5
            refine Wp.steps 1 (pc' := 53) (lv' := [some (.ref 0), some (.int x1), some (.int x2), some (.int x3), some (.int v3), none]) (st' := [.int v3]) (I' := I3) (J' := J3) rfl ?_
            exact Wp.ret rfl h
        · replace h := h.2.2.2.1 g4
          refine Wp.steps 1 (pc' := 32) (lv' := [some (.ref 0), some (.int x1), some (.int x2), some (.int x3), none, none]) (st' := [.ref 53]) (I' := I2) (J' := J2) (by rw [g4]; rfl) ?_
          refine Wp.steps 5 (pc' := 41) (lv' := [some (.ref 0), some (.int x1), some (.int x2), some (.int x3), none, none]) (st' := [.int (I2 1 2), .int x3, .int x2, .ref 53]) (I' := I2) (J' := J2) rfl ?_
          refine Wp.call (M' := Sh_fault) (as := [.ref 53, .int x2, .int x3, .int (I2 1 2)]) (rest := []) rfl (CI.use h (fun v3 I3 J3 h => ?_))
          refine Wp.eqs (pc' := 44) (st' := [.int v3]) rfl rfl ?_
          refine Wp.steps 2 (pc' := 48) (lv' := [some (.ref 0), some (.int x1), some (.int x2), some (.int x3), some (.int v3), none]) (st' := [.int v3]) (I' := I3) (J' := J3) rfl ?_
          refine Wp.steps 1 (pc' := if v3 = 0 then 54 else 51) (lv' := [some (.ref 0), some (.int x1), some (.int x2), some (.int x3), some (.int v3), none]) (st' := []) (I' := I3) (J' := J3) rfl (Wp.ite (fun h5 => ?_) (fun h5 => ?_))
          · replace h := h.1 h5
            refine Wp.steps 2 (pc' := 57) (lv' := [some (.ref 0), some (.int x1), some (.int x2), some (.int x3), some (.int v3), some (.int 0)]) (st' := []) (I' := I3) (J' := J3) rfl ?_
            exact h
          · replace h := h.2 h5
            refine Wp.steps 1 (pc' := 53) (lv' := [some (.ref 0), some (.int x1), some (.int x2), some (.int x3), some (.int v3), none]) (st' := [.int v3]) (I' := I3) (J' := J3) rfl ?_
            exact Wp.ret rfl h
        · replace h := h.2.2.2.2 g4
          refine Wp.steps 1 (pc' := 32) (lv' := [some (.ref 0), some (.int x1), some (.int x2), some (.int x3), none, none]) (st' := [.ref 55]) (I' := I2) (J' := J2) (by rw [g4]; rfl) ?_
          refine Wp.steps 5 (pc' := 41) (lv' := [some (.ref 0), some (.int x1), some (.int x2), some (.int x3), none, none]) (st' := [.int (I2 1 2), .int x3, .int x2, .ref 55]) (I' := I2) (J' := J2) rfl ?_
          refine Wp.call (M' := Sh_fault) (as := [.ref 55, .int x2, .int x3, .int (I2 1 2)]) (rest := []) rfl (CI.use h (fun v3 I3 J3 h => ?_))
          refine Wp.eqs (pc' := 44) (st' := [.int v3]) rfl rfl ?_
          refine Wp.steps 2 (pc' := 48) (lv' := [some (.ref 0), some (.int x1), some (.int x2), some (.int x3), some (.int v3), none]) (st' := [.int v3]) (I' := I3) (J' := J3) rfl ?_
          refine Wp.steps 1 (pc' := if v3 = 0 then 54 else 51) (lv' := [some (.ref 0), some (.int x1), some (.int x2), some (.int x3), some (.int v3), none]) (st' := []) (I' := I3) (J' := J3) rfl (Wp.ite (fun h5 => ?_) (fun h5 => ?_))
          · replace h := h.1 h5
            refine Wp.steps 2 (pc' := 57) (lv' := [some (.ref 0), some (.int x1), some (.int x2), some (.int x3), some (.int v3), some (.int 0)]) (st' := []) (I' := I3) (J' := J3) rfl ?_
            exact h
          · replace h := h.2 h5
            refine Wp.steps 1 (pc' := 53) (lv' := [some (.ref 0), some (.int x1), some (.int x2), some (.int x3), some (.int v3), none]) (st' := [.int v3]) (I' := I3) (J' := J3) rfl ?_
            exact Wp.ret rfl h
theorem v_Sb_film_0_57 {d : Nat} {Q : Post} {I : I2} {J : J2} {x1 : Int32} {x2 : Int32} {x3 : Int32} {x4 : Int32} {x5 : Int32} (h : (x5 < (I 1 2) → vp_in x1 4 ∧ (x1 = 0 → CI d Sb_placeIn [.int (I 1 9), .int x5] I J (fun v1 I1 J1 => CV d Sh_put [.ref 49, .int (x3 + x5), .long (Int32.toInt64 v1)] I1 J1 (fun I2 J2 => Wp d Sb_film Q 57 [some (.ref 0), some (.int x1), some (.int x2), some (.int x3), some (.int x4), some (.int (x5 + 1))] [] I2 J2))) ∧ (x1 = 1 → CI d Sb_placeIn [.int (I 1 9), .int x5] I J (fun v1 I1 J1 => CV d Sh_put [.ref 51, .int (x3 + x5), .long (Int32.toInt64 v1)] I1 J1 (fun I2 J2 => Wp d Sb_film Q 57 [some (.ref 0), some (.int x1), some (.int x2), some (.int x3), some (.int x4), some (.int (x5 + 1))] [] I2 J2))) ∧ (x1 = 2 → CI d Sb_placeIn [.int (I 1 9), .int x5] I J (fun v1 I1 J1 => CV d Sh_put [.ref 53, .int (x3 + x5), .long (Int32.toInt64 v1)] I1 J1 (fun I2 J2 => Wp d Sb_film Q 57 [some (.ref 0), some (.int x1), some (.int x2), some (.int x3), some (.int x4), some (.int (x5 + 1))] [] I2 J2))) ∧ (x1 = 3 → CI d Sb_placeIn [.int (I 1 9), .int x5] I J (fun v1 I1 J1 => CV d Sh_put [.ref 55, .int (x3 + x5), .long (Int32.toInt64 v1)] I1 J1 (fun I2 J2 => Wp d Sb_film Q 57 [some (.ref 0), some (.int x1), some (.int x2), some (.int x3), some (.int x4), some (.int (x5 + 1))] [] I2 J2)))) ∧ (¬ (x5 < (I 1 2)) → Q (some (.int (I 1 2))) I J)) : Wp d Sb_film Q 57 [some (.ref 0), some (.int x1), some (.int x2), some (.int x3), some (.int x4), some (.int x5)] [] I J := by
  refine Wp.steps 4 (pc' := 66) (lv' := [some (.ref 0), some (.int x1), some (.int x2), some (.int x3), some (.int x4), some (.int x5)]) (st' := [.int (I 1 2), .int x5]) (I' := I) (J' := J) rfl ?_
  refine Wp.steps 1 (pc' := if x5 < (I 1 2) then 69 else 101) (lv' := [some (.ref 0), some (.int x1), some (.int x2), some (.int x3), some (.int x4), some (.int x5)]) (st' := []) (I' := I) (J' := J) rfl (Wp.ite (fun h1 => ?_) (fun h1 => ?_))
  · replace h := h.1 h1
    refine Wp.steps 3 (pc' := 74) (lv' := [some (.ref 0), some (.int x1), some (.int x2), some (.int x3), some (.int x4), some (.int x5)]) (st' := [.int x1, .ref 48]) (I' := I) (J' := J) rfl ?_
    rcases vp_4 h.1 with g2 | g2 | g2 | g2
    · replace h := h.2.1 g2
      refine Wp.steps 1 (pc' := 75) (lv' := [some (.ref 0), some (.int x1), some (.int x2), some (.int x3), some (.int x4), some (.int x5)]) (st' := [.ref 49]) (I' := I) (J' := J) (by rw [g2]; rfl) ?_
      refine Wp.steps 7 (pc' := 88) (lv' := [some (.ref 0), some (.int x1), some (.int x2), some (.int x3), some (.int x4), some (.int x5)]) (st' := [.int x5, .int (I 1 9), .int (x3 + x5), .ref 49]) (I' := I) (J' := J) rfl ?_
      refine Wp.call (M' := Sb_placeIn) (as := [.int (I 1 9), .int x5]) (rest := [.int (x3 + x5), .ref 49]) rfl (CI.use h (fun v1 I1 J1 h => ?_))
      refine Wp.eqs (pc' := 91) (st' := [.int v1, .int (x3 + x5), .ref 49]) rfl rfl ?_
      refine Wp.steps 1 (pc' := 92) (lv' := [some (.ref 0), some (.int x1), some (.int x2), some (.int x3), some (.int x4), some (.int x5)]) (st' := [.long (Int32.toInt64 v1), .int (x3 + x5), .ref 49]) (I' := I1) (J' := J1) rfl ?_
      refine Wp.call (M' := Sh_put) (as := [.ref 49, .int (x3 + x5), .long (Int32.toInt64 v1)]) (rest := []) rfl (CV.use h (fun I2 J2 h => ?_))
      refine Wp.eqs (pc' := 95) (st' := []) rfl rfl ?_
      refine Wp.steps 2 (pc' := 57) (lv' := [some (.ref 0), some (.int x1), some (.int x2), some (.int x3), some (.int x4), some (.int (x5 + 1))]) (st' := []) (I' := I2) (J' := J2) rfl ?_
      exact h
    · replace h := h.2.2.1 g2
      refine Wp.steps 1 (pc' := 75) (lv' := [some (.ref 0), some (.int x1), some (.int x2), some (.int x3), some (.int x4), some (.int x5)]) (st' := [.ref 51]) (I' := I) (J' := J) (by rw [g2]; rfl) ?_
      refine Wp.steps 7 (pc' := 88) (lv' := [some (.ref 0), some (.int x1), some (.int x2), some (.int x3), some (.int x4), some (.int x5)]) (st' := [.int x5, .int (I 1 9), .int (x3 + x5), .ref 51]) (I' := I) (J' := J) rfl ?_
      refine Wp.call (M' := Sb_placeIn) (as := [.int (I 1 9), .int x5]) (rest := [.int (x3 + x5), .ref 51]) rfl (CI.use h (fun v1 I1 J1 h => ?_))
      refine Wp.eqs (pc' := 91) (st' := [.int v1, .int (x3 + x5), .ref 51]) rfl rfl ?_
      refine Wp.steps 1 (pc' := 92) (lv' := [some (.ref 0), some (.int x1), some (.int x2), some (.int x3), some (.int x4), some (.int x5)]) (st' := [.long (Int32.toInt64 v1), .int (x3 + x5), .ref 51]) (I' := I1) (J' := J1) rfl ?_
      refine Wp.call (M' := Sh_put) (as := [.ref 51, .int (x3 + x5), .long (Int32.toInt64 v1)]) (rest := []) rfl (CV.use h (fun I2 J2 h => ?_))
      refine Wp.eqs (pc' := 95) (st' := []) rfl rfl ?_
      refine Wp.steps 2 (pc' := 57) (lv' := [some (.ref 0), some (.int x1), some (.int x2), some (.int x3), some (.int x4), some (.int (x5 + 1))]) (st' := []) (I' := I2) (J' := J2) rfl ?_
      exact h
    · replace h := h.2.2.2.1 g2
      refine Wp.steps 1 (pc' := 75) (lv' := [some (.ref 0), some (.int x1), some (.int x2), some (.int x3), some (.int x4), some (.int x5)]) (st' := [.ref 53]) (I' := I) (J' := J) (by rw [g2]; rfl) ?_
      refine Wp.steps 7 (pc' := 88) (lv' := [some (.ref 0), some (.int x1), some (.int x2), some (.int x3), some (.int x4), some (.int x5)]) (st' := [.int x5, .int (I 1 9), .int (x3 + x5), .ref 53]) (I' := I) (J' := J) rfl ?_
      refine Wp.call (M' := Sb_placeIn) (as := [.int (I 1 9), .int x5]) (rest := [.int (x3 + x5), .ref 53]) rfl (CI.use h (fun v1 I1 J1 h => ?_))
      refine Wp.eqs (pc' := 91) (st' := [.int v1, .int (x3 + x5), .ref 53]) rfl rfl ?_
      refine Wp.steps 1 (pc' := 92) (lv' := [some (.ref 0), some (.int x1), some (.int x2), some (.int x3), some (.int x4), some (.int x5)]) (st' := [.long (Int32.toInt64 v1), .int (x3 + x5), .ref 53]) (I' := I1) (J' := J1) rfl ?_
      refine Wp.call (M' := Sh_put) (as := [.ref 53, .int (x3 + x5), .long (Int32.toInt64 v1)]) (rest := []) rfl (CV.use h (fun I2 J2 h => ?_))
      refine Wp.eqs (pc' := 95) (st' := []) rfl rfl ?_
      refine Wp.steps 2 (pc' := 57) (lv' := [some (.ref 0), some (.int x1), some (.int x2), some (.int x3), some (.int x4), some (.int (x5 + 1))]) (st' := []) (I' := I2) (J' := J2) rfl ?_
      exact h
    · replace h := h.2.2.2.2 g2
      refine Wp.steps 1 (pc' := 75) (lv' := [some (.ref 0), some (.int x1), some (.int x2), some (.int x3), some (.int x4), some (.int x5)]) (st' := [.ref 55]) (I' := I) (J' := J) (by rw [g2]; rfl) ?_
      refine Wp.steps 7 (pc' := 88) (lv' := [some (.ref 0), some (.int x1), some (.int x2), some (.int x3), some (.int x4), some (.int x5)]) (st' := [.int x5, .int (I 1 9), .int (x3 + x5), .ref 55]) (I' := I) (J' := J) rfl ?_
      refine Wp.call (M' := Sb_placeIn) (as := [.int (I 1 9), .int x5]) (rest := [.int (x3 + x5), .ref 55]) rfl (CI.use h (fun v1 I1 J1 h => ?_))
      refine Wp.eqs (pc' := 91) (st' := [.int v1, .int (x3 + x5), .ref 55]) rfl rfl ?_
      refine Wp.steps 1 (pc' := 92) (lv' := [some (.ref 0), some (.int x1), some (.int x2), some (.int x3), some (.int x4), some (.int x5)]) (st' := [.long (Int32.toInt64 v1), .int (x3 + x5), .ref 55]) (I' := I1) (J' := J1) rfl ?_
      refine Wp.call (M' := Sh_put) (as := [.ref 55, .int (x3 + x5), .long (Int32.toInt64 v1)]) (rest := []) rfl (CV.use h (fun I2 J2 h => ?_))
      refine Wp.eqs (pc' := 95) (st' := []) rfl rfl ?_
      refine Wp.steps 2 (pc' := 57) (lv' := [some (.ref 0), some (.int x1), some (.int x2), some (.int x3), some (.int x4), some (.int (x5 + 1))]) (st' := []) (I' := I2) (J' := J2) rfl ?_
      exact h
  · replace h := h.2 h1
    refine Wp.steps 3 (pc' := 108) (lv' := [some (.ref 0), some (.int x1), some (.int x2), some (.int x3), some (.int x4), some (.int x5)]) (st' := [.int (I 1 2)]) (I' := I) (J' := J) rfl ?_
    exact Wp.ret rfl h
theorem v_Sb_sheet_0_0 {d : Nat} {Q : Post} {I : I2} {J : J2} {x1 : Int32} {x2 : Int32} {x3 : Int32} (h : CI d Sb_isSheet [.int x1] I J (fun v1 I1 J1 => (v1 = 0 → Q (some (.int (-1))) I1 J1) ∧ (¬ (v1 = 0) → CI d Sb_isLane [.int x2] I1 J1 (fun v2 I2 J2 => (v2 = 0 → Q (some (.int (-1))) I2 J2) ∧ (¬ (v2 = 0) → (24 < x3 → Q (some (.int (-1))) I2 J2) ∧ (¬ (24 < x3) → (x3 < 0 → Q (some (.int (-14))) I2 J2) ∧ (¬ (x3 < 0) → vp_in x1 4 ∧ (x1 = 0 → CV d Sh_begin [.ref 49, .int x2, .int x3] I2 J2 (fun I3 J3 => Q (some (.int x3)) I3 J3)) ∧ (x1 = 1 → CV d Sh_begin [.ref 51, .int x2, .int x3] I2 J2 (fun I3 J3 => Q (some (.int x3)) I3 J3)) ∧ (x1 = 2 → CV d Sh_begin [.ref 53, .int x2, .int x3] I2 J2 (fun I3 J3 => Q (some (.int x3)) I3 J3)) ∧ (x1 = 3 → CV d Sh_begin [.ref 55, .int x2, .int x3] I2 J2 (fun I3 J3 => Q (some (.int x3)) I3 J3))))))))) : Wp d Sb_sheet Q 0 [some (.ref 0), some (.int x1), some (.int x2), some (.int x3)] [] I J := by
  refine Wp.steps 1 (pc' := 1) (lv' := [some (.ref 0), some (.int x1), some (.int x2), some (.int x3)]) (st' := [.int x1]) (I' := I) (J' := J) rfl ?_
  refine Wp.call (M' := Sb_isSheet) (as := [.int x1]) (rest := []) rfl (CI.use h (fun v1 I1 J1 h => ?_))
  refine Wp.eqs (pc' := 4) (st' := [.int v1]) rfl rfl ?_
  refine Wp.steps 1 (pc' := if v1 = 0 then 20 else 7) (lv' := [some (.ref 0), some (.int x1), some (.int x2), some (.int x3)]) (st' := []) (I' := I1) (J' := J1) rfl (Wp.ite (fun h1 => ?_) (fun h1 => ?_))
  · replace h := h.1 h1
    refine Wp.steps 1 (pc' := 21) (lv' := [some (.ref 0), some (.int x1), some (.int x2), some (.int x3)]) (st' := [.int (-1)]) (I' := I1) (J' := J1) rfl ?_
    exact Wp.ret rfl h
  · replace h := h.2 h1
    refine Wp.steps 1 (pc' := 8) (lv' := [some (.ref 0), some (.int x1), some (.int x2), some (.int x3)]) (st' := [.int x2]) (I' := I1) (J' := J1) rfl ?_
    refine Wp.call (M' := Sb_isLane) (as := [.int x2]) (rest := []) rfl (CI.use h (fun v2 I2 J2 h => ?_))
    refine Wp.eqs (pc' := 11) (st' := [.int v2]) rfl rfl ?_
    refine Wp.steps 1 (pc' := if v2 = 0 then 20 else 14) (lv' := [some (.ref 0), some (.int x1), some (.int x2), some (.int x3)]) (st' := []) (I' := I2) (J' := J2) rfl (Wp.ite (fun h2 => ?_) (fun h2 => ?_))
    · replace h := h.1 h2
      refine Wp.steps 1 (pc' := 21) (lv' := [some (.ref 0), some (.int x1), some (.int x2), some (.int x3)]) (st' := [.int (-1)]) (I' := I2) (J' := J2) rfl ?_
      exact Wp.ret rfl h
    · replace h := h.2 h2
      refine Wp.steps 2 (pc' := 17) (lv' := [some (.ref 0), some (.int x1), some (.int x2), some (.int x3)]) (st' := [.int 24, .int x3]) (I' := I2) (J' := J2) rfl ?_
      refine Wp.steps 1 (pc' := if 24 < x3 then 20 else 22) (lv' := [some (.ref 0), some (.int x1), some (.int x2), some (.int x3)]) (st' := []) (I' := I2) (J' := J2) rfl (Wp.ite (fun h3 => ?_) (fun h3 => ?_))
      · replace h := h.1 h3
        refine Wp.steps 1 (pc' := 21) (lv' := [some (.ref 0), some (.int x1), some (.int x2), some (.int x3)]) (st' := [.int (-1)]) (I' := I2) (J' := J2) rfl ?_
        exact Wp.ret rfl h
      · replace h := h.2 h3
        refine Wp.steps 1 (pc' := 23) (lv' := [some (.ref 0), some (.int x1), some (.int x2), some (.int x3)]) (st' := [.int x3]) (I' := I2) (J' := J2) rfl ?_
        refine Wp.steps 1 (pc' := if x3 < 0 then 26 else 29) (lv' := [some (.ref 0), some (.int x1), some (.int x2), some (.int x3)]) (st' := []) (I' := I2) (J' := J2) rfl (Wp.ite (fun h4 => ?_) (fun h4 => ?_))
        · replace h := h.1 h4
          refine Wp.steps 1 (pc' := 28) (lv' := [some (.ref 0), some (.int x1), some (.int x2), some (.int x3)]) (st' := [.int (-14)]) (I' := I2) (J' := J2) rfl ?_
          exact Wp.ret rfl h
        · replace h := h.2 h4
          refine Wp.steps 3 (pc' := 34) (lv' := [some (.ref 0), some (.int x1), some (.int x2), some (.int x3)]) (st' := [.int x1, .ref 48]) (I' := I2) (J' := J2) rfl ?_
          rcases vp_4 h.1 with g5 | g5 | g5 | g5
          · replace h := h.2.1 g5
            refine Wp.steps 1 (pc' := 35) (lv' := [some (.ref 0), some (.int x1), some (.int x2), some (.int x3)]) (st' := [.ref 49]) (I' := I2) (J' := J2) (by rw [g5]; rfl) ?_
            refine Wp.steps 2 (pc' := 37) (lv' := [some (.ref 0), some (.int x1), some (.int x2), some (.int x3)]) (st' := [.int x3, .int x2, .ref 49]) (I' := I2) (J' := J2) rfl ?_
            refine Wp.call (M' := Sh_begin) (as := [.ref 49, .int x2, .int x3]) (rest := []) rfl (CV.use h (fun I3 J3 h => ?_))
            refine Wp.eqs (pc' := 40) (st' := []) rfl rfl ?_
            refine Wp.steps 1 (pc' := 41) (lv' := [some (.ref 0), some (.int x1), some (.int x2), some (.int x3)]) (st' := [.int x3]) (I' := I3) (J' := J3) rfl ?_
            exact Wp.ret rfl h
          · replace h := h.2.2.1 g5
            refine Wp.steps 1 (pc' := 35) (lv' := [some (.ref 0), some (.int x1), some (.int x2), some (.int x3)]) (st' := [.ref 51]) (I' := I2) (J' := J2) (by rw [g5]; rfl) ?_
            refine Wp.steps 2 (pc' := 37) (lv' := [some (.ref 0), some (.int x1), some (.int x2), some (.int x3)]) (st' := [.int x3, .int x2, .ref 51]) (I' := I2) (J' := J2) rfl ?_
            refine Wp.call (M' := Sh_begin) (as := [.ref 51, .int x2, .int x3]) (rest := []) rfl (CV.use h (fun I3 J3 h => ?_))
            refine Wp.eqs (pc' := 40) (st' := []) rfl rfl ?_
            refine Wp.steps 1 (pc' := 41) (lv' := [some (.ref 0), some (.int x1), some (.int x2), some (.int x3)]) (st' := [.int x3]) (I' := I3) (J' := J3) rfl ?_
            exact Wp.ret rfl h
          · replace h := h.2.2.2.1 g5
            refine Wp.steps 1 (pc' := 35) (lv' := [some (.ref 0), some (.int x1), some (.int x2), some (.int x3)]) (st' := [.ref 53]) (I' := I2) (J' := J2) (by rw [g5]; rfl) ?_
            refine Wp.steps 2 (pc' := 37) (lv' := [some (.ref 0), some (.int x1), some (.int x2), some (.int x3)]) (st' := [.int x3, .int x2, .ref 53]) (I' := I2) (J' := J2) rfl ?_
            refine Wp.call (M' := Sh_begin) (as := [.ref 53, .int x2, .int x3]) (rest := []) rfl (CV.use h (fun I3 J3 h => ?_))
            refine Wp.eqs (pc' := 40) (st' := []) rfl rfl ?_
            refine Wp.steps 1 (pc' := 41) (lv' := [some (.ref 0), some (.int x1), some (.int x2), some (.int x3)]) (st' := [.int x3]) (I' := I3) (J' := J3) rfl ?_
            exact Wp.ret rfl h
          · replace h := h.2.2.2.2 g5
            refine Wp.steps 1 (pc' := 35) (lv' := [some (.ref 0), some (.int x1), some (.int x2), some (.int x3)]) (st' := [.ref 55]) (I' := I2) (J' := J2) (by rw [g5]; rfl) ?_
            refine Wp.steps 2 (pc' := 37) (lv' := [some (.ref 0), some (.int x1), some (.int x2), some (.int x3)]) (st' := [.int x3, .int x2, .ref 55]) (I' := I2) (J' := J2) rfl ?_
            refine Wp.call (M' := Sh_begin) (as := [.ref 55, .int x2, .int x3]) (rest := []) rfl (CV.use h (fun I3 J3 h => ?_))
            refine Wp.eqs (pc' := 40) (st' := []) rfl rfl ?_
            refine Wp.steps 1 (pc' := 41) (lv' := [some (.ref 0), some (.int x1), some (.int x2), some (.int x3)]) (st' := [.int x3]) (I' := I3) (J' := J3) rfl ?_
            exact Wp.ret rfl h
theorem v_Sb_drop_0_0 {d : Nat} {Q : Post} {I : I2} {J : J2} {x1 : Int32} (h : CI d Sb_isSheet [.int x1] I J (fun v1 I1 J1 => (v1 = 0 → Q (some (.int (-1))) I1 J1) ∧ (¬ (v1 = 0) → vp_in x1 4 ∧ (x1 = 0 → ((I1 49 0) = 0 → Q (some (.int (-11))) I1 J1) ∧ (¬ ((I1 49 0) = 0) → CI d Sh_end [.ref 49] I1 J1 (fun v2 I2 J2 => Q (some (.int v2)) I2 J2))) ∧ (x1 = 1 → ((I1 51 0) = 0 → Q (some (.int (-11))) I1 J1) ∧ (¬ ((I1 51 0) = 0) → CI d Sh_end [.ref 51] I1 J1 (fun v2 I2 J2 => Q (some (.int v2)) I2 J2))) ∧ (x1 = 2 → ((I1 53 0) = 0 → Q (some (.int (-11))) I1 J1) ∧ (¬ ((I1 53 0) = 0) → CI d Sh_end [.ref 53] I1 J1 (fun v2 I2 J2 => Q (some (.int v2)) I2 J2))) ∧ (x1 = 3 → ((I1 55 0) = 0 → Q (some (.int (-11))) I1 J1) ∧ (¬ ((I1 55 0) = 0) → CI d Sh_end [.ref 55] I1 J1 (fun v2 I2 J2 => Q (some (.int v2)) I2 J2)))))) : Wp d Sb_drop Q 0 [some (.ref 0), some (.int x1)] [] I J := by
  refine Wp.steps 1 (pc' := 1) (lv' := [some (.ref 0), some (.int x1)]) (st' := [.int x1]) (I' := I) (J' := J) rfl ?_
  refine Wp.call (M' := Sb_isSheet) (as := [.int x1]) (rest := []) rfl (CI.use h (fun v1 I1 J1 h => ?_))
  refine Wp.eqs (pc' := 4) (st' := [.int v1]) rfl rfl ?_
  refine Wp.steps 1 (pc' := if v1 = 0 then 7 else 9) (lv' := [some (.ref 0), some (.int x1)]) (st' := []) (I' := I1) (J' := J1) rfl (Wp.ite (fun h1 => ?_) (fun h1 => ?_))
  · replace h := h.1 h1
    refine Wp.steps 1 (pc' := 8) (lv' := [some (.ref 0), some (.int x1)]) (st' := [.int (-1)]) (I' := I1) (J' := J1) rfl ?_
    exact Wp.ret rfl h
  · replace h := h.2 h1
    refine Wp.steps 3 (pc' := 14) (lv' := [some (.ref 0), some (.int x1)]) (st' := [.int x1, .ref 48]) (I' := I1) (J' := J1) rfl ?_
    rcases vp_4 h.1 with g2 | g2 | g2 | g2
    · replace h := h.2.1 g2
      refine Wp.steps 1 (pc' := 15) (lv' := [some (.ref 0), some (.int x1)]) (st' := [.ref 49]) (I' := I1) (J' := J1) (by rw [g2]; rfl) ?_
      refine Wp.steps 1 (pc' := 18) (lv' := [some (.ref 0), some (.int x1)]) (st' := [.int (I1 49 0)]) (I' := I1) (J' := J1) rfl ?_
      refine Wp.steps 1 (pc' := if (I1 49 0) = 0 then 33 else 21) (lv' := [some (.ref 0), some (.int x1)]) (st' := []) (I' := I1) (J' := J1) rfl (Wp.ite (fun h3 => ?_) (fun h3 => ?_))
      · replace h := h.1 h3
        refine Wp.steps 1 (pc' := 35) (lv' := [some (.ref 0), some (.int x1)]) (st' := [.int (-11)]) (I' := I1) (J' := J1) rfl ?_
        exact Wp.ret rfl h
      · replace h := h.2 h3
        refine Wp.steps 3 (pc' := 26) (lv' := [some (.ref 0), some (.int x1)]) (st' := [.int x1, .ref 48]) (I' := I1) (J' := J1) rfl ?_
        refine Wp.steps 1 (pc' := 27) (lv' := [some (.ref 0), some (.int x1)]) (st' := [.ref 49]) (I' := I1) (J' := J1) (by rw [g2]; rfl) ?_
        refine Wp.call (M' := Sh_end) (as := [.ref 49]) (rest := []) rfl (CI.use h (fun v2 I2 J2 h => ?_))
        refine Wp.eqs (pc' := 30) (st' := [.int v2]) rfl rfl ?_
        refine Wp.steps 1 (pc' := 35) (lv' := [some (.ref 0), some (.int x1)]) (st' := [.int v2]) (I' := I2) (J' := J2) rfl ?_
        exact Wp.ret rfl h
    · replace h := h.2.2.1 g2
      refine Wp.steps 1 (pc' := 15) (lv' := [some (.ref 0), some (.int x1)]) (st' := [.ref 51]) (I' := I1) (J' := J1) (by rw [g2]; rfl) ?_
      refine Wp.steps 1 (pc' := 18) (lv' := [some (.ref 0), some (.int x1)]) (st' := [.int (I1 51 0)]) (I' := I1) (J' := J1) rfl ?_
      refine Wp.steps 1 (pc' := if (I1 51 0) = 0 then 33 else 21) (lv' := [some (.ref 0), some (.int x1)]) (st' := []) (I' := I1) (J' := J1) rfl (Wp.ite (fun h3 => ?_) (fun h3 => ?_))
      · replace h := h.1 h3
        refine Wp.steps 1 (pc' := 35) (lv' := [some (.ref 0), some (.int x1)]) (st' := [.int (-11)]) (I' := I1) (J' := J1) rfl ?_
        exact Wp.ret rfl h
      · replace h := h.2 h3
        refine Wp.steps 3 (pc' := 26) (lv' := [some (.ref 0), some (.int x1)]) (st' := [.int x1, .ref 48]) (I' := I1) (J' := J1) rfl ?_
        refine Wp.steps 1 (pc' := 27) (lv' := [some (.ref 0), some (.int x1)]) (st' := [.ref 51]) (I' := I1) (J' := J1) (by rw [g2]; rfl) ?_
        refine Wp.call (M' := Sh_end) (as := [.ref 51]) (rest := []) rfl (CI.use h (fun v2 I2 J2 h => ?_))
        refine Wp.eqs (pc' := 30) (st' := [.int v2]) rfl rfl ?_
        refine Wp.steps 1 (pc' := 35) (lv' := [some (.ref 0), some (.int x1)]) (st' := [.int v2]) (I' := I2) (J' := J2) rfl ?_
        exact Wp.ret rfl h
    · replace h := h.2.2.2.1 g2
      refine Wp.steps 1 (pc' := 15) (lv' := [some (.ref 0), some (.int x1)]) (st' := [.ref 53]) (I' := I1) (J' := J1) (by rw [g2]; rfl) ?_
      refine Wp.steps 1 (pc' := 18) (lv' := [some (.ref 0), some (.int x1)]) (st' := [.int (I1 53 0)]) (I' := I1) (J' := J1) rfl ?_
      refine Wp.steps 1 (pc' := if (I1 53 0) = 0 then 33 else 21) (lv' := [some (.ref 0), some (.int x1)]) (st' := []) (I' := I1) (J' := J1) rfl (Wp.ite (fun h3 => ?_) (fun h3 => ?_))
      · replace h := h.1 h3
        refine Wp.steps 1 (pc' := 35) (lv' := [some (.ref 0), some (.int x1)]) (st' := [.int (-11)]) (I' := I1) (J' := J1) rfl ?_
        exact Wp.ret rfl h
      · replace h := h.2 h3
        refine Wp.steps 3 (pc' := 26) (lv' := [some (.ref 0), some (.int x1)]) (st' := [.int x1, .ref 48]) (I' := I1) (J' := J1) rfl ?_
        refine Wp.steps 1 (pc' := 27) (lv' := [some (.ref 0), some (.int x1)]) (st' := [.ref 53]) (I' := I1) (J' := J1) (by rw [g2]; rfl) ?_
        refine Wp.call (M' := Sh_end) (as := [.ref 53]) (rest := []) rfl (CI.use h (fun v2 I2 J2 h => ?_))
        refine Wp.eqs (pc' := 30) (st' := [.int v2]) rfl rfl ?_
        refine Wp.steps 1 (pc' := 35) (lv' := [some (.ref 0), some (.int x1)]) (st' := [.int v2]) (I' := I2) (J' := J2) rfl ?_
        exact Wp.ret rfl h
    · replace h := h.2.2.2.2 g2
      refine Wp.steps 1 (pc' := 15) (lv' := [some (.ref 0), some (.int x1)]) (st' := [.ref 55]) (I' := I1) (J' := J1) (by rw [g2]; rfl) ?_
      refine Wp.steps 1 (pc' := 18) (lv' := [some (.ref 0), some (.int x1)]) (st' := [.int (I1 55 0)]) (I' := I1) (J' := J1) rfl ?_
      refine Wp.steps 1 (pc' := if (I1 55 0) = 0 then 33 else 21) (lv' := [some (.ref 0), some (.int x1)]) (st' := []) (I' := I1) (J' := J1) rfl (Wp.ite (fun h3 => ?_) (fun h3 => ?_))
      · replace h := h.1 h3
        refine Wp.steps 1 (pc' := 35) (lv' := [some (.ref 0), some (.int x1)]) (st' := [.int (-11)]) (I' := I1) (J' := J1) rfl ?_
        exact Wp.ret rfl h
      · replace h := h.2 h3
        refine Wp.steps 3 (pc' := 26) (lv' := [some (.ref 0), some (.int x1)]) (st' := [.int x1, .ref 48]) (I' := I1) (J' := J1) rfl ?_
        refine Wp.steps 1 (pc' := 27) (lv' := [some (.ref 0), some (.int x1)]) (st' := [.ref 55]) (I' := I1) (J' := J1) (by rw [g2]; rfl) ?_
        refine Wp.call (M' := Sh_end) (as := [.ref 55]) (rest := []) rfl (CI.use h (fun v2 I2 J2 h => ?_))
        refine Wp.eqs (pc' := 30) (st' := [.int v2]) rfl rfl ?_
        refine Wp.steps 1 (pc' := 35) (lv' := [some (.ref 0), some (.int x1)]) (st' := [.int v2]) (I' := I2) (J' := J2) rfl ?_
        exact Wp.ret rfl h
theorem v_Sb_item_0_0 {d : Nat} {Q : Post} {I : I2} {J : J2} {x1 : Int32} {x2 : Int32} {x3 : Int32} {x4 : Int64} (h : CI d Sb_isSheet [.int x1] I J (fun v1 I1 J1 => (v1 = 0 → Q (some (.int (-1))) I1 J1) ∧ (¬ (v1 = 0) → CI d Sb_isLane [.int x2] I1 J1 (fun v2 I2 J2 => (v2 = 0 → Q (some (.int (-1))) I2 J2) ∧ (¬ (v2 = 0) → vp_in x1 4 ∧ (x1 = 0 → CI d Sh_fault [.ref 49, .int x2, .int x3, .int 1] I2 J2 (fun v3 I3 J3 => (v3 = 0 → CV d Sh_put [.ref 49, .int x3, .long x4] I3 J3 (fun I4 J4 => Q (some (.int 1)) I4 J4)) ∧ (¬ (v3 = 0) → Q (some (.int v3)) I3 J3))) ∧ (x1 = 1 → CI d Sh_fault [.ref 51, .int x2, .int x3, .int 1] I2 J2 (fun v3 I3 J3 => (v3 = 0 → CV d Sh_put [.ref 51, .int x3, .long x4] I3 J3 (fun I4 J4 => Q (some (.int 1)) I4 J4)) ∧ (¬ (v3 = 0) → Q (some (.int v3)) I3 J3))) ∧ (x1 = 2 → CI d Sh_fault [.ref 53, .int x2, .int x3, .int 1] I2 J2 (fun v3 I3 J3 => (v3 = 0 → CV d Sh_put [.ref 53, .int x3, .long x4] I3 J3 (fun I4 J4 => Q (some (.int 1)) I4 J4)) ∧ (¬ (v3 = 0) → Q (some (.int v3)) I3 J3))) ∧ (x1 = 3 → CI d Sh_fault [.ref 55, .int x2, .int x3, .int 1] I2 J2 (fun v3 I3 J3 => (v3 = 0 → CV d Sh_put [.ref 55, .int x3, .long x4] I3 J3 (fun I4 J4 => Q (some (.int 1)) I4 J4)) ∧ (¬ (v3 = 0) → Q (some (.int v3)) I3 J3)))))))) : Wp d Sb_item Q 0 [some (.ref 0), some (.int x1), some (.int x2), some (.int x3), some (.long x4), none, none] [] I J := by
  refine Wp.steps 1 (pc' := 1) (lv' := [some (.ref 0), some (.int x1), some (.int x2), some (.int x3), some (.long x4), none, none]) (st' := [.int x1]) (I' := I) (J' := J) rfl ?_
  refine Wp.call (M' := Sb_isSheet) (as := [.int x1]) (rest := []) rfl (CI.use h (fun v1 I1 J1 h => ?_))
  refine Wp.eqs (pc' := 4) (st' := [.int v1]) rfl rfl ?_
  refine Wp.steps 1 (pc' := if v1 = 0 then 14 else 7) (lv' := [some (.ref 0), some (.int x1), some (.int x2), some (.int x3), some (.long x4), none, none]) (st' := []) (I' := I1) (J' := J1) rfl (Wp.ite (fun h1 => ?_) (fun h1 => ?_))
  · replace h := h.1 h1
    refine Wp.steps 1 (pc' := 15) (lv' := [some (.ref 0), some (.int x1), some (.int x2), some (.int x3), some (.long x4), none, none]) (st' := [.int (-1)]) (I' := I1) (J' := J1) rfl ?_
    exact Wp.ret rfl h
  · replace h := h.2 h1
    refine Wp.steps 1 (pc' := 8) (lv' := [some (.ref 0), some (.int x1), some (.int x2), some (.int x3), some (.long x4), none, none]) (st' := [.int x2]) (I' := I1) (J' := J1) rfl ?_
    refine Wp.call (M' := Sb_isLane) (as := [.int x2]) (rest := []) rfl (CI.use h (fun v2 I2 J2 h => ?_))
    refine Wp.eqs (pc' := 11) (st' := [.int v2]) rfl rfl ?_
    refine Wp.steps 1 (pc' := if v2 = 0 then 14 else 16) (lv' := [some (.ref 0), some (.int x1), some (.int x2), some (.int x3), some (.long x4), none, none]) (st' := []) (I' := I2) (J' := J2) rfl (Wp.ite (fun h2 => ?_) (fun h2 => ?_))
    · replace h := h.1 h2
      refine Wp.steps 1 (pc' := 15) (lv' := [some (.ref 0), some (.int x1), some (.int x2), some (.int x3), some (.long x4), none, none]) (st' := [.int (-1)]) (I' := I2) (J' := J2) rfl ?_
      exact Wp.ret rfl h
    · replace h := h.2 h2
      refine Wp.steps 3 (pc' := 21) (lv' := [some (.ref 0), some (.int x1), some (.int x2), some (.int x3), some (.long x4), none, none]) (st' := [.int x1, .ref 48]) (I' := I2) (J' := J2) rfl ?_
      rcases vp_4 h.1 with g3 | g3 | g3 | g3
      · replace h := h.2.1 g3
        refine Wp.steps 1 (pc' := 22) (lv' := [some (.ref 0), some (.int x1), some (.int x2), some (.int x3), some (.long x4), none, none]) (st' := [.ref 49]) (I' := I2) (J' := J2) (by rw [g3]; rfl) ?_
        refine Wp.steps 3 (pc' := 25) (lv' := [some (.ref 0), some (.int x1), some (.int x2), some (.int x3), some (.long x4), none, none]) (st' := [.int 1, .int x3, .int x2, .ref 49]) (I' := I2) (J' := J2) rfl ?_
        refine Wp.call (M' := Sh_fault) (as := [.ref 49, .int x2, .int x3, .int 1]) (rest := []) rfl (CI.use h (fun v3 I3 J3 h => ?_))
        refine Wp.eqs (pc' := 28) (st' := [.int v3]) rfl rfl ?_
        refine Wp.steps 2 (pc' := 32) (lv' := [some (.ref 0), some (.int x1), some (.int x2), some (.int x3), some (.long x4), none, some (.int v3)]) (st' := [.int v3]) (I' := I3) (J' := J3) rfl ?_
        refine Wp.steps 1 (pc' := if v3 = 0 then 38 else 35) (lv' := [some (.ref 0), some (.int x1), some (.int x2), some (.int x3), some (.long x4), none, some (.int v3)]) (st' := []) (I' := I3) (J' := J3) rfl (Wp.ite (fun h4 => ?_) (fun h4 => ?_))
        · replace h := h.1 h4
          refine Wp.steps 3 (pc' := 43) (lv' := [some (.ref 0), some (.int x1), some (.int x2), some (.int x3), some (.long x4), none, some (.int v3)]) (st' := [.int x1, .ref 48]) (I' := I3) (J' := J3) rfl ?_
          refine Wp.steps 1 (pc' := 44) (lv' := [some (.ref 0), some (.int x1), some (.int x2), some (.int x3), some (.long x4), none, some (.int v3)]) (st' := [.ref 49]) (I' := I3) (J' := J3) (by rw [g3]; rfl) ?_
          refine Wp.steps 2 (pc' := 47) (lv' := [some (.ref 0), some (.int x1), some (.int x2), some (.int x3), some (.long x4), none, some (.int v3)]) (st' := [.long x4, .int x3, .ref 49]) (I' := I3) (J' := J3) rfl ?_
          refine Wp.call (M' := Sh_put) (as := [.ref 49, .int x3, .long x4]) (rest := []) rfl (CV.use h (fun I4 J4 h => ?_))
          refine Wp.eqs (pc' := 50) (st' := []) rfl rfl ?_
          refine Wp.steps 1 (pc' := 51) (lv' := [some (.ref 0), some (.int x1), some (.int x2), some (.int x3), some (.long x4), none, some (.int v3)]) (st' := [.int 1]) (I' := I4) (J' := J4) rfl ?_
          exact Wp.ret rfl h
        · replace h := h.2 h4
          refine Wp.steps 1 (pc' := 37) (lv' := [some (.ref 0), some (.int x1), some (.int x2), some (.int x3), some (.long x4), none, some (.int v3)]) (st' := [.int v3]) (I' := I3) (J' := J3) rfl ?_
          exact Wp.ret rfl h
      · replace h := h.2.2.1 g3
        refine Wp.steps 1 (pc' := 22) (lv' := [some (.ref 0), some (.int x1), some (.int x2), some (.int x3), some (.long x4), none, none]) (st' := [.ref 51]) (I' := I2) (J' := J2) (by rw [g3]; rfl) ?_
        refine Wp.steps 3 (pc' := 25) (lv' := [some (.ref 0), some (.int x1), some (.int x2), some (.int x3), some (.long x4), none, none]) (st' := [.int 1, .int x3, .int x2, .ref 51]) (I' := I2) (J' := J2) rfl ?_
        refine Wp.call (M' := Sh_fault) (as := [.ref 51, .int x2, .int x3, .int 1]) (rest := []) rfl (CI.use h (fun v3 I3 J3 h => ?_))
        refine Wp.eqs (pc' := 28) (st' := [.int v3]) rfl rfl ?_
        refine Wp.steps 2 (pc' := 32) (lv' := [some (.ref 0), some (.int x1), some (.int x2), some (.int x3), some (.long x4), none, some (.int v3)]) (st' := [.int v3]) (I' := I3) (J' := J3) rfl ?_
        refine Wp.steps 1 (pc' := if v3 = 0 then 38 else 35) (lv' := [some (.ref 0), some (.int x1), some (.int x2), some (.int x3), some (.long x4), none, some (.int v3)]) (st' := []) (I' := I3) (J' := J3) rfl (Wp.ite (fun h4 => ?_) (fun h4 => ?_))
        · replace h := h.1 h4
          refine Wp.steps 3 (pc' := 43) (lv' := [some (.ref 0), some (.int x1), some (.int x2), some (.int x3), some (.long x4), none, some (.int v3)]) (st' := [.int x1, .ref 48]) (I' := I3) (J' := J3) rfl ?_
          refine Wp.steps 1 (pc' := 44) (lv' := [some (.ref 0), some (.int x1), some (.int x2), some (.int x3), some (.long x4), none, some (.int v3)]) (st' := [.ref 51]) (I' := I3) (J' := J3) (by rw [g3]; rfl) ?_
          refine Wp.steps 2 (pc' := 47) (lv' := [some (.ref 0), some (.int x1), some (.int x2), some (.int x3), some (.long x4), none, some (.int v3)]) (st' := [.long x4, .int x3, .ref 51]) (I' := I3) (J' := J3) rfl ?_
          refine Wp.call (M' := Sh_put) (as := [.ref 51, .int x3, .long x4]) (rest := []) rfl (CV.use h (fun I4 J4 h => ?_))
          refine Wp.eqs (pc' := 50) (st' := []) rfl rfl ?_
          refine Wp.steps 1 (pc' := 51) (lv' := [some (.ref 0), some (.int x1), some (.int x2), some (.int x3), some (.long x4), none, some (.int v3)]) (st' := [.int 1]) (I' := I4) (J' := J4) rfl ?_
          exact Wp.ret rfl h
        · replace h := h.2 h4
          refine Wp.steps 1 (pc' := 37) (lv' := [some (.ref 0), some (.int x1), some (.int x2), some (.int x3), some (.long x4), none, some (.int v3)]) (st' := [.int v3]) (I' := I3) (J' := J3) rfl ?_
          exact Wp.ret rfl h
      · replace h := h.2.2.2.1 g3
        refine Wp.steps 1 (pc' := 22) (lv' := [some (.ref 0), some (.int x1), some (.int x2), some (.int x3), some (.long x4), none, none]) (st' := [.ref 53]) (I' := I2) (J' := J2) (by rw [g3]; rfl) ?_
        refine Wp.steps 3 (pc' := 25) (lv' := [some (.ref 0), some (.int x1), some (.int x2), some (.int x3), some (.long x4), none, none]) (st' := [.int 1, .int x3, .int x2, .ref 53]) (I' := I2) (J' := J2) rfl ?_
        refine Wp.call (M' := Sh_fault) (as := [.ref 53, .int x2, .int x3, .int 1]) (rest := []) rfl (CI.use h (fun v3 I3 J3 h => ?_))
        refine Wp.eqs (pc' := 28) (st' := [.int v3]) rfl rfl ?_
        refine Wp.steps 2 (pc' := 32) (lv' := [some (.ref 0), some (.int x1), some (.int x2), some (.int x3), some (.long x4), none, some (.int v3)]) (st' := [.int v3]) (I' := I3) (J' := J3) rfl ?_
        refine Wp.steps 1 (pc' := if v3 = 0 then 38 else 35) (lv' := [some (.ref 0), some (.int x1), some (.int x2), some (.int x3), some (.long x4), none, some (.int v3)]) (st' := []) (I' := I3) (J' := J3) rfl (Wp.ite (fun h4 => ?_) (fun h4 => ?_))
        · replace h := h.1 h4
          refine Wp.steps 3 (pc' := 43) (lv' := [some (.ref 0), some (.int x1), some (.int x2), some (.int x3), some (.long x4), none, some (.int v3)]) (st' := [.int x1, .ref 48]) (I' := I3) (J' := J3) rfl ?_
          refine Wp.steps 1 (pc' := 44) (lv' := [some (.ref 0), some (.int x1), some (.int x2), some (.int x3), some (.long x4), none, some (.int v3)]) (st' := [.ref 53]) (I' := I3) (J' := J3) (by rw [g3]; rfl) ?_
          refine Wp.steps 2 (pc' := 47) (lv' := [some (.ref 0), some (.int x1), some (.int x2), some (.int x3), some (.long x4), none, some (.int v3)]) (st' := [.long x4, .int x3, .ref 53]) (I' := I3) (J' := J3) rfl ?_
          refine Wp.call (M' := Sh_put) (as := [.ref 53, .int x3, .long x4]) (rest := []) rfl (CV.use h (fun I4 J4 h => ?_))
          refine Wp.eqs (pc' := 50) (st' := []) rfl rfl ?_
          refine Wp.steps 1 (pc' := 51) (lv' := [some (.ref 0), some (.int x1), some (.int x2), some (.int x3), some (.long x4), none, some (.int v3)]) (st' := [.int 1]) (I' := I4) (J' := J4) rfl ?_
          exact Wp.ret rfl h
        · replace h := h.2 h4
          refine Wp.steps 1 (pc' := 37) (lv' := [some (.ref 0), some (.int x1), some (.int x2), some (.int x3), some (.long x4), none, some (.int v3)]) (st' := [.int v3]) (I' := I3) (J' := J3) rfl ?_
          exact Wp.ret rfl h
      · replace h := h.2.2.2.2 g3
        refine Wp.steps 1 (pc' := 22) (lv' := [some (.ref 0), some (.int x1), some (.int x2), some (.int x3), some (.long x4), none, none]) (st' := [.ref 55]) (I' := I2) (J' := J2) (by rw [g3]; rfl) ?_
        refine Wp.steps 3 (pc' := 25) (lv' := [some (.ref 0), some (.int x1), some (.int x2), some (.int x3), some (.long x4), none, none]) (st' := [.int 1, .int x3, .int x2, .ref 55]) (I' := I2) (J' := J2) rfl ?_
        refine Wp.call (M' := Sh_fault) (as := [.ref 55, .int x2, .int x3, .int 1]) (rest := []) rfl (CI.use h (fun v3 I3 J3 h => ?_))
        refine Wp.eqs (pc' := 28) (st' := [.int v3]) rfl rfl ?_
        refine Wp.steps 2 (pc' := 32) (lv' := [some (.ref 0), some (.int x1), some (.int x2), some (.int x3), some (.long x4), none, some (.int v3)]) (st' := [.int v3]) (I' := I3) (J' := J3) rfl ?_
        refine Wp.steps 1 (pc' := if v3 = 0 then 38 else 35) (lv' := [some (.ref 0), some (.int x1), some (.int x2), some (.int x3), some (.long x4), none, some (.int v3)]) (st' := []) (I' := I3) (J' := J3) rfl (Wp.ite (fun h4 => ?_) (fun h4 => ?_))
        · replace h := h.1 h4
          refine Wp.steps 3 (pc' := 43) (lv' := [some (.ref 0), some (.int x1), some (.int x2), some (.int x3), some (.long x4), none, some (.int v3)]) (st' := [.int x1, .ref 48]) (I' := I3) (J' := J3) rfl ?_
          refine Wp.steps 1 (pc' := 44) (lv' := [some (.ref 0), some (.int x1), some (.int x2), some (.int x3), some (.long x4), none, some (.int v3)]) (st' := [.ref 55]) (I' := I3) (J' := J3) (by rw [g3]; rfl) ?_
          refine Wp.steps 2 (pc' := 47) (lv' := [some (.ref 0), some (.int x1), some (.int x2), some (.int x3), some (.long x4), none, some (.int v3)]) (st' := [.long x4, .int x3, .ref 55]) (I' := I3) (J' := J3) rfl ?_
          refine Wp.call (M' := Sh_put) (as := [.ref 55, .int x3, .long x4]) (rest := []) rfl (CV.use h (fun I4 J4 h => ?_))
          refine Wp.eqs (pc' := 50) (st' := []) rfl rfl ?_
          refine Wp.steps 1 (pc' := 51) (lv' := [some (.ref 0), some (.int x1), some (.int x2), some (.int x3), some (.long x4), none, some (.int v3)]) (st' := [.int 1]) (I' := I4) (J' := J4) rfl ?_
          exact Wp.ret rfl h
        · replace h := h.2 h4
          refine Wp.steps 1 (pc' := 37) (lv' := [some (.ref 0), some (.int x1), some (.int x2), some (.int x3), some (.long x4), none, some (.int v3)]) (st' := [.int v3]) (I' := I3) (J' := J3) rfl ?_
          exact Wp.ret rfl h
