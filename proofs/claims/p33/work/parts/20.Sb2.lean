/-! what each way through a method asks (by program): Sb_film_0, Sb_key_0, Sb_files_0, Sb_game_0, Sb_fumble_0, Sb_clicks_0, Sb_placeIn, Sb_isSheet, Sb_isLane, Sb_opensWith_0, Sb_openShares_1, Sb_evenShares, Sb_greatestDivisor, Sb_areClicks_0_49 -/
theorem v_Sb_film_0_0 {d : Nat} {Q : Post} {I : I2} {J : J2} {x1 : Int32} {x2 : Int32} {x3 : Int32} (h : ((I 1 2) = 0 → Q (some (.int (-1))) I J) ∧ (¬ ((I 1 2) = 0) → CI d Sb_isSheet [.int x1] I J (fun v1 I1 J1 => (v1 = 0 → Q (some (.int (-1))) I1 J1) ∧ (¬ (v1 = 0) → CI d Sb_isLane [.int x2] I1 J1 (fun v2 I2 J2 => (v2 = 0 → Q (some (.int (-1))) I2 J2) ∧ (¬ (v2 = 0) → vp_in x1 4 ∧ (x1 = 0 → CI d Sh_fault [.ref 49, .int x2, .int x3, .int (I2 1 2)] I2 J2 (fun v3 I3 J3 => (v3 = 0 → Wp d Sb_film Q 57 [some (.ref 0), some (.int x1), some (.int x2), some (.int x3), some (.int v3), some (.int 0)] [] I3 J3) ∧ (¬ (v3 = 0) → Q (some (.int v3)) I3 J3))) ∧ (x1 = 1 → CI d Sh_fault [.ref 51, .int x2, .int x3, .int (I2 1 2)] I2 J2 (fun v3 I3 J3 => (v3 = 0 → Wp d Sb_film Q 57 [some (.ref 0), some (.int x1), some (.int x2), some (.int x3), some (.int v3), some (.int 0)] [] I3 J3) ∧ (¬ (v3 = 0) → Q (some (.int v3)) I3 J3))) ∧ (x1 = 2 → CI d Sh_fault [.ref 53, .int x2, .int x3, .int (I2 1 2)] I2 J2 (fun v3 I3 J3 => (v3 = 0 → Wp d Sb_film Q 57 [some (.ref 0), some (.int x1), some (.int x2), some (.int x3), some (.int v3), some (.int 0)] [] I3 J3) ∧ (¬ (v3 = 0) → Q (some (.int v3)) I3 J3))) ∧ (x1 = 3 → CI d Sh_fault [.ref 55, .int x2, .int x3, .int (I2 1 2)] I2 J2 (fun v3 I3 J3 => (v3 = 0 → Wp d Sb_film Q 57 [some (.ref 0), some (.int x1), some (.int x2), some (.int x3), some (.int v3), some (.int 0)] [] I3 J3) ∧ (¬ (v3 = 0) → Q (some (.int v3)) I3 J3))))))))) : Wp d Sb_film Q 0 [some (.ref 0), some (.int x1), some (.int x2), some (.int x3), none, none] [] I J := by
  refine Wp.steps 3 (pc' := 7) (lv' := [some (.ref 0), some (.int x1), some (.int x2), some (.int x3), none, none]) (st' := [.int (I 1 2)]) (I' := I) (J' := J) rfl ?_
  refine Wp.steps 1 (pc' := if (I 1 2) = 0 then 24 else 10) (lv' := [some (.ref 0), some (.int x1), some (.int x2), some (.int x3), none, none]) (st' := []) (I' := I) (J' := J) rfl (Wp.ite (fun h1 => ?_) (fun h1 => ?_))
  · replace h := h.1 h1
    refine Wp.steps 1 (pc' := 25) (lv' := [some (.ref 0), some (.int x1), some (.int x2), some (.int x3), none, none]) (st' := [.int (-1)]) (I' := I) (J' := J) rfl ?_
    exact Wp.ret rfl h
  · replace h := h.2 h1
    refine Wp.steps 1 (pc' := 11) (lv' := [some (.ref 0), some (.int x1), some (.int x2), some (.int x3), none, none]) (st' := [.int x1]) (I' := I) (J' := J) rfl ?_
    refine Wp.call (M' := Sb_isSheet) (as := [.int x1]) (rest := []) rfl (CI.use h (fun v1 I1 J1 h => ?_))
    refine Wp.eqs (pc' := 14) (st' := [.int v1]) rfl rfl ?_
    refine Wp.steps 1 (pc' := if v1 = 0 then 24 else 17) (lv' := [some (.ref 0), some (.int x1), some (.int x2), some (.int x3), none, none]) (st' := []) (I' := I1) (J' := J1) rfl (Wp.ite (fun h2 => ?_) (fun h2 => ?_))
    · replace h := h.1 h2
      refine Wp.steps 1 (pc' := 25) (lv' := [some (.ref 0), some (.int x1), some (.int x2), some (.int x3), none, none]) (st' := [.int (-1)]) (I' := I1) (J' := J1) rfl ?_
      exact Wp.ret rfl h
    · replace h := h.2 h2
      refine Wp.steps 1 (pc' := 18) (lv' := [some (.ref 0), some (.int x1), some (.int x2), some (.int x3), none, none]) (st' := [.int x2]) (I' := I1) (J' := J1) rfl ?_
      refine Wp.call (M' := Sb_isLane) (as := [.int x2]) (rest := []) rfl (CI.use h (fun v2 I2 J2 h => ?_))
      refine Wp.eqs (pc' := 21) (st' := [.int v2]) rfl rfl ?_
      refine Wp.steps 1 (pc' := if v2 = 0 then 24 else 26) (lv' := [some (.ref 0), some (.int x1), some (.int x2), some (.int x3), none, none]) (st' := []) (I' := I2) (J' := J2) rfl (Wp.ite (fun h3 => ?_) (fun h3 => ?_))
      · replace h := h.1 h3
        refine Wp.steps 1 (pc' := 25) (lv' := [some (.ref 0), some (.int x1), some (.int x2), some (.int x3), none, none]) (st' := [.int (-1)]) (I' := I2) (J' := J2) rfl ?_
        exact Wp.ret rfl h
      · replace h := h.2 h3
        refine Wp.steps 3 (pc' := 31) (lv' := [some (.ref 0), some (.int x1), some (.int x2), some (.int x3), none, none]) (st' := [.int x1, .ref 48]) (I' := I2) (J' := J2) rfl ?_
        rcases vp_4 h.1 with g4 | g4 | g4 | g4
        · replace h := h.2.1 g4
          refine Wp.steps 1 (pc' := 32) (lv' := [some (.ref 0), some (.int x1), some (.int x2), some (.int x3), none, none]) (st' := [.ref 49]) (I' := I2) (J' := J2) (by rw [g4]; rfl) ?_
          refine Wp.steps 5 (pc' := 41) (lv' := [some (.ref 0), some (.int x1), some (.int x2), some (.int x3), none, none]) (st' := [.int (I2 1 2), .int x3, .int x2, .ref 49]) (I' := I2) (J' := J2) rfl ?_
          refine Wp.call (M' := Sh_fault) (as := [.ref 49, .int x2, .int x3, .int (I2 1 2)]) (rest := []) rfl (CI.use h (fun v3 I3 J3 h => ?_))
          refine Wp.eqs (pc' := 44) (st' := [.int v3]) rfl rfl ?_
          refine Wp.steps 2 (pc' := 48) (lv' := [some (.ref 0), some (.int x1), some (.int x2), some (.int x3), some (.int v3), none]) (st' := [.int v3]) (I' := I3) (J' := J3) rfl ?_
          refine Wp.steps 1 (pc' := if v3 = 0 then 54 else 51) (lv' := [some (.ref 0), some (.int x1), some (.int x2), some (.int x3), some (.int v3), none]) (st' := []) (I' := I3) (J' := J3) rfl (Wp.ite (fun h5 => ?_) (fun h5 => ?_))
          · replace h := h.1 h5
            refine Wp.steps 2 (pc' := 57) (lv' := [some (.ref 0), some (.int x1), some (.int x2), some (.int x3), some (.int v3), some (.int 0)]) (st' := []) (I' := I3) (J' := J3) rfl ?_
            exact h
          · replace h := h.2 h5
            refine Wp.steps 1 (pc' := 53) (lv' := [some (.ref 0), some (.int x1), some (.int x2), some (.int x3), some (.int v3), none]) (st' := [.int v3]) (I' := I3) (J' := J3) rfl ?_
            exact Wp.ret rfl h
        · replace h := h.2.2.1 g4
          refine Wp.steps 1 (pc' := 32) (lv' := [some (.ref 0), some (.int x1), some (.int x2), some (.int x3), none, none]) (st' := [.ref 51]) (I' := I2) (J' := J2) (by rw [g4]; rfl) ?_
          refine Wp.steps 5 (pc' := 41) (lv' := [some (.ref 0), some (.int x1), some (.int x2), some (.int x3), none, none]) (st' := [.int (I2 1 2), .int x3, .int x2, .ref 51]) (I' := I2) (J' := J2) rfl ?_
          refine Wp.call (M' := Sh_fault) (as := [.ref 51, .int x2, .int x3, .int (I2 1 2)]) (rest := []) rfl (CI.use h (fun v3 I3 J3 h => ?_))
          refine Wp.eqs (pc' := 44) (st' := [.int v3]) rfl rfl ?_
          refine Wp.steps 2 (pc' := 48) (lv' := [some (.ref 0), some (.int x1), some (.int x2), some (.int x3), some (.int v3), none]) (st' := [.int v3]) (I' := I3) (J' := J3) rfl ?_
          refine Wp.steps 1 (pc' := if v3 = 0 then 54 else 51) (lv' := [some (.ref 0), some (.int x1), some (.int x2), some (.int x3), some (.int v3), none]) (st' := []) (I' := I3) (J' := J3) rfl (Wp.ite (fun h5 => ?_) (fun h5 => ?_))
          · replace h := h.1 h5
            refine Wp.steps 2 (pc' := 57) (lv' := [some (.ref 0), some (.int x1), some (.int x2), some (.int x3), some (.int v3), some (.int 0)]) (st' := []) (I' := I3) (J' := J3) rfl ?_
            exact h
          · replace h := h.2 h5
            refine Wp.steps 1 (pc' := 53) (lv' := [some (.ref 0), some (.int x1), some (.int x2), some (.int x3), some (.int v3), none]) (st' := [.int v3]) (I' := I3) (J' := J3) rfl ?_
            exact Wp.ret rfl h
        · replace h := h.2.2.2.1 g4
          refine Wp.steps 1 (pc' := 32) (lv' := [some (.ref 0), some (.int x1), some (.int x2), some (.int x3), none, none]) (st' := [.ref 53]) (I' := I2) (J' := J2) (by rw [g4]; rfl) ?_
          refine Wp.steps 5 (pc' := 41) (lv' := [some (.ref 0), some (.int x1), some (.int x2), some (.int x3), none, none]) (st' := [.int (I2 1 2), .int x3, .int x2, .ref 53]) (I' := I2) (J' := J2) rfl ?_
          refine Wp.call (M' := Sh_fault) (as := [.ref 53, .int x2, .int x3, .int (I2 1 2)]) (rest := []) rfl (CI.use h (fun v3 I3 J3 h => ?_))
          refine Wp.eqs (pc' := 44) (st' := [.int v3]) rfl rfl ?_
          refine Wp.steps 2 (pc' := 48) (lv' := [some (.ref 0), some (.int x1), some (.int x2), some (.int x3), some (.int v3), none]) (st' := [.int v3]) (I' := I3) (J' := J3) rfl ?_
          refine Wp.steps 1 (pc' := if v3 = 0 then 54 else 51) (lv' := [some (.ref 0), some (.int x1), some (.int x2), some (.int x3), some (.int v3), none]) (st' := []) (I' := I3) (J' := J3) rfl (Wp.ite (fun h5 => ?_) (fun h5 => ?_))
          · replace h := h.1 h5
            refine Wp.steps 2 (pc' := 57) (lv' := [some (.ref 0), some (.int x1), some (.int x2), some (.int x3), some (.int v3), some (.int 0)]) (st' := []) (I' := I3) (J' := J3) rfl ?_
            exact h
          · replace h := h.2 h5
            refine Wp.steps 1 (pc' := 53) (lv' := [some (.ref 0), some (.int x1), some (.int x2), some (.int x3), some (.int v3), none]) (st' := [.int v3]) (I' := I3) (J' := J3) rfl ?_
            exact Wp.ret rfl h
        · replace h := h.2.2.2.2 g4
          refine Wp.steps 1 (pc' := 32) (lv' := [some (.ref 0), some (.int x1), some (.int x2), some (.int x3), none, none]) (st' := [.ref 55]) (I' := I2) (J' := J2) (by rw [g4]; rfl) ?_
          refine Wp.steps 5 (pc' := 41) (lv' := [some (.ref 0), some (.int x1), some (.int x2), some (.int x3), none, none]) (st' := [.int (I2 1 2), .int x3, .int x2, .ref 55]) (I' := I2) (J' := J2) rfl ?_
          refine Wp.call (M' := Sh_fault) (as := [.ref 55, .int x2, .int x3, .int (I2 1 2)]) (rest := []) rfl (CI.use h (fun v3 I3 J3 h => ?_))
          refine Wp.eqs (pc' := 44) (st' := [.int v3]) rfl rfl ?_
          refine Wp.steps 2 (pc' := 48) (lv' := [some (.ref 0), some (.int x1), some (.int x2), some (.int x3), some (.int v3), none]) (st' := [.int v3]) (I' := I3) (J' := J3) rfl ?_
          refine Wp.steps 1 (pc' := if v3 = 0 then 54 else 51) (lv' := [some (.ref 0), some (.int x1), some (.int x2), some (.int x3), some (.int v3), none]) (st' := []) (I' := I3) (J' := J3) rfl (Wp.ite (fun h5 => ?_) (fun h5 => ?_))
          · replace h := h.1 h5
            refine Wp.steps 2 (pc' := 57) (lv' := [some (.ref 0), some (.int x1), some (.int x2), some (.int x3), some (.int v3), some (.int 0)]) (st' := []) (I' := I3) (J' := J3) rfl ?_
            exact h
          · replace h := h.2 h5
            refine Wp.steps 1 (pc' := 53) (lv' := [some (.ref 0), some (.int x1), some (.int x2), some (.int x3), some (.int v3), none]) (st' := [.int v3]) (I' := I3) (J' := J3) rfl ?_
            exact Wp.ret rfl h
theorem v_Sb_film_0_57 {d : Nat} {Q : Post} {I : I2} {J : J2} {x1 : Int32} {x2 : Int32} {x3 : Int32} {x4 : Int32} {x5 : Int32} (h : (x5 < (I 1 2) → vp_in x1 4 ∧ (x1 = 0 → CI d Sb_placeIn [.int (I 1 9), .int x5] I J (fun v1 I1 J1 => CV d Sh_put [.ref 49, .int (x3 + x5), .long (Int32.toInt64 v1)] I1 J1 (fun I2 J2 => Wp d Sb_film Q 57 [some (.ref 0), some (.int x1), some (.int x2), some (.int x3), some (.int x4), some (.int (x5 + 1))] [] I2 J2))) ∧ (x1 = 1 → CI d Sb_placeIn [.int (I 1 9), .int x5] I J (fun v1 I1 J1 => CV d Sh_put [.ref 51, .int (x3 + x5), .long (Int32.toInt64 v1)] I1 J1 (fun I2 J2 => Wp d Sb_film Q 57 [some (.ref 0), some (.int x1), some (.int x2), some (.int x3), some (.int x4), some (.int (x5 + 1))] [] I2 J2))) ∧ (x1 = 2 → CI d Sb_placeIn [.int (I 1 9), .int x5] I J (fun v1 I1 J1 => CV d Sh_put [.ref 53, .int (x3 + x5), .long (Int32.toInt64 v1)] I1 J1 (fun I2 J2 => Wp d Sb_film Q 57 [some (.ref 0), some (.int x1), some (.int x2), some (.int x3), some (.int x4), some (.int (x5 + 1))] [] I2 J2))) ∧ (x1 = 3 → CI d Sb_placeIn [.int (I 1 9), .int x5] I J (fun v1 I1 J1 => CV d Sh_put [.ref 55, .int (x3 + x5), .long (Int32.toInt64 v1)] I1 J1 (fun I2 J2 => Wp d Sb_film Q 57 [some (.ref 0), some (.int x1), some (.int x2), some (.int x3), some (.int x4), some (.int (x5 + 1))] [] I2 J2)))) ∧ (¬ (x5 < (I 1 2)) → Q (some (.int (I 1 2))) I J)) : Wp d Sb_film Q 57 [some (.ref 0), some (.int x1), some (.int x2), some (.int x3), some (.int x4), some (.int x5)] [] I J := by
  refine Wp.steps 4 (pc' := 66) (lv' := [some (.ref 0), some (.int x1), some (.int x2), some (.int x3), some (.int x4), some (.int x5)]) (st' := [.int (I 1 2), .int x5]) (I' := I) (J' := J) rfl ?_
  refine Wp.steps 1 (pc' := if x5 < (I 1 2) then 69 else 101) (lv' := [some (.ref 0), some (.int x1), some (.int x2), some (.int x3), some (.int x4), some (.int x5)]) (st' := []) (I' := I) (J' := J) rfl (Wp.ite (fun h1 => ?_) (fun h1 => ?_))
  · replace h := h.1 h1
    refine Wp.steps 3 (pc' := 74) (lv' := [some (.ref 0), some (.int x1), some (.int x2), some (.int x3), some (.int x4), some (.int x5)]) (st' := [.int x1, .ref 48]) (I' := I) (J' := J) rfl ?_
    rcases vp_4 h.1 with g2 | g2 | g2 | g2
    · replace h := h.2.1 g2
      refine Wp.steps 1 (pc' := 75) (lv' := [some (.ref 0), some (.int x1), some (.int x2), some (.int x3), some (.int x4), some (.int x5)]) (st' := [.ref 49]) (I' := I) (J' := J) (by rw [g2]; rfl) ?_
      refine Wp.steps 7 (pc' := 88) (lv' := [some (.ref 0), some (.int x1), some (.int x2), some (.int x3), some (.int x4), some (.int x5)]) (st' := [.int x5, .int (I 1 9), .int (x3 + x5), .ref 49]) (I' := I) (J' := J) rfl ?_
      refine Wp.call (M' := Sb_placeIn) (as := [.int (I 1 9), .int x5]) (rest := [.int (x3 + x5), .ref 49]) rfl (CI.use h (fun v1 I1 J1 h => ?_))
      refine Wp.eqs (pc' := 91) (st' := [.int v1, .int (x3 + x5), .ref 49]) rfl rfl ?_
      refine Wp.steps 1 (pc' := 92) (lv' := [some (.ref 0), some (.int x1), some (.int x2), some (.int x3), some (.int x4), some (.int x5)]) (st' := [.long (Int32.toInt64 v1), .int (x3 + x5), .ref 49]) (I' := I1) (J' := J1) rfl ?_
      refine Wp.call (M' := Sh_put) (as := [.ref 49, .int (x3 + x5), .long (Int32.toInt64 v1)]) (rest := []) rfl (CV.use h (fun I2 J2 h => ?_))
      refine Wp.eqs (pc' := 95) (st' := []) rfl rfl ?_
      refine Wp.steps 2 (pc' := 57) (lv' := [some (.ref 0), some (.int x1), some (.int x2), some (.int x3), some (.int x4), some (.int (x5 + 1))]) (st' := []) (I' := I2) (J' := J2) rfl ?_
      exact h
    · replace h := h.2.2.1 g2
      refine Wp.steps 1 (pc' := 75) (lv' := [some (.ref 0), some (.int x1), some (.int x2), some (.int x3), some (.int x4), some (.int x5)]) (st' := [.ref 51]) (I' := I) (J' := J) (by rw [g2]; rfl) ?_
      refine Wp.steps 7 (pc' := 88) (lv' := [some (.ref 0), some (.int x1), some (.int x2), some (.int x3), some (.int x4), some (.int x5)]) (st' := [.int x5, .int (I 1 9), .int (x3 + x5), .ref 51]) (I' := I) (J' := J) rfl ?_
      refine Wp.call (M' := Sb_placeIn) (as := [.int (I 1 9), .int x5]) (rest := [.int (x3 + x5), .ref 51]) rfl (CI.use h (fun v1 I1 J1 h => ?_))
      refine Wp.eqs (pc' := 91) (st' := [.int v1, .int (x3 + x5), .ref 51]) rfl rfl ?_
      refine Wp.steps 1 (pc' := 92) (lv' := [some (.ref 0), some (.int x1), some (.int x2), some (.int x3), some (.int x4), some (.int x5)]) (st' := [.long (Int32.toInt64 v1), .int (x3 + x5), .ref 51]) (I' := I1) (J' := J1) rfl ?_
      refine Wp.call (M' := Sh_put) (as := [.ref 51, .int (x3 + x5), .long (Int32.toInt64 v1)]) (rest := []) rfl (CV.use h (fun I2 J2 h => ?_))
      refine Wp.eqs (pc' := 95) (st' := []) rfl rfl ?_
      refine Wp.steps 2 (pc' := 57) (lv' := [some (.ref 0), some (.int x1), some (.int x2), some (.int x3), some (.int x4), some (.int (x5 + 1))]) (st' := []) (I' := I2) (J' := J2) rfl ?_
      exact h
    · replace h := h.2.2.2.1 g2
      refine Wp.steps 1 (pc' := 75) (lv' := [some (.ref 0), some (.int x1), some (.int x2), some (.int x3), some (.int x4), some (.int x5)]) (st' := [.ref 53]) (I' := I) (J' := J) (by rw [g2]; rfl) ?_
      refine Wp.steps 7 (pc' := 88) (lv' := [some (.ref 0), some (.int x1), some (.int x2), some (.int x3), some (.int x4), some (.int x5)]) (st' := [.int x5, .int (I 1 9), .int (x3 + x5), .ref 53]) (I' := I) (J' := J) rfl ?_
      refine Wp.call (M' := Sb_placeIn) (as := [.int (I 1 9), .int x5]) (rest := [.int (x3 + x5), .ref 53]) rfl (CI.use h (fun v1 I1 J1 h => ?_))
      refine Wp.eqs (pc' := 91) (st' := [.int v1, .int (x3 + x5), .ref 53]) rfl rfl ?_
      refine Wp.steps 1 (pc' := 92) (lv' := [some (.ref 0), some (.int x1), some (.int x2), some (.int x3), some (.int x4), some (.int x5)]) (st' := [.long (Int32.toInt64 v1), .int (x3 + x5), .ref 53]) (I' := I1) (J' := J1) rfl ?_
      refine Wp.call (M' := Sh_put) (as := [.ref 53, .int (x3 + x5), .long (Int32.toInt64 v1)]) (rest := []) rfl (CV.use h (fun I2 J2 h => ?_))
      refine Wp.eqs (pc' := 95) (st' := []) rfl rfl ?_
      refine Wp.steps 2 (pc' := 57) (lv' := [some (.ref 0), some (.int x1), some (.int x2), some (.int x3), some (.int x4), some (.int (x5 + 1))]) (st' := []) (I' := I2) (J' := J2) rfl ?_
      exact h
    · replace h := h.2.2.2.2 g2
      refine Wp.steps 1 (pc' := 75) (lv' := [some (.ref 0), some (.int x1), some (.int x2), some (.int x3), some (.int x4), some (.int x5)]) (st' := [.ref 55]) (I' := I) (J' := J) (by rw [g2]; rfl) ?_
      refine Wp.steps 7 (pc' := 88) (lv' := [some (.ref 0), some (.int x1), some (.int x2), some (.int x3), some (.int x4), some (.int x5)]) (st' := [.int x5, .int (I 1 9), .int (x3 + x5), .ref 55]) (I' := I) (J' := J) rfl ?_
      refine Wp.call (M' := Sb_placeIn) (as := [.int (I 1 9), .int x5]) (rest := [.int (x3 + x5), .ref 55]) rfl (CI.use h (fun v1 I1 J1 h => ?_))
      refine Wp.eqs (pc' := 91) (st' := [.int v1, .int (x3 + x5), .ref 55]) rfl rfl ?_
      refine Wp.steps 1 (pc' := 92) (lv' := [some (.ref 0), some (.int x1), some (.int x2), some (.int x3), some (.int x4), some (.int x5)]) (st' := [.long (Int32.toInt64 v1), .int (x3 + x5), .ref 55]) (I' := I1) (J' := J1) rfl ?_
      refine Wp.call (M' := Sh_put) (as := [.ref 55, .int (x3 + x5), .long (Int32.toInt64 v1)]) (rest := []) rfl (CV.use h (fun I2 J2 h => ?_))
      refine Wp.eqs (pc' := 95) (st' := []) rfl rfl ?_
      refine Wp.steps 2 (pc' := 57) (lv' := [some (.ref 0), some (.int x1), some (.int x2), some (.int x3), some (.int x4), some (.int (x5 + 1))]) (st' := []) (I' := I2) (J' := J2) rfl ?_
      exact h
  · replace h := h.2 h1
    refine Wp.steps 3 (pc' := 108) (lv' := [some (.ref 0), some (.int x1), some (.int x2), some (.int x3), some (.int x4), some (.int x5)]) (st' := [.int (I 1 2)]) (I' := I) (J' := J) rfl ?_
    exact Wp.ret rfl h
theorem v_Sb_key_0_0 {d : Nat} {Q : Post} {I : I2} {J : J2} {x1 : Int32} (h : (x1 < 0 → Q (some (.int (-1))) I J) ∧ (¬ (x1 < 0) → (1 < x1 → Q (some (.int (-1))) I J) ∧ (¬ (1 < x1) → Wp d Sb_key Q 20 [some (.ref 0), some (.int x1), some (.int (-4)), some (.int (-4)), some (.int 0), none] [] I J))) : Wp d Sb_key Q 0 [some (.ref 0), some (.int x1), none, none, none, none] [] I J := by
  refine Wp.steps 1 (pc' := 1) (lv' := [some (.ref 0), some (.int x1), none, none, none, none]) (st' := [.int x1]) (I' := I) (J' := J) rfl ?_
  refine Wp.steps 1 (pc' := if x1 < 0 then 9 else 4) (lv' := [some (.ref 0), some (.int x1), none, none, none, none]) (st' := []) (I' := I) (J' := J) rfl (Wp.ite (fun h1 => ?_) (fun h1 => ?_))
  · replace h := h.1 h1
    refine Wp.steps 1 (pc' := 10) (lv' := [some (.ref 0), some (.int x1), none, none, none, none]) (st' := [.int (-1)]) (I' := I) (J' := J) rfl ?_
    exact Wp.ret rfl h
  · replace h := h.2 h1
    refine Wp.steps 2 (pc' := 6) (lv' := [some (.ref 0), some (.int x1), none, none, none, none]) (st' := [.int 1, .int x1]) (I' := I) (J' := J) rfl ?_
    refine Wp.steps 1 (pc' := if 1 < x1 then 9 else 11) (lv' := [some (.ref 0), some (.int x1), none, none, none, none]) (st' := []) (I' := I) (J' := J) rfl (Wp.ite (fun h2 => ?_) (fun h2 => ?_))
    · replace h := h.1 h2
      refine Wp.steps 1 (pc' := 10) (lv' := [some (.ref 0), some (.int x1), none, none, none, none]) (st' := [.int (-1)]) (I' := I) (J' := J) rfl ?_
      exact Wp.ret rfl h
    · replace h := h.2 h2
      refine Wp.steps 6 (pc' := 20) (lv' := [some (.ref 0), some (.int x1), some (.int (-4)), some (.int (-4)), some (.int 0), none]) (st' := []) (I' := I) (J' := J) rfl ?_
      exact h
theorem v_Sb_key_0_20 {d : Nat} {Q : Post} {I : I2} {J : J2} {x1 : Int32} {x2 : Int32} {x3 : Int32} {x4 : Int32} (h : (x4 < (I 1 7) → (((srI (I 1 10) x4) &&& 1) = 0 → CI d Sb_opensWith [.ref 0, .int ((I 1 10) ||| (slI 1 x4))] I J (fun v1 I1 J1 => (v1 < 0 → Wp d Sb_key Q 20 [some (.ref 0), some (.int x1), some (.int x2), some (.int x3), some (.int (x4 + 1)), none] [] I1 J1) ∧ (¬ (v1 < 0) → (x2 < 0 → Wp d Sb_key Q 20 [some (.ref 0), some (.int x1), some (.int x4), some (.int v1), some (.int (x4 + 1)), none] [] I1 J1) ∧ (¬ (x2 < 0) → (v1 < x3 → Wp d Sb_key Q 20 [some (.ref 0), some (.int x1), some (.int x4), some (.int v1), some (.int (x4 + 1)), none] [] I1 J1) ∧ (¬ (v1 < x3) → Wp d Sb_key Q 20 [some (.ref 0), some (.int x1), some (.int x2), some (.int x3), some (.int (x4 + 1)), none] [] I1 J1))))) ∧ (¬ (((srI (I 1 10) x4) &&& 1) = 0) → Wp d Sb_key Q 20 [some (.ref 0), some (.int x1), some (.int x2), some (.int x3), some (.int (x4 + 1)), none] [] I J)) ∧ (¬ (x4 < (I 1 7)) → (x1 = 0 → Q (some (.int x2)) I J) ∧ (¬ (x1 = 0) → Q (some (.int x3)) I J))) : Wp d Sb_key Q 20 [some (.ref 0), some (.int x1), some (.int x2), some (.int x3), some (.int x4), none] [] I J := by
  refine Wp.steps 4 (pc' := 29) (lv' := [some (.ref 0), some (.int x1), some (.int x2), some (.int x3), some (.int x4), none]) (st' := [.int (I 1 7), .int x4]) (I' := I) (J' := J) rfl ?_
  refine Wp.steps 1 (pc' := if x4 < (I 1 7) then 32 else 95) (lv' := [some (.ref 0), some (.int x1), some (.int x2), some (.int x3), some (.int x4), none]) (st' := []) (I' := I) (J' := J) rfl (Wp.ite (fun h1 => ?_) (fun h1 => ?_))
  · replace h := h.1 h1
    refine Wp.steps 7 (pc' := 44) (lv' := [some (.ref 0), some (.int x1), some (.int x2), some (.int x3), some (.int x4), none]) (st' := [.int ((srI (I 1 10) x4) &&& 1)]) (I' := I) (J' := J) rfl ?_
    refine Wp.steps 1 (pc' := if ((srI (I 1 10) x4) &&& 1) = 0 then 50 else 47) (lv' := [some (.ref 0), some (.int x1), some (.int x2), some (.int x3), some (.int x4), none]) (st' := []) (I' := I) (J' := J) rfl (Wp.ite (fun h2 => ?_) (fun h2 => ?_))
    · replace h := h.1 h2
      refine Wp.steps 8 (pc' := 63) (lv' := [some (.ref 0), some (.int x1), some (.int x2), some (.int x3), some (.int x4), none]) (st' := [.int ((I 1 10) ||| (slI 1 x4)), .ref 0]) (I' := I) (J' := J) rfl ?_
      refine Wp.call (M' := Sb_opensWith) (as := [.ref 0, .int ((I 1 10) ||| (slI 1 x4))]) (rest := []) rfl (CI.use h (fun v1 I1 J1 h => ?_))
      refine Wp.eqs (pc' := 66) (st' := [.int v1]) rfl rfl ?_
      refine Wp.steps 2 (pc' := 70) (lv' := [some (.ref 0), some (.int x1), some (.int x2), some (.int x3), some (.int x4), some (.int v1)]) (st' := [.int v1]) (I' := I1) (J' := J1) rfl ?_
      refine Wp.steps 1 (pc' := if v1 < 0 then 89 else 73) (lv' := [some (.ref 0), some (.int x1), some (.int x2), some (.int x3), some (.int x4), some (.int v1)]) (st' := []) (I' := I1) (J' := J1) rfl (Wp.ite (fun h3 => ?_) (fun h3 => ?_))
      · replace h := h.1 h3
        refine Wp.steps 2 (pc' := 20) (lv' := [some (.ref 0), some (.int x1), some (.int x2), some (.int x3), some (.int (x4 + 1)), some (.int v1)]) (st' := []) (I' := I1) (J' := J1) rfl ?_
        refine Wp.drop [5] (lv' := [some (.ref 0), some (.int x1), some (.int x2), some (.int x3), some (.int (x4 + 1)), none]) rfl ?_
        exact h
      · replace h := h.2 h3
        refine Wp.steps 1 (pc' := 74) (lv' := [some (.ref 0), some (.int x1), some (.int x2), some (.int x3), some (.int x4), some (.int v1)]) (st' := [.int x2]) (I' := I1) (J' := J1) rfl ?_
        refine Wp.steps 1 (pc' := if x2 < 0 then 83 else 77) (lv' := [some (.ref 0), some (.int x1), some (.int x2), some (.int x3), some (.int x4), some (.int v1)]) (st' := []) (I' := I1) (J' := J1) rfl (Wp.ite (fun h4 => ?_) (fun h4 => ?_))
        · replace h := h.1 h4
          refine Wp.steps 6 (pc' := 20) (lv' := [some (.ref 0), some (.int x1), some (.int x4), some (.int v1), some (.int (x4 + 1)), some (.int v1)]) (st' := []) (I' := I1) (J' := J1) rfl ?_
          refine Wp.drop [5] (lv' := [some (.ref 0), some (.int x1), some (.int x4), some (.int v1), some (.int (x4 + 1)), none]) rfl ?_
          exact h
        · replace h := h.2 h4
          refine Wp.steps 2 (pc' := 80) (lv' := [some (.ref 0), some (.int x1), some (.int x2), some (.int x3), some (.int x4), some (.int v1)]) (st' := [.int x3, .int v1]) (I' := I1) (J' := J1) rfl ?_
          refine Wp.steps 1 (pc' := if v1 < x3 then 83 else 89) (lv' := [some (.ref 0), some (.int x1), some (.int x2), some (.int x3), some (.int x4), some (.int v1)]) (st' := []) (I' := I1) (J' := J1) rfl (Wp.ite (fun h5 => ?_) (fun h5 => ?_))
          · replace h := h.1 h5
            refine Wp.steps 6 (pc' := 20) (lv' := [some (.ref 0), some (.int x1), some (.int x4), some (.int v1), some (.int (x4 + 1)), some (.int v1)]) (st' := []) (I' := I1) (J' := J1) rfl ?_
            refine Wp.drop [5] (lv' := [some (.ref 0), some (.int x1), some (.int x4), some (.int v1), some (.int (x4 + 1)), none]) rfl ?_
            exact h
          · replace h := h.2 h5
            refine Wp.steps 2 (pc' := 20) (lv' := [some (.ref 0), some (.int x1), some (.int x2), some (.int x3), some (.int (x4 + 1)), some (.int v1)]) (st' := []) (I' := I1) (J' := J1) rfl ?_
            refine Wp.drop [5] (lv' := [some (.ref 0), some (.int x1), some (.int x2), some (.int x3), some (.int (x4 + 1)), none]) rfl ?_
            exact h
    · replace h := h.2 h2
      refine Wp.steps 3 (pc' := 20) (lv' := [some (.ref 0), some (.int x1), some (.int x2), some (.int x3), some (.int (x4 + 1)), none]) (st' := []) (I' := I) (J' := J) rfl ?_
      exact h
  · replace h := h.2 h1
    refine Wp.steps 1 (pc' := 96) (lv' := [some (.ref 0), some (.int x1), some (.int x2), some (.int x3), some (.int x4), none]) (st' := [.int x1]) (I' := I) (J' := J) rfl ?_
    refine Wp.steps 1 (pc' := if x1 = 0 then 99 else 103) (lv' := [some (.ref 0), some (.int x1), some (.int x2), some (.int x3), some (.int x4), none]) (st' := []) (I' := I) (J' := J) rfl (Wp.ite (fun h2 => ?_) (fun h2 => ?_))
    · replace h := h.1 h2
      refine Wp.steps 2 (pc' := 104) (lv' := [some (.ref 0), some (.int x1), some (.int x2), some (.int x3), some (.int x4), none]) (st' := [.int x2]) (I' := I) (J' := J) rfl ?_
      exact Wp.ret rfl h
    · replace h := h.2 h2
      refine Wp.steps 1 (pc' := 104) (lv' := [some (.ref 0), some (.int x1), some (.int x2), some (.int x3), some (.int x4), none]) (st' := [.int x3]) (I' := I) (J' := J) rfl ?_
      exact Wp.ret rfl h
theorem v_Sb_files_0_0 {d : Nat} {Q : Post} {I : I2} {J : J2} {x1 : Int32} {x2 : Int32} (h : (x1 < 0 → Q (some (.int (-1))) I J) ∧ (¬ (x1 < 0) → (60 < x1 → Q (some (.int (-1))) I J) ∧ (¬ (60 < x1) → (x2 < 0 → Q (some (.int (-1))) I J) ∧ (¬ (x2 < 0) → (1 < x2 → Q (some (.int (-1))) I J) ∧ (¬ (1 < x2) → ((I 1 2) = 0 → Q (some (.int (-4))) I J) ∧ (¬ ((I 1 2) = 0) → Wp d Sb_files Q 40 [some (.ref 0), some (.int x1), some (.int x2), some (.int (-4)), some (.int 0), none] [] I J)))))) : Wp d Sb_files Q 0 [some (.ref 0), some (.int x1), some (.int x2), none, none, none] [] I J := by
  refine Wp.steps 1 (pc' := 1) (lv' := [some (.ref 0), some (.int x1), some (.int x2), none, none, none]) (st' := [.int x1]) (I' := I) (J' := J) rfl ?_
  refine Wp.steps 1 (pc' := if x1 < 0 then 19 else 4) (lv' := [some (.ref 0), some (.int x1), some (.int x2), none, none, none]) (st' := []) (I' := I) (J' := J) rfl (Wp.ite (fun h1 => ?_) (fun h1 => ?_))
  · replace h := h.1 h1
    refine Wp.steps 1 (pc' := 20) (lv' := [some (.ref 0), some (.int x1), some (.int x2), none, none, none]) (st' := [.int (-1)]) (I' := I) (J' := J) rfl ?_
    exact Wp.ret rfl h
  · replace h := h.2 h1
    refine Wp.steps 2 (pc' := 7) (lv' := [some (.ref 0), some (.int x1), some (.int x2), none, none, none]) (st' := [.int 60, .int x1]) (I' := I) (J' := J) rfl ?_
    refine Wp.steps 1 (pc' := if 60 < x1 then 19 else 10) (lv' := [some (.ref 0), some (.int x1), some (.int x2), none, none, none]) (st' := []) (I' := I) (J' := J) rfl (Wp.ite (fun h2 => ?_) (fun h2 => ?_))
    · replace h := h.1 h2
      refine Wp.steps 1 (pc' := 20) (lv' := [some (.ref 0), some (.int x1), some (.int x2), none, none, none]) (st' := [.int (-1)]) (I' := I) (J' := J) rfl ?_
      exact Wp.ret rfl h
    · replace h := h.2 h2
      refine Wp.steps 1 (pc' := 11) (lv' := [some (.ref 0), some (.int x1), some (.int x2), none, none, none]) (st' := [.int x2]) (I' := I) (J' := J) rfl ?_
      refine Wp.steps 1 (pc' := if x2 < 0 then 19 else 14) (lv' := [some (.ref 0), some (.int x1), some (.int x2), none, none, none]) (st' := []) (I' := I) (J' := J) rfl (Wp.ite (fun h3 => ?_) (fun h3 => ?_))
      · replace h := h.1 h3
        refine Wp.steps 1 (pc' := 20) (lv' := [some (.ref 0), some (.int x1), some (.int x2), none, none, none]) (st' := [.int (-1)]) (I' := I) (J' := J) rfl ?_
        exact Wp.ret rfl h
      · replace h := h.2 h3
        refine Wp.steps 2 (pc' := 16) (lv' := [some (.ref 0), some (.int x1), some (.int x2), none, none, none]) (st' := [.int 1, .int x2]) (I' := I) (J' := J) rfl ?_
        refine Wp.steps 1 (pc' := if 1 < x2 then 19 else 21) (lv' := [some (.ref 0), some (.int x1), some (.int x2), none, none, none]) (st' := []) (I' := I) (J' := J) rfl (Wp.ite (fun h4 => ?_) (fun h4 => ?_))
        · replace h := h.1 h4
          refine Wp.steps 1 (pc' := 20) (lv' := [some (.ref 0), some (.int x1), some (.int x2), none, none, none]) (st' := [.int (-1)]) (I' := I) (J' := J) rfl ?_
          exact Wp.ret rfl h
        · replace h := h.2 h4
          refine Wp.steps 3 (pc' := 28) (lv' := [some (.ref 0), some (.int x1), some (.int x2), none, none, none]) (st' := [.int (I 1 2)]) (I' := I) (J' := J) rfl ?_
          refine Wp.steps 1 (pc' := if (I 1 2) = 0 then 31 else 34) (lv' := [some (.ref 0), some (.int x1), some (.int x2), none, none, none]) (st' := []) (I' := I) (J' := J) rfl (Wp.ite (fun h5 => ?_) (fun h5 => ?_))
          · replace h := h.1 h5
            refine Wp.steps 1 (pc' := 33) (lv' := [some (.ref 0), some (.int x1), some (.int x2), none, none, none]) (st' := [.int (-4)]) (I' := I) (J' := J) rfl ?_
            exact Wp.ret rfl h
          · replace h := h.2 h5
            refine Wp.steps 4 (pc' := 40) (lv' := [some (.ref 0), some (.int x1), some (.int x2), some (.int (-4)), some (.int 0), none]) (st' := []) (I' := I) (J' := J) rfl ?_
            exact h
theorem v_Sb_files_0_40 {d : Nat} {Q : Post} {I : I2} {J : J2} {x1 : Int32} {x2 : Int32} {x3 : Int32} {x4 : Int32} (h : (x4 < (slI 1 (I 1 7)) → ((x4 &&& (I 1 10)) = 0 → (x3 < 0 → CI d Sb_opensWith [.ref 0, .int ((I 1 10) ||| x4)] I J (fun v1 I1 J1 => (v1 < 0 → Wp d Sb_files Q 40 [some (.ref 0), some (.int x1), some (.int x2), some (.int x3), some (.int (x4 + 1)), none] [] I1 J1) ∧ (¬ (v1 < 0) → (x1 < v1 → Wp d Sb_files Q 40 [some (.ref 0), some (.int x1), some (.int x2), some (.int x3), some (.int (x4 + 1)), none] [] I1 J1) ∧ (¬ (x1 < v1) → Wp d Sb_files Q 40 [some (.ref 0), some (.int x1), some (.int x2), some (.int x4), some (.int (x4 + 1)), none] [] I1 J1)))) ∧ (¬ (x3 < 0) → CI d Ji_bitCount [.int x4] I J (fun v1 I1 J1 => CI d Ji_bitCount [.int x3] I1 J1 (fun v2 I2 J2 => (v1 < v2 → CI d Sb_opensWith [.ref 0, .int ((I2 1 10) ||| x4)] I2 J2 (fun v3 I3 J3 => (v3 < 0 → Wp d Sb_files Q 40 [some (.ref 0), some (.int x1), some (.int x2), some (.int x3), some (.int (x4 + 1)), none] [] I3 J3) ∧ (¬ (v3 < 0) → (x1 < v3 → Wp d Sb_files Q 40 [some (.ref 0), some (.int x1), some (.int x2), some (.int x3), some (.int (x4 + 1)), none] [] I3 J3) ∧ (¬ (x1 < v3) → Wp d Sb_files Q 40 [some (.ref 0), some (.int x1), some (.int x2), some (.int x4), some (.int (x4 + 1)), none] [] I3 J3)))) ∧ (¬ (v1 < v2) → Wp d Sb_files Q 40 [some (.ref 0), some (.int x1), some (.int x2), some (.int x3), some (.int (x4 + 1)), none] [] I2 J2))))) ∧ (¬ ((x4 &&& (I 1 10)) = 0) → Wp d Sb_files Q 40 [some (.ref 0), some (.int x1), some (.int x2), some (.int x3), some (.int (x4 + 1)), none] [] I J)) ∧ (¬ (x4 < (slI 1 (I 1 7))) → (x3 < 0 → Q (some (.int (-4))) I J) ∧ (¬ (x3 < 0) → (x2 = 0 → CI d Ji_bitCount [.int x3] I J (fun v1 I1 J1 => Q (some (.int v1)) I1 J1)) ∧ (¬ (x2 = 0) → Q (some (.int x3)) I J)))) : Wp d Sb_files Q 40 [some (.ref 0), some (.int x1), some (.int x2), some (.int x3), some (.int x4), none] [] I J := by
  refine Wp.steps 6 (pc' := 51) (lv' := [some (.ref 0), some (.int x1), some (.int x2), some (.int x3), some (.int x4), none]) (st' := [.int (slI 1 (I 1 7)), .int x4]) (I' := I) (J' := J) rfl ?_
  refine Wp.steps 1 (pc' := if x4 < (slI 1 (I 1 7)) then 54 else 125) (lv' := [some (.ref 0), some (.int x1), some (.int x2), some (.int x3), some (.int x4), none]) (st' := []) (I' := I) (J' := J) rfl (Wp.ite (fun h1 => ?_) (fun h1 => ?_))
  · replace h := h.1 h1
    refine Wp.steps 5 (pc' := 64) (lv' := [some (.ref 0), some (.int x1), some (.int x2), some (.int x3), some (.int x4), none]) (st' := [.int (x4 &&& (I 1 10))]) (I' := I) (J' := J) rfl ?_
    refine Wp.steps 1 (pc' := if (x4 &&& (I 1 10)) = 0 then 70 else 67) (lv' := [some (.ref 0), some (.int x1), some (.int x2), some (.int x3), some (.int x4), none]) (st' := []) (I' := I) (J' := J) rfl (Wp.ite (fun h2 => ?_) (fun h2 => ?_))
    · replace h := h.1 h2
      refine Wp.steps 1 (pc' := 71) (lv' := [some (.ref 0), some (.int x1), some (.int x2), some (.int x3), some (.int x4), none]) (st' := [.int x3]) (I' := I) (J' := J) rfl ?_
      refine Wp.steps 1 (pc' := if x3 < 0 then 89 else 74) (lv' := [some (.ref 0), some (.int x1), some (.int x2), some (.int x3), some (.int x4), none]) (st' := []) (I' := I) (J' := J) rfl (Wp.ite (fun h3 => ?_) (fun h3 => ?_))
      · replace h := h.1 h3
        refine Wp.steps 6 (pc' := 100) (lv' := [some (.ref 0), some (.int x1), some (.int x2), some (.int x3), some (.int x4), none]) (st' := [.int ((I 1 10) ||| x4), .ref 0]) (I' := I) (J' := J) rfl ?_
        refine Wp.call (M' := Sb_opensWith) (as := [.ref 0, .int ((I 1 10) ||| x4)]) (rest := []) rfl (CI.use h (fun v1 I1 J1 h => ?_))
        refine Wp.eqs (pc' := 103) (st' := [.int v1]) rfl rfl ?_
        refine Wp.steps 2 (pc' := 107) (lv' := [some (.ref 0), some (.int x1), some (.int x2), some (.int x3), some (.int x4), some (.int v1)]) (st' := [.int v1]) (I' := I1) (J' := J1) rfl ?_
        refine Wp.steps 1 (pc' := if v1 < 0 then 119 else 110) (lv' := [some (.ref 0), some (.int x1), some (.int x2), some (.int x3), some (.int x4), some (.int v1)]) (st' := []) (I' := I1) (J' := J1) rfl (Wp.ite (fun h4 => ?_) (fun h4 => ?_))
        · replace h := h.1 h4
          refine Wp.steps 2 (pc' := 40) (lv' := [some (.ref 0), some (.int x1), some (.int x2), some (.int x3), some (.int (x4 + 1)), some (.int v1)]) (st' := []) (I' := I1) (J' := J1) rfl ?_
          refine Wp.drop [5] (lv' := [some (.ref 0), some (.int x1), some (.int x2), some (.int x3), some (.int (x4 + 1)), none]) rfl ?_
          exact h
        · replace h := h.2 h4
          refine Wp.steps 2 (pc' := 113) (lv' := [some (.ref 0), some (.int x1), some (.int x2), some (.int x3), some (.int x4), some (.int v1)]) (st' := [.int x1, .int v1]) (I' := I1) (J' := J1) rfl ?_
          refine Wp.steps 1 (pc' := if x1 < v1 then 119 else 116) (lv' := [some (.ref 0), some (.int x1), some (.int x2), some (.int x3), some (.int x4), some (.int v1)]) (st' := []) (I' := I1) (J' := J1) rfl (Wp.ite (fun h5 => ?_) (fun h5 => ?_))
          · replace h := h.1 h5
            refine Wp.steps 2 (pc' := 40) (lv' := [some (.ref 0), some (.int x1), some (.int x2), some (.int x3), some (.int (x4 + 1)), some (.int v1)]) (st' := []) (I' := I1) (J' := J1) rfl ?_
            refine Wp.drop [5] (lv' := [some (.ref 0), some (.int x1), some (.int x2), some (.int x3), some (.int (x4 + 1)), none]) rfl ?_
            exact h
          · replace h := h.2 h5
            refine Wp.steps 4 (pc' := 40) (lv' := [some (.ref 0), some (.int x1), some (.int x2), some (.int x4), some (.int (x4 + 1)), some (.int v1)]) (st' := []) (I' := I1) (J' := J1) rfl ?_
            refine Wp.drop [5] (lv' := [some (.ref 0), some (.int x1), some (.int x2), some (.int x4), some (.int (x4 + 1)), none]) rfl ?_
            exact h
      · replace h := h.2 h3
        refine Wp.steps 1 (pc' := 76) (lv' := [some (.ref 0), some (.int x1), some (.int x2), some (.int x3), some (.int x4), none]) (st' := [.int x4]) (I' := I) (J' := J) rfl ?_
        refine Wp.call (M' := Ji_bitCount) (as := [.int x4]) (rest := []) rfl (CI.use h (fun v1 I1 J1 h => ?_))
        refine Wp.eqs (pc' := 79) (st' := [.int v1]) rfl rfl ?_
        refine Wp.steps 1 (pc' := 80) (lv' := [some (.ref 0), some (.int x1), some (.int x2), some (.int x3), some (.int x4), none]) (st' := [.int x3, .int v1]) (I' := I1) (J' := J1) rfl ?_
        refine Wp.call (M' := Ji_bitCount) (as := [.int x3]) (rest := [.int v1]) rfl (CI.use h (fun v2 I2 J2 h => ?_))
        refine Wp.eqs (pc' := 83) (st' := [.int v2, .int v1]) rfl rfl ?_
        refine Wp.steps 1 (pc' := if v1 < v2 then 89 else 86) (lv' := [some (.ref 0), some (.int x1), some (.int x2), some (.int x3), some (.int x4), none]) (st' := []) (I' := I2) (J' := J2) rfl (Wp.ite (fun h4 => ?_) (fun h4 => ?_))
        · replace h := h.1 h4
          refine Wp.steps 6 (pc' := 100) (lv' := [some (.ref 0), some (.int x1), some (.int x2), some (.int x3), some (.int x4), none]) (st' := [.int ((I2 1 10) ||| x4), .ref 0]) (I' := I2) (J' := J2) rfl ?_
          refine Wp.call (M' := Sb_opensWith) (as := [.ref 0, .int ((I2 1 10) ||| x4)]) (rest := []) rfl (CI.use h (fun v3 I3 J3 h => ?_))
          refine Wp.eqs (pc' := 103) (st' := [.int v3]) rfl rfl ?_
          refine Wp.steps 2 (pc' := 107) (lv' := [some (.ref 0), some (.int x1), some (.int x2), some (.int x3), some (.int x4), some (.int v3)]) (st' := [.int v3]) (I' := I3) (J' := J3) rfl ?_
          refine Wp.steps 1 (pc' := if v3 < 0 then 119 else 110) (lv' := [some (.ref 0), some (.int x1), some (.int x2), some (.int x3), some (.int x4), some (.int v3)]) (st' := []) (I' := I3) (J' := J3) rfl (Wp.ite (fun h5 => ?_) (fun h5 => ?_))
          · replace h := h.1 h5
            refine Wp.steps 2 (pc' := 40) (lv' := [some (.ref 0), some (.int x1), some (.int x2), some (.int x3), some (.int (x4 + 1)), some (.int v3)]) (st' := []) (I' := I3) (J' := J3) rfl ?_
            refine Wp.drop [5] (lv' := [some (.ref 0), some (.int x1), some (.int x2), some (.int x3), some (.int (x4 + 1)), none]) rfl ?_
            exact h
          · replace h := h.2 h5
            refine Wp.steps 2 (pc' := 113) (lv' := [some (.ref 0), some (.int x1), some (.int x2), some (.int x3), some (.int x4), some (.int v3)]) (st' := [.int x1, .int v3]) (I' := I3) (J' := J3) rfl ?_
            refine Wp.steps 1 (pc' := if x1 < v3 then 119 else 116) (lv' := [some (.ref 0), some (.int x1), some (.int x2), some (.int x3), some (.int x4), some (.int v3)]) (st' := []) (I' := I3) (J' := J3) rfl (Wp.ite (fun h6 => ?_) (fun h6 => ?_))
            · replace h := h.1 h6
              refine Wp.steps 2 (pc' := 40) (lv' := [some (.ref 0), some (.int x1), some (.int x2), some (.int x3), some (.int (x4 + 1)), some (.int v3)]) (st' := []) (I' := I3) (J' := J3) rfl ?_
              refine Wp.drop [5] (lv' := [some (.ref 0), some (.int x1), some (.int x2), some (.int x3), some (.int (x4 + 1)), none]) rfl ?_
              exact h
            · replace h := h.2 h6
              refine Wp.steps 4 (pc' := 40) (lv' := [some (.ref 0), some (.int x1), some (.int x2), some (.int x4), some (.int (x4 + 1)), some (.int v3)]) (st' := []) (I' := I3) (J' := J3) rfl ?_
              refine Wp.drop [5] (lv' := [some (.ref 0), some (.int x1), some (.int x2), some (.int x4), some (.int (x4 + 1)), none]) rfl ?_
              exact h
        · replace h := h.2 h4
          refine Wp.steps 3 (pc' := 40) (lv' := [some (.ref 0), some (.int x1), some (.int x2), some (.int x3), some (.int (x4 + 1)), none]) (st' := []) (I' := I2) (J' := J2) rfl ?_
          exact h
    · replace h := h.2 h2
      refine Wp.steps 3 (pc' := 40) (lv' := [some (.ref 0), some (.int x1), some (.int x2), some (.int x3), some (.int (x4 + 1)), none]) (st' := []) (I' := I) (J' := J) rfl ?_
      exact h
  · replace h := h.2 h1
    refine Wp.steps 1 (pc' := 126) (lv' := [some (.ref 0), some (.int x1), some (.int x2), some (.int x3), some (.int x4), none]) (st' := [.int x3]) (I' := I) (J' := J) rfl ?_
    refine Wp.steps 1 (pc' := if x3 < 0 then 129 else 132) (lv' := [some (.ref 0), some (.int x1), some (.int x2), some (.int x3), some (.int x4), none]) (st' := []) (I' := I) (J' := J) rfl (Wp.ite (fun h2 => ?_) (fun h2 => ?_))
    · replace h := h.1 h2
      refine Wp.steps 1 (pc' := 131) (lv' := [some (.ref 0), some (.int x1), some (.int x2), some (.int x3), some (.int x4), none]) (st' := [.int (-4)]) (I' := I) (J' := J) rfl ?_
      exact Wp.ret rfl h
    · replace h := h.2 h2
      refine Wp.steps 1 (pc' := 133) (lv' := [some (.ref 0), some (.int x1), some (.int x2), some (.int x3), some (.int x4), none]) (st' := [.int x2]) (I' := I) (J' := J) rfl ?_
      refine Wp.steps 1 (pc' := if x2 = 0 then 136 else 143) (lv' := [some (.ref 0), some (.int x1), some (.int x2), some (.int x3), some (.int x4), none]) (st' := []) (I' := I) (J' := J) rfl (Wp.ite (fun h3 => ?_) (fun h3 => ?_))
      · replace h := h.1 h3
        refine Wp.steps 1 (pc' := 137) (lv' := [some (.ref 0), some (.int x1), some (.int x2), some (.int x3), some (.int x4), none]) (st' := [.int x3]) (I' := I) (J' := J) rfl ?_
        refine Wp.call (M' := Ji_bitCount) (as := [.int x3]) (rest := []) rfl (CI.use h (fun v1 I1 J1 h => ?_))
        refine Wp.eqs (pc' := 140) (st' := [.int v1]) rfl rfl ?_
        refine Wp.steps 1 (pc' := 144) (lv' := [some (.ref 0), some (.int x1), some (.int x2), some (.int x3), some (.int x4), none]) (st' := [.int v1]) (I' := I1) (J' := J1) rfl ?_
        exact Wp.ret rfl h
      · replace h := h.2 h3
        refine Wp.steps 1 (pc' := 144) (lv' := [some (.ref 0), some (.int x1), some (.int x2), some (.int x3), some (.int x4), none]) (st' := [.int x3]) (I' := I) (J' := J) rfl ?_
        exact Wp.ret rfl h
theorem v_Sb_game_0_0 {d : Nat} {Q : Post} {I : I2} {J : J2} {x1 : Int32} (h : (x1 < 0 → Q (some (.int (-1))) I J) ∧ (¬ (x1 < 0) → (2 < x1 → Q (some (.int (-1))) I J) ∧ (¬ (2 < x1) → ((I 1 2) = 0 → Q (some (.int (-4))) I J) ∧ (¬ ((I 1 2) = 0) → CV d Wk_from [.ref 33, .int (I 1 9), .int (I 1 10)] I J (fun I1 J1 => CV d Eg_solve [.ref 41] I1 J1 (fun I2 J2 => (x1 = 0 → vp_in (I2 1 9) 1024 ∧ (Q (some (.int (I2 46 (tN (I2 1 9))))) I2 J2)) ∧ (¬ (x1 = 0) → (x1 = 1 → vp_in (I2 1 9) 1024 ∧ (Q (some (.int (I2 47 (tN (I2 1 9))))) I2 J2)) ∧ (¬ (x1 = 1) → CI d Eg_firstSlide [.ref 41, .int (I2 1 9)] I2 J2 (fun v3 I3 J3 => Q (some (.int v3)) I3 J3))))))))) : Wp d Sb_game Q 0 [some (.ref 0), some (.int x1)] [] I J := by
  refine Wp.steps 1 (pc' := 1) (lv' := [some (.ref 0), some (.int x1)]) (st' := [.int x1]) (I' := I) (J' := J) rfl ?_
  refine Wp.steps 1 (pc' := if x1 < 0 then 9 else 4) (lv' := [some (.ref 0), some (.int x1)]) (st' := []) (I' := I) (J' := J) rfl (Wp.ite (fun h1 => ?_) (fun h1 => ?_))
  · replace h := h.1 h1
    refine Wp.steps 1 (pc' := 10) (lv' := [some (.ref 0), some (.int x1)]) (st' := [.int (-1)]) (I' := I) (J' := J) rfl ?_
    exact Wp.ret rfl h
  · replace h := h.2 h1
    refine Wp.steps 2 (pc' := 6) (lv' := [some (.ref 0), some (.int x1)]) (st' := [.int 2, .int x1]) (I' := I) (J' := J) rfl ?_
    refine Wp.steps 1 (pc' := if 2 < x1 then 9 else 11) (lv' := [some (.ref 0), some (.int x1)]) (st' := []) (I' := I) (J' := J) rfl (Wp.ite (fun h2 => ?_) (fun h2 => ?_))
    · replace h := h.1 h2
      refine Wp.steps 1 (pc' := 10) (lv' := [some (.ref 0), some (.int x1)]) (st' := [.int (-1)]) (I' := I) (J' := J) rfl ?_
      exact Wp.ret rfl h
    · replace h := h.2 h2
      refine Wp.steps 3 (pc' := 18) (lv' := [some (.ref 0), some (.int x1)]) (st' := [.int (I 1 2)]) (I' := I) (J' := J) rfl ?_
      refine Wp.steps 1 (pc' := if (I 1 2) = 0 then 21 else 24) (lv' := [some (.ref 0), some (.int x1)]) (st' := []) (I' := I) (J' := J) rfl (Wp.ite (fun h3 => ?_) (fun h3 => ?_))
      · replace h := h.1 h3
        refine Wp.steps 1 (pc' := 23) (lv' := [some (.ref 0), some (.int x1)]) (st' := [.int (-4)]) (I' := I) (J' := J) rfl ?_
        exact Wp.ret rfl h
      · replace h := h.2 h3
        refine Wp.steps 8 (pc' := 42) (lv' := [some (.ref 0), some (.int x1)]) (st' := [.int (I 1 10), .int (I 1 9), .ref 33]) (I' := I) (J' := J) rfl ?_
        refine Wp.call (M' := Wk_from) (as := [.ref 33, .int (I 1 9), .int (I 1 10)]) (rest := []) rfl (CV.use h (fun I1 J1 h => ?_))
        refine Wp.eqs (pc' := 45) (st' := []) rfl rfl ?_
        refine Wp.steps 2 (pc' := 49) (lv' := [some (.ref 0), some (.int x1)]) (st' := [.ref 41]) (I' := I1) (J' := J1) rfl ?_
        refine Wp.call (M' := Eg_solve) (as := [.ref 41]) (rest := []) rfl (CV.use h (fun I2 J2 h => ?_))
        refine Wp.eqs (pc' := 52) (st' := []) rfl rfl ?_
        refine Wp.steps 1 (pc' := 53) (lv' := [some (.ref 0), some (.int x1)]) (st' := [.int x1]) (I' := I2) (J' := J2) rfl ?_
        refine Wp.steps 1 (pc' := if x1 = 0 then 56 else 72) (lv' := [some (.ref 0), some (.int x1)]) (st' := []) (I' := I2) (J' := J2) rfl (Wp.ite (fun h4 => ?_) (fun h4 => ?_))
        · replace h := h.1 h4
          refine Wp.steps 6 (pc' := 70) (lv' := [some (.ref 0), some (.int x1)]) (st' := [.int (I2 1 9), .ref 46]) (I' := I2) (J' := J2) rfl ?_
          refine Wp.iald rfl rfl h.1 ?_
          replace h := h.2
          exact Wp.ret rfl h
        · replace h := h.2 h4
          refine Wp.steps 2 (pc' := 74) (lv' := [some (.ref 0), some (.int x1)]) (st' := [.int 1, .int x1]) (I' := I2) (J' := J2) rfl ?_
          refine Wp.steps 1 (pc' := if x1 = 1 then 77 else 95) (lv' := [some (.ref 0), some (.int x1)]) (st' := []) (I' := I2) (J' := J2) rfl (Wp.ite (fun h5 => ?_) (fun h5 => ?_))
          · replace h := h.1 h5
            refine Wp.steps 6 (pc' := 91) (lv' := [some (.ref 0), some (.int x1)]) (st' := [.int (I2 1 9), .ref 47]) (I' := I2) (J' := J2) rfl ?_
            refine Wp.iald rfl rfl h.1 ?_
            replace h := h.2
            refine Wp.steps 1 (pc' := 109) (lv' := [some (.ref 0), some (.int x1)]) (st' := [.int (I2 47 (tN (I2 1 9)))]) (I' := I2) (J' := J2) rfl ?_
            exact Wp.ret rfl h
          · replace h := h.2 h5
            refine Wp.steps 5 (pc' := 106) (lv' := [some (.ref 0), some (.int x1)]) (st' := [.int (I2 1 9), .ref 41]) (I' := I2) (J' := J2) rfl ?_
            refine Wp.call (M' := Eg_firstSlide) (as := [.ref 41, .int (I2 1 9)]) (rest := []) rfl (CI.use h (fun v3 I3 J3 h => ?_))
            refine Wp.eqs (pc' := 109) (st' := [.int v3]) rfl rfl ?_
            exact Wp.ret rfl h
theorem v_Sb_fumble_0_0 {d : Nat} {Q : Post} {I : I2} {J : J2} {x1 : Int32} {x2 : Int32} (h : (x1 < 0 → Q (some (.long (-1))) I J) ∧ (¬ (x1 < 0) → (3 < x1 → Q (some (.long (-1))) I J) ∧ (¬ (3 < x1) → (x2 < 0 → Q (some (.long (-1))) I J) ∧ (¬ (x2 < 0) → (1 < x2 → Q (some (.long (-1))) I J) ∧ (¬ (1 < x2) → CL d Sb_openShares [.ref 1, .int (I 1 9), .int x1] I J (fun v1 I1 J1 => CL d Sb_evenShares [.int x1] I1 J1 (fun v2 I2 J2 => CL d Sb_greatestDivisor [.long v1, .long v2] I2 J2 (fun v3 I3 J3 => ((lg_cmp v3 0) = 0 → Q (some (.long (-1))) I3 J3) ∧ (¬ ((lg_cmp v3 0) = 0) → (x2 = 0 → ¬ v3 = 0 ∧ (Q (some (.long (v1 / v3))) I3 J3)) ∧ (¬ (x2 = 0) → ¬ v3 = 0 ∧ (Q (some (.long (v2 / v3))) I3 J3))))))))))) : Wp d Sb_fumble Q 0 [some (.ref 0), some (.int x1), some (.int x2), none, none, none, none, none, none] [] I J := by
  refine Wp.steps 1 (pc' := 1) (lv' := [some (.ref 0), some (.int x1), some (.int x2), none, none, none, none, none, none]) (st' := [.int x1]) (I' := I) (J' := J) rfl ?_
  refine Wp.steps 1 (pc' := if x1 < 0 then 18 else 4) (lv' := [some (.ref 0), some (.int x1), some (.int x2), none, none, none, none, none, none]) (st' := []) (I' := I) (J' := J) rfl (Wp.ite (fun h1 => ?_) (fun h1 => ?_))
  · replace h := h.1 h1
    refine Wp.steps 1 (pc' := 21) (lv' := [some (.ref 0), some (.int x1), some (.int x2), none, none, none, none, none, none]) (st' := [.long (-1)]) (I' := I) (J' := J) rfl ?_
    exact Wp.ret rfl h
  · replace h := h.2 h1
    refine Wp.steps 2 (pc' := 6) (lv' := [some (.ref 0), some (.int x1), some (.int x2), none, none, none, none, none, none]) (st' := [.int 3, .int x1]) (I' := I) (J' := J) rfl ?_
    refine Wp.steps 1 (pc' := if 3 < x1 then 18 else 9) (lv' := [some (.ref 0), some (.int x1), some (.int x2), none, none, none, none, none, none]) (st' := []) (I' := I) (J' := J) rfl (Wp.ite (fun h2 => ?_) (fun h2 => ?_))
    · replace h := h.1 h2
      refine Wp.steps 1 (pc' := 21) (lv' := [some (.ref 0), some (.int x1), some (.int x2), none, none, none, none, none, none]) (st' := [.long (-1)]) (I' := I) (J' := J) rfl ?_
      exact Wp.ret rfl h
    · replace h := h.2 h2
      refine Wp.steps 1 (pc' := 10) (lv' := [some (.ref 0), some (.int x1), some (.int x2), none, none, none, none, none, none]) (st' := [.int x2]) (I' := I) (J' := J) rfl ?_
      refine Wp.steps 1 (pc' := if x2 < 0 then 18 else 13) (lv' := [some (.ref 0), some (.int x1), some (.int x2), none, none, none, none, none, none]) (st' := []) (I' := I) (J' := J) rfl (Wp.ite (fun h3 => ?_) (fun h3 => ?_))
      · replace h := h.1 h3
        refine Wp.steps 1 (pc' := 21) (lv' := [some (.ref 0), some (.int x1), some (.int x2), none, none, none, none, none, none]) (st' := [.long (-1)]) (I' := I) (J' := J) rfl ?_
        exact Wp.ret rfl h
      · replace h := h.2 h3
        refine Wp.steps 2 (pc' := 15) (lv' := [some (.ref 0), some (.int x1), some (.int x2), none, none, none, none, none, none]) (st' := [.int 1, .int x2]) (I' := I) (J' := J) rfl ?_
        refine Wp.steps 1 (pc' := if 1 < x2 then 18 else 22) (lv' := [some (.ref 0), some (.int x1), some (.int x2), none, none, none, none, none, none]) (st' := []) (I' := I) (J' := J) rfl (Wp.ite (fun h4 => ?_) (fun h4 => ?_))
        · replace h := h.1 h4
          refine Wp.steps 1 (pc' := 21) (lv' := [some (.ref 0), some (.int x1), some (.int x2), none, none, none, none, none, none]) (st' := [.long (-1)]) (I' := I) (J' := J) rfl ?_
          exact Wp.ret rfl h
        · replace h := h.2 h4
          refine Wp.steps 6 (pc' := 34) (lv' := [some (.ref 0), some (.int x1), some (.int x2), none, none, none, none, none, none]) (st' := [.int x1, .int (I 1 9), .ref 1]) (I' := I) (J' := J) rfl ?_
          refine Wp.call (M' := Sb_openShares) (as := [.ref 1, .int (I 1 9), .int x1]) (rest := []) rfl (CL.use h (fun v1 I1 J1 h => ?_))
          refine Wp.eqs (pc' := 37) (st' := [.long v1]) rfl rfl ?_
          refine Wp.steps 2 (pc' := 39) (lv' := [some (.ref 0), some (.int x1), some (.int x2), some (.long v1), none, none, none, none, none]) (st' := [.int x1]) (I' := I1) (J' := J1) rfl ?_
          refine Wp.call (M' := Sb_evenShares) (as := [.int x1]) (rest := []) rfl (CL.use h (fun v2 I2 J2 h => ?_))
          refine Wp.eqs (pc' := 42) (st' := [.long v2]) rfl rfl ?_
          refine Wp.steps 3 (pc' := 47) (lv' := [some (.ref 0), some (.int x1), some (.int x2), some (.long v1), none, some (.long v2), none, none, none]) (st' := [.long v2, .long v1]) (I' := I2) (J' := J2) rfl ?_
          refine Wp.call (M' := Sb_greatestDivisor) (as := [.long v1, .long v2]) (rest := []) rfl (CL.use h (fun v3 I3 J3 h => ?_))
          refine Wp.eqs (pc' := 50) (st' := [.long v3]) rfl rfl ?_
          refine Wp.steps 4 (pc' := 56) (lv' := [some (.ref 0), some (.int x1), some (.int x2), some (.long v1), none, some (.long v2), none, some (.long v3), none]) (st' := [.int (lg_cmp v3 0)]) (I' := I3) (J' := J3) rfl ?_
          refine Wp.steps 1 (pc' := if (lg_cmp v3 0) = 0 then 59 else 63) (lv' := [some (.ref 0), some (.int x1), some (.int x2), some (.long v1), none, some (.long v2), none, some (.long v3), none]) (st' := []) (I' := I3) (J' := J3) rfl (Wp.ite (fun h5 => ?_) (fun h5 => ?_))
          · replace h := h.1 h5
            refine Wp.steps 1 (pc' := 62) (lv' := [some (.ref 0), some (.int x1), some (.int x2), some (.long v1), none, some (.long v2), none, some (.long v3), none]) (st' := [.long (-1)]) (I' := I3) (J' := J3) rfl ?_
            exact Wp.ret rfl h
          · replace h := h.2 h5
            refine Wp.steps 1 (pc' := 64) (lv' := [some (.ref 0), some (.int x1), some (.int x2), some (.long v1), none, some (.long v2), none, some (.long v3), none]) (st' := [.int x2]) (I' := I3) (J' := J3) rfl ?_
            refine Wp.steps 1 (pc' := if x2 = 0 then 67 else 74) (lv' := [some (.ref 0), some (.int x1), some (.int x2), some (.long v1), none, some (.long v2), none, some (.long v3), none]) (st' := []) (I' := I3) (J' := J3) rfl (Wp.ite (fun h6 => ?_) (fun h6 => ?_))
            · replace h := h.1 h6
              refine Wp.steps 2 (pc' := 70) (lv' := [some (.ref 0), some (.int x1), some (.int x2), some (.long v1), none, some (.long v2), none, some (.long v3), none]) (st' := [.long v3, .long v1]) (I' := I3) (J' := J3) rfl ?_
              refine Wp.ldiv rfl h.1 ?_
              replace h := h.2
              refine Wp.steps 1 (pc' := 79) (lv' := [some (.ref 0), some (.int x1), some (.int x2), some (.long v1), none, some (.long v2), none, some (.long v3), none]) (st' := [.long (v1 / v3)]) (I' := I3) (J' := J3) rfl ?_
              exact Wp.ret rfl h
            · replace h := h.2 h6
              refine Wp.steps 2 (pc' := 78) (lv' := [some (.ref 0), some (.int x1), some (.int x2), some (.long v1), none, some (.long v2), none, some (.long v3), none]) (st' := [.long v3, .long v2]) (I' := I3) (J' := J3) rfl ?_
              refine Wp.ldiv rfl h.1 ?_
              replace h := h.2
              exact Wp.ret rfl h
theorem v_Sb_clicks_0_0 {d : Nat} {Q : Post} {I : I2} {J : J2} {x1 : Int32} {x2 : Int32} {x3 : Int32} {x4 : Int32} {x5 : Int32} (h : (x1 = (-4) → CI d Sb_isSheet [.int x2] I J (fun v1 I1 J1 => (v1 = 0 → Q (some (.int (-1))) I1 J1) ∧ (¬ (v1 = 0) → CI d Sb_isLane [.int x3] I1 J1 (fun v2 I2 J2 => (v2 = 0 → Q (some (.int (-1))) I2 J2) ∧ (¬ (v2 = 0) → (x5 < 1 → Q (some (.int (-1))) I2 J2) ∧ (¬ (x5 < 1) → (8 < x5 → Q (some (.int (-1))) I2 J2) ∧ (¬ (8 < x5) → vp_in x2 4 ∧ (x2 = 0 → CI d Sh_fault [.ref 49, .int x3, .int x4, .int (2 * x5)] I2 J2 (fun v3 I3 J3 => (v3 = 0 → CI d Sb_areClicks [.ref 0, .ref 49, .int x4, .int x5] I3 J3 (fun v4 I4 J4 => (v4 = 0 → Q (some (.int (-2))) I4 J4) ∧ (¬ (v4 = 0) → CI d Sb_locksByClicks [.ref 0, .ref 49, .int x4, .int x5] I4 J4 (fun v5 I5 J5 => Q (some (.int v5)) I5 J5)))) ∧ (¬ (v3 = 0) → Q (some (.int v3)) I3 J3))) ∧ (x2 = 1 → CI d Sh_fault [.ref 51, .int x3, .int x4, .int (2 * x5)] I2 J2 (fun v3 I3 J3 => (v3 = 0 → CI d Sb_areClicks [.ref 0, .ref 51, .int x4, .int x5] I3 J3 (fun v4 I4 J4 => (v4 = 0 → Q (some (.int (-2))) I4 J4) ∧ (¬ (v4 = 0) → CI d Sb_locksByClicks [.ref 0, .ref 51, .int x4, .int x5] I4 J4 (fun v5 I5 J5 => Q (some (.int v5)) I5 J5)))) ∧ (¬ (v3 = 0) → Q (some (.int v3)) I3 J3))) ∧ (x2 = 2 → CI d Sh_fault [.ref 53, .int x3, .int x4, .int (2 * x5)] I2 J2 (fun v3 I3 J3 => (v3 = 0 → CI d Sb_areClicks [.ref 0, .ref 53, .int x4, .int x5] I3 J3 (fun v4 I4 J4 => (v4 = 0 → Q (some (.int (-2))) I4 J4) ∧ (¬ (v4 = 0) → CI d Sb_locksByClicks [.ref 0, .ref 53, .int x4, .int x5] I4 J4 (fun v5 I5 J5 => Q (some (.int v5)) I5 J5)))) ∧ (¬ (v3 = 0) → Q (some (.int v3)) I3 J3))) ∧ (x2 = 3 → CI d Sh_fault [.ref 55, .int x3, .int x4, .int (2 * x5)] I2 J2 (fun v3 I3 J3 => (v3 = 0 → CI d Sb_areClicks [.ref 0, .ref 55, .int x4, .int x5] I3 J3 (fun v4 I4 J4 => (v4 = 0 → Q (some (.int (-2))) I4 J4) ∧ (¬ (v4 = 0) → CI d Sb_locksByClicks [.ref 0, .ref 55, .int x4, .int x5] I4 J4 (fun v5 I5 J5 => Q (some (.int v5)) I5 J5)))) ∧ (¬ (v3 = 0) → Q (some (.int v3)) I3 J3)))))))))) ∧ (¬ (x1 = (-4)) → CI d Bx_hasPanel [.ref 1, .int x1] I J (fun v1 I1 J1 => (v1 = 0 → Q (some (.int (-1))) I1 J1) ∧ (¬ (v1 = 0) → CI d Sb_isSheet [.int x2] I1 J1 (fun v2 I2 J2 => (v2 = 0 → Q (some (.int (-1))) I2 J2) ∧ (¬ (v2 = 0) → CI d Sb_isLane [.int x3] I2 J2 (fun v3 I3 J3 => (v3 = 0 → Q (some (.int (-1))) I3 J3) ∧ (¬ (v3 = 0) → (x5 < 1 → Q (some (.int (-1))) I3 J3) ∧ (¬ (x5 < 1) → (8 < x5 → Q (some (.int (-1))) I3 J3) ∧ (¬ (8 < x5) → vp_in x2 4 ∧ (x2 = 0 → CI d Sh_fault [.ref 49, .int x3, .int x4, .int (2 * x5)] I3 J3 (fun v4 I4 J4 => (v4 = 0 → CI d Sb_areClicks [.ref 0, .ref 49, .int x4, .int x5] I4 J4 (fun v5 I5 J5 => (v5 = 0 → Q (some (.int (-2))) I5 J5) ∧ (¬ (v5 = 0) → CI d Sb_kindsByClicks [.ref 0, .int x1, .ref 49, .int x4, .int x5] I5 J5 (fun v6 I6 J6 => Q (some (.int v6)) I6 J6)))) ∧ (¬ (v4 = 0) → Q (some (.int v4)) I4 J4))) ∧ (x2 = 1 → CI d Sh_fault [.ref 51, .int x3, .int x4, .int (2 * x5)] I3 J3 (fun v4 I4 J4 => (v4 = 0 → CI d Sb_areClicks [.ref 0, .ref 51, .int x4, .int x5] I4 J4 (fun v5 I5 J5 => (v5 = 0 → Q (some (.int (-2))) I5 J5) ∧ (¬ (v5 = 0) → CI d Sb_kindsByClicks [.ref 0, .int x1, .ref 51, .int x4, .int x5] I5 J5 (fun v6 I6 J6 => Q (some (.int v6)) I6 J6)))) ∧ (¬ (v4 = 0) → Q (some (.int v4)) I4 J4))) ∧ (x2 = 2 → CI d Sh_fault [.ref 53, .int x3, .int x4, .int (2 * x5)] I3 J3 (fun v4 I4 J4 => (v4 = 0 → CI d Sb_areClicks [.ref 0, .ref 53, .int x4, .int x5] I4 J4 (fun v5 I5 J5 => (v5 = 0 → Q (some (.int (-2))) I5 J5) ∧ (¬ (v5 = 0) → CI d Sb_kindsByClicks [.ref 0, .int x1, .ref 53, .int x4, .int x5] I5 J5 (fun v6 I6 J6 => Q (some (.int v6)) I6 J6)))) ∧ (¬ (v4 = 0) → Q (some (.int v4)) I4 J4))) ∧ (x2 = 3 → CI d Sh_fault [.ref 55, .int x3, .int x4, .int (2 * x5)] I3 J3 (fun v4 I4 J4 => (v4 = 0 → CI d Sb_areClicks [.ref 0, .ref 55, .int x4, .int x5] I4 J4 (fun v5 I5 J5 => (v5 = 0 → Q (some (.int (-2))) I5 J5) ∧ (¬ (v5 = 0) → CI d Sb_kindsByClicks [.ref 0, .int x1, .ref 55, .int x4, .int x5] I5 J5 (fun v6 I6 J6 => Q (some (.int v6)) I6 J6)))) ∧ (¬ (v4 = 0) → Q (some (.int v4)) I4 J4))))))))))))) : Wp d Sb_clicks Q 0 [some (.ref 0), some (.int x1), some (.int x2), some (.int x3), some (.int x4), some (.int x5), none] [] I J := by
  refine Wp.steps 2 (pc' := 3) (lv' := [some (.ref 0), some (.int x1), some (.int x2), some (.int x3), some (.int x4), some (.int x5), none]) (st' := [.int (-4), .int x1]) (I' := I) (J' := J) rfl ?_
  refine Wp.steps 1 (pc' := if x1 = (-4) then 17 else 6) (lv' := [some (.ref 0), some (.int x1), some (.int x2), some (.int x3), some (.int x4), some (.int x5), none]) (st' := []) (I' := I) (J' := J) rfl (Wp.ite (fun h1 => ?_) (fun h1 => ?_))
  · replace h := h.1 h1
    refine Wp.steps 1 (pc' := 18) (lv' := [some (.ref 0), some (.int x1), some (.int x2), some (.int x3), some (.int x4), some (.int x5), none]) (st' := [.int x2]) (I' := I) (J' := J) rfl ?_
    refine Wp.call (M' := Sb_isSheet) (as := [.int x2]) (rest := []) rfl (CI.use h (fun v1 I1 J1 h => ?_))
    refine Wp.eqs (pc' := 21) (st' := [.int v1]) rfl rfl ?_
    refine Wp.steps 1 (pc' := if v1 = 0 then 31 else 24) (lv' := [some (.ref 0), some (.int x1), some (.int x2), some (.int x3), some (.int x4), some (.int x5), none]) (st' := []) (I' := I1) (J' := J1) rfl (Wp.ite (fun h2 => ?_) (fun h2 => ?_))
    · replace h := h.1 h2
      refine Wp.steps 1 (pc' := 32) (lv' := [some (.ref 0), some (.int x1), some (.int x2), some (.int x3), some (.int x4), some (.int x5), none]) (st' := [.int (-1)]) (I' := I1) (J' := J1) rfl ?_
      exact Wp.ret rfl h
    · replace h := h.2 h2
      refine Wp.steps 1 (pc' := 25) (lv' := [some (.ref 0), some (.int x1), some (.int x2), some (.int x3), some (.int x4), some (.int x5), none]) (st' := [.int x3]) (I' := I1) (J' := J1) rfl ?_
      refine Wp.call (M' := Sb_isLane) (as := [.int x3]) (rest := []) rfl (CI.use h (fun v2 I2 J2 h => ?_))
      refine Wp.eqs (pc' := 28) (st' := [.int v2]) rfl rfl ?_
      refine Wp.steps 1 (pc' := if v2 = 0 then 31 else 33) (lv' := [some (.ref 0), some (.int x1), some (.int x2), some (.int x3), some (.int x4), some (.int x5), none]) (st' := []) (I' := I2) (J' := J2) rfl (Wp.ite (fun h3 => ?_) (fun h3 => ?_))
      · replace h := h.1 h3
        refine Wp.steps 1 (pc' := 32) (lv' := [some (.ref 0), some (.int x1), some (.int x2), some (.int x3), some (.int x4), some (.int x5), none]) (st' := [.int (-1)]) (I' := I2) (J' := J2) rfl ?_
        exact Wp.ret rfl h
      · replace h := h.2 h3
        refine Wp.steps 2 (pc' := 36) (lv' := [some (.ref 0), some (.int x1), some (.int x2), some (.int x3), some (.int x4), some (.int x5), none]) (st' := [.int 1, .int x5]) (I' := I2) (J' := J2) rfl ?_
        refine Wp.steps 1 (pc' := if x5 < 1 then 46 else 39) (lv' := [some (.ref 0), some (.int x1), some (.int x2), some (.int x3), some (.int x4), some (.int x5), none]) (st' := []) (I' := I2) (J' := J2) rfl (Wp.ite (fun h4 => ?_) (fun h4 => ?_))
        · replace h := h.1 h4
          refine Wp.steps 1 (pc' := 47) (lv' := [some (.ref 0), some (.int x1), some (.int x2), some (.int x3), some (.int x4), some (.int x5), none]) (st' := [.int (-1)]) (I' := I2) (J' := J2) rfl ?_
          exact Wp.ret rfl h
        · replace h := h.2 h4
          refine Wp.steps 2 (pc' := 43) (lv' := [some (.ref 0), some (.int x1), some (.int x2), some (.int x3), some (.int x4), some (.int x5), none]) (st' := [.int 8, .int x5]) (I' := I2) (J' := J2) rfl ?_
          refine Wp.steps 1 (pc' := if 8 < x5 then 46 else 48) (lv' := [some (.ref 0), some (.int x1), some (.int x2), some (.int x3), some (.int x4), some (.int x5), none]) (st' := []) (I' := I2) (J' := J2) rfl (Wp.ite (fun h5 => ?_) (fun h5 => ?_))
          · replace h := h.1 h5
            refine Wp.steps 1 (pc' := 47) (lv' := [some (.ref 0), some (.int x1), some (.int x2), some (.int x3), some (.int x4), some (.int x5), none]) (st' := [.int (-1)]) (I' := I2) (J' := J2) rfl ?_
            exact Wp.ret rfl h
          · replace h := h.2 h5
            refine Wp.steps 3 (pc' := 53) (lv' := [some (.ref 0), some (.int x1), some (.int x2), some (.int x3), some (.int x4), some (.int x5), none]) (st' := [.int x2, .ref 48]) (I' := I2) (J' := J2) rfl ?_
            rcases vp_4 h.1 with g6 | g6 | g6 | g6
            · replace h := h.2.1 g6
              refine Wp.steps 1 (pc' := 54) (lv' := [some (.ref 0), some (.int x1), some (.int x2), some (.int x3), some (.int x4), some (.int x5), none]) (st' := [.ref 49]) (I' := I2) (J' := J2) (by rw [g6]; rfl) ?_
              refine Wp.steps 5 (pc' := 61) (lv' := [some (.ref 0), some (.int x1), some (.int x2), some (.int x3), some (.int x4), some (.int x5), none]) (st' := [.int (2 * x5), .int x4, .int x3, .ref 49]) (I' := I2) (J' := J2) rfl ?_
              refine Wp.call (M' := Sh_fault) (as := [.ref 49, .int x3, .int x4, .int (2 * x5)]) (rest := []) rfl (CI.use h (fun v3 I3 J3 h => ?_))
              refine Wp.eqs (pc' := 64) (st' := [.int v3]) rfl rfl ?_
              refine Wp.steps 2 (pc' := 68) (lv' := [some (.ref 0), some (.int x1), some (.int x2), some (.int x3), some (.int x4), some (.int x5), some (.int v3)]) (st' := [.int v3]) (I' := I3) (J' := J3) rfl ?_
              refine Wp.steps 1 (pc' := if v3 = 0 then 74 else 71) (lv' := [some (.ref 0), some (.int x1), some (.int x2), some (.int x3), some (.int x4), some (.int x5), some (.int v3)]) (st' := []) (I' := I3) (J' := J3) rfl (Wp.ite (fun h7 => ?_) (fun h7 => ?_))
              · replace h := h.1 h7
                refine Wp.steps 4 (pc' := 80) (lv' := [some (.ref 0), some (.int x1), some (.int x2), some (.int x3), some (.int x4), some (.int x5), some (.int v3)]) (st' := [.int x2, .ref 48, .ref 0]) (I' := I3) (J' := J3) rfl ?_
                refine Wp.steps 1 (pc' := 81) (lv' := [some (.ref 0), some (.int x1), some (.int x2), some (.int x3), some (.int x4), some (.int x5), some (.int v3)]) (st' := [.ref 49, .ref 0]) (I' := I3) (J' := J3) (by rw [g6]; rfl) ?_
                refine Wp.steps 2 (pc' := 85) (lv' := [some (.ref 0), some (.int x1), some (.int x2), some (.int x3), some (.int x4), some (.int x5), some (.int v3)]) (st' := [.int x5, .int x4, .ref 49, .ref 0]) (I' := I3) (J' := J3) rfl ?_
                refine Wp.call (M' := Sb_areClicks) (as := [.ref 0, .ref 49, .int x4, .int x5]) (rest := []) rfl (CI.use h (fun v4 I4 J4 h => ?_))
                refine Wp.eqs (pc' := 88) (st' := [.int v4]) rfl rfl ?_
                refine Wp.steps 1 (pc' := if v4 = 0 then 91 else 94) (lv' := [some (.ref 0), some (.int x1), some (.int x2), some (.int x3), some (.int x4), some (.int x5), some (.int v3)]) (st' := []) (I' := I4) (J' := J4) rfl (Wp.ite (fun h8 => ?_) (fun h8 => ?_))
                · replace h := h.1 h8
                  refine Wp.steps 1 (pc' := 93) (lv' := [some (.ref 0), some (.int x1), some (.int x2), some (.int x3), some (.int x4), some (.int x5), some (.int v3)]) (st' := [.int (-2)]) (I' := I4) (J' := J4) rfl ?_
                  exact Wp.ret rfl h
                · replace h := h.2 h8
                  refine Wp.steps 2 (pc' := 97) (lv' := [some (.ref 0), some (.int x1), some (.int x2), some (.int x3), some (.int x4), some (.int x5), some (.int v3)]) (st' := [.int (-4), .int x1]) (I' := I4) (J' := J4) rfl ?_
                  refine Wp.steps 1 (pc' := if x1 = (-4) then 100 else 117) (lv' := [some (.ref 0), some (.int x1), some (.int x2), some (.int x3), some (.int x4), some (.int x5), some (.int v3)]) (st' := []) (I' := I4) (J' := J4) rfl ?_
                  rw [if_pos h1]
                  refine Wp.steps 4 (pc' := 106) (lv' := [some (.ref 0), some (.int x1), some (.int x2), some (.int x3), some (.int x4), some (.int x5), some (.int v3)]) (st' := [.int x2, .ref 48, .ref 0]) (I' := I4) (J' := J4) rfl ?_
                  refine Wp.steps 1 (pc' := 107) (lv' := [some (.ref 0), some (.int x1), some (.int x2), some (.int x3), some (.int x4), some (.int x5), some (.int v3)]) (st' := [.ref 49, .ref 0]) (I' := I4) (J' := J4) (by rw [g6]; rfl) ?_
                  refine Wp.steps 2 (pc' := 111) (lv' := [some (.ref 0), some (.int x1), some (.int x2), some (.int x3), some (.int x4), some (.int x5), some (.int v3)]) (st' := [.int x5, .int x4, .ref 49, .ref 0]) (I' := I4) (J' := J4) rfl ?_
                  refine Wp.call (M' := Sb_locksByClicks) (as := [.ref 0, .ref 49, .int x4, .int x5]) (rest := []) rfl (CI.use h (fun v5 I5 J5 h => ?_))
                  refine Wp.eqs (pc' := 114) (st' := [.int v5]) rfl rfl ?_
                  refine Wp.steps 1 (pc' := 132) (lv' := [some (.ref 0), some (.int x1), some (.int x2), some (.int x3), some (.int x4), some (.int x5), some (.int v3)]) (st' := [.int v5]) (I' := I5) (J' := J5) rfl ?_
                  exact Wp.ret rfl h
              · replace h := h.2 h7
                refine Wp.steps 1 (pc' := 73) (lv' := [some (.ref 0), some (.int x1), some (.int x2), some (.int x3), some (.int x4), some (.int x5), some (.int v3)]) (st' := [.int v3]) (I' := I3) (J' := J3) rfl ?_
                exact Wp.ret rfl h
            · replace h := h.2.2.1 g6
              refine Wp.steps 1 (pc' := 54) (lv' := [some (.ref 0), some (.int x1), some (.int x2), some (.int x3), some (.int x4), some (.int x5), none]) (st' := [.ref 51]) (I' := I2) (J' := J2) (by rw [g6]; rfl) ?_
              refine Wp.steps 5 (pc' := 61) (lv' := [some (.ref 0), some (.int x1), some (.int x2), some (.int x3), some (.int x4), some (.int x5), none]) (st' := [.int (2 * x5), .int x4, .int x3, .ref 51]) (I' := I2) (J' := J2) rfl ?_
              refine Wp.call (M' := Sh_fault) (as := [.ref 51, .int x3, .int x4, .int (2 * x5)]) (rest := []) rfl (CI.use h (fun v3 I3 J3 h => ?_))
              refine Wp.eqs (pc' := 64) (st' := [.int v3]) rfl rfl ?_
              refine Wp.steps 2 (pc' := 68) (lv' := [some (.ref 0), some (.int x1), some (.int x2), some (.int x3), some (.int x4), some (.int x5), some (.int v3)]) (st' := [.int v3]) (I' := I3) (J' := J3) rfl ?_
              refine Wp.steps 1 (pc' := if v3 = 0 then 74 else 71) (lv' := [some (.ref 0), some (.int x1), some (.int x2), some (.int x3), some (.int x4), some (.int x5), some (.int v3)]) (st' := []) (I' := I3) (J' := J3) rfl (Wp.ite (fun h7 => ?_) (fun h7 => ?_))
              · replace h := h.1 h7
                refine Wp.steps 4 (pc' := 80) (lv' := [some (.ref 0), some (.int x1), some (.int x2), some (.int x3), some (.int x4), some (.int x5), some (.int v3)]) (st' := [.int x2, .ref 48, .ref 0]) (I' := I3) (J' := J3) rfl ?_
                refine Wp.steps 1 (pc' := 81) (lv' := [some (.ref 0), some (.int x1), some (.int x2), some (.int x3), some (.int x4), some (.int x5), some (.int v3)]) (st' := [.ref 51, .ref 0]) (I' := I3) (J' := J3) (by rw [g6]; rfl) ?_
                refine Wp.steps 2 (pc' := 85) (lv' := [some (.ref 0), some (.int x1), some (.int x2), some (.int x3), some (.int x4), some (.int x5), some (.int v3)]) (st' := [.int x5, .int x4, .ref 51, .ref 0]) (I' := I3) (J' := J3) rfl ?_
                refine Wp.call (M' := Sb_areClicks) (as := [.ref 0, .ref 51, .int x4, .int x5]) (rest := []) rfl (CI.use h (fun v4 I4 J4 h => ?_))
                refine Wp.eqs (pc' := 88) (st' := [.int v4]) rfl rfl ?_
                refine Wp.steps 1 (pc' := if v4 = 0 then 91 else 94) (lv' := [some (.ref 0), some (.int x1), some (.int x2), some (.int x3), some (.int x4), some (.int x5), some (.int v3)]) (st' := []) (I' := I4) (J' := J4) rfl (Wp.ite (fun h8 => ?_) (fun h8 => ?_))
                · replace h := h.1 h8
                  refine Wp.steps 1 (pc' := 93) (lv' := [some (.ref 0), some (.int x1), some (.int x2), some (.int x3), some (.int x4), some (.int x5), some (.int v3)]) (st' := [.int (-2)]) (I' := I4) (J' := J4) rfl ?_
                  exact Wp.ret rfl h
                · replace h := h.2 h8
                  refine Wp.steps 2 (pc' := 97) (lv' := [some (.ref 0), some (.int x1), some (.int x2), some (.int x3), some (.int x4), some (.int x5), some (.int v3)]) (st' := [.int (-4), .int x1]) (I' := I4) (J' := J4) rfl ?_
                  refine Wp.steps 1 (pc' := if x1 = (-4) then 100 else 117) (lv' := [some (.ref 0), some (.int x1), some (.int x2), some (.int x3), some (.int x4), some (.int x5), some (.int v3)]) (st' := []) (I' := I4) (J' := J4) rfl ?_
                  rw [if_pos h1]
                  refine Wp.steps 4 (pc' := 106) (lv' := [some (.ref 0), some (.int x1), some (.int x2), some (.int x3), some (.int x4), some (.int x5), some (.int v3)]) (st' := [.int x2, .ref 48, .ref 0]) (I' := I4) (J' := J4) rfl ?_
                  refine Wp.steps 1 (pc' := 107) (lv' := [some (.ref 0), some (.int x1), some (.int x2), some (.int x3), some (.int x4), some (.int x5), some (.int v3)]) (st' := [.ref 51, .ref 0]) (I' := I4) (J' := J4) (by rw [g6]; rfl) ?_
                  refine Wp.steps 2 (pc' := 111) (lv' := [some (.ref 0), some (.int x1), some (.int x2), some (.int x3), some (.int x4), some (.int x5), some (.int v3)]) (st' := [.int x5, .int x4, .ref 51, .ref 0]) (I' := I4) (J' := J4) rfl ?_
                  refine Wp.call (M' := Sb_locksByClicks) (as := [.ref 0, .ref 51, .int x4, .int x5]) (rest := []) rfl (CI.use h (fun v5 I5 J5 h => ?_))
                  refine Wp.eqs (pc' := 114) (st' := [.int v5]) rfl rfl ?_
                  refine Wp.steps 1 (pc' := 132) (lv' := [some (.ref 0), some (.int x1), some (.int x2), some (.int x3), some (.int x4), some (.int x5), some (.int v3)]) (st' := [.int v5]) (I' := I5) (J' := J5) rfl ?_
                  exact Wp.ret rfl h
              · replace h := h.2 h7
                refine Wp.steps 1 (pc' := 73) (lv' := [some (.ref 0), some (.int x1), some (.int x2), some (.int x3), some (.int x4), some (.int x5), some (.int v3)]) (st' := [.int v3]) (I' := I3) (J' := J3) rfl ?_
                exact Wp.ret rfl h
            · replace h := h.2.2.2.1 g6
              refine Wp.steps 1 (pc' := 54) (lv' := [some (.ref 0), some (.int x1), some (.int x2), some (.int x3), some (.int x4), some (.int x5), none]) (st' := [.ref 53]) (I' := I2) (J' := J2) (by rw [g6]; rfl) ?_
              refine Wp.steps 5 (pc' := 61) (lv' := [some (.ref 0), some (.int x1), some (.int x2), some (.int x3), some (.int x4), some (.int x5), none]) (st' := [.int (2 * x5), .int x4, .int x3, .ref 53]) (I' := I2) (J' := J2) rfl ?_
              refine Wp.call (M' := Sh_fault) (as := [.ref 53, .int x3, .int x4, .int (2 * x5)]) (rest := []) rfl (CI.use h (fun v3 I3 J3 h => ?_))
              refine Wp.eqs (pc' := 64) (st' := [.int v3]) rfl rfl ?_
              refine Wp.steps 2 (pc' := 68) (lv' := [some (.ref 0), some (.int x1), some (.int x2), some (.int x3), some (.int x4), some (.int x5), some (.int v3)]) (st' := [.int v3]) (I' := I3) (J' := J3) rfl ?_
              refine Wp.steps 1 (pc' := if v3 = 0 then 74 else 71) (lv' := [some (.ref 0), some (.int x1), some (.int x2), some (.int x3), some (.int x4), some (.int x5), some (.int v3)]) (st' := []) (I' := I3) (J' := J3) rfl (Wp.ite (fun h7 => ?_) (fun h7 => ?_))
              · replace h := h.1 h7
                refine Wp.steps 4 (pc' := 80) (lv' := [some (.ref 0), some (.int x1), some (.int x2), some (.int x3), some (.int x4), some (.int x5), some (.int v3)]) (st' := [.int x2, .ref 48, .ref 0]) (I' := I3) (J' := J3) rfl ?_
                refine Wp.steps 1 (pc' := 81) (lv' := [some (.ref 0), some (.int x1), some (.int x2), some (.int x3), some (.int x4), some (.int x5), some (.int v3)]) (st' := [.ref 53, .ref 0]) (I' := I3) (J' := J3) (by rw [g6]; rfl) ?_
                refine Wp.steps 2 (pc' := 85) (lv' := [some (.ref 0), some (.int x1), some (.int x2), some (.int x3), some (.int x4), some (.int x5), some (.int v3)]) (st' := [.int x5, .int x4, .ref 53, .ref 0]) (I' := I3) (J' := J3) rfl ?_
                refine Wp.call (M' := Sb_areClicks) (as := [.ref 0, .ref 53, .int x4, .int x5]) (rest := []) rfl (CI.use h (fun v4 I4 J4 h => ?_))
                refine Wp.eqs (pc' := 88) (st' := [.int v4]) rfl rfl ?_
                refine Wp.steps 1 (pc' := if v4 = 0 then 91 else 94) (lv' := [some (.ref 0), some (.int x1), some (.int x2), some (.int x3), some (.int x4), some (.int x5), some (.int v3)]) (st' := []) (I' := I4) (J' := J4) rfl (Wp.ite (fun h8 => ?_) (fun h8 => ?_))
                · replace h := h.1 h8
                  refine Wp.steps 1 (pc' := 93) (lv' := [some (.ref 0), some (.int x1), some (.int x2), some (.int x3), some (.int x4), some (.int x5), some (.int v3)]) (st' := [.int (-2)]) (I' := I4) (J' := J4) rfl ?_
                  exact Wp.ret rfl h
                · replace h := h.2 h8
                  refine Wp.steps 2 (pc' := 97) (lv' := [some (.ref 0), some (.int x1), some (.int x2), some (.int x3), some (.int x4), some (.int x5), some (.int v3)]) (st' := [.int (-4), .int x1]) (I' := I4) (J' := J4) rfl ?_
                  refine Wp.steps 1 (pc' := if x1 = (-4) then 100 else 117) (lv' := [some (.ref 0), some (.int x1), some (.int x2), some (.int x3), some (.int x4), some (.int x5), some (.int v3)]) (st' := []) (I' := I4) (J' := J4) rfl ?_
                  rw [if_pos h1]
                  refine Wp.steps 4 (pc' := 106) (lv' := [some (.ref 0), some (.int x1), some (.int x2), some (.int x3), some (.int x4), some (.int x5), some (.int v3)]) (st' := [.int x2, .ref 48, .ref 0]) (I' := I4) (J' := J4) rfl ?_
                  refine Wp.steps 1 (pc' := 107) (lv' := [some (.ref 0), some (.int x1), some (.int x2), some (.int x3), some (.int x4), some (.int x5), some (.int v3)]) (st' := [.ref 53, .ref 0]) (I' := I4) (J' := J4) (by rw [g6]; rfl) ?_
                  refine Wp.steps 2 (pc' := 111) (lv' := [some (.ref 0), some (.int x1), some (.int x2), some (.int x3), some (.int x4), some (.int x5), some (.int v3)]) (st' := [.int x5, .int x4, .ref 53, .ref 0]) (I' := I4) (J' := J4) rfl ?_
                  refine Wp.call (M' := Sb_locksByClicks) (as := [.ref 0, .ref 53, .int x4, .int x5]) (rest := []) rfl (CI.use h (fun v5 I5 J5 h => ?_))
                  refine Wp.eqs (pc' := 114) (st' := [.int v5]) rfl rfl ?_
                  refine Wp.steps 1 (pc' := 132) (lv' := [some (.ref 0), some (.int x1), some (.int x2), some (.int x3), some (.int x4), some (.int x5), some (.int v3)]) (st' := [.int v5]) (I' := I5) (J' := J5) rfl ?_
                  exact Wp.ret rfl h
              · replace h := h.2 h7
                refine Wp.steps 1 (pc' := 73) (lv' := [some (.ref 0), some (.int x1), some (.int x2), some (.int x3), some (.int x4), some (.int x5), some (.int v3)]) (st' := [.int v3]) (I' := I3) (J' := J3) rfl ?_
                exact Wp.ret rfl h
            · replace h := h.2.2.2.2 g6
              refine Wp.steps 1 (pc' := 54) (lv' := [some (.ref 0), some (.int x1), some (.int x2), some (.int x3), some (.int x4), some (.int x5), none]) (st' := [.ref 55]) (I' := I2) (J' := J2) (by rw [g6]; rfl) ?_
              refine Wp.steps 5 (pc' := 61) (lv' := [some (.ref 0), some (.int x1), some (.int x2), some (.int x3), some (.int x4), some (.int x5), none]) (st' := [.int (2 * x5), .int x4, .int x3, .ref 55]) (I' := I2) (J' := J2) rfl ?_
              refine Wp.call (M' := Sh_fault) (as := [.ref 55, .int x3, .int x4, .int (2 * x5)]) (rest := []) rfl (CI.use h (fun v3 I3 J3 h => ?_))
              refine Wp.eqs (pc' := 64) (st' := [.int v3]) rfl rfl ?_
              refine Wp.steps 2 (pc' := 68) (lv' := [some (.ref 0), some (.int x1), some (.int x2), some (.int x3), some (.int x4), some (.int x5), some (.int v3)]) (st' := [.int v3]) (I' := I3) (J' := J3) rfl ?_
              refine Wp.steps 1 (pc' := if v3 = 0 then 74 else 71) (lv' := [some (.ref 0), some (.int x1), some (.int x2), some (.int x3), some (.int x4), some (.int x5), some (.int v3)]) (st' := []) (I' := I3) (J' := J3) rfl (Wp.ite (fun h7 => ?_) (fun h7 => ?_))
              · replace h := h.1 h7
                refine Wp.steps 4 (pc' := 80) (lv' := [some (.ref 0), some (.int x1), some (.int x2), some (.int x3), some (.int x4), some (.int x5), some (.int v3)]) (st' := [.int x2, .ref 48, .ref 0]) (I' := I3) (J' := J3) rfl ?_
                refine Wp.steps 1 (pc' := 81) (lv' := [some (.ref 0), some (.int x1), some (.int x2), some (.int x3), some (.int x4), some (.int x5), some (.int v3)]) (st' := [.ref 55, .ref 0]) (I' := I3) (J' := J3) (by rw [g6]; rfl) ?_
                refine Wp.steps 2 (pc' := 85) (lv' := [some (.ref 0), some (.int x1), some (.int x2), some (.int x3), some (.int x4), some (.int x5), some (.int v3)]) (st' := [.int x5, .int x4, .ref 55, .ref 0]) (I' := I3) (J' := J3) rfl ?_
                refine Wp.call (M' := Sb_areClicks) (as := [.ref 0, .ref 55, .int x4, .int x5]) (rest := []) rfl (CI.use h (fun v4 I4 J4 h => ?_))
                refine Wp.eqs (pc' := 88) (st' := [.int v4]) rfl rfl ?_
                refine Wp.steps 1 (pc' := if v4 = 0 then 91 else 94) (lv' := [some (.ref 0), some (.int x1), some (.int x2), some (.int x3), some (.int x4), some (.int x5), some (.int v3)]) (st' := []) (I' := I4) (J' := J4) rfl (Wp.ite (fun h8 => ?_) (fun h8 => ?_))
                · replace h := h.1 h8
                  refine Wp.steps 1 (pc' := 93) (lv' := [some (.ref 0), some (.int x1), some (.int x2), some (.int x3), some (.int x4), some (.int x5), some (.int v3)]) (st' := [.int (-2)]) (I' := I4) (J' := J4) rfl ?_
                  exact Wp.ret rfl h
                · replace h := h.2 h8
                  refine Wp.steps 2 (pc' := 97) (lv' := [some (.ref 0), some (.int x1), some (.int x2), some (.int x3), some (.int x4), some (.int x5), some (.int v3)]) (st' := [.int (-4), .int x1]) (I' := I4) (J' := J4) rfl ?_
                  refine Wp.steps 1 (pc' := if x1 = (-4) then 100 else 117) (lv' := [some (.ref 0), some (.int x1), some (.int x2), some (.int x3), some (.int x4), some (.int x5), some (.int v3)]) (st' := []) (I' := I4) (J' := J4) rfl ?_
                  rw [if_pos h1]
                  refine Wp.steps 4 (pc' := 106) (lv' := [some (.ref 0), some (.int x1), some (.int x2), some (.int x3), some (.int x4), some (.int x5), some (.int v3)]) (st' := [.int x2, .ref 48, .ref 0]) (I' := I4) (J' := J4) rfl ?_
                  refine Wp.steps 1 (pc' := 107) (lv' := [some (.ref 0), some (.int x1), some (.int x2), some (.int x3), some (.int x4), some (.int x5), some (.int v3)]) (st' := [.ref 55, .ref 0]) (I' := I4) (J' := J4) (by rw [g6]; rfl) ?_
                  refine Wp.steps 2 (pc' := 111) (lv' := [some (.ref 0), some (.int x1), some (.int x2), some (.int x3), some (.int x4), some (.int x5), some (.int v3)]) (st' := [.int x5, .int x4, .ref 55, .ref 0]) (I' := I4) (J' := J4) rfl ?_
                  refine Wp.call (M' := Sb_locksByClicks) (as := [.ref 0, .ref 55, .int x4, .int x5]) (rest := []) rfl (CI.use h (fun v5 I5 J5 h => ?_))
                  refine Wp.eqs (pc' := 114) (st' := [.int v5]) rfl rfl ?_
                  refine Wp.steps 1 (pc' := 132) (lv' := [some (.ref 0), some (.int x1), some (.int x2), some (.int x3), some (.int x4), some (.int x5), some (.int v3)]) (st' := [.int v5]) (I' := I5) (J' := J5) rfl ?_
                  exact Wp.ret rfl h
              · replace h := h.2 h7
                refine Wp.steps 1 (pc' := 73) (lv' := [some (.ref 0), some (.int x1), some (.int x2), some (.int x3), some (.int x4), some (.int x5), some (.int v3)]) (st' := [.int v3]) (I' := I3) (J' := J3) rfl ?_
                exact Wp.ret rfl h
  · replace h := h.2 h1
    refine Wp.steps 3 (pc' := 11) (lv' := [some (.ref 0), some (.int x1), some (.int x2), some (.int x3), some (.int x4), some (.int x5), none]) (st' := [.int x1, .ref 1]) (I' := I) (J' := J) rfl ?_
    refine Wp.call (M' := Bx_hasPanel) (as := [.ref 1, .int x1]) (rest := []) rfl (CI.use h (fun v1 I1 J1 h => ?_))
    refine Wp.eqs (pc' := 14) (st' := [.int v1]) rfl rfl ?_
    refine Wp.steps 1 (pc' := if v1 = 0 then 31 else 17) (lv' := [some (.ref 0), some (.int x1), some (.int x2), some (.int x3), some (.int x4), some (.int x5), none]) (st' := []) (I' := I1) (J' := J1) rfl (Wp.ite (fun h2 => ?_) (fun h2 => ?_))
    · replace h := h.1 h2
      refine Wp.steps 1 (pc' := 32) (lv' := [some (.ref 0), some (.int x1), some (.int x2), some (.int x3), some (.int x4), some (.int x5), none]) (st' := [.int (-1)]) (I' := I1) (J' := J1) rfl ?_
      exact Wp.ret rfl h
    · replace h := h.2 h2
      refine Wp.steps 1 (pc' := 18) (lv' := [some (.ref 0), some (.int x1), some (.int x2), some (.int x3), some (.int x4), some (.int x5), none]) (st' := [.int x2]) (I' := I1) (J' := J1) rfl ?_
      refine Wp.call (M' := Sb_isSheet) (as := [.int x2]) (rest := []) rfl (CI.use h (fun v2 I2 J2 h => ?_))
      refine Wp.eqs (pc' := 21) (st' := [.int v2]) rfl rfl ?_
      refine Wp.steps 1 (pc' := if v2 = 0 then 31 else 24) (lv' := [some (.ref 0), some (.int x1), some (.int x2), some (.int x3), some (.int x4), some (.int x5), none]) (st' := []) (I' := I2) (J' := J2) rfl (Wp.ite (fun h3 => ?_) (fun h3 => ?_))
      · replace h := h.1 h3
        refine Wp.steps 1 (pc' := 32) (lv' := [some (.ref 0), some (.int x1), some (.int x2), some (.int x3), some (.int x4), some (.int x5), none]) (st' := [.int (-1)]) (I' := I2) (J' := J2) rfl ?_
        exact Wp.ret rfl h
      · replace h := h.2 h3
        refine Wp.steps 1 (pc' := 25) (lv' := [some (.ref 0), some (.int x1), some (.int x2), some (.int x3), some (.int x4), some (.int x5), none]) (st' := [.int x3]) (I' := I2) (J' := J2) rfl ?_
        refine Wp.call (M' := Sb_isLane) (as := [.int x3]) (rest := []) rfl (CI.use h (fun v3 I3 J3 h => ?_))
        refine Wp.eqs (pc' := 28) (st' := [.int v3]) rfl rfl ?_
        refine Wp.steps 1 (pc' := if v3 = 0 then 31 else 33) (lv' := [some (.ref 0), some (.int x1), some (.int x2), some (.int x3), some (.int x4), some (.int x5), none]) (st' := []) (I' := I3) (J' := J3) rfl (Wp.ite (fun h4 => ?_) (fun h4 => ?_))
        · replace h := h.1 h4
          refine Wp.steps 1 (pc' := 32) (lv' := [some (.ref 0), some (.int x1), some (.int x2), some (.int x3), some (.int x4), some (.int x5), none]) (st' := [.int (-1)]) (I' := I3) (J' := J3) rfl ?_
          exact Wp.ret rfl h
        · replace h := h.2 h4
          refine Wp.steps 2 (pc' := 36) (lv' := [some (.ref 0), some (.int x1), some (.int x2), some (.int x3), some (.int x4), some (.int x5), none]) (st' := [.int 1, .int x5]) (I' := I3) (J' := J3) rfl ?_
          refine Wp.steps 1 (pc' := if x5 < 1 then 46 else 39) (lv' := [some (.ref 0), some (.int x1), some (.int x2), some (.int x3), some (.int x4), some (.int x5), none]) (st' := []) (I' := I3) (J' := J3) rfl (Wp.ite (fun h5 => ?_) (fun h5 => ?_))
          · replace h := h.1 h5
            refine Wp.steps 1 (pc' := 47) (lv' := [some (.ref 0), some (.int x1), some (.int x2), some (.int x3), some (.int x4), some (.int x5), none]) (st' := [.int (-1)]) (I' := I3) (J' := J3) rfl ?_
            exact Wp.ret rfl h
          · replace h := h.2 h5
            refine Wp.steps 2 (pc' := 43) (lv' := [some (.ref 0), some (.int x1), some (.int x2), some (.int x3), some (.int x4), some (.int x5), none]) (st' := [.int 8, .int x5]) (I' := I3) (J' := J3) rfl ?_
            refine Wp.steps 1 (pc' := if 8 < x5 then 46 else 48) (lv' := [some (.ref 0), some (.int x1), some (.int x2), some (.int x3), some (.int x4), some (.int x5), none]) (st' := []) (I' := I3) (J' := J3) rfl (Wp.ite (fun h6 => ?_) (fun h6 => ?_))
            · replace h := h.1 h6
              refine Wp.steps 1 (pc' := 47) (lv' := [some (.ref 0), some (.int x1), some (.int x2), some (.int x3), some (.int x4), some (.int x5), none]) (st' := [.int (-1)]) (I' := I3) (J' := J3) rfl ?_
              exact Wp.ret rfl h
            · replace h := h.2 h6
              refine Wp.steps 3 (pc' := 53) (lv' := [some (.ref 0), some (.int x1), some (.int x2), some (.int x3), some (.int x4), some (.int x5), none]) (st' := [.int x2, .ref 48]) (I' := I3) (J' := J3) rfl ?_
              rcases vp_4 h.1 with g7 | g7 | g7 | g7
              · replace h := h.2.1 g7
                refine Wp.steps 1 (pc' := 54) (lv' := [some (.ref 0), some (.int x1), some (.int x2), some (.int x3), some (.int x4), some (.int x5), none]) (st' := [.ref 49]) (I' := I3) (J' := J3) (by rw [g7]; rfl) ?_
                refine Wp.steps 5 (pc' := 61) (lv' := [some (.ref 0), some (.int x1), some (.int x2), some (.int x3), some (.int x4), some (.int x5), none]) (st' := [.int (2 * x5), .int x4, .int x3, .ref 49]) (I' := I3) (J' := J3) rfl ?_
                refine Wp.call (M' := Sh_fault) (as := [.ref 49, .int x3, .int x4, .int (2 * x5)]) (rest := []) rfl (CI.use h (fun v4 I4 J4 h => ?_))
                refine Wp.eqs (pc' := 64) (st' := [.int v4]) rfl rfl ?_
                refine Wp.steps 2 (pc' := 68) (lv' := [some (.ref 0), some (.int x1), some (.int x2), some (.int x3), some (.int x4), some (.int x5), some (.int v4)]) (st' := [.int v4]) (I' := I4) (J' := J4) rfl ?_
                refine Wp.steps 1 (pc' := if v4 = 0 then 74 else 71) (lv' := [some (.ref 0), some (.int x1), some (.int x2), some (.int x3), some (.int x4), some (.int x5), some (.int v4)]) (st' := []) (I' := I4) (J' := J4) rfl (Wp.ite (fun h8 => ?_) (fun h8 => ?_))
                · replace h := h.1 h8
                  refine Wp.steps 4 (pc' := 80) (lv' := [some (.ref 0), some (.int x1), some (.int x2), some (.int x3), some (.int x4), some (.int x5), some (.int v4)]) (st' := [.int x2, .ref 48, .ref 0]) (I' := I4) (J' := J4) rfl ?_
                  refine Wp.steps 1 (pc' := 81) (lv' := [some (.ref 0), some (.int x1), some (.int x2), some (.int x3), some (.int x4), some (.int x5), some (.int v4)]) (st' := [.ref 49, .ref 0]) (I' := I4) (J' := J4) (by rw [g7]; rfl) ?_
                  refine Wp.steps 2 (pc' := 85) (lv' := [some (.ref 0), some (.int x1), some (.int x2), some (.int x3), some (.int x4), some (.int x5), some (.int v4)]) (st' := [.int x5, .int x4, .ref 49, .ref 0]) (I' := I4) (J' := J4) rfl ?_
                  refine Wp.call (M' := Sb_areClicks) (as := [.ref 0, .ref 49, .int x4, .int x5]) (rest := []) rfl (CI.use h (fun v5 I5 J5 h => ?_))
                  refine Wp.eqs (pc' := 88) (st' := [.int v5]) rfl rfl ?_
                  refine Wp.steps 1 (pc' := if v5 = 0 then 91 else 94) (lv' := [some (.ref 0), some (.int x1), some (.int x2), some (.int x3), some (.int x4), some (.int x5), some (.int v4)]) (st' := []) (I' := I5) (J' := J5) rfl (Wp.ite (fun h9 => ?_) (fun h9 => ?_))
                  · replace h := h.1 h9
                    refine Wp.steps 1 (pc' := 93) (lv' := [some (.ref 0), some (.int x1), some (.int x2), some (.int x3), some (.int x4), some (.int x5), some (.int v4)]) (st' := [.int (-2)]) (I' := I5) (J' := J5) rfl ?_
                    exact Wp.ret rfl h
                  · replace h := h.2 h9
                    refine Wp.steps 2 (pc' := 97) (lv' := [some (.ref 0), some (.int x1), some (.int x2), some (.int x3), some (.int x4), some (.int x5), some (.int v4)]) (st' := [.int (-4), .int x1]) (I' := I5) (J' := J5) rfl ?_
                    refine Wp.steps 1 (pc' := if x1 = (-4) then 100 else 117) (lv' := [some (.ref 0), some (.int x1), some (.int x2), some (.int x3), some (.int x4), some (.int x5), some (.int v4)]) (st' := []) (I' := I5) (J' := J5) rfl ?_
                    rw [if_neg h1]
                    refine Wp.steps 5 (pc' := 124) (lv' := [some (.ref 0), some (.int x1), some (.int x2), some (.int x3), some (.int x4), some (.int x5), some (.int v4)]) (st' := [.int x2, .ref 48, .int x1, .ref 0]) (I' := I5) (J' := J5) rfl ?_
                    refine Wp.steps 1 (pc' := 125) (lv' := [some (.ref 0), some (.int x1), some (.int x2), some (.int x3), some (.int x4), some (.int x5), some (.int v4)]) (st' := [.ref 49, .int x1, .ref 0]) (I' := I5) (J' := J5) (by rw [g7]; rfl) ?_
                    refine Wp.steps 2 (pc' := 129) (lv' := [some (.ref 0), some (.int x1), some (.int x2), some (.int x3), some (.int x4), some (.int x5), some (.int v4)]) (st' := [.int x5, .int x4, .ref 49, .int x1, .ref 0]) (I' := I5) (J' := J5) rfl ?_
                    refine Wp.call (M' := Sb_kindsByClicks) (as := [.ref 0, .int x1, .ref 49, .int x4, .int x5]) (rest := []) rfl (CI.use h (fun v6 I6 J6 h => ?_))
                    refine Wp.eqs (pc' := 132) (st' := [.int v6]) rfl rfl ?_
                    exact Wp.ret rfl h
                · replace h := h.2 h8
                  refine Wp.steps 1 (pc' := 73) (lv' := [some (.ref 0), some (.int x1), some (.int x2), some (.int x3), some (.int x4), some (.int x5), some (.int v4)]) (st' := [.int v4]) (I' := I4) (J' := J4) rfl ?_
                  exact Wp.ret rfl h
              · replace h := h.2.2.1 g7
                refine Wp.steps 1 (pc' := 54) (lv' := [some (.ref 0), some (.int x1), some (.int x2), some (.int x3), some (.int x4), some (.int x5), none]) (st' := [.ref 51]) (I' := I3) (J' := J3) (by rw [g7]; rfl) ?_
                refine Wp.steps 5 (pc' := 61) (lv' := [some (.ref 0), some (.int x1), some (.int x2), some (.int x3), some (.int x4), some (.int x5), none]) (st' := [.int (2 * x5), .int x4, .int x3, .ref 51]) (I' := I3) (J' := J3) rfl ?_
                refine Wp.call (M' := Sh_fault) (as := [.ref 51, .int x3, .int x4, .int (2 * x5)]) (rest := []) rfl (CI.use h (fun v4 I4 J4 h => ?_))
                refine Wp.eqs (pc' := 64) (st' := [.int v4]) rfl rfl ?_
                refine Wp.steps 2 (pc' := 68) (lv' := [some (.ref 0), some (.int x1), some (.int x2), some (.int x3), some (.int x4), some (.int x5), some (.int v4)]) (st' := [.int v4]) (I' := I4) (J' := J4) rfl ?_
                refine Wp.steps 1 (pc' := if v4 = 0 then 74 else 71) (lv' := [some (.ref 0), some (.int x1), some (.int x2), some (.int x3), some (.int x4), some (.int x5), some (.int v4)]) (st' := []) (I' := I4) (J' := J4) rfl (Wp.ite (fun h8 => ?_) (fun h8 => ?_))
                · replace h := h.1 h8
                  refine Wp.steps 4 (pc' := 80) (lv' := [some (.ref 0), some (.int x1), some (.int x2), some (.int x3), some (.int x4), some (.int x5), some (.int v4)]) (st' := [.int x2, .ref 48, .ref 0]) (I' := I4) (J' := J4) rfl ?_
                  refine Wp.steps 1 (pc' := 81) (lv' := [some (.ref 0), some (.int x1), some (.int x2), some (.int x3), some (.int x4), some (.int x5), some (.int v4)]) (st' := [.ref 51, .ref 0]) (I' := I4) (J' := J4) (by rw [g7]; rfl) ?_
                  refine Wp.steps 2 (pc' := 85) (lv' := [some (.ref 0), some (.int x1), some (.int x2), some (.int x3), some (.int x4), some (.int x5), some (.int v4)]) (st' := [.int x5, .int x4, .ref 51, .ref 0]) (I' := I4) (J' := J4) rfl ?_
                  refine Wp.call (M' := Sb_areClicks) (as := [.ref 0, .ref 51, .int x4, .int x5]) (rest := []) rfl (CI.use h (fun v5 I5 J5 h => ?_))
                  refine Wp.eqs (pc' := 88) (st' := [.int v5]) rfl rfl ?_
                  refine Wp.steps 1 (pc' := if v5 = 0 then 91 else 94) (lv' := [some (.ref 0), some (.int x1), some (.int x2), some (.int x3), some (.int x4), some (.int x5), some (.int v4)]) (st' := []) (I' := I5) (J' := J5) rfl (Wp.ite (fun h9 => ?_) (fun h9 => ?_))
                  · replace h := h.1 h9
                    refine Wp.steps 1 (pc' := 93) (lv' := [some (.ref 0), some (.int x1), some (.int x2), some (.int x3), some (.int x4), some (.int x5), some (.int v4)]) (st' := [.int (-2)]) (I' := I5) (J' := J5) rfl ?_
                    exact Wp.ret rfl h
                  · replace h := h.2 h9
                    refine Wp.steps 2 (pc' := 97) (lv' := [some (.ref 0), some (.int x1), some (.int x2), some (.int x3), some (.int x4), some (.int x5), some (.int v4)]) (st' := [.int (-4), .int x1]) (I' := I5) (J' := J5) rfl ?_
                    refine Wp.steps 1 (pc' := if x1 = (-4) then 100 else 117) (lv' := [some (.ref 0), some (.int x1), some (.int x2), some (.int x3), some (.int x4), some (.int x5), some (.int v4)]) (st' := []) (I' := I5) (J' := J5) rfl ?_
                    rw [if_neg h1]
                    refine Wp.steps 5 (pc' := 124) (lv' := [some (.ref 0), some (.int x1), some (.int x2), some (.int x3), some (.int x4), some (.int x5), some (.int v4)]) (st' := [.int x2, .ref 48, .int x1, .ref 0]) (I' := I5) (J' := J5) rfl ?_
                    refine Wp.steps 1 (pc' := 125) (lv' := [some (.ref 0), some (.int x1), some (.int x2), some (.int x3), some (.int x4), some (.int x5), some (.int v4)]) (st' := [.ref 51, .int x1, .ref 0]) (I' := I5) (J' := J5) (by rw [g7]; rfl) ?_
                    refine Wp.steps 2 (pc' := 129) (lv' := [some (.ref 0), some (.int x1), some (.int x2), some (.int x3), some (.int x4), some (.int x5), some (.int v4)]) (st' := [.int x5, .int x4, .ref 51, .int x1, .ref 0]) (I' := I5) (J' := J5) rfl ?_
                    refine Wp.call (M' := Sb_kindsByClicks) (as := [.ref 0, .int x1, .ref 51, .int x4, .int x5]) (rest := []) rfl (CI.use h (fun v6 I6 J6 h => ?_))
                    refine Wp.eqs (pc' := 132) (st' := [.int v6]) rfl rfl ?_
                    exact Wp.ret rfl h
                · replace h := h.2 h8
                  refine Wp.steps 1 (pc' := 73) (lv' := [some (.ref 0), some (.int x1), some (.int x2), some (.int x3), some (.int x4), some (.int x5), some (.int v4)]) (st' := [.int v4]) (I' := I4) (J' := J4) rfl ?_
                  exact Wp.ret rfl h
              · replace h := h.2.2.2.1 g7
                refine Wp.steps 1 (pc' := 54) (lv' := [some (.ref 0), some (.int x1), some (.int x2), some (.int x3), some (.int x4), some (.int x5), none]) (st' := [.ref 53]) (I' := I3) (J' := J3) (by rw [g7]; rfl) ?_
                refine Wp.steps 5 (pc' := 61) (lv' := [some (.ref 0), some (.int x1), some (.int x2), some (.int x3), some (.int x4), some (.int x5), none]) (st' := [.int (2 * x5), .int x4, .int x3, .ref 53]) (I' := I3) (J' := J3) rfl ?_
                refine Wp.call (M' := Sh_fault) (as := [.ref 53, .int x3, .int x4, .int (2 * x5)]) (rest := []) rfl (CI.use h (fun v4 I4 J4 h => ?_))
                refine Wp.eqs (pc' := 64) (st' := [.int v4]) rfl rfl ?_
                refine Wp.steps 2 (pc' := 68) (lv' := [some (.ref 0), some (.int x1), some (.int x2), some (.int x3), some (.int x4), some (.int x5), some (.int v4)]) (st' := [.int v4]) (I' := I4) (J' := J4) rfl ?_
                refine Wp.steps 1 (pc' := if v4 = 0 then 74 else 71) (lv' := [some (.ref 0), some (.int x1), some (.int x2), some (.int x3), some (.int x4), some (.int x5), some (.int v4)]) (st' := []) (I' := I4) (J' := J4) rfl (Wp.ite (fun h8 => ?_) (fun h8 => ?_))
                · replace h := h.1 h8
                  refine Wp.steps 4 (pc' := 80) (lv' := [some (.ref 0), some (.int x1), some (.int x2), some (.int x3), some (.int x4), some (.int x5), some (.int v4)]) (st' := [.int x2, .ref 48, .ref 0]) (I' := I4) (J' := J4) rfl ?_
                  refine Wp.steps 1 (pc' := 81) (lv' := [some (.ref 0), some (.int x1), some (.int x2), some (.int x3), some (.int x4), some (.int x5), some (.int v4)]) (st' := [.ref 53, .ref 0]) (I' := I4) (J' := J4) (by rw [g7]; rfl) ?_
                  refine Wp.steps 2 (pc' := 85) (lv' := [some (.ref 0), some (.int x1), some (.int x2), some (.int x3), some (.int x4), some (.int x5), some (.int v4)]) (st' := [.int x5, .int x4, .ref 53, .ref 0]) (I' := I4) (J' := J4) rfl ?_
                  refine Wp.call (M' := Sb_areClicks) (as := [.ref 0, .ref 53, .int x4, .int x5]) (rest := []) rfl (CI.use h (fun v5 I5 J5 h => ?_))
                  refine Wp.eqs (pc' := 88) (st' := [.int v5]) rfl rfl ?_
                  refine Wp.steps 1 (pc' := if v5 = 0 then 91 else 94) (lv' := [some (.ref 0), some (.int x1), some (.int x2), some (.int x3), some (.int x4), some (.int x5), some (.int v4)]) (st' := []) (I' := I5) (J' := J5) rfl (Wp.ite (fun h9 => ?_) (fun h9 => ?_))
                  · replace h := h.1 h9
                    refine Wp.steps 1 (pc' := 93) (lv' := [some (.ref 0), some (.int x1), some (.int x2), some (.int x3), some (.int x4), some (.int x5), some (.int v4)]) (st' := [.int (-2)]) (I' := I5) (J' := J5) rfl ?_
                    exact Wp.ret rfl h
                  · replace h := h.2 h9
                    refine Wp.steps 2 (pc' := 97) (lv' := [some (.ref 0), some (.int x1), some (.int x2), some (.int x3), some (.int x4), some (.int x5), some (.int v4)]) (st' := [.int (-4), .int x1]) (I' := I5) (J' := J5) rfl ?_
                    refine Wp.steps 1 (pc' := if x1 = (-4) then 100 else 117) (lv' := [some (.ref 0), some (.int x1), some (.int x2), some (.int x3), some (.int x4), some (.int x5), some (.int v4)]) (st' := []) (I' := I5) (J' := J5) rfl ?_
                    rw [if_neg h1]
                    refine Wp.steps 5 (pc' := 124) (lv' := [some (.ref 0), some (.int x1), some (.int x2), some (.int x3), some (.int x4), some (.int x5), some (.int v4)]) (st' := [.int x2, .ref 48, .int x1, .ref 0]) (I' := I5) (J' := J5) rfl ?_
                    refine Wp.steps 1 (pc' := 125) (lv' := [some (.ref 0), some (.int x1), some (.int x2), some (.int x3), some (.int x4), some (.int x5), some (.int v4)]) (st' := [.ref 53, .int x1, .ref 0]) (I' := I5) (J' := J5) (by rw [g7]; rfl) ?_
                    refine Wp.steps 2 (pc' := 129) (lv' := [some (.ref 0), some (.int x1), some (.int x2), some (.int x3), some (.int x4), some (.int x5), some (.int v4)]) (st' := [.int x5, .int x4, .ref 53, .int x1, .ref 0]) (I' := I5) (J' := J5) rfl ?_
                    refine Wp.call (M' := Sb_kindsByClicks) (as := [.ref 0, .int x1, .ref 53, .int x4, .int x5]) (rest := []) rfl (CI.use h (fun v6 I6 J6 h => ?_))
                    refine Wp.eqs (pc' := 132) (st' := [.int v6]) rfl rfl ?_
                    exact Wp.ret rfl h
                · replace h := h.2 h8
                  refine Wp.steps 1 (pc' := 73) (lv' := [some (.ref 0), some (.int x1), some (.int x2), some (.int x3), some (.int x4), some (.int x5), some (.int v4)]) (st' := [.int v4]) (I' := I4) (J' := J4) rfl ?_
                  exact Wp.ret rfl h
              · replace h := h.2.2.2.2 g7
                refine Wp.steps 1 (pc' := 54) (lv' := [some (.ref 0), some (.int x1), some (.int x2), some (.int x3), some (.int x4), some (.int x5), none]) (st' := [.ref 55]) (I' := I3) (J' := J3) (by rw [g7]; rfl) ?_
                refine Wp.steps 5 (pc' := 61) (lv' := [some (.ref 0), some (.int x1), some (.int x2), some (.int x3), some (.int x4), some (.int x5), none]) (st' := [.int (2 * x5), .int x4, .int x3, .ref 55]) (I' := I3) (J' := J3) rfl ?_
                refine Wp.call (M' := Sh_fault) (as := [.ref 55, .int x3, .int x4, .int (2 * x5)]) (rest := []) rfl (CI.use h (fun v4 I4 J4 h => ?_))
                refine Wp.eqs (pc' := 64) (st' := [.int v4]) rfl rfl ?_
                refine Wp.steps 2 (pc' := 68) (lv' := [some (.ref 0), some (.int x1), some (.int x2), some (.int x3), some (.int x4), some (.int x5), some (.int v4)]) (st' := [.int v4]) (I' := I4) (J' := J4) rfl ?_
                refine Wp.steps 1 (pc' := if v4 = 0 then 74 else 71) (lv' := [some (.ref 0), some (.int x1), some (.int x2), some (.int x3), some (.int x4), some (.int x5), some (.int v4)]) (st' := []) (I' := I4) (J' := J4) rfl (Wp.ite (fun h8 => ?_) (fun h8 => ?_))
                · replace h := h.1 h8
                  refine Wp.steps 4 (pc' := 80) (lv' := [some (.ref 0), some (.int x1), some (.int x2), some (.int x3), some (.int x4), some (.int x5), some (.int v4)]) (st' := [.int x2, .ref 48, .ref 0]) (I' := I4) (J' := J4) rfl ?_
                  refine Wp.steps 1 (pc' := 81) (lv' := [some (.ref 0), some (.int x1), some (.int x2), some (.int x3), some (.int x4), some (.int x5), some (.int v4)]) (st' := [.ref 55, .ref 0]) (I' := I4) (J' := J4) (by rw [g7]; rfl) ?_
                  refine Wp.steps 2 (pc' := 85) (lv' := [some (.ref 0), some (.int x1), some (.int x2), some (.int x3), some (.int x4), some (.int x5), some (.int v4)]) (st' := [.int x5, .int x4, .ref 55, .ref 0]) (I' := I4) (J' := J4) rfl ?_
                  refine Wp.call (M' := Sb_areClicks) (as := [.ref 0, .ref 55, .int x4, .int x5]) (rest := []) rfl (CI.use h (fun v5 I5 J5 h => ?_))
                  refine Wp.eqs (pc' := 88) (st' := [.int v5]) rfl rfl ?_
                  refine Wp.steps 1 (pc' := if v5 = 0 then 91 else 94) (lv' := [some (.ref 0), some (.int x1), some (.int x2), some (.int x3), some (.int x4), some (.int x5), some (.int v4)]) (st' := []) (I' := I5) (J' := J5) rfl (Wp.ite (fun h9 => ?_) (fun h9 => ?_))
                  · replace h := h.1 h9
                    refine Wp.steps 1 (pc' := 93) (lv' := [some (.ref 0), some (.int x1), some (.int x2), some (.int x3), some (.int x4), some (.int x5), some (.int v4)]) (st' := [.int (-2)]) (I' := I5) (J' := J5) rfl ?_
                    exact Wp.ret rfl h
                  · replace h := h.2 h9
                    refine Wp.steps 2 (pc' := 97) (lv' := [some (.ref 0), some (.int x1), some (.int x2), some (.int x3), some (.int x4), some (.int x5), some (.int v4)]) (st' := [.int (-4), .int x1]) (I' := I5) (J' := J5) rfl ?_
                    refine Wp.steps 1 (pc' := if x1 = (-4) then 100 else 117) (lv' := [some (.ref 0), some (.int x1), some (.int x2), some (.int x3), some (.int x4), some (.int x5), some (.int v4)]) (st' := []) (I' := I5) (J' := J5) rfl ?_
                    rw [if_neg h1]
                    refine Wp.steps 5 (pc' := 124) (lv' := [some (.ref 0), some (.int x1), some (.int x2), some (.int x3), some (.int x4), some (.int x5), some (.int v4)]) (st' := [.int x2, .ref 48, .int x1, .ref 0]) (I' := I5) (J' := J5) rfl ?_
                    refine Wp.steps 1 (pc' := 125) (lv' := [some (.ref 0), some (.int x1), some (.int x2), some (.int x3), some (.int x4), some (.int x5), some (.int v4)]) (st' := [.ref 55, .int x1, .ref 0]) (I' := I5) (J' := J5) (by rw [g7]; rfl) ?_
                    refine Wp.steps 2 (pc' := 129) (lv' := [some (.ref 0), some (.int x1), some (.int x2), some (.int x3), some (.int x4), some (.int x5), some (.int v4)]) (st' := [.int x5, .int x4, .ref 55, .int x1, .ref 0]) (I' := I5) (J' := J5) rfl ?_
                    refine Wp.call (M' := Sb_kindsByClicks) (as := [.ref 0, .int x1, .ref 55, .int x4, .int x5]) (rest := []) rfl (CI.use h (fun v6 I6 J6 h => ?_))
                    refine Wp.eqs (pc' := 132) (st' := [.int v6]) rfl rfl ?_
                    exact Wp.ret rfl h
                · replace h := h.2 h8
                  refine Wp.steps 1 (pc' := 73) (lv' := [some (.ref 0), some (.int x1), some (.int x2), some (.int x3), some (.int x4), some (.int x5), some (.int v4)]) (st' := [.int v4]) (I' := I4) (J' := J4) rfl ?_
                  exact Wp.ret rfl h
theorem v_Sb_placeIn_0 {d : Nat} {Q : Post} {I : I2} {J : J2} {x0 : Int32} {x1 : Int32} (h : Q (some (.int ((srI x0 (2 * x1)) &&& 3))) I J) : Wp d Sb_placeIn Q 0 [some (.int x0), some (.int x1)] [] I J := by
  refine Wp.steps 7 (pc' := 7) (lv' := [some (.int x0), some (.int x1)]) (st' := [.int ((srI x0 (2 * x1)) &&& 3)]) (I' := I) (J' := J) rfl ?_
  exact Wp.ret rfl h
theorem v_Sb_isSheet_0 {d : Nat} {Q : Post} {I : I2} {J : J2} {x0 : Int32} (h : (x0 < 0 → Q (some (.int 0)) I J) ∧ (¬ (x0 < 0) → (x0 < 4 → Q (some (.int 1)) I J) ∧ (¬ (x0 < 4) → Q (some (.int 0)) I J))) : Wp d Sb_isSheet Q 0 [some (.int x0)] [] I J := by
  refine Wp.steps 1 (pc' := 1) (lv' := [some (.int x0)]) (st' := [.int x0]) (I' := I) (J' := J) rfl ?_
  refine Wp.steps 1 (pc' := if x0 < 0 then 13 else 4) (lv' := [some (.int x0)]) (st' := []) (I' := I) (J' := J) rfl (Wp.ite (fun h1 => ?_) (fun h1 => ?_))
  · replace h := h.1 h1
    refine Wp.steps 1 (pc' := 14) (lv' := [some (.int x0)]) (st' := [.int 0]) (I' := I) (J' := J) rfl ?_
    exact Wp.ret rfl h
  · replace h := h.2 h1
    refine Wp.steps 2 (pc' := 6) (lv' := [some (.int x0)]) (st' := [.int 4, .int x0]) (I' := I) (J' := J) rfl ?_
    refine Wp.steps 1 (pc' := if x0 < 4 then 9 else 13) (lv' := [some (.int x0)]) (st' := []) (I' := I) (J' := J) rfl (Wp.ite (fun h2 => ?_) (fun h2 => ?_))
    · replace h := h.1 h2
      refine Wp.steps 2 (pc' := 14) (lv' := [some (.int x0)]) (st' := [.int 1]) (I' := I) (J' := J) rfl ?_
      exact Wp.ret rfl h
    · replace h := h.2 h2
      refine Wp.steps 1 (pc' := 14) (lv' := [some (.int x0)]) (st' := [.int 0]) (I' := I) (J' := J) rfl ?_
      exact Wp.ret rfl h
theorem v_Sb_isLane_0 {d : Nat} {Q : Post} {I : I2} {J : J2} {x0 : Int32} (h : (x0 < 0 → Q (some (.int 0)) I J) ∧ (¬ (x0 < 0) → (x0 < 4 → Q (some (.int 1)) I J) ∧ (¬ (x0 < 4) → Q (some (.int 0)) I J))) : Wp d Sb_isLane Q 0 [some (.int x0)] [] I J := by
  refine Wp.steps 1 (pc' := 1) (lv' := [some (.int x0)]) (st' := [.int x0]) (I' := I) (J' := J) rfl ?_
  refine Wp.steps 1 (pc' := if x0 < 0 then 13 else 4) (lv' := [some (.int x0)]) (st' := []) (I' := I) (J' := J) rfl (Wp.ite (fun h1 => ?_) (fun h1 => ?_))
  · replace h := h.1 h1
    refine Wp.steps 1 (pc' := 14) (lv' := [some (.int x0)]) (st' := [.int 0]) (I' := I) (J' := J) rfl ?_
    exact Wp.ret rfl h
  · replace h := h.2 h1
    refine Wp.steps 2 (pc' := 6) (lv' := [some (.int x0)]) (st' := [.int 4, .int x0]) (I' := I) (J' := J) rfl ?_
    refine Wp.steps 1 (pc' := if x0 < 4 then 9 else 13) (lv' := [some (.int x0)]) (st' := []) (I' := I) (J' := J) rfl (Wp.ite (fun h2 => ?_) (fun h2 => ?_))
    · replace h := h.1 h2
      refine Wp.steps 2 (pc' := 14) (lv' := [some (.int x0)]) (st' := [.int 1]) (I' := I) (J' := J) rfl ?_
      exact Wp.ret rfl h
    · replace h := h.2 h2
      refine Wp.steps 1 (pc' := 14) (lv' := [some (.int x0)]) (st' := [.int 0]) (I' := I) (J' := J) rfl ?_
      exact Wp.ret rfl h
theorem v_Sb_opensWith_0_0 {d : Nat} {Q : Post} {I : I2} {J : J2} {x1 : Int32} (h : CV d Wk_from [.ref 33, .int (I 1 9), .int x1] I J (fun I1 J1 => CI d Wk_firstOpen [.ref 33] I1 J1 (fun v2 I2 J2 => CI d Wk_told [.ref 33, .int v2, .int (-1)] I2 J2 (fun v3 I3 J3 => Q (some (.int v3)) I3 J3)))) : Wp d Sb_opensWith Q 0 [some (.ref 0), some (.int x1)] [] I J := by
  refine Wp.steps 6 (pc' := 12) (lv' := [some (.ref 0), some (.int x1)]) (st' := [.int x1, .int (I 1 9), .ref 33]) (I' := I) (J' := J) rfl ?_
  refine Wp.call (M' := Wk_from) (as := [.ref 33, .int (I 1 9), .int x1]) (rest := []) rfl (CV.use h (fun I1 J1 h => ?_))
  refine Wp.eqs (pc' := 15) (st' := []) rfl rfl ?_
  refine Wp.steps 4 (pc' := 23) (lv' := [some (.ref 0), some (.int x1)]) (st' := [.ref 33, .ref 33]) (I' := I1) (J' := J1) rfl ?_
  refine Wp.call (M' := Wk_firstOpen) (as := [.ref 33]) (rest := [.ref 33]) rfl (CI.use h (fun v2 I2 J2 h => ?_))
  refine Wp.eqs (pc' := 26) (st' := [.int v2, .ref 33]) rfl rfl ?_
  refine Wp.steps 1 (pc' := 27) (lv' := [some (.ref 0), some (.int x1)]) (st' := [.int (-1), .int v2, .ref 33]) (I' := I2) (J' := J2) rfl ?_
  refine Wp.call (M' := Wk_told) (as := [.ref 33, .int v2, .int (-1)]) (rest := []) rfl (CI.use h (fun v3 I3 J3 h => ?_))
  refine Wp.eqs (pc' := 30) (st' := [.int v3]) rfl rfl ?_
  exact Wp.ret rfl h
theorem v_Sb_openShares_1_0 {d : Nat} {Q : Post} {I : I2} {J : J2} {x1 : Int32} {x2 : Int32} (h : CI d Bx_isOpen [.ref 1, .int x1] I J (fun v1 I1 J1 => (v1 = 0 → (0 < x2 → Wp d Sb_openShares Q 27 [some (.ref 1), some (.int x1), some (.int x2), some (.long 0), none, some (.int 0), some (.int 0)] [] I1 J1) ∧ (¬ (0 < x2) → Q (some (.long 0)) I1 J1)) ∧ (¬ (v1 = 0) → CL d Sb_evenShares [.int x2] I1 J1 (fun v2 I2 J2 => Q (some (.long v2)) I2 J2)))) : Wp d Sb_openShares Q 0 [some (.ref 1), some (.int x1), some (.int x2), none, none, none, none] [] I J := by
  refine Wp.steps 2 (pc' := 2) (lv' := [some (.ref 1), some (.int x1), some (.int x2), none, none, none, none]) (st' := [.int x1, .ref 1]) (I' := I) (J' := J) rfl ?_
  refine Wp.call (M' := Bx_isOpen) (as := [.ref 1, .int x1]) (rest := []) rfl (CI.use h (fun v1 I1 J1 h => ?_))
  refine Wp.eqs (pc' := 5) (st' := [.int v1]) rfl rfl ?_
  refine Wp.steps 1 (pc' := if v1 = 0 then 13 else 8) (lv' := [some (.ref 1), some (.int x1), some (.int x2), none, none, none, none]) (st' := []) (I' := I1) (J' := J1) rfl (Wp.ite (fun h1 => ?_) (fun h1 => ?_))
  · replace h := h.1 h1
    refine Wp.steps 1 (pc' := 14) (lv' := [some (.ref 1), some (.int x1), some (.int x2), none, none, none, none]) (st' := [.int x2]) (I' := I1) (J' := J1) rfl ?_
    refine Wp.steps 1 (pc' := if 0 < x2 then 19 else 17) (lv' := [some (.ref 1), some (.int x1), some (.int x2), none, none, none, none]) (st' := []) (I' := I1) (J' := J1) rfl (Wp.ite (fun h2 => ?_) (fun h2 => ?_))
    · replace h := h.1 h2
      refine Wp.steps 6 (pc' := 27) (lv' := [some (.ref 1), some (.int x1), some (.int x2), some (.long 0), none, some (.int 0), some (.int 0)]) (st' := []) (I' := I1) (J' := J1) rfl ?_
      exact h
    · replace h := h.2 h2
      refine Wp.steps 1 (pc' := 18) (lv' := [some (.ref 1), some (.int x1), some (.int x2), none, none, none, none]) (st' := [.long 0]) (I' := I1) (J' := J1) rfl ?_
      exact Wp.ret rfl h
  · replace h := h.2 h1
    refine Wp.steps 1 (pc' := 9) (lv' := [some (.ref 1), some (.int x1), some (.int x2), none, none, none, none]) (st' := [.int x2]) (I' := I1) (J' := J1) rfl ?_
    refine Wp.call (M' := Sb_evenShares) (as := [.int x2]) (rest := []) rfl (CL.use h (fun v2 I2 J2 h => ?_))
    refine Wp.eqs (pc' := 12) (st' := [.long v2]) rfl rfl ?_
    exact Wp.ret rfl h
theorem v_Sb_openShares_1_27 {d : Nat} {Q : Post} {I : I2} {J : J2} {x1 : Int32} {x2 : Int32} {x3 : Int64} {x5 : Int32} {x6 : Int32} (h : (x6 < (2 * (I 1 2)) → CI d Bx_maySlide [.ref 1, .int x1, .int (I 1 10), .int (srI x6 1), .int (x6 &&& 1)] I J (fun v1 I1 J1 => (v1 = 0 → Wp d Sb_openShares Q 27 [some (.ref 1), some (.int x1), some (.int x2), some (.long x3), none, some (.int x5), some (.int (x6 + 1))] [] I1 J1) ∧ (¬ (v1 = 0) → CI d Bx_behind [.ref 1, .int x1, .int (srI x6 1), .int (x6 &&& 1)] I1 J1 (fun v2 I2 J2 => CL d Sb_openShares [.ref 1, .int v2, .int (x2 - 1)] I2 J2 (fun v3 I3 J3 => Wp d Sb_openShares Q 27 [some (.ref 1), some (.int x1), some (.int x2), some (.long (x3 + v3)), none, some (.int (x5 + 1)), some (.int (x6 + 1))] [] I3 J3))))) ∧ (¬ (x6 < (2 * (I 1 2))) → (x5 = 0 → Q (some (.long 0)) I J) ∧ (¬ (x5 = 0) → ¬ (Int32.toInt64 x5) = 0 ∧ (Q (some (.long (x3 * (2520 / (Int32.toInt64 x5))))) I J)))) : Wp d Sb_openShares Q 27 [some (.ref 1), some (.int x1), some (.int x2), some (.long x3), none, some (.int x5), some (.int x6)] [] I J := by
  refine Wp.steps 5 (pc' := 35) (lv' := [some (.ref 1), some (.int x1), some (.int x2), some (.long x3), none, some (.int x5), some (.int x6)]) (st' := [.int (2 * (I 1 2)), .int x6]) (I' := I) (J' := J) rfl ?_
  refine Wp.steps 1 (pc' := if x6 < (2 * (I 1 2)) then 38 else 93) (lv' := [some (.ref 1), some (.int x1), some (.int x2), some (.long x3), none, some (.int x5), some (.int x6)]) (st' := []) (I' := I) (J' := J) rfl (Wp.ite (fun h1 => ?_) (fun h1 => ?_))
  · replace h := h.1 h1
    refine Wp.steps 10 (pc' := 52) (lv' := [some (.ref 1), some (.int x1), some (.int x2), some (.long x3), none, some (.int x5), some (.int x6)]) (st' := [.int (x6 &&& 1), .int (srI x6 1), .int (I 1 10), .int x1, .ref 1]) (I' := I) (J' := J) rfl ?_
    refine Wp.call (M' := Bx_maySlide) (as := [.ref 1, .int x1, .int (I 1 10), .int (srI x6 1), .int (x6 &&& 1)]) (rest := []) rfl (CI.use h (fun v1 I1 J1 h => ?_))
    refine Wp.eqs (pc' := 55) (st' := [.int v1]) rfl rfl ?_
    refine Wp.steps 1 (pc' := if v1 = 0 then 58 else 61) (lv' := [some (.ref 1), some (.int x1), some (.int x2), some (.long x3), none, some (.int x5), some (.int x6)]) (st' := []) (I' := I1) (J' := J1) rfl (Wp.ite (fun h2 => ?_) (fun h2 => ?_))
    · replace h := h.1 h2
      refine Wp.steps 3 (pc' := 27) (lv' := [some (.ref 1), some (.int x1), some (.int x2), some (.long x3), none, some (.int x5), some (.int (x6 + 1))]) (st' := []) (I' := I1) (J' := J1) rfl ?_
      exact h
    · replace h := h.2 h2
      refine Wp.steps 11 (pc' := 76) (lv' := [some (.ref 1), some (.int x1), some (.int x2), some (.long x3), none, some (.int (x5 + 1)), some (.int x6)]) (st' := [.int (x6 &&& 1), .int (srI x6 1), .int x1, .ref 1, .ref 1, .long x3]) (I' := I1) (J' := J1) rfl ?_
      refine Wp.call (M' := Bx_behind) (as := [.ref 1, .int x1, .int (srI x6 1), .int (x6 &&& 1)]) (rest := [.ref 1, .long x3]) rfl (CI.use h (fun v2 I2 J2 h => ?_))
      refine Wp.eqs (pc' := 79) (st' := [.int v2, .ref 1, .long x3]) rfl rfl ?_
      refine Wp.steps 3 (pc' := 82) (lv' := [some (.ref 1), some (.int x1), some (.int x2), some (.long x3), none, some (.int (x5 + 1)), some (.int x6)]) (st' := [.int (x2 - 1), .int v2, .ref 1, .long x3]) (I' := I2) (J' := J2) rfl ?_
      refine Wp.call (M' := Sb_openShares) (as := [.ref 1, .int v2, .int (x2 - 1)]) (rest := [.long x3]) rfl (CL.use h (fun v3 I3 J3 h => ?_))
      refine Wp.eqs (pc' := 85) (st' := [.long v3, .long x3]) rfl rfl ?_
      refine Wp.steps 4 (pc' := 27) (lv' := [some (.ref 1), some (.int x1), some (.int x2), some (.long (x3 + v3)), none, some (.int (x5 + 1)), some (.int (x6 + 1))]) (st' := []) (I' := I3) (J' := J3) rfl ?_
      exact h
  · replace h := h.2 h1
    refine Wp.steps 1 (pc' := 95) (lv' := [some (.ref 1), some (.int x1), some (.int x2), some (.long x3), none, some (.int x5), some (.int x6)]) (st' := [.int x5]) (I' := I) (J' := J) rfl ?_
    refine Wp.steps 1 (pc' := if x5 = 0 then 98 else 102) (lv' := [some (.ref 1), some (.int x1), some (.int x2), some (.long x3), none, some (.int x5), some (.int x6)]) (st' := []) (I' := I) (J' := J) rfl (Wp.ite (fun h2 => ?_) (fun h2 => ?_))
    · replace h := h.1 h2
      refine Wp.steps 2 (pc' := 111) (lv' := [some (.ref 1), some (.int x1), some (.int x2), some (.long x3), none, some (.int x5), some (.int x6)]) (st' := [.long 0]) (I' := I) (J' := J) rfl ?_
      exact Wp.ret rfl h
    · replace h := h.2 h2
      refine Wp.steps 4 (pc' := 109) (lv' := [some (.ref 1), some (.int x1), some (.int x2), some (.long x3), none, some (.int x5), some (.int x6)]) (st' := [.long (Int32.toInt64 x5), .long 2520, .long x3]) (I' := I) (J' := J) rfl ?_
      refine Wp.ldiv rfl h.1 ?_
      replace h := h.2
      refine Wp.steps 1 (pc' := 111) (lv' := [some (.ref 1), some (.int x1), some (.int x2), some (.long x3), none, some (.int x5), some (.int x6)]) (st' := [.long (x3 * (2520 / (Int32.toInt64 x5)))]) (I' := I) (J' := J) rfl ?_
      exact Wp.ret rfl h
theorem v_Sb_evenShares_0 {d : Nat} {Q : Post} {I : I2} {J : J2} {x0 : Int32} (h : Wp d Sb_evenShares Q 4 [some (.int x0), some (.long 1), none, some (.int 0)] [] I J) : Wp d Sb_evenShares Q 0 [some (.int x0), none, none, none] [] I J := by
  refine Wp.steps 4 (pc' := 4) (lv' := [some (.int x0), some (.long 1), none, some (.int 0)]) (st' := []) (I' := I) (J' := J) rfl ?_
  exact h
theorem v_Sb_evenShares_4 {d : Nat} {Q : Post} {I : I2} {J : J2} {x0 : Int32} {x1 : Int64} {x3 : Int32} (h : (x3 < x0 → Wp d Sb_evenShares Q 4 [some (.int x0), some (.long (x1 * 2520)), none, some (.int (x3 + 1))] [] I J) ∧ (¬ (x3 < x0) → Q (some (.long x1)) I J)) : Wp d Sb_evenShares Q 4 [some (.int x0), some (.long x1), none, some (.int x3)] [] I J := by
  refine Wp.steps 2 (pc' := 6) (lv' := [some (.int x0), some (.long x1), none, some (.int x3)]) (st' := [.int x0, .int x3]) (I' := I) (J' := J) rfl ?_
  refine Wp.steps 1 (pc' := if x3 < x0 then 9 else 21) (lv' := [some (.int x0), some (.long x1), none, some (.int x3)]) (st' := []) (I' := I) (J' := J) rfl (Wp.ite (fun h1 => ?_) (fun h1 => ?_))
  · replace h := h.1 h1
    refine Wp.steps 6 (pc' := 4) (lv' := [some (.int x0), some (.long (x1 * 2520)), none, some (.int (x3 + 1))]) (st' := []) (I' := I) (J' := J) rfl ?_
    exact h
  · replace h := h.2 h1
    refine Wp.steps 1 (pc' := 22) (lv' := [some (.int x0), some (.long x1), none, some (.int x3)]) (st' := [.long x1]) (I' := I) (J' := J) rfl ?_
    exact Wp.ret rfl h
theorem v_Sb_greatestDivisor_0 {d : Nat} {Q : Post} {I : I2} {J : J2} {x0 : Int64} {x2 : Int64} (h : Wp d Sb_greatestDivisor Q 3 [some (.long x0), none, some (.long x2), none, some (.int 0), none, none] [] I J) : Wp d Sb_greatestDivisor Q 0 [some (.long x0), none, some (.long x2), none, none, none, none] [] I J := by
  refine Wp.steps 2 (pc' := 3) (lv' := [some (.long x0), none, some (.long x2), none, some (.int 0), none, none]) (st' := []) (I' := I) (J' := J) rfl ?_
  exact h
theorem v_Sb_greatestDivisor_3 {d : Nat} {Q : Post} {I : I2} {J : J2} {x0 : Int64} {x2 : Int64} {x4 : Int32} (h : (x4 < 128 → ((lg_cmp x2 0) = 0 → Q (some (.long x0)) I J) ∧ (¬ ((lg_cmp x2 0) = 0) → ¬ x2 = 0 ∧ (Wp d Sb_greatestDivisor Q 3 [some (.long x2), none, some (.long (rmL x0 x2)), none, some (.int (x4 + 1)), none, none] [] I J))) ∧ (¬ (x4 < 128) → Q (some (.long x0)) I J)) : Wp d Sb_greatestDivisor Q 3 [some (.long x0), none, some (.long x2), none, some (.int x4), none, none] [] I J := by
  refine Wp.steps 2 (pc' := 8) (lv' := [some (.long x0), none, some (.long x2), none, some (.int x4), none, none]) (st' := [.int 128, .int x4]) (I' := I) (J' := J) rfl ?_
  refine Wp.steps 1 (pc' := if x4 < 128 then 11 else 33) (lv' := [some (.long x0), none, some (.long x2), none, some (.int x4), none, none]) (st' := []) (I' := I) (J' := J) rfl (Wp.ite (fun h1 => ?_) (fun h1 => ?_))
  · replace h := h.1 h1
    refine Wp.steps 3 (pc' := 14) (lv' := [some (.long x0), none, some (.long x2), none, some (.int x4), none, none]) (st' := [.int (lg_cmp x2 0)]) (I' := I) (J' := J) rfl ?_
    refine Wp.steps 1 (pc' := if (lg_cmp x2 0) = 0 then 33 else 17) (lv' := [some (.long x0), none, some (.long x2), none, some (.int x4), none, none]) (st' := []) (I' := I) (J' := J) rfl (Wp.ite (fun h2 => ?_) (fun h2 => ?_))
    · replace h := h.1 h2
      refine Wp.steps 1 (pc' := 34) (lv' := [some (.long x0), none, some (.long x2), none, some (.int x4), none, none]) (st' := [.long x0]) (I' := I) (J' := J) rfl ?_
      exact Wp.ret rfl h
    · replace h := h.2 h2
      refine Wp.steps 2 (pc' := 19) (lv' := [some (.long x0), none, some (.long x2), none, some (.int x4), none, none]) (st' := [.long x2, .long x0]) (I' := I) (J' := J) rfl ?_
      refine Wp.lrem rfl h.1 ?_
      replace h := h.2
      refine Wp.steps 7 (pc' := 3) (lv' := [some (.long x2), none, some (.long (rmL x0 x2)), none, some (.int (x4 + 1)), some (.long (rmL x0 x2)), none]) (st' := []) (I' := I) (J' := J) rfl ?_
      refine Wp.drop [5] (lv' := [some (.long x2), none, some (.long (rmL x0 x2)), none, some (.int (x4 + 1)), none, none]) rfl ?_
      exact h
  · replace h := h.2 h1
    refine Wp.steps 1 (pc' := 34) (lv' := [some (.long x0), none, some (.long x2), none, some (.int x4), none, none]) (st' := [.long x0]) (I' := I) (J' := J) rfl ?_
    exact Wp.ret rfl h
theorem v_Sb_areClicks_0_49_0 {d : Nat} {Q : Post} {I : I2} {J : J2} {x2 : Int32} {x3 : Int32} (h : Wp d Sb_areClicks Q 3 [some (.ref 0), some (.ref 49), some (.int x2), some (.int x3), some (.int 0), none, none, none, none] [] I J) : Wp d Sb_areClicks Q 0 [some (.ref 0), some (.ref 49), some (.int x2), some (.int x3), none, none, none, none, none] [] I J := by
  refine Wp.steps 2 (pc' := 3) (lv' := [some (.ref 0), some (.ref 49), some (.int x2), some (.int x3), some (.int 0), none, none, none, none]) (st' := []) (I' := I) (J' := J) rfl ?_
  exact h
theorem v_Sb_areClicks_0_49_3 {d : Nat} {Q : Post} {I : I2} {J : J2} {x2 : Int32} {x3 : Int32} {x4 : Int32} (h : (x4 < x3 → CL d Sh_look [.ref 49, .int (x2 + (2 * x4))] I J (fun v1 I1 J1 => CL d Sh_look [.ref 49, .int ((x2 + (2 * x4)) + 1)] I1 J1 (fun v2 I2 J2 => ((lg_cmp v1 0) < 0 → Q (some (.int 0)) I2 J2) ∧ (¬ ((lg_cmp v1 0) < 0) → ((lg_cmp (v1 / 10) (Int32.toInt64 (I2 1 2))) < 0 → (0 < (lg_cmp (rmL v1 10) 1) → Q (some (.int 0)) I2 J2) ∧ (¬ (0 < (lg_cmp (rmL v1 10) 1)) → ((lg_cmp v2 0) < 0 → Q (some (.int 0)) I2 J2) ∧ (¬ ((lg_cmp v2 0) < 0) → (0 < (lg_cmp v2 1) → Q (some (.int 0)) I2 J2) ∧ (¬ (0 < (lg_cmp v2 1)) → Wp d Sb_areClicks Q 3 [some (.ref 0), some (.ref 49), some (.int x2), some (.int x3), some (.int (x4 + 1)), none, none, none, none] [] I2 J2)))) ∧ (¬ ((lg_cmp (v1 / 10) (Int32.toInt64 (I2 1 2))) < 0) → Q (some (.int 0)) I2 J2))))) ∧ (¬ (x4 < x3) → Q (some (.int 1)) I J)) : Wp d Sb_areClicks Q 3 [some (.ref 0), some (.ref 49), some (.int x2), some (.int x3), some (.int x4), none, none, none, none] [] I J := by
  refine Wp.steps 2 (pc' := 6) (lv' := [some (.ref 0), some (.ref 49), some (.int x2), some (.int x3), some (.int x4), none, none, none, none]) (st' := [.int x3, .int x4]) (I' := I) (J' := J) rfl ?_
  refine Wp.steps 1 (pc' := if x4 < x3 then 9 else 95) (lv' := [some (.ref 0), some (.ref 49), some (.int x2), some (.int x3), some (.int x4), none, none, none, none]) (st' := []) (I' := I) (J' := J) rfl (Wp.ite (fun h1 => ?_) (fun h1 => ?_))
  · replace h := h.1 h1
    refine Wp.steps 6 (pc' := 16) (lv' := [some (.ref 0), some (.ref 49), some (.int x2), some (.int x3), some (.int x4), none, none, none, none]) (st' := [.int (x2 + (2 * x4)), .ref 49]) (I' := I) (J' := J) rfl ?_
    refine Wp.call (M' := Sh_look) (as := [.ref 49, .int (x2 + (2 * x4))]) (rest := []) rfl (CL.use h (fun v1 I1 J1 h => ?_))
    refine Wp.eqs (pc' := 19) (st' := [.long v1]) rfl rfl ?_
    refine Wp.steps 9 (pc' := 30) (lv' := [some (.ref 0), some (.ref 49), some (.int x2), some (.int x3), some (.int x4), some (.long v1), none, none, none]) (st' := [.int ((x2 + (2 * x4)) + 1), .ref 49]) (I' := I1) (J' := J1) rfl ?_
    refine Wp.call (M' := Sh_look) (as := [.ref 49, .int ((x2 + (2 * x4)) + 1)]) (rest := []) rfl (CL.use h (fun v2 I2 J2 h => ?_))
    refine Wp.eqs (pc' := 33) (st' := [.long v2]) rfl rfl ?_
    refine Wp.steps 4 (pc' := 39) (lv' := [some (.ref 0), some (.ref 49), some (.int x2), some (.int x3), some (.int x4), some (.long v1), none, some (.long v2), none]) (st' := [.int (lg_cmp v1 0)]) (I' := I2) (J' := J2) rfl ?_
    refine Wp.steps 1 (pc' := if (lg_cmp v1 0) < 0 then 71 else 42) (lv' := [some (.ref 0), some (.ref 49), some (.int x2), some (.int x3), some (.int x4), some (.long v1), none, some (.long v2), none]) (st' := []) (I' := I2) (J' := J2) rfl (Wp.ite (fun h2 => ?_) (fun h2 => ?_))
    · replace h := h.1 h2
      refine Wp.steps 1 (pc' := 72) (lv' := [some (.ref 0), some (.ref 49), some (.int x2), some (.int x3), some (.int x4), some (.long v1), none, some (.long v2), none]) (st' := [.int 0]) (I' := I2) (J' := J2) rfl ?_
      exact Wp.ret rfl h
    · replace h := h.2 h2
      refine Wp.steps 8 (pc' := 57) (lv' := [some (.ref 0), some (.ref 49), some (.int x2), some (.int x3), some (.int x4), some (.long v1), none, some (.long v2), none]) (st' := [.int (lg_cmp (v1 / 10) (Int32.toInt64 (I2 1 2)))]) (I' := I2) (J' := J2) rfl ?_
      refine Wp.steps 1 (pc' := if (lg_cmp (v1 / 10) (Int32.toInt64 (I2 1 2))) < 0 then 60 else 71) (lv' := [some (.ref 0), some (.ref 49), some (.int x2), some (.int x3), some (.int x4), some (.long v1), none, some (.long v2), none]) (st' := []) (I' := I2) (J' := J2) rfl (Wp.ite (fun h3 => ?_) (fun h3 => ?_))
      · replace h := h.1 h3
        refine Wp.steps 5 (pc' := 68) (lv' := [some (.ref 0), some (.ref 49), some (.int x2), some (.int x3), some (.int x4), some (.long v1), none, some (.long v2), none]) (st' := [.int (lg_cmp (rmL v1 10) 1)]) (I' := I2) (J' := J2) rfl ?_
        refine Wp.steps 1 (pc' := if 0 < (lg_cmp (rmL v1 10) 1) then 71 else 73) (lv' := [some (.ref 0), some (.ref 49), some (.int x2), some (.int x3), some (.int x4), some (.long v1), none, some (.long v2), none]) (st' := []) (I' := I2) (J' := J2) rfl (Wp.ite (fun h4 => ?_) (fun h4 => ?_))
        · replace h := h.1 h4
          refine Wp.steps 1 (pc' := 72) (lv' := [some (.ref 0), some (.ref 49), some (.int x2), some (.int x3), some (.int x4), some (.long v1), none, some (.long v2), none]) (st' := [.int 0]) (I' := I2) (J' := J2) rfl ?_
          exact Wp.ret rfl h
        · replace h := h.2 h4
          refine Wp.steps 3 (pc' := 77) (lv' := [some (.ref 0), some (.ref 49), some (.int x2), some (.int x3), some (.int x4), some (.long v1), none, some (.long v2), none]) (st' := [.int (lg_cmp v2 0)]) (I' := I2) (J' := J2) rfl ?_
          refine Wp.steps 1 (pc' := if (lg_cmp v2 0) < 0 then 87 else 80) (lv' := [some (.ref 0), some (.ref 49), some (.int x2), some (.int x3), some (.int x4), some (.long v1), none, some (.long v2), none]) (st' := []) (I' := I2) (J' := J2) rfl (Wp.ite (fun h5 => ?_) (fun h5 => ?_))
          · replace h := h.1 h5
            refine Wp.steps 1 (pc' := 88) (lv' := [some (.ref 0), some (.ref 49), some (.int x2), some (.int x3), some (.int x4), some (.long v1), none, some (.long v2), none]) (st' := [.int 0]) (I' := I2) (J' := J2) rfl ?_
            exact Wp.ret rfl h
          · replace h := h.2 h5
            refine Wp.steps 3 (pc' := 84) (lv' := [some (.ref 0), some (.ref 49), some (.int x2), some (.int x3), some (.int x4), some (.long v1), none, some (.long v2), none]) (st' := [.int (lg_cmp v2 1)]) (I' := I2) (J' := J2) rfl ?_
            refine Wp.steps 1 (pc' := if 0 < (lg_cmp v2 1) then 87 else 89) (lv' := [some (.ref 0), some (.ref 49), some (.int x2), some (.int x3), some (.int x4), some (.long v1), none, some (.long v2), none]) (st' := []) (I' := I2) (J' := J2) rfl (Wp.ite (fun h6 => ?_) (fun h6 => ?_))
            · replace h := h.1 h6
              refine Wp.steps 1 (pc' := 88) (lv' := [some (.ref 0), some (.ref 49), some (.int x2), some (.int x3), some (.int x4), some (.long v1), none, some (.long v2), none]) (st' := [.int 0]) (I' := I2) (J' := J2) rfl ?_
              exact Wp.ret rfl h
            · replace h := h.2 h6
              refine Wp.steps 2 (pc' := 3) (lv' := [some (.ref 0), some (.ref 49), some (.int x2), some (.int x3), some (.int (x4 + 1)), some (.long v1), none, some (.long v2), none]) (st' := []) (I' := I2) (J' := J2) rfl ?_
              refine Wp.drop [5, 7] (lv' := [some (.ref 0), some (.ref 49), some (.int x2), some (.int x3), some (.int (x4 + 1)), none, none, none, none]) rfl ?_
              exact h
      · replace h := h.2 h3
        refine Wp.steps 1 (pc' := 72) (lv' := [some (.ref 0), some (.ref 49), some (.int x2), some (.int x3), some (.int x4), some (.long v1), none, some (.long v2), none]) (st' := [.int 0]) (I' := I2) (J' := J2) rfl ?_
        exact Wp.ret rfl h
  · replace h := h.2 h1
    refine Wp.steps 1 (pc' := 96) (lv' := [some (.ref 0), some (.ref 49), some (.int x2), some (.int x3), some (.int x4), none, none, none, none]) (st' := [.int 1]) (I' := I) (J' := J) rfl ?_
    exact Wp.ret rfl h
