/-! what each way through a method asks (by program): Mv -/
set_option maxHeartbeats 16000000 in
theorem v_Mv_3 {d : Nat} {Q : Post} {I : I2} {J : J2} {x2 : Int64} (h : Wp d Mv Q 11 [some (.ref 0), some (.ref 57), some (.long x2), none, some (.ref 58), some (.int 1), some (.int 0), none, none, none, none, none, none, none] [] I J) : Wp d Mv Q 3 [some (.ref 0), some (.ref 57), some (.long x2), none, none, none, none, none, none, none, none, none, none, none] [.ref 58] I J := by
  refine Wp.steps 5 (pc' := 11) (lv' := [some (.ref 0), some (.ref 57), some (.long x2), none, some (.ref 58), some (.int 1), some (.int 0), none, none, none, none, none, none, none]) (st' := []) (I' := I) (J' := J) rfl ?_
  exact h
set_option maxHeartbeats 16000000 in
theorem v_Mv_11 {d : Nat} {Q : Post} {I : I2} {J : J2} {x2 : Int64} {x5 : Int32} {x6 : Int32} (h : (x6 < (I 57 0) → CI d Sb_of [.ref 0, .int x6, .int 2] I J (fun v1 I1 J1 => vp_in x6 4 ∧ (Wp d Mv Q 11 [some (.ref 0), some (.ref 57), some (.long x2), none, some (.ref 58), some (.int x5), some (.int (x6 + 1)), none, none, none, none, none, none, none] [] (up2 I1 58 (tN x6) v1) J1))) ∧ (¬ (x6 < (I 57 0)) → Wp d Mv Q 40 [some (.ref 0), some (.ref 57), some (.long x2), none, some (.ref 58), some (.int x5), some (.int 0), none, none, none, none, none, none, none] [] I J)) : Wp d Mv Q 11 [some (.ref 0), some (.ref 57), some (.long x2), none, some (.ref 58), some (.int x5), some (.int x6), none, none, none, none, none, none, none] [] I J := by
  refine Wp.steps 4 (pc' := 16) (lv' := [some (.ref 0), some (.ref 57), some (.long x2), none, some (.ref 58), some (.int x5), some (.int x6), none, none, none, none, none, none, none]) (st' := [.int (I 57 0), .int x6]) (I' := I) (J' := J) rfl ?_
  refine Wp.steps 1 (pc' := if x6 < (I 57 0) then 19 else 37) (lv' := [some (.ref 0), some (.ref 57), some (.long x2), none, some (.ref 58), some (.int x5), some (.int x6), none, none, none, none, none, none, none]) (st' := []) (I' := I) (J' := J) rfl (Wp.ite (fun h1 => ?_) (fun h1 => ?_))
  · replace h := h.1 h1
    refine Wp.steps 5 (pc' := 27) (lv' := [some (.ref 0), some (.ref 57), some (.long x2), none, some (.ref 58), some (.int x5), some (.int x6), none, none, none, none, none, none, none]) (st' := [.int 2, .int x6, .ref 0, .int x6, .ref 58]) (I' := I) (J' := J) rfl ?_
    refine Wp.call (M' := Sb_of) (as := [.ref 0, .int x6, .int 2]) (rest := [.int x6, .ref 58]) rfl (CI.use h (fun v1 I1 J1 h => ?_))
    refine Wp.eqs (pc' := 30) (st' := [.int v1, .int x6, .ref 58]) rfl rfl ?_
    refine Wp.iast rfl rfl h.1 ?_
    replace h := h.2
    refine Wp.steps 2 (pc' := 11) (lv' := [some (.ref 0), some (.ref 57), some (.long x2), none, some (.ref 58), some (.int x5), some (.int (x6 + 1)), none, none, none, none, none, none, none]) (st' := []) (I' := (up2 I1 58 (tN x6) v1)) (J' := J1) rfl ?_
    exact h
  · replace h := h.2 h1
    refine Wp.steps 2 (pc' := 40) (lv' := [some (.ref 0), some (.ref 57), some (.long x2), none, some (.ref 58), some (.int x5), some (.int 0), none, none, none, none, none, none, none]) (st' := []) (I' := I) (J' := J) rfl ?_
    exact h
set_option maxHeartbeats 16000000 in
theorem v_Mv_40 {d : Nat} {Q : Post} {I : I2} {J : J2} {x2 : Int64} {x5 : Int32} {x6 : Int32} (h : (x6 < (2 * (I 57 0)) → (x5 = 0 → Q (some (.int 0)) I J) ∧ (¬ (x5 = 0) → CI d Sb_of [.ref 0, .int (x6 / 2), .int (3 + (rmI x6 2))] I J (fun v1 I1 J1 => (v1 = 1 → CI d Sb_slide [.ref 0, .int (x6 / 2), .int (rmI x6 2)] I1 J1 (fun v2 I2 J2 => (v2 < 0 → Wp d Mv Q 142 [some (.ref 0), some (.ref 57), some (.long x2), none, some (.ref 58), some (.int 0), some (.int x6), some (.int (x6 / 2)), some (.int 1), some (.int v2), some (.int 0), none, none, none] [] I2 J2) ∧ (¬ (v2 < 0) → CI d Sb_count [.ref 0, .int 7] I2 J2 (fun v3 I3 J3 => (v2 = v3 → Wp d Mv Q 142 [some (.ref 0), some (.ref 57), some (.long x2), none, some (.ref 58), some (.int 1), some (.int x6), some (.int (x6 / 2)), some (.int 1), some (.int v2), some (.int 0), none, none, none] [] I3 J3) ∧ (¬ (v2 = v3) → Wp d Mv Q 142 [some (.ref 0), some (.ref 57), some (.long x2), none, some (.ref 58), some (.int 0), some (.int x6), some (.int (x6 / 2)), some (.int 1), some (.int v2), some (.int 0), none, none, none] [] I3 J3))))) ∧ (¬ (v1 = 1) → CI d Sb_slide [.ref 0, .int (x6 / 2), .int (rmI x6 2)] I1 J1 (fun v2 I2 J2 => (v2 = (-2) → Wp d Mv Q 142 [some (.ref 0), some (.ref 57), some (.long x2), none, some (.ref 58), some (.int 1), some (.int x6), some (.int (x6 / 2)), some (.int 0), some (.int v2), some (.int 0), none, none, none] [] I2 J2) ∧ (¬ (v2 = (-2)) → Wp d Mv Q 142 [some (.ref 0), some (.ref 57), some (.long x2), none, some (.ref 58), some (.int 0), some (.int x6), some (.int (x6 / 2)), some (.int 0), some (.int v2), some (.int 0), none, none, none] [] I2 J2)))))) ∧ (¬ (x6 < (2 * (I 57 0))) → (x5 = 0 → Q (some (.int 0)) I J) ∧ (¬ (x5 = 0) → CL d Lw_hash [.ref 0, .ref 57] I J (fun v1 I1 J1 => ((lg_cmp v1 x2) = 0 → Q (some (.int 1)) I1 J1) ∧ (¬ ((lg_cmp v1 x2) = 0) → Q (some (.int 0)) I1 J1))))) : Wp d Mv Q 40 [some (.ref 0), some (.ref 57), some (.long x2), none, some (.ref 58), some (.int x5), some (.int x6), none, none, none, none, none, none, none] [] I J := by
  refine Wp.steps 6 (pc' := 47) (lv' := [some (.ref 0), some (.ref 57), some (.long x2), none, some (.ref 58), some (.int x5), some (.int x6), none, none, none, none, none, none, none]) (st' := [.int (2 * (I 57 0)), .int x6]) (I' := I) (J' := J) rfl ?_
  refine Wp.steps 1 (pc' := if x6 < (2 * (I 57 0)) then 50 else 327) (lv' := [some (.ref 0), some (.ref 57), some (.long x2), none, some (.ref 58), some (.int x5), some (.int x6), none, none, none, none, none, none, none]) (st' := []) (I' := I) (J' := J) rfl (Wp.ite (fun h1 => ?_) (fun h1 => ?_))
  · replace h := h.1 h1
    refine Wp.steps 1 (pc' := 52) (lv' := [some (.ref 0), some (.ref 57), some (.long x2), none, some (.ref 58), some (.int x5), some (.int x6), none, none, none, none, none, none, none]) (st' := [.int x5]) (I' := I) (J' := J) rfl ?_
    refine Wp.steps 1 (pc' := if x5 = 0 then 327 else 55) (lv' := [some (.ref 0), some (.ref 57), some (.long x2), none, some (.ref 58), some (.int x5), some (.int x6), none, none, none, none, none, none, none]) (st' := []) (I' := I) (J' := J) rfl (Wp.ite (fun h2 => ?_) (fun h2 => ?_))
    · replace h := h.1 h2
      refine Wp.steps 1 (pc' := 329) (lv' := [some (.ref 0), some (.ref 57), some (.long x2), none, some (.ref 58), some (.int x5), some (.int x6), none, none, none, none, none, none, none]) (st' := [.int x5]) (I' := I) (J' := J) rfl ?_
      refine Wp.steps 1 (pc' := if x5 = 0 then 346 else 332) (lv' := [some (.ref 0), some (.ref 57), some (.long x2), none, some (.ref 58), some (.int x5), some (.int x6), none, none, none, none, none, none, none]) (st' := []) (I' := I) (J' := J) rfl ?_
      rw [if_pos h2]
      refine Wp.steps 1 (pc' := 347) (lv' := [some (.ref 0), some (.ref 57), some (.long x2), none, some (.ref 58), some (.int x5), some (.int x6), none, none, none, none, none, none, none]) (st' := [.int 0]) (I' := I) (J' := J) rfl ?_
      exact Wp.ret rfl h
    · replace h := h.2 h2
      refine Wp.steps 11 (pc' := 70) (lv' := [some (.ref 0), some (.ref 57), some (.long x2), none, some (.ref 58), some (.int x5), some (.int x6), some (.int (x6 / 2)), none, none, none, none, none, none]) (st' := [.int (3 + (rmI x6 2)), .int (x6 / 2), .ref 0]) (I' := I) (J' := J) rfl ?_
      refine Wp.call (M' := Sb_of) (as := [.ref 0, .int (x6 / 2), .int (3 + (rmI x6 2))]) (rest := []) rfl (CI.use h (fun v1 I1 J1 h => ?_))
      refine Wp.eqs (pc' := 73) (st' := [.int v1]) rfl rfl ?_
      refine Wp.steps 1 (pc' := 74) (lv' := [some (.ref 0), some (.ref 57), some (.long x2), none, some (.ref 58), some (.int x5), some (.int x6), some (.int (x6 / 2)), none, none, none, none, none, none]) (st' := [.int 1, .int v1]) (I' := I1) (J' := J1) rfl ?_
      refine Wp.steps 1 (pc' := if v1 = 1 then 77 else 81) (lv' := [some (.ref 0), some (.ref 57), some (.long x2), none, some (.ref 58), some (.int x5), some (.int x6), some (.int (x6 / 2)), none, none, none, none, none, none]) (st' := []) (I' := I1) (J' := J1) rfl (Wp.ite (fun h3 => ?_) (fun h3 => ?_))
      · replace h := h.1 h3
        refine Wp.steps 8 (pc' := 91) (lv' := [some (.ref 0), some (.ref 57), some (.long x2), none, some (.ref 58), some (.int x5), some (.int x6), some (.int (x6 / 2)), some (.int 1), none, none, none, none, none]) (st' := [.int (rmI x6 2), .int (x6 / 2), .ref 0]) (I' := I1) (J' := J1) rfl ?_
        refine Wp.call (M' := Sb_slide) (as := [.ref 0, .int (x6 / 2), .int (rmI x6 2)]) (rest := []) rfl (CI.use h (fun v2 I2 J2 h => ?_))
        refine Wp.eqs (pc' := 94) (st' := [.int v2]) rfl rfl ?_
        refine Wp.steps 4 (pc' := 103) (lv' := [some (.ref 0), some (.ref 57), some (.long x2), none, some (.ref 58), some (.int x5), some (.int x6), some (.int (x6 / 2)), some (.int 1), some (.int v2), none, none, none, none]) (st' := [.int v2]) (I' := I2) (J' := J2) rfl ?_
        refine Wp.steps 1 (pc' := if v2 < 0 then 121 else 106) (lv' := [some (.ref 0), some (.ref 57), some (.long x2), none, some (.ref 58), some (.int x5), some (.int x6), some (.int (x6 / 2)), some (.int 1), some (.int v2), none, none, none, none]) (st' := []) (I' := I2) (J' := J2) rfl (Wp.ite (fun h4 => ?_) (fun h4 => ?_))
        · replace h := h.1 h4
          refine Wp.steps 5 (pc' := 142) (lv' := [some (.ref 0), some (.ref 57), some (.long x2), none, some (.ref 58), some (.int 0), some (.int x6), some (.int (x6 / 2)), some (.int 1), some (.int v2), some (.int 0), none, none, none]) (st' := []) (I' := I2) (J' := J2) rfl ?_
          exact h
        · replace h := h.2 h4
          refine Wp.steps 3 (pc' := 111) (lv' := [some (.ref 0), some (.ref 57), some (.long x2), none, some (.ref 58), some (.int x5), some (.int x6), some (.int (x6 / 2)), some (.int 1), some (.int v2), none, none, none, none]) (st' := [.int 7, .ref 0, .int v2]) (I' := I2) (J' := J2) rfl ?_
          refine Wp.call (M' := Sb_count) (as := [.ref 0, .int 7]) (rest := [.int v2]) rfl (CI.use h (fun v3 I3 J3 h => ?_))
          refine Wp.eqs (pc' := 114) (st' := [.int v3, .int v2]) rfl rfl ?_
          refine Wp.steps 1 (pc' := if v2 = v3 then 117 else 121) (lv' := [some (.ref 0), some (.ref 57), some (.long x2), none, some (.ref 58), some (.int x5), some (.int x6), some (.int (x6 / 2)), some (.int 1), some (.int v2), none, none, none, none]) (st' := []) (I' := I3) (J' := J3) rfl (Wp.ite (fun h5 => ?_) (fun h5 => ?_))
          · replace h := h.1 h5
            refine Wp.steps 5 (pc' := 142) (lv' := [some (.ref 0), some (.ref 57), some (.long x2), none, some (.ref 58), some (.int 1), some (.int x6), some (.int (x6 / 2)), some (.int 1), some (.int v2), some (.int 0), none, none, none]) (st' := []) (I' := I3) (J' := J3) rfl ?_
            exact h
          · replace h := h.2 h5
            refine Wp.steps 5 (pc' := 142) (lv' := [some (.ref 0), some (.ref 57), some (.long x2), none, some (.ref 58), some (.int 0), some (.int x6), some (.int (x6 / 2)), some (.int 1), some (.int v2), some (.int 0), none, none, none]) (st' := []) (I' := I3) (J' := J3) rfl ?_
            exact h
      · replace h := h.2 h3
        refine Wp.steps 7 (pc' := 91) (lv' := [some (.ref 0), some (.ref 57), some (.long x2), none, some (.ref 58), some (.int x5), some (.int x6), some (.int (x6 / 2)), some (.int 0), none, none, none, none, none]) (st' := [.int (rmI x6 2), .int (x6 / 2), .ref 0]) (I' := I1) (J' := J1) rfl ?_
        refine Wp.call (M' := Sb_slide) (as := [.ref 0, .int (x6 / 2), .int (rmI x6 2)]) (rest := []) rfl (CI.use h (fun v2 I2 J2 h => ?_))
        refine Wp.eqs (pc' := 94) (st' := [.int v2]) rfl rfl ?_
        refine Wp.steps 5 (pc' := 129) (lv' := [some (.ref 0), some (.ref 57), some (.long x2), none, some (.ref 58), some (.int x5), some (.int x6), some (.int (x6 / 2)), some (.int 0), some (.int v2), none, none, none, none]) (st' := [.int (-2), .int v2]) (I' := I2) (J' := J2) rfl ?_
        refine Wp.steps 1 (pc' := if v2 = (-2) then 132 else 136) (lv' := [some (.ref 0), some (.ref 57), some (.long x2), none, some (.ref 58), some (.int x5), some (.int x6), some (.int (x6 / 2)), some (.int 0), some (.int v2), none, none, none, none]) (st' := []) (I' := I2) (J' := J2) rfl (Wp.ite (fun h4 => ?_) (fun h4 => ?_))
        · replace h := h.1 h4
          refine Wp.steps 5 (pc' := 142) (lv' := [some (.ref 0), some (.ref 57), some (.long x2), none, some (.ref 58), some (.int 1), some (.int x6), some (.int (x6 / 2)), some (.int 0), some (.int v2), some (.int 0), none, none, none]) (st' := []) (I' := I2) (J' := J2) rfl ?_
          exact h
        · replace h := h.2 h4
          refine Wp.steps 4 (pc' := 142) (lv' := [some (.ref 0), some (.ref 57), some (.long x2), none, some (.ref 58), some (.int 0), some (.int x6), some (.int (x6 / 2)), some (.int 0), some (.int v2), some (.int 0), none, none, none]) (st' := []) (I' := I2) (J' := J2) rfl ?_
          exact h
  · replace h := h.2 h1
    refine Wp.steps 1 (pc' := 329) (lv' := [some (.ref 0), some (.ref 57), some (.long x2), none, some (.ref 58), some (.int x5), some (.int x6), none, none, none, none, none, none, none]) (st' := [.int x5]) (I' := I) (J' := J) rfl ?_
    refine Wp.steps 1 (pc' := if x5 = 0 then 346 else 332) (lv' := [some (.ref 0), some (.ref 57), some (.long x2), none, some (.ref 58), some (.int x5), some (.int x6), none, none, none, none, none, none, none]) (st' := []) (I' := I) (J' := J) rfl (Wp.ite (fun h2 => ?_) (fun h2 => ?_))
    · replace h := h.1 h2
      refine Wp.steps 1 (pc' := 347) (lv' := [some (.ref 0), some (.ref 57), some (.long x2), none, some (.ref 58), some (.int x5), some (.int x6), none, none, none, none, none, none, none]) (st' := [.int 0]) (I' := I) (J' := J) rfl ?_
      exact Wp.ret rfl h
    · replace h := h.2 h2
      refine Wp.steps 2 (pc' := 334) (lv' := [some (.ref 0), some (.ref 57), some (.long x2), none, some (.ref 58), some (.int x5), some (.int x6), none, none, none, none, none, none, none]) (st' := [.ref 57, .ref 0]) (I' := I) (J' := J) rfl ?_
      refine Wp.call (M' := Lw_hash) (as := [.ref 0, .ref 57]) (rest := []) rfl (CL.use h (fun v1 I1 J1 h => ?_))
      refine Wp.eqs (pc' := 337) (st' := [.long v1]) rfl rfl ?_
      refine Wp.steps 2 (pc' := 339) (lv' := [some (.ref 0), some (.ref 57), some (.long x2), none, some (.ref 58), some (.int x5), some (.int x6), none, none, none, none, none, none, none]) (st' := [.int (lg_cmp v1 x2)]) (I' := I1) (J' := J1) rfl ?_
      refine Wp.steps 1 (pc' := if (lg_cmp v1 x2) = 0 then 342 else 346) (lv' := [some (.ref 0), some (.ref 57), some (.long x2), none, some (.ref 58), some (.int x5), some (.int x6), none, none, none, none, none, none, none]) (st' := []) (I' := I1) (J' := J1) rfl (Wp.ite (fun h3 => ?_) (fun h3 => ?_))
      · replace h := h.1 h3
        refine Wp.steps 2 (pc' := 347) (lv' := [some (.ref 0), some (.ref 57), some (.long x2), none, some (.ref 58), some (.int x5), some (.int x6), none, none, none, none, none, none, none]) (st' := [.int 1]) (I' := I1) (J' := J1) rfl ?_
        exact Wp.ret rfl h
      · replace h := h.2 h3
        refine Wp.steps 1 (pc' := 347) (lv' := [some (.ref 0), some (.ref 57), some (.long x2), none, some (.ref 58), some (.int x5), some (.int x6), none, none, none, none, none, none, none]) (st' := [.int 0]) (I' := I1) (J' := J1) rfl ?_
        exact Wp.ret rfl h
set_option maxHeartbeats 16000000 in
theorem v_Mv_142 {d : Nat} {Q : Post} {I : I2} {J : J2} {x2 : Int64} {x5 : Int32} {x6 : Int32} {x7 : Int32} {x8 : Int32} {x9 : Int32} {x10 : Int32} (h : (x10 < (I 57 0) → (x5 = 0 → Wp d Mv Q 318 [some (.ref 0), some (.ref 57), some (.long x2), none, some (.ref 58), some (.int x5), some (.int x6), some (.int x7), some (.int x8), some (.int x9), some (.int x10), none, none, none] [] I J) ∧ (¬ (x5 = 0) → (x8 = 0 → CI d Lw_stands [.ref 0, .ref 57] I J (fun v1 I1 J1 => (v1 = 0 → Wp d Mv Q 318 [some (.ref 0), some (.ref 57), some (.long x2), none, some (.ref 58), some (.int x5), some (.int x6), some (.int x7), some (.int x8), some (.int x9), some (.int x10), none, none, none] [] I1 J1) ∧ (¬ (v1 = 0) → CI d Sb_restore [.ref 0] I1 J1 (fun v2 I2 J2 => (v2 = 1 → Wp d Mv Q 40 [some (.ref 0), some (.ref 57), some (.long x2), none, some (.ref 58), some (.int 1), some (.int (x6 + 1)), none, none, none, none, none, none, none] [] I2 J2) ∧ (¬ (v2 = 1) → Wp d Mv Q 318 [some (.ref 0), some (.ref 57), some (.long x2), none, some (.ref 58), some (.int x5), some (.int x6), some (.int x7), some (.int x8), some (.int x9), some (.int x10), none, none, none] [] I2 J2))))) ∧ (¬ (x8 = 0) → CI d Sb_of [.ref 0, .int x10, .int 2] I J (fun v1 I1 J1 => CI d Sb_of [.ref 0, .int x10, .int 0] I1 J1 (fun v2 I2 J2 => (x10 = x7 → Wp d Mv Q 224 [some (.ref 0), some (.ref 57), some (.long x2), none, some (.ref 58), some (.int x5), some (.int x6), some (.int x7), some (.int x8), some (.int x9), some (.int x10), some (.int v1), some (.int v2), none] [] I2 J2) ∧ (¬ (x10 = x7) → vp_in x10 4 ∧ ((0 < (I2 58 (tN x10)) → (v2 = 1 → vp_in x10 4 ∧ ((v1 = ((I2 58 (tN x10)) - 1) → Wp d Mv Q 285 [some (.ref 0), some (.ref 57), some (.long x2), none, some (.ref 58), some (.int x5), some (.int x6), some (.int x7), some (.int x8), some (.int x9), some (.int x10), some (.int v1), some (.int v2), some (.int 1)] [.int 1] I2 J2) ∧ (¬ (v1 = ((I2 58 (tN x10)) - 1)) → Wp d Mv Q 285 [some (.ref 0), some (.ref 57), some (.long x2), none, some (.ref 58), some (.int x5), some (.int x6), some (.int x7), some (.int x8), some (.int x9), some (.int x10), some (.int v1), some (.int v2), some (.int 1)] [.int 0] I2 J2))) ∧ (¬ (v2 = 1) → (v2 = 3 → vp_in x10 4 ∧ (CI d Sb_of [.ref 0, .int x10, .int 1] I2 J2 (fun v3 I3 J3 => ((I2 58 (tN x10)) < v3 → vp_in x10 4 ∧ ((v1 = ((I3 58 (tN x10)) - 1) → Wp d Mv Q 285 [some (.ref 0), some (.ref 57), some (.long x2), none, some (.ref 58), some (.int x5), some (.int x6), some (.int x7), some (.int x8), some (.int x9), some (.int x10), some (.int v1), some (.int v2), some (.int 1)] [.int 1] I3 J3) ∧ (¬ (v1 = ((I3 58 (tN x10)) - 1)) → Wp d Mv Q 285 [some (.ref 0), some (.ref 57), some (.long x2), none, some (.ref 58), some (.int x5), some (.int x6), some (.int x7), some (.int x8), some (.int x9), some (.int x10), some (.int v1), some (.int v2), some (.int 1)] [.int 0] I3 J3))) ∧ (¬ ((I2 58 (tN x10)) < v3) → Wp d Mv Q 224 [some (.ref 0), some (.ref 57), some (.long x2), none, some (.ref 58), some (.int x5), some (.int x6), some (.int x7), some (.int x8), some (.int x9), some (.int x10), some (.int v1), some (.int v2), none] [] I3 J3)))) ∧ (¬ (v2 = 3) → Wp d Mv Q 224 [some (.ref 0), some (.ref 57), some (.long x2), none, some (.ref 58), some (.int x5), some (.int x6), some (.int x7), some (.int x8), some (.int x9), some (.int x10), some (.int v1), some (.int v2), none] [] I2 J2))) ∧ (¬ (0 < (I2 58 (tN x10))) → Wp d Mv Q 224 [some (.ref 0), some (.ref 57), some (.long x2), none, some (.ref 58), some (.int x5), some (.int x6), some (.int x7), some (.int x8), some (.int x9), some (.int x10), some (.int v1), some (.int v2), none] [] I2 J2)))))))) ∧ (¬ (x10 < (I 57 0)) → (x5 = 0 → Wp d Mv Q 318 [some (.ref 0), some (.ref 57), some (.long x2), none, some (.ref 58), some (.int x5), some (.int x6), some (.int x7), some (.int x8), some (.int x9), some (.int x10), none, none, none] [] I J) ∧ (¬ (x5 = 0) → CI d Lw_stands [.ref 0, .ref 57] I J (fun v1 I1 J1 => (v1 = 0 → Wp d Mv Q 318 [some (.ref 0), some (.ref 57), some (.long x2), none, some (.ref 58), some (.int x5), some (.int x6), some (.int x7), some (.int x8), some (.int x9), some (.int x10), none, none, none] [] I1 J1) ∧ (¬ (v1 = 0) → CI d Sb_restore [.ref 0] I1 J1 (fun v2 I2 J2 => (v2 = 1 → Wp d Mv Q 40 [some (.ref 0), some (.ref 57), some (.long x2), none, some (.ref 58), some (.int 1), some (.int (x6 + 1)), none, none, none, none, none, none, none] [] I2 J2) ∧ (¬ (v2 = 1) → Wp d Mv Q 318 [some (.ref 0), some (.ref 57), some (.long x2), none, some (.ref 58), some (.int x5), some (.int x6), some (.int x7), some (.int x8), some (.int x9), some (.int x10), none, none, none] [] I2 J2))))))) : Wp d Mv Q 142 [some (.ref 0), some (.ref 57), some (.long x2), none, some (.ref 58), some (.int x5), some (.int x6), some (.int x7), some (.int x8), some (.int x9), some (.int x10), none, none, none] [] I J := by
  refine Wp.steps 4 (pc' := 147) (lv' := [some (.ref 0), some (.ref 57), some (.long x2), none, some (.ref 58), some (.int x5), some (.int x6), some (.int x7), some (.int x8), some (.int x9), some (.int x10), none, none, none]) (st' := [.int (I 57 0), .int x10]) (I' := I) (J' := J) rfl ?_
  refine Wp.steps 1 (pc' := if x10 < (I 57 0) then 150 else 293) (lv' := [some (.ref 0), some (.ref 57), some (.long x2), none, some (.ref 58), some (.int x5), some (.int x6), some (.int x7), some (.int x8), some (.int x9), some (.int x10), none, none, none]) (st' := []) (I' := I) (J' := J) rfl (Wp.ite (fun h1 => ?_) (fun h1 => ?_))
  · replace h := h.1 h1
    refine Wp.steps 1 (pc' := 152) (lv' := [some (.ref 0), some (.ref 57), some (.long x2), none, some (.ref 58), some (.int x5), some (.int x6), some (.int x7), some (.int x8), some (.int x9), some (.int x10), none, none, none]) (st' := [.int x5]) (I' := I) (J' := J) rfl ?_
    refine Wp.steps 1 (pc' := if x5 = 0 then 293 else 155) (lv' := [some (.ref 0), some (.ref 57), some (.long x2), none, some (.ref 58), some (.int x5), some (.int x6), some (.int x7), some (.int x8), some (.int x9), some (.int x10), none, none, none]) (st' := []) (I' := I) (J' := J) rfl (Wp.ite (fun h2 => ?_) (fun h2 => ?_))
    · replace h := h.1 h2
      refine Wp.steps 1 (pc' := 295) (lv' := [some (.ref 0), some (.ref 57), some (.long x2), none, some (.ref 58), some (.int x5), some (.int x6), some (.int x7), some (.int x8), some (.int x9), some (.int x10), none, none, none]) (st' := [.int x5]) (I' := I) (J' := J) rfl ?_
      refine Wp.steps 1 (pc' := if x5 = 0 then 318 else 298) (lv' := [some (.ref 0), some (.ref 57), some (.long x2), none, some (.ref 58), some (.int x5), some (.int x6), some (.int x7), some (.int x8), some (.int x9), some (.int x10), none, none, none]) (st' := []) (I' := I) (J' := J) rfl ?_
      rw [if_pos h2]
      exact h
    · replace h := h.2 h2
      refine Wp.steps 1 (pc' := 157) (lv' := [some (.ref 0), some (.ref 57), some (.long x2), none, some (.ref 58), some (.int x5), some (.int x6), some (.int x7), some (.int x8), some (.int x9), some (.int x10), none, none, none]) (st' := [.int x8]) (I' := I) (J' := J) rfl ?_
      refine Wp.steps 1 (pc' := if x8 = 0 then 293 else 160) (lv' := [some (.ref 0), some (.ref 57), some (.long x2), none, some (.ref 58), some (.int x5), some (.int x6), some (.int x7), some (.int x8), some (.int x9), some (.int x10), none, none, none]) (st' := []) (I' := I) (J' := J) rfl (Wp.ite (fun h3 => ?_) (fun h3 => ?_))
      · replace h := h.1 h3
        refine Wp.steps 1 (pc' := 295) (lv' := [some (.ref 0), some (.ref 57), some (.long x2), none, some (.ref 58), some (.int x5), some (.int x6), some (.int x7), some (.int x8), some (.int x9), some (.int x10), none, none, none]) (st' := [.int x5]) (I' := I) (J' := J) rfl ?_
        refine Wp.steps 1 (pc' := if x5 = 0 then 318 else 298) (lv' := [some (.ref 0), some (.ref 57), some (.long x2), none, some (.ref 58), some (.int x5), some (.int x6), some (.int x7), some (.int x8), some (.int x9), some (.int x10), none, none, none]) (st' := []) (I' := I) (J' := J) rfl ?_
        rw [if_neg h2]
        refine Wp.steps 2 (pc' := 300) (lv' := [some (.ref 0), some (.ref 57), some (.long x2), none, some (.ref 58), some (.int x5), some (.int x6), some (.int x7), some (.int x8), some (.int x9), some (.int x10), none, none, none]) (st' := [.ref 57, .ref 0]) (I' := I) (J' := J) rfl ?_
        refine Wp.call (M' := Lw_stands) (as := [.ref 0, .ref 57]) (rest := []) rfl (CI.use h (fun v1 I1 J1 h => ?_))
        refine Wp.eqs (pc' := 303) (st' := [.int v1]) rfl rfl ?_
        refine Wp.steps 1 (pc' := if v1 = 0 then 318 else 306) (lv' := [some (.ref 0), some (.ref 57), some (.long x2), none, some (.ref 58), some (.int x5), some (.int x6), some (.int x7), some (.int x8), some (.int x9), some (.int x10), none, none, none]) (st' := []) (I' := I1) (J' := J1) rfl (Wp.ite (fun h4 => ?_) (fun h4 => ?_))
        · replace h := h.1 h4
          exact h
        · replace h := h.2 h4
          refine Wp.steps 1 (pc' := 307) (lv' := [some (.ref 0), some (.ref 57), some (.long x2), none, some (.ref 58), some (.int x5), some (.int x6), some (.int x7), some (.int x8), some (.int x9), some (.int x10), none, none, none]) (st' := [.ref 0]) (I' := I1) (J' := J1) rfl ?_
          refine Wp.call (M' := Sb_restore) (as := [.ref 0]) (rest := []) rfl (CI.use h (fun v2 I2 J2 h => ?_))
          refine Wp.eqs (pc' := 310) (st' := [.int v2]) rfl rfl ?_
          refine Wp.steps 1 (pc' := 311) (lv' := [some (.ref 0), some (.ref 57), some (.long x2), none, some (.ref 58), some (.int x5), some (.int x6), some (.int x7), some (.int x8), some (.int x9), some (.int x10), none, none, none]) (st' := [.int 1, .int v2]) (I' := I2) (J' := J2) rfl ?_
          refine Wp.steps 1 (pc' := if v2 = 1 then 314 else 318) (lv' := [some (.ref 0), some (.ref 57), some (.long x2), none, some (.ref 58), some (.int x5), some (.int x6), some (.int x7), some (.int x8), some (.int x9), some (.int x10), none, none, none]) (st' := []) (I' := I2) (J' := J2) rfl (Wp.ite (fun h5 => ?_) (fun h5 => ?_))
          · replace h := h.1 h5
            refine Wp.steps 5 (pc' := 40) (lv' := [some (.ref 0), some (.ref 57), some (.long x2), none, some (.ref 58), some (.int 1), some (.int (x6 + 1)), some (.int x7), some (.int x8), some (.int x9), some (.int x10), none, none, none]) (st' := []) (I' := I2) (J' := J2) rfl ?_
            refine Wp.drop [7, 8, 9, 10] (lv' := [some (.ref 0), some (.ref 57), some (.long x2), none, some (.ref 58), some (.int 1), some (.int (x6 + 1)), none, none, none, none, none, none, none]) rfl ?_
            exact h
          · replace h := h.2 h5
            exact h
      · replace h := h.2 h3
        refine Wp.steps 3 (pc' := 164) (lv' := [some (.ref 0), some (.ref 57), some (.long x2), none, some (.ref 58), some (.int x5), some (.int x6), some (.int x7), some (.int x8), some (.int x9), some (.int x10), none, none, none]) (st' := [.int 2, .int x10, .ref 0]) (I' := I) (J' := J) rfl ?_
        refine Wp.call (M' := Sb_of) (as := [.ref 0, .int x10, .int 2]) (rest := []) rfl (CI.use h (fun v1 I1 J1 h => ?_))
        refine Wp.eqs (pc' := 167) (st' := [.int v1]) rfl rfl ?_
        refine Wp.steps 4 (pc' := 173) (lv' := [some (.ref 0), some (.ref 57), some (.long x2), none, some (.ref 58), some (.int x5), some (.int x6), some (.int x7), some (.int x8), some (.int x9), some (.int x10), some (.int v1), none, none]) (st' := [.int 0, .int x10, .ref 0]) (I' := I1) (J' := J1) rfl ?_
        refine Wp.call (M' := Sb_of) (as := [.ref 0, .int x10, .int 0]) (rest := []) rfl (CI.use h (fun v2 I2 J2 h => ?_))
        refine Wp.eqs (pc' := 176) (st' := [.int v2]) rfl rfl ?_
        refine Wp.steps 3 (pc' := 182) (lv' := [some (.ref 0), some (.ref 57), some (.long x2), none, some (.ref 58), some (.int x5), some (.int x6), some (.int x7), some (.int x8), some (.int x9), some (.int x10), some (.int v1), some (.int v2), none]) (st' := [.int x7, .int x10]) (I' := I2) (J' := J2) rfl ?_
        refine Wp.steps 1 (pc' := if x10 = x7 then 224 else 185) (lv' := [some (.ref 0), some (.ref 57), some (.long x2), none, some (.ref 58), some (.int x5), some (.int x6), some (.int x7), some (.int x8), some (.int x9), some (.int x10), some (.int v1), some (.int v2), none]) (st' := []) (I' := I2) (J' := J2) rfl (Wp.ite (fun h4 => ?_) (fun h4 => ?_))
        · replace h := h.1 h4
          exact h
        · replace h := h.2 h4
          refine Wp.steps 2 (pc' := 189) (lv' := [some (.ref 0), some (.ref 57), some (.long x2), none, some (.ref 58), some (.int x5), some (.int x6), some (.int x7), some (.int x8), some (.int x9), some (.int x10), some (.int v1), some (.int v2), none]) (st' := [.int x10, .ref 58]) (I' := I2) (J' := J2) rfl ?_
          refine Wp.iald rfl rfl h.1 ?_
          replace h := h.2
          refine Wp.steps 1 (pc' := if 0 < (I2 58 (tN x10)) then 193 else 224) (lv' := [some (.ref 0), some (.ref 57), some (.long x2), none, some (.ref 58), some (.int x5), some (.int x6), some (.int x7), some (.int x8), some (.int x9), some (.int x10), some (.int v1), some (.int v2), none]) (st' := []) (I' := I2) (J' := J2) rfl (Wp.ite (fun h5 => ?_) (fun h5 => ?_))
          · replace h := h.1 h5
            refine Wp.steps 2 (pc' := 196) (lv' := [some (.ref 0), some (.ref 57), some (.long x2), none, some (.ref 58), some (.int x5), some (.int x6), some (.int x7), some (.int x8), some (.int x9), some (.int x10), some (.int v1), some (.int v2), none]) (st' := [.int 1, .int v2]) (I' := I2) (J' := J2) rfl ?_
            refine Wp.steps 1 (pc' := if v2 = 1 then 220 else 199) (lv' := [some (.ref 0), some (.ref 57), some (.long x2), none, some (.ref 58), some (.int x5), some (.int x6), some (.int x7), some (.int x8), some (.int x9), some (.int x10), some (.int v1), some (.int v2), none]) (st' := []) (I' := I2) (J' := J2) rfl (Wp.ite (fun h6 => ?_) (fun h6 => ?_))
            · replace h := h.1 h6
              refine Wp.steps 6 (pc' := 233) (lv' := [some (.ref 0), some (.ref 57), some (.long x2), none, some (.ref 58), some (.int x5), some (.int x6), some (.int x7), some (.int x8), some (.int x9), some (.int x10), some (.int v1), some (.int v2), some (.int 1)]) (st' := [.int x7, .int x10, .int v1]) (I' := I2) (J' := J2) rfl ?_
              refine Wp.steps 1 (pc' := if x10 = x7 then 236 else 257) (lv' := [some (.ref 0), some (.ref 57), some (.long x2), none, some (.ref 58), some (.int x5), some (.int x6), some (.int x7), some (.int x8), some (.int x9), some (.int x10), some (.int v1), some (.int v2), some (.int 1)]) (st' := [.int v1]) (I' := I2) (J' := J2) rfl ?_
              rw [if_neg h4]
              refine Wp.steps 4 (pc' := 266) (lv' := [some (.ref 0), some (.ref 57), some (.long x2), none, some (.ref 58), some (.int x5), some (.int x6), some (.int x7), some (.int x8), some (.int x9), some (.int x10), some (.int v1), some (.int v2), some (.int 1)]) (st' := [.int x10, .ref 58, .int v1]) (I' := I2) (J' := J2) rfl ?_
              refine Wp.iald rfl rfl h.1 ?_
              replace h := h.2
              refine Wp.steps 3 (pc' := 277) (lv' := [some (.ref 0), some (.ref 57), some (.long x2), none, some (.ref 58), some (.int x5), some (.int x6), some (.int x7), some (.int x8), some (.int x9), some (.int x10), some (.int v1), some (.int v2), some (.int 1)]) (st' := [.int ((I2 58 (tN x10)) - 1), .int v1]) (I' := I2) (J' := J2) rfl ?_
              refine Wp.steps 1 (pc' := if v1 = ((I2 58 (tN x10)) - 1) then 280 else 284) (lv' := [some (.ref 0), some (.ref 57), some (.long x2), none, some (.ref 58), some (.int x5), some (.int x6), some (.int x7), some (.int x8), some (.int x9), some (.int x10), some (.int v1), some (.int v2), some (.int 1)]) (st' := []) (I' := I2) (J' := J2) rfl (Wp.ite (fun h7 => ?_) (fun h7 => ?_))
              · replace h := h.1 h7
                refine Wp.steps 2 (pc' := 285) (lv' := [some (.ref 0), some (.ref 57), some (.long x2), none, some (.ref 58), some (.int x5), some (.int x6), some (.int x7), some (.int x8), some (.int x9), some (.int x10), some (.int v1), some (.int v2), some (.int 1)]) (st' := [.int 1]) (I' := I2) (J' := J2) rfl ?_
                exact h
              · replace h := h.2 h7
                refine Wp.steps 1 (pc' := 285) (lv' := [some (.ref 0), some (.ref 57), some (.long x2), none, some (.ref 58), some (.int x5), some (.int x6), some (.int x7), some (.int x8), some (.int x9), some (.int x10), some (.int v1), some (.int v2), some (.int 1)]) (st' := [.int 0]) (I' := I2) (J' := J2) rfl ?_
                exact h
            · replace h := h.2 h6
              refine Wp.steps 2 (pc' := 202) (lv' := [some (.ref 0), some (.ref 57), some (.long x2), none, some (.ref 58), some (.int x5), some (.int x6), some (.int x7), some (.int x8), some (.int x9), some (.int x10), some (.int v1), some (.int v2), none]) (st' := [.int 3, .int v2]) (I' := I2) (J' := J2) rfl ?_
              refine Wp.steps 1 (pc' := if v2 = 3 then 205 else 224) (lv' := [some (.ref 0), some (.ref 57), some (.long x2), none, some (.ref 58), some (.int x5), some (.int x6), some (.int x7), some (.int x8), some (.int x9), some (.int x10), some (.int v1), some (.int v2), none]) (st' := []) (I' := I2) (J' := J2) rfl (Wp.ite (fun h7 => ?_) (fun h7 => ?_))
              · replace h := h.1 h7
                refine Wp.steps 2 (pc' := 209) (lv' := [some (.ref 0), some (.ref 57), some (.long x2), none, some (.ref 58), some (.int x5), some (.int x6), some (.int x7), some (.int x8), some (.int x9), some (.int x10), some (.int v1), some (.int v2), none]) (st' := [.int x10, .ref 58]) (I' := I2) (J' := J2) rfl ?_
                refine Wp.iald rfl rfl h.1 ?_
                replace h := h.2
                refine Wp.steps 3 (pc' := 214) (lv' := [some (.ref 0), some (.ref 57), some (.long x2), none, some (.ref 58), some (.int x5), some (.int x6), some (.int x7), some (.int x8), some (.int x9), some (.int x10), some (.int v1), some (.int v2), none]) (st' := [.int 1, .int x10, .ref 0, .int (I2 58 (tN x10))]) (I' := I2) (J' := J2) rfl ?_
                refine Wp.call (M' := Sb_of) (as := [.ref 0, .int x10, .int 1]) (rest := [.int (I2 58 (tN x10))]) rfl (CI.use h (fun v3 I3 J3 h => ?_))
                refine Wp.eqs (pc' := 217) (st' := [.int v3, .int (I2 58 (tN x10))]) rfl rfl ?_
                refine Wp.steps 1 (pc' := if (I2 58 (tN x10)) < v3 then 220 else 224) (lv' := [some (.ref 0), some (.ref 57), some (.long x2), none, some (.ref 58), some (.int x5), some (.int x6), some (.int x7), some (.int x8), some (.int x9), some (.int x10), some (.int v1), some (.int v2), none]) (st' := []) (I' := I3) (J' := J3) rfl (Wp.ite (fun h8 => ?_) (fun h8 => ?_))
                · replace h := h.1 h8
                  refine Wp.steps 6 (pc' := 233) (lv' := [some (.ref 0), some (.ref 57), some (.long x2), none, some (.ref 58), some (.int x5), some (.int x6), some (.int x7), some (.int x8), some (.int x9), some (.int x10), some (.int v1), some (.int v2), some (.int 1)]) (st' := [.int x7, .int x10, .int v1]) (I' := I3) (J' := J3) rfl ?_
                  refine Wp.steps 1 (pc' := if x10 = x7 then 236 else 257) (lv' := [some (.ref 0), some (.ref 57), some (.long x2), none, some (.ref 58), some (.int x5), some (.int x6), some (.int x7), some (.int x8), some (.int x9), some (.int x10), some (.int v1), some (.int v2), some (.int 1)]) (st' := [.int v1]) (I' := I3) (J' := J3) rfl ?_
                  rw [if_neg h4]
                  refine Wp.steps 4 (pc' := 266) (lv' := [some (.ref 0), some (.ref 57), some (.long x2), none, some (.ref 58), some (.int x5), some (.int x6), some (.int x7), some (.int x8), some (.int x9), some (.int x10), some (.int v1), some (.int v2), some (.int 1)]) (st' := [.int x10, .ref 58, .int v1]) (I' := I3) (J' := J3) rfl ?_
                  refine Wp.iald rfl rfl h.1 ?_
                  replace h := h.2
                  refine Wp.steps 3 (pc' := 277) (lv' := [some (.ref 0), some (.ref 57), some (.long x2), none, some (.ref 58), some (.int x5), some (.int x6), some (.int x7), some (.int x8), some (.int x9), some (.int x10), some (.int v1), some (.int v2), some (.int 1)]) (st' := [.int ((I3 58 (tN x10)) - 1), .int v1]) (I' := I3) (J' := J3) rfl ?_
                  refine Wp.steps 1 (pc' := if v1 = ((I3 58 (tN x10)) - 1) then 280 else 284) (lv' := [some (.ref 0), some (.ref 57), some (.long x2), none, some (.ref 58), some (.int x5), some (.int x6), some (.int x7), some (.int x8), some (.int x9), some (.int x10), some (.int v1), some (.int v2), some (.int 1)]) (st' := []) (I' := I3) (J' := J3) rfl (Wp.ite (fun h9 => ?_) (fun h9 => ?_))
                  · replace h := h.1 h9
                    refine Wp.steps 2 (pc' := 285) (lv' := [some (.ref 0), some (.ref 57), some (.long x2), none, some (.ref 58), some (.int x5), some (.int x6), some (.int x7), some (.int x8), some (.int x9), some (.int x10), some (.int v1), some (.int v2), some (.int 1)]) (st' := [.int 1]) (I' := I3) (J' := J3) rfl ?_
                    exact h
                  · replace h := h.2 h9
                    refine Wp.steps 1 (pc' := 285) (lv' := [some (.ref 0), some (.ref 57), some (.long x2), none, some (.ref 58), some (.int x5), some (.int x6), some (.int x7), some (.int x8), some (.int x9), some (.int x10), some (.int v1), some (.int v2), some (.int 1)]) (st' := [.int 0]) (I' := I3) (J' := J3) rfl ?_
                    exact h
                · replace h := h.2 h8
                  exact h
              · replace h := h.2 h7
                exact h
          · replace h := h.2 h5
            exact h
  · replace h := h.2 h1
    refine Wp.steps 1 (pc' := 295) (lv' := [some (.ref 0), some (.ref 57), some (.long x2), none, some (.ref 58), some (.int x5), some (.int x6), some (.int x7), some (.int x8), some (.int x9), some (.int x10), none, none, none]) (st' := [.int x5]) (I' := I) (J' := J) rfl ?_
    refine Wp.steps 1 (pc' := if x5 = 0 then 318 else 298) (lv' := [some (.ref 0), some (.ref 57), some (.long x2), none, some (.ref 58), some (.int x5), some (.int x6), some (.int x7), some (.int x8), some (.int x9), some (.int x10), none, none, none]) (st' := []) (I' := I) (J' := J) rfl (Wp.ite (fun h2 => ?_) (fun h2 => ?_))
    · replace h := h.1 h2
      exact h
    · replace h := h.2 h2
      refine Wp.steps 2 (pc' := 300) (lv' := [some (.ref 0), some (.ref 57), some (.long x2), none, some (.ref 58), some (.int x5), some (.int x6), some (.int x7), some (.int x8), some (.int x9), some (.int x10), none, none, none]) (st' := [.ref 57, .ref 0]) (I' := I) (J' := J) rfl ?_
      refine Wp.call (M' := Lw_stands) (as := [.ref 0, .ref 57]) (rest := []) rfl (CI.use h (fun v1 I1 J1 h => ?_))
      refine Wp.eqs (pc' := 303) (st' := [.int v1]) rfl rfl ?_
      refine Wp.steps 1 (pc' := if v1 = 0 then 318 else 306) (lv' := [some (.ref 0), some (.ref 57), some (.long x2), none, some (.ref 58), some (.int x5), some (.int x6), some (.int x7), some (.int x8), some (.int x9), some (.int x10), none, none, none]) (st' := []) (I' := I1) (J' := J1) rfl (Wp.ite (fun h3 => ?_) (fun h3 => ?_))
      · replace h := h.1 h3
        exact h
      · replace h := h.2 h3
        refine Wp.steps 1 (pc' := 307) (lv' := [some (.ref 0), some (.ref 57), some (.long x2), none, some (.ref 58), some (.int x5), some (.int x6), some (.int x7), some (.int x8), some (.int x9), some (.int x10), none, none, none]) (st' := [.ref 0]) (I' := I1) (J' := J1) rfl ?_
        refine Wp.call (M' := Sb_restore) (as := [.ref 0]) (rest := []) rfl (CI.use h (fun v2 I2 J2 h => ?_))
        refine Wp.eqs (pc' := 310) (st' := [.int v2]) rfl rfl ?_
        refine Wp.steps 1 (pc' := 311) (lv' := [some (.ref 0), some (.ref 57), some (.long x2), none, some (.ref 58), some (.int x5), some (.int x6), some (.int x7), some (.int x8), some (.int x9), some (.int x10), none, none, none]) (st' := [.int 1, .int v2]) (I' := I2) (J' := J2) rfl ?_
        refine Wp.steps 1 (pc' := if v2 = 1 then 314 else 318) (lv' := [some (.ref 0), some (.ref 57), some (.long x2), none, some (.ref 58), some (.int x5), some (.int x6), some (.int x7), some (.int x8), some (.int x9), some (.int x10), none, none, none]) (st' := []) (I' := I2) (J' := J2) rfl (Wp.ite (fun h4 => ?_) (fun h4 => ?_))
        · replace h := h.1 h4
          refine Wp.steps 5 (pc' := 40) (lv' := [some (.ref 0), some (.ref 57), some (.long x2), none, some (.ref 58), some (.int 1), some (.int (x6 + 1)), some (.int x7), some (.int x8), some (.int x9), some (.int x10), none, none, none]) (st' := []) (I' := I2) (J' := J2) rfl ?_
          refine Wp.drop [7, 8, 9, 10] (lv' := [some (.ref 0), some (.ref 57), some (.long x2), none, some (.ref 58), some (.int 1), some (.int (x6 + 1)), none, none, none, none, none, none, none]) rfl ?_
          exact h
        · replace h := h.2 h4
          exact h
set_option maxHeartbeats 16000000 in
theorem v_Mv_224 {d : Nat} {Q : Post} {I : I2} {J : J2} {x2 : Int64} {x5 : Int32} {x6 : Int32} {x7 : Int32} {x8 : Int32} {x9 : Int32} {x10 : Int32} {x11 : Int32} {x12 : Int32} (h : (x10 = x7 → vp_in x10 4 ∧ (((rmI x6 2) = 0 → (x11 = ((I 58 (tN x10)) + (-1)) → Wp d Mv Q 285 [some (.ref 0), some (.ref 57), some (.long x2), none, some (.ref 58), some (.int x5), some (.int x6), some (.int x7), some (.int x8), some (.int x9), some (.int x10), some (.int x11), some (.int x12), some (.int 0)] [.int 1] I J) ∧ (¬ (x11 = ((I 58 (tN x10)) + (-1))) → Wp d Mv Q 285 [some (.ref 0), some (.ref 57), some (.long x2), none, some (.ref 58), some (.int x5), some (.int x6), some (.int x7), some (.int x8), some (.int x9), some (.int x10), some (.int x11), some (.int x12), some (.int 0)] [.int 0] I J)) ∧ (¬ ((rmI x6 2) = 0) → (x11 = ((I 58 (tN x10)) + 1) → Wp d Mv Q 285 [some (.ref 0), some (.ref 57), some (.long x2), none, some (.ref 58), some (.int x5), some (.int x6), some (.int x7), some (.int x8), some (.int x9), some (.int x10), some (.int x11), some (.int x12), some (.int 0)] [.int 1] I J) ∧ (¬ (x11 = ((I 58 (tN x10)) + 1)) → Wp d Mv Q 285 [some (.ref 0), some (.ref 57), some (.long x2), none, some (.ref 58), some (.int x5), some (.int x6), some (.int x7), some (.int x8), some (.int x9), some (.int x10), some (.int x11), some (.int x12), some (.int 0)] [.int 0] I J)))) ∧ (¬ (x10 = x7) → vp_in x10 4 ∧ ((x11 = (I 58 (tN x10)) → Wp d Mv Q 285 [some (.ref 0), some (.ref 57), some (.long x2), none, some (.ref 58), some (.int x5), some (.int x6), some (.int x7), some (.int x8), some (.int x9), some (.int x10), some (.int x11), some (.int x12), some (.int 0)] [.int 1] I J) ∧ (¬ (x11 = (I 58 (tN x10))) → Wp d Mv Q 285 [some (.ref 0), some (.ref 57), some (.long x2), none, some (.ref 58), some (.int x5), some (.int x6), some (.int x7), some (.int x8), some (.int x9), some (.int x10), some (.int x11), some (.int x12), some (.int 0)] [.int 0] I J)))) : Wp d Mv Q 224 [some (.ref 0), some (.ref 57), some (.long x2), none, some (.ref 58), some (.int x5), some (.int x6), some (.int x7), some (.int x8), some (.int x9), some (.int x10), some (.int x11), some (.int x12), none] [] I J := by
  refine Wp.steps 5 (pc' := 233) (lv' := [some (.ref 0), some (.ref 57), some (.long x2), none, some (.ref 58), some (.int x5), some (.int x6), some (.int x7), some (.int x8), some (.int x9), some (.int x10), some (.int x11), some (.int x12), some (.int 0)]) (st' := [.int x7, .int x10, .int x11]) (I' := I) (J' := J) rfl ?_
  refine Wp.steps 1 (pc' := if x10 = x7 then 236 else 257) (lv' := [some (.ref 0), some (.ref 57), some (.long x2), none, some (.ref 58), some (.int x5), some (.int x6), some (.int x7), some (.int x8), some (.int x9), some (.int x10), some (.int x11), some (.int x12), some (.int 0)]) (st' := [.int x11]) (I' := I) (J' := J) rfl (Wp.ite (fun h1 => ?_) (fun h1 => ?_))
  · replace h := h.1 h1
    refine Wp.steps 2 (pc' := 240) (lv' := [some (.ref 0), some (.ref 57), some (.long x2), none, some (.ref 58), some (.int x5), some (.int x6), some (.int x7), some (.int x8), some (.int x9), some (.int x10), some (.int x11), some (.int x12), some (.int 0)]) (st' := [.int x10, .ref 58, .int x11]) (I' := I) (J' := J) rfl ?_
    refine Wp.iald rfl rfl h.1 ?_
    replace h := h.2
    refine Wp.steps 3 (pc' := 245) (lv' := [some (.ref 0), some (.ref 57), some (.long x2), none, some (.ref 58), some (.int x5), some (.int x6), some (.int x7), some (.int x8), some (.int x9), some (.int x10), some (.int x11), some (.int x12), some (.int 0)]) (st' := [.int (rmI x6 2), .int (I 58 (tN x10)), .int x11]) (I' := I) (J' := J) rfl ?_
    refine Wp.steps 1 (pc' := if (rmI x6 2) = 0 then 248 else 252) (lv' := [some (.ref 0), some (.ref 57), some (.long x2), none, some (.ref 58), some (.int x5), some (.int x6), some (.int x7), some (.int x8), some (.int x9), some (.int x10), some (.int x11), some (.int x12), some (.int 0)]) (st' := [.int (I 58 (tN x10)), .int x11]) (I' := I) (J' := J) rfl (Wp.ite (fun h2 => ?_) (fun h2 => ?_))
    · replace h := h.1 h2
      refine Wp.steps 4 (pc' := 277) (lv' := [some (.ref 0), some (.ref 57), some (.long x2), none, some (.ref 58), some (.int x5), some (.int x6), some (.int x7), some (.int x8), some (.int x9), some (.int x10), some (.int x11), some (.int x12), some (.int 0)]) (st' := [.int ((I 58 (tN x10)) + (-1)), .int x11]) (I' := I) (J' := J) rfl ?_
      refine Wp.steps 1 (pc' := if x11 = ((I 58 (tN x10)) + (-1)) then 280 else 284) (lv' := [some (.ref 0), some (.ref 57), some (.long x2), none, some (.ref 58), some (.int x5), some (.int x6), some (.int x7), some (.int x8), some (.int x9), some (.int x10), some (.int x11), some (.int x12), some (.int 0)]) (st' := []) (I' := I) (J' := J) rfl (Wp.ite (fun h3 => ?_) (fun h3 => ?_))
      · replace h := h.1 h3
        refine Wp.steps 2 (pc' := 285) (lv' := [some (.ref 0), some (.ref 57), some (.long x2), none, some (.ref 58), some (.int x5), some (.int x6), some (.int x7), some (.int x8), some (.int x9), some (.int x10), some (.int x11), some (.int x12), some (.int 0)]) (st' := [.int 1]) (I' := I) (J' := J) rfl ?_
        exact h
      · replace h := h.2 h3
        refine Wp.steps 1 (pc' := 285) (lv' := [some (.ref 0), some (.ref 57), some (.long x2), none, some (.ref 58), some (.int x5), some (.int x6), some (.int x7), some (.int x8), some (.int x9), some (.int x10), some (.int x11), some (.int x12), some (.int 0)]) (st' := [.int 0]) (I' := I) (J' := J) rfl ?_
        exact h
    · replace h := h.2 h2
      refine Wp.steps 3 (pc' := 277) (lv' := [some (.ref 0), some (.ref 57), some (.long x2), none, some (.ref 58), some (.int x5), some (.int x6), some (.int x7), some (.int x8), some (.int x9), some (.int x10), some (.int x11), some (.int x12), some (.int 0)]) (st' := [.int ((I 58 (tN x10)) + 1), .int x11]) (I' := I) (J' := J) rfl ?_
      refine Wp.steps 1 (pc' := if x11 = ((I 58 (tN x10)) + 1) then 280 else 284) (lv' := [some (.ref 0), some (.ref 57), some (.long x2), none, some (.ref 58), some (.int x5), some (.int x6), some (.int x7), some (.int x8), some (.int x9), some (.int x10), some (.int x11), some (.int x12), some (.int 0)]) (st' := []) (I' := I) (J' := J) rfl (Wp.ite (fun h3 => ?_) (fun h3 => ?_))
      · replace h := h.1 h3
        refine Wp.steps 2 (pc' := 285) (lv' := [some (.ref 0), some (.ref 57), some (.long x2), none, some (.ref 58), some (.int x5), some (.int x6), some (.int x7), some (.int x8), some (.int x9), some (.int x10), some (.int x11), some (.int x12), some (.int 0)]) (st' := [.int 1]) (I' := I) (J' := J) rfl ?_
        exact h
      · replace h := h.2 h3
        refine Wp.steps 1 (pc' := 285) (lv' := [some (.ref 0), some (.ref 57), some (.long x2), none, some (.ref 58), some (.int x5), some (.int x6), some (.int x7), some (.int x8), some (.int x9), some (.int x10), some (.int x11), some (.int x12), some (.int 0)]) (st' := [.int 0]) (I' := I) (J' := J) rfl ?_
        exact h
  · replace h := h.2 h1
    refine Wp.steps 4 (pc' := 276) (lv' := [some (.ref 0), some (.ref 57), some (.long x2), none, some (.ref 58), some (.int x5), some (.int x6), some (.int x7), some (.int x8), some (.int x9), some (.int x10), some (.int x11), some (.int x12), some (.int 0)]) (st' := [.int x10, .ref 58, .int x11]) (I' := I) (J' := J) rfl ?_
    refine Wp.iald rfl rfl h.1 ?_
    replace h := h.2
    refine Wp.steps 1 (pc' := if x11 = (I 58 (tN x10)) then 280 else 284) (lv' := [some (.ref 0), some (.ref 57), some (.long x2), none, some (.ref 58), some (.int x5), some (.int x6), some (.int x7), some (.int x8), some (.int x9), some (.int x10), some (.int x11), some (.int x12), some (.int 0)]) (st' := []) (I' := I) (J' := J) rfl (Wp.ite (fun h2 => ?_) (fun h2 => ?_))
    · replace h := h.1 h2
      refine Wp.steps 2 (pc' := 285) (lv' := [some (.ref 0), some (.ref 57), some (.long x2), none, some (.ref 58), some (.int x5), some (.int x6), some (.int x7), some (.int x8), some (.int x9), some (.int x10), some (.int x11), some (.int x12), some (.int 0)]) (st' := [.int 1]) (I' := I) (J' := J) rfl ?_
      exact h
    · replace h := h.2 h2
      refine Wp.steps 1 (pc' := 285) (lv' := [some (.ref 0), some (.ref 57), some (.long x2), none, some (.ref 58), some (.int x5), some (.int x6), some (.int x7), some (.int x8), some (.int x9), some (.int x10), some (.int x11), some (.int x12), some (.int 0)]) (st' := [.int 0]) (I' := I) (J' := J) rfl ?_
      exact h
set_option maxHeartbeats 16000000 in
theorem v_Mv_285 {d : Nat} {Q : Post} {I : I2} {J : J2} {x2 : Int64} {x5 : Int32} {x6 : Int32} {x7 : Int32} {x8 : Int32} {x9 : Int32} {x10 : Int32} {x11 : Int32} {x12 : Int32} {x13 : Int32} {s0 : Int32} (h : Wp d Mv Q 142 [some (.ref 0), some (.ref 57), some (.long x2), none, some (.ref 58), some (.int s0), some (.int x6), some (.int x7), some (.int x8), some (.int x9), some (.int (x10 + 1)), none, none, none] [] I J) : Wp d Mv Q 285 [some (.ref 0), some (.ref 57), some (.long x2), none, some (.ref 58), some (.int x5), some (.int x6), some (.int x7), some (.int x8), some (.int x9), some (.int x10), some (.int x11), some (.int x12), some (.int x13)] [.int s0] I J := by
  refine Wp.steps 3 (pc' := 142) (lv' := [some (.ref 0), some (.ref 57), some (.long x2), none, some (.ref 58), some (.int s0), some (.int x6), some (.int x7), some (.int x8), some (.int x9), some (.int (x10 + 1)), some (.int x11), some (.int x12), some (.int x13)]) (st' := []) (I' := I) (J' := J) rfl ?_
  refine Wp.drop [11, 12, 13] (lv' := [some (.ref 0), some (.ref 57), some (.long x2), none, some (.ref 58), some (.int s0), some (.int x6), some (.int x7), some (.int x8), some (.int x9), some (.int (x10 + 1)), none, none, none]) rfl ?_
  exact h
set_option maxHeartbeats 16000000 in
theorem v_Mv_318 {d : Nat} {Q : Post} {I : I2} {J : J2} {x2 : Int64} {x5 : Int32} {x6 : Int32} {x7 : Int32} {x8 : Int32} {x9 : Int32} {x10 : Int32} (h : Wp d Mv Q 40 [some (.ref 0), some (.ref 57), some (.long x2), none, some (.ref 58), some (.int 0), some (.int (x6 + 1)), none, none, none, none, none, none, none] [] I J) : Wp d Mv Q 318 [some (.ref 0), some (.ref 57), some (.long x2), none, some (.ref 58), some (.int x5), some (.int x6), some (.int x7), some (.int x8), some (.int x9), some (.int x10), none, none, none] [] I J := by
  refine Wp.steps 4 (pc' := 40) (lv' := [some (.ref 0), some (.ref 57), some (.long x2), none, some (.ref 58), some (.int 0), some (.int (x6 + 1)), some (.int x7), some (.int x8), some (.int x9), some (.int x10), none, none, none]) (st' := []) (I' := I) (J' := J) rfl ?_
  refine Wp.drop [7, 8, 9, 10] (lv' := [some (.ref 0), some (.ref 57), some (.long x2), none, some (.ref 58), some (.int 0), some (.int (x6 + 1)), none, none, none, none, none, none, none]) rfl ?_
  exact h
