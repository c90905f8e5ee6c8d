/-! what each way through a method asks (by program): Lw_hash_0_57, Lw_opened_0_57, Lw_went_0_100_57 -/
set_option maxHeartbeats 16000000 in
theorem v_Lw_hash_0_57_0 {d : Nat} {Q : Post} {I : I2} {J : J2} (h : Wp d Lw_hash Q 7 [some (.ref 0), some (.ref 57), some (.long 3), none, some (.int 0)] [] I J) : Wp d Lw_hash Q 0 [some (.ref 0), some (.ref 57), none, none, none] [] I J := by
  refine Wp.steps 4 (pc' := 7) (lv' := [some (.ref 0), some (.ref 57), some (.long 3), none, some (.int 0)]) (st' := []) (I' := I) (J' := J) rfl ?_
  exact h
set_option maxHeartbeats 16000000 in
theorem v_Lw_hash_0_57_7 {d : Nat} {Q : Post} {I : I2} {J : J2} {x2 : Int64} {x4 : Int32} (h : (x4 < 8 → CI d Sb_count [.ref 0, .int x4] I J (fun v1 I1 J1 => Wp d Lw_hash Q 7 [some (.ref 0), some (.ref 57), some (.long ((31 * x2) + (Int32.toInt64 v1))), none, some (.int (x4 + 1))] [] I1 J1)) ∧ (¬ (x4 < 8) → Wp d Lw_hash Q 37 [some (.ref 0), some (.ref 57), some (.long x2), none, some (.int 0)] [] I J)) : Wp d Lw_hash Q 7 [some (.ref 0), some (.ref 57), some (.long x2), none, some (.int x4)] [] I J := by
  refine Wp.steps 2 (pc' := 11) (lv' := [some (.ref 0), some (.ref 57), some (.long x2), none, some (.int x4)]) (st' := [.int 8, .int x4]) (I' := I) (J' := J) rfl ?_
  refine Wp.steps 1 (pc' := if x4 < 8 then 14 else 34) (lv' := [some (.ref 0), some (.ref 57), some (.long x2), none, some (.int x4)]) (st' := []) (I' := I) (J' := J) rfl (Wp.ite (fun h1 => ?_) (fun h1 => ?_))
  · replace h := h.1 h1
    refine Wp.steps 5 (pc' := 22) (lv' := [some (.ref 0), some (.ref 57), some (.long x2), none, some (.int x4)]) (st' := [.int x4, .ref 0, .long (31 * x2)]) (I' := I) (J' := J) rfl ?_
    refine Wp.call (M' := Sb_count) (as := [.ref 0, .int x4]) (rest := [.long (31 * x2)]) rfl (CI.use h (fun v1 I1 J1 h => ?_))
    refine Wp.eqs (pc' := 25) (st' := [.int v1, .long (31 * x2)]) rfl rfl ?_
    refine Wp.steps 5 (pc' := 7) (lv' := [some (.ref 0), some (.ref 57), some (.long ((31 * x2) + (Int32.toInt64 v1))), none, some (.int (x4 + 1))]) (st' := []) (I' := I1) (J' := J1) rfl ?_
    exact h
  · replace h := h.2 h1
    refine Wp.steps 2 (pc' := 37) (lv' := [some (.ref 0), some (.ref 57), some (.long x2), none, some (.int 0)]) (st' := []) (I' := I) (J' := J) rfl ?_
    exact h
set_option maxHeartbeats 16000000 in
theorem v_Lw_hash_0_57_37 {d : Nat} {Q : Post} {I : I2} {J : J2} {x2 : Int64} {x4 : Int32} (h : (x4 < (I 57 0) → CI d Sb_of [.ref 0, .int x4, .int 3] I J (fun v1 I1 J1 => CI d Sb_of [.ref 0, .int x4, .int 4] I1 J1 (fun v2 I2 J2 => Wp d Lw_hash Q 37 [some (.ref 0), some (.ref 57), some (.long ((31 * ((31 * x2) + (Int32.toInt64 v1))) + (Int32.toInt64 v2))), none, some (.int (x4 + 1))] [] I2 J2))) ∧ (¬ (x4 < (I 57 0)) → Q (some (.long x2)) I J)) : Wp d Lw_hash Q 37 [some (.ref 0), some (.ref 57), some (.long x2), none, some (.int x4)] [] I J := by
  refine Wp.steps 4 (pc' := 42) (lv' := [some (.ref 0), some (.ref 57), some (.long x2), none, some (.int x4)]) (st' := [.int (I 57 0), .int x4]) (I' := I) (J' := J) rfl ?_
  refine Wp.steps 1 (pc' := if x4 < (I 57 0) then 45 else 79) (lv' := [some (.ref 0), some (.ref 57), some (.long x2), none, some (.int x4)]) (st' := []) (I' := I) (J' := J) rfl (Wp.ite (fun h1 => ?_) (fun h1 => ?_))
  · replace h := h.1 h1
    refine Wp.steps 7 (pc' := 57) (lv' := [some (.ref 0), some (.ref 57), some (.long x2), none, some (.int x4)]) (st' := [.int 3, .int x4, .ref 0, .long (31 * x2), .long 31]) (I' := I) (J' := J) rfl ?_
    refine Wp.call (M' := Sb_of) (as := [.ref 0, .int x4, .int 3]) (rest := [.long (31 * x2), .long 31]) rfl (CI.use h (fun v1 I1 J1 h => ?_))
    refine Wp.eqs (pc' := 60) (st' := [.int v1, .long (31 * x2), .long 31]) rfl rfl ?_
    refine Wp.steps 6 (pc' := 67) (lv' := [some (.ref 0), some (.ref 57), some (.long x2), none, some (.int x4)]) (st' := [.int 4, .int x4, .ref 0, .long (31 * ((31 * x2) + (Int32.toInt64 v1)))]) (I' := I1) (J' := J1) rfl ?_
    refine Wp.call (M' := Sb_of) (as := [.ref 0, .int x4, .int 4]) (rest := [.long (31 * ((31 * x2) + (Int32.toInt64 v1)))]) rfl (CI.use h (fun v2 I2 J2 h => ?_))
    refine Wp.eqs (pc' := 70) (st' := [.int v2, .long (31 * ((31 * x2) + (Int32.toInt64 v1)))]) rfl rfl ?_
    refine Wp.steps 5 (pc' := 37) (lv' := [some (.ref 0), some (.ref 57), some (.long ((31 * ((31 * x2) + (Int32.toInt64 v1))) + (Int32.toInt64 v2))), none, some (.int (x4 + 1))]) (st' := []) (I' := I2) (J' := J2) rfl ?_
    exact h
  · replace h := h.2 h1
    refine Wp.steps 1 (pc' := 80) (lv' := [some (.ref 0), some (.ref 57), some (.long x2), none, some (.int x4)]) (st' := [.long x2]) (I' := I) (J' := J) rfl ?_
    exact Wp.ret rfl h
set_option maxHeartbeats 16000000 in
theorem v_Lw_opened_0_57_0 {d : Nat} {Q : Post} {I : I2} {J : J2} {x2 : Int64} (h : CI d Sb_opens [.ref 0, .int (-1)] I J (fun v1 I1 J1 => CI d Sb_rows [.ref 0] I1 J1 (fun v2 I2 J2 => CI d Sb_reach [.ref 0, .int 0] I2 J2 (fun v3 I3 J3 => CI d Sb_reach [.ref 0, .int 1] I3 J3 (fun v4 I4 J4 => CI d Sb_reach [.ref 0, .int 2] I4 J4 (fun v5 I5 J5 => (0 < v3 → (256 < v3 → Wp d Lw_opened Q 178 [some (.ref 0), some (.ref 57), some (.long x2), none, some (.int v1), some (.int v2), some (.int v3), some (.int v4), some (.int v5), some (.int 0), some (.int 0), none, none] [] I5 J5) ∧ (¬ (256 < v3) → (v4 < 0 → Wp d Lw_opened Q 178 [some (.ref 0), some (.ref 57), some (.long x2), none, some (.int v1), some (.int v2), some (.int v3), some (.int v4), some (.int v5), some (.int 0), some (.int 0), none, none] [] I5 J5) ∧ (¬ (v4 < 0) → (v4 < v3 → (v5 < 0 → Wp d Lw_opened Q 178 [some (.ref 0), some (.ref 57), some (.long x2), none, some (.int v1), some (.int v2), some (.int v3), some (.int v4), some (.int v5), some (.int 0), some (.int 0), none, none] [] I5 J5) ∧ (¬ (v5 < 0) → (v3 < v5 → Wp d Lw_opened Q 178 [some (.ref 0), some (.ref 57), some (.long x2), none, some (.int v1), some (.int v2), some (.int v3), some (.int v4), some (.int v5), some (.int 0), some (.int 0), none, none] [] I5 J5) ∧ (¬ (v3 < v5) → (v1 = (-4) → (v5 = v3 → Wp d Lw_opened Q 95 [some (.ref 0), some (.ref 57), some (.long x2), none, some (.int v1), some (.int v2), some (.int v3), some (.int v4), some (.int v5), none, none, none, none] [.int 1, .int 1] I5 J5) ∧ (¬ (v5 = v3) → Wp d Lw_opened Q 95 [some (.ref 0), some (.ref 57), some (.long x2), none, some (.int v1), some (.int v2), some (.int v3), some (.int v4), some (.int v5), none, none, none, none] [.int 0, .int 1] I5 J5)) ∧ (¬ (v1 = (-4)) → (v5 = v3 → Wp d Lw_opened Q 95 [some (.ref 0), some (.ref 57), some (.long x2), none, some (.int v1), some (.int v2), some (.int v3), some (.int v4), some (.int v5), none, none, none, none] [.int 1, .int 0] I5 J5) ∧ (¬ (v5 = v3) → Wp d Lw_opened Q 95 [some (.ref 0), some (.ref 57), some (.long x2), none, some (.int v1), some (.int v2), some (.int v3), some (.int v4), some (.int v5), none, none, none, none] [.int 0, .int 0] I5 J5))))) ∧ (¬ (v4 < v3) → Wp d Lw_opened Q 178 [some (.ref 0), some (.ref 57), some (.long x2), none, some (.int v1), some (.int v2), some (.int v3), some (.int v4), some (.int v5), some (.int 0), some (.int 0), none, none] [] I5 J5)))) ∧ (¬ (0 < v3) → Wp d Lw_opened Q 178 [some (.ref 0), some (.ref 57), some (.long x2), none, some (.int v1), some (.int v2), some (.int v3), some (.int v4), some (.int v5), some (.int 0), some (.int 0), none, none] [] I5 J5))))))) : Wp d Lw_opened Q 0 [some (.ref 0), some (.ref 57), some (.long x2), none, none, none, none, none, none, none, none, none, none] [] I J := by
  refine Wp.steps 2 (pc' := 2) (lv' := [some (.ref 0), some (.ref 57), some (.long x2), none, none, none, none, none, none, none, none, none, none]) (st' := [.int (-1), .ref 0]) (I' := I) (J' := J) rfl ?_
  refine Wp.call (M' := Sb_opens) (as := [.ref 0, .int (-1)]) (rest := []) rfl (CI.use h (fun v1 I1 J1 h => ?_))
  refine Wp.eqs (pc' := 5) (st' := [.int v1]) rfl rfl ?_
  refine Wp.steps 2 (pc' := 8) (lv' := [some (.ref 0), some (.ref 57), some (.long x2), none, some (.int v1), none, none, none, none, none, none, none, none]) (st' := [.ref 0]) (I' := I1) (J' := J1) rfl ?_
  refine Wp.call (M' := Sb_rows) (as := [.ref 0]) (rest := []) rfl (CI.use h (fun v2 I2 J2 h => ?_))
  refine Wp.eqs (pc' := 11) (st' := [.int v2]) rfl rfl ?_
  refine Wp.steps 3 (pc' := 15) (lv' := [some (.ref 0), some (.ref 57), some (.long x2), none, some (.int v1), some (.int v2), none, none, none, none, none, none, none]) (st' := [.int 0, .ref 0]) (I' := I2) (J' := J2) rfl ?_
  refine Wp.call (M' := Sb_reach) (as := [.ref 0, .int 0]) (rest := []) rfl (CI.use h (fun v3 I3 J3 h => ?_))
  refine Wp.eqs (pc' := 18) (st' := [.int v3]) rfl rfl ?_
  refine Wp.steps 3 (pc' := 22) (lv' := [some (.ref 0), some (.ref 57), some (.long x2), none, some (.int v1), some (.int v2), some (.int v3), none, none, none, none, none, none]) (st' := [.int 1, .ref 0]) (I' := I3) (J' := J3) rfl ?_
  refine Wp.call (M' := Sb_reach) (as := [.ref 0, .int 1]) (rest := []) rfl (CI.use h (fun v4 I4 J4 h => ?_))
  refine Wp.eqs (pc' := 25) (st' := [.int v4]) rfl rfl ?_
  refine Wp.steps 3 (pc' := 29) (lv' := [some (.ref 0), some (.ref 57), some (.long x2), none, some (.int v1), some (.int v2), some (.int v3), some (.int v4), none, none, none, none, none]) (st' := [.int 2, .ref 0]) (I' := I4) (J' := J4) rfl ?_
  refine Wp.call (M' := Sb_reach) (as := [.ref 0, .int 2]) (rest := []) rfl (CI.use h (fun v5 I5 J5 h => ?_))
  refine Wp.eqs (pc' := 32) (st' := [.int v5]) rfl rfl ?_
  refine Wp.steps 2 (pc' := 36) (lv' := [some (.ref 0), some (.ref 57), some (.long x2), none, some (.int v1), some (.int v2), some (.int v3), some (.int v4), some (.int v5), none, none, none, none]) (st' := [.int v3]) (I' := I5) (J' := J5) rfl ?_
  refine Wp.steps 1 (pc' := if 0 < v3 then 39 else 172) (lv' := [some (.ref 0), some (.ref 57), some (.long x2), none, some (.int v1), some (.int v2), some (.int v3), some (.int v4), some (.int v5), none, none, none, none]) (st' := []) (I' := I5) (J' := J5) rfl (Wp.ite (fun h1 => ?_) (fun h1 => ?_))
  · replace h := h.1 h1
    refine Wp.steps 2 (pc' := 44) (lv' := [some (.ref 0), some (.ref 57), some (.long x2), none, some (.int v1), some (.int v2), some (.int v3), some (.int v4), some (.int v5), none, none, none, none]) (st' := [.int 256, .int v3]) (I' := I5) (J' := J5) rfl ?_
    refine Wp.steps 1 (pc' := if 256 < v3 then 172 else 47) (lv' := [some (.ref 0), some (.ref 57), some (.long x2), none, some (.int v1), some (.int v2), some (.int v3), some (.int v4), some (.int v5), none, none, none, none]) (st' := []) (I' := I5) (J' := J5) rfl (Wp.ite (fun h2 => ?_) (fun h2 => ?_))
    · replace h := h.1 h2
      refine Wp.steps 4 (pc' := 178) (lv' := [some (.ref 0), some (.ref 57), some (.long x2), none, some (.int v1), some (.int v2), some (.int v3), some (.int v4), some (.int v5), some (.int 0), some (.int 0), none, none]) (st' := []) (I' := I5) (J' := J5) rfl ?_
      exact h
    · replace h := h.2 h2
      refine Wp.steps 1 (pc' := 49) (lv' := [some (.ref 0), some (.ref 57), some (.long x2), none, some (.int v1), some (.int v2), some (.int v3), some (.int v4), some (.int v5), none, none, none, none]) (st' := [.int v4]) (I' := I5) (J' := J5) rfl ?_
      refine Wp.steps 1 (pc' := if v4 < 0 then 172 else 52) (lv' := [some (.ref 0), some (.ref 57), some (.long x2), none, some (.int v1), some (.int v2), some (.int v3), some (.int v4), some (.int v5), none, none, none, none]) (st' := []) (I' := I5) (J' := J5) rfl (Wp.ite (fun h3 => ?_) (fun h3 => ?_))
      · replace h := h.1 h3
        refine Wp.steps 4 (pc' := 178) (lv' := [some (.ref 0), some (.ref 57), some (.long x2), none, some (.int v1), some (.int v2), some (.int v3), some (.int v4), some (.int v5), some (.int 0), some (.int 0), none, none]) (st' := []) (I' := I5) (J' := J5) rfl ?_
        exact h
      · replace h := h.2 h3
        refine Wp.steps 2 (pc' := 56) (lv' := [some (.ref 0), some (.ref 57), some (.long x2), none, some (.int v1), some (.int v2), some (.int v3), some (.int v4), some (.int v5), none, none, none, none]) (st' := [.int v3, .int v4]) (I' := I5) (J' := J5) rfl ?_
        refine Wp.steps 1 (pc' := if v4 < v3 then 59 else 172) (lv' := [some (.ref 0), some (.ref 57), some (.long x2), none, some (.int v1), some (.int v2), some (.int v3), some (.int v4), some (.int v5), none, none, none, none]) (st' := []) (I' := I5) (J' := J5) rfl (Wp.ite (fun h4 => ?_) (fun h4 => ?_))
        · replace h := h.1 h4
          refine Wp.steps 1 (pc' := 61) (lv' := [some (.ref 0), some (.ref 57), some (.long x2), none, some (.int v1), some (.int v2), some (.int v3), some (.int v4), some (.int v5), none, none, none, none]) (st' := [.int v5]) (I' := I5) (J' := J5) rfl ?_
          refine Wp.steps 1 (pc' := if v5 < 0 then 172 else 64) (lv' := [some (.ref 0), some (.ref 57), some (.long x2), none, some (.int v1), some (.int v2), some (.int v3), some (.int v4), some (.int v5), none, none, none, none]) (st' := []) (I' := I5) (J' := J5) rfl (Wp.ite (fun h5 => ?_) (fun h5 => ?_))
          · replace h := h.1 h5
            refine Wp.steps 4 (pc' := 178) (lv' := [some (.ref 0), some (.ref 57), some (.long x2), none, some (.int v1), some (.int v2), some (.int v3), some (.int v4), some (.int v5), some (.int 0), some (.int 0), none, none]) (st' := []) (I' := I5) (J' := J5) rfl ?_
            exact h
          · replace h := h.2 h5
            refine Wp.steps 2 (pc' := 68) (lv' := [some (.ref 0), some (.ref 57), some (.long x2), none, some (.int v1), some (.int v2), some (.int v3), some (.int v4), some (.int v5), none, none, none, none]) (st' := [.int v3, .int v5]) (I' := I5) (J' := J5) rfl ?_
            refine Wp.steps 1 (pc' := if v3 < v5 then 172 else 71) (lv' := [some (.ref 0), some (.ref 57), some (.long x2), none, some (.int v1), some (.int v2), some (.int v3), some (.int v4), some (.int v5), none, none, none, none]) (st' := []) (I' := I5) (J' := J5) rfl (Wp.ite (fun h6 => ?_) (fun h6 => ?_))
            · replace h := h.1 h6
              refine Wp.steps 4 (pc' := 178) (lv' := [some (.ref 0), some (.ref 57), some (.long x2), none, some (.int v1), some (.int v2), some (.int v3), some (.int v4), some (.int v5), some (.int 0), some (.int 0), none, none]) (st' := []) (I' := I5) (J' := J5) rfl ?_
              exact h
            · replace h := h.2 h6
              refine Wp.steps 2 (pc' := 75) (lv' := [some (.ref 0), some (.ref 57), some (.long x2), none, some (.int v1), some (.int v2), some (.int v3), some (.int v4), some (.int v5), none, none, none, none]) (st' := [.int (-4), .int v1]) (I' := I5) (J' := J5) rfl ?_
              refine Wp.steps 1 (pc' := if v1 = (-4) then 78 else 82) (lv' := [some (.ref 0), some (.ref 57), some (.long x2), none, some (.int v1), some (.int v2), some (.int v3), some (.int v4), some (.int v5), none, none, none, none]) (st' := []) (I' := I5) (J' := J5) rfl (Wp.ite (fun h7 => ?_) (fun h7 => ?_))
              · replace h := h.1 h7
                refine Wp.steps 4 (pc' := 87) (lv' := [some (.ref 0), some (.ref 57), some (.long x2), none, some (.int v1), some (.int v2), some (.int v3), some (.int v4), some (.int v5), none, none, none, none]) (st' := [.int v3, .int v5, .int 1]) (I' := I5) (J' := J5) rfl ?_
                refine Wp.steps 1 (pc' := if v5 = v3 then 90 else 94) (lv' := [some (.ref 0), some (.ref 57), some (.long x2), none, some (.int v1), some (.int v2), some (.int v3), some (.int v4), some (.int v5), none, none, none, none]) (st' := [.int 1]) (I' := I5) (J' := J5) rfl (Wp.ite (fun h8 => ?_) (fun h8 => ?_))
                · replace h := h.1 h8
                  refine Wp.steps 2 (pc' := 95) (lv' := [some (.ref 0), some (.ref 57), some (.long x2), none, some (.int v1), some (.int v2), some (.int v3), some (.int v4), some (.int v5), none, none, none, none]) (st' := [.int 1, .int 1]) (I' := I5) (J' := J5) rfl ?_
                  exact h
                · replace h := h.2 h8
                  refine Wp.steps 1 (pc' := 95) (lv' := [some (.ref 0), some (.ref 57), some (.long x2), none, some (.int v1), some (.int v2), some (.int v3), some (.int v4), some (.int v5), none, none, none, none]) (st' := [.int 0, .int 1]) (I' := I5) (J' := J5) rfl ?_
                  exact h
              · replace h := h.2 h7
                refine Wp.steps 3 (pc' := 87) (lv' := [some (.ref 0), some (.ref 57), some (.long x2), none, some (.int v1), some (.int v2), some (.int v3), some (.int v4), some (.int v5), none, none, none, none]) (st' := [.int v3, .int v5, .int 0]) (I' := I5) (J' := J5) rfl ?_
                refine Wp.steps 1 (pc' := if v5 = v3 then 90 else 94) (lv' := [some (.ref 0), some (.ref 57), some (.long x2), none, some (.int v1), some (.int v2), some (.int v3), some (.int v4), some (.int v5), none, none, none, none]) (st' := [.int 0]) (I' := I5) (J' := J5) rfl (Wp.ite (fun h8 => ?_) (fun h8 => ?_))
                · replace h := h.1 h8
                  refine Wp.steps 2 (pc' := 95) (lv' := [some (.ref 0), some (.ref 57), some (.long x2), none, some (.int v1), some (.int v2), some (.int v3), some (.int v4), some (.int v5), none, none, none, none]) (st' := [.int 1, .int 0]) (I' := I5) (J' := J5) rfl ?_
                  exact h
                · replace h := h.2 h8
                  refine Wp.steps 1 (pc' := 95) (lv' := [some (.ref 0), some (.ref 57), some (.long x2), none, some (.int v1), some (.int v2), some (.int v3), some (.int v4), some (.int v5), none, none, none, none]) (st' := [.int 0, .int 0]) (I' := I5) (J' := J5) rfl ?_
                  exact h
        · replace h := h.2 h4
          refine Wp.steps 4 (pc' := 178) (lv' := [some (.ref 0), some (.ref 57), some (.long x2), none, some (.int v1), some (.int v2), some (.int v3), some (.int v4), some (.int v5), some (.int 0), some (.int 0), none, none]) (st' := []) (I' := I5) (J' := J5) rfl ?_
          exact h
  · replace h := h.2 h1
    refine Wp.steps 4 (pc' := 178) (lv' := [some (.ref 0), some (.ref 57), some (.long x2), none, some (.int v1), some (.int v2), some (.int v3), some (.int v4), some (.int v5), some (.int 0), some (.int 0), none, none]) (st' := []) (I' := I5) (J' := J5) rfl ?_
    exact h
set_option maxHeartbeats 16000000 in
theorem v_Lw_opened_0_57_95 {d : Nat} {Q : Post} {I : I2} {J : J2} {x2 : Int64} {x4 : Int32} {x5 : Int32} {x6 : Int32} {x7 : Int32} {x8 : Int32} {s0 : Int32} {s1 : Int32} (h : (s1 = s0 → (x4 = (-4) → (x5 = 0 → (x4 = 0 → CI d Sb_count [.ref 0, .int 3] I J (fun v1 I1 J1 => (v1 = 1 → (x5 = 1 → Wp d Lw_opened Q 178 [some (.ref 0), some (.ref 57), some (.long x2), none, some (.int x4), some (.int x5), some (.int x6), some (.int x7), some (.int x8), some (.int 1), some (.int 0), none, none] [] I1 J1) ∧ (¬ (x5 = 1) → Wp d Lw_opened Q 178 [some (.ref 0), some (.ref 57), some (.long x2), none, some (.int x4), some (.int x5), some (.int x6), some (.int x7), some (.int x8), some (.int 0), some (.int 0), none, none] [] I1 J1)) ∧ (¬ (v1 = 1) → Wp d Lw_opened Q 178 [some (.ref 0), some (.ref 57), some (.long x2), none, some (.int x4), some (.int x5), some (.int x6), some (.int x7), some (.int x8), some (.int 0), some (.int 0), none, none] [] I1 J1))) ∧ (¬ (x4 = 0) → CI d Sb_count [.ref 0, .int 3] I J (fun v1 I1 J1 => (v1 = 1 → Wp d Lw_opened Q 178 [some (.ref 0), some (.ref 57), some (.long x2), none, some (.int x4), some (.int x5), some (.int x6), some (.int x7), some (.int x8), some (.int 0), some (.int 0), none, none] [] I1 J1) ∧ (¬ (v1 = 1) → Wp d Lw_opened Q 178 [some (.ref 0), some (.ref 57), some (.long x2), none, some (.int x4), some (.int x5), some (.int x6), some (.int x7), some (.int x8), some (.int 1), some (.int 0), none, none] [] I1 J1)))) ∧ (¬ (x5 = 0) → Wp d Lw_opened Q 178 [some (.ref 0), some (.ref 57), some (.long x2), none, some (.int x4), some (.int x5), some (.int x6), some (.int x7), some (.int x8), some (.int 0), some (.int 0), none, none] [] I J)) ∧ (¬ (x4 = (-4)) → (x4 < 0 → Wp d Lw_opened Q 178 [some (.ref 0), some (.ref 57), some (.long x2), none, some (.int x4), some (.int x5), some (.int x6), some (.int x7), some (.int x8), some (.int 0), some (.int 0), none, none] [] I J) ∧ (¬ (x4 < 0) → (x7 < x4 → Wp d Lw_opened Q 178 [some (.ref 0), some (.ref 57), some (.long x2), none, some (.int x4), some (.int x5), some (.int x6), some (.int x7), some (.int x8), some (.int 0), some (.int 0), none, none] [] I J) ∧ (¬ (x7 < x4) → (x5 < 0 → Wp d Lw_opened Q 178 [some (.ref 0), some (.ref 57), some (.long x2), none, some (.int x4), some (.int x5), some (.int x6), some (.int x7), some (.int x8), some (.int 0), some (.int 0), none, none] [] I J) ∧ (¬ (x5 < 0) → (x4 = 0 → CI d Sb_count [.ref 0, .int 3] I J (fun v1 I1 J1 => (v1 = 1 → (x5 = 1 → Wp d Lw_opened Q 178 [some (.ref 0), some (.ref 57), some (.long x2), none, some (.int x4), some (.int x5), some (.int x6), some (.int x7), some (.int x8), some (.int 1), some (.int 0), none, none] [] I1 J1) ∧ (¬ (x5 = 1) → Wp d Lw_opened Q 178 [some (.ref 0), some (.ref 57), some (.long x2), none, some (.int x4), some (.int x5), some (.int x6), some (.int x7), some (.int x8), some (.int 0), some (.int 0), none, none] [] I1 J1)) ∧ (¬ (v1 = 1) → Wp d Lw_opened Q 178 [some (.ref 0), some (.ref 57), some (.long x2), none, some (.int x4), some (.int x5), some (.int x6), some (.int x7), some (.int x8), some (.int 0), some (.int 0), none, none] [] I1 J1))) ∧ (¬ (x4 = 0) → CI d Sb_count [.ref 0, .int 3] I J (fun v1 I1 J1 => (v1 = 1 → Wp d Lw_opened Q 178 [some (.ref 0), some (.ref 57), some (.long x2), none, some (.int x4), some (.int x5), some (.int x6), some (.int x7), some (.int x8), some (.int 0), some (.int 0), none, none] [] I1 J1) ∧ (¬ (v1 = 1) → Wp d Lw_opened Q 178 [some (.ref 0), some (.ref 57), some (.long x2), none, some (.int x4), some (.int x5), some (.int x6), some (.int x7), some (.int x8), some (.int 1), some (.int 0), none, none] [] I1 J1)))))))) ∧ (¬ (s1 = s0) → Wp d Lw_opened Q 178 [some (.ref 0), some (.ref 57), some (.long x2), none, some (.int x4), some (.int x5), some (.int x6), some (.int x7), some (.int x8), some (.int 0), some (.int 0), none, none] [] I J)) : Wp d Lw_opened Q 95 [some (.ref 0), some (.ref 57), some (.long x2), none, some (.int x4), some (.int x5), some (.int x6), some (.int x7), some (.int x8), none, none, none, none] [.int s0, .int s1] I J := by
  refine Wp.steps 1 (pc' := if s1 = s0 then 98 else 172) (lv' := [some (.ref 0), some (.ref 57), some (.long x2), none, some (.int x4), some (.int x5), some (.int x6), some (.int x7), some (.int x8), none, none, none, none]) (st' := []) (I' := I) (J' := J) rfl (Wp.ite (fun h1 => ?_) (fun h1 => ?_))
  · replace h := h.1 h1
    refine Wp.steps 2 (pc' := 102) (lv' := [some (.ref 0), some (.ref 57), some (.long x2), none, some (.int x4), some (.int x5), some (.int x6), some (.int x7), some (.int x8), none, none, none, none]) (st' := [.int (-4), .int x4]) (I' := I) (J' := J) rfl ?_
    refine Wp.steps 1 (pc' := if x4 = (-4) then 105 else 113) (lv' := [some (.ref 0), some (.ref 57), some (.long x2), none, some (.int x4), some (.int x5), some (.int x6), some (.int x7), some (.int x8), none, none, none, none]) (st' := []) (I' := I) (J' := J) rfl (Wp.ite (fun h2 => ?_) (fun h2 => ?_))
    · replace h := h.1 h2
      refine Wp.steps 1 (pc' := 107) (lv' := [some (.ref 0), some (.ref 57), some (.long x2), none, some (.int x4), some (.int x5), some (.int x6), some (.int x7), some (.int x8), none, none, none, none]) (st' := [.int x5]) (I' := I) (J' := J) rfl ?_
      refine Wp.steps 1 (pc' := if x5 = 0 then 110 else 172) (lv' := [some (.ref 0), some (.ref 57), some (.long x2), none, some (.int x4), some (.int x5), some (.int x6), some (.int x7), some (.int x8), none, none, none, none]) (st' := []) (I' := I) (J' := J) rfl (Wp.ite (fun h3 => ?_) (fun h3 => ?_))
      · replace h := h.1 h3
        refine Wp.steps 2 (pc' := 132) (lv' := [some (.ref 0), some (.ref 57), some (.long x2), none, some (.int x4), some (.int x5), some (.int x6), some (.int x7), some (.int x8), none, none, none, none]) (st' := [.int x4]) (I' := I) (J' := J) rfl ?_
        refine Wp.steps 1 (pc' := if x4 = 0 then 135 else 139) (lv' := [some (.ref 0), some (.ref 57), some (.long x2), none, some (.int x4), some (.int x5), some (.int x6), some (.int x7), some (.int x8), none, none, none, none]) (st' := []) (I' := I) (J' := J) rfl (Wp.ite (fun h4 => ?_) (fun h4 => ?_))
        · replace h := h.1 h4
          refine Wp.steps 4 (pc' := 142) (lv' := [some (.ref 0), some (.ref 57), some (.long x2), none, some (.int x4), some (.int x5), some (.int x6), some (.int x7), some (.int x8), none, none, none, none]) (st' := [.int 3, .ref 0, .int 1]) (I' := I) (J' := J) rfl ?_
          refine Wp.call (M' := Sb_count) (as := [.ref 0, .int 3]) (rest := [.int 1]) rfl (CI.use h (fun v1 I1 J1 h => ?_))
          refine Wp.eqs (pc' := 145) (st' := [.int v1, .int 1]) rfl rfl ?_
          refine Wp.steps 1 (pc' := 146) (lv' := [some (.ref 0), some (.ref 57), some (.long x2), none, some (.int x4), some (.int x5), some (.int x6), some (.int x7), some (.int x8), none, none, none, none]) (st' := [.int 1, .int v1, .int 1]) (I' := I1) (J' := J1) rfl ?_
          refine Wp.steps 1 (pc' := if v1 = 1 then 149 else 153) (lv' := [some (.ref 0), some (.ref 57), some (.long x2), none, some (.int x4), some (.int x5), some (.int x6), some (.int x7), some (.int x8), none, none, none, none]) (st' := [.int 1]) (I' := I1) (J' := J1) rfl (Wp.ite (fun h5 => ?_) (fun h5 => ?_))
          · replace h := h.1 h5
            refine Wp.steps 4 (pc' := 159) (lv' := [some (.ref 0), some (.ref 57), some (.long x2), none, some (.int x4), some (.int x5), some (.int x6), some (.int x7), some (.int x8), none, none, none, none]) (st' := [.int x4]) (I' := I1) (J' := J1) rfl ?_
            refine Wp.steps 1 (pc' := if x4 = 0 then 162 else 168) (lv' := [some (.ref 0), some (.ref 57), some (.long x2), none, some (.int x4), some (.int x5), some (.int x6), some (.int x7), some (.int x8), none, none, none, none]) (st' := []) (I' := I1) (J' := J1) rfl ?_
            rw [if_pos h4]
            refine Wp.steps 2 (pc' := 165) (lv' := [some (.ref 0), some (.ref 57), some (.long x2), none, some (.int x4), some (.int x5), some (.int x6), some (.int x7), some (.int x8), none, none, none, none]) (st' := [.int 1, .int x5]) (I' := I1) (J' := J1) rfl ?_
            refine Wp.steps 1 (pc' := if x5 = 1 then 168 else 172) (lv' := [some (.ref 0), some (.ref 57), some (.long x2), none, some (.int x4), some (.int x5), some (.int x6), some (.int x7), some (.int x8), none, none, none, none]) (st' := []) (I' := I1) (J' := J1) rfl (Wp.ite (fun h6 => ?_) (fun h6 => ?_))
            · replace h := h.1 h6
              refine Wp.steps 5 (pc' := 178) (lv' := [some (.ref 0), some (.ref 57), some (.long x2), none, some (.int x4), some (.int x5), some (.int x6), some (.int x7), some (.int x8), some (.int 1), some (.int 0), none, none]) (st' := []) (I' := I1) (J' := J1) rfl ?_
              exact h
            · replace h := h.2 h6
              refine Wp.steps 4 (pc' := 178) (lv' := [some (.ref 0), some (.ref 57), some (.long x2), none, some (.int x4), some (.int x5), some (.int x6), some (.int x7), some (.int x8), some (.int 0), some (.int 0), none, none]) (st' := []) (I' := I1) (J' := J1) rfl ?_
              exact h
          · replace h := h.2 h5
            refine Wp.steps 6 (pc' := 178) (lv' := [some (.ref 0), some (.ref 57), some (.long x2), none, some (.int x4), some (.int x5), some (.int x6), some (.int x7), some (.int x8), some (.int 0), some (.int 0), none, none]) (st' := []) (I' := I1) (J' := J1) rfl ?_
            exact h
        · replace h := h.2 h4
          refine Wp.steps 3 (pc' := 142) (lv' := [some (.ref 0), some (.ref 57), some (.long x2), none, some (.int x4), some (.int x5), some (.int x6), some (.int x7), some (.int x8), none, none, none, none]) (st' := [.int 3, .ref 0, .int 0]) (I' := I) (J' := J) rfl ?_
          refine Wp.call (M' := Sb_count) (as := [.ref 0, .int 3]) (rest := [.int 0]) rfl (CI.use h (fun v1 I1 J1 h => ?_))
          refine Wp.eqs (pc' := 145) (st' := [.int v1, .int 0]) rfl rfl ?_
          refine Wp.steps 1 (pc' := 146) (lv' := [some (.ref 0), some (.ref 57), some (.long x2), none, some (.int x4), some (.int x5), some (.int x6), some (.int x7), some (.int x8), none, none, none, none]) (st' := [.int 1, .int v1, .int 0]) (I' := I1) (J' := J1) rfl ?_
          refine Wp.steps 1 (pc' := if v1 = 1 then 149 else 153) (lv' := [some (.ref 0), some (.ref 57), some (.long x2), none, some (.int x4), some (.int x5), some (.int x6), some (.int x7), some (.int x8), none, none, none, none]) (st' := [.int 0]) (I' := I1) (J' := J1) rfl (Wp.ite (fun h5 => ?_) (fun h5 => ?_))
          · replace h := h.1 h5
            refine Wp.steps 7 (pc' := 178) (lv' := [some (.ref 0), some (.ref 57), some (.long x2), none, some (.int x4), some (.int x5), some (.int x6), some (.int x7), some (.int x8), some (.int 0), some (.int 0), none, none]) (st' := []) (I' := I1) (J' := J1) rfl ?_
            exact h
          · replace h := h.2 h5
            refine Wp.steps 3 (pc' := 159) (lv' := [some (.ref 0), some (.ref 57), some (.long x2), none, some (.int x4), some (.int x5), some (.int x6), some (.int x7), some (.int x8), none, none, none, none]) (st' := [.int x4]) (I' := I1) (J' := J1) rfl ?_
            refine Wp.steps 1 (pc' := if x4 = 0 then 162 else 168) (lv' := [some (.ref 0), some (.ref 57), some (.long x2), none, some (.int x4), some (.int x5), some (.int x6), some (.int x7), some (.int x8), none, none, none, none]) (st' := []) (I' := I1) (J' := J1) rfl ?_
            rw [if_neg h4]
            refine Wp.steps 5 (pc' := 178) (lv' := [some (.ref 0), some (.ref 57), some (.long x2), none, some (.int x4), some (.int x5), some (.int x6), some (.int x7), some (.int x8), some (.int 1), some (.int 0), none, none]) (st' := []) (I' := I1) (J' := J1) rfl ?_
            exact h
      · replace h := h.2 h3
        refine Wp.steps 4 (pc' := 178) (lv' := [some (.ref 0), some (.ref 57), some (.long x2), none, some (.int x4), some (.int x5), some (.int x6), some (.int x7), some (.int x8), some (.int 0), some (.int 0), none, none]) (st' := []) (I' := I) (J' := J) rfl ?_
        exact h
    · replace h := h.2 h2
      refine Wp.steps 1 (pc' := 115) (lv' := [some (.ref 0), some (.ref 57), some (.long x2), none, some (.int x4), some (.int x5), some (.int x6), some (.int x7), some (.int x8), none, none, none, none]) (st' := [.int x4]) (I' := I) (J' := J) rfl ?_
      refine Wp.steps 1 (pc' := if x4 < 0 then 172 else 118) (lv' := [some (.ref 0), some (.ref 57), some (.long x2), none, some (.int x4), some (.int x5), some (.int x6), some (.int x7), some (.int x8), none, none, none, none]) (st' := []) (I' := I) (J' := J) rfl (Wp.ite (fun h3 => ?_) (fun h3 => ?_))
      · replace h := h.1 h3
        refine Wp.steps 4 (pc' := 178) (lv' := [some (.ref 0), some (.ref 57), some (.long x2), none, some (.int x4), some (.int x5), some (.int x6), some (.int x7), some (.int x8), some (.int 0), some (.int 0), none, none]) (st' := []) (I' := I) (J' := J) rfl ?_
        exact h
      · replace h := h.2 h3
        refine Wp.steps 2 (pc' := 122) (lv' := [some (.ref 0), some (.ref 57), some (.long x2), none, some (.int x4), some (.int x5), some (.int x6), some (.int x7), some (.int x8), none, none, none, none]) (st' := [.int x7, .int x4]) (I' := I) (J' := J) rfl ?_
        refine Wp.steps 1 (pc' := if x7 < x4 then 172 else 125) (lv' := [some (.ref 0), some (.ref 57), some (.long x2), none, some (.int x4), some (.int x5), some (.int x6), some (.int x7), some (.int x8), none, none, none, none]) (st' := []) (I' := I) (J' := J) rfl (Wp.ite (fun h4 => ?_) (fun h4 => ?_))
        · replace h := h.1 h4
          refine Wp.steps 4 (pc' := 178) (lv' := [some (.ref 0), some (.ref 57), some (.long x2), none, some (.int x4), some (.int x5), some (.int x6), some (.int x7), some (.int x8), some (.int 0), some (.int 0), none, none]) (st' := []) (I' := I) (J' := J) rfl ?_
          exact h
        · replace h := h.2 h4
          refine Wp.steps 1 (pc' := 127) (lv' := [some (.ref 0), some (.ref 57), some (.long x2), none, some (.int x4), some (.int x5), some (.int x6), some (.int x7), some (.int x8), none, none, none, none]) (st' := [.int x5]) (I' := I) (J' := J) rfl ?_
          refine Wp.steps 1 (pc' := if x5 < 0 then 172 else 130) (lv' := [some (.ref 0), some (.ref 57), some (.long x2), none, some (.int x4), some (.int x5), some (.int x6), some (.int x7), some (.int x8), none, none, none, none]) (st' := []) (I' := I) (J' := J) rfl (Wp.ite (fun h5 => ?_) (fun h5 => ?_))
          · replace h := h.1 h5
            refine Wp.steps 4 (pc' := 178) (lv' := [some (.ref 0), some (.ref 57), some (.long x2), none, some (.int x4), some (.int x5), some (.int x6), some (.int x7), some (.int x8), some (.int 0), some (.int 0), none, none]) (st' := []) (I' := I) (J' := J) rfl ?_
            exact h
          · replace h := h.2 h5
            refine Wp.steps 1 (pc' := 132) (lv' := [some (.ref 0), some (.ref 57), some (.long x2), none, some (.int x4), some (.int x5), some (.int x6), some (.int x7), some (.int x8), none, none, none, none]) (st' := [.int x4]) (I' := I) (J' := J) rfl ?_
            refine Wp.steps 1 (pc' := if x4 = 0 then 135 else 139) (lv' := [some (.ref 0), some (.ref 57), some (.long x2), none, some (.int x4), some (.int x5), some (.int x6), some (.int x7), some (.int x8), none, none, none, none]) (st' := []) (I' := I) (J' := J) rfl (Wp.ite (fun h6 => ?_) (fun h6 => ?_))
            · replace h := h.1 h6
              refine Wp.steps 4 (pc' := 142) (lv' := [some (.ref 0), some (.ref 57), some (.long x2), none, some (.int x4), some (.int x5), some (.int x6), some (.int x7), some (.int x8), none, none, none, none]) (st' := [.int 3, .ref 0, .int 1]) (I' := I) (J' := J) rfl ?_
              refine Wp.call (M' := Sb_count) (as := [.ref 0, .int 3]) (rest := [.int 1]) rfl (CI.use h (fun v1 I1 J1 h => ?_))
              refine Wp.eqs (pc' := 145) (st' := [.int v1, .int 1]) rfl rfl ?_
              refine Wp.steps 1 (pc' := 146) (lv' := [some (.ref 0), some (.ref 57), some (.long x2), none, some (.int x4), some (.int x5), some (.int x6), some (.int x7), some (.int x8), none, none, none, none]) (st' := [.int 1, .int v1, .int 1]) (I' := I1) (J' := J1) rfl ?_
              refine Wp.steps 1 (pc' := if v1 = 1 then 149 else 153) (lv' := [some (.ref 0), some (.ref 57), some (.long x2), none, some (.int x4), some (.int x5), some (.int x6), some (.int x7), some (.int x8), none, none, none, none]) (st' := [.int 1]) (I' := I1) (J' := J1) rfl (Wp.ite (fun h7 => ?_) (fun h7 => ?_))
              · replace h := h.1 h7
                refine Wp.steps 4 (pc' := 159) (lv' := [some (.ref 0), some (.ref 57), some (.long x2), none, some (.int x4), some (.int x5), some (.int x6), some (.int x7), some (.int x8), none, none, none, none]) (st' := [.int x4]) (I' := I1) (J' := J1) rfl ?_
                refine Wp.steps 1 (pc' := if x4 = 0 then 162 else 168) (lv' := [some (.ref 0), some (.ref 57), some (.long x2), none, some (.int x4), some (.int x5), some (.int x6), some (.int x7), some (.int x8), none, none, none, none]) (st' := []) (I' := I1) (J' := J1) rfl ?_
                rw [if_pos h6]
                refine Wp.steps 2 (pc' := 165) (lv' := [some (.ref 0), some (.ref 57), some (.long x2), none, some (.int x4), some (.int x5), some (.int x6), some (.int x7), some (.int x8), none, none, none, none]) (st' := [.int 1, .int x5]) (I' := I1) (J' := J1) rfl ?_
                refine Wp.steps 1 (pc' := if x5 = 1 then 168 else 172) (lv' := [some (.ref 0), some (.ref 57), some (.long x2), none, some (.int x4), some (.int x5), some (.int x6), some (.int x7), some (.int x8), none, none, none, none]) (st' := []) (I' := I1) (J' := J1) rfl (Wp.ite (fun h8 => ?_) (fun h8 => ?_))
                · replace h := h.1 h8
                  refine Wp.steps 5 (pc' := 178) (lv' := [some (.ref 0), some (.ref 57), some (.long x2), none, some (.int x4), some (.int x5), some (.int x6), some (.int x7), some (.int x8), some (.int 1), some (.int 0), none, none]) (st' := []) (I' := I1) (J' := J1) rfl ?_
                  exact h
                · replace h := h.2 h8
                  refine Wp.steps 4 (pc' := 178) (lv' := [some (.ref 0), some (.ref 57), some (.long x2), none, some (.int x4), some (.int x5), some (.int x6), some (.int x7), some (.int x8), some (.int 0), some (.int 0), none, none]) (st' := []) (I' := I1) (J' := J1) rfl ?_
                  exact h
              · replace h := h.2 h7
                refine Wp.steps 6 (pc' := 178) (lv' := [some (.ref 0), some (.ref 57), some (.long x2), none, some (.int x4), some (.int x5), some (.int x6), some (.int x7), some (.int x8), some (.int 0), some (.int 0), none, none]) (st' := []) (I' := I1) (J' := J1) rfl ?_
                exact h
            · replace h := h.2 h6
              refine Wp.steps 3 (pc' := 142) (lv' := [some (.ref 0), some (.ref 57), some (.long x2), none, some (.int x4), some (.int x5), some (.int x6), some (.int x7), some (.int x8), none, none, none, none]) (st' := [.int 3, .ref 0, .int 0]) (I' := I) (J' := J) rfl ?_
              refine Wp.call (M' := Sb_count) (as := [.ref 0, .int 3]) (rest := [.int 0]) rfl (CI.use h (fun v1 I1 J1 h => ?_))
              refine Wp.eqs (pc' := 145) (st' := [.int v1, .int 0]) rfl rfl ?_
              refine Wp.steps 1 (pc' := 146) (lv' := [some (.ref 0), some (.ref 57), some (.long x2), none, some (.int x4), some (.int x5), some (.int x6), some (.int x7), some (.int x8), none, none, none, none]) (st' := [.int 1, .int v1, .int 0]) (I' := I1) (J' := J1) rfl ?_
              refine Wp.steps 1 (pc' := if v1 = 1 then 149 else 153) (lv' := [some (.ref 0), some (.ref 57), some (.long x2), none, some (.int x4), some (.int x5), some (.int x6), some (.int x7), some (.int x8), none, none, none, none]) (st' := [.int 0]) (I' := I1) (J' := J1) rfl (Wp.ite (fun h7 => ?_) (fun h7 => ?_))
              · replace h := h.1 h7
                refine Wp.steps 7 (pc' := 178) (lv' := [some (.ref 0), some (.ref 57), some (.long x2), none, some (.int x4), some (.int x5), some (.int x6), some (.int x7), some (.int x8), some (.int 0), some (.int 0), none, none]) (st' := []) (I' := I1) (J' := J1) rfl ?_
                exact h
              · replace h := h.2 h7
                refine Wp.steps 3 (pc' := 159) (lv' := [some (.ref 0), some (.ref 57), some (.long x2), none, some (.int x4), some (.int x5), some (.int x6), some (.int x7), some (.int x8), none, none, none, none]) (st' := [.int x4]) (I' := I1) (J' := J1) rfl ?_
                refine Wp.steps 1 (pc' := if x4 = 0 then 162 else 168) (lv' := [some (.ref 0), some (.ref 57), some (.long x2), none, some (.int x4), some (.int x5), some (.int x6), some (.int x7), some (.int x8), none, none, none, none]) (st' := []) (I' := I1) (J' := J1) rfl ?_
                rw [if_neg h6]
                refine Wp.steps 5 (pc' := 178) (lv' := [some (.ref 0), some (.ref 57), some (.long x2), none, some (.int x4), some (.int x5), some (.int x6), some (.int x7), some (.int x8), some (.int 1), some (.int 0), none, none]) (st' := []) (I' := I1) (J' := J1) rfl ?_
                exact h
  · replace h := h.2 h1
    refine Wp.steps 4 (pc' := 178) (lv' := [some (.ref 0), some (.ref 57), some (.long x2), none, some (.int x4), some (.int x5), some (.int x6), some (.int x7), some (.int x8), some (.int 0), some (.int 0), none, none]) (st' := []) (I' := I) (J' := J) rfl ?_
    exact h
set_option maxHeartbeats 16000000 in
theorem v_Lw_opened_0_57_178 {d : Nat} {Q : Post} {I : I2} {J : J2} {x2 : Int64} {x4 : Int32} {x5 : Int32} {x6 : Int32} {x7 : Int32} {x8 : Int32} {x9 : Int32} {x10 : Int32} (h : (x10 < x4 → (x9 = 0 → Q (some (.int 0)) I J) ∧ (¬ (x9 = 0) → CI d Sb_opens [.ref 0, .int 0] I J (fun v1 I1 J1 => Wp d Lw_opened Q 200 [some (.ref 0), some (.ref 57), some (.long x2), none, some (.int x4), some (.int x5), some (.int x6), some (.int x7), some (.int x8), some (.int x9), some (.int x10), some (.int v1), some (.int 0)] [] I1 J1))) ∧ (¬ (x10 < x4) → (x9 = 0 → Q (some (.int 0)) I J) ∧ (¬ (x9 = 0) → (x4 < 0 → CI d Sb_restore [.ref 0] I J (fun v1 I1 J1 => (v1 = 1 → CL d Lw_hash [.ref 0, .ref 57] I1 J1 (fun v2 I2 J2 => ((lg_cmp v2 x2) = 0 → Q (some (.int 1)) I2 J2) ∧ (¬ ((lg_cmp v2 x2) = 0) → Q (some (.int 0)) I2 J2))) ∧ (¬ (v1 = 1) → Q (some (.int 0)) I1 J1))) ∧ (¬ (x4 < 0) → CI d Sb_count [.ref 0, .int 3] I J (fun v1 I1 J1 => (v1 = 1 → CI d Sb_opens [.ref 0, .int 0] I1 J1 (fun v2 I2 J2 => (v2 = (-4) → CI d Sb_restore [.ref 0] I2 J2 (fun v3 I3 J3 => (v3 = 1 → CL d Lw_hash [.ref 0, .ref 57] I3 J3 (fun v4 I4 J4 => ((lg_cmp v4 x2) = 0 → Q (some (.int 1)) I4 J4) ∧ (¬ ((lg_cmp v4 x2) = 0) → Q (some (.int 0)) I4 J4))) ∧ (¬ (v3 = 1) → Q (some (.int 0)) I3 J3))) ∧ (¬ (v2 = (-4)) → Q (some (.int 0)) I2 J2))) ∧ (¬ (v1 = 1) → Q (some (.int 0)) I1 J1)))))) : Wp d Lw_opened Q 178 [some (.ref 0), some (.ref 57), some (.long x2), none, some (.int x4), some (.int x5), some (.int x6), some (.int x7), some (.int x8), some (.int x9), some (.int x10), none, none] [] I J := by
  refine Wp.steps 2 (pc' := 182) (lv' := [some (.ref 0), some (.ref 57), some (.long x2), none, some (.int x4), some (.int x5), some (.int x6), some (.int x7), some (.int x8), some (.int x9), some (.int x10), none, none]) (st' := [.int x4, .int x10]) (I' := I) (J' := J) rfl ?_
  refine Wp.steps 1 (pc' := if x10 < x4 then 185 else 357) (lv' := [some (.ref 0), some (.ref 57), some (.long x2), none, some (.int x4), some (.int x5), some (.int x6), some (.int x7), some (.int x8), some (.int x9), some (.int x10), none, none]) (st' := []) (I' := I) (J' := J) rfl (Wp.ite (fun h1 => ?_) (fun h1 => ?_))
  · replace h := h.1 h1
    refine Wp.steps 1 (pc' := 187) (lv' := [some (.ref 0), some (.ref 57), some (.long x2), none, some (.int x4), some (.int x5), some (.int x6), some (.int x7), some (.int x8), some (.int x9), some (.int x10), none, none]) (st' := [.int x9]) (I' := I) (J' := J) rfl ?_
    refine Wp.steps 1 (pc' := if x9 = 0 then 357 else 190) (lv' := [some (.ref 0), some (.ref 57), some (.long x2), none, some (.int x4), some (.int x5), some (.int x6), some (.int x7), some (.int x8), some (.int x9), some (.int x10), none, none]) (st' := []) (I' := I) (J' := J) rfl (Wp.ite (fun h2 => ?_) (fun h2 => ?_))
    · replace h := h.1 h2
      refine Wp.steps 1 (pc' := 359) (lv' := [some (.ref 0), some (.ref 57), some (.long x2), none, some (.int x4), some (.int x5), some (.int x6), some (.int x7), some (.int x8), some (.int x9), some (.int x10), none, none]) (st' := [.int x9]) (I' := I) (J' := J) rfl ?_
      refine Wp.steps 1 (pc' := if x9 = 0 then 408 else 362) (lv' := [some (.ref 0), some (.ref 57), some (.long x2), none, some (.int x4), some (.int x5), some (.int x6), some (.int x7), some (.int x8), some (.int x9), some (.int x10), none, none]) (st' := []) (I' := I) (J' := J) rfl ?_
      rw [if_pos h2]
      refine Wp.steps 1 (pc' := 409) (lv' := [some (.ref 0), some (.ref 57), some (.long x2), none, some (.int x4), some (.int x5), some (.int x6), some (.int x7), some (.int x8), some (.int x9), some (.int x10), none, none]) (st' := [.int 0]) (I' := I) (J' := J) rfl ?_
      exact Wp.ret rfl h
    · replace h := h.2 h2
      refine Wp.steps 2 (pc' := 192) (lv' := [some (.ref 0), some (.ref 57), some (.long x2), none, some (.int x4), some (.int x5), some (.int x6), some (.int x7), some (.int x8), some (.int x9), some (.int x10), none, none]) (st' := [.int 0, .ref 0]) (I' := I) (J' := J) rfl ?_
      refine Wp.call (M' := Sb_opens) (as := [.ref 0, .int 0]) (rest := []) rfl (CI.use h (fun v1 I1 J1 h => ?_))
      refine Wp.eqs (pc' := 195) (st' := [.int v1]) rfl rfl ?_
      refine Wp.steps 3 (pc' := 200) (lv' := [some (.ref 0), some (.ref 57), some (.long x2), none, some (.int x4), some (.int x5), some (.int x6), some (.int x7), some (.int x8), some (.int x9), some (.int x10), some (.int v1), some (.int 0)]) (st' := []) (I' := I1) (J' := J1) rfl ?_
      exact h
  · replace h := h.2 h1
    refine Wp.steps 1 (pc' := 359) (lv' := [some (.ref 0), some (.ref 57), some (.long x2), none, some (.int x4), some (.int x5), some (.int x6), some (.int x7), some (.int x8), some (.int x9), some (.int x10), none, none]) (st' := [.int x9]) (I' := I) (J' := J) rfl ?_
    refine Wp.steps 1 (pc' := if x9 = 0 then 408 else 362) (lv' := [some (.ref 0), some (.ref 57), some (.long x2), none, some (.int x4), some (.int x5), some (.int x6), some (.int x7), some (.int x8), some (.int x9), some (.int x10), none, none]) (st' := []) (I' := I) (J' := J) rfl (Wp.ite (fun h2 => ?_) (fun h2 => ?_))
    · replace h := h.1 h2
      refine Wp.steps 1 (pc' := 409) (lv' := [some (.ref 0), some (.ref 57), some (.long x2), none, some (.int x4), some (.int x5), some (.int x6), some (.int x7), some (.int x8), some (.int x9), some (.int x10), none, none]) (st' := [.int 0]) (I' := I) (J' := J) rfl ?_
      exact Wp.ret rfl h
    · replace h := h.2 h2
      refine Wp.steps 1 (pc' := 364) (lv' := [some (.ref 0), some (.ref 57), some (.long x2), none, some (.int x4), some (.int x5), some (.int x6), some (.int x7), some (.int x8), some (.int x9), some (.int x10), none, none]) (st' := [.int x4]) (I' := I) (J' := J) rfl ?_
      refine Wp.steps 1 (pc' := if x4 < 0 then 386 else 367) (lv' := [some (.ref 0), some (.ref 57), some (.long x2), none, some (.int x4), some (.int x5), some (.int x6), some (.int x7), some (.int x8), some (.int x9), some (.int x10), none, none]) (st' := []) (I' := I) (J' := J) rfl (Wp.ite (fun h3 => ?_) (fun h3 => ?_))
      · replace h := h.1 h3
        refine Wp.steps 1 (pc' := 387) (lv' := [some (.ref 0), some (.ref 57), some (.long x2), none, some (.int x4), some (.int x5), some (.int x6), some (.int x7), some (.int x8), some (.int x9), some (.int x10), none, none]) (st' := [.ref 0]) (I' := I) (J' := J) rfl ?_
        refine Wp.call (M' := Sb_restore) (as := [.ref 0]) (rest := []) rfl (CI.use h (fun v1 I1 J1 h => ?_))
        refine Wp.eqs (pc' := 390) (st' := [.int v1]) rfl rfl ?_
        refine Wp.steps 1 (pc' := 391) (lv' := [some (.ref 0), some (.ref 57), some (.long x2), none, some (.int x4), some (.int x5), some (.int x6), some (.int x7), some (.int x8), some (.int x9), some (.int x10), none, none]) (st' := [.int 1, .int v1]) (I' := I1) (J' := J1) rfl ?_
        refine Wp.steps 1 (pc' := if v1 = 1 then 394 else 408) (lv' := [some (.ref 0), some (.ref 57), some (.long x2), none, some (.int x4), some (.int x5), some (.int x6), some (.int x7), some (.int x8), some (.int x9), some (.int x10), none, none]) (st' := []) (I' := I1) (J' := J1) rfl (Wp.ite (fun h4 => ?_) (fun h4 => ?_))
        · replace h := h.1 h4
          refine Wp.steps 2 (pc' := 396) (lv' := [some (.ref 0), some (.ref 57), some (.long x2), none, some (.int x4), some (.int x5), some (.int x6), some (.int x7), some (.int x8), some (.int x9), some (.int x10), none, none]) (st' := [.ref 57, .ref 0]) (I' := I1) (J' := J1) rfl ?_
          refine Wp.call (M' := Lw_hash) (as := [.ref 0, .ref 57]) (rest := []) rfl (CL.use h (fun v2 I2 J2 h => ?_))
          refine Wp.eqs (pc' := 399) (st' := [.long v2]) rfl rfl ?_
          refine Wp.steps 2 (pc' := 401) (lv' := [some (.ref 0), some (.ref 57), some (.long x2), none, some (.int x4), some (.int x5), some (.int x6), some (.int x7), some (.int x8), some (.int x9), some (.int x10), none, none]) (st' := [.int (lg_cmp v2 x2)]) (I' := I2) (J' := J2) rfl ?_
          refine Wp.steps 1 (pc' := if (lg_cmp v2 x2) = 0 then 404 else 408) (lv' := [some (.ref 0), some (.ref 57), some (.long x2), none, some (.int x4), some (.int x5), some (.int x6), some (.int x7), some (.int x8), some (.int x9), some (.int x10), none, none]) (st' := []) (I' := I2) (J' := J2) rfl (Wp.ite (fun h5 => ?_) (fun h5 => ?_))
          · replace h := h.1 h5
            refine Wp.steps 2 (pc' := 409) (lv' := [some (.ref 0), some (.ref 57), some (.long x2), none, some (.int x4), some (.int x5), some (.int x6), some (.int x7), some (.int x8), some (.int x9), some (.int x10), none, none]) (st' := [.int 1]) (I' := I2) (J' := J2) rfl ?_
            exact Wp.ret rfl h
          · replace h := h.2 h5
            refine Wp.steps 1 (pc' := 409) (lv' := [some (.ref 0), some (.ref 57), some (.long x2), none, some (.int x4), some (.int x5), some (.int x6), some (.int x7), some (.int x8), some (.int x9), some (.int x10), none, none]) (st' := [.int 0]) (I' := I2) (J' := J2) rfl ?_
            exact Wp.ret rfl h
        · replace h := h.2 h4
          refine Wp.steps 1 (pc' := 409) (lv' := [some (.ref 0), some (.ref 57), some (.long x2), none, some (.int x4), some (.int x5), some (.int x6), some (.int x7), some (.int x8), some (.int x9), some (.int x10), none, none]) (st' := [.int 0]) (I' := I1) (J' := J1) rfl ?_
          exact Wp.ret rfl h
      · replace h := h.2 h3
        refine Wp.steps 2 (pc' := 369) (lv' := [some (.ref 0), some (.ref 57), some (.long x2), none, some (.int x4), some (.int x5), some (.int x6), some (.int x7), some (.int x8), some (.int x9), some (.int x10), none, none]) (st' := [.int 3, .ref 0]) (I' := I) (J' := J) rfl ?_
        refine Wp.call (M' := Sb_count) (as := [.ref 0, .int 3]) (rest := []) rfl (CI.use h (fun v1 I1 J1 h => ?_))
        refine Wp.eqs (pc' := 372) (st' := [.int v1]) rfl rfl ?_
        refine Wp.steps 1 (pc' := 373) (lv' := [some (.ref 0), some (.ref 57), some (.long x2), none, some (.int x4), some (.int x5), some (.int x6), some (.int x7), some (.int x8), some (.int x9), some (.int x10), none, none]) (st' := [.int 1, .int v1]) (I' := I1) (J' := J1) rfl ?_
        refine Wp.steps 1 (pc' := if v1 = 1 then 376 else 408) (lv' := [some (.ref 0), some (.ref 57), some (.long x2), none, some (.int x4), some (.int x5), some (.int x6), some (.int x7), some (.int x8), some (.int x9), some (.int x10), none, none]) (st' := []) (I' := I1) (J' := J1) rfl (Wp.ite (fun h4 => ?_) (fun h4 => ?_))
        · replace h := h.1 h4
          refine Wp.steps 2 (pc' := 378) (lv' := [some (.ref 0), some (.ref 57), some (.long x2), none, some (.int x4), some (.int x5), some (.int x6), some (.int x7), some (.int x8), some (.int x9), some (.int x10), none, none]) (st' := [.int 0, .ref 0]) (I' := I1) (J' := J1) rfl ?_
          refine Wp.call (M' := Sb_opens) (as := [.ref 0, .int 0]) (rest := []) rfl (CI.use h (fun v2 I2 J2 h => ?_))
          refine Wp.eqs (pc' := 381) (st' := [.int v2]) rfl rfl ?_
          refine Wp.steps 1 (pc' := 383) (lv' := [some (.ref 0), some (.ref 57), some (.long x2), none, some (.int x4), some (.int x5), some (.int x6), some (.int x7), some (.int x8), some (.int x9), some (.int x10), none, none]) (st' := [.int (-4), .int v2]) (I' := I2) (J' := J2) rfl ?_
          refine Wp.steps 1 (pc' := if v2 = (-4) then 386 else 408) (lv' := [some (.ref 0), some (.ref 57), some (.long x2), none, some (.int x4), some (.int x5), some (.int x6), some (.int x7), some (.int x8), some (.int x9), some (.int x10), none, none]) (st' := []) (I' := I2) (J' := J2) rfl (Wp.ite (fun h5 => ?_) (fun h5 => ?_))
          · replace h := h.1 h5
            refine Wp.steps 1 (pc' := 387) (lv' := [some (.ref 0), some (.ref 57), some (.long x2), none, some (.int x4), some (.int x5), some (.int x6), some (.int x7), some (.int x8), some (.int x9), some (.int x10), none, none]) (st' := [.ref 0]) (I' := I2) (J' := J2) rfl ?_
            refine Wp.call (M' := Sb_restore) (as := [.ref 0]) (rest := []) rfl (CI.use h (fun v3 I3 J3 h => ?_))
            refine Wp.eqs (pc' := 390) (st' := [.int v3]) rfl rfl ?_
            refine Wp.steps 1 (pc' := 391) (lv' := [some (.ref 0), some (.ref 57), some (.long x2), none, some (.int x4), some (.int x5), some (.int x6), some (.int x7), some (.int x8), some (.int x9), some (.int x10), none, none]) (st' := [.int 1, .int v3]) (I' := I3) (J' := J3) rfl ?_
            refine Wp.steps 1 (pc' := if v3 = 1 then 394 else 408) (lv' := [some (.ref 0), some (.ref 57), some (.long x2), none, some (.int x4), some (.int x5), some (.int x6), some (.int x7), some (.int x8), some (.int x9), some (.int x10), none, none]) (st' := []) (I' := I3) (J' := J3) rfl (Wp.ite (fun h6 => ?_) (fun h6 => ?_))
            · replace h := h.1 h6
              refine Wp.steps 2 (pc' := 396) (lv' := [some (.ref 0), some (.ref 57), some (.long x2), none, some (.int x4), some (.int x5), some (.int x6), some (.int x7), some (.int x8), some (.int x9), some (.int x10), none, none]) (st' := [.ref 57, .ref 0]) (I' := I3) (J' := J3) rfl ?_
              refine Wp.call (M' := Lw_hash) (as := [.ref 0, .ref 57]) (rest := []) rfl (CL.use h (fun v4 I4 J4 h => ?_))
              refine Wp.eqs (pc' := 399) (st' := [.long v4]) rfl rfl ?_
              refine Wp.steps 2 (pc' := 401) (lv' := [some (.ref 0), some (.ref 57), some (.long x2), none, some (.int x4), some (.int x5), some (.int x6), some (.int x7), some (.int x8), some (.int x9), some (.int x10), none, none]) (st' := [.int (lg_cmp v4 x2)]) (I' := I4) (J' := J4) rfl ?_
              refine Wp.steps 1 (pc' := if (lg_cmp v4 x2) = 0 then 404 else 408) (lv' := [some (.ref 0), some (.ref 57), some (.long x2), none, some (.int x4), some (.int x5), some (.int x6), some (.int x7), some (.int x8), some (.int x9), some (.int x10), none, none]) (st' := []) (I' := I4) (J' := J4) rfl (Wp.ite (fun h7 => ?_) (fun h7 => ?_))
              · replace h := h.1 h7
                refine Wp.steps 2 (pc' := 409) (lv' := [some (.ref 0), some (.ref 57), some (.long x2), none, some (.int x4), some (.int x5), some (.int x6), some (.int x7), some (.int x8), some (.int x9), some (.int x10), none, none]) (st' := [.int 1]) (I' := I4) (J' := J4) rfl ?_
                exact Wp.ret rfl h
              · replace h := h.2 h7
                refine Wp.steps 1 (pc' := 409) (lv' := [some (.ref 0), some (.ref 57), some (.long x2), none, some (.int x4), some (.int x5), some (.int x6), some (.int x7), some (.int x8), some (.int x9), some (.int x10), none, none]) (st' := [.int 0]) (I' := I4) (J' := J4) rfl ?_
                exact Wp.ret rfl h
            · replace h := h.2 h6
              refine Wp.steps 1 (pc' := 409) (lv' := [some (.ref 0), some (.ref 57), some (.long x2), none, some (.int x4), some (.int x5), some (.int x6), some (.int x7), some (.int x8), some (.int x9), some (.int x10), none, none]) (st' := [.int 0]) (I' := I3) (J' := J3) rfl ?_
              exact Wp.ret rfl h
          · replace h := h.2 h5
            refine Wp.steps 1 (pc' := 409) (lv' := [some (.ref 0), some (.ref 57), some (.long x2), none, some (.int x4), some (.int x5), some (.int x6), some (.int x7), some (.int x8), some (.int x9), some (.int x10), none, none]) (st' := [.int 0]) (I' := I2) (J' := J2) rfl ?_
            exact Wp.ret rfl h
        · replace h := h.2 h4
          refine Wp.steps 1 (pc' := 409) (lv' := [some (.ref 0), some (.ref 57), some (.long x2), none, some (.int x4), some (.int x5), some (.int x6), some (.int x7), some (.int x8), some (.int x9), some (.int x10), none, none]) (st' := [.int 0]) (I' := I1) (J' := J1) rfl ?_
          exact Wp.ret rfl h
set_option maxHeartbeats 16000000 in
theorem v_Lw_opened_0_57_200 {d : Nat} {Q : Post} {I : I2} {J : J2} {x2 : Int64} {x4 : Int32} {x5 : Int32} {x6 : Int32} {x7 : Int32} {x8 : Int32} {x9 : Int32} {x10 : Int32} {x11 : Int32} {x12 : Int32} (h : (x12 < ((2 * (x11 / 10)) + (rmI x11 10)) → (x9 = 0 → Wp d Lw_opened Q 178 [some (.ref 0), some (.ref 57), some (.long x2), none, some (.int x4), some (.int x5), some (.int x6), some (.int x7), some (.int x8), some (.int 0), some (.int (x10 + 1)), none, none] [] I J) ∧ (¬ (x9 = 0) → CI d Sb_of [.ref 0, .int (x12 / 2), .int (3 + (rmI x12 2))] I J (fun v1 I1 J1 => (v1 = 1 → CI d Sb_slide [.ref 0, .int (x12 / 2), .int (rmI x12 2)] I1 J1 (fun v2 I2 J2 => (v2 < 0 → Wp d Lw_opened Q 200 [some (.ref 0), some (.ref 57), some (.long x2), none, some (.int x4), some (.int x5), some (.int x6), some (.int x7), some (.int x8), some (.int 0), some (.int x10), some (.int x11), some (.int (x12 + 1))] [] I2 J2) ∧ (¬ (v2 < 0) → CI d Sb_opens [.ref 0, .int (-1)] I2 J2 (fun v3 I3 J3 => (v3 = (-4) → CI d Sb_undo [.ref 0] I3 J3 (fun v4 I4 J4 => (v4 < 0 → Wp d Lw_opened Q 200 [some (.ref 0), some (.ref 57), some (.long x2), none, some (.int x4), some (.int x5), some (.int x6), some (.int x7), some (.int x8), some (.int 0), some (.int x10), some (.int x11), some (.int (x12 + 1))] [] I4 J4) ∧ (¬ (v4 < 0) → Wp d Lw_opened Q 200 [some (.ref 0), some (.ref 57), some (.long x2), none, some (.int x4), some (.int x5), some (.int x6), some (.int x7), some (.int x8), some (.int 1), some (.int x10), some (.int x11), some (.int (x12 + 1))] [] I4 J4))) ∧ (¬ (v3 = (-4)) → CI d Sb_opens [.ref 0, .int (-1)] I3 J3 (fun v4 I4 J4 => (v4 < (x4 - x10) → Wp d Lw_opened Q 200 [some (.ref 0), some (.ref 57), some (.long x2), none, some (.int x4), some (.int x5), some (.int x6), some (.int x7), some (.int x8), some (.int 0), some (.int x10), some (.int x11), some (.int (x12 + 1))] [] I4 J4) ∧ (¬ (v4 < (x4 - x10)) → CI d Sb_undo [.ref 0] I4 J4 (fun v5 I5 J5 => (v5 < 0 → Wp d Lw_opened Q 200 [some (.ref 0), some (.ref 57), some (.long x2), none, some (.int x4), some (.int x5), some (.int x6), some (.int x7), some (.int x8), some (.int 0), some (.int x10), some (.int x11), some (.int (x12 + 1))] [] I5 J5) ∧ (¬ (v5 < 0) → Wp d Lw_opened Q 200 [some (.ref 0), some (.ref 57), some (.long x2), none, some (.int x4), some (.int x5), some (.int x6), some (.int x7), some (.int x8), some (.int 1), some (.int x10), some (.int x11), some (.int (x12 + 1))] [] I5 J5))))))))) ∧ (¬ (v1 = 1) → Wp d Lw_opened Q 200 [some (.ref 0), some (.ref 57), some (.long x2), none, some (.int x4), some (.int x5), some (.int x6), some (.int x7), some (.int x8), some (.int x9), some (.int x10), some (.int x11), some (.int (x12 + 1))] [] I1 J1)))) ∧ (¬ (x12 < ((2 * (x11 / 10)) + (rmI x11 10))) → (x9 = 0 → Wp d Lw_opened Q 178 [some (.ref 0), some (.ref 57), some (.long x2), none, some (.int x4), some (.int x5), some (.int x6), some (.int x7), some (.int x8), some (.int 0), some (.int (x10 + 1)), none, none] [] I J) ∧ (¬ (x9 = 0) → CI d Sb_count [.ref 0, .int 3] I J (fun v1 I1 J1 => (v1 = 0 → CI d Sb_slide [.ref 0, .int (x11 / 10), .int (rmI x11 10)] I1 J1 (fun v2 I2 J2 => (v2 < 0 → Wp d Lw_opened Q 178 [some (.ref 0), some (.ref 57), some (.long x2), none, some (.int x4), some (.int x5), some (.int x6), some (.int x7), some (.int x8), some (.int 0), some (.int (x10 + 1)), none, none] [] I2 J2) ∧ (¬ (v2 < 0) → CI d Sb_opens [.ref 0, .int (-1)] I2 J2 (fun v3 I3 J3 => (v3 = ((x4 - 1) - x10) → Wp d Lw_opened Q 178 [some (.ref 0), some (.ref 57), some (.long x2), none, some (.int x4), some (.int x5), some (.int x6), some (.int x7), some (.int x8), some (.int 1), some (.int (x10 + 1)), none, none] [] I3 J3) ∧ (¬ (v3 = ((x4 - 1) - x10)) → Wp d Lw_opened Q 178 [some (.ref 0), some (.ref 57), some (.long x2), none, some (.int x4), some (.int x5), some (.int x6), some (.int x7), some (.int x8), some (.int 0), some (.int (x10 + 1)), none, none] [] I3 J3))))) ∧ (¬ (v1 = 0) → Wp d Lw_opened Q 178 [some (.ref 0), some (.ref 57), some (.long x2), none, some (.int x4), some (.int x5), some (.int x6), some (.int x7), some (.int x8), some (.int 0), some (.int (x10 + 1)), none, none] [] I1 J1))))) : Wp d Lw_opened Q 200 [some (.ref 0), some (.ref 57), some (.long x2), none, some (.int x4), some (.int x5), some (.int x6), some (.int x7), some (.int x8), some (.int x9), some (.int x10), some (.int x11), some (.int x12)] [] I J := by
  refine Wp.steps 10 (pc' := 215) (lv' := [some (.ref 0), some (.ref 57), some (.long x2), none, some (.int x4), some (.int x5), some (.int x6), some (.int x7), some (.int x8), some (.int x9), some (.int x10), some (.int x11), some (.int x12)]) (st' := [.int ((2 * (x11 / 10)) + (rmI x11 10)), .int x12]) (I' := I) (J' := J) rfl ?_
  refine Wp.steps 1 (pc' := if x12 < ((2 * (x11 / 10)) + (rmI x11 10)) then 218 else 299) (lv' := [some (.ref 0), some (.ref 57), some (.long x2), none, some (.int x4), some (.int x5), some (.int x6), some (.int x7), some (.int x8), some (.int x9), some (.int x10), some (.int x11), some (.int x12)]) (st' := []) (I' := I) (J' := J) rfl (Wp.ite (fun h1 => ?_) (fun h1 => ?_))
  · replace h := h.1 h1
    refine Wp.steps 1 (pc' := 220) (lv' := [some (.ref 0), some (.ref 57), some (.long x2), none, some (.int x4), some (.int x5), some (.int x6), some (.int x7), some (.int x8), some (.int x9), some (.int x10), some (.int x11), some (.int x12)]) (st' := [.int x9]) (I' := I) (J' := J) rfl ?_
    refine Wp.steps 1 (pc' := if x9 = 0 then 299 else 223) (lv' := [some (.ref 0), some (.ref 57), some (.long x2), none, some (.int x4), some (.int x5), some (.int x6), some (.int x7), some (.int x8), some (.int x9), some (.int x10), some (.int x11), some (.int x12)]) (st' := []) (I' := I) (J' := J) rfl (Wp.ite (fun h2 => ?_) (fun h2 => ?_))
    · replace h := h.1 h2
      refine Wp.steps 1 (pc' := 301) (lv' := [some (.ref 0), some (.ref 57), some (.long x2), none, some (.int x4), some (.int x5), some (.int x6), some (.int x7), some (.int x8), some (.int x9), some (.int x10), some (.int x11), some (.int x12)]) (st' := [.int x9]) (I' := I) (J' := J) rfl ?_
      refine Wp.steps 1 (pc' := if x9 = 0 then 348 else 304) (lv' := [some (.ref 0), some (.ref 57), some (.long x2), none, some (.int x4), some (.int x5), some (.int x6), some (.int x7), some (.int x8), some (.int x9), some (.int x10), some (.int x11), some (.int x12)]) (st' := []) (I' := I) (J' := J) rfl ?_
      rw [if_pos h2]
      refine Wp.steps 4 (pc' := 178) (lv' := [some (.ref 0), some (.ref 57), some (.long x2), none, some (.int x4), some (.int x5), some (.int x6), some (.int x7), some (.int x8), some (.int 0), some (.int (x10 + 1)), some (.int x11), some (.int x12)]) (st' := []) (I' := I) (J' := J) rfl ?_
      refine Wp.drop [11, 12] (lv' := [some (.ref 0), some (.ref 57), some (.long x2), none, some (.int x4), some (.int x5), some (.int x6), some (.int x7), some (.int x8), some (.int 0), some (.int (x10 + 1)), none, none]) rfl ?_
      exact h
    · replace h := h.2 h2
      refine Wp.steps 9 (pc' := 234) (lv' := [some (.ref 0), some (.ref 57), some (.long x2), none, some (.int x4), some (.int x5), some (.int x6), some (.int x7), some (.int x8), some (.int x9), some (.int x10), some (.int x11), some (.int x12)]) (st' := [.int (3 + (rmI x12 2)), .int (x12 / 2), .ref 0]) (I' := I) (J' := J) rfl ?_
      refine Wp.call (M' := Sb_of) (as := [.ref 0, .int (x12 / 2), .int (3 + (rmI x12 2))]) (rest := []) rfl (CI.use h (fun v1 I1 J1 h => ?_))
      refine Wp.eqs (pc' := 237) (st' := [.int v1]) rfl rfl ?_
      refine Wp.steps 1 (pc' := 238) (lv' := [some (.ref 0), some (.ref 57), some (.long x2), none, some (.int x4), some (.int x5), some (.int x6), some (.int x7), some (.int x8), some (.int x9), some (.int x10), some (.int x11), some (.int x12)]) (st' := [.int 1, .int v1]) (I' := I1) (J' := J1) rfl ?_
      refine Wp.steps 1 (pc' := if v1 = 1 then 241 else 293) (lv' := [some (.ref 0), some (.ref 57), some (.long x2), none, some (.int x4), some (.int x5), some (.int x6), some (.int x7), some (.int x8), some (.int x9), some (.int x10), some (.int x11), some (.int x12)]) (st' := []) (I' := I1) (J' := J1) rfl (Wp.ite (fun h3 => ?_) (fun h3 => ?_))
      · replace h := h.1 h3
        refine Wp.steps 7 (pc' := 250) (lv' := [some (.ref 0), some (.ref 57), some (.long x2), none, some (.int x4), some (.int x5), some (.int x6), some (.int x7), some (.int x8), some (.int x9), some (.int x10), some (.int x11), some (.int x12)]) (st' := [.int (rmI x12 2), .int (x12 / 2), .ref 0]) (I' := I1) (J' := J1) rfl ?_
        refine Wp.call (M' := Sb_slide) (as := [.ref 0, .int (x12 / 2), .int (rmI x12 2)]) (rest := []) rfl (CI.use h (fun v2 I2 J2 h => ?_))
        refine Wp.eqs (pc' := 253) (st' := [.int v2]) rfl rfl ?_
        refine Wp.steps 1 (pc' := if v2 < 0 then 290 else 256) (lv' := [some (.ref 0), some (.ref 57), some (.long x2), none, some (.int x4), some (.int x5), some (.int x6), some (.int x7), some (.int x8), some (.int x9), some (.int x10), some (.int x11), some (.int x12)]) (st' := []) (I' := I2) (J' := J2) rfl (Wp.ite (fun h4 => ?_) (fun h4 => ?_))
        · replace h := h.1 h4
          refine Wp.steps 4 (pc' := 200) (lv' := [some (.ref 0), some (.ref 57), some (.long x2), none, some (.int x4), some (.int x5), some (.int x6), some (.int x7), some (.int x8), some (.int 0), some (.int x10), some (.int x11), some (.int (x12 + 1))]) (st' := []) (I' := I2) (J' := J2) rfl ?_
          exact h
        · replace h := h.2 h4
          refine Wp.steps 2 (pc' := 258) (lv' := [some (.ref 0), some (.ref 57), some (.long x2), none, some (.int x4), some (.int x5), some (.int x6), some (.int x7), some (.int x8), some (.int x9), some (.int x10), some (.int x11), some (.int x12)]) (st' := [.int (-1), .ref 0]) (I' := I2) (J' := J2) rfl ?_
          refine Wp.call (M' := Sb_opens) (as := [.ref 0, .int (-1)]) (rest := []) rfl (CI.use h (fun v3 I3 J3 h => ?_))
          refine Wp.eqs (pc' := 261) (st' := [.int v3]) rfl rfl ?_
          refine Wp.steps 1 (pc' := 263) (lv' := [some (.ref 0), some (.ref 57), some (.long x2), none, some (.int x4), some (.int x5), some (.int x6), some (.int x7), some (.int x8), some (.int x9), some (.int x10), some (.int x11), some (.int x12)]) (st' := [.int (-4), .int v3]) (I' := I3) (J' := J3) rfl ?_
          refine Wp.steps 1 (pc' := if v3 = (-4) then 279 else 266) (lv' := [some (.ref 0), some (.ref 57), some (.long x2), none, some (.int x4), some (.int x5), some (.int x6), some (.int x7), some (.int x8), some (.int x9), some (.int x10), some (.int x11), some (.int x12)]) (st' := []) (I' := I3) (J' := J3) rfl (Wp.ite (fun h5 => ?_) (fun h5 => ?_))
          · replace h := h.1 h5
            refine Wp.steps 1 (pc' := 280) (lv' := [some (.ref 0), some (.ref 57), some (.long x2), none, some (.int x4), some (.int x5), some (.int x6), some (.int x7), some (.int x8), some (.int x9), some (.int x10), some (.int x11), some (.int x12)]) (st' := [.ref 0]) (I' := I3) (J' := J3) rfl ?_
            refine Wp.call (M' := Sb_undo) (as := [.ref 0]) (rest := []) rfl (CI.use h (fun v4 I4 J4 h => ?_))
            refine Wp.eqs (pc' := 283) (st' := [.int v4]) rfl rfl ?_
            refine Wp.steps 1 (pc' := if v4 < 0 then 290 else 286) (lv' := [some (.ref 0), some (.ref 57), some (.long x2), none, some (.int x4), some (.int x5), some (.int x6), some (.int x7), some (.int x8), some (.int x9), some (.int x10), some (.int x11), some (.int x12)]) (st' := []) (I' := I4) (J' := J4) rfl (Wp.ite (fun h6 => ?_) (fun h6 => ?_))
            · replace h := h.1 h6
              refine Wp.steps 4 (pc' := 200) (lv' := [some (.ref 0), some (.ref 57), some (.long x2), none, some (.int x4), some (.int x5), some (.int x6), some (.int x7), some (.int x8), some (.int 0), some (.int x10), some (.int x11), some (.int (x12 + 1))]) (st' := []) (I' := I4) (J' := J4) rfl ?_
              exact h
            · replace h := h.2 h6
              refine Wp.steps 5 (pc' := 200) (lv' := [some (.ref 0), some (.ref 57), some (.long x2), none, some (.int x4), some (.int x5), some (.int x6), some (.int x7), some (.int x8), some (.int 1), some (.int x10), some (.int x11), some (.int (x12 + 1))]) (st' := []) (I' := I4) (J' := J4) rfl ?_
              exact h
          · replace h := h.2 h5
            refine Wp.steps 2 (pc' := 268) (lv' := [some (.ref 0), some (.ref 57), some (.long x2), none, some (.int x4), some (.int x5), some (.int x6), some (.int x7), some (.int x8), some (.int x9), some (.int x10), some (.int x11), some (.int x12)]) (st' := [.int (-1), .ref 0]) (I' := I3) (J' := J3) rfl ?_
            refine Wp.call (M' := Sb_opens) (as := [.ref 0, .int (-1)]) (rest := []) rfl (CI.use h (fun v4 I4 J4 h => ?_))
            refine Wp.eqs (pc' := 271) (st' := [.int v4]) rfl rfl ?_
            refine Wp.steps 3 (pc' := 276) (lv' := [some (.ref 0), some (.ref 57), some (.long x2), none, some (.int x4), some (.int x5), some (.int x6), some (.int x7), some (.int x8), some (.int x9), some (.int x10), some (.int x11), some (.int x12)]) (st' := [.int (x4 - x10), .int v4]) (I' := I4) (J' := J4) rfl ?_
            refine Wp.steps 1 (pc' := if v4 < (x4 - x10) then 290 else 279) (lv' := [some (.ref 0), some (.ref 57), some (.long x2), none, some (.int x4), some (.int x5), some (.int x6), some (.int x7), some (.int x8), some (.int x9), some (.int x10), some (.int x11), some (.int x12)]) (st' := []) (I' := I4) (J' := J4) rfl (Wp.ite (fun h6 => ?_) (fun h6 => ?_))
            · replace h := h.1 h6
              refine Wp.steps 4 (pc' := 200) (lv' := [some (.ref 0), some (.ref 57), some (.long x2), none, some (.int x4), some (.int x5), some (.int x6), some (.int x7), some (.int x8), some (.int 0), some (.int x10), some (.int x11), some (.int (x12 + 1))]) (st' := []) (I' := I4) (J' := J4) rfl ?_
              exact h
            · replace h := h.2 h6
              refine Wp.steps 1 (pc' := 280) (lv' := [some (.ref 0), some (.ref 57), some (.long x2), none, some (.int x4), some (.int x5), some (.int x6), some (.int x7), some (.int x8), some (.int x9), some (.int x10), some (.int x11), some (.int x12)]) (st' := [.ref 0]) (I' := I4) (J' := J4) rfl ?_
              refine Wp.call (M' := Sb_undo) (as := [.ref 0]) (rest := []) rfl (CI.use h (fun v5 I5 J5 h => ?_))
              refine Wp.eqs (pc' := 283) (st' := [.int v5]) rfl rfl ?_
              refine Wp.steps 1 (pc' := if v5 < 0 then 290 else 286) (lv' := [some (.ref 0), some (.ref 57), some (.long x2), none, some (.int x4), some (.int x5), some (.int x6), some (.int x7), some (.int x8), some (.int x9), some (.int x10), some (.int x11), some (.int x12)]) (st' := []) (I' := I5) (J' := J5) rfl (Wp.ite (fun h7 => ?_) (fun h7 => ?_))
              · replace h := h.1 h7
                refine Wp.steps 4 (pc' := 200) (lv' := [some (.ref 0), some (.ref 57), some (.long x2), none, some (.int x4), some (.int x5), some (.int x6), some (.int x7), some (.int x8), some (.int 0), some (.int x10), some (.int x11), some (.int (x12 + 1))]) (st' := []) (I' := I5) (J' := J5) rfl ?_
                exact h
              · replace h := h.2 h7
                refine Wp.steps 5 (pc' := 200) (lv' := [some (.ref 0), some (.ref 57), some (.long x2), none, some (.int x4), some (.int x5), some (.int x6), some (.int x7), some (.int x8), some (.int 1), some (.int x10), some (.int x11), some (.int (x12 + 1))]) (st' := []) (I' := I5) (J' := J5) rfl ?_
                exact h
      · replace h := h.2 h3
        refine Wp.steps 2 (pc' := 200) (lv' := [some (.ref 0), some (.ref 57), some (.long x2), none, some (.int x4), some (.int x5), some (.int x6), some (.int x7), some (.int x8), some (.int x9), some (.int x10), some (.int x11), some (.int (x12 + 1))]) (st' := []) (I' := I1) (J' := J1) rfl ?_
        exact h
  · replace h := h.2 h1
    refine Wp.steps 1 (pc' := 301) (lv' := [some (.ref 0), some (.ref 57), some (.long x2), none, some (.int x4), some (.int x5), some (.int x6), some (.int x7), some (.int x8), some (.int x9), some (.int x10), some (.int x11), some (.int x12)]) (st' := [.int x9]) (I' := I) (J' := J) rfl ?_
    refine Wp.steps 1 (pc' := if x9 = 0 then 348 else 304) (lv' := [some (.ref 0), some (.ref 57), some (.long x2), none, some (.int x4), some (.int x5), some (.int x6), some (.int x7), some (.int x8), some (.int x9), some (.int x10), some (.int x11), some (.int x12)]) (st' := []) (I' := I) (J' := J) rfl (Wp.ite (fun h2 => ?_) (fun h2 => ?_))
    · replace h := h.1 h2
      refine Wp.steps 4 (pc' := 178) (lv' := [some (.ref 0), some (.ref 57), some (.long x2), none, some (.int x4), some (.int x5), some (.int x6), some (.int x7), some (.int x8), some (.int 0), some (.int (x10 + 1)), some (.int x11), some (.int x12)]) (st' := []) (I' := I) (J' := J) rfl ?_
      refine Wp.drop [11, 12] (lv' := [some (.ref 0), some (.ref 57), some (.long x2), none, some (.int x4), some (.int x5), some (.int x6), some (.int x7), some (.int x8), some (.int 0), some (.int (x10 + 1)), none, none]) rfl ?_
      exact h
    · replace h := h.2 h2
      refine Wp.steps 2 (pc' := 306) (lv' := [some (.ref 0), some (.ref 57), some (.long x2), none, some (.int x4), some (.int x5), some (.int x6), some (.int x7), some (.int x8), some (.int x9), some (.int x10), some (.int x11), some (.int x12)]) (st' := [.int 3, .ref 0]) (I' := I) (J' := J) rfl ?_
      refine Wp.call (M' := Sb_count) (as := [.ref 0, .int 3]) (rest := []) rfl (CI.use h (fun v1 I1 J1 h => ?_))
      refine Wp.eqs (pc' := 309) (st' := [.int v1]) rfl rfl ?_
      refine Wp.steps 1 (pc' := if v1 = 0 then 312 else 348) (lv' := [some (.ref 0), some (.ref 57), some (.long x2), none, some (.int x4), some (.int x5), some (.int x6), some (.int x7), some (.int x8), some (.int x9), some (.int x10), some (.int x11), some (.int x12)]) (st' := []) (I' := I1) (J' := J1) rfl (Wp.ite (fun h3 => ?_) (fun h3 => ?_))
      · replace h := h.1 h3
        refine Wp.steps 7 (pc' := 323) (lv' := [some (.ref 0), some (.ref 57), some (.long x2), none, some (.int x4), some (.int x5), some (.int x6), some (.int x7), some (.int x8), some (.int x9), some (.int x10), some (.int x11), some (.int x12)]) (st' := [.int (rmI x11 10), .int (x11 / 10), .ref 0]) (I' := I1) (J' := J1) rfl ?_
        refine Wp.call (M' := Sb_slide) (as := [.ref 0, .int (x11 / 10), .int (rmI x11 10)]) (rest := []) rfl (CI.use h (fun v2 I2 J2 h => ?_))
        refine Wp.eqs (pc' := 326) (st' := [.int v2]) rfl rfl ?_
        refine Wp.steps 1 (pc' := if v2 < 0 then 348 else 329) (lv' := [some (.ref 0), some (.ref 57), some (.long x2), none, some (.int x4), some (.int x5), some (.int x6), some (.int x7), some (.int x8), some (.int x9), some (.int x10), some (.int x11), some (.int x12)]) (st' := []) (I' := I2) (J' := J2) rfl (Wp.ite (fun h4 => ?_) (fun h4 => ?_))
        · replace h := h.1 h4
          refine Wp.steps 4 (pc' := 178) (lv' := [some (.ref 0), some (.ref 57), some (.long x2), none, some (.int x4), some (.int x5), some (.int x6), some (.int x7), some (.int x8), some (.int 0), some (.int (x10 + 1)), some (.int x11), some (.int x12)]) (st' := []) (I' := I2) (J' := J2) rfl ?_
          refine Wp.drop [11, 12] (lv' := [some (.ref 0), some (.ref 57), some (.long x2), none, some (.int x4), some (.int x5), some (.int x6), some (.int x7), some (.int x8), some (.int 0), some (.int (x10 + 1)), none, none]) rfl ?_
          exact h
        · replace h := h.2 h4
          refine Wp.steps 2 (pc' := 331) (lv' := [some (.ref 0), some (.ref 57), some (.long x2), none, some (.int x4), some (.int x5), some (.int x6), some (.int x7), some (.int x8), some (.int x9), some (.int x10), some (.int x11), some (.int x12)]) (st' := [.int (-1), .ref 0]) (I' := I2) (J' := J2) rfl ?_
          refine Wp.call (M' := Sb_opens) (as := [.ref 0, .int (-1)]) (rest := []) rfl (CI.use h (fun v3 I3 J3 h => ?_))
          refine Wp.eqs (pc' := 334) (st' := [.int v3]) rfl rfl ?_
          refine Wp.steps 5 (pc' := 341) (lv' := [some (.ref 0), some (.ref 57), some (.long x2), none, some (.int x4), some (.int x5), some (.int x6), some (.int x7), some (.int x8), some (.int x9), some (.int x10), some (.int x11), some (.int x12)]) (st' := [.int ((x4 - 1) - x10), .int v3]) (I' := I3) (J' := J3) rfl ?_
          refine Wp.steps 1 (pc' := if v3 = ((x4 - 1) - x10) then 344 else 348) (lv' := [some (.ref 0), some (.ref 57), some (.long x2), none, some (.int x4), some (.int x5), some (.int x6), some (.int x7), some (.int x8), some (.int x9), some (.int x10), some (.int x11), some (.int x12)]) (st' := []) (I' := I3) (J' := J3) rfl (Wp.ite (fun h5 => ?_) (fun h5 => ?_))
          · replace h := h.1 h5
            refine Wp.steps 5 (pc' := 178) (lv' := [some (.ref 0), some (.ref 57), some (.long x2), none, some (.int x4), some (.int x5), some (.int x6), some (.int x7), some (.int x8), some (.int 1), some (.int (x10 + 1)), some (.int x11), some (.int x12)]) (st' := []) (I' := I3) (J' := J3) rfl ?_
            refine Wp.drop [11, 12] (lv' := [some (.ref 0), some (.ref 57), some (.long x2), none, some (.int x4), some (.int x5), some (.int x6), some (.int x7), some (.int x8), some (.int 1), some (.int (x10 + 1)), none, none]) rfl ?_
            exact h
          · replace h := h.2 h5
            refine Wp.steps 4 (pc' := 178) (lv' := [some (.ref 0), some (.ref 57), some (.long x2), none, some (.int x4), some (.int x5), some (.int x6), some (.int x7), some (.int x8), some (.int 0), some (.int (x10 + 1)), some (.int x11), some (.int x12)]) (st' := []) (I' := I3) (J' := J3) rfl ?_
            refine Wp.drop [11, 12] (lv' := [some (.ref 0), some (.ref 57), some (.long x2), none, some (.int x4), some (.int x5), some (.int x6), some (.int x7), some (.int x8), some (.int 0), some (.int (x10 + 1)), none, none]) rfl ?_
            exact h
      · replace h := h.2 h3
        refine Wp.steps 4 (pc' := 178) (lv' := [some (.ref 0), some (.ref 57), some (.long x2), none, some (.int x4), some (.int x5), some (.int x6), some (.int x7), some (.int x8), some (.int 0), some (.int (x10 + 1)), some (.int x11), some (.int x12)]) (st' := []) (I' := I1) (J' := J1) rfl ?_
        refine Wp.drop [11, 12] (lv' := [some (.ref 0), some (.ref 57), some (.long x2), none, some (.int x4), some (.int x5), some (.int x6), some (.int x7), some (.int x8), some (.int 0), some (.int (x10 + 1)), none, none]) rfl ?_
        exact h
set_option maxHeartbeats 16000000 in
theorem v_Lw_went_0_100_57_0 {d : Nat} {Q : Post} {I : I2} {J : J2} {x3 : Int64} (h : CI d Sb_sheet [.ref 0, .int 2, .int 0, .int 9] I J (fun v1 I1 J1 => (v1 = 9 → Wp d Lw_went Q 23 [some (.ref 0), some (.ref 100), some (.ref 57), some (.long x3), none, some (.int 1), some (.int 0), none, none] [] I1 J1) ∧ (¬ (v1 = 9) → Wp d Lw_went Q 23 [some (.ref 0), some (.ref 100), some (.ref 57), some (.long x3), none, some (.int 0), some (.int 0), none, none] [] I1 J1))) : Wp d Lw_went Q 0 [some (.ref 0), some (.ref 100), some (.ref 57), some (.long x3), none, none, none, none, none] [] I J := by
  refine Wp.steps 4 (pc' := 5) (lv' := [some (.ref 0), some (.ref 100), some (.ref 57), some (.long x3), none, none, none, none, none]) (st' := [.int 9, .int 0, .int 2, .ref 0]) (I' := I) (J' := J) rfl ?_
  refine Wp.call (M' := Sb_sheet) (as := [.ref 0, .int 2, .int 0, .int 9]) (rest := []) rfl (CI.use h (fun v1 I1 J1 h => ?_))
  refine Wp.eqs (pc' := 8) (st' := [.int v1]) rfl rfl ?_
  refine Wp.steps 1 (pc' := 10) (lv' := [some (.ref 0), some (.ref 100), some (.ref 57), some (.long x3), none, none, none, none, none]) (st' := [.int 9, .int v1]) (I' := I1) (J' := J1) rfl ?_
  refine Wp.steps 1 (pc' := if v1 = 9 then 13 else 17) (lv' := [some (.ref 0), some (.ref 100), some (.ref 57), some (.long x3), none, none, none, none, none]) (st' := []) (I' := I1) (J' := J1) rfl (Wp.ite (fun h1 => ?_) (fun h1 => ?_))
  · replace h := h.1 h1
    refine Wp.steps 5 (pc' := 23) (lv' := [some (.ref 0), some (.ref 100), some (.ref 57), some (.long x3), none, some (.int 1), some (.int 0), none, none]) (st' := []) (I' := I1) (J' := J1) rfl ?_
    exact h
  · replace h := h.2 h1
    refine Wp.steps 4 (pc' := 23) (lv' := [some (.ref 0), some (.ref 100), some (.ref 57), some (.long x3), none, some (.int 0), some (.int 0), none, none]) (st' := []) (I' := I1) (J' := J1) rfl ?_
    exact h
set_option maxHeartbeats 16000000 in
theorem v_Lw_went_0_100_57_23 {d : Nat} {Q : Post} {I : I2} {J : J2} {x3 : Int64} {x5 : Int32} {x6 : Int32} (h : (x6 < (I 57 0) → (x5 = 0 → Wp d Lw_went Q 137 [some (.ref 0), some (.ref 100), some (.ref 57), some (.long x3), none, some (.int 0), some (.int 0), some (.int 0), none] [] I J) ∧ (¬ (x5 = 0) → CI d Lw_cell [.ref 100, .int 11] I J (fun v1 I1 J1 => CI d Sb_of [.ref 0, .int x6, .int 1] I1 J1 (fun v2 I2 J2 => ¬ (v2 + 1) = 0 ∧ (CI d Sb_item [.ref 0, .int 2, .int 0, .int x6, .long (Int32.toInt64 (rmI ((srI v1 (3 * x6)) &&& 7) (v2 + 1)))] I2 J2 (fun v3 I3 J3 => (v3 = 1 → Wp d Lw_went Q 23 [some (.ref 0), some (.ref 100), some (.ref 57), some (.long x3), none, some (.int 1), some (.int (x6 + 1)), none, none] [] I3 J3) ∧ (¬ (v3 = 1) → Wp d Lw_went Q 23 [some (.ref 0), some (.ref 100), some (.ref 57), some (.long x3), none, some (.int 0), some (.int (x6 + 1)), none, none] [] I3 J3))))))) ∧ (¬ (x6 < (I 57 0)) → (x5 = 0 → Wp d Lw_went Q 137 [some (.ref 0), some (.ref 100), some (.ref 57), some (.long x3), none, some (.int 0), some (.int 0), some (.int 0), none] [] I J) ∧ (¬ (x5 = 0) → CI d Sb_to [.ref 0, .int 2, .int 0, .int 0, .int (-1)] I J (fun v1 I1 J1 => (v1 < (-4) → Wp d Lw_went Q 137 [some (.ref 0), some (.ref 100), some (.ref 57), some (.long x3), none, some (.int 0), some (.int v1), some (.int 0), none] [] I1 J1) ∧ (¬ (v1 < (-4)) → CI d Sb_reach [.ref 0, .int 1] I1 J1 (fun v2 I2 J2 => (v2 < v1 → Wp d Lw_went Q 137 [some (.ref 0), some (.ref 100), some (.ref 57), some (.long x3), none, some (.int 0), some (.int v1), some (.int 0), none] [] I2 J2) ∧ (¬ (v2 < v1) → Wp d Lw_went Q 137 [some (.ref 0), some (.ref 100), some (.ref 57), some (.long x3), none, some (.int 1), some (.int v1), some (.int 0), none] [] I2 J2))))))) : Wp d Lw_went Q 23 [some (.ref 0), some (.ref 100), some (.ref 57), some (.long x3), none, some (.int x5), some (.int x6), none, none] [] I J := by
  refine Wp.steps 4 (pc' := 28) (lv' := [some (.ref 0), some (.ref 100), some (.ref 57), some (.long x3), none, some (.int x5), some (.int x6), none, none]) (st' := [.int (I 57 0), .int x6]) (I' := I) (J' := J) rfl ?_
  refine Wp.steps 1 (pc' := if x6 < (I 57 0) then 31 else 86) (lv' := [some (.ref 0), some (.ref 100), some (.ref 57), some (.long x3), none, some (.int x5), some (.int x6), none, none]) (st' := []) (I' := I) (J' := J) rfl (Wp.ite (fun h1 => ?_) (fun h1 => ?_))
  · replace h := h.1 h1
    refine Wp.steps 1 (pc' := 33) (lv' := [some (.ref 0), some (.ref 100), some (.ref 57), some (.long x3), none, some (.int x5), some (.int x6), none, none]) (st' := [.int x5]) (I' := I) (J' := J) rfl ?_
    refine Wp.steps 1 (pc' := if x5 = 0 then 86 else 36) (lv' := [some (.ref 0), some (.ref 100), some (.ref 57), some (.long x3), none, some (.int x5), some (.int x6), none, none]) (st' := []) (I' := I) (J' := J) rfl (Wp.ite (fun h2 => ?_) (fun h2 => ?_))
    · replace h := h.1 h2
      refine Wp.steps 1 (pc' := 88) (lv' := [some (.ref 0), some (.ref 100), some (.ref 57), some (.long x3), none, some (.int x5), some (.int x6), none, none]) (st' := [.int x5]) (I' := I) (J' := J) rfl ?_
      refine Wp.steps 1 (pc' := if x5 = 0 then 102 else 91) (lv' := [some (.ref 0), some (.ref 100), some (.ref 57), some (.long x3), none, some (.int x5), some (.int x6), none, none]) (st' := []) (I' := I) (J' := J) rfl ?_
      rw [if_pos h2]
      refine Wp.steps 3 (pc' := 107) (lv' := [some (.ref 0), some (.ref 100), some (.ref 57), some (.long x3), none, some (.int x5), some (.int 0), none, none]) (st' := [.int x5]) (I' := I) (J' := J) rfl ?_
      refine Wp.steps 1 (pc' := if x5 = 0 then 131 else 110) (lv' := [some (.ref 0), some (.ref 100), some (.ref 57), some (.long x3), none, some (.int x5), some (.int 0), none, none]) (st' := []) (I' := I) (J' := J) rfl ?_
      rw [if_pos h2]
      refine Wp.steps 4 (pc' := 137) (lv' := [some (.ref 0), some (.ref 100), some (.ref 57), some (.long x3), none, some (.int 0), some (.int 0), some (.int 0), none]) (st' := []) (I' := I) (J' := J) rfl ?_
      exact h
    · replace h := h.2 h2
      refine Wp.steps 6 (pc' := 44) (lv' := [some (.ref 0), some (.ref 100), some (.ref 57), some (.long x3), none, some (.int x5), some (.int x6), none, none]) (st' := [.int 11, .ref 100, .int x6, .int 0, .int 2, .ref 0]) (I' := I) (J' := J) rfl ?_
      refine Wp.call (M' := Lw_cell) (as := [.ref 100, .int 11]) (rest := [.int x6, .int 0, .int 2, .ref 0]) rfl (CI.use h (fun v1 I1 J1 h => ?_))
      refine Wp.eqs (pc' := 47) (st' := [.int v1, .int x6, .int 0, .int 2, .ref 0]) rfl rfl ?_
      refine Wp.steps 9 (pc' := 59) (lv' := [some (.ref 0), some (.ref 100), some (.ref 57), some (.long x3), none, some (.int x5), some (.int x6), none, none]) (st' := [.int 1, .int x6, .ref 0, .int ((srI v1 (3 * x6)) &&& 7), .int x6, .int 0, .int 2, .ref 0]) (I' := I1) (J' := J1) rfl ?_
      refine Wp.call (M' := Sb_of) (as := [.ref 0, .int x6, .int 1]) (rest := [.int ((srI v1 (3 * x6)) &&& 7), .int x6, .int 0, .int 2, .ref 0]) rfl (CI.use h (fun v2 I2 J2 h => ?_))
      refine Wp.eqs (pc' := 62) (st' := [.int v2, .int ((srI v1 (3 * x6)) &&& 7), .int x6, .int 0, .int 2, .ref 0]) rfl rfl ?_
      refine Wp.steps 2 (pc' := 64) (lv' := [some (.ref 0), some (.ref 100), some (.ref 57), some (.long x3), none, some (.int x5), some (.int x6), none, none]) (st' := [.int (v2 + 1), .int ((srI v1 (3 * x6)) &&& 7), .int x6, .int 0, .int 2, .ref 0]) (I' := I2) (J' := J2) rfl ?_
      refine Wp.irem rfl h.1 ?_
      replace h := h.2
      refine Wp.steps 1 (pc' := 66) (lv' := [some (.ref 0), some (.ref 100), some (.ref 57), some (.long x3), none, some (.int x5), some (.int x6), none, none]) (st' := [.long (Int32.toInt64 (rmI ((srI v1 (3 * x6)) &&& 7) (v2 + 1))), .int x6, .int 0, .int 2, .ref 0]) (I' := I2) (J' := J2) rfl ?_
      refine Wp.call (M' := Sb_item) (as := [.ref 0, .int 2, .int 0, .int x6, .long (Int32.toInt64 (rmI ((srI v1 (3 * x6)) &&& 7) (v2 + 1)))]) (rest := []) rfl (CI.use h (fun v3 I3 J3 h => ?_))
      refine Wp.eqs (pc' := 69) (st' := [.int v3]) rfl rfl ?_
      refine Wp.steps 1 (pc' := 70) (lv' := [some (.ref 0), some (.ref 100), some (.ref 57), some (.long x3), none, some (.int x5), some (.int x6), none, none]) (st' := [.int 1, .int v3]) (I' := I3) (J' := J3) rfl ?_
      refine Wp.steps 1 (pc' := if v3 = 1 then 73 else 77) (lv' := [some (.ref 0), some (.ref 100), some (.ref 57), some (.long x3), none, some (.int x5), some (.int x6), none, none]) (st' := []) (I' := I3) (J' := J3) rfl (Wp.ite (fun h3 => ?_) (fun h3 => ?_))
      · replace h := h.1 h3
        refine Wp.steps 5 (pc' := 23) (lv' := [some (.ref 0), some (.ref 100), some (.ref 57), some (.long x3), none, some (.int 1), some (.int (x6 + 1)), none, none]) (st' := []) (I' := I3) (J' := J3) rfl ?_
        exact h
      · replace h := h.2 h3
        refine Wp.steps 4 (pc' := 23) (lv' := [some (.ref 0), some (.ref 100), some (.ref 57), some (.long x3), none, some (.int 0), some (.int (x6 + 1)), none, none]) (st' := []) (I' := I3) (J' := J3) rfl ?_
        exact h
  · replace h := h.2 h1
    refine Wp.steps 1 (pc' := 88) (lv' := [some (.ref 0), some (.ref 100), some (.ref 57), some (.long x3), none, some (.int x5), some (.int x6), none, none]) (st' := [.int x5]) (I' := I) (J' := J) rfl ?_
    refine Wp.steps 1 (pc' := if x5 = 0 then 102 else 91) (lv' := [some (.ref 0), some (.ref 100), some (.ref 57), some (.long x3), none, some (.int x5), some (.int x6), none, none]) (st' := []) (I' := I) (J' := J) rfl (Wp.ite (fun h2 => ?_) (fun h2 => ?_))
    · replace h := h.1 h2
      refine Wp.steps 3 (pc' := 107) (lv' := [some (.ref 0), some (.ref 100), some (.ref 57), some (.long x3), none, some (.int x5), some (.int 0), none, none]) (st' := [.int x5]) (I' := I) (J' := J) rfl ?_
      refine Wp.steps 1 (pc' := if x5 = 0 then 131 else 110) (lv' := [some (.ref 0), some (.ref 100), some (.ref 57), some (.long x3), none, some (.int x5), some (.int 0), none, none]) (st' := []) (I' := I) (J' := J) rfl ?_
      rw [if_pos h2]
      refine Wp.steps 4 (pc' := 137) (lv' := [some (.ref 0), some (.ref 100), some (.ref 57), some (.long x3), none, some (.int 0), some (.int 0), some (.int 0), none]) (st' := []) (I' := I) (J' := J) rfl ?_
      exact h
    · replace h := h.2 h2
      refine Wp.steps 5 (pc' := 96) (lv' := [some (.ref 0), some (.ref 100), some (.ref 57), some (.long x3), none, some (.int x5), some (.int x6), none, none]) (st' := [.int (-1), .int 0, .int 0, .int 2, .ref 0]) (I' := I) (J' := J) rfl ?_
      refine Wp.call (M' := Sb_to) (as := [.ref 0, .int 2, .int 0, .int 0, .int (-1)]) (rest := []) rfl (CI.use h (fun v1 I1 J1 h => ?_))
      refine Wp.eqs (pc' := 99) (st' := [.int v1]) rfl rfl ?_
      refine Wp.steps 3 (pc' := 107) (lv' := [some (.ref 0), some (.ref 100), some (.ref 57), some (.long x3), none, some (.int x5), some (.int v1), none, none]) (st' := [.int x5]) (I' := I1) (J' := J1) rfl ?_
      refine Wp.steps 1 (pc' := if x5 = 0 then 131 else 110) (lv' := [some (.ref 0), some (.ref 100), some (.ref 57), some (.long x3), none, some (.int x5), some (.int v1), none, none]) (st' := []) (I' := I1) (J' := J1) rfl ?_
      rw [if_neg h2]
      refine Wp.steps 2 (pc' := 114) (lv' := [some (.ref 0), some (.ref 100), some (.ref 57), some (.long x3), none, some (.int x5), some (.int v1), none, none]) (st' := [.int (-4), .int v1]) (I' := I1) (J' := J1) rfl ?_
      refine Wp.steps 1 (pc' := if v1 < (-4) then 131 else 117) (lv' := [some (.ref 0), some (.ref 100), some (.ref 57), some (.long x3), none, some (.int x5), some (.int v1), none, none]) (st' := []) (I' := I1) (J' := J1) rfl (Wp.ite (fun h3 => ?_) (fun h3 => ?_))
      · replace h := h.1 h3
        refine Wp.steps 4 (pc' := 137) (lv' := [some (.ref 0), some (.ref 100), some (.ref 57), some (.long x3), none, some (.int 0), some (.int v1), some (.int 0), none]) (st' := []) (I' := I1) (J' := J1) rfl ?_
        exact h
      · replace h := h.2 h3
        refine Wp.steps 3 (pc' := 121) (lv' := [some (.ref 0), some (.ref 100), some (.ref 57), some (.long x3), none, some (.int x5), some (.int v1), none, none]) (st' := [.int 1, .ref 0, .int v1]) (I' := I1) (J' := J1) rfl ?_
        refine Wp.call (M' := Sb_reach) (as := [.ref 0, .int 1]) (rest := [.int v1]) rfl (CI.use h (fun v2 I2 J2 h => ?_))
        refine Wp.eqs (pc' := 124) (st' := [.int v2, .int v1]) rfl rfl ?_
        refine Wp.steps 1 (pc' := if v2 < v1 then 131 else 127) (lv' := [some (.ref 0), some (.ref 100), some (.ref 57), some (.long x3), none, some (.int x5), some (.int v1), none, none]) (st' := []) (I' := I2) (J' := J2) rfl (Wp.ite (fun h4 => ?_) (fun h4 => ?_))
        · replace h := h.1 h4
          refine Wp.steps 4 (pc' := 137) (lv' := [some (.ref 0), some (.ref 100), some (.ref 57), some (.long x3), none, some (.int 0), some (.int v1), some (.int 0), none]) (st' := []) (I' := I2) (J' := J2) rfl ?_
          exact h
        · replace h := h.2 h4
          refine Wp.steps 5 (pc' := 137) (lv' := [some (.ref 0), some (.ref 100), some (.ref 57), some (.long x3), none, some (.int 1), some (.int v1), some (.int 0), none]) (st' := []) (I' := I2) (J' := J2) rfl ?_
          exact h
set_option maxHeartbeats 16000000 in
theorem v_Lw_went_0_100_57_137 {d : Nat} {Q : Post} {I : I2} {J : J2} {x3 : Int64} {x5 : Int32} {x6 : Int32} {x7 : Int32} (h : (x7 < x6 → (x5 = 0 → Wp d Lw_went Q 261 [some (.ref 0), some (.ref 100), some (.ref 57), some (.long x3), none, some (.int x5), some (.int x6), some (.int x7), none] [] I J) ∧ (¬ (x5 = 0) → CI d Sb_to [.ref 0, .int 2, .int 0, .int 0, .int 0] I J (fun v1 I1 J1 => (v1 < 0 → Wp d Lw_went Q 204 [some (.ref 0), some (.ref 100), some (.ref 57), some (.long x3), none, some (.int x5), some (.int x6), some (.int x7), some (.int v1)] [.int 0] I1 J1) ∧ (¬ (v1 < 0) → CI d Sb_slide [.ref 0, .int (v1 / 10), .int (rmI v1 10)] I1 J1 (fun v2 I2 J2 => (v2 < 0 → Wp d Lw_went Q 204 [some (.ref 0), some (.ref 100), some (.ref 57), some (.long x3), none, some (.int x5), some (.int x6), some (.int x7), some (.int v1)] [.int 0] I2 J2) ∧ (¬ (v2 < 0) → CI d Sb_to [.ref 0, .int 2, .int 0, .int 0, .int (-1)] I2 J2 (fun v3 I3 J3 => (v3 = ((x6 - 1) - x7) → Wp d Lw_went Q 204 [some (.ref 0), some (.ref 100), some (.ref 57), some (.long x3), none, some (.int x5), some (.int x6), some (.int x7), some (.int v1)] [.int 1] I3 J3) ∧ (¬ (v3 = ((x6 - 1) - x7)) → Wp d Lw_went Q 204 [some (.ref 0), some (.ref 100), some (.ref 57), some (.long x3), none, some (.int x5), some (.int x6), some (.int x7), some (.int v1)] [.int 0] I3 J3)))))))) ∧ (¬ (x7 < x6) → (x5 = 0 → Wp d Lw_went Q 261 [some (.ref 0), some (.ref 100), some (.ref 57), some (.long x3), none, some (.int x5), some (.int x6), some (.int x7), none] [] I J) ∧ (¬ (x5 = 0) → (x6 < 0 → CI d Sb_restore [.ref 0] I J (fun v1 I1 J1 => (v1 = 1 → CI d Sb_drop [.ref 0, .int 2] I1 J1 (fun v2 I2 J2 => (v2 = 9 → CL d Lw_hash [.ref 0, .ref 57] I2 J2 (fun v3 I3 J3 => ((lg_cmp v3 x3) = 0 → Q (some (.int 1)) I3 J3) ∧ (¬ ((lg_cmp v3 x3) = 0) → Q (some (.int 0)) I3 J3))) ∧ (¬ (v2 = 9) → Q (some (.int 0)) I2 J2))) ∧ (¬ (v1 = 1) → Q (some (.int 0)) I1 J1))) ∧ (¬ (x6 < 0) → CI d Sb_film [.ref 0, .int 2, .int 0, .int 5] I J (fun v1 I1 J1 => (v1 = (I1 57 0) → CI d Sb_to [.ref 0, .int 2, .int 0, .int 5, .int (-1)] I1 J1 (fun v2 I2 J2 => (v2 = 0 → CI d Sb_to [.ref 0, .int 2, .int 0, .int 0, .int (-1)] I2 J2 (fun v3 I3 J3 => (v3 = 0 → CI d Sb_restore [.ref 0] I3 J3 (fun v4 I4 J4 => (v4 = 1 → CI d Sb_drop [.ref 0, .int 2] I4 J4 (fun v5 I5 J5 => (v5 = 9 → CL d Lw_hash [.ref 0, .ref 57] I5 J5 (fun v6 I6 J6 => ((lg_cmp v6 x3) = 0 → Q (some (.int 1)) I6 J6) ∧ (¬ ((lg_cmp v6 x3) = 0) → Q (some (.int 0)) I6 J6))) ∧ (¬ (v5 = 9) → Q (some (.int 0)) I5 J5))) ∧ (¬ (v4 = 1) → Q (some (.int 0)) I4 J4))) ∧ (¬ (v3 = 0) → Wp d Lw_went Q 261 [some (.ref 0), some (.ref 100), some (.ref 57), some (.long x3), none, some (.int x5), some (.int x6), some (.int x7), none] [] I3 J3))) ∧ (¬ (v2 = 0) → Wp d Lw_went Q 261 [some (.ref 0), some (.ref 100), some (.ref 57), some (.long x3), none, some (.int x5), some (.int x6), some (.int x7), none] [] I2 J2))) ∧ (¬ (v1 = (I1 57 0)) → Wp d Lw_went Q 261 [some (.ref 0), some (.ref 100), some (.ref 57), some (.long x3), none, some (.int x5), some (.int x6), some (.int x7), none] [] I1 J1)))))) : Wp d Lw_went Q 137 [some (.ref 0), some (.ref 100), some (.ref 57), some (.long x3), none, some (.int x5), some (.int x6), some (.int x7), none] [] I J := by
  refine Wp.steps 2 (pc' := 141) (lv' := [some (.ref 0), some (.ref 100), some (.ref 57), some (.long x3), none, some (.int x5), some (.int x6), some (.int x7), none]) (st' := [.int x6, .int x7]) (I' := I) (J' := J) rfl ?_
  refine Wp.steps 1 (pc' := if x7 < x6 then 144 else 212) (lv' := [some (.ref 0), some (.ref 100), some (.ref 57), some (.long x3), none, some (.int x5), some (.int x6), some (.int x7), none]) (st' := []) (I' := I) (J' := J) rfl (Wp.ite (fun h1 => ?_) (fun h1 => ?_))
  · replace h := h.1 h1
    refine Wp.steps 1 (pc' := 146) (lv' := [some (.ref 0), some (.ref 100), some (.ref 57), some (.long x3), none, some (.int x5), some (.int x6), some (.int x7), none]) (st' := [.int x5]) (I' := I) (J' := J) rfl ?_
    refine Wp.steps 1 (pc' := if x5 = 0 then 212 else 149) (lv' := [some (.ref 0), some (.ref 100), some (.ref 57), some (.long x3), none, some (.int x5), some (.int x6), some (.int x7), none]) (st' := []) (I' := I) (J' := J) rfl (Wp.ite (fun h2 => ?_) (fun h2 => ?_))
    · replace h := h.1 h2
      refine Wp.steps 1 (pc' := 214) (lv' := [some (.ref 0), some (.ref 100), some (.ref 57), some (.long x3), none, some (.int x5), some (.int x6), some (.int x7), none]) (st' := [.int x5]) (I' := I) (J' := J) rfl ?_
      refine Wp.steps 1 (pc' := if x5 = 0 then 261 else 217) (lv' := [some (.ref 0), some (.ref 100), some (.ref 57), some (.long x3), none, some (.int x5), some (.int x6), some (.int x7), none]) (st' := []) (I' := I) (J' := J) rfl ?_
      rw [if_pos h2]
      exact h
    · replace h := h.2 h2
      refine Wp.steps 5 (pc' := 154) (lv' := [some (.ref 0), some (.ref 100), some (.ref 57), some (.long x3), none, some (.int x5), some (.int x6), some (.int x7), none]) (st' := [.int 0, .int 0, .int 0, .int 2, .ref 0]) (I' := I) (J' := J) rfl ?_
      refine Wp.call (M' := Sb_to) (as := [.ref 0, .int 2, .int 0, .int 0, .int 0]) (rest := []) rfl (CI.use h (fun v1 I1 J1 h => ?_))
      refine Wp.eqs (pc' := 157) (st' := [.int v1]) rfl rfl ?_
      refine Wp.steps 2 (pc' := 161) (lv' := [some (.ref 0), some (.ref 100), some (.ref 57), some (.long x3), none, some (.int x5), some (.int x6), some (.int x7), some (.int v1)]) (st' := [.int v1]) (I' := I1) (J' := J1) rfl ?_
      refine Wp.steps 1 (pc' := if v1 < 0 then 203 else 164) (lv' := [some (.ref 0), some (.ref 100), some (.ref 57), some (.long x3), none, some (.int x5), some (.int x6), some (.int x7), some (.int v1)]) (st' := []) (I' := I1) (J' := J1) rfl (Wp.ite (fun h3 => ?_) (fun h3 => ?_))
      · replace h := h.1 h3
        refine Wp.steps 1 (pc' := 204) (lv' := [some (.ref 0), some (.ref 100), some (.ref 57), some (.long x3), none, some (.int x5), some (.int x6), some (.int x7), some (.int v1)]) (st' := [.int 0]) (I' := I1) (J' := J1) rfl ?_
        exact h
      · replace h := h.2 h3
        refine Wp.steps 7 (pc' := 175) (lv' := [some (.ref 0), some (.ref 100), some (.ref 57), some (.long x3), none, some (.int x5), some (.int x6), some (.int x7), some (.int v1)]) (st' := [.int (rmI v1 10), .int (v1 / 10), .ref 0]) (I' := I1) (J' := J1) rfl ?_
        refine Wp.call (M' := Sb_slide) (as := [.ref 0, .int (v1 / 10), .int (rmI v1 10)]) (rest := []) rfl (CI.use h (fun v2 I2 J2 h => ?_))
        refine Wp.eqs (pc' := 178) (st' := [.int v2]) rfl rfl ?_
        refine Wp.steps 1 (pc' := if v2 < 0 then 203 else 181) (lv' := [some (.ref 0), some (.ref 100), some (.ref 57), some (.long x3), none, some (.int x5), some (.int x6), some (.int x7), some (.int v1)]) (st' := []) (I' := I2) (J' := J2) rfl (Wp.ite (fun h4 => ?_) (fun h4 => ?_))
        · replace h := h.1 h4
          refine Wp.steps 1 (pc' := 204) (lv' := [some (.ref 0), some (.ref 100), some (.ref 57), some (.long x3), none, some (.int x5), some (.int x6), some (.int x7), some (.int v1)]) (st' := [.int 0]) (I' := I2) (J' := J2) rfl ?_
          exact h
        · replace h := h.2 h4
          refine Wp.steps 5 (pc' := 186) (lv' := [some (.ref 0), some (.ref 100), some (.ref 57), some (.long x3), none, some (.int x5), some (.int x6), some (.int x7), some (.int v1)]) (st' := [.int (-1), .int 0, .int 0, .int 2, .ref 0]) (I' := I2) (J' := J2) rfl ?_
          refine Wp.call (M' := Sb_to) (as := [.ref 0, .int 2, .int 0, .int 0, .int (-1)]) (rest := []) rfl (CI.use h (fun v3 I3 J3 h => ?_))
          refine Wp.eqs (pc' := 189) (st' := [.int v3]) rfl rfl ?_
          refine Wp.steps 5 (pc' := 196) (lv' := [some (.ref 0), some (.ref 100), some (.ref 57), some (.long x3), none, some (.int x5), some (.int x6), some (.int x7), some (.int v1)]) (st' := [.int ((x6 - 1) - x7), .int v3]) (I' := I3) (J' := J3) rfl ?_
          refine Wp.steps 1 (pc' := if v3 = ((x6 - 1) - x7) then 199 else 203) (lv' := [some (.ref 0), some (.ref 100), some (.ref 57), some (.long x3), none, some (.int x5), some (.int x6), some (.int x7), some (.int v1)]) (st' := []) (I' := I3) (J' := J3) rfl (Wp.ite (fun h5 => ?_) (fun h5 => ?_))
          · replace h := h.1 h5
            refine Wp.steps 2 (pc' := 204) (lv' := [some (.ref 0), some (.ref 100), some (.ref 57), some (.long x3), none, some (.int x5), some (.int x6), some (.int x7), some (.int v1)]) (st' := [.int 1]) (I' := I3) (J' := J3) rfl ?_
            exact h
          · replace h := h.2 h5
            refine Wp.steps 1 (pc' := 204) (lv' := [some (.ref 0), some (.ref 100), some (.ref 57), some (.long x3), none, some (.int x5), some (.int x6), some (.int x7), some (.int v1)]) (st' := [.int 0]) (I' := I3) (J' := J3) rfl ?_
            exact h
  · replace h := h.2 h1
    refine Wp.steps 1 (pc' := 214) (lv' := [some (.ref 0), some (.ref 100), some (.ref 57), some (.long x3), none, some (.int x5), some (.int x6), some (.int x7), none]) (st' := [.int x5]) (I' := I) (J' := J) rfl ?_
    refine Wp.steps 1 (pc' := if x5 = 0 then 261 else 217) (lv' := [some (.ref 0), some (.ref 100), some (.ref 57), some (.long x3), none, some (.int x5), some (.int x6), some (.int x7), none]) (st' := []) (I' := I) (J' := J) rfl (Wp.ite (fun h2 => ?_) (fun h2 => ?_))
    · replace h := h.1 h2
      exact h
    · replace h := h.2 h2
      refine Wp.steps 1 (pc' := 219) (lv' := [some (.ref 0), some (.ref 100), some (.ref 57), some (.long x3), none, some (.int x5), some (.int x6), some (.int x7), none]) (st' := [.int x6]) (I' := I) (J' := J) rfl ?_
      refine Wp.steps 1 (pc' := if x6 < 0 then 257 else 222) (lv' := [some (.ref 0), some (.ref 100), some (.ref 57), some (.long x3), none, some (.int x5), some (.int x6), some (.int x7), none]) (st' := []) (I' := I) (J' := J) rfl (Wp.ite (fun h3 => ?_) (fun h3 => ?_))
      · replace h := h.1 h3
        refine Wp.steps 6 (pc' := 270) (lv' := [some (.ref 0), some (.ref 100), some (.ref 57), some (.long x3), none, some (.int 1), some (.int x6), some (.int x7), none]) (st' := [.ref 0]) (I' := I) (J' := J) rfl ?_
        refine Wp.call (M' := Sb_restore) (as := [.ref 0]) (rest := []) rfl (CI.use h (fun v1 I1 J1 h => ?_))
        refine Wp.eqs (pc' := 273) (st' := [.int v1]) rfl rfl ?_
        refine Wp.steps 1 (pc' := 274) (lv' := [some (.ref 0), some (.ref 100), some (.ref 57), some (.long x3), none, some (.int 1), some (.int x6), some (.int x7), none]) (st' := [.int 1, .int v1]) (I' := I1) (J' := J1) rfl ?_
        refine Wp.steps 1 (pc' := if v1 = 1 then 277 else 301) (lv' := [some (.ref 0), some (.ref 100), some (.ref 57), some (.long x3), none, some (.int 1), some (.int x6), some (.int x7), none]) (st' := []) (I' := I1) (J' := J1) rfl (Wp.ite (fun h4 => ?_) (fun h4 => ?_))
        · replace h := h.1 h4
          refine Wp.steps 2 (pc' := 279) (lv' := [some (.ref 0), some (.ref 100), some (.ref 57), some (.long x3), none, some (.int 1), some (.int x6), some (.int x7), none]) (st' := [.int 2, .ref 0]) (I' := I1) (J' := J1) rfl ?_
          refine Wp.call (M' := Sb_drop) (as := [.ref 0, .int 2]) (rest := []) rfl (CI.use h (fun v2 I2 J2 h => ?_))
          refine Wp.eqs (pc' := 282) (st' := [.int v2]) rfl rfl ?_
          refine Wp.steps 1 (pc' := 284) (lv' := [some (.ref 0), some (.ref 100), some (.ref 57), some (.long x3), none, some (.int 1), some (.int x6), some (.int x7), none]) (st' := [.int 9, .int v2]) (I' := I2) (J' := J2) rfl ?_
          refine Wp.steps 1 (pc' := if v2 = 9 then 287 else 301) (lv' := [some (.ref 0), some (.ref 100), some (.ref 57), some (.long x3), none, some (.int 1), some (.int x6), some (.int x7), none]) (st' := []) (I' := I2) (J' := J2) rfl (Wp.ite (fun h5 => ?_) (fun h5 => ?_))
          · replace h := h.1 h5
            refine Wp.steps 2 (pc' := 289) (lv' := [some (.ref 0), some (.ref 100), some (.ref 57), some (.long x3), none, some (.int 1), some (.int x6), some (.int x7), none]) (st' := [.ref 57, .ref 0]) (I' := I2) (J' := J2) rfl ?_
            refine Wp.call (M' := Lw_hash) (as := [.ref 0, .ref 57]) (rest := []) rfl (CL.use h (fun v3 I3 J3 h => ?_))
            refine Wp.eqs (pc' := 292) (st' := [.long v3]) rfl rfl ?_
            refine Wp.steps 2 (pc' := 294) (lv' := [some (.ref 0), some (.ref 100), some (.ref 57), some (.long x3), none, some (.int 1), some (.int x6), some (.int x7), none]) (st' := [.int (lg_cmp v3 x3)]) (I' := I3) (J' := J3) rfl ?_
            refine Wp.steps 1 (pc' := if (lg_cmp v3 x3) = 0 then 297 else 301) (lv' := [some (.ref 0), some (.ref 100), some (.ref 57), some (.long x3), none, some (.int 1), some (.int x6), some (.int x7), none]) (st' := []) (I' := I3) (J' := J3) rfl (Wp.ite (fun h6 => ?_) (fun h6 => ?_))
            · replace h := h.1 h6
              refine Wp.steps 2 (pc' := 302) (lv' := [some (.ref 0), some (.ref 100), some (.ref 57), some (.long x3), none, some (.int 1), some (.int x6), some (.int x7), none]) (st' := [.int 1]) (I' := I3) (J' := J3) rfl ?_
              exact Wp.ret rfl h
            · replace h := h.2 h6
              refine Wp.steps 1 (pc' := 302) (lv' := [some (.ref 0), some (.ref 100), some (.ref 57), some (.long x3), none, some (.int 1), some (.int x6), some (.int x7), none]) (st' := [.int 0]) (I' := I3) (J' := J3) rfl ?_
              exact Wp.ret rfl h
          · replace h := h.2 h5
            refine Wp.steps 1 (pc' := 302) (lv' := [some (.ref 0), some (.ref 100), some (.ref 57), some (.long x3), none, some (.int 1), some (.int x6), some (.int x7), none]) (st' := [.int 0]) (I' := I2) (J' := J2) rfl ?_
            exact Wp.ret rfl h
        · replace h := h.2 h4
          refine Wp.steps 1 (pc' := 302) (lv' := [some (.ref 0), some (.ref 100), some (.ref 57), some (.long x3), none, some (.int 1), some (.int x6), some (.int x7), none]) (st' := [.int 0]) (I' := I1) (J' := J1) rfl ?_
          exact Wp.ret rfl h
      · replace h := h.2 h3
        refine Wp.steps 4 (pc' := 226) (lv' := [some (.ref 0), some (.ref 100), some (.ref 57), some (.long x3), none, some (.int x5), some (.int x6), some (.int x7), none]) (st' := [.int 5, .int 0, .int 2, .ref 0]) (I' := I) (J' := J) rfl ?_
        refine Wp.call (M' := Sb_film) (as := [.ref 0, .int 2, .int 0, .int 5]) (rest := []) rfl (CI.use h (fun v1 I1 J1 h => ?_))
        refine Wp.eqs (pc' := 229) (st' := [.int v1]) rfl rfl ?_
        refine Wp.steps 3 (pc' := 232) (lv' := [some (.ref 0), some (.ref 100), some (.ref 57), some (.long x3), none, some (.int x5), some (.int x6), some (.int x7), none]) (st' := [.int (I1 57 0), .int v1]) (I' := I1) (J' := J1) rfl ?_
        refine Wp.steps 1 (pc' := if v1 = (I1 57 0) then 235 else 261) (lv' := [some (.ref 0), some (.ref 100), some (.ref 57), some (.long x3), none, some (.int x5), some (.int x6), some (.int x7), none]) (st' := []) (I' := I1) (J' := J1) rfl (Wp.ite (fun h4 => ?_) (fun h4 => ?_))
        · replace h := h.1 h4
          refine Wp.steps 5 (pc' := 240) (lv' := [some (.ref 0), some (.ref 100), some (.ref 57), some (.long x3), none, some (.int x5), some (.int x6), some (.int x7), none]) (st' := [.int (-1), .int 5, .int 0, .int 2, .ref 0]) (I' := I1) (J' := J1) rfl ?_
          refine Wp.call (M' := Sb_to) (as := [.ref 0, .int 2, .int 0, .int 5, .int (-1)]) (rest := []) rfl (CI.use h (fun v2 I2 J2 h => ?_))
          refine Wp.eqs (pc' := 243) (st' := [.int v2]) rfl rfl ?_
          refine Wp.steps 1 (pc' := if v2 = 0 then 246 else 261) (lv' := [some (.ref 0), some (.ref 100), some (.ref 57), some (.long x3), none, some (.int x5), some (.int x6), some (.int x7), none]) (st' := []) (I' := I2) (J' := J2) rfl (Wp.ite (fun h5 => ?_) (fun h5 => ?_))
          · replace h := h.1 h5
            refine Wp.steps 5 (pc' := 251) (lv' := [some (.ref 0), some (.ref 100), some (.ref 57), some (.long x3), none, some (.int x5), some (.int x6), some (.int x7), none]) (st' := [.int (-1), .int 0, .int 0, .int 2, .ref 0]) (I' := I2) (J' := J2) rfl ?_
            refine Wp.call (M' := Sb_to) (as := [.ref 0, .int 2, .int 0, .int 0, .int (-1)]) (rest := []) rfl (CI.use h (fun v3 I3 J3 h => ?_))
            refine Wp.eqs (pc' := 254) (st' := [.int v3]) rfl rfl ?_
            refine Wp.steps 1 (pc' := if v3 = 0 then 257 else 261) (lv' := [some (.ref 0), some (.ref 100), some (.ref 57), some (.long x3), none, some (.int x5), some (.int x6), some (.int x7), none]) (st' := []) (I' := I3) (J' := J3) rfl (Wp.ite (fun h6 => ?_) (fun h6 => ?_))
            · replace h := h.1 h6
              refine Wp.steps 6 (pc' := 270) (lv' := [some (.ref 0), some (.ref 100), some (.ref 57), some (.long x3), none, some (.int 1), some (.int x6), some (.int x7), none]) (st' := [.ref 0]) (I' := I3) (J' := J3) rfl ?_
              refine Wp.call (M' := Sb_restore) (as := [.ref 0]) (rest := []) rfl (CI.use h (fun v4 I4 J4 h => ?_))
              refine Wp.eqs (pc' := 273) (st' := [.int v4]) rfl rfl ?_
              refine Wp.steps 1 (pc' := 274) (lv' := [some (.ref 0), some (.ref 100), some (.ref 57), some (.long x3), none, some (.int 1), some (.int x6), some (.int x7), none]) (st' := [.int 1, .int v4]) (I' := I4) (J' := J4) rfl ?_
              refine Wp.steps 1 (pc' := if v4 = 1 then 277 else 301) (lv' := [some (.ref 0), some (.ref 100), some (.ref 57), some (.long x3), none, some (.int 1), some (.int x6), some (.int x7), none]) (st' := []) (I' := I4) (J' := J4) rfl (Wp.ite (fun h7 => ?_) (fun h7 => ?_))
              · replace h := h.1 h7
                refine Wp.steps 2 (pc' := 279) (lv' := [some (.ref 0), some (.ref 100), some (.ref 57), some (.long x3), none, some (.int 1), some (.int x6), some (.int x7), none]) (st' := [.int 2, .ref 0]) (I' := I4) (J' := J4) rfl ?_
                refine Wp.call (M' := Sb_drop) (as := [.ref 0, .int 2]) (rest := []) rfl (CI.use h (fun v5 I5 J5 h => ?_))
                refine Wp.eqs (pc' := 282) (st' := [.int v5]) rfl rfl ?_
                refine Wp.steps 1 (pc' := 284) (lv' := [some (.ref 0), some (.ref 100), some (.ref 57), some (.long x3), none, some (.int 1), some (.int x6), some (.int x7), none]) (st' := [.int 9, .int v5]) (I' := I5) (J' := J5) rfl ?_
                refine Wp.steps 1 (pc' := if v5 = 9 then 287 else 301) (lv' := [some (.ref 0), some (.ref 100), some (.ref 57), some (.long x3), none, some (.int 1), some (.int x6), some (.int x7), none]) (st' := []) (I' := I5) (J' := J5) rfl (Wp.ite (fun h8 => ?_) (fun h8 => ?_))
                · replace h := h.1 h8
                  refine Wp.steps 2 (pc' := 289) (lv' := [some (.ref 0), some (.ref 100), some (.ref 57), some (.long x3), none, some (.int 1), some (.int x6), some (.int x7), none]) (st' := [.ref 57, .ref 0]) (I' := I5) (J' := J5) rfl ?_
                  refine Wp.call (M' := Lw_hash) (as := [.ref 0, .ref 57]) (rest := []) rfl (CL.use h (fun v6 I6 J6 h => ?_))
                  refine Wp.eqs (pc' := 292) (st' := [.long v6]) rfl rfl ?_
                  refine Wp.steps 2 (pc' := 294) (lv' := [some (.ref 0), some (.ref 100), some (.ref 57), some (.long x3), none, some (.int 1), some (.int x6), some (.int x7), none]) (st' := [.int (lg_cmp v6 x3)]) (I' := I6) (J' := J6) rfl ?_
                  refine Wp.steps 1 (pc' := if (lg_cmp v6 x3) = 0 then 297 else 301) (lv' := [some (.ref 0), some (.ref 100), some (.ref 57), some (.long x3), none, some (.int 1), some (.int x6), some (.int x7), none]) (st' := []) (I' := I6) (J' := J6) rfl (Wp.ite (fun h9 => ?_) (fun h9 => ?_))
                  · replace h := h.1 h9
                    refine Wp.steps 2 (pc' := 302) (lv' := [some (.ref 0), some (.ref 100), some (.ref 57), some (.long x3), none, some (.int 1), some (.int x6), some (.int x7), none]) (st' := [.int 1]) (I' := I6) (J' := J6) rfl ?_
                    exact Wp.ret rfl h
                  · replace h := h.2 h9
                    refine Wp.steps 1 (pc' := 302) (lv' := [some (.ref 0), some (.ref 100), some (.ref 57), some (.long x3), none, some (.int 1), some (.int x6), some (.int x7), none]) (st' := [.int 0]) (I' := I6) (J' := J6) rfl ?_
                    exact Wp.ret rfl h
                · replace h := h.2 h8
                  refine Wp.steps 1 (pc' := 302) (lv' := [some (.ref 0), some (.ref 100), some (.ref 57), some (.long x3), none, some (.int 1), some (.int x6), some (.int x7), none]) (st' := [.int 0]) (I' := I5) (J' := J5) rfl ?_
                  exact Wp.ret rfl h
              · replace h := h.2 h7
                refine Wp.steps 1 (pc' := 302) (lv' := [some (.ref 0), some (.ref 100), some (.ref 57), some (.long x3), none, some (.int 1), some (.int x6), some (.int x7), none]) (st' := [.int 0]) (I' := I4) (J' := J4) rfl ?_
                exact Wp.ret rfl h
            · replace h := h.2 h6
              exact h
          · replace h := h.2 h5
            exact h
        · replace h := h.2 h4
          exact h
set_option maxHeartbeats 16000000 in
theorem v_Lw_went_0_100_57_204 {d : Nat} {Q : Post} {I : I2} {J : J2} {x3 : Int64} {x5 : Int32} {x6 : Int32} {x7 : Int32} {x8 : Int32} {s0 : Int32} (h : Wp d Lw_went Q 137 [some (.ref 0), some (.ref 100), some (.ref 57), some (.long x3), none, some (.int s0), some (.int x6), some (.int (x7 + 1)), none] [] I J) : Wp d Lw_went Q 204 [some (.ref 0), some (.ref 100), some (.ref 57), some (.long x3), none, some (.int x5), some (.int x6), some (.int x7), some (.int x8)] [.int s0] I J := by
  refine Wp.steps 3 (pc' := 137) (lv' := [some (.ref 0), some (.ref 100), some (.ref 57), some (.long x3), none, some (.int s0), some (.int x6), some (.int (x7 + 1)), some (.int x8)]) (st' := []) (I' := I) (J' := J) rfl ?_
  refine Wp.drop [8] (lv' := [some (.ref 0), some (.ref 100), some (.ref 57), some (.long x3), none, some (.int s0), some (.int x6), some (.int (x7 + 1)), none]) rfl ?_
  exact h
set_option maxHeartbeats 16000000 in
theorem v_Lw_went_0_100_57_261 {d : Nat} {Q : Post} {I : I2} {J : J2} {x3 : Int64} {x5 : Int32} {x6 : Int32} {x7 : Int32} (h : Q (some (.int 0)) I J) : Wp d Lw_went Q 261 [some (.ref 0), some (.ref 100), some (.ref 57), some (.long x3), none, some (.int x5), some (.int x6), some (.int x7), none] [] I J := by
  refine Wp.steps 5 (pc' := 302) (lv' := [some (.ref 0), some (.ref 100), some (.ref 57), some (.long x3), none, some (.int 0), some (.int x6), some (.int x7), none]) (st' := [.int 0]) (I' := I) (J' := J) rfl ?_
  exact Wp.ret rfl h
