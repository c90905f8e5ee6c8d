/-! what each way through a method asks (by program): Lw_filed_0_100_57, Lw_played_0_57 -/
set_option maxHeartbeats 16000000 in
theorem v_Lw_filed_0_100_57_0 {d : Nat} {Q : Post} {I : I2} {J : J2} {x3 : Int64} (h : CI d Sb_opens [.ref 0, .int (-1)] I J (fun v1 I1 J1 => CI d Sb_key [.ref 0, .int 0] I1 J1 (fun v2 I2 J2 => CI d Sb_key [.ref 0, .int 1] I2 J2 (fun v3 I3 J3 => (v2 = (-4) → (v3 = (-4) → Wp d Lw_filed Q 83 [some (.ref 0), some (.ref 100), some (.ref 57), some (.long x3), none, some (.int v1), some (.int v2), some (.int v3), some (.int 1), some (.int 0), none, none, none] [] I3 J3) ∧ (¬ (v3 = (-4)) → Wp d Lw_filed Q 83 [some (.ref 0), some (.ref 100), some (.ref 57), some (.long x3), none, some (.int v1), some (.int v2), some (.int v3), some (.int 0), some (.int 0), none, none, none] [] I3 J3)) ∧ (¬ (v2 = (-4)) → (v3 = (-4) → Wp d Lw_filed Q 83 [some (.ref 0), some (.ref 100), some (.ref 57), some (.long x3), none, some (.int v1), some (.int v2), some (.int v3), some (.int 0), some (.int 0), none, none, none] [] I3 J3) ∧ (¬ (v3 = (-4)) → CI d Sb_count [.ref 0, .int 5] I3 J3 (fun v4 I4 J4 => (((srI v4 v2) &&& 1) = 0 → (v3 < 0 → Wp d Lw_filed Q 83 [some (.ref 0), some (.ref 100), some (.ref 57), some (.long x3), none, some (.int v1), some (.int v2), some (.int v3), some (.int 0), some (.int 0), none, none, none] [] I4 J4) ∧ (¬ (v3 < 0) → Wp d Lw_filed Q 83 [some (.ref 0), some (.ref 100), some (.ref 57), some (.long x3), none, some (.int v1), some (.int v2), some (.int v3), some (.int 1), some (.int 0), none, none, none] [] I4 J4)) ∧ (¬ (((srI v4 v2) &&& 1) = 0) → Wp d Lw_filed Q 83 [some (.ref 0), some (.ref 100), some (.ref 57), some (.long x3), none, some (.int v1), some (.int v2), some (.int v3), some (.int 0), some (.int 0), none, none, none] [] I4 J4)))))))) : Wp d Lw_filed Q 0 [some (.ref 0), some (.ref 100), some (.ref 57), some (.long x3), none, none, none, none, none, none, none, none, none] [] I J := by
  refine Wp.steps 2 (pc' := 2) (lv' := [some (.ref 0), some (.ref 100), some (.ref 57), some (.long x3), none, none, none, none, none, none, none, none, none]) (st' := [.int (-1), .ref 0]) (I' := I) (J' := J) rfl ?_
  refine Wp.call (M' := Sb_opens) (as := [.ref 0, .int (-1)]) (rest := []) rfl (CI.use h (fun v1 I1 J1 h => ?_))
  refine Wp.eqs (pc' := 5) (st' := [.int v1]) rfl rfl ?_
  refine Wp.steps 3 (pc' := 9) (lv' := [some (.ref 0), some (.ref 100), some (.ref 57), some (.long x3), none, some (.int v1), none, none, none, none, none, none, none]) (st' := [.int 0, .ref 0]) (I' := I1) (J' := J1) rfl ?_
  refine Wp.call (M' := Sb_key) (as := [.ref 0, .int 0]) (rest := []) rfl (CI.use h (fun v2 I2 J2 h => ?_))
  refine Wp.eqs (pc' := 12) (st' := [.int v2]) rfl rfl ?_
  refine Wp.steps 3 (pc' := 16) (lv' := [some (.ref 0), some (.ref 100), some (.ref 57), some (.long x3), none, some (.int v1), some (.int v2), none, none, none, none, none, none]) (st' := [.int 1, .ref 0]) (I' := I2) (J' := J2) rfl ?_
  refine Wp.call (M' := Sb_key) (as := [.ref 0, .int 1]) (rest := []) rfl (CI.use h (fun v3 I3 J3 h => ?_))
  refine Wp.eqs (pc' := 19) (st' := [.int v3]) rfl rfl ?_
  refine Wp.steps 3 (pc' := 25) (lv' := [some (.ref 0), some (.ref 100), some (.ref 57), some (.long x3), none, some (.int v1), some (.int v2), some (.int v3), none, none, none, none, none]) (st' := [.int (-4), .int v2]) (I' := I3) (J' := J3) rfl ?_
  refine Wp.steps 1 (pc' := if v2 = (-4) then 28 else 32) (lv' := [some (.ref 0), some (.ref 100), some (.ref 57), some (.long x3), none, some (.int v1), some (.int v2), some (.int v3), none, none, none, none, none]) (st' := []) (I' := I3) (J' := J3) rfl (Wp.ite (fun h1 => ?_) (fun h1 => ?_))
  · replace h := h.1 h1
    refine Wp.steps 4 (pc' := 37) (lv' := [some (.ref 0), some (.ref 100), some (.ref 57), some (.long x3), none, some (.int v1), some (.int v2), some (.int v3), none, none, none, none, none]) (st' := [.int (-4), .int v3, .int 1]) (I' := I3) (J' := J3) rfl ?_
    refine Wp.steps 1 (pc' := if v3 = (-4) then 40 else 44) (lv' := [some (.ref 0), some (.ref 100), some (.ref 57), some (.long x3), none, some (.int v1), some (.int v2), some (.int v3), none, none, none, none, none]) (st' := [.int 1]) (I' := I3) (J' := J3) rfl (Wp.ite (fun h2 => ?_) (fun h2 => ?_))
    · replace h := h.1 h2
      refine Wp.steps 5 (pc' := 52) (lv' := [some (.ref 0), some (.ref 100), some (.ref 57), some (.long x3), none, some (.int v1), some (.int v2), some (.int v3), none, none, none, none, none]) (st' := [.int (-4), .int v2]) (I' := I3) (J' := J3) rfl ?_
      refine Wp.steps 1 (pc' := if v2 = (-4) then 73 else 55) (lv' := [some (.ref 0), some (.ref 100), some (.ref 57), some (.long x3), none, some (.int v1), some (.int v2), some (.int v3), none, none, none, none, none]) (st' := []) (I' := I3) (J' := J3) rfl ?_
      rw [if_pos h1]
      refine Wp.steps 5 (pc' := 83) (lv' := [some (.ref 0), some (.ref 100), some (.ref 57), some (.long x3), none, some (.int v1), some (.int v2), some (.int v3), some (.int 1), some (.int 0), none, none, none]) (st' := []) (I' := I3) (J' := J3) rfl ?_
      exact h
    · replace h := h.2 h2
      refine Wp.steps 6 (pc' := 83) (lv' := [some (.ref 0), some (.ref 100), some (.ref 57), some (.long x3), none, some (.int v1), some (.int v2), some (.int v3), some (.int 0), some (.int 0), none, none, none]) (st' := []) (I' := I3) (J' := J3) rfl ?_
      exact h
  · replace h := h.2 h1
    refine Wp.steps 3 (pc' := 37) (lv' := [some (.ref 0), some (.ref 100), some (.ref 57), some (.long x3), none, some (.int v1), some (.int v2), some (.int v3), none, none, none, none, none]) (st' := [.int (-4), .int v3, .int 0]) (I' := I3) (J' := J3) rfl ?_
    refine Wp.steps 1 (pc' := if v3 = (-4) then 40 else 44) (lv' := [some (.ref 0), some (.ref 100), some (.ref 57), some (.long x3), none, some (.int v1), some (.int v2), some (.int v3), none, none, none, none, none]) (st' := [.int 0]) (I' := I3) (J' := J3) rfl (Wp.ite (fun h2 => ?_) (fun h2 => ?_))
    · replace h := h.1 h2
      refine Wp.steps 7 (pc' := 83) (lv' := [some (.ref 0), some (.ref 100), some (.ref 57), some (.long x3), none, some (.int v1), some (.int v2), some (.int v3), some (.int 0), some (.int 0), none, none, none]) (st' := []) (I' := I3) (J' := J3) rfl ?_
      exact h
    · replace h := h.2 h2
      refine Wp.steps 4 (pc' := 52) (lv' := [some (.ref 0), some (.ref 100), some (.ref 57), some (.long x3), none, some (.int v1), some (.int v2), some (.int v3), none, none, none, none, none]) (st' := [.int (-4), .int v2]) (I' := I3) (J' := J3) rfl ?_
      refine Wp.steps 1 (pc' := if v2 = (-4) then 73 else 55) (lv' := [some (.ref 0), some (.ref 100), some (.ref 57), some (.long x3), none, some (.int v1), some (.int v2), some (.int v3), none, none, none, none, none]) (st' := []) (I' := I3) (J' := J3) rfl ?_
      rw [if_neg h1]
      refine Wp.steps 2 (pc' := 57) (lv' := [some (.ref 0), some (.ref 100), some (.ref 57), some (.long x3), none, some (.int v1), some (.int v2), some (.int v3), none, none, none, none, none]) (st' := [.int 5, .ref 0]) (I' := I3) (J' := J3) rfl ?_
      refine Wp.call (M' := Sb_count) (as := [.ref 0, .int 5]) (rest := []) rfl (CI.use h (fun v4 I4 J4 h => ?_))
      refine Wp.eqs (pc' := 60) (st' := [.int v4]) rfl rfl ?_
      refine Wp.steps 4 (pc' := 65) (lv' := [some (.ref 0), some (.ref 100), some (.ref 57), some (.long x3), none, some (.int v1), some (.int v2), some (.int v3), none, none, none, none, none]) (st' := [.int ((srI v4 v2) &&& 1)]) (I' := I4) (J' := J4) rfl ?_
      refine Wp.steps 1 (pc' := if ((srI v4 v2) &&& 1) = 0 then 68 else 77) (lv' := [some (.ref 0), some (.ref 100), some (.ref 57), some (.long x3), none, some (.int v1), some (.int v2), some (.int v3), none, none, none, none, none]) (st' := []) (I' := I4) (J' := J4) rfl (Wp.ite (fun h3 => ?_) (fun h3 => ?_))
      · replace h := h.1 h3
        refine Wp.steps 1 (pc' := 70) (lv' := [some (.ref 0), some (.ref 100), some (.ref 57), some (.long x3), none, some (.int v1), some (.int v2), some (.int v3), none, none, none, none, none]) (st' := [.int v3]) (I' := I4) (J' := J4) rfl ?_
        refine Wp.steps 1 (pc' := if v3 < 0 then 77 else 73) (lv' := [some (.ref 0), some (.ref 100), some (.ref 57), some (.long x3), none, some (.int v1), some (.int v2), some (.int v3), none, none, none, none, none]) (st' := []) (I' := I4) (J' := J4) rfl (Wp.ite (fun h4 => ?_) (fun h4 => ?_))
        · replace h := h.1 h4
          refine Wp.steps 4 (pc' := 83) (lv' := [some (.ref 0), some (.ref 100), some (.ref 57), some (.long x3), none, some (.int v1), some (.int v2), some (.int v3), some (.int 0), some (.int 0), none, none, none]) (st' := []) (I' := I4) (J' := J4) rfl ?_
          exact h
        · replace h := h.2 h4
          refine Wp.steps 5 (pc' := 83) (lv' := [some (.ref 0), some (.ref 100), some (.ref 57), some (.long x3), none, some (.int v1), some (.int v2), some (.int v3), some (.int 1), some (.int 0), none, none, none]) (st' := []) (I' := I4) (J' := J4) rfl ?_
          exact h
      · replace h := h.2 h3
        refine Wp.steps 4 (pc' := 83) (lv' := [some (.ref 0), some (.ref 100), some (.ref 57), some (.long x3), none, some (.int v1), some (.int v2), some (.int v3), some (.int 0), some (.int 0), none, none, none]) (st' := []) (I' := I4) (J' := J4) rfl ?_
        exact h
set_option maxHeartbeats 16000000 in
theorem v_Lw_filed_0_100_57_83 {d : Nat} {Q : Post} {I : I2} {J : J2} {x3 : Int64} {x5 : Int32} {x6 : Int32} {x7 : Int32} {x8 : Int32} {x9 : Int32} (h : (x9 < (I 57 1) → (x8 = 0 → CI d Lw_cell [.ref 100, .int 12] I J (fun v1 I1 J1 => CI d Sb_files [.ref 0, .int (rmI v1 61), .int 0] I1 J1 (fun v2 I2 J2 => CI d Sb_files [.ref 0, .int (rmI v1 61), .int 1] I2 J2 (fun v3 I3 J3 => Wp d Lw_filed Q 344 [some (.ref 0), some (.ref 100), some (.ref 57), some (.long x3), none, some (.int x5), some (.int x6), some (.int x7), some (.int x8), some (.int (rmI v1 61)), some (.int v2), some (.int v3), none] [] I3 J3)))) ∧ (¬ (x8 = 0) → CI d Sb_count [.ref 0, .int 5] I J (fun v1 I1 J1 => (((srI v1 x9) &&& 1) = 0 → CI d Sb_file [.ref 0, .int x9] I1 J1 (fun v2 I2 J2 => (v2 < 0 → Wp d Lw_filed Q 128 [some (.ref 0), some (.ref 100), some (.ref 57), some (.long x3), none, some (.int x5), some (.int x6), some (.int x7), some (.int x8), some (.int x9), none, none, none] [.int (-9)] I2 J2) ∧ (¬ (v2 < 0) → CI d Sb_opens [.ref 0, .int (-1)] I2 J2 (fun v3 I3 J3 => Wp d Lw_filed Q 128 [some (.ref 0), some (.ref 100), some (.ref 57), some (.long x3), none, some (.int x5), some (.int x6), some (.int x7), some (.int x8), some (.int x9), none, none, none] [.int v3] I3 J3)))) ∧ (¬ (((srI v1 x9) &&& 1) = 0) → Wp d Lw_filed Q 83 [some (.ref 0), some (.ref 100), some (.ref 57), some (.long x3), none, some (.int x5), some (.int x6), some (.int x7), some (.int x8), some (.int (x9 + 1)), none, none, none] [] I1 J1)))) ∧ (¬ (x9 < (I 57 1)) → CI d Lw_cell [.ref 100, .int 12] I J (fun v1 I1 J1 => CI d Sb_files [.ref 0, .int (rmI v1 61), .int 0] I1 J1 (fun v2 I2 J2 => CI d Sb_files [.ref 0, .int (rmI v1 61), .int 1] I2 J2 (fun v3 I3 J3 => (x8 = 0 → Wp d Lw_filed Q 344 [some (.ref 0), some (.ref 100), some (.ref 57), some (.long x3), none, some (.int x5), some (.int x6), some (.int x7), some (.int x8), some (.int (rmI v1 61)), some (.int v2), some (.int v3), none] [] I3 J3) ∧ (¬ (x8 = 0) → (v2 = (-4) → (v3 = (-4) → Wp d Lw_filed Q 350 [some (.ref 0), some (.ref 100), some (.ref 57), some (.long x3), none, some (.int x5), some (.int x6), some (.int x7), some (.int 1), some (.int (rmI v1 61)), some (.int v2), some (.int v3), some (.int 0)] [] I3 J3) ∧ (¬ (v3 = (-4)) → Wp d Lw_filed Q 344 [some (.ref 0), some (.ref 100), some (.ref 57), some (.long x3), none, some (.int x5), some (.int x6), some (.int x7), some (.int x8), some (.int (rmI v1 61)), some (.int v2), some (.int v3), none] [] I3 J3)) ∧ (¬ (v2 = (-4)) → CI d Lw_size [.int v3] I3 J3 (fun v4 I4 J4 => (v2 = v4 → CI d Sb_count [.ref 0, .int 5] I4 J4 (fun v5 I5 J5 => ((v3 &&& v5) = 0 → (v2 = 0 → (x5 < 0 → Wp d Lw_filed Q 336 [some (.ref 0), some (.ref 100), some (.ref 57), some (.long x3), none, some (.int x5), some (.int x6), some (.int x7), some (.int x8), some (.int (rmI v1 61)), some (.int v2), some (.int v3), none] [.int 1] I5 J5) ∧ (¬ (x5 < 0) → ((rmI v1 61) < x5 → Wp d Lw_filed Q 336 [some (.ref 0), some (.ref 100), some (.ref 57), some (.long x3), none, some (.int x5), some (.int x6), some (.int x7), some (.int x8), some (.int (rmI v1 61)), some (.int v2), some (.int v3), none] [.int 1] I5 J5) ∧ (¬ ((rmI v1 61) < x5) → Wp d Lw_filed Q 350 [some (.ref 0), some (.ref 100), some (.ref 57), some (.long x3), none, some (.int x5), some (.int x6), some (.int x7), some (.int 1), some (.int (rmI v1 61)), some (.int v2), some (.int v3), some (.int 0)] [] I5 J5))) ∧ (¬ (v2 = 0) → (x5 < 0 → Wp d Lw_filed Q 336 [some (.ref 0), some (.ref 100), some (.ref 57), some (.long x3), none, some (.int x5), some (.int x6), some (.int x7), some (.int x8), some (.int (rmI v1 61)), some (.int v2), some (.int v3), none] [.int 0] I5 J5) ∧ (¬ (x5 < 0) → ((rmI v1 61) < x5 → Wp d Lw_filed Q 336 [some (.ref 0), some (.ref 100), some (.ref 57), some (.long x3), none, some (.int x5), some (.int x6), some (.int x7), some (.int x8), some (.int (rmI v1 61)), some (.int v2), some (.int v3), none] [.int 0] I5 J5) ∧ (¬ ((rmI v1 61) < x5) → Wp d Lw_filed Q 344 [some (.ref 0), some (.ref 100), some (.ref 57), some (.long x3), none, some (.int x5), some (.int x6), some (.int x7), some (.int x8), some (.int (rmI v1 61)), some (.int v2), some (.int v3), none] [] I5 J5)))) ∧ (¬ ((v3 &&& v5) = 0) → Wp d Lw_filed Q 344 [some (.ref 0), some (.ref 100), some (.ref 57), some (.long x3), none, some (.int x5), some (.int x6), some (.int x7), some (.int x8), some (.int (rmI v1 61)), some (.int v2), some (.int v3), none] [] I5 J5))) ∧ (¬ (v2 = v4) → Wp d Lw_filed Q 344 [some (.ref 0), some (.ref 100), some (.ref 57), some (.long x3), none, some (.int x5), some (.int x6), some (.int x7), some (.int x8), some (.int (rmI v1 61)), some (.int v2), some (.int v3), none] [] I4 J4))))))))) : Wp d Lw_filed Q 83 [some (.ref 0), some (.ref 100), some (.ref 57), some (.long x3), none, some (.int x5), some (.int x6), some (.int x7), some (.int x8), some (.int x9), none, none, none] [] I J := by
  refine Wp.steps 4 (pc' := 88) (lv' := [some (.ref 0), some (.ref 100), some (.ref 57), some (.long x3), none, some (.int x5), some (.int x6), some (.int x7), some (.int x8), some (.int x9), none, none, none]) (st' := [.int (I 57 1), .int x9]) (I' := I) (J' := J) rfl ?_
  refine Wp.steps 1 (pc' := if x9 < (I 57 1) then 91 else 238) (lv' := [some (.ref 0), some (.ref 100), some (.ref 57), some (.long x3), none, some (.int x5), some (.int x6), some (.int x7), some (.int x8), some (.int x9), none, none, none]) (st' := []) (I' := I) (J' := J) rfl (Wp.ite (fun h1 => ?_) (fun h1 => ?_))
  · replace h := h.1 h1
    refine Wp.steps 1 (pc' := 93) (lv' := [some (.ref 0), some (.ref 100), some (.ref 57), some (.long x3), none, some (.int x5), some (.int x6), some (.int x7), some (.int x8), some (.int x9), none, none, none]) (st' := [.int x8]) (I' := I) (J' := J) rfl ?_
    refine Wp.steps 1 (pc' := if x8 = 0 then 238 else 96) (lv' := [some (.ref 0), some (.ref 100), some (.ref 57), some (.long x3), none, some (.int x5), some (.int x6), some (.int x7), some (.int x8), some (.int x9), none, none, none]) (st' := []) (I' := I) (J' := J) rfl (Wp.ite (fun h2 => ?_) (fun h2 => ?_))
    · replace h := h.1 h2
      refine Wp.steps 2 (pc' := 241) (lv' := [some (.ref 0), some (.ref 100), some (.ref 57), some (.long x3), none, some (.int x5), some (.int x6), some (.int x7), some (.int x8), some (.int x9), none, none, none]) (st' := [.int 12, .ref 100]) (I' := I) (J' := J) rfl ?_
      refine Wp.call (M' := Lw_cell) (as := [.ref 100, .int 12]) (rest := []) rfl (CI.use h (fun v1 I1 J1 h => ?_))
      refine Wp.eqs (pc' := 244) (st' := [.int v1]) rfl rfl ?_
      refine Wp.steps 6 (pc' := 253) (lv' := [some (.ref 0), some (.ref 100), some (.ref 57), some (.long x3), none, some (.int x5), some (.int x6), some (.int x7), some (.int x8), some (.int (rmI v1 61)), none, none, none]) (st' := [.int 0, .int (rmI v1 61), .ref 0]) (I' := I1) (J' := J1) rfl ?_
      refine Wp.call (M' := Sb_files) (as := [.ref 0, .int (rmI v1 61), .int 0]) (rest := []) rfl (CI.use h (fun v2 I2 J2 h => ?_))
      refine Wp.eqs (pc' := 256) (st' := [.int v2]) rfl rfl ?_
      refine Wp.steps 4 (pc' := 262) (lv' := [some (.ref 0), some (.ref 100), some (.ref 57), some (.long x3), none, some (.int x5), some (.int x6), some (.int x7), some (.int x8), some (.int (rmI v1 61)), some (.int v2), none, none]) (st' := [.int 1, .int (rmI v1 61), .ref 0]) (I' := I2) (J' := J2) rfl ?_
      refine Wp.call (M' := Sb_files) (as := [.ref 0, .int (rmI v1 61), .int 1]) (rest := []) rfl (CI.use h (fun v3 I3 J3 h => ?_))
      refine Wp.eqs (pc' := 265) (st' := [.int v3]) rfl rfl ?_
      refine Wp.steps 2 (pc' := 269) (lv' := [some (.ref 0), some (.ref 100), some (.ref 57), some (.long x3), none, some (.int x5), some (.int x6), some (.int x7), some (.int x8), some (.int (rmI v1 61)), some (.int v2), some (.int v3), none]) (st' := [.int x8]) (I' := I3) (J' := J3) rfl ?_
      refine Wp.steps 1 (pc' := if x8 = 0 then 344 else 272) (lv' := [some (.ref 0), some (.ref 100), some (.ref 57), some (.long x3), none, some (.int x5), some (.int x6), some (.int x7), some (.int x8), some (.int (rmI v1 61)), some (.int v2), some (.int v3), none]) (st' := []) (I' := I3) (J' := J3) rfl ?_
      rw [if_pos h2]
      exact h
    · replace h := h.2 h2
      refine Wp.steps 2 (pc' := 98) (lv' := [some (.ref 0), some (.ref 100), some (.ref 57), some (.long x3), none, some (.int x5), some (.int x6), some (.int x7), some (.int x8), some (.int x9), none, none, none]) (st' := [.int 5, .ref 0]) (I' := I) (J' := J) rfl ?_
      refine Wp.call (M' := Sb_count) (as := [.ref 0, .int 5]) (rest := []) rfl (CI.use h (fun v1 I1 J1 h => ?_))
      refine Wp.eqs (pc' := 101) (st' := [.int v1]) rfl rfl ?_
      refine Wp.steps 4 (pc' := 106) (lv' := [some (.ref 0), some (.ref 100), some (.ref 57), some (.long x3), none, some (.int x5), some (.int x6), some (.int x7), some (.int x8), some (.int x9), none, none, none]) (st' := [.int ((srI v1 x9) &&& 1)]) (I' := I1) (J' := J1) rfl ?_
      refine Wp.steps 1 (pc' := if ((srI v1 x9) &&& 1) = 0 then 109 else 232) (lv' := [some (.ref 0), some (.ref 100), some (.ref 57), some (.long x3), none, some (.int x5), some (.int x6), some (.int x7), some (.int x8), some (.int x9), none, none, none]) (st' := []) (I' := I1) (J' := J1) rfl (Wp.ite (fun h3 => ?_) (fun h3 => ?_))
      · replace h := h.1 h3
        refine Wp.steps 2 (pc' := 112) (lv' := [some (.ref 0), some (.ref 100), some (.ref 57), some (.long x3), none, some (.int x5), some (.int x6), some (.int x7), some (.int x8), some (.int x9), none, none, none]) (st' := [.int x9, .ref 0]) (I' := I1) (J' := J1) rfl ?_
        refine Wp.call (M' := Sb_file) (as := [.ref 0, .int x9]) (rest := []) rfl (CI.use h (fun v2 I2 J2 h => ?_))
        refine Wp.eqs (pc' := 115) (st' := [.int v2]) rfl rfl ?_
        refine Wp.steps 1 (pc' := if v2 < 0 then 118 else 123) (lv' := [some (.ref 0), some (.ref 100), some (.ref 57), some (.long x3), none, some (.int x5), some (.int x6), some (.int x7), some (.int x8), some (.int x9), none, none, none]) (st' := []) (I' := I2) (J' := J2) rfl (Wp.ite (fun h4 => ?_) (fun h4 => ?_))
        · replace h := h.1 h4
          refine Wp.steps 2 (pc' := 128) (lv' := [some (.ref 0), some (.ref 100), some (.ref 57), some (.long x3), none, some (.int x5), some (.int x6), some (.int x7), some (.int x8), some (.int x9), none, none, none]) (st' := [.int (-9)]) (I' := I2) (J' := J2) rfl ?_
          exact h
        · replace h := h.2 h4
          refine Wp.steps 2 (pc' := 125) (lv' := [some (.ref 0), some (.ref 100), some (.ref 57), some (.long x3), none, some (.int x5), some (.int x6), some (.int x7), some (.int x8), some (.int x9), none, none, none]) (st' := [.int (-1), .ref 0]) (I' := I2) (J' := J2) rfl ?_
          refine Wp.call (M' := Sb_opens) (as := [.ref 0, .int (-1)]) (rest := []) rfl (CI.use h (fun v3 I3 J3 h => ?_))
          refine Wp.eqs (pc' := 128) (st' := [.int v3]) rfl rfl ?_
          exact h
      · replace h := h.2 h3
        refine Wp.steps 2 (pc' := 83) (lv' := [some (.ref 0), some (.ref 100), some (.ref 57), some (.long x3), none, some (.int x5), some (.int x6), some (.int x7), some (.int x8), some (.int (x9 + 1)), none, none, none]) (st' := []) (I' := I1) (J' := J1) rfl ?_
        exact h
  · replace h := h.2 h1
    refine Wp.steps 2 (pc' := 241) (lv' := [some (.ref 0), some (.ref 100), some (.ref 57), some (.long x3), none, some (.int x5), some (.int x6), some (.int x7), some (.int x8), some (.int x9), none, none, none]) (st' := [.int 12, .ref 100]) (I' := I) (J' := J) rfl ?_
    refine Wp.call (M' := Lw_cell) (as := [.ref 100, .int 12]) (rest := []) rfl (CI.use h (fun v1 I1 J1 h => ?_))
    refine Wp.eqs (pc' := 244) (st' := [.int v1]) rfl rfl ?_
    refine Wp.steps 6 (pc' := 253) (lv' := [some (.ref 0), some (.ref 100), some (.ref 57), some (.long x3), none, some (.int x5), some (.int x6), some (.int x7), some (.int x8), some (.int (rmI v1 61)), none, none, none]) (st' := [.int 0, .int (rmI v1 61), .ref 0]) (I' := I1) (J' := J1) rfl ?_
    refine Wp.call (M' := Sb_files) (as := [.ref 0, .int (rmI v1 61), .int 0]) (rest := []) rfl (CI.use h (fun v2 I2 J2 h => ?_))
    refine Wp.eqs (pc' := 256) (st' := [.int v2]) rfl rfl ?_
    refine Wp.steps 4 (pc' := 262) (lv' := [some (.ref 0), some (.ref 100), some (.ref 57), some (.long x3), none, some (.int x5), some (.int x6), some (.int x7), some (.int x8), some (.int (rmI v1 61)), some (.int v2), none, none]) (st' := [.int 1, .int (rmI v1 61), .ref 0]) (I' := I2) (J' := J2) rfl ?_
    refine Wp.call (M' := Sb_files) (as := [.ref 0, .int (rmI v1 61), .int 1]) (rest := []) rfl (CI.use h (fun v3 I3 J3 h => ?_))
    refine Wp.eqs (pc' := 265) (st' := [.int v3]) rfl rfl ?_
    refine Wp.steps 2 (pc' := 269) (lv' := [some (.ref 0), some (.ref 100), some (.ref 57), some (.long x3), none, some (.int x5), some (.int x6), some (.int x7), some (.int x8), some (.int (rmI v1 61)), some (.int v2), some (.int v3), none]) (st' := [.int x8]) (I' := I3) (J' := J3) rfl ?_
    refine Wp.steps 1 (pc' := if x8 = 0 then 344 else 272) (lv' := [some (.ref 0), some (.ref 100), some (.ref 57), some (.long x3), none, some (.int x5), some (.int x6), some (.int x7), some (.int x8), some (.int (rmI v1 61)), some (.int v2), some (.int v3), none]) (st' := []) (I' := I3) (J' := J3) rfl (Wp.ite (fun h2 => ?_) (fun h2 => ?_))
    · replace h := h.1 h2
      exact h
    · replace h := h.2 h2
      refine Wp.steps 2 (pc' := 276) (lv' := [some (.ref 0), some (.ref 100), some (.ref 57), some (.long x3), none, some (.int x5), some (.int x6), some (.int x7), some (.int x8), some (.int (rmI v1 61)), some (.int v2), some (.int v3), none]) (st' := [.int (-4), .int v2]) (I' := I3) (J' := J3) rfl ?_
      refine Wp.steps 1 (pc' := if v2 = (-4) then 279 else 289) (lv' := [some (.ref 0), some (.ref 100), some (.ref 57), some (.long x3), none, some (.int x5), some (.int x6), some (.int x7), some (.int x8), some (.int (rmI v1 61)), some (.int v2), some (.int v3), none]) (st' := []) (I' := I3) (J' := J3) rfl (Wp.ite (fun h3 => ?_) (fun h3 => ?_))
      · replace h := h.1 h3
        refine Wp.steps 2 (pc' := 283) (lv' := [some (.ref 0), some (.ref 100), some (.ref 57), some (.long x3), none, some (.int x5), some (.int x6), some (.int x7), some (.int x8), some (.int (rmI v1 61)), some (.int v2), some (.int v3), none]) (st' := [.int (-4), .int v3]) (I' := I3) (J' := J3) rfl ?_
        refine Wp.steps 1 (pc' := if v3 = (-4) then 286 else 344) (lv' := [some (.ref 0), some (.ref 100), some (.ref 57), some (.long x3), none, some (.int x5), some (.int x6), some (.int x7), some (.int x8), some (.int (rmI v1 61)), some (.int v2), some (.int v3), none]) (st' := []) (I' := I3) (J' := J3) rfl (Wp.ite (fun h4 => ?_) (fun h4 => ?_))
        · replace h := h.1 h4
          refine Wp.steps 6 (pc' := 350) (lv' := [some (.ref 0), some (.ref 100), some (.ref 57), some (.long x3), none, some (.int x5), some (.int x6), some (.int x7), some (.int 1), some (.int (rmI v1 61)), some (.int v2), some (.int v3), some (.int 0)]) (st' := []) (I' := I3) (J' := J3) rfl ?_
          exact h
        · replace h := h.2 h4
          exact h
      · replace h := h.2 h3
        refine Wp.steps 2 (pc' := 293) (lv' := [some (.ref 0), some (.ref 100), some (.ref 57), some (.long x3), none, some (.int x5), some (.int x6), some (.int x7), some (.int x8), some (.int (rmI v1 61)), some (.int v2), some (.int v3), none]) (st' := [.int v3, .int v2]) (I' := I3) (J' := J3) rfl ?_
        refine Wp.call (M' := Lw_size) (as := [.int v3]) (rest := [.int v2]) rfl (CI.use h (fun v4 I4 J4 h => ?_))
        refine Wp.eqs (pc' := 296) (st' := [.int v4, .int v2]) rfl rfl ?_
        refine Wp.steps 1 (pc' := if v2 = v4 then 299 else 344) (lv' := [some (.ref 0), some (.ref 100), some (.ref 57), some (.long x3), none, some (.int x5), some (.int x6), some (.int x7), some (.int x8), some (.int (rmI v1 61)), some (.int v2), some (.int v3), none]) (st' := []) (I' := I4) (J' := J4) rfl (Wp.ite (fun h4 => ?_) (fun h4 => ?_))
        · replace h := h.1 h4
          refine Wp.steps 3 (pc' := 303) (lv' := [some (.ref 0), some (.ref 100), some (.ref 57), some (.long x3), none, some (.int x5), some (.int x6), some (.int x7), some (.int x8), some (.int (rmI v1 61)), some (.int v2), some (.int v3), none]) (st' := [.int 5, .ref 0, .int v3]) (I' := I4) (J' := J4) rfl ?_
          refine Wp.call (M' := Sb_count) (as := [.ref 0, .int 5]) (rest := [.int v3]) rfl (CI.use h (fun v5 I5 J5 h => ?_))
          refine Wp.eqs (pc' := 306) (st' := [.int v5, .int v3]) rfl rfl ?_
          refine Wp.steps 1 (pc' := 307) (lv' := [some (.ref 0), some (.ref 100), some (.ref 57), some (.long x3), none, some (.int x5), some (.int x6), some (.int x7), some (.int x8), some (.int (rmI v1 61)), some (.int v2), some (.int v3), none]) (st' := [.int (v3 &&& v5)]) (I' := I5) (J' := J5) rfl ?_
          refine Wp.steps 1 (pc' := if (v3 &&& v5) = 0 then 310 else 344) (lv' := [some (.ref 0), some (.ref 100), some (.ref 57), some (.long x3), none, some (.int x5), some (.int x6), some (.int x7), some (.int x8), some (.int (rmI v1 61)), some (.int v2), some (.int v3), none]) (st' := []) (I' := I5) (J' := J5) rfl (Wp.ite (fun h5 => ?_) (fun h5 => ?_))
          · replace h := h.1 h5
            refine Wp.steps 1 (pc' := 312) (lv' := [some (.ref 0), some (.ref 100), some (.ref 57), some (.long x3), none, some (.int x5), some (.int x6), some (.int x7), some (.int x8), some (.int (rmI v1 61)), some (.int v2), some (.int v3), none]) (st' := [.int v2]) (I' := I5) (J' := J5) rfl ?_
            refine Wp.steps 1 (pc' := if v2 = 0 then 315 else 319) (lv' := [some (.ref 0), some (.ref 100), some (.ref 57), some (.long x3), none, some (.int x5), some (.int x6), some (.int x7), some (.int x8), some (.int (rmI v1 61)), some (.int v2), some (.int v3), none]) (st' := []) (I' := I5) (J' := J5) rfl (Wp.ite (fun h6 => ?_) (fun h6 => ?_))
            · replace h := h.1 h6
              refine Wp.steps 3 (pc' := 322) (lv' := [some (.ref 0), some (.ref 100), some (.ref 57), some (.long x3), none, some (.int x5), some (.int x6), some (.int x7), some (.int x8), some (.int (rmI v1 61)), some (.int v2), some (.int v3), none]) (st' := [.int x5, .int 1]) (I' := I5) (J' := J5) rfl ?_
              refine Wp.steps 1 (pc' := if x5 < 0 then 336 else 325) (lv' := [some (.ref 0), some (.ref 100), some (.ref 57), some (.long x3), none, some (.int x5), some (.int x6), some (.int x7), some (.int x8), some (.int (rmI v1 61)), some (.int v2), some (.int v3), none]) (st' := [.int 1]) (I' := I5) (J' := J5) rfl (Wp.ite (fun h7 => ?_) (fun h7 => ?_))
              · replace h := h.1 h7
                exact h
              · replace h := h.2 h7
                refine Wp.steps 2 (pc' := 329) (lv' := [some (.ref 0), some (.ref 100), some (.ref 57), some (.long x3), none, some (.int x5), some (.int x6), some (.int x7), some (.int x8), some (.int (rmI v1 61)), some (.int v2), some (.int v3), none]) (st' := [.int (rmI v1 61), .int x5, .int 1]) (I' := I5) (J' := J5) rfl ?_
                refine Wp.steps 1 (pc' := if (rmI v1 61) < x5 then 336 else 332) (lv' := [some (.ref 0), some (.ref 100), some (.ref 57), some (.long x3), none, some (.int x5), some (.int x6), some (.int x7), some (.int x8), some (.int (rmI v1 61)), some (.int v2), some (.int v3), none]) (st' := [.int 1]) (I' := I5) (J' := J5) rfl (Wp.ite (fun h8 => ?_) (fun h8 => ?_))
                · replace h := h.1 h8
                  exact h
                · replace h := h.2 h8
                  refine Wp.steps 8 (pc' := 350) (lv' := [some (.ref 0), some (.ref 100), some (.ref 57), some (.long x3), none, some (.int x5), some (.int x6), some (.int x7), some (.int 1), some (.int (rmI v1 61)), some (.int v2), some (.int v3), some (.int 0)]) (st' := []) (I' := I5) (J' := J5) rfl ?_
                  exact h
            · replace h := h.2 h6
              refine Wp.steps 2 (pc' := 322) (lv' := [some (.ref 0), some (.ref 100), some (.ref 57), some (.long x3), none, some (.int x5), some (.int x6), some (.int x7), some (.int x8), some (.int (rmI v1 61)), some (.int v2), some (.int v3), none]) (st' := [.int x5, .int 0]) (I' := I5) (J' := J5) rfl ?_
              refine Wp.steps 1 (pc' := if x5 < 0 then 336 else 325) (lv' := [some (.ref 0), some (.ref 100), some (.ref 57), some (.long x3), none, some (.int x5), some (.int x6), some (.int x7), some (.int x8), some (.int (rmI v1 61)), some (.int v2), some (.int v3), none]) (st' := [.int 0]) (I' := I5) (J' := J5) rfl (Wp.ite (fun h7 => ?_) (fun h7 => ?_))
              · replace h := h.1 h7
                exact h
              · replace h := h.2 h7
                refine Wp.steps 2 (pc' := 329) (lv' := [some (.ref 0), some (.ref 100), some (.ref 57), some (.long x3), none, some (.int x5), some (.int x6), some (.int x7), some (.int x8), some (.int (rmI v1 61)), some (.int v2), some (.int v3), none]) (st' := [.int (rmI v1 61), .int x5, .int 0]) (I' := I5) (J' := J5) rfl ?_
                refine Wp.steps 1 (pc' := if (rmI v1 61) < x5 then 336 else 332) (lv' := [some (.ref 0), some (.ref 100), some (.ref 57), some (.long x3), none, some (.int x5), some (.int x6), some (.int x7), some (.int x8), some (.int (rmI v1 61)), some (.int v2), some (.int v3), none]) (st' := [.int 0]) (I' := I5) (J' := J5) rfl (Wp.ite (fun h8 => ?_) (fun h8 => ?_))
                · replace h := h.1 h8
                  exact h
                · replace h := h.2 h8
                  refine Wp.steps 3 (pc' := 344) (lv' := [some (.ref 0), some (.ref 100), some (.ref 57), some (.long x3), none, some (.int x5), some (.int x6), some (.int x7), some (.int x8), some (.int (rmI v1 61)), some (.int v2), some (.int v3), none]) (st' := []) (I' := I5) (J' := J5) rfl ?_
                  exact h
          · replace h := h.2 h5
            exact h
        · replace h := h.2 h4
          exact h
set_option maxHeartbeats 16000000 in
theorem v_Lw_filed_0_100_57_128 {d : Nat} {Q : Post} {I : I2} {J : J2} {x3 : Int64} {x5 : Int32} {x6 : Int32} {x7 : Int32} {x8 : Int32} {x9 : Int32} {s0 : Int32} (h : (x9 = x6 → (s0 = x7 → Wp d Lw_filed Q 193 [some (.ref 0), some (.ref 100), some (.ref 57), some (.long x3), none, some (.int x5), some (.int x6), some (.int x7), some (.int x8), some (.int x9), some (.int s0), none, none] [.int 1] I J) ∧ (¬ (s0 = x7) → Wp d Lw_filed Q 193 [some (.ref 0), some (.ref 100), some (.ref 57), some (.long x3), none, some (.int x5), some (.int x6), some (.int x7), some (.int x8), some (.int x9), some (.int s0), none, none] [.int 0] I J)) ∧ (¬ (x9 = x6) → (s0 = (-4) → Wp d Lw_filed Q 188 [some (.ref 0), some (.ref 100), some (.ref 57), some (.long x3), none, some (.int x5), some (.int x6), some (.int x7), some (.int x8), some (.int x9), some (.int s0), none, none] [] I J) ∧ (¬ (s0 = (-4)) → (x6 < 0 → Wp d Lw_filed Q 192 [some (.ref 0), some (.ref 100), some (.ref 57), some (.long x3), none, some (.int x5), some (.int x6), some (.int x7), some (.int x8), some (.int x9), some (.int s0), none, none] [] I J) ∧ (¬ (x6 < 0) → (x9 < x6 → (x7 < s0 → Wp d Lw_filed Q 188 [some (.ref 0), some (.ref 100), some (.ref 57), some (.long x3), none, some (.int x5), some (.int x6), some (.int x7), some (.int x8), some (.int x9), some (.int s0), none, none] [] I J) ∧ (¬ (x7 < s0) → Wp d Lw_filed Q 192 [some (.ref 0), some (.ref 100), some (.ref 57), some (.long x3), none, some (.int x5), some (.int x6), some (.int x7), some (.int x8), some (.int x9), some (.int s0), none, none] [] I J)) ∧ (¬ (x9 < x6) → (s0 < x7 → Wp d Lw_filed Q 192 [some (.ref 0), some (.ref 100), some (.ref 57), some (.long x3), none, some (.int x5), some (.int x6), some (.int x7), some (.int x8), some (.int x9), some (.int s0), none, none] [] I J) ∧ (¬ (s0 < x7) → Wp d Lw_filed Q 188 [some (.ref 0), some (.ref 100), some (.ref 57), some (.long x3), none, some (.int x5), some (.int x6), some (.int x7), some (.int x8), some (.int x9), some (.int s0), none, none] [] I J)))))) : Wp d Lw_filed Q 128 [some (.ref 0), some (.ref 100), some (.ref 57), some (.long x3), none, some (.int x5), some (.int x6), some (.int x7), some (.int x8), some (.int x9), none, none, none] [.int s0] I J := by
  refine Wp.steps 3 (pc' := 134) (lv' := [some (.ref 0), some (.ref 100), some (.ref 57), some (.long x3), none, some (.int x5), some (.int x6), some (.int x7), some (.int x8), some (.int x9), some (.int s0), none, none]) (st' := [.int x6, .int x9]) (I' := I) (J' := J) rfl ?_
  refine Wp.steps 1 (pc' := if x9 = x6 then 137 else 152) (lv' := [some (.ref 0), some (.ref 100), some (.ref 57), some (.long x3), none, some (.int x5), some (.int x6), some (.int x7), some (.int x8), some (.int x9), some (.int s0), none, none]) (st' := []) (I' := I) (J' := J) rfl (Wp.ite (fun h1 => ?_) (fun h1 => ?_))
  · replace h := h.1 h1
    refine Wp.steps 2 (pc' := 141) (lv' := [some (.ref 0), some (.ref 100), some (.ref 57), some (.long x3), none, some (.int x5), some (.int x6), some (.int x7), some (.int x8), some (.int x9), some (.int s0), none, none]) (st' := [.int x7, .int s0]) (I' := I) (J' := J) rfl ?_
    refine Wp.steps 1 (pc' := if s0 = x7 then 144 else 148) (lv' := [some (.ref 0), some (.ref 100), some (.ref 57), some (.long x3), none, some (.int x5), some (.int x6), some (.int x7), some (.int x8), some (.int x9), some (.int s0), none, none]) (st' := []) (I' := I) (J' := J) rfl (Wp.ite (fun h2 => ?_) (fun h2 => ?_))
    · replace h := h.1 h2
      refine Wp.steps 2 (pc' := 193) (lv' := [some (.ref 0), some (.ref 100), some (.ref 57), some (.long x3), none, some (.int x5), some (.int x6), some (.int x7), some (.int x8), some (.int x9), some (.int s0), none, none]) (st' := [.int 1]) (I' := I) (J' := J) rfl ?_
      exact h
    · replace h := h.2 h2
      refine Wp.steps 2 (pc' := 193) (lv' := [some (.ref 0), some (.ref 100), some (.ref 57), some (.long x3), none, some (.int x5), some (.int x6), some (.int x7), some (.int x8), some (.int x9), some (.int s0), none, none]) (st' := [.int 0]) (I' := I) (J' := J) rfl ?_
      exact h
  · replace h := h.2 h1
    refine Wp.steps 2 (pc' := 156) (lv' := [some (.ref 0), some (.ref 100), some (.ref 57), some (.long x3), none, some (.int x5), some (.int x6), some (.int x7), some (.int x8), some (.int x9), some (.int s0), none, none]) (st' := [.int (-4), .int s0]) (I' := I) (J' := J) rfl ?_
    refine Wp.steps 1 (pc' := if s0 = (-4) then 188 else 159) (lv' := [some (.ref 0), some (.ref 100), some (.ref 57), some (.long x3), none, some (.int x5), some (.int x6), some (.int x7), some (.int x8), some (.int x9), some (.int s0), none, none]) (st' := []) (I' := I) (J' := J) rfl (Wp.ite (fun h2 => ?_) (fun h2 => ?_))
    · replace h := h.1 h2
      exact h
    · replace h := h.2 h2
      refine Wp.steps 1 (pc' := 161) (lv' := [some (.ref 0), some (.ref 100), some (.ref 57), some (.long x3), none, some (.int x5), some (.int x6), some (.int x7), some (.int x8), some (.int x9), some (.int s0), none, none]) (st' := [.int x6]) (I' := I) (J' := J) rfl ?_
      refine Wp.steps 1 (pc' := if x6 < 0 then 192 else 164) (lv' := [some (.ref 0), some (.ref 100), some (.ref 57), some (.long x3), none, some (.int x5), some (.int x6), some (.int x7), some (.int x8), some (.int x9), some (.int s0), none, none]) (st' := []) (I' := I) (J' := J) rfl (Wp.ite (fun h3 => ?_) (fun h3 => ?_))
      · replace h := h.1 h3
        exact h
      · replace h := h.2 h3
        refine Wp.steps 2 (pc' := 168) (lv' := [some (.ref 0), some (.ref 100), some (.ref 57), some (.long x3), none, some (.int x5), some (.int x6), some (.int x7), some (.int x8), some (.int x9), some (.int s0), none, none]) (st' := [.int x6, .int x9]) (I' := I) (J' := J) rfl ?_
        refine Wp.steps 1 (pc' := if x9 < x6 then 171 else 181) (lv' := [some (.ref 0), some (.ref 100), some (.ref 57), some (.long x3), none, some (.int x5), some (.int x6), some (.int x7), some (.int x8), some (.int x9), some (.int s0), none, none]) (st' := []) (I' := I) (J' := J) rfl (Wp.ite (fun h4 => ?_) (fun h4 => ?_))
        · replace h := h.1 h4
          refine Wp.steps 2 (pc' := 175) (lv' := [some (.ref 0), some (.ref 100), some (.ref 57), some (.long x3), none, some (.int x5), some (.int x6), some (.int x7), some (.int x8), some (.int x9), some (.int s0), none, none]) (st' := [.int x7, .int s0]) (I' := I) (J' := J) rfl ?_
          refine Wp.steps 1 (pc' := if x7 < s0 then 178 else 192) (lv' := [some (.ref 0), some (.ref 100), some (.ref 57), some (.long x3), none, some (.int x5), some (.int x6), some (.int x7), some (.int x8), some (.int x9), some (.int s0), none, none]) (st' := []) (I' := I) (J' := J) rfl (Wp.ite (fun h5 => ?_) (fun h5 => ?_))
          · replace h := h.1 h5
            refine Wp.steps 1 (pc' := 188) (lv' := [some (.ref 0), some (.ref 100), some (.ref 57), some (.long x3), none, some (.int x5), some (.int x6), some (.int x7), some (.int x8), some (.int x9), some (.int s0), none, none]) (st' := []) (I' := I) (J' := J) rfl ?_
            exact h
          · replace h := h.2 h5
            exact h
        · replace h := h.2 h4
          refine Wp.steps 2 (pc' := 185) (lv' := [some (.ref 0), some (.ref 100), some (.ref 57), some (.long x3), none, some (.int x5), some (.int x6), some (.int x7), some (.int x8), some (.int x9), some (.int s0), none, none]) (st' := [.int x7, .int s0]) (I' := I) (J' := J) rfl ?_
          refine Wp.steps 1 (pc' := if s0 < x7 then 192 else 188) (lv' := [some (.ref 0), some (.ref 100), some (.ref 57), some (.long x3), none, some (.int x5), some (.int x6), some (.int x7), some (.int x8), some (.int x9), some (.int s0), none, none]) (st' := []) (I' := I) (J' := J) rfl (Wp.ite (fun h5 => ?_) (fun h5 => ?_))
          · replace h := h.1 h5
            exact h
          · replace h := h.2 h5
            exact h
set_option maxHeartbeats 16000000 in
theorem v_Lw_filed_0_100_57_188 {d : Nat} {Q : Post} {I : I2} {J : J2} {x3 : Int64} {x5 : Int32} {x6 : Int32} {x7 : Int32} {x8 : Int32} {x9 : Int32} {x10 : Int32} (h : Wp d Lw_filed Q 193 [some (.ref 0), some (.ref 100), some (.ref 57), some (.long x3), none, some (.int x5), some (.int x6), some (.int x7), some (.int x8), some (.int x9), some (.int x10), none, none] [.int 1] I J) : Wp d Lw_filed Q 188 [some (.ref 0), some (.ref 100), some (.ref 57), some (.long x3), none, some (.int x5), some (.int x6), some (.int x7), some (.int x8), some (.int x9), some (.int x10), none, none] [] I J := by
  refine Wp.steps 2 (pc' := 193) (lv' := [some (.ref 0), some (.ref 100), some (.ref 57), some (.long x3), none, some (.int x5), some (.int x6), some (.int x7), some (.int x8), some (.int x9), some (.int x10), none, none]) (st' := [.int 1]) (I' := I) (J' := J) rfl ?_
  exact h
set_option maxHeartbeats 16000000 in
theorem v_Lw_filed_0_100_57_192 {d : Nat} {Q : Post} {I : I2} {J : J2} {x3 : Int64} {x5 : Int32} {x6 : Int32} {x7 : Int32} {x8 : Int32} {x9 : Int32} {x10 : Int32} (h : Wp d Lw_filed Q 193 [some (.ref 0), some (.ref 100), some (.ref 57), some (.long x3), none, some (.int x5), some (.int x6), some (.int x7), some (.int x8), some (.int x9), some (.int x10), none, none] [.int 0] I J) : Wp d Lw_filed Q 192 [some (.ref 0), some (.ref 100), some (.ref 57), some (.long x3), none, some (.int x5), some (.int x6), some (.int x7), some (.int x8), some (.int x9), some (.int x10), none, none] [] I J := by
  refine Wp.steps 1 (pc' := 193) (lv' := [some (.ref 0), some (.ref 100), some (.ref 57), some (.long x3), none, some (.int x5), some (.int x6), some (.int x7), some (.int x8), some (.int x9), some (.int x10), none, none]) (st' := [.int 0]) (I' := I) (J' := J) rfl ?_
  exact h
set_option maxHeartbeats 16000000 in
theorem v_Lw_filed_0_100_57_193 {d : Nat} {Q : Post} {I : I2} {J : J2} {x3 : Int64} {x5 : Int32} {x6 : Int32} {x7 : Int32} {x8 : Int32} {x9 : Int32} {x10 : Int32} {s0 : Int32} (h : (s0 = 0 → Wp d Lw_filed Q 83 [some (.ref 0), some (.ref 100), some (.ref 57), some (.long x3), none, some (.int x5), some (.int x6), some (.int x7), some (.int 0), some (.int (x9 + 1)), none, none, none] [] I J) ∧ (¬ (s0 = 0) → (x5 < 0 → CI d Sb_restore [.ref 0] I J (fun v1 I1 J1 => (v1 = 1 → Wp d Lw_filed Q 83 [some (.ref 0), some (.ref 100), some (.ref 57), some (.long x3), none, some (.int x5), some (.int x6), some (.int x7), some (.int 1), some (.int (x9 + 1)), none, none, none] [] I1 J1) ∧ (¬ (v1 = 1) → Wp d Lw_filed Q 83 [some (.ref 0), some (.ref 100), some (.ref 57), some (.long x3), none, some (.int x5), some (.int x6), some (.int x7), some (.int 0), some (.int (x9 + 1)), none, none, none] [] I1 J1))) ∧ (¬ (x5 < 0) → (x10 < 0 → Wp d Lw_filed Q 83 [some (.ref 0), some (.ref 100), some (.ref 57), some (.long x3), none, some (.int x5), some (.int x6), some (.int x7), some (.int 0), some (.int (x9 + 1)), none, none, none] [] I J) ∧ (¬ (x10 < 0) → (x5 < x10 → Wp d Lw_filed Q 83 [some (.ref 0), some (.ref 100), some (.ref 57), some (.long x3), none, some (.int x5), some (.int x6), some (.int x7), some (.int 0), some (.int (x9 + 1)), none, none, none] [] I J) ∧ (¬ (x5 < x10) → CI d Sb_restore [.ref 0] I J (fun v1 I1 J1 => (v1 = 1 → Wp d Lw_filed Q 83 [some (.ref 0), some (.ref 100), some (.ref 57), some (.long x3), none, some (.int x5), some (.int x6), some (.int x7), some (.int 1), some (.int (x9 + 1)), none, none, none] [] I1 J1) ∧ (¬ (v1 = 1) → Wp d Lw_filed Q 83 [some (.ref 0), some (.ref 100), some (.ref 57), some (.long x3), none, some (.int x5), some (.int x6), some (.int x7), some (.int 0), some (.int (x9 + 1)), none, none, none] [] I1 J1))))))) : Wp d Lw_filed Q 193 [some (.ref 0), some (.ref 100), some (.ref 57), some (.long x3), none, some (.int x5), some (.int x6), some (.int x7), some (.int x8), some (.int x9), some (.int x10), none, none] [.int s0] I J := by
  refine Wp.steps 2 (pc' := 197) (lv' := [some (.ref 0), some (.ref 100), some (.ref 57), some (.long x3), none, some (.int x5), some (.int x6), some (.int x7), some (.int s0), some (.int x9), some (.int x10), none, none]) (st' := [.int s0]) (I' := I) (J' := J) rfl ?_
  refine Wp.steps 1 (pc' := if s0 = 0 then 229 else 200) (lv' := [some (.ref 0), some (.ref 100), some (.ref 57), some (.long x3), none, some (.int x5), some (.int x6), some (.int x7), some (.int s0), some (.int x9), some (.int x10), none, none]) (st' := []) (I' := I) (J' := J) rfl (Wp.ite (fun h1 => ?_) (fun h1 => ?_))
  · replace h := h.1 h1
    refine Wp.steps 4 (pc' := 83) (lv' := [some (.ref 0), some (.ref 100), some (.ref 57), some (.long x3), none, some (.int x5), some (.int x6), some (.int x7), some (.int 0), some (.int (x9 + 1)), some (.int x10), none, none]) (st' := []) (I' := I) (J' := J) rfl ?_
    refine Wp.drop [10] (lv' := [some (.ref 0), some (.ref 100), some (.ref 57), some (.long x3), none, some (.int x5), some (.int x6), some (.int x7), some (.int 0), some (.int (x9 + 1)), none, none, none]) rfl ?_
    exact h
  · replace h := h.2 h1
    refine Wp.steps 1 (pc' := 202) (lv' := [some (.ref 0), some (.ref 100), some (.ref 57), some (.long x3), none, some (.int x5), some (.int x6), some (.int x7), some (.int s0), some (.int x9), some (.int x10), none, none]) (st' := [.int x5]) (I' := I) (J' := J) rfl ?_
    refine Wp.steps 1 (pc' := if x5 < 0 then 217 else 205) (lv' := [some (.ref 0), some (.ref 100), some (.ref 57), some (.long x3), none, some (.int x5), some (.int x6), some (.int x7), some (.int s0), some (.int x9), some (.int x10), none, none]) (st' := []) (I' := I) (J' := J) rfl (Wp.ite (fun h2 => ?_) (fun h2 => ?_))
    · replace h := h.1 h2
      refine Wp.steps 1 (pc' := 218) (lv' := [some (.ref 0), some (.ref 100), some (.ref 57), some (.long x3), none, some (.int x5), some (.int x6), some (.int x7), some (.int s0), some (.int x9), some (.int x10), none, none]) (st' := [.ref 0]) (I' := I) (J' := J) rfl ?_
      refine Wp.call (M' := Sb_restore) (as := [.ref 0]) (rest := []) rfl (CI.use h (fun v1 I1 J1 h => ?_))
      refine Wp.eqs (pc' := 221) (st' := [.int v1]) rfl rfl ?_
      refine Wp.steps 1 (pc' := 222) (lv' := [some (.ref 0), some (.ref 100), some (.ref 57), some (.long x3), none, some (.int x5), some (.int x6), some (.int x7), some (.int s0), some (.int x9), some (.int x10), none, none]) (st' := [.int 1, .int v1]) (I' := I1) (J' := J1) rfl ?_
      refine Wp.steps 1 (pc' := if v1 = 1 then 225 else 229) (lv' := [some (.ref 0), some (.ref 100), some (.ref 57), some (.long x3), none, some (.int x5), some (.int x6), some (.int x7), some (.int s0), some (.int x9), some (.int x10), none, none]) (st' := []) (I' := I1) (J' := J1) rfl (Wp.ite (fun h3 => ?_) (fun h3 => ?_))
      · replace h := h.1 h3
        refine Wp.steps 5 (pc' := 83) (lv' := [some (.ref 0), some (.ref 100), some (.ref 57), some (.long x3), none, some (.int x5), some (.int x6), some (.int x7), some (.int 1), some (.int (x9 + 1)), some (.int x10), none, none]) (st' := []) (I' := I1) (J' := J1) rfl ?_
        refine Wp.drop [10] (lv' := [some (.ref 0), some (.ref 100), some (.ref 57), some (.long x3), none, some (.int x5), some (.int x6), some (.int x7), some (.int 1), some (.int (x9 + 1)), none, none, none]) rfl ?_
        exact h
      · replace h := h.2 h3
        refine Wp.steps 4 (pc' := 83) (lv' := [some (.ref 0), some (.ref 100), some (.ref 57), some (.long x3), none, some (.int x5), some (.int x6), some (.int x7), some (.int 0), some (.int (x9 + 1)), some (.int x10), none, none]) (st' := []) (I' := I1) (J' := J1) rfl ?_
        refine Wp.drop [10] (lv' := [some (.ref 0), some (.ref 100), some (.ref 57), some (.long x3), none, some (.int x5), some (.int x6), some (.int x7), some (.int 0), some (.int (x9 + 1)), none, none, none]) rfl ?_
        exact h
    · replace h := h.2 h2
      refine Wp.steps 1 (pc' := 207) (lv' := [some (.ref 0), some (.ref 100), some (.ref 57), some (.long x3), none, some (.int x5), some (.int x6), some (.int x7), some (.int s0), some (.int x9), some (.int x10), none, none]) (st' := [.int x10]) (I' := I) (J' := J) rfl ?_
      refine Wp.steps 1 (pc' := if x10 < 0 then 229 else 210) (lv' := [some (.ref 0), some (.ref 100), some (.ref 57), some (.long x3), none, some (.int x5), some (.int x6), some (.int x7), some (.int s0), some (.int x9), some (.int x10), none, none]) (st' := []) (I' := I) (J' := J) rfl (Wp.ite (fun h3 => ?_) (fun h3 => ?_))
      · replace h := h.1 h3
        refine Wp.steps 4 (pc' := 83) (lv' := [some (.ref 0), some (.ref 100), some (.ref 57), some (.long x3), none, some (.int x5), some (.int x6), some (.int x7), some (.int 0), some (.int (x9 + 1)), some (.int x10), none, none]) (st' := []) (I' := I) (J' := J) rfl ?_
        refine Wp.drop [10] (lv' := [some (.ref 0), some (.ref 100), some (.ref 57), some (.long x3), none, some (.int x5), some (.int x6), some (.int x7), some (.int 0), some (.int (x9 + 1)), none, none, none]) rfl ?_
        exact h
      · replace h := h.2 h3
        refine Wp.steps 2 (pc' := 214) (lv' := [some (.ref 0), some (.ref 100), some (.ref 57), some (.long x3), none, some (.int x5), some (.int x6), some (.int x7), some (.int s0), some (.int x9), some (.int x10), none, none]) (st' := [.int x5, .int x10]) (I' := I) (J' := J) rfl ?_
        refine Wp.steps 1 (pc' := if x5 < x10 then 229 else 217) (lv' := [some (.ref 0), some (.ref 100), some (.ref 57), some (.long x3), none, some (.int x5), some (.int x6), some (.int x7), some (.int s0), some (.int x9), some (.int x10), none, none]) (st' := []) (I' := I) (J' := J) rfl (Wp.ite (fun h4 => ?_) (fun h4 => ?_))
        · replace h := h.1 h4
          refine Wp.steps 4 (pc' := 83) (lv' := [some (.ref 0), some (.ref 100), some (.ref 57), some (.long x3), none, some (.int x5), some (.int x6), some (.int x7), some (.int 0), some (.int (x9 + 1)), some (.int x10), none, none]) (st' := []) (I' := I) (J' := J) rfl ?_
          refine Wp.drop [10] (lv' := [some (.ref 0), some (.ref 100), some (.ref 57), some (.long x3), none, some (.int x5), some (.int x6), some (.int x7), some (.int 0), some (.int (x9 + 1)), none, none, none]) rfl ?_
          exact h
        · replace h := h.2 h4
          refine Wp.steps 1 (pc' := 218) (lv' := [some (.ref 0), some (.ref 100), some (.ref 57), some (.long x3), none, some (.int x5), some (.int x6), some (.int x7), some (.int s0), some (.int x9), some (.int x10), none, none]) (st' := [.ref 0]) (I' := I) (J' := J) rfl ?_
          refine Wp.call (M' := Sb_restore) (as := [.ref 0]) (rest := []) rfl (CI.use h (fun v1 I1 J1 h => ?_))
          refine Wp.eqs (pc' := 221) (st' := [.int v1]) rfl rfl ?_
          refine Wp.steps 1 (pc' := 222) (lv' := [some (.ref 0), some (.ref 100), some (.ref 57), some (.long x3), none, some (.int x5), some (.int x6), some (.int x7), some (.int s0), some (.int x9), some (.int x10), none, none]) (st' := [.int 1, .int v1]) (I' := I1) (J' := J1) rfl ?_
          refine Wp.steps 1 (pc' := if v1 = 1 then 225 else 229) (lv' := [some (.ref 0), some (.ref 100), some (.ref 57), some (.long x3), none, some (.int x5), some (.int x6), some (.int x7), some (.int s0), some (.int x9), some (.int x10), none, none]) (st' := []) (I' := I1) (J' := J1) rfl (Wp.ite (fun h5 => ?_) (fun h5 => ?_))
          · replace h := h.1 h5
            refine Wp.steps 5 (pc' := 83) (lv' := [some (.ref 0), some (.ref 100), some (.ref 57), some (.long x3), none, some (.int x5), some (.int x6), some (.int x7), some (.int 1), some (.int (x9 + 1)), some (.int x10), none, none]) (st' := []) (I' := I1) (J' := J1) rfl ?_
            refine Wp.drop [10] (lv' := [some (.ref 0), some (.ref 100), some (.ref 57), some (.long x3), none, some (.int x5), some (.int x6), some (.int x7), some (.int 1), some (.int (x9 + 1)), none, none, none]) rfl ?_
            exact h
          · replace h := h.2 h5
            refine Wp.steps 4 (pc' := 83) (lv' := [some (.ref 0), some (.ref 100), some (.ref 57), some (.long x3), none, some (.int x5), some (.int x6), some (.int x7), some (.int 0), some (.int (x9 + 1)), some (.int x10), none, none]) (st' := []) (I' := I1) (J' := J1) rfl ?_
            refine Wp.drop [10] (lv' := [some (.ref 0), some (.ref 100), some (.ref 57), some (.long x3), none, some (.int x5), some (.int x6), some (.int x7), some (.int 0), some (.int (x9 + 1)), none, none, none]) rfl ?_
            exact h
set_option maxHeartbeats 16000000 in
theorem v_Lw_filed_0_100_57_336 {d : Nat} {Q : Post} {I : I2} {J : J2} {x3 : Int64} {x5 : Int32} {x6 : Int32} {x7 : Int32} {x8 : Int32} {x9 : Int32} {x10 : Int32} {x11 : Int32} {s0 : Int32} (h : (s0 = 0 → Wp d Lw_filed Q 350 [some (.ref 0), some (.ref 100), some (.ref 57), some (.long x3), none, some (.int x5), some (.int x6), some (.int x7), some (.int 1), some (.int x9), some (.int x10), some (.int x11), some (.int 0)] [] I J) ∧ (¬ (s0 = 0) → Wp d Lw_filed Q 344 [some (.ref 0), some (.ref 100), some (.ref 57), some (.long x3), none, some (.int x5), some (.int x6), some (.int x7), some (.int x8), some (.int x9), some (.int x10), some (.int x11), none] [] I J)) : Wp d Lw_filed Q 336 [some (.ref 0), some (.ref 100), some (.ref 57), some (.long x3), none, some (.int x5), some (.int x6), some (.int x7), some (.int x8), some (.int x9), some (.int x10), some (.int x11), none] [.int s0] I J := by
  refine Wp.steps 1 (pc' := 337) (lv' := [some (.ref 0), some (.ref 100), some (.ref 57), some (.long x3), none, some (.int x5), some (.int x6), some (.int x7), some (.int x8), some (.int x9), some (.int x10), some (.int x11), none]) (st' := [.int 0, .int s0]) (I' := I) (J' := J) rfl ?_
  refine Wp.steps 1 (pc' := if s0 = 0 then 340 else 344) (lv' := [some (.ref 0), some (.ref 100), some (.ref 57), some (.long x3), none, some (.int x5), some (.int x6), some (.int x7), some (.int x8), some (.int x9), some (.int x10), some (.int x11), none]) (st' := []) (I' := I) (J' := J) rfl (Wp.ite (fun h1 => ?_) (fun h1 => ?_))
  · replace h := h.1 h1
    refine Wp.steps 5 (pc' := 350) (lv' := [some (.ref 0), some (.ref 100), some (.ref 57), some (.long x3), none, some (.int x5), some (.int x6), some (.int x7), some (.int 1), some (.int x9), some (.int x10), some (.int x11), some (.int 0)]) (st' := []) (I' := I) (J' := J) rfl ?_
    exact h
  · replace h := h.2 h1
    exact h
set_option maxHeartbeats 16000000 in
theorem v_Lw_filed_0_100_57_344 {d : Nat} {Q : Post} {I : I2} {J : J2} {x3 : Int64} {x5 : Int32} {x6 : Int32} {x7 : Int32} {x8 : Int32} {x9 : Int32} {x10 : Int32} {x11 : Int32} (h : Wp d Lw_filed Q 350 [some (.ref 0), some (.ref 100), some (.ref 57), some (.long x3), none, some (.int x5), some (.int x6), some (.int x7), some (.int 0), some (.int x9), some (.int x10), some (.int x11), some (.int 0)] [] I J) : Wp d Lw_filed Q 344 [some (.ref 0), some (.ref 100), some (.ref 57), some (.long x3), none, some (.int x5), some (.int x6), some (.int x7), some (.int x8), some (.int x9), some (.int x10), some (.int x11), none] [] I J := by
  refine Wp.steps 4 (pc' := 350) (lv' := [some (.ref 0), some (.ref 100), some (.ref 57), some (.long x3), none, some (.int x5), some (.int x6), some (.int x7), some (.int 0), some (.int x9), some (.int x10), some (.int x11), some (.int 0)]) (st' := []) (I' := I) (J' := J) rfl ?_
  exact h
set_option maxHeartbeats 16000000 in
theorem v_Lw_filed_0_100_57_350 {d : Nat} {Q : Post} {I : I2} {J : J2} {x3 : Int64} {x5 : Int32} {x6 : Int32} {x7 : Int32} {x8 : Int32} {x9 : Int32} {x10 : Int32} {x11 : Int32} {x12 : Int32} (h : (x12 < (I 57 1) → (x8 = 0 → Q (some (.int 0)) I J) ∧ (¬ (x8 = 0) → (0 < x11 → (((srI x11 x12) &&& 1) = 0 → Wp d Lw_filed Q 350 [some (.ref 0), some (.ref 100), some (.ref 57), some (.long x3), none, some (.int x5), some (.int x6), some (.int x7), some (.int 1), some (.int x9), some (.int x10), some (.int x11), some (.int (x12 + 1))] [] I J) ∧ (¬ (((srI x11 x12) &&& 1) = 0) → CI d Sb_file [.ref 0, .int x12] I J (fun v1 I1 J1 => (v1 < 0 → Wp d Lw_filed Q 350 [some (.ref 0), some (.ref 100), some (.ref 57), some (.long x3), none, some (.int x5), some (.int x6), some (.int x7), some (.int 0), some (.int x9), some (.int x10), some (.int x11), some (.int (x12 + 1))] [] I1 J1) ∧ (¬ (v1 < 0) → Wp d Lw_filed Q 350 [some (.ref 0), some (.ref 100), some (.ref 57), some (.long x3), none, some (.int x5), some (.int x6), some (.int x7), some (.int 1), some (.int x9), some (.int x10), some (.int x11), some (.int (x12 + 1))] [] I1 J1)))) ∧ (¬ (0 < x11) → (x11 < 0 → Wp d Lw_filed Q 438 [some (.ref 0), some (.ref 100), some (.ref 57), some (.long x3), none, some (.int x5), some (.int x6), some (.int x7), some (.int x8), some (.int x9), some (.int x10), some (.int x11), some (.int x12)] [] I J) ∧ (¬ (x11 < 0) → CI d Sb_opens [.ref 0, .int (-1)] I J (fun v1 I1 J1 => (v1 < 0 → Q (some (.int 0)) I1 J1) ∧ (¬ (v1 < 0) → CI d Sb_opens [.ref 0, .int (-1)] I1 J1 (fun v2 I2 J2 => (x9 < v2 → Q (some (.int 0)) I2 J2) ∧ (¬ (x9 < v2) → CI d Sb_files [.ref 0, .int x9, .int 0] I2 J2 (fun v3 I3 J3 => (v3 = 0 → Wp d Lw_filed Q 438 [some (.ref 0), some (.ref 100), some (.ref 57), some (.long x3), none, some (.int x5), some (.int x6), some (.int x7), some (.int x8), some (.int x9), some (.int x10), some (.int x11), some (.int x12)] [] I3 J3) ∧ (¬ (v3 = 0) → Q (some (.int 0)) I3 J3)))))))))) ∧ (¬ (x12 < (I 57 1)) → (x8 = 0 → Q (some (.int 0)) I J) ∧ (¬ (x8 = 0) → (x11 < 0 → Wp d Lw_filed Q 438 [some (.ref 0), some (.ref 100), some (.ref 57), some (.long x3), none, some (.int x5), some (.int x6), some (.int x7), some (.int x8), some (.int x9), some (.int x10), some (.int x11), some (.int x12)] [] I J) ∧ (¬ (x11 < 0) → CI d Sb_opens [.ref 0, .int (-1)] I J (fun v1 I1 J1 => (v1 < 0 → Q (some (.int 0)) I1 J1) ∧ (¬ (v1 < 0) → CI d Sb_opens [.ref 0, .int (-1)] I1 J1 (fun v2 I2 J2 => (x9 < v2 → Q (some (.int 0)) I2 J2) ∧ (¬ (x9 < v2) → CI d Sb_files [.ref 0, .int x9, .int 0] I2 J2 (fun v3 I3 J3 => (v3 = 0 → Wp d Lw_filed Q 438 [some (.ref 0), some (.ref 100), some (.ref 57), some (.long x3), none, some (.int x5), some (.int x6), some (.int x7), some (.int x8), some (.int x9), some (.int x10), some (.int x11), some (.int x12)] [] I3 J3) ∧ (¬ (v3 = 0) → Q (some (.int 0)) I3 J3)))))))))) : Wp d Lw_filed Q 350 [some (.ref 0), some (.ref 100), some (.ref 57), some (.long x3), none, some (.int x5), some (.int x6), some (.int x7), some (.int x8), some (.int x9), some (.int x10), some (.int x11), some (.int x12)] [] I J := by
  refine Wp.steps 4 (pc' := 355) (lv' := [some (.ref 0), some (.ref 100), some (.ref 57), some (.long x3), none, some (.int x5), some (.int x6), some (.int x7), some (.int x8), some (.int x9), some (.int x10), some (.int x11), some (.int x12)]) (st' := [.int (I 57 1), .int x12]) (I' := I) (J' := J) rfl ?_
  refine Wp.steps 1 (pc' := if x12 < (I 57 1) then 358 else 400) (lv' := [some (.ref 0), some (.ref 100), some (.ref 57), some (.long x3), none, some (.int x5), some (.int x6), some (.int x7), some (.int x8), some (.int x9), some (.int x10), some (.int x11), some (.int x12)]) (st' := []) (I' := I) (J' := J) rfl (Wp.ite (fun h1 => ?_) (fun h1 => ?_))
  · replace h := h.1 h1
    refine Wp.steps 1 (pc' := 360) (lv' := [some (.ref 0), some (.ref 100), some (.ref 57), some (.long x3), none, some (.int x5), some (.int x6), some (.int x7), some (.int x8), some (.int x9), some (.int x10), some (.int x11), some (.int x12)]) (st' := [.int x8]) (I' := I) (J' := J) rfl ?_
    refine Wp.steps 1 (pc' := if x8 = 0 then 400 else 363) (lv' := [some (.ref 0), some (.ref 100), some (.ref 57), some (.long x3), none, some (.int x5), some (.int x6), some (.int x7), some (.int x8), some (.int x9), some (.int x10), some (.int x11), some (.int x12)]) (st' := []) (I' := I) (J' := J) rfl (Wp.ite (fun h2 => ?_) (fun h2 => ?_))
    · replace h := h.1 h2
      refine Wp.steps 1 (pc' := 402) (lv' := [some (.ref 0), some (.ref 100), some (.ref 57), some (.long x3), none, some (.int x5), some (.int x6), some (.int x7), some (.int x8), some (.int x9), some (.int x10), some (.int x11), some (.int x12)]) (st' := [.int x8]) (I' := I) (J' := J) rfl ?_
      refine Wp.steps 1 (pc' := if x8 = 0 then 442 else 405) (lv' := [some (.ref 0), some (.ref 100), some (.ref 57), some (.long x3), none, some (.int x5), some (.int x6), some (.int x7), some (.int x8), some (.int x9), some (.int x10), some (.int x11), some (.int x12)]) (st' := []) (I' := I) (J' := J) rfl ?_
      rw [if_pos h2]
      refine Wp.steps 5 (pc' := 473) (lv' := [some (.ref 0), some (.ref 100), some (.ref 57), some (.long x3), none, some (.int x5), some (.int x6), some (.int x7), some (.int 0), some (.int x9), some (.int x10), some (.int x11), some (.int x12)]) (st' := [.int 0]) (I' := I) (J' := J) rfl ?_
      exact Wp.ret rfl h
    · replace h := h.2 h2
      refine Wp.steps 1 (pc' := 365) (lv' := [some (.ref 0), some (.ref 100), some (.ref 57), some (.long x3), none, some (.int x5), some (.int x6), some (.int x7), some (.int x8), some (.int x9), some (.int x10), some (.int x11), some (.int x12)]) (st' := [.int x11]) (I' := I) (J' := J) rfl ?_
      refine Wp.steps 1 (pc' := if 0 < x11 then 368 else 400) (lv' := [some (.ref 0), some (.ref 100), some (.ref 57), some (.long x3), none, some (.int x5), some (.int x6), some (.int x7), some (.int x8), some (.int x9), some (.int x10), some (.int x11), some (.int x12)]) (st' := []) (I' := I) (J' := J) rfl (Wp.ite (fun h3 => ?_) (fun h3 => ?_))
      · replace h := h.1 h3
        refine Wp.steps 5 (pc' := 375) (lv' := [some (.ref 0), some (.ref 100), some (.ref 57), some (.long x3), none, some (.int x5), some (.int x6), some (.int x7), some (.int x8), some (.int x9), some (.int x10), some (.int x11), some (.int x12)]) (st' := [.int ((srI x11 x12) &&& 1)]) (I' := I) (J' := J) rfl ?_
        refine Wp.steps 1 (pc' := if ((srI x11 x12) &&& 1) = 0 then 387 else 378) (lv' := [some (.ref 0), some (.ref 100), some (.ref 57), some (.long x3), none, some (.int x5), some (.int x6), some (.int x7), some (.int x8), some (.int x9), some (.int x10), some (.int x11), some (.int x12)]) (st' := []) (I' := I) (J' := J) rfl (Wp.ite (fun h4 => ?_) (fun h4 => ?_))
        · replace h := h.1 h4
          refine Wp.steps 5 (pc' := 350) (lv' := [some (.ref 0), some (.ref 100), some (.ref 57), some (.long x3), none, some (.int x5), some (.int x6), some (.int x7), some (.int 1), some (.int x9), some (.int x10), some (.int x11), some (.int (x12 + 1))]) (st' := []) (I' := I) (J' := J) rfl ?_
          exact h
        · replace h := h.2 h4
          refine Wp.steps 2 (pc' := 381) (lv' := [some (.ref 0), some (.ref 100), some (.ref 57), some (.long x3), none, some (.int x5), some (.int x6), some (.int x7), some (.int x8), some (.int x9), some (.int x10), some (.int x11), some (.int x12)]) (st' := [.int x12, .ref 0]) (I' := I) (J' := J) rfl ?_
          refine Wp.call (M' := Sb_file) (as := [.ref 0, .int x12]) (rest := []) rfl (CI.use h (fun v1 I1 J1 h => ?_))
          refine Wp.eqs (pc' := 384) (st' := [.int v1]) rfl rfl ?_
          refine Wp.steps 1 (pc' := if v1 < 0 then 391 else 387) (lv' := [some (.ref 0), some (.ref 100), some (.ref 57), some (.long x3), none, some (.int x5), some (.int x6), some (.int x7), some (.int x8), some (.int x9), some (.int x10), some (.int x11), some (.int x12)]) (st' := []) (I' := I1) (J' := J1) rfl (Wp.ite (fun h5 => ?_) (fun h5 => ?_))
          · replace h := h.1 h5
            refine Wp.steps 4 (pc' := 350) (lv' := [some (.ref 0), some (.ref 100), some (.ref 57), some (.long x3), none, some (.int x5), some (.int x6), some (.int x7), some (.int 0), some (.int x9), some (.int x10), some (.int x11), some (.int (x12 + 1))]) (st' := []) (I' := I1) (J' := J1) rfl ?_
            exact h
          · replace h := h.2 h5
            refine Wp.steps 5 (pc' := 350) (lv' := [some (.ref 0), some (.ref 100), some (.ref 57), some (.long x3), none, some (.int x5), some (.int x6), some (.int x7), some (.int 1), some (.int x9), some (.int x10), some (.int x11), some (.int (x12 + 1))]) (st' := []) (I' := I1) (J' := J1) rfl ?_
            exact h
      · replace h := h.2 h3
        refine Wp.steps 1 (pc' := 402) (lv' := [some (.ref 0), some (.ref 100), some (.ref 57), some (.long x3), none, some (.int x5), some (.int x6), some (.int x7), some (.int x8), some (.int x9), some (.int x10), some (.int x11), some (.int x12)]) (st' := [.int x8]) (I' := I) (J' := J) rfl ?_
        refine Wp.steps 1 (pc' := if x8 = 0 then 442 else 405) (lv' := [some (.ref 0), some (.ref 100), some (.ref 57), some (.long x3), none, some (.int x5), some (.int x6), some (.int x7), some (.int x8), some (.int x9), some (.int x10), some (.int x11), some (.int x12)]) (st' := []) (I' := I) (J' := J) rfl ?_
        rw [if_neg h2]
        refine Wp.steps 1 (pc' := 407) (lv' := [some (.ref 0), some (.ref 100), some (.ref 57), some (.long x3), none, some (.int x5), some (.int x6), some (.int x7), some (.int x8), some (.int x9), some (.int x10), some (.int x11), some (.int x12)]) (st' := [.int x11]) (I' := I) (J' := J) rfl ?_
        refine Wp.steps 1 (pc' := if x11 < 0 then 438 else 410) (lv' := [some (.ref 0), some (.ref 100), some (.ref 57), some (.long x3), none, some (.int x5), some (.int x6), some (.int x7), some (.int x8), some (.int x9), some (.int x10), some (.int x11), some (.int x12)]) (st' := []) (I' := I) (J' := J) rfl (Wp.ite (fun h4 => ?_) (fun h4 => ?_))
        · replace h := h.1 h4
          exact h
        · replace h := h.2 h4
          refine Wp.steps 2 (pc' := 412) (lv' := [some (.ref 0), some (.ref 100), some (.ref 57), some (.long x3), none, some (.int x5), some (.int x6), some (.int x7), some (.int x8), some (.int x9), some (.int x10), some (.int x11), some (.int x12)]) (st' := [.int (-1), .ref 0]) (I' := I) (J' := J) rfl ?_
          refine Wp.call (M' := Sb_opens) (as := [.ref 0, .int (-1)]) (rest := []) rfl (CI.use h (fun v1 I1 J1 h => ?_))
          refine Wp.eqs (pc' := 415) (st' := [.int v1]) rfl rfl ?_
          refine Wp.steps 1 (pc' := if v1 < 0 then 442 else 418) (lv' := [some (.ref 0), some (.ref 100), some (.ref 57), some (.long x3), none, some (.int x5), some (.int x6), some (.int x7), some (.int x8), some (.int x9), some (.int x10), some (.int x11), some (.int x12)]) (st' := []) (I' := I1) (J' := J1) rfl (Wp.ite (fun h5 => ?_) (fun h5 => ?_))
          · replace h := h.1 h5
            refine Wp.steps 5 (pc' := 473) (lv' := [some (.ref 0), some (.ref 100), some (.ref 57), some (.long x3), none, some (.int x5), some (.int x6), some (.int x7), some (.int 0), some (.int x9), some (.int x10), some (.int x11), some (.int x12)]) (st' := [.int 0]) (I' := I1) (J' := J1) rfl ?_
            exact Wp.ret rfl h
          · replace h := h.2 h5
            refine Wp.steps 2 (pc' := 420) (lv' := [some (.ref 0), some (.ref 100), some (.ref 57), some (.long x3), none, some (.int x5), some (.int x6), some (.int x7), some (.int x8), some (.int x9), some (.int x10), some (.int x11), some (.int x12)]) (st' := [.int (-1), .ref 0]) (I' := I1) (J' := J1) rfl ?_
            refine Wp.call (M' := Sb_opens) (as := [.ref 0, .int (-1)]) (rest := []) rfl (CI.use h (fun v2 I2 J2 h => ?_))
            refine Wp.eqs (pc' := 423) (st' := [.int v2]) rfl rfl ?_
            refine Wp.steps 1 (pc' := 425) (lv' := [some (.ref 0), some (.ref 100), some (.ref 57), some (.long x3), none, some (.int x5), some (.int x6), some (.int x7), some (.int x8), some (.int x9), some (.int x10), some (.int x11), some (.int x12)]) (st' := [.int x9, .int v2]) (I' := I2) (J' := J2) rfl ?_
            refine Wp.steps 1 (pc' := if x9 < v2 then 442 else 428) (lv' := [some (.ref 0), some (.ref 100), some (.ref 57), some (.long x3), none, some (.int x5), some (.int x6), some (.int x7), some (.int x8), some (.int x9), some (.int x10), some (.int x11), some (.int x12)]) (st' := []) (I' := I2) (J' := J2) rfl (Wp.ite (fun h6 => ?_) (fun h6 => ?_))
            · replace h := h.1 h6
              refine Wp.steps 5 (pc' := 473) (lv' := [some (.ref 0), some (.ref 100), some (.ref 57), some (.long x3), none, some (.int x5), some (.int x6), some (.int x7), some (.int 0), some (.int x9), some (.int x10), some (.int x11), some (.int x12)]) (st' := [.int 0]) (I' := I2) (J' := J2) rfl ?_
              exact Wp.ret rfl h
            · replace h := h.2 h6
              refine Wp.steps 3 (pc' := 432) (lv' := [some (.ref 0), some (.ref 100), some (.ref 57), some (.long x3), none, some (.int x5), some (.int x6), some (.int x7), some (.int x8), some (.int x9), some (.int x10), some (.int x11), some (.int x12)]) (st' := [.int 0, .int x9, .ref 0]) (I' := I2) (J' := J2) rfl ?_
              refine Wp.call (M' := Sb_files) (as := [.ref 0, .int x9, .int 0]) (rest := []) rfl (CI.use h (fun v3 I3 J3 h => ?_))
              refine Wp.eqs (pc' := 435) (st' := [.int v3]) rfl rfl ?_
              refine Wp.steps 1 (pc' := if v3 = 0 then 438 else 442) (lv' := [some (.ref 0), some (.ref 100), some (.ref 57), some (.long x3), none, some (.int x5), some (.int x6), some (.int x7), some (.int x8), some (.int x9), some (.int x10), some (.int x11), some (.int x12)]) (st' := []) (I' := I3) (J' := J3) rfl (Wp.ite (fun h7 => ?_) (fun h7 => ?_))
              · replace h := h.1 h7
                exact h
              · replace h := h.2 h7
                refine Wp.steps 5 (pc' := 473) (lv' := [some (.ref 0), some (.ref 100), some (.ref 57), some (.long x3), none, some (.int x5), some (.int x6), some (.int x7), some (.int 0), some (.int x9), some (.int x10), some (.int x11), some (.int x12)]) (st' := [.int 0]) (I' := I3) (J' := J3) rfl ?_
                exact Wp.ret rfl h
  · replace h := h.2 h1
    refine Wp.steps 1 (pc' := 402) (lv' := [some (.ref 0), some (.ref 100), some (.ref 57), some (.long x3), none, some (.int x5), some (.int x6), some (.int x7), some (.int x8), some (.int x9), some (.int x10), some (.int x11), some (.int x12)]) (st' := [.int x8]) (I' := I) (J' := J) rfl ?_
    refine Wp.steps 1 (pc' := if x8 = 0 then 442 else 405) (lv' := [some (.ref 0), some (.ref 100), some (.ref 57), some (.long x3), none, some (.int x5), some (.int x6), some (.int x7), some (.int x8), some (.int x9), some (.int x10), some (.int x11), some (.int x12)]) (st' := []) (I' := I) (J' := J) rfl (Wp.ite (fun h2 => ?_) (fun h2 => ?_))
    · replace h := h.1 h2
      refine Wp.steps 5 (pc' := 473) (lv' := [some (.ref 0), some (.ref 100), some (.ref 57), some (.long x3), none, some (.int x5), some (.int x6), some (.int x7), some (.int 0), some (.int x9), some (.int x10), some (.int x11), some (.int x12)]) (st' := [.int 0]) (I' := I) (J' := J) rfl ?_
      exact Wp.ret rfl h
    · replace h := h.2 h2
      refine Wp.steps 1 (pc' := 407) (lv' := [some (.ref 0), some (.ref 100), some (.ref 57), some (.long x3), none, some (.int x5), some (.int x6), some (.int x7), some (.int x8), some (.int x9), some (.int x10), some (.int x11), some (.int x12)]) (st' := [.int x11]) (I' := I) (J' := J) rfl ?_
      refine Wp.steps 1 (pc' := if x11 < 0 then 438 else 410) (lv' := [some (.ref 0), some (.ref 100), some (.ref 57), some (.long x3), none, some (.int x5), some (.int x6), some (.int x7), some (.int x8), some (.int x9), some (.int x10), some (.int x11), some (.int x12)]) (st' := []) (I' := I) (J' := J) rfl (Wp.ite (fun h3 => ?_) (fun h3 => ?_))
      · replace h := h.1 h3
        exact h
      · replace h := h.2 h3
        refine Wp.steps 2 (pc' := 412) (lv' := [some (.ref 0), some (.ref 100), some (.ref 57), some (.long x3), none, some (.int x5), some (.int x6), some (.int x7), some (.int x8), some (.int x9), some (.int x10), some (.int x11), some (.int x12)]) (st' := [.int (-1), .ref 0]) (I' := I) (J' := J) rfl ?_
        refine Wp.call (M' := Sb_opens) (as := [.ref 0, .int (-1)]) (rest := []) rfl (CI.use h (fun v1 I1 J1 h => ?_))
        refine Wp.eqs (pc' := 415) (st' := [.int v1]) rfl rfl ?_
        refine Wp.steps 1 (pc' := if v1 < 0 then 442 else 418) (lv' := [some (.ref 0), some (.ref 100), some (.ref 57), some (.long x3), none, some (.int x5), some (.int x6), some (.int x7), some (.int x8), some (.int x9), some (.int x10), some (.int x11), some (.int x12)]) (st' := []) (I' := I1) (J' := J1) rfl (Wp.ite (fun h4 => ?_) (fun h4 => ?_))
        · replace h := h.1 h4
          refine Wp.steps 5 (pc' := 473) (lv' := [some (.ref 0), some (.ref 100), some (.ref 57), some (.long x3), none, some (.int x5), some (.int x6), some (.int x7), some (.int 0), some (.int x9), some (.int x10), some (.int x11), some (.int x12)]) (st' := [.int 0]) (I' := I1) (J' := J1) rfl ?_
          exact Wp.ret rfl h
        · replace h := h.2 h4
          refine Wp.steps 2 (pc' := 420) (lv' := [some (.ref 0), some (.ref 100), some (.ref 57), some (.long x3), none, some (.int x5), some (.int x6), some (.int x7), some (.int x8), some (.int x9), some (.int x10), some (.int x11), some (.int x12)]) (st' := [.int (-1), .ref 0]) (I' := I1) (J' := J1) rfl ?_
          refine Wp.call (M' := Sb_opens) (as := [.ref 0, .int (-1)]) (rest := []) rfl (CI.use h (fun v2 I2 J2 h => ?_))
          refine Wp.eqs (pc' := 423) (st' := [.int v2]) rfl rfl ?_
          refine Wp.steps 1 (pc' := 425) (lv' := [some (.ref 0), some (.ref 100), some (.ref 57), some (.long x3), none, some (.int x5), some (.int x6), some (.int x7), some (.int x8), some (.int x9), some (.int x10), some (.int x11), some (.int x12)]) (st' := [.int x9, .int v2]) (I' := I2) (J' := J2) rfl ?_
          refine Wp.steps 1 (pc' := if x9 < v2 then 442 else 428) (lv' := [some (.ref 0), some (.ref 100), some (.ref 57), some (.long x3), none, some (.int x5), some (.int x6), some (.int x7), some (.int x8), some (.int x9), some (.int x10), some (.int x11), some (.int x12)]) (st' := []) (I' := I2) (J' := J2) rfl (Wp.ite (fun h5 => ?_) (fun h5 => ?_))
          · replace h := h.1 h5
            refine Wp.steps 5 (pc' := 473) (lv' := [some (.ref 0), some (.ref 100), some (.ref 57), some (.long x3), none, some (.int x5), some (.int x6), some (.int x7), some (.int 0), some (.int x9), some (.int x10), some (.int x11), some (.int x12)]) (st' := [.int 0]) (I' := I2) (J' := J2) rfl ?_
            exact Wp.ret rfl h
          · replace h := h.2 h5
            refine Wp.steps 3 (pc' := 432) (lv' := [some (.ref 0), some (.ref 100), some (.ref 57), some (.long x3), none, some (.int x5), some (.int x6), some (.int x7), some (.int x8), some (.int x9), some (.int x10), some (.int x11), some (.int x12)]) (st' := [.int 0, .int x9, .ref 0]) (I' := I2) (J' := J2) rfl ?_
            refine Wp.call (M' := Sb_files) (as := [.ref 0, .int x9, .int 0]) (rest := []) rfl (CI.use h (fun v3 I3 J3 h => ?_))
            refine Wp.eqs (pc' := 435) (st' := [.int v3]) rfl rfl ?_
            refine Wp.steps 1 (pc' := if v3 = 0 then 438 else 442) (lv' := [some (.ref 0), some (.ref 100), some (.ref 57), some (.long x3), none, some (.int x5), some (.int x6), some (.int x7), some (.int x8), some (.int x9), some (.int x10), some (.int x11), some (.int x12)]) (st' := []) (I' := I3) (J' := J3) rfl (Wp.ite (fun h6 => ?_) (fun h6 => ?_))
            · replace h := h.1 h6
              exact h
            · replace h := h.2 h6
              refine Wp.steps 5 (pc' := 473) (lv' := [some (.ref 0), some (.ref 100), some (.ref 57), some (.long x3), none, some (.int x5), some (.int x6), some (.int x7), some (.int 0), some (.int x9), some (.int x10), some (.int x11), some (.int x12)]) (st' := [.int 0]) (I' := I3) (J' := J3) rfl ?_
              exact Wp.ret rfl h
set_option maxHeartbeats 16000000 in
theorem v_Lw_filed_0_100_57_438 {d : Nat} {Q : Post} {I : I2} {J : J2} {x3 : Int64} {x5 : Int32} {x6 : Int32} {x7 : Int32} {x8 : Int32} {x9 : Int32} {x10 : Int32} {x11 : Int32} {x12 : Int32} (h : CI d Sb_restore [.ref 0] I J (fun v1 I1 J1 => (v1 = 1 → CL d Lw_hash [.ref 0, .ref 57] I1 J1 (fun v2 I2 J2 => ((lg_cmp v2 x3) = 0 → Q (some (.int 1)) I2 J2) ∧ (¬ ((lg_cmp v2 x3) = 0) → Q (some (.int 0)) I2 J2))) ∧ (¬ (v1 = 1) → Q (some (.int 0)) I1 J1))) : Wp d Lw_filed Q 438 [some (.ref 0), some (.ref 100), some (.ref 57), some (.long x3), none, some (.int x5), some (.int x6), some (.int x7), some (.int x8), some (.int x9), some (.int x10), some (.int x11), some (.int x12)] [] I J := by
  refine Wp.steps 6 (pc' := 451) (lv' := [some (.ref 0), some (.ref 100), some (.ref 57), some (.long x3), none, some (.int x5), some (.int x6), some (.int x7), some (.int 1), some (.int x9), some (.int x10), some (.int x11), some (.int x12)]) (st' := [.ref 0]) (I' := I) (J' := J) rfl ?_
  refine Wp.call (M' := Sb_restore) (as := [.ref 0]) (rest := []) rfl (CI.use h (fun v1 I1 J1 h => ?_))
  refine Wp.eqs (pc' := 454) (st' := [.int v1]) rfl rfl ?_
  refine Wp.steps 1 (pc' := 455) (lv' := [some (.ref 0), some (.ref 100), some (.ref 57), some (.long x3), none, some (.int x5), some (.int x6), some (.int x7), some (.int 1), some (.int x9), some (.int x10), some (.int x11), some (.int x12)]) (st' := [.int 1, .int v1]) (I' := I1) (J' := J1) rfl ?_
  refine Wp.steps 1 (pc' := if v1 = 1 then 458 else 472) (lv' := [some (.ref 0), some (.ref 100), some (.ref 57), some (.long x3), none, some (.int x5), some (.int x6), some (.int x7), some (.int 1), some (.int x9), some (.int x10), some (.int x11), some (.int x12)]) (st' := []) (I' := I1) (J' := J1) rfl (Wp.ite (fun h1 => ?_) (fun h1 => ?_))
  · replace h := h.1 h1
    refine Wp.steps 2 (pc' := 460) (lv' := [some (.ref 0), some (.ref 100), some (.ref 57), some (.long x3), none, some (.int x5), some (.int x6), some (.int x7), some (.int 1), some (.int x9), some (.int x10), some (.int x11), some (.int x12)]) (st' := [.ref 57, .ref 0]) (I' := I1) (J' := J1) rfl ?_
    refine Wp.call (M' := Lw_hash) (as := [.ref 0, .ref 57]) (rest := []) rfl (CL.use h (fun v2 I2 J2 h => ?_))
    refine Wp.eqs (pc' := 463) (st' := [.long v2]) rfl rfl ?_
    refine Wp.steps 2 (pc' := 465) (lv' := [some (.ref 0), some (.ref 100), some (.ref 57), some (.long x3), none, some (.int x5), some (.int x6), some (.int x7), some (.int 1), some (.int x9), some (.int x10), some (.int x11), some (.int x12)]) (st' := [.int (lg_cmp v2 x3)]) (I' := I2) (J' := J2) rfl ?_
    refine Wp.steps 1 (pc' := if (lg_cmp v2 x3) = 0 then 468 else 472) (lv' := [some (.ref 0), some (.ref 100), some (.ref 57), some (.long x3), none, some (.int x5), some (.int x6), some (.int x7), some (.int 1), some (.int x9), some (.int x10), some (.int x11), some (.int x12)]) (st' := []) (I' := I2) (J' := J2) rfl (Wp.ite (fun h2 => ?_) (fun h2 => ?_))
    · replace h := h.1 h2
      refine Wp.steps 2 (pc' := 473) (lv' := [some (.ref 0), some (.ref 100), some (.ref 57), some (.long x3), none, some (.int x5), some (.int x6), some (.int x7), some (.int 1), some (.int x9), some (.int x10), some (.int x11), some (.int x12)]) (st' := [.int 1]) (I' := I2) (J' := J2) rfl ?_
      exact Wp.ret rfl h
    · replace h := h.2 h2
      refine Wp.steps 1 (pc' := 473) (lv' := [some (.ref 0), some (.ref 100), some (.ref 57), some (.long x3), none, some (.int x5), some (.int x6), some (.int x7), some (.int 1), some (.int x9), some (.int x10), some (.int x11), some (.int x12)]) (st' := [.int 0]) (I' := I2) (J' := J2) rfl ?_
      exact Wp.ret rfl h
  · replace h := h.2 h1
    refine Wp.steps 1 (pc' := 473) (lv' := [some (.ref 0), some (.ref 100), some (.ref 57), some (.long x3), none, some (.int x5), some (.int x6), some (.int x7), some (.int 1), some (.int x9), some (.int x10), some (.int x11), some (.int x12)]) (st' := [.int 0]) (I' := I1) (J' := J1) rfl ?_
    exact Wp.ret rfl h
set_option maxHeartbeats 16000000 in
theorem v_Lw_played_0_57_0 {d : Nat} {Q : Post} {I : I2} {J : J2} {x2 : Int64} (h : CI d Sb_game [.ref 0, .int 0] I J (fun v1 I1 J1 => CI d Sb_game [.ref 0, .int 1] I1 J1 (fun v2 I2 J2 => (v1 < 0 → Wp d Lw_played Q 83 [some (.ref 0), some (.ref 57), some (.long x2), none, some (.int v1), some (.int v2), some (.int 0), some (.int 0), none, none, none, none, none, none, none, none, none] [] I2 J2) ∧ (¬ (v1 < 0) → (v1 < 3 → (0 < v1 → CI d Sb_count [.ref 0, .int 3] I2 J2 (fun v3 I3 J3 => (v3 = 0 → CI d Sb_count [.ref 0, .int 6] I3 J3 (fun v4 I4 J4 => (0 < v4 → Wp d Lw_played Q 83 [some (.ref 0), some (.ref 57), some (.long x2), none, some (.int v1), some (.int v2), some (.int 1), some (.int 0), none, none, none, none, none, none, none, none, none] [] I4 J4) ∧ (¬ (0 < v4) → Wp d Lw_played Q 52 [some (.ref 0), some (.ref 57), some (.long x2), none, some (.int v1), some (.int v2), none, none, none, none, none, none, none, none, none, none, none] [] I4 J4))) ∧ (¬ (v3 = 0) → Wp d Lw_played Q 52 [some (.ref 0), some (.ref 57), some (.long x2), none, some (.int v1), some (.int v2), none, none, none, none, none, none, none, none, none, none, none] [] I3 J3))) ∧ (¬ (0 < v1) → (v2 = 0 → CI d Sb_count [.ref 0, .int 3] I2 J2 (fun v3 I3 J3 => (v3 = 0 → CI d Sb_count [.ref 0, .int 6] I3 J3 (fun v4 I4 J4 => (0 < v4 → Wp d Lw_played Q 83 [some (.ref 0), some (.ref 57), some (.long x2), none, some (.int v1), some (.int v2), some (.int 1), some (.int 0), none, none, none, none, none, none, none, none, none] [] I4 J4) ∧ (¬ (0 < v4) → Wp d Lw_played Q 52 [some (.ref 0), some (.ref 57), some (.long x2), none, some (.int v1), some (.int v2), none, none, none, none, none, none, none, none, none, none, none] [] I4 J4))) ∧ (¬ (v3 = 0) → Wp d Lw_played Q 52 [some (.ref 0), some (.ref 57), some (.long x2), none, some (.int v1), some (.int v2), none, none, none, none, none, none, none, none, none, none, none] [] I3 J3))) ∧ (¬ (v2 = 0) → Wp d Lw_played Q 83 [some (.ref 0), some (.ref 57), some (.long x2), none, some (.int v1), some (.int v2), some (.int 0), some (.int 0), none, none, none, none, none, none, none, none, none] [] I2 J2))) ∧ (¬ (v1 < 3) → Wp d Lw_played Q 83 [some (.ref 0), some (.ref 57), some (.long x2), none, some (.int v1), some (.int v2), some (.int 0), some (.int 0), none, none, none, none, none, none, none, none, none] [] I2 J2))))) : Wp d Lw_played Q 0 [some (.ref 0), some (.ref 57), some (.long x2), none, none, none, none, none, none, none, none, none, none, none, none, none, none] [] I J := by
  refine Wp.steps 2 (pc' := 2) (lv' := [some (.ref 0), some (.ref 57), some (.long x2), none, none, none, none, none, none, none, none, none, none, none, none, none, none]) (st' := [.int 0, .ref 0]) (I' := I) (J' := J) rfl ?_
  refine Wp.call (M' := Sb_game) (as := [.ref 0, .int 0]) (rest := []) rfl (CI.use h (fun v1 I1 J1 h => ?_))
  refine Wp.eqs (pc' := 5) (st' := [.int v1]) rfl rfl ?_
  refine Wp.steps 3 (pc' := 9) (lv' := [some (.ref 0), some (.ref 57), some (.long x2), none, some (.int v1), none, none, none, none, none, none, none, none, none, none, none, none]) (st' := [.int 1, .ref 0]) (I' := I1) (J' := J1) rfl ?_
  refine Wp.call (M' := Sb_game) (as := [.ref 0, .int 1]) (rest := []) rfl (CI.use h (fun v2 I2 J2 h => ?_))
  refine Wp.eqs (pc' := 12) (st' := [.int v2]) rfl rfl ?_
  refine Wp.steps 2 (pc' := 16) (lv' := [some (.ref 0), some (.ref 57), some (.long x2), none, some (.int v1), some (.int v2), none, none, none, none, none, none, none, none, none, none, none]) (st' := [.int v1]) (I' := I2) (J' := J2) rfl ?_
  refine Wp.steps 1 (pc' := if v1 < 0 then 77 else 19) (lv' := [some (.ref 0), some (.ref 57), some (.long x2), none, some (.int v1), some (.int v2), none, none, none, none, none, none, none, none, none, none, none]) (st' := []) (I' := I2) (J' := J2) rfl (Wp.ite (fun h1 => ?_) (fun h1 => ?_))
  · replace h := h.1 h1
    refine Wp.steps 4 (pc' := 83) (lv' := [some (.ref 0), some (.ref 57), some (.long x2), none, some (.int v1), some (.int v2), some (.int 0), some (.int 0), none, none, none, none, none, none, none, none, none]) (st' := []) (I' := I2) (J' := J2) rfl ?_
    exact h
  · replace h := h.2 h1
    refine Wp.steps 2 (pc' := 22) (lv' := [some (.ref 0), some (.ref 57), some (.long x2), none, some (.int v1), some (.int v2), none, none, none, none, none, none, none, none, none, none, none]) (st' := [.int 3, .int v1]) (I' := I2) (J' := J2) rfl ?_
    refine Wp.steps 1 (pc' := if v1 < 3 then 25 else 77) (lv' := [some (.ref 0), some (.ref 57), some (.long x2), none, some (.int v1), some (.int v2), none, none, none, none, none, none, none, none, none, none, none]) (st' := []) (I' := I2) (J' := J2) rfl (Wp.ite (fun h2 => ?_) (fun h2 => ?_))
    · replace h := h.1 h2
      refine Wp.steps 1 (pc' := 27) (lv' := [some (.ref 0), some (.ref 57), some (.long x2), none, some (.int v1), some (.int v2), none, none, none, none, none, none, none, none, none, none, none]) (st' := [.int v1]) (I' := I2) (J' := J2) rfl ?_
      refine Wp.steps 1 (pc' := if 0 < v1 then 35 else 30) (lv' := [some (.ref 0), some (.ref 57), some (.long x2), none, some (.int v1), some (.int v2), none, none, none, none, none, none, none, none, none, none, none]) (st' := []) (I' := I2) (J' := J2) rfl (Wp.ite (fun h3 => ?_) (fun h3 => ?_))
      · replace h := h.1 h3
        refine Wp.steps 2 (pc' := 37) (lv' := [some (.ref 0), some (.ref 57), some (.long x2), none, some (.int v1), some (.int v2), none, none, none, none, none, none, none, none, none, none, none]) (st' := [.int 3, .ref 0]) (I' := I2) (J' := J2) rfl ?_
        refine Wp.call (M' := Sb_count) (as := [.ref 0, .int 3]) (rest := []) rfl (CI.use h (fun v3 I3 J3 h => ?_))
        refine Wp.eqs (pc' := 40) (st' := [.int v3]) rfl rfl ?_
        refine Wp.steps 1 (pc' := if v3 = 0 then 43 else 52) (lv' := [some (.ref 0), some (.ref 57), some (.long x2), none, some (.int v1), some (.int v2), none, none, none, none, none, none, none, none, none, none, none]) (st' := []) (I' := I3) (J' := J3) rfl (Wp.ite (fun h4 => ?_) (fun h4 => ?_))
        · replace h := h.1 h4
          refine Wp.steps 2 (pc' := 46) (lv' := [some (.ref 0), some (.ref 57), some (.long x2), none, some (.int v1), some (.int v2), none, none, none, none, none, none, none, none, none, none, none]) (st' := [.int 6, .ref 0]) (I' := I3) (J' := J3) rfl ?_
          refine Wp.call (M' := Sb_count) (as := [.ref 0, .int 6]) (rest := []) rfl (CI.use h (fun v4 I4 J4 h => ?_))
          refine Wp.eqs (pc' := 49) (st' := [.int v4]) rfl rfl ?_
          refine Wp.steps 1 (pc' := if 0 < v4 then 73 else 52) (lv' := [some (.ref 0), some (.ref 57), some (.long x2), none, some (.int v1), some (.int v2), none, none, none, none, none, none, none, none, none, none, none]) (st' := []) (I' := I4) (J' := J4) rfl (Wp.ite (fun h5 => ?_) (fun h5 => ?_))
          · replace h := h.1 h5
            refine Wp.steps 5 (pc' := 83) (lv' := [some (.ref 0), some (.ref 57), some (.long x2), none, some (.int v1), some (.int v2), some (.int 1), some (.int 0), none, none, none, none, none, none, none, none, none]) (st' := []) (I' := I4) (J' := J4) rfl ?_
            exact h
          · replace h := h.2 h5
            exact h
        · replace h := h.2 h4
          exact h
      · replace h := h.2 h3
        refine Wp.steps 1 (pc' := 32) (lv' := [some (.ref 0), some (.ref 57), some (.long x2), none, some (.int v1), some (.int v2), none, none, none, none, none, none, none, none, none, none, none]) (st' := [.int v2]) (I' := I2) (J' := J2) rfl ?_
        refine Wp.steps 1 (pc' := if v2 = 0 then 35 else 77) (lv' := [some (.ref 0), some (.ref 57), some (.long x2), none, some (.int v1), some (.int v2), none, none, none, none, none, none, none, none, none, none, none]) (st' := []) (I' := I2) (J' := J2) rfl (Wp.ite (fun h4 => ?_) (fun h4 => ?_))
        · replace h := h.1 h4
          refine Wp.steps 2 (pc' := 37) (lv' := [some (.ref 0), some (.ref 57), some (.long x2), none, some (.int v1), some (.int v2), none, none, none, none, none, none, none, none, none, none, none]) (st' := [.int 3, .ref 0]) (I' := I2) (J' := J2) rfl ?_
          refine Wp.call (M' := Sb_count) (as := [.ref 0, .int 3]) (rest := []) rfl (CI.use h (fun v3 I3 J3 h => ?_))
          refine Wp.eqs (pc' := 40) (st' := [.int v3]) rfl rfl ?_
          refine Wp.steps 1 (pc' := if v3 = 0 then 43 else 52) (lv' := [some (.ref 0), some (.ref 57), some (.long x2), none, some (.int v1), some (.int v2), none, none, none, none, none, none, none, none, none, none, none]) (st' := []) (I' := I3) (J' := J3) rfl (Wp.ite (fun h5 => ?_) (fun h5 => ?_))
          · replace h := h.1 h5
            refine Wp.steps 2 (pc' := 46) (lv' := [some (.ref 0), some (.ref 57), some (.long x2), none, some (.int v1), some (.int v2), none, none, none, none, none, none, none, none, none, none, none]) (st' := [.int 6, .ref 0]) (I' := I3) (J' := J3) rfl ?_
            refine Wp.call (M' := Sb_count) (as := [.ref 0, .int 6]) (rest := []) rfl (CI.use h (fun v4 I4 J4 h => ?_))
            refine Wp.eqs (pc' := 49) (st' := [.int v4]) rfl rfl ?_
            refine Wp.steps 1 (pc' := if 0 < v4 then 73 else 52) (lv' := [some (.ref 0), some (.ref 57), some (.long x2), none, some (.int v1), some (.int v2), none, none, none, none, none, none, none, none, none, none, none]) (st' := []) (I' := I4) (J' := J4) rfl (Wp.ite (fun h6 => ?_) (fun h6 => ?_))
            · replace h := h.1 h6
              refine Wp.steps 5 (pc' := 83) (lv' := [some (.ref 0), some (.ref 57), some (.long x2), none, some (.int v1), some (.int v2), some (.int 1), some (.int 0), none, none, none, none, none, none, none, none, none]) (st' := []) (I' := I4) (J' := J4) rfl ?_
              exact h
            · replace h := h.2 h6
              exact h
          · replace h := h.2 h5
            exact h
        · replace h := h.2 h4
          refine Wp.steps 4 (pc' := 83) (lv' := [some (.ref 0), some (.ref 57), some (.long x2), none, some (.int v1), some (.int v2), some (.int 0), some (.int 0), none, none, none, none, none, none, none, none, none]) (st' := []) (I' := I2) (J' := J2) rfl ?_
          exact h
    · replace h := h.2 h2
      refine Wp.steps 4 (pc' := 83) (lv' := [some (.ref 0), some (.ref 57), some (.long x2), none, some (.int v1), some (.int v2), some (.int 0), some (.int 0), none, none, none, none, none, none, none, none, none]) (st' := []) (I' := I2) (J' := J2) rfl ?_
      exact h
set_option maxHeartbeats 16000000 in
theorem v_Lw_played_0_57_52 {d : Nat} {Q : Post} {I : I2} {J : J2} {x2 : Int64} {x4 : Int32} {x5 : Int32} (h : (x4 = 2 → (x5 = 0 → CI d Sb_game [.ref 0, .int 2] I J (fun v1 I1 J1 => (v1 = (-4) → Wp d Lw_played Q 83 [some (.ref 0), some (.ref 57), some (.long x2), none, some (.int x4), some (.int x5), some (.int 1), some (.int 0), none, none, none, none, none, none, none, none, none] [] I1 J1) ∧ (¬ (v1 = (-4)) → Wp d Lw_played Q 83 [some (.ref 0), some (.ref 57), some (.long x2), none, some (.int x4), some (.int x5), some (.int 0), some (.int 0), none, none, none, none, none, none, none, none, none] [] I1 J1))) ∧ (¬ (x5 = 0) → Wp d Lw_played Q 83 [some (.ref 0), some (.ref 57), some (.long x2), none, some (.int x4), some (.int x5), some (.int 0), some (.int 0), none, none, none, none, none, none, none, none, none] [] I J)) ∧ (¬ (x4 = 2) → Wp d Lw_played Q 83 [some (.ref 0), some (.ref 57), some (.long x2), none, some (.int x4), some (.int x5), some (.int 0), some (.int 0), none, none, none, none, none, none, none, none, none] [] I J)) : Wp d Lw_played Q 52 [some (.ref 0), some (.ref 57), some (.long x2), none, some (.int x4), some (.int x5), none, none, none, none, none, none, none, none, none, none, none] [] I J := by
  refine Wp.steps 2 (pc' := 55) (lv' := [some (.ref 0), some (.ref 57), some (.long x2), none, some (.int x4), some (.int x5), none, none, none, none, none, none, none, none, none, none, none]) (st' := [.int 2, .int x4]) (I' := I) (J' := J) rfl ?_
  refine Wp.steps 1 (pc' := if x4 = 2 then 58 else 77) (lv' := [some (.ref 0), some (.ref 57), some (.long x2), none, some (.int x4), some (.int x5), none, none, none, none, none, none, none, none, none, none, none]) (st' := []) (I' := I) (J' := J) rfl (Wp.ite (fun h1 => ?_) (fun h1 => ?_))
  · replace h := h.1 h1
    refine Wp.steps 1 (pc' := 60) (lv' := [some (.ref 0), some (.ref 57), some (.long x2), none, some (.int x4), some (.int x5), none, none, none, none, none, none, none, none, none, none, none]) (st' := [.int x5]) (I' := I) (J' := J) rfl ?_
    refine Wp.steps 1 (pc' := if x5 = 0 then 63 else 77) (lv' := [some (.ref 0), some (.ref 57), some (.long x2), none, some (.int x4), some (.int x5), none, none, none, none, none, none, none, none, none, none, none]) (st' := []) (I' := I) (J' := J) rfl (Wp.ite (fun h2 => ?_) (fun h2 => ?_))
    · replace h := h.1 h2
      refine Wp.steps 2 (pc' := 65) (lv' := [some (.ref 0), some (.ref 57), some (.long x2), none, some (.int x4), some (.int x5), none, none, none, none, none, none, none, none, none, none, none]) (st' := [.int 2, .ref 0]) (I' := I) (J' := J) rfl ?_
      refine Wp.call (M' := Sb_game) (as := [.ref 0, .int 2]) (rest := []) rfl (CI.use h (fun v1 I1 J1 h => ?_))
      refine Wp.eqs (pc' := 68) (st' := [.int v1]) rfl rfl ?_
      refine Wp.steps 1 (pc' := 70) (lv' := [some (.ref 0), some (.ref 57), some (.long x2), none, some (.int x4), some (.int x5), none, none, none, none, none, none, none, none, none, none, none]) (st' := [.int (-4), .int v1]) (I' := I1) (J' := J1) rfl ?_
      refine Wp.steps 1 (pc' := if v1 = (-4) then 73 else 77) (lv' := [some (.ref 0), some (.ref 57), some (.long x2), none, some (.int x4), some (.int x5), none, none, none, none, none, none, none, none, none, none, none]) (st' := []) (I' := I1) (J' := J1) rfl (Wp.ite (fun h3 => ?_) (fun h3 => ?_))
      · replace h := h.1 h3
        refine Wp.steps 5 (pc' := 83) (lv' := [some (.ref 0), some (.ref 57), some (.long x2), none, some (.int x4), some (.int x5), some (.int 1), some (.int 0), none, none, none, none, none, none, none, none, none]) (st' := []) (I' := I1) (J' := J1) rfl ?_
        exact h
      · replace h := h.2 h3
        refine Wp.steps 4 (pc' := 83) (lv' := [some (.ref 0), some (.ref 57), some (.long x2), none, some (.int x4), some (.int x5), some (.int 0), some (.int 0), none, none, none, none, none, none, none, none, none]) (st' := []) (I' := I1) (J' := J1) rfl ?_
        exact h
    · replace h := h.2 h2
      refine Wp.steps 4 (pc' := 83) (lv' := [some (.ref 0), some (.ref 57), some (.long x2), none, some (.int x4), some (.int x5), some (.int 0), some (.int 0), none, none, none, none, none, none, none, none, none]) (st' := []) (I' := I) (J' := J) rfl ?_
      exact h
  · replace h := h.2 h1
    refine Wp.steps 4 (pc' := 83) (lv' := [some (.ref 0), some (.ref 57), some (.long x2), none, some (.int x4), some (.int x5), some (.int 0), some (.int 0), none, none, none, none, none, none, none, none, none]) (st' := []) (I' := I) (J' := J) rfl ?_
    exact h
set_option maxHeartbeats 16000000 in
theorem v_Lw_played_0_57_83 {d : Nat} {Q : Post} {I : I2} {J : J2} {x2 : Int64} {x4 : Int32} {x5 : Int32} {x6 : Int32} {x7 : Int32} (h : (x7 < (2 * (I 57 0)) → (x6 = 0 → Wp d Lw_played Q 247 [some (.ref 0), some (.ref 57), some (.long x2), none, some (.int x4), some (.int x5), some (.int x6), some (.int x5), some (.int 0), none, none, none, none, none, none, none, none] [] I J) ∧ (¬ (x6 = 0) → CI d Sb_count [.ref 0, .int 3] I J (fun v1 I1 J1 => (v1 = 0 → CI d Sb_of [.ref 0, .int (x7 / 2), .int (3 + (rmI x7 2))] I1 J1 (fun v2 I2 J2 => (v2 = 1 → CI d Sb_slide [.ref 0, .int (x7 / 2), .int (rmI x7 2)] I2 J2 (fun v3 I3 J3 => (v3 < 0 → CI d Sb_game [.ref 0, .int 0] I3 J3 (fun v4 I4 J4 => CI d Sb_game [.ref 0, .int 1] I4 J4 (fun v5 I5 J5 => Wp d Lw_played Q 83 [some (.ref 0), some (.ref 57), some (.long x2), none, some (.int x4), some (.int x5), some (.int 0), some (.int (x7 + 1)), none, none, none, none, none, none, none, none, none] [] I5 J5))) ∧ (¬ (v3 < 0) → CI d Sb_game [.ref 0, .int 0] I3 J3 (fun v4 I4 J4 => CI d Sb_game [.ref 0, .int 1] I4 J4 (fun v5 I5 J5 => (x4 = 1 → (v4 = 2 → (v5 < (x5 - 1) → Wp d Lw_played Q 83 [some (.ref 0), some (.ref 57), some (.long x2), none, some (.int x4), some (.int x5), some (.int 0), some (.int (x7 + 1)), none, none, none, none, none, none, none, none, none] [] I5 J5) ∧ (¬ (v5 < (x5 - 1)) → Wp d Lw_played Q 219 [some (.ref 0), some (.ref 57), some (.long x2), none, some (.int x4), some (.int x5), some (.int 1), some (.int x7), some (.int v4), some (.int v5), none, none, none, none, none, none, none] [] I5 J5)) ∧ (¬ (v4 = 2) → Wp d Lw_played Q 219 [some (.ref 0), some (.ref 57), some (.long x2), none, some (.int x4), some (.int x5), some (.int 1), some (.int x7), some (.int v4), some (.int v5), none, none, none, none, none, none, none] [] I5 J5)) ∧ (¬ (x4 = 1) → (x4 = 2 → (v4 = 1 → ((x5 - 1) < v5 → Wp d Lw_played Q 83 [some (.ref 0), some (.ref 57), some (.long x2), none, some (.int x4), some (.int x5), some (.int 0), some (.int (x7 + 1)), none, none, none, none, none, none, none, none, none] [] I5 J5) ∧ (¬ ((x5 - 1) < v5) → Wp d Lw_played Q 219 [some (.ref 0), some (.ref 57), some (.long x2), none, some (.int x4), some (.int x5), some (.int 1), some (.int x7), some (.int v4), some (.int v5), none, none, none, none, none, none, none] [] I5 J5)) ∧ (¬ (v4 = 1) → Wp d Lw_played Q 83 [some (.ref 0), some (.ref 57), some (.long x2), none, some (.int x4), some (.int x5), some (.int 0), some (.int (x7 + 1)), none, none, none, none, none, none, none, none, none] [] I5 J5)) ∧ (¬ (x4 = 2) → (v4 = 2 → Wp d Lw_played Q 83 [some (.ref 0), some (.ref 57), some (.long x2), none, some (.int x4), some (.int x5), some (.int 0), some (.int (x7 + 1)), none, none, none, none, none, none, none, none, none] [] I5 J5) ∧ (¬ (v4 = 2) → Wp d Lw_played Q 219 [some (.ref 0), some (.ref 57), some (.long x2), none, some (.int x4), some (.int x5), some (.int 1), some (.int x7), some (.int v4), some (.int v5), none, none, none, none, none, none, none] [] I5 J5)))))))) ∧ (¬ (v2 = 1) → Wp d Lw_played Q 83 [some (.ref 0), some (.ref 57), some (.long x2), none, some (.int x4), some (.int x5), some (.int x6), some (.int (x7 + 1)), none, none, none, none, none, none, none, none, none] [] I2 J2))) ∧ (¬ (v1 = 0) → Wp d Lw_played Q 247 [some (.ref 0), some (.ref 57), some (.long x2), none, some (.int x4), some (.int x5), some (.int x6), some (.int x5), some (.int 0), none, none, none, none, none, none, none, none] [] I1 J1)))) ∧ (¬ (x7 < (2 * (I 57 0))) → Wp d Lw_played Q 247 [some (.ref 0), some (.ref 57), some (.long x2), none, some (.int x4), some (.int x5), some (.int x6), some (.int x5), some (.int 0), none, none, none, none, none, none, none, none] [] I J)) : Wp d Lw_played Q 83 [some (.ref 0), some (.ref 57), some (.long x2), none, some (.int x4), some (.int x5), some (.int x6), some (.int x7), none, none, none, none, none, none, none, none, none] [] I J := by
  refine Wp.steps 6 (pc' := 90) (lv' := [some (.ref 0), some (.ref 57), some (.long x2), none, some (.int x4), some (.int x5), some (.int x6), some (.int x7), none, none, none, none, none, none, none, none, none]) (st' := [.int (2 * (I 57 0)), .int x7]) (I' := I) (J' := J) rfl ?_
  refine Wp.steps 1 (pc' := if x7 < (2 * (I 57 0)) then 93 else 240) (lv' := [some (.ref 0), some (.ref 57), some (.long x2), none, some (.int x4), some (.int x5), some (.int x6), some (.int x7), none, none, none, none, none, none, none, none, none]) (st' := []) (I' := I) (J' := J) rfl (Wp.ite (fun h1 => ?_) (fun h1 => ?_))
  · replace h := h.1 h1
    refine Wp.steps 1 (pc' := 95) (lv' := [some (.ref 0), some (.ref 57), some (.long x2), none, some (.int x4), some (.int x5), some (.int x6), some (.int x7), none, none, none, none, none, none, none, none, none]) (st' := [.int x6]) (I' := I) (J' := J) rfl ?_
    refine Wp.steps 1 (pc' := if x6 = 0 then 240 else 98) (lv' := [some (.ref 0), some (.ref 57), some (.long x2), none, some (.int x4), some (.int x5), some (.int x6), some (.int x7), none, none, none, none, none, none, none, none, none]) (st' := []) (I' := I) (J' := J) rfl (Wp.ite (fun h2 => ?_) (fun h2 => ?_))
    · replace h := h.1 h2
      refine Wp.steps 4 (pc' := 247) (lv' := [some (.ref 0), some (.ref 57), some (.long x2), none, some (.int x4), some (.int x5), some (.int x6), some (.int x5), some (.int 0), none, none, none, none, none, none, none, none]) (st' := []) (I' := I) (J' := J) rfl ?_
      exact h
    · replace h := h.2 h2
      refine Wp.steps 2 (pc' := 100) (lv' := [some (.ref 0), some (.ref 57), some (.long x2), none, some (.int x4), some (.int x5), some (.int x6), some (.int x7), none, none, none, none, none, none, none, none, none]) (st' := [.int 3, .ref 0]) (I' := I) (J' := J) rfl ?_
      refine Wp.call (M' := Sb_count) (as := [.ref 0, .int 3]) (rest := []) rfl (CI.use h (fun v1 I1 J1 h => ?_))
      refine Wp.eqs (pc' := 103) (st' := [.int v1]) rfl rfl ?_
      refine Wp.steps 1 (pc' := if v1 = 0 then 106 else 240) (lv' := [some (.ref 0), some (.ref 57), some (.long x2), none, some (.int x4), some (.int x5), some (.int x6), some (.int x7), none, none, none, none, none, none, none, none, none]) (st' := []) (I' := I1) (J' := J1) rfl (Wp.ite (fun h3 => ?_) (fun h3 => ?_))
      · replace h := h.1 h3
        refine Wp.steps 9 (pc' := 117) (lv' := [some (.ref 0), some (.ref 57), some (.long x2), none, some (.int x4), some (.int x5), some (.int x6), some (.int x7), none, none, none, none, none, none, none, none, none]) (st' := [.int (3 + (rmI x7 2)), .int (x7 / 2), .ref 0]) (I' := I1) (J' := J1) rfl ?_
        refine Wp.call (M' := Sb_of) (as := [.ref 0, .int (x7 / 2), .int (3 + (rmI x7 2))]) (rest := []) rfl (CI.use h (fun v2 I2 J2 h => ?_))
        refine Wp.eqs (pc' := 120) (st' := [.int v2]) rfl rfl ?_
        refine Wp.steps 1 (pc' := 121) (lv' := [some (.ref 0), some (.ref 57), some (.long x2), none, some (.int x4), some (.int x5), some (.int x6), some (.int x7), none, none, none, none, none, none, none, none, none]) (st' := [.int 1, .int v2]) (I' := I2) (J' := J2) rfl ?_
        refine Wp.steps 1 (pc' := if v2 = 1 then 124 else 234) (lv' := [some (.ref 0), some (.ref 57), some (.long x2), none, some (.int x4), some (.int x5), some (.int x6), some (.int x7), none, none, none, none, none, none, none, none, none]) (st' := []) (I' := I2) (J' := J2) rfl (Wp.ite (fun h4 => ?_) (fun h4 => ?_))
        · replace h := h.1 h4
          refine Wp.steps 7 (pc' := 133) (lv' := [some (.ref 0), some (.ref 57), some (.long x2), none, some (.int x4), some (.int x5), some (.int x6), some (.int x7), none, none, none, none, none, none, none, none, none]) (st' := [.int (rmI x7 2), .int (x7 / 2), .ref 0]) (I' := I2) (J' := J2) rfl ?_
          refine Wp.call (M' := Sb_slide) (as := [.ref 0, .int (x7 / 2), .int (rmI x7 2)]) (rest := []) rfl (CI.use h (fun v3 I3 J3 h => ?_))
          refine Wp.eqs (pc' := 136) (st' := [.int v3]) rfl rfl ?_
          refine Wp.steps 1 (pc' := if v3 < 0 then 143 else 139) (lv' := [some (.ref 0), some (.ref 57), some (.long x2), none, some (.int x4), some (.int x5), some (.int x6), some (.int x7), none, none, none, none, none, none, none, none, none]) (st' := []) (I' := I3) (J' := J3) rfl (Wp.ite (fun h5 => ?_) (fun h5 => ?_))
          · replace h := h.1 h5
            refine Wp.steps 4 (pc' := 148) (lv' := [some (.ref 0), some (.ref 57), some (.long x2), none, some (.int x4), some (.int x5), some (.int 0), some (.int x7), none, none, none, none, none, none, none, none, none]) (st' := [.int 0, .ref 0]) (I' := I3) (J' := J3) rfl ?_
            refine Wp.call (M' := Sb_game) (as := [.ref 0, .int 0]) (rest := []) rfl (CI.use h (fun v4 I4 J4 h => ?_))
            refine Wp.eqs (pc' := 151) (st' := [.int v4]) rfl rfl ?_
            refine Wp.steps 3 (pc' := 155) (lv' := [some (.ref 0), some (.ref 57), some (.long x2), none, some (.int x4), some (.int x5), some (.int 0), some (.int x7), some (.int v4), none, none, none, none, none, none, none, none]) (st' := [.int 1, .ref 0]) (I' := I4) (J' := J4) rfl ?_
            refine Wp.call (M' := Sb_game) (as := [.ref 0, .int 1]) (rest := []) rfl (CI.use h (fun v5 I5 J5 h => ?_))
            refine Wp.eqs (pc' := 158) (st' := [.int v5]) rfl rfl ?_
            refine Wp.steps 7 (pc' := 83) (lv' := [some (.ref 0), some (.ref 57), some (.long x2), none, some (.int x4), some (.int x5), some (.int 0), some (.int (x7 + 1)), some (.int v4), some (.int v5), none, none, none, none, none, none, none]) (st' := []) (I' := I5) (J' := J5) rfl ?_
            refine Wp.drop [8, 9] (lv' := [some (.ref 0), some (.ref 57), some (.long x2), none, some (.int x4), some (.int x5), some (.int 0), some (.int (x7 + 1)), none, none, none, none, none, none, none, none, none]) rfl ?_
            exact h
          · replace h := h.2 h5
            refine Wp.steps 5 (pc' := 148) (lv' := [some (.ref 0), some (.ref 57), some (.long x2), none, some (.int x4), some (.int x5), some (.int 1), some (.int x7), none, none, none, none, none, none, none, none, none]) (st' := [.int 0, .ref 0]) (I' := I3) (J' := J3) rfl ?_
            refine Wp.call (M' := Sb_game) (as := [.ref 0, .int 0]) (rest := []) rfl (CI.use h (fun v4 I4 J4 h => ?_))
            refine Wp.eqs (pc' := 151) (st' := [.int v4]) rfl rfl ?_
            refine Wp.steps 3 (pc' := 155) (lv' := [some (.ref 0), some (.ref 57), some (.long x2), none, some (.int x4), some (.int x5), some (.int 1), some (.int x7), some (.int v4), none, none, none, none, none, none, none, none]) (st' := [.int 1, .ref 0]) (I' := I4) (J' := J4) rfl ?_
            refine Wp.call (M' := Sb_game) (as := [.ref 0, .int 1]) (rest := []) rfl (CI.use h (fun v5 I5 J5 h => ?_))
            refine Wp.eqs (pc' := 158) (st' := [.int v5]) rfl rfl ?_
            refine Wp.steps 5 (pc' := 168) (lv' := [some (.ref 0), some (.ref 57), some (.long x2), none, some (.int x4), some (.int x5), some (.int 1), some (.int x7), some (.int v4), some (.int v5), none, none, none, none, none, none, none]) (st' := [.int 1, .int x4]) (I' := I5) (J' := J5) rfl ?_
            refine Wp.steps 1 (pc' := if x4 = 1 then 171 else 189) (lv' := [some (.ref 0), some (.ref 57), some (.long x2), none, some (.int x4), some (.int x5), some (.int 1), some (.int x7), some (.int v4), some (.int v5), none, none, none, none, none, none, none]) (st' := []) (I' := I5) (J' := J5) rfl (Wp.ite (fun h6 => ?_) (fun h6 => ?_))
            · replace h := h.1 h6
              refine Wp.steps 2 (pc' := 174) (lv' := [some (.ref 0), some (.ref 57), some (.long x2), none, some (.int x4), some (.int x5), some (.int 1), some (.int x7), some (.int v4), some (.int v5), none, none, none, none, none, none, none]) (st' := [.int 2, .int v4]) (I' := I5) (J' := J5) rfl ?_
              refine Wp.steps 1 (pc' := if v4 = 2 then 177 else 219) (lv' := [some (.ref 0), some (.ref 57), some (.long x2), none, some (.int x4), some (.int x5), some (.int 1), some (.int x7), some (.int v4), some (.int v5), none, none, none, none, none, none, none]) (st' := []) (I' := I5) (J' := J5) rfl (Wp.ite (fun h7 => ?_) (fun h7 => ?_))
              · replace h := h.1 h7
                refine Wp.steps 4 (pc' := 183) (lv' := [some (.ref 0), some (.ref 57), some (.long x2), none, some (.int x4), some (.int x5), some (.int 1), some (.int x7), some (.int v4), some (.int v5), none, none, none, none, none, none, none]) (st' := [.int (x5 - 1), .int v5]) (I' := I5) (J' := J5) rfl ?_
                refine Wp.steps 1 (pc' := if v5 < (x5 - 1) then 231 else 186) (lv' := [some (.ref 0), some (.ref 57), some (.long x2), none, some (.int x4), some (.int x5), some (.int 1), some (.int x7), some (.int v4), some (.int v5), none, none, none, none, none, none, none]) (st' := []) (I' := I5) (J' := J5) rfl (Wp.ite (fun h8 => ?_) (fun h8 => ?_))
                · replace h := h.1 h8
                  refine Wp.steps 4 (pc' := 83) (lv' := [some (.ref 0), some (.ref 57), some (.long x2), none, some (.int x4), some (.int x5), some (.int 0), some (.int (x7 + 1)), some (.int v4), some (.int v5), none, none, none, none, none, none, none]) (st' := []) (I' := I5) (J' := J5) rfl ?_
                  refine Wp.drop [8, 9] (lv' := [some (.ref 0), some (.ref 57), some (.long x2), none, some (.int x4), some (.int x5), some (.int 0), some (.int (x7 + 1)), none, none, none, none, none, none, none, none, none]) rfl ?_
                  exact h
                · replace h := h.2 h8
                  refine Wp.steps 1 (pc' := 219) (lv' := [some (.ref 0), some (.ref 57), some (.long x2), none, some (.int x4), some (.int x5), some (.int 1), some (.int x7), some (.int v4), some (.int v5), none, none, none, none, none, none, none]) (st' := []) (I' := I5) (J' := J5) rfl ?_
                  exact h
              · replace h := h.2 h7
                exact h
            · replace h := h.2 h6
              refine Wp.steps 2 (pc' := 192) (lv' := [some (.ref 0), some (.ref 57), some (.long x2), none, some (.int x4), some (.int x5), some (.int 1), some (.int x7), some (.int v4), some (.int v5), none, none, none, none, none, none, none]) (st' := [.int 2, .int x4]) (I' := I5) (J' := J5) rfl ?_
              refine Wp.steps 1 (pc' := if x4 = 2 then 195 else 213) (lv' := [some (.ref 0), some (.ref 57), some (.long x2), none, some (.int x4), some (.int x5), some (.int 1), some (.int x7), some (.int v4), some (.int v5), none, none, none, none, none, none, none]) (st' := []) (I' := I5) (J' := J5) rfl (Wp.ite (fun h7 => ?_) (fun h7 => ?_))
              · replace h := h.1 h7
                refine Wp.steps 2 (pc' := 198) (lv' := [some (.ref 0), some (.ref 57), some (.long x2), none, some (.int x4), some (.int x5), some (.int 1), some (.int x7), some (.int v4), some (.int v5), none, none, none, none, none, none, none]) (st' := [.int 1, .int v4]) (I' := I5) (J' := J5) rfl ?_
                refine Wp.steps 1 (pc' := if v4 = 1 then 201 else 231) (lv' := [some (.ref 0), some (.ref 57), some (.long x2), none, some (.int x4), some (.int x5), some (.int 1), some (.int x7), some (.int v4), some (.int v5), none, none, none, none, none, none, none]) (st' := []) (I' := I5) (J' := J5) rfl (Wp.ite (fun h8 => ?_) (fun h8 => ?_))
                · replace h := h.1 h8
                  refine Wp.steps 4 (pc' := 207) (lv' := [some (.ref 0), some (.ref 57), some (.long x2), none, some (.int x4), some (.int x5), some (.int 1), some (.int x7), some (.int v4), some (.int v5), none, none, none, none, none, none, none]) (st' := [.int (x5 - 1), .int v5]) (I' := I5) (J' := J5) rfl ?_
                  refine Wp.steps 1 (pc' := if (x5 - 1) < v5 then 231 else 210) (lv' := [some (.ref 0), some (.ref 57), some (.long x2), none, some (.int x4), some (.int x5), some (.int 1), some (.int x7), some (.int v4), some (.int v5), none, none, none, none, none, none, none]) (st' := []) (I' := I5) (J' := J5) rfl (Wp.ite (fun h9 => ?_) (fun h9 => ?_))
                  · replace h := h.1 h9
                    refine Wp.steps 4 (pc' := 83) (lv' := [some (.ref 0), some (.ref 57), some (.long x2), none, some (.int x4), some (.int x5), some (.int 0), some (.int (x7 + 1)), some (.int v4), some (.int v5), none, none, none, none, none, none, none]) (st' := []) (I' := I5) (J' := J5) rfl ?_
                    refine Wp.drop [8, 9] (lv' := [some (.ref 0), some (.ref 57), some (.long x2), none, some (.int x4), some (.int x5), some (.int 0), some (.int (x7 + 1)), none, none, none, none, none, none, none, none, none]) rfl ?_
                    exact h
                  · replace h := h.2 h9
                    refine Wp.steps 1 (pc' := 219) (lv' := [some (.ref 0), some (.ref 57), some (.long x2), none, some (.int x4), some (.int x5), some (.int 1), some (.int x7), some (.int v4), some (.int v5), none, none, none, none, none, none, none]) (st' := []) (I' := I5) (J' := J5) rfl ?_
                    exact h
                · replace h := h.2 h8
                  refine Wp.steps 4 (pc' := 83) (lv' := [some (.ref 0), some (.ref 57), some (.long x2), none, some (.int x4), some (.int x5), some (.int 0), some (.int (x7 + 1)), some (.int v4), some (.int v5), none, none, none, none, none, none, none]) (st' := []) (I' := I5) (J' := J5) rfl ?_
                  refine Wp.drop [8, 9] (lv' := [some (.ref 0), some (.ref 57), some (.long x2), none, some (.int x4), some (.int x5), some (.int 0), some (.int (x7 + 1)), none, none, none, none, none, none, none, none, none]) rfl ?_
                  exact h
              · replace h := h.2 h7
                refine Wp.steps 2 (pc' := 216) (lv' := [some (.ref 0), some (.ref 57), some (.long x2), none, some (.int x4), some (.int x5), some (.int 1), some (.int x7), some (.int v4), some (.int v5), none, none, none, none, none, none, none]) (st' := [.int 2, .int v4]) (I' := I5) (J' := J5) rfl ?_
                refine Wp.steps 1 (pc' := if v4 = 2 then 231 else 219) (lv' := [some (.ref 0), some (.ref 57), some (.long x2), none, some (.int x4), some (.int x5), some (.int 1), some (.int x7), some (.int v4), some (.int v5), none, none, none, none, none, none, none]) (st' := []) (I' := I5) (J' := J5) rfl (Wp.ite (fun h8 => ?_) (fun h8 => ?_))
                · replace h := h.1 h8
                  refine Wp.steps 4 (pc' := 83) (lv' := [some (.ref 0), some (.ref 57), some (.long x2), none, some (.int x4), some (.int x5), some (.int 0), some (.int (x7 + 1)), some (.int v4), some (.int v5), none, none, none, none, none, none, none]) (st' := []) (I' := I5) (J' := J5) rfl ?_
                  refine Wp.drop [8, 9] (lv' := [some (.ref 0), some (.ref 57), some (.long x2), none, some (.int x4), some (.int x5), some (.int 0), some (.int (x7 + 1)), none, none, none, none, none, none, none, none, none]) rfl ?_
                  exact h
                · replace h := h.2 h8
                  exact h
        · replace h := h.2 h4
          refine Wp.steps 2 (pc' := 83) (lv' := [some (.ref 0), some (.ref 57), some (.long x2), none, some (.int x4), some (.int x5), some (.int x6), some (.int (x7 + 1)), none, none, none, none, none, none, none, none, none]) (st' := []) (I' := I2) (J' := J2) rfl ?_
          exact h
      · replace h := h.2 h3
        refine Wp.steps 4 (pc' := 247) (lv' := [some (.ref 0), some (.ref 57), some (.long x2), none, some (.int x4), some (.int x5), some (.int x6), some (.int x5), some (.int 0), none, none, none, none, none, none, none, none]) (st' := []) (I' := I1) (J' := J1) rfl ?_
        exact h
  · replace h := h.2 h1
    refine Wp.steps 4 (pc' := 247) (lv' := [some (.ref 0), some (.ref 57), some (.long x2), none, some (.int x4), some (.int x5), some (.int x6), some (.int x5), some (.int 0), none, none, none, none, none, none, none, none]) (st' := []) (I' := I) (J' := J) rfl ?_
    exact h
set_option maxHeartbeats 16000000 in
theorem v_Lw_played_0_57_219 {d : Nat} {Q : Post} {I : I2} {J : J2} {x2 : Int64} {x4 : Int32} {x5 : Int32} {x6 : Int32} {x7 : Int32} {x8 : Int32} {x9 : Int32} (h : CI d Sb_restore [.ref 0] I J (fun v1 I1 J1 => (v1 = 1 → Wp d Lw_played Q 83 [some (.ref 0), some (.ref 57), some (.long x2), none, some (.int x4), some (.int x5), some (.int 1), some (.int (x7 + 1)), none, none, none, none, none, none, none, none, none] [] I1 J1) ∧ (¬ (v1 = 1) → Wp d Lw_played Q 83 [some (.ref 0), some (.ref 57), some (.long x2), none, some (.int x4), some (.int x5), some (.int 0), some (.int (x7 + 1)), none, none, none, none, none, none, none, none, none] [] I1 J1))) : Wp d Lw_played Q 219 [some (.ref 0), some (.ref 57), some (.long x2), none, some (.int x4), some (.int x5), some (.int x6), some (.int x7), some (.int x8), some (.int x9), none, none, none, none, none, none, none] [] I J := by
  refine Wp.steps 1 (pc' := 220) (lv' := [some (.ref 0), some (.ref 57), some (.long x2), none, some (.int x4), some (.int x5), some (.int x6), some (.int x7), some (.int x8), some (.int x9), none, none, none, none, none, none, none]) (st' := [.ref 0]) (I' := I) (J' := J) rfl ?_
  refine Wp.call (M' := Sb_restore) (as := [.ref 0]) (rest := []) rfl (CI.use h (fun v1 I1 J1 h => ?_))
  refine Wp.eqs (pc' := 223) (st' := [.int v1]) rfl rfl ?_
  refine Wp.steps 1 (pc' := 224) (lv' := [some (.ref 0), some (.ref 57), some (.long x2), none, some (.int x4), some (.int x5), some (.int x6), some (.int x7), some (.int x8), some (.int x9), none, none, none, none, none, none, none]) (st' := [.int 1, .int v1]) (I' := I1) (J' := J1) rfl ?_
  refine Wp.steps 1 (pc' := if v1 = 1 then 227 else 231) (lv' := [some (.ref 0), some (.ref 57), some (.long x2), none, some (.int x4), some (.int x5), some (.int x6), some (.int x7), some (.int x8), some (.int x9), none, none, none, none, none, none, none]) (st' := []) (I' := I1) (J' := J1) rfl (Wp.ite (fun h1 => ?_) (fun h1 => ?_))
  · replace h := h.1 h1
    refine Wp.steps 5 (pc' := 83) (lv' := [some (.ref 0), some (.ref 57), some (.long x2), none, some (.int x4), some (.int x5), some (.int 1), some (.int (x7 + 1)), some (.int x8), some (.int x9), none, none, none, none, none, none, none]) (st' := []) (I' := I1) (J' := J1) rfl ?_
    refine Wp.drop [8, 9] (lv' := [some (.ref 0), some (.ref 57), some (.long x2), none, some (.int x4), some (.int x5), some (.int 1), some (.int (x7 + 1)), none, none, none, none, none, none, none, none, none]) rfl ?_
    exact h
  · replace h := h.2 h1
    refine Wp.steps 4 (pc' := 83) (lv' := [some (.ref 0), some (.ref 57), some (.long x2), none, some (.int x4), some (.int x5), some (.int 0), some (.int (x7 + 1)), some (.int x8), some (.int x9), none, none, none, none, none, none, none]) (st' := []) (I' := I1) (J' := J1) rfl ?_
    refine Wp.drop [8, 9] (lv' := [some (.ref 0), some (.ref 57), some (.long x2), none, some (.int x4), some (.int x5), some (.int 0), some (.int (x7 + 1)), none, none, none, none, none, none, none, none, none]) rfl ?_
    exact h
set_option maxHeartbeats 16000000 in
theorem v_Lw_played_0_57_247 {d : Nat} {Q : Post} {I : I2} {J : J2} {x2 : Int64} {x4 : Int32} {x5 : Int32} {x6 : Int32} {x7 : Int32} {x8 : Int32} (h : (x8 < 20 → (x6 = 0 → Wp d Lw_played Q 388 [some (.ref 0), some (.ref 57), some (.long x2), none, some (.int x4), some (.int x5), some (.int 0), some (.int x7), some (.long 0), none, some (.long 1), none, some (.int 0), none, none, none, none] [] I J) ∧ (¬ (x6 = 0) → CI d Sb_game [.ref 0, .int 2] I J (fun v1 I1 J1 => (v1 < 0 → CI d Sb_restore [.ref 0] I1 J1 (fun v2 I2 J2 => (v2 = 1 → Wp d Lw_played Q 388 [some (.ref 0), some (.ref 57), some (.long x2), none, some (.int x4), some (.int x5), some (.int 1), some (.int x7), some (.long 0), none, some (.long 1), none, some (.int 0), none, none, none, none] [] I2 J2) ∧ (¬ (v2 = 1) → Wp d Lw_played Q 388 [some (.ref 0), some (.ref 57), some (.long x2), none, some (.int x4), some (.int x5), some (.int 0), some (.int x7), some (.long 0), none, some (.long 1), none, some (.int 0), none, none, none, none] [] I2 J2))) ∧ (¬ (v1 < 0) → CI d Sb_game [.ref 0, .int 2] I1 J1 (fun v2 I2 J2 => CI d Sb_slide [.ref 0, .int (v2 / 10), .int (rmI v2 10)] I2 J2 (fun v3 I3 J3 => (v3 < 0 → (x4 = 0 → Wp d Lw_played Q 247 [some (.ref 0), some (.ref 57), some (.long x2), none, some (.int 0), some (.int x5), some (.int 0), some (.int (x7 + (-1))), some (.int (x8 + 1)), none, none, none, none, none, none, none, none] [] I3 J3) ∧ (¬ (x4 = 0) → Wp d Lw_played Q 247 [some (.ref 0), some (.ref 57), some (.long x2), none, some (.int (3 - x4)), some (.int x5), some (.int 0), some (.int (x7 + (-1))), some (.int (x8 + 1)), none, none, none, none, none, none, none, none] [] I3 J3)) ∧ (¬ (v3 < 0) → (x4 = 0 → CI d Sb_game [.ref 0, .int 0] I3 J3 (fun v4 I4 J4 => (v4 = 0 → Wp d Lw_played Q 247 [some (.ref 0), some (.ref 57), some (.long x2), none, some (.int 0), some (.int x5), some (.int 1), some (.int (x7 + (-1))), some (.int (x8 + 1)), none, none, none, none, none, none, none, none] [] I4 J4) ∧ (¬ (v4 = 0) → Wp d Lw_played Q 247 [some (.ref 0), some (.ref 57), some (.long x2), none, some (.int 0), some (.int x5), some (.int 0), some (.int (x7 + (-1))), some (.int (x8 + 1)), none, none, none, none, none, none, none, none] [] I4 J4))) ∧ (¬ (x4 = 0) → CI d Sb_game [.ref 0, .int 0] I3 J3 (fun v4 I4 J4 => (v4 = (3 - x4) → ((3 - x4) = 0 → Wp d Lw_played Q 247 [some (.ref 0), some (.ref 57), some (.long x2), none, some (.int (3 - x4)), some (.int x5), some (.int 1), some (.int (x7 + (-1))), some (.int (x8 + 1)), none, none, none, none, none, none, none, none] [] I4 J4) ∧ (¬ ((3 - x4) = 0) → CI d Sb_game [.ref 0, .int 1] I4 J4 (fun v5 I5 J5 => (v5 = (x7 + (-1)) → Wp d Lw_played Q 247 [some (.ref 0), some (.ref 57), some (.long x2), none, some (.int (3 - x4)), some (.int x5), some (.int 1), some (.int (x7 + (-1))), some (.int (x8 + 1)), none, none, none, none, none, none, none, none] [] I5 J5) ∧ (¬ (v5 = (x7 + (-1))) → Wp d Lw_played Q 247 [some (.ref 0), some (.ref 57), some (.long x2), none, some (.int (3 - x4)), some (.int x5), some (.int 0), some (.int (x7 + (-1))), some (.int (x8 + 1)), none, none, none, none, none, none, none, none] [] I5 J5)))) ∧ (¬ (v4 = (3 - x4)) → Wp d Lw_played Q 247 [some (.ref 0), some (.ref 57), some (.long x2), none, some (.int (3 - x4)), some (.int x5), some (.int 0), some (.int (x7 + (-1))), some (.int (x8 + 1)), none, none, none, none, none, none, none, none] [] I4 J4)))))))))) ∧ (¬ (x8 < 20) → (x6 = 0 → Wp d Lw_played Q 388 [some (.ref 0), some (.ref 57), some (.long x2), none, some (.int x4), some (.int x5), some (.int 0), some (.int x7), some (.long 0), none, some (.long 1), none, some (.int 0), none, none, none, none] [] I J) ∧ (¬ (x6 = 0) → CI d Sb_restore [.ref 0] I J (fun v1 I1 J1 => (v1 = 1 → Wp d Lw_played Q 388 [some (.ref 0), some (.ref 57), some (.long x2), none, some (.int x4), some (.int x5), some (.int 1), some (.int x7), some (.long 0), none, some (.long 1), none, some (.int 0), none, none, none, none] [] I1 J1) ∧ (¬ (v1 = 1) → Wp d Lw_played Q 388 [some (.ref 0), some (.ref 57), some (.long x2), none, some (.int x4), some (.int x5), some (.int 0), some (.int x7), some (.long 0), none, some (.long 1), none, some (.int 0), none, none, none, none] [] I1 J1))))) : Wp d Lw_played Q 247 [some (.ref 0), some (.ref 57), some (.long x2), none, some (.int x4), some (.int x5), some (.int x6), some (.int x7), some (.int x8), none, none, none, none, none, none, none, none] [] I J := by
  refine Wp.steps 2 (pc' := 251) (lv' := [some (.ref 0), some (.ref 57), some (.long x2), none, some (.int x4), some (.int x5), some (.int x6), some (.int x7), some (.int x8), none, none, none, none, none, none, none, none]) (st' := [.int 20, .int x8]) (I' := I) (J' := J) rfl ?_
  refine Wp.steps 1 (pc' := if x8 < 20 then 254 else 359) (lv' := [some (.ref 0), some (.ref 57), some (.long x2), none, some (.int x4), some (.int x5), some (.int x6), some (.int x7), some (.int x8), none, none, none, none, none, none, none, none]) (st' := []) (I' := I) (J' := J) rfl (Wp.ite (fun h1 => ?_) (fun h1 => ?_))
  · replace h := h.1 h1
    refine Wp.steps 1 (pc' := 256) (lv' := [some (.ref 0), some (.ref 57), some (.long x2), none, some (.int x4), some (.int x5), some (.int x6), some (.int x7), some (.int x8), none, none, none, none, none, none, none, none]) (st' := [.int x6]) (I' := I) (J' := J) rfl ?_
    refine Wp.steps 1 (pc' := if x6 = 0 then 359 else 259) (lv' := [some (.ref 0), some (.ref 57), some (.long x2), none, some (.int x4), some (.int x5), some (.int x6), some (.int x7), some (.int x8), none, none, none, none, none, none, none, none]) (st' := []) (I' := I) (J' := J) rfl (Wp.ite (fun h2 => ?_) (fun h2 => ?_))
    · replace h := h.1 h2
      refine Wp.steps 1 (pc' := 361) (lv' := [some (.ref 0), some (.ref 57), some (.long x2), none, some (.int x4), some (.int x5), some (.int x6), some (.int x7), some (.int x8), none, none, none, none, none, none, none, none]) (st' := [.int x6]) (I' := I) (J' := J) rfl ?_
      refine Wp.steps 1 (pc' := if x6 = 0 then 376 else 364) (lv' := [some (.ref 0), some (.ref 57), some (.long x2), none, some (.int x4), some (.int x5), some (.int x6), some (.int x7), some (.int x8), none, none, none, none, none, none, none, none]) (st' := []) (I' := I) (J' := J) rfl ?_
      rw [if_pos h2]
      refine Wp.steps 8 (pc' := 388) (lv' := [some (.ref 0), some (.ref 57), some (.long x2), none, some (.int x4), some (.int x5), some (.int 0), some (.int x7), some (.long 0), none, some (.long 1), none, some (.int 0), none, none, none, none]) (st' := []) (I' := I) (J' := J) rfl ?_
      exact h
    · replace h := h.2 h2
      refine Wp.steps 2 (pc' := 261) (lv' := [some (.ref 0), some (.ref 57), some (.long x2), none, some (.int x4), some (.int x5), some (.int x6), some (.int x7), some (.int x8), none, none, none, none, none, none, none, none]) (st' := [.int 2, .ref 0]) (I' := I) (J' := J) rfl ?_
      refine Wp.call (M' := Sb_game) (as := [.ref 0, .int 2]) (rest := []) rfl (CI.use h (fun v1 I1 J1 h => ?_))
      refine Wp.eqs (pc' := 264) (st' := [.int v1]) rfl rfl ?_
      refine Wp.steps 1 (pc' := if v1 < 0 then 359 else 267) (lv' := [some (.ref 0), some (.ref 57), some (.long x2), none, some (.int x4), some (.int x5), some (.int x6), some (.int x7), some (.int x8), none, none, none, none, none, none, none, none]) (st' := []) (I' := I1) (J' := J1) rfl (Wp.ite (fun h3 => ?_) (fun h3 => ?_))
      · replace h := h.1 h3
        refine Wp.steps 1 (pc' := 361) (lv' := [some (.ref 0), some (.ref 57), some (.long x2), none, some (.int x4), some (.int x5), some (.int x6), some (.int x7), some (.int x8), none, none, none, none, none, none, none, none]) (st' := [.int x6]) (I' := I1) (J' := J1) rfl ?_
        refine Wp.steps 1 (pc' := if x6 = 0 then 376 else 364) (lv' := [some (.ref 0), some (.ref 57), some (.long x2), none, some (.int x4), some (.int x5), some (.int x6), some (.int x7), some (.int x8), none, none, none, none, none, none, none, none]) (st' := []) (I' := I1) (J' := J1) rfl ?_
        rw [if_neg h2]
        refine Wp.steps 1 (pc' := 365) (lv' := [some (.ref 0), some (.ref 57), some (.long x2), none, some (.int x4), some (.int x5), some (.int x6), some (.int x7), some (.int x8), none, none, none, none, none, none, none, none]) (st' := [.ref 0]) (I' := I1) (J' := J1) rfl ?_
        refine Wp.call (M' := Sb_restore) (as := [.ref 0]) (rest := []) rfl (CI.use h (fun v2 I2 J2 h => ?_))
        refine Wp.eqs (pc' := 368) (st' := [.int v2]) rfl rfl ?_
        refine Wp.steps 1 (pc' := 369) (lv' := [some (.ref 0), some (.ref 57), some (.long x2), none, some (.int x4), some (.int x5), some (.int x6), some (.int x7), some (.int x8), none, none, none, none, none, none, none, none]) (st' := [.int 1, .int v2]) (I' := I2) (J' := J2) rfl ?_
        refine Wp.steps 1 (pc' := if v2 = 1 then 372 else 376) (lv' := [some (.ref 0), some (.ref 57), some (.long x2), none, some (.int x4), some (.int x5), some (.int x6), some (.int x7), some (.int x8), none, none, none, none, none, none, none, none]) (st' := []) (I' := I2) (J' := J2) rfl (Wp.ite (fun h4 => ?_) (fun h4 => ?_))
        · replace h := h.1 h4
          refine Wp.steps 9 (pc' := 388) (lv' := [some (.ref 0), some (.ref 57), some (.long x2), none, some (.int x4), some (.int x5), some (.int 1), some (.int x7), some (.long 0), none, some (.long 1), none, some (.int 0), none, none, none, none]) (st' := []) (I' := I2) (J' := J2) rfl ?_
          exact h
        · replace h := h.2 h4
          refine Wp.steps 8 (pc' := 388) (lv' := [some (.ref 0), some (.ref 57), some (.long x2), none, some (.int x4), some (.int x5), some (.int 0), some (.int x7), some (.long 0), none, some (.long 1), none, some (.int 0), none, none, none, none]) (st' := []) (I' := I2) (J' := J2) rfl ?_
          exact h
      · replace h := h.2 h3
        refine Wp.steps 2 (pc' := 269) (lv' := [some (.ref 0), some (.ref 57), some (.long x2), none, some (.int x4), some (.int x5), some (.int x6), some (.int x7), some (.int x8), none, none, none, none, none, none, none, none]) (st' := [.int 2, .ref 0]) (I' := I1) (J' := J1) rfl ?_
        refine Wp.call (M' := Sb_game) (as := [.ref 0, .int 2]) (rest := []) rfl (CI.use h (fun v2 I2 J2 h => ?_))
        refine Wp.eqs (pc' := 272) (st' := [.int v2]) rfl rfl ?_
        refine Wp.steps 8 (pc' := 285) (lv' := [some (.ref 0), some (.ref 57), some (.long x2), none, some (.int x4), some (.int x5), some (.int x6), some (.int x7), some (.int x8), some (.int v2), none, none, none, none, none, none, none]) (st' := [.int (rmI v2 10), .int (v2 / 10), .ref 0]) (I' := I2) (J' := J2) rfl ?_
        refine Wp.call (M' := Sb_slide) (as := [.ref 0, .int (v2 / 10), .int (rmI v2 10)]) (rest := []) rfl (CI.use h (fun v3 I3 J3 h => ?_))
        refine Wp.eqs (pc' := 288) (st' := [.int v3]) rfl rfl ?_
        refine Wp.steps 1 (pc' := if v3 < 0 then 295 else 291) (lv' := [some (.ref 0), some (.ref 57), some (.long x2), none, some (.int x4), some (.int x5), some (.int x6), some (.int x7), some (.int x8), some (.int v2), none, none, none, none, none, none, none]) (st' := []) (I' := I3) (J' := J3) rfl (Wp.ite (fun h4 => ?_) (fun h4 => ?_))
        · replace h := h.1 h4
          refine Wp.steps 4 (pc' := 303) (lv' := [some (.ref 0), some (.ref 57), some (.long x2), none, some (.int x4), some (.int x5), some (.int 0), some (.int (x7 + (-1))), some (.int x8), some (.int v2), none, none, none, none, none, none, none]) (st' := [.int x4]) (I' := I3) (J' := J3) rfl ?_
          refine Wp.steps 1 (pc' := if x4 = 0 then 306 else 310) (lv' := [some (.ref 0), some (.ref 57), some (.long x2), none, some (.int x4), some (.int x5), some (.int 0), some (.int (x7 + (-1))), some (.int x8), some (.int v2), none, none, none, none, none, none, none]) (st' := []) (I' := I3) (J' := J3) rfl (Wp.ite (fun h5 => ?_) (fun h5 => ?_))
          · replace h := h.1 h5
            refine Wp.steps 9 (pc' := 247) (lv' := [some (.ref 0), some (.ref 57), some (.long x2), none, some (.int 0), some (.int x5), some (.int 0), some (.int (x7 + (-1))), some (.int (x8 + 1)), some (.int v2), none, none, none, none, none, none, none]) (st' := []) (I' := I3) (J' := J3) rfl ?_
            refine Wp.drop [9] (lv' := [some (.ref 0), some (.ref 57), some (.long x2), none, some (.int 0), some (.int x5), some (.int 0), some (.int (x7 + (-1))), some (.int (x8 + 1)), none, none, none, none, none, none, none, none]) rfl ?_
            exact h
          · replace h := h.2 h5
            refine Wp.steps 10 (pc' := 247) (lv' := [some (.ref 0), some (.ref 57), some (.long x2), none, some (.int (3 - x4)), some (.int x5), some (.int 0), some (.int (x7 + (-1))), some (.int (x8 + 1)), some (.int v2), none, none, none, none, none, none, none]) (st' := []) (I' := I3) (J' := J3) rfl ?_
            refine Wp.drop [9] (lv' := [some (.ref 0), some (.ref 57), some (.long x2), none, some (.int (3 - x4)), some (.int x5), some (.int 0), some (.int (x7 + (-1))), some (.int (x8 + 1)), none, none, none, none, none, none, none, none]) rfl ?_
            exact h
        · replace h := h.2 h4
          refine Wp.steps 5 (pc' := 303) (lv' := [some (.ref 0), some (.ref 57), some (.long x2), none, some (.int x4), some (.int x5), some (.int 1), some (.int (x7 + (-1))), some (.int x8), some (.int v2), none, none, none, none, none, none, none]) (st' := [.int x4]) (I' := I3) (J' := J3) rfl ?_
          refine Wp.steps 1 (pc' := if x4 = 0 then 306 else 310) (lv' := [some (.ref 0), some (.ref 57), some (.long x2), none, some (.int x4), some (.int x5), some (.int 1), some (.int (x7 + (-1))), some (.int x8), some (.int v2), none, none, none, none, none, none, none]) (st' := []) (I' := I3) (J' := J3) rfl (Wp.ite (fun h5 => ?_) (fun h5 => ?_))
          · replace h := h.1 h5
            refine Wp.steps 7 (pc' := 323) (lv' := [some (.ref 0), some (.ref 57), some (.long x2), none, some (.int 0), some (.int x5), some (.int 1), some (.int (x7 + (-1))), some (.int x8), some (.int v2), none, none, none, none, none, none, none]) (st' := [.int 0, .ref 0]) (I' := I3) (J' := J3) rfl ?_
            refine Wp.call (M' := Sb_game) (as := [.ref 0, .int 0]) (rest := []) rfl (CI.use h (fun v4 I4 J4 h => ?_))
            refine Wp.eqs (pc' := 326) (st' := [.int v4]) rfl rfl ?_
            refine Wp.steps 1 (pc' := 328) (lv' := [some (.ref 0), some (.ref 57), some (.long x2), none, some (.int 0), some (.int x5), some (.int 1), some (.int (x7 + (-1))), some (.int x8), some (.int v2), none, none, none, none, none, none, none]) (st' := [.int 0, .int v4]) (I' := I4) (J' := J4) rfl ?_
            refine Wp.steps 1 (pc' := if v4 = 0 then 331 else 350) (lv' := [some (.ref 0), some (.ref 57), some (.long x2), none, some (.int 0), some (.int x5), some (.int 1), some (.int (x7 + (-1))), some (.int x8), some (.int v2), none, none, none, none, none, none, none]) (st' := []) (I' := I4) (J' := J4) rfl (Wp.ite (fun h6 => ?_) (fun h6 => ?_))
            · replace h := h.1 h6
              refine Wp.steps 7 (pc' := 247) (lv' := [some (.ref 0), some (.ref 57), some (.long x2), none, some (.int 0), some (.int x5), some (.int 1), some (.int (x7 + (-1))), some (.int (x8 + 1)), some (.int v2), none, none, none, none, none, none, none]) (st' := []) (I' := I4) (J' := J4) rfl ?_
              refine Wp.drop [9] (lv' := [some (.ref 0), some (.ref 57), some (.long x2), none, some (.int 0), some (.int x5), some (.int 1), some (.int (x7 + (-1))), some (.int (x8 + 1)), none, none, none, none, none, none, none, none]) rfl ?_
              exact h
            · replace h := h.2 h6
              refine Wp.steps 4 (pc' := 247) (lv' := [some (.ref 0), some (.ref 57), some (.long x2), none, some (.int 0), some (.int x5), some (.int 0), some (.int (x7 + (-1))), some (.int (x8 + 1)), some (.int v2), none, none, none, none, none, none, none]) (st' := []) (I' := I4) (J' := J4) rfl ?_
              refine Wp.drop [9] (lv' := [some (.ref 0), some (.ref 57), some (.long x2), none, some (.int 0), some (.int x5), some (.int 0), some (.int (x7 + (-1))), some (.int (x8 + 1)), none, none, none, none, none, none, none, none]) rfl ?_
              exact h
          · replace h := h.2 h5
            refine Wp.steps 8 (pc' := 323) (lv' := [some (.ref 0), some (.ref 57), some (.long x2), none, some (.int (3 - x4)), some (.int x5), some (.int 1), some (.int (x7 + (-1))), some (.int x8), some (.int v2), none, none, none, none, none, none, none]) (st' := [.int 0, .ref 0]) (I' := I3) (J' := J3) rfl ?_
            refine Wp.call (M' := Sb_game) (as := [.ref 0, .int 0]) (rest := []) rfl (CI.use h (fun v4 I4 J4 h => ?_))
            refine Wp.eqs (pc' := 326) (st' := [.int v4]) rfl rfl ?_
            refine Wp.steps 1 (pc' := 328) (lv' := [some (.ref 0), some (.ref 57), some (.long x2), none, some (.int (3 - x4)), some (.int x5), some (.int 1), some (.int (x7 + (-1))), some (.int x8), some (.int v2), none, none, none, none, none, none, none]) (st' := [.int (3 - x4), .int v4]) (I' := I4) (J' := J4) rfl ?_
            refine Wp.steps 1 (pc' := if v4 = (3 - x4) then 331 else 350) (lv' := [some (.ref 0), some (.ref 57), some (.long x2), none, some (.int (3 - x4)), some (.int x5), some (.int 1), some (.int (x7 + (-1))), some (.int x8), some (.int v2), none, none, none, none, none, none, none]) (st' := []) (I' := I4) (J' := J4) rfl (Wp.ite (fun h6 => ?_) (fun h6 => ?_))
            · replace h := h.1 h6
              refine Wp.steps 1 (pc' := 333) (lv' := [some (.ref 0), some (.ref 57), some (.long x2), none, some (.int (3 - x4)), some (.int x5), some (.int 1), some (.int (x7 + (-1))), some (.int x8), some (.int v2), none, none, none, none, none, none, none]) (st' := [.int (3 - x4)]) (I' := I4) (J' := J4) rfl ?_
              refine Wp.steps 1 (pc' := if (3 - x4) = 0 then 346 else 336) (lv' := [some (.ref 0), some (.ref 57), some (.long x2), none, some (.int (3 - x4)), some (.int x5), some (.int 1), some (.int (x7 + (-1))), some (.int x8), some (.int v2), none, none, none, none, none, none, none]) (st' := []) (I' := I4) (J' := J4) rfl (Wp.ite (fun h7 => ?_) (fun h7 => ?_))
              · replace h := h.1 h7
                refine Wp.steps 5 (pc' := 247) (lv' := [some (.ref 0), some (.ref 57), some (.long x2), none, some (.int (3 - x4)), some (.int x5), some (.int 1), some (.int (x7 + (-1))), some (.int (x8 + 1)), some (.int v2), none, none, none, none, none, none, none]) (st' := []) (I' := I4) (J' := J4) rfl ?_
                refine Wp.drop [9] (lv' := [some (.ref 0), some (.ref 57), some (.long x2), none, some (.int (3 - x4)), some (.int x5), some (.int 1), some (.int (x7 + (-1))), some (.int (x8 + 1)), none, none, none, none, none, none, none, none]) rfl ?_
                exact h
              · replace h := h.2 h7
                refine Wp.steps 2 (pc' := 338) (lv' := [some (.ref 0), some (.ref 57), some (.long x2), none, some (.int (3 - x4)), some (.int x5), some (.int 1), some (.int (x7 + (-1))), some (.int x8), some (.int v2), none, none, none, none, none, none, none]) (st' := [.int 1, .ref 0]) (I' := I4) (J' := J4) rfl ?_
                refine Wp.call (M' := Sb_game) (as := [.ref 0, .int 1]) (rest := []) rfl (CI.use h (fun v5 I5 J5 h => ?_))
                refine Wp.eqs (pc' := 341) (st' := [.int v5]) rfl rfl ?_
                refine Wp.steps 1 (pc' := 343) (lv' := [some (.ref 0), some (.ref 57), some (.long x2), none, some (.int (3 - x4)), some (.int x5), some (.int 1), some (.int (x7 + (-1))), some (.int x8), some (.int v2), none, none, none, none, none, none, none]) (st' := [.int (x7 + (-1)), .int v5]) (I' := I5) (J' := J5) rfl ?_
                refine Wp.steps 1 (pc' := if v5 = (x7 + (-1)) then 346 else 350) (lv' := [some (.ref 0), some (.ref 57), some (.long x2), none, some (.int (3 - x4)), some (.int x5), some (.int 1), some (.int (x7 + (-1))), some (.int x8), some (.int v2), none, none, none, none, none, none, none]) (st' := []) (I' := I5) (J' := J5) rfl (Wp.ite (fun h8 => ?_) (fun h8 => ?_))
                · replace h := h.1 h8
                  refine Wp.steps 5 (pc' := 247) (lv' := [some (.ref 0), some (.ref 57), some (.long x2), none, some (.int (3 - x4)), some (.int x5), some (.int 1), some (.int (x7 + (-1))), some (.int (x8 + 1)), some (.int v2), none, none, none, none, none, none, none]) (st' := []) (I' := I5) (J' := J5) rfl ?_
                  refine Wp.drop [9] (lv' := [some (.ref 0), some (.ref 57), some (.long x2), none, some (.int (3 - x4)), some (.int x5), some (.int 1), some (.int (x7 + (-1))), some (.int (x8 + 1)), none, none, none, none, none, none, none, none]) rfl ?_
                  exact h
                · replace h := h.2 h8
                  refine Wp.steps 4 (pc' := 247) (lv' := [some (.ref 0), some (.ref 57), some (.long x2), none, some (.int (3 - x4)), some (.int x5), some (.int 0), some (.int (x7 + (-1))), some (.int (x8 + 1)), some (.int v2), none, none, none, none, none, none, none]) (st' := []) (I' := I5) (J' := J5) rfl ?_
                  refine Wp.drop [9] (lv' := [some (.ref 0), some (.ref 57), some (.long x2), none, some (.int (3 - x4)), some (.int x5), some (.int 0), some (.int (x7 + (-1))), some (.int (x8 + 1)), none, none, none, none, none, none, none, none]) rfl ?_
                  exact h
            · replace h := h.2 h6
              refine Wp.steps 4 (pc' := 247) (lv' := [some (.ref 0), some (.ref 57), some (.long x2), none, some (.int (3 - x4)), some (.int x5), some (.int 0), some (.int (x7 + (-1))), some (.int (x8 + 1)), some (.int v2), none, none, none, none, none, none, none]) (st' := []) (I' := I4) (J' := J4) rfl ?_
              refine Wp.drop [9] (lv' := [some (.ref 0), some (.ref 57), some (.long x2), none, some (.int (3 - x4)), some (.int x5), some (.int 0), some (.int (x7 + (-1))), some (.int (x8 + 1)), none, none, none, none, none, none, none, none]) rfl ?_
              exact h
  · replace h := h.2 h1
    refine Wp.steps 1 (pc' := 361) (lv' := [some (.ref 0), some (.ref 57), some (.long x2), none, some (.int x4), some (.int x5), some (.int x6), some (.int x7), some (.int x8), none, none, none, none, none, none, none, none]) (st' := [.int x6]) (I' := I) (J' := J) rfl ?_
    refine Wp.steps 1 (pc' := if x6 = 0 then 376 else 364) (lv' := [some (.ref 0), some (.ref 57), some (.long x2), none, some (.int x4), some (.int x5), some (.int x6), some (.int x7), some (.int x8), none, none, none, none, none, none, none, none]) (st' := []) (I' := I) (J' := J) rfl (Wp.ite (fun h2 => ?_) (fun h2 => ?_))
    · replace h := h.1 h2
      refine Wp.steps 8 (pc' := 388) (lv' := [some (.ref 0), some (.ref 57), some (.long x2), none, some (.int x4), some (.int x5), some (.int 0), some (.int x7), some (.long 0), none, some (.long 1), none, some (.int 0), none, none, none, none]) (st' := []) (I' := I) (J' := J) rfl ?_
      exact h
    · replace h := h.2 h2
      refine Wp.steps 1 (pc' := 365) (lv' := [some (.ref 0), some (.ref 57), some (.long x2), none, some (.int x4), some (.int x5), some (.int x6), some (.int x7), some (.int x8), none, none, none, none, none, none, none, none]) (st' := [.ref 0]) (I' := I) (J' := J) rfl ?_
      refine Wp.call (M' := Sb_restore) (as := [.ref 0]) (rest := []) rfl (CI.use h (fun v1 I1 J1 h => ?_))
      refine Wp.eqs (pc' := 368) (st' := [.int v1]) rfl rfl ?_
      refine Wp.steps 1 (pc' := 369) (lv' := [some (.ref 0), some (.ref 57), some (.long x2), none, some (.int x4), some (.int x5), some (.int x6), some (.int x7), some (.int x8), none, none, none, none, none, none, none, none]) (st' := [.int 1, .int v1]) (I' := I1) (J' := J1) rfl ?_
      refine Wp.steps 1 (pc' := if v1 = 1 then 372 else 376) (lv' := [some (.ref 0), some (.ref 57), some (.long x2), none, some (.int x4), some (.int x5), some (.int x6), some (.int x7), some (.int x8), none, none, none, none, none, none, none, none]) (st' := []) (I' := I1) (J' := J1) rfl (Wp.ite (fun h3 => ?_) (fun h3 => ?_))
      · replace h := h.1 h3
        refine Wp.steps 9 (pc' := 388) (lv' := [some (.ref 0), some (.ref 57), some (.long x2), none, some (.int x4), some (.int x5), some (.int 1), some (.int x7), some (.long 0), none, some (.long 1), none, some (.int 0), none, none, none, none]) (st' := []) (I' := I1) (J' := J1) rfl ?_
        exact h
      · replace h := h.2 h3
        refine Wp.steps 8 (pc' := 388) (lv' := [some (.ref 0), some (.ref 57), some (.long x2), none, some (.int x4), some (.int x5), some (.int 0), some (.int x7), some (.long 0), none, some (.long 1), none, some (.int 0), none, none, none, none]) (st' := []) (I' := I1) (J' := J1) rfl ?_
        exact h
set_option maxHeartbeats 16000000 in
theorem v_Lw_played_0_57_388 {d : Nat} {Q : Post} {I : I2} {J : J2} {x2 : Int64} {x4 : Int32} {x5 : Int32} {x6 : Int32} {x7 : Int32} {x8 : Int64} {x10 : Int64} {x12 : Int32} (h : (x12 < 4 → (x6 = 0 → Q (some (.int 0)) I J) ∧ (¬ (x6 = 0) → CL d Sb_fumble [.ref 0, .int x12, .int 0] I J (fun v1 I1 J1 => CL d Sb_fumble [.ref 0, .int x12, .int 1] I1 J1 (fun v2 I2 J2 => ((lg_cmp v1 0) < 0 → Wp d Lw_played Q 388 [some (.ref 0), some (.ref 57), some (.long x2), none, some (.int x4), some (.int x5), some (.int 0), some (.int x7), some (.long v1), none, some (.long v2), none, some (.int (x12 + 1)), none, none, none, none] [] I2 J2) ∧ (¬ ((lg_cmp v1 0) < 0) → (0 < (lg_cmp v2 0) → (0 < (lg_cmp v1 v2) → Wp d Lw_played Q 388 [some (.ref 0), some (.ref 57), some (.long x2), none, some (.int x4), some (.int x5), some (.int 0), some (.int x7), some (.long v1), none, some (.long v2), none, some (.int (x12 + 1)), none, none, none, none] [] I2 J2) ∧ (¬ (0 < (lg_cmp v1 v2)) → ((lg_cmp (v1 * x10) (x8 * v2)) < 0 → Wp d Lw_played Q 388 [some (.ref 0), some (.ref 57), some (.long x2), none, some (.int x4), some (.int x5), some (.int 0), some (.int x7), some (.long v1), none, some (.long v2), none, some (.int (x12 + 1)), none, none, none, none] [] I2 J2) ∧ (¬ ((lg_cmp (v1 * x10) (x8 * v2)) < 0) → (0 < x12 → ((lg_cmp v1 0) = 0 → Wp d Lw_played Q 482 [some (.ref 0), some (.ref 57), some (.long x2), none, some (.int x4), some (.int x5), some (.int x6), some (.int x7), some (.long x8), none, some (.long x10), none, some (.int x12), some (.long v1), none, some (.long v2), none] [.int 1] I2 J2) ∧ (¬ ((lg_cmp v1 0) = 0) → Wp d Lw_played Q 482 [some (.ref 0), some (.ref 57), some (.long x2), none, some (.int x4), some (.int x5), some (.int x6), some (.int x7), some (.long x8), none, some (.long x10), none, some (.int x12), some (.long v1), none, some (.long v2), none] [.int 0] I2 J2)) ∧ (¬ (0 < x12) → CI d Sb_count [.ref 0, .int 3] I2 J2 (fun v3 I3 J3 => ((lg_cmp v1 (Int32.toInt64 v3)) = 0 → ((lg_cmp v1 0) = 0 → Wp d Lw_played Q 482 [some (.ref 0), some (.ref 57), some (.long x2), none, some (.int x4), some (.int x5), some (.int x6), some (.int x7), some (.long x8), none, some (.long x10), none, some (.int x12), some (.long v1), none, some (.long v2), none] [.int 1] I3 J3) ∧ (¬ ((lg_cmp v1 0) = 0) → Wp d Lw_played Q 482 [some (.ref 0), some (.ref 57), some (.long x2), none, some (.int x4), some (.int x5), some (.int x6), some (.int x7), some (.long x8), none, some (.long x10), none, some (.int x12), some (.long v1), none, some (.long v2), none] [.int 0] I3 J3)) ∧ (¬ ((lg_cmp v1 (Int32.toInt64 v3)) = 0) → Wp d Lw_played Q 388 [some (.ref 0), some (.ref 57), some (.long x2), none, some (.int x4), some (.int x5), some (.int 0), some (.int x7), some (.long v1), none, some (.long v2), none, some (.int (x12 + 1)), none, none, none, none] [] I3 J3)))))) ∧ (¬ (0 < (lg_cmp v2 0)) → Wp d Lw_played Q 388 [some (.ref 0), some (.ref 57), some (.long x2), none, some (.int x4), some (.int x5), some (.int 0), some (.int x7), some (.long v1), none, some (.long v2), none, some (.int (x12 + 1)), none, none, none, none] [] I2 J2)))))) ∧ (¬ (x12 < 4) → (x6 = 0 → Q (some (.int 0)) I J) ∧ (¬ (x6 = 0) → CL d Lw_hash [.ref 0, .ref 57] I J (fun v1 I1 J1 => ((lg_cmp v1 x2) = 0 → Q (some (.int 1)) I1 J1) ∧ (¬ ((lg_cmp v1 x2) = 0) → Q (some (.int 0)) I1 J1))))) : Wp d Lw_played Q 388 [some (.ref 0), some (.ref 57), some (.long x2), none, some (.int x4), some (.int x5), some (.int x6), some (.int x7), some (.long x8), none, some (.long x10), none, some (.int x12), none, none, none, none] [] I J := by
  refine Wp.steps 2 (pc' := 391) (lv' := [some (.ref 0), some (.ref 57), some (.long x2), none, some (.int x4), some (.int x5), some (.int x6), some (.int x7), some (.long x8), none, some (.long x10), none, some (.int x12), none, none, none, none]) (st' := [.int 4, .int x12]) (I' := I) (J' := J) rfl ?_
  refine Wp.steps 1 (pc' := if x12 < 4 then 394 else 529) (lv' := [some (.ref 0), some (.ref 57), some (.long x2), none, some (.int x4), some (.int x5), some (.int x6), some (.int x7), some (.long x8), none, some (.long x10), none, some (.int x12), none, none, none, none]) (st' := []) (I' := I) (J' := J) rfl (Wp.ite (fun h1 => ?_) (fun h1 => ?_))
  · replace h := h.1 h1
    refine Wp.steps 1 (pc' := 396) (lv' := [some (.ref 0), some (.ref 57), some (.long x2), none, some (.int x4), some (.int x5), some (.int x6), some (.int x7), some (.long x8), none, some (.long x10), none, some (.int x12), none, none, none, none]) (st' := [.int x6]) (I' := I) (J' := J) rfl ?_
    refine Wp.steps 1 (pc' := if x6 = 0 then 529 else 399) (lv' := [some (.ref 0), some (.ref 57), some (.long x2), none, some (.int x4), some (.int x5), some (.int x6), some (.int x7), some (.long x8), none, some (.long x10), none, some (.int x12), none, none, none, none]) (st' := []) (I' := I) (J' := J) rfl (Wp.ite (fun h2 => ?_) (fun h2 => ?_))
    · replace h := h.1 h2
      refine Wp.steps 1 (pc' := 531) (lv' := [some (.ref 0), some (.ref 57), some (.long x2), none, some (.int x4), some (.int x5), some (.int x6), some (.int x7), some (.long x8), none, some (.long x10), none, some (.int x12), none, none, none, none]) (st' := [.int x6]) (I' := I) (J' := J) rfl ?_
      refine Wp.steps 1 (pc' := if x6 = 0 then 548 else 534) (lv' := [some (.ref 0), some (.ref 57), some (.long x2), none, some (.int x4), some (.int x5), some (.int x6), some (.int x7), some (.long x8), none, some (.long x10), none, some (.int x12), none, none, none, none]) (st' := []) (I' := I) (J' := J) rfl ?_
      rw [if_pos h2]
      refine Wp.steps 1 (pc' := 549) (lv' := [some (.ref 0), some (.ref 57), some (.long x2), none, some (.int x4), some (.int x5), some (.int x6), some (.int x7), some (.long x8), none, some (.long x10), none, some (.int x12), none, none, none, none]) (st' := [.int 0]) (I' := I) (J' := J) rfl ?_
      exact Wp.ret rfl h
    · replace h := h.2 h2
      refine Wp.steps 3 (pc' := 403) (lv' := [some (.ref 0), some (.ref 57), some (.long x2), none, some (.int x4), some (.int x5), some (.int x6), some (.int x7), some (.long x8), none, some (.long x10), none, some (.int x12), none, none, none, none]) (st' := [.int 0, .int x12, .ref 0]) (I' := I) (J' := J) rfl ?_
      refine Wp.call (M' := Sb_fumble) (as := [.ref 0, .int x12, .int 0]) (rest := []) rfl (CL.use h (fun v1 I1 J1 h => ?_))
      refine Wp.eqs (pc' := 406) (st' := [.long v1]) rfl rfl ?_
      refine Wp.steps 4 (pc' := 412) (lv' := [some (.ref 0), some (.ref 57), some (.long x2), none, some (.int x4), some (.int x5), some (.int x6), some (.int x7), some (.long x8), none, some (.long x10), none, some (.int x12), some (.long v1), none, none, none]) (st' := [.int 1, .int x12, .ref 0]) (I' := I1) (J' := J1) rfl ?_
      refine Wp.call (M' := Sb_fumble) (as := [.ref 0, .int x12, .int 1]) (rest := []) rfl (CL.use h (fun v2 I2 J2 h => ?_))
      refine Wp.eqs (pc' := 415) (st' := [.long v2]) rfl rfl ?_
      refine Wp.steps 4 (pc' := 421) (lv' := [some (.ref 0), some (.ref 57), some (.long x2), none, some (.int x4), some (.int x5), some (.int x6), some (.int x7), some (.long x8), none, some (.long x10), none, some (.int x12), some (.long v1), none, some (.long v2), none]) (st' := [.int (lg_cmp v1 0)]) (I' := I2) (J' := J2) rfl ?_
      refine Wp.steps 1 (pc' := if (lg_cmp v1 0) < 0 then 512 else 424) (lv' := [some (.ref 0), some (.ref 57), some (.long x2), none, some (.int x4), some (.int x5), some (.int x6), some (.int x7), some (.long x8), none, some (.long x10), none, some (.int x12), some (.long v1), none, some (.long v2), none]) (st' := []) (I' := I2) (J' := J2) rfl (Wp.ite (fun h3 => ?_) (fun h3 => ?_))
      · replace h := h.1 h3
        refine Wp.steps 8 (pc' := 388) (lv' := [some (.ref 0), some (.ref 57), some (.long x2), none, some (.int x4), some (.int x5), some (.int 0), some (.int x7), some (.long v1), none, some (.long v2), none, some (.int (x12 + 1)), some (.long v1), none, some (.long v2), none]) (st' := []) (I' := I2) (J' := J2) rfl ?_
        refine Wp.drop [13, 15] (lv' := [some (.ref 0), some (.ref 57), some (.long x2), none, some (.int x4), some (.int x5), some (.int 0), some (.int x7), some (.long v1), none, some (.long v2), none, some (.int (x12 + 1)), none, none, none, none]) rfl ?_
        exact h
      · replace h := h.2 h3
        refine Wp.steps 3 (pc' := 428) (lv' := [some (.ref 0), some (.ref 57), some (.long x2), none, some (.int x4), some (.int x5), some (.int x6), some (.int x7), some (.long x8), none, some (.long x10), none, some (.int x12), some (.long v1), none, some (.long v2), none]) (st' := [.int (lg_cmp v2 0)]) (I' := I2) (J' := J2) rfl ?_
        refine Wp.steps 1 (pc' := if 0 < (lg_cmp v2 0) then 431 else 512) (lv' := [some (.ref 0), some (.ref 57), some (.long x2), none, some (.int x4), some (.int x5), some (.int x6), some (.int x7), some (.long x8), none, some (.long x10), none, some (.int x12), some (.long v1), none, some (.long v2), none]) (st' := []) (I' := I2) (J' := J2) rfl (Wp.ite (fun h4 => ?_) (fun h4 => ?_))
        · replace h := h.1 h4
          refine Wp.steps 3 (pc' := 436) (lv' := [some (.ref 0), some (.ref 57), some (.long x2), none, some (.int x4), some (.int x5), some (.int x6), some (.int x7), some (.long x8), none, some (.long x10), none, some (.int x12), some (.long v1), none, some (.long v2), none]) (st' := [.int (lg_cmp v1 v2)]) (I' := I2) (J' := J2) rfl ?_
          refine Wp.steps 1 (pc' := if 0 < (lg_cmp v1 v2) then 512 else 439) (lv' := [some (.ref 0), some (.ref 57), some (.long x2), none, some (.int x4), some (.int x5), some (.int x6), some (.int x7), some (.long x8), none, some (.long x10), none, some (.int x12), some (.long v1), none, some (.long v2), none]) (st' := []) (I' := I2) (J' := J2) rfl (Wp.ite (fun h5 => ?_) (fun h5 => ?_))
          · replace h := h.1 h5
            refine Wp.steps 8 (pc' := 388) (lv' := [some (.ref 0), some (.ref 57), some (.long x2), none, some (.int x4), some (.int x5), some (.int 0), some (.int x7), some (.long v1), none, some (.long v2), none, some (.int (x12 + 1)), some (.long v1), none, some (.long v2), none]) (st' := []) (I' := I2) (J' := J2) rfl ?_
            refine Wp.drop [13, 15] (lv' := [some (.ref 0), some (.ref 57), some (.long x2), none, some (.int x4), some (.int x5), some (.int 0), some (.int x7), some (.long v1), none, some (.long v2), none, some (.int (x12 + 1)), none, none, none, none]) rfl ?_
            exact h
          · replace h := h.2 h5
            refine Wp.steps 7 (pc' := 450) (lv' := [some (.ref 0), some (.ref 57), some (.long x2), none, some (.int x4), some (.int x5), some (.int x6), some (.int x7), some (.long x8), none, some (.long x10), none, some (.int x12), some (.long v1), none, some (.long v2), none]) (st' := [.int (lg_cmp (v1 * x10) (x8 * v2))]) (I' := I2) (J' := J2) rfl ?_
            refine Wp.steps 1 (pc' := if (lg_cmp (v1 * x10) (x8 * v2)) < 0 then 512 else 453) (lv' := [some (.ref 0), some (.ref 57), some (.long x2), none, some (.int x4), some (.int x5), some (.int x6), some (.int x7), some (.long x8), none, some (.long x10), none, some (.int x12), some (.long v1), none, some (.long v2), none]) (st' := []) (I' := I2) (J' := J2) rfl (Wp.ite (fun h6 => ?_) (fun h6 => ?_))
            · replace h := h.1 h6
              refine Wp.steps 8 (pc' := 388) (lv' := [some (.ref 0), some (.ref 57), some (.long x2), none, some (.int x4), some (.int x5), some (.int 0), some (.int x7), some (.long v1), none, some (.long v2), none, some (.int (x12 + 1)), some (.long v1), none, some (.long v2), none]) (st' := []) (I' := I2) (J' := J2) rfl ?_
              refine Wp.drop [13, 15] (lv' := [some (.ref 0), some (.ref 57), some (.long x2), none, some (.int x4), some (.int x5), some (.int 0), some (.int x7), some (.long v1), none, some (.long v2), none, some (.int (x12 + 1)), none, none, none, none]) rfl ?_
              exact h
            · replace h := h.2 h6
              refine Wp.steps 1 (pc' := 455) (lv' := [some (.ref 0), some (.ref 57), some (.long x2), none, some (.int x4), some (.int x5), some (.int x6), some (.int x7), some (.long x8), none, some (.long x10), none, some (.int x12), some (.long v1), none, some (.long v2), none]) (st' := [.int x12]) (I' := I2) (J' := J2) rfl ?_
              refine Wp.steps 1 (pc' := if 0 < x12 then 470 else 458) (lv' := [some (.ref 0), some (.ref 57), some (.long x2), none, some (.int x4), some (.int x5), some (.int x6), some (.int x7), some (.long x8), none, some (.long x10), none, some (.int x12), some (.long v1), none, some (.long v2), none]) (st' := []) (I' := I2) (J' := J2) rfl (Wp.ite (fun h7 => ?_) (fun h7 => ?_))
              · replace h := h.1 h7
                refine Wp.steps 3 (pc' := 474) (lv' := [some (.ref 0), some (.ref 57), some (.long x2), none, some (.int x4), some (.int x5), some (.int x6), some (.int x7), some (.long x8), none, some (.long x10), none, some (.int x12), some (.long v1), none, some (.long v2), none]) (st' := [.int (lg_cmp v1 0)]) (I' := I2) (J' := J2) rfl ?_
                refine Wp.steps 1 (pc' := if (lg_cmp v1 0) = 0 then 477 else 481) (lv' := [some (.ref 0), some (.ref 57), some (.long x2), none, some (.int x4), some (.int x5), some (.int x6), some (.int x7), some (.long x8), none, some (.long x10), none, some (.int x12), some (.long v1), none, some (.long v2), none]) (st' := []) (I' := I2) (J' := J2) rfl (Wp.ite (fun h8 => ?_) (fun h8 => ?_))
                · replace h := h.1 h8
                  refine Wp.steps 2 (pc' := 482) (lv' := [some (.ref 0), some (.ref 57), some (.long x2), none, some (.int x4), some (.int x5), some (.int x6), some (.int x7), some (.long x8), none, some (.long x10), none, some (.int x12), some (.long v1), none, some (.long v2), none]) (st' := [.int 1]) (I' := I2) (J' := J2) rfl ?_
                  exact h
                · replace h := h.2 h8
                  refine Wp.steps 1 (pc' := 482) (lv' := [some (.ref 0), some (.ref 57), some (.long x2), none, some (.int x4), some (.int x5), some (.int x6), some (.int x7), some (.long x8), none, some (.long x10), none, some (.int x12), some (.long v1), none, some (.long v2), none]) (st' := [.int 0]) (I' := I2) (J' := J2) rfl ?_
                  exact h
              · replace h := h.2 h7
                refine Wp.steps 3 (pc' := 462) (lv' := [some (.ref 0), some (.ref 57), some (.long x2), none, some (.int x4), some (.int x5), some (.int x6), some (.int x7), some (.long x8), none, some (.long x10), none, some (.int x12), some (.long v1), none, some (.long v2), none]) (st' := [.int 3, .ref 0, .long v1]) (I' := I2) (J' := J2) rfl ?_
                refine Wp.call (M' := Sb_count) (as := [.ref 0, .int 3]) (rest := [.long v1]) rfl (CI.use h (fun v3 I3 J3 h => ?_))
                refine Wp.eqs (pc' := 465) (st' := [.int v3, .long v1]) rfl rfl ?_
                refine Wp.steps 2 (pc' := 467) (lv' := [some (.ref 0), some (.ref 57), some (.long x2), none, some (.int x4), some (.int x5), some (.int x6), some (.int x7), some (.long x8), none, some (.long x10), none, some (.int x12), some (.long v1), none, some (.long v2), none]) (st' := [.int (lg_cmp v1 (Int32.toInt64 v3))]) (I' := I3) (J' := J3) rfl ?_
                refine Wp.steps 1 (pc' := if (lg_cmp v1 (Int32.toInt64 v3)) = 0 then 470 else 512) (lv' := [some (.ref 0), some (.ref 57), some (.long x2), none, some (.int x4), some (.int x5), some (.int x6), some (.int x7), some (.long x8), none, some (.long x10), none, some (.int x12), some (.long v1), none, some (.long v2), none]) (st' := []) (I' := I3) (J' := J3) rfl (Wp.ite (fun h8 => ?_) (fun h8 => ?_))
                · replace h := h.1 h8
                  refine Wp.steps 3 (pc' := 474) (lv' := [some (.ref 0), some (.ref 57), some (.long x2), none, some (.int x4), some (.int x5), some (.int x6), some (.int x7), some (.long x8), none, some (.long x10), none, some (.int x12), some (.long v1), none, some (.long v2), none]) (st' := [.int (lg_cmp v1 0)]) (I' := I3) (J' := J3) rfl ?_
                  refine Wp.steps 1 (pc' := if (lg_cmp v1 0) = 0 then 477 else 481) (lv' := [some (.ref 0), some (.ref 57), some (.long x2), none, some (.int x4), some (.int x5), some (.int x6), some (.int x7), some (.long x8), none, some (.long x10), none, some (.int x12), some (.long v1), none, some (.long v2), none]) (st' := []) (I' := I3) (J' := J3) rfl (Wp.ite (fun h9 => ?_) (fun h9 => ?_))
                  · replace h := h.1 h9
                    refine Wp.steps 2 (pc' := 482) (lv' := [some (.ref 0), some (.ref 57), some (.long x2), none, some (.int x4), some (.int x5), some (.int x6), some (.int x7), some (.long x8), none, some (.long x10), none, some (.int x12), some (.long v1), none, some (.long v2), none]) (st' := [.int 1]) (I' := I3) (J' := J3) rfl ?_
                    exact h
                  · replace h := h.2 h9
                    refine Wp.steps 1 (pc' := 482) (lv' := [some (.ref 0), some (.ref 57), some (.long x2), none, some (.int x4), some (.int x5), some (.int x6), some (.int x7), some (.long x8), none, some (.long x10), none, some (.int x12), some (.long v1), none, some (.long v2), none]) (st' := [.int 0]) (I' := I3) (J' := J3) rfl ?_
                    exact h
                · replace h := h.2 h8
                  refine Wp.steps 8 (pc' := 388) (lv' := [some (.ref 0), some (.ref 57), some (.long x2), none, some (.int x4), some (.int x5), some (.int 0), some (.int x7), some (.long v1), none, some (.long v2), none, some (.int (x12 + 1)), some (.long v1), none, some (.long v2), none]) (st' := []) (I' := I3) (J' := J3) rfl ?_
                  refine Wp.drop [13, 15] (lv' := [some (.ref 0), some (.ref 57), some (.long x2), none, some (.int x4), some (.int x5), some (.int 0), some (.int x7), some (.long v1), none, some (.long v2), none, some (.int (x12 + 1)), none, none, none, none]) rfl ?_
                  exact h
        · replace h := h.2 h4
          refine Wp.steps 8 (pc' := 388) (lv' := [some (.ref 0), some (.ref 57), some (.long x2), none, some (.int x4), some (.int x5), some (.int 0), some (.int x7), some (.long v1), none, some (.long v2), none, some (.int (x12 + 1)), some (.long v1), none, some (.long v2), none]) (st' := []) (I' := I2) (J' := J2) rfl ?_
          refine Wp.drop [13, 15] (lv' := [some (.ref 0), some (.ref 57), some (.long x2), none, some (.int x4), some (.int x5), some (.int 0), some (.int x7), some (.long v1), none, some (.long v2), none, some (.int (x12 + 1)), none, none, none, none]) rfl ?_
          exact h
  · replace h := h.2 h1
    refine Wp.steps 1 (pc' := 531) (lv' := [some (.ref 0), some (.ref 57), some (.long x2), none, some (.int x4), some (.int x5), some (.int x6), some (.int x7), some (.long x8), none, some (.long x10), none, some (.int x12), none, none, none, none]) (st' := [.int x6]) (I' := I) (J' := J) rfl ?_
    refine Wp.steps 1 (pc' := if x6 = 0 then 548 else 534) (lv' := [some (.ref 0), some (.ref 57), some (.long x2), none, some (.int x4), some (.int x5), some (.int x6), some (.int x7), some (.long x8), none, some (.long x10), none, some (.int x12), none, none, none, none]) (st' := []) (I' := I) (J' := J) rfl (Wp.ite (fun h2 => ?_) (fun h2 => ?_))
    · replace h := h.1 h2
      refine Wp.steps 1 (pc' := 549) (lv' := [some (.ref 0), some (.ref 57), some (.long x2), none, some (.int x4), some (.int x5), some (.int x6), some (.int x7), some (.long x8), none, some (.long x10), none, some (.int x12), none, none, none, none]) (st' := [.int 0]) (I' := I) (J' := J) rfl ?_
      exact Wp.ret rfl h
    · replace h := h.2 h2
      refine Wp.steps 2 (pc' := 536) (lv' := [some (.ref 0), some (.ref 57), some (.long x2), none, some (.int x4), some (.int x5), some (.int x6), some (.int x7), some (.long x8), none, some (.long x10), none, some (.int x12), none, none, none, none]) (st' := [.ref 57, .ref 0]) (I' := I) (J' := J) rfl ?_
      refine Wp.call (M' := Lw_hash) (as := [.ref 0, .ref 57]) (rest := []) rfl (CL.use h (fun v1 I1 J1 h => ?_))
      refine Wp.eqs (pc' := 539) (st' := [.long v1]) rfl rfl ?_
      refine Wp.steps 2 (pc' := 541) (lv' := [some (.ref 0), some (.ref 57), some (.long x2), none, some (.int x4), some (.int x5), some (.int x6), some (.int x7), some (.long x8), none, some (.long x10), none, some (.int x12), none, none, none, none]) (st' := [.int (lg_cmp v1 x2)]) (I' := I1) (J' := J1) rfl ?_
      refine Wp.steps 1 (pc' := if (lg_cmp v1 x2) = 0 then 544 else 548) (lv' := [some (.ref 0), some (.ref 57), some (.long x2), none, some (.int x4), some (.int x5), some (.int x6), some (.int x7), some (.long x8), none, some (.long x10), none, some (.int x12), none, none, none, none]) (st' := []) (I' := I1) (J' := J1) rfl (Wp.ite (fun h3 => ?_) (fun h3 => ?_))
      · replace h := h.1 h3
        refine Wp.steps 2 (pc' := 549) (lv' := [some (.ref 0), some (.ref 57), some (.long x2), none, some (.int x4), some (.int x5), some (.int x6), some (.int x7), some (.long x8), none, some (.long x10), none, some (.int x12), none, none, none, none]) (st' := [.int 1]) (I' := I1) (J' := J1) rfl ?_
        exact Wp.ret rfl h
      · replace h := h.2 h3
        refine Wp.steps 1 (pc' := 549) (lv' := [some (.ref 0), some (.ref 57), some (.long x2), none, some (.int x4), some (.int x5), some (.int x6), some (.int x7), some (.long x8), none, some (.long x10), none, some (.int x12), none, none, none, none]) (st' := [.int 0]) (I' := I1) (J' := J1) rfl ?_
        exact Wp.ret rfl h
set_option maxHeartbeats 16000000 in
theorem v_Lw_played_0_57_482 {d : Nat} {Q : Post} {I : I2} {J : J2} {x2 : Int64} {x4 : Int32} {x5 : Int32} {x6 : Int32} {x7 : Int32} {x8 : Int64} {x10 : Int64} {x12 : Int32} {x13 : Int64} {x15 : Int64} {s0 : Int32} (h : CI d Sb_opens [.ref 0, .int (-1)] I J (fun v1 I1 J1 => (v1 < 0 → (s0 = 1 → Wp d Lw_played Q 388 [some (.ref 0), some (.ref 57), some (.long x2), none, some (.int x4), some (.int x5), some (.int 1), some (.int x7), some (.long x13), none, some (.long x15), none, some (.int (x12 + 1)), none, none, none, none] [] I1 J1) ∧ (¬ (s0 = 1) → Wp d Lw_played Q 388 [some (.ref 0), some (.ref 57), some (.long x2), none, some (.int x4), some (.int x5), some (.int 0), some (.int x7), some (.long x13), none, some (.long x15), none, some (.int (x12 + 1)), none, none, none, none] [] I1 J1)) ∧ (¬ (v1 < 0) → CI d Sb_opens [.ref 0, .int (-1)] I1 J1 (fun v2 I2 J2 => (x12 < v2 → (s0 = 1 → Wp d Lw_played Q 388 [some (.ref 0), some (.ref 57), some (.long x2), none, some (.int x4), some (.int x5), some (.int 1), some (.int x7), some (.long x13), none, some (.long x15), none, some (.int (x12 + 1)), none, none, none, none] [] I2 J2) ∧ (¬ (s0 = 1) → Wp d Lw_played Q 388 [some (.ref 0), some (.ref 57), some (.long x2), none, some (.int x4), some (.int x5), some (.int 0), some (.int x7), some (.long x13), none, some (.long x15), none, some (.int (x12 + 1)), none, none, none, none] [] I2 J2)) ∧ (¬ (x12 < v2) → (s0 = 0 → Wp d Lw_played Q 388 [some (.ref 0), some (.ref 57), some (.long x2), none, some (.int x4), some (.int x5), some (.int 1), some (.int x7), some (.long x13), none, some (.long x15), none, some (.int (x12 + 1)), none, none, none, none] [] I2 J2) ∧ (¬ (s0 = 0) → Wp d Lw_played Q 388 [some (.ref 0), some (.ref 57), some (.long x2), none, some (.int x4), some (.int x5), some (.int 0), some (.int x7), some (.long x13), none, some (.long x15), none, some (.int (x12 + 1)), none, none, none, none] [] I2 J2)))))) : Wp d Lw_played Q 482 [some (.ref 0), some (.ref 57), some (.long x2), none, some (.int x4), some (.int x5), some (.int x6), some (.int x7), some (.long x8), none, some (.long x10), none, some (.int x12), some (.long x13), none, some (.long x15), none] [.int s0] I J := by
  refine Wp.steps 2 (pc' := 484) (lv' := [some (.ref 0), some (.ref 57), some (.long x2), none, some (.int x4), some (.int x5), some (.int x6), some (.int x7), some (.long x8), none, some (.long x10), none, some (.int x12), some (.long x13), none, some (.long x15), none]) (st' := [.int (-1), .ref 0, .int s0]) (I' := I) (J' := J) rfl ?_
  refine Wp.call (M' := Sb_opens) (as := [.ref 0, .int (-1)]) (rest := [.int s0]) rfl (CI.use h (fun v1 I1 J1 h => ?_))
  refine Wp.eqs (pc' := 487) (st' := [.int v1, .int s0]) rfl rfl ?_
  refine Wp.steps 1 (pc' := if v1 < 0 then 500 else 490) (lv' := [some (.ref 0), some (.ref 57), some (.long x2), none, some (.int x4), some (.int x5), some (.int x6), some (.int x7), some (.long x8), none, some (.long x10), none, some (.int x12), some (.long x13), none, some (.long x15), none]) (st' := [.int s0]) (I' := I1) (J' := J1) rfl (Wp.ite (fun h1 => ?_) (fun h1 => ?_))
  · replace h := h.1 h1
    refine Wp.steps 2 (pc' := 505) (lv' := [some (.ref 0), some (.ref 57), some (.long x2), none, some (.int x4), some (.int x5), some (.int x6), some (.int x7), some (.long x8), none, some (.long x10), none, some (.int x12), some (.long x13), none, some (.long x15), none]) (st' := [.int 1, .int s0]) (I' := I1) (J' := J1) rfl ?_
    refine Wp.steps 1 (pc' := if s0 = 1 then 508 else 512) (lv' := [some (.ref 0), some (.ref 57), some (.long x2), none, some (.int x4), some (.int x5), some (.int x6), some (.int x7), some (.long x8), none, some (.long x10), none, some (.int x12), some (.long x13), none, some (.long x15), none]) (st' := []) (I' := I1) (J' := J1) rfl (Wp.ite (fun h2 => ?_) (fun h2 => ?_))
    · replace h := h.1 h2
      refine Wp.steps 9 (pc' := 388) (lv' := [some (.ref 0), some (.ref 57), some (.long x2), none, some (.int x4), some (.int x5), some (.int 1), some (.int x7), some (.long x13), none, some (.long x15), none, some (.int (x12 + 1)), some (.long x13), none, some (.long x15), none]) (st' := []) (I' := I1) (J' := J1) rfl ?_
      refine Wp.drop [13, 15] (lv' := [some (.ref 0), some (.ref 57), some (.long x2), none, some (.int x4), some (.int x5), some (.int 1), some (.int x7), some (.long x13), none, some (.long x15), none, some (.int (x12 + 1)), none, none, none, none]) rfl ?_
      exact h
    · replace h := h.2 h2
      refine Wp.steps 8 (pc' := 388) (lv' := [some (.ref 0), some (.ref 57), some (.long x2), none, some (.int x4), some (.int x5), some (.int 0), some (.int x7), some (.long x13), none, some (.long x15), none, some (.int (x12 + 1)), some (.long x13), none, some (.long x15), none]) (st' := []) (I' := I1) (J' := J1) rfl ?_
      refine Wp.drop [13, 15] (lv' := [some (.ref 0), some (.ref 57), some (.long x2), none, some (.int x4), some (.int x5), some (.int 0), some (.int x7), some (.long x13), none, some (.long x15), none, some (.int (x12 + 1)), none, none, none, none]) rfl ?_
      exact h
  · replace h := h.2 h1
    refine Wp.steps 2 (pc' := 492) (lv' := [some (.ref 0), some (.ref 57), some (.long x2), none, some (.int x4), some (.int x5), some (.int x6), some (.int x7), some (.long x8), none, some (.long x10), none, some (.int x12), some (.long x13), none, some (.long x15), none]) (st' := [.int (-1), .ref 0, .int s0]) (I' := I1) (J' := J1) rfl ?_
    refine Wp.call (M' := Sb_opens) (as := [.ref 0, .int (-1)]) (rest := [.int s0]) rfl (CI.use h (fun v2 I2 J2 h => ?_))
    refine Wp.eqs (pc' := 495) (st' := [.int v2, .int s0]) rfl rfl ?_
    refine Wp.steps 1 (pc' := 497) (lv' := [some (.ref 0), some (.ref 57), some (.long x2), none, some (.int x4), some (.int x5), some (.int x6), some (.int x7), some (.long x8), none, some (.long x10), none, some (.int x12), some (.long x13), none, some (.long x15), none]) (st' := [.int x12, .int v2, .int s0]) (I' := I2) (J' := J2) rfl ?_
    refine Wp.steps 1 (pc' := if x12 < v2 then 500 else 504) (lv' := [some (.ref 0), some (.ref 57), some (.long x2), none, some (.int x4), some (.int x5), some (.int x6), some (.int x7), some (.long x8), none, some (.long x10), none, some (.int x12), some (.long x13), none, some (.long x15), none]) (st' := [.int s0]) (I' := I2) (J' := J2) rfl (Wp.ite (fun h2 => ?_) (fun h2 => ?_))
    · replace h := h.1 h2
      refine Wp.steps 2 (pc' := 505) (lv' := [some (.ref 0), some (.ref 57), some (.long x2), none, some (.int x4), some (.int x5), some (.int x6), some (.int x7), some (.long x8), none, some (.long x10), none, some (.int x12), some (.long x13), none, some (.long x15), none]) (st' := [.int 1, .int s0]) (I' := I2) (J' := J2) rfl ?_
      refine Wp.steps 1 (pc' := if s0 = 1 then 508 else 512) (lv' := [some (.ref 0), some (.ref 57), some (.long x2), none, some (.int x4), some (.int x5), some (.int x6), some (.int x7), some (.long x8), none, some (.long x10), none, some (.int x12), some (.long x13), none, some (.long x15), none]) (st' := []) (I' := I2) (J' := J2) rfl (Wp.ite (fun h3 => ?_) (fun h3 => ?_))
      · replace h := h.1 h3
        refine Wp.steps 9 (pc' := 388) (lv' := [some (.ref 0), some (.ref 57), some (.long x2), none, some (.int x4), some (.int x5), some (.int 1), some (.int x7), some (.long x13), none, some (.long x15), none, some (.int (x12 + 1)), some (.long x13), none, some (.long x15), none]) (st' := []) (I' := I2) (J' := J2) rfl ?_
        refine Wp.drop [13, 15] (lv' := [some (.ref 0), some (.ref 57), some (.long x2), none, some (.int x4), some (.int x5), some (.int 1), some (.int x7), some (.long x13), none, some (.long x15), none, some (.int (x12 + 1)), none, none, none, none]) rfl ?_
        exact h
      · replace h := h.2 h3
        refine Wp.steps 8 (pc' := 388) (lv' := [some (.ref 0), some (.ref 57), some (.long x2), none, some (.int x4), some (.int x5), some (.int 0), some (.int x7), some (.long x13), none, some (.long x15), none, some (.int (x12 + 1)), some (.long x13), none, some (.long x15), none]) (st' := []) (I' := I2) (J' := J2) rfl ?_
        refine Wp.drop [13, 15] (lv' := [some (.ref 0), some (.ref 57), some (.long x2), none, some (.int x4), some (.int x5), some (.int 0), some (.int x7), some (.long x13), none, some (.long x15), none, some (.int (x12 + 1)), none, none, none, none]) rfl ?_
        exact h
    · replace h := h.2 h2
      refine Wp.steps 1 (pc' := 505) (lv' := [some (.ref 0), some (.ref 57), some (.long x2), none, some (.int x4), some (.int x5), some (.int x6), some (.int x7), some (.long x8), none, some (.long x10), none, some (.int x12), some (.long x13), none, some (.long x15), none]) (st' := [.int 0, .int s0]) (I' := I2) (J' := J2) rfl ?_
      refine Wp.steps 1 (pc' := if s0 = 0 then 508 else 512) (lv' := [some (.ref 0), some (.ref 57), some (.long x2), none, some (.int x4), some (.int x5), some (.int x6), some (.int x7), some (.long x8), none, some (.long x10), none, some (.int x12), some (.long x13), none, some (.long x15), none]) (st' := []) (I' := I2) (J' := J2) rfl (Wp.ite (fun h3 => ?_) (fun h3 => ?_))
      · replace h := h.1 h3
        refine Wp.steps 9 (pc' := 388) (lv' := [some (.ref 0), some (.ref 57), some (.long x2), none, some (.int x4), some (.int x5), some (.int 1), some (.int x7), some (.long x13), none, some (.long x15), none, some (.int (x12 + 1)), some (.long x13), none, some (.long x15), none]) (st' := []) (I' := I2) (J' := J2) rfl ?_
        refine Wp.drop [13, 15] (lv' := [some (.ref 0), some (.ref 57), some (.long x2), none, some (.int x4), some (.int x5), some (.int 1), some (.int x7), some (.long x13), none, some (.long x15), none, some (.int (x12 + 1)), none, none, none, none]) rfl ?_
        exact h
      · replace h := h.2 h3
        refine Wp.steps 8 (pc' := 388) (lv' := [some (.ref 0), some (.ref 57), some (.long x2), none, some (.int x4), some (.int x5), some (.int 0), some (.int x7), some (.long x13), none, some (.long x15), none, some (.int (x12 + 1)), some (.long x13), none, some (.long x15), none]) (st' := []) (I' := I2) (J' := J2) rfl ?_
        refine Wp.drop [13, 15] (lv' := [some (.ref 0), some (.ref 57), some (.long x2), none, some (.int x4), some (.int x5), some (.int 0), some (.int x7), some (.long x13), none, some (.long x15), none, some (.int (x12 + 1)), none, none, none, none]) rfl ?_
        exact h
