/-! what each way through a method asks (by program): LawB -/
set_option maxHeartbeats 16000000 in
theorem v_LawB_138 {d : Nat} {Q : Post} {I : I2} {J : J2} {x4 : Int64} {s0 : Int32} (h : (s0 = 0 → CI d Lw_cell [.ref 100, .int 14] I J (fun v1 I1 J1 => Wp d LawB Q 306 [some (.ref 100), some (.ref 0), some (.ref 57), some (.int 0), some (.long x4), none, some (.int v1), some (.int 0), some (.int 0), some (.long 0), none, some (.int 0)] [] I1 J1)) ∧ (¬ (s0 = 0) → CI d Lw_opened [.ref 0, .ref 57, .long x4] I J (fun v1 I1 J1 => (v1 = 0 → CI d Lw_cell [.ref 100, .int 14] I1 J1 (fun v2 I2 J2 => Wp d LawB Q 306 [some (.ref 100), some (.ref 0), some (.ref 57), some (.int 0), some (.long x4), none, some (.int v2), some (.int 0), some (.int 0), some (.long 0), none, some (.int 0)] [] I2 J2)) ∧ (¬ (v1 = 0) → CI d Lw_went [.ref 0, .ref 100, .ref 57, .long x4] I1 J1 (fun v2 I2 J2 => (v2 = 0 → CI d Lw_cell [.ref 100, .int 14] I2 J2 (fun v3 I3 J3 => Wp d LawB Q 306 [some (.ref 100), some (.ref 0), some (.ref 57), some (.int 0), some (.long x4), none, some (.int v3), some (.int 0), some (.int 0), some (.long 0), none, some (.int 0)] [] I3 J3)) ∧ (¬ (v2 = 0) → CI d Lw_filed [.ref 0, .ref 100, .ref 57, .long x4] I2 J2 (fun v3 I3 J3 => (v3 = 0 → CI d Lw_cell [.ref 100, .int 14] I3 J3 (fun v4 I4 J4 => Wp d LawB Q 306 [some (.ref 100), some (.ref 0), some (.ref 57), some (.int 0), some (.long x4), none, some (.int v4), some (.int 0), some (.int 0), some (.long 0), none, some (.int 0)] [] I4 J4)) ∧ (¬ (v3 = 0) → CI d Lw_played [.ref 0, .ref 57, .long x4] I3 J3 (fun v4 I4 J4 => (v4 = 0 → CI d Lw_cell [.ref 100, .int 14] I4 J4 (fun v5 I5 J5 => Wp d LawB Q 306 [some (.ref 100), some (.ref 0), some (.ref 57), some (.int 0), some (.long x4), none, some (.int v5), some (.int 0), some (.int 0), some (.long 0), none, some (.int 0)] [] I5 J5)) ∧ (¬ (v4 = 0) → CI d Lw_clicked [.ref 0, .ref 100, .ref 57, .long x4] I4 J4 (fun v5 I5 J5 => (v5 = 0 → CI d Lw_cell [.ref 100, .int 14] I5 J5 (fun v6 I6 J6 => Wp d LawB Q 306 [some (.ref 100), some (.ref 0), some (.ref 57), some (.int 0), some (.long x4), none, some (.int v6), some (.int 0), some (.int 0), some (.long 0), none, some (.int 0)] [] I6 J6)) ∧ (¬ (v5 = 0) → CI d Lw_cell [.ref 100, .int 14] I5 J5 (fun v6 I6 J6 => CI d Sb_count [.ref 0, .int 8] I6 J6 (fun v7 I7 J7 => CI d Sb_seed [.ref 0, .int v6] I7 J7 (fun v8 I8 J8 => (v8 < 0 → Wp d LawB Q 306 [some (.ref 100), some (.ref 0), some (.ref 57), some (.int 0), some (.long x4), none, some (.int v6), some (.int v7), some (.int 0), some (.long 0), none, some (.int 0)] [] I8 J8) ∧ (¬ (v8 < 0) → CI d Sb_drift [.ref 0, .int 8] I8 J8 (fun v9 I9 J9 => CL d Lw_hash [.ref 0, .ref 57] I9 J9 (fun v10 I10 J10 => CI d Sb_count [.ref 0, .int 7] I10 J10 (fun v11 I11 J11 => (v9 = v11 → CI d Lw_stands [.ref 0, .ref 57] I11 J11 (fun v12 I12 J12 => (v12 = 0 → Wp d LawB Q 306 [some (.ref 100), some (.ref 0), some (.ref 57), some (.int 0), some (.long x4), none, some (.int v6), some (.int v7), some (.int v9), some (.long v10), none, some (.int 0)] [] I12 J12) ∧ (¬ (v12 = 0) → Wp d LawB Q 306 [some (.ref 100), some (.ref 0), some (.ref 57), some (.int 1), some (.long x4), none, some (.int v6), some (.int v7), some (.int v9), some (.long v10), none, some (.int 0)] [] I12 J12))) ∧ (¬ (v9 = v11) → Wp d LawB Q 306 [some (.ref 100), some (.ref 0), some (.ref 57), some (.int 0), some (.long x4), none, some (.int v6), some (.int v7), some (.int v9), some (.long v10), none, some (.int 0)] [] I11 J11)))))))))))))))))))) : Wp d LawB Q 138 [some (.ref 100), some (.ref 0), some (.ref 57), none, some (.long x4), none, none, none, none, none, none, none] [.int s0] I J := by
  refine Wp.steps 1 (pc' := if s0 = 0 then 198 else 141) (lv' := [some (.ref 100), some (.ref 0), some (.ref 57), none, some (.long x4), none, none, none, none, none, none, none]) (st' := []) (I' := I) (J' := J) rfl (Wp.ite (fun h1 => ?_) (fun h1 => ?_))
  · replace h := h.1 h1
    refine Wp.steps 4 (pc' := 203) (lv' := [some (.ref 100), some (.ref 0), some (.ref 57), some (.int 0), some (.long x4), none, none, none, none, none, none, none]) (st' := [.int 14, .ref 100]) (I' := I) (J' := J) rfl ?_
    refine Wp.call (M' := Lw_cell) (as := [.ref 100, .int 14]) (rest := []) rfl (CI.use h (fun v1 I1 J1 h => ?_))
    refine Wp.eqs (pc' := 206) (st' := [.int v1]) rfl rfl ?_
    refine Wp.steps 23 (pc' := 306) (lv' := [some (.ref 100), some (.ref 0), some (.ref 57), some (.int 0), some (.long x4), none, some (.int v1), some (.int 0), some (.int 0), some (.long 0), none, some (.int 0)]) (st' := []) (I' := I1) (J' := J1) rfl ?_
    exact h
  · replace h := h.2 h1
    refine Wp.steps 3 (pc' := 145) (lv' := [some (.ref 100), some (.ref 0), some (.ref 57), none, some (.long x4), none, none, none, none, none, none, none]) (st' := [.long x4, .ref 57, .ref 0]) (I' := I) (J' := J) rfl ?_
    refine Wp.call (M' := Lw_opened) (as := [.ref 0, .ref 57, .long x4]) (rest := []) rfl (CI.use h (fun v1 I1 J1 h => ?_))
    refine Wp.eqs (pc' := 148) (st' := [.int v1]) rfl rfl ?_
    refine Wp.steps 1 (pc' := if v1 = 0 then 198 else 151) (lv' := [some (.ref 100), some (.ref 0), some (.ref 57), none, some (.long x4), none, none, none, none, none, none, none]) (st' := []) (I' := I1) (J' := J1) rfl (Wp.ite (fun h2 => ?_) (fun h2 => ?_))
    · replace h := h.1 h2
      refine Wp.steps 4 (pc' := 203) (lv' := [some (.ref 100), some (.ref 0), some (.ref 57), some (.int 0), some (.long x4), none, none, none, none, none, none, none]) (st' := [.int 14, .ref 100]) (I' := I1) (J' := J1) rfl ?_
      refine Wp.call (M' := Lw_cell) (as := [.ref 100, .int 14]) (rest := []) rfl (CI.use h (fun v2 I2 J2 h => ?_))
      refine Wp.eqs (pc' := 206) (st' := [.int v2]) rfl rfl ?_
      refine Wp.steps 23 (pc' := 306) (lv' := [some (.ref 100), some (.ref 0), some (.ref 57), some (.int 0), some (.long x4), none, some (.int v2), some (.int 0), some (.int 0), some (.long 0), none, some (.int 0)]) (st' := []) (I' := I2) (J' := J2) rfl ?_
      exact h
    · replace h := h.2 h2
      refine Wp.steps 4 (pc' := 156) (lv' := [some (.ref 100), some (.ref 0), some (.ref 57), none, some (.long x4), none, none, none, none, none, none, none]) (st' := [.long x4, .ref 57, .ref 100, .ref 0]) (I' := I1) (J' := J1) rfl ?_
      refine Wp.call (M' := Lw_went) (as := [.ref 0, .ref 100, .ref 57, .long x4]) (rest := []) rfl (CI.use h (fun v2 I2 J2 h => ?_))
      refine Wp.eqs (pc' := 159) (st' := [.int v2]) rfl rfl ?_
      refine Wp.steps 1 (pc' := if v2 = 0 then 198 else 162) (lv' := [some (.ref 100), some (.ref 0), some (.ref 57), none, some (.long x4), none, none, none, none, none, none, none]) (st' := []) (I' := I2) (J' := J2) rfl (Wp.ite (fun h3 => ?_) (fun h3 => ?_))
      · replace h := h.1 h3
        refine Wp.steps 4 (pc' := 203) (lv' := [some (.ref 100), some (.ref 0), some (.ref 57), some (.int 0), some (.long x4), none, none, none, none, none, none, none]) (st' := [.int 14, .ref 100]) (I' := I2) (J' := J2) rfl ?_
        refine Wp.call (M' := Lw_cell) (as := [.ref 100, .int 14]) (rest := []) rfl (CI.use h (fun v3 I3 J3 h => ?_))
        refine Wp.eqs (pc' := 206) (st' := [.int v3]) rfl rfl ?_
        refine Wp.steps 23 (pc' := 306) (lv' := [some (.ref 100), some (.ref 0), some (.ref 57), some (.int 0), some (.long x4), none, some (.int v3), some (.int 0), some (.int 0), some (.long 0), none, some (.int 0)]) (st' := []) (I' := I3) (J' := J3) rfl ?_
        exact h
      · replace h := h.2 h3
        refine Wp.steps 4 (pc' := 167) (lv' := [some (.ref 100), some (.ref 0), some (.ref 57), none, some (.long x4), none, none, none, none, none, none, none]) (st' := [.long x4, .ref 57, .ref 100, .ref 0]) (I' := I2) (J' := J2) rfl ?_
        refine Wp.call (M' := Lw_filed) (as := [.ref 0, .ref 100, .ref 57, .long x4]) (rest := []) rfl (CI.use h (fun v3 I3 J3 h => ?_))
        refine Wp.eqs (pc' := 170) (st' := [.int v3]) rfl rfl ?_
        refine Wp.steps 1 (pc' := if v3 = 0 then 198 else 173) (lv' := [some (.ref 100), some (.ref 0), some (.ref 57), none, some (.long x4), none, none, none, none, none, none, none]) (st' := []) (I' := I3) (J' := J3) rfl (Wp.ite (fun h4 => ?_) (fun h4 => ?_))
        · replace h := h.1 h4
          refine Wp.steps 4 (pc' := 203) (lv' := [some (.ref 100), some (.ref 0), some (.ref 57), some (.int 0), some (.long x4), none, none, none, none, none, none, none]) (st' := [.int 14, .ref 100]) (I' := I3) (J' := J3) rfl ?_
          refine Wp.call (M' := Lw_cell) (as := [.ref 100, .int 14]) (rest := []) rfl (CI.use h (fun v4 I4 J4 h => ?_))
          refine Wp.eqs (pc' := 206) (st' := [.int v4]) rfl rfl ?_
          refine Wp.steps 23 (pc' := 306) (lv' := [some (.ref 100), some (.ref 0), some (.ref 57), some (.int 0), some (.long x4), none, some (.int v4), some (.int 0), some (.int 0), some (.long 0), none, some (.int 0)]) (st' := []) (I' := I4) (J' := J4) rfl ?_
          exact h
        · replace h := h.2 h4
          refine Wp.steps 3 (pc' := 177) (lv' := [some (.ref 100), some (.ref 0), some (.ref 57), none, some (.long x4), none, none, none, none, none, none, none]) (st' := [.long x4, .ref 57, .ref 0]) (I' := I3) (J' := J3) rfl ?_
          refine Wp.call (M' := Lw_played) (as := [.ref 0, .ref 57, .long x4]) (rest := []) rfl (CI.use h (fun v4 I4 J4 h => ?_))
          refine Wp.eqs (pc' := 180) (st' := [.int v4]) rfl rfl ?_
          refine Wp.steps 1 (pc' := if v4 = 0 then 198 else 183) (lv' := [some (.ref 100), some (.ref 0), some (.ref 57), none, some (.long x4), none, none, none, none, none, none, none]) (st' := []) (I' := I4) (J' := J4) rfl (Wp.ite (fun h5 => ?_) (fun h5 => ?_))
          · replace h := h.1 h5
            refine Wp.steps 4 (pc' := 203) (lv' := [some (.ref 100), some (.ref 0), some (.ref 57), some (.int 0), some (.long x4), none, none, none, none, none, none, none]) (st' := [.int 14, .ref 100]) (I' := I4) (J' := J4) rfl ?_
            refine Wp.call (M' := Lw_cell) (as := [.ref 100, .int 14]) (rest := []) rfl (CI.use h (fun v5 I5 J5 h => ?_))
            refine Wp.eqs (pc' := 206) (st' := [.int v5]) rfl rfl ?_
            refine Wp.steps 23 (pc' := 306) (lv' := [some (.ref 100), some (.ref 0), some (.ref 57), some (.int 0), some (.long x4), none, some (.int v5), some (.int 0), some (.int 0), some (.long 0), none, some (.int 0)]) (st' := []) (I' := I5) (J' := J5) rfl ?_
            exact h
          · replace h := h.2 h5
            refine Wp.steps 4 (pc' := 188) (lv' := [some (.ref 100), some (.ref 0), some (.ref 57), none, some (.long x4), none, none, none, none, none, none, none]) (st' := [.long x4, .ref 57, .ref 100, .ref 0]) (I' := I4) (J' := J4) rfl ?_
            refine Wp.call (M' := Lw_clicked) (as := [.ref 0, .ref 100, .ref 57, .long x4]) (rest := []) rfl (CI.use h (fun v5 I5 J5 h => ?_))
            refine Wp.eqs (pc' := 191) (st' := [.int v5]) rfl rfl ?_
            refine Wp.steps 1 (pc' := if v5 = 0 then 198 else 194) (lv' := [some (.ref 100), some (.ref 0), some (.ref 57), none, some (.long x4), none, none, none, none, none, none, none]) (st' := []) (I' := I5) (J' := J5) rfl (Wp.ite (fun h6 => ?_) (fun h6 => ?_))
            · replace h := h.1 h6
              refine Wp.steps 4 (pc' := 203) (lv' := [some (.ref 100), some (.ref 0), some (.ref 57), some (.int 0), some (.long x4), none, none, none, none, none, none, none]) (st' := [.int 14, .ref 100]) (I' := I5) (J' := J5) rfl ?_
              refine Wp.call (M' := Lw_cell) (as := [.ref 100, .int 14]) (rest := []) rfl (CI.use h (fun v6 I6 J6 h => ?_))
              refine Wp.eqs (pc' := 206) (st' := [.int v6]) rfl rfl ?_
              refine Wp.steps 23 (pc' := 306) (lv' := [some (.ref 100), some (.ref 0), some (.ref 57), some (.int 0), some (.long x4), none, some (.int v6), some (.int 0), some (.int 0), some (.long 0), none, some (.int 0)]) (st' := []) (I' := I6) (J' := J6) rfl ?_
              exact h
            · replace h := h.2 h6
              refine Wp.steps 5 (pc' := 203) (lv' := [some (.ref 100), some (.ref 0), some (.ref 57), some (.int 1), some (.long x4), none, none, none, none, none, none, none]) (st' := [.int 14, .ref 100]) (I' := I5) (J' := J5) rfl ?_
              refine Wp.call (M' := Lw_cell) (as := [.ref 100, .int 14]) (rest := []) rfl (CI.use h (fun v6 I6 J6 h => ?_))
              refine Wp.eqs (pc' := 206) (st' := [.int v6]) rfl rfl ?_
              refine Wp.steps 5 (pc' := 215) (lv' := [some (.ref 100), some (.ref 0), some (.ref 57), some (.int 1), some (.long x4), none, some (.int v6), none, none, none, none, none]) (st' := [.int 8, .ref 0]) (I' := I6) (J' := J6) rfl ?_
              refine Wp.call (M' := Sb_count) (as := [.ref 0, .int 8]) (rest := []) rfl (CI.use h (fun v7 I7 J7 h => ?_))
              refine Wp.eqs (pc' := 218) (st' := [.int v7]) rfl rfl ?_
              refine Wp.steps 6 (pc' := 231) (lv' := [some (.ref 100), some (.ref 0), some (.ref 57), some (.int 1), some (.long x4), none, some (.int v6), some (.int v7), none, none, none, none]) (st' := [.int v6, .ref 0]) (I' := I7) (J' := J7) rfl ?_
              refine Wp.call (M' := Sb_seed) (as := [.ref 0, .int v6]) (rest := []) rfl (CI.use h (fun v8 I8 J8 h => ?_))
              refine Wp.eqs (pc' := 234) (st' := [.int v8]) rfl rfl ?_
              refine Wp.steps 1 (pc' := if v8 < 0 then 241 else 237) (lv' := [some (.ref 100), some (.ref 0), some (.ref 57), some (.int 1), some (.long x4), none, some (.int v6), some (.int v7), none, none, none, none]) (st' := []) (I' := I8) (J' := J8) rfl (Wp.ite (fun h7 => ?_) (fun h7 => ?_))
              · replace h := h.1 h7
                refine Wp.steps 16 (pc' := 306) (lv' := [some (.ref 100), some (.ref 0), some (.ref 57), some (.int 0), some (.long x4), none, some (.int v6), some (.int v7), some (.int 0), some (.long 0), none, some (.int 0)]) (st' := []) (I' := I8) (J' := J8) rfl ?_
                exact h
              · replace h := h.2 h7
                refine Wp.steps 7 (pc' := 250) (lv' := [some (.ref 100), some (.ref 0), some (.ref 57), some (.int 1), some (.long x4), none, some (.int v6), some (.int v7), none, none, none, none]) (st' := [.int 8, .ref 0]) (I' := I8) (J' := J8) rfl ?_
                refine Wp.call (M' := Sb_drift) (as := [.ref 0, .int 8]) (rest := []) rfl (CI.use h (fun v9 I9 J9 h => ?_))
                refine Wp.eqs (pc' := 253) (st' := [.int v9]) rfl rfl ?_
                refine Wp.steps 6 (pc' := 265) (lv' := [some (.ref 100), some (.ref 0), some (.ref 57), some (.int 1), some (.long x4), none, some (.int v6), some (.int v7), some (.int v9), none, none, none]) (st' := [.ref 57, .ref 0]) (I' := I9) (J' := J9) rfl ?_
                refine Wp.call (M' := Lw_hash) (as := [.ref 0, .ref 57]) (rest := []) rfl (CL.use h (fun v10 I10 J10 h => ?_))
                refine Wp.eqs (pc' := 268) (st' := [.long v10]) rfl rfl ?_
                refine Wp.steps 7 (pc' := 283) (lv' := [some (.ref 100), some (.ref 0), some (.ref 57), some (.int 1), some (.long x4), none, some (.int v6), some (.int v7), some (.int v9), some (.long v10), none, none]) (st' := [.int 7, .ref 0, .int v9]) (I' := I10) (J' := J10) rfl ?_
                refine Wp.call (M' := Sb_count) (as := [.ref 0, .int 7]) (rest := [.int v9]) rfl (CI.use h (fun v11 I11 J11 h => ?_))
                refine Wp.eqs (pc' := 286) (st' := [.int v11, .int v9]) rfl rfl ?_
                refine Wp.steps 1 (pc' := if v9 = v11 then 289 else 301) (lv' := [some (.ref 100), some (.ref 0), some (.ref 57), some (.int 1), some (.long x4), none, some (.int v6), some (.int v7), some (.int v9), some (.long v10), none, none]) (st' := []) (I' := I11) (J' := J11) rfl (Wp.ite (fun h8 => ?_) (fun h8 => ?_))
                · replace h := h.1 h8
                  refine Wp.steps 2 (pc' := 291) (lv' := [some (.ref 100), some (.ref 0), some (.ref 57), some (.int 1), some (.long x4), none, some (.int v6), some (.int v7), some (.int v9), some (.long v10), none, none]) (st' := [.ref 57, .ref 0]) (I' := I11) (J' := J11) rfl ?_
                  refine Wp.call (M' := Lw_stands) (as := [.ref 0, .ref 57]) (rest := []) rfl (CI.use h (fun v12 I12 J12 h => ?_))
                  refine Wp.eqs (pc' := 294) (st' := [.int v12]) rfl rfl ?_
                  refine Wp.steps 1 (pc' := if v12 = 0 then 301 else 297) (lv' := [some (.ref 100), some (.ref 0), some (.ref 57), some (.int 1), some (.long x4), none, some (.int v6), some (.int v7), some (.int v9), some (.long v10), none, none]) (st' := []) (I' := I12) (J' := J12) rfl (Wp.ite (fun h9 => ?_) (fun h9 => ?_))
                  · replace h := h.1 h9
                    refine Wp.steps 4 (pc' := 306) (lv' := [some (.ref 100), some (.ref 0), some (.ref 57), some (.int 0), some (.long x4), none, some (.int v6), some (.int v7), some (.int v9), some (.long v10), none, some (.int 0)]) (st' := []) (I' := I12) (J' := J12) rfl ?_
                    exact h
                  · replace h := h.2 h9
                    refine Wp.steps 5 (pc' := 306) (lv' := [some (.ref 100), some (.ref 0), some (.ref 57), some (.int 1), some (.long x4), none, some (.int v6), some (.int v7), some (.int v9), some (.long v10), none, some (.int 0)]) (st' := []) (I' := I12) (J' := J12) rfl ?_
                    exact h
                · replace h := h.2 h8
                  refine Wp.steps 4 (pc' := 306) (lv' := [some (.ref 100), some (.ref 0), some (.ref 57), some (.int 0), some (.long x4), none, some (.int v6), some (.int v7), some (.int v9), some (.long v10), none, some (.int 0)]) (st' := []) (I' := I11) (J' := J11) rfl ?_
                  exact h
set_option maxHeartbeats 16000000 in
theorem v_LawB_306 {d : Nat} {Q : Post} {I : I2} {J : J2} {x3 : Int32} {x4 : Int64} {x6 : Int32} {x7 : Int32} {x8 : Int32} {x9 : Int64} {x11 : Int32} (h : (x11 < 8 → (x3 = 0 → Q (some (.int 0)) I J) ∧ (¬ (x3 = 0) → CI d Sb_undo [.ref 0] I J (fun v1 I1 J1 => (v1 = (7 - x11) → Wp d LawB Q 306 [some (.ref 100), some (.ref 0), some (.ref 57), some (.int 1), some (.long x4), none, some (.int x6), some (.int x7), some (.int x8), some (.long x9), none, some (.int (x11 + 1))] [] I1 J1) ∧ (¬ (v1 = (7 - x11)) → Wp d LawB Q 306 [some (.ref 100), some (.ref 0), some (.ref 57), some (.int 0), some (.long x4), none, some (.int x6), some (.int x7), some (.int x8), some (.long x9), none, some (.int (x11 + 1))] [] I1 J1)))) ∧ (¬ (x11 < 8) → (x3 = 0 → Q (some (.int 0)) I J) ∧ (¬ (x3 = 0) → CL d Lw_hash [.ref 0, .ref 57] I J (fun v1 I1 J1 => ((lg_cmp v1 x4) = 0 → CI d Sb_undo [.ref 0] I1 J1 (fun v2 I2 J2 => (v2 = (-4) → CI d Sb_drift [.ref 0, .int 8] I2 J2 (fun v3 I3 J3 => (v3 = x8 → CL d Lw_hash [.ref 0, .ref 57] I3 J3 (fun v4 I4 J4 => ((lg_cmp v4 x9) = 0 → CI d Sb_restore [.ref 0] I4 J4 (fun v5 I5 J5 => (v5 = 1 → CI d Sb_count [.ref 0, .int 8] I5 J5 (fun v6 I6 J6 => (v6 = x7 → CL d Lw_hash [.ref 0, .ref 57] I6 J6 (fun v7 I7 J7 => ((lg_cmp v7 x4) = 0 → Q (some (.int 1)) I7 J7) ∧ (¬ ((lg_cmp v7 x4) = 0) → Q (some (.int 0)) I7 J7))) ∧ (¬ (v6 = x7) → Q (some (.int 0)) I6 J6))) ∧ (¬ (v5 = 1) → Q (some (.int 0)) I5 J5))) ∧ (¬ ((lg_cmp v4 x9) = 0) → Q (some (.int 0)) I4 J4))) ∧ (¬ (v3 = x8) → Q (some (.int 0)) I3 J3))) ∧ (¬ (v2 = (-4)) → Q (some (.int 0)) I2 J2))) ∧ (¬ ((lg_cmp v1 x4) = 0) → Q (some (.int 0)) I1 J1))))) : Wp d LawB Q 306 [some (.ref 100), some (.ref 0), some (.ref 57), some (.int x3), some (.long x4), none, some (.int x6), some (.int x7), some (.int x8), some (.long x9), none, some (.int x11)] [] I J := by
  refine Wp.steps 2 (pc' := 310) (lv' := [some (.ref 100), some (.ref 0), some (.ref 57), some (.int x3), some (.long x4), none, some (.int x6), some (.int x7), some (.int x8), some (.long x9), none, some (.int x11)]) (st' := [.int 8, .int x11]) (I' := I) (J' := J) rfl ?_
  refine Wp.steps 1 (pc' := if x11 < 8 then 313 else 341) (lv' := [some (.ref 100), some (.ref 0), some (.ref 57), some (.int x3), some (.long x4), none, some (.int x6), some (.int x7), some (.int x8), some (.long x9), none, some (.int x11)]) (st' := []) (I' := I) (J' := J) rfl (Wp.ite (fun h1 => ?_) (fun h1 => ?_))
  · replace h := h.1 h1
    refine Wp.steps 1 (pc' := 314) (lv' := [some (.ref 100), some (.ref 0), some (.ref 57), some (.int x3), some (.long x4), none, some (.int x6), some (.int x7), some (.int x8), some (.long x9), none, some (.int x11)]) (st' := [.int x3]) (I' := I) (J' := J) rfl ?_
    refine Wp.steps 1 (pc' := if x3 = 0 then 341 else 317) (lv' := [some (.ref 100), some (.ref 0), some (.ref 57), some (.int x3), some (.long x4), none, some (.int x6), some (.int x7), some (.int x8), some (.long x9), none, some (.int x11)]) (st' := []) (I' := I) (J' := J) rfl (Wp.ite (fun h2 => ?_) (fun h2 => ?_))
    · replace h := h.1 h2
      refine Wp.steps 1 (pc' := 342) (lv' := [some (.ref 100), some (.ref 0), some (.ref 57), some (.int x3), some (.long x4), none, some (.int x6), some (.int x7), some (.int x8), some (.long x9), none, some (.int x11)]) (st' := [.int x3]) (I' := I) (J' := J) rfl ?_
      refine Wp.steps 1 (pc' := if x3 = 0 then 391 else 345) (lv' := [some (.ref 100), some (.ref 0), some (.ref 57), some (.int x3), some (.long x4), none, some (.int x6), some (.int x7), some (.int x8), some (.long x9), none, some (.int x11)]) (st' := []) (I' := I) (J' := J) rfl ?_
      rw [if_pos h2]
      refine Wp.steps 5 (pc' := 432) (lv' := [some (.ref 100), some (.ref 0), some (.ref 57), some (.int 0), some (.long x4), none, some (.int x6), some (.int x7), some (.int x8), some (.long x9), none, some (.int x11)]) (st' := [.int 0]) (I' := I) (J' := J) rfl ?_
      exact Wp.ret rfl h
    · replace h := h.2 h2
      refine Wp.steps 1 (pc' := 318) (lv' := [some (.ref 100), some (.ref 0), some (.ref 57), some (.int x3), some (.long x4), none, some (.int x6), some (.int x7), some (.int x8), some (.long x9), none, some (.int x11)]) (st' := [.ref 0]) (I' := I) (J' := J) rfl ?_
      refine Wp.call (M' := Sb_undo) (as := [.ref 0]) (rest := []) rfl (CI.use h (fun v1 I1 J1 h => ?_))
      refine Wp.eqs (pc' := 321) (st' := [.int v1]) rfl rfl ?_
      refine Wp.steps 3 (pc' := 326) (lv' := [some (.ref 100), some (.ref 0), some (.ref 57), some (.int x3), some (.long x4), none, some (.int x6), some (.int x7), some (.int x8), some (.long x9), none, some (.int x11)]) (st' := [.int (7 - x11), .int v1]) (I' := I1) (J' := J1) rfl ?_
      refine Wp.steps 1 (pc' := if v1 = (7 - x11) then 329 else 333) (lv' := [some (.ref 100), some (.ref 0), some (.ref 57), some (.int x3), some (.long x4), none, some (.int x6), some (.int x7), some (.int x8), some (.long x9), none, some (.int x11)]) (st' := []) (I' := I1) (J' := J1) rfl (Wp.ite (fun h3 => ?_) (fun h3 => ?_))
      · replace h := h.1 h3
        refine Wp.steps 5 (pc' := 306) (lv' := [some (.ref 100), some (.ref 0), some (.ref 57), some (.int 1), some (.long x4), none, some (.int x6), some (.int x7), some (.int x8), some (.long x9), none, some (.int (x11 + 1))]) (st' := []) (I' := I1) (J' := J1) rfl ?_
        exact h
      · replace h := h.2 h3
        refine Wp.steps 4 (pc' := 306) (lv' := [some (.ref 100), some (.ref 0), some (.ref 57), some (.int 0), some (.long x4), none, some (.int x6), some (.int x7), some (.int x8), some (.long x9), none, some (.int (x11 + 1))]) (st' := []) (I' := I1) (J' := J1) rfl ?_
        exact h
  · replace h := h.2 h1
    refine Wp.steps 1 (pc' := 342) (lv' := [some (.ref 100), some (.ref 0), some (.ref 57), some (.int x3), some (.long x4), none, some (.int x6), some (.int x7), some (.int x8), some (.long x9), none, some (.int x11)]) (st' := [.int x3]) (I' := I) (J' := J) rfl ?_
    refine Wp.steps 1 (pc' := if x3 = 0 then 391 else 345) (lv' := [some (.ref 100), some (.ref 0), some (.ref 57), some (.int x3), some (.long x4), none, some (.int x6), some (.int x7), some (.int x8), some (.long x9), none, some (.int x11)]) (st' := []) (I' := I) (J' := J) rfl (Wp.ite (fun h2 => ?_) (fun h2 => ?_))
    · replace h := h.1 h2
      refine Wp.steps 5 (pc' := 432) (lv' := [some (.ref 100), some (.ref 0), some (.ref 57), some (.int 0), some (.long x4), none, some (.int x6), some (.int x7), some (.int x8), some (.long x9), none, some (.int x11)]) (st' := [.int 0]) (I' := I) (J' := J) rfl ?_
      exact Wp.ret rfl h
    · replace h := h.2 h2
      refine Wp.steps 2 (pc' := 347) (lv' := [some (.ref 100), some (.ref 0), some (.ref 57), some (.int x3), some (.long x4), none, some (.int x6), some (.int x7), some (.int x8), some (.long x9), none, some (.int x11)]) (st' := [.ref 57, .ref 0]) (I' := I) (J' := J) rfl ?_
      refine Wp.call (M' := Lw_hash) (as := [.ref 0, .ref 57]) (rest := []) rfl (CL.use h (fun v1 I1 J1 h => ?_))
      refine Wp.eqs (pc' := 350) (st' := [.long v1]) rfl rfl ?_
      refine Wp.steps 2 (pc' := 353) (lv' := [some (.ref 100), some (.ref 0), some (.ref 57), some (.int x3), some (.long x4), none, some (.int x6), some (.int x7), some (.int x8), some (.long x9), none, some (.int x11)]) (st' := [.int (lg_cmp v1 x4)]) (I' := I1) (J' := J1) rfl ?_
      refine Wp.steps 1 (pc' := if (lg_cmp v1 x4) = 0 then 356 else 391) (lv' := [some (.ref 100), some (.ref 0), some (.ref 57), some (.int x3), some (.long x4), none, some (.int x6), some (.int x7), some (.int x8), some (.long x9), none, some (.int x11)]) (st' := []) (I' := I1) (J' := J1) rfl (Wp.ite (fun h3 => ?_) (fun h3 => ?_))
      · replace h := h.1 h3
        refine Wp.steps 1 (pc' := 357) (lv' := [some (.ref 100), some (.ref 0), some (.ref 57), some (.int x3), some (.long x4), none, some (.int x6), some (.int x7), some (.int x8), some (.long x9), none, some (.int x11)]) (st' := [.ref 0]) (I' := I1) (J' := J1) rfl ?_
        refine Wp.call (M' := Sb_undo) (as := [.ref 0]) (rest := []) rfl (CI.use h (fun v2 I2 J2 h => ?_))
        refine Wp.eqs (pc' := 360) (st' := [.int v2]) rfl rfl ?_
        refine Wp.steps 1 (pc' := 362) (lv' := [some (.ref 100), some (.ref 0), some (.ref 57), some (.int x3), some (.long x4), none, some (.int x6), some (.int x7), some (.int x8), some (.long x9), none, some (.int x11)]) (st' := [.int (-4), .int v2]) (I' := I2) (J' := J2) rfl ?_
        refine Wp.steps 1 (pc' := if v2 = (-4) then 365 else 391) (lv' := [some (.ref 100), some (.ref 0), some (.ref 57), some (.int x3), some (.long x4), none, some (.int x6), some (.int x7), some (.int x8), some (.long x9), none, some (.int x11)]) (st' := []) (I' := I2) (J' := J2) rfl (Wp.ite (fun h4 => ?_) (fun h4 => ?_))
        · replace h := h.1 h4
          refine Wp.steps 2 (pc' := 368) (lv' := [some (.ref 100), some (.ref 0), some (.ref 57), some (.int x3), some (.long x4), none, some (.int x6), some (.int x7), some (.int x8), some (.long x9), none, some (.int x11)]) (st' := [.int 8, .ref 0]) (I' := I2) (J' := J2) rfl ?_
          refine Wp.call (M' := Sb_drift) (as := [.ref 0, .int 8]) (rest := []) rfl (CI.use h (fun v3 I3 J3 h => ?_))
          refine Wp.eqs (pc' := 371) (st' := [.int v3]) rfl rfl ?_
          refine Wp.steps 1 (pc' := 373) (lv' := [some (.ref 100), some (.ref 0), some (.ref 57), some (.int x3), some (.long x4), none, some (.int x6), some (.int x7), some (.int x8), some (.long x9), none, some (.int x11)]) (st' := [.int x8, .int v3]) (I' := I3) (J' := J3) rfl ?_
          refine Wp.steps 1 (pc' := if v3 = x8 then 376 else 391) (lv' := [some (.ref 100), some (.ref 0), some (.ref 57), some (.int x3), some (.long x4), none, some (.int x6), some (.int x7), some (.int x8), some (.long x9), none, some (.int x11)]) (st' := []) (I' := I3) (J' := J3) rfl (Wp.ite (fun h5 => ?_) (fun h5 => ?_))
          · replace h := h.1 h5
            refine Wp.steps 2 (pc' := 378) (lv' := [some (.ref 100), some (.ref 0), some (.ref 57), some (.int x3), some (.long x4), none, some (.int x6), some (.int x7), some (.int x8), some (.long x9), none, some (.int x11)]) (st' := [.ref 57, .ref 0]) (I' := I3) (J' := J3) rfl ?_
            refine Wp.call (M' := Lw_hash) (as := [.ref 0, .ref 57]) (rest := []) rfl (CL.use h (fun v4 I4 J4 h => ?_))
            refine Wp.eqs (pc' := 381) (st' := [.long v4]) rfl rfl ?_
            refine Wp.steps 2 (pc' := 384) (lv' := [some (.ref 100), some (.ref 0), some (.ref 57), some (.int x3), some (.long x4), none, some (.int x6), some (.int x7), some (.int x8), some (.long x9), none, some (.int x11)]) (st' := [.int (lg_cmp v4 x9)]) (I' := I4) (J' := J4) rfl ?_
            refine Wp.steps 1 (pc' := if (lg_cmp v4 x9) = 0 then 387 else 391) (lv' := [some (.ref 100), some (.ref 0), some (.ref 57), some (.int x3), some (.long x4), none, some (.int x6), some (.int x7), some (.int x8), some (.long x9), none, some (.int x11)]) (st' := []) (I' := I4) (J' := J4) rfl (Wp.ite (fun h6 => ?_) (fun h6 => ?_))
            · replace h := h.1 h6
              refine Wp.steps 6 (pc' := 398) (lv' := [some (.ref 100), some (.ref 0), some (.ref 57), some (.int 1), some (.long x4), none, some (.int x6), some (.int x7), some (.int x8), some (.long x9), none, some (.int x11)]) (st' := [.ref 0]) (I' := I4) (J' := J4) rfl ?_
              refine Wp.call (M' := Sb_restore) (as := [.ref 0]) (rest := []) rfl (CI.use h (fun v5 I5 J5 h => ?_))
              refine Wp.eqs (pc' := 401) (st' := [.int v5]) rfl rfl ?_
              refine Wp.steps 1 (pc' := 402) (lv' := [some (.ref 100), some (.ref 0), some (.ref 57), some (.int 1), some (.long x4), none, some (.int x6), some (.int x7), some (.int x8), some (.long x9), none, some (.int x11)]) (st' := [.int 1, .int v5]) (I' := I5) (J' := J5) rfl ?_
              refine Wp.steps 1 (pc' := if v5 = 1 then 405 else 431) (lv' := [some (.ref 100), some (.ref 0), some (.ref 57), some (.int 1), some (.long x4), none, some (.int x6), some (.int x7), some (.int x8), some (.long x9), none, some (.int x11)]) (st' := []) (I' := I5) (J' := J5) rfl (Wp.ite (fun h7 => ?_) (fun h7 => ?_))
              · replace h := h.1 h7
                refine Wp.steps 2 (pc' := 408) (lv' := [some (.ref 100), some (.ref 0), some (.ref 57), some (.int 1), some (.long x4), none, some (.int x6), some (.int x7), some (.int x8), some (.long x9), none, some (.int x11)]) (st' := [.int 8, .ref 0]) (I' := I5) (J' := J5) rfl ?_
                refine Wp.call (M' := Sb_count) (as := [.ref 0, .int 8]) (rest := []) rfl (CI.use h (fun v6 I6 J6 h => ?_))
                refine Wp.eqs (pc' := 411) (st' := [.int v6]) rfl rfl ?_
                refine Wp.steps 1 (pc' := 413) (lv' := [some (.ref 100), some (.ref 0), some (.ref 57), some (.int 1), some (.long x4), none, some (.int x6), some (.int x7), some (.int x8), some (.long x9), none, some (.int x11)]) (st' := [.int x7, .int v6]) (I' := I6) (J' := J6) rfl ?_
                refine Wp.steps 1 (pc' := if v6 = x7 then 416 else 431) (lv' := [some (.ref 100), some (.ref 0), some (.ref 57), some (.int 1), some (.long x4), none, some (.int x6), some (.int x7), some (.int x8), some (.long x9), none, some (.int x11)]) (st' := []) (I' := I6) (J' := J6) rfl (Wp.ite (fun h8 => ?_) (fun h8 => ?_))
                · replace h := h.1 h8
                  refine Wp.steps 2 (pc' := 418) (lv' := [some (.ref 100), some (.ref 0), some (.ref 57), some (.int 1), some (.long x4), none, some (.int x6), some (.int x7), some (.int x8), some (.long x9), none, some (.int x11)]) (st' := [.ref 57, .ref 0]) (I' := I6) (J' := J6) rfl ?_
                  refine Wp.call (M' := Lw_hash) (as := [.ref 0, .ref 57]) (rest := []) rfl (CL.use h (fun v7 I7 J7 h => ?_))
                  refine Wp.eqs (pc' := 421) (st' := [.long v7]) rfl rfl ?_
                  refine Wp.steps 2 (pc' := 424) (lv' := [some (.ref 100), some (.ref 0), some (.ref 57), some (.int 1), some (.long x4), none, some (.int x6), some (.int x7), some (.int x8), some (.long x9), none, some (.int x11)]) (st' := [.int (lg_cmp v7 x4)]) (I' := I7) (J' := J7) rfl ?_
                  refine Wp.steps 1 (pc' := if (lg_cmp v7 x4) = 0 then 427 else 431) (lv' := [some (.ref 100), some (.ref 0), some (.ref 57), some (.int 1), some (.long x4), none, some (.int x6), some (.int x7), some (.int x8), some (.long x9), none, some (.int x11)]) (st' := []) (I' := I7) (J' := J7) rfl (Wp.ite (fun h9 => ?_) (fun h9 => ?_))
                  · replace h := h.1 h9
                    refine Wp.steps 2 (pc' := 432) (lv' := [some (.ref 100), some (.ref 0), some (.ref 57), some (.int 1), some (.long x4), none, some (.int x6), some (.int x7), some (.int x8), some (.long x9), none, some (.int x11)]) (st' := [.int 1]) (I' := I7) (J' := J7) rfl ?_
                    exact Wp.ret rfl h
                  · replace h := h.2 h9
                    refine Wp.steps 1 (pc' := 432) (lv' := [some (.ref 100), some (.ref 0), some (.ref 57), some (.int 1), some (.long x4), none, some (.int x6), some (.int x7), some (.int x8), some (.long x9), none, some (.int x11)]) (st' := [.int 0]) (I' := I7) (J' := J7) rfl ?_
                    exact Wp.ret rfl h
                · replace h := h.2 h8
                  refine Wp.steps 1 (pc' := 432) (lv' := [some (.ref 100), some (.ref 0), some (.ref 57), some (.int 1), some (.long x4), none, some (.int x6), some (.int x7), some (.int x8), some (.long x9), none, some (.int x11)]) (st' := [.int 0]) (I' := I6) (J' := J6) rfl ?_
                  exact Wp.ret rfl h
              · replace h := h.2 h7
                refine Wp.steps 1 (pc' := 432) (lv' := [some (.ref 100), some (.ref 0), some (.ref 57), some (.int 1), some (.long x4), none, some (.int x6), some (.int x7), some (.int x8), some (.long x9), none, some (.int x11)]) (st' := [.int 0]) (I' := I5) (J' := J5) rfl ?_
                exact Wp.ret rfl h
            · replace h := h.2 h6
              refine Wp.steps 5 (pc' := 432) (lv' := [some (.ref 100), some (.ref 0), some (.ref 57), some (.int 0), some (.long x4), none, some (.int x6), some (.int x7), some (.int x8), some (.long x9), none, some (.int x11)]) (st' := [.int 0]) (I' := I4) (J' := J4) rfl ?_
              exact Wp.ret rfl h
          · replace h := h.2 h5
            refine Wp.steps 5 (pc' := 432) (lv' := [some (.ref 100), some (.ref 0), some (.ref 57), some (.int 0), some (.long x4), none, some (.int x6), some (.int x7), some (.int x8), some (.long x9), none, some (.int x11)]) (st' := [.int 0]) (I' := I3) (J' := J3) rfl ?_
            exact Wp.ret rfl h
        · replace h := h.2 h4
          refine Wp.steps 5 (pc' := 432) (lv' := [some (.ref 100), some (.ref 0), some (.ref 57), some (.int 0), some (.long x4), none, some (.int x6), some (.int x7), some (.int x8), some (.long x9), none, some (.int x11)]) (st' := [.int 0]) (I' := I2) (J' := J2) rfl ?_
          exact Wp.ret rfl h
      · replace h := h.2 h3
        refine Wp.steps 5 (pc' := 432) (lv' := [some (.ref 100), some (.ref 0), some (.ref 57), some (.int 0), some (.long x4), none, some (.int x6), some (.int x7), some (.int x8), some (.long x9), none, some (.int x11)]) (st' := [.int 0]) (I' := I1) (J' := J1) rfl ?_
        exact Wp.ret rfl h
