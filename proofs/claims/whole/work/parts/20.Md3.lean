/-! what each way through a method asks (by program): Md_panelsRead_57, Md_here_57, Md_locksRead_57, Md_notes_57, Md_behind_57, Md_many, Md_goesThrough_57, Md_firstOpen_57 -/
theorem v_Md_panelsRead_57_0 {d : Nat} {Q : Post} {I : I2} {J : J2} (h : Wp d Md_panelsRead Q 7 [some (.ref 57), some (.int 0), none, none, none] [] (up2 I 57 6 (-1)) J) : Wp d Md_panelsRead Q 0 [some (.ref 57), none, none, none, none] [] I J := by
  refine Wp.steps 5 (pc' := 7) (lv' := [some (.ref 57), some (.int 0), none, none, none]) (st' := []) (I' := (up2 I 57 6 (-1))) (J' := J) rfl ?_
  exact h
theorem v_Md_panelsRead_57_7 {d : Nat} {Q : Post} {I : I2} {J : J2} {x1 : Int32} (h : ((I 57 4) = 0 → (x1 = 0 → (0 < x1 → (x1 < 5 → Wp d Md_panelsRead Q 42 [some (.ref 57), some (.int x1), none, none, none] [.int 1, .ref 57] I J) ∧ (¬ (x1 < 5) → Wp d Md_panelsRead Q 42 [some (.ref 57), some (.int x1), none, none, none] [.int 0, .ref 57] I J)) ∧ (¬ (0 < x1) → CI d Md_here [.ref 57] I J (fun v1 I1 J1 => Wp d Md_panelsRead Q 60 [some (.ref 57), some (.int x1), none, none, none] [.int v1] I1 J1))) ∧ (¬ (x1 = 0) → CI d Md_here [.ref 57] I J (fun v1 I1 J1 => (v1 = 44 → (0 < x1 → (x1 < 5 → Wp d Md_panelsRead Q 42 [some (.ref 57), some (.int x1), none, none, none] [.int 1, .ref 57] I1 J1) ∧ (¬ (x1 < 5) → Wp d Md_panelsRead Q 42 [some (.ref 57), some (.int x1), none, none, none] [.int 0, .ref 57] I1 J1)) ∧ (¬ (0 < x1) → ((I1 57 4) = 0 → CI d Md_here [.ref 57] I1 J1 (fun v2 I2 J2 => Wp d Md_panelsRead Q 60 [some (.ref 57), some (.int x1), none, none, none] [.int v2] I2 J2)) ∧ (¬ ((I1 57 4) = 0) → Wp d Md_panelsRead Q 60 [some (.ref 57), some (.int x1), none, none, none] [.int 0] I1 J1))) ∧ (¬ (v1 = 44) → Q (some (.int x1)) I1 J1)))) ∧ (¬ ((I 57 4) = 0) → Q (some (.int x1)) I J)) : Wp d Md_panelsRead Q 7 [some (.ref 57), some (.int x1), none, none, none] [] I J := by
  refine Wp.steps 2 (pc' := 11) (lv' := [some (.ref 57), some (.int x1), none, none, none]) (st' := [.int (I 57 4)]) (I' := I) (J' := J) rfl ?_
  refine Wp.steps 1 (pc' := if (I 57 4) = 0 then 14 else 205) (lv' := [some (.ref 57), some (.int x1), none, none, none]) (st' := []) (I' := I) (J' := J) rfl (Wp.ite (fun h1 => ?_) (fun h1 => ?_))
  · replace h := h.1 h1
    refine Wp.steps 1 (pc' := 15) (lv' := [some (.ref 57), some (.int x1), none, none, none]) (st' := [.int x1]) (I' := I) (J' := J) rfl ?_
    refine Wp.steps 1 (pc' := if x1 = 0 then 27 else 18) (lv' := [some (.ref 57), some (.int x1), none, none, none]) (st' := []) (I' := I) (J' := J) rfl (Wp.ite (fun h2 => ?_) (fun h2 => ?_))
    · replace h := h.1 h2
      refine Wp.steps 1 (pc' := 28) (lv' := [some (.ref 57), some (.int x1), none, none, none]) (st' := [.int x1]) (I' := I) (J' := J) rfl ?_
      refine Wp.steps 1 (pc' := if 0 < x1 then 31 else 45) (lv' := [some (.ref 57), some (.int x1), none, none, none]) (st' := []) (I' := I) (J' := J) rfl (Wp.ite (fun h3 => ?_) (fun h3 => ?_))
      · replace h := h.1 h3
        refine Wp.steps 3 (pc' := 34) (lv' := [some (.ref 57), some (.int x1), none, none, none]) (st' := [.int 5, .int x1, .ref 57]) (I' := I) (J' := J) rfl ?_
        refine Wp.steps 1 (pc' := if x1 < 5 then 37 else 41) (lv' := [some (.ref 57), some (.int x1), none, none, none]) (st' := [.ref 57]) (I' := I) (J' := J) rfl (Wp.ite (fun h4 => ?_) (fun h4 => ?_))
        · replace h := h.1 h4
          refine Wp.steps 2 (pc' := 42) (lv' := [some (.ref 57), some (.int x1), none, none, none]) (st' := [.int 1, .ref 57]) (I' := I) (J' := J) rfl ?_
          exact h
        · replace h := h.2 h4
          refine Wp.steps 1 (pc' := 42) (lv' := [some (.ref 57), some (.int x1), none, none, none]) (st' := [.int 0, .ref 57]) (I' := I) (J' := J) rfl ?_
          exact h
      · replace h := h.2 h3
        refine Wp.steps 2 (pc' := 49) (lv' := [some (.ref 57), some (.int x1), none, none, none]) (st' := [.int (I 57 4)]) (I' := I) (J' := J) rfl ?_
        refine Wp.steps 1 (pc' := if (I 57 4) = 0 then 56 else 52) (lv' := [some (.ref 57), some (.int x1), none, none, none]) (st' := []) (I' := I) (J' := J) rfl ?_
        rw [if_pos h1]
        refine Wp.steps 1 (pc' := 57) (lv' := [some (.ref 57), some (.int x1), none, none, none]) (st' := [.ref 57]) (I' := I) (J' := J) rfl ?_
        refine Wp.call (M' := Md_here) (as := [.ref 57]) (rest := []) rfl (CI.use h (fun v1 I1 J1 h => ?_))
        refine Wp.eqs (pc' := 60) (st' := [.int v1]) rfl rfl ?_
        exact h
    · replace h := h.2 h2
      refine Wp.steps 1 (pc' := 19) (lv' := [some (.ref 57), some (.int x1), none, none, none]) (st' := [.ref 57]) (I' := I) (J' := J) rfl ?_
      refine Wp.call (M' := Md_here) (as := [.ref 57]) (rest := []) rfl (CI.use h (fun v1 I1 J1 h => ?_))
      refine Wp.eqs (pc' := 22) (st' := [.int v1]) rfl rfl ?_
      refine Wp.steps 1 (pc' := 24) (lv' := [some (.ref 57), some (.int x1), none, none, none]) (st' := [.int 44, .int v1]) (I' := I1) (J' := J1) rfl ?_
      refine Wp.steps 1 (pc' := if v1 = 44 then 27 else 205) (lv' := [some (.ref 57), some (.int x1), none, none, none]) (st' := []) (I' := I1) (J' := J1) rfl (Wp.ite (fun h3 => ?_) (fun h3 => ?_))
      · replace h := h.1 h3
        refine Wp.steps 1 (pc' := 28) (lv' := [some (.ref 57), some (.int x1), none, none, none]) (st' := [.int x1]) (I' := I1) (J' := J1) rfl ?_
        refine Wp.steps 1 (pc' := if 0 < x1 then 31 else 45) (lv' := [some (.ref 57), some (.int x1), none, none, none]) (st' := []) (I' := I1) (J' := J1) rfl (Wp.ite (fun h4 => ?_) (fun h4 => ?_))
        · replace h := h.1 h4
          refine Wp.steps 3 (pc' := 34) (lv' := [some (.ref 57), some (.int x1), none, none, none]) (st' := [.int 5, .int x1, .ref 57]) (I' := I1) (J' := J1) rfl ?_
          refine Wp.steps 1 (pc' := if x1 < 5 then 37 else 41) (lv' := [some (.ref 57), some (.int x1), none, none, none]) (st' := [.ref 57]) (I' := I1) (J' := J1) rfl (Wp.ite (fun h5 => ?_) (fun h5 => ?_))
          · replace h := h.1 h5
            refine Wp.steps 2 (pc' := 42) (lv' := [some (.ref 57), some (.int x1), none, none, none]) (st' := [.int 1, .ref 57]) (I' := I1) (J' := J1) rfl ?_
            exact h
          · replace h := h.2 h5
            refine Wp.steps 1 (pc' := 42) (lv' := [some (.ref 57), some (.int x1), none, none, none]) (st' := [.int 0, .ref 57]) (I' := I1) (J' := J1) rfl ?_
            exact h
        · replace h := h.2 h4
          refine Wp.steps 2 (pc' := 49) (lv' := [some (.ref 57), some (.int x1), none, none, none]) (st' := [.int (I1 57 4)]) (I' := I1) (J' := J1) rfl ?_
          refine Wp.steps 1 (pc' := if (I1 57 4) = 0 then 56 else 52) (lv' := [some (.ref 57), some (.int x1), none, none, none]) (st' := []) (I' := I1) (J' := J1) rfl (Wp.ite (fun h5 => ?_) (fun h5 => ?_))
          · replace h := h.1 h5
            refine Wp.steps 1 (pc' := 57) (lv' := [some (.ref 57), some (.int x1), none, none, none]) (st' := [.ref 57]) (I' := I1) (J' := J1) rfl ?_
            refine Wp.call (M' := Md_here) (as := [.ref 57]) (rest := []) rfl (CI.use h (fun v2 I2 J2 h => ?_))
            refine Wp.eqs (pc' := 60) (st' := [.int v2]) rfl rfl ?_
            exact h
          · replace h := h.2 h5
            refine Wp.steps 2 (pc' := 60) (lv' := [some (.ref 57), some (.int x1), none, none, none]) (st' := [.int 0]) (I' := I1) (J' := J1) rfl ?_
            exact h
      · replace h := h.2 h3
        refine Wp.steps 1 (pc' := 206) (lv' := [some (.ref 57), some (.int x1), none, none, none]) (st' := [.int x1]) (I' := I1) (J' := J1) rfl ?_
        exact Wp.ret rfl h
  · replace h := h.2 h1
    refine Wp.steps 1 (pc' := 206) (lv' := [some (.ref 57), some (.int x1), none, none, none]) (st' := [.int x1]) (I' := I) (J' := J) rfl ?_
    exact Wp.ret rfl h
theorem v_Md_panelsRead_57_42 {d : Nat} {Q : Post} {I : I2} {J : J2} {x1 : Int32} {s0 : Int32} (h : CV d Md_must [.ref 57, .int s0] I J (fun I1 J1 => ((I1 57 4) = 0 → CI d Md_here [.ref 57] I1 J1 (fun v2 I2 J2 => Wp d Md_panelsRead Q 60 [some (.ref 57), some (.int x1), none, none, none] [.int v2] I2 J2)) ∧ (¬ ((I1 57 4) = 0) → Wp d Md_panelsRead Q 60 [some (.ref 57), some (.int x1), none, none, none] [.int 0] I1 J1))) : Wp d Md_panelsRead Q 42 [some (.ref 57), some (.int x1), none, none, none] [.int s0, .ref 57] I J := by
  refine Wp.call (M' := Md_must) (as := [.ref 57, .int s0]) (rest := []) rfl (CV.use h (fun I1 J1 h => ?_))
  refine Wp.eqs (pc' := 45) (st' := []) rfl rfl ?_
  refine Wp.steps 2 (pc' := 49) (lv' := [some (.ref 57), some (.int x1), none, none, none]) (st' := [.int (I1 57 4)]) (I' := I1) (J' := J1) rfl ?_
  refine Wp.steps 1 (pc' := if (I1 57 4) = 0 then 56 else 52) (lv' := [some (.ref 57), some (.int x1), none, none, none]) (st' := []) (I' := I1) (J' := J1) rfl (Wp.ite (fun h1 => ?_) (fun h1 => ?_))
  · replace h := h.1 h1
    refine Wp.steps 1 (pc' := 57) (lv' := [some (.ref 57), some (.int x1), none, none, none]) (st' := [.ref 57]) (I' := I1) (J' := J1) rfl ?_
    refine Wp.call (M' := Md_here) (as := [.ref 57]) (rest := []) rfl (CI.use h (fun v2 I2 J2 h => ?_))
    refine Wp.eqs (pc' := 60) (st' := [.int v2]) rfl rfl ?_
    exact h
  · replace h := h.2 h1
    refine Wp.steps 2 (pc' := 60) (lv' := [some (.ref 57), some (.int x1), none, none, none]) (st' := [.int 0]) (I' := I1) (J' := J1) rfl ?_
    exact h
theorem v_Md_panelsRead_57_60 {d : Nat} {Q : Post} {I : I2} {J : J2} {x1 : Int32} {s0 : Int32} (h : (s0 = 112 → Wp d Md_panelsRead Q 112 [some (.ref 57), some (.int x1), some (.int s0), none, none] [.int 0] I J) ∧ (¬ (s0 = 112) → (s0 = 115 → Wp d Md_panelsRead Q 112 [some (.ref 57), some (.int x1), some (.int s0), none, none] [.int 1] I J) ∧ (¬ (s0 = 115) → (s0 = 114 → Wp d Md_panelsRead Q 112 [some (.ref 57), some (.int x1), some (.int s0), none, none] [.int 2] I J) ∧ (¬ (s0 = 114) → (s0 = 108 → Wp d Md_panelsRead Q 112 [some (.ref 57), some (.int x1), some (.int s0), none, none] [.int 3] I J) ∧ (¬ (s0 = 108) → (s0 = 98 → Wp d Md_panelsRead Q 112 [some (.ref 57), some (.int x1), some (.int s0), none, none] [.int 4] I J) ∧ (¬ (s0 = 98) → Wp d Md_panelsRead Q 112 [some (.ref 57), some (.int x1), some (.int s0), none, none] [.int (-1)] I J)))))) : Wp d Md_panelsRead Q 60 [some (.ref 57), some (.int x1), none, none, none] [.int s0] I J := by
  refine Wp.steps 3 (pc' := 64) (lv' := [some (.ref 57), some (.int x1), some (.int s0), none, none]) (st' := [.int 112, .int s0]) (I' := I) (J' := J) rfl ?_
  refine Wp.steps 1 (pc' := if s0 = 112 then 67 else 71) (lv' := [some (.ref 57), some (.int x1), some (.int s0), none, none]) (st' := []) (I' := I) (J' := J) rfl (Wp.ite (fun h1 => ?_) (fun h1 => ?_))
  · replace h := h.1 h1
    refine Wp.steps 2 (pc' := 112) (lv' := [some (.ref 57), some (.int x1), some (.int s0), none, none]) (st' := [.int 0]) (I' := I) (J' := J) rfl ?_
    exact h
  · replace h := h.2 h1
    refine Wp.steps 2 (pc' := 74) (lv' := [some (.ref 57), some (.int x1), some (.int s0), none, none]) (st' := [.int 115, .int s0]) (I' := I) (J' := J) rfl ?_
    refine Wp.steps 1 (pc' := if s0 = 115 then 77 else 81) (lv' := [some (.ref 57), some (.int x1), some (.int s0), none, none]) (st' := []) (I' := I) (J' := J) rfl (Wp.ite (fun h2 => ?_) (fun h2 => ?_))
    · replace h := h.1 h2
      refine Wp.steps 2 (pc' := 112) (lv' := [some (.ref 57), some (.int x1), some (.int s0), none, none]) (st' := [.int 1]) (I' := I) (J' := J) rfl ?_
      exact h
    · replace h := h.2 h2
      refine Wp.steps 2 (pc' := 84) (lv' := [some (.ref 57), some (.int x1), some (.int s0), none, none]) (st' := [.int 114, .int s0]) (I' := I) (J' := J) rfl ?_
      refine Wp.steps 1 (pc' := if s0 = 114 then 87 else 91) (lv' := [some (.ref 57), some (.int x1), some (.int s0), none, none]) (st' := []) (I' := I) (J' := J) rfl (Wp.ite (fun h3 => ?_) (fun h3 => ?_))
      · replace h := h.1 h3
        refine Wp.steps 2 (pc' := 112) (lv' := [some (.ref 57), some (.int x1), some (.int s0), none, none]) (st' := [.int 2]) (I' := I) (J' := J) rfl ?_
        exact h
      · replace h := h.2 h3
        refine Wp.steps 2 (pc' := 94) (lv' := [some (.ref 57), some (.int x1), some (.int s0), none, none]) (st' := [.int 108, .int s0]) (I' := I) (J' := J) rfl ?_
        refine Wp.steps 1 (pc' := if s0 = 108 then 97 else 101) (lv' := [some (.ref 57), some (.int x1), some (.int s0), none, none]) (st' := []) (I' := I) (J' := J) rfl (Wp.ite (fun h4 => ?_) (fun h4 => ?_))
        · replace h := h.1 h4
          refine Wp.steps 2 (pc' := 112) (lv' := [some (.ref 57), some (.int x1), some (.int s0), none, none]) (st' := [.int 3]) (I' := I) (J' := J) rfl ?_
          exact h
        · replace h := h.2 h4
          refine Wp.steps 2 (pc' := 104) (lv' := [some (.ref 57), some (.int x1), some (.int s0), none, none]) (st' := [.int 98, .int s0]) (I' := I) (J' := J) rfl ?_
          refine Wp.steps 1 (pc' := if s0 = 98 then 107 else 111) (lv' := [some (.ref 57), some (.int x1), some (.int s0), none, none]) (st' := []) (I' := I) (J' := J) rfl (Wp.ite (fun h5 => ?_) (fun h5 => ?_))
          · replace h := h.1 h5
            refine Wp.steps 2 (pc' := 112) (lv' := [some (.ref 57), some (.int x1), some (.int s0), none, none]) (st' := [.int 4]) (I' := I) (J' := J) rfl ?_
            exact h
          · replace h := h.2 h5
            refine Wp.steps 1 (pc' := 112) (lv' := [some (.ref 57), some (.int x1), some (.int s0), none, none]) (st' := [.int (-1)]) (I' := I) (J' := J) rfl ?_
            exact h
theorem v_Md_panelsRead_57_112 {d : Nat} {Q : Post} {I : I2} {J : J2} {x1 : Int32} {x2 : Int32} {s0 : Int32} (h : (s0 < 0 → CV d Md_must [.ref 57, .int 0] I J (fun I1 J1 => CI d Md_digit [.ref 57, .int 1, .int 3] I1 J1 (fun v2 I2 J2 => ((I2 57 4) = 0 → CI d Md_here [.ref 57] I2 J2 (fun v3 I3 J3 => (v3 = 33 → ((I3 57 6) < 0 → CV d Md_must [.ref 57, .int 1] I3 J3 (fun I4 J4 => ((I4 57 4) = 0 → vp_in (2 * x1) 10 ∧ (vp_in ((2 * x1) + 1) 10 ∧ (Wp d Md_panelsRead Q 7 [some (.ref 57), some (.int (x1 + 1)), none, none, none] [] (up2 (up2 (up2 I4 57 6 x1) 60 (tN (2 * x1)) s0) 60 (tN ((2 * x1) + 1)) v2) J4))) ∧ (¬ ((I4 57 4) = 0) → Wp d Md_panelsRead Q 7 [some (.ref 57), some (.int (x1 + 1)), none, none, none] [] (up2 I4 57 6 x1) J4))) ∧ (¬ ((I3 57 6) < 0) → CV d Md_must [.ref 57, .int 0] I3 J3 (fun I4 J4 => ((I4 57 4) = 0 → vp_in (2 * x1) 10 ∧ (vp_in ((2 * x1) + 1) 10 ∧ (Wp d Md_panelsRead Q 7 [some (.ref 57), some (.int (x1 + 1)), none, none, none] [] (up2 (up2 (up2 I4 57 6 x1) 60 (tN (2 * x1)) s0) 60 (tN ((2 * x1) + 1)) v2) J4))) ∧ (¬ ((I4 57 4) = 0) → Wp d Md_panelsRead Q 7 [some (.ref 57), some (.int (x1 + 1)), none, none, none] [] (up2 I4 57 6 x1) J4)))) ∧ (¬ (v3 = 33) → ((I3 57 4) = 0 → vp_in (2 * x1) 10 ∧ (vp_in ((2 * x1) + 1) 10 ∧ (Wp d Md_panelsRead Q 7 [some (.ref 57), some (.int (x1 + 1)), none, none, none] [] (up2 (up2 I3 60 (tN (2 * x1)) s0) 60 (tN ((2 * x1) + 1)) v2) J3))) ∧ (¬ ((I3 57 4) = 0) → Wp d Md_panelsRead Q 7 [some (.ref 57), some (.int (x1 + 1)), none, none, none] [] I3 J3)))) ∧ (¬ ((I2 57 4) = 0) → Wp d Md_panelsRead Q 7 [some (.ref 57), some (.int (x1 + 1)), none, none, none] [] I2 J2)))) ∧ (¬ (s0 < 0) → CV d Md_must [.ref 57, .int 1] I J (fun I1 J1 => CI d Md_digit [.ref 57, .int 1, .int 3] I1 J1 (fun v2 I2 J2 => ((I2 57 4) = 0 → CI d Md_here [.ref 57] I2 J2 (fun v3 I3 J3 => (v3 = 33 → ((I3 57 6) < 0 → CV d Md_must [.ref 57, .int 1] I3 J3 (fun I4 J4 => ((I4 57 4) = 0 → vp_in (2 * x1) 10 ∧ (vp_in ((2 * x1) + 1) 10 ∧ (Wp d Md_panelsRead Q 7 [some (.ref 57), some (.int (x1 + 1)), none, none, none] [] (up2 (up2 (up2 I4 57 6 x1) 60 (tN (2 * x1)) s0) 60 (tN ((2 * x1) + 1)) v2) J4))) ∧ (¬ ((I4 57 4) = 0) → Wp d Md_panelsRead Q 7 [some (.ref 57), some (.int (x1 + 1)), none, none, none] [] (up2 I4 57 6 x1) J4))) ∧ (¬ ((I3 57 6) < 0) → CV d Md_must [.ref 57, .int 0] I3 J3 (fun I4 J4 => ((I4 57 4) = 0 → vp_in (2 * x1) 10 ∧ (vp_in ((2 * x1) + 1) 10 ∧ (Wp d Md_panelsRead Q 7 [some (.ref 57), some (.int (x1 + 1)), none, none, none] [] (up2 (up2 (up2 I4 57 6 x1) 60 (tN (2 * x1)) s0) 60 (tN ((2 * x1) + 1)) v2) J4))) ∧ (¬ ((I4 57 4) = 0) → Wp d Md_panelsRead Q 7 [some (.ref 57), some (.int (x1 + 1)), none, none, none] [] (up2 I4 57 6 x1) J4)))) ∧ (¬ (v3 = 33) → ((I3 57 4) = 0 → vp_in (2 * x1) 10 ∧ (vp_in ((2 * x1) + 1) 10 ∧ (Wp d Md_panelsRead Q 7 [some (.ref 57), some (.int (x1 + 1)), none, none, none] [] (up2 (up2 I3 60 (tN (2 * x1)) s0) 60 (tN ((2 * x1) + 1)) v2) J3))) ∧ (¬ ((I3 57 4) = 0) → Wp d Md_panelsRead Q 7 [some (.ref 57), some (.int (x1 + 1)), none, none, none] [] I3 J3)))) ∧ (¬ ((I2 57 4) = 0) → Wp d Md_panelsRead Q 7 [some (.ref 57), some (.int (x1 + 1)), none, none, none] [] I2 J2))))) : Wp d Md_panelsRead Q 112 [some (.ref 57), some (.int x1), some (.int x2), none, none] [.int s0] I J := by
  refine Wp.steps 3 (pc' := 115) (lv' := [some (.ref 57), some (.int x1), some (.int x2), some (.int s0), none]) (st' := [.int s0, .ref 57]) (I' := I) (J' := J) rfl ?_
  refine Wp.steps 1 (pc' := if s0 < 0 then 122 else 118) (lv' := [some (.ref 57), some (.int x1), some (.int x2), some (.int s0), none]) (st' := [.ref 57]) (I' := I) (J' := J) rfl (Wp.ite (fun h1 => ?_) (fun h1 => ?_))
  · replace h := h.1 h1
    refine Wp.steps 1 (pc' := 123) (lv' := [some (.ref 57), some (.int x1), some (.int x2), some (.int s0), none]) (st' := [.int 0, .ref 57]) (I' := I) (J' := J) rfl ?_
    refine Wp.call (M' := Md_must) (as := [.ref 57, .int 0]) (rest := []) rfl (CV.use h (fun I1 J1 h => ?_))
    refine Wp.eqs (pc' := 126) (st' := []) rfl rfl ?_
    refine Wp.steps 3 (pc' := 129) (lv' := [some (.ref 57), some (.int x1), some (.int x2), some (.int s0), none]) (st' := [.int 3, .int 1, .ref 57]) (I' := I1) (J' := J1) rfl ?_
    refine Wp.call (M' := Md_digit) (as := [.ref 57, .int 1, .int 3]) (rest := []) rfl (CI.use h (fun v2 I2 J2 h => ?_))
    refine Wp.eqs (pc' := 132) (st' := [.int v2]) rfl rfl ?_
    refine Wp.steps 3 (pc' := 138) (lv' := [some (.ref 57), some (.int x1), some (.int x2), some (.int s0), some (.int v2)]) (st' := [.int (I2 57 4)]) (I' := I2) (J' := J2) rfl ?_
    refine Wp.steps 1 (pc' := if (I2 57 4) = 0 then 141 else 171) (lv' := [some (.ref 57), some (.int x1), some (.int x2), some (.int s0), some (.int v2)]) (st' := []) (I' := I2) (J' := J2) rfl (Wp.ite (fun h2 => ?_) (fun h2 => ?_))
    · replace h := h.1 h2
      refine Wp.steps 1 (pc' := 142) (lv' := [some (.ref 57), some (.int x1), some (.int x2), some (.int s0), some (.int v2)]) (st' := [.ref 57]) (I' := I2) (J' := J2) rfl ?_
      refine Wp.call (M' := Md_here) (as := [.ref 57]) (rest := []) rfl (CI.use h (fun v3 I3 J3 h => ?_))
      refine Wp.eqs (pc' := 145) (st' := [.int v3]) rfl rfl ?_
      refine Wp.steps 1 (pc' := 147) (lv' := [some (.ref 57), some (.int x1), some (.int x2), some (.int s0), some (.int v2)]) (st' := [.int 33, .int v3]) (I' := I3) (J' := J3) rfl ?_
      refine Wp.steps 1 (pc' := if v3 = 33 then 150 else 171) (lv' := [some (.ref 57), some (.int x1), some (.int x2), some (.int s0), some (.int v2)]) (st' := []) (I' := I3) (J' := J3) rfl (Wp.ite (fun h3 => ?_) (fun h3 => ?_))
      · replace h := h.1 h3
        refine Wp.steps 3 (pc' := 155) (lv' := [some (.ref 57), some (.int x1), some (.int x2), some (.int s0), some (.int v2)]) (st' := [.int (I3 57 6), .ref 57]) (I' := I3) (J' := J3) rfl ?_
        refine Wp.steps 1 (pc' := if (I3 57 6) < 0 then 158 else 162) (lv' := [some (.ref 57), some (.int x1), some (.int x2), some (.int s0), some (.int v2)]) (st' := [.ref 57]) (I' := I3) (J' := J3) rfl (Wp.ite (fun h4 => ?_) (fun h4 => ?_))
        · replace h := h.1 h4
          refine Wp.steps 2 (pc' := 163) (lv' := [some (.ref 57), some (.int x1), some (.int x2), some (.int s0), some (.int v2)]) (st' := [.int 1, .ref 57]) (I' := I3) (J' := J3) rfl ?_
          refine Wp.call (M' := Md_must) (as := [.ref 57, .int 1]) (rest := []) rfl (CV.use h (fun I4 J4 h => ?_))
          refine Wp.eqs (pc' := 166) (st' := []) rfl rfl ?_
          refine Wp.steps 5 (pc' := 175) (lv' := [some (.ref 57), some (.int x1), some (.int x2), some (.int s0), some (.int v2)]) (st' := [.int (I4 57 4)]) (I' := (up2 I4 57 6 x1)) (J' := J4) rfl ?_
          refine Wp.steps 1 (pc' := if (I4 57 4) = 0 then 178 else 199) (lv' := [some (.ref 57), some (.int x1), some (.int x2), some (.int s0), some (.int v2)]) (st' := []) (I' := (up2 I4 57 6 x1)) (J' := J4) rfl (Wp.ite (fun h5 => ?_) (fun h5 => ?_))
          · replace h := h.1 h5
            refine Wp.steps 6 (pc' := 186) (lv' := [some (.ref 57), some (.int x1), some (.int x2), some (.int s0), some (.int v2)]) (st' := [.int s0, .int (2 * x1), .ref 60]) (I' := (up2 I4 57 6 x1)) (J' := J4) rfl ?_
            refine Wp.iast rfl rfl h.1 ?_
            replace h := h.2
            refine Wp.steps 8 (pc' := 198) (lv' := [some (.ref 57), some (.int x1), some (.int x2), some (.int s0), some (.int v2)]) (st' := [.int v2, .int ((2 * x1) + 1), .ref 60]) (I' := (up2 (up2 I4 57 6 x1) 60 (tN (2 * x1)) s0)) (J' := J4) rfl ?_
            refine Wp.iast rfl rfl h.1 ?_
            replace h := h.2
            refine Wp.steps 2 (pc' := 7) (lv' := [some (.ref 57), some (.int (x1 + 1)), some (.int x2), some (.int s0), some (.int v2)]) (st' := []) (I' := (up2 (up2 (up2 I4 57 6 x1) 60 (tN (2 * x1)) s0) 60 (tN ((2 * x1) + 1)) v2)) (J' := J4) rfl ?_
            refine Wp.drop [2, 3, 4] (lv' := [some (.ref 57), some (.int (x1 + 1)), none, none, none]) rfl ?_
            exact h
          · replace h := h.2 h5
            refine Wp.steps 2 (pc' := 7) (lv' := [some (.ref 57), some (.int (x1 + 1)), some (.int x2), some (.int s0), some (.int v2)]) (st' := []) (I' := (up2 I4 57 6 x1)) (J' := J4) rfl ?_
            refine Wp.drop [2, 3, 4] (lv' := [some (.ref 57), some (.int (x1 + 1)), none, none, none]) rfl ?_
            exact h
        · replace h := h.2 h4
          refine Wp.steps 1 (pc' := 163) (lv' := [some (.ref 57), some (.int x1), some (.int x2), some (.int s0), some (.int v2)]) (st' := [.int 0, .ref 57]) (I' := I3) (J' := J3) rfl ?_
          refine Wp.call (M' := Md_must) (as := [.ref 57, .int 0]) (rest := []) rfl (CV.use h (fun I4 J4 h => ?_))
          refine Wp.eqs (pc' := 166) (st' := []) rfl rfl ?_
          refine Wp.steps 5 (pc' := 175) (lv' := [some (.ref 57), some (.int x1), some (.int x2), some (.int s0), some (.int v2)]) (st' := [.int (I4 57 4)]) (I' := (up2 I4 57 6 x1)) (J' := J4) rfl ?_
          refine Wp.steps 1 (pc' := if (I4 57 4) = 0 then 178 else 199) (lv' := [some (.ref 57), some (.int x1), some (.int x2), some (.int s0), some (.int v2)]) (st' := []) (I' := (up2 I4 57 6 x1)) (J' := J4) rfl (Wp.ite (fun h5 => ?_) (fun h5 => ?_))
          · replace h := h.1 h5
            refine Wp.steps 6 (pc' := 186) (lv' := [some (.ref 57), some (.int x1), some (.int x2), some (.int s0), some (.int v2)]) (st' := [.int s0, .int (2 * x1), .ref 60]) (I' := (up2 I4 57 6 x1)) (J' := J4) rfl ?_
            refine Wp.iast rfl rfl h.1 ?_
            replace h := h.2
            refine Wp.steps 8 (pc' := 198) (lv' := [some (.ref 57), some (.int x1), some (.int x2), some (.int s0), some (.int v2)]) (st' := [.int v2, .int ((2 * x1) + 1), .ref 60]) (I' := (up2 (up2 I4 57 6 x1) 60 (tN (2 * x1)) s0)) (J' := J4) rfl ?_
            refine Wp.iast rfl rfl h.1 ?_
            replace h := h.2
            refine Wp.steps 2 (pc' := 7) (lv' := [some (.ref 57), some (.int (x1 + 1)), some (.int x2), some (.int s0), some (.int v2)]) (st' := []) (I' := (up2 (up2 (up2 I4 57 6 x1) 60 (tN (2 * x1)) s0) 60 (tN ((2 * x1) + 1)) v2)) (J' := J4) rfl ?_
            refine Wp.drop [2, 3, 4] (lv' := [some (.ref 57), some (.int (x1 + 1)), none, none, none]) rfl ?_
            exact h
          · replace h := h.2 h5
            refine Wp.steps 2 (pc' := 7) (lv' := [some (.ref 57), some (.int (x1 + 1)), some (.int x2), some (.int s0), some (.int v2)]) (st' := []) (I' := (up2 I4 57 6 x1)) (J' := J4) rfl ?_
            refine Wp.drop [2, 3, 4] (lv' := [some (.ref 57), some (.int (x1 + 1)), none, none, none]) rfl ?_
            exact h
      · replace h := h.2 h3
        refine Wp.steps 2 (pc' := 175) (lv' := [some (.ref 57), some (.int x1), some (.int x2), some (.int s0), some (.int v2)]) (st' := [.int (I3 57 4)]) (I' := I3) (J' := J3) rfl ?_
        refine Wp.steps 1 (pc' := if (I3 57 4) = 0 then 178 else 199) (lv' := [some (.ref 57), some (.int x1), some (.int x2), some (.int s0), some (.int v2)]) (st' := []) (I' := I3) (J' := J3) rfl (Wp.ite (fun h4 => ?_) (fun h4 => ?_))
        · replace h := h.1 h4
          refine Wp.steps 6 (pc' := 186) (lv' := [some (.ref 57), some (.int x1), some (.int x2), some (.int s0), some (.int v2)]) (st' := [.int s0, .int (2 * x1), .ref 60]) (I' := I3) (J' := J3) rfl ?_
          refine Wp.iast rfl rfl h.1 ?_
          replace h := h.2
          refine Wp.steps 8 (pc' := 198) (lv' := [some (.ref 57), some (.int x1), some (.int x2), some (.int s0), some (.int v2)]) (st' := [.int v2, .int ((2 * x1) + 1), .ref 60]) (I' := (up2 I3 60 (tN (2 * x1)) s0)) (J' := J3) rfl ?_
          refine Wp.iast rfl rfl h.1 ?_
          replace h := h.2
          refine Wp.steps 2 (pc' := 7) (lv' := [some (.ref 57), some (.int (x1 + 1)), some (.int x2), some (.int s0), some (.int v2)]) (st' := []) (I' := (up2 (up2 I3 60 (tN (2 * x1)) s0) 60 (tN ((2 * x1) + 1)) v2)) (J' := J3) rfl ?_
          refine Wp.drop [2, 3, 4] (lv' := [some (.ref 57), some (.int (x1 + 1)), none, none, none]) rfl ?_
          exact h
        · replace h := h.2 h4
          refine Wp.steps 2 (pc' := 7) (lv' := [some (.ref 57), some (.int (x1 + 1)), some (.int x2), some (.int s0), some (.int v2)]) (st' := []) (I' := I3) (J' := J3) rfl ?_
          refine Wp.drop [2, 3, 4] (lv' := [some (.ref 57), some (.int (x1 + 1)), none, none, none]) rfl ?_
          exact h
    · replace h := h.2 h2
      refine Wp.steps 2 (pc' := 175) (lv' := [some (.ref 57), some (.int x1), some (.int x2), some (.int s0), some (.int v2)]) (st' := [.int (I2 57 4)]) (I' := I2) (J' := J2) rfl ?_
      refine Wp.steps 1 (pc' := if (I2 57 4) = 0 then 178 else 199) (lv' := [some (.ref 57), some (.int x1), some (.int x2), some (.int s0), some (.int v2)]) (st' := []) (I' := I2) (J' := J2) rfl ?_
      rw [if_neg h2]
      refine Wp.steps 2 (pc' := 7) (lv' := [some (.ref 57), some (.int (x1 + 1)), some (.int x2), some (.int s0), some (.int v2)]) (st' := []) (I' := I2) (J' := J2) rfl ?_
      refine Wp.drop [2, 3, 4] (lv' := [some (.ref 57), some (.int (x1 + 1)), none, none, none]) rfl ?_
      exact h
  · replace h := h.2 h1
    refine Wp.steps 2 (pc' := 123) (lv' := [some (.ref 57), some (.int x1), some (.int x2), some (.int s0), none]) (st' := [.int 1, .ref 57]) (I' := I) (J' := J) rfl ?_
    refine Wp.call (M' := Md_must) (as := [.ref 57, .int 1]) (rest := []) rfl (CV.use h (fun I1 J1 h => ?_))
    refine Wp.eqs (pc' := 126) (st' := []) rfl rfl ?_
    refine Wp.steps 3 (pc' := 129) (lv' := [some (.ref 57), some (.int x1), some (.int x2), some (.int s0), none]) (st' := [.int 3, .int 1, .ref 57]) (I' := I1) (J' := J1) rfl ?_
    refine Wp.call (M' := Md_digit) (as := [.ref 57, .int 1, .int 3]) (rest := []) rfl (CI.use h (fun v2 I2 J2 h => ?_))
    refine Wp.eqs (pc' := 132) (st' := [.int v2]) rfl rfl ?_
    refine Wp.steps 3 (pc' := 138) (lv' := [some (.ref 57), some (.int x1), some (.int x2), some (.int s0), some (.int v2)]) (st' := [.int (I2 57 4)]) (I' := I2) (J' := J2) rfl ?_
    refine Wp.steps 1 (pc' := if (I2 57 4) = 0 then 141 else 171) (lv' := [some (.ref 57), some (.int x1), some (.int x2), some (.int s0), some (.int v2)]) (st' := []) (I' := I2) (J' := J2) rfl (Wp.ite (fun h2 => ?_) (fun h2 => ?_))
    · replace h := h.1 h2
      refine Wp.steps 1 (pc' := 142) (lv' := [some (.ref 57), some (.int x1), some (.int x2), some (.int s0), some (.int v2)]) (st' := [.ref 57]) (I' := I2) (J' := J2) rfl ?_
      refine Wp.call (M' := Md_here) (as := [.ref 57]) (rest := []) rfl (CI.use h (fun v3 I3 J3 h => ?_))
      refine Wp.eqs (pc' := 145) (st' := [.int v3]) rfl rfl ?_
      refine Wp.steps 1 (pc' := 147) (lv' := [some (.ref 57), some (.int x1), some (.int x2), some (.int s0), some (.int v2)]) (st' := [.int 33, .int v3]) (I' := I3) (J' := J3) rfl ?_
      refine Wp.steps 1 (pc' := if v3 = 33 then 150 else 171) (lv' := [some (.ref 57), some (.int x1), some (.int x2), some (.int s0), some (.int v2)]) (st' := []) (I' := I3) (J' := J3) rfl (Wp.ite (fun h3 => ?_) (fun h3 => ?_))
      · replace h := h.1 h3
        refine Wp.steps 3 (pc' := 155) (lv' := [some (.ref 57), some (.int x1), some (.int x2), some (.int s0), some (.int v2)]) (st' := [.int (I3 57 6), .ref 57]) (I' := I3) (J' := J3) rfl ?_
        refine Wp.steps 1 (pc' := if (I3 57 6) < 0 then 158 else 162) (lv' := [some (.ref 57), some (.int x1), some (.int x2), some (.int s0), some (.int v2)]) (st' := [.ref 57]) (I' := I3) (J' := J3) rfl (Wp.ite (fun h4 => ?_) (fun h4 => ?_))
        · replace h := h.1 h4
          refine Wp.steps 2 (pc' := 163) (lv' := [some (.ref 57), some (.int x1), some (.int x2), some (.int s0), some (.int v2)]) (st' := [.int 1, .ref 57]) (I' := I3) (J' := J3) rfl ?_
          refine Wp.call (M' := Md_must) (as := [.ref 57, .int 1]) (rest := []) rfl (CV.use h (fun I4 J4 h => ?_))
          refine Wp.eqs (pc' := 166) (st' := []) rfl rfl ?_
          refine Wp.steps 5 (pc' := 175) (lv' := [some (.ref 57), some (.int x1), some (.int x2), some (.int s0), some (.int v2)]) (st' := [.int (I4 57 4)]) (I' := (up2 I4 57 6 x1)) (J' := J4) rfl ?_
          refine Wp.steps 1 (pc' := if (I4 57 4) = 0 then 178 else 199) (lv' := [some (.ref 57), some (.int x1), some (.int x2), some (.int s0), some (.int v2)]) (st' := []) (I' := (up2 I4 57 6 x1)) (J' := J4) rfl (Wp.ite (fun h5 => ?_) (fun h5 => ?_))
          · replace h := h.1 h5
            refine Wp.steps 6 (pc' := 186) (lv' := [some (.ref 57), some (.int x1), some (.int x2), some (.int s0), some (.int v2)]) (st' := [.int s0, .int (2 * x1), .ref 60]) (I' := (up2 I4 57 6 x1)) (J' := J4) rfl ?_
            refine Wp.iast rfl rfl h.1 ?_
            replace h := h.2
            refine Wp.steps 8 (pc' := 198) (lv' := [some (.ref 57), some (.int x1), some (.int x2), some (.int s0), some (.int v2)]) (st' := [.int v2, .int ((2 * x1) + 1), .ref 60]) (I' := (up2 (up2 I4 57 6 x1) 60 (tN (2 * x1)) s0)) (J' := J4) rfl ?_
            refine Wp.iast rfl rfl h.1 ?_
            replace h := h.2
            refine Wp.steps 2 (pc' := 7) (lv' := [some (.ref 57), some (.int (x1 + 1)), some (.int x2), some (.int s0), some (.int v2)]) (st' := []) (I' := (up2 (up2 (up2 I4 57 6 x1) 60 (tN (2 * x1)) s0) 60 (tN ((2 * x1) + 1)) v2)) (J' := J4) rfl ?_
            refine Wp.drop [2, 3, 4] (lv' := [some (.ref 57), some (.int (x1 + 1)), none, none, none]) rfl ?_
            exact h
          · replace h := h.2 h5
            refine Wp.steps 2 (pc' := 7) (lv' := [some (.ref 57), some (.int (x1 + 1)), some (.int x2), some (.int s0), some (.int v2)]) (st' := []) (I' := (up2 I4 57 6 x1)) (J' := J4) rfl ?_
            refine Wp.drop [2, 3, 4] (lv' := [some (.ref 57), some (.int (x1 + 1)), none, none, none]) rfl ?_
            exact h
        · replace h := h.2 h4
          refine Wp.steps 1 (pc' := 163) (lv' := [some (.ref 57), some (.int x1), some (.int x2), some (.int s0), some (.int v2)]) (st' := [.int 0, .ref 57]) (I' := I3) (J' := J3) rfl ?_
          refine Wp.call (M' := Md_must) (as := [.ref 57, .int 0]) (rest := []) rfl (CV.use h (fun I4 J4 h => ?_))
          refine Wp.eqs (pc' := 166) (st' := []) rfl rfl ?_
          refine Wp.steps 5 (pc' := 175) (lv' := [some (.ref 57), some (.int x1), some (.int x2), some (.int s0), some (.int v2)]) (st' := [.int (I4 57 4)]) (I' := (up2 I4 57 6 x1)) (J' := J4) rfl ?_
          refine Wp.steps 1 (pc' := if (I4 57 4) = 0 then 178 else 199) (lv' := [some (.ref 57), some (.int x1), some (.int x2), some (.int s0), some (.int v2)]) (st' := []) (I' := (up2 I4 57 6 x1)) (J' := J4) rfl (Wp.ite (fun h5 => ?_) (fun h5 => ?_))
          · replace h := h.1 h5
            refine Wp.steps 6 (pc' := 186) (lv' := [some (.ref 57), some (.int x1), some (.int x2), some (.int s0), some (.int v2)]) (st' := [.int s0, .int (2 * x1), .ref 60]) (I' := (up2 I4 57 6 x1)) (J' := J4) rfl ?_
            refine Wp.iast rfl rfl h.1 ?_
            replace h := h.2
            refine Wp.steps 8 (pc' := 198) (lv' := [some (.ref 57), some (.int x1), some (.int x2), some (.int s0), some (.int v2)]) (st' := [.int v2, .int ((2 * x1) + 1), .ref 60]) (I' := (up2 (up2 I4 57 6 x1) 60 (tN (2 * x1)) s0)) (J' := J4) rfl ?_
            refine Wp.iast rfl rfl h.1 ?_
            replace h := h.2
            refine Wp.steps 2 (pc' := 7) (lv' := [some (.ref 57), some (.int (x1 + 1)), some (.int x2), some (.int s0), some (.int v2)]) (st' := []) (I' := (up2 (up2 (up2 I4 57 6 x1) 60 (tN (2 * x1)) s0) 60 (tN ((2 * x1) + 1)) v2)) (J' := J4) rfl ?_
            refine Wp.drop [2, 3, 4] (lv' := [some (.ref 57), some (.int (x1 + 1)), none, none, none]) rfl ?_
            exact h
          · replace h := h.2 h5
            refine Wp.steps 2 (pc' := 7) (lv' := [some (.ref 57), some (.int (x1 + 1)), some (.int x2), some (.int s0), some (.int v2)]) (st' := []) (I' := (up2 I4 57 6 x1)) (J' := J4) rfl ?_
            refine Wp.drop [2, 3, 4] (lv' := [some (.ref 57), some (.int (x1 + 1)), none, none, none]) rfl ?_
            exact h
      · replace h := h.2 h3
        refine Wp.steps 2 (pc' := 175) (lv' := [some (.ref 57), some (.int x1), some (.int x2), some (.int s0), some (.int v2)]) (st' := [.int (I3 57 4)]) (I' := I3) (J' := J3) rfl ?_
        refine Wp.steps 1 (pc' := if (I3 57 4) = 0 then 178 else 199) (lv' := [some (.ref 57), some (.int x1), some (.int x2), some (.int s0), some (.int v2)]) (st' := []) (I' := I3) (J' := J3) rfl (Wp.ite (fun h4 => ?_) (fun h4 => ?_))
        · replace h := h.1 h4
          refine Wp.steps 6 (pc' := 186) (lv' := [some (.ref 57), some (.int x1), some (.int x2), some (.int s0), some (.int v2)]) (st' := [.int s0, .int (2 * x1), .ref 60]) (I' := I3) (J' := J3) rfl ?_
          refine Wp.iast rfl rfl h.1 ?_
          replace h := h.2
          refine Wp.steps 8 (pc' := 198) (lv' := [some (.ref 57), some (.int x1), some (.int x2), some (.int s0), some (.int v2)]) (st' := [.int v2, .int ((2 * x1) + 1), .ref 60]) (I' := (up2 I3 60 (tN (2 * x1)) s0)) (J' := J3) rfl ?_
          refine Wp.iast rfl rfl h.1 ?_
          replace h := h.2
          refine Wp.steps 2 (pc' := 7) (lv' := [some (.ref 57), some (.int (x1 + 1)), some (.int x2), some (.int s0), some (.int v2)]) (st' := []) (I' := (up2 (up2 I3 60 (tN (2 * x1)) s0) 60 (tN ((2 * x1) + 1)) v2)) (J' := J3) rfl ?_
          refine Wp.drop [2, 3, 4] (lv' := [some (.ref 57), some (.int (x1 + 1)), none, none, none]) rfl ?_
          exact h
        · replace h := h.2 h4
          refine Wp.steps 2 (pc' := 7) (lv' := [some (.ref 57), some (.int (x1 + 1)), some (.int x2), some (.int s0), some (.int v2)]) (st' := []) (I' := I3) (J' := J3) rfl ?_
          refine Wp.drop [2, 3, 4] (lv' := [some (.ref 57), some (.int (x1 + 1)), none, none, none]) rfl ?_
          exact h
    · replace h := h.2 h2
      refine Wp.steps 2 (pc' := 175) (lv' := [some (.ref 57), some (.int x1), some (.int x2), some (.int s0), some (.int v2)]) (st' := [.int (I2 57 4)]) (I' := I2) (J' := J2) rfl ?_
      refine Wp.steps 1 (pc' := if (I2 57 4) = 0 then 178 else 199) (lv' := [some (.ref 57), some (.int x1), some (.int x2), some (.int s0), some (.int v2)]) (st' := []) (I' := I2) (J' := J2) rfl ?_
      rw [if_neg h2]
      refine Wp.steps 2 (pc' := 7) (lv' := [some (.ref 57), some (.int (x1 + 1)), some (.int x2), some (.int s0), some (.int v2)]) (st' := []) (I' := I2) (J' := J2) rfl ?_
      refine Wp.drop [2, 3, 4] (lv' := [some (.ref 57), some (.int (x1 + 1)), none, none, none]) rfl ?_
      exact h
theorem v_Md_here_57_0 {d : Nat} {Q : Post} {I : I2} {J : J2} (h : ((I 57 3) < (I 57 2) → vp_in (I 57 3) 90 ∧ (((I 59 (tN (I 57 3))) = 32 → Wp d Md_here Q 0 [some (.ref 57)] [] (up2 I 57 3 ((I 57 3) + 1)) J) ∧ (¬ ((I 59 (tN (I 57 3))) = 32) → vp_in (I 57 3) 90 ∧ (Q (some (.int (I 59 (tN (I 57 3))))) I J)))) ∧ (¬ ((I 57 3) < (I 57 2)) → Q (some (.int 0)) I J)) : Wp d Md_here Q 0 [some (.ref 57)] [] I J := by
  refine Wp.steps 4 (pc' := 8) (lv' := [some (.ref 57)]) (st' := [.int (I 57 2), .int (I 57 3)]) (I' := I) (J' := J) rfl ?_
  refine Wp.steps 1 (pc' := if (I 57 3) < (I 57 2) then 11 else 38) (lv' := [some (.ref 57)]) (st' := []) (I' := I) (J' := J) rfl (Wp.ite (fun h1 => ?_) (fun h1 => ?_))
  · replace h := h.1 h1
    refine Wp.steps 4 (pc' := 19) (lv' := [some (.ref 57)]) (st' := [.int (I 57 3), .ref 59]) (I' := I) (J' := J) rfl ?_
    refine Wp.iald rfl rfl h.1 ?_
    replace h := h.2
    refine Wp.steps 1 (pc' := 22) (lv' := [some (.ref 57)]) (st' := [.int 32, .int (I 59 (tN (I 57 3)))]) (I' := I) (J' := J) rfl ?_
    refine Wp.steps 1 (pc' := if (I 59 (tN (I 57 3))) = 32 then 25 else 38) (lv' := [some (.ref 57)]) (st' := []) (I' := I) (J' := J) rfl (Wp.ite (fun h2 => ?_) (fun h2 => ?_))
    · replace h := h.1 h2
      refine Wp.steps 7 (pc' := 0) (lv' := [some (.ref 57)]) (st' := []) (I' := (up2 I 57 3 ((I 57 3) + 1))) (J' := J) rfl ?_
      exact h
    · replace h := h.2 h2
      refine Wp.steps 4 (pc' := 46) (lv' := [some (.ref 57)]) (st' := [.int (I 57 2), .int (I 57 3)]) (I' := I) (J' := J) rfl ?_
      refine Wp.steps 1 (pc' := if (I 57 3) < (I 57 2) then 49 else 61) (lv' := [some (.ref 57)]) (st' := []) (I' := I) (J' := J) rfl ?_
      rw [if_pos h1]
      refine Wp.steps 4 (pc' := 57) (lv' := [some (.ref 57)]) (st' := [.int (I 57 3), .ref 59]) (I' := I) (J' := J) rfl ?_
      refine Wp.iald rfl rfl h.1 ?_
      replace h := h.2
      refine Wp.steps 1 (pc' := 62) (lv' := [some (.ref 57)]) (st' := [.int (I 59 (tN (I 57 3)))]) (I' := I) (J' := J) rfl ?_
      exact Wp.ret rfl h
  · replace h := h.2 h1
    refine Wp.steps 4 (pc' := 46) (lv' := [some (.ref 57)]) (st' := [.int (I 57 2), .int (I 57 3)]) (I' := I) (J' := J) rfl ?_
    refine Wp.steps 1 (pc' := if (I 57 3) < (I 57 2) then 49 else 61) (lv' := [some (.ref 57)]) (st' := []) (I' := I) (J' := J) rfl ?_
    rw [if_neg h1]
    refine Wp.steps 1 (pc' := 62) (lv' := [some (.ref 57)]) (st' := [.int 0]) (I' := I) (J' := J) rfl ?_
    exact Wp.ret rfl h
theorem v_Md_locksRead_57_0 {d : Nat} {Q : Post} {I : I2} {J : J2} {x1 : Int32} (h : Wp d Md_locksRead Q 2 [some (.ref 57), some (.int x1), some (.int 0), none, none, none, none, none] [] I J) : Wp d Md_locksRead Q 0 [some (.ref 57), some (.int x1), none, none, none, none, none, none] [] I J := by
  refine Wp.steps 2 (pc' := 2) (lv' := [some (.ref 57), some (.int x1), some (.int 0), none, none, none, none, none]) (st' := []) (I' := I) (J' := J) rfl ?_
  exact h
theorem v_Md_locksRead_57_2 {d : Nat} {Q : Post} {I : I2} {J : J2} {x1 : Int32} {x2 : Int32} (h : ((I 57 4) = 0 → (x2 = 0 → (0 < x2 → (x2 < 6 → Wp d Md_locksRead Q 38 [some (.ref 57), some (.int x1), some (.int x2), none, none, none, none, none] [.int 1, .ref 57] I J) ∧ (¬ (x2 < 6) → Wp d Md_locksRead Q 38 [some (.ref 57), some (.int x1), some (.int x2), none, none, none, none, none] [.int 0, .ref 57] I J)) ∧ (¬ (0 < x2) → CI d Md_digit [.ref 57, .int 0, .int (x1 - 1)] I J (fun v1 I1 J1 => ((I1 57 4) = 0 → CI d Md_here [.ref 57] I1 J1 (fun v2 I2 J2 => Wp d Md_locksRead Q 65 [some (.ref 57), some (.int x1), some (.int x2), some (.int v1), none, none, none, none] [.int v2] I2 J2)) ∧ (¬ ((I1 57 4) = 0) → Wp d Md_locksRead Q 65 [some (.ref 57), some (.int x1), some (.int x2), some (.int v1), none, none, none, none] [.int 0] I1 J1)))) ∧ (¬ (x2 = 0) → CI d Md_here [.ref 57] I J (fun v1 I1 J1 => (v1 = 44 → (0 < x2 → (x2 < 6 → Wp d Md_locksRead Q 38 [some (.ref 57), some (.int x1), some (.int x2), none, none, none, none, none] [.int 1, .ref 57] I1 J1) ∧ (¬ (x2 < 6) → Wp d Md_locksRead Q 38 [some (.ref 57), some (.int x1), some (.int x2), none, none, none, none, none] [.int 0, .ref 57] I1 J1)) ∧ (¬ (0 < x2) → CI d Md_digit [.ref 57, .int 0, .int (x1 - 1)] I1 J1 (fun v2 I2 J2 => ((I2 57 4) = 0 → CI d Md_here [.ref 57] I2 J2 (fun v3 I3 J3 => Wp d Md_locksRead Q 65 [some (.ref 57), some (.int x1), some (.int x2), some (.int v2), none, none, none, none] [.int v3] I3 J3)) ∧ (¬ ((I2 57 4) = 0) → Wp d Md_locksRead Q 65 [some (.ref 57), some (.int x1), some (.int x2), some (.int v2), none, none, none, none] [.int 0] I2 J2)))) ∧ (¬ (v1 = 44) → Q (some (.int x2)) I1 J1)))) ∧ (¬ ((I 57 4) = 0) → Q (some (.int x2)) I J)) : Wp d Md_locksRead Q 2 [some (.ref 57), some (.int x1), some (.int x2), none, none, none, none, none] [] I J := by
  refine Wp.steps 2 (pc' := 6) (lv' := [some (.ref 57), some (.int x1), some (.int x2), none, none, none, none, none]) (st' := [.int (I 57 4)]) (I' := I) (J' := J) rfl ?_
  refine Wp.steps 1 (pc' := if (I 57 4) = 0 then 9 else 252) (lv' := [some (.ref 57), some (.int x1), some (.int x2), none, none, none, none, none]) (st' := []) (I' := I) (J' := J) rfl (Wp.ite (fun h1 => ?_) (fun h1 => ?_))
  · replace h := h.1 h1
    refine Wp.steps 1 (pc' := 10) (lv' := [some (.ref 57), some (.int x1), some (.int x2), none, none, none, none, none]) (st' := [.int x2]) (I' := I) (J' := J) rfl ?_
    refine Wp.steps 1 (pc' := if x2 = 0 then 22 else 13) (lv' := [some (.ref 57), some (.int x1), some (.int x2), none, none, none, none, none]) (st' := []) (I' := I) (J' := J) rfl (Wp.ite (fun h2 => ?_) (fun h2 => ?_))
    · replace h := h.1 h2
      refine Wp.steps 1 (pc' := 23) (lv' := [some (.ref 57), some (.int x1), some (.int x2), none, none, none, none, none]) (st' := [.int x2]) (I' := I) (J' := J) rfl ?_
      refine Wp.steps 1 (pc' := if 0 < x2 then 26 else 41) (lv' := [some (.ref 57), some (.int x1), some (.int x2), none, none, none, none, none]) (st' := []) (I' := I) (J' := J) rfl (Wp.ite (fun h3 => ?_) (fun h3 => ?_))
      · replace h := h.1 h3
        refine Wp.steps 3 (pc' := 30) (lv' := [some (.ref 57), some (.int x1), some (.int x2), none, none, none, none, none]) (st' := [.int 6, .int x2, .ref 57]) (I' := I) (J' := J) rfl ?_
        refine Wp.steps 1 (pc' := if x2 < 6 then 33 else 37) (lv' := [some (.ref 57), some (.int x1), some (.int x2), none, none, none, none, none]) (st' := [.ref 57]) (I' := I) (J' := J) rfl (Wp.ite (fun h4 => ?_) (fun h4 => ?_))
        · replace h := h.1 h4
          refine Wp.steps 2 (pc' := 38) (lv' := [some (.ref 57), some (.int x1), some (.int x2), none, none, none, none, none]) (st' := [.int 1, .ref 57]) (I' := I) (J' := J) rfl ?_
          exact h
        · replace h := h.2 h4
          refine Wp.steps 1 (pc' := 38) (lv' := [some (.ref 57), some (.int x1), some (.int x2), none, none, none, none, none]) (st' := [.int 0, .ref 57]) (I' := I) (J' := J) rfl ?_
          exact h
      · replace h := h.2 h3
        refine Wp.steps 5 (pc' := 46) (lv' := [some (.ref 57), some (.int x1), some (.int x2), none, none, none, none, none]) (st' := [.int (x1 - 1), .int 0, .ref 57]) (I' := I) (J' := J) rfl ?_
        refine Wp.call (M' := Md_digit) (as := [.ref 57, .int 0, .int (x1 - 1)]) (rest := []) rfl (CI.use h (fun v1 I1 J1 h => ?_))
        refine Wp.eqs (pc' := 49) (st' := [.int v1]) rfl rfl ?_
        refine Wp.steps 3 (pc' := 54) (lv' := [some (.ref 57), some (.int x1), some (.int x2), some (.int v1), none, none, none, none]) (st' := [.int (I1 57 4)]) (I' := I1) (J' := J1) rfl ?_
        refine Wp.steps 1 (pc' := if (I1 57 4) = 0 then 61 else 57) (lv' := [some (.ref 57), some (.int x1), some (.int x2), some (.int v1), none, none, none, none]) (st' := []) (I' := I1) (J' := J1) rfl (Wp.ite (fun h4 => ?_) (fun h4 => ?_))
        · replace h := h.1 h4
          refine Wp.steps 1 (pc' := 62) (lv' := [some (.ref 57), some (.int x1), some (.int x2), some (.int v1), none, none, none, none]) (st' := [.ref 57]) (I' := I1) (J' := J1) rfl ?_
          refine Wp.call (M' := Md_here) (as := [.ref 57]) (rest := []) rfl (CI.use h (fun v2 I2 J2 h => ?_))
          refine Wp.eqs (pc' := 65) (st' := [.int v2]) rfl rfl ?_
          exact h
        · replace h := h.2 h4
          refine Wp.steps 2 (pc' := 65) (lv' := [some (.ref 57), some (.int x1), some (.int x2), some (.int v1), none, none, none, none]) (st' := [.int 0]) (I' := I1) (J' := J1) rfl ?_
          exact h
    · replace h := h.2 h2
      refine Wp.steps 1 (pc' := 14) (lv' := [some (.ref 57), some (.int x1), some (.int x2), none, none, none, none, none]) (st' := [.ref 57]) (I' := I) (J' := J) rfl ?_
      refine Wp.call (M' := Md_here) (as := [.ref 57]) (rest := []) rfl (CI.use h (fun v1 I1 J1 h => ?_))
      refine Wp.eqs (pc' := 17) (st' := [.int v1]) rfl rfl ?_
      refine Wp.steps 1 (pc' := 19) (lv' := [some (.ref 57), some (.int x1), some (.int x2), none, none, none, none, none]) (st' := [.int 44, .int v1]) (I' := I1) (J' := J1) rfl ?_
      refine Wp.steps 1 (pc' := if v1 = 44 then 22 else 252) (lv' := [some (.ref 57), some (.int x1), some (.int x2), none, none, none, none, none]) (st' := []) (I' := I1) (J' := J1) rfl (Wp.ite (fun h3 => ?_) (fun h3 => ?_))
      · replace h := h.1 h3
        refine Wp.steps 1 (pc' := 23) (lv' := [some (.ref 57), some (.int x1), some (.int x2), none, none, none, none, none]) (st' := [.int x2]) (I' := I1) (J' := J1) rfl ?_
        refine Wp.steps 1 (pc' := if 0 < x2 then 26 else 41) (lv' := [some (.ref 57), some (.int x1), some (.int x2), none, none, none, none, none]) (st' := []) (I' := I1) (J' := J1) rfl (Wp.ite (fun h4 => ?_) (fun h4 => ?_))
        · replace h := h.1 h4
          refine Wp.steps 3 (pc' := 30) (lv' := [some (.ref 57), some (.int x1), some (.int x2), none, none, none, none, none]) (st' := [.int 6, .int x2, .ref 57]) (I' := I1) (J' := J1) rfl ?_
          refine Wp.steps 1 (pc' := if x2 < 6 then 33 else 37) (lv' := [some (.ref 57), some (.int x1), some (.int x2), none, none, none, none, none]) (st' := [.ref 57]) (I' := I1) (J' := J1) rfl (Wp.ite (fun h5 => ?_) (fun h5 => ?_))
          · replace h := h.1 h5
            refine Wp.steps 2 (pc' := 38) (lv' := [some (.ref 57), some (.int x1), some (.int x2), none, none, none, none, none]) (st' := [.int 1, .ref 57]) (I' := I1) (J' := J1) rfl ?_
            exact h
          · replace h := h.2 h5
            refine Wp.steps 1 (pc' := 38) (lv' := [some (.ref 57), some (.int x1), some (.int x2), none, none, none, none, none]) (st' := [.int 0, .ref 57]) (I' := I1) (J' := J1) rfl ?_
            exact h
        · replace h := h.2 h4
          refine Wp.steps 5 (pc' := 46) (lv' := [some (.ref 57), some (.int x1), some (.int x2), none, none, none, none, none]) (st' := [.int (x1 - 1), .int 0, .ref 57]) (I' := I1) (J' := J1) rfl ?_
          refine Wp.call (M' := Md_digit) (as := [.ref 57, .int 0, .int (x1 - 1)]) (rest := []) rfl (CI.use h (fun v2 I2 J2 h => ?_))
          refine Wp.eqs (pc' := 49) (st' := [.int v2]) rfl rfl ?_
          refine Wp.steps 3 (pc' := 54) (lv' := [some (.ref 57), some (.int x1), some (.int x2), some (.int v2), none, none, none, none]) (st' := [.int (I2 57 4)]) (I' := I2) (J' := J2) rfl ?_
          refine Wp.steps 1 (pc' := if (I2 57 4) = 0 then 61 else 57) (lv' := [some (.ref 57), some (.int x1), some (.int x2), some (.int v2), none, none, none, none]) (st' := []) (I' := I2) (J' := J2) rfl (Wp.ite (fun h5 => ?_) (fun h5 => ?_))
          · replace h := h.1 h5
            refine Wp.steps 1 (pc' := 62) (lv' := [some (.ref 57), some (.int x1), some (.int x2), some (.int v2), none, none, none, none]) (st' := [.ref 57]) (I' := I2) (J' := J2) rfl ?_
            refine Wp.call (M' := Md_here) (as := [.ref 57]) (rest := []) rfl (CI.use h (fun v3 I3 J3 h => ?_))
            refine Wp.eqs (pc' := 65) (st' := [.int v3]) rfl rfl ?_
            exact h
          · replace h := h.2 h5
            refine Wp.steps 2 (pc' := 65) (lv' := [some (.ref 57), some (.int x1), some (.int x2), some (.int v2), none, none, none, none]) (st' := [.int 0]) (I' := I2) (J' := J2) rfl ?_
            exact h
      · replace h := h.2 h3
        refine Wp.steps 1 (pc' := 253) (lv' := [some (.ref 57), some (.int x1), some (.int x2), none, none, none, none, none]) (st' := [.int x2]) (I' := I1) (J' := J1) rfl ?_
        exact Wp.ret rfl h
  · replace h := h.2 h1
    refine Wp.steps 1 (pc' := 253) (lv' := [some (.ref 57), some (.int x1), some (.int x2), none, none, none, none, none]) (st' := [.int x2]) (I' := I) (J' := J) rfl ?_
    exact Wp.ret rfl h
theorem v_Md_locksRead_57_38 {d : Nat} {Q : Post} {I : I2} {J : J2} {x1 : Int32} {x2 : Int32} {s0 : Int32} (h : CV d Md_must [.ref 57, .int s0] I J (fun I1 J1 => CI d Md_digit [.ref 57, .int 0, .int (x1 - 1)] I1 J1 (fun v2 I2 J2 => ((I2 57 4) = 0 → CI d Md_here [.ref 57] I2 J2 (fun v3 I3 J3 => Wp d Md_locksRead Q 65 [some (.ref 57), some (.int x1), some (.int x2), some (.int v2), none, none, none, none] [.int v3] I3 J3)) ∧ (¬ ((I2 57 4) = 0) → Wp d Md_locksRead Q 65 [some (.ref 57), some (.int x1), some (.int x2), some (.int v2), none, none, none, none] [.int 0] I2 J2)))) : Wp d Md_locksRead Q 38 [some (.ref 57), some (.int x1), some (.int x2), none, none, none, none, none] [.int s0, .ref 57] I J := by
  refine Wp.call (M' := Md_must) (as := [.ref 57, .int s0]) (rest := []) rfl (CV.use h (fun I1 J1 h => ?_))
  refine Wp.eqs (pc' := 41) (st' := []) rfl rfl ?_
  refine Wp.steps 5 (pc' := 46) (lv' := [some (.ref 57), some (.int x1), some (.int x2), none, none, none, none, none]) (st' := [.int (x1 - 1), .int 0, .ref 57]) (I' := I1) (J' := J1) rfl ?_
  refine Wp.call (M' := Md_digit) (as := [.ref 57, .int 0, .int (x1 - 1)]) (rest := []) rfl (CI.use h (fun v2 I2 J2 h => ?_))
  refine Wp.eqs (pc' := 49) (st' := [.int v2]) rfl rfl ?_
  refine Wp.steps 3 (pc' := 54) (lv' := [some (.ref 57), some (.int x1), some (.int x2), some (.int v2), none, none, none, none]) (st' := [.int (I2 57 4)]) (I' := I2) (J' := J2) rfl ?_
  refine Wp.steps 1 (pc' := if (I2 57 4) = 0 then 61 else 57) (lv' := [some (.ref 57), some (.int x1), some (.int x2), some (.int v2), none, none, none, none]) (st' := []) (I' := I2) (J' := J2) rfl (Wp.ite (fun h1 => ?_) (fun h1 => ?_))
  · replace h := h.1 h1
    refine Wp.steps 1 (pc' := 62) (lv' := [some (.ref 57), some (.int x1), some (.int x2), some (.int v2), none, none, none, none]) (st' := [.ref 57]) (I' := I2) (J' := J2) rfl ?_
    refine Wp.call (M' := Md_here) (as := [.ref 57]) (rest := []) rfl (CI.use h (fun v3 I3 J3 h => ?_))
    refine Wp.eqs (pc' := 65) (st' := [.int v3]) rfl rfl ?_
    exact h
  · replace h := h.2 h1
    refine Wp.steps 2 (pc' := 65) (lv' := [some (.ref 57), some (.int x1), some (.int x2), some (.int v2), none, none, none, none]) (st' := [.int 0]) (I' := I2) (J' := J2) rfl ?_
    exact h
theorem v_Md_locksRead_57_65 {d : Nat} {Q : Post} {I : I2} {J : J2} {x1 : Int32} {x2 : Int32} {x3 : Int32} {s0 : Int32} (h : (s0 = 60 → Wp d Md_locksRead Q 101 [some (.ref 57), some (.int x1), some (.int x2), some (.int x3), some (.int s0), none, none, none] [.int 0] I J) ∧ (¬ (s0 = 60) → (s0 = 62 → Wp d Md_locksRead Q 101 [some (.ref 57), some (.int x1), some (.int x2), some (.int x3), some (.int s0), none, none, none] [.int 1] I J) ∧ (¬ (s0 = 62) → (s0 = 61 → Wp d Md_locksRead Q 101 [some (.ref 57), some (.int x1), some (.int x2), some (.int x3), some (.int s0), none, none, none] [.int 2] I J) ∧ (¬ (s0 = 61) → Wp d Md_locksRead Q 101 [some (.ref 57), some (.int x1), some (.int x2), some (.int x3), some (.int s0), none, none, none] [.int (-1)] I J)))) : Wp d Md_locksRead Q 65 [some (.ref 57), some (.int x1), some (.int x2), some (.int x3), none, none, none, none] [.int s0] I J := by
  refine Wp.steps 3 (pc' := 71) (lv' := [some (.ref 57), some (.int x1), some (.int x2), some (.int x3), some (.int s0), none, none, none]) (st' := [.int 60, .int s0]) (I' := I) (J' := J) rfl ?_
  refine Wp.steps 1 (pc' := if s0 = 60 then 74 else 78) (lv' := [some (.ref 57), some (.int x1), some (.int x2), some (.int x3), some (.int s0), none, none, none]) (st' := []) (I' := I) (J' := J) rfl (Wp.ite (fun h1 => ?_) (fun h1 => ?_))
  · replace h := h.1 h1
    refine Wp.steps 2 (pc' := 101) (lv' := [some (.ref 57), some (.int x1), some (.int x2), some (.int x3), some (.int s0), none, none, none]) (st' := [.int 0]) (I' := I) (J' := J) rfl ?_
    exact h
  · replace h := h.2 h1
    refine Wp.steps 2 (pc' := 82) (lv' := [some (.ref 57), some (.int x1), some (.int x2), some (.int x3), some (.int s0), none, none, none]) (st' := [.int 62, .int s0]) (I' := I) (J' := J) rfl ?_
    refine Wp.steps 1 (pc' := if s0 = 62 then 85 else 89) (lv' := [some (.ref 57), some (.int x1), some (.int x2), some (.int x3), some (.int s0), none, none, none]) (st' := []) (I' := I) (J' := J) rfl (Wp.ite (fun h2 => ?_) (fun h2 => ?_))
    · replace h := h.1 h2
      refine Wp.steps 2 (pc' := 101) (lv' := [some (.ref 57), some (.int x1), some (.int x2), some (.int x3), some (.int s0), none, none, none]) (st' := [.int 1]) (I' := I) (J' := J) rfl ?_
      exact h
    · replace h := h.2 h2
      refine Wp.steps 2 (pc' := 93) (lv' := [some (.ref 57), some (.int x1), some (.int x2), some (.int x3), some (.int s0), none, none, none]) (st' := [.int 61, .int s0]) (I' := I) (J' := J) rfl ?_
      refine Wp.steps 1 (pc' := if s0 = 61 then 96 else 100) (lv' := [some (.ref 57), some (.int x1), some (.int x2), some (.int x3), some (.int s0), none, none, none]) (st' := []) (I' := I) (J' := J) rfl (Wp.ite (fun h3 => ?_) (fun h3 => ?_))
      · replace h := h.1 h3
        refine Wp.steps 2 (pc' := 101) (lv' := [some (.ref 57), some (.int x1), some (.int x2), some (.int x3), some (.int s0), none, none, none]) (st' := [.int 2]) (I' := I) (J' := J) rfl ?_
        exact h
      · replace h := h.2 h3
        refine Wp.steps 1 (pc' := 101) (lv' := [some (.ref 57), some (.int x1), some (.int x2), some (.int x3), some (.int s0), none, none, none]) (st' := [.int (-1)]) (I' := I) (J' := J) rfl ?_
        exact h
theorem v_Md_locksRead_57_101 {d : Nat} {Q : Post} {I : I2} {J : J2} {x1 : Int32} {x2 : Int32} {x3 : Int32} {x4 : Int32} {s0 : Int32} (h : (s0 < 0 → CV d Md_must [.ref 57, .int 0] I J (fun I1 J1 => ((I1 57 4) = 0 → CI d Md_here [.ref 57] I1 J1 (fun v2 I2 J2 => Wp d Md_locksRead Q 135 [some (.ref 57), some (.int x1), some (.int x2), some (.int x3), some (.int x4), some (.int s0), none, none] [.int (v2 - 48)] I2 J2)) ∧ (¬ ((I1 57 4) = 0) → Wp d Md_locksRead Q 135 [some (.ref 57), some (.int x1), some (.int x2), some (.int x3), some (.int x4), some (.int s0), none, none] [.int (-1)] I1 J1))) ∧ (¬ (s0 < 0) → CV d Md_must [.ref 57, .int 1] I J (fun I1 J1 => ((I1 57 4) = 0 → CI d Md_here [.ref 57] I1 J1 (fun v2 I2 J2 => Wp d Md_locksRead Q 135 [some (.ref 57), some (.int x1), some (.int x2), some (.int x3), some (.int x4), some (.int s0), none, none] [.int (v2 - 48)] I2 J2)) ∧ (¬ ((I1 57 4) = 0) → Wp d Md_locksRead Q 135 [some (.ref 57), some (.int x1), some (.int x2), some (.int x3), some (.int x4), some (.int s0), none, none] [.int (-1)] I1 J1)))) : Wp d Md_locksRead Q 101 [some (.ref 57), some (.int x1), some (.int x2), some (.int x3), some (.int x4), none, none, none] [.int s0] I J := by
  refine Wp.steps 3 (pc' := 106) (lv' := [some (.ref 57), some (.int x1), some (.int x2), some (.int x3), some (.int x4), some (.int s0), none, none]) (st' := [.int s0, .ref 57]) (I' := I) (J' := J) rfl ?_
  refine Wp.steps 1 (pc' := if s0 < 0 then 113 else 109) (lv' := [some (.ref 57), some (.int x1), some (.int x2), some (.int x3), some (.int x4), some (.int s0), none, none]) (st' := [.ref 57]) (I' := I) (J' := J) rfl (Wp.ite (fun h1 => ?_) (fun h1 => ?_))
  · replace h := h.1 h1
    refine Wp.steps 1 (pc' := 114) (lv' := [some (.ref 57), some (.int x1), some (.int x2), some (.int x3), some (.int x4), some (.int s0), none, none]) (st' := [.int 0, .ref 57]) (I' := I) (J' := J) rfl ?_
    refine Wp.call (M' := Md_must) (as := [.ref 57, .int 0]) (rest := []) rfl (CV.use h (fun I1 J1 h => ?_))
    refine Wp.eqs (pc' := 117) (st' := []) rfl rfl ?_
    refine Wp.steps 2 (pc' := 121) (lv' := [some (.ref 57), some (.int x1), some (.int x2), some (.int x3), some (.int x4), some (.int s0), none, none]) (st' := [.int (I1 57 4)]) (I' := I1) (J' := J1) rfl ?_
    refine Wp.steps 1 (pc' := if (I1 57 4) = 0 then 128 else 124) (lv' := [some (.ref 57), some (.int x1), some (.int x2), some (.int x3), some (.int x4), some (.int s0), none, none]) (st' := []) (I' := I1) (J' := J1) rfl (Wp.ite (fun h2 => ?_) (fun h2 => ?_))
    · replace h := h.1 h2
      refine Wp.steps 1 (pc' := 129) (lv' := [some (.ref 57), some (.int x1), some (.int x2), some (.int x3), some (.int x4), some (.int s0), none, none]) (st' := [.ref 57]) (I' := I1) (J' := J1) rfl ?_
      refine Wp.call (M' := Md_here) (as := [.ref 57]) (rest := []) rfl (CI.use h (fun v2 I2 J2 h => ?_))
      refine Wp.eqs (pc' := 132) (st' := [.int v2]) rfl rfl ?_
      refine Wp.steps 2 (pc' := 135) (lv' := [some (.ref 57), some (.int x1), some (.int x2), some (.int x3), some (.int x4), some (.int s0), none, none]) (st' := [.int (v2 - 48)]) (I' := I2) (J' := J2) rfl ?_
      exact h
    · replace h := h.2 h2
      refine Wp.steps 2 (pc' := 135) (lv' := [some (.ref 57), some (.int x1), some (.int x2), some (.int x3), some (.int x4), some (.int s0), none, none]) (st' := [.int (-1)]) (I' := I1) (J' := J1) rfl ?_
      exact h
  · replace h := h.2 h1
    refine Wp.steps 2 (pc' := 114) (lv' := [some (.ref 57), some (.int x1), some (.int x2), some (.int x3), some (.int x4), some (.int s0), none, none]) (st' := [.int 1, .ref 57]) (I' := I) (J' := J) rfl ?_
    refine Wp.call (M' := Md_must) (as := [.ref 57, .int 1]) (rest := []) rfl (CV.use h (fun I1 J1 h => ?_))
    refine Wp.eqs (pc' := 117) (st' := []) rfl rfl ?_
    refine Wp.steps 2 (pc' := 121) (lv' := [some (.ref 57), some (.int x1), some (.int x2), some (.int x3), some (.int x4), some (.int s0), none, none]) (st' := [.int (I1 57 4)]) (I' := I1) (J' := J1) rfl ?_
    refine Wp.steps 1 (pc' := if (I1 57 4) = 0 then 128 else 124) (lv' := [some (.ref 57), some (.int x1), some (.int x2), some (.int x3), some (.int x4), some (.int s0), none, none]) (st' := []) (I' := I1) (J' := J1) rfl (Wp.ite (fun h2 => ?_) (fun h2 => ?_))
    · replace h := h.1 h2
      refine Wp.steps 1 (pc' := 129) (lv' := [some (.ref 57), some (.int x1), some (.int x2), some (.int x3), some (.int x4), some (.int s0), none, none]) (st' := [.ref 57]) (I' := I1) (J' := J1) rfl ?_
      refine Wp.call (M' := Md_here) (as := [.ref 57]) (rest := []) rfl (CI.use h (fun v2 I2 J2 h => ?_))
      refine Wp.eqs (pc' := 132) (st' := [.int v2]) rfl rfl ?_
      refine Wp.steps 2 (pc' := 135) (lv' := [some (.ref 57), some (.int x1), some (.int x2), some (.int x3), some (.int x4), some (.int s0), none, none]) (st' := [.int (v2 - 48)]) (I' := I2) (J' := J2) rfl ?_
      exact h
    · replace h := h.2 h2
      refine Wp.steps 2 (pc' := 135) (lv' := [some (.ref 57), some (.int x1), some (.int x2), some (.int x3), some (.int x4), some (.int s0), none, none]) (st' := [.int (-1)]) (I' := I1) (J' := J1) rfl ?_
      exact h
theorem v_Md_locksRead_57_135 {d : Nat} {Q : Post} {I : I2} {J : J2} {x1 : Int32} {x2 : Int32} {x3 : Int32} {x4 : Int32} {x5 : Int32} {s0 : Int32} (h : CI d Md_in [.long (Int32.toInt64 s0), .long 0, .long (Int32.toInt64 (x1 - 1))] I J (fun v1 I1 J1 => (v1 = 0 → CV d Md_must [.ref 57, .int 0] I1 J1 (fun I2 J2 => ((I2 57 4) = 0 → vp_in ((2 * s0) + 1) 10 ∧ (CI d Md_placesRead [.ref 57, .int (I2 60 (tN ((2 * s0) + 1)))] I2 J2 (fun v3 I3 J3 => ((I3 57 4) = 0 → vp_in (4 * x2) 24 ∧ (vp_in ((4 * x2) + 1) 24 ∧ (vp_in ((4 * x2) + 2) 24 ∧ (vp_in ((4 * x2) + 3) 24 ∧ (Wp d Md_locksRead Q 2 [some (.ref 57), some (.int x1), some (.int (x2 + 1)), none, none, none, none, none] [] (up2 (up2 (up2 (up2 I3 61 (tN (4 * x2)) x3) 61 (tN ((4 * x2) + 1)) x5) 61 (tN ((4 * x2) + 2)) s0) 61 (tN ((4 * x2) + 3)) v3) J3))))) ∧ (¬ ((I3 57 4) = 0) → Wp d Md_locksRead Q 2 [some (.ref 57), some (.int x1), some (.int (x2 + 1)), none, none, none, none, none] [] I3 J3)))) ∧ (¬ ((I2 57 4) = 0) → CI d Md_placesRead [.ref 57, .int 0] I2 J2 (fun v3 I3 J3 => ((I3 57 4) = 0 → vp_in (4 * x2) 24 ∧ (vp_in ((4 * x2) + 1) 24 ∧ (vp_in ((4 * x2) + 2) 24 ∧ (vp_in ((4 * x2) + 3) 24 ∧ (Wp d Md_locksRead Q 2 [some (.ref 57), some (.int x1), some (.int (x2 + 1)), none, none, none, none, none] [] (up2 (up2 (up2 (up2 I3 61 (tN (4 * x2)) x3) 61 (tN ((4 * x2) + 1)) x5) 61 (tN ((4 * x2) + 2)) s0) 61 (tN ((4 * x2) + 3)) v3) J3))))) ∧ (¬ ((I3 57 4) = 0) → Wp d Md_locksRead Q 2 [some (.ref 57), some (.int x1), some (.int (x2 + 1)), none, none, none, none, none] [] I3 J3))))) ∧ (¬ (v1 = 0) → (s0 = x3 → CV d Md_must [.ref 57, .int 0] I1 J1 (fun I2 J2 => ((I2 57 4) = 0 → vp_in ((2 * s0) + 1) 10 ∧ (CI d Md_placesRead [.ref 57, .int (I2 60 (tN ((2 * s0) + 1)))] I2 J2 (fun v3 I3 J3 => ((I3 57 4) = 0 → vp_in (4 * x2) 24 ∧ (vp_in ((4 * x2) + 1) 24 ∧ (vp_in ((4 * x2) + 2) 24 ∧ (vp_in ((4 * x2) + 3) 24 ∧ (Wp d Md_locksRead Q 2 [some (.ref 57), some (.int x1), some (.int (x2 + 1)), none, none, none, none, none] [] (up2 (up2 (up2 (up2 I3 61 (tN (4 * x2)) x3) 61 (tN ((4 * x2) + 1)) x5) 61 (tN ((4 * x2) + 2)) s0) 61 (tN ((4 * x2) + 3)) v3) J3))))) ∧ (¬ ((I3 57 4) = 0) → Wp d Md_locksRead Q 2 [some (.ref 57), some (.int x1), some (.int (x2 + 1)), none, none, none, none, none] [] I3 J3)))) ∧ (¬ ((I2 57 4) = 0) → CI d Md_placesRead [.ref 57, .int 0] I2 J2 (fun v3 I3 J3 => ((I3 57 4) = 0 → vp_in (4 * x2) 24 ∧ (vp_in ((4 * x2) + 1) 24 ∧ (vp_in ((4 * x2) + 2) 24 ∧ (vp_in ((4 * x2) + 3) 24 ∧ (Wp d Md_locksRead Q 2 [some (.ref 57), some (.int x1), some (.int (x2 + 1)), none, none, none, none, none] [] (up2 (up2 (up2 (up2 I3 61 (tN (4 * x2)) x3) 61 (tN ((4 * x2) + 1)) x5) 61 (tN ((4 * x2) + 2)) s0) 61 (tN ((4 * x2) + 3)) v3) J3))))) ∧ (¬ ((I3 57 4) = 0) → Wp d Md_locksRead Q 2 [some (.ref 57), some (.int x1), some (.int (x2 + 1)), none, none, none, none, none] [] I3 J3))))) ∧ (¬ (s0 = x3) → CV d Md_must [.ref 57, .int 1] I1 J1 (fun I2 J2 => ((I2 57 4) = 0 → vp_in ((2 * s0) + 1) 10 ∧ (CI d Md_placesRead [.ref 57, .int (I2 60 (tN ((2 * s0) + 1)))] I2 J2 (fun v3 I3 J3 => ((I3 57 4) = 0 → vp_in (4 * x2) 24 ∧ (vp_in ((4 * x2) + 1) 24 ∧ (vp_in ((4 * x2) + 2) 24 ∧ (vp_in ((4 * x2) + 3) 24 ∧ (Wp d Md_locksRead Q 2 [some (.ref 57), some (.int x1), some (.int (x2 + 1)), none, none, none, none, none] [] (up2 (up2 (up2 (up2 I3 61 (tN (4 * x2)) x3) 61 (tN ((4 * x2) + 1)) x5) 61 (tN ((4 * x2) + 2)) s0) 61 (tN ((4 * x2) + 3)) v3) J3))))) ∧ (¬ ((I3 57 4) = 0) → Wp d Md_locksRead Q 2 [some (.ref 57), some (.int x1), some (.int (x2 + 1)), none, none, none, none, none] [] I3 J3)))) ∧ (¬ ((I2 57 4) = 0) → CI d Md_placesRead [.ref 57, .int 0] I2 J2 (fun v3 I3 J3 => ((I3 57 4) = 0 → vp_in (4 * x2) 24 ∧ (vp_in ((4 * x2) + 1) 24 ∧ (vp_in ((4 * x2) + 2) 24 ∧ (vp_in ((4 * x2) + 3) 24 ∧ (Wp d Md_locksRead Q 2 [some (.ref 57), some (.int x1), some (.int (x2 + 1)), none, none, none, none, none] [] (up2 (up2 (up2 (up2 I3 61 (tN (4 * x2)) x3) 61 (tN ((4 * x2) + 1)) x5) 61 (tN ((4 * x2) + 2)) s0) 61 (tN ((4 * x2) + 3)) v3) J3))))) ∧ (¬ ((I3 57 4) = 0) → Wp d Md_locksRead Q 2 [some (.ref 57), some (.int x1), some (.int (x2 + 1)), none, none, none, none, none] [] I3 J3)))))))) : Wp d Md_locksRead Q 135 [some (.ref 57), some (.int x1), some (.int x2), some (.int x3), some (.int x4), some (.int x5), none, none] [.int s0] I J := by
  refine Wp.steps 9 (pc' := 146) (lv' := [some (.ref 57), some (.int x1), some (.int x2), some (.int x3), some (.int x4), some (.int x5), some (.int s0), none]) (st' := [.long (Int32.toInt64 (x1 - 1)), .long 0, .long (Int32.toInt64 s0), .ref 57]) (I' := I) (J' := J) rfl ?_
  refine Wp.call (M' := Md_in) (as := [.long (Int32.toInt64 s0), .long 0, .long (Int32.toInt64 (x1 - 1))]) (rest := [.ref 57]) rfl (CI.use h (fun v1 I1 J1 h => ?_))
  refine Wp.eqs (pc' := 149) (st' := [.int v1, .ref 57]) rfl rfl ?_
  refine Wp.steps 1 (pc' := if v1 = 0 then 162 else 152) (lv' := [some (.ref 57), some (.int x1), some (.int x2), some (.int x3), some (.int x4), some (.int x5), some (.int s0), none]) (st' := [.ref 57]) (I' := I1) (J' := J1) rfl (Wp.ite (fun h1 => ?_) (fun h1 => ?_))
  · replace h := h.1 h1
    refine Wp.steps 1 (pc' := 163) (lv' := [some (.ref 57), some (.int x1), some (.int x2), some (.int x3), some (.int x4), some (.int x5), some (.int s0), none]) (st' := [.int 0, .ref 57]) (I' := I1) (J' := J1) rfl ?_
    refine Wp.call (M' := Md_must) (as := [.ref 57, .int 0]) (rest := []) rfl (CV.use h (fun I2 J2 h => ?_))
    refine Wp.eqs (pc' := 166) (st' := []) rfl rfl ?_
    refine Wp.steps 3 (pc' := 171) (lv' := [some (.ref 57), some (.int x1), some (.int x2), some (.int x3), some (.int x4), some (.int x5), some (.int s0), none]) (st' := [.int (I2 57 4), .ref 57]) (I' := I2) (J' := J2) rfl ?_
    refine Wp.steps 1 (pc' := if (I2 57 4) = 0 then 178 else 174) (lv' := [some (.ref 57), some (.int x1), some (.int x2), some (.int x3), some (.int x4), some (.int x5), some (.int s0), none]) (st' := [.ref 57]) (I' := I2) (J' := J2) rfl (Wp.ite (fun h2 => ?_) (fun h2 => ?_))
    · replace h := h.1 h2
      refine Wp.steps 7 (pc' := 188) (lv' := [some (.ref 57), some (.int x1), some (.int x2), some (.int x3), some (.int x4), some (.int x5), some (.int s0), none]) (st' := [.int ((2 * s0) + 1), .ref 60, .ref 57]) (I' := I2) (J' := J2) rfl ?_
      refine Wp.iald rfl rfl h.1 ?_
      replace h := h.2
      refine Wp.call (M' := Md_placesRead) (as := [.ref 57, .int (I2 60 (tN ((2 * s0) + 1)))]) (rest := []) rfl (CI.use h (fun v3 I3 J3 h => ?_))
      refine Wp.eqs (pc' := 192) (st' := [.int v3]) rfl rfl ?_
      refine Wp.steps 3 (pc' := 198) (lv' := [some (.ref 57), some (.int x1), some (.int x2), some (.int x3), some (.int x4), some (.int x5), some (.int s0), some (.int v3)]) (st' := [.int (I3 57 4)]) (I' := I3) (J' := J3) rfl ?_
      refine Wp.steps 1 (pc' := if (I3 57 4) = 0 then 201 else 246) (lv' := [some (.ref 57), some (.int x1), some (.int x2), some (.int x3), some (.int x4), some (.int x5), some (.int s0), some (.int v3)]) (st' := []) (I' := I3) (J' := J3) rfl (Wp.ite (fun h3 => ?_) (fun h3 => ?_))
      · replace h := h.1 h3
        refine Wp.steps 6 (pc' := 209) (lv' := [some (.ref 57), some (.int x1), some (.int x2), some (.int x3), some (.int x4), some (.int x5), some (.int s0), some (.int v3)]) (st' := [.int x3, .int (4 * x2), .ref 61]) (I' := I3) (J' := J3) rfl ?_
        refine Wp.iast rfl rfl h.1 ?_
        replace h := h.2
        refine Wp.steps 8 (pc' := 221) (lv' := [some (.ref 57), some (.int x1), some (.int x2), some (.int x3), some (.int x4), some (.int x5), some (.int s0), some (.int v3)]) (st' := [.int x5, .int ((4 * x2) + 1), .ref 61]) (I' := (up2 I3 61 (tN (4 * x2)) x3)) (J' := J3) rfl ?_
        refine Wp.iast rfl rfl h.1 ?_
        replace h := h.2
        refine Wp.steps 8 (pc' := 233) (lv' := [some (.ref 57), some (.int x1), some (.int x2), some (.int x3), some (.int x4), some (.int x5), some (.int s0), some (.int v3)]) (st' := [.int s0, .int ((4 * x2) + 2), .ref 61]) (I' := (up2 (up2 I3 61 (tN (4 * x2)) x3) 61 (tN ((4 * x2) + 1)) x5)) (J' := J3) rfl ?_
        refine Wp.iast rfl rfl h.1 ?_
        replace h := h.2
        refine Wp.steps 8 (pc' := 245) (lv' := [some (.ref 57), some (.int x1), some (.int x2), some (.int x3), some (.int x4), some (.int x5), some (.int s0), some (.int v3)]) (st' := [.int v3, .int ((4 * x2) + 3), .ref 61]) (I' := (up2 (up2 (up2 I3 61 (tN (4 * x2)) x3) 61 (tN ((4 * x2) + 1)) x5) 61 (tN ((4 * x2) + 2)) s0)) (J' := J3) rfl ?_
        refine Wp.iast rfl rfl h.1 ?_
        replace h := h.2
        refine Wp.steps 2 (pc' := 2) (lv' := [some (.ref 57), some (.int x1), some (.int (x2 + 1)), some (.int x3), some (.int x4), some (.int x5), some (.int s0), some (.int v3)]) (st' := []) (I' := (up2 (up2 (up2 (up2 I3 61 (tN (4 * x2)) x3) 61 (tN ((4 * x2) + 1)) x5) 61 (tN ((4 * x2) + 2)) s0) 61 (tN ((4 * x2) + 3)) v3)) (J' := J3) rfl ?_
        refine Wp.drop [3, 4, 5, 6, 7] (lv' := [some (.ref 57), some (.int x1), some (.int (x2 + 1)), none, none, none, none, none]) rfl ?_
        exact h
      · replace h := h.2 h3
        refine Wp.steps 2 (pc' := 2) (lv' := [some (.ref 57), some (.int x1), some (.int (x2 + 1)), some (.int x3), some (.int x4), some (.int x5), some (.int s0), some (.int v3)]) (st' := []) (I' := I3) (J' := J3) rfl ?_
        refine Wp.drop [3, 4, 5, 6, 7] (lv' := [some (.ref 57), some (.int x1), some (.int (x2 + 1)), none, none, none, none, none]) rfl ?_
        exact h
    · replace h := h.2 h2
      refine Wp.steps 2 (pc' := 189) (lv' := [some (.ref 57), some (.int x1), some (.int x2), some (.int x3), some (.int x4), some (.int x5), some (.int s0), none]) (st' := [.int 0, .ref 57]) (I' := I2) (J' := J2) rfl ?_
      refine Wp.call (M' := Md_placesRead) (as := [.ref 57, .int 0]) (rest := []) rfl (CI.use h (fun v3 I3 J3 h => ?_))
      refine Wp.eqs (pc' := 192) (st' := [.int v3]) rfl rfl ?_
      refine Wp.steps 3 (pc' := 198) (lv' := [some (.ref 57), some (.int x1), some (.int x2), some (.int x3), some (.int x4), some (.int x5), some (.int s0), some (.int v3)]) (st' := [.int (I3 57 4)]) (I' := I3) (J' := J3) rfl ?_
      refine Wp.steps 1 (pc' := if (I3 57 4) = 0 then 201 else 246) (lv' := [some (.ref 57), some (.int x1), some (.int x2), some (.int x3), some (.int x4), some (.int x5), some (.int s0), some (.int v3)]) (st' := []) (I' := I3) (J' := J3) rfl (Wp.ite (fun h3 => ?_) (fun h3 => ?_))
      · replace h := h.1 h3
        refine Wp.steps 6 (pc' := 209) (lv' := [some (.ref 57), some (.int x1), some (.int x2), some (.int x3), some (.int x4), some (.int x5), some (.int s0), some (.int v3)]) (st' := [.int x3, .int (4 * x2), .ref 61]) (I' := I3) (J' := J3) rfl ?_
        refine Wp.iast rfl rfl h.1 ?_
        replace h := h.2
        refine Wp.steps 8 (pc' := 221) (lv' := [some (.ref 57), some (.int x1), some (.int x2), some (.int x3), some (.int x4), some (.int x5), some (.int s0), some (.int v3)]) (st' := [.int x5, .int ((4 * x2) + 1), .ref 61]) (I' := (up2 I3 61 (tN (4 * x2)) x3)) (J' := J3) rfl ?_
        refine Wp.iast rfl rfl h.1 ?_
        replace h := h.2
        refine Wp.steps 8 (pc' := 233) (lv' := [some (.ref 57), some (.int x1), some (.int x2), some (.int x3), some (.int x4), some (.int x5), some (.int s0), some (.int v3)]) (st' := [.int s0, .int ((4 * x2) + 2), .ref 61]) (I' := (up2 (up2 I3 61 (tN (4 * x2)) x3) 61 (tN ((4 * x2) + 1)) x5)) (J' := J3) rfl ?_
        refine Wp.iast rfl rfl h.1 ?_
        replace h := h.2
        refine Wp.steps 8 (pc' := 245) (lv' := [some (.ref 57), some (.int x1), some (.int x2), some (.int x3), some (.int x4), some (.int x5), some (.int s0), some (.int v3)]) (st' := [.int v3, .int ((4 * x2) + 3), .ref 61]) (I' := (up2 (up2 (up2 I3 61 (tN (4 * x2)) x3) 61 (tN ((4 * x2) + 1)) x5) 61 (tN ((4 * x2) + 2)) s0)) (J' := J3) rfl ?_
        refine Wp.iast rfl rfl h.1 ?_
        replace h := h.2
        refine Wp.steps 2 (pc' := 2) (lv' := [some (.ref 57), some (.int x1), some (.int (x2 + 1)), some (.int x3), some (.int x4), some (.int x5), some (.int s0), some (.int v3)]) (st' := []) (I' := (up2 (up2 (up2 (up2 I3 61 (tN (4 * x2)) x3) 61 (tN ((4 * x2) + 1)) x5) 61 (tN ((4 * x2) + 2)) s0) 61 (tN ((4 * x2) + 3)) v3)) (J' := J3) rfl ?_
        refine Wp.drop [3, 4, 5, 6, 7] (lv' := [some (.ref 57), some (.int x1), some (.int (x2 + 1)), none, none, none, none, none]) rfl ?_
        exact h
      · replace h := h.2 h3
        refine Wp.steps 2 (pc' := 2) (lv' := [some (.ref 57), some (.int x1), some (.int (x2 + 1)), some (.int x3), some (.int x4), some (.int x5), some (.int s0), some (.int v3)]) (st' := []) (I' := I3) (J' := J3) rfl ?_
        refine Wp.drop [3, 4, 5, 6, 7] (lv' := [some (.ref 57), some (.int x1), some (.int (x2 + 1)), none, none, none, none, none]) rfl ?_
        exact h
  · replace h := h.2 h1
    refine Wp.steps 2 (pc' := 155) (lv' := [some (.ref 57), some (.int x1), some (.int x2), some (.int x3), some (.int x4), some (.int x5), some (.int s0), none]) (st' := [.int x3, .int s0, .ref 57]) (I' := I1) (J' := J1) rfl ?_
    refine Wp.steps 1 (pc' := if s0 = x3 then 162 else 158) (lv' := [some (.ref 57), some (.int x1), some (.int x2), some (.int x3), some (.int x4), some (.int x5), some (.int s0), none]) (st' := [.ref 57]) (I' := I1) (J' := J1) rfl (Wp.ite (fun h2 => ?_) (fun h2 => ?_))
    · replace h := h.1 h2
      refine Wp.steps 1 (pc' := 163) (lv' := [some (.ref 57), some (.int x1), some (.int x2), some (.int x3), some (.int x4), some (.int x5), some (.int s0), none]) (st' := [.int 0, .ref 57]) (I' := I1) (J' := J1) rfl ?_
      refine Wp.call (M' := Md_must) (as := [.ref 57, .int 0]) (rest := []) rfl (CV.use h (fun I2 J2 h => ?_))
      refine Wp.eqs (pc' := 166) (st' := []) rfl rfl ?_
      refine Wp.steps 3 (pc' := 171) (lv' := [some (.ref 57), some (.int x1), some (.int x2), some (.int x3), some (.int x4), some (.int x5), some (.int s0), none]) (st' := [.int (I2 57 4), .ref 57]) (I' := I2) (J' := J2) rfl ?_
      refine Wp.steps 1 (pc' := if (I2 57 4) = 0 then 178 else 174) (lv' := [some (.ref 57), some (.int x1), some (.int x2), some (.int x3), some (.int x4), some (.int x5), some (.int s0), none]) (st' := [.ref 57]) (I' := I2) (J' := J2) rfl (Wp.ite (fun h3 => ?_) (fun h3 => ?_))
      · replace h := h.1 h3
        refine Wp.steps 7 (pc' := 188) (lv' := [some (.ref 57), some (.int x1), some (.int x2), some (.int x3), some (.int x4), some (.int x5), some (.int s0), none]) (st' := [.int ((2 * s0) + 1), .ref 60, .ref 57]) (I' := I2) (J' := J2) rfl ?_
        refine Wp.iald rfl rfl h.1 ?_
        replace h := h.2
        refine Wp.call (M' := Md_placesRead) (as := [.ref 57, .int (I2 60 (tN ((2 * s0) + 1)))]) (rest := []) rfl (CI.use h (fun v3 I3 J3 h => ?_))
        refine Wp.eqs (pc' := 192) (st' := [.int v3]) rfl rfl ?_
        refine Wp.steps 3 (pc' := 198) (lv' := [some (.ref 57), some (.int x1), some (.int x2), some (.int x3), some (.int x4), some (.int x5), some (.int s0), some (.int v3)]) (st' := [.int (I3 57 4)]) (I' := I3) (J' := J3) rfl ?_
        refine Wp.steps 1 (pc' := if (I3 57 4) = 0 then 201 else 246) (lv' := [some (.ref 57), some (.int x1), some (.int x2), some (.int x3), some (.int x4), some (.int x5), some (.int s0), some (.int v3)]) (st' := []) (I' := I3) (J' := J3) rfl (Wp.ite (fun h4 => ?_) (fun h4 => ?_))
        · replace h := h.1 h4
          refine Wp.steps 6 (pc' := 209) (lv' := [some (.ref 57), some (.int x1), some (.int x2), some (.int x3), some (.int x4), some (.int x5), some (.int s0), some (.int v3)]) (st' := [.int x3, .int (4 * x2), .ref 61]) (I' := I3) (J' := J3) rfl ?_
          refine Wp.iast rfl rfl h.1 ?_
          replace h := h.2
          refine Wp.steps 8 (pc' := 221) (lv' := [some (.ref 57), some (.int x1), some (.int x2), some (.int x3), some (.int x4), some (.int x5), some (.int s0), some (.int v3)]) (st' := [.int x5, .int ((4 * x2) + 1), .ref 61]) (I' := (up2 I3 61 (tN (4 * x2)) x3)) (J' := J3) rfl ?_
          refine Wp.iast rfl rfl h.1 ?_
          replace h := h.2
          refine Wp.steps 8 (pc' := 233) (lv' := [some (.ref 57), some (.int x1), some (.int x2), some (.int x3), some (.int x4), some (.int x5), some (.int s0), some (.int v3)]) (st' := [.int s0, .int ((4 * x2) + 2), .ref 61]) (I' := (up2 (up2 I3 61 (tN (4 * x2)) x3) 61 (tN ((4 * x2) + 1)) x5)) (J' := J3) rfl ?_
          refine Wp.iast rfl rfl h.1 ?_
          replace h := h.2
          refine Wp.steps 8 (pc' := 245) (lv' := [some (.ref 57), some (.int x1), some (.int x2), some (.int x3), some (.int x4), some (.int x5), some (.int s0), some (.int v3)]) (st' := [.int v3, .int ((4 * x2) + 3), .ref 61]) (I' := (up2 (up2 (up2 I3 61 (tN (4 * x2)) x3) 61 (tN ((4 * x2) + 1)) x5) 61 (tN ((4 * x2) + 2)) s0)) (J' := J3) rfl ?_
          refine Wp.iast rfl rfl h.1 ?_
          replace h := h.2
          refine Wp.steps 2 (pc' := 2) (lv' := [some (.ref 57), some (.int x1), some (.int (x2 + 1)), some (.int x3), some (.int x4), some (.int x5), some (.int s0), some (.int v3)]) (st' := []) (I' := (up2 (up2 (up2 (up2 I3 61 (tN (4 * x2)) x3) 61 (tN ((4 * x2) + 1)) x5) 61 (tN ((4 * x2) + 2)) s0) 61 (tN ((4 * x2) + 3)) v3)) (J' := J3) rfl ?_
          refine Wp.drop [3, 4, 5, 6, 7] (lv' := [some (.ref 57), some (.int x1), some (.int (x2 + 1)), none, none, none, none, none]) rfl ?_
          exact h
        · replace h := h.2 h4
          refine Wp.steps 2 (pc' := 2) (lv' := [some (.ref 57), some (.int x1), some (.int (x2 + 1)), some (.int x3), some (.int x4), some (.int x5), some (.int s0), some (.int v3)]) (st' := []) (I' := I3) (J' := J3) rfl ?_
          refine Wp.drop [3, 4, 5, 6, 7] (lv' := [some (.ref 57), some (.int x1), some (.int (x2 + 1)), none, none, none, none, none]) rfl ?_
          exact h
      · replace h := h.2 h3
        refine Wp.steps 2 (pc' := 189) (lv' := [some (.ref 57), some (.int x1), some (.int x2), some (.int x3), some (.int x4), some (.int x5), some (.int s0), none]) (st' := [.int 0, .ref 57]) (I' := I2) (J' := J2) rfl ?_
        refine Wp.call (M' := Md_placesRead) (as := [.ref 57, .int 0]) (rest := []) rfl (CI.use h (fun v3 I3 J3 h => ?_))
        refine Wp.eqs (pc' := 192) (st' := [.int v3]) rfl rfl ?_
        refine Wp.steps 3 (pc' := 198) (lv' := [some (.ref 57), some (.int x1), some (.int x2), some (.int x3), some (.int x4), some (.int x5), some (.int s0), some (.int v3)]) (st' := [.int (I3 57 4)]) (I' := I3) (J' := J3) rfl ?_
        refine Wp.steps 1 (pc' := if (I3 57 4) = 0 then 201 else 246) (lv' := [some (.ref 57), some (.int x1), some (.int x2), some (.int x3), some (.int x4), some (.int x5), some (.int s0), some (.int v3)]) (st' := []) (I' := I3) (J' := J3) rfl (Wp.ite (fun h4 => ?_) (fun h4 => ?_))
        · replace h := h.1 h4
          refine Wp.steps 6 (pc' := 209) (lv' := [some (.ref 57), some (.int x1), some (.int x2), some (.int x3), some (.int x4), some (.int x5), some (.int s0), some (.int v3)]) (st' := [.int x3, .int (4 * x2), .ref 61]) (I' := I3) (J' := J3) rfl ?_
          refine Wp.iast rfl rfl h.1 ?_
          replace h := h.2
          refine Wp.steps 8 (pc' := 221) (lv' := [some (.ref 57), some (.int x1), some (.int x2), some (.int x3), some (.int x4), some (.int x5), some (.int s0), some (.int v3)]) (st' := [.int x5, .int ((4 * x2) + 1), .ref 61]) (I' := (up2 I3 61 (tN (4 * x2)) x3)) (J' := J3) rfl ?_
          refine Wp.iast rfl rfl h.1 ?_
          replace h := h.2
          refine Wp.steps 8 (pc' := 233) (lv' := [some (.ref 57), some (.int x1), some (.int x2), some (.int x3), some (.int x4), some (.int x5), some (.int s0), some (.int v3)]) (st' := [.int s0, .int ((4 * x2) + 2), .ref 61]) (I' := (up2 (up2 I3 61 (tN (4 * x2)) x3) 61 (tN ((4 * x2) + 1)) x5)) (J' := J3) rfl ?_
          refine Wp.iast rfl rfl h.1 ?_
          replace h := h.2
          refine Wp.steps 8 (pc' := 245) (lv' := [some (.ref 57), some (.int x1), some (.int x2), some (.int x3), some (.int x4), some (.int x5), some (.int s0), some (.int v3)]) (st' := [.int v3, .int ((4 * x2) + 3), .ref 61]) (I' := (up2 (up2 (up2 I3 61 (tN (4 * x2)) x3) 61 (tN ((4 * x2) + 1)) x5) 61 (tN ((4 * x2) + 2)) s0)) (J' := J3) rfl ?_
          refine Wp.iast rfl rfl h.1 ?_
          replace h := h.2
          refine Wp.steps 2 (pc' := 2) (lv' := [some (.ref 57), some (.int x1), some (.int (x2 + 1)), some (.int x3), some (.int x4), some (.int x5), some (.int s0), some (.int v3)]) (st' := []) (I' := (up2 (up2 (up2 (up2 I3 61 (tN (4 * x2)) x3) 61 (tN ((4 * x2) + 1)) x5) 61 (tN ((4 * x2) + 2)) s0) 61 (tN ((4 * x2) + 3)) v3)) (J' := J3) rfl ?_
          refine Wp.drop [3, 4, 5, 6, 7] (lv' := [some (.ref 57), some (.int x1), some (.int (x2 + 1)), none, none, none, none, none]) rfl ?_
          exact h
        · replace h := h.2 h4
          refine Wp.steps 2 (pc' := 2) (lv' := [some (.ref 57), some (.int x1), some (.int (x2 + 1)), some (.int x3), some (.int x4), some (.int x5), some (.int s0), some (.int v3)]) (st' := []) (I' := I3) (J' := J3) rfl ?_
          refine Wp.drop [3, 4, 5, 6, 7] (lv' := [some (.ref 57), some (.int x1), some (.int (x2 + 1)), none, none, none, none, none]) rfl ?_
          exact h
    · replace h := h.2 h2
      refine Wp.steps 2 (pc' := 163) (lv' := [some (.ref 57), some (.int x1), some (.int x2), some (.int x3), some (.int x4), some (.int x5), some (.int s0), none]) (st' := [.int 1, .ref 57]) (I' := I1) (J' := J1) rfl ?_
      refine Wp.call (M' := Md_must) (as := [.ref 57, .int 1]) (rest := []) rfl (CV.use h (fun I2 J2 h => ?_))
      refine Wp.eqs (pc' := 166) (st' := []) rfl rfl ?_
      refine Wp.steps 3 (pc' := 171) (lv' := [some (.ref 57), some (.int x1), some (.int x2), some (.int x3), some (.int x4), some (.int x5), some (.int s0), none]) (st' := [.int (I2 57 4), .ref 57]) (I' := I2) (J' := J2) rfl ?_
      refine Wp.steps 1 (pc' := if (I2 57 4) = 0 then 178 else 174) (lv' := [some (.ref 57), some (.int x1), some (.int x2), some (.int x3), some (.int x4), some (.int x5), some (.int s0), none]) (st' := [.ref 57]) (I' := I2) (J' := J2) rfl (Wp.ite (fun h3 => ?_) (fun h3 => ?_))
      · replace h := h.1 h3
        refine Wp.steps 7 (pc' := 188) (lv' := [some (.ref 57), some (.int x1), some (.int x2), some (.int x3), some (.int x4), some (.int x5), some (.int s0), none]) (st' := [.int ((2 * s0) + 1), .ref 60, .ref 57]) (I' := I2) (J' := J2) rfl ?_
        refine Wp.iald rfl rfl h.1 ?_
        replace h := h.2
        refine Wp.call (M' := Md_placesRead) (as := [.ref 57, .int (I2 60 (tN ((2 * s0) + 1)))]) (rest := []) rfl (CI.use h (fun v3 I3 J3 h => ?_))
        refine Wp.eqs (pc' := 192) (st' := [.int v3]) rfl rfl ?_
        refine Wp.steps 3 (pc' := 198) (lv' := [some (.ref 57), some (.int x1), some (.int x2), some (.int x3), some (.int x4), some (.int x5), some (.int s0), some (.int v3)]) (st' := [.int (I3 57 4)]) (I' := I3) (J' := J3) rfl ?_
        refine Wp.steps 1 (pc' := if (I3 57 4) = 0 then 201 else 246) (lv' := [some (.ref 57), some (.int x1), some (.int x2), some (.int x3), some (.int x4), some (.int x5), some (.int s0), some (.int v3)]) (st' := []) (I' := I3) (J' := J3) rfl (Wp.ite (fun h4 => ?_) (fun h4 => ?_))
        · replace h := h.1 h4
          refine Wp.steps 6 (pc' := 209) (lv' := [some (.ref 57), some (.int x1), some (.int x2), some (.int x3), some (.int x4), some (.int x5), some (.int s0), some (.int v3)]) (st' := [.int x3, .int (4 * x2), .ref 61]) (I' := I3) (J' := J3) rfl ?_
          refine Wp.iast rfl rfl h.1 ?_
          replace h := h.2
          refine Wp.steps 8 (pc' := 221) (lv' := [some (.ref 57), some (.int x1), some (.int x2), some (.int x3), some (.int x4), some (.int x5), some (.int s0), some (.int v3)]) (st' := [.int x5, .int ((4 * x2) + 1), .ref 61]) (I' := (up2 I3 61 (tN (4 * x2)) x3)) (J' := J3) rfl ?_
          refine Wp.iast rfl rfl h.1 ?_
          replace h := h.2
          refine Wp.steps 8 (pc' := 233) (lv' := [some (.ref 57), some (.int x1), some (.int x2), some (.int x3), some (.int x4), some (.int x5), some (.int s0), some (.int v3)]) (st' := [.int s0, .int ((4 * x2) + 2), .ref 61]) (I' := (up2 (up2 I3 61 (tN (4 * x2)) x3) 61 (tN ((4 * x2) + 1)) x5)) (J' := J3) rfl ?_
          refine Wp.iast rfl rfl h.1 ?_
          replace h := h.2
          refine Wp.steps 8 (pc' := 245) (lv' := [some (.ref 57), some (.int x1), some (.int x2), some (.int x3), some (.int x4), some (.int x5), some (.int s0), some (.int v3)]) (st' := [.int v3, .int ((4 * x2) + 3), .ref 61]) (I' := (up2 (up2 (up2 I3 61 (tN (4 * x2)) x3) 61 (tN ((4 * x2) + 1)) x5) 61 (tN ((4 * x2) + 2)) s0)) (J' := J3) rfl ?_
          refine Wp.iast rfl rfl h.1 ?_
          replace h := h.2
          refine Wp.steps 2 (pc' := 2) (lv' := [some (.ref 57), some (.int x1), some (.int (x2 + 1)), some (.int x3), some (.int x4), some (.int x5), some (.int s0), some (.int v3)]) (st' := []) (I' := (up2 (up2 (up2 (up2 I3 61 (tN (4 * x2)) x3) 61 (tN ((4 * x2) + 1)) x5) 61 (tN ((4 * x2) + 2)) s0) 61 (tN ((4 * x2) + 3)) v3)) (J' := J3) rfl ?_
          refine Wp.drop [3, 4, 5, 6, 7] (lv' := [some (.ref 57), some (.int x1), some (.int (x2 + 1)), none, none, none, none, none]) rfl ?_
          exact h
        · replace h := h.2 h4
          refine Wp.steps 2 (pc' := 2) (lv' := [some (.ref 57), some (.int x1), some (.int (x2 + 1)), some (.int x3), some (.int x4), some (.int x5), some (.int s0), some (.int v3)]) (st' := []) (I' := I3) (J' := J3) rfl ?_
          refine Wp.drop [3, 4, 5, 6, 7] (lv' := [some (.ref 57), some (.int x1), some (.int (x2 + 1)), none, none, none, none, none]) rfl ?_
          exact h
      · replace h := h.2 h3
        refine Wp.steps 2 (pc' := 189) (lv' := [some (.ref 57), some (.int x1), some (.int x2), some (.int x3), some (.int x4), some (.int x5), some (.int s0), none]) (st' := [.int 0, .ref 57]) (I' := I2) (J' := J2) rfl ?_
        refine Wp.call (M' := Md_placesRead) (as := [.ref 57, .int 0]) (rest := []) rfl (CI.use h (fun v3 I3 J3 h => ?_))
        refine Wp.eqs (pc' := 192) (st' := [.int v3]) rfl rfl ?_
        refine Wp.steps 3 (pc' := 198) (lv' := [some (.ref 57), some (.int x1), some (.int x2), some (.int x3), some (.int x4), some (.int x5), some (.int s0), some (.int v3)]) (st' := [.int (I3 57 4)]) (I' := I3) (J' := J3) rfl ?_
        refine Wp.steps 1 (pc' := if (I3 57 4) = 0 then 201 else 246) (lv' := [some (.ref 57), some (.int x1), some (.int x2), some (.int x3), some (.int x4), some (.int x5), some (.int s0), some (.int v3)]) (st' := []) (I' := I3) (J' := J3) rfl (Wp.ite (fun h4 => ?_) (fun h4 => ?_))
        · replace h := h.1 h4
          refine Wp.steps 6 (pc' := 209) (lv' := [some (.ref 57), some (.int x1), some (.int x2), some (.int x3), some (.int x4), some (.int x5), some (.int s0), some (.int v3)]) (st' := [.int x3, .int (4 * x2), .ref 61]) (I' := I3) (J' := J3) rfl ?_
          refine Wp.iast rfl rfl h.1 ?_
          replace h := h.2
          refine Wp.steps 8 (pc' := 221) (lv' := [some (.ref 57), some (.int x1), some (.int x2), some (.int x3), some (.int x4), some (.int x5), some (.int s0), some (.int v3)]) (st' := [.int x5, .int ((4 * x2) + 1), .ref 61]) (I' := (up2 I3 61 (tN (4 * x2)) x3)) (J' := J3) rfl ?_
          refine Wp.iast rfl rfl h.1 ?_
          replace h := h.2
          refine Wp.steps 8 (pc' := 233) (lv' := [some (.ref 57), some (.int x1), some (.int x2), some (.int x3), some (.int x4), some (.int x5), some (.int s0), some (.int v3)]) (st' := [.int s0, .int ((4 * x2) + 2), .ref 61]) (I' := (up2 (up2 I3 61 (tN (4 * x2)) x3) 61 (tN ((4 * x2) + 1)) x5)) (J' := J3) rfl ?_
          refine Wp.iast rfl rfl h.1 ?_
          replace h := h.2
          refine Wp.steps 8 (pc' := 245) (lv' := [some (.ref 57), some (.int x1), some (.int x2), some (.int x3), some (.int x4), some (.int x5), some (.int s0), some (.int v3)]) (st' := [.int v3, .int ((4 * x2) + 3), .ref 61]) (I' := (up2 (up2 (up2 I3 61 (tN (4 * x2)) x3) 61 (tN ((4 * x2) + 1)) x5) 61 (tN ((4 * x2) + 2)) s0)) (J' := J3) rfl ?_
          refine Wp.iast rfl rfl h.1 ?_
          replace h := h.2
          refine Wp.steps 2 (pc' := 2) (lv' := [some (.ref 57), some (.int x1), some (.int (x2 + 1)), some (.int x3), some (.int x4), some (.int x5), some (.int s0), some (.int v3)]) (st' := []) (I' := (up2 (up2 (up2 (up2 I3 61 (tN (4 * x2)) x3) 61 (tN ((4 * x2) + 1)) x5) 61 (tN ((4 * x2) + 2)) s0) 61 (tN ((4 * x2) + 3)) v3)) (J' := J3) rfl ?_
          refine Wp.drop [3, 4, 5, 6, 7] (lv' := [some (.ref 57), some (.int x1), some (.int (x2 + 1)), none, none, none, none, none]) rfl ?_
          exact h
        · replace h := h.2 h4
          refine Wp.steps 2 (pc' := 2) (lv' := [some (.ref 57), some (.int x1), some (.int (x2 + 1)), some (.int x3), some (.int x4), some (.int x5), some (.int s0), some (.int v3)]) (st' := []) (I' := I3) (J' := J3) rfl ?_
          refine Wp.drop [3, 4, 5, 6, 7] (lv' := [some (.ref 57), some (.int x1), some (.int (x2 + 1)), none, none, none, none, none]) rfl ?_
          exact h
theorem v_Md_notes_57_0 {d : Nat} {Q : Post} {I : I2} {J : J2} (h : ((I 57 9) = 8 → Wp d Md_notes Q 11 [some (.ref 57), some (.int 3)] [] I J) ∧ (¬ ((I 57 9) = 8) → vp_in (3 * (I 57 9)) 24 ∧ (vp_in ((3 * (I 57 9)) + 1) 24 ∧ (vp_in ((3 * (I 57 9)) + 2) 24 ∧ (Q none (up2 (up2 (up2 (up2 I 62 (tN (3 * (I 57 9))) (I 58 5)) 62 (tN ((3 * (I 57 9)) + 1)) (I 58 3)) 62 (tN ((3 * (I 57 9)) + 2)) (I 58 4)) 57 9 ((I 57 9) + 1)) J))))) : Wp d Md_notes Q 0 [some (.ref 57), none] [] I J := by
  refine Wp.steps 3 (pc' := 6) (lv' := [some (.ref 57), none]) (st' := [.int 8, .int (I 57 9)]) (I' := I) (J' := J) rfl ?_
  refine Wp.steps 1 (pc' := if (I 57 9) = 8 then 9 else 43) (lv' := [some (.ref 57), none]) (st' := []) (I' := I) (J' := J) rfl (Wp.ite (fun h1 => ?_) (fun h1 => ?_))
  · replace h := h.1 h1
    refine Wp.steps 2 (pc' := 11) (lv' := [some (.ref 57), some (.int 3)]) (st' := []) (I' := I) (J' := J) rfl ?_
    exact h
  · replace h := h.2 h1
    refine Wp.steps 10 (pc' := 59) (lv' := [some (.ref 57), none]) (st' := [.int (I 58 5), .int (3 * (I 57 9)), .ref 62]) (I' := I) (J' := J) rfl ?_
    refine Wp.iast rfl rfl h.1 ?_
    replace h := h.2
    refine Wp.steps 12 (pc' := 78) (lv' := [some (.ref 57), none]) (st' := [.int (I 58 3), .int ((3 * (I 57 9)) + 1), .ref 62]) (I' := (up2 I 62 (tN (3 * (I 57 9))) (I 58 5))) (J' := J) rfl ?_
    refine Wp.iast rfl rfl h.1 ?_
    replace h := h.2
    refine Wp.steps 12 (pc' := 97) (lv' := [some (.ref 57), none]) (st' := [.int (I 58 4), .int ((3 * (I 57 9)) + 2), .ref 62]) (I' := (up2 (up2 I 62 (tN (3 * (I 57 9))) (I 58 5)) 62 (tN ((3 * (I 57 9)) + 1)) (I 58 3))) (J' := J) rfl ?_
    refine Wp.iast rfl rfl h.1 ?_
    replace h := h.2
    refine Wp.steps 6 (pc' := 108) (lv' := [some (.ref 57), none]) (st' := []) (I' := (up2 (up2 (up2 (up2 I 62 (tN (3 * (I 57 9))) (I 58 5)) 62 (tN ((3 * (I 57 9)) + 1)) (I 58 3)) 62 (tN ((3 * (I 57 9)) + 2)) (I 58 4)) 57 9 ((I 57 9) + 1))) (J' := J) rfl ?_
    exact Wp.ret rfl h
theorem v_Md_notes_57_11 {d : Nat} {Q : Post} {I : I2} {J : J2} {x1 : Int32} (h : (x1 < 24 → vp_in x1 24 ∧ (vp_in (x1 - 3) 24 ∧ (Wp d Md_notes Q 11 [some (.ref 57), some (.int (x1 + 1))] [] (up2 I 62 (tN (x1 - 3)) (I 62 (tN x1))) J))) ∧ (¬ (x1 < 24) → vp_in (3 * 7) 24 ∧ (vp_in ((3 * 7) + 1) 24 ∧ (vp_in ((3 * 7) + 2) 24 ∧ (Q none (up2 (up2 (up2 (up2 (up2 I 57 9 7) 62 (tN (3 * 7)) (I 58 5)) 62 (tN ((3 * 7) + 1)) (I 58 3)) 62 (tN ((3 * 7) + 2)) (I 58 4)) 57 9 (7 + 1)) J))))) : Wp d Md_notes Q 11 [some (.ref 57), some (.int x1)] [] I J := by
  refine Wp.steps 2 (pc' := 14) (lv' := [some (.ref 57), some (.int x1)]) (st' := [.int 24, .int x1]) (I' := I) (J' := J) rfl ?_
  refine Wp.steps 1 (pc' := if x1 < 24 then 17 else 37) (lv' := [some (.ref 57), some (.int x1)]) (st' := []) (I' := I) (J' := J) rfl (Wp.ite (fun h1 => ?_) (fun h1 => ?_))
  · replace h := h.1 h1
    refine Wp.steps 8 (pc' := 29) (lv' := [some (.ref 57), some (.int x1)]) (st' := [.int x1, .ref 62, .int (x1 - 3), .ref 62]) (I' := I) (J' := J) rfl ?_
    refine Wp.iald rfl rfl h.1 ?_
    replace h := h.2
    refine Wp.iast rfl rfl h.1 ?_
    replace h := h.2
    refine Wp.steps 2 (pc' := 11) (lv' := [some (.ref 57), some (.int (x1 + 1))]) (st' := []) (I' := (up2 I 62 (tN (x1 - 3)) (I 62 (tN x1)))) (J' := J) rfl ?_
    exact h
  · replace h := h.2 h1
    refine Wp.steps 13 (pc' := 59) (lv' := [some (.ref 57), some (.int x1)]) (st' := [.int (I 58 5), .int (3 * 7), .ref 62]) (I' := (up2 I 57 9 7)) (J' := J) rfl ?_
    refine Wp.iast rfl rfl h.1 ?_
    replace h := h.2
    refine Wp.steps 12 (pc' := 78) (lv' := [some (.ref 57), some (.int x1)]) (st' := [.int (I 58 3), .int ((3 * 7) + 1), .ref 62]) (I' := (up2 (up2 I 57 9 7) 62 (tN (3 * 7)) (I 58 5))) (J' := J) rfl ?_
    refine Wp.iast rfl rfl h.1 ?_
    replace h := h.2
    refine Wp.steps 12 (pc' := 97) (lv' := [some (.ref 57), some (.int x1)]) (st' := [.int (I 58 4), .int ((3 * 7) + 2), .ref 62]) (I' := (up2 (up2 (up2 I 57 9 7) 62 (tN (3 * 7)) (I 58 5)) 62 (tN ((3 * 7) + 1)) (I 58 3))) (J' := J) rfl ?_
    refine Wp.iast rfl rfl h.1 ?_
    replace h := h.2
    refine Wp.steps 6 (pc' := 108) (lv' := [some (.ref 57), some (.int x1)]) (st' := []) (I' := (up2 (up2 (up2 (up2 (up2 I 57 9 7) 62 (tN (3 * 7)) (I 58 5)) 62 (tN ((3 * 7) + 1)) (I 58 3)) 62 (tN ((3 * 7) + 2)) (I 58 4)) 57 9 (7 + 1))) (J' := J) rfl ?_
    exact Wp.ret rfl h
theorem v_Md_behind_57_0 {d : Nat} {Q : Post} {I : I2} {J : J2} {x1 : Int32} {x2 : Int32} {x3 : Int32} (h : (x3 = 0 → Wp d Md_behind Q 22 [some (.ref 57), some (.int x1), some (.int x2), some (.int x3), some (.int (x1 + ((-1) * (slI 1 (2 * x2))))), some (.int 0), none, none] [] I J) ∧ (¬ (x3 = 0) → Wp d Md_behind Q 22 [some (.ref 57), some (.int x1), some (.int x2), some (.int x3), some (.int (x1 + (1 * (slI 1 (2 * x2))))), some (.int 0), none, none] [] I J)) : Wp d Md_behind Q 0 [some (.ref 57), some (.int x1), some (.int x2), some (.int x3), none, none, none, none] [] I J := by
  refine Wp.steps 2 (pc' := 2) (lv' := [some (.ref 57), some (.int x1), some (.int x2), some (.int x3), none, none, none, none]) (st' := [.int x3, .int x1]) (I' := I) (J' := J) rfl ?_
  refine Wp.steps 1 (pc' := if x3 = 0 then 5 else 9) (lv' := [some (.ref 57), some (.int x1), some (.int x2), some (.int x3), none, none, none, none]) (st' := [.int x1]) (I' := I) (J' := J) rfl (Wp.ite (fun h1 => ?_) (fun h1 => ?_))
  · replace h := h.1 h1
    refine Wp.steps 12 (pc' := 22) (lv' := [some (.ref 57), some (.int x1), some (.int x2), some (.int x3), some (.int (x1 + ((-1) * (slI 1 (2 * x2))))), some (.int 0), none, none]) (st' := []) (I' := I) (J' := J) rfl ?_
    exact h
  · replace h := h.2 h1
    refine Wp.steps 11 (pc' := 22) (lv' := [some (.ref 57), some (.int x1), some (.int x2), some (.int x3), some (.int (x1 + (1 * (slI 1 (2 * x2))))), some (.int 0), none, none]) (st' := []) (I' := I) (J' := J) rfl ?_
    exact h
theorem v_Md_behind_57_22 {d : Nat} {Q : Post} {I : I2} {J : J2} {x1 : Int32} {x2 : Int32} {x3 : Int32} {x4 : Int32} {x5 : Int32} (h : (x5 < (I 58 0) → CI d Md_placeIn [.int x1, .int x5] I J (fun v1 I1 J1 => CI d Md_kind [.ref 57, .int x5] I1 J1 (fun v2 I2 J2 => (v2 = 1 → (x5 = x2 → Wp d Md_behind Q 22 [some (.ref 57), some (.int x1), some (.int x2), some (.int x3), some (.int (x4 - 0)), some (.int (x5 + 1)), none, none] [] I2 J2) ∧ (¬ (x5 = x2) → (0 < v1 → Wp d Md_behind Q 22 [some (.ref 57), some (.int x1), some (.int x2), some (.int x3), some (.int (x4 - (slI 1 (2 * x5)))), some (.int (x5 + 1)), none, none] [] I2 J2) ∧ (¬ (0 < v1) → Wp d Md_behind Q 22 [some (.ref 57), some (.int x1), some (.int x2), some (.int x3), some (.int (x4 - 0)), some (.int (x5 + 1)), none, none] [] I2 J2))) ∧ (¬ (v2 = 1) → CI d Md_kind [.ref 57, .int x5] I2 J2 (fun v3 I3 J3 => (v3 = 3 → CI d Md_deep [.ref 57, .int x5] I3 J3 (fun v4 I4 J4 => (v1 < v4 → (x5 = x2 → Wp d Md_behind Q 22 [some (.ref 57), some (.int x1), some (.int x2), some (.int x3), some (.int (x4 - 0)), some (.int (x5 + 1)), none, none] [] I4 J4) ∧ (¬ (x5 = x2) → (0 < v1 → Wp d Md_behind Q 22 [some (.ref 57), some (.int x1), some (.int x2), some (.int x3), some (.int (x4 - (slI 1 (2 * x5)))), some (.int (x5 + 1)), none, none] [] I4 J4) ∧ (¬ (0 < v1) → Wp d Md_behind Q 22 [some (.ref 57), some (.int x1), some (.int x2), some (.int x3), some (.int (x4 - 0)), some (.int (x5 + 1)), none, none] [] I4 J4))) ∧ (¬ (v1 < v4) → (x5 = x2 → Wp d Md_behind Q 22 [some (.ref 57), some (.int x1), some (.int x2), some (.int x3), some (.int (x4 - 0)), some (.int (x5 + 1)), none, none] [] I4 J4) ∧ (¬ (x5 = x2) → Wp d Md_behind Q 22 [some (.ref 57), some (.int x1), some (.int x2), some (.int x3), some (.int (x4 - 0)), some (.int (x5 + 1)), none, none] [] I4 J4)))) ∧ (¬ (v3 = 3) → (x5 = x2 → Wp d Md_behind Q 22 [some (.ref 57), some (.int x1), some (.int x2), some (.int x3), some (.int (x4 - 0)), some (.int (x5 + 1)), none, none] [] I3 J3) ∧ (¬ (x5 = x2) → Wp d Md_behind Q 22 [some (.ref 57), some (.int x1), some (.int x2), some (.int x3), some (.int (x4 - 0)), some (.int (x5 + 1)), none, none] [] I3 J3))))))) ∧ (¬ (x5 < (I 58 0)) → Q (some (.int x4)) I J)) : Wp d Md_behind Q 22 [some (.ref 57), some (.int x1), some (.int x2), some (.int x3), some (.int x4), some (.int x5), none, none] [] I J := by
  refine Wp.steps 5 (pc' := 30) (lv' := [some (.ref 57), some (.int x1), some (.int x2), some (.int x3), some (.int x4), some (.int x5), none, none]) (st' := [.int (I 58 0), .int x5]) (I' := I) (J' := J) rfl ?_
  refine Wp.steps 1 (pc' := if x5 < (I 58 0) then 33 else 116) (lv' := [some (.ref 57), some (.int x1), some (.int x2), some (.int x3), some (.int x4), some (.int x5), none, none]) (st' := []) (I' := I) (J' := J) rfl (Wp.ite (fun h1 => ?_) (fun h1 => ?_))
  · replace h := h.1 h1
    refine Wp.steps 2 (pc' := 36) (lv' := [some (.ref 57), some (.int x1), some (.int x2), some (.int x3), some (.int x4), some (.int x5), none, none]) (st' := [.int x5, .int x1]) (I' := I) (J' := J) rfl ?_
    refine Wp.call (M' := Md_placeIn) (as := [.int x1, .int x5]) (rest := []) rfl (CI.use h (fun v1 I1 J1 h => ?_))
    refine Wp.eqs (pc' := 39) (st' := [.int v1]) rfl rfl ?_
    refine Wp.steps 3 (pc' := 44) (lv' := [some (.ref 57), some (.int x1), some (.int x2), some (.int x3), some (.int x4), some (.int x5), some (.int v1), none]) (st' := [.int x5, .ref 57]) (I' := I1) (J' := J1) rfl ?_
    refine Wp.call (M' := Md_kind) (as := [.ref 57, .int x5]) (rest := []) rfl (CI.use h (fun v2 I2 J2 h => ?_))
    refine Wp.eqs (pc' := 47) (st' := [.int v2]) rfl rfl ?_
    refine Wp.steps 1 (pc' := 48) (lv' := [some (.ref 57), some (.int x1), some (.int x2), some (.int x3), some (.int x4), some (.int x5), some (.int v1), none]) (st' := [.int 1, .int v2]) (I' := I2) (J' := J2) rfl ?_
    refine Wp.steps 1 (pc' := if v2 = 1 then 72 else 51) (lv' := [some (.ref 57), some (.int x1), some (.int x2), some (.int x3), some (.int x4), some (.int x5), some (.int v1), none]) (st' := []) (I' := I2) (J' := J2) rfl (Wp.ite (fun h2 => ?_) (fun h2 => ?_))
    · replace h := h.1 h2
      refine Wp.steps 6 (pc' := 84) (lv' := [some (.ref 57), some (.int x1), some (.int x2), some (.int x3), some (.int x4), some (.int x5), some (.int v1), some (.int 1)]) (st' := [.int x2, .int x5, .int x4]) (I' := I2) (J' := J2) rfl ?_
      refine Wp.steps 1 (pc' := if x5 = x2 then 106 else 87) (lv' := [some (.ref 57), some (.int x1), some (.int x2), some (.int x3), some (.int x4), some (.int x5), some (.int v1), some (.int 1)]) (st' := [.int x4]) (I' := I2) (J' := J2) rfl (Wp.ite (fun h3 => ?_) (fun h3 => ?_))
      · replace h := h.1 h3
        refine Wp.steps 5 (pc' := 22) (lv' := [some (.ref 57), some (.int x1), some (.int x2), some (.int x3), some (.int (x4 - 0)), some (.int (x5 + 1)), some (.int v1), some (.int 1)]) (st' := []) (I' := I2) (J' := J2) rfl ?_
        refine Wp.drop [6, 7] (lv' := [some (.ref 57), some (.int x1), some (.int x2), some (.int x3), some (.int (x4 - 0)), some (.int (x5 + 1)), none, none]) rfl ?_
        exact h
      · replace h := h.2 h3
        refine Wp.steps 3 (pc' := 94) (lv' := [some (.ref 57), some (.int x1), some (.int x2), some (.int x3), some (.int x4), some (.int x5), some (.int v1), some (.int 1)]) (st' := [.int v1, .int x4]) (I' := I2) (J' := J2) rfl ?_
        refine Wp.steps 1 (pc' := if 0 < v1 then 97 else 106) (lv' := [some (.ref 57), some (.int x1), some (.int x2), some (.int x3), some (.int x4), some (.int x5), some (.int v1), some (.int 1)]) (st' := [.int x4]) (I' := I2) (J' := J2) rfl (Wp.ite (fun h4 => ?_) (fun h4 => ?_))
        · replace h := h.1 h4
          refine Wp.steps 10 (pc' := 22) (lv' := [some (.ref 57), some (.int x1), some (.int x2), some (.int x3), some (.int (x4 - (slI 1 (2 * x5)))), some (.int (x5 + 1)), some (.int v1), some (.int 1)]) (st' := []) (I' := I2) (J' := J2) rfl ?_
          refine Wp.drop [6, 7] (lv' := [some (.ref 57), some (.int x1), some (.int x2), some (.int x3), some (.int (x4 - (slI 1 (2 * x5)))), some (.int (x5 + 1)), none, none]) rfl ?_
          exact h
        · replace h := h.2 h4
          refine Wp.steps 5 (pc' := 22) (lv' := [some (.ref 57), some (.int x1), some (.int x2), some (.int x3), some (.int (x4 - 0)), some (.int (x5 + 1)), some (.int v1), some (.int 1)]) (st' := []) (I' := I2) (J' := J2) rfl ?_
          refine Wp.drop [6, 7] (lv' := [some (.ref 57), some (.int x1), some (.int x2), some (.int x3), some (.int (x4 - 0)), some (.int (x5 + 1)), none, none]) rfl ?_
          exact h
    · replace h := h.2 h2
      refine Wp.steps 2 (pc' := 54) (lv' := [some (.ref 57), some (.int x1), some (.int x2), some (.int x3), some (.int x4), some (.int x5), some (.int v1), none]) (st' := [.int x5, .ref 57]) (I' := I2) (J' := J2) rfl ?_
      refine Wp.call (M' := Md_kind) (as := [.ref 57, .int x5]) (rest := []) rfl (CI.use h (fun v3 I3 J3 h => ?_))
      refine Wp.eqs (pc' := 57) (st' := [.int v3]) rfl rfl ?_
      refine Wp.steps 1 (pc' := 58) (lv' := [some (.ref 57), some (.int x1), some (.int x2), some (.int x3), some (.int x4), some (.int x5), some (.int v1), none]) (st' := [.int 3, .int v3]) (I' := I3) (J' := J3) rfl ?_
      refine Wp.steps 1 (pc' := if v3 = 3 then 61 else 76) (lv' := [some (.ref 57), some (.int x1), some (.int x2), some (.int x3), some (.int x4), some (.int x5), some (.int v1), none]) (st' := []) (I' := I3) (J' := J3) rfl (Wp.ite (fun h3 => ?_) (fun h3 => ?_))
      · replace h := h.1 h3
        refine Wp.steps 3 (pc' := 66) (lv' := [some (.ref 57), some (.int x1), some (.int x2), some (.int x3), some (.int x4), some (.int x5), some (.int v1), none]) (st' := [.int x5, .ref 57, .int v1]) (I' := I3) (J' := J3) rfl ?_
        refine Wp.call (M' := Md_deep) (as := [.ref 57, .int x5]) (rest := [.int v1]) rfl (CI.use h (fun v4 I4 J4 h => ?_))
        refine Wp.eqs (pc' := 69) (st' := [.int v4, .int v1]) rfl rfl ?_
        refine Wp.steps 1 (pc' := if v1 < v4 then 72 else 76) (lv' := [some (.ref 57), some (.int x1), some (.int x2), some (.int x3), some (.int x4), some (.int x5), some (.int v1), none]) (st' := []) (I' := I4) (J' := J4) rfl (Wp.ite (fun h4 => ?_) (fun h4 => ?_))
        · replace h := h.1 h4
          refine Wp.steps 6 (pc' := 84) (lv' := [some (.ref 57), some (.int x1), some (.int x2), some (.int x3), some (.int x4), some (.int x5), some (.int v1), some (.int 1)]) (st' := [.int x2, .int x5, .int x4]) (I' := I4) (J' := J4) rfl ?_
          refine Wp.steps 1 (pc' := if x5 = x2 then 106 else 87) (lv' := [some (.ref 57), some (.int x1), some (.int x2), some (.int x3), some (.int x4), some (.int x5), some (.int v1), some (.int 1)]) (st' := [.int x4]) (I' := I4) (J' := J4) rfl (Wp.ite (fun h5 => ?_) (fun h5 => ?_))
          · replace h := h.1 h5
            refine Wp.steps 5 (pc' := 22) (lv' := [some (.ref 57), some (.int x1), some (.int x2), some (.int x3), some (.int (x4 - 0)), some (.int (x5 + 1)), some (.int v1), some (.int 1)]) (st' := []) (I' := I4) (J' := J4) rfl ?_
            refine Wp.drop [6, 7] (lv' := [some (.ref 57), some (.int x1), some (.int x2), some (.int x3), some (.int (x4 - 0)), some (.int (x5 + 1)), none, none]) rfl ?_
            exact h
          · replace h := h.2 h5
            refine Wp.steps 3 (pc' := 94) (lv' := [some (.ref 57), some (.int x1), some (.int x2), some (.int x3), some (.int x4), some (.int x5), some (.int v1), some (.int 1)]) (st' := [.int v1, .int x4]) (I' := I4) (J' := J4) rfl ?_
            refine Wp.steps 1 (pc' := if 0 < v1 then 97 else 106) (lv' := [some (.ref 57), some (.int x1), some (.int x2), some (.int x3), some (.int x4), some (.int x5), some (.int v1), some (.int 1)]) (st' := [.int x4]) (I' := I4) (J' := J4) rfl (Wp.ite (fun h6 => ?_) (fun h6 => ?_))
            · replace h := h.1 h6
              refine Wp.steps 10 (pc' := 22) (lv' := [some (.ref 57), some (.int x1), some (.int x2), some (.int x3), some (.int (x4 - (slI 1 (2 * x5)))), some (.int (x5 + 1)), some (.int v1), some (.int 1)]) (st' := []) (I' := I4) (J' := J4) rfl ?_
              refine Wp.drop [6, 7] (lv' := [some (.ref 57), some (.int x1), some (.int x2), some (.int x3), some (.int (x4 - (slI 1 (2 * x5)))), some (.int (x5 + 1)), none, none]) rfl ?_
              exact h
            · replace h := h.2 h6
              refine Wp.steps 5 (pc' := 22) (lv' := [some (.ref 57), some (.int x1), some (.int x2), some (.int x3), some (.int (x4 - 0)), some (.int (x5 + 1)), some (.int v1), some (.int 1)]) (st' := []) (I' := I4) (J' := J4) rfl ?_
              refine Wp.drop [6, 7] (lv' := [some (.ref 57), some (.int x1), some (.int x2), some (.int x3), some (.int (x4 - 0)), some (.int (x5 + 1)), none, none]) rfl ?_
              exact h
        · replace h := h.2 h4
          refine Wp.steps 5 (pc' := 84) (lv' := [some (.ref 57), some (.int x1), some (.int x2), some (.int x3), some (.int x4), some (.int x5), some (.int v1), some (.int 0)]) (st' := [.int x2, .int x5, .int x4]) (I' := I4) (J' := J4) rfl ?_
          refine Wp.steps 1 (pc' := if x5 = x2 then 106 else 87) (lv' := [some (.ref 57), some (.int x1), some (.int x2), some (.int x3), some (.int x4), some (.int x5), some (.int v1), some (.int 0)]) (st' := [.int x4]) (I' := I4) (J' := J4) rfl (Wp.ite (fun h5 => ?_) (fun h5 => ?_))
          · replace h := h.1 h5
            refine Wp.steps 5 (pc' := 22) (lv' := [some (.ref 57), some (.int x1), some (.int x2), some (.int x3), some (.int (x4 - 0)), some (.int (x5 + 1)), some (.int v1), some (.int 0)]) (st' := []) (I' := I4) (J' := J4) rfl ?_
            refine Wp.drop [6, 7] (lv' := [some (.ref 57), some (.int x1), some (.int x2), some (.int x3), some (.int (x4 - 0)), some (.int (x5 + 1)), none, none]) rfl ?_
            exact h
          · replace h := h.2 h5
            refine Wp.steps 7 (pc' := 22) (lv' := [some (.ref 57), some (.int x1), some (.int x2), some (.int x3), some (.int (x4 - 0)), some (.int (x5 + 1)), some (.int v1), some (.int 0)]) (st' := []) (I' := I4) (J' := J4) rfl ?_
            refine Wp.drop [6, 7] (lv' := [some (.ref 57), some (.int x1), some (.int x2), some (.int x3), some (.int (x4 - 0)), some (.int (x5 + 1)), none, none]) rfl ?_
            exact h
      · replace h := h.2 h3
        refine Wp.steps 5 (pc' := 84) (lv' := [some (.ref 57), some (.int x1), some (.int x2), some (.int x3), some (.int x4), some (.int x5), some (.int v1), some (.int 0)]) (st' := [.int x2, .int x5, .int x4]) (I' := I3) (J' := J3) rfl ?_
        refine Wp.steps 1 (pc' := if x5 = x2 then 106 else 87) (lv' := [some (.ref 57), some (.int x1), some (.int x2), some (.int x3), some (.int x4), some (.int x5), some (.int v1), some (.int 0)]) (st' := [.int x4]) (I' := I3) (J' := J3) rfl (Wp.ite (fun h4 => ?_) (fun h4 => ?_))
        · replace h := h.1 h4
          refine Wp.steps 5 (pc' := 22) (lv' := [some (.ref 57), some (.int x1), some (.int x2), some (.int x3), some (.int (x4 - 0)), some (.int (x5 + 1)), some (.int v1), some (.int 0)]) (st' := []) (I' := I3) (J' := J3) rfl ?_
          refine Wp.drop [6, 7] (lv' := [some (.ref 57), some (.int x1), some (.int x2), some (.int x3), some (.int (x4 - 0)), some (.int (x5 + 1)), none, none]) rfl ?_
          exact h
        · replace h := h.2 h4
          refine Wp.steps 7 (pc' := 22) (lv' := [some (.ref 57), some (.int x1), some (.int x2), some (.int x3), some (.int (x4 - 0)), some (.int (x5 + 1)), some (.int v1), some (.int 0)]) (st' := []) (I' := I3) (J' := J3) rfl ?_
          refine Wp.drop [6, 7] (lv' := [some (.ref 57), some (.int x1), some (.int x2), some (.int x3), some (.int (x4 - 0)), some (.int (x5 + 1)), none, none]) rfl ?_
          exact h
  · replace h := h.2 h1
    refine Wp.steps 1 (pc' := 118) (lv' := [some (.ref 57), some (.int x1), some (.int x2), some (.int x3), some (.int x4), some (.int x5), none, none]) (st' := [.int x4]) (I' := I) (J' := J) rfl ?_
    exact Wp.ret rfl h
theorem v_Md_many_0 {d : Nat} {Q : Post} {I : I2} {J : J2} {x0 : Int32} (h : Wp d Md_many Q 4 [some (.int x0), some (.int 0), some (.int x0)] [] I J) : Wp d Md_many Q 0 [some (.int x0), none, none] [] I J := by
  refine Wp.steps 4 (pc' := 4) (lv' := [some (.int x0), some (.int 0), some (.int x0)]) (st' := []) (I' := I) (J' := J) rfl ?_
  exact h
theorem v_Md_many_4 {d : Nat} {Q : Post} {I : I2} {J : J2} {x0 : Int32} {x1 : Int32} {x2 : Int32} (h : (x2 = 0 → Q (some (.int x1)) I J) ∧ (¬ (x2 = 0) → Wp d Md_many Q 4 [some (.int x0), some (.int (x1 + 1)), some (.int (x2 &&& (x2 - 1)))] [] I J)) : Wp d Md_many Q 4 [some (.int x0), some (.int x1), some (.int x2)] [] I J := by
  refine Wp.steps 1 (pc' := 5) (lv' := [some (.int x0), some (.int x1), some (.int x2)]) (st' := [.int x2]) (I' := I) (J' := J) rfl ?_
  refine Wp.steps 1 (pc' := if x2 = 0 then 20 else 8) (lv' := [some (.int x0), some (.int x1), some (.int x2)]) (st' := []) (I' := I) (J' := J) rfl (Wp.ite (fun h1 => ?_) (fun h1 => ?_))
  · replace h := h.1 h1
    refine Wp.steps 1 (pc' := 21) (lv' := [some (.int x0), some (.int x1), some (.int x2)]) (st' := [.int x1]) (I' := I) (J' := J) rfl ?_
    exact Wp.ret rfl h
  · replace h := h.2 h1
    refine Wp.steps 8 (pc' := 4) (lv' := [some (.int x0), some (.int (x1 + 1)), some (.int (x2 &&& (x2 - 1)))]) (st' := []) (I' := I) (J' := J) rfl ?_
    exact h
theorem v_Md_goesThrough_57_0 {d : Nat} {Q : Post} {I : I2} {J : J2} {x1 : Int32} (h : Wp d Md_goesThrough Q 2 [some (.ref 57), some (.int x1), some (.int 0), none, none, none, none] [] I J) : Wp d Md_goesThrough Q 0 [some (.ref 57), some (.int x1), none, none, none, none, none] [] I J := by
  refine Wp.steps 2 (pc' := 2) (lv' := [some (.ref 57), some (.int x1), some (.int 0), none, none, none, none]) (st' := []) (I' := I) (J' := J) rfl ?_
  exact h
theorem v_Md_goesThrough_57_2 {d : Nat} {Q : Post} {I : I2} {J : J2} {x1 : Int32} {x2 : Int32} (h : (x2 < 1024 → vp_in x2 1024 ∧ (vp_in x2 1024 ∧ (Wp d Md_goesThrough Q 2 [some (.ref 57), some (.int x1), some (.int (x2 + 1)), none, none, none, none] [] (up2 (up2 I 64 (tN x2) (-1)) 67 (tN x2) 0) J))) ∧ (¬ (x2 < 1024) → vp_in (I 58 5) 1024 ∧ (vp_in (I 58 5) 1024 ∧ (Wp d Md_goesThrough Q 64 [some (.ref 57), some (.int x1), some (.int (I 58 5)), some (.int 0), none, none, none] [] (up2 (up2 (up2 (up2 I 64 (tN (I 58 5)) 0) 67 (tN (I 58 5)) 1) 63 0 (I 58 5)) 57 11 1) J)))) : Wp d Md_goesThrough Q 2 [some (.ref 57), some (.int x1), some (.int x2), none, none, none, none] [] I J := by
  refine Wp.steps 2 (pc' := 6) (lv' := [some (.ref 57), some (.int x1), some (.int x2), none, none, none, none]) (st' := [.int 1024, .int x2]) (I' := I) (J' := J) rfl ?_
  refine Wp.steps 1 (pc' := if x2 < 1024 then 9 else 29) (lv' := [some (.ref 57), some (.int x1), some (.int x2), none, none, none, none]) (st' := []) (I' := I) (J' := J) rfl (Wp.ite (fun h1 => ?_) (fun h1 => ?_))
  · replace h := h.1 h1
    refine Wp.steps 4 (pc' := 15) (lv' := [some (.ref 57), some (.int x1), some (.int x2), none, none, none, none]) (st' := [.int (-1), .int x2, .ref 64]) (I' := I) (J' := J) rfl ?_
    refine Wp.iast rfl rfl h.1 ?_
    replace h := h.2
    refine Wp.steps 4 (pc' := 22) (lv' := [some (.ref 57), some (.int x1), some (.int x2), none, none, none, none]) (st' := [.int 0, .int x2, .ref 67]) (I' := (up2 I 64 (tN x2) (-1))) (J' := J) rfl ?_
    refine Wp.iast rfl rfl h.1 ?_
    replace h := h.2
    refine Wp.steps 2 (pc' := 2) (lv' := [some (.ref 57), some (.int x1), some (.int (x2 + 1)), none, none, none, none]) (st' := []) (I' := (up2 (up2 I 64 (tN x2) (-1)) 67 (tN x2) 0)) (J' := J) rfl ?_
    exact h
  · replace h := h.2 h1
    refine Wp.steps 9 (pc' := 42) (lv' := [some (.ref 57), some (.int x1), some (.int (I 58 5)), none, none, none, none]) (st' := [.int 0, .int (I 58 5), .ref 64]) (I' := I) (J' := J) rfl ?_
    refine Wp.iast rfl rfl h.1 ?_
    replace h := h.2
    refine Wp.steps 4 (pc' := 49) (lv' := [some (.ref 57), some (.int x1), some (.int (I 58 5)), none, none, none, none]) (st' := [.int 1, .int (I 58 5), .ref 67]) (I' := (up2 I 64 (tN (I 58 5)) 0)) (J' := J) rfl ?_
    refine Wp.iast rfl rfl h.1 ?_
    replace h := h.2
    refine Wp.steps 10 (pc' := 64) (lv' := [some (.ref 57), some (.int x1), some (.int (I 58 5)), some (.int 0), none, none, none]) (st' := []) (I' := (up2 (up2 (up2 (up2 I 64 (tN (I 58 5)) 0) 67 (tN (I 58 5)) 1) 63 0 (I 58 5)) 57 11 1)) (J' := J) rfl ?_
    exact h
theorem v_Md_goesThrough_57_64 {d : Nat} {Q : Post} {I : I2} {J : J2} {x1 : Int32} {x2 : Int32} {x3 : Int32} (h : (x3 < (I 57 11) → vp_in x3 1024 ∧ (Wp d Md_goesThrough Q 83 [some (.ref 57), some (.int x1), some (.int x2), some (.int x3), some (.int (I 63 (tN x3))), some (.int 0), none] [] I J)) ∧ (¬ (x3 < (I 57 11)) → Q none I J)) : Wp d Md_goesThrough Q 64 [some (.ref 57), some (.int x1), some (.int x2), some (.int x3), none, none, none] [] I J := by
  refine Wp.steps 3 (pc' := 69) (lv' := [some (.ref 57), some (.int x1), some (.int x2), some (.int x3), none, none, none]) (st' := [.int (I 57 11), .int x3]) (I' := I) (J' := J) rfl ?_
  refine Wp.steps 1 (pc' := if x3 < (I 57 11) then 72 else 187) (lv' := [some (.ref 57), some (.int x1), some (.int x2), some (.int x3), none, none, none]) (st' := []) (I' := I) (J' := J) rfl (Wp.ite (fun h1 => ?_) (fun h1 => ?_))
  · replace h := h.1 h1
    refine Wp.steps 3 (pc' := 77) (lv' := [some (.ref 57), some (.int x1), some (.int x2), some (.int x3), none, none, none]) (st' := [.int x3, .ref 63]) (I' := I) (J' := J) rfl ?_
    refine Wp.iald rfl rfl h.1 ?_
    replace h := h.2
    refine Wp.steps 3 (pc' := 83) (lv' := [some (.ref 57), some (.int x1), some (.int x2), some (.int x3), some (.int (I 63 (tN x3))), some (.int 0), none]) (st' := []) (I' := I) (J' := J) rfl ?_
    exact h
  · replace h := h.2 h1
    exact Wp.ret rfl h
theorem v_Md_goesThrough_57_83 {d : Nat} {Q : Post} {I : I2} {J : J2} {x1 : Int32} {x2 : Int32} {x3 : Int32} {x4 : Int32} {x5 : Int32} (h : (x5 < (2 * (I 58 0)) → CI d Md_may [.ref 57, .int x4, .int (x5 / 2), .int (rmI x5 2), .int x1] I J (fun v1 I1 J1 => (v1 = 0 → vp_in ((10 * x4) + x5) 10240 ∧ (Wp d Md_goesThrough Q 83 [some (.ref 57), some (.int x1), some (.int x2), some (.int x3), some (.int x4), some (.int (x5 + 1)), none] [] (up2 I1 68 (tN ((10 * x4) + x5)) (-1)) J1)) ∧ (¬ (v1 = 0) → CI d Md_behind [.ref 57, .int x4, .int (x5 / 2), .int (rmI x5 2)] I1 J1 (fun v2 I2 J2 => vp_in ((10 * x4) + x5) 10240 ∧ (vp_in ((10 * x4) + x5) 10240 ∧ (CV d Md_meets [.ref 57, .int x4, .int x5, .int ((up2 I2 68 (tN ((10 * x4) + x5)) v2) 68 (tN ((10 * x4) + x5)))] (up2 I2 68 (tN ((10 * x4) + x5)) v2) J2 (fun I3 J3 => Wp d Md_goesThrough Q 83 [some (.ref 57), some (.int x1), some (.int x2), some (.int x3), some (.int x4), some (.int (x5 + 1)), none] [] I3 J3))))))) ∧ (¬ (x5 < (2 * (I 58 0))) → Wp d Md_goesThrough Q 64 [some (.ref 57), some (.int x1), some (.int x2), some (.int (x3 + 1)), none, none, none] [] I J)) : Wp d Md_goesThrough Q 83 [some (.ref 57), some (.int x1), some (.int x2), some (.int x3), some (.int x4), some (.int x5), none] [] I J := by
  refine Wp.steps 7 (pc' := 93) (lv' := [some (.ref 57), some (.int x1), some (.int x2), some (.int x3), some (.int x4), some (.int x5), none]) (st' := [.int (2 * (I 58 0)), .int x5]) (I' := I) (J' := J) rfl ?_
  refine Wp.steps 1 (pc' := if x5 < (2 * (I 58 0)) then 96 else 181) (lv' := [some (.ref 57), some (.int x1), some (.int x2), some (.int x3), some (.int x4), some (.int x5), none]) (st' := []) (I' := I) (J' := J) rfl (Wp.ite (fun h1 => ?_) (fun h1 => ?_))
  · replace h := h.1 h1
    refine Wp.steps 9 (pc' := 108) (lv' := [some (.ref 57), some (.int x1), some (.int x2), some (.int x3), some (.int x4), some (.int x5), none]) (st' := [.int x1, .int (rmI x5 2), .int (x5 / 2), .int x4, .ref 57]) (I' := I) (J' := J) rfl ?_
    refine Wp.call (M' := Md_may) (as := [.ref 57, .int x4, .int (x5 / 2), .int (rmI x5 2), .int x1]) (rest := []) rfl (CI.use h (fun v1 I1 J1 h => ?_))
    refine Wp.eqs (pc' := 111) (st' := [.int v1]) rfl rfl ?_
    refine Wp.steps 9 (pc' := 127) (lv' := [some (.ref 57), some (.int x1), some (.int x2), some (.int x3), some (.int x4), some (.int x5), some (.int v1)]) (st' := [.int v1, .int ((10 * x4) + x5), .ref 68]) (I' := I1) (J' := J1) rfl ?_
    refine Wp.steps 1 (pc' := if v1 = 0 then 147 else 130) (lv' := [some (.ref 57), some (.int x1), some (.int x2), some (.int x3), some (.int x4), some (.int x5), some (.int v1)]) (st' := [.int ((10 * x4) + x5), .ref 68]) (I' := I1) (J' := J1) rfl (Wp.ite (fun h2 => ?_) (fun h2 => ?_))
    · replace h := h.1 h2
      refine Wp.steps 1 (pc' := 148) (lv' := [some (.ref 57), some (.int x1), some (.int x2), some (.int x3), some (.int x4), some (.int x5), some (.int v1)]) (st' := [.int (-1), .int ((10 * x4) + x5), .ref 68]) (I' := I1) (J' := J1) rfl ?_
      refine Wp.iast rfl rfl h.1 ?_
      replace h := h.2
      refine Wp.steps 1 (pc' := 151) (lv' := [some (.ref 57), some (.int x1), some (.int x2), some (.int x3), some (.int x4), some (.int x5), some (.int v1)]) (st' := [.int v1]) (I' := (up2 I1 68 (tN ((10 * x4) + x5)) (-1))) (J' := J1) rfl ?_
      refine Wp.steps 1 (pc' := if v1 = 0 then 175 else 154) (lv' := [some (.ref 57), some (.int x1), some (.int x2), some (.int x3), some (.int x4), some (.int x5), some (.int v1)]) (st' := []) (I' := (up2 I1 68 (tN ((10 * x4) + x5)) (-1))) (J' := J1) rfl ?_
      rw [if_pos h2]
      refine Wp.steps 2 (pc' := 83) (lv' := [some (.ref 57), some (.int x1), some (.int x2), some (.int x3), some (.int x4), some (.int (x5 + 1)), some (.int v1)]) (st' := []) (I' := (up2 I1 68 (tN ((10 * x4) + x5)) (-1))) (J' := J1) rfl ?_
      refine Wp.drop [6] (lv' := [some (.ref 57), some (.int x1), some (.int x2), some (.int x3), some (.int x4), some (.int (x5 + 1)), none]) rfl ?_
      exact h
    · replace h := h.2 h2
      refine Wp.steps 8 (pc' := 141) (lv' := [some (.ref 57), some (.int x1), some (.int x2), some (.int x3), some (.int x4), some (.int x5), some (.int v1)]) (st' := [.int (rmI x5 2), .int (x5 / 2), .int x4, .ref 57, .int ((10 * x4) + x5), .ref 68]) (I' := I1) (J' := J1) rfl ?_
      refine Wp.call (M' := Md_behind) (as := [.ref 57, .int x4, .int (x5 / 2), .int (rmI x5 2)]) (rest := [.int ((10 * x4) + x5), .ref 68]) rfl (CI.use h (fun v2 I2 J2 h => ?_))
      refine Wp.eqs (pc' := 144) (st' := [.int v2, .int ((10 * x4) + x5), .ref 68]) rfl rfl ?_
      refine Wp.steps 1 (pc' := 148) (lv' := [some (.ref 57), some (.int x1), some (.int x2), some (.int x3), some (.int x4), some (.int x5), some (.int v1)]) (st' := [.int v2, .int ((10 * x4) + x5), .ref 68]) (I' := I2) (J' := J2) rfl ?_
      refine Wp.iast rfl rfl h.1 ?_
      replace h := h.2
      refine Wp.steps 1 (pc' := 151) (lv' := [some (.ref 57), some (.int x1), some (.int x2), some (.int x3), some (.int x4), some (.int x5), some (.int v1)]) (st' := [.int v1]) (I' := (up2 I2 68 (tN ((10 * x4) + x5)) v2)) (J' := J2) rfl ?_
      refine Wp.steps 1 (pc' := if v1 = 0 then 175 else 154) (lv' := [some (.ref 57), some (.int x1), some (.int x2), some (.int x3), some (.int x4), some (.int x5), some (.int v1)]) (st' := []) (I' := (up2 I2 68 (tN ((10 * x4) + x5)) v2)) (J' := J2) rfl ?_
      rw [if_neg h2]
      refine Wp.steps 10 (pc' := 171) (lv' := [some (.ref 57), some (.int x1), some (.int x2), some (.int x3), some (.int x4), some (.int x5), some (.int v1)]) (st' := [.int ((10 * x4) + x5), .ref 68, .int x5, .int x4, .ref 57]) (I' := (up2 I2 68 (tN ((10 * x4) + x5)) v2)) (J' := J2) rfl ?_
      refine Wp.iald rfl rfl h.1 ?_
      replace h := h.2
      refine Wp.call (M' := Md_meets) (as := [.ref 57, .int x4, .int x5, .int ((up2 I2 68 (tN ((10 * x4) + x5)) v2) 68 (tN ((10 * x4) + x5)))]) (rest := []) rfl (CV.use h (fun I3 J3 h => ?_))
      refine Wp.eqs (pc' := 175) (st' := []) rfl rfl ?_
      refine Wp.steps 2 (pc' := 83) (lv' := [some (.ref 57), some (.int x1), some (.int x2), some (.int x3), some (.int x4), some (.int (x5 + 1)), some (.int v1)]) (st' := []) (I' := I3) (J' := J3) rfl ?_
      refine Wp.drop [6] (lv' := [some (.ref 57), some (.int x1), some (.int x2), some (.int x3), some (.int x4), some (.int (x5 + 1)), none]) rfl ?_
      exact h
  · replace h := h.2 h1
    refine Wp.steps 2 (pc' := 64) (lv' := [some (.ref 57), some (.int x1), some (.int x2), some (.int (x3 + 1)), some (.int x4), some (.int x5), none]) (st' := []) (I' := I) (J' := J) rfl ?_
    refine Wp.drop [4, 5] (lv' := [some (.ref 57), some (.int x1), some (.int x2), some (.int (x3 + 1)), none, none, none]) rfl ?_
    exact h
theorem v_Md_firstOpen_57_0 {d : Nat} {Q : Post} {I : I2} {J : J2} (h : Wp d Md_firstOpen Q 2 [some (.ref 57), some (.int 0)] [] I J) : Wp d Md_firstOpen Q 0 [some (.ref 57), none] [] I J := by
  refine Wp.steps 2 (pc' := 2) (lv' := [some (.ref 57), some (.int 0)]) (st' := []) (I' := I) (J' := J) rfl ?_
  exact h
theorem v_Md_firstOpen_57_2 {d : Nat} {Q : Post} {I : I2} {J : J2} {x1 : Int32} (h : (x1 < (I 57 11) → vp_in x1 1024 ∧ (CI d Md_isOpen [.ref 57, .int (I 63 (tN x1))] I J (fun v1 I1 J1 => (v1 = 0 → Wp d Md_firstOpen Q 2 [some (.ref 57), some (.int (x1 + 1))] [] I1 J1) ∧ (¬ (v1 = 0) → (x1 < (I1 57 11) → vp_in x1 1024 ∧ (Q (some (.int (I1 63 (tN x1)))) I1 J1)) ∧ (¬ (x1 < (I1 57 11)) → Q (some (.int (-1))) I1 J1))))) ∧ (¬ (x1 < (I 57 11)) → Q (some (.int (-1))) I J)) : Wp d Md_firstOpen Q 2 [some (.ref 57), some (.int x1)] [] I J := by
  refine Wp.steps 3 (pc' := 7) (lv' := [some (.ref 57), some (.int x1)]) (st' := [.int (I 57 11), .int x1]) (I' := I) (J' := J) rfl ?_
  refine Wp.steps 1 (pc' := if x1 < (I 57 11) then 10 else 29) (lv' := [some (.ref 57), some (.int x1)]) (st' := []) (I' := I) (J' := J) rfl (Wp.ite (fun h1 => ?_) (fun h1 => ?_))
  · replace h := h.1 h1
    refine Wp.steps 4 (pc' := 16) (lv' := [some (.ref 57), some (.int x1)]) (st' := [.int x1, .ref 63, .ref 57]) (I' := I) (J' := J) rfl ?_
    refine Wp.iald rfl rfl h.1 ?_
    replace h := h.2
    refine Wp.call (M' := Md_isOpen) (as := [.ref 57, .int (I 63 (tN x1))]) (rest := []) rfl (CI.use h (fun v1 I1 J1 h => ?_))
    refine Wp.eqs (pc' := 20) (st' := [.int v1]) rfl rfl ?_
    refine Wp.steps 1 (pc' := if v1 = 0 then 23 else 29) (lv' := [some (.ref 57), some (.int x1)]) (st' := []) (I' := I1) (J' := J1) rfl (Wp.ite (fun h2 => ?_) (fun h2 => ?_))
    · replace h := h.1 h2
      refine Wp.steps 2 (pc' := 2) (lv' := [some (.ref 57), some (.int (x1 + 1))]) (st' := []) (I' := I1) (J' := J1) rfl ?_
      exact h
    · replace h := h.2 h2
      refine Wp.steps 3 (pc' := 34) (lv' := [some (.ref 57), some (.int x1)]) (st' := [.int (I1 57 11), .int x1]) (I' := I1) (J' := J1) rfl ?_
      refine Wp.steps 1 (pc' := if x1 < (I1 57 11) then 37 else 46) (lv' := [some (.ref 57), some (.int x1)]) (st' := []) (I' := I1) (J' := J1) rfl (Wp.ite (fun h3 => ?_) (fun h3 => ?_))
      · replace h := h.1 h3
        refine Wp.steps 3 (pc' := 42) (lv' := [some (.ref 57), some (.int x1)]) (st' := [.int x1, .ref 63]) (I' := I1) (J' := J1) rfl ?_
        refine Wp.iald rfl rfl h.1 ?_
        replace h := h.2
        refine Wp.steps 1 (pc' := 47) (lv' := [some (.ref 57), some (.int x1)]) (st' := [.int (I1 63 (tN x1))]) (I' := I1) (J' := J1) rfl ?_
        exact Wp.ret rfl h
      · replace h := h.2 h3
        refine Wp.steps 1 (pc' := 47) (lv' := [some (.ref 57), some (.int x1)]) (st' := [.int (-1)]) (I' := I1) (J' := J1) rfl ?_
        exact Wp.ret rfl h
  · replace h := h.2 h1
    refine Wp.steps 3 (pc' := 34) (lv' := [some (.ref 57), some (.int x1)]) (st' := [.int (I 57 11), .int x1]) (I' := I) (J' := J) rfl ?_
    refine Wp.steps 1 (pc' := if x1 < (I 57 11) then 37 else 46) (lv' := [some (.ref 57), some (.int x1)]) (st' := []) (I' := I) (J' := J) rfl ?_
    rw [if_neg h1]
    refine Wp.steps 1 (pc' := 47) (lv' := [some (.ref 57), some (.int x1)]) (st' := [.int (-1)]) (I' := I) (J' := J) rfl ?_
    exact Wp.ret rfl h
