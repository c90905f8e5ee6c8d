/-! what each way through a method asks (by program): Sb_locksByClicks_0_49, Sb_areClicks_0_51, Sb_locksByClicks_0_51, Sb_areClicks_0_53, Sb_locksByClicks_0_53, Sb_areClicks_0_55, Sb_locksByClicks_0_55, Sb_kindsByClicks_0_49, Sb_kindsByClicks_0_51, Sb_kindsByClicks_0_53, Sb_kindsByClicks_0_55, Sb_clicksSo_1_49, Sb_clicksSo_1_51, Sb_clicksSo_1_53, Sb_clicksSo_1_55, Sb_clicksSo_21_49, Sb_clicksSo_21_51, Sb_clicksSo_21_53, Sb_clicksSo_21_55 -/
theorem v_Sb_locksByClicks_0_49_0 {d : Nat} {Q : Post} {I : I2} {J : J2} {x2 : Int32} {x3 : Int32} (h : CI d Sb_clicksSo [.ref 1, .int (I 1 10), .ref 49, .int x2, .int x3] I J (fun v1 I1 J1 => (v1 = 0 → Wp d Sb_locksByClicks Q 31 [some (.ref 0), some (.ref 49), some (.int x2), some (.int x3), some (.int 0), some (.int 0)] [] I1 J1) ∧ (¬ (v1 = 0) → Wp d Sb_locksByClicks Q 31 [some (.ref 0), some (.ref 49), some (.int x2), some (.int x3), some (.int 64), some (.int 0)] [] I1 J1))) : Wp d Sb_locksByClicks Q 0 [some (.ref 0), some (.ref 49), some (.int x2), some (.int x3), none, none] [] I J := by
  refine Wp.steps 8 (pc' := 14) (lv' := [some (.ref 0), some (.ref 49), some (.int x2), some (.int x3), none, none]) (st' := [.int x3, .int x2, .ref 49, .int (I 1 10), .ref 1]) (I' := I) (J' := J) rfl ?_
  refine Wp.call (M' := Sb_clicksSo) (as := [.ref 1, .int (I 1 10), .ref 49, .int x2, .int x3]) (rest := []) rfl (CI.use h (fun v1 I1 J1 h => ?_))
  refine Wp.eqs (pc' := 17) (st' := [.int v1]) rfl rfl ?_
  refine Wp.steps 1 (pc' := if v1 = 0 then 25 else 20) (lv' := [some (.ref 0), some (.ref 49), some (.int x2), some (.int x3), none, none]) (st' := []) (I' := I1) (J' := J1) rfl (Wp.ite (fun h1 => ?_) (fun h1 => ?_))
  · replace h := h.1 h1
    refine Wp.steps 4 (pc' := 31) (lv' := [some (.ref 0), some (.ref 49), some (.int x2), some (.int x3), some (.int 0), some (.int 0)]) (st' := []) (I' := I1) (J' := J1) rfl ?_
    exact h
  · replace h := h.2 h1
    refine Wp.steps 5 (pc' := 31) (lv' := [some (.ref 0), some (.ref 49), some (.int x2), some (.int x3), some (.int 64), some (.int 0)]) (st' := []) (I' := I1) (J' := J1) rfl ?_
    exact h
theorem v_Sb_locksByClicks_0_49_31 {d : Nat} {Q : Post} {I : I2} {J : J2} {x2 : Int32} {x3 : Int32} {x4 : Int32} {x5 : Int32} (h : (x5 < (I 1 7) → CI d Sb_clicksSo [.ref 1, .int ((I 1 10) ^^^ (slI 1 x5)), .ref 49, .int x2, .int x3] I J (fun v1 I1 J1 => (v1 = 0 → Wp d Sb_locksByClicks Q 31 [some (.ref 0), some (.ref 49), some (.int x2), some (.int x3), some (.int x4), some (.int (x5 + 1))] [] I1 J1) ∧ (¬ (v1 = 0) → Wp d Sb_locksByClicks Q 31 [some (.ref 0), some (.ref 49), some (.int x2), some (.int x3), some (.int (x4 ||| (slI 1 x5))), some (.int (x5 + 1))] [] I1 J1))) ∧ (¬ (x5 < (I 1 7)) → Q (some (.int x4)) I J)) : Wp d Sb_locksByClicks Q 31 [some (.ref 0), some (.ref 49), some (.int x2), some (.int x3), some (.int x4), some (.int x5)] [] I J := by
  refine Wp.steps 4 (pc' := 40) (lv' := [some (.ref 0), some (.ref 49), some (.int x2), some (.int x3), some (.int x4), some (.int x5)]) (st' := [.int (I 1 7), .int x5]) (I' := I) (J' := J) rfl ?_
  refine Wp.steps 1 (pc' := if x5 < (I 1 7) then 43 else 83) (lv' := [some (.ref 0), some (.ref 49), some (.int x2), some (.int x3), some (.int x4), some (.int x5)]) (st' := []) (I' := I) (J' := J) rfl (Wp.ite (fun h1 => ?_) (fun h1 => ?_))
  · replace h := h.1 h1
    refine Wp.steps 12 (pc' := 62) (lv' := [some (.ref 0), some (.ref 49), some (.int x2), some (.int x3), some (.int x4), some (.int x5)]) (st' := [.int x3, .int x2, .ref 49, .int ((I 1 10) ^^^ (slI 1 x5)), .ref 1]) (I' := I) (J' := J) rfl ?_
    refine Wp.call (M' := Sb_clicksSo) (as := [.ref 1, .int ((I 1 10) ^^^ (slI 1 x5)), .ref 49, .int x2, .int x3]) (rest := []) rfl (CI.use h (fun v1 I1 J1 h => ?_))
    refine Wp.eqs (pc' := 65) (st' := [.int v1]) rfl rfl ?_
    refine Wp.steps 1 (pc' := if v1 = 0 then 77 else 68) (lv' := [some (.ref 0), some (.ref 49), some (.int x2), some (.int x3), some (.int x4), some (.int x5)]) (st' := []) (I' := I1) (J' := J1) rfl (Wp.ite (fun h2 => ?_) (fun h2 => ?_))
    · replace h := h.1 h2
      refine Wp.steps 2 (pc' := 31) (lv' := [some (.ref 0), some (.ref 49), some (.int x2), some (.int x3), some (.int x4), some (.int (x5 + 1))]) (st' := []) (I' := I1) (J' := J1) rfl ?_
      exact h
    · replace h := h.2 h2
      refine Wp.steps 8 (pc' := 31) (lv' := [some (.ref 0), some (.ref 49), some (.int x2), some (.int x3), some (.int (x4 ||| (slI 1 x5))), some (.int (x5 + 1))]) (st' := []) (I' := I1) (J' := J1) rfl ?_
      exact h
  · replace h := h.2 h1
    refine Wp.steps 1 (pc' := 85) (lv' := [some (.ref 0), some (.ref 49), some (.int x2), some (.int x3), some (.int x4), some (.int x5)]) (st' := [.int x4]) (I' := I) (J' := J) rfl ?_
    exact Wp.ret rfl h
theorem v_Sb_areClicks_0_51_0 {d : Nat} {Q : Post} {I : I2} {J : J2} {x2 : Int32} {x3 : Int32} (h : Wp d Sb_areClicks Q 3 [some (.ref 0), some (.ref 51), some (.int x2), some (.int x3), some (.int 0), none, none, none, none] [] I J) : Wp d Sb_areClicks Q 0 [some (.ref 0), some (.ref 51), some (.int x2), some (.int x3), none, none, none, none, none] [] I J := by
  refine Wp.steps 2 (pc' := 3) (lv' := [some (.ref 0), some (.ref 51), some (.int x2), some (.int x3), some (.int 0), none, none, none, none]) (st' := []) (I' := I) (J' := J) rfl ?_
  exact h
theorem v_Sb_areClicks_0_51_3 {d : Nat} {Q : Post} {I : I2} {J : J2} {x2 : Int32} {x3 : Int32} {x4 : Int32} (h : (x4 < x3 → CL d Sh_look [.ref 51, .int (x2 + (2 * x4))] I J (fun v1 I1 J1 => CL d Sh_look [.ref 51, .int ((x2 + (2 * x4)) + 1)] I1 J1 (fun v2 I2 J2 => ((lg_cmp v1 0) < 0 → Q (some (.int 0)) I2 J2) ∧ (¬ ((lg_cmp v1 0) < 0) → ((lg_cmp (v1 / 10) (Int32.toInt64 (I2 1 2))) < 0 → (0 < (lg_cmp (rmL v1 10) 1) → Q (some (.int 0)) I2 J2) ∧ (¬ (0 < (lg_cmp (rmL v1 10) 1)) → ((lg_cmp v2 0) < 0 → Q (some (.int 0)) I2 J2) ∧ (¬ ((lg_cmp v2 0) < 0) → (0 < (lg_cmp v2 1) → Q (some (.int 0)) I2 J2) ∧ (¬ (0 < (lg_cmp v2 1)) → Wp d Sb_areClicks Q 3 [some (.ref 0), some (.ref 51), some (.int x2), some (.int x3), some (.int (x4 + 1)), none, none, none, none] [] I2 J2)))) ∧ (¬ ((lg_cmp (v1 / 10) (Int32.toInt64 (I2 1 2))) < 0) → Q (some (.int 0)) I2 J2))))) ∧ (¬ (x4 < x3) → Q (some (.int 1)) I J)) : Wp d Sb_areClicks Q 3 [some (.ref 0), some (.ref 51), some (.int x2), some (.int x3), some (.int x4), none, none, none, none] [] I J := by
  refine Wp.steps 2 (pc' := 6) (lv' := [some (.ref 0), some (.ref 51), some (.int x2), some (.int x3), some (.int x4), none, none, none, none]) (st' := [.int x3, .int x4]) (I' := I) (J' := J) rfl ?_
  refine Wp.steps 1 (pc' := if x4 < x3 then 9 else 95) (lv' := [some (.ref 0), some (.ref 51), some (.int x2), some (.int x3), some (.int x4), none, none, none, none]) (st' := []) (I' := I) (J' := J) rfl (Wp.ite (fun h1 => ?_) (fun h1 => ?_))
  · replace h := h.1 h1
    refine Wp.steps 6 (pc' := 16) (lv' := [some (.ref 0), some (.ref 51), some (.int x2), some (.int x3), some (.int x4), none, none, none, none]) (st' := [.int (x2 + (2 * x4)), .ref 51]) (I' := I) (J' := J) rfl ?_
    refine Wp.call (M' := Sh_look) (as := [.ref 51, .int (x2 + (2 * x4))]) (rest := []) rfl (CL.use h (fun v1 I1 J1 h => ?_))
    refine Wp.eqs (pc' := 19) (st' := [.long v1]) rfl rfl ?_
    refine Wp.steps 9 (pc' := 30) (lv' := [some (.ref 0), some (.ref 51), some (.int x2), some (.int x3), some (.int x4), some (.long v1), none, none, none]) (st' := [.int ((x2 + (2 * x4)) + 1), .ref 51]) (I' := I1) (J' := J1) rfl ?_
    refine Wp.call (M' := Sh_look) (as := [.ref 51, .int ((x2 + (2 * x4)) + 1)]) (rest := []) rfl (CL.use h (fun v2 I2 J2 h => ?_))
    refine Wp.eqs (pc' := 33) (st' := [.long v2]) rfl rfl ?_
    refine Wp.steps 4 (pc' := 39) (lv' := [some (.ref 0), some (.ref 51), some (.int x2), some (.int x3), some (.int x4), some (.long v1), none, some (.long v2), none]) (st' := [.int (lg_cmp v1 0)]) (I' := I2) (J' := J2) rfl ?_
    refine Wp.steps 1 (pc' := if (lg_cmp v1 0) < 0 then 71 else 42) (lv' := [some (.ref 0), some (.ref 51), some (.int x2), some (.int x3), some (.int x4), some (.long v1), none, some (.long v2), none]) (st' := []) (I' := I2) (J' := J2) rfl (Wp.ite (fun h2 => ?_) (fun h2 => ?_))
    · replace h := h.1 h2
      refine Wp.steps 1 (pc' := 72) (lv' := [some (.ref 0), some (.ref 51), some (.int x2), some (.int x3), some (.int x4), some (.long v1), none, some (.long v2), none]) (st' := [.int 0]) (I' := I2) (J' := J2) rfl ?_
      exact Wp.ret rfl h
    · replace h := h.2 h2
      refine Wp.steps 8 (pc' := 57) (lv' := [some (.ref 0), some (.ref 51), some (.int x2), some (.int x3), some (.int x4), some (.long v1), none, some (.long v2), none]) (st' := [.int (lg_cmp (v1 / 10) (Int32.toInt64 (I2 1 2)))]) (I' := I2) (J' := J2) rfl ?_
      refine Wp.steps 1 (pc' := if (lg_cmp (v1 / 10) (Int32.toInt64 (I2 1 2))) < 0 then 60 else 71) (lv' := [some (.ref 0), some (.ref 51), some (.int x2), some (.int x3), some (.int x4), some (.long v1), none, some (.long v2), none]) (st' := []) (I' := I2) (J' := J2) rfl (Wp.ite (fun h3 => ?_) (fun h3 => ?_))
      · replace h := h.1 h3
        refine Wp.steps 5 (pc' := 68) (lv' := [some (.ref 0), some (.ref 51), some (.int x2), some (.int x3), some (.int x4), some (.long v1), none, some (.long v2), none]) (st' := [.int (lg_cmp (rmL v1 10) 1)]) (I' := I2) (J' := J2) rfl ?_
        refine Wp.steps 1 (pc' := if 0 < (lg_cmp (rmL v1 10) 1) then 71 else 73) (lv' := [some (.ref 0), some (.ref 51), some (.int x2), some (.int x3), some (.int x4), some (.long v1), none, some (.long v2), none]) (st' := []) (I' := I2) (J' := J2) rfl (Wp.ite (fun h4 => ?_) (fun h4 => ?_))
        · replace h := h.1 h4
          refine Wp.steps 1 (pc' := 72) (lv' := [some (.ref 0), some (.ref 51), some (.int x2), some (.int x3), some (.int x4), some (.long v1), none, some (.long v2), none]) (st' := [.int 0]) (I' := I2) (J' := J2) rfl ?_
          exact Wp.ret rfl h
        · replace h := h.2 h4
          refine Wp.steps 3 (pc' := 77) (lv' := [some (.ref 0), some (.ref 51), some (.int x2), some (.int x3), some (.int x4), some (.long v1), none, some (.long v2), none]) (st' := [.int (lg_cmp v2 0)]) (I' := I2) (J' := J2) rfl ?_
          refine Wp.steps 1 (pc' := if (lg_cmp v2 0) < 0 then 87 else 80) (lv' := [some (.ref 0), some (.ref 51), some (.int x2), some (.int x3), some (.int x4), some (.long v1), none, some (.long v2), none]) (st' := []) (I' := I2) (J' := J2) rfl (Wp.ite (fun h5 => ?_) (fun h5 => ?_))
          · replace h := h.1 h5
            refine Wp.steps 1 (pc' := 88) (lv' := [some (.ref 0), some (.ref 51), some (.int x2), some (.int x3), some (.int x4), some (.long v1), none, some (.long v2), none]) (st' := [.int 0]) (I' := I2) (J' := J2) rfl ?_
            exact Wp.ret rfl h
          · replace h := h.2 h5
            refine Wp.steps 3 (pc' := 84) (lv' := [some (.ref 0), some (.ref 51), some (.int x2), some (.int x3), some (.int x4), some (.long v1), none, some (.long v2), none]) (st' := [.int (lg_cmp v2 1)]) (I' := I2) (J' := J2) rfl ?_
            refine Wp.steps 1 (pc' := if 0 < (lg_cmp v2 1) then 87 else 89) (lv' := [some (.ref 0), some (.ref 51), some (.int x2), some (.int x3), some (.int x4), some (.long v1), none, some (.long v2), none]) (st' := []) (I' := I2) (J' := J2) rfl (Wp.ite (fun h6 => ?_) (fun h6 => ?_))
            · replace h := h.1 h6
              refine Wp.steps 1 (pc' := 88) (lv' := [some (.ref 0), some (.ref 51), some (.int x2), some (.int x3), some (.int x4), some (.long v1), none, some (.long v2), none]) (st' := [.int 0]) (I' := I2) (J' := J2) rfl ?_
              exact Wp.ret rfl h
            · replace h := h.2 h6
              refine Wp.steps 2 (pc' := 3) (lv' := [some (.ref 0), some (.ref 51), some (.int x2), some (.int x3), some (.int (x4 + 1)), some (.long v1), none, some (.long v2), none]) (st' := []) (I' := I2) (J' := J2) rfl ?_
              refine Wp.drop [5, 7] (lv' := [some (.ref 0), some (.ref 51), some (.int x2), some (.int x3), some (.int (x4 + 1)), none, none, none, none]) rfl ?_
              exact h
      · replace h := h.2 h3
        refine Wp.steps 1 (pc' := 72) (lv' := [some (.ref 0), some (.ref 51), some (.int x2), some (.int x3), some (.int x4), some (.long v1), none, some (.long v2), none]) (st' := [.int 0]) (I' := I2) (J' := J2) rfl ?_
        exact Wp.ret rfl h
  · replace h := h.2 h1
    refine Wp.steps 1 (pc' := 96) (lv' := [some (.ref 0), some (.ref 51), some (.int x2), some (.int x3), some (.int x4), none, none, none, none]) (st' := [.int 1]) (I' := I) (J' := J) rfl ?_
    exact Wp.ret rfl h
theorem v_Sb_locksByClicks_0_51_0 {d : Nat} {Q : Post} {I : I2} {J : J2} {x2 : Int32} {x3 : Int32} (h : CI d Sb_clicksSo [.ref 1, .int (I 1 10), .ref 51, .int x2, .int x3] I J (fun v1 I1 J1 => (v1 = 0 → Wp d Sb_locksByClicks Q 31 [some (.ref 0), some (.ref 51), some (.int x2), some (.int x3), some (.int 0), some (.int 0)] [] I1 J1) ∧ (¬ (v1 = 0) → Wp d Sb_locksByClicks Q 31 [some (.ref 0), some (.ref 51), some (.int x2), some (.int x3), some (.int 64), some (.int 0)] [] I1 J1))) : Wp d Sb_locksByClicks Q 0 [some (.ref 0), some (.ref 51), some (.int x2), some (.int x3), none, none] [] I J := by
  refine Wp.steps 8 (pc' := 14) (lv' := [some (.ref 0), some (.ref 51), some (.int x2), some (.int x3), none, none]) (st' := [.int x3, .int x2, .ref 51, .int (I 1 10), .ref 1]) (I' := I) (J' := J) rfl ?_
  refine Wp.call (M' := Sb_clicksSo) (as := [.ref 1, .int (I 1 10), .ref 51, .int x2, .int x3]) (rest := []) rfl (CI.use h (fun v1 I1 J1 h => ?_))
  refine Wp.eqs (pc' := 17) (st' := [.int v1]) rfl rfl ?_
  refine Wp.steps 1 (pc' := if v1 = 0 then 25 else 20) (lv' := [some (.ref 0), some (.ref 51), some (.int x2), some (.int x3), none, none]) (st' := []) (I' := I1) (J' := J1) rfl (Wp.ite (fun h1 => ?_) (fun h1 => ?_))
  · replace h := h.1 h1
    refine Wp.steps 4 (pc' := 31) (lv' := [some (.ref 0), some (.ref 51), some (.int x2), some (.int x3), some (.int 0), some (.int 0)]) (st' := []) (I' := I1) (J' := J1) rfl ?_
    exact h
  · replace h := h.2 h1
    refine Wp.steps 5 (pc' := 31) (lv' := [some (.ref 0), some (.ref 51), some (.int x2), some (.int x3), some (.int 64), some (.int 0)]) (st' := []) (I' := I1) (J' := J1) rfl ?_
    exact h
theorem v_Sb_locksByClicks_0_51_31 {d : Nat} {Q : Post} {I : I2} {J : J2} {x2 : Int32} {x3 : Int32} {x4 : Int32} {x5 : Int32} (h : (x5 < (I 1 7) → CI d Sb_clicksSo [.ref 1, .int ((I 1 10) ^^^ (slI 1 x5)), .ref 51, .int x2, .int x3] I J (fun v1 I1 J1 => (v1 = 0 → Wp d Sb_locksByClicks Q 31 [some (.ref 0), some (.ref 51), some (.int x2), some (.int x3), some (.int x4), some (.int (x5 + 1))] [] I1 J1) ∧ (¬ (v1 = 0) → Wp d Sb_locksByClicks Q 31 [some (.ref 0), some (.ref 51), some (.int x2), some (.int x3), some (.int (x4 ||| (slI 1 x5))), some (.int (x5 + 1))] [] I1 J1))) ∧ (¬ (x5 < (I 1 7)) → Q (some (.int x4)) I J)) : Wp d Sb_locksByClicks Q 31 [some (.ref 0), some (.ref 51), some (.int x2), some (.int x3), some (.int x4), some (.int x5)] [] I J := by
  refine Wp.steps 4 (pc' := 40) (lv' := [some (.ref 0), some (.ref 51), some (.int x2), some (.int x3), some (.int x4), some (.int x5)]) (st' := [.int (I 1 7), .int x5]) (I' := I) (J' := J) rfl ?_
  refine Wp.steps 1 (pc' := if x5 < (I 1 7) then 43 else 83) (lv' := [some (.ref 0), some (.ref 51), some (.int x2), some (.int x3), some (.int x4), some (.int x5)]) (st' := []) (I' := I) (J' := J) rfl (Wp.ite (fun h1 => ?_) (fun h1 => ?_))
  · replace h := h.1 h1
    refine Wp.steps 12 (pc' := 62) (lv' := [some (.ref 0), some (.ref 51), some (.int x2), some (.int x3), some (.int x4), some (.int x5)]) (st' := [.int x3, .int x2, .ref 51, .int ((I 1 10) ^^^ (slI 1 x5)), .ref 1]) (I' := I) (J' := J) rfl ?_
    refine Wp.call (M' := Sb_clicksSo) (as := [.ref 1, .int ((I 1 10) ^^^ (slI 1 x5)), .ref 51, .int x2, .int x3]) (rest := []) rfl (CI.use h (fun v1 I1 J1 h => ?_))
    refine Wp.eqs (pc' := 65) (st' := [.int v1]) rfl rfl ?_
    refine Wp.steps 1 (pc' := if v1 = 0 then 77 else 68) (lv' := [some (.ref 0), some (.ref 51), some (.int x2), some (.int x3), some (.int x4), some (.int x5)]) (st' := []) (I' := I1) (J' := J1) rfl (Wp.ite (fun h2 => ?_) (fun h2 => ?_))
    · replace h := h.1 h2
      refine Wp.steps 2 (pc' := 31) (lv' := [some (.ref 0), some (.ref 51), some (.int x2), some (.int x3), some (.int x4), some (.int (x5 + 1))]) (st' := []) (I' := I1) (J' := J1) rfl ?_
      exact h
    · replace h := h.2 h2
      refine Wp.steps 8 (pc' := 31) (lv' := [some (.ref 0), some (.ref 51), some (.int x2), some (.int x3), some (.int (x4 ||| (slI 1 x5))), some (.int (x5 + 1))]) (st' := []) (I' := I1) (J' := J1) rfl ?_
      exact h
  · replace h := h.2 h1
    refine Wp.steps 1 (pc' := 85) (lv' := [some (.ref 0), some (.ref 51), some (.int x2), some (.int x3), some (.int x4), some (.int x5)]) (st' := [.int x4]) (I' := I) (J' := J) rfl ?_
    exact Wp.ret rfl h
theorem v_Sb_areClicks_0_53_0 {d : Nat} {Q : Post} {I : I2} {J : J2} {x2 : Int32} {x3 : Int32} (h : Wp d Sb_areClicks Q 3 [some (.ref 0), some (.ref 53), some (.int x2), some (.int x3), some (.int 0), none, none, none, none] [] I J) : Wp d Sb_areClicks Q 0 [some (.ref 0), some (.ref 53), some (.int x2), some (.int x3), none, none, none, none, none] [] I J := by
  refine Wp.steps 2 (pc' := 3) (lv' := [some (.ref 0), some (.ref 53), some (.int x2), some (.int x3), some (.int 0), none, none, none, none]) (st' := []) (I' := I) (J' := J) rfl ?_
  exact h
theorem v_Sb_areClicks_0_53_3 {d : Nat} {Q : Post} {I : I2} {J : J2} {x2 : Int32} {x3 : Int32} {x4 : Int32} (h : (x4 < x3 → CL d Sh_look [.ref 53, .int (x2 + (2 * x4))] I J (fun v1 I1 J1 => CL d Sh_look [.ref 53, .int ((x2 + (2 * x4)) + 1)] I1 J1 (fun v2 I2 J2 => ((lg_cmp v1 0) < 0 → Q (some (.int 0)) I2 J2) ∧ (¬ ((lg_cmp v1 0) < 0) → ((lg_cmp (v1 / 10) (Int32.toInt64 (I2 1 2))) < 0 → (0 < (lg_cmp (rmL v1 10) 1) → Q (some (.int 0)) I2 J2) ∧ (¬ (0 < (lg_cmp (rmL v1 10) 1)) → ((lg_cmp v2 0) < 0 → Q (some (.int 0)) I2 J2) ∧ (¬ ((lg_cmp v2 0) < 0) → (0 < (lg_cmp v2 1) → Q (some (.int 0)) I2 J2) ∧ (¬ (0 < (lg_cmp v2 1)) → Wp d Sb_areClicks Q 3 [some (.ref 0), some (.ref 53), some (.int x2), some (.int x3), some (.int (x4 + 1)), none, none, none, none] [] I2 J2)))) ∧ (¬ ((lg_cmp (v1 / 10) (Int32.toInt64 (I2 1 2))) < 0) → Q (some (.int 0)) I2 J2))))) ∧ (¬ (x4 < x3) → Q (some (.int 1)) I J)) : Wp d Sb_areClicks Q 3 [some (.ref 0), some (.ref 53), some (.int x2), some (.int x3), some (.int x4), none, none, none, none] [] I J := by
  refine Wp.steps 2 (pc' := 6) (lv' := [some (.ref 0), some (.ref 53), some (.int x2), some (.int x3), some (.int x4), none, none, none, none]) (st' := [.int x3, .int x4]) (I' := I) (J' := J) rfl ?_
  refine Wp.steps 1 (pc' := if x4 < x3 then 9 else 95) (lv' := [some (.ref 0), some (.ref 53), some (.int x2), some (.int x3), some (.int x4), none, none, none, none]) (st' := []) (I' := I) (J' := J) rfl (Wp.ite (fun h1 => ?_) (fun h1 => ?_))
  · replace h := h.1 h1
    refine Wp.steps 6 (pc' := 16) (lv' := [some (.ref 0), some (.ref 53), some (.int x2), some (.int x3), some (.int x4), none, none, none, none]) (st' := [.int (x2 + (2 * x4)), .ref 53]) (I' := I) (J' := J) rfl ?_
    refine Wp.call (M' := Sh_look) (as := [.ref 53, .int (x2 + (2 * x4))]) (rest := []) rfl (CL.use h (fun v1 I1 J1 h => ?_))
    refine Wp.eqs (pc' := 19) (st' := [.long v1]) rfl rfl ?_
    refine Wp.steps 9 (pc' := 30) (lv' := [some (.ref 0), some (.ref 53), some (.int x2), some (.int x3), some (.int x4), some (.long v1), none, none, none]) (st' := [.int ((x2 + (2 * x4)) + 1), .ref 53]) (I' := I1) (J' := J1) rfl ?_
    refine Wp.call (M' := Sh_look) (as := [.ref 53, .int ((x2 + (2 * x4)) + 1)]) (rest := []) rfl (CL.use h (fun v2 I2 J2 h => ?_))
    refine Wp.eqs (pc' := 33) (st' := [.long v2]) rfl rfl ?_
    refine Wp.steps 4 (pc' := 39) (lv' := [some (.ref 0), some (.ref 53), some (.int x2), some (.int x3), some (.int x4), some (.long v1), none, some (.long v2), none]) (st' := [.int (lg_cmp v1 0)]) (I' := I2) (J' := J2) rfl ?_
    refine Wp.steps 1 (pc' := if (lg_cmp v1 0) < 0 then 71 else 42) (lv' := [some (.ref 0), some (.ref 53), some (.int x2), some (.int x3), some (.int x4), some (.long v1), none, some (.long v2), none]) (st' := []) (I' := I2) (J' := J2) rfl (Wp.ite (fun h2 => ?_) (fun h2 => ?_))
    · replace h := h.1 h2
      refine Wp.steps 1 (pc' := 72) (lv' := [some (.ref 0), some (.ref 53), some (.int x2), some (.int x3), some (.int x4), some (.long v1), none, some (.long v2), none]) (st' := [.int 0]) (I' := I2) (J' := J2) rfl ?_
      exact Wp.ret rfl h
    · replace h := h.2 h2
      refine Wp.steps 8 (pc' := 57) (lv' := [some (.ref 0), some (.ref 53), some (.int x2), some (.int x3), some (.int x4), some (.long v1), none, some (.long v2), none]) (st' := [.int (lg_cmp (v1 / 10) (Int32.toInt64 (I2 1 2)))]) (I' := I2) (J' := J2) rfl ?_
      refine Wp.steps 1 (pc' := if (lg_cmp (v1 / 10) (Int32.toInt64 (I2 1 2))) < 0 then 60 else 71) (lv' := [some (.ref 0), some (.ref 53), some (.int x2), some (.int x3), some (.int x4), some (.long v1), none, some (.long v2), none]) (st' := []) (I' := I2) (J' := J2) rfl (Wp.ite (fun h3 => ?_) (fun h3 => ?_))
      · replace h := h.1 h3
        refine Wp.steps 5 (pc' := 68) (lv' := [some (.ref 0), some (.ref 53), some (.int x2), some (.int x3), some (.int x4), some (.long v1), none, some (.long v2), none]) (st' := [.int (lg_cmp (rmL v1 10) 1)]) (I' := I2) (J' := J2) rfl ?_
        refine Wp.steps 1 (pc' := if 0 < (lg_cmp (rmL v1 10) 1) then 71 else 73) (lv' := [some (.ref 0), some (.ref 53), some (.int x2), some (.int x3), some (.int x4), some (.long v1), none, some (.long v2), none]) (st' := []) (I' := I2) (J' := J2) rfl (Wp.ite (fun h4 => ?_) (fun h4 => ?_))
        · replace h := h.1 h4
          refine Wp.steps 1 (pc' := 72) (lv' := [some (.ref 0), some (.ref 53), some (.int x2), some (.int x3), some (.int x4), some (.long v1), none, some (.long v2), none]) (st' := [.int 0]) (I' := I2) (J' := J2) rfl ?_
          exact Wp.ret rfl h
        · replace h := h.2 h4
          refine Wp.steps 3 (pc' := 77) (lv' := [some (.ref 0), some (.ref 53), some (.int x2), some (.int x3), some (.int x4), some (.long v1), none, some (.long v2), none]) (st' := [.int (lg_cmp v2 0)]) (I' := I2) (J' := J2) rfl ?_
          refine Wp.steps 1 (pc' := if (lg_cmp v2 0) < 0 then 87 else 80) (lv' := [some (.ref 0), some (.ref 53), some (.int x2), some (.int x3), some (.int x4), some (.long v1), none, some (.long v2), none]) (st' := []) (I' := I2) (J' := J2) rfl (Wp.ite (fun h5 => ?_) (fun h5 => ?_))
          · replace h := h.1 h5
            refine Wp.steps 1 (pc' := 88) (lv' := [some (.ref 0), some (.ref 53), some (.int x2), some (.int x3), some (.int x4), some (.long v1), none, some (.long v2), none]) (st' := [.int 0]) (I' := I2) (J' := J2) rfl ?_
            exact Wp.ret rfl h
          · replace h := h.2 h5
            refine Wp.steps 3 (pc' := 84) (lv' := [some (.ref 0), some (.ref 53), some (.int x2), some (.int x3), some (.int x4), some (.long v1), none, some (.long v2), none]) (st' := [.int (lg_cmp v2 1)]) (I' := I2) (J' := J2) rfl ?_
            refine Wp.steps 1 (pc' := if 0 < (lg_cmp v2 1) then 87 else 89) (lv' := [some (.ref 0), some (.ref 53), some (.int x2), some (.int x3), some (.int x4), some (.long v1), none, some (.long v2), none]) (st' := []) (I' := I2) (J' := J2) rfl (Wp.ite (fun h6 => ?_) (fun h6 => ?_))
            · replace h := h.1 h6
              refine Wp.steps 1 (pc' := 88) (lv' := [some (.ref 0), some (.ref 53), some (.int x2), some (.int x3), some (.int x4), some (.long v1), none, some (.long v2), none]) (st' := [.int 0]) (I' := I2) (J' := J2) rfl ?_
              exact Wp.ret rfl h
            · replace h := h.2 h6
              refine Wp.steps 2 (pc' := 3) (lv' := [some (.ref 0), some (.ref 53), some (.int x2), some (.int x3), some (.int (x4 + 1)), some (.long v1), none, some (.long v2), none]) (st' := []) (I' := I2) (J' := J2) rfl ?_
              refine Wp.drop [5, 7] (lv' := [some (.ref 0), some (.ref 53), some (.int x2), some (.int x3), some (.int (x4 + 1)), none, none, none, none]) rfl ?_
              exact h
      · replace h := h.2 h3
        refine Wp.steps 1 (pc' := 72) (lv' := [some (.ref 0), some (.ref 53), some (.int x2), some (.int x3), some (.int x4), some (.long v1), none, some (.long v2), none]) (st' := [.int 0]) (I' := I2) (J' := J2) rfl ?_
        exact Wp.ret rfl h
  · replace h := h.2 h1
    refine Wp.steps 1 (pc' := 96) (lv' := [some (.ref 0), some (.ref 53), some (.int x2), some (.int x3), some (.int x4), none, none, none, none]) (st' := [.int 1]) (I' := I) (J' := J) rfl ?_
    exact Wp.ret rfl h
theorem v_Sb_locksByClicks_0_53_0 {d : Nat} {Q : Post} {I : I2} {J : J2} {x2 : Int32} {x3 : Int32} (h : CI d Sb_clicksSo [.ref 1, .int (I 1 10), .ref 53, .int x2, .int x3] I J (fun v1 I1 J1 => (v1 = 0 → Wp d Sb_locksByClicks Q 31 [some (.ref 0), some (.ref 53), some (.int x2), some (.int x3), some (.int 0), some (.int 0)] [] I1 J1) ∧ (¬ (v1 = 0) → Wp d Sb_locksByClicks Q 31 [some (.ref 0), some (.ref 53), some (.int x2), some (.int x3), some (.int 64), some (.int 0)] [] I1 J1))) : Wp d Sb_locksByClicks Q 0 [some (.ref 0), some (.ref 53), some (.int x2), some (.int x3), none, none] [] I J := by
  refine Wp.steps 8 (pc' := 14) (lv' := [some (.ref 0), some (.ref 53), some (.int x2), some (.int x3), none, none]) (st' := [.int x3, .int x2, .ref 53, .int (I 1 10), .ref 1]) (I' := I) (J' := J) rfl ?_
  refine Wp.call (M' := Sb_clicksSo) (as := [.ref 1, .int (I 1 10), .ref 53, .int x2, .int x3]) (rest := []) rfl (CI.use h (fun v1 I1 J1 h => ?_))
  refine Wp.eqs (pc' := 17) (st' := [.int v1]) rfl rfl ?_
  refine Wp.steps 1 (pc' := if v1 = 0 then 25 else 20) (lv' := [some (.ref 0), some (.ref 53), some (.int x2), some (.int x3), none, none]) (st' := []) (I' := I1) (J' := J1) rfl (Wp.ite (fun h1 => ?_) (fun h1 => ?_))
  · replace h := h.1 h1
    refine Wp.steps 4 (pc' := 31) (lv' := [some (.ref 0), some (.ref 53), some (.int x2), some (.int x3), some (.int 0), some (.int 0)]) (st' := []) (I' := I1) (J' := J1) rfl ?_
    exact h
  · replace h := h.2 h1
    refine Wp.steps 5 (pc' := 31) (lv' := [some (.ref 0), some (.ref 53), some (.int x2), some (.int x3), some (.int 64), some (.int 0)]) (st' := []) (I' := I1) (J' := J1) rfl ?_
    exact h
theorem v_Sb_locksByClicks_0_53_31 {d : Nat} {Q : Post} {I : I2} {J : J2} {x2 : Int32} {x3 : Int32} {x4 : Int32} {x5 : Int32} (h : (x5 < (I 1 7) → CI d Sb_clicksSo [.ref 1, .int ((I 1 10) ^^^ (slI 1 x5)), .ref 53, .int x2, .int x3] I J (fun v1 I1 J1 => (v1 = 0 → Wp d Sb_locksByClicks Q 31 [some (.ref 0), some (.ref 53), some (.int x2), some (.int x3), some (.int x4), some (.int (x5 + 1))] [] I1 J1) ∧ (¬ (v1 = 0) → Wp d Sb_locksByClicks Q 31 [some (.ref 0), some (.ref 53), some (.int x2), some (.int x3), some (.int (x4 ||| (slI 1 x5))), some (.int (x5 + 1))] [] I1 J1))) ∧ (¬ (x5 < (I 1 7)) → Q (some (.int x4)) I J)) : Wp d Sb_locksByClicks Q 31 [some (.ref 0), some (.ref 53), some (.int x2), some (.int x3), some (.int x4), some (.int x5)] [] I J := by
  refine Wp.steps 4 (pc' := 40) (lv' := [some (.ref 0), some (.ref 53), some (.int x2), some (.int x3), some (.int x4), some (.int x5)]) (st' := [.int (I 1 7), .int x5]) (I' := I) (J' := J) rfl ?_
  refine Wp.steps 1 (pc' := if x5 < (I 1 7) then 43 else 83) (lv' := [some (.ref 0), some (.ref 53), some (.int x2), some (.int x3), some (.int x4), some (.int x5)]) (st' := []) (I' := I) (J' := J) rfl (Wp.ite (fun h1 => ?_) (fun h1 => ?_))
  · replace h := h.1 h1
    refine Wp.steps 12 (pc' := 62) (lv' := [some (.ref 0), some (.ref 53), some (.int x2), some (.int x3), some (.int x4), some (.int x5)]) (st' := [.int x3, .int x2, .ref 53, .int ((I 1 10) ^^^ (slI 1 x5)), .ref 1]) (I' := I) (J' := J) rfl ?_
    refine Wp.call (M' := Sb_clicksSo) (as := [.ref 1, .int ((I 1 10) ^^^ (slI 1 x5)), .ref 53, .int x2, .int x3]) (rest := []) rfl (CI.use h (fun v1 I1 J1 h => ?_))
    refine Wp.eqs (pc' := 65) (st' := [.int v1]) rfl rfl ?_
    refine Wp.steps 1 (pc' := if v1 = 0 then 77 else 68) (lv' := [some (.ref 0), some (.ref 53), some (.int x2), some (.int x3), some (.int x4), some (.int x5)]) (st' := []) (I' := I1) (J' := J1) rfl (Wp.ite (fun h2 => ?_) (fun h2 => ?_))
    · replace h := h.1 h2
      refine Wp.steps 2 (pc' := 31) (lv' := [some (.ref 0), some (.ref 53), some (.int x2), some (.int x3), some (.int x4), some (.int (x5 + 1))]) (st' := []) (I' := I1) (J' := J1) rfl ?_
      exact h
    · replace h := h.2 h2
      refine Wp.steps 8 (pc' := 31) (lv' := [some (.ref 0), some (.ref 53), some (.int x2), some (.int x3), some (.int (x4 ||| (slI 1 x5))), some (.int (x5 + 1))]) (st' := []) (I' := I1) (J' := J1) rfl ?_
      exact h
  · replace h := h.2 h1
    refine Wp.steps 1 (pc' := 85) (lv' := [some (.ref 0), some (.ref 53), some (.int x2), some (.int x3), some (.int x4), some (.int x5)]) (st' := [.int x4]) (I' := I) (J' := J) rfl ?_
    exact Wp.ret rfl h
theorem v_Sb_areClicks_0_55_0 {d : Nat} {Q : Post} {I : I2} {J : J2} {x2 : Int32} {x3 : Int32} (h : Wp d Sb_areClicks Q 3 [some (.ref 0), some (.ref 55), some (.int x2), some (.int x3), some (.int 0), none, none, none, none] [] I J) : Wp d Sb_areClicks Q 0 [some (.ref 0), some (.ref 55), some (.int x2), some (.int x3), none, none, none, none, none] [] I J := by
  refine Wp.steps 2 (pc' := 3) (lv' := [some (.ref 0), some (.ref 55), some (.int x2), some (.int x3), some (.int 0), none, none, none, none]) (st' := []) (I' := I) (J' := J) rfl ?_
  exact h
theorem v_Sb_areClicks_0_55_3 {d : Nat} {Q : Post} {I : I2} {J : J2} {x2 : Int32} {x3 : Int32} {x4 : Int32} (h : (x4 < x3 → CL d Sh_look [.ref 55, .int (x2 + (2 * x4))] I J (fun v1 I1 J1 => CL d Sh_look [.ref 55, .int ((x2 + (2 * x4)) + 1)] I1 J1 (fun v2 I2 J2 => ((lg_cmp v1 0) < 0 → Q (some (.int 0)) I2 J2) ∧ (¬ ((lg_cmp v1 0) < 0) → ((lg_cmp (v1 / 10) (Int32.toInt64 (I2 1 2))) < 0 → (0 < (lg_cmp (rmL v1 10) 1) → Q (some (.int 0)) I2 J2) ∧ (¬ (0 < (lg_cmp (rmL v1 10) 1)) → ((lg_cmp v2 0) < 0 → Q (some (.int 0)) I2 J2) ∧ (¬ ((lg_cmp v2 0) < 0) → (0 < (lg_cmp v2 1) → Q (some (.int 0)) I2 J2) ∧ (¬ (0 < (lg_cmp v2 1)) → Wp d Sb_areClicks Q 3 [some (.ref 0), some (.ref 55), some (.int x2), some (.int x3), some (.int (x4 + 1)), none, none, none, none] [] I2 J2)))) ∧ (¬ ((lg_cmp (v1 / 10) (Int32.toInt64 (I2 1 2))) < 0) → Q (some (.int 0)) I2 J2))))) ∧ (¬ (x4 < x3) → Q (some (.int 1)) I J)) : Wp d Sb_areClicks Q 3 [some (.ref 0), some (.ref 55), some (.int x2), some (.int x3), some (.int x4), none, none, none, none] [] I J := by
  refine Wp.steps 2 (pc' := 6) (lv' := [some (.ref 0), some (.ref 55), some (.int x2), some (.int x3), some (.int x4), none, none, none, none]) (st' := [.int x3, .int x4]) (I' := I) (J' := J) rfl ?_
  refine Wp.steps 1 (pc' := if x4 < x3 then 9 else 95) (lv' := [some (.ref 0), some (.ref 55), some (.int x2), some (.int x3), some (.int x4), none, none, none, none]) (st' := []) (I' := I) (J' := J) rfl (Wp.ite (fun h1 => ?_) (fun h1 => ?_))
  · replace h := h.1 h1
    refine Wp.steps 6 (pc' := 16) (lv' := [some (.ref 0), some (.ref 55), some (.int x2), some (.int x3), some (.int x4), none, none, none, none]) (st' := [.int (x2 + (2 * x4)), .ref 55]) (I' := I) (J' := J) rfl ?_
    refine Wp.call (M' := Sh_look) (as := [.ref 55, .int (x2 + (2 * x4))]) (rest := []) rfl (CL.use h (fun v1 I1 J1 h => ?_))
    refine Wp.eqs (pc' := 19) (st' := [.long v1]) rfl rfl ?_
    refine Wp.steps 9 (pc' := 30) (lv' := [some (.ref 0), some (.ref 55), some (.int x2), some (.int x3), some (.int x4), some (.long v1), none, none, none]) (st' := [.int ((x2 + (2 * x4)) + 1), .ref 55]) (I' := I1) (J' := J1) rfl ?_
    refine Wp.call (M' := Sh_look) (as := [.ref 55, .int ((x2 + (2 * x4)) + 1)]) (rest := []) rfl (CL.use h (fun v2 I2 J2 h => ?_))
    refine Wp.eqs (pc' := 33) (st' := [.long v2]) rfl rfl ?_
    refine Wp.steps 4 (pc' := 39) (lv' := [some (.ref 0), some (.ref 55), some (.int x2), some (.int x3), some (.int x4), some (.long v1), none, some (.long v2), none]) (st' := [.int (lg_cmp v1 0)]) (I' := I2) (J' := J2) rfl ?_
    refine Wp.steps 1 (pc' := if (lg_cmp v1 0) < 0 then 71 else 42) (lv' := [some (.ref 0), some (.ref 55), some (.int x2), some (.int x3), some (.int x4), some (.long v1), none, some (.long v2), none]) (st' := []) (I' := I2) (J' := J2) rfl (Wp.ite (fun h2 => ?_) (fun h2 => ?_))
    · replace h := h.1 h2
      refine Wp.steps 1 (pc' := 72) (lv' := [some (.ref 0), some (.ref 55), some (.int x2), some (.int x3), some (.int x4), some (.long v1), none, some (.long v2), none]) (st' := [.int 0]) (I' := I2) (J' := J2) rfl ?_
      exact Wp.ret rfl h
    · replace h := h.2 h2
      refine Wp.steps 8 (pc' := 57) (lv' := [some (.ref 0), some (.ref 55), some (.int x2), some (.int x3), some (.int x4), some (.long v1), none, some (.long v2), none]) (st' := [.int (lg_cmp (v1 / 10) (Int32.toInt64 (I2 1 2)))]) (I' := I2) (J' := J2) rfl ?_
      refine Wp.steps 1 (pc' := if (lg_cmp (v1 / 10) (Int32.toInt64 (I2 1 2))) < 0 then 60 else 71) (lv' := [some (.ref 0), some (.ref 55), some (.int x2), some (.int x3), some (.int x4), some (.long v1), none, some (.long v2), none]) (st' := []) (I' := I2) (J' := J2) rfl (Wp.ite (fun h3 => ?_) (fun h3 => ?_))
      · replace h := h.1 h3
        refine Wp.steps 5 (pc' := 68) (lv' := [some (.ref 0), some (.ref 55), some (.int x2), some (.int x3), some (.int x4), some (.long v1), none, some (.long v2), none]) (st' := [.int (lg_cmp (rmL v1 10) 1)]) (I' := I2) (J' := J2) rfl ?_
        refine Wp.steps 1 (pc' := if 0 < (lg_cmp (rmL v1 10) 1) then 71 else 73) (lv' := [some (.ref 0), some (.ref 55), some (.int x2), some (.int x3), some (.int x4), some (.long v1), none, some (.long v2), none]) (st' := []) (I' := I2) (J' := J2) rfl (Wp.ite (fun h4 => ?_) (fun h4 => ?_))
        · replace h := h.1 h4
          refine Wp.steps 1 (pc' := 72) (lv' := [some (.ref 0), some (.ref 55), some (.int x2), some (.int x3), some (.int x4), some (.long v1), none, some (.long v2), none]) (st' := [.int 0]) (I' := I2) (J' := J2) rfl ?_
          exact Wp.ret rfl h
        · replace h := h.2 h4
          refine Wp.steps 3 (pc' := 77) (lv' := [some (.ref 0), some (.ref 55), some (.int x2), some (.int x3), some (.int x4), some (.long v1), none, some (.long v2), none]) (st' := [.int (lg_cmp v2 0)]) (I' := I2) (J' := J2) rfl ?_
          refine Wp.steps 1 (pc' := if (lg_cmp v2 0) < 0 then 87 else 80) (lv' := [some (.ref 0), some (.ref 55), some (.int x2), some (.int x3), some (.int x4), some (.long v1), none, some (.long v2), none]) (st' := []) (I' := I2) (J' := J2) rfl (Wp.ite (fun h5 => ?_) (fun h5 => ?_))
          · replace h := h.1 h5
            refine Wp.steps 1 (pc' := 88) (lv' := [some (.ref 0), some (.ref 55), some (.int x2), some (.int x3), some (.int x4), some (.long v1), none, some (.long v2), none]) (st' := [.int 0]) (I' := I2) (J' := J2) rfl ?_
            exact Wp.ret rfl h
          · replace h := h.2 h5
            refine Wp.steps 3 (pc' := 84) (lv' := [some (.ref 0), some (.ref 55), some (.int x2), some (.int x3), some (.int x4), some (.long v1), none, some (.long v2), none]) (st' := [.int (lg_cmp v2 1)]) (I' := I2) (J' := J2) rfl ?_
            refine Wp.steps 1 (pc' := if 0 < (lg_cmp v2 1) then 87 else 89) (lv' := [some (.ref 0), some (.ref 55), some (.int x2), some (.int x3), some (.int x4), some (.long v1), none, some (.long v2), none]) (st' := []) (I' := I2) (J' := J2) rfl (Wp.ite (fun h6 => ?_) (fun h6 => ?_))
            · replace h := h.1 h6
              refine Wp.steps 1 (pc' := 88) (lv' := [some (.ref 0), some (.ref 55), some (.int x2), some (.int x3), some (.int x4), some (.long v1), none, some (.long v2), none]) (st' := [.int 0]) (I' := I2) (J' := J2) rfl ?_
              exact Wp.ret rfl h
            · replace h := h.2 h6
              refine Wp.steps 2 (pc' := 3) (lv' := [some (.ref 0), some (.ref 55), some (.int x2), some (.int x3), some (.int (x4 + 1)), some (.long v1), none, some (.long v2), none]) (st' := []) (I' := I2) (J' := J2) rfl ?_
              refine Wp.drop [5, 7] (lv' := [some (.ref 0), some (.ref 55), some (.int x2), some (.int x3), some (.int (x4 + 1)), none, none, none, none]) rfl ?_
              exact h
      · replace h := h.2 h3
        refine Wp.steps 1 (pc' := 72) (lv' := [some (.ref 0), some (.ref 55), some (.int x2), some (.int x3), some (.int x4), some (.long v1), none, some (.long v2), none]) (st' := [.int 0]) (I' := I2) (J' := J2) rfl ?_
        exact Wp.ret rfl h
  · replace h := h.2 h1
    refine Wp.steps 1 (pc' := 96) (lv' := [some (.ref 0), some (.ref 55), some (.int x2), some (.int x3), some (.int x4), none, none, none, none]) (st' := [.int 1]) (I' := I) (J' := J) rfl ?_
    exact Wp.ret rfl h
theorem v_Sb_locksByClicks_0_55_0 {d : Nat} {Q : Post} {I : I2} {J : J2} {x2 : Int32} {x3 : Int32} (h : CI d Sb_clicksSo [.ref 1, .int (I 1 10), .ref 55, .int x2, .int x3] I J (fun v1 I1 J1 => (v1 = 0 → Wp d Sb_locksByClicks Q 31 [some (.ref 0), some (.ref 55), some (.int x2), some (.int x3), some (.int 0), some (.int 0)] [] I1 J1) ∧ (¬ (v1 = 0) → Wp d Sb_locksByClicks Q 31 [some (.ref 0), some (.ref 55), some (.int x2), some (.int x3), some (.int 64), some (.int 0)] [] I1 J1))) : Wp d Sb_locksByClicks Q 0 [some (.ref 0), some (.ref 55), some (.int x2), some (.int x3), none, none] [] I J := by
  refine Wp.steps 8 (pc' := 14) (lv' := [some (.ref 0), some (.ref 55), some (.int x2), some (.int x3), none, none]) (st' := [.int x3, .int x2, .ref 55, .int (I 1 10), .ref 1]) (I' := I) (J' := J) rfl ?_
  refine Wp.call (M' := Sb_clicksSo) (as := [.ref 1, .int (I 1 10), .ref 55, .int x2, .int x3]) (rest := []) rfl (CI.use h (fun v1 I1 J1 h => ?_))
  refine Wp.eqs (pc' := 17) (st' := [.int v1]) rfl rfl ?_
  refine Wp.steps 1 (pc' := if v1 = 0 then 25 else 20) (lv' := [some (.ref 0), some (.ref 55), some (.int x2), some (.int x3), none, none]) (st' := []) (I' := I1) (J' := J1) rfl (Wp.ite (fun h1 => ?_) (fun h1 => ?_))
  · replace h := h.1 h1
    refine Wp.steps 4 (pc' := 31) (lv' := [some (.ref 0), some (.ref 55), some (.int x2), some (.int x3), some (.int 0), some (.int 0)]) (st' := []) (I' := I1) (J' := J1) rfl ?_
    exact h
  · replace h := h.2 h1
    refine Wp.steps 5 (pc' := 31) (lv' := [some (.ref 0), some (.ref 55), some (.int x2), some (.int x3), some (.int 64), some (.int 0)]) (st' := []) (I' := I1) (J' := J1) rfl ?_
    exact h
theorem v_Sb_locksByClicks_0_55_31 {d : Nat} {Q : Post} {I : I2} {J : J2} {x2 : Int32} {x3 : Int32} {x4 : Int32} {x5 : Int32} (h : (x5 < (I 1 7) → CI d Sb_clicksSo [.ref 1, .int ((I 1 10) ^^^ (slI 1 x5)), .ref 55, .int x2, .int x3] I J (fun v1 I1 J1 => (v1 = 0 → Wp d Sb_locksByClicks Q 31 [some (.ref 0), some (.ref 55), some (.int x2), some (.int x3), some (.int x4), some (.int (x5 + 1))] [] I1 J1) ∧ (¬ (v1 = 0) → Wp d Sb_locksByClicks Q 31 [some (.ref 0), some (.ref 55), some (.int x2), some (.int x3), some (.int (x4 ||| (slI 1 x5))), some (.int (x5 + 1))] [] I1 J1))) ∧ (¬ (x5 < (I 1 7)) → Q (some (.int x4)) I J)) : Wp d Sb_locksByClicks Q 31 [some (.ref 0), some (.ref 55), some (.int x2), some (.int x3), some (.int x4), some (.int x5)] [] I J := by
  refine Wp.steps 4 (pc' := 40) (lv' := [some (.ref 0), some (.ref 55), some (.int x2), some (.int x3), some (.int x4), some (.int x5)]) (st' := [.int (I 1 7), .int x5]) (I' := I) (J' := J) rfl ?_
  refine Wp.steps 1 (pc' := if x5 < (I 1 7) then 43 else 83) (lv' := [some (.ref 0), some (.ref 55), some (.int x2), some (.int x3), some (.int x4), some (.int x5)]) (st' := []) (I' := I) (J' := J) rfl (Wp.ite (fun h1 => ?_) (fun h1 => ?_))
  · replace h := h.1 h1
    refine Wp.steps 12 (pc' := 62) (lv' := [some (.ref 0), some (.ref 55), some (.int x2), some (.int x3), some (.int x4), some (.int x5)]) (st' := [.int x3, .int x2, .ref 55, .int ((I 1 10) ^^^ (slI 1 x5)), .ref 1]) (I' := I) (J' := J) rfl ?_
    refine Wp.call (M' := Sb_clicksSo) (as := [.ref 1, .int ((I 1 10) ^^^ (slI 1 x5)), .ref 55, .int x2, .int x3]) (rest := []) rfl (CI.use h (fun v1 I1 J1 h => ?_))
    refine Wp.eqs (pc' := 65) (st' := [.int v1]) rfl rfl ?_
    refine Wp.steps 1 (pc' := if v1 = 0 then 77 else 68) (lv' := [some (.ref 0), some (.ref 55), some (.int x2), some (.int x3), some (.int x4), some (.int x5)]) (st' := []) (I' := I1) (J' := J1) rfl (Wp.ite (fun h2 => ?_) (fun h2 => ?_))
    · replace h := h.1 h2
      refine Wp.steps 2 (pc' := 31) (lv' := [some (.ref 0), some (.ref 55), some (.int x2), some (.int x3), some (.int x4), some (.int (x5 + 1))]) (st' := []) (I' := I1) (J' := J1) rfl ?_
      exact h
    · replace h := h.2 h2
      refine Wp.steps 8 (pc' := 31) (lv' := [some (.ref 0), some (.ref 55), some (.int x2), some (.int x3), some (.int (x4 ||| (slI 1 x5))), some (.int (x5 + 1))]) (st' := []) (I' := I1) (J' := J1) rfl ?_
      exact h
  · replace h := h.2 h1
    refine Wp.steps 1 (pc' := 85) (lv' := [some (.ref 0), some (.ref 55), some (.int x2), some (.int x3), some (.int x4), some (.int x5)]) (st' := [.int x4]) (I' := I) (J' := J) rfl ?_
    exact Wp.ret rfl h
theorem v_Sb_kindsByClicks_0_49_0 {d : Nat} {Q : Post} {I : I2} {J : J2} {x1 : Int32} {x3 : Int32} {x4 : Int32} (h : CV d Bx_becomes [.ref 21, .ref 1] I J (fun I1 J1 => Wp d Sb_kindsByClicks Q 17 [some (.ref 0), some (.int x1), some (.ref 49), some (.int x3), some (.int x4), some (.int 0), some (.int 0)] [] I1 J1)) : Wp d Sb_kindsByClicks Q 0 [some (.ref 0), some (.int x1), some (.ref 49), some (.int x3), some (.int x4), none, none] [] I J := by
  refine Wp.steps 4 (pc' := 8) (lv' := [some (.ref 0), some (.int x1), some (.ref 49), some (.int x3), some (.int x4), none, none]) (st' := [.ref 1, .ref 21]) (I' := I) (J' := J) rfl ?_
  refine Wp.call (M' := Bx_becomes) (as := [.ref 21, .ref 1]) (rest := []) rfl (CV.use h (fun I1 J1 h => ?_))
  refine Wp.eqs (pc' := 11) (st' := []) rfl rfl ?_
  refine Wp.steps 4 (pc' := 17) (lv' := [some (.ref 0), some (.int x1), some (.ref 49), some (.int x3), some (.int x4), some (.int 0), some (.int 0)]) (st' := []) (I' := I1) (J' := J1) rfl ?_
  exact h
theorem v_Sb_kindsByClicks_0_49_17 {d : Nat} {Q : Post} {I : I2} {J : J2} {x1 : Int32} {x3 : Int32} {x4 : Int32} {x5 : Int32} {x6 : Int32} (h : (4 < x6 → Q (some (.int x5)) I J) ∧ (¬ (4 < x6) → vp_in x1 5 ∧ (CI d Sb_clicksSo [.ref 21, .int (I 21 10), .ref 49, .int x3, .int x4] (up2 I 22 (tN x1) x6) J (fun v1 I1 J1 => (v1 = 0 → Wp d Sb_kindsByClicks Q 17 [some (.ref 0), some (.int x1), some (.ref 49), some (.int x3), some (.int x4), some (.int x5), some (.int (x6 + 1))] [] I1 J1) ∧ (¬ (v1 = 0) → Wp d Sb_kindsByClicks Q 17 [some (.ref 0), some (.int x1), some (.ref 49), some (.int x3), some (.int x4), some (.int (x5 ||| (slI 1 x6))), some (.int (x6 + 1))] [] I1 J1))))) : Wp d Sb_kindsByClicks Q 17 [some (.ref 0), some (.int x1), some (.ref 49), some (.int x3), some (.int x4), some (.int x5), some (.int x6)] [] I J := by
  refine Wp.steps 2 (pc' := 20) (lv' := [some (.ref 0), some (.int x1), some (.ref 49), some (.int x3), some (.int x4), some (.int x5), some (.int x6)]) (st' := [.int 4, .int x6]) (I' := I) (J' := J) rfl ?_
  refine Wp.steps 1 (pc' := if 4 < x6 then 70 else 23) (lv' := [some (.ref 0), some (.int x1), some (.ref 49), some (.int x3), some (.int x4), some (.int x5), some (.int x6)]) (st' := []) (I' := I) (J' := J) rfl (Wp.ite (fun h1 => ?_) (fun h1 => ?_))
  · replace h := h.1 h1
    refine Wp.steps 1 (pc' := 72) (lv' := [some (.ref 0), some (.int x1), some (.ref 49), some (.int x3), some (.int x4), some (.int x5), some (.int x6)]) (st' := [.int x5]) (I' := I) (J' := J) rfl ?_
    exact Wp.ret rfl h
  · replace h := h.2 h1
    refine Wp.steps 5 (pc' := 33) (lv' := [some (.ref 0), some (.int x1), some (.ref 49), some (.int x3), some (.int x4), some (.int x5), some (.int x6)]) (st' := [.int x6, .int x1, .ref 22]) (I' := I) (J' := J) rfl ?_
    refine Wp.iast rfl rfl h.1 ?_
    replace h := h.2
    refine Wp.steps 8 (pc' := 49) (lv' := [some (.ref 0), some (.int x1), some (.ref 49), some (.int x3), some (.int x4), some (.int x5), some (.int x6)]) (st' := [.int x4, .int x3, .ref 49, .int (I 21 10), .ref 21]) (I' := (up2 I 22 (tN x1) x6)) (J' := J) rfl ?_
    refine Wp.call (M' := Sb_clicksSo) (as := [.ref 21, .int (I 21 10), .ref 49, .int x3, .int x4]) (rest := []) rfl (CI.use h (fun v1 I1 J1 h => ?_))
    refine Wp.eqs (pc' := 52) (st' := [.int v1]) rfl rfl ?_
    refine Wp.steps 1 (pc' := if v1 = 0 then 64 else 55) (lv' := [some (.ref 0), some (.int x1), some (.ref 49), some (.int x3), some (.int x4), some (.int x5), some (.int x6)]) (st' := []) (I' := I1) (J' := J1) rfl (Wp.ite (fun h2 => ?_) (fun h2 => ?_))
    · replace h := h.1 h2
      refine Wp.steps 2 (pc' := 17) (lv' := [some (.ref 0), some (.int x1), some (.ref 49), some (.int x3), some (.int x4), some (.int x5), some (.int (x6 + 1))]) (st' := []) (I' := I1) (J' := J1) rfl ?_
      exact h
    · replace h := h.2 h2
      refine Wp.steps 8 (pc' := 17) (lv' := [some (.ref 0), some (.int x1), some (.ref 49), some (.int x3), some (.int x4), some (.int (x5 ||| (slI 1 x6))), some (.int (x6 + 1))]) (st' := []) (I' := I1) (J' := J1) rfl ?_
      exact h
theorem v_Sb_kindsByClicks_0_51_0 {d : Nat} {Q : Post} {I : I2} {J : J2} {x1 : Int32} {x3 : Int32} {x4 : Int32} (h : CV d Bx_becomes [.ref 21, .ref 1] I J (fun I1 J1 => Wp d Sb_kindsByClicks Q 17 [some (.ref 0), some (.int x1), some (.ref 51), some (.int x3), some (.int x4), some (.int 0), some (.int 0)] [] I1 J1)) : Wp d Sb_kindsByClicks Q 0 [some (.ref 0), some (.int x1), some (.ref 51), some (.int x3), some (.int x4), none, none] [] I J := by
  refine Wp.steps 4 (pc' := 8) (lv' := [some (.ref 0), some (.int x1), some (.ref 51), some (.int x3), some (.int x4), none, none]) (st' := [.ref 1, .ref 21]) (I' := I) (J' := J) rfl ?_
  refine Wp.call (M' := Bx_becomes) (as := [.ref 21, .ref 1]) (rest := []) rfl (CV.use h (fun I1 J1 h => ?_))
  refine Wp.eqs (pc' := 11) (st' := []) rfl rfl ?_
  refine Wp.steps 4 (pc' := 17) (lv' := [some (.ref 0), some (.int x1), some (.ref 51), some (.int x3), some (.int x4), some (.int 0), some (.int 0)]) (st' := []) (I' := I1) (J' := J1) rfl ?_
  exact h
theorem v_Sb_kindsByClicks_0_51_17 {d : Nat} {Q : Post} {I : I2} {J : J2} {x1 : Int32} {x3 : Int32} {x4 : Int32} {x5 : Int32} {x6 : Int32} (h : (4 < x6 → Q (some (.int x5)) I J) ∧ (¬ (4 < x6) → vp_in x1 5 ∧ (CI d Sb_clicksSo [.ref 21, .int (I 21 10), .ref 51, .int x3, .int x4] (up2 I 22 (tN x1) x6) J (fun v1 I1 J1 => (v1 = 0 → Wp d Sb_kindsByClicks Q 17 [some (.ref 0), some (.int x1), some (.ref 51), some (.int x3), some (.int x4), some (.int x5), some (.int (x6 + 1))] [] I1 J1) ∧ (¬ (v1 = 0) → Wp d Sb_kindsByClicks Q 17 [some (.ref 0), some (.int x1), some (.ref 51), some (.int x3), some (.int x4), some (.int (x5 ||| (slI 1 x6))), some (.int (x6 + 1))] [] I1 J1))))) : Wp d Sb_kindsByClicks Q 17 [some (.ref 0), some (.int x1), some (.ref 51), some (.int x3), some (.int x4), some (.int x5), some (.int x6)] [] I J := by
  refine Wp.steps 2 (pc' := 20) (lv' := [some (.ref 0), some (.int x1), some (.ref 51), some (.int x3), some (.int x4), some (.int x5), some (.int x6)]) (st' := [.int 4, .int x6]) (I' := I) (J' := J) rfl ?_
  refine Wp.steps 1 (pc' := if 4 < x6 then 70 else 23) (lv' := [some (.ref 0), some (.int x1), some (.ref 51), some (.int x3), some (.int x4), some (.int x5), some (.int x6)]) (st' := []) (I' := I) (J' := J) rfl (Wp.ite (fun h1 => ?_) (fun h1 => ?_))
  · replace h := h.1 h1
    refine Wp.steps 1 (pc' := 72) (lv' := [some (.ref 0), some (.int x1), some (.ref 51), some (.int x3), some (.int x4), some (.int x5), some (.int x6)]) (st' := [.int x5]) (I' := I) (J' := J) rfl ?_
    exact Wp.ret rfl h
  · replace h := h.2 h1
    refine Wp.steps 5 (pc' := 33) (lv' := [some (.ref 0), some (.int x1), some (.ref 51), some (.int x3), some (.int x4), some (.int x5), some (.int x6)]) (st' := [.int x6, .int x1, .ref 22]) (I' := I) (J' := J) rfl ?_
    refine Wp.iast rfl rfl h.1 ?_
    replace h := h.2
    refine Wp.steps 8 (pc' := 49) (lv' := [some (.ref 0), some (.int x1), some (.ref 51), some (.int x3), some (.int x4), some (.int x5), some (.int x6)]) (st' := [.int x4, .int x3, .ref 51, .int (I 21 10), .ref 21]) (I' := (up2 I 22 (tN x1) x6)) (J' := J) rfl ?_
    refine Wp.call (M' := Sb_clicksSo) (as := [.ref 21, .int (I 21 10), .ref 51, .int x3, .int x4]) (rest := []) rfl (CI.use h (fun v1 I1 J1 h => ?_))
    refine Wp.eqs (pc' := 52) (st' := [.int v1]) rfl rfl ?_
    refine Wp.steps 1 (pc' := if v1 = 0 then 64 else 55) (lv' := [some (.ref 0), some (.int x1), some (.ref 51), some (.int x3), some (.int x4), some (.int x5), some (.int x6)]) (st' := []) (I' := I1) (J' := J1) rfl (Wp.ite (fun h2 => ?_) (fun h2 => ?_))
    · replace h := h.1 h2
      refine Wp.steps 2 (pc' := 17) (lv' := [some (.ref 0), some (.int x1), some (.ref 51), some (.int x3), some (.int x4), some (.int x5), some (.int (x6 + 1))]) (st' := []) (I' := I1) (J' := J1) rfl ?_
      exact h
    · replace h := h.2 h2
      refine Wp.steps 8 (pc' := 17) (lv' := [some (.ref 0), some (.int x1), some (.ref 51), some (.int x3), some (.int x4), some (.int (x5 ||| (slI 1 x6))), some (.int (x6 + 1))]) (st' := []) (I' := I1) (J' := J1) rfl ?_
      exact h
theorem v_Sb_kindsByClicks_0_53_0 {d : Nat} {Q : Post} {I : I2} {J : J2} {x1 : Int32} {x3 : Int32} {x4 : Int32} (h : CV d Bx_becomes [.ref 21, .ref 1] I J (fun I1 J1 => Wp d Sb_kindsByClicks Q 17 [some (.ref 0), some (.int x1), some (.ref 53), some (.int x3), some (.int x4), some (.int 0), some (.int 0)] [] I1 J1)) : Wp d Sb_kindsByClicks Q 0 [some (.ref 0), some (.int x1), some (.ref 53), some (.int x3), some (.int x4), none, none] [] I J := by
  refine Wp.steps 4 (pc' := 8) (lv' := [some (.ref 0), some (.int x1), some (.ref 53), some (.int x3), some (.int x4), none, none]) (st' := [.ref 1, .ref 21]) (I' := I) (J' := J) rfl ?_
  refine Wp.call (M' := Bx_becomes) (as := [.ref 21, .ref 1]) (rest := []) rfl (CV.use h (fun I1 J1 h => ?_))
  refine Wp.eqs (pc' := 11) (st' := []) rfl rfl ?_
  refine Wp.steps 4 (pc' := 17) (lv' := [some (.ref 0), some (.int x1), some (.ref 53), some (.int x3), some (.int x4), some (.int 0), some (.int 0)]) (st' := []) (I' := I1) (J' := J1) rfl ?_
  exact h
theorem v_Sb_kindsByClicks_0_53_17 {d : Nat} {Q : Post} {I : I2} {J : J2} {x1 : Int32} {x3 : Int32} {x4 : Int32} {x5 : Int32} {x6 : Int32} (h : (4 < x6 → Q (some (.int x5)) I J) ∧ (¬ (4 < x6) → vp_in x1 5 ∧ (CI d Sb_clicksSo [.ref 21, .int (I 21 10), .ref 53, .int x3, .int x4] (up2 I 22 (tN x1) x6) J (fun v1 I1 J1 => (v1 = 0 → Wp d Sb_kindsByClicks Q 17 [some (.ref 0), some (.int x1), some (.ref 53), some (.int x3), some (.int x4), some (.int x5), some (.int (x6 + 1))] [] I1 J1) ∧ (¬ (v1 = 0) → Wp d Sb_kindsByClicks Q 17 [some (.ref 0), some (.int x1), some (.ref 53), some (.int x3), some (.int x4), some (.int (x5 ||| (slI 1 x6))), some (.int (x6 + 1))] [] I1 J1))))) : Wp d Sb_kindsByClicks Q 17 [some (.ref 0), some (.int x1), some (.ref 53), some (.int x3), some (.int x4), some (.int x5), some (.int x6)] [] I J := by
  refine Wp.steps 2 (pc' := 20) (lv' := [some (.ref 0), some (.int x1), some (.ref 53), some (.int x3), some (.int x4), some (.int x5), some (.int x6)]) (st' := [.int 4, .int x6]) (I' := I) (J' := J) rfl ?_
  refine Wp.steps 1 (pc' := if 4 < x6 then 70 else 23) (lv' := [some (.ref 0), some (.int x1), some (.ref 53), some (.int x3), some (.int x4), some (.int x5), some (.int x6)]) (st' := []) (I' := I) (J' := J) rfl (Wp.ite (fun h1 => ?_) (fun h1 => ?_))
  · replace h := h.1 h1
    refine Wp.steps 1 (pc' := 72) (lv' := [some (.ref 0), some (.int x1), some (.ref 53), some (.int x3), some (.int x4), some (.int x5), some (.int x6)]) (st' := [.int x5]) (I' := I) (J' := J) rfl ?_
    exact Wp.ret rfl h
  · replace h := h.2 h1
    refine Wp.steps 5 (pc' := 33) (lv' := [some (.ref 0), some (.int x1), some (.ref 53), some (.int x3), some (.int x4), some (.int x5), some (.int x6)]) (st' := [.int x6, .int x1, .ref 22]) (I' := I) (J' := J) rfl ?_
    refine Wp.iast rfl rfl h.1 ?_
    replace h := h.2
    refine Wp.steps 8 (pc' := 49) (lv' := [some (.ref 0), some (.int x1), some (.ref 53), some (.int x3), some (.int x4), some (.int x5), some (.int x6)]) (st' := [.int x4, .int x3, .ref 53, .int (I 21 10), .ref 21]) (I' := (up2 I 22 (tN x1) x6)) (J' := J) rfl ?_
    refine Wp.call (M' := Sb_clicksSo) (as := [.ref 21, .int (I 21 10), .ref 53, .int x3, .int x4]) (rest := []) rfl (CI.use h (fun v1 I1 J1 h => ?_))
    refine Wp.eqs (pc' := 52) (st' := [.int v1]) rfl rfl ?_
    refine Wp.steps 1 (pc' := if v1 = 0 then 64 else 55) (lv' := [some (.ref 0), some (.int x1), some (.ref 53), some (.int x3), some (.int x4), some (.int x5), some (.int x6)]) (st' := []) (I' := I1) (J' := J1) rfl (Wp.ite (fun h2 => ?_) (fun h2 => ?_))
    · replace h := h.1 h2
      refine Wp.steps 2 (pc' := 17) (lv' := [some (.ref 0), some (.int x1), some (.ref 53), some (.int x3), some (.int x4), some (.int x5), some (.int (x6 + 1))]) (st' := []) (I' := I1) (J' := J1) rfl ?_
      exact h
    · replace h := h.2 h2
      refine Wp.steps 8 (pc' := 17) (lv' := [some (.ref 0), some (.int x1), some (.ref 53), some (.int x3), some (.int x4), some (.int (x5 ||| (slI 1 x6))), some (.int (x6 + 1))]) (st' := []) (I' := I1) (J' := J1) rfl ?_
      exact h
theorem v_Sb_kindsByClicks_0_55_0 {d : Nat} {Q : Post} {I : I2} {J : J2} {x1 : Int32} {x3 : Int32} {x4 : Int32} (h : CV d Bx_becomes [.ref 21, .ref 1] I J (fun I1 J1 => Wp d Sb_kindsByClicks Q 17 [some (.ref 0), some (.int x1), some (.ref 55), some (.int x3), some (.int x4), some (.int 0), some (.int 0)] [] I1 J1)) : Wp d Sb_kindsByClicks Q 0 [some (.ref 0), some (.int x1), some (.ref 55), some (.int x3), some (.int x4), none, none] [] I J := by
  refine Wp.steps 4 (pc' := 8) (lv' := [some (.ref 0), some (.int x1), some (.ref 55), some (.int x3), some (.int x4), none, none]) (st' := [.ref 1, .ref 21]) (I' := I) (J' := J) rfl ?_
  refine Wp.call (M' := Bx_becomes) (as := [.ref 21, .ref 1]) (rest := []) rfl (CV.use h (fun I1 J1 h => ?_))
  refine Wp.eqs (pc' := 11) (st' := []) rfl rfl ?_
  refine Wp.steps 4 (pc' := 17) (lv' := [some (.ref 0), some (.int x1), some (.ref 55), some (.int x3), some (.int x4), some (.int 0), some (.int 0)]) (st' := []) (I' := I1) (J' := J1) rfl ?_
  exact h
theorem v_Sb_kindsByClicks_0_55_17 {d : Nat} {Q : Post} {I : I2} {J : J2} {x1 : Int32} {x3 : Int32} {x4 : Int32} {x5 : Int32} {x6 : Int32} (h : (4 < x6 → Q (some (.int x5)) I J) ∧ (¬ (4 < x6) → vp_in x1 5 ∧ (CI d Sb_clicksSo [.ref 21, .int (I 21 10), .ref 55, .int x3, .int x4] (up2 I 22 (tN x1) x6) J (fun v1 I1 J1 => (v1 = 0 → Wp d Sb_kindsByClicks Q 17 [some (.ref 0), some (.int x1), some (.ref 55), some (.int x3), some (.int x4), some (.int x5), some (.int (x6 + 1))] [] I1 J1) ∧ (¬ (v1 = 0) → Wp d Sb_kindsByClicks Q 17 [some (.ref 0), some (.int x1), some (.ref 55), some (.int x3), some (.int x4), some (.int (x5 ||| (slI 1 x6))), some (.int (x6 + 1))] [] I1 J1))))) : Wp d Sb_kindsByClicks Q 17 [some (.ref 0), some (.int x1), some (.ref 55), some (.int x3), some (.int x4), some (.int x5), some (.int x6)] [] I J := by
  refine Wp.steps 2 (pc' := 20) (lv' := [some (.ref 0), some (.int x1), some (.ref 55), some (.int x3), some (.int x4), some (.int x5), some (.int x6)]) (st' := [.int 4, .int x6]) (I' := I) (J' := J) rfl ?_
  refine Wp.steps 1 (pc' := if 4 < x6 then 70 else 23) (lv' := [some (.ref 0), some (.int x1), some (.ref 55), some (.int x3), some (.int x4), some (.int x5), some (.int x6)]) (st' := []) (I' := I) (J' := J) rfl (Wp.ite (fun h1 => ?_) (fun h1 => ?_))
  · replace h := h.1 h1
    refine Wp.steps 1 (pc' := 72) (lv' := [some (.ref 0), some (.int x1), some (.ref 55), some (.int x3), some (.int x4), some (.int x5), some (.int x6)]) (st' := [.int x5]) (I' := I) (J' := J) rfl ?_
    exact Wp.ret rfl h
  · replace h := h.2 h1
    refine Wp.steps 5 (pc' := 33) (lv' := [some (.ref 0), some (.int x1), some (.ref 55), some (.int x3), some (.int x4), some (.int x5), some (.int x6)]) (st' := [.int x6, .int x1, .ref 22]) (I' := I) (J' := J) rfl ?_
    refine Wp.iast rfl rfl h.1 ?_
    replace h := h.2
    refine Wp.steps 8 (pc' := 49) (lv' := [some (.ref 0), some (.int x1), some (.ref 55), some (.int x3), some (.int x4), some (.int x5), some (.int x6)]) (st' := [.int x4, .int x3, .ref 55, .int (I 21 10), .ref 21]) (I' := (up2 I 22 (tN x1) x6)) (J' := J) rfl ?_
    refine Wp.call (M' := Sb_clicksSo) (as := [.ref 21, .int (I 21 10), .ref 55, .int x3, .int x4]) (rest := []) rfl (CI.use h (fun v1 I1 J1 h => ?_))
    refine Wp.eqs (pc' := 52) (st' := [.int v1]) rfl rfl ?_
    refine Wp.steps 1 (pc' := if v1 = 0 then 64 else 55) (lv' := [some (.ref 0), some (.int x1), some (.ref 55), some (.int x3), some (.int x4), some (.int x5), some (.int x6)]) (st' := []) (I' := I1) (J' := J1) rfl (Wp.ite (fun h2 => ?_) (fun h2 => ?_))
    · replace h := h.1 h2
      refine Wp.steps 2 (pc' := 17) (lv' := [some (.ref 0), some (.int x1), some (.ref 55), some (.int x3), some (.int x4), some (.int x5), some (.int (x6 + 1))]) (st' := []) (I' := I1) (J' := J1) rfl ?_
      exact h
    · replace h := h.2 h2
      refine Wp.steps 8 (pc' := 17) (lv' := [some (.ref 0), some (.int x1), some (.ref 55), some (.int x3), some (.int x4), some (.int (x5 ||| (slI 1 x6))), some (.int (x6 + 1))]) (st' := []) (I' := I1) (J' := J1) rfl ?_
      exact h
theorem v_Sb_clicksSo_1_49_0 {d : Nat} {Q : Post} {I : I2} {J : J2} {x1 : Int32} {x3 : Int32} {x4 : Int32} (h : Wp d Sb_clicksSo Q 9 [some (.ref 1), some (.int x1), some (.ref 49), some (.int x3), some (.int x4), some (.int (I 1 9)), some (.int 0), none, none] [] I J) : Wp d Sb_clicksSo Q 0 [some (.ref 1), some (.int x1), some (.ref 49), some (.int x3), some (.int x4), none, none, none, none] [] I J := by
  refine Wp.steps 5 (pc' := 9) (lv' := [some (.ref 1), some (.int x1), some (.ref 49), some (.int x3), some (.int x4), some (.int (I 1 9)), some (.int 0), none, none]) (st' := []) (I' := I) (J' := J) rfl ?_
  exact h
theorem v_Sb_clicksSo_1_49_9 {d : Nat} {Q : Post} {I : I2} {J : J2} {x1 : Int32} {x3 : Int32} {x4 : Int32} {x5 : Int32} {x6 : Int32} (h : (x6 < x4 → CL d Sh_look [.ref 49, .int (x3 + (2 * x6))] I J (fun v1 I1 J1 => CL d Sh_look [.ref 49, .int ((x3 + (2 * x6)) + 1)] I1 J1 (fun v2 I2 J2 => ((lg_cmp v2 1) = 0 → CI d Bx_maySlide [.ref 1, .int x5, .int x1, .int ((Int64.toInt32 v1) / 10), .int (rmI (Int64.toInt32 v1) 10)] I2 J2 (fun v3 I3 J3 => (v3 = 1 → CI d Bx_behind [.ref 1, .int x5, .int ((Int64.toInt32 v1) / 10), .int (rmI (Int64.toInt32 v1) 10)] I3 J3 (fun v4 I4 J4 => Wp d Sb_clicksSo Q 9 [some (.ref 1), some (.int x1), some (.ref 49), some (.int x3), some (.int x4), some (.int v4), some (.int (x6 + 1)), none, none] [] I4 J4)) ∧ (¬ (v3 = 1) → Q (some (.int 0)) I3 J3))) ∧ (¬ ((lg_cmp v2 1) = 0) → CI d Bx_maySlide [.ref 1, .int x5, .int x1, .int ((Int64.toInt32 v1) / 10), .int (rmI (Int64.toInt32 v1) 10)] I2 J2 (fun v3 I3 J3 => (v3 = 0 → Wp d Sb_clicksSo Q 9 [some (.ref 1), some (.int x1), some (.ref 49), some (.int x3), some (.int x4), some (.int x5), some (.int (x6 + 1)), none, none] [] I3 J3) ∧ (¬ (v3 = 0) → Q (some (.int 0)) I3 J3)))))) ∧ (¬ (x6 < x4) → Q (some (.int 1)) I J)) : Wp d Sb_clicksSo Q 9 [some (.ref 1), some (.int x1), some (.ref 49), some (.int x3), some (.int x4), some (.int x5), some (.int x6), none, none] [] I J := by
  refine Wp.steps 2 (pc' := 13) (lv' := [some (.ref 1), some (.int x1), some (.ref 49), some (.int x3), some (.int x4), some (.int x5), some (.int x6), none, none]) (st' := [.int x4, .int x6]) (I' := I) (J' := J) rfl ?_
  refine Wp.steps 1 (pc' := if x6 < x4 then 16 else 106) (lv' := [some (.ref 1), some (.int x1), some (.ref 49), some (.int x3), some (.int x4), some (.int x5), some (.int x6), none, none]) (st' := []) (I' := I) (J' := J) rfl (Wp.ite (fun h1 => ?_) (fun h1 => ?_))
  · replace h := h.1 h1
    refine Wp.steps 6 (pc' := 23) (lv' := [some (.ref 1), some (.int x1), some (.ref 49), some (.int x3), some (.int x4), some (.int x5), some (.int x6), none, none]) (st' := [.int (x3 + (2 * x6)), .ref 49]) (I' := I) (J' := J) rfl ?_
    refine Wp.call (M' := Sh_look) (as := [.ref 49, .int (x3 + (2 * x6))]) (rest := []) rfl (CL.use h (fun v1 I1 J1 h => ?_))
    refine Wp.eqs (pc' := 26) (st' := [.long v1]) rfl rfl ?_
    refine Wp.steps 10 (pc' := 38) (lv' := [some (.ref 1), some (.int x1), some (.ref 49), some (.int x3), some (.int x4), some (.int x5), some (.int x6), some (.int (Int64.toInt32 v1)), none]) (st' := [.int ((x3 + (2 * x6)) + 1), .ref 49]) (I' := I1) (J' := J1) rfl ?_
    refine Wp.call (M' := Sh_look) (as := [.ref 49, .int ((x3 + (2 * x6)) + 1)]) (rest := []) rfl (CL.use h (fun v2 I2 J2 h => ?_))
    refine Wp.eqs (pc' := 41) (st' := [.long v2]) rfl rfl ?_
    refine Wp.steps 2 (pc' := 43) (lv' := [some (.ref 1), some (.int x1), some (.ref 49), some (.int x3), some (.int x4), some (.int x5), some (.int x6), some (.int (Int64.toInt32 v1)), none]) (st' := [.int (lg_cmp v2 1)]) (I' := I2) (J' := J2) rfl ?_
    refine Wp.steps 1 (pc' := if (lg_cmp v2 1) = 0 then 46 else 50) (lv' := [some (.ref 1), some (.int x1), some (.ref 49), some (.int x3), some (.int x4), some (.int x5), some (.int x6), some (.int (Int64.toInt32 v1)), none]) (st' := []) (I' := I2) (J' := J2) rfl (Wp.ite (fun h2 => ?_) (fun h2 => ?_))
    · replace h := h.1 h2
      refine Wp.steps 12 (pc' := 67) (lv' := [some (.ref 1), some (.int x1), some (.ref 49), some (.int x3), some (.int x4), some (.int x5), some (.int x6), some (.int (Int64.toInt32 v1)), some (.int 1)]) (st' := [.int (rmI (Int64.toInt32 v1) 10), .int ((Int64.toInt32 v1) / 10), .int x1, .int x5, .ref 1]) (I' := I2) (J' := J2) rfl ?_
      refine Wp.call (M' := Bx_maySlide) (as := [.ref 1, .int x5, .int x1, .int ((Int64.toInt32 v1) / 10), .int (rmI (Int64.toInt32 v1) 10)]) (rest := []) rfl (CI.use h (fun v3 I3 J3 h => ?_))
      refine Wp.eqs (pc' := 70) (st' := [.int v3]) rfl rfl ?_
      refine Wp.steps 1 (pc' := 72) (lv' := [some (.ref 1), some (.int x1), some (.ref 49), some (.int x3), some (.int x4), some (.int x5), some (.int x6), some (.int (Int64.toInt32 v1)), some (.int 1)]) (st' := [.int 1, .int v3]) (I' := I3) (J' := J3) rfl ?_
      refine Wp.steps 1 (pc' := if v3 = 1 then 77 else 75) (lv' := [some (.ref 1), some (.int x1), some (.ref 49), some (.int x3), some (.int x4), some (.int x5), some (.int x6), some (.int (Int64.toInt32 v1)), some (.int 1)]) (st' := []) (I' := I3) (J' := J3) rfl (Wp.ite (fun h3 => ?_) (fun h3 => ?_))
      · replace h := h.1 h3
        refine Wp.steps 10 (pc' := 95) (lv' := [some (.ref 1), some (.int x1), some (.ref 49), some (.int x3), some (.int x4), some (.int x5), some (.int x6), some (.int (Int64.toInt32 v1)), some (.int 1)]) (st' := [.int (rmI (Int64.toInt32 v1) 10), .int ((Int64.toInt32 v1) / 10), .int x5, .ref 1]) (I' := I3) (J' := J3) rfl ?_
        refine Wp.call (M' := Bx_behind) (as := [.ref 1, .int x5, .int ((Int64.toInt32 v1) / 10), .int (rmI (Int64.toInt32 v1) 10)]) (rest := []) rfl (CI.use h (fun v4 I4 J4 h => ?_))
        refine Wp.eqs (pc' := 98) (st' := [.int v4]) rfl rfl ?_
        refine Wp.steps 3 (pc' := 9) (lv' := [some (.ref 1), some (.int x1), some (.ref 49), some (.int x3), some (.int x4), some (.int v4), some (.int (x6 + 1)), some (.int (Int64.toInt32 v1)), some (.int 1)]) (st' := []) (I' := I4) (J' := J4) rfl ?_
        refine Wp.drop [7, 8] (lv' := [some (.ref 1), some (.int x1), some (.ref 49), some (.int x3), some (.int x4), some (.int v4), some (.int (x6 + 1)), none, none]) rfl ?_
        exact h
      · replace h := h.2 h3
        refine Wp.steps 1 (pc' := 76) (lv' := [some (.ref 1), some (.int x1), some (.ref 49), some (.int x3), some (.int x4), some (.int x5), some (.int x6), some (.int (Int64.toInt32 v1)), some (.int 1)]) (st' := [.int 0]) (I' := I3) (J' := J3) rfl ?_
        exact Wp.ret rfl h
    · replace h := h.2 h2
      refine Wp.steps 11 (pc' := 67) (lv' := [some (.ref 1), some (.int x1), some (.ref 49), some (.int x3), some (.int x4), some (.int x5), some (.int x6), some (.int (Int64.toInt32 v1)), some (.int 0)]) (st' := [.int (rmI (Int64.toInt32 v1) 10), .int ((Int64.toInt32 v1) / 10), .int x1, .int x5, .ref 1]) (I' := I2) (J' := J2) rfl ?_
      refine Wp.call (M' := Bx_maySlide) (as := [.ref 1, .int x5, .int x1, .int ((Int64.toInt32 v1) / 10), .int (rmI (Int64.toInt32 v1) 10)]) (rest := []) rfl (CI.use h (fun v3 I3 J3 h => ?_))
      refine Wp.eqs (pc' := 70) (st' := [.int v3]) rfl rfl ?_
      refine Wp.steps 1 (pc' := 72) (lv' := [some (.ref 1), some (.int x1), some (.ref 49), some (.int x3), some (.int x4), some (.int x5), some (.int x6), some (.int (Int64.toInt32 v1)), some (.int 0)]) (st' := [.int 0, .int v3]) (I' := I3) (J' := J3) rfl ?_
      refine Wp.steps 1 (pc' := if v3 = 0 then 77 else 75) (lv' := [some (.ref 1), some (.int x1), some (.ref 49), some (.int x3), some (.int x4), some (.int x5), some (.int x6), some (.int (Int64.toInt32 v1)), some (.int 0)]) (st' := []) (I' := I3) (J' := J3) rfl (Wp.ite (fun h3 => ?_) (fun h3 => ?_))
      · replace h := h.1 h3
        refine Wp.steps 4 (pc' := 9) (lv' := [some (.ref 1), some (.int x1), some (.ref 49), some (.int x3), some (.int x4), some (.int x5), some (.int (x6 + 1)), some (.int (Int64.toInt32 v1)), some (.int 0)]) (st' := []) (I' := I3) (J' := J3) rfl ?_
        refine Wp.drop [7, 8] (lv' := [some (.ref 1), some (.int x1), some (.ref 49), some (.int x3), some (.int x4), some (.int x5), some (.int (x6 + 1)), none, none]) rfl ?_
        exact h
      · replace h := h.2 h3
        refine Wp.steps 1 (pc' := 76) (lv' := [some (.ref 1), some (.int x1), some (.ref 49), some (.int x3), some (.int x4), some (.int x5), some (.int x6), some (.int (Int64.toInt32 v1)), some (.int 0)]) (st' := [.int 0]) (I' := I3) (J' := J3) rfl ?_
        exact Wp.ret rfl h
  · replace h := h.2 h1
    refine Wp.steps 1 (pc' := 107) (lv' := [some (.ref 1), some (.int x1), some (.ref 49), some (.int x3), some (.int x4), some (.int x5), some (.int x6), none, none]) (st' := [.int 1]) (I' := I) (J' := J) rfl ?_
    exact Wp.ret rfl h
theorem v_Sb_clicksSo_1_51_0 {d : Nat} {Q : Post} {I : I2} {J : J2} {x1 : Int32} {x3 : Int32} {x4 : Int32} (h : Wp d Sb_clicksSo Q 9 [some (.ref 1), some (.int x1), some (.ref 51), some (.int x3), some (.int x4), some (.int (I 1 9)), some (.int 0), none, none] [] I J) : Wp d Sb_clicksSo Q 0 [some (.ref 1), some (.int x1), some (.ref 51), some (.int x3), some (.int x4), none, none, none, none] [] I J := by
  refine Wp.steps 5 (pc' := 9) (lv' := [some (.ref 1), some (.int x1), some (.ref 51), some (.int x3), some (.int x4), some (.int (I 1 9)), some (.int 0), none, none]) (st' := []) (I' := I) (J' := J) rfl ?_
  exact h
theorem v_Sb_clicksSo_1_51_9 {d : Nat} {Q : Post} {I : I2} {J : J2} {x1 : Int32} {x3 : Int32} {x4 : Int32} {x5 : Int32} {x6 : Int32} (h : (x6 < x4 → CL d Sh_look [.ref 51, .int (x3 + (2 * x6))] I J (fun v1 I1 J1 => CL d Sh_look [.ref 51, .int ((x3 + (2 * x6)) + 1)] I1 J1 (fun v2 I2 J2 => ((lg_cmp v2 1) = 0 → CI d Bx_maySlide [.ref 1, .int x5, .int x1, .int ((Int64.toInt32 v1) / 10), .int (rmI (Int64.toInt32 v1) 10)] I2 J2 (fun v3 I3 J3 => (v3 = 1 → CI d Bx_behind [.ref 1, .int x5, .int ((Int64.toInt32 v1) / 10), .int (rmI (Int64.toInt32 v1) 10)] I3 J3 (fun v4 I4 J4 => Wp d Sb_clicksSo Q 9 [some (.ref 1), some (.int x1), some (.ref 51), some (.int x3), some (.int x4), some (.int v4), some (.int (x6 + 1)), none, none] [] I4 J4)) ∧ (¬ (v3 = 1) → Q (some (.int 0)) I3 J3))) ∧ (¬ ((lg_cmp v2 1) = 0) → CI d Bx_maySlide [.ref 1, .int x5, .int x1, .int ((Int64.toInt32 v1) / 10), .int (rmI (Int64.toInt32 v1) 10)] I2 J2 (fun v3 I3 J3 => (v3 = 0 → Wp d Sb_clicksSo Q 9 [some (.ref 1), some (.int x1), some (.ref 51), some (.int x3), some (.int x4), some (.int x5), some (.int (x6 + 1)), none, none] [] I3 J3) ∧ (¬ (v3 = 0) → Q (some (.int 0)) I3 J3)))))) ∧ (¬ (x6 < x4) → Q (some (.int 1)) I J)) : Wp d Sb_clicksSo Q 9 [some (.ref 1), some (.int x1), some (.ref 51), some (.int x3), some (.int x4), some (.int x5), some (.int x6), none, none] [] I J := by
  refine Wp.steps 2 (pc' := 13) (lv' := [some (.ref 1), some (.int x1), some (.ref 51), some (.int x3), some (.int x4), some (.int x5), some (.int x6), none, none]) (st' := [.int x4, .int x6]) (I' := I) (J' := J) rfl ?_
  refine Wp.steps 1 (pc' := if x6 < x4 then 16 else 106) (lv' := [some (.ref 1), some (.int x1), some (.ref 51), some (.int x3), some (.int x4), some (.int x5), some (.int x6), none, none]) (st' := []) (I' := I) (J' := J) rfl (Wp.ite (fun h1 => ?_) (fun h1 => ?_))
  · replace h := h.1 h1
    refine Wp.steps 6 (pc' := 23) (lv' := [some (.ref 1), some (.int x1), some (.ref 51), some (.int x3), some (.int x4), some (.int x5), some (.int x6), none, none]) (st' := [.int (x3 + (2 * x6)), .ref 51]) (I' := I) (J' := J) rfl ?_
    refine Wp.call (M' := Sh_look) (as := [.ref 51, .int (x3 + (2 * x6))]) (rest := []) rfl (CL.use h (fun v1 I1 J1 h => ?_))
    refine Wp.eqs (pc' := 26) (st' := [.long v1]) rfl rfl ?_
    refine Wp.steps 10 (pc' := 38) (lv' := [some (.ref 1), some (.int x1), some (.ref 51), some (.int x3), some (.int x4), some (.int x5), some (.int x6), some (.int (Int64.toInt32 v1)), none]) (st' := [.int ((x3 + (2 * x6)) + 1), .ref 51]) (I' := I1) (J' := J1) rfl ?_
    refine Wp.call (M' := Sh_look) (as := [.ref 51, .int ((x3 + (2 * x6)) + 1)]) (rest := []) rfl (CL.use h (fun v2 I2 J2 h => ?_))
    refine Wp.eqs (pc' := 41) (st' := [.long v2]) rfl rfl ?_
    refine Wp.steps 2 (pc' := 43) (lv' := [some (.ref 1), some (.int x1), some (.ref 51), some (.int x3), some (.int x4), some (.int x5), some (.int x6), some (.int (Int64.toInt32 v1)), none]) (st' := [.int (lg_cmp v2 1)]) (I' := I2) (J' := J2) rfl ?_
    refine Wp.steps 1 (pc' := if (lg_cmp v2 1) = 0 then 46 else 50) (lv' := [some (.ref 1), some (.int x1), some (.ref 51), some (.int x3), some (.int x4), some (.int x5), some (.int x6), some (.int (Int64.toInt32 v1)), none]) (st' := []) (I' := I2) (J' := J2) rfl (Wp.ite (fun h2 => ?_) (fun h2 => ?_))
    · replace h := h.1 h2
      refine Wp.steps 12 (pc' := 67) (lv' := [some (.ref 1), some (.int x1), some (.ref 51), some (.int x3), some (.int x4), some (.int x5), some (.int x6), some (.int (Int64.toInt32 v1)), some (.int 1)]) (st' := [.int (rmI (Int64.toInt32 v1) 10), .int ((Int64.toInt32 v1) / 10), .int x1, .int x5, .ref 1]) (I' := I2) (J' := J2) rfl ?_
      refine Wp.call (M' := Bx_maySlide) (as := [.ref 1, .int x5, .int x1, .int ((Int64.toInt32 v1) / 10), .int (rmI (Int64.toInt32 v1) 10)]) (rest := []) rfl (CI.use h (fun v3 I3 J3 h => ?_))
      refine Wp.eqs (pc' := 70) (st' := [.int v3]) rfl rfl ?_
      refine Wp.steps 1 (pc' := 72) (lv' := [some (.ref 1), some (.int x1), some (.ref 51), some (.int x3), some (.int x4), some (.int x5), some (.int x6), some (.int (Int64.toInt32 v1)), some (.int 1)]) (st' := [.int 1, .int v3]) (I' := I3) (J' := J3) rfl ?_
      refine Wp.steps 1 (pc' := if v3 = 1 then 77 else 75) (lv' := [some (.ref 1), some (.int x1), some (.ref 51), some (.int x3), some (.int x4), some (.int x5), some (.int x6), some (.int (Int64.toInt32 v1)), some (.int 1)]) (st' := []) (I' := I3) (J' := J3) rfl (Wp.ite (fun h3 => ?_) (fun h3 => ?_))
      · replace h := h.1 h3
        refine Wp.steps 10 (pc' := 95) (lv' := [some (.ref 1), some (.int x1), some (.ref 51), some (.int x3), some (.int x4), some (.int x5), some (.int x6), some (.int (Int64.toInt32 v1)), some (.int 1)]) (st' := [.int (rmI (Int64.toInt32 v1) 10), .int ((Int64.toInt32 v1) / 10), .int x5, .ref 1]) (I' := I3) (J' := J3) rfl ?_
        refine Wp.call (M' := Bx_behind) (as := [.ref 1, .int x5, .int ((Int64.toInt32 v1) / 10), .int (rmI (Int64.toInt32 v1) 10)]) (rest := []) rfl (CI.use h (fun v4 I4 J4 h => ?_))
        refine Wp.eqs (pc' := 98) (st' := [.int v4]) rfl rfl ?_
        refine Wp.steps 3 (pc' := 9) (lv' := [some (.ref 1), some (.int x1), some (.ref 51), some (.int x3), some (.int x4), some (.int v4), some (.int (x6 + 1)), some (.int (Int64.toInt32 v1)), some (.int 1)]) (st' := []) (I' := I4) (J' := J4) rfl ?_
        refine Wp.drop [7, 8] (lv' := [some (.ref 1), some (.int x1), some (.ref 51), some (.int x3), some (.int x4), some (.int v4), some (.int (x6 + 1)), none, none]) rfl ?_
        exact h
      · replace h := h.2 h3
        refine Wp.steps 1 (pc' := 76) (lv' := [some (.ref 1), some (.int x1), some (.ref 51), some (.int x3), some (.int x4), some (.int x5), some (.int x6), some (.int (Int64.toInt32 v1)), some (.int 1)]) (st' := [.int 0]) (I' := I3) (J' := J3) rfl ?_
        exact Wp.ret rfl h
    · replace h := h.2 h2
      refine Wp.steps 11 (pc' := 67) (lv' := [some (.ref 1), some (.int x1), some (.ref 51), some (.int x3), some (.int x4), some (.int x5), some (.int x6), some (.int (Int64.toInt32 v1)), some (.int 0)]) (st' := [.int (rmI (Int64.toInt32 v1) 10), .int ((Int64.toInt32 v1) / 10), .int x1, .int x5, .ref 1]) (I' := I2) (J' := J2) rfl ?_
      refine Wp.call (M' := Bx_maySlide) (as := [.ref 1, .int x5, .int x1, .int ((Int64.toInt32 v1) / 10), .int (rmI (Int64.toInt32 v1) 10)]) (rest := []) rfl (CI.use h (fun v3 I3 J3 h => ?_))
      refine Wp.eqs (pc' := 70) (st' := [.int v3]) rfl rfl ?_
      refine Wp.steps 1 (pc' := 72) (lv' := [some (.ref 1), some (.int x1), some (.ref 51), some (.int x3), some (.int x4), some (.int x5), some (.int x6), some (.int (Int64.toInt32 v1)), some (.int 0)]) (st' := [.int 0, .int v3]) (I' := I3) (J' := J3) rfl ?_
      refine Wp.steps 1 (pc' := if v3 = 0 then 77 else 75) (lv' := [some (.ref 1), some (.int x1), some (.ref 51), some (.int x3), some (.int x4), some (.int x5), some (.int x6), some (.int (Int64.toInt32 v1)), some (.int 0)]) (st' := []) (I' := I3) (J' := J3) rfl (Wp.ite (fun h3 => ?_) (fun h3 => ?_))
      · replace h := h.1 h3
        refine Wp.steps 4 (pc' := 9) (lv' := [some (.ref 1), some (.int x1), some (.ref 51), some (.int x3), some (.int x4), some (.int x5), some (.int (x6 + 1)), some (.int (Int64.toInt32 v1)), some (.int 0)]) (st' := []) (I' := I3) (J' := J3) rfl ?_
        refine Wp.drop [7, 8] (lv' := [some (.ref 1), some (.int x1), some (.ref 51), some (.int x3), some (.int x4), some (.int x5), some (.int (x6 + 1)), none, none]) rfl ?_
        exact h
      · replace h := h.2 h3
        refine Wp.steps 1 (pc' := 76) (lv' := [some (.ref 1), some (.int x1), some (.ref 51), some (.int x3), some (.int x4), some (.int x5), some (.int x6), some (.int (Int64.toInt32 v1)), some (.int 0)]) (st' := [.int 0]) (I' := I3) (J' := J3) rfl ?_
        exact Wp.ret rfl h
  · replace h := h.2 h1
    refine Wp.steps 1 (pc' := 107) (lv' := [some (.ref 1), some (.int x1), some (.ref 51), some (.int x3), some (.int x4), some (.int x5), some (.int x6), none, none]) (st' := [.int 1]) (I' := I) (J' := J) rfl ?_
    exact Wp.ret rfl h
theorem v_Sb_clicksSo_1_53_0 {d : Nat} {Q : Post} {I : I2} {J : J2} {x1 : Int32} {x3 : Int32} {x4 : Int32} (h : Wp d Sb_clicksSo Q 9 [some (.ref 1), some (.int x1), some (.ref 53), some (.int x3), some (.int x4), some (.int (I 1 9)), some (.int 0), none, none] [] I J) : Wp d Sb_clicksSo Q 0 [some (.ref 1), some (.int x1), some (.ref 53), some (.int x3), some (.int x4), none, none, none, none] [] I J := by
  refine Wp.steps 5 (pc' := 9) (lv' := [some (.ref 1), some (.int x1), some (.ref 53), some (.int x3), some (.int x4), some (.int (I 1 9)), some (.int 0), none, none]) (st' := []) (I' := I) (J' := J) rfl ?_
  exact h
theorem v_Sb_clicksSo_1_53_9 {d : Nat} {Q : Post} {I : I2} {J : J2} {x1 : Int32} {x3 : Int32} {x4 : Int32} {x5 : Int32} {x6 : Int32} (h : (x6 < x4 → CL d Sh_look [.ref 53, .int (x3 + (2 * x6))] I J (fun v1 I1 J1 => CL d Sh_look [.ref 53, .int ((x3 + (2 * x6)) + 1)] I1 J1 (fun v2 I2 J2 => ((lg_cmp v2 1) = 0 → CI d Bx_maySlide [.ref 1, .int x5, .int x1, .int ((Int64.toInt32 v1) / 10), .int (rmI (Int64.toInt32 v1) 10)] I2 J2 (fun v3 I3 J3 => (v3 = 1 → CI d Bx_behind [.ref 1, .int x5, .int ((Int64.toInt32 v1) / 10), .int (rmI (Int64.toInt32 v1) 10)] I3 J3 (fun v4 I4 J4 => Wp d Sb_clicksSo Q 9 [some (.ref 1), some (.int x1), some (.ref 53), some (.int x3), some (.int x4), some (.int v4), some (.int (x6 + 1)), none, none] [] I4 J4)) ∧ (¬ (v3 = 1) → Q (some (.int 0)) I3 J3))) ∧ (¬ ((lg_cmp v2 1) = 0) → CI d Bx_maySlide [.ref 1, .int x5, .int x1, .int ((Int64.toInt32 v1) / 10), .int (rmI (Int64.toInt32 v1) 10)] I2 J2 (fun v3 I3 J3 => (v3 = 0 → Wp d Sb_clicksSo Q 9 [some (.ref 1), some (.int x1), some (.ref 53), some (.int x3), some (.int x4), some (.int x5), some (.int (x6 + 1)), none, none] [] I3 J3) ∧ (¬ (v3 = 0) → Q (some (.int 0)) I3 J3)))))) ∧ (¬ (x6 < x4) → Q (some (.int 1)) I J)) : Wp d Sb_clicksSo Q 9 [some (.ref 1), some (.int x1), some (.ref 53), some (.int x3), some (.int x4), some (.int x5), some (.int x6), none, none] [] I J := by
  refine Wp.steps 2 (pc' := 13) (lv' := [some (.ref 1), some (.int x1), some (.ref 53), some (.int x3), some (.int x4), some (.int x5), some (.int x6), none, none]) (st' := [.int x4, .int x6]) (I' := I) (J' := J) rfl ?_
  refine Wp.steps 1 (pc' := if x6 < x4 then 16 else 106) (lv' := [some (.ref 1), some (.int x1), some (.ref 53), some (.int x3), some (.int x4), some (.int x5), some (.int x6), none, none]) (st' := []) (I' := I) (J' := J) rfl (Wp.ite (fun h1 => ?_) (fun h1 => ?_))
  · replace h := h.1 h1
    refine Wp.steps 6 (pc' := 23) (lv' := [some (.ref 1), some (.int x1), some (.ref 53), some (.int x3), some (.int x4), some (.int x5), some (.int x6), none, none]) (st' := [.int (x3 + (2 * x6)), .ref 53]) (I' := I) (J' := J) rfl ?_
    refine Wp.call (M' := Sh_look) (as := [.ref 53, .int (x3 + (2 * x6))]) (rest := []) rfl (CL.use h (fun v1 I1 J1 h => ?_))
    refine Wp.eqs (pc' := 26) (st' := [.long v1]) rfl rfl ?_
    refine Wp.steps 10 (pc' := 38) (lv' := [some (.ref 1), some (.int x1), some (.ref 53), some (.int x3), some (.int x4), some (.int x5), some (.int x6), some (.int (Int64.toInt32 v1)), none]) (st' := [.int ((x3 + (2 * x6)) + 1), .ref 53]) (I' := I1) (J' := J1) rfl ?_
    refine Wp.call (M' := Sh_look) (as := [.ref 53, .int ((x3 + (2 * x6)) + 1)]) (rest := []) rfl (CL.use h (fun v2 I2 J2 h => ?_))
    refine Wp.eqs (pc' := 41) (st' := [.long v2]) rfl rfl ?_
    refine Wp.steps 2 (pc' := 43) (lv' := [some (.ref 1), some (.int x1), some (.ref 53), some (.int x3), some (.int x4), some (.int x5), some (.int x6), some (.int (Int64.toInt32 v1)), none]) (st' := [.int (lg_cmp v2 1)]) (I' := I2) (J' := J2) rfl ?_
    refine Wp.steps 1 (pc' := if (lg_cmp v2 1) = 0 then 46 else 50) (lv' := [some (.ref 1), some (.int x1), some (.ref 53), some (.int x3), some (.int x4), some (.int x5), some (.int x6), some (.int (Int64.toInt32 v1)), none]) (st' := []) (I' := I2) (J' := J2) rfl (Wp.ite (fun h2 => ?_) (fun h2 => ?_))
    · replace h := h.1 h2
      refine Wp.steps 12 (pc' := 67) (lv' := [some (.ref 1), some (.int x1), some (.ref 53), some (.int x3), some (.int x4), some (.int x5), some (.int x6), some (.int (Int64.toInt32 v1)), some (.int 1)]) (st' := [.int (rmI (Int64.toInt32 v1) 10), .int ((Int64.toInt32 v1) / 10), .int x1, .int x5, .ref 1]) (I' := I2) (J' := J2) rfl ?_
      refine Wp.call (M' := Bx_maySlide) (as := [.ref 1, .int x5, .int x1, .int ((Int64.toInt32 v1) / 10), .int (rmI (Int64.toInt32 v1) 10)]) (rest := []) rfl (CI.use h (fun v3 I3 J3 h => ?_))
      refine Wp.eqs (pc' := 70) (st' := [.int v3]) rfl rfl ?_
      refine Wp.steps 1 (pc' := 72) (lv' := [some (.ref 1), some (.int x1), some (.ref 53), some (.int x3), some (.int x4), some (.int x5), some (.int x6), some (.int (Int64.toInt32 v1)), some (.int 1)]) (st' := [.int 1, .int v3]) (I' := I3) (J' := J3) rfl ?_
      refine Wp.steps 1 (pc' := if v3 = 1 then 77 else 75) (lv' := [some (.ref 1), some (.int x1), some (.ref 53), some (.int x3), some (.int x4), some (.int x5), some (.int x6), some (.int (Int64.toInt32 v1)), some (.int 1)]) (st' := []) (I' := I3) (J' := J3) rfl (Wp.ite (fun h3 => ?_) (fun h3 => ?_))
      · replace h := h.1 h3
        refine Wp.steps 10 (pc' := 95) (lv' := [some (.ref 1), some (.int x1), some (.ref 53), some (.int x3), some (.int x4), some (.int x5), some (.int x6), some (.int (Int64.toInt32 v1)), some (.int 1)]) (st' := [.int (rmI (Int64.toInt32 v1) 10), .int ((Int64.toInt32 v1) / 10), .int x5, .ref 1]) (I' := I3) (J' := J3) rfl ?_
        refine Wp.call (M' := Bx_behind) (as := [.ref 1, .int x5, .int ((Int64.toInt32 v1) / 10), .int (rmI (Int64.toInt32 v1) 10)]) (rest := []) rfl (CI.use h (fun v4 I4 J4 h => ?_))
        refine Wp.eqs (pc' := 98) (st' := [.int v4]) rfl rfl ?_
        refine Wp.steps 3 (pc' := 9) (lv' := [some (.ref 1), some (.int x1), some (.ref 53), some (.int x3), some (.int x4), some (.int v4), some (.int (x6 + 1)), some (.int (Int64.toInt32 v1)), some (.int 1)]) (st' := []) (I' := I4) (J' := J4) rfl ?_
        refine Wp.drop [7, 8] (lv' := [some (.ref 1), some (.int x1), some (.ref 53), some (.int x3), some (.int x4), some (.int v4), some (.int (x6 + 1)), none, none]) rfl ?_
        exact h
      · replace h := h.2 h3
        refine Wp.steps 1 (pc' := 76) (lv' := [some (.ref 1), some (.int x1), some (.ref 53), some (.int x3), some (.int x4), some (.int x5), some (.int x6), some (.int (Int64.toInt32 v1)), some (.int 1)]) (st' := [.int 0]) (I' := I3) (J' := J3) rfl ?_
        exact Wp.ret rfl h
    · replace h := h.2 h2
      refine Wp.steps 11 (pc' := 67) (lv' := [some (.ref 1), some (.int x1), some (.ref 53), some (.int x3), some (.int x4), some (.int x5), some (.int x6), some (.int (Int64.toInt32 v1)), some (.int 0)]) (st' := [.int (rmI (Int64.toInt32 v1) 10), .int ((Int64.toInt32 v1) / 10), .int x1, .int x5, .ref 1]) (I' := I2) (J' := J2) rfl ?_
      refine Wp.call (M' := Bx_maySlide) (as := [.ref 1, .int x5, .int x1, .int ((Int64.toInt32 v1) / 10), .int (rmI (Int64.toInt32 v1) 10)]) (rest := []) rfl (CI.use h (fun v3 I3 J3 h => ?_))
      refine Wp.eqs (pc' := 70) (st' := [.int v3]) rfl rfl ?_
      refine Wp.steps 1 (pc' := 72) (lv' := [some (.ref 1), some (.int x1), some (.ref 53), some (.int x3), some (.int x4), some (.int x5), some (.int x6), some (.int (Int64.toInt32 v1)), some (.int 0)]) (st' := [.int 0, .int v3]) (I' := I3) (J' := J3) rfl ?_
      refine Wp.steps 1 (pc' := if v3 = 0 then 77 else 75) (lv' := [some (.ref 1), some (.int x1), some (.ref 53), some (.int x3), some (.int x4), some (.int x5), some (.int x6), some (.int (Int64.toInt32 v1)), some (.int 0)]) (st' := []) (I' := I3) (J' := J3) rfl (Wp.ite (fun h3 => ?_) (fun h3 => ?_))
      · replace h := h.1 h3
        refine Wp.steps 4 (pc' := 9) (lv' := [some (.ref 1), some (.int x1), some (.ref 53), some (.int x3), some (.int x4), some (.int x5), some (.int (x6 + 1)), some (.int (Int64.toInt32 v1)), some (.int 0)]) (st' := []) (I' := I3) (J' := J3) rfl ?_
        refine Wp.drop [7, 8] (lv' := [some (.ref 1), some (.int x1), some (.ref 53), some (.int x3), some (.int x4), some (.int x5), some (.int (x6 + 1)), none, none]) rfl ?_
        exact h
      · replace h := h.2 h3
        refine Wp.steps 1 (pc' := 76) (lv' := [some (.ref 1), some (.int x1), some (.ref 53), some (.int x3), some (.int x4), some (.int x5), some (.int x6), some (.int (Int64.toInt32 v1)), some (.int 0)]) (st' := [.int 0]) (I' := I3) (J' := J3) rfl ?_
        exact Wp.ret rfl h
  · replace h := h.2 h1
    refine Wp.steps 1 (pc' := 107) (lv' := [some (.ref 1), some (.int x1), some (.ref 53), some (.int x3), some (.int x4), some (.int x5), some (.int x6), none, none]) (st' := [.int 1]) (I' := I) (J' := J) rfl ?_
    exact Wp.ret rfl h
theorem v_Sb_clicksSo_1_55_0 {d : Nat} {Q : Post} {I : I2} {J : J2} {x1 : Int32} {x3 : Int32} {x4 : Int32} (h : Wp d Sb_clicksSo Q 9 [some (.ref 1), some (.int x1), some (.ref 55), some (.int x3), some (.int x4), some (.int (I 1 9)), some (.int 0), none, none] [] I J) : Wp d Sb_clicksSo Q 0 [some (.ref 1), some (.int x1), some (.ref 55), some (.int x3), some (.int x4), none, none, none, none] [] I J := by
  refine Wp.steps 5 (pc' := 9) (lv' := [some (.ref 1), some (.int x1), some (.ref 55), some (.int x3), some (.int x4), some (.int (I 1 9)), some (.int 0), none, none]) (st' := []) (I' := I) (J' := J) rfl ?_
  exact h
theorem v_Sb_clicksSo_1_55_9 {d : Nat} {Q : Post} {I : I2} {J : J2} {x1 : Int32} {x3 : Int32} {x4 : Int32} {x5 : Int32} {x6 : Int32} (h : (x6 < x4 → CL d Sh_look [.ref 55, .int (x3 + (2 * x6))] I J (fun v1 I1 J1 => CL d Sh_look [.ref 55, .int ((x3 + (2 * x6)) + 1)] I1 J1 (fun v2 I2 J2 => ((lg_cmp v2 1) = 0 → CI d Bx_maySlide [.ref 1, .int x5, .int x1, .int ((Int64.toInt32 v1) / 10), .int (rmI (Int64.toInt32 v1) 10)] I2 J2 (fun v3 I3 J3 => (v3 = 1 → CI d Bx_behind [.ref 1, .int x5, .int ((Int64.toInt32 v1) / 10), .int (rmI (Int64.toInt32 v1) 10)] I3 J3 (fun v4 I4 J4 => Wp d Sb_clicksSo Q 9 [some (.ref 1), some (.int x1), some (.ref 55), some (.int x3), some (.int x4), some (.int v4), some (.int (x6 + 1)), none, none] [] I4 J4)) ∧ (¬ (v3 = 1) → Q (some (.int 0)) I3 J3))) ∧ (¬ ((lg_cmp v2 1) = 0) → CI d Bx_maySlide [.ref 1, .int x5, .int x1, .int ((Int64.toInt32 v1) / 10), .int (rmI (Int64.toInt32 v1) 10)] I2 J2 (fun v3 I3 J3 => (v3 = 0 → Wp d Sb_clicksSo Q 9 [some (.ref 1), some (.int x1), some (.ref 55), some (.int x3), some (.int x4), some (.int x5), some (.int (x6 + 1)), none, none] [] I3 J3) ∧ (¬ (v3 = 0) → Q (some (.int 0)) I3 J3)))))) ∧ (¬ (x6 < x4) → Q (some (.int 1)) I J)) : Wp d Sb_clicksSo Q 9 [some (.ref 1), some (.int x1), some (.ref 55), some (.int x3), some (.int x4), some (.int x5), some (.int x6), none, none] [] I J := by
  refine Wp.steps 2 (pc' := 13) (lv' := [some (.ref 1), some (.int x1), some (.ref 55), some (.int x3), some (.int x4), some (.int x5), some (.int x6), none, none]) (st' := [.int x4, .int x6]) (I' := I) (J' := J) rfl ?_
  refine Wp.steps 1 (pc' := if x6 < x4 then 16 else 106) (lv' := [some (.ref 1), some (.int x1), some (.ref 55), some (.int x3), some (.int x4), some (.int x5), some (.int x6), none, none]) (st' := []) (I' := I) (J' := J) rfl (Wp.ite (fun h1 => ?_) (fun h1 => ?_))
  · replace h := h.1 h1
    refine Wp.steps 6 (pc' := 23) (lv' := [some (.ref 1), some (.int x1), some (.ref 55), some (.int x3), some (.int x4), some (.int x5), some (.int x6), none, none]) (st' := [.int (x3 + (2 * x6)), .ref 55]) (I' := I) (J' := J) rfl ?_
    refine Wp.call (M' := Sh_look) (as := [.ref 55, .int (x3 + (2 * x6))]) (rest := []) rfl (CL.use h (fun v1 I1 J1 h => ?_))
    refine Wp.eqs (pc' := 26) (st' := [.long v1]) rfl rfl ?_
    refine Wp.steps 10 (pc' := 38) (lv' := [some (.ref 1), some (.int x1), some (.ref 55), some (.int x3), some (.int x4), some (.int x5), some (.int x6), some (.int (Int64.toInt32 v1)), none]) (st' := [.int ((x3 + (2 * x6)) + 1), .ref 55]) (I' := I1) (J' := J1) rfl ?_
    refine Wp.call (M' := Sh_look) (as := [.ref 55, .int ((x3 + (2 * x6)) + 1)]) (rest := []) rfl (CL.use h (fun v2 I2 J2 h => ?_))
    refine Wp.eqs (pc' := 41) (st' := [.long v2]) rfl rfl ?_
    refine Wp.steps 2 (pc' := 43) (lv' := [some (.ref 1), some (.int x1), some (.ref 55), some (.int x3), some (.int x4), some (.int x5), some (.int x6), some (.int (Int64.toInt32 v1)), none]) (st' := [.int (lg_cmp v2 1)]) (I' := I2) (J' := J2) rfl ?_
    refine Wp.steps 1 (pc' := if (lg_cmp v2 1) = 0 then 46 else 50) (lv' := [some (.ref 1), some (.int x1), some (.ref 55), some (.int x3), some (.int x4), some (.int x5), some (.int x6), some (.int (Int64.toInt32 v1)), none]) (st' := []) (I' := I2) (J' := J2) rfl (Wp.ite (fun h2 => ?_) (fun h2 => ?_))
    · replace h := h.1 h2
      refine Wp.steps 12 (pc' := 67) (lv' := [some (.ref 1), some (.int x1), some (.ref 55), some (.int x3), some (.int x4), some (.int x5), some (.int x6), some (.int (Int64.toInt32 v1)), some (.int 1)]) (st' := [.int (rmI (Int64.toInt32 v1) 10), .int ((Int64.toInt32 v1) / 10), .int x1, .int x5, .ref 1]) (I' := I2) (J' := J2) rfl ?_
      refine Wp.call (M' := Bx_maySlide) (as := [.ref 1, .int x5, .int x1, .int ((Int64.toInt32 v1) / 10), .int (rmI (Int64.toInt32 v1) 10)]) (rest := []) rfl (CI.use h (fun v3 I3 J3 h => ?_))
      refine Wp.eqs (pc' := 70) (st' := [.int v3]) rfl rfl ?_
      refine Wp.steps 1 (pc' := 72) (lv' := [some (.ref 1), some (.int x1), some (.ref 55), some (.int x3), some (.int x4), some (.int x5), some (.int x6), some (.int (Int64.toInt32 v1)), some (.int 1)]) (st' := [.int 1, .int v3]) (I' := I3) (J' := J3) rfl ?_
      refine Wp.steps 1 (pc' := if v3 = 1 then 77 else 75) (lv' := [some (.ref 1), some (.int x1), some (.ref 55), some (.int x3), some (.int x4), some (.int x5), some (.int x6), some (.int (Int64.toInt32 v1)), some (.int 1)]) (st' := []) (I' := I3) (J' := J3) rfl (Wp.ite (fun h3 => ?_) (fun h3 => ?_))
      · replace h := h.1 h3
        refine Wp.steps 10 (pc' := 95) (lv' := [some (.ref 1), some (.int x1), some (.ref 55), some (.int x3), some (.int x4), some (.int x5), some (.int x6), some (.int (Int64.toInt32 v1)), some (.int 1)]) (st' := [.int (rmI (Int64.toInt32 v1) 10), .int ((Int64.toInt32 v1) / 10), .int x5, .ref 1]) (I' := I3) (J' := J3) rfl ?_
        refine Wp.call (M' := Bx_behind) (as := [.ref 1, .int x5, .int ((Int64.toInt32 v1) / 10), .int (rmI (Int64.toInt32 v1) 10)]) (rest := []) rfl (CI.use h (fun v4 I4 J4 h => ?_))
        refine Wp.eqs (pc' := 98) (st' := [.int v4]) rfl rfl ?_
        refine Wp.steps 3 (pc' := 9) (lv' := [some (.ref 1), some (.int x1), some (.ref 55), some (.int x3), some (.int x4), some (.int v4), some (.int (x6 + 1)), some (.int (Int64.toInt32 v1)), some (.int 1)]) (st' := []) (I' := I4) (J' := J4) rfl ?_
        refine Wp.drop [7, 8] (lv' := [some (.ref 1), some (.int x1), some (.ref 55), some (.int x3), some (.int x4), some (.int v4), some (.int (x6 + 1)), none, none]) rfl ?_
        exact h
      · replace h := h.2 h3
        refine Wp.steps 1 (pc' := 76) (lv' := [some (.ref 1), some (.int x1), some (.ref 55), some (.int x3), some (.int x4), some (.int x5), some (.int x6), some (.int (Int64.toInt32 v1)), some (.int 1)]) (st' := [.int 0]) (I' := I3) (J' := J3) rfl ?_
        exact Wp.ret rfl h
    · replace h := h.2 h2
      refine Wp.steps 11 (pc' := 67) (lv' := [some (.ref 1), some (.int x1), some (.ref 55), some (.int x3), some (.int x4), some (.int x5), some (.int x6), some (.int (Int64.toInt32 v1)), some (.int 0)]) (st' := [.int (rmI (Int64.toInt32 v1) 10), .int ((Int64.toInt32 v1) / 10), .int x1, .int x5, .ref 1]) (I' := I2) (J' := J2) rfl ?_
      refine Wp.call (M' := Bx_maySlide) (as := [.ref 1, .int x5, .int x1, .int ((Int64.toInt32 v1) / 10), .int (rmI (Int64.toInt32 v1) 10)]) (rest := []) rfl (CI.use h (fun v3 I3 J3 h => ?_))
      refine Wp.eqs (pc' := 70) (st' := [.int v3]) rfl rfl ?_
      refine Wp.steps 1 (pc' := 72) (lv' := [some (.ref 1), some (.int x1), some (.ref 55), some (.int x3), some (.int x4), some (.int x5), some (.int x6), some (.int (Int64.toInt32 v1)), some (.int 0)]) (st' := [.int 0, .int v3]) (I' := I3) (J' := J3) rfl ?_
      refine Wp.steps 1 (pc' := if v3 = 0 then 77 else 75) (lv' := [some (.ref 1), some (.int x1), some (.ref 55), some (.int x3), some (.int x4), some (.int x5), some (.int x6), some (.int (Int64.toInt32 v1)), some (.int 0)]) (st' := []) (I' := I3) (J' := J3) rfl (Wp.ite (fun h3 => ?_) (fun h3 => ?_))
      · replace h := h.1 h3
        refine Wp.steps 4 (pc' := 9) (lv' := [some (.ref 1), some (.int x1), some (.ref 55), some (.int x3), some (.int x4), some (.int x5), some (.int (x6 + 1)), some (.int (Int64.toInt32 v1)), some (.int 0)]) (st' := []) (I' := I3) (J' := J3) rfl ?_
        refine Wp.drop [7, 8] (lv' := [some (.ref 1), some (.int x1), some (.ref 55), some (.int x3), some (.int x4), some (.int x5), some (.int (x6 + 1)), none, none]) rfl ?_
        exact h
      · replace h := h.2 h3
        refine Wp.steps 1 (pc' := 76) (lv' := [some (.ref 1), some (.int x1), some (.ref 55), some (.int x3), some (.int x4), some (.int x5), some (.int x6), some (.int (Int64.toInt32 v1)), some (.int 0)]) (st' := [.int 0]) (I' := I3) (J' := J3) rfl ?_
        exact Wp.ret rfl h
  · replace h := h.2 h1
    refine Wp.steps 1 (pc' := 107) (lv' := [some (.ref 1), some (.int x1), some (.ref 55), some (.int x3), some (.int x4), some (.int x5), some (.int x6), none, none]) (st' := [.int 1]) (I' := I) (J' := J) rfl ?_
    exact Wp.ret rfl h
theorem v_Sb_clicksSo_21_49_0 {d : Nat} {Q : Post} {I : I2} {J : J2} {x1 : Int32} {x3 : Int32} {x4 : Int32} (h : Wp d Sb_clicksSo Q 9 [some (.ref 21), some (.int x1), some (.ref 49), some (.int x3), some (.int x4), some (.int (I 21 9)), some (.int 0), none, none] [] I J) : Wp d Sb_clicksSo Q 0 [some (.ref 21), some (.int x1), some (.ref 49), some (.int x3), some (.int x4), none, none, none, none] [] I J := by
  refine Wp.steps 5 (pc' := 9) (lv' := [some (.ref 21), some (.int x1), some (.ref 49), some (.int x3), some (.int x4), some (.int (I 21 9)), some (.int 0), none, none]) (st' := []) (I' := I) (J' := J) rfl ?_
  exact h
theorem v_Sb_clicksSo_21_49_9 {d : Nat} {Q : Post} {I : I2} {J : J2} {x1 : Int32} {x3 : Int32} {x4 : Int32} {x5 : Int32} {x6 : Int32} (h : (x6 < x4 → CL d Sh_look [.ref 49, .int (x3 + (2 * x6))] I J (fun v1 I1 J1 => CL d Sh_look [.ref 49, .int ((x3 + (2 * x6)) + 1)] I1 J1 (fun v2 I2 J2 => ((lg_cmp v2 1) = 0 → CI d Bx_maySlide [.ref 21, .int x5, .int x1, .int ((Int64.toInt32 v1) / 10), .int (rmI (Int64.toInt32 v1) 10)] I2 J2 (fun v3 I3 J3 => (v3 = 1 → CI d Bx_behind [.ref 21, .int x5, .int ((Int64.toInt32 v1) / 10), .int (rmI (Int64.toInt32 v1) 10)] I3 J3 (fun v4 I4 J4 => Wp d Sb_clicksSo Q 9 [some (.ref 21), some (.int x1), some (.ref 49), some (.int x3), some (.int x4), some (.int v4), some (.int (x6 + 1)), none, none] [] I4 J4)) ∧ (¬ (v3 = 1) → Q (some (.int 0)) I3 J3))) ∧ (¬ ((lg_cmp v2 1) = 0) → CI d Bx_maySlide [.ref 21, .int x5, .int x1, .int ((Int64.toInt32 v1) / 10), .int (rmI (Int64.toInt32 v1) 10)] I2 J2 (fun v3 I3 J3 => (v3 = 0 → Wp d Sb_clicksSo Q 9 [some (.ref 21), some (.int x1), some (.ref 49), some (.int x3), some (.int x4), some (.int x5), some (.int (x6 + 1)), none, none] [] I3 J3) ∧ (¬ (v3 = 0) → Q (some (.int 0)) I3 J3)))))) ∧ (¬ (x6 < x4) → Q (some (.int 1)) I J)) : Wp d Sb_clicksSo Q 9 [some (.ref 21), some (.int x1), some (.ref 49), some (.int x3), some (.int x4), some (.int x5), some (.int x6), none, none] [] I J := by
  refine Wp.steps 2 (pc' := 13) (lv' := [some (.ref 21), some (.int x1), some (.ref 49), some (.int x3), some (.int x4), some (.int x5), some (.int x6), none, none]) (st' := [.int x4, .int x6]) (I' := I) (J' := J) rfl ?_
  refine Wp.steps 1 (pc' := if x6 < x4 then 16 else 106) (lv' := [some (.ref 21), some (.int x1), some (.ref 49), some (.int x3), some (.int x4), some (.int x5), some (.int x6), none, none]) (st' := []) (I' := I) (J' := J) rfl (Wp.ite (fun h1 => ?_) (fun h1 => ?_))
  · replace h := h.1 h1
    refine Wp.steps 6 (pc' := 23) (lv' := [some (.ref 21), some (.int x1), some (.ref 49), some (.int x3), some (.int x4), some (.int x5), some (.int x6), none, none]) (st' := [.int (x3 + (2 * x6)), .ref 49]) (I' := I) (J' := J) rfl ?_
    refine Wp.call (M' := Sh_look) (as := [.ref 49, .int (x3 + (2 * x6))]) (rest := []) rfl (CL.use h (fun v1 I1 J1 h => ?_))
    refine Wp.eqs (pc' := 26) (st' := [.long v1]) rfl rfl ?_
    refine Wp.steps 10 (pc' := 38) (lv' := [some (.ref 21), some (.int x1), some (.ref 49), some (.int x3), some (.int x4), some (.int x5), some (.int x6), some (.int (Int64.toInt32 v1)), none]) (st' := [.int ((x3 + (2 * x6)) + 1), .ref 49]) (I' := I1) (J' := J1) rfl ?_
    refine Wp.call (M' := Sh_look) (as := [.ref 49, .int ((x3 + (2 * x6)) + 1)]) (rest := []) rfl (CL.use h (fun v2 I2 J2 h => ?_))
    refine Wp.eqs (pc' := 41) (st' := [.long v2]) rfl rfl ?_
    refine Wp.steps 2 (pc' := 43) (lv' := [some (.ref 21), some (.int x1), some (.ref 49), some (.int x3), some (.int x4), some (.int x5), some (.int x6), some (.int (Int64.toInt32 v1)), none]) (st' := [.int (lg_cmp v2 1)]) (I' := I2) (J' := J2) rfl ?_
    refine Wp.steps 1 (pc' := if (lg_cmp v2 1) = 0 then 46 else 50) (lv' := [some (.ref 21), some (.int x1), some (.ref 49), some (.int x3), some (.int x4), some (.int x5), some (.int x6), some (.int (Int64.toInt32 v1)), none]) (st' := []) (I' := I2) (J' := J2) rfl (Wp.ite (fun h2 => ?_) (fun h2 => ?_))
    · replace h := h.1 h2
      refine Wp.steps 12 (pc' := 67) (lv' := [some (.ref 21), some (.int x1), some (.ref 49), some (.int x3), some (.int x4), some (.int x5), some (.int x6), some (.int (Int64.toInt32 v1)), some (.int 1)]) (st' := [.int (rmI (Int64.toInt32 v1) 10), .int ((Int64.toInt32 v1) / 10), .int x1, .int x5, .ref 21]) (I' := I2) (J' := J2) rfl ?_
      refine Wp.call (M' := Bx_maySlide) (as := [.ref 21, .int x5, .int x1, .int ((Int64.toInt32 v1) / 10), .int (rmI (Int64.toInt32 v1) 10)]) (rest := []) rfl (CI.use h (fun v3 I3 J3 h => ?_))
      refine Wp.eqs (pc' := 70) (st' := [.int v3]) rfl rfl ?_
      refine Wp.steps 1 (pc' := 72) (lv' := [some (.ref 21), some (.int x1), some (.ref 49), some (.int x3), some (.int x4), some (.int x5), some (.int x6), some (.int (Int64.toInt32 v1)), some (.int 1)]) (st' := [.int 1, .int v3]) (I' := I3) (J' := J3) rfl ?_
      refine Wp.steps 1 (pc' := if v3 = 1 then 77 else 75) (lv' := [some (.ref 21), some (.int x1), some (.ref 49), some (.int x3), some (.int x4), some (.int x5), some (.int x6), some (.int (Int64.toInt32 v1)), some (.int 1)]) (st' := []) (I' := I3) (J' := J3) rfl (Wp.ite (fun h3 => ?_) (fun h3 => ?_))
      · replace h := h.1 h3
        refine Wp.steps 10 (pc' := 95) (lv' := [some (.ref 21), some (.int x1), some (.ref 49), some (.int x3), some (.int x4), some (.int x5), some (.int x6), some (.int (Int64.toInt32 v1)), some (.int 1)]) (st' := [.int (rmI (Int64.toInt32 v1) 10), .int ((Int64.toInt32 v1) / 10), .int x5, .ref 21]) (I' := I3) (J' := J3) rfl ?_
        refine Wp.call (M' := Bx_behind) (as := [.ref 21, .int x5, .int ((Int64.toInt32 v1) / 10), .int (rmI (Int64.toInt32 v1) 10)]) (rest := []) rfl (CI.use h (fun v4 I4 J4 h => ?_))
        refine Wp.eqs (pc' := 98) (st' := [.int v4]) rfl rfl ?_
        refine Wp.steps 3 (pc' := 9) (lv' := [some (.ref 21), some (.int x1), some (.ref 49), some (.int x3), some (.int x4), some (.int v4), some (.int (x6 + 1)), some (.int (Int64.toInt32 v1)), some (.int 1)]) (st' := []) (I' := I4) (J' := J4) rfl ?_
        refine Wp.drop [7, 8] (lv' := [some (.ref 21), some (.int x1), some (.ref 49), some (.int x3), some (.int x4), some (.int v4), some (.int (x6 + 1)), none, none]) rfl ?_
        exact h
      · replace h := h.2 h3
        refine Wp.steps 1 (pc' := 76) (lv' := [some (.ref 21), some (.int x1), some (.ref 49), some (.int x3), some (.int x4), some (.int x5), some (.int x6), some (.int (Int64.toInt32 v1)), some (.int 1)]) (st' := [.int 0]) (I' := I3) (J' := J3) rfl ?_
        exact Wp.ret rfl h
    · replace h := h.2 h2
      refine Wp.steps 11 (pc' := 67) (lv' := [some (.ref 21), some (.int x1), some (.ref 49), some (.int x3), some (.int x4), some (.int x5), some (.int x6), some (.int (Int64.toInt32 v1)), some (.int 0)]) (st' := [.int (rmI (Int64.toInt32 v1) 10), .int ((Int64.toInt32 v1) / 10), .int x1, .int x5, .ref 21]) (I' := I2) (J' := J2) rfl ?_
      refine Wp.call (M' := Bx_maySlide) (as := [.ref 21, .int x5, .int x1, .int ((Int64.toInt32 v1) / 10), .int (rmI (Int64.toInt32 v1) 10)]) (rest := []) rfl (CI.use h (fun v3 I3 J3 h => ?_))
      refine Wp.eqs (pc' := 70) (st' := [.int v3]) rfl rfl ?_
      refine Wp.steps 1 (pc' := 72) (lv' := [some (.ref 21), some (.int x1), some (.ref 49), some (.int x3), some (.int x4), some (.int x5), some (.int x6), some (.int (Int64.toInt32 v1)), some (.int 0)]) (st' := [.int 0, .int v3]) (I' := I3) (J' := J3) rfl ?_
      refine Wp.steps 1 (pc' := if v3 = 0 then 77 else 75) (lv' := [some (.ref 21), some (.int x1), some (.ref 49), some (.int x3), some (.int x4), some (.int x5), some (.int x6), some (.int (Int64.toInt32 v1)), some (.int 0)]) (st' := []) (I' := I3) (J' := J3) rfl (Wp.ite (fun h3 => ?_) (fun h3 => ?_))
      · replace h := h.1 h3
        refine Wp.steps 4 (pc' := 9) (lv' := [some (.ref 21), some (.int x1), some (.ref 49), some (.int x3), some (.int x4), some (.int x5), some (.int (x6 + 1)), some (.int (Int64.toInt32 v1)), some (.int 0)]) (st' := []) (I' := I3) (J' := J3) rfl ?_
        refine Wp.drop [7, 8] (lv' := [some (.ref 21), some (.int x1), some (.ref 49), some (.int x3), some (.int x4), some (.int x5), some (.int (x6 + 1)), none, none]) rfl ?_
        exact h
      · replace h := h.2 h3
        refine Wp.steps 1 (pc' := 76) (lv' := [some (.ref 21), some (.int x1), some (.ref 49), some (.int x3), some (.int x4), some (.int x5), some (.int x6), some (.int (Int64.toInt32 v1)), some (.int 0)]) (st' := [.int 0]) (I' := I3) (J' := J3) rfl ?_
        exact Wp.ret rfl h
  · replace h := h.2 h1
    refine Wp.steps 1 (pc' := 107) (lv' := [some (.ref 21), some (.int x1), some (.ref 49), some (.int x3), some (.int x4), some (.int x5), some (.int x6), none, none]) (st' := [.int 1]) (I' := I) (J' := J) rfl ?_
    exact Wp.ret rfl h
theorem v_Sb_clicksSo_21_51_0 {d : Nat} {Q : Post} {I : I2} {J : J2} {x1 : Int32} {x3 : Int32} {x4 : Int32} (h : Wp d Sb_clicksSo Q 9 [some (.ref 21), some (.int x1), some (.ref 51), some (.int x3), some (.int x4), some (.int (I 21 9)), some (.int 0), none, none] [] I J) : Wp d Sb_clicksSo Q 0 [some (.ref 21), some (.int x1), some (.ref 51), some (.int x3), some (.int x4), none, none, none, none] [] I J := by
  refine Wp.steps 5 (pc' := 9) (lv' := [some (.ref 21), some (.int x1), some (.ref 51), some (.int x3), some (.int x4), some (.int (I 21 9)), some (.int 0), none, none]) (st' := []) (I' := I) (J' := J) rfl ?_
  exact h
theorem v_Sb_clicksSo_21_51_9 {d : Nat} {Q : Post} {I : I2} {J : J2} {x1 : Int32} {x3 : Int32} {x4 : Int32} {x5 : Int32} {x6 : Int32} (h : (x6 < x4 → CL d Sh_look [.ref 51, .int (x3 + (2 * x6))] I J (fun v1 I1 J1 => CL d Sh_look [.ref 51, .int ((x3 + (2 * x6)) + 1)] I1 J1 (fun v2 I2 J2 => ((lg_cmp v2 1) = 0 → CI d Bx_maySlide [.ref 21, .int x5, .int x1, .int ((Int64.toInt32 v1) / 10), .int (rmI (Int64.toInt32 v1) 10)] I2 J2 (fun v3 I3 J3 => (v3 = 1 → CI d Bx_behind [.ref 21, .int x5, .int ((Int64.toInt32 v1) / 10), .int (rmI (Int64.toInt32 v1) 10)] I3 J3 (fun v4 I4 J4 => Wp d Sb_clicksSo Q 9 [some (.ref 21), some (.int x1), some (.ref 51), some (.int x3), some (.int x4), some (.int v4), some (.int (x6 + 1)), none, none] [] I4 J4)) ∧ (¬ (v3 = 1) → Q (some (.int 0)) I3 J3))) ∧ (¬ ((lg_cmp v2 1) = 0) → CI d Bx_maySlide [.ref 21, .int x5, .int x1, .int ((Int64.toInt32 v1) / 10), .int (rmI (Int64.toInt32 v1) 10)] I2 J2 (fun v3 I3 J3 => (v3 = 0 → Wp d Sb_clicksSo Q 9 [some (.ref 21), some (.int x1), some (.ref 51), some (.int x3), some (.int x4), some (.int x5), some (.int (x6 + 1)), none, none] [] I3 J3) ∧ (¬ (v3 = 0) → Q (some (.int 0)) I3 J3)))))) ∧ (¬ (x6 < x4) → Q (some (.int 1)) I J)) : Wp d Sb_clicksSo Q 9 [some (.ref 21), some (.int x1), some (.ref 51), some (.int x3), some (.int x4), some (.int x5), some (.int x6), none, none] [] I J := by
  refine Wp.steps 2 (pc' := 13) (lv' := [some (.ref 21), some (.int x1), some (.ref 51), some (.int x3), some (.int x4), some (.int x5), some (.int x6), none, none]) (st' := [.int x4, .int x6]) (I' := I) (J' := J) rfl ?_
  refine Wp.steps 1 (pc' := if x6 < x4 then 16 else 106) (lv' := [some (.ref 21), some (.int x1), some (.ref 51), some (.int x3), some (.int x4), some (.int x5), some (.int x6), none, none]) (st' := []) (I' := I) (J' := J) rfl (Wp.ite (fun h1 => ?_) (fun h1 => ?_))
  · replace h := h.1 h1
    refine Wp.steps 6 (pc' := 23) (lv' := [some (.ref 21), some (.int x1), some (.ref 51), some (.int x3), some (.int x4), some (.int x5), some (.int x6), none, none]) (st' := [.int (x3 + (2 * x6)), .ref 51]) (I' := I) (J' := J) rfl ?_
    refine Wp.call (M' := Sh_look) (as := [.ref 51, .int (x3 + (2 * x6))]) (rest := []) rfl (CL.use h (fun v1 I1 J1 h => ?_))
    refine Wp.eqs (pc' := 26) (st' := [.long v1]) rfl rfl ?_
    refine Wp.steps 10 (pc' := 38) (lv' := [some (.ref 21), some (.int x1), some (.ref 51), some (.int x3), some (.int x4), some (.int x5), some (.int x6), some (.int (Int64.toInt32 v1)), none]) (st' := [.int ((x3 + (2 * x6)) + 1), .ref 51]) (I' := I1) (J' := J1) rfl ?_
    refine Wp.call (M' := Sh_look) (as := [.ref 51, .int ((x3 + (2 * x6)) + 1)]) (rest := []) rfl (CL.use h (fun v2 I2 J2 h => ?_))
    refine Wp.eqs (pc' := 41) (st' := [.long v2]) rfl rfl ?_
    refine Wp.steps 2 (pc' := 43) (lv' := [some (.ref 21), some (.int x1), some (.ref 51), some (.int x3), some (.int x4), some (.int x5), some (.int x6), some (.int (Int64.toInt32 v1)), none]) (st' := [.int (lg_cmp v2 1)]) (I' := I2) (J' := J2) rfl ?_
    refine Wp.steps 1 (pc' := if (lg_cmp v2 1) = 0 then 46 else 50) (lv' := [some (.ref 21), some (.int x1), some (.ref 51), some (.int x3), some (.int x4), some (.int x5), some (.int x6), some (.int (Int64.toInt32 v1)), none]) (st' := []) (I' := I2) (J' := J2) rfl (Wp.ite (fun h2 => ?_) (fun h2 => ?_))
    · replace h := h.1 h2
      refine Wp.steps 12 (pc' := 67) (lv' := [some (.ref 21), some (.int x1), some (.ref 51), some (.int x3), some (.int x4), some (.int x5), some (.int x6), some (.int (Int64.toInt32 v1)), some (.int 1)]) (st' := [.int (rmI (Int64.toInt32 v1) 10), .int ((Int64.toInt32 v1) / 10), .int x1, .int x5, .ref 21]) (I' := I2) (J' := J2) rfl ?_
      refine Wp.call (M' := Bx_maySlide) (as := [.ref 21, .int x5, .int x1, .int ((Int64.toInt32 v1) / 10), .int (rmI (Int64.toInt32 v1) 10)]) (rest := []) rfl (CI.use h (fun v3 I3 J3 h => ?_))
      refine Wp.eqs (pc' := 70) (st' := [.int v3]) rfl rfl ?_
      refine Wp.steps 1 (pc' := 72) (lv' := [some (.ref 21), some (.int x1), some (.ref 51), some (.int x3), some (.int x4), some (.int x5), some (.int x6), some (.int (Int64.toInt32 v1)), some (.int 1)]) (st' := [.int 1, .int v3]) (I' := I3) (J' := J3) rfl ?_
      refine Wp.steps 1 (pc' := if v3 = 1 then 77 else 75) (lv' := [some (.ref 21), some (.int x1), some (.ref 51), some (.int x3), some (.int x4), some (.int x5), some (.int x6), some (.int (Int64.toInt32 v1)), some (.int 1)]) (st' := []) (I' := I3) (J' := J3) rfl (Wp.ite (fun h3 => ?_) (fun h3 => ?_))
      · replace h := h.1 h3
        refine Wp.steps 10 (pc' := 95) (lv' := [some (.ref 21), some (.int x1), some (.ref 51), some (.int x3), some (.int x4), some (.int x5), some (.int x6), some (.int (Int64.toInt32 v1)), some (.int 1)]) (st' := [.int (rmI (Int64.toInt32 v1) 10), .int ((Int64.toInt32 v1) / 10), .int x5, .ref 21]) (I' := I3) (J' := J3) rfl ?_
        refine Wp.call (M' := Bx_behind) (as := [.ref 21, .int x5, .int ((Int64.toInt32 v1) / 10), .int (rmI (Int64.toInt32 v1) 10)]) (rest := []) rfl (CI.use h (fun v4 I4 J4 h => ?_))
        refine Wp.eqs (pc' := 98) (st' := [.int v4]) rfl rfl ?_
        refine Wp.steps 3 (pc' := 9) (lv' := [some (.ref 21), some (.int x1), some (.ref 51), some (.int x3), some (.int x4), some (.int v4), some (.int (x6 + 1)), some (.int (Int64.toInt32 v1)), some (.int 1)]) (st' := []) (I' := I4) (J' := J4) rfl ?_
        refine Wp.drop [7, 8] (lv' := [some (.ref 21), some (.int x1), some (.ref 51), some (.int x3), some (.int x4), some (.int v4), some (.int (x6 + 1)), none, none]) rfl ?_
        exact h
      · replace h := h.2 h3
        refine Wp.steps 1 (pc' := 76) (lv' := [some (.ref 21), some (.int x1), some (.ref 51), some (.int x3), some (.int x4), some (.int x5), some (.int x6), some (.int (Int64.toInt32 v1)), some (.int 1)]) (st' := [.int 0]) (I' := I3) (J' := J3) rfl ?_
        exact Wp.ret rfl h
    · replace h := h.2 h2
      refine Wp.steps 11 (pc' := 67) (lv' := [some (.ref 21), some (.int x1), some (.ref 51), some (.int x3), some (.int x4), some (.int x5), some (.int x6), some (.int (Int64.toInt32 v1)), some (.int 0)]) (st' := [.int (rmI (Int64.toInt32 v1) 10), .int ((Int64.toInt32 v1) / 10), .int x1, .int x5, .ref 21]) (I' := I2) (J' := J2) rfl ?_
      refine Wp.call (M' := Bx_maySlide) (as := [.ref 21, .int x5, .int x1, .int ((Int64.toInt32 v1) / 10), .int (rmI (Int64.toInt32 v1) 10)]) (rest := []) rfl (CI.use h (fun v3 I3 J3 h => ?_))
      refine Wp.eqs (pc' := 70) (st' := [.int v3]) rfl rfl ?_
      refine Wp.steps 1 (pc' := 72) (lv' := [some (.ref 21), some (.int x1), some (.ref 51), some (.int x3), some (.int x4), some (.int x5), some (.int x6), some (.int (Int64.toInt32 v1)), some (.int 0)]) (st' := [.int 0, .int v3]) (I' := I3) (J' := J3) rfl ?_
      refine Wp.steps 1 (pc' := if v3 = 0 then 77 else 75) (lv' := [some (.ref 21), some (.int x1), some (.ref 51), some (.int x3), some (.int x4), some (.int x5), some (.int x6), some (.int (Int64.toInt32 v1)), some (.int 0)]) (st' := []) (I' := I3) (J' := J3) rfl (Wp.ite (fun h3 => ?_) (fun h3 => ?_))
      · replace h := h.1 h3
        refine Wp.steps 4 (pc' := 9) (lv' := [some (.ref 21), some (.int x1), some (.ref 51), some (.int x3), some (.int x4), some (.int x5), some (.int (x6 + 1)), some (.int (Int64.toInt32 v1)), some (.int 0)]) (st' := []) (I' := I3) (J' := J3) rfl ?_
        refine Wp.drop [7, 8] (lv' := [some (.ref 21), some (.int x1), some (.ref 51), some (.int x3), some (.int x4), some (.int x5), some (.int (x6 + 1)), none, none]) rfl ?_
        exact h
      · replace h := h.2 h3
        refine Wp.steps 1 (pc' := 76) (lv' := [some (.ref 21), some (.int x1), some (.ref 51), some (.int x3), some (.int x4), some (.int x5), some (.int x6), some (.int (Int64.toInt32 v1)), some (.int 0)]) (st' := [.int 0]) (I' := I3) (J' := J3) rfl ?_
        exact Wp.ret rfl h
  · replace h := h.2 h1
    refine Wp.steps 1 (pc' := 107) (lv' := [some (.ref 21), some (.int x1), some (.ref 51), some (.int x3), some (.int x4), some (.int x5), some (.int x6), none, none]) (st' := [.int 1]) (I' := I) (J' := J) rfl ?_
    exact Wp.ret rfl h
theorem v_Sb_clicksSo_21_53_0 {d : Nat} {Q : Post} {I : I2} {J : J2} {x1 : Int32} {x3 : Int32} {x4 : Int32} (h : Wp d Sb_clicksSo Q 9 [some (.ref 21), some (.int x1), some (.ref 53), some (.int x3), some (.int x4), some (.int (I 21 9)), some (.int 0), none, none] [] I J) : Wp d Sb_clicksSo Q 0 [some (.ref 21), some (.int x1), some (.ref 53), some (.int x3), some (.int x4), none, none, none, none] [] I J := by
  refine Wp.steps 5 (pc' := 9) (lv' := [some (.ref 21), some (.int x1), some (.ref 53), some (.int x3), some (.int x4), some (.int (I 21 9)), some (.int 0), none, none]) (st' := []) (I' := I) (J' := J) rfl ?_
  exact h
theorem v_Sb_clicksSo_21_53_9 {d : Nat} {Q : Post} {I : I2} {J : J2} {x1 : Int32} {x3 : Int32} {x4 : Int32} {x5 : Int32} {x6 : Int32} (h : (x6 < x4 → CL d Sh_look [.ref 53, .int (x3 + (2 * x6))] I J (fun v1 I1 J1 => CL d Sh_look [.ref 53, .int ((x3 + (2 * x6)) + 1)] I1 J1 (fun v2 I2 J2 => ((lg_cmp v2 1) = 0 → CI d Bx_maySlide [.ref 21, .int x5, .int x1, .int ((Int64.toInt32 v1) / 10), .int (rmI (Int64.toInt32 v1) 10)] I2 J2 (fun v3 I3 J3 => (v3 = 1 → CI d Bx_behind [.ref 21, .int x5, .int ((Int64.toInt32 v1) / 10), .int (rmI (Int64.toInt32 v1) 10)] I3 J3 (fun v4 I4 J4 => Wp d Sb_clicksSo Q 9 [some (.ref 21), some (.int x1), some (.ref 53), some (.int x3), some (.int x4), some (.int v4), some (.int (x6 + 1)), none, none] [] I4 J4)) ∧ (¬ (v3 = 1) → Q (some (.int 0)) I3 J3))) ∧ (¬ ((lg_cmp v2 1) = 0) → CI d Bx_maySlide [.ref 21, .int x5, .int x1, .int ((Int64.toInt32 v1) / 10), .int (rmI (Int64.toInt32 v1) 10)] I2 J2 (fun v3 I3 J3 => (v3 = 0 → Wp d Sb_clicksSo Q 9 [some (.ref 21), some (.int x1), some (.ref 53), some (.int x3), some (.int x4), some (.int x5), some (.int (x6 + 1)), none, none] [] I3 J3) ∧ (¬ (v3 = 0) → Q (some (.int 0)) I3 J3)))))) ∧ (¬ (x6 < x4) → Q (some (.int 1)) I J)) : Wp d Sb_clicksSo Q 9 [some (.ref 21), some (.int x1), some (.ref 53), some (.int x3), some (.int x4), some (.int x5), some (.int x6), none, none] [] I J := by
  refine Wp.steps 2 (pc' := 13) (lv' := [some (.ref 21), some (.int x1), some (.ref 53), some (.int x3), some (.int x4), some (.int x5), some (.int x6), none, none]) (st' := [.int x4, .int x6]) (I' := I) (J' := J) rfl ?_
  refine Wp.steps 1 (pc' := if x6 < x4 then 16 else 106) (lv' := [some (.ref 21), some (.int x1), some (.ref 53), some (.int x3), some (.int x4), some (.int x5), some (.int x6), none, none]) (st' := []) (I' := I) (J' := J) rfl (Wp.ite (fun h1 => ?_) (fun h1 => ?_))
  · replace h := h.1 h1
    refine Wp.steps 6 (pc' := 23) (lv' := [some (.ref 21), some (.int x1), some (.ref 53), some (.int x3), some (.int x4), some (.int x5), some (.int x6), none, none]) (st' := [.int (x3 + (2 * x6)), .ref 53]) (I' := I) (J' := J) rfl ?_
    refine Wp.call (M' := Sh_look) (as := [.ref 53, .int (x3 + (2 * x6))]) (rest := []) rfl (CL.use h (fun v1 I1 J1 h => ?_))
    refine Wp.eqs (pc' := 26) (st' := [.long v1]) rfl rfl ?_
    refine Wp.steps 10 (pc' := 38) (lv' := [some (.ref 21), some (.int x1), some (.ref 53), some (.int x3), some (.int x4), some (.int x5), some (.int x6), some (.int (Int64.toInt32 v1)), none]) (st' := [.int ((x3 + (2 * x6)) + 1), .ref 53]) (I' := I1) (J' := J1) rfl ?_
    refine Wp.call (M' := Sh_look) (as := [.ref 53, .int ((x3 + (2 * x6)) + 1)]) (rest := []) rfl (CL.use h (fun v2 I2 J2 h => ?_))
    refine Wp.eqs (pc' := 41) (st' := [.long v2]) rfl rfl ?_
    refine Wp.steps 2 (pc' := 43) (lv' := [some (.ref 21), some (.int x1), some (.ref 53), some (.int x3), some (.int x4), some (.int x5), some (.int x6), some (.int (Int64.toInt32 v1)), none]) (st' := [.int (lg_cmp v2 1)]) (I' := I2) (J' := J2) rfl ?_
    refine Wp.steps 1 (pc' := if (lg_cmp v2 1) = 0 then 46 else 50) (lv' := [some (.ref 21), some (.int x1), some (.ref 53), some (.int x3), some (.int x4), some (.int x5), some (.int x6), some (.int (Int64.toInt32 v1)), none]) (st' := []) (I' := I2) (J' := J2) rfl (Wp.ite (fun h2 => ?_) (fun h2 => ?_))
    · replace h := h.1 h2
      refine Wp.steps 12 (pc' := 67) (lv' := [some (.ref 21), some (.int x1), some (.ref 53), some (.int x3), some (.int x4), some (.int x5), some (.int x6), some (.int (Int64.toInt32 v1)), some (.int 1)]) (st' := [.int (rmI (Int64.toInt32 v1) 10), .int ((Int64.toInt32 v1) / 10), .int x1, .int x5, .ref 21]) (I' := I2) (J' := J2) rfl ?_
      refine Wp.call (M' := Bx_maySlide) (as := [.ref 21, .int x5, .int x1, .int ((Int64.toInt32 v1) / 10), .int (rmI (Int64.toInt32 v1) 10)]) (rest := []) rfl (CI.use h (fun v3 I3 J3 h => ?_))
      refine Wp.eqs (pc' := 70) (st' := [.int v3]) rfl rfl ?_
      refine Wp.steps 1 (pc' := 72) (lv' := [some (.ref 21), some (.int x1), some (.ref 53), some (.int x3), some (.int x4), some (.int x5), some (.int x6), some (.int (Int64.toInt32 v1)), some (.int 1)]) (st' := [.int 1, .int v3]) (I' := I3) (J' := J3) rfl ?_
      refine Wp.steps 1 (pc' := if v3 = 1 then 77 else 75) (lv' := [some (.ref 21), some (.int x1), some (.ref 53), some (.int x3), some (.int x4), some (.int x5), some (.int x6), some (.int (Int64.toInt32 v1)), some (.int 1)]) (st' := []) (I' := I3) (J' := J3) rfl (Wp.ite (fun h3 => ?_) (fun h3 => ?_))
      · replace h := h.1 h3
        refine Wp.steps 10 (pc' := 95) (lv' := [some (.ref 21), some (.int x1), some (.ref 53), some (.int x3), some (.int x4), some (.int x5), some (.int x6), some (.int (Int64.toInt32 v1)), some (.int 1)]) (st' := [.int (rmI (Int64.toInt32 v1) 10), .int ((Int64.toInt32 v1) / 10), .int x5, .ref 21]) (I' := I3) (J' := J3) rfl ?_
        refine Wp.call (M' := Bx_behind) (as := [.ref 21, .int x5, .int ((Int64.toInt32 v1) / 10), .int (rmI (Int64.toInt32 v1) 10)]) (rest := []) rfl (CI.use h (fun v4 I4 J4 h => ?_))
        refine Wp.eqs (pc' := 98) (st' := [.int v4]) rfl rfl ?_
        refine Wp.steps 3 (pc' := 9) (lv' := [some (.ref 21), some (.int x1), some (.ref 53), some (.int x3), some (.int x4), some (.int v4), some (.int (x6 + 1)), some (.int (Int64.toInt32 v1)), some (.int 1)]) (st' := []) (I' := I4) (J' := J4) rfl ?_
        refine Wp.drop [7, 8] (lv' := [some (.ref 21), some (.int x1), some (.ref 53), some (.int x3), some (.int x4), some (.int v4), some (.int (x6 + 1)), none, none]) rfl ?_
        exact h
      · replace h := h.2 h3
        refine Wp.steps 1 (pc' := 76) (lv' := [some (.ref 21), some (.int x1), some (.ref 53), some (.int x3), some (.int x4), some (.int x5), some (.int x6), some (.int (Int64.toInt32 v1)), some (.int 1)]) (st' := [.int 0]) (I' := I3) (J' := J3) rfl ?_
        exact Wp.ret rfl h
    · replace h := h.2 h2
      refine Wp.steps 11 (pc' := 67) (lv' := [some (.ref 21), some (.int x1), some (.ref 53), some (.int x3), some (.int x4), some (.int x5), some (.int x6), some (.int (Int64.toInt32 v1)), some (.int 0)]) (st' := [.int (rmI (Int64.toInt32 v1) 10), .int ((Int64.toInt32 v1) / 10), .int x1, .int x5, .ref 21]) (I' := I2) (J' := J2) rfl ?_
      refine Wp.call (M' := Bx_maySlide) (as := [.ref 21, .int x5, .int x1, .int ((Int64.toInt32 v1) / 10), .int (rmI (Int64.toInt32 v1) 10)]) (rest := []) rfl (CI.use h (fun v3 I3 J3 h => ?_))
      refine Wp.eqs (pc' := 70) (st' := [.int v3]) rfl rfl ?_
      refine Wp.steps 1 (pc' := 72) (lv' := [some (.ref 21), some (.int x1), some (.ref 53), some (.int x3), some (.int x4), some (.int x5), some (.int x6), some (.int (Int64.toInt32 v1)), some (.int 0)]) (st' := [.int 0, .int v3]) (I' := I3) (J' := J3) rfl ?_
      refine Wp.steps 1 (pc' := if v3 = 0 then 77 else 75) (lv' := [some (.ref 21), some (.int x1), some (.ref 53), some (.int x3), some (.int x4), some (.int x5), some (.int x6), some (.int (Int64.toInt32 v1)), some (.int 0)]) (st' := []) (I' := I3) (J' := J3) rfl (Wp.ite (fun h3 => ?_) (fun h3 => ?_))
      · replace h := h.1 h3
        refine Wp.steps 4 (pc' := 9) (lv' := [some (.ref 21), some (.int x1), some (.ref 53), some (.int x3), some (.int x4), some (.int x5), some (.int (x6 + 1)), some (.int (Int64.toInt32 v1)), some (.int 0)]) (st' := []) (I' := I3) (J' := J3) rfl ?_
        refine Wp.drop [7, 8] (lv' := [some (.ref 21), some (.int x1), some (.ref 53), some (.int x3), some (.int x4), some (.int x5), some (.int (x6 + 1)), none, none]) rfl ?_
        exact h
      · replace h := h.2 h3
        refine Wp.steps 1 (pc' := 76) (lv' := [some (.ref 21), some (.int x1), some (.ref 53), some (.int x3), some (.int x4), some (.int x5), some (.int x6), some (.int (Int64.toInt32 v1)), some (.int 0)]) (st' := [.int 0]) (I' := I3) (J' := J3) rfl ?_
        exact Wp.ret rfl h
  · replace h := h.2 h1
    refine Wp.steps 1 (pc' := 107) (lv' := [some (.ref 21), some (.int x1), some (.ref 53), some (.int x3), some (.int x4), some (.int x5), some (.int x6), none, none]) (st' := [.int 1]) (I' := I) (J' := J) rfl ?_
    exact Wp.ret rfl h
theorem v_Sb_clicksSo_21_55_0 {d : Nat} {Q : Post} {I : I2} {J : J2} {x1 : Int32} {x3 : Int32} {x4 : Int32} (h : Wp d Sb_clicksSo Q 9 [some (.ref 21), some (.int x1), some (.ref 55), some (.int x3), some (.int x4), some (.int (I 21 9)), some (.int 0), none, none] [] I J) : Wp d Sb_clicksSo Q 0 [some (.ref 21), some (.int x1), some (.ref 55), some (.int x3), some (.int x4), none, none, none, none] [] I J := by
  refine Wp.steps 5 (pc' := 9) (lv' := [some (.ref 21), some (.int x1), some (.ref 55), some (.int x3), some (.int x4), some (.int (I 21 9)), some (.int 0), none, none]) (st' := []) (I' := I) (J' := J) rfl ?_
  exact h
theorem v_Sb_clicksSo_21_55_9 {d : Nat} {Q : Post} {I : I2} {J : J2} {x1 : Int32} {x3 : Int32} {x4 : Int32} {x5 : Int32} {x6 : Int32} (h : (x6 < x4 → CL d Sh_look [.ref 55, .int (x3 + (2 * x6))] I J (fun v1 I1 J1 => CL d Sh_look [.ref 55, .int ((x3 + (2 * x6)) + 1)] I1 J1 (fun v2 I2 J2 => ((lg_cmp v2 1) = 0 → CI d Bx_maySlide [.ref 21, .int x5, .int x1, .int ((Int64.toInt32 v1) / 10), .int (rmI (Int64.toInt32 v1) 10)] I2 J2 (fun v3 I3 J3 => (v3 = 1 → CI d Bx_behind [.ref 21, .int x5, .int ((Int64.toInt32 v1) / 10), .int (rmI (Int64.toInt32 v1) 10)] I3 J3 (fun v4 I4 J4 => Wp d Sb_clicksSo Q 9 [some (.ref 21), some (.int x1), some (.ref 55), some (.int x3), some (.int x4), some (.int v4), some (.int (x6 + 1)), none, none] [] I4 J4)) ∧ (¬ (v3 = 1) → Q (some (.int 0)) I3 J3))) ∧ (¬ ((lg_cmp v2 1) = 0) → CI d Bx_maySlide [.ref 21, .int x5, .int x1, .int ((Int64.toInt32 v1) / 10), .int (rmI (Int64.toInt32 v1) 10)] I2 J2 (fun v3 I3 J3 => (v3 = 0 → Wp d Sb_clicksSo Q 9 [some (.ref 21), some (.int x1), some (.ref 55), some (.int x3), some (.int x4), some (.int x5), some (.int (x6 + 1)), none, none] [] I3 J3) ∧ (¬ (v3 = 0) → Q (some (.int 0)) I3 J3)))))) ∧ (¬ (x6 < x4) → Q (some (.int 1)) I J)) : Wp d Sb_clicksSo Q 9 [some (.ref 21), some (.int x1), some (.ref 55), some (.int x3), some (.int x4), some (.int x5), some (.int x6), none, none] [] I J := by
  refine Wp.steps 2 (pc' := 13) (lv' := [some (.ref 21), some (.int x1), some (.ref 55), some (.int x3), some (.int x4), some (.int x5), some (.int x6), none, none]) (st' := [.int x4, .int x6]) (I' := I) (J' := J) rfl ?_
  refine Wp.steps 1 (pc' := if x6 < x4 then 16 else 106) (lv' := [some (.ref 21), some (.int x1), some (.ref 55), some (.int x3), some (.int x4), some (.int x5), some (.int x6), none, none]) (st' := []) (I' := I) (J' := J) rfl (Wp.ite (fun h1 => ?_) (fun h1 => ?_))
  · replace h := h.1 h1
    refine Wp.steps 6 (pc' := 23) (lv' := [some (.ref 21), some (.int x1), some (.ref 55), some (.int x3), some (.int x4), some (.int x5), some (.int x6), none, none]) (st' := [.int (x3 + (2 * x6)), .ref 55]) (I' := I) (J' := J) rfl ?_
    refine Wp.call (M' := Sh_look) (as := [.ref 55, .int (x3 + (2 * x6))]) (rest := []) rfl (CL.use h (fun v1 I1 J1 h => ?_))
    refine Wp.eqs (pc' := 26) (st' := [.long v1]) rfl rfl ?_
    refine Wp.steps 10 (pc' := 38) (lv' := [some (.ref 21), some (.int x1), some (.ref 55), some (.int x3), some (.int x4), some (.int x5), some (.int x6), some (.int (Int64.toInt32 v1)), none]) (st' := [.int ((x3 + (2 * x6)) + 1), .ref 55]) (I' := I1) (J' := J1) rfl ?_
    refine Wp.call (M' := Sh_look) (as := [.ref 55, .int ((x3 + (2 * x6)) + 1)]) (rest := []) rfl (CL.use h (fun v2 I2 J2 h => ?_))
    refine Wp.eqs (pc' := 41) (st' := [.long v2]) rfl rfl ?_
    refine Wp.steps 2 (pc' := 43) (lv' := [some (.ref 21), some (.int x1), some (.ref 55), some (.int x3), some (.int x4), some (.int x5), some (.int x6), some (.int (Int64.toInt32 v1)), none]) (st' := [.int (lg_cmp v2 1)]) (I' := I2) (J' := J2) rfl ?_
    refine Wp.steps 1 (pc' := if (lg_cmp v2 1) = 0 then 46 else 50) (lv' := [some (.ref 21), some (.int x1), some (.ref 55), some (.int x3), some (.int x4), some (.int x5), some (.int x6), some (.int (Int64.toInt32 v1)), none]) (st' := []) (I' := I2) (J' := J2) rfl (Wp.ite (fun h2 => ?_) (fun h2 => ?_))
    · replace h := h.1 h2
      refine Wp.steps 12 (pc' := 67) (lv' := [some (.ref 21), some (.int x1), some (.ref 55), some (.int x3), some (.int x4), some (.int x5), some (.int x6), some (.int (Int64.toInt32 v1)), some (.int 1)]) (st' := [.int (rmI (Int64.toInt32 v1) 10), .int ((Int64.toInt32 v1) / 10), .int x1, .int x5, .ref 21]) (I' := I2) (J' := J2) rfl ?_
      refine Wp.call (M' := Bx_maySlide) (as := [.ref 21, .int x5, .int x1, .int ((Int64.toInt32 v1) / 10), .int (rmI (Int64.toInt32 v1) 10)]) (rest := []) rfl (CI.use h (fun v3 I3 J3 h => ?_))
      refine Wp.eqs (pc' := 70) (st' := [.int v3]) rfl rfl ?_
      refine Wp.steps 1 (pc' := 72) (lv' := [some (.ref 21), some (.int x1), some (.ref 55), some (.int x3), some (.int x4), some (.int x5), some (.int x6), some (.int (Int64.toInt32 v1)), some (.int 1)]) (st' := [.int 1, .int v3]) (I' := I3) (J' := J3) rfl ?_
      refine Wp.steps 1 (pc' := if v3 = 1 then 77 else 75) (lv' := [some (.ref 21), some (.int x1), some (.ref 55), some (.int x3), some (.int x4), some (.int x5), some (.int x6), some (.int (Int64.toInt32 v1)), some (.int 1)]) (st' := []) (I' := I3) (J' := J3) rfl (Wp.ite (fun h3 => ?_) (fun h3 => ?_))
      · replace h := h.1 h3
        refine Wp.steps 10 (pc' := 95) (lv' := [some (.ref 21), some (.int x1), some (.ref 55), some (.int x3), some (.int x4), some (.int x5), some (.int x6), some (.int (Int64.toInt32 v1)), some (.int 1)]) (st' := [.int (rmI (Int64.toInt32 v1) 10), .int ((Int64.toInt32 v1) / 10), .int x5, .ref 21]) (I' := I3) (J' := J3) rfl ?_
        refine Wp.call (M' := Bx_behind) (as := [.ref 21, .int x5, .int ((Int64.toInt32 v1) / 10), .int (rmI (Int64.toInt32 v1) 10)]) (rest := []) rfl (CI.use h (fun v4 I4 J4 h => ?_))
        refine Wp.eqs (pc' := 98) (st' := [.int v4]) rfl rfl ?_
        refine Wp.steps 3 (pc' := 9) (lv' := [some (.ref 21), some (.int x1), some (.ref 55), some (.int x3), some (.int x4), some (.int v4), some (.int (x6 + 1)), some (.int (Int64.toInt32 v1)), some (.int 1)]) (st' := []) (I' := I4) (J' := J4) rfl ?_
        refine Wp.drop [7, 8] (lv' := [some (.ref 21), some (.int x1), some (.ref 55), some (.int x3), some (.int x4), some (.int v4), some (.int (x6 + 1)), none, none]) rfl ?_
        exact h
      · replace h := h.2 h3
        refine Wp.steps 1 (pc' := 76) (lv' := [some (.ref 21), some (.int x1), some (.ref 55), some (.int x3), some (.int x4), some (.int x5), some (.int x6), some (.int (Int64.toInt32 v1)), some (.int 1)]) (st' := [.int 0]) (I' := I3) (J' := J3) rfl ?_
        exact Wp.ret rfl h
    · replace h := h.2 h2
      refine Wp.steps 11 (pc' := 67) (lv' := [some (.ref 21), some (.int x1), some (.ref 55), some (.int x3), some (.int x4), some (.int x5), some (.int x6), some (.int (Int64.toInt32 v1)), some (.int 0)]) (st' := [.int (rmI (Int64.toInt32 v1) 10), .int ((Int64.toInt32 v1) / 10), .int x1, .int x5, .ref 21]) (I' := I2) (J' := J2) rfl ?_
      refine Wp.call (M' := Bx_maySlide) (as := [.ref 21, .int x5, .int x1, .int ((Int64.toInt32 v1) / 10), .int (rmI (Int64.toInt32 v1) 10)]) (rest := []) rfl (CI.use h (fun v3 I3 J3 h => ?_))
      refine Wp.eqs (pc' := 70) (st' := [.int v3]) rfl rfl ?_
      refine Wp.steps 1 (pc' := 72) (lv' := [some (.ref 21), some (.int x1), some (.ref 55), some (.int x3), some (.int x4), some (.int x5), some (.int x6), some (.int (Int64.toInt32 v1)), some (.int 0)]) (st' := [.int 0, .int v3]) (I' := I3) (J' := J3) rfl ?_
      refine Wp.steps 1 (pc' := if v3 = 0 then 77 else 75) (lv' := [some (.ref 21), some (.int x1), some (.ref 55), some (.int x3), some (.int x4), some (.int x5), some (.int x6), some (.int (Int64.toInt32 v1)), some (.int 0)]) (st' := []) (I' := I3) (J' := J3) rfl (Wp.ite (fun h3 => ?_) (fun h3 => ?_))
      · replace h := h.1 h3
        refine Wp.steps 4 (pc' := 9) (lv' := [some (.ref 21), some (.int x1), some (.ref 55), some (.int x3), some (.int x4), some (.int x5), some (.int (x6 + 1)), some (.int (Int64.toInt32 v1)), some (.int 0)]) (st' := []) (I' := I3) (J' := J3) rfl ?_
        refine Wp.drop [7, 8] (lv' := [some (.ref 21), some (.int x1), some (.ref 55), some (.int x3), some (.int x4), some (.int x5), some (.int (x6 + 1)), none, none]) rfl ?_
        exact h
      · replace h := h.2 h3
        refine Wp.steps 1 (pc' := 76) (lv' := [some (.ref 21), some (.int x1), some (.ref 55), some (.int x3), some (.int x4), some (.int x5), some (.int x6), some (.int (Int64.toInt32 v1)), some (.int 0)]) (st' := [.int 0]) (I' := I3) (J' := J3) rfl ?_
        exact Wp.ret rfl h
  · replace h := h.2 h1
    refine Wp.steps 1 (pc' := 107) (lv' := [some (.ref 21), some (.int x1), some (.ref 55), some (.int x3), some (.int x4), some (.int x5), some (.int x6), none, none]) (st' := [.int 1]) (I' := I) (J' := J) rfl ?_
    exact Wp.ret rfl h
