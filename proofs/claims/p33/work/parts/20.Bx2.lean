/-! what each way through a method asks (by program): Bx_holding_21, Bx_slipsBack_21, Bx_ringLets_21, Bx_isMet_21 -/
theorem v_Bx_holding_21_0 {d : Nat} {Q : Post} {I : I2} {J : J2} {x1 : Int32} {x2 : Int32} {x3 : Int32} (h : Wp d Bx_holding Q 6 [some (.ref 21), some (.int x1), some (.int x2), some (.int x3), some (.int 0), some (.int 0)] [] I J) : Wp d Bx_holding Q 0 [some (.ref 21), some (.int x1), some (.int x2), some (.int x3), none, none] [] I J := by
  refine Wp.steps 4 (pc' := 6) (lv' := [some (.ref 21), some (.int x1), some (.int x2), some (.int x3), some (.int 0), some (.int 0)]) (st' := []) (I' := I) (J' := J) rfl ?_
  exact h
theorem v_Bx_holding_21_6 {d : Nat} {Q : Post} {I : I2} {J : J2} {x1 : Int32} {x2 : Int32} {x3 : Int32} {x4 : Int32} {x5 : Int32} (h : (x5 < (I 21 7) → vp_in x5 6 ∧ (((I 24 (tN x5)) = x2 → vp_in x5 6 ∧ (((I 25 (tN x5)) = 2 → CI d Bx_isMet [.ref 21, .int x5, .int x1] I J (fun v1 I1 J1 => (v1 = 0 → Wp d Bx_holding Q 6 [some (.ref 21), some (.int x1), some (.int x2), some (.int x3), some (.int (x4 ||| (slI 1 x5))), some (.int (x5 + 1))] [] I1 J1) ∧ (¬ (v1 = 0) → Wp d Bx_holding Q 6 [some (.ref 21), some (.int x1), some (.int x2), some (.int x3), some (.int x4), some (.int (x5 + 1))] [] I1 J1))) ∧ (¬ ((I 25 (tN x5)) = 2) → vp_in x5 6 ∧ (((I 25 (tN x5)) = x3 → CI d Bx_isMet [.ref 21, .int x5, .int x1] I J (fun v1 I1 J1 => (v1 = 0 → Wp d Bx_holding Q 6 [some (.ref 21), some (.int x1), some (.int x2), some (.int x3), some (.int (x4 ||| (slI 1 x5))), some (.int (x5 + 1))] [] I1 J1) ∧ (¬ (v1 = 0) → Wp d Bx_holding Q 6 [some (.ref 21), some (.int x1), some (.int x2), some (.int x3), some (.int x4), some (.int (x5 + 1))] [] I1 J1))) ∧ (¬ ((I 25 (tN x5)) = x3) → Wp d Bx_holding Q 6 [some (.ref 21), some (.int x1), some (.int x2), some (.int x3), some (.int x4), some (.int (x5 + 1))] [] I J))))) ∧ (¬ ((I 24 (tN x5)) = x2) → Wp d Bx_holding Q 6 [some (.ref 21), some (.int x1), some (.int x2), some (.int x3), some (.int x4), some (.int (x5 + 1))] [] I J))) ∧ (¬ (x5 < (I 21 7)) → Q (some (.int x4)) I J)) : Wp d Bx_holding Q 6 [some (.ref 21), some (.int x1), some (.int x2), some (.int x3), some (.int x4), some (.int x5)] [] I J := by
  refine Wp.steps 3 (pc' := 12) (lv' := [some (.ref 21), some (.int x1), some (.int x2), some (.int x3), some (.int x4), some (.int x5)]) (st' := [.int (I 21 7), .int x5]) (I' := I) (J' := J) rfl ?_
  refine Wp.steps 1 (pc' := if x5 < (I 21 7) then 15 else 76) (lv' := [some (.ref 21), some (.int x1), some (.int x2), some (.int x3), some (.int x4), some (.int x5)]) (st' := []) (I' := I) (J' := J) rfl (Wp.ite (fun h1 => ?_) (fun h1 => ?_))
  · replace h := h.1 h1
    refine Wp.steps 3 (pc' := 21) (lv' := [some (.ref 21), some (.int x1), some (.int x2), some (.int x3), some (.int x4), some (.int x5)]) (st' := [.int x5, .ref 24]) (I' := I) (J' := J) rfl ?_
    refine Wp.iald rfl rfl h.1 ?_
    replace h := h.2
    refine Wp.steps 1 (pc' := 23) (lv' := [some (.ref 21), some (.int x1), some (.int x2), some (.int x3), some (.int x4), some (.int x5)]) (st' := [.int x2, .int (I 24 (tN x5))]) (I' := I) (J' := J) rfl ?_
    refine Wp.steps 1 (pc' := if (I 24 (tN x5)) = x2 then 26 else 70) (lv' := [some (.ref 21), some (.int x1), some (.int x2), some (.int x3), some (.int x4), some (.int x5)]) (st' := []) (I' := I) (J' := J) rfl (Wp.ite (fun h2 => ?_) (fun h2 => ?_))
    · replace h := h.1 h2
      refine Wp.steps 3 (pc' := 32) (lv' := [some (.ref 21), some (.int x1), some (.int x2), some (.int x3), some (.int x4), some (.int x5)]) (st' := [.int x5, .ref 25]) (I' := I) (J' := J) rfl ?_
      refine Wp.iald rfl rfl h.1 ?_
      replace h := h.2
      refine Wp.steps 1 (pc' := 34) (lv' := [some (.ref 21), some (.int x1), some (.int x2), some (.int x3), some (.int x4), some (.int x5)]) (st' := [.int 2, .int (I 25 (tN x5))]) (I' := I) (J' := J) rfl ?_
      refine Wp.steps 1 (pc' := if (I 25 (tN x5)) = 2 then 51 else 37) (lv' := [some (.ref 21), some (.int x1), some (.int x2), some (.int x3), some (.int x4), some (.int x5)]) (st' := []) (I' := I) (J' := J) rfl (Wp.ite (fun h3 => ?_) (fun h3 => ?_))
      · replace h := h.1 h3
        refine Wp.steps 3 (pc' := 55) (lv' := [some (.ref 21), some (.int x1), some (.int x2), some (.int x3), some (.int x4), some (.int x5)]) (st' := [.int x1, .int x5, .ref 21]) (I' := I) (J' := J) rfl ?_
        refine Wp.call (M' := Bx_isMet) (as := [.ref 21, .int x5, .int x1]) (rest := []) rfl (CI.use h (fun v1 I1 J1 h => ?_))
        refine Wp.eqs (pc' := 58) (st' := [.int v1]) rfl rfl ?_
        refine Wp.steps 1 (pc' := if v1 = 0 then 61 else 70) (lv' := [some (.ref 21), some (.int x1), some (.int x2), some (.int x3), some (.int x4), some (.int x5)]) (st' := []) (I' := I1) (J' := J1) rfl (Wp.ite (fun h4 => ?_) (fun h4 => ?_))
        · replace h := h.1 h4
          refine Wp.steps 8 (pc' := 6) (lv' := [some (.ref 21), some (.int x1), some (.int x2), some (.int x3), some (.int (x4 ||| (slI 1 x5))), some (.int (x5 + 1))]) (st' := []) (I' := I1) (J' := J1) rfl ?_
          exact h
        · replace h := h.2 h4
          refine Wp.steps 2 (pc' := 6) (lv' := [some (.ref 21), some (.int x1), some (.int x2), some (.int x3), some (.int x4), some (.int (x5 + 1))]) (st' := []) (I' := I1) (J' := J1) rfl ?_
          exact h
      · replace h := h.2 h3
        refine Wp.steps 3 (pc' := 43) (lv' := [some (.ref 21), some (.int x1), some (.int x2), some (.int x3), some (.int x4), some (.int x5)]) (st' := [.int x5, .ref 25]) (I' := I) (J' := J) rfl ?_
        refine Wp.iald rfl rfl h.1 ?_
        replace h := h.2
        refine Wp.steps 1 (pc' := 45) (lv' := [some (.ref 21), some (.int x1), some (.int x2), some (.int x3), some (.int x4), some (.int x5)]) (st' := [.int x3, .int (I 25 (tN x5))]) (I' := I) (J' := J) rfl ?_
        refine Wp.steps 1 (pc' := if (I 25 (tN x5)) = x3 then 51 else 48) (lv' := [some (.ref 21), some (.int x1), some (.int x2), some (.int x3), some (.int x4), some (.int x5)]) (st' := []) (I' := I) (J' := J) rfl (Wp.ite (fun h4 => ?_) (fun h4 => ?_))
        · replace h := h.1 h4
          refine Wp.steps 3 (pc' := 55) (lv' := [some (.ref 21), some (.int x1), some (.int x2), some (.int x3), some (.int x4), some (.int x5)]) (st' := [.int x1, .int x5, .ref 21]) (I' := I) (J' := J) rfl ?_
          refine Wp.call (M' := Bx_isMet) (as := [.ref 21, .int x5, .int x1]) (rest := []) rfl (CI.use h (fun v1 I1 J1 h => ?_))
          refine Wp.eqs (pc' := 58) (st' := [.int v1]) rfl rfl ?_
          refine Wp.steps 1 (pc' := if v1 = 0 then 61 else 70) (lv' := [some (.ref 21), some (.int x1), some (.int x2), some (.int x3), some (.int x4), some (.int x5)]) (st' := []) (I' := I1) (J' := J1) rfl (Wp.ite (fun h5 => ?_) (fun h5 => ?_))
          · replace h := h.1 h5
            refine Wp.steps 8 (pc' := 6) (lv' := [some (.ref 21), some (.int x1), some (.int x2), some (.int x3), some (.int (x4 ||| (slI 1 x5))), some (.int (x5 + 1))]) (st' := []) (I' := I1) (J' := J1) rfl ?_
            exact h
          · replace h := h.2 h5
            refine Wp.steps 2 (pc' := 6) (lv' := [some (.ref 21), some (.int x1), some (.int x2), some (.int x3), some (.int x4), some (.int (x5 + 1))]) (st' := []) (I' := I1) (J' := J1) rfl ?_
            exact h
        · replace h := h.2 h4
          refine Wp.steps 3 (pc' := 6) (lv' := [some (.ref 21), some (.int x1), some (.int x2), some (.int x3), some (.int x4), some (.int (x5 + 1))]) (st' := []) (I' := I) (J' := J) rfl ?_
          exact h
    · replace h := h.2 h2
      refine Wp.steps 2 (pc' := 6) (lv' := [some (.ref 21), some (.int x1), some (.int x2), some (.int x3), some (.int x4), some (.int (x5 + 1))]) (st' := []) (I' := I) (J' := J) rfl ?_
      exact h
  · replace h := h.2 h1
    refine Wp.steps 1 (pc' := 78) (lv' := [some (.ref 21), some (.int x1), some (.int x2), some (.int x3), some (.int x4), some (.int x5)]) (st' := [.int x4]) (I' := I) (J' := J) rfl ?_
    exact Wp.ret rfl h
theorem v_Bx_slipsBack_21_0 {d : Nat} {Q : Post} {I : I2} {J : J2} {x1 : Int32} {x2 : Int32} (h : (x2 = 0 → Q (some (.int 0)) I J) ∧ (¬ (x2 = 0) → vp_in x1 5 ∧ (((I 22 (tN x1)) = 1 → Q (some (.int 1)) I J) ∧ (¬ ((I 22 (tN x1)) = 1) → vp_in x1 5 ∧ (((I 22 (tN x1)) = 3 → vp_in x1 5 ∧ ((x2 < (I 23 (tN x1)) → Q (some (.int 1)) I J) ∧ (¬ (x2 < (I 23 (tN x1))) → Q (some (.int 0)) I J))) ∧ (¬ ((I 22 (tN x1)) = 3) → Q (some (.int 0)) I J)))))) : Wp d Bx_slipsBack Q 0 [some (.ref 21), some (.int x1), some (.int x2)] [] I J := by
  refine Wp.steps 1 (pc' := 1) (lv' := [some (.ref 21), some (.int x1), some (.int x2)]) (st' := [.int x2]) (I' := I) (J' := J) rfl ?_
  refine Wp.steps 1 (pc' := if x2 = 0 then 4 else 6) (lv' := [some (.ref 21), some (.int x1), some (.int x2)]) (st' := []) (I' := I) (J' := J) rfl (Wp.ite (fun h1 => ?_) (fun h1 => ?_))
  · replace h := h.1 h1
    refine Wp.steps 1 (pc' := 5) (lv' := [some (.ref 21), some (.int x1), some (.int x2)]) (st' := [.int 0]) (I' := I) (J' := J) rfl ?_
    exact Wp.ret rfl h
  · replace h := h.2 h1
    refine Wp.steps 3 (pc' := 11) (lv' := [some (.ref 21), some (.int x1), some (.int x2)]) (st' := [.int x1, .ref 22]) (I' := I) (J' := J) rfl ?_
    refine Wp.iald rfl rfl h.1 ?_
    replace h := h.2
    refine Wp.steps 1 (pc' := 13) (lv' := [some (.ref 21), some (.int x1), some (.int x2)]) (st' := [.int 1, .int (I 22 (tN x1))]) (I' := I) (J' := J) rfl ?_
    refine Wp.steps 1 (pc' := if (I 22 (tN x1)) = 1 then 36 else 16) (lv' := [some (.ref 21), some (.int x1), some (.int x2)]) (st' := []) (I' := I) (J' := J) rfl (Wp.ite (fun h2 => ?_) (fun h2 => ?_))
    · replace h := h.1 h2
      refine Wp.steps 2 (pc' := 41) (lv' := [some (.ref 21), some (.int x1), some (.int x2)]) (st' := [.int 1]) (I' := I) (J' := J) rfl ?_
      exact Wp.ret rfl h
    · replace h := h.2 h2
      refine Wp.steps 3 (pc' := 21) (lv' := [some (.ref 21), some (.int x1), some (.int x2)]) (st' := [.int x1, .ref 22]) (I' := I) (J' := J) rfl ?_
      refine Wp.iald rfl rfl h.1 ?_
      replace h := h.2
      refine Wp.steps 1 (pc' := 23) (lv' := [some (.ref 21), some (.int x1), some (.int x2)]) (st' := [.int 3, .int (I 22 (tN x1))]) (I' := I) (J' := J) rfl ?_
      refine Wp.steps 1 (pc' := if (I 22 (tN x1)) = 3 then 26 else 40) (lv' := [some (.ref 21), some (.int x1), some (.int x2)]) (st' := []) (I' := I) (J' := J) rfl (Wp.ite (fun h3 => ?_) (fun h3 => ?_))
      · replace h := h.1 h3
        refine Wp.steps 4 (pc' := 32) (lv' := [some (.ref 21), some (.int x1), some (.int x2)]) (st' := [.int x1, .ref 23, .int x2]) (I' := I) (J' := J) rfl ?_
        refine Wp.iald rfl rfl h.1 ?_
        replace h := h.2
        refine Wp.steps 1 (pc' := if x2 < (I 23 (tN x1)) then 36 else 40) (lv' := [some (.ref 21), some (.int x1), some (.int x2)]) (st' := []) (I' := I) (J' := J) rfl (Wp.ite (fun h4 => ?_) (fun h4 => ?_))
        · replace h := h.1 h4
          refine Wp.steps 2 (pc' := 41) (lv' := [some (.ref 21), some (.int x1), some (.int x2)]) (st' := [.int 1]) (I' := I) (J' := J) rfl ?_
          exact Wp.ret rfl h
        · replace h := h.2 h4
          refine Wp.steps 1 (pc' := 41) (lv' := [some (.ref 21), some (.int x1), some (.int x2)]) (st' := [.int 0]) (I' := I) (J' := J) rfl ?_
          exact Wp.ret rfl h
      · replace h := h.2 h3
        refine Wp.steps 1 (pc' := 41) (lv' := [some (.ref 21), some (.int x1), some (.int x2)]) (st' := [.int 0]) (I' := I) (J' := J) rfl ?_
        exact Wp.ret rfl h
theorem v_Bx_ringLets_21_0 {d : Nat} {Q : Post} {I : I2} {J : J2} {x1 : Int32} {x2 : Int32} (h : (x2 = 0 → Q (some (.int 1)) I J) ∧ (¬ (x2 = 0) → CI d Sb_placeIn [.int x1, .int (x2 - 1)] I J (fun v1 I1 J1 => (0 < v1 → ((x1 &&& ((slI 1 (2 * (x2 - 1))) - 1)) = 0 → Q (some (.int 1)) I1 J1) ∧ (¬ ((x1 &&& ((slI 1 (2 * (x2 - 1))) - 1)) = 0) → Q (some (.int 0)) I1 J1)) ∧ (¬ (0 < v1) → Q (some (.int 0)) I1 J1)))) : Wp d Bx_ringLets Q 0 [some (.ref 21), some (.int x1), some (.int x2), none, none] [] I J := by
  refine Wp.steps 1 (pc' := 1) (lv' := [some (.ref 21), some (.int x1), some (.int x2), none, none]) (st' := [.int x2]) (I' := I) (J' := J) rfl ?_
  refine Wp.steps 1 (pc' := if x2 = 0 then 4 else 6) (lv' := [some (.ref 21), some (.int x1), some (.int x2), none, none]) (st' := []) (I' := I) (J' := J) rfl (Wp.ite (fun h1 => ?_) (fun h1 => ?_))
  · replace h := h.1 h1
    refine Wp.steps 1 (pc' := 5) (lv' := [some (.ref 21), some (.int x1), some (.int x2), none, none]) (st' := [.int 1]) (I' := I) (J' := J) rfl ?_
    exact Wp.ret rfl h
  · replace h := h.2 h1
    refine Wp.steps 16 (pc' := 23) (lv' := [some (.ref 21), some (.int x1), some (.int x2), some (.int (x2 - 1)), some (.int (x1 &&& ((slI 1 (2 * (x2 - 1))) - 1)))]) (st' := [.int (x2 - 1), .int x1]) (I' := I) (J' := J) rfl ?_
    refine Wp.call (M' := Sb_placeIn) (as := [.int x1, .int (x2 - 1)]) (rest := []) rfl (CI.use h (fun v1 I1 J1 h => ?_))
    refine Wp.eqs (pc' := 26) (st' := [.int v1]) rfl rfl ?_
    refine Wp.steps 1 (pc' := if 0 < v1 then 29 else 38) (lv' := [some (.ref 21), some (.int x1), some (.int x2), some (.int (x2 - 1)), some (.int (x1 &&& ((slI 1 (2 * (x2 - 1))) - 1)))]) (st' := []) (I' := I1) (J' := J1) rfl (Wp.ite (fun h2 => ?_) (fun h2 => ?_))
    · replace h := h.1 h2
      refine Wp.steps 1 (pc' := 31) (lv' := [some (.ref 21), some (.int x1), some (.int x2), some (.int (x2 - 1)), some (.int (x1 &&& ((slI 1 (2 * (x2 - 1))) - 1)))]) (st' := [.int (x1 &&& ((slI 1 (2 * (x2 - 1))) - 1))]) (I' := I1) (J' := J1) rfl ?_
      refine Wp.steps 1 (pc' := if (x1 &&& ((slI 1 (2 * (x2 - 1))) - 1)) = 0 then 34 else 38) (lv' := [some (.ref 21), some (.int x1), some (.int x2), some (.int (x2 - 1)), some (.int (x1 &&& ((slI 1 (2 * (x2 - 1))) - 1)))]) (st' := []) (I' := I1) (J' := J1) rfl (Wp.ite (fun h3 => ?_) (fun h3 => ?_))
      · replace h := h.1 h3
        refine Wp.steps 2 (pc' := 39) (lv' := [some (.ref 21), some (.int x1), some (.int x2), some (.int (x2 - 1)), some (.int (x1 &&& ((slI 1 (2 * (x2 - 1))) - 1)))]) (st' := [.int 1]) (I' := I1) (J' := J1) rfl ?_
        exact Wp.ret rfl h
      · replace h := h.2 h3
        refine Wp.steps 1 (pc' := 39) (lv' := [some (.ref 21), some (.int x1), some (.int x2), some (.int (x2 - 1)), some (.int (x1 &&& ((slI 1 (2 * (x2 - 1))) - 1)))]) (st' := [.int 0]) (I' := I1) (J' := J1) rfl ?_
        exact Wp.ret rfl h
    · replace h := h.2 h2
      refine Wp.steps 1 (pc' := 39) (lv' := [some (.ref 21), some (.int x1), some (.int x2), some (.int (x2 - 1)), some (.int (x1 &&& ((slI 1 (2 * (x2 - 1))) - 1)))]) (st' := [.int 0]) (I' := I1) (J' := J1) rfl ?_
      exact Wp.ret rfl h
theorem v_Bx_isMet_21_0 {d : Nat} {Q : Post} {I : I2} {J : J2} {x1 : Int32} {x2 : Int32} (h : vp_in x1 6 ∧ (vp_in x1 6 ∧ (CI d Sb_placeIn [.int x2, .int (I 26 (tN x1))] I J (fun v1 I1 J1 => (((srI (I 27 (tN x1)) v1) &&& 1) = 0 → Q (some (.int 0)) I1 J1) ∧ (¬ (((srI (I 27 (tN x1)) v1) &&& 1) = 0) → Q (some (.int 1)) I1 J1))))) : Wp d Bx_isMet Q 0 [some (.ref 21), some (.int x1), some (.int x2)] [] I J := by
  refine Wp.steps 3 (pc' := 5) (lv' := [some (.ref 21), some (.int x1), some (.int x2)]) (st' := [.int x1, .ref 27]) (I' := I) (J' := J) rfl ?_
  refine Wp.iald rfl rfl h.1 ?_
  replace h := h.2
  refine Wp.steps 4 (pc' := 12) (lv' := [some (.ref 21), some (.int x1), some (.int x2)]) (st' := [.int x1, .ref 26, .int x2, .int (I 27 (tN x1))]) (I' := I) (J' := J) rfl ?_
  refine Wp.iald rfl rfl h.1 ?_
  replace h := h.2
  refine Wp.call (M' := Sb_placeIn) (as := [.int x2, .int (I 26 (tN x1))]) (rest := [.int (I 27 (tN x1))]) rfl (CI.use h (fun v1 I1 J1 h => ?_))
  refine Wp.eqs (pc' := 16) (st' := [.int v1, .int (I 27 (tN x1))]) rfl rfl ?_
  refine Wp.steps 3 (pc' := 19) (lv' := [some (.ref 21), some (.int x1), some (.int x2)]) (st' := [.int ((srI (I 27 (tN x1)) v1) &&& 1)]) (I' := I1) (J' := J1) rfl ?_
  refine Wp.steps 1 (pc' := if ((srI (I 27 (tN x1)) v1) &&& 1) = 0 then 26 else 22) (lv' := [some (.ref 21), some (.int x1), some (.int x2)]) (st' := []) (I' := I1) (J' := J1) rfl (Wp.ite (fun h1 => ?_) (fun h1 => ?_))
  · replace h := h.1 h1
    refine Wp.steps 1 (pc' := 27) (lv' := [some (.ref 21), some (.int x1), some (.int x2)]) (st' := [.int 0]) (I' := I1) (J' := J1) rfl ?_
    exact Wp.ret rfl h
  · replace h := h.2 h1
    refine Wp.steps 2 (pc' := 27) (lv' := [some (.ref 21), some (.int x1), some (.int x2)]) (st' := [.int 1]) (I' := I1) (J' := J1) rfl ?_
    exact Wp.ret rfl h
