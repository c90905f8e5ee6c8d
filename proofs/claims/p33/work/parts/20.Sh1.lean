/-! what each way through a method asks (by program): Sh_begin_49, Sh_begin_51, Sh_begin_53, Sh_begin_55, Sh_fault_49, Sh_put_49, Sh_fault_51, Sh_put_51, Sh_fault_53, Sh_put_53, Sh_fault_55, Sh_put_55, Sh_end_49, Sh_end_51, Sh_end_53, Sh_end_55, Sh_holds_49, Sh_holds_51, Sh_holds_53, Sh_holds_55, Sh_look_49, Sh_look_51, Sh_look_53, Sh_look_55 -/
theorem v_Sh_begin_49_0 {d : Nat} {Q : Post} {I : I2} {J : J2} {x1 : Int32} {x2 : Int32} (h : Wp d Sh_begin Q 17 [some (.ref 49), some (.int x1), some (.int x2), some (.int 0)] [] (up2 (up2 (up2 I 49 0 1) 49 1 x1) 49 2 x2) J) : Wp d Sh_begin Q 0 [some (.ref 49), some (.int x1), some (.int x2), none] [] I J := by
  refine Wp.steps 11 (pc' := 17) (lv' := [some (.ref 49), some (.int x1), some (.int x2), some (.int 0)]) (st' := []) (I' := (up2 (up2 (up2 I 49 0 1) 49 1 x1) 49 2 x2)) (J' := J) rfl ?_
  exact h
theorem v_Sh_begin_49_17 {d : Nat} {Q : Post} {I : I2} {J : J2} {x1 : Int32} {x2 : Int32} {x3 : Int32} (h : (x3 < 24 → vp_in x3 24 ∧ (Wp d Sh_begin Q 17 [some (.ref 49), some (.int x1), some (.int x2), some (.int (x3 + 1))] [] I (upJ J 50 (tN x3) 0))) ∧ (¬ (x3 < 24) → Q none I J)) : Wp d Sh_begin Q 17 [some (.ref 49), some (.int x1), some (.int x2), some (.int x3)] [] I J := by
  refine Wp.steps 2 (pc' := 20) (lv' := [some (.ref 49), some (.int x1), some (.int x2), some (.int x3)]) (st' := [.int 24, .int x3]) (I' := I) (J' := J) rfl ?_
  refine Wp.steps 1 (pc' := if x3 < 24 then 23 else 36) (lv' := [some (.ref 49), some (.int x1), some (.int x2), some (.int x3)]) (st' := []) (I' := I) (J' := J) rfl (Wp.ite (fun h1 => ?_) (fun h1 => ?_))
  · replace h := h.1 h1
    refine Wp.steps 4 (pc' := 29) (lv' := [some (.ref 49), some (.int x1), some (.int x2), some (.int x3)]) (st' := [.long 0, .int x3, .ref 50]) (I' := I) (J' := J) rfl ?_
    refine Wp.last rfl rfl h.1 ?_
    replace h := h.2
    refine Wp.steps 2 (pc' := 17) (lv' := [some (.ref 49), some (.int x1), some (.int x2), some (.int (x3 + 1))]) (st' := []) (I' := I) (J' := (upJ J 50 (tN x3) 0)) rfl ?_
    exact h
  · replace h := h.2 h1
    exact Wp.ret rfl h
theorem v_Sh_begin_51_0 {d : Nat} {Q : Post} {I : I2} {J : J2} {x1 : Int32} {x2 : Int32} (h : Wp d Sh_begin Q 17 [some (.ref 51), some (.int x1), some (.int x2), some (.int 0)] [] (up2 (up2 (up2 I 51 0 1) 51 1 x1) 51 2 x2) J) : Wp d Sh_begin Q 0 [some (.ref 51), some (.int x1), some (.int x2), none] [] I J := by
  refine Wp.steps 11 (pc' := 17) (lv' := [some (.ref 51), some (.int x1), some (.int x2), some (.int 0)]) (st' := []) (I' := (up2 (up2 (up2 I 51 0 1) 51 1 x1) 51 2 x2)) (J' := J) rfl ?_
  exact h
theorem v_Sh_begin_51_17 {d : Nat} {Q : Post} {I : I2} {J : J2} {x1 : Int32} {x2 : Int32} {x3 : Int32} (h : (x3 < 24 → vp_in x3 24 ∧ (Wp d Sh_begin Q 17 [some (.ref 51), some (.int x1), some (.int x2), some (.int (x3 + 1))] [] I (upJ J 52 (tN x3) 0))) ∧ (¬ (x3 < 24) → Q none I J)) : Wp d Sh_begin Q 17 [some (.ref 51), some (.int x1), some (.int x2), some (.int x3)] [] I J := by
  refine Wp.steps 2 (pc' := 20) (lv' := [some (.ref 51), some (.int x1), some (.int x2), some (.int x3)]) (st' := [.int 24, .int x3]) (I' := I) (J' := J) rfl ?_
  refine Wp.steps 1 (pc' := if x3 < 24 then 23 else 36) (lv' := [some (.ref 51), some (.int x1), some (.int x2), some (.int x3)]) (st' := []) (I' := I) (J' := J) rfl (Wp.ite (fun h1 => ?_) (fun h1 => ?_))
  · replace h := h.1 h1
    refine Wp.steps 4 (pc' := 29) (lv' := [some (.ref 51), some (.int x1), some (.int x2), some (.int x3)]) (st' := [.long 0, .int x3, .ref 52]) (I' := I) (J' := J) rfl ?_
    refine Wp.last rfl rfl h.1 ?_
    replace h := h.2
    refine Wp.steps 2 (pc' := 17) (lv' := [some (.ref 51), some (.int x1), some (.int x2), some (.int (x3 + 1))]) (st' := []) (I' := I) (J' := (upJ J 52 (tN x3) 0)) rfl ?_
    exact h
  · replace h := h.2 h1
    exact Wp.ret rfl h
theorem v_Sh_begin_53_0 {d : Nat} {Q : Post} {I : I2} {J : J2} {x1 : Int32} {x2 : Int32} (h : Wp d Sh_begin Q 17 [some (.ref 53), some (.int x1), some (.int x2), some (.int 0)] [] (up2 (up2 (up2 I 53 0 1) 53 1 x1) 53 2 x2) J) : Wp d Sh_begin Q 0 [some (.ref 53), some (.int x1), some (.int x2), none] [] I J := by
  refine Wp.steps 11 (pc' := 17) (lv' := [some (.ref 53), some (.int x1), some (.int x2), some (.int 0)]) (st' := []) (I' := (up2 (up2 (up2 I 53 0 1) 53 1 x1) 53 2 x2)) (J' := J) rfl ?_
  exact h
theorem v_Sh_begin_53_17 {d : Nat} {Q : Post} {I : I2} {J : J2} {x1 : Int32} {x2 : Int32} {x3 : Int32} (h : (x3 < 24 → vp_in x3 24 ∧ (Wp d Sh_begin Q 17 [some (.ref 53), some (.int x1), some (.int x2), some (.int (x3 + 1))] [] I (upJ J 54 (tN x3) 0))) ∧ (¬ (x3 < 24) → Q none I J)) : Wp d Sh_begin Q 17 [some (.ref 53), some (.int x1), some (.int x2), some (.int x3)] [] I J := by
  refine Wp.steps 2 (pc' := 20) (lv' := [some (.ref 53), some (.int x1), some (.int x2), some (.int x3)]) (st' := [.int 24, .int x3]) (I' := I) (J' := J) rfl ?_
  refine Wp.steps 1 (pc' := if x3 < 24 then 23 else 36) (lv' := [some (.ref 53), some (.int x1), some (.int x2), some (.int x3)]) (st' := []) (I' := I) (J' := J) rfl (Wp.ite (fun h1 => ?_) (fun h1 => ?_))
  · replace h := h.1 h1
    refine Wp.steps 4 (pc' := 29) (lv' := [some (.ref 53), some (.int x1), some (.int x2), some (.int x3)]) (st' := [.long 0, .int x3, .ref 54]) (I' := I) (J' := J) rfl ?_
    refine Wp.last rfl rfl h.1 ?_
    replace h := h.2
    refine Wp.steps 2 (pc' := 17) (lv' := [some (.ref 53), some (.int x1), some (.int x2), some (.int (x3 + 1))]) (st' := []) (I' := I) (J' := (upJ J 54 (tN x3) 0)) rfl ?_
    exact h
  · replace h := h.2 h1
    exact Wp.ret rfl h
theorem v_Sh_begin_55_0 {d : Nat} {Q : Post} {I : I2} {J : J2} {x1 : Int32} {x2 : Int32} (h : Wp d Sh_begin Q 17 [some (.ref 55), some (.int x1), some (.int x2), some (.int 0)] [] (up2 (up2 (up2 I 55 0 1) 55 1 x1) 55 2 x2) J) : Wp d Sh_begin Q 0 [some (.ref 55), some (.int x1), some (.int x2), none] [] I J := by
  refine Wp.steps 11 (pc' := 17) (lv' := [some (.ref 55), some (.int x1), some (.int x2), some (.int 0)]) (st' := []) (I' := (up2 (up2 (up2 I 55 0 1) 55 1 x1) 55 2 x2)) (J' := J) rfl ?_
  exact h
theorem v_Sh_begin_55_17 {d : Nat} {Q : Post} {I : I2} {J : J2} {x1 : Int32} {x2 : Int32} {x3 : Int32} (h : (x3 < 24 → vp_in x3 24 ∧ (Wp d Sh_begin Q 17 [some (.ref 55), some (.int x1), some (.int x2), some (.int (x3 + 1))] [] I (upJ J 56 (tN x3) 0))) ∧ (¬ (x3 < 24) → Q none I J)) : Wp d Sh_begin Q 17 [some (.ref 55), some (.int x1), some (.int x2), some (.int x3)] [] I J := by
  refine Wp.steps 2 (pc' := 20) (lv' := [some (.ref 55), some (.int x1), some (.int x2), some (.int x3)]) (st' := [.int 24, .int x3]) (I' := I) (J' := J) rfl ?_
  refine Wp.steps 1 (pc' := if x3 < 24 then 23 else 36) (lv' := [some (.ref 55), some (.int x1), some (.int x2), some (.int x3)]) (st' := []) (I' := I) (J' := J) rfl (Wp.ite (fun h1 => ?_) (fun h1 => ?_))
  · replace h := h.1 h1
    refine Wp.steps 4 (pc' := 29) (lv' := [some (.ref 55), some (.int x1), some (.int x2), some (.int x3)]) (st' := [.long 0, .int x3, .ref 56]) (I' := I) (J' := J) rfl ?_
    refine Wp.last rfl rfl h.1 ?_
    replace h := h.2
    refine Wp.steps 2 (pc' := 17) (lv' := [some (.ref 55), some (.int x1), some (.int x2), some (.int (x3 + 1))]) (st' := []) (I' := I) (J' := (upJ J 56 (tN x3) 0)) rfl ?_
    exact h
  · replace h := h.2 h1
    exact Wp.ret rfl h
theorem v_Sh_fault_49_0 {d : Nat} {Q : Post} {I : I2} {J : J2} {x1 : Int32} {x2 : Int32} {x3 : Int32} (h : ((I 49 0) = 0 → Q (some (.int (-11))) I J) ∧ (¬ ((I 49 0) = 0) → ((I 49 1) = x1 → CI d Sh_holds [.ref 49, .int x2, .int x3] I J (fun v1 I1 J1 => (v1 = 0 → Q (some (.int (-13))) I1 J1) ∧ (¬ (v1 = 0) → Q (some (.int 0)) I1 J1))) ∧ (¬ ((I 49 1) = x1) → Q (some (.int (-12))) I J))) : Wp d Sh_fault Q 0 [some (.ref 49), some (.int x1), some (.int x2), some (.int x3)] [] I J := by
  refine Wp.steps 2 (pc' := 4) (lv' := [some (.ref 49), some (.int x1), some (.int x2), some (.int x3)]) (st' := [.int (I 49 0)]) (I' := I) (J' := J) rfl ?_
  refine Wp.steps 1 (pc' := if (I 49 0) = 0 then 7 else 10) (lv' := [some (.ref 49), some (.int x1), some (.int x2), some (.int x3)]) (st' := []) (I' := I) (J' := J) rfl (Wp.ite (fun h1 => ?_) (fun h1 => ?_))
  · replace h := h.1 h1
    refine Wp.steps 1 (pc' := 9) (lv' := [some (.ref 49), some (.int x1), some (.int x2), some (.int x3)]) (st' := [.int (-11)]) (I' := I) (J' := J) rfl ?_
    exact Wp.ret rfl h
  · replace h := h.2 h1
    refine Wp.steps 3 (pc' := 15) (lv' := [some (.ref 49), some (.int x1), some (.int x2), some (.int x3)]) (st' := [.int x1, .int (I 49 1)]) (I' := I) (J' := J) rfl ?_
    refine Wp.steps 1 (pc' := if (I 49 1) = x1 then 21 else 18) (lv' := [some (.ref 49), some (.int x1), some (.int x2), some (.int x3)]) (st' := []) (I' := I) (J' := J) rfl (Wp.ite (fun h2 => ?_) (fun h2 => ?_))
    · replace h := h.1 h2
      refine Wp.steps 3 (pc' := 24) (lv' := [some (.ref 49), some (.int x1), some (.int x2), some (.int x3)]) (st' := [.int x3, .int x2, .ref 49]) (I' := I) (J' := J) rfl ?_
      refine Wp.call (M' := Sh_holds) (as := [.ref 49, .int x2, .int x3]) (rest := []) rfl (CI.use h (fun v1 I1 J1 h => ?_))
      refine Wp.eqs (pc' := 27) (st' := [.int v1]) rfl rfl ?_
      refine Wp.steps 1 (pc' := if v1 = 0 then 34 else 30) (lv' := [some (.ref 49), some (.int x1), some (.int x2), some (.int x3)]) (st' := []) (I' := I1) (J' := J1) rfl (Wp.ite (fun h3 => ?_) (fun h3 => ?_))
      · replace h := h.1 h3
        refine Wp.steps 1 (pc' := 36) (lv' := [some (.ref 49), some (.int x1), some (.int x2), some (.int x3)]) (st' := [.int (-13)]) (I' := I1) (J' := J1) rfl ?_
        exact Wp.ret rfl h
      · replace h := h.2 h3
        refine Wp.steps 2 (pc' := 36) (lv' := [some (.ref 49), some (.int x1), some (.int x2), some (.int x3)]) (st' := [.int 0]) (I' := I1) (J' := J1) rfl ?_
        exact Wp.ret rfl h
    · replace h := h.2 h2
      refine Wp.steps 1 (pc' := 20) (lv' := [some (.ref 49), some (.int x1), some (.int x2), some (.int x3)]) (st' := [.int (-12)]) (I' := I) (J' := J) rfl ?_
      exact Wp.ret rfl h
theorem v_Sh_put_49_0 {d : Nat} {Q : Post} {I : I2} {J : J2} {x1 : Int32} {x2 : Int64} (h : CI d Sh_holds [.ref 49, .int x1, .int 1] I J (fun v1 I1 J1 => (v1 = 0 → Q none I1 J1) ∧ (¬ (v1 = 0) → ((I1 49 1) = 0 → vp_in x1 24 ∧ (Q none I1 (upJ J1 50 (tN x1) (Int32.toInt64 (i2b (Int64.toInt32 x2)))))) ∧ (¬ ((I1 49 1) = 0) → ((I1 49 1) = 1 → vp_in x1 24 ∧ (Q none I1 (upJ J1 50 (tN x1) (Int32.toInt64 (i2s (Int64.toInt32 x2)))))) ∧ (¬ ((I1 49 1) = 1) → ((I1 49 1) = 2 → vp_in x1 24 ∧ (Q none I1 (upJ J1 50 (tN x1) (Int32.toInt64 (Int64.toInt32 x2))))) ∧ (¬ ((I1 49 1) = 2) → vp_in x1 24 ∧ (Q none I1 (upJ J1 50 (tN x1) x2)))))))) : Wp d Sh_put Q 0 [some (.ref 49), some (.int x1), some (.long x2), none] [] I J := by
  refine Wp.steps 3 (pc' := 3) (lv' := [some (.ref 49), some (.int x1), some (.long x2), none]) (st' := [.int 1, .int x1, .ref 49]) (I' := I) (J' := J) rfl ?_
  refine Wp.call (M' := Sh_holds) (as := [.ref 49, .int x1, .int 1]) (rest := []) rfl (CI.use h (fun v1 I1 J1 h => ?_))
  refine Wp.eqs (pc' := 6) (st' := [.int v1]) rfl rfl ?_
  refine Wp.steps 1 (pc' := if v1 = 0 then 9 else 10) (lv' := [some (.ref 49), some (.int x1), some (.long x2), none]) (st' := []) (I' := I1) (J' := J1) rfl (Wp.ite (fun h1 => ?_) (fun h1 => ?_))
  · replace h := h.1 h1
    exact Wp.ret rfl h
  · replace h := h.2 h1
    refine Wp.steps 2 (pc' := 14) (lv' := [some (.ref 49), some (.int x1), some (.long x2), none]) (st' := [.int (I1 49 1)]) (I' := I1) (J' := J1) rfl ?_
    refine Wp.steps 1 (pc' := if (I1 49 1) = 0 then 17 else 30) (lv' := [some (.ref 49), some (.int x1), some (.long x2), none]) (st' := []) (I' := I1) (J' := J1) rfl (Wp.ite (fun h2 => ?_) (fun h2 => ?_))
    · replace h := h.1 h2
      refine Wp.steps 7 (pc' := 26) (lv' := [some (.ref 49), some (.int x1), some (.long x2), none]) (st' := [.long (Int32.toInt64 (i2b (Int64.toInt32 x2))), .int x1, .ref 50]) (I' := I1) (J' := J1) rfl ?_
      refine Wp.last rfl rfl h.1 ?_
      replace h := h.2
      refine Wp.steps 1 (pc' := 78) (lv' := [some (.ref 49), some (.int x1), some (.long x2), none]) (st' := []) (I' := I1) (J' := (upJ J1 50 (tN x1) (Int32.toInt64 (i2b (Int64.toInt32 x2))))) rfl ?_
      exact Wp.ret rfl h
    · replace h := h.2 h2
      refine Wp.steps 3 (pc' := 35) (lv' := [some (.ref 49), some (.int x1), some (.long x2), none]) (st' := [.int 1, .int (I1 49 1)]) (I' := I1) (J' := J1) rfl ?_
      refine Wp.steps 1 (pc' := if (I1 49 1) = 1 then 38 else 51) (lv' := [some (.ref 49), some (.int x1), some (.long x2), none]) (st' := []) (I' := I1) (J' := J1) rfl (Wp.ite (fun h3 => ?_) (fun h3 => ?_))
      · replace h := h.1 h3
        refine Wp.steps 7 (pc' := 47) (lv' := [some (.ref 49), some (.int x1), some (.long x2), none]) (st' := [.long (Int32.toInt64 (i2s (Int64.toInt32 x2))), .int x1, .ref 50]) (I' := I1) (J' := J1) rfl ?_
        refine Wp.last rfl rfl h.1 ?_
        replace h := h.2
        refine Wp.steps 1 (pc' := 78) (lv' := [some (.ref 49), some (.int x1), some (.long x2), none]) (st' := []) (I' := I1) (J' := (upJ J1 50 (tN x1) (Int32.toInt64 (i2s (Int64.toInt32 x2))))) rfl ?_
        exact Wp.ret rfl h
      · replace h := h.2 h3
        refine Wp.steps 3 (pc' := 56) (lv' := [some (.ref 49), some (.int x1), some (.long x2), none]) (st' := [.int 2, .int (I1 49 1)]) (I' := I1) (J' := J1) rfl ?_
        refine Wp.steps 1 (pc' := if (I1 49 1) = 2 then 59 else 71) (lv' := [some (.ref 49), some (.int x1), some (.long x2), none]) (st' := []) (I' := I1) (J' := J1) rfl (Wp.ite (fun h4 => ?_) (fun h4 => ?_))
        · replace h := h.1 h4
          refine Wp.steps 6 (pc' := 67) (lv' := [some (.ref 49), some (.int x1), some (.long x2), none]) (st' := [.long (Int32.toInt64 (Int64.toInt32 x2)), .int x1, .ref 50]) (I' := I1) (J' := J1) rfl ?_
          refine Wp.last rfl rfl h.1 ?_
          replace h := h.2
          refine Wp.steps 1 (pc' := 78) (lv' := [some (.ref 49), some (.int x1), some (.long x2), none]) (st' := []) (I' := I1) (J' := (upJ J1 50 (tN x1) (Int32.toInt64 (Int64.toInt32 x2)))) rfl ?_
          exact Wp.ret rfl h
        · replace h := h.2 h4
          refine Wp.steps 4 (pc' := 77) (lv' := [some (.ref 49), some (.int x1), some (.long x2), none]) (st' := [.long x2, .int x1, .ref 50]) (I' := I1) (J' := J1) rfl ?_
          refine Wp.last rfl rfl h.1 ?_
          replace h := h.2
          exact Wp.ret rfl h
theorem v_Sh_fault_51_0 {d : Nat} {Q : Post} {I : I2} {J : J2} {x1 : Int32} {x2 : Int32} {x3 : Int32} (h : ((I 51 0) = 0 → Q (some (.int (-11))) I J) ∧ (¬ ((I 51 0) = 0) → ((I 51 1) = x1 → CI d Sh_holds [.ref 51, .int x2, .int x3] I J (fun v1 I1 J1 => (v1 = 0 → Q (some (.int (-13))) I1 J1) ∧ (¬ (v1 = 0) → Q (some (.int 0)) I1 J1))) ∧ (¬ ((I 51 1) = x1) → Q (some (.int (-12))) I J))) : Wp d Sh_fault Q 0 [some (.ref 51), some (.int x1), some (.int x2), some (.int x3)] [] I J := by
  refine Wp.steps 2 (pc' := 4) (lv' := [some (.ref 51), some (.int x1), some (.int x2), some (.int x3)]) (st' := [.int (I 51 0)]) (I' := I) (J' := J) rfl ?_
  refine Wp.steps 1 (pc' := if (I 51 0) = 0 then 7 else 10) (lv' := [some (.ref 51), some (.int x1), some (.int x2), some (.int x3)]) (st' := []) (I' := I) (J' := J) rfl (Wp.ite (fun h1 => ?_) (fun h1 => ?_))
  · replace h := h.1 h1
    refine Wp.steps 1 (pc' := 9) (lv' := [some (.ref 51), some (.int x1), some (.int x2), some (.int x3)]) (st' := [.int (-11)]) (I' := I) (J' := J) rfl ?_
    exact Wp.ret rfl h
  · replace h := h.2 h1
    refine Wp.steps 3 (pc' := 15) (lv' := [some (.ref 51), some (.int x1), some (.int x2), some (.int x3)]) (st' := [.int x1, .int (I 51 1)]) (I' := I) (J' := J) rfl ?_
    refine Wp.steps 1 (pc' := if (I 51 1) = x1 then 21 else 18) (lv' := [some (.ref 51), some (.int x1), some (.int x2), some (.int x3)]) (st' := []) (I' := I) (J' := J) rfl (Wp.ite (fun h2 => ?_) (fun h2 => ?_))
    · replace h := h.1 h2
      refine Wp.steps 3 (pc' := 24) (lv' := [some (.ref 51), some (.int x1), some (.int x2), some (.int x3)]) (st' := [.int x3, .int x2, .ref 51]) (I' := I) (J' := J) rfl ?_
      refine Wp.call (M' := Sh_holds) (as := [.ref 51, .int x2, .int x3]) (rest := []) rfl (CI.use h (fun v1 I1 J1 h => ?_))
      refine Wp.eqs (pc' := 27) (st' := [.int v1]) rfl rfl ?_
      refine Wp.steps 1 (pc' := if v1 = 0 then 34 else 30) (lv' := [some (.ref 51), some (.int x1), some (.int x2), some (.int x3)]) (st' := []) (I' := I1) (J' := J1) rfl (Wp.ite (fun h3 => ?_) (fun h3 => ?_))
      · replace h := h.1 h3
        refine Wp.steps 1 (pc' := 36) (lv' := [some (.ref 51), some (.int x1), some (.int x2), some (.int x3)]) (st' := [.int (-13)]) (I' := I1) (J' := J1) rfl ?_
        exact Wp.ret rfl h
      · replace h := h.2 h3
        refine Wp.steps 2 (pc' := 36) (lv' := [some (.ref 51), some (.int x1), some (.int x2), some (.int x3)]) (st' := [.int 0]) (I' := I1) (J' := J1) rfl ?_
        exact Wp.ret rfl h
    · replace h := h.2 h2
      refine Wp.steps 1 (pc' := 20) (lv' := [some (.ref 51), some (.int x1), some (.int x2), some (.int x3)]) (st' := [.int (-12)]) (I' := I) (J' := J) rfl ?_
      exact Wp.ret rfl h
theorem v_Sh_put_51_0 {d : Nat} {Q : Post} {I : I2} {J : J2} {x1 : Int32} {x2 : Int64} (h : CI d Sh_holds [.ref 51, .int x1, .int 1] I J (fun v1 I1 J1 => (v1 = 0 → Q none I1 J1) ∧ (¬ (v1 = 0) → ((I1 51 1) = 0 → vp_in x1 24 ∧ (Q none I1 (upJ J1 52 (tN x1) (Int32.toInt64 (i2b (Int64.toInt32 x2)))))) ∧ (¬ ((I1 51 1) = 0) → ((I1 51 1) = 1 → vp_in x1 24 ∧ (Q none I1 (upJ J1 52 (tN x1) (Int32.toInt64 (i2s (Int64.toInt32 x2)))))) ∧ (¬ ((I1 51 1) = 1) → ((I1 51 1) = 2 → vp_in x1 24 ∧ (Q none I1 (upJ J1 52 (tN x1) (Int32.toInt64 (Int64.toInt32 x2))))) ∧ (¬ ((I1 51 1) = 2) → vp_in x1 24 ∧ (Q none I1 (upJ J1 52 (tN x1) x2)))))))) : Wp d Sh_put Q 0 [some (.ref 51), some (.int x1), some (.long x2), none] [] I J := by
  refine Wp.steps 3 (pc' := 3) (lv' := [some (.ref 51), some (.int x1), some (.long x2), none]) (st' := [.int 1, .int x1, .ref 51]) (I' := I) (J' := J) rfl ?_
  refine Wp.call (M' := Sh_holds) (as := [.ref 51, .int x1, .int 1]) (rest := []) rfl (CI.use h (fun v1 I1 J1 h => ?_))
  refine Wp.eqs (pc' := 6) (st' := [.int v1]) rfl rfl ?_
  refine Wp.steps 1 (pc' := if v1 = 0 then 9 else 10) (lv' := [some (.ref 51), some (.int x1), some (.long x2), none]) (st' := []) (I' := I1) (J' := J1) rfl (Wp.ite (fun h1 => ?_) (fun h1 => ?_))
  · replace h := h.1 h1
    exact Wp.ret rfl h
  · replace h := h.2 h1
    refine Wp.steps 2 (pc' := 14) (lv' := [some (.ref 51), some (.int x1), some (.long x2), none]) (st' := [.int (I1 51 1)]) (I' := I1) (J' := J1) rfl ?_
    refine Wp.steps 1 (pc' := if (I1 51 1) = 0 then 17 else 30) (lv' := [some (.ref 51), some (.int x1), some (.long x2), none]) (st' := []) (I' := I1) (J' := J1) rfl (Wp.ite (fun h2 => ?_) (fun h2 => ?_))
    · replace h := h.1 h2
      refine Wp.steps 7 (pc' := 26) (lv' := [some (.ref 51), some (.int x1), some (.long x2), none]) (st' := [.long (Int32.toInt64 (i2b (Int64.toInt32 x2))), .int x1, .ref 52]) (I' := I1) (J' := J1) rfl ?_
      refine Wp.last rfl rfl h.1 ?_
      replace h := h.2
      refine Wp.steps 1 (pc' := 78) (lv' := [some (.ref 51), some (.int x1), some (.long x2), none]) (st' := []) (I' := I1) (J' := (upJ J1 52 (tN x1) (Int32.toInt64 (i2b (Int64.toInt32 x2))))) rfl ?_
      exact Wp.ret rfl h
    · replace h := h.2 h2
      refine Wp.steps 3 (pc' := 35) (lv' := [some (.ref 51), some (.int x1), some (.long x2), none]) (st' := [.int 1, .int (I1 51 1)]) (I' := I1) (J' := J1) rfl ?_
      refine Wp.steps 1 (pc' := if (I1 51 1) = 1 then 38 else 51) (lv' := [some (.ref 51), some (.int x1), some (.long x2), none]) (st' := []) (I' := I1) (J' := J1) rfl (Wp.ite (fun h3 => ?_) (fun h3 => ?_))
      · replace h := h.1 h3
        refine Wp.steps 7 (pc' := 47) (lv' := [some (.ref 51), some (.int x1), some (.long x2), none]) (st' := [.long (Int32.toInt64 (i2s (Int64.toInt32 x2))), .int x1, .ref 52]) (I' := I1) (J' := J1) rfl ?_
        refine Wp.last rfl rfl h.1 ?_
        replace h := h.2
        refine Wp.steps 1 (pc' := 78) (lv' := [some (.ref 51), some (.int x1), some (.long x2), none]) (st' := []) (I' := I1) (J' := (upJ J1 52 (tN x1) (Int32.toInt64 (i2s (Int64.toInt32 x2))))) rfl ?_
        exact Wp.ret rfl h
      · replace h := h.2 h3
        refine Wp.steps 3 (pc' := 56) (lv' := [some (.ref 51), some (.int x1), some (.long x2), none]) (st' := [.int 2, .int (I1 51 1)]) (I' := I1) (J' := J1) rfl ?_
        refine Wp.steps 1 (pc' := if (I1 51 1) = 2 then 59 else 71) (lv' := [some (.ref 51), some (.int x1), some (.long x2), none]) (st' := []) (I' := I1) (J' := J1) rfl (Wp.ite (fun h4 => ?_) (fun h4 => ?_))
        · replace h := h.1 h4
          refine Wp.steps 6 (pc' := 67) (lv' := [some (.ref 51), some (.int x1), some (.long x2), none]) (st' := [.long (Int32.toInt64 (Int64.toInt32 x2)), .int x1, .ref 52]) (I' := I1) (J' := J1) rfl ?_
          refine Wp.last rfl rfl h.1 ?_
          replace h := h.2
          refine Wp.steps 1 (pc' := 78) (lv' := [some (.ref 51), some (.int x1), some (.long x2), none]) (st' := []) (I' := I1) (J' := (upJ J1 52 (tN x1) (Int32.toInt64 (Int64.toInt32 x2)))) rfl ?_
          exact Wp.ret rfl h
        · replace h := h.2 h4
          refine Wp.steps 4 (pc' := 77) (lv' := [some (.ref 51), some (.int x1), some (.long x2), none]) (st' := [.long x2, .int x1, .ref 52]) (I' := I1) (J' := J1) rfl ?_
          refine Wp.last rfl rfl h.1 ?_
          replace h := h.2
          exact Wp.ret rfl h
theorem v_Sh_fault_53_0 {d : Nat} {Q : Post} {I : I2} {J : J2} {x1 : Int32} {x2 : Int32} {x3 : Int32} (h : ((I 53 0) = 0 → Q (some (.int (-11))) I J) ∧ (¬ ((I 53 0) = 0) → ((I 53 1) = x1 → CI d Sh_holds [.ref 53, .int x2, .int x3] I J (fun v1 I1 J1 => (v1 = 0 → Q (some (.int (-13))) I1 J1) ∧ (¬ (v1 = 0) → Q (some (.int 0)) I1 J1))) ∧ (¬ ((I 53 1) = x1) → Q (some (.int (-12))) I J))) : Wp d Sh_fault Q 0 [some (.ref 53), some (.int x1), some (.int x2), some (.int x3)] [] I J := by
  refine Wp.steps 2 (pc' := 4) (lv' := [some (.ref 53), some (.int x1), some (.int x2), some (.int x3)]) (st' := [.int (I 53 0)]) (I' := I) (J' := J) rfl ?_
  refine Wp.steps 1 (pc' := if (I 53 0) = 0 then 7 else 10) (lv' := [some (.ref 53), some (.int x1), some (.int x2), some (.int x3)]) (st' := []) (I' := I) (J' := J) rfl (Wp.ite (fun h1 => ?_) (fun h1 => ?_))
  · replace h := h.1 h1
    refine Wp.steps 1 (pc' := 9) (lv' := [some (.ref 53), some (.int x1), some (.int x2), some (.int x3)]) (st' := [.int (-11)]) (I' := I) (J' := J) rfl ?_
    exact Wp.ret rfl h
  · replace h := h.2 h1
    refine Wp.steps 3 (pc' := 15) (lv' := [some (.ref 53), some (.int x1), some (.int x2), some (.int x3)]) (st' := [.int x1, .int (I 53 1)]) (I' := I) (J' := J) rfl ?_
    refine Wp.steps 1 (pc' := if (I 53 1) = x1 then 21 else 18) (lv' := [some (.ref 53), some (.int x1), some (.int x2), some (.int x3)]) (st' := []) (I' := I) (J' := J) rfl (Wp.ite (fun h2 => ?_) (fun h2 => ?_))
    · replace h := h.1 h2
      refine Wp.steps 3 (pc' := 24) (lv' := [some (.ref 53), some (.int x1), some (.int x2), some (.int x3)]) (st' := [.int x3, .int x2, .ref 53]) (I' := I) (J' := J) rfl ?_
      refine Wp.call (M' := Sh_holds) (as := [.ref 53, .int x2, .int x3]) (rest := []) rfl (CI.use h (fun v1 I1 J1 h => ?_))
      refine Wp.eqs (pc' := 27) (st' := [.int v1]) rfl rfl ?_
      refine Wp.steps 1 (pc' := if v1 = 0 then 34 else 30) (lv' := [some (.ref 53), some (.int x1), some (.int x2), some (.int x3)]) (st' := []) (I' := I1) (J' := J1) rfl (Wp.ite (fun h3 => ?_) (fun h3 => ?_))
      · replace h := h.1 h3
        refine Wp.steps 1 (pc' := 36) (lv' := [some (.ref 53), some (.int x1), some (.int x2), some (.int x3)]) (st' := [.int (-13)]) (I' := I1) (J' := J1) rfl ?_
        exact Wp.ret rfl h
      · replace h := h.2 h3
        refine Wp.steps 2 (pc' := 36) (lv' := [some (.ref 53), some (.int x1), some (.int x2), some (.int x3)]) (st' := [.int 0]) (I' := I1) (J' := J1) rfl ?_
        exact Wp.ret rfl h
    · replace h := h.2 h2
      refine Wp.steps 1 (pc' := 20) (lv' := [some (.ref 53), some (.int x1), some (.int x2), some (.int x3)]) (st' := [.int (-12)]) (I' := I) (J' := J) rfl ?_
      exact Wp.ret rfl h
theorem v_Sh_put_53_0 {d : Nat} {Q : Post} {I : I2} {J : J2} {x1 : Int32} {x2 : Int64} (h : CI d Sh_holds [.ref 53, .int x1, .int 1] I J (fun v1 I1 J1 => (v1 = 0 → Q none I1 J1) ∧ (¬ (v1 = 0) → ((I1 53 1) = 0 → vp_in x1 24 ∧ (Q none I1 (upJ J1 54 (tN x1) (Int32.toInt64 (i2b (Int64.toInt32 x2)))))) ∧ (¬ ((I1 53 1) = 0) → ((I1 53 1) = 1 → vp_in x1 24 ∧ (Q none I1 (upJ J1 54 (tN x1) (Int32.toInt64 (i2s (Int64.toInt32 x2)))))) ∧ (¬ ((I1 53 1) = 1) → ((I1 53 1) = 2 → vp_in x1 24 ∧ (Q none I1 (upJ J1 54 (tN x1) (Int32.toInt64 (Int64.toInt32 x2))))) ∧ (¬ ((I1 53 1) = 2) → vp_in x1 24 ∧ (Q none I1 (upJ J1 54 (tN x1) x2)))))))) : Wp d Sh_put Q 0 [some (.ref 53), some (.int x1), some (.long x2), none] [] I J := by
  refine Wp.steps 3 (pc' := 3) (lv' := [some (.ref 53), some (.int x1), some (.long x2), none]) (st' := [.int 1, .int x1, .ref 53]) (I' := I) (J' := J) rfl ?_
  refine Wp.call (M' := Sh_holds) (as := [.ref 53, .int x1, .int 1]) (rest := []) rfl (CI.use h (fun v1 I1 J1 h => ?_))
  refine Wp.eqs (pc' := 6) (st' := [.int v1]) rfl rfl ?_
  refine Wp.steps 1 (pc' := if v1 = 0 then 9 else 10) (lv' := [some (.ref 53), some (.int x1), some (.long x2), none]) (st' := []) (I' := I1) (J' := J1) rfl (Wp.ite (fun h1 => ?_) (fun h1 => ?_))
  · replace h := h.1 h1
    exact Wp.ret rfl h
  · replace h := h.2 h1
    refine Wp.steps 2 (pc' := 14) (lv' := [some (.ref 53), some (.int x1), some (.long x2), none]) (st' := [.int (I1 53 1)]) (I' := I1) (J' := J1) rfl ?_
    refine Wp.steps 1 (pc' := if (I1 53 1) = 0 then 17 else 30) (lv' := [some (.ref 53), some (.int x1), some (.long x2), none]) (st' := []) (I' := I1) (J' := J1) rfl (Wp.ite (fun h2 => ?_) (fun h2 => ?_))
    · replace h := h.1 h2
      refine Wp.steps 7 (pc' := 26) (lv' := [some (.ref 53), some (.int x1), some (.long x2), none]) (st' := [.long (Int32.toInt64 (i2b (Int64.toInt32 x2))), .int x1, .ref 54]) (I' := I1) (J' := J1) rfl ?_
      refine Wp.last rfl rfl h.1 ?_
      replace h := h.2
      refine Wp.steps 1 (pc' := 78) (lv' := [some (.ref 53), some (.int x1), some (.long x2), none]) (st' := []) (I' := I1) (J' := (upJ J1 54 (tN x1) (Int32.toInt64 (i2b (Int64.toInt32 x2))))) rfl ?_
      exact Wp.ret rfl h
    · replace h := h.2 h2
      refine Wp.steps 3 (pc' := 35) (lv' := [some (.ref 53), some (.int x1), some (.long x2), none]) (st' := [.int 1, .int (I1 53 1)]) (I' := I1) (J' := J1) rfl ?_
      refine Wp.steps 1 (pc' := if (I1 53 1) = 1 then 38 else 51) (lv' := [some (.ref 53), some (.int x1), some (.long x2), none]) (st' := []) (I' := I1) (J' := J1) rfl (Wp.ite (fun h3 => ?_) (fun h3 => ?_))
      · replace h := h.1 h3
        refine Wp.steps 7 (pc' := 47) (lv' := [some (.ref 53), some (.int x1), some (.long x2), none]) (st' := [.long (Int32.toInt64 (i2s (Int64.toInt32 x2))), .int x1, .ref 54]) (I' := I1) (J' := J1) rfl ?_
        refine Wp.last rfl rfl h.1 ?_
        replace h := h.2
        refine Wp.steps 1 (pc' := 78) (lv' := [some (.ref 53), some (.int x1), some (.long x2), none]) (st' := []) (I' := I1) (J' := (upJ J1 54 (tN x1) (Int32.toInt64 (i2s (Int64.toInt32 x2))))) rfl ?_
        exact Wp.ret rfl h
      · replace h := h.2 h3
        refine Wp.steps 3 (pc' := 56) (lv' := [some (.ref 53), some (.int x1), some (.long x2), none]) (st' := [.int 2, .int (I1 53 1)]) (I' := I1) (J' := J1) rfl ?_
        refine Wp.steps 1 (pc' := if (I1 53 1) = 2 then 59 else 71) (lv' := [some (.ref 53), some (.int x1), some (.long x2), none]) (st' := []) (I' := I1) (J' := J1) rfl (Wp.ite (fun h4 => ?_) (fun h4 => ?_))
        · replace h := h.1 h4
          refine Wp.steps 6 (pc' := 67) (lv' := [some (.ref 53), some (.int x1), some (.long x2), none]) (st' := [.long (Int32.toInt64 (Int64.toInt32 x2)), .int x1, .ref 54]) (I' := I1) (J' := J1) rfl ?_
          refine Wp.last rfl rfl h.1 ?_
          replace h := h.2
          refine Wp.steps 1 (pc' := 78) (lv' := [some (.ref 53), some (.int x1), some (.long x2), none]) (st' := []) (I' := I1) (J' := (upJ J1 54 (tN x1) (Int32.toInt64 (Int64.toInt32 x2)))) rfl ?_
          exact Wp.ret rfl h
        · replace h := h.2 h4
          refine Wp.steps 4 (pc' := 77) (lv' := [some (.ref 53), some (.int x1), some (.long x2), none]) (st' := [.long x2, .int x1, .ref 54]) (I' := I1) (J' := J1) rfl ?_
          refine Wp.last rfl rfl h.1 ?_
          replace h := h.2
          exact Wp.ret rfl h
theorem v_Sh_fault_55_0 {d : Nat} {Q : Post} {I : I2} {J : J2} {x1 : Int32} {x2 : Int32} {x3 : Int32} (h : ((I 55 0) = 0 → Q (some (.int (-11))) I J) ∧ (¬ ((I 55 0) = 0) → ((I 55 1) = x1 → CI d Sh_holds [.ref 55, .int x2, .int x3] I J (fun v1 I1 J1 => (v1 = 0 → Q (some (.int (-13))) I1 J1) ∧ (¬ (v1 = 0) → Q (some (.int 0)) I1 J1))) ∧ (¬ ((I 55 1) = x1) → Q (some (.int (-12))) I J))) : Wp d Sh_fault Q 0 [some (.ref 55), some (.int x1), some (.int x2), some (.int x3)] [] I J := by
  refine Wp.steps 2 (pc' := 4) (lv' := [some (.ref 55), some (.int x1), some (.int x2), some (.int x3)]) (st' := [.int (I 55 0)]) (I' := I) (J' := J) rfl ?_
  refine Wp.steps 1 (pc' := if (I 55 0) = 0 then 7 else 10) (lv' := [some (.ref 55), some (.int x1), some (.int x2), some (.int x3)]) (st' := []) (I' := I) (J' := J) rfl (Wp.ite (fun h1 => ?_) (fun h1 => ?_))
  · replace h := h.1 h1
    refine Wp.steps 1 (pc' := 9) (lv' := [some (.ref 55), some (.int x1), some (.int x2), some (.int x3)]) (st' := [.int (-11)]) (I' := I) (J' := J) rfl ?_
    exact Wp.ret rfl h
  · replace h := h.2 h1
    refine Wp.steps 3 (pc' := 15) (lv' := [some (.ref 55), some (.int x1), some (.int x2), some (.int x3)]) (st' := [.int x1, .int (I 55 1)]) (I' := I) (J' := J) rfl ?_
    refine Wp.steps 1 (pc' := if (I 55 1) = x1 then 21 else 18) (lv' := [some (.ref 55), some (.int x1), some (.int x2), some (.int x3)]) (st' := []) (I' := I) (J' := J) rfl (Wp.ite (fun h2 => ?_) (fun h2 => ?_))
    · replace h := h.1 h2
      refine Wp.steps 3 (pc' := 24) (lv' := [some (.ref 55), some (.int x1), some (.int x2), some (.int x3)]) (st' := [.int x3, .int x2, .ref 55]) (I' := I) (J' := J) rfl ?_
      refine Wp.call (M' := Sh_holds) (as := [.ref 55, .int x2, .int x3]) (rest := []) rfl (CI.use h (fun v1 I1 J1 h => ?_))
      refine Wp.eqs (pc' := 27) (st' := [.int v1]) rfl rfl ?_
      refine Wp.steps 1 (pc' := if v1 = 0 then 34 else 30) (lv' := [some (.ref 55), some (.int x1), some (.int x2), some (.int x3)]) (st' := []) (I' := I1) (J' := J1) rfl (Wp.ite (fun h3 => ?_) (fun h3 => ?_))
      · replace h := h.1 h3
        refine Wp.steps 1 (pc' := 36) (lv' := [some (.ref 55), some (.int x1), some (.int x2), some (.int x3)]) (st' := [.int (-13)]) (I' := I1) (J' := J1) rfl ?_
        exact Wp.ret rfl h
      · replace h := h.2 h3
        refine Wp.steps 2 (pc' := 36) (lv' := [some (.ref 55), some (.int x1), some (.int x2), some (.int x3)]) (st' := [.int 0]) (I' := I1) (J' := J1) rfl ?_
        exact Wp.ret rfl h
    · replace h := h.2 h2
      refine Wp.steps 1 (pc' := 20) (lv' := [some (.ref 55), some (.int x1), some (.int x2), some (.int x3)]) (st' := [.int (-12)]) (I' := I) (J' := J) rfl ?_
      exact Wp.ret rfl h
theorem v_Sh_put_55_0 {d : Nat} {Q : Post} {I : I2} {J : J2} {x1 : Int32} {x2 : Int64} (h : CI d Sh_holds [.ref 55, .int x1, .int 1] I J (fun v1 I1 J1 => (v1 = 0 → Q none I1 J1) ∧ (¬ (v1 = 0) → ((I1 55 1) = 0 → vp_in x1 24 ∧ (Q none I1 (upJ J1 56 (tN x1) (Int32.toInt64 (i2b (Int64.toInt32 x2)))))) ∧ (¬ ((I1 55 1) = 0) → ((I1 55 1) = 1 → vp_in x1 24 ∧ (Q none I1 (upJ J1 56 (tN x1) (Int32.toInt64 (i2s (Int64.toInt32 x2)))))) ∧ (¬ ((I1 55 1) = 1) → ((I1 55 1) = 2 → vp_in x1 24 ∧ (Q none I1 (upJ J1 56 (tN x1) (Int32.toInt64 (Int64.toInt32 x2))))) ∧ (¬ ((I1 55 1) = 2) → vp_in x1 24 ∧ (Q none I1 (upJ J1 56 (tN x1) x2)))))))) : Wp d Sh_put Q 0 [some (.ref 55), some (.int x1), some (.long x2), none] [] I J := by
  refine Wp.steps 3 (pc' := 3) (lv' := [some (.ref 55), some (.int x1), some (.long x2), none]) (st' := [.int 1, .int x1, .ref 55]) (I' := I) (J' := J) rfl ?_
  refine Wp.call (M' := Sh_holds) (as := [.ref 55, .int x1, .int 1]) (rest := []) rfl (CI.use h (fun v1 I1 J1 h => ?_))
  refine Wp.eqs (pc' := 6) (st' := [.int v1]) rfl rfl ?_
  refine Wp.steps 1 (pc' := if v1 = 0 then 9 else 10) (lv' := [some (.ref 55), some (.int x1), some (.long x2), none]) (st' := []) (I' := I1) (J' := J1) rfl (Wp.ite (fun h1 => ?_) (fun h1 => ?_))
  · replace h := h.1 h1
    exact Wp.ret rfl h
  · replace h := h.2 h1
    refine Wp.steps 2 (pc' := 14) (lv' := [some (.ref 55), some (.int x1), some (.long x2), none]) (st' := [.int (I1 55 1)]) (I' := I1) (J' := J1) rfl ?_
    refine Wp.steps 1 (pc' := if (I1 55 1) = 0 then 17 else 30) (lv' := [some (.ref 55), some (.int x1), some (.long x2), none]) (st' := []) (I' := I1) (J' := J1) rfl (Wp.ite (fun h2 => ?_) (fun h2 => ?_))
    · replace h := h.1 h2
      refine Wp.steps 7 (pc' := 26) (lv' := [some (.ref 55), some (.int x1), some (.long x2), none]) (st' := [.long (Int32.toInt64 (i2b (Int64.toInt32 x2))), .int x1, .ref 56]) (I' := I1) (J' := J1) rfl ?_
      refine Wp.last rfl rfl h.1 ?_
      replace h := h.2
      refine Wp.steps 1 (pc' := 78) (lv' := [some (.ref 55), some (.int x1), some (.long x2), none]) (st' := []) (I' := I1) (J' := (upJ J1 56 (tN x1) (Int32.toInt64 (i2b (Int64.toInt32 x2))))) rfl ?_
      exact Wp.ret rfl h
    · replace h := h.2 h2
      refine Wp.steps 3 (pc' := 35) (lv' := [some (.ref 55), some (.int x1), some (.long x2), none]) (st' := [.int 1, .int (I1 55 1)]) (I' := I1) (J' := J1) rfl ?_
      refine Wp.steps 1 (pc' := if (I1 55 1) = 1 then 38 else 51) (lv' := [some (.ref 55), some (.int x1), some (.long x2), none]) (st' := []) (I' := I1) (J' := J1) rfl (Wp.ite (fun h3 => ?_) (fun h3 => ?_))
      · replace h := h.1 h3
        refine Wp.steps 7 (pc' := 47) (lv' := [some (.ref 55), some (.int x1), some (.long x2), none]) (st' := [.long (Int32.toInt64 (i2s (Int64.toInt32 x2))), .int x1, .ref 56]) (I' := I1) (J' := J1) rfl ?_
        refine Wp.last rfl rfl h.1 ?_
        replace h := h.2
        refine Wp.steps 1 (pc' := 78) (lv' := [some (.ref 55), some (.int x1), some (.long x2), none]) (st' := []) (I' := I1) (J' := (upJ J1 56 (tN x1) (Int32.toInt64 (i2s (Int64.toInt32 x2))))) rfl ?_
        exact Wp.ret rfl h
      · replace h := h.2 h3
        refine Wp.steps 3 (pc' := 56) (lv' := [some (.ref 55), some (.int x1), some (.long x2), none]) (st' := [.int 2, .int (I1 55 1)]) (I' := I1) (J' := J1) rfl ?_
        refine Wp.steps 1 (pc' := if (I1 55 1) = 2 then 59 else 71) (lv' := [some (.ref 55), some (.int x1), some (.long x2), none]) (st' := []) (I' := I1) (J' := J1) rfl (Wp.ite (fun h4 => ?_) (fun h4 => ?_))
        · replace h := h.1 h4
          refine Wp.steps 6 (pc' := 67) (lv' := [some (.ref 55), some (.int x1), some (.long x2), none]) (st' := [.long (Int32.toInt64 (Int64.toInt32 x2)), .int x1, .ref 56]) (I' := I1) (J' := J1) rfl ?_
          refine Wp.last rfl rfl h.1 ?_
          replace h := h.2
          refine Wp.steps 1 (pc' := 78) (lv' := [some (.ref 55), some (.int x1), some (.long x2), none]) (st' := []) (I' := I1) (J' := (upJ J1 56 (tN x1) (Int32.toInt64 (Int64.toInt32 x2)))) rfl ?_
          exact Wp.ret rfl h
        · replace h := h.2 h4
          refine Wp.steps 4 (pc' := 77) (lv' := [some (.ref 55), some (.int x1), some (.long x2), none]) (st' := [.long x2, .int x1, .ref 56]) (I' := I1) (J' := J1) rfl ?_
          refine Wp.last rfl rfl h.1 ?_
          replace h := h.2
          exact Wp.ret rfl h
theorem v_Sh_end_49_0 {d : Nat} {Q : Post} {I : I2} {J : J2} (h : Q (some (.int (I 49 2))) (up2 I 49 0 0) J) : Wp d Sh_end Q 0 [some (.ref 49)] [] I J := by
  refine Wp.steps 5 (pc' := 9) (lv' := [some (.ref 49)]) (st' := [.int (I 49 2)]) (I' := (up2 I 49 0 0)) (J' := J) rfl ?_
  exact Wp.ret rfl h
theorem v_Sh_end_51_0 {d : Nat} {Q : Post} {I : I2} {J : J2} (h : Q (some (.int (I 51 2))) (up2 I 51 0 0) J) : Wp d Sh_end Q 0 [some (.ref 51)] [] I J := by
  refine Wp.steps 5 (pc' := 9) (lv' := [some (.ref 51)]) (st' := [.int (I 51 2)]) (I' := (up2 I 51 0 0)) (J' := J) rfl ?_
  exact Wp.ret rfl h
theorem v_Sh_end_53_0 {d : Nat} {Q : Post} {I : I2} {J : J2} (h : Q (some (.int (I 53 2))) (up2 I 53 0 0) J) : Wp d Sh_end Q 0 [some (.ref 53)] [] I J := by
  refine Wp.steps 5 (pc' := 9) (lv' := [some (.ref 53)]) (st' := [.int (I 53 2)]) (I' := (up2 I 53 0 0)) (J' := J) rfl ?_
  exact Wp.ret rfl h
theorem v_Sh_end_55_0 {d : Nat} {Q : Post} {I : I2} {J : J2} (h : Q (some (.int (I 55 2))) (up2 I 55 0 0) J) : Wp d Sh_end Q 0 [some (.ref 55)] [] I J := by
  refine Wp.steps 5 (pc' := 9) (lv' := [some (.ref 55)]) (st' := [.int (I 55 2)]) (I' := (up2 I 55 0 0)) (J' := J) rfl ?_
  exact Wp.ret rfl h
theorem v_Sh_holds_49_0 {d : Nat} {Q : Post} {I : I2} {J : J2} {x1 : Int32} {x2 : Int32} (h : (x2 < 0 → Q (some (.int 0)) I J) ∧ (¬ (x2 < 0) → (x1 < 0 → Q (some (.int 0)) I J) ∧ (¬ (x1 < 0) → (((I 49 2) - x2) < x1 → Q (some (.int 0)) I J) ∧ (¬ (((I 49 2) - x2) < x1) → Q (some (.int 1)) I J)))) : Wp d Sh_holds Q 0 [some (.ref 49), some (.int x1), some (.int x2)] [] I J := by
  refine Wp.steps 1 (pc' := 1) (lv' := [some (.ref 49), some (.int x1), some (.int x2)]) (st' := [.int x2]) (I' := I) (J' := J) rfl ?_
  refine Wp.steps 1 (pc' := if x2 < 0 then 22 else 4) (lv' := [some (.ref 49), some (.int x1), some (.int x2)]) (st' := []) (I' := I) (J' := J) rfl (Wp.ite (fun h1 => ?_) (fun h1 => ?_))
  · replace h := h.1 h1
    refine Wp.steps 1 (pc' := 23) (lv' := [some (.ref 49), some (.int x1), some (.int x2)]) (st' := [.int 0]) (I' := I) (J' := J) rfl ?_
    exact Wp.ret rfl h
  · replace h := h.2 h1
    refine Wp.steps 1 (pc' := 5) (lv' := [some (.ref 49), some (.int x1), some (.int x2)]) (st' := [.int x1]) (I' := I) (J' := J) rfl ?_
    refine Wp.steps 1 (pc' := if x1 < 0 then 22 else 8) (lv' := [some (.ref 49), some (.int x1), some (.int x2)]) (st' := []) (I' := I) (J' := J) rfl (Wp.ite (fun h2 => ?_) (fun h2 => ?_))
    · replace h := h.1 h2
      refine Wp.steps 1 (pc' := 23) (lv' := [some (.ref 49), some (.int x1), some (.int x2)]) (st' := [.int 0]) (I' := I) (J' := J) rfl ?_
      exact Wp.ret rfl h
    · replace h := h.2 h2
      refine Wp.steps 5 (pc' := 15) (lv' := [some (.ref 49), some (.int x1), some (.int x2)]) (st' := [.int ((I 49 2) - x2), .int x1]) (I' := I) (J' := J) rfl ?_
      refine Wp.steps 1 (pc' := if ((I 49 2) - x2) < x1 then 22 else 18) (lv' := [some (.ref 49), some (.int x1), some (.int x2)]) (st' := []) (I' := I) (J' := J) rfl (Wp.ite (fun h3 => ?_) (fun h3 => ?_))
      · replace h := h.1 h3
        refine Wp.steps 1 (pc' := 23) (lv' := [some (.ref 49), some (.int x1), some (.int x2)]) (st' := [.int 0]) (I' := I) (J' := J) rfl ?_
        exact Wp.ret rfl h
      · replace h := h.2 h3
        refine Wp.steps 2 (pc' := 23) (lv' := [some (.ref 49), some (.int x1), some (.int x2)]) (st' := [.int 1]) (I' := I) (J' := J) rfl ?_
        exact Wp.ret rfl h
theorem v_Sh_holds_51_0 {d : Nat} {Q : Post} {I : I2} {J : J2} {x1 : Int32} {x2 : Int32} (h : (x2 < 0 → Q (some (.int 0)) I J) ∧ (¬ (x2 < 0) → (x1 < 0 → Q (some (.int 0)) I J) ∧ (¬ (x1 < 0) → (((I 51 2) - x2) < x1 → Q (some (.int 0)) I J) ∧ (¬ (((I 51 2) - x2) < x1) → Q (some (.int 1)) I J)))) : Wp d Sh_holds Q 0 [some (.ref 51), some (.int x1), some (.int x2)] [] I J := by
  refine Wp.steps 1 (pc' := 1) (lv' := [some (.ref 51), some (.int x1), some (.int x2)]) (st' := [.int x2]) (I' := I) (J' := J) rfl ?_
  refine Wp.steps 1 (pc' := if x2 < 0 then 22 else 4) (lv' := [some (.ref 51), some (.int x1), some (.int x2)]) (st' := []) (I' := I) (J' := J) rfl (Wp.ite (fun h1 => ?_) (fun h1 => ?_))
  · replace h := h.1 h1
    refine Wp.steps 1 (pc' := 23) (lv' := [some (.ref 51), some (.int x1), some (.int x2)]) (st' := [.int 0]) (I' := I) (J' := J) rfl ?_
    exact Wp.ret rfl h
  · replace h := h.2 h1
    refine Wp.steps 1 (pc' := 5) (lv' := [some (.ref 51), some (.int x1), some (.int x2)]) (st' := [.int x1]) (I' := I) (J' := J) rfl ?_
    refine Wp.steps 1 (pc' := if x1 < 0 then 22 else 8) (lv' := [some (.ref 51), some (.int x1), some (.int x2)]) (st' := []) (I' := I) (J' := J) rfl (Wp.ite (fun h2 => ?_) (fun h2 => ?_))
    · replace h := h.1 h2
      refine Wp.steps 1 (pc' := 23) (lv' := [some (.ref 51), some (.int x1), some (.int x2)]) (st' := [.int 0]) (I' := I) (J' := J) rfl ?_
      exact Wp.ret rfl h
    · replace h := h.2 h2
      refine Wp.steps 5 (pc' := 15) (lv' := [some (.ref 51), some (.int x1), some (.int x2)]) (st' := [.int ((I 51 2) - x2), .int x1]) (I' := I) (J' := J) rfl ?_
      refine Wp.steps 1 (pc' := if ((I 51 2) - x2) < x1 then 22 else 18) (lv' := [some (.ref 51), some (.int x1), some (.int x2)]) (st' := []) (I' := I) (J' := J) rfl (Wp.ite (fun h3 => ?_) (fun h3 => ?_))
      · replace h := h.1 h3
        refine Wp.steps 1 (pc' := 23) (lv' := [some (.ref 51), some (.int x1), some (.int x2)]) (st' := [.int 0]) (I' := I) (J' := J) rfl ?_
        exact Wp.ret rfl h
      · replace h := h.2 h3
        refine Wp.steps 2 (pc' := 23) (lv' := [some (.ref 51), some (.int x1), some (.int x2)]) (st' := [.int 1]) (I' := I) (J' := J) rfl ?_
        exact Wp.ret rfl h
theorem v_Sh_holds_53_0 {d : Nat} {Q : Post} {I : I2} {J : J2} {x1 : Int32} {x2 : Int32} (h : (x2 < 0 → Q (some (.int 0)) I J) ∧ (¬ (x2 < 0) → (x1 < 0 → Q (some (.int 0)) I J) ∧ (¬ (x1 < 0) → (((I 53 2) - x2) < x1 → Q (some (.int 0)) I J) ∧ (¬ (((I 53 2) - x2) < x1) → Q (some (.int 1)) I J)))) : Wp d Sh_holds Q 0 [some (.ref 53), some (.int x1), some (.int x2)] [] I J := by
  refine Wp.steps 1 (pc' := 1) (lv' := [some (.ref 53), some (.int x1), some (.int x2)]) (st' := [.int x2]) (I' := I) (J' := J) rfl ?_
  refine Wp.steps 1 (pc' := if x2 < 0 then 22 else 4) (lv' := [some (.ref 53), some (.int x1), some (.int x2)]) (st' := []) (I' := I) (J' := J) rfl (Wp.ite (fun h1 => ?_) (fun h1 => ?_))
  · replace h := h.1 h1
    refine Wp.steps 1 (pc' := 23) (lv' := [some (.ref 53), some (.int x1), some (.int x2)]) (st' := [.int 0]) (I' := I) (J' := J) rfl ?_
    exact Wp.ret rfl h
  · replace h := h.2 h1
    refine Wp.steps 1 (pc' := 5) (lv' := [some (.ref 53), some (.int x1), some (.int x2)]) (st' := [.int x1]) (I' := I) (J' := J) rfl ?_
    refine Wp.steps 1 (pc' := if x1 < 0 then 22 else 8) (lv' := [some (.ref 53), some (.int x1), some (.int x2)]) (st' := []) (I' := I) (J' := J) rfl (Wp.ite (fun h2 => ?_) (fun h2 => ?_))
    · replace h := h.1 h2
      refine Wp.steps 1 (pc' := 23) (lv' := [some (.ref 53), some (.int x1), some (.int x2)]) (st' := [.int 0]) (I' := I) (J' := J) rfl ?_
      exact Wp.ret rfl h
    · replace h := h.2 h2
      refine Wp.steps 5 (pc' := 15) (lv' := [some (.ref 53), some (.int x1), some (.int x2)]) (st' := [.int ((I 53 2) - x2), .int x1]) (I' := I) (J' := J) rfl ?_
      refine Wp.steps 1 (pc' := if ((I 53 2) - x2) < x1 then 22 else 18) (lv' := [some (.ref 53), some (.int x1), some (.int x2)]) (st' := []) (I' := I) (J' := J) rfl (Wp.ite (fun h3 => ?_) (fun h3 => ?_))
      · replace h := h.1 h3
        refine Wp.steps 1 (pc' := 23) (lv' := [some (.ref 53), some (.int x1), some (.int x2)]) (st' := [.int 0]) (I' := I) (J' := J) rfl ?_
        exact Wp.ret rfl h
      · replace h := h.2 h3
        refine Wp.steps 2 (pc' := 23) (lv' := [some (.ref 53), some (.int x1), some (.int x2)]) (st' := [.int 1]) (I' := I) (J' := J) rfl ?_
        exact Wp.ret rfl h
theorem v_Sh_holds_55_0 {d : Nat} {Q : Post} {I : I2} {J : J2} {x1 : Int32} {x2 : Int32} (h : (x2 < 0 → Q (some (.int 0)) I J) ∧ (¬ (x2 < 0) → (x1 < 0 → Q (some (.int 0)) I J) ∧ (¬ (x1 < 0) → (((I 55 2) - x2) < x1 → Q (some (.int 0)) I J) ∧ (¬ (((I 55 2) - x2) < x1) → Q (some (.int 1)) I J)))) : Wp d Sh_holds Q 0 [some (.ref 55), some (.int x1), some (.int x2)] [] I J := by
  refine Wp.steps 1 (pc' := 1) (lv' := [some (.ref 55), some (.int x1), some (.int x2)]) (st' := [.int x2]) (I' := I) (J' := J) rfl ?_
  refine Wp.steps 1 (pc' := if x2 < 0 then 22 else 4) (lv' := [some (.ref 55), some (.int x1), some (.int x2)]) (st' := []) (I' := I) (J' := J) rfl (Wp.ite (fun h1 => ?_) (fun h1 => ?_))
  · replace h := h.1 h1
    refine Wp.steps 1 (pc' := 23) (lv' := [some (.ref 55), some (.int x1), some (.int x2)]) (st' := [.int 0]) (I' := I) (J' := J) rfl ?_
    exact Wp.ret rfl h
  · replace h := h.2 h1
    refine Wp.steps 1 (pc' := 5) (lv' := [some (.ref 55), some (.int x1), some (.int x2)]) (st' := [.int x1]) (I' := I) (J' := J) rfl ?_
    refine Wp.steps 1 (pc' := if x1 < 0 then 22 else 8) (lv' := [some (.ref 55), some (.int x1), some (.int x2)]) (st' := []) (I' := I) (J' := J) rfl (Wp.ite (fun h2 => ?_) (fun h2 => ?_))
    · replace h := h.1 h2
      refine Wp.steps 1 (pc' := 23) (lv' := [some (.ref 55), some (.int x1), some (.int x2)]) (st' := [.int 0]) (I' := I) (J' := J) rfl ?_
      exact Wp.ret rfl h
    · replace h := h.2 h2
      refine Wp.steps 5 (pc' := 15) (lv' := [some (.ref 55), some (.int x1), some (.int x2)]) (st' := [.int ((I 55 2) - x2), .int x1]) (I' := I) (J' := J) rfl ?_
      refine Wp.steps 1 (pc' := if ((I 55 2) - x2) < x1 then 22 else 18) (lv' := [some (.ref 55), some (.int x1), some (.int x2)]) (st' := []) (I' := I) (J' := J) rfl (Wp.ite (fun h3 => ?_) (fun h3 => ?_))
      · replace h := h.1 h3
        refine Wp.steps 1 (pc' := 23) (lv' := [some (.ref 55), some (.int x1), some (.int x2)]) (st' := [.int 0]) (I' := I) (J' := J) rfl ?_
        exact Wp.ret rfl h
      · replace h := h.2 h3
        refine Wp.steps 2 (pc' := 23) (lv' := [some (.ref 55), some (.int x1), some (.int x2)]) (st' := [.int 1]) (I' := I) (J' := J) rfl ?_
        exact Wp.ret rfl h
theorem v_Sh_look_49_0 {d : Nat} {Q : Post} {I : I2} {J : J2} {x1 : Int32} (h : CI d Sh_holds [.ref 49, .int x1, .int 1] I J (fun v1 I1 J1 => (v1 = 0 → Q (some (.long 0)) I1 J1) ∧ (¬ (v1 = 0) → vp_in x1 24 ∧ (Q (some (.long (J1 50 (tN x1)))) I1 J1)))) : Wp d Sh_look Q 0 [some (.ref 49), some (.int x1)] [] I J := by
  refine Wp.steps 3 (pc' := 3) (lv' := [some (.ref 49), some (.int x1)]) (st' := [.int 1, .int x1, .ref 49]) (I' := I) (J' := J) rfl ?_
  refine Wp.call (M' := Sh_holds) (as := [.ref 49, .int x1, .int 1]) (rest := []) rfl (CI.use h (fun v1 I1 J1 h => ?_))
  refine Wp.eqs (pc' := 6) (st' := [.int v1]) rfl rfl ?_
  refine Wp.steps 1 (pc' := if v1 = 0 then 18 else 9) (lv' := [some (.ref 49), some (.int x1)]) (st' := []) (I' := I1) (J' := J1) rfl (Wp.ite (fun h1 => ?_) (fun h1 => ?_))
  · replace h := h.1 h1
    refine Wp.steps 1 (pc' := 19) (lv' := [some (.ref 49), some (.int x1)]) (st' := [.long 0]) (I' := I1) (J' := J1) rfl ?_
    exact Wp.ret rfl h
  · replace h := h.2 h1
    refine Wp.steps 3 (pc' := 14) (lv' := [some (.ref 49), some (.int x1)]) (st' := [.int x1, .ref 50]) (I' := I1) (J' := J1) rfl ?_
    refine Wp.lald rfl rfl h.1 ?_
    replace h := h.2
    refine Wp.steps 1 (pc' := 19) (lv' := [some (.ref 49), some (.int x1)]) (st' := [.long (J1 50 (tN x1))]) (I' := I1) (J' := J1) rfl ?_
    exact Wp.ret rfl h
theorem v_Sh_look_51_0 {d : Nat} {Q : Post} {I : I2} {J : J2} {x1 : Int32} (h : CI d Sh_holds [.ref 51, .int x1, .int 1] I J (fun v1 I1 J1 => (v1 = 0 → Q (some (.long 0)) I1 J1) ∧ (¬ (v1 = 0) → vp_in x1 24 ∧ (Q (some (.long (J1 52 (tN x1)))) I1 J1)))) : Wp d Sh_look Q 0 [some (.ref 51), some (.int x1)] [] I J := by
  refine Wp.steps 3 (pc' := 3) (lv' := [some (.ref 51), some (.int x1)]) (st' := [.int 1, .int x1, .ref 51]) (I' := I) (J' := J) rfl ?_
  refine Wp.call (M' := Sh_holds) (as := [.ref 51, .int x1, .int 1]) (rest := []) rfl (CI.use h (fun v1 I1 J1 h => ?_))
  refine Wp.eqs (pc' := 6) (st' := [.int v1]) rfl rfl ?_
  refine Wp.steps 1 (pc' := if v1 = 0 then 18 else 9) (lv' := [some (.ref 51), some (.int x1)]) (st' := []) (I' := I1) (J' := J1) rfl (Wp.ite (fun h1 => ?_) (fun h1 => ?_))
  · replace h := h.1 h1
    refine Wp.steps 1 (pc' := 19) (lv' := [some (.ref 51), some (.int x1)]) (st' := [.long 0]) (I' := I1) (J' := J1) rfl ?_
    exact Wp.ret rfl h
  · replace h := h.2 h1
    refine Wp.steps 3 (pc' := 14) (lv' := [some (.ref 51), some (.int x1)]) (st' := [.int x1, .ref 52]) (I' := I1) (J' := J1) rfl ?_
    refine Wp.lald rfl rfl h.1 ?_
    replace h := h.2
    refine Wp.steps 1 (pc' := 19) (lv' := [some (.ref 51), some (.int x1)]) (st' := [.long (J1 52 (tN x1))]) (I' := I1) (J' := J1) rfl ?_
    exact Wp.ret rfl h
theorem v_Sh_look_53_0 {d : Nat} {Q : Post} {I : I2} {J : J2} {x1 : Int32} (h : CI d Sh_holds [.ref 53, .int x1, .int 1] I J (fun v1 I1 J1 => (v1 = 0 → Q (some (.long 0)) I1 J1) ∧ (¬ (v1 = 0) → vp_in x1 24 ∧ (Q (some (.long (J1 54 (tN x1)))) I1 J1)))) : Wp d Sh_look Q 0 [some (.ref 53), some (.int x1)] [] I J := by
  refine Wp.steps 3 (pc' := 3) (lv' := [some (.ref 53), some (.int x1)]) (st' := [.int 1, .int x1, .ref 53]) (I' := I) (J' := J) rfl ?_
  refine Wp.call (M' := Sh_holds) (as := [.ref 53, .int x1, .int 1]) (rest := []) rfl (CI.use h (fun v1 I1 J1 h => ?_))
  refine Wp.eqs (pc' := 6) (st' := [.int v1]) rfl rfl ?_
  refine Wp.steps 1 (pc' := if v1 = 0 then 18 else 9) (lv' := [some (.ref 53), some (.int x1)]) (st' := []) (I' := I1) (J' := J1) rfl (Wp.ite (fun h1 => ?_) (fun h1 => ?_))
  · replace h := h.1 h1
    refine Wp.steps 1 (pc' := 19) (lv' := [some (.ref 53), some (.int x1)]) (st' := [.long 0]) (I' := I1) (J' := J1) rfl ?_
    exact Wp.ret rfl h
  · replace h := h.2 h1
    refine Wp.steps 3 (pc' := 14) (lv' := [some (.ref 53), some (.int x1)]) (st' := [.int x1, .ref 54]) (I' := I1) (J' := J1) rfl ?_
    refine Wp.lald rfl rfl h.1 ?_
    replace h := h.2
    refine Wp.steps 1 (pc' := 19) (lv' := [some (.ref 53), some (.int x1)]) (st' := [.long (J1 54 (tN x1))]) (I' := I1) (J' := J1) rfl ?_
    exact Wp.ret rfl h
theorem v_Sh_look_55_0 {d : Nat} {Q : Post} {I : I2} {J : J2} {x1 : Int32} (h : CI d Sh_holds [.ref 55, .int x1, .int 1] I J (fun v1 I1 J1 => (v1 = 0 → Q (some (.long 0)) I1 J1) ∧ (¬ (v1 = 0) → vp_in x1 24 ∧ (Q (some (.long (J1 56 (tN x1)))) I1 J1)))) : Wp d Sh_look Q 0 [some (.ref 55), some (.int x1)] [] I J := by
  refine Wp.steps 3 (pc' := 3) (lv' := [some (.ref 55), some (.int x1)]) (st' := [.int 1, .int x1, .ref 55]) (I' := I) (J' := J) rfl ?_
  refine Wp.call (M' := Sh_holds) (as := [.ref 55, .int x1, .int 1]) (rest := []) rfl (CI.use h (fun v1 I1 J1 h => ?_))
  refine Wp.eqs (pc' := 6) (st' := [.int v1]) rfl rfl ?_
  refine Wp.steps 1 (pc' := if v1 = 0 then 18 else 9) (lv' := [some (.ref 55), some (.int x1)]) (st' := []) (I' := I1) (J' := J1) rfl (Wp.ite (fun h1 => ?_) (fun h1 => ?_))
  · replace h := h.1 h1
    refine Wp.steps 1 (pc' := 19) (lv' := [some (.ref 55), some (.int x1)]) (st' := [.long 0]) (I' := I1) (J' := J1) rfl ?_
    exact Wp.ret rfl h
  · replace h := h.2 h1
    refine Wp.steps 3 (pc' := 14) (lv' := [some (.ref 55), some (.int x1)]) (st' := [.int x1, .ref 56]) (I' := I1) (J' := J1) rfl ?_
    refine Wp.lald rfl rfl h.1 ?_
    replace h := h.2
    refine Wp.steps 1 (pc' := 19) (lv' := [some (.ref 55), some (.int x1)]) (st' := [.long (J1 56 (tN x1))]) (I' := I1) (J' := J1) rfl ?_
    exact Wp.ret rfl h
