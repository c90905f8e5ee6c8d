/-! what each way through a method asks (by program): Md_placesRead_57, Md_meets_57, Md_leadsToKnown_57, Md_areAll_57, Md_lets_57, Md_isRing -/
theorem v_Md_placesRead_57_0 {d : Nat} {Q : Post} {I : I2} {J : J2} {x1 : Int32} (h : ((I 57 4) = 0 → CI d Md_here [.ref 57] I J (fun v1 I1 J1 => ((I1 57 4) = 0 → CI d Md_in [.long (Int32.toInt64 (v1 - 48)), .long 0, .long (Int32.toInt64 x1)] I1 J1 (fun v2 I2 J2 => (v2 = 0 → Wp d Md_placesRead Q 48 [some (.ref 57), some (.int x1), some (.int (v1 - 48)), some (.int 0)] [] (up2 I2 57 4 1) J2) ∧ (¬ (v2 = 0) → Wp d Md_placesRead Q 48 [some (.ref 57), some (.int x1), some (.int (v1 - 48)), some (.int 0)] [] (up2 I2 57 4 0) J2))) ∧ (¬ ((I1 57 4) = 0) → Wp d Md_placesRead Q 48 [some (.ref 57), some (.int x1), some (.int (v1 - 48)), some (.int 0)] [] (up2 I1 57 4 1) J1))) ∧ (¬ ((I 57 4) = 0) → Wp d Md_placesRead Q 48 [some (.ref 57), some (.int x1), some (.int (-1)), some (.int 0)] [] (up2 I 57 4 1) J)) : Wp d Md_placesRead Q 0 [some (.ref 57), some (.int x1), none, none] [] I J := by
  refine Wp.steps 2 (pc' := 4) (lv' := [some (.ref 57), some (.int x1), none, none]) (st' := [.int (I 57 4)]) (I' := I) (J' := J) rfl ?_
  refine Wp.steps 1 (pc' := if (I 57 4) = 0 then 11 else 7) (lv' := [some (.ref 57), some (.int x1), none, none]) (st' := []) (I' := I) (J' := J) rfl (Wp.ite (fun h1 => ?_) (fun h1 => ?_))
  · replace h := h.1 h1
    refine Wp.steps 1 (pc' := 12) (lv' := [some (.ref 57), some (.int x1), none, none]) (st' := [.ref 57]) (I' := I) (J' := J) rfl ?_
    refine Wp.call (M' := Md_here) (as := [.ref 57]) (rest := []) rfl (CI.use h (fun v1 I1 J1 h => ?_))
    refine Wp.eqs (pc' := 15) (st' := [.int v1]) rfl rfl ?_
    refine Wp.steps 8 (pc' := 26) (lv' := [some (.ref 57), some (.int x1), some (.int (v1 - 48)), some (.int 0)]) (st' := [.int (I1 57 4), .ref 57]) (I' := I1) (J' := J1) rfl ?_
    refine Wp.steps 1 (pc' := if (I1 57 4) = 0 then 29 else 40) (lv' := [some (.ref 57), some (.int x1), some (.int (v1 - 48)), some (.int 0)]) (st' := [.ref 57]) (I' := I1) (J' := J1) rfl (Wp.ite (fun h2 => ?_) (fun h2 => ?_))
    · replace h := h.1 h2
      refine Wp.steps 5 (pc' := 34) (lv' := [some (.ref 57), some (.int x1), some (.int (v1 - 48)), some (.int 0)]) (st' := [.long (Int32.toInt64 x1), .long 0, .long (Int32.toInt64 (v1 - 48)), .ref 57]) (I' := I1) (J' := J1) rfl ?_
      refine Wp.call (M' := Md_in) (as := [.long (Int32.toInt64 (v1 - 48)), .long 0, .long (Int32.toInt64 x1)]) (rest := [.ref 57]) rfl (CI.use h (fun v2 I2 J2 h => ?_))
      refine Wp.eqs (pc' := 37) (st' := [.int v2, .ref 57]) rfl rfl ?_
      refine Wp.steps 1 (pc' := if v2 = 0 then 40 else 44) (lv' := [some (.ref 57), some (.int x1), some (.int (v1 - 48)), some (.int 0)]) (st' := [.ref 57]) (I' := I2) (J' := J2) rfl (Wp.ite (fun h3 => ?_) (fun h3 => ?_))
      · replace h := h.1 h3
        refine Wp.steps 3 (pc' := 48) (lv' := [some (.ref 57), some (.int x1), some (.int (v1 - 48)), some (.int 0)]) (st' := []) (I' := (up2 I2 57 4 1)) (J' := J2) rfl ?_
        exact h
      · replace h := h.2 h3
        refine Wp.steps 2 (pc' := 48) (lv' := [some (.ref 57), some (.int x1), some (.int (v1 - 48)), some (.int 0)]) (st' := []) (I' := (up2 I2 57 4 0)) (J' := J2) rfl ?_
        exact h
    · replace h := h.2 h2
      refine Wp.steps 3 (pc' := 48) (lv' := [some (.ref 57), some (.int x1), some (.int (v1 - 48)), some (.int 0)]) (st' := []) (I' := (up2 I1 57 4 1)) (J' := J1) rfl ?_
      exact h
  · replace h := h.2 h1
    refine Wp.steps 8 (pc' := 26) (lv' := [some (.ref 57), some (.int x1), some (.int (-1)), some (.int 0)]) (st' := [.int (I 57 4), .ref 57]) (I' := I) (J' := J) rfl ?_
    refine Wp.steps 1 (pc' := if (I 57 4) = 0 then 29 else 40) (lv' := [some (.ref 57), some (.int x1), some (.int (-1)), some (.int 0)]) (st' := [.ref 57]) (I' := I) (J' := J) rfl ?_
    rw [if_neg h1]
    refine Wp.steps 3 (pc' := 48) (lv' := [some (.ref 57), some (.int x1), some (.int (-1)), some (.int 0)]) (st' := []) (I' := (up2 I 57 4 1)) (J' := J) rfl ?_
    exact h
theorem v_Md_placesRead_57_48 {d : Nat} {Q : Post} {I : I2} {J : J2} {x1 : Int32} {x2 : Int32} {x3 : Int32} (h : ((I 57 4) = 0 → CI d Md_in [.long (Int32.toInt64 x2), .long 0, .long (Int32.toInt64 x1)] I J (fun v1 I1 J1 => (v1 = 0 → Q (some (.int x3)) I1 J1) ∧ (¬ (v1 = 0) → (x3 < (slI 1 x2) → CI d Md_here [.ref 57] (up2 I1 57 3 ((I1 57 3) + 1)) J1 (fun v2 I2 J2 => Wp d Md_placesRead Q 48 [some (.ref 57), some (.int x1), some (.int (v2 - 48)), some (.int (x3 ||| (slI 1 x2)))] [] I2 J2)) ∧ (¬ (x3 < (slI 1 x2)) → Q (some (.int x3)) I1 J1)))) ∧ (¬ ((I 57 4) = 0) → Q (some (.int x3)) I J)) : Wp d Md_placesRead Q 48 [some (.ref 57), some (.int x1), some (.int x2), some (.int x3)] [] I J := by
  refine Wp.steps 2 (pc' := 52) (lv' := [some (.ref 57), some (.int x1), some (.int x2), some (.int x3)]) (st' := [.int (I 57 4)]) (I' := I) (J' := J) rfl ?_
  refine Wp.steps 1 (pc' := if (I 57 4) = 0 then 55 else 100) (lv' := [some (.ref 57), some (.int x1), some (.int x2), some (.int x3)]) (st' := []) (I' := I) (J' := J) rfl (Wp.ite (fun h1 => ?_) (fun h1 => ?_))
  · replace h := h.1 h1
    refine Wp.steps 5 (pc' := 60) (lv' := [some (.ref 57), some (.int x1), some (.int x2), some (.int x3)]) (st' := [.long (Int32.toInt64 x1), .long 0, .long (Int32.toInt64 x2)]) (I' := I) (J' := J) rfl ?_
    refine Wp.call (M' := Md_in) (as := [.long (Int32.toInt64 x2), .long 0, .long (Int32.toInt64 x1)]) (rest := []) rfl (CI.use h (fun v1 I1 J1 h => ?_))
    refine Wp.eqs (pc' := 63) (st' := [.int v1]) rfl rfl ?_
    refine Wp.steps 1 (pc' := if v1 = 0 then 100 else 66) (lv' := [some (.ref 57), some (.int x1), some (.int x2), some (.int x3)]) (st' := []) (I' := I1) (J' := J1) rfl (Wp.ite (fun h2 => ?_) (fun h2 => ?_))
    · replace h := h.1 h2
      refine Wp.steps 1 (pc' := 101) (lv' := [some (.ref 57), some (.int x1), some (.int x2), some (.int x3)]) (st' := [.int x3]) (I' := I1) (J' := J1) rfl ?_
      exact Wp.ret rfl h
    · replace h := h.2 h2
      refine Wp.steps 4 (pc' := 70) (lv' := [some (.ref 57), some (.int x1), some (.int x2), some (.int x3)]) (st' := [.int x3, .int (slI 1 x2)]) (I' := I1) (J' := J1) rfl ?_
      refine Wp.steps 1 (pc' := if x3 < (slI 1 x2) then 73 else 100) (lv' := [some (.ref 57), some (.int x1), some (.int x2), some (.int x3)]) (st' := []) (I' := I1) (J' := J1) rfl (Wp.ite (fun h3 => ?_) (fun h3 => ?_))
      · replace h := h.1 h3
        refine Wp.steps 13 (pc' := 90) (lv' := [some (.ref 57), some (.int x1), some (.int x2), some (.int (x3 ||| (slI 1 x2)))]) (st' := [.ref 57]) (I' := (up2 I1 57 3 ((I1 57 3) + 1))) (J' := J1) rfl ?_
        refine Wp.call (M' := Md_here) (as := [.ref 57]) (rest := []) rfl (CI.use h (fun v2 I2 J2 h => ?_))
        refine Wp.eqs (pc' := 93) (st' := [.int v2]) rfl rfl ?_
        refine Wp.steps 4 (pc' := 48) (lv' := [some (.ref 57), some (.int x1), some (.int (v2 - 48)), some (.int (x3 ||| (slI 1 x2)))]) (st' := []) (I' := I2) (J' := J2) rfl ?_
        exact h
      · replace h := h.2 h3
        refine Wp.steps 1 (pc' := 101) (lv' := [some (.ref 57), some (.int x1), some (.int x2), some (.int x3)]) (st' := [.int x3]) (I' := I1) (J' := J1) rfl ?_
        exact Wp.ret rfl h
  · replace h := h.2 h1
    refine Wp.steps 1 (pc' := 101) (lv' := [some (.ref 57), some (.int x1), some (.int x2), some (.int x3)]) (st' := [.int x3]) (I' := I) (J' := J) rfl ?_
    exact Wp.ret rfl h
theorem v_Md_meets_57_0 {d : Nat} {Q : Post} {I : I2} {J : J2} {x1 : Int32} {x2 : Int32} {x3 : Int32} (h : vp_in x3 1024 ∧ (((I 64 (tN x3)) < 0 → vp_in x1 1024 ∧ (vp_in x3 1024 ∧ (vp_in x3 1024 ∧ (vp_in x3 1024 ∧ (vp_in (I 57 11) 1024 ∧ (vp_in x3 1024 ∧ (vp_in x1 1024 ∧ ((((up2 I 64 (tN x3) ((I 64 (tN x1)) + 1)) 64 (tN x3)) = (((up2 I 64 (tN x3) ((I 64 (tN x1)) + 1)) 64 (tN x1)) + 1) → vp_in x3 1024 ∧ (vp_in x1 1024 ∧ (vp_in x3 1024 ∧ (Q none (up2 (up2 (up2 (up2 (up2 (up2 I 64 (tN x3) ((I 64 (tN x1)) + 1)) 65 (tN x3) x1) 66 (tN x3) x2) 63 (tN (I 57 11)) x3) 57 11 ((I 57 11) + 1)) 67 (tN x3) (rmI ((I 67 (tN x3)) + (I 67 (tN x1))) 1000003)) J)))) ∧ (¬ (((up2 I 64 (tN x3) ((I 64 (tN x1)) + 1)) 64 (tN x3)) = (((up2 I 64 (tN x3) ((I 64 (tN x1)) + 1)) 64 (tN x1)) + 1)) → Q none (up2 (up2 (up2 (up2 (up2 I 64 (tN x3) ((I 64 (tN x1)) + 1)) 65 (tN x3) x1) 66 (tN x3) x2) 63 (tN (I 57 11)) x3) 57 11 ((I 57 11) + 1)) J))))))))) ∧ (¬ ((I 64 (tN x3)) < 0) → vp_in x3 1024 ∧ (vp_in x1 1024 ∧ (((I 64 (tN x3)) = ((I 64 (tN x1)) + 1) → vp_in x3 1024 ∧ (vp_in x1 1024 ∧ (vp_in x3 1024 ∧ (Q none (up2 I 67 (tN x3) (rmI ((I 67 (tN x3)) + (I 67 (tN x1))) 1000003)) J)))) ∧ (¬ ((I 64 (tN x3)) = ((I 64 (tN x1)) + 1)) → Q none I J)))))) : Wp d Md_meets Q 0 [some (.ref 57), some (.int x1), some (.int x2), some (.int x3)] [] I J := by
  refine Wp.steps 3 (pc' := 5) (lv' := [some (.ref 57), some (.int x1), some (.int x2), some (.int x3)]) (st' := [.int x3, .ref 64]) (I' := I) (J' := J) rfl ?_
  refine Wp.iald rfl rfl h.1 ?_
  replace h := h.2
  refine Wp.steps 1 (pc' := if (I 64 (tN x3)) < 0 then 9 else 57) (lv' := [some (.ref 57), some (.int x1), some (.int x2), some (.int x3)]) (st' := []) (I' := I) (J' := J) rfl (Wp.ite (fun h1 => ?_) (fun h1 => ?_))
  · replace h := h.1 h1
    refine Wp.steps 6 (pc' := 19) (lv' := [some (.ref 57), some (.int x1), some (.int x2), some (.int x3)]) (st' := [.int x1, .ref 64, .int x3, .ref 64]) (I' := I) (J' := J) rfl ?_
    refine Wp.iald rfl rfl h.1 ?_
    replace h := h.2
    refine Wp.steps 2 (pc' := 22) (lv' := [some (.ref 57), some (.int x1), some (.int x2), some (.int x3)]) (st' := [.int ((I 64 (tN x1)) + 1), .int x3, .ref 64]) (I' := I) (J' := J) rfl ?_
    refine Wp.iast rfl rfl h.1 ?_
    replace h := h.2
    refine Wp.steps 4 (pc' := 29) (lv' := [some (.ref 57), some (.int x1), some (.int x2), some (.int x3)]) (st' := [.int x1, .int x3, .ref 65]) (I' := (up2 I 64 (tN x3) ((I 64 (tN x1)) + 1))) (J' := J) rfl ?_
    refine Wp.iast rfl rfl h.1 ?_
    replace h := h.2
    refine Wp.steps 4 (pc' := 36) (lv' := [some (.ref 57), some (.int x1), some (.int x2), some (.int x3)]) (st' := [.int x2, .int x3, .ref 66]) (I' := (up2 (up2 I 64 (tN x3) ((I 64 (tN x1)) + 1)) 65 (tN x3) x1)) (J' := J) rfl ?_
    refine Wp.iast rfl rfl h.1 ?_
    replace h := h.2
    refine Wp.steps 5 (pc' := 46) (lv' := [some (.ref 57), some (.int x1), some (.int x2), some (.int x3)]) (st' := [.int x3, .int (I 57 11), .ref 63]) (I' := (up2 (up2 (up2 I 64 (tN x3) ((I 64 (tN x1)) + 1)) 65 (tN x3) x1) 66 (tN x3) x2)) (J' := J) rfl ?_
    refine Wp.iast rfl rfl h.1 ?_
    replace h := h.2
    refine Wp.steps 9 (pc' := 62) (lv' := [some (.ref 57), some (.int x1), some (.int x2), some (.int x3)]) (st' := [.int x3, .ref 64]) (I' := (up2 (up2 (up2 (up2 (up2 I 64 (tN x3) ((I 64 (tN x1)) + 1)) 65 (tN x3) x1) 66 (tN x3) x2) 63 (tN (I 57 11)) x3) 57 11 ((I 57 11) + 1))) (J' := J) rfl ?_
    refine Wp.iald rfl rfl h.1 ?_
    replace h := h.2
    refine Wp.steps 3 (pc' := 68) (lv' := [some (.ref 57), some (.int x1), some (.int x2), some (.int x3)]) (st' := [.int x1, .ref 64, .int ((up2 I 64 (tN x3) ((I 64 (tN x1)) + 1)) 64 (tN x3))]) (I' := (up2 (up2 (up2 (up2 (up2 I 64 (tN x3) ((I 64 (tN x1)) + 1)) 65 (tN x3) x1) 66 (tN x3) x2) 63 (tN (I 57 11)) x3) 57 11 ((I 57 11) + 1))) (J' := J) rfl ?_
    refine Wp.iald rfl rfl h.1 ?_
    replace h := h.2
    refine Wp.steps 2 (pc' := 71) (lv' := [some (.ref 57), some (.int x1), some (.int x2), some (.int x3)]) (st' := [.int (((up2 I 64 (tN x3) ((I 64 (tN x1)) + 1)) 64 (tN x1)) + 1), .int ((up2 I 64 (tN x3) ((I 64 (tN x1)) + 1)) 64 (tN x3))]) (I' := (up2 (up2 (up2 (up2 (up2 I 64 (tN x3) ((I 64 (tN x1)) + 1)) 65 (tN x3) x1) 66 (tN x3) x2) 63 (tN (I 57 11)) x3) 57 11 ((I 57 11) + 1))) (J' := J) rfl ?_
    refine Wp.steps 1 (pc' := if ((up2 I 64 (tN x3) ((I 64 (tN x1)) + 1)) 64 (tN x3)) = (((up2 I 64 (tN x3) ((I 64 (tN x1)) + 1)) 64 (tN x1)) + 1) then 74 else 96) (lv' := [some (.ref 57), some (.int x1), some (.int x2), some (.int x3)]) (st' := []) (I' := (up2 (up2 (up2 (up2 (up2 I 64 (tN x3) ((I 64 (tN x1)) + 1)) 65 (tN x3) x1) 66 (tN x3) x2) 63 (tN (I 57 11)) x3) 57 11 ((I 57 11) + 1))) (J' := J) rfl (Wp.ite (fun h2 => ?_) (fun h2 => ?_))
    · replace h := h.1 h2
      refine Wp.steps 6 (pc' := 84) (lv' := [some (.ref 57), some (.int x1), some (.int x2), some (.int x3)]) (st' := [.int x3, .ref 67, .int x3, .ref 67]) (I' := (up2 (up2 (up2 (up2 (up2 I 64 (tN x3) ((I 64 (tN x1)) + 1)) 65 (tN x3) x1) 66 (tN x3) x2) 63 (tN (I 57 11)) x3) 57 11 ((I 57 11) + 1))) (J' := J) rfl ?_
      refine Wp.iald rfl rfl h.1 ?_
      replace h := h.2
      refine Wp.steps 3 (pc' := 90) (lv' := [some (.ref 57), some (.int x1), some (.int x2), some (.int x3)]) (st' := [.int x1, .ref 67, .int (I 67 (tN x3)), .int x3, .ref 67]) (I' := (up2 (up2 (up2 (up2 (up2 I 64 (tN x3) ((I 64 (tN x1)) + 1)) 65 (tN x3) x1) 66 (tN x3) x2) 63 (tN (I 57 11)) x3) 57 11 ((I 57 11) + 1))) (J' := J) rfl ?_
      refine Wp.iald rfl rfl h.1 ?_
      replace h := h.2
      refine Wp.steps 3 (pc' := 95) (lv' := [some (.ref 57), some (.int x1), some (.int x2), some (.int x3)]) (st' := [.int (rmI ((I 67 (tN x3)) + (I 67 (tN x1))) 1000003), .int x3, .ref 67]) (I' := (up2 (up2 (up2 (up2 (up2 I 64 (tN x3) ((I 64 (tN x1)) + 1)) 65 (tN x3) x1) 66 (tN x3) x2) 63 (tN (I 57 11)) x3) 57 11 ((I 57 11) + 1))) (J' := J) rfl ?_
      refine Wp.iast rfl rfl h.1 ?_
      replace h := h.2
      exact Wp.ret rfl h
    · replace h := h.2 h2
      exact Wp.ret rfl h
  · replace h := h.2 h1
    refine Wp.steps 3 (pc' := 62) (lv' := [some (.ref 57), some (.int x1), some (.int x2), some (.int x3)]) (st' := [.int x3, .ref 64]) (I' := I) (J' := J) rfl ?_
    refine Wp.iald rfl rfl h.1 ?_
    replace h := h.2
    refine Wp.steps 3 (pc' := 68) (lv' := [some (.ref 57), some (.int x1), some (.int x2), some (.int x3)]) (st' := [.int x1, .ref 64, .int (I 64 (tN x3))]) (I' := I) (J' := J) rfl ?_
    refine Wp.iald rfl rfl h.1 ?_
    replace h := h.2
    refine Wp.steps 2 (pc' := 71) (lv' := [some (.ref 57), some (.int x1), some (.int x2), some (.int x3)]) (st' := [.int ((I 64 (tN x1)) + 1), .int (I 64 (tN x3))]) (I' := I) (J' := J) rfl ?_
    refine Wp.steps 1 (pc' := if (I 64 (tN x3)) = ((I 64 (tN x1)) + 1) then 74 else 96) (lv' := [some (.ref 57), some (.int x1), some (.int x2), some (.int x3)]) (st' := []) (I' := I) (J' := J) rfl (Wp.ite (fun h2 => ?_) (fun h2 => ?_))
    · replace h := h.1 h2
      refine Wp.steps 6 (pc' := 84) (lv' := [some (.ref 57), some (.int x1), some (.int x2), some (.int x3)]) (st' := [.int x3, .ref 67, .int x3, .ref 67]) (I' := I) (J' := J) rfl ?_
      refine Wp.iald rfl rfl h.1 ?_
      replace h := h.2
      refine Wp.steps 3 (pc' := 90) (lv' := [some (.ref 57), some (.int x1), some (.int x2), some (.int x3)]) (st' := [.int x1, .ref 67, .int (I 67 (tN x3)), .int x3, .ref 67]) (I' := I) (J' := J) rfl ?_
      refine Wp.iald rfl rfl h.1 ?_
      replace h := h.2
      refine Wp.steps 3 (pc' := 95) (lv' := [some (.ref 57), some (.int x1), some (.int x2), some (.int x3)]) (st' := [.int (rmI ((I 67 (tN x3)) + (I 67 (tN x1))) 1000003), .int x3, .ref 67]) (I' := I) (J' := J) rfl ?_
      refine Wp.iast rfl rfl h.1 ?_
      replace h := h.2
      exact Wp.ret rfl h
    · replace h := h.2 h2
      exact Wp.ret rfl h
theorem v_Md_leadsToKnown_57_0 {d : Nat} {Q : Post} {I : I2} {J : J2} {x1 : Int32} (h : Wp d Md_leadsToKnown Q 4 [some (.ref 57), some (.int x1), some (.int 0), some (.int 0), none] [] I J) : Wp d Md_leadsToKnown Q 0 [some (.ref 57), some (.int x1), none, none, none] [] I J := by
  refine Wp.steps 4 (pc' := 4) (lv' := [some (.ref 57), some (.int x1), some (.int 0), some (.int 0), none]) (st' := []) (I' := I) (J' := J) rfl ?_
  exact h
theorem v_Md_leadsToKnown_57_4 {d : Nat} {Q : Post} {I : I2} {J : J2} {x1 : Int32} {x2 : Int32} {x3 : Int32} (h : (x3 < (2 * (I 58 0)) → vp_in ((10 * x1) + x3) 10240 ∧ ((x2 = 0 → ((I 68 (tN ((10 * x1) + x3))) < 0 → Wp d Md_leadsToKnown Q 4 [some (.ref 57), some (.int x1), some (.int 0), some (.int (x3 + 1)), none] [] I J) ∧ (¬ ((I 68 (tN ((10 * x1) + x3))) < 0) → vp_in (I 68 (tN ((10 * x1) + x3))) 1024 ∧ (((I 69 (tN (I 68 (tN ((10 * x1) + x3))))) = 1 → Wp d Md_leadsToKnown Q 4 [some (.ref 57), some (.int x1), some (.int 1), some (.int (x3 + 1)), none] [] I J) ∧ (¬ ((I 69 (tN (I 68 (tN ((10 * x1) + x3))))) = 1) → Wp d Md_leadsToKnown Q 4 [some (.ref 57), some (.int x1), some (.int 0), some (.int (x3 + 1)), none] [] I J)))) ∧ (¬ (x2 = 0) → Wp d Md_leadsToKnown Q 4 [some (.ref 57), some (.int x1), some (.int 1), some (.int (x3 + 1)), none] [] I J))) ∧ (¬ (x3 < (2 * (I 58 0))) → (x2 = 0 ∨ x2 = 1) ∧ Q (some (.int x2)) I J)) : Wp d Md_leadsToKnown Q 4 [some (.ref 57), some (.int x1), some (.int x2), some (.int x3), none] [] I J := by
  refine Wp.steps 7 (pc' := 13) (lv' := [some (.ref 57), some (.int x1), some (.int x2), some (.int x3), none]) (st' := [.int (2 * (I 58 0)), .int x3]) (I' := I) (J' := J) rfl ?_
  refine Wp.steps 1 (pc' := if x3 < (2 * (I 58 0)) then 16 else 61) (lv' := [some (.ref 57), some (.int x1), some (.int x2), some (.int x3), none]) (st' := []) (I' := I) (J' := J) rfl (Wp.ite (fun h1 => ?_) (fun h1 => ?_))
  · replace h := h.1 h1
    refine Wp.steps 7 (pc' := 26) (lv' := [some (.ref 57), some (.int x1), some (.int x2), some (.int x3), none]) (st' := [.int ((10 * x1) + x3), .ref 68]) (I' := I) (J' := J) rfl ?_
    refine Wp.iald rfl rfl h.1 ?_
    replace h := h.2
    refine Wp.steps 2 (pc' := 30) (lv' := [some (.ref 57), some (.int x1), some (.int x2), some (.int x3), some (.int (I 68 (tN ((10 * x1) + x3))))]) (st' := [.int x2]) (I' := I) (J' := J) rfl ?_
    refine Wp.steps 1 (pc' := if x2 = 0 then 33 else 49) (lv' := [some (.ref 57), some (.int x1), some (.int x2), some (.int x3), some (.int (I 68 (tN ((10 * x1) + x3))))]) (st' := []) (I' := I) (J' := J) rfl (Wp.ite (fun h2 => ?_) (fun h2 => ?_))
    · replace h := h.1 h2
      refine Wp.steps 1 (pc' := 35) (lv' := [some (.ref 57), some (.int x1), some (.int x2), some (.int x3), some (.int (I 68 (tN ((10 * x1) + x3))))]) (st' := [.int (I 68 (tN ((10 * x1) + x3)))]) (I' := I) (J' := J) rfl ?_
      refine Wp.steps 1 (pc' := if (I 68 (tN ((10 * x1) + x3))) < 0 then 53 else 38) (lv' := [some (.ref 57), some (.int x1), some (.int x2), some (.int x3), some (.int (I 68 (tN ((10 * x1) + x3))))]) (st' := []) (I' := I) (J' := J) rfl (Wp.ite (fun h3 => ?_) (fun h3 => ?_))
      · replace h := h.1 h3
        refine Wp.steps 4 (pc' := 4) (lv' := [some (.ref 57), some (.int x1), some (.int 0), some (.int (x3 + 1)), some (.int (I 68 (tN ((10 * x1) + x3))))]) (st' := []) (I' := I) (J' := J) rfl ?_
        refine Wp.drop [4] (lv' := [some (.ref 57), some (.int x1), some (.int 0), some (.int (x3 + 1)), none]) rfl ?_
        exact h
      · replace h := h.2 h3
        refine Wp.steps 3 (pc' := 44) (lv' := [some (.ref 57), some (.int x1), some (.int x2), some (.int x3), some (.int (I 68 (tN ((10 * x1) + x3))))]) (st' := [.int (I 68 (tN ((10 * x1) + x3))), .ref 69]) (I' := I) (J' := J) rfl ?_
        refine Wp.iald rfl rfl h.1 ?_
        replace h := h.2
        refine Wp.steps 1 (pc' := 46) (lv' := [some (.ref 57), some (.int x1), some (.int x2), some (.int x3), some (.int (I 68 (tN ((10 * x1) + x3))))]) (st' := [.int 1, .int (I 69 (tN (I 68 (tN ((10 * x1) + x3)))))]) (I' := I) (J' := J) rfl ?_
        refine Wp.steps 1 (pc' := if (I 69 (tN (I 68 (tN ((10 * x1) + x3))))) = 1 then 49 else 53) (lv' := [some (.ref 57), some (.int x1), some (.int x2), some (.int x3), some (.int (I 68 (tN ((10 * x1) + x3))))]) (st' := []) (I' := I) (J' := J) rfl (Wp.ite (fun h4 => ?_) (fun h4 => ?_))
        · replace h := h.1 h4
          refine Wp.steps 5 (pc' := 4) (lv' := [some (.ref 57), some (.int x1), some (.int 1), some (.int (x3 + 1)), some (.int (I 68 (tN ((10 * x1) + x3))))]) (st' := []) (I' := I) (J' := J) rfl ?_
          refine Wp.drop [4] (lv' := [some (.ref 57), some (.int x1), some (.int 1), some (.int (x3 + 1)), none]) rfl ?_
          exact h
        · replace h := h.2 h4
          refine Wp.steps 4 (pc' := 4) (lv' := [some (.ref 57), some (.int x1), some (.int 0), some (.int (x3 + 1)), some (.int (I 68 (tN ((10 * x1) + x3))))]) (st' := []) (I' := I) (J' := J) rfl ?_
          refine Wp.drop [4] (lv' := [some (.ref 57), some (.int x1), some (.int 0), some (.int (x3 + 1)), none]) rfl ?_
          exact h
    · replace h := h.2 h2
      refine Wp.steps 5 (pc' := 4) (lv' := [some (.ref 57), some (.int x1), some (.int 1), some (.int (x3 + 1)), some (.int (I 68 (tN ((10 * x1) + x3))))]) (st' := []) (I' := I) (J' := J) rfl ?_
      refine Wp.drop [4] (lv' := [some (.ref 57), some (.int x1), some (.int 1), some (.int (x3 + 1)), none]) rfl ?_
      exact h
  · replace h := h.2 h1
    refine Wp.steps 1 (pc' := 62) (lv' := [some (.ref 57), some (.int x1), some (.int x2), some (.int x3), none]) (st' := [.int x2]) (I' := I) (J' := J) rfl ?_
    exact Wp.retZ rfl rfl h.1 h.2
theorem v_Md_areAll_57_0 {d : Nat} {Q : Post} {I : I2} {J : J2} {x1 : Int32} {x2 : Int32} (h : Wp d Md_areAll Q 5 [some (.ref 57), some (.int x1), some (.int x2), some (.int 1), some (.int 0), none] [] I J) : Wp d Md_areAll Q 0 [some (.ref 57), some (.int x1), some (.int x2), none, none, none] [] I J := by
  refine Wp.steps 4 (pc' := 5) (lv' := [some (.ref 57), some (.int x1), some (.int x2), some (.int 1), some (.int 0), none]) (st' := []) (I' := I) (J' := J) rfl ?_
  exact h
theorem v_Md_areAll_57_5 {d : Nat} {Q : Post} {I : I2} {J : J2} {x1 : Int32} {x2 : Int32} {x3 : Int32} {x4 : Int32} (h : (x4 < (2 * (I 58 0)) → vp_in ((10 * x1) + x4) 10240 ∧ ((x3 = 0 → Wp d Md_areAll Q 5 [some (.ref 57), some (.int x1), some (.int x2), some (.int 0), some (.int (x4 + 1)), none] [] I J) ∧ (¬ (x3 = 0) → ((I 68 (tN ((10 * x1) + x4))) < 0 → Wp d Md_areAll Q 5 [some (.ref 57), some (.int x1), some (.int x2), some (.int 1), some (.int (x4 + 1)), none] [] I J) ∧ (¬ ((I 68 (tN ((10 * x1) + x4))) < 0) → vp_in (I 68 (tN ((10 * x1) + x4))) 1024 ∧ (((I 69 (tN (I 68 (tN ((10 * x1) + x4))))) = x2 → Wp d Md_areAll Q 5 [some (.ref 57), some (.int x1), some (.int x2), some (.int 1), some (.int (x4 + 1)), none] [] I J) ∧ (¬ ((I 69 (tN (I 68 (tN ((10 * x1) + x4))))) = x2) → Wp d Md_areAll Q 5 [some (.ref 57), some (.int x1), some (.int x2), some (.int 0), some (.int (x4 + 1)), none] [] I J)))))) ∧ (¬ (x4 < (2 * (I 58 0))) → (x3 = 0 ∨ x3 = 1) ∧ Q (some (.int x3)) I J)) : Wp d Md_areAll Q 5 [some (.ref 57), some (.int x1), some (.int x2), some (.int x3), some (.int x4), none] [] I J := by
  refine Wp.steps 7 (pc' := 15) (lv' := [some (.ref 57), some (.int x1), some (.int x2), some (.int x3), some (.int x4), none]) (st' := [.int (2 * (I 58 0)), .int x4]) (I' := I) (J' := J) rfl ?_
  refine Wp.steps 1 (pc' := if x4 < (2 * (I 58 0)) then 18 else 64) (lv' := [some (.ref 57), some (.int x1), some (.int x2), some (.int x3), some (.int x4), none]) (st' := []) (I' := I) (J' := J) rfl (Wp.ite (fun h1 => ?_) (fun h1 => ?_))
  · replace h := h.1 h1
    refine Wp.steps 7 (pc' := 29) (lv' := [some (.ref 57), some (.int x1), some (.int x2), some (.int x3), some (.int x4), none]) (st' := [.int ((10 * x1) + x4), .ref 68]) (I' := I) (J' := J) rfl ?_
    refine Wp.iald rfl rfl h.1 ?_
    replace h := h.2
    refine Wp.steps 2 (pc' := 33) (lv' := [some (.ref 57), some (.int x1), some (.int x2), some (.int x3), some (.int x4), some (.int (I 68 (tN ((10 * x1) + x4))))]) (st' := [.int x3]) (I' := I) (J' := J) rfl ?_
    refine Wp.steps 1 (pc' := if x3 = 0 then 56 else 36) (lv' := [some (.ref 57), some (.int x1), some (.int x2), some (.int x3), some (.int x4), some (.int (I 68 (tN ((10 * x1) + x4))))]) (st' := []) (I' := I) (J' := J) rfl (Wp.ite (fun h2 => ?_) (fun h2 => ?_))
    · replace h := h.1 h2
      refine Wp.steps 4 (pc' := 5) (lv' := [some (.ref 57), some (.int x1), some (.int x2), some (.int 0), some (.int (x4 + 1)), some (.int (I 68 (tN ((10 * x1) + x4))))]) (st' := []) (I' := I) (J' := J) rfl ?_
      refine Wp.drop [5] (lv' := [some (.ref 57), some (.int x1), some (.int x2), some (.int 0), some (.int (x4 + 1)), none]) rfl ?_
      exact h
    · replace h := h.2 h2
      refine Wp.steps 1 (pc' := 38) (lv' := [some (.ref 57), some (.int x1), some (.int x2), some (.int x3), some (.int x4), some (.int (I 68 (tN ((10 * x1) + x4))))]) (st' := [.int (I 68 (tN ((10 * x1) + x4)))]) (I' := I) (J' := J) rfl ?_
      refine Wp.steps 1 (pc' := if (I 68 (tN ((10 * x1) + x4))) < 0 then 52 else 41) (lv' := [some (.ref 57), some (.int x1), some (.int x2), some (.int x3), some (.int x4), some (.int (I 68 (tN ((10 * x1) + x4))))]) (st' := []) (I' := I) (J' := J) rfl (Wp.ite (fun h3 => ?_) (fun h3 => ?_))
      · replace h := h.1 h3
        refine Wp.steps 5 (pc' := 5) (lv' := [some (.ref 57), some (.int x1), some (.int x2), some (.int 1), some (.int (x4 + 1)), some (.int (I 68 (tN ((10 * x1) + x4))))]) (st' := []) (I' := I) (J' := J) rfl ?_
        refine Wp.drop [5] (lv' := [some (.ref 57), some (.int x1), some (.int x2), some (.int 1), some (.int (x4 + 1)), none]) rfl ?_
        exact h
      · replace h := h.2 h3
        refine Wp.steps 3 (pc' := 47) (lv' := [some (.ref 57), some (.int x1), some (.int x2), some (.int x3), some (.int x4), some (.int (I 68 (tN ((10 * x1) + x4))))]) (st' := [.int (I 68 (tN ((10 * x1) + x4))), .ref 69]) (I' := I) (J' := J) rfl ?_
        refine Wp.iald rfl rfl h.1 ?_
        replace h := h.2
        refine Wp.steps 1 (pc' := 49) (lv' := [some (.ref 57), some (.int x1), some (.int x2), some (.int x3), some (.int x4), some (.int (I 68 (tN ((10 * x1) + x4))))]) (st' := [.int x2, .int (I 69 (tN (I 68 (tN ((10 * x1) + x4)))))]) (I' := I) (J' := J) rfl ?_
        refine Wp.steps 1 (pc' := if (I 69 (tN (I 68 (tN ((10 * x1) + x4))))) = x2 then 52 else 56) (lv' := [some (.ref 57), some (.int x1), some (.int x2), some (.int x3), some (.int x4), some (.int (I 68 (tN ((10 * x1) + x4))))]) (st' := []) (I' := I) (J' := J) rfl (Wp.ite (fun h4 => ?_) (fun h4 => ?_))
        · replace h := h.1 h4
          refine Wp.steps 5 (pc' := 5) (lv' := [some (.ref 57), some (.int x1), some (.int x2), some (.int 1), some (.int (x4 + 1)), some (.int (I 68 (tN ((10 * x1) + x4))))]) (st' := []) (I' := I) (J' := J) rfl ?_
          refine Wp.drop [5] (lv' := [some (.ref 57), some (.int x1), some (.int x2), some (.int 1), some (.int (x4 + 1)), none]) rfl ?_
          exact h
        · replace h := h.2 h4
          refine Wp.steps 4 (pc' := 5) (lv' := [some (.ref 57), some (.int x1), some (.int x2), some (.int 0), some (.int (x4 + 1)), some (.int (I 68 (tN ((10 * x1) + x4))))]) (st' := []) (I' := I) (J' := J) rfl ?_
          refine Wp.drop [5] (lv' := [some (.ref 57), some (.int x1), some (.int x2), some (.int 0), some (.int (x4 + 1)), none]) rfl ?_
          exact h
  · replace h := h.2 h1
    refine Wp.steps 1 (pc' := 65) (lv' := [some (.ref 57), some (.int x1), some (.int x2), some (.int x3), some (.int x4), none]) (st' := [.int x3]) (I' := I) (J' := J) rfl ?_
    exact Wp.retZ rfl rfl h.1 h.2
theorem v_Md_lets_57_0 {d : Nat} {Q : Post} {I : I2} {J : J2} {x1 : Int32} {x2 : Int32} {x3 : Int32} {x4 : Int32} {x5 : Int32} (h : CI d Md_ofLock [.ref 57, .int x1, .int 0] I J (fun v1 I1 J1 => (v1 = x3 → CI d Md_ofLock [.ref 57, .int x1, .int 1] I1 J1 (fun v2 I2 J2 => (v2 = x4 → (((srI x5 x1) &&& 1) = 0 → CI d Md_ofLock [.ref 57, .int x1, .int 3] I2 J2 (fun v3 I3 J3 => CI d Md_ofLock [.ref 57, .int x1, .int 2] I3 J3 (fun v4 I4 J4 => CI d Md_placeIn [.int x2, .int v4] I4 J4 (fun v5 I5 J5 => (((srI v3 v5) &&& 1) = 1 → Q (some (.int 1)) I5 J5) ∧ (¬ (((srI v3 v5) &&& 1) = 1) → Q (some (.int 0)) I5 J5))))) ∧ (¬ (((srI x5 x1) &&& 1) = 0) → Q (some (.int 1)) I2 J2)) ∧ (¬ (v2 = x4) → CI d Md_ofLock [.ref 57, .int x1, .int 1] I2 J2 (fun v3 I3 J3 => (v3 = 2 → (((srI x5 x1) &&& 1) = 0 → CI d Md_ofLock [.ref 57, .int x1, .int 3] I3 J3 (fun v4 I4 J4 => CI d Md_ofLock [.ref 57, .int x1, .int 2] I4 J4 (fun v5 I5 J5 => CI d Md_placeIn [.int x2, .int v5] I5 J5 (fun v6 I6 J6 => (((srI v4 v6) &&& 1) = 1 → Q (some (.int 1)) I6 J6) ∧ (¬ (((srI v4 v6) &&& 1) = 1) → Q (some (.int 0)) I6 J6))))) ∧ (¬ (((srI x5 x1) &&& 1) = 0) → Q (some (.int 1)) I3 J3)) ∧ (¬ (v3 = 2) → Q (some (.int 1)) I3 J3))))) ∧ (¬ (v1 = x3) → Q (some (.int 1)) I1 J1))) : Wp d Md_lets Q 0 [some (.ref 57), some (.int x1), some (.int x2), some (.int x3), some (.int x4), some (.int x5), none] [] I J := by
  refine Wp.steps 3 (pc' := 3) (lv' := [some (.ref 57), some (.int x1), some (.int x2), some (.int x3), some (.int x4), some (.int x5), none]) (st' := [.int 0, .int x1, .ref 57]) (I' := I) (J' := J) rfl ?_
  refine Wp.call (M' := Md_ofLock) (as := [.ref 57, .int x1, .int 0]) (rest := []) rfl (CI.use h (fun v1 I1 J1 h => ?_))
  refine Wp.eqs (pc' := 6) (st' := [.int v1]) rfl rfl ?_
  refine Wp.steps 1 (pc' := 7) (lv' := [some (.ref 57), some (.int x1), some (.int x2), some (.int x3), some (.int x4), some (.int x5), none]) (st' := [.int x3, .int v1]) (I' := I1) (J' := J1) rfl ?_
  refine Wp.steps 1 (pc' := if v1 = x3 then 10 else 44) (lv' := [some (.ref 57), some (.int x1), some (.int x2), some (.int x3), some (.int x4), some (.int x5), none]) (st' := []) (I' := I1) (J' := J1) rfl (Wp.ite (fun h1 => ?_) (fun h1 => ?_))
  · replace h := h.1 h1
    refine Wp.steps 3 (pc' := 13) (lv' := [some (.ref 57), some (.int x1), some (.int x2), some (.int x3), some (.int x4), some (.int x5), none]) (st' := [.int 1, .int x1, .ref 57]) (I' := I1) (J' := J1) rfl ?_
    refine Wp.call (M' := Md_ofLock) (as := [.ref 57, .int x1, .int 1]) (rest := []) rfl (CI.use h (fun v2 I2 J2 h => ?_))
    refine Wp.eqs (pc' := 16) (st' := [.int v2]) rfl rfl ?_
    refine Wp.steps 1 (pc' := 18) (lv' := [some (.ref 57), some (.int x1), some (.int x2), some (.int x3), some (.int x4), some (.int x5), none]) (st' := [.int x4, .int v2]) (I' := I2) (J' := J2) rfl ?_
    refine Wp.steps 1 (pc' := if v2 = x4 then 31 else 21) (lv' := [some (.ref 57), some (.int x1), some (.int x2), some (.int x3), some (.int x4), some (.int x5), none]) (st' := []) (I' := I2) (J' := J2) rfl (Wp.ite (fun h2 => ?_) (fun h2 => ?_))
    · replace h := h.1 h2
      refine Wp.steps 5 (pc' := 37) (lv' := [some (.ref 57), some (.int x1), some (.int x2), some (.int x3), some (.int x4), some (.int x5), none]) (st' := [.int ((srI x5 x1) &&& 1)]) (I' := I2) (J' := J2) rfl ?_
      refine Wp.steps 1 (pc' := if ((srI x5 x1) &&& 1) = 0 then 40 else 44) (lv' := [some (.ref 57), some (.int x1), some (.int x2), some (.int x3), some (.int x4), some (.int x5), none]) (st' := []) (I' := I2) (J' := J2) rfl (Wp.ite (fun h3 => ?_) (fun h3 => ?_))
      · replace h := h.1 h3
        refine Wp.steps 8 (pc' := 55) (lv' := [some (.ref 57), some (.int x1), some (.int x2), some (.int x3), some (.int x4), some (.int x5), some (.int 1)]) (st' := [.int 3, .int x1, .ref 57]) (I' := I2) (J' := J2) rfl ?_
        refine Wp.call (M' := Md_ofLock) (as := [.ref 57, .int x1, .int 3]) (rest := []) rfl (CI.use h (fun v3 I3 J3 h => ?_))
        refine Wp.eqs (pc' := 58) (st' := [.int v3]) rfl rfl ?_
        refine Wp.steps 4 (pc' := 62) (lv' := [some (.ref 57), some (.int x1), some (.int x2), some (.int x3), some (.int x4), some (.int x5), some (.int 1)]) (st' := [.int 2, .int x1, .ref 57, .int x2, .int v3]) (I' := I3) (J' := J3) rfl ?_
        refine Wp.call (M' := Md_ofLock) (as := [.ref 57, .int x1, .int 2]) (rest := [.int x2, .int v3]) rfl (CI.use h (fun v4 I4 J4 h => ?_))
        refine Wp.eqs (pc' := 65) (st' := [.int v4, .int x2, .int v3]) rfl rfl ?_
        refine Wp.call (M' := Md_placeIn) (as := [.int x2, .int v4]) (rest := [.int v3]) rfl (CI.use h (fun v5 I5 J5 h => ?_))
        refine Wp.eqs (pc' := 68) (st' := [.int v5, .int v3]) rfl rfl ?_
        refine Wp.steps 4 (pc' := 72) (lv' := [some (.ref 57), some (.int x1), some (.int x2), some (.int x3), some (.int x4), some (.int x5), some (.int 1)]) (st' := [.int 1, .int ((srI v3 v5) &&& 1)]) (I' := I5) (J' := J5) rfl ?_
        refine Wp.steps 1 (pc' := if ((srI v3 v5) &&& 1) = 1 then 75 else 79) (lv' := [some (.ref 57), some (.int x1), some (.int x2), some (.int x3), some (.int x4), some (.int x5), some (.int 1)]) (st' := []) (I' := I5) (J' := J5) rfl (Wp.ite (fun h4 => ?_) (fun h4 => ?_))
        · replace h := h.1 h4
          refine Wp.steps 2 (pc' := 80) (lv' := [some (.ref 57), some (.int x1), some (.int x2), some (.int x3), some (.int x4), some (.int x5), some (.int 1)]) (st' := [.int 1]) (I' := I5) (J' := J5) rfl ?_
          exact Wp.ret rfl h
        · replace h := h.2 h4
          refine Wp.steps 1 (pc' := 80) (lv' := [some (.ref 57), some (.int x1), some (.int x2), some (.int x3), some (.int x4), some (.int x5), some (.int 1)]) (st' := [.int 0]) (I' := I5) (J' := J5) rfl ?_
          exact Wp.ret rfl h
      · replace h := h.2 h3
        refine Wp.steps 6 (pc' := 80) (lv' := [some (.ref 57), some (.int x1), some (.int x2), some (.int x3), some (.int x4), some (.int x5), some (.int 0)]) (st' := [.int 1]) (I' := I2) (J' := J2) rfl ?_
        exact Wp.ret rfl h
    · replace h := h.2 h2
      refine Wp.steps 3 (pc' := 24) (lv' := [some (.ref 57), some (.int x1), some (.int x2), some (.int x3), some (.int x4), some (.int x5), none]) (st' := [.int 1, .int x1, .ref 57]) (I' := I2) (J' := J2) rfl ?_
      refine Wp.call (M' := Md_ofLock) (as := [.ref 57, .int x1, .int 1]) (rest := []) rfl (CI.use h (fun v3 I3 J3 h => ?_))
      refine Wp.eqs (pc' := 27) (st' := [.int v3]) rfl rfl ?_
      refine Wp.steps 1 (pc' := 28) (lv' := [some (.ref 57), some (.int x1), some (.int x2), some (.int x3), some (.int x4), some (.int x5), none]) (st' := [.int 2, .int v3]) (I' := I3) (J' := J3) rfl ?_
      refine Wp.steps 1 (pc' := if v3 = 2 then 31 else 44) (lv' := [some (.ref 57), some (.int x1), some (.int x2), some (.int x3), some (.int x4), some (.int x5), none]) (st' := []) (I' := I3) (J' := J3) rfl (Wp.ite (fun h3 => ?_) (fun h3 => ?_))
      · replace h := h.1 h3
        refine Wp.steps 5 (pc' := 37) (lv' := [some (.ref 57), some (.int x1), some (.int x2), some (.int x3), some (.int x4), some (.int x5), none]) (st' := [.int ((srI x5 x1) &&& 1)]) (I' := I3) (J' := J3) rfl ?_
        refine Wp.steps 1 (pc' := if ((srI x5 x1) &&& 1) = 0 then 40 else 44) (lv' := [some (.ref 57), some (.int x1), some (.int x2), some (.int x3), some (.int x4), some (.int x5), none]) (st' := []) (I' := I3) (J' := J3) rfl (Wp.ite (fun h4 => ?_) (fun h4 => ?_))
        · replace h := h.1 h4
          refine Wp.steps 8 (pc' := 55) (lv' := [some (.ref 57), some (.int x1), some (.int x2), some (.int x3), some (.int x4), some (.int x5), some (.int 1)]) (st' := [.int 3, .int x1, .ref 57]) (I' := I3) (J' := J3) rfl ?_
          refine Wp.call (M' := Md_ofLock) (as := [.ref 57, .int x1, .int 3]) (rest := []) rfl (CI.use h (fun v4 I4 J4 h => ?_))
          refine Wp.eqs (pc' := 58) (st' := [.int v4]) rfl rfl ?_
          refine Wp.steps 4 (pc' := 62) (lv' := [some (.ref 57), some (.int x1), some (.int x2), some (.int x3), some (.int x4), some (.int x5), some (.int 1)]) (st' := [.int 2, .int x1, .ref 57, .int x2, .int v4]) (I' := I4) (J' := J4) rfl ?_
          refine Wp.call (M' := Md_ofLock) (as := [.ref 57, .int x1, .int 2]) (rest := [.int x2, .int v4]) rfl (CI.use h (fun v5 I5 J5 h => ?_))
          refine Wp.eqs (pc' := 65) (st' := [.int v5, .int x2, .int v4]) rfl rfl ?_
          refine Wp.call (M' := Md_placeIn) (as := [.int x2, .int v5]) (rest := [.int v4]) rfl (CI.use h (fun v6 I6 J6 h => ?_))
          refine Wp.eqs (pc' := 68) (st' := [.int v6, .int v4]) rfl rfl ?_
          refine Wp.steps 4 (pc' := 72) (lv' := [some (.ref 57), some (.int x1), some (.int x2), some (.int x3), some (.int x4), some (.int x5), some (.int 1)]) (st' := [.int 1, .int ((srI v4 v6) &&& 1)]) (I' := I6) (J' := J6) rfl ?_
          refine Wp.steps 1 (pc' := if ((srI v4 v6) &&& 1) = 1 then 75 else 79) (lv' := [some (.ref 57), some (.int x1), some (.int x2), some (.int x3), some (.int x4), some (.int x5), some (.int 1)]) (st' := []) (I' := I6) (J' := J6) rfl (Wp.ite (fun h5 => ?_) (fun h5 => ?_))
          · replace h := h.1 h5
            refine Wp.steps 2 (pc' := 80) (lv' := [some (.ref 57), some (.int x1), some (.int x2), some (.int x3), some (.int x4), some (.int x5), some (.int 1)]) (st' := [.int 1]) (I' := I6) (J' := J6) rfl ?_
            exact Wp.ret rfl h
          · replace h := h.2 h5
            refine Wp.steps 1 (pc' := 80) (lv' := [some (.ref 57), some (.int x1), some (.int x2), some (.int x3), some (.int x4), some (.int x5), some (.int 1)]) (st' := [.int 0]) (I' := I6) (J' := J6) rfl ?_
            exact Wp.ret rfl h
        · replace h := h.2 h4
          refine Wp.steps 6 (pc' := 80) (lv' := [some (.ref 57), some (.int x1), some (.int x2), some (.int x3), some (.int x4), some (.int x5), some (.int 0)]) (st' := [.int 1]) (I' := I3) (J' := J3) rfl ?_
          exact Wp.ret rfl h
      · replace h := h.2 h3
        refine Wp.steps 6 (pc' := 80) (lv' := [some (.ref 57), some (.int x1), some (.int x2), some (.int x3), some (.int x4), some (.int x5), some (.int 0)]) (st' := [.int 1]) (I' := I3) (J' := J3) rfl ?_
        exact Wp.ret rfl h
  · replace h := h.2 h1
    refine Wp.steps 6 (pc' := 80) (lv' := [some (.ref 57), some (.int x1), some (.int x2), some (.int x3), some (.int x4), some (.int x5), some (.int 0)]) (st' := [.int 1]) (I' := I1) (J' := J1) rfl ?_
    exact Wp.ret rfl h
theorem v_Md_isRing_0 {d : Nat} {Q : Post} {I : I2} {J : J2} {x0 : Int32} {x1 : Int32} (h : (x1 = 0 → Q (some (.int 1)) I J) ∧ (¬ (x1 = 0) → CI d Md_placeIn [.int x0, .int (x1 - 1)] I J (fun v1 I1 J1 => (0 < v1 → ((x0 &&& ((slI 1 (2 * (x1 - 1))) - 1)) = 0 → Q (some (.int 1)) I1 J1) ∧ (¬ ((x0 &&& ((slI 1 (2 * (x1 - 1))) - 1)) = 0) → Q (some (.int 0)) I1 J1)) ∧ (¬ (0 < v1) → Q (some (.int 0)) I1 J1)))) : Wp d Md_isRing Q 0 [some (.int x0), some (.int x1)] [] I J := by
  refine Wp.steps 1 (pc' := 1) (lv' := [some (.int x0), some (.int x1)]) (st' := [.int x1]) (I' := I) (J' := J) rfl ?_
  refine Wp.steps 1 (pc' := if x1 = 0 then 28 else 4) (lv' := [some (.int x0), some (.int x1)]) (st' := []) (I' := I) (J' := J) rfl (Wp.ite (fun h1 => ?_) (fun h1 => ?_))
  · replace h := h.1 h1
    refine Wp.steps 2 (pc' := 33) (lv' := [some (.int x0), some (.int x1)]) (st' := [.int 1]) (I' := I) (J' := J) rfl ?_
    exact Wp.ret rfl h
  · replace h := h.2 h1
    refine Wp.steps 4 (pc' := 8) (lv' := [some (.int x0), some (.int x1)]) (st' := [.int (x1 - 1), .int x0]) (I' := I) (J' := J) rfl ?_
    refine Wp.call (M' := Md_placeIn) (as := [.int x0, .int (x1 - 1)]) (rest := []) rfl (CI.use h (fun v1 I1 J1 h => ?_))
    refine Wp.eqs (pc' := 11) (st' := [.int v1]) rfl rfl ?_
    refine Wp.steps 1 (pc' := if 0 < v1 then 14 else 32) (lv' := [some (.int x0), some (.int x1)]) (st' := []) (I' := I1) (J' := J1) rfl (Wp.ite (fun h2 => ?_) (fun h2 => ?_))
    · replace h := h.1 h2
      refine Wp.steps 11 (pc' := 25) (lv' := [some (.int x0), some (.int x1)]) (st' := [.int (x0 &&& ((slI 1 (2 * (x1 - 1))) - 1))]) (I' := I1) (J' := J1) rfl ?_
      refine Wp.steps 1 (pc' := if (x0 &&& ((slI 1 (2 * (x1 - 1))) - 1)) = 0 then 28 else 32) (lv' := [some (.int x0), some (.int x1)]) (st' := []) (I' := I1) (J' := J1) rfl (Wp.ite (fun h3 => ?_) (fun h3 => ?_))
      · replace h := h.1 h3
        refine Wp.steps 2 (pc' := 33) (lv' := [some (.int x0), some (.int x1)]) (st' := [.int 1]) (I' := I1) (J' := J1) rfl ?_
        exact Wp.ret rfl h
      · replace h := h.2 h3
        refine Wp.steps 1 (pc' := 33) (lv' := [some (.int x0), some (.int x1)]) (st' := [.int 0]) (I' := I1) (J' := J1) rfl ?_
        exact Wp.ret rfl h
    · replace h := h.2 h2
      refine Wp.steps 1 (pc' := 33) (lv' := [some (.int x0), some (.int x1)]) (st' := [.int 0]) (I' := I1) (J' := J1) rfl ?_
      exact Wp.ret rfl h
