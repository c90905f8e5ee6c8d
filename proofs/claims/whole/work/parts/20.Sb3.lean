/-! what each way through a method asks (by program): Sb_copy_0, Sb_placeIn, Sb_bit, Sb_opensWith_0, Sb_openShares_1, Sb_evenShares -/
theorem v_Sb_copy_0_0 {d : Nat} {Q : Post} {I : I2} {J : J2} {x1 : Int32} {x2 : Int32} {x3 : Int32} {x4 : Int32} {x5 : Int32} (h : CI d Sb_isSheet [.int x1] I J (fun v1 I1 J1 => (v1 = 0 → Q (some (.int (-1))) I1 J1) ∧ (¬ (v1 = 0) → CI d Sb_isSheet [.int x3] I1 J1 (fun v2 I2 J2 => (v2 = 0 → Q (some (.int (-1))) I2 J2) ∧ (¬ (v2 = 0) → vp_in x1 4 ∧ (x1 = 0 → ((I2 49 0) = 0 → Q (some (.int (-11))) I2 J2) ∧ (¬ ((I2 49 0) = 0) → vp_in x3 4 ∧ (x3 = 0 → ((I2 49 1) = (I2 49 1) → CI d Sh_holds [.ref 49, .int x2, .int x5] I2 J2 (fun v3 I3 J3 => (v3 = 0 → Q (some (.int (-13))) I3 J3) ∧ (¬ (v3 = 0) → CI d Sh_holds [.ref 49, .int x4, .int x5] I3 J3 (fun v4 I4 J4 => (v4 = 0 → Q (some (.int (-13))) I4 J4) ∧ (¬ (v4 = 0) → ¬ (x2 < 0 ∨ x4 < 0 ∨ x5 < 0 ∨ 24 < tN x2 + tN x5 ∨ 24 < tN x4 + tN x5) ∧ (Q (some (.int x5)) I4 (cpJ J4 50 50 (tN x2) (tN x4) (tN x5)))))))) ∧ (¬ ((I2 49 1) = (I2 49 1)) → Q (some (.int (-12))) I2 J2)) ∧ (x3 = 1 → ((I2 51 0) = 0 → Q (some (.int (-11))) I2 J2) ∧ (¬ ((I2 51 0) = 0) → ((I2 49 1) = (I2 51 1) → CI d Sh_holds [.ref 49, .int x2, .int x5] I2 J2 (fun v3 I3 J3 => (v3 = 0 → Q (some (.int (-13))) I3 J3) ∧ (¬ (v3 = 0) → CI d Sh_holds [.ref 51, .int x4, .int x5] I3 J3 (fun v4 I4 J4 => (v4 = 0 → Q (some (.int (-13))) I4 J4) ∧ (¬ (v4 = 0) → ¬ (x2 < 0 ∨ x4 < 0 ∨ x5 < 0 ∨ 24 < tN x2 + tN x5 ∨ 24 < tN x4 + tN x5) ∧ (Q (some (.int x5)) I4 (cpJ J4 52 50 (tN x2) (tN x4) (tN x5)))))))) ∧ (¬ ((I2 49 1) = (I2 51 1)) → Q (some (.int (-12))) I2 J2))) ∧ (x3 = 2 → ((I2 53 0) = 0 → Q (some (.int (-11))) I2 J2) ∧ (¬ ((I2 53 0) = 0) → ((I2 49 1) = (I2 53 1) → CI d Sh_holds [.ref 49, .int x2, .int x5] I2 J2 (fun v3 I3 J3 => (v3 = 0 → Q (some (.int (-13))) I3 J3) ∧ (¬ (v3 = 0) → CI d Sh_holds [.ref 53, .int x4, .int x5] I3 J3 (fun v4 I4 J4 => (v4 = 0 → Q (some (.int (-13))) I4 J4) ∧ (¬ (v4 = 0) → ¬ (x2 < 0 ∨ x4 < 0 ∨ x5 < 0 ∨ 24 < tN x2 + tN x5 ∨ 24 < tN x4 + tN x5) ∧ (Q (some (.int x5)) I4 (cpJ J4 54 50 (tN x2) (tN x4) (tN x5)))))))) ∧ (¬ ((I2 49 1) = (I2 53 1)) → Q (some (.int (-12))) I2 J2))) ∧ (x3 = 3 → ((I2 55 0) = 0 → Q (some (.int (-11))) I2 J2) ∧ (¬ ((I2 55 0) = 0) → ((I2 49 1) = (I2 55 1) → CI d Sh_holds [.ref 49, .int x2, .int x5] I2 J2 (fun v3 I3 J3 => (v3 = 0 → Q (some (.int (-13))) I3 J3) ∧ (¬ (v3 = 0) → CI d Sh_holds [.ref 55, .int x4, .int x5] I3 J3 (fun v4 I4 J4 => (v4 = 0 → Q (some (.int (-13))) I4 J4) ∧ (¬ (v4 = 0) → ¬ (x2 < 0 ∨ x4 < 0 ∨ x5 < 0 ∨ 24 < tN x2 + tN x5 ∨ 24 < tN x4 + tN x5) ∧ (Q (some (.int x5)) I4 (cpJ J4 56 50 (tN x2) (tN x4) (tN x5)))))))) ∧ (¬ ((I2 49 1) = (I2 55 1)) → Q (some (.int (-12))) I2 J2))))) ∧ (x1 = 1 → ((I2 51 0) = 0 → Q (some (.int (-11))) I2 J2) ∧ (¬ ((I2 51 0) = 0) → vp_in x3 4 ∧ (x3 = 0 → ((I2 49 0) = 0 → Q (some (.int (-11))) I2 J2) ∧ (¬ ((I2 49 0) = 0) → ((I2 51 1) = (I2 49 1) → CI d Sh_holds [.ref 51, .int x2, .int x5] I2 J2 (fun v3 I3 J3 => (v3 = 0 → Q (some (.int (-13))) I3 J3) ∧ (¬ (v3 = 0) → CI d Sh_holds [.ref 49, .int x4, .int x5] I3 J3 (fun v4 I4 J4 => (v4 = 0 → Q (some (.int (-13))) I4 J4) ∧ (¬ (v4 = 0) → ¬ (x2 < 0 ∨ x4 < 0 ∨ x5 < 0 ∨ 24 < tN x2 + tN x5 ∨ 24 < tN x4 + tN x5) ∧ (Q (some (.int x5)) I4 (cpJ J4 50 52 (tN x2) (tN x4) (tN x5)))))))) ∧ (¬ ((I2 51 1) = (I2 49 1)) → Q (some (.int (-12))) I2 J2))) ∧ (x3 = 1 → ((I2 51 1) = (I2 51 1) → CI d Sh_holds [.ref 51, .int x2, .int x5] I2 J2 (fun v3 I3 J3 => (v3 = 0 → Q (some (.int (-13))) I3 J3) ∧ (¬ (v3 = 0) → CI d Sh_holds [.ref 51, .int x4, .int x5] I3 J3 (fun v4 I4 J4 => (v4 = 0 → Q (some (.int (-13))) I4 J4) ∧ (¬ (v4 = 0) → ¬ (x2 < 0 ∨ x4 < 0 ∨ x5 < 0 ∨ 24 < tN x2 + tN x5 ∨ 24 < tN x4 + tN x5) ∧ (Q (some (.int x5)) I4 (cpJ J4 52 52 (tN x2) (tN x4) (tN x5)))))))) ∧ (¬ ((I2 51 1) = (I2 51 1)) → Q (some (.int (-12))) I2 J2)) ∧ (x3 = 2 → ((I2 53 0) = 0 → Q (some (.int (-11))) I2 J2) ∧ (¬ ((I2 53 0) = 0) → ((I2 51 1) = (I2 53 1) → CI d Sh_holds [.ref 51, .int x2, .int x5] I2 J2 (fun v3 I3 J3 => (v3 = 0 → Q (some (.int (-13))) I3 J3) ∧ (¬ (v3 = 0) → CI d Sh_holds [.ref 53, .int x4, .int x5] I3 J3 (fun v4 I4 J4 => (v4 = 0 → Q (some (.int (-13))) I4 J4) ∧ (¬ (v4 = 0) → ¬ (x2 < 0 ∨ x4 < 0 ∨ x5 < 0 ∨ 24 < tN x2 + tN x5 ∨ 24 < tN x4 + tN x5) ∧ (Q (some (.int x5)) I4 (cpJ J4 54 52 (tN x2) (tN x4) (tN x5)))))))) ∧ (¬ ((I2 51 1) = (I2 53 1)) → Q (some (.int (-12))) I2 J2))) ∧ (x3 = 3 → ((I2 55 0) = 0 → Q (some (.int (-11))) I2 J2) ∧ (¬ ((I2 55 0) = 0) → ((I2 51 1) = (I2 55 1) → CI d Sh_holds [.ref 51, .int x2, .int x5] I2 J2 (fun v3 I3 J3 => (v3 = 0 → Q (some (.int (-13))) I3 J3) ∧ (¬ (v3 = 0) → CI d Sh_holds [.ref 55, .int x4, .int x5] I3 J3 (fun v4 I4 J4 => (v4 = 0 → Q (some (.int (-13))) I4 J4) ∧ (¬ (v4 = 0) → ¬ (x2 < 0 ∨ x4 < 0 ∨ x5 < 0 ∨ 24 < tN x2 + tN x5 ∨ 24 < tN x4 + tN x5) ∧ (Q (some (.int x5)) I4 (cpJ J4 56 52 (tN x2) (tN x4) (tN x5)))))))) ∧ (¬ ((I2 51 1) = (I2 55 1)) → Q (some (.int (-12))) I2 J2))))) ∧ (x1 = 2 → ((I2 53 0) = 0 → Q (some (.int (-11))) I2 J2) ∧ (¬ ((I2 53 0) = 0) → vp_in x3 4 ∧ (x3 = 0 → ((I2 49 0) = 0 → Q (some (.int (-11))) I2 J2) ∧ (¬ ((I2 49 0) = 0) → ((I2 53 1) = (I2 49 1) → CI d Sh_holds [.ref 53, .int x2, .int x5] I2 J2 (fun v3 I3 J3 => (v3 = 0 → Q (some (.int (-13))) I3 J3) ∧ (¬ (v3 = 0) → CI d Sh_holds [.ref 49, .int x4, .int x5] I3 J3 (fun v4 I4 J4 => (v4 = 0 → Q (some (.int (-13))) I4 J4) ∧ (¬ (v4 = 0) → ¬ (x2 < 0 ∨ x4 < 0 ∨ x5 < 0 ∨ 24 < tN x2 + tN x5 ∨ 24 < tN x4 + tN x5) ∧ (Q (some (.int x5)) I4 (cpJ J4 50 54 (tN x2) (tN x4) (tN x5)))))))) ∧ (¬ ((I2 53 1) = (I2 49 1)) → Q (some (.int (-12))) I2 J2))) ∧ (x3 = 1 → ((I2 51 0) = 0 → Q (some (.int (-11))) I2 J2) ∧ (¬ ((I2 51 0) = 0) → ((I2 53 1) = (I2 51 1) → CI d Sh_holds [.ref 53, .int x2, .int x5] I2 J2 (fun v3 I3 J3 => (v3 = 0 → Q (some (.int (-13))) I3 J3) ∧ (¬ (v3 = 0) → CI d Sh_holds [.ref 51, .int x4, .int x5] I3 J3 (fun v4 I4 J4 => (v4 = 0 → Q (some (.int (-13))) I4 J4) ∧ (¬ (v4 = 0) → ¬ (x2 < 0 ∨ x4 < 0 ∨ x5 < 0 ∨ 24 < tN x2 + tN x5 ∨ 24 < tN x4 + tN x5) ∧ (Q (some (.int x5)) I4 (cpJ J4 52 54 (tN x2) (tN x4) (tN x5)))))))) ∧ (¬ ((I2 53 1) = (I2 51 1)) → Q (some (.int (-12))) I2 J2))) ∧ (x3 = 2 → ((I2 53 1) = (I2 53 1) → CI d Sh_holds [.ref 53, .int x2, .int x5] I2 J2 (fun v3 I3 J3 => (v3 = 0 → Q (some (.int (-13))) I3 J3) ∧ (¬ (v3 = 0) → CI d Sh_holds [.ref 53, .int x4, .int x5] I3 J3 (fun v4 I4 J4 => (v4 = 0 → Q (some (.int (-13))) I4 J4) ∧ (¬ (v4 = 0) → ¬ (x2 < 0 ∨ x4 < 0 ∨ x5 < 0 ∨ 24 < tN x2 + tN x5 ∨ 24 < tN x4 + tN x5) ∧ (Q (some (.int x5)) I4 (cpJ J4 54 54 (tN x2) (tN x4) (tN x5)))))))) ∧ (¬ ((I2 53 1) = (I2 53 1)) → Q (some (.int (-12))) I2 J2)) ∧ (x3 = 3 → ((I2 55 0) = 0 → Q (some (.int (-11))) I2 J2) ∧ (¬ ((I2 55 0) = 0) → ((I2 53 1) = (I2 55 1) → CI d Sh_holds [.ref 53, .int x2, .int x5] I2 J2 (fun v3 I3 J3 => (v3 = 0 → Q (some (.int (-13))) I3 J3) ∧ (¬ (v3 = 0) → CI d Sh_holds [.ref 55, .int x4, .int x5] I3 J3 (fun v4 I4 J4 => (v4 = 0 → Q (some (.int (-13))) I4 J4) ∧ (¬ (v4 = 0) → ¬ (x2 < 0 ∨ x4 < 0 ∨ x5 < 0 ∨ 24 < tN x2 + tN x5 ∨ 24 < tN x4 + tN x5) ∧ (Q (some (.int x5)) I4 (cpJ J4 56 54 (tN x2) (tN x4) (tN x5)))))))) ∧ (¬ ((I2 53 1) = (I2 55 1)) → Q (some (.int (-12))) I2 J2))))) ∧ (x1 = 3 → ((I2 55 0) = 0 → Q (some (.int (-11))) I2 J2) ∧ (¬ ((I2 55 0) = 0) → vp_in x3 4 ∧ (x3 = 0 → ((I2 49 0) = 0 → Q (some (.int (-11))) I2 J2) ∧ (¬ ((I2 49 0) = 0) → ((I2 55 1) = (I2 49 1) → CI d Sh_holds [.ref 55, .int x2, .int x5] I2 J2 (fun v3 I3 J3 => (v3 = 0 → Q (some (.int (-13))) I3 J3) ∧ (¬ (v3 = 0) → CI d Sh_holds [.ref 49, .int x4, .int x5] I3 J3 (fun v4 I4 J4 => (v4 = 0 → Q (some (.int (-13))) I4 J4) ∧ (¬ (v4 = 0) → ¬ (x2 < 0 ∨ x4 < 0 ∨ x5 < 0 ∨ 24 < tN x2 + tN x5 ∨ 24 < tN x4 + tN x5) ∧ (Q (some (.int x5)) I4 (cpJ J4 50 56 (tN x2) (tN x4) (tN x5)))))))) ∧ (¬ ((I2 55 1) = (I2 49 1)) → Q (some (.int (-12))) I2 J2))) ∧ (x3 = 1 → ((I2 51 0) = 0 → Q (some (.int (-11))) I2 J2) ∧ (¬ ((I2 51 0) = 0) → ((I2 55 1) = (I2 51 1) → CI d Sh_holds [.ref 55, .int x2, .int x5] I2 J2 (fun v3 I3 J3 => (v3 = 0 → Q (some (.int (-13))) I3 J3) ∧ (¬ (v3 = 0) → CI d Sh_holds [.ref 51, .int x4, .int x5] I3 J3 (fun v4 I4 J4 => (v4 = 0 → Q (some (.int (-13))) I4 J4) ∧ (¬ (v4 = 0) → ¬ (x2 < 0 ∨ x4 < 0 ∨ x5 < 0 ∨ 24 < tN x2 + tN x5 ∨ 24 < tN x4 + tN x5) ∧ (Q (some (.int x5)) I4 (cpJ J4 52 56 (tN x2) (tN x4) (tN x5)))))))) ∧ (¬ ((I2 55 1) = (I2 51 1)) → Q (some (.int (-12))) I2 J2))) ∧ (x3 = 2 → ((I2 53 0) = 0 → Q (some (.int (-11))) I2 J2) ∧ (¬ ((I2 53 0) = 0) → ((I2 55 1) = (I2 53 1) → CI d Sh_holds [.ref 55, .int x2, .int x5] I2 J2 (fun v3 I3 J3 => (v3 = 0 → Q (some (.int (-13))) I3 J3) ∧ (¬ (v3 = 0) → CI d Sh_holds [.ref 53, .int x4, .int x5] I3 J3 (fun v4 I4 J4 => (v4 = 0 → Q (some (.int (-13))) I4 J4) ∧ (¬ (v4 = 0) → ¬ (x2 < 0 ∨ x4 < 0 ∨ x5 < 0 ∨ 24 < tN x2 + tN x5 ∨ 24 < tN x4 + tN x5) ∧ (Q (some (.int x5)) I4 (cpJ J4 54 56 (tN x2) (tN x4) (tN x5)))))))) ∧ (¬ ((I2 55 1) = (I2 53 1)) → Q (some (.int (-12))) I2 J2))) ∧ (x3 = 3 → ((I2 55 1) = (I2 55 1) → CI d Sh_holds [.ref 55, .int x2, .int x5] I2 J2 (fun v3 I3 J3 => (v3 = 0 → Q (some (.int (-13))) I3 J3) ∧ (¬ (v3 = 0) → CI d Sh_holds [.ref 55, .int x4, .int x5] I3 J3 (fun v4 I4 J4 => (v4 = 0 → Q (some (.int (-13))) I4 J4) ∧ (¬ (v4 = 0) → ¬ (x2 < 0 ∨ x4 < 0 ∨ x5 < 0 ∨ 24 < tN x2 + tN x5 ∨ 24 < tN x4 + tN x5) ∧ (Q (some (.int x5)) I4 (cpJ J4 56 56 (tN x2) (tN x4) (tN x5)))))))) ∧ (¬ ((I2 55 1) = (I2 55 1)) → Q (some (.int (-12))) I2 J2))))))))) : Wp d Sb_copy Q 0 [some (.ref 0), some (.int x1), some (.int x2), some (.int x3), some (.int x4), some (.int x5)] [] I J := by
  refine Wp.steps 1 (pc' := 1) (lv' := [some (.ref 0), some (.int x1), some (.int x2), some (.int x3), some (.int x4), some (.int x5)]) (st' := [.int x1]) (I' := I) (J' := J) rfl ?_
  refine Wp.call (M' := Sb_isSheet) (as := [.int x1]) (rest := []) rfl (CI.use h (fun v1 I1 J1 h => ?_))
  refine Wp.eqs (pc' := 4) (st' := [.int v1]) rfl rfl ?_
  refine Wp.steps 1 (pc' := if v1 = 0 then 14 else 7) (lv' := [some (.ref 0), some (.int x1), some (.int x2), some (.int x3), some (.int x4), some (.int x5)]) (st' := []) (I' := I1) (J' := J1) rfl (Wp.ite (fun h1 => ?_) (fun h1 => ?_))
  · replace h := h.1 h1
    refine Wp.steps 1 (pc' := 15) (lv' := [some (.ref 0), some (.int x1), some (.int x2), some (.int x3), some (.int x4), some (.int x5)]) (st' := [.int (-1)]) (I' := I1) (J' := J1) rfl ?_
    exact Wp.ret rfl h
  · replace h := h.2 h1
    refine Wp.steps 1 (pc' := 8) (lv' := [some (.ref 0), some (.int x1), some (.int x2), some (.int x3), some (.int x4), some (.int x5)]) (st' := [.int x3]) (I' := I1) (J' := J1) rfl ?_
    refine Wp.call (M' := Sb_isSheet) (as := [.int x3]) (rest := []) rfl (CI.use h (fun v2 I2 J2 h => ?_))
    refine Wp.eqs (pc' := 11) (st' := [.int v2]) rfl rfl ?_
    refine Wp.steps 1 (pc' := if v2 = 0 then 14 else 16) (lv' := [some (.ref 0), some (.int x1), some (.int x2), some (.int x3), some (.int x4), some (.int x5)]) (st' := []) (I' := I2) (J' := J2) rfl (Wp.ite (fun h2 => ?_) (fun h2 => ?_))
    · replace h := h.1 h2
      refine Wp.steps 1 (pc' := 15) (lv' := [some (.ref 0), some (.int x1), some (.int x2), some (.int x3), some (.int x4), some (.int x5)]) (st' := [.int (-1)]) (I' := I2) (J' := J2) rfl ?_
      exact Wp.ret rfl h
    · replace h := h.2 h2
      refine Wp.steps 3 (pc' := 21) (lv' := [some (.ref 0), some (.int x1), some (.int x2), some (.int x3), some (.int x4), some (.int x5)]) (st' := [.int x1, .ref 48]) (I' := I2) (J' := J2) rfl ?_
      rcases vp_4 h.1 with g3 | g3 | g3 | g3
      · replace h := h.2.1 g3
        refine Wp.steps 1 (pc' := 22) (lv' := [some (.ref 0), some (.int x1), some (.int x2), some (.int x3), some (.int x4), some (.int x5)]) (st' := [.ref 49]) (I' := I2) (J' := J2) (by rw [g3]; rfl) ?_
        refine Wp.steps 1 (pc' := 25) (lv' := [some (.ref 0), some (.int x1), some (.int x2), some (.int x3), some (.int x4), some (.int x5)]) (st' := [.int (I2 49 0)]) (I' := I2) (J' := J2) rfl ?_
        refine Wp.steps 1 (pc' := if (I2 49 0) = 0 then 40 else 28) (lv' := [some (.ref 0), some (.int x1), some (.int x2), some (.int x3), some (.int x4), some (.int x5)]) (st' := []) (I' := I2) (J' := J2) rfl (Wp.ite (fun h4 => ?_) (fun h4 => ?_))
        · replace h := h.1 h4
          refine Wp.steps 1 (pc' := 42) (lv' := [some (.ref 0), some (.int x1), some (.int x2), some (.int x3), some (.int x4), some (.int x5)]) (st' := [.int (-11)]) (I' := I2) (J' := J2) rfl ?_
          exact Wp.ret rfl h
        · replace h := h.2 h4
          refine Wp.steps 3 (pc' := 33) (lv' := [some (.ref 0), some (.int x1), some (.int x2), some (.int x3), some (.int x4), some (.int x5)]) (st' := [.int x3, .ref 48]) (I' := I2) (J' := J2) rfl ?_
          rcases vp_4 h.1 with g5 | g5 | g5 | g5
          · replace h := h.2.1 g5
            refine Wp.steps 1 (pc' := 34) (lv' := [some (.ref 0), some (.int x1), some (.int x2), some (.int x3), some (.int x4), some (.int x5)]) (st' := [.ref 49]) (I' := I2) (J' := J2) (by rw [g5]; rfl) ?_
            refine Wp.steps 1 (pc' := 37) (lv' := [some (.ref 0), some (.int x1), some (.int x2), some (.int x3), some (.int x4), some (.int x5)]) (st' := [.int (I2 49 0)]) (I' := I2) (J' := J2) rfl ?_
            refine Wp.steps 1 (pc' := if (I2 49 0) = 0 then 40 else 43) (lv' := [some (.ref 0), some (.int x1), some (.int x2), some (.int x3), some (.int x4), some (.int x5)]) (st' := []) (I' := I2) (J' := J2) rfl ?_
            rw [if_neg h4]
            refine Wp.steps 3 (pc' := 48) (lv' := [some (.ref 0), some (.int x1), some (.int x2), some (.int x3), some (.int x4), some (.int x5)]) (st' := [.int x1, .ref 48]) (I' := I2) (J' := J2) rfl ?_
            refine Wp.steps 1 (pc' := 49) (lv' := [some (.ref 0), some (.int x1), some (.int x2), some (.int x3), some (.int x4), some (.int x5)]) (st' := [.ref 49]) (I' := I2) (J' := J2) (by rw [g3]; rfl) ?_
            refine Wp.steps 4 (pc' := 57) (lv' := [some (.ref 0), some (.int x1), some (.int x2), some (.int x3), some (.int x4), some (.int x5)]) (st' := [.int x3, .ref 48, .int (I2 49 1)]) (I' := I2) (J' := J2) rfl ?_
            refine Wp.steps 1 (pc' := 58) (lv' := [some (.ref 0), some (.int x1), some (.int x2), some (.int x3), some (.int x4), some (.int x5)]) (st' := [.ref 49, .int (I2 49 1)]) (I' := I2) (J' := J2) (by rw [g5]; rfl) ?_
            refine Wp.steps 1 (pc' := 61) (lv' := [some (.ref 0), some (.int x1), some (.int x2), some (.int x3), some (.int x4), some (.int x5)]) (st' := [.int (I2 49 1), .int (I2 49 1)]) (I' := I2) (J' := J2) rfl ?_
            refine Wp.steps 1 (pc' := if (I2 49 1) = (I2 49 1) then 67 else 64) (lv' := [some (.ref 0), some (.int x1), some (.int x2), some (.int x3), some (.int x4), some (.int x5)]) (st' := []) (I' := I2) (J' := J2) rfl (Wp.ite (fun h6 => ?_) (fun h6 => ?_))
            · replace h := h.1 h6
              refine Wp.steps 3 (pc' := 72) (lv' := [some (.ref 0), some (.int x1), some (.int x2), some (.int x3), some (.int x4), some (.int x5)]) (st' := [.int x1, .ref 48]) (I' := I2) (J' := J2) rfl ?_
              refine Wp.steps 1 (pc' := 73) (lv' := [some (.ref 0), some (.int x1), some (.int x2), some (.int x3), some (.int x4), some (.int x5)]) (st' := [.ref 49]) (I' := I2) (J' := J2) (by rw [g3]; rfl) ?_
              refine Wp.steps 2 (pc' := 76) (lv' := [some (.ref 0), some (.int x1), some (.int x2), some (.int x3), some (.int x4), some (.int x5)]) (st' := [.int x5, .int x2, .ref 49]) (I' := I2) (J' := J2) rfl ?_
              refine Wp.call (M' := Sh_holds) (as := [.ref 49, .int x2, .int x5]) (rest := []) rfl (CI.use h (fun v3 I3 J3 h => ?_))
              refine Wp.eqs (pc' := 79) (st' := [.int v3]) rfl rfl ?_
              refine Wp.steps 1 (pc' := if v3 = 0 then 98 else 82) (lv' := [some (.ref 0), some (.int x1), some (.int x2), some (.int x3), some (.int x4), some (.int x5)]) (st' := []) (I' := I3) (J' := J3) rfl (Wp.ite (fun h7 => ?_) (fun h7 => ?_))
              · replace h := h.1 h7
                refine Wp.steps 1 (pc' := 100) (lv' := [some (.ref 0), some (.int x1), some (.int x2), some (.int x3), some (.int x4), some (.int x5)]) (st' := [.int (-13)]) (I' := I3) (J' := J3) rfl ?_
                exact Wp.ret rfl h
              · replace h := h.2 h7
                refine Wp.steps 3 (pc' := 87) (lv' := [some (.ref 0), some (.int x1), some (.int x2), some (.int x3), some (.int x4), some (.int x5)]) (st' := [.int x3, .ref 48]) (I' := I3) (J' := J3) rfl ?_
                refine Wp.steps 1 (pc' := 88) (lv' := [some (.ref 0), some (.int x1), some (.int x2), some (.int x3), some (.int x4), some (.int x5)]) (st' := [.ref 49]) (I' := I3) (J' := J3) (by rw [g5]; rfl) ?_
                refine Wp.steps 2 (pc' := 92) (lv' := [some (.ref 0), some (.int x1), some (.int x2), some (.int x3), some (.int x4), some (.int x5)]) (st' := [.int x5, .int x4, .ref 49]) (I' := I3) (J' := J3) rfl ?_
                refine Wp.call (M' := Sh_holds) (as := [.ref 49, .int x4, .int x5]) (rest := []) rfl (CI.use h (fun v4 I4 J4 h => ?_))
                refine Wp.eqs (pc' := 95) (st' := [.int v4]) rfl rfl ?_
                refine Wp.steps 1 (pc' := if v4 = 0 then 98 else 101) (lv' := [some (.ref 0), some (.int x1), some (.int x2), some (.int x3), some (.int x4), some (.int x5)]) (st' := []) (I' := I4) (J' := J4) rfl (Wp.ite (fun h8 => ?_) (fun h8 => ?_))
                · replace h := h.1 h8
                  refine Wp.steps 1 (pc' := 100) (lv' := [some (.ref 0), some (.int x1), some (.int x2), some (.int x3), some (.int x4), some (.int x5)]) (st' := [.int (-13)]) (I' := I4) (J' := J4) rfl ?_
                  exact Wp.ret rfl h
                · replace h := h.2 h8
                  refine Wp.steps 3 (pc' := 106) (lv' := [some (.ref 0), some (.int x1), some (.int x2), some (.int x3), some (.int x4), some (.int x5)]) (st' := [.int x1, .ref 48]) (I' := I4) (J' := J4) rfl ?_
                  refine Wp.steps 1 (pc' := 107) (lv' := [some (.ref 0), some (.int x1), some (.int x2), some (.int x3), some (.int x4), some (.int x5)]) (st' := [.ref 49]) (I' := I4) (J' := J4) (by rw [g3]; rfl) ?_
                  refine Wp.steps 5 (pc' := 116) (lv' := [some (.ref 0), some (.int x1), some (.int x2), some (.int x3), some (.int x4), some (.int x5)]) (st' := [.int x3, .ref 48, .int x2, .ref 50]) (I' := I4) (J' := J4) rfl ?_
                  refine Wp.steps 1 (pc' := 117) (lv' := [some (.ref 0), some (.int x1), some (.int x2), some (.int x3), some (.int x4), some (.int x5)]) (st' := [.ref 49, .int x2, .ref 50]) (I' := I4) (J' := J4) (by rw [g5]; rfl) ?_
                  refine Wp.steps 3 (pc' := 124) (lv' := [some (.ref 0), some (.int x1), some (.int x2), some (.int x3), some (.int x4), some (.int x5)]) (st' := [.int x5, .int x4, .ref 50, .int x2, .ref 50]) (I' := I4) (J' := J4) rfl ?_
                  refine Wp.copyJ rfl rfl rfl rfl rfl h.1 ?_
                  replace h := h.2
                  refine Wp.steps 1 (pc' := 129) (lv' := [some (.ref 0), some (.int x1), some (.int x2), some (.int x3), some (.int x4), some (.int x5)]) (st' := [.int x5]) (I' := I4) (J' := (cpJ J4 50 50 (tN x2) (tN x4) (tN x5))) rfl ?_
                  exact Wp.ret rfl h
            · replace h := h.2 h6
              refine Wp.steps 1 (pc' := 66) (lv' := [some (.ref 0), some (.int x1), some (.int x2), some (.int x3), some (.int x4), some (.int x5)]) (st' := [.int (-12)]) (I' := I2) (J' := J2) rfl ?_
              exact Wp.ret rfl h
          · replace h := h.2.2.1 g5
            refine Wp.steps 1 (pc' := 34) (lv' := [some (.ref 0), some (.int x1), some (.int x2), some (.int x3), some (.int x4), some (.int x5)]) (st' := [.ref 51]) (I' := I2) (J' := J2) (by rw [g5]; rfl) ?_
            refine Wp.steps 1 (pc' := 37) (lv' := [some (.ref 0), some (.int x1), some (.int x2), some (.int x3), some (.int x4), some (.int x5)]) (st' := [.int (I2 51 0)]) (I' := I2) (J' := J2) rfl ?_
            refine Wp.steps 1 (pc' := if (I2 51 0) = 0 then 40 else 43) (lv' := [some (.ref 0), some (.int x1), some (.int x2), some (.int x3), some (.int x4), some (.int x5)]) (st' := []) (I' := I2) (J' := J2) rfl (Wp.ite (fun h6 => ?_) (fun h6 => ?_))
            · replace h := h.1 h6
              refine Wp.steps 1 (pc' := 42) (lv' := [some (.ref 0), some (.int x1), some (.int x2), some (.int x3), some (.int x4), some (.int x5)]) (st' := [.int (-11)]) (I' := I2) (J' := J2) rfl ?_
              exact Wp.ret rfl h
            · replace h := h.2 h6
              refine Wp.steps 3 (pc' := 48) (lv' := [some (.ref 0), some (.int x1), some (.int x2), some (.int x3), some (.int x4), some (.int x5)]) (st' := [.int x1, .ref 48]) (I' := I2) (J' := J2) rfl ?_
              refine Wp.steps 1 (pc' := 49) (lv' := [some (.ref 0), some (.int x1), some (.int x2), some (.int x3), some (.int x4), some (.int x5)]) (st' := [.ref 49]) (I' := I2) (J' := J2) (by rw [g3]; rfl) ?_
              refine Wp.steps 4 (pc' := 57) (lv' := [some (.ref 0), some (.int x1), some (.int x2), some (.int x3), some (.int x4), some (.int x5)]) (st' := [.int x3, .ref 48, .int (I2 49 1)]) (I' := I2) (J' := J2) rfl ?_
              refine Wp.steps 1 (pc' := 58) (lv' := [some (.ref 0), some (.int x1), some (.int x2), some (.int x3), some (.int x4), some (.int x5)]) (st' := [.ref 51, .int (I2 49 1)]) (I' := I2) (J' := J2) (by rw [g5]; rfl) ?_
              refine Wp.steps 1 (pc' := 61) (lv' := [some (.ref 0), some (.int x1), some (.int x2), some (.int x3), some (.int x4), some (.int x5)]) (st' := [.int (I2 51 1), .int (I2 49 1)]) (I' := I2) (J' := J2) rfl ?_
              refine Wp.steps 1 (pc' := if (I2 49 1) = (I2 51 1) then 67 else 64) (lv' := [some (.ref 0), some (.int x1), some (.int x2), some (.int x3), some (.int x4), some (.int x5)]) (st' := []) (I' := I2) (J' := J2) rfl (Wp.ite (fun h7 => ?_) (fun h7 => ?_))
              · replace h := h.1 h7
                refine Wp.steps 3 (pc' := 72) (lv' := [some (.ref 0), some (.int x1), some (.int x2), some (.int x3), some (.int x4), some (.int x5)]) (st' := [.int x1, .ref 48]) (I' := I2) (J' := J2) rfl ?_
                refine Wp.steps 1 (pc' := 73) (lv' := [some (.ref 0), some (.int x1), some (.int x2), some (.int x3), some (.int x4), some (.int x5)]) (st' := [.ref 49]) (I' := I2) (J' := J2) (by rw [g3]; rfl) ?_
                refine Wp.steps 2 (pc' := 76) (lv' := [some (.ref 0), some (.int x1), some (.int x2), some (.int x3), some (.int x4), some (.int x5)]) (st' := [.int x5, .int x2, .ref 49]) (I' := I2) (J' := J2) rfl ?_
                refine Wp.call (M' := Sh_holds) (as := [.ref 49, .int x2, .int x5]) (rest := []) rfl (CI.use h (fun v3 I3 J3 h => ?_))
                refine Wp.eqs (pc' := 79) (st' := [.int v3]) rfl rfl ?_
                refine Wp.steps 1 (pc' := if v3 = 0 then 98 else 82) (lv' := [some (.ref 0), some (.int x1), some (.int x2), some (.int x3), some (.int x4), some (.int x5)]) (st' := []) (I' := I3) (J' := J3) rfl (Wp.ite (fun h8 => ?_) (fun h8 => ?_))
                · replace h := h.1 h8
                  refine Wp.steps 1 (pc' := 100) (lv' := [some (.ref 0), some (.int x1), some (.int x2), some (.int x3), some (.int x4), some (.int x5)]) (st' := [.int (-13)]) (I' := I3) (J' := J3) rfl ?_
                  exact Wp.ret rfl h
                · replace h := h.2 h8
                  refine Wp.steps 3 (pc' := 87) (lv' := [some (.ref 0), some (.int x1), some (.int x2), some (.int x3), some (.int x4), some (.int x5)]) (st' := [.int x3, .ref 48]) (I' := I3) (J' := J3) rfl ?_
                  refine Wp.steps 1 (pc' := 88) (lv' := [some (.ref 0), some (.int x1), some (.int x2), some (.int x3), some (.int x4), some (.int x5)]) (st' := [.ref 51]) (I' := I3) (J' := J3) (by rw [g5]; rfl) ?_
                  refine Wp.steps 2 (pc' := 92) (lv' := [some (.ref 0), some (.int x1), some (.int x2), some (.int x3), some (.int x4), some (.int x5)]) (st' := [.int x5, .int x4, .ref 51]) (I' := I3) (J' := J3) rfl ?_
                  refine Wp.call (M' := Sh_holds) (as := [.ref 51, .int x4, .int x5]) (rest := []) rfl (CI.use h (fun v4 I4 J4 h => ?_))
                  refine Wp.eqs (pc' := 95) (st' := [.int v4]) rfl rfl ?_
                  refine Wp.steps 1 (pc' := if v4 = 0 then 98 else 101) (lv' := [some (.ref 0), some (.int x1), some (.int x2), some (.int x3), some (.int x4), some (.int x5)]) (st' := []) (I' := I4) (J' := J4) rfl (Wp.ite (fun h9 => ?_) (fun h9 => ?_))
                  · replace h := h.1 h9
                    refine Wp.steps 1 (pc' := 100) (lv' := [some (.ref 0), some (.int x1), some (.int x2), some (.int x3), some (.int x4), some (.int x5)]) (st' := [.int (-13)]) (I' := I4) (J' := J4) rfl ?_
                    exact Wp.ret rfl h
                  · replace h := h.2 h9
                    refine Wp.steps 3 (pc' := 106) (lv' := [some (.ref 0), some (.int x1), some (.int x2), some (.int x3), some (.int x4), some (.int x5)]) (st' := [.int x1, .ref 48]) (I' := I4) (J' := J4) rfl ?_
                    refine Wp.steps 1 (pc' := 107) (lv' := [some (.ref 0), some (.int x1), some (.int x2), some (.int x3), some (.int x4), some (.int x5)]) (st' := [.ref 49]) (I' := I4) (J' := J4) (by rw [g3]; rfl) ?_
                    refine Wp.steps 5 (pc' := 116) (lv' := [some (.ref 0), some (.int x1), some (.int x2), some (.int x3), some (.int x4), some (.int x5)]) (st' := [.int x3, .ref 48, .int x2, .ref 50]) (I' := I4) (J' := J4) rfl ?_
                    refine Wp.steps 1 (pc' := 117) (lv' := [some (.ref 0), some (.int x1), some (.int x2), some (.int x3), some (.int x4), some (.int x5)]) (st' := [.ref 51, .int x2, .ref 50]) (I' := I4) (J' := J4) (by rw [g5]; rfl) ?_
                    refine Wp.steps 3 (pc' := 124) (lv' := [some (.ref 0), some (.int x1), some (.int x2), some (.int x3), some (.int x4), some (.int x5)]) (st' := [.int x5, .int x4, .ref 52, .int x2, .ref 50]) (I' := I4) (J' := J4) rfl ?_
                    refine Wp.copyJ rfl rfl rfl rfl rfl h.1 ?_
                    replace h := h.2
                    refine Wp.steps 1 (pc' := 129) (lv' := [some (.ref 0), some (.int x1), some (.int x2), some (.int x3), some (.int x4), some (.int x5)]) (st' := [.int x5]) (I' := I4) (J' := (cpJ J4 52 50 (tN x2) (tN x4) (tN x5))) rfl ?_
                    exact Wp.ret rfl h
              · replace h := h.2 h7
                refine Wp.steps 1 (pc' := 66) (lv' := [some (.ref 0), some (.int x1), some (.int x2), some (.int x3), some (.int x4), some (.int x5)]) (st' := [.int (-12)]) (I' := I2) (J' := J2) rfl ?_
                exact Wp.ret rfl h
          · replace h := h.2.2.2.1 g5
            refine Wp.steps 1 (pc' := 34) (lv' := [some (.ref 0), some (.int x1), some (.int x2), some (.int x3), some (.int x4), some (.int x5)]) (st' := [.ref 53]) (I' := I2) (J' := J2) (by rw [g5]; rfl) ?_
            refine Wp.steps 1 (pc' := 37) (lv' := [some (.ref 0), some (.int x1), some (.int x2), some (.int x3), some (.int x4), some (.int x5)]) (st' := [.int (I2 53 0)]) (I' := I2) (J' := J2) rfl ?_
            refine Wp.steps 1 (pc' := if (I2 53 0) = 0 then 40 else 43) (lv' := [some (.ref 0), some (.int x1), some (.int x2), some (.int x3), some (.int x4), some (.int x5)]) (st' := []) (I' := I2) (J' := J2) rfl (Wp.ite (fun h6 => ?_) (fun h6 => ?_))
            · replace h := h.1 h6
              refine Wp.steps 1 (pc' := 42) (lv' := [some (.ref 0), some (.int x1), some (.int x2), some (.int x3), some (.int x4), some (.int x5)]) (st' := [.int (-11)]) (I' := I2) (J' := J2) rfl ?_
              exact Wp.ret rfl h
            · replace h := h.2 h6
              refine Wp.steps 3 (pc' := 48) (lv' := [some (.ref 0), some (.int x1), some (.int x2), some (.int x3), some (.int x4), some (.int x5)]) (st' := [.int x1, .ref 48]) (I' := I2) (J' := J2) rfl ?_
              refine Wp.steps 1 (pc' := 49) (lv' := [some (.ref 0), some (.int x1), some (.int x2), some (.int x3), some (.int x4), some (.int x5)]) (st' := [.ref 49]) (I' := I2) (J' := J2) (by rw [g3]; rfl) ?_
              refine Wp.steps 4 (pc' := 57) (lv' := [some (.ref 0), some (.int x1), some (.int x2), some (.int x3), some (.int x4), some (.int x5)]) (st' := [.int x3, .ref 48, .int (I2 49 1)]) (I' := I2) (J' := J2) rfl ?_
              refine Wp.steps 1 (pc' := 58) (lv' := [some (.ref 0), some (.int x1), some (.int x2), some (.int x3), some (.int x4), some (.int x5)]) (st' := [.ref 53, .int (I2 49 1)]) (I' := I2) (J' := J2) (by rw [g5]; rfl) ?_
              refine Wp.steps 1 (pc' := 61) (lv' := [some (.ref 0), some (.int x1), some (.int x2), some (.int x3), some (.int x4), some (.int x5)]) (st' := [.int (I2 53 1), .int (I2 49 1)]) (I' := I2) (J' := J2) rfl ?_
              refine Wp.steps 1 (pc' := if (I2 49 1) = (I2 53 1) then 67 else 64) (lv' := [some (.ref 0), some (.int x1), some (.int x2), some (.int x3), some (.int x4), some (.int x5)]) (st' := []) (I' := I2) (J' := J2) rfl (Wp.ite (fun h7 => ?_) (fun h7 => ?_))
              · replace h := h.1 h7
                refine Wp.steps 3 (pc' := 72) (lv' := [some (.ref 0), some (.int x1), some (.int x2), some (.int x3), some (.int x4), some (.int x5)]) (st' := [.int x1, .ref 48]) (I' := I2) (J' := J2) rfl ?_
                refine Wp.steps 1 (pc' := 73) (lv' := [some (.ref 0), some (.int x1), some (.int x2), some (.int x3), some (.int x4), some (.int x5)]) (st' := [.ref 49]) (I' := I2) (J' := J2) (by rw [g3]; rfl) ?_
                refine Wp.steps 2 (pc' := 76) (lv' := [some (.ref 0), some (.int x1), some (.int x2), some (.int x3), some (.int x4), some (.int x5)]) (st' := [.int x5, .int x2, .ref 49]) (I' := I2) (J' := J2) rfl ?_
                refine Wp.call (M' := Sh_holds) (as := [.ref 49, .int x2, .int x5]) (rest := []) rfl (CI.use h (fun v3 I3 J3 h => ?_))
                refine Wp.eqs (pc' := 79) (st' := [.int v3]) rfl rfl ?_
                refine Wp.steps 1 (pc' := if v3 = 0 then 98 else 82) (lv' := [some (.ref 0), some (.int x1), some (.int x2), some (.int x3), some (.int x4), some (.int x5)]) (st' := []) (I' := I3) (J' := J3) rfl (Wp.ite (fun h8 => ?_) (fun h8 => ?_))
                · replace h := h.1 h8
                  refine Wp.steps 1 (pc' := 100) (lv' := [some (.ref 0), some (.int x1), some (.int x2), some (.int x3), some (.int x4), some (.int x5)]) (st' := [.int (-13)]) (I' := I3) (J' := J3) rfl ?_
                  exact Wp.ret rfl h
                · replace h := h.2 h8
                  refine Wp.steps 3 (pc' := 87) (lv' := [some (.ref 0), some (.int x1), some (.int x2), some (.int x3), some (.int x4), some (.int x5)]) (st' := [.int x3, .ref 48]) (I' := I3) (J' := J3) rfl ?_
                  refine Wp.steps 1 (pc' := 88) (lv' := [some (.ref 0), some (.int x1), some (.int x2), some (.int x3), some (.int x4), some (.int x5)]) (st' := [.ref 53]) (I' := I3) (J' := J3) (by rw [g5]; rfl) ?_
                  refine Wp.steps 2 (pc' := 92) (lv' := [some (.ref 0), some (.int x1), some (.int x2), some (.int x3), some (.int x4), some (.int x5)]) (st' := [.int x5, .int x4, .ref 53]) (I' := I3) (J' := J3) rfl ?_
                  refine Wp.call (M' := Sh_holds) (as := [.ref 53, .int x4, .int x5]) (rest := []) rfl (CI.use h (fun v4 I4 J4 h => ?_))
                  refine Wp.eqs (pc' := 95) (st' := [.int v4]) rfl rfl ?_
                  refine Wp.steps 1 (pc' := if v4 = 0 then 98 else 101) (lv' := [some (.ref 0), some (.int x1), some (.int x2), some (.int x3), some (.int x4), some (.int x5)]) (st' := []) (I' := I4) (J' := J4) rfl (Wp.ite (fun h9 => ?_) (fun h9 => ?_))
                  · replace h := h.1 h9
                    refine Wp.steps 1 (pc' := 100) (lv' := [some (.ref 0), some (.int x1), some (.int x2), some (.int x3), some (.int x4), some (.int x5)]) (st' := [.int (-13)]) (I' := I4) (J' := J4) rfl ?_
                    exact Wp.ret rfl h
                  · replace h := h.2 h9
                    refine Wp.steps 3 (pc' := 106) (lv' := [some (.ref 0), some (.int x1), some (.int x2), some (.int x3), some (.int x4), some (.int x5)]) (st' := [.int x1, .ref 48]) (I' := I4) (J' := J4) rfl ?_
                    refine Wp.steps 1 (pc' := 107) (lv' := [some (.ref 0), some (.int x1), some (.int x2), some (.int x3), some (.int x4), some (.int x5)]) (st' := [.ref 49]) (I' := I4) (J' := J4) (by rw [g3]; rfl) ?_
                    refine Wp.steps 5 (pc' := 116) (lv' := [some (.ref 0), some (.int x1), some (.int x2), some (.int x3), some (.int x4), some (.int x5)]) (st' := [.int x3, .ref 48, .int x2, .ref 50]) (I' := I4) (J' := J4) rfl ?_
                    refine Wp.steps 1 (pc' := 117) (lv' := [some (.ref 0), some (.int x1), some (.int x2), some (.int x3), some (.int x4), some (.int x5)]) (st' := [.ref 53, .int x2, .ref 50]) (I' := I4) (J' := J4) (by rw [g5]; rfl) ?_
                    refine Wp.steps 3 (pc' := 124) (lv' := [some (.ref 0), some (.int x1), some (.int x2), some (.int x3), some (.int x4), some (.int x5)]) (st' := [.int x5, .int x4, .ref 54, .int x2, .ref 50]) (I' := I4) (J' := J4) rfl ?_
                    refine Wp.copyJ rfl rfl rfl rfl rfl h.1 ?_
                    replace h := h.2
                    refine Wp.steps 1 (pc' := 129) (lv' := [some (.ref 0), some (.int x1), some (.int x2), some (.int x3), some (.int x4), some (.int x5)]) (st' := [.int x5]) (I' := I4) (J' := (cpJ J4 54 50 (tN x2) (tN x4) (tN x5))) rfl ?_
                    exact Wp.ret rfl h
              · replace h := h.2 h7
                refine Wp.steps 1 (pc' := 66) (lv' := [some (.ref 0), some (.int x1), some (.int x2), some (.int x3), some (.int x4), some (.int x5)]) (st' := [.int (-12)]) (I' := I2) (J' := J2) rfl ?_
                exact Wp.ret rfl h
          · replace h := h.2.2.2.2 g5
            refine Wp.steps 1 (pc' := 34) (lv' := [some (.ref 0), some (.int x1), some (.int x2), some (.int x3), some (.int x4), some (.int x5)]) (st' := [.ref 55]) (I' := I2) (J' := J2) (by rw [g5]; rfl) ?_
            refine Wp.steps 1 (pc' := 37) (lv' := [some (.ref 0), some (.int x1), some (.int x2), some (.int x3), some (.int x4), some (.int x5)]) (st' := [.int (I2 55 0)]) (I' := I2) (J' := J2) rfl ?_
            refine Wp.steps 1 (pc' := if (I2 55 0) = 0 then 40 else 43) (lv' := [some (.ref 0), some (.int x1), some (.int x2), some (.int x3), some (.int x4), some (.int x5)]) (st' := []) (I' := I2) (J' := J2) rfl (Wp.ite (fun h6 => ?_) (fun h6 => ?_))
            · replace h := h.1 h6
              refine Wp.steps 1 (pc' := 42) (lv' := [some (.ref 0), some (.int x1), some (.int x2), some (.int x3), some (.int x4), some (.int x5)]) (st' := [.int (-11)]) (I' := I2) (J' := J2) rfl ?_
              exact Wp.ret rfl h
            · replace h := h.2 h6
              refine Wp.steps 3 (pc' := 48) (lv' := [some (.ref 0), some (.int x1), some (.int x2), some (.int x3), some (.int x4), some (.int x5)]) (st' := [.int x1, .ref 48]) (I' := I2) (J' := J2) rfl ?_
              refine Wp.steps 1 (pc' := 49) (lv' := [some (.ref 0), some (.int x1), some (.int x2), some (.int x3), some (.int x4), some (.int x5)]) (st' := [.ref 49]) (I' := I2) (J' := J2) (by rw [g3]; rfl) ?_
              refine Wp.steps 4 (pc' := 57) (lv' := [some (.ref 0), some (.int x1), some (.int x2), some (.int x3), some (.int x4), some (.int x5)]) (st' := [.int x3, .ref 48, .int (I2 49 1)]) (I' := I2) (J' := J2) rfl ?_
              refine Wp.steps 1 (pc' := 58) (lv' := [some (.ref 0), some (.int x1), some (.int x2), some (.int x3), some (.int x4), some (.int x5)]) (st' := [.ref 55, .int (I2 49 1)]) (I' := I2) (J' := J2) (by rw [g5]; rfl) ?_
              refine Wp.steps 1 (pc' := 61) (lv' := [some (.ref 0), some (.int x1), some (.int x2), some (.int x3), some (.int x4), some (.int x5)]) (st' := [.int (I2 55 1), .int (I2 49 1)]) (I' := I2) (J' := J2) rfl ?_
              refine Wp.steps 1 (pc' := if (I2 49 1) = (I2 55 1) then 67 else 64) (lv' := [some (.ref 0), some (.int x1), some (.int x2), some (.int x3), some (.int x4), some (.int x5)]) (st' := []) (I' := I2) (J' := J2) rfl (Wp.ite (fun h7 => ?_) (fun h7 => ?_))
              · replace h := h.1 h7
                refine Wp.steps 3 (pc' := 72) (lv' := [some (.ref 0), some (.int x1), some (.int x2), some (.int x3), some (.int x4), some (.int x5)]) (st' := [.int x1, .ref 48]) (I' := I2) (J' := J2) rfl ?_
                refine Wp.steps 1 (pc' := 73) (lv' := [some (.ref 0), some (.int x1), some (.int x2), some (.int x3), some (.int x4), some (.int x5)]) (st' := [.ref 49]) (I' := I2) (J' := J2) (by rw [g3]; rfl) ?_
                refine Wp.steps 2 (pc' := 76) (lv' := [some (.ref 0), some (.int x1), some (.int x2), some (.int x3), some (.int x4), some (.int x5)]) (st' := [.int x5, .int x2, .ref 49]) (I' := I2) (J' := J2) rfl ?_
                refine Wp.call (M' := Sh_holds) (as := [.ref 49, .int x2, .int x5]) (rest := []) rfl (CI.use h (fun v3 I3 J3 h => ?_))
                refine Wp.eqs (pc' := 79) (st' := [.int v3]) rfl rfl ?_
                refine Wp.steps 1 (pc' := if v3 = 0 then 98 else 82) (lv' := [some (.ref 0), some (.int x1), some (.int x2), some (.int x3), some (.int x4), some (.int x5)]) (st' := []) (I' := I3) (J' := J3) rfl (Wp.ite (fun h8 => ?_) (fun h8 => ?_))
                · replace h := h.1 h8
                  refine Wp.steps 1 (pc' := 100) (lv' := [some (.ref 0), some (.int x1), some (.int x2), some (.int x3), some (.int x4), some (.int x5)]) (st' := [.int (-13)]) (I' := I3) (J' := J3) rfl ?_
                  exact Wp.ret rfl h
                · replace h := h.2 h8
                  refine Wp.steps 3 (pc' := 87) (lv' := [some (.ref 0), some (.int x1), some (.int x2), some (.int x3), some (.int x4), some (.int x5)]) (st' := [.int x3, .ref 48]) (I' := I3) (J' := J3) rfl ?_
                  refine Wp.steps 1 (pc' := 88) (lv' := [some (.ref 0), some (.int x1), some (.int x2), some (.int x3), some (.int x4), some (.int x5)]) (st' := [.ref 55]) (I' := I3) (J' := J3) (by rw [g5]; rfl) ?_
                  refine Wp.steps 2 (pc' := 92) (lv' := [some (.ref 0), some (.int x1), some (.int x2), some (.int x3), some (.int x4), some (.int x5)]) (st' := [.int x5, .int x4, .ref 55]) (I' := I3) (J' := J3) rfl ?_
                  refine Wp.call (M' := Sh_holds) (as := [.ref 55, .int x4, .int x5]) (rest := []) rfl (CI.use h (fun v4 I4 J4 h => ?_))
                  refine Wp.eqs (pc' := 95) (st' := [.int v4]) rfl rfl ?_
                  refine Wp.steps 1 (pc' := if v4 = 0 then 98 else 101) (lv' := [some (.ref 0), some (.int x1), some (.int x2), some (.int x3), some (.int x4), some (.int x5)]) (st' := []) (I' := I4) (J' := J4) rfl (Wp.ite (fun h9 => ?_) (fun h9 => ?_))
                  · replace h := h.1 h9
                    refine Wp.steps 1 (pc' := 100) (lv' := [some (.ref 0), some (.int x1), some (.int x2), some (.int x3), some (.int x4), some (.int x5)]) (st' := [.int (-13)]) (I' := I4) (J' := J4) rfl ?_
                    exact Wp.ret rfl h
                  · replace h := h.2 h9
                    refine Wp.steps 3 (pc' := 106) (lv' := [some (.ref 0), some (.int x1), some (.int x2), some (.int x3), some (.int x4), some (.int x5)]) (st' := [.int x1, .ref 48]) (I' := I4) (J' := J4) rfl ?_
                    refine Wp.steps 1 (pc' := 107) (lv' := [some (.ref 0), some (.int x1), some (.int x2), some (.int x3), some (.int x4), some (.int x5)]) (st' := [.ref 49]) (I' := I4) (J' := J4) (by rw [g3]; rfl) ?_
                    refine Wp.steps 5 (pc' := 116) (lv' := [some (.ref 0), some (.int x1), some (.int x2), some (.int x3), some (.int x4), some (.int x5)]) (st' := [.int x3, .ref 48, .int x2, .ref 50]) (I' := I4) (J' := J4) rfl ?_
                    refine Wp.steps 1 (pc' := 117) (lv' := [some (.ref 0), some (.int x1), some (.int x2), some (.int x3), some (.int x4), some (.int x5)]) (st' := [.ref 55, .int x2, .ref 50]) (I' := I4) (J' := J4) (by rw [g5]; rfl) ?_
                    refine Wp.steps 3 (pc' := 124) (lv' := [some (.ref 0), some (.int x1), some (.int x2), some (.int x3), some (.int x4), some (.int x5)]) (st' := [.int x5, .int x4, .ref 56, .int x2, .ref 50]) (I' := I4) (J' := J4) rfl ?_
                    refine Wp.copyJ rfl rfl rfl rfl rfl h.1 ?_
                    replace h := h.2
                    refine Wp.steps 1 (pc' := 129) (lv' := [some (.ref 0), some (.int x1), some (.int x2), some (.int x3), some (.int x4), some (.int x5)]) (st' := [.int x5]) (I' := I4) (J' := (cpJ J4 56 50 (tN x2) (tN x4) (tN x5))) rfl ?_
                    exact Wp.ret rfl h
              · replace h := h.2 h7
                refine Wp.steps 1 (pc' := 66) (lv' := [some (.ref 0), some (.int x1), some (.int x2), some (.int x3), some (.int x4), some (.int x5)]) (st' := [.int (-12)]) (I' := I2) (J' := J2) rfl ?_
                exact Wp.ret rfl h
      · replace h := h.2.2.1 g3
        refine Wp.steps 1 (pc' := 22) (lv' := [some (.ref 0), some (.int x1), some (.int x2), some (.int x3), some (.int x4), some (.int x5)]) (st' := [.ref 51]) (I' := I2) (J' := J2) (by rw [g3]; rfl) ?_
        refine Wp.steps 1 (pc' := 25) (lv' := [some (.ref 0), some (.int x1), some (.int x2), some (.int x3), some (.int x4), some (.int x5)]) (st' := [.int (I2 51 0)]) (I' := I2) (J' := J2) rfl ?_
        refine Wp.steps 1 (pc' := if (I2 51 0) = 0 then 40 else 28) (lv' := [some (.ref 0), some (.int x1), some (.int x2), some (.int x3), some (.int x4), some (.int x5)]) (st' := []) (I' := I2) (J' := J2) rfl (Wp.ite (fun h4 => ?_) (fun h4 => ?_))
        · replace h := h.1 h4
          refine Wp.steps 1 (pc' := 42) (lv' := [some (.ref 0), some (.int x1), some (.int x2), some (.int x3), some (.int x4), some (.int x5)]) (st' := [.int (-11)]) (I' := I2) (J' := J2) rfl ?_
          exact Wp.ret rfl h
        · replace h := h.2 h4
          refine Wp.steps 3 (pc' := 33) (lv' := [some (.ref 0), some (.int x1), some (.int x2), some (.int x3), some (.int x4), some (.int x5)]) (st' := [.int x3, .ref 48]) (I' := I2) (J' := J2) rfl ?_
          rcases vp_4 h.1 with g5 | g5 | g5 | g5
          · replace h := h.2.1 g5
            refine Wp.steps 1 (pc' := 34) (lv' := [some (.ref 0), some (.int x1), some (.int x2), some (.int x3), some (.int x4), some (.int x5)]) (st' := [.ref 49]) (I' := I2) (J' := J2) (by rw [g5]; rfl) ?_
            refine Wp.steps 1 (pc' := 37) (lv' := [some (.ref 0), some (.int x1), some (.int x2), some (.int x3), some (.int x4), some (.int x5)]) (st' := [.int (I2 49 0)]) (I' := I2) (J' := J2) rfl ?_
            refine Wp.steps 1 (pc' := if (I2 49 0) = 0 then 40 else 43) (lv' := [some (.ref 0), some (.int x1), some (.int x2), some (.int x3), some (.int x4), some (.int x5)]) (st' := []) (I' := I2) (J' := J2) rfl (Wp.ite (fun h6 => ?_) (fun h6 => ?_))
            · replace h := h.1 h6
              refine Wp.steps 1 (pc' := 42) (lv' := [some (.ref 0), some (.int x1), some (.int x2), some (.int x3), some (.int x4), some (.int x5)]) (st' := [.int (-11)]) (I' := I2) (J' := J2) rfl ?_
              exact Wp.ret rfl h
            · replace h := h.2 h6
              refine Wp.steps 3 (pc' := 48) (lv' := [some (.ref 0), some (.int x1), some (.int x2), some (.int x3), some (.int x4), some (.int x5)]) (st' := [.int x1, .ref 48]) (I' := I2) (J' := J2) rfl ?_
              refine Wp.steps 1 (pc' := 49) (lv' := [some (.ref 0), some (.int x1), some (.int x2), some (.int x3), some (.int x4), some (.int x5)]) (st' := [.ref 51]) (I' := I2) (J' := J2) (by rw [g3]; rfl) ?_
              refine Wp.steps 4 (pc' := 57) (lv' := [some (.ref 0), some (.int x1), some (.int x2), some (.int x3), some (.int x4), some (.int x5)]) (st' := [.int x3, .ref 48, .int (I2 51 1)]) (I' := I2) (J' := J2) rfl ?_
              refine Wp.steps 1 (pc' := 58) (lv' := [some (.ref 0), some (.int x1), some (.int x2), some (.int x3), some (.int x4), some (.int x5)]) (st' := [.ref 49, .int (I2 51 1)]) (I' := I2) (J' := J2) (by rw [g5]; rfl) ?_
              refine Wp.steps 1 (pc' := 61) (lv' := [some (.ref 0), some (.int x1), some (.int x2), some (.int x3), some (.int x4), some (.int x5)]) (st' := [.int (I2 49 1), .int (I2 51 1)]) (I' := I2) (J' := J2) rfl ?_
              refine Wp.steps 1 (pc' := if (I2 51 1) = (I2 49 1) then 67 else 64) (lv' := [some (.ref 0), some (.int x1), some (.int x2), some (.int x3), some (.int x4), some (.int x5)]) (st' := []) (I' := I2) (J' := J2) rfl (Wp.ite (fun h7 => ?_) (fun h7 => ?_))
              · replace h := h.1 h7
                refine Wp.steps 3 (pc' := 72) (lv' := [some (.ref 0), some (.int x1), some (.int x2), some (.int x3), some (.int x4), some (.int x5)]) (st' := [.int x1, .ref 48]) (I' := I2) (J' := J2) rfl ?_
                refine Wp.steps 1 (pc' := 73) (lv' := [some (.ref 0), some (.int x1), some (.int x2), some (.int x3), some (.int x4), some (.int x5)]) (st' := [.ref 51]) (I' := I2) (J' := J2) (by rw [g3]; rfl) ?_
                refine Wp.steps 2 (pc' := 76) (lv' := [some (.ref 0), some (.int x1), some (.int x2), some (.int x3), some (.int x4), some (.int x5)]) (st' := [.int x5, .int x2, .ref 51]) (I' := I2) (J' := J2) rfl ?_
                refine Wp.call (M' := Sh_holds) (as := [.ref 51, .int x2, .int x5]) (rest := []) rfl (CI.use h (fun v3 I3 J3 h => ?_))
                refine Wp.eqs (pc' := 79) (st' := [.int v3]) rfl rfl ?_
                refine Wp.steps 1 (pc' := if v3 = 0 then 98 else 82) (lv' := [some (.ref 0), some (.int x1), some (.int x2), some (.int x3), some (.int x4), some (.int x5)]) (st' := []) (I' := I3) (J' := J3) rfl (Wp.ite (fun h8 => ?_) (fun h8 => ?_))
                · replace h := h.1 h8
                  refine Wp.steps 1 (pc' := 100) (lv' := [some (.ref 0), some (.int x1), some (.int x2), some (.int x3), some (.int x4), some (.int x5)]) (st' := [.int (-13)]) (I' := I3) (J' := J3) rfl ?_
                  exact Wp.ret rfl h
                · replace h := h.2 h8
                  refine Wp.steps 3 (pc' := 87) (lv' := [some (.ref 0), some (.int x1), some (.int x2), some (.int x3), some (.int x4), some (.int x5)]) (st' := [.int x3, .ref 48]) (I' := I3) (J' := J3) rfl ?_
                  refine Wp.steps 1 (pc' := 88) (lv' := [some (.ref 0), some (.int x1), some (.int x2), some (.int x3), some (.int x4), some (.int x5)]) (st' := [.ref 49]) (I' := I3) (J' := J3) (by rw [g5]; rfl) ?_
                  refine Wp.steps 2 (pc' := 92) (lv' := [some (.ref 0), some (.int x1), some (.int x2), some (.int x3), some (.int x4), some (.int x5)]) (st' := [.int x5, .int x4, .ref 49]) (I' := I3) (J' := J3) rfl ?_
                  refine Wp.call (M' := Sh_holds) (as := [.ref 49, .int x4, .int x5]) (rest := []) rfl (CI.use h (fun v4 I4 J4 h => ?_))
                  refine Wp.eqs (pc' := 95) (st' := [.int v4]) rfl rfl ?_
                  refine Wp.steps 1 (pc' := if v4 = 0 then 98 else 101) (lv' := [some (.ref 0), some (.int x1), some (.int x2), some (.int x3), some (.int x4), some (.int x5)]) (st' := []) (I' := I4) (J' := J4) rfl (Wp.ite (fun h9 => ?_) (fun h9 => ?_))
                  · replace h := h.1 h9
                    refine Wp.steps 1 (pc' := 100) (lv' := [some (.ref 0), some (.int x1), some (.int x2), some (.int x3), some (.int x4), some (.int x5)]) (st' := [.int (-13)]) (I' := I4) (J' := J4) rfl ?_
                    exact Wp.ret rfl h
                  · replace h := h.2 h9
                    refine Wp.steps 3 (pc' := 106) (lv' := [some (.ref 0), some (.int x1), some (.int x2), some (.int x3), some (.int x4), some (.int x5)]) (st' := [.int x1, .ref 48]) (I' := I4) (J' := J4) rfl ?_
                    refine Wp.steps 1 (pc' := 107) (lv' := [some (.ref 0), some (.int x1), some (.int x2), some (.int x3), some (.int x4), some (.int x5)]) (st' := [.ref 51]) (I' := I4) (J' := J4) (by rw [g3]; rfl) ?_
                    refine Wp.steps 5 (pc' := 116) (lv' := [some (.ref 0), some (.int x1), some (.int x2), some (.int x3), some (.int x4), some (.int x5)]) (st' := [.int x3, .ref 48, .int x2, .ref 52]) (I' := I4) (J' := J4) rfl ?_
                    refine Wp.steps 1 (pc' := 117) (lv' := [some (.ref 0), some (.int x1), some (.int x2), some (.int x3), some (.int x4), some (.int x5)]) (st' := [.ref 49, .int x2, .ref 52]) (I' := I4) (J' := J4) (by rw [g5]; rfl) ?_
                    refine Wp.steps 3 (pc' := 124) (lv' := [some (.ref 0), some (.int x1), some (.int x2), some (.int x3), some (.int x4), some (.int x5)]) (st' := [.int x5, .int x4, .ref 50, .int x2, .ref 52]) (I' := I4) (J' := J4) rfl ?_
                    refine Wp.copyJ rfl rfl rfl rfl rfl h.1 ?_
                    replace h := h.2
                    refine Wp.steps 1 (pc' := 129) (lv' := [some (.ref 0), some (.int x1), some (.int x2), some (.int x3), some (.int x4), some (.int x5)]) (st' := [.int x5]) (I' := I4) (J' := (cpJ J4 50 52 (tN x2) (tN x4) (tN x5))) rfl ?_
                    exact Wp.ret rfl h
              · replace h := h.2 h7
                refine Wp.steps 1 (pc' := 66) (lv' := [some (.ref 0), some (.int x1), some (.int x2), some (.int x3), some (.int x4), some (.int x5)]) (st' := [.int (-12)]) (I' := I2) (J' := J2) rfl ?_
                exact Wp.ret rfl h
          · replace h := h.2.2.1 g5
            refine Wp.steps 1 (pc' := 34) (lv' := [some (.ref 0), some (.int x1), some (.int x2), some (.int x3), some (.int x4), some (.int x5)]) (st' := [.ref 51]) (I' := I2) (J' := J2) (by rw [g5]; rfl) ?_
            refine Wp.steps 1 (pc' := 37) (lv' := [some (.ref 0), some (.int x1), some (.int x2), some (.int x3), some (.int x4), some (.int x5)]) (st' := [.int (I2 51 0)]) (I' := I2) (J' := J2) rfl ?_
            refine Wp.steps 1 (pc' := if (I2 51 0) = 0 then 40 else 43) (lv' := [some (.ref 0), some (.int x1), some (.int x2), some (.int x3), some (.int x4), some (.int x5)]) (st' := []) (I' := I2) (J' := J2) rfl ?_
            rw [if_neg h4]
            refine Wp.steps 3 (pc' := 48) (lv' := [some (.ref 0), some (.int x1), some (.int x2), some (.int x3), some (.int x4), some (.int x5)]) (st' := [.int x1, .ref 48]) (I' := I2) (J' := J2) rfl ?_
            refine Wp.steps 1 (pc' := 49) (lv' := [some (.ref 0), some (.int x1), some (.int x2), some (.int x3), some (.int x4), some (.int x5)]) (st' := [.ref 51]) (I' := I2) (J' := J2) (by rw [g3]; rfl) ?_
            refine Wp.steps 4 (pc' := 57) (lv' := [some (.ref 0), some (.int x1), some (.int x2), some (.int x3), some (.int x4), some (.int x5)]) (st' := [.int x3, .ref 48, .int (I2 51 1)]) (I' := I2) (J' := J2) rfl ?_
            refine Wp.steps 1 (pc' := 58) (lv' := [some (.ref 0), some (.int x1), some (.int x2), some (.int x3), some (.int x4), some (.int x5)]) (st' := [.ref 51, .int (I2 51 1)]) (I' := I2) (J' := J2) (by rw [g5]; rfl) ?_
            refine Wp.steps 1 (pc' := 61) (lv' := [some (.ref 0), some (.int x1), some (.int x2), some (.int x3), some (.int x4), some (.int x5)]) (st' := [.int (I2 51 1), .int (I2 51 1)]) (I' := I2) (J' := J2) rfl ?_
            refine Wp.steps 1 (pc' := if (I2 51 1) = (I2 51 1) then 67 else 64) (lv' := [some (.ref 0), some (.int x1), some (.int x2), some (.int x3), some (.int x4), some (.int x5)]) (st' := []) (I' := I2) (J' := J2) rfl (Wp.ite (fun h6 => ?_) (fun h6 => ?_))
            · replace h := h.1 h6
              refine Wp.steps 3 (pc' := 72) (lv' := [some (.ref 0), some (.int x1), some (.int x2), some (.int x3), some (.int x4), some (.int x5)]) (st' := [.int x1, .ref 48]) (I' := I2) (J' := J2) rfl ?_
              refine Wp.steps 1 (pc' := 73) (lv' := [some (.ref 0), some (.int x1), some (.int x2), some (.int x3), some (.int x4), some (.int x5)]) (st' := [.ref 51]) (I' := I2) (J' := J2) (by rw [g3]; rfl) ?_
              refine Wp.steps 2 (pc' := 76) (lv' := [some (.ref 0), some (.int x1), some (.int x2), some (.int x3), some (.int x4), some (.int x5)]) (st' := [.int x5, .int x2, .ref 51]) (I' := I2) (J' := J2) rfl ?_
              refine Wp.call (M' := Sh_holds) (as := [.ref 51, .int x2, .int x5]) (rest := []) rfl (CI.use h (fun v3 I3 J3 h => ?_))
              refine Wp.eqs (pc' := 79) (st' := [.int v3]) rfl rfl ?_
              refine Wp.steps 1 (pc' := if v3 = 0 then 98 else 82) (lv' := [some (.ref 0), some (.int x1), some (.int x2), some (.int x3), some (.int x4), some (.int x5)]) (st' := []) (I' := I3) (J' := J3) rfl (Wp.ite (fun h7 => ?_) (fun h7 => ?_))
              · replace h := h.1 h7
                refine Wp.steps 1 (pc' := 100) (lv' := [some (.ref 0), some (.int x1), some (.int x2), some (.int x3), some (.int x4), some (.int x5)]) (st' := [.int (-13)]) (I' := I3) (J' := J3) rfl ?_
                exact Wp.ret rfl h
              · replace h := h.2 h7
                refine Wp.steps 3 (pc' := 87) (lv' := [some (.ref 0), some (.int x1), some (.int x2), some (.int x3), some (.int x4), some (.int x5)]) (st' := [.int x3, .ref 48]) (I' := I3) (J' := J3) rfl ?_
                refine Wp.steps 1 (pc' := 88) (lv' := [some (.ref 0), some (.int x1), some (.int x2), some (.int x3), some (.int x4), some (.int x5)]) (st' := [.ref 51]) (I' := I3) (J' := J3) (by rw [g5]; rfl) ?_
                refine Wp.steps 2 (pc' := 92) (lv' := [some (.ref 0), some (.int x1), some (.int x2), some (.int x3), some (.int x4), some (.int x5)]) (st' := [.int x5, .int x4, .ref 51]) (I' := I3) (J' := J3) rfl ?_
                refine Wp.call (M' := Sh_holds) (as := [.ref 51, .int x4, .int x5]) (rest := []) rfl (CI.use h (fun v4 I4 J4 h => ?_))
                refine Wp.eqs (pc' := 95) (st' := [.int v4]) rfl rfl ?_
                refine Wp.steps 1 (pc' := if v4 = 0 then 98 else 101) (lv' := [some (.ref 0), some (.int x1), some (.int x2), some (.int x3), some (.int x4), some (.int x5)]) (st' := []) (I' := I4) (J' := J4) rfl (Wp.ite (fun h8 => ?_) (fun h8 => ?_))
                · replace h := h.1 h8
                  refine Wp.steps 1 (pc' := 100) (lv' := [some (.ref 0), some (.int x1), some (.int x2), some (.int x3), some (.int x4), some (.int x5)]) (st' := [.int (-13)]) (I' := I4) (J' := J4) rfl ?_
                  exact Wp.ret rfl h
                · replace h := h.2 h8
                  refine Wp.steps 3 (pc' := 106) (lv' := [some (.ref 0), some (.int x1), some (.int x2), some (.int x3), some (.int x4), some (.int x5)]) (st' := [.int x1, .ref 48]) (I' := I4) (J' := J4) rfl ?_
                  refine Wp.steps 1 (pc' := 107) (lv' := [some (.ref 0), some (.int x1), some (.int x2), some (.int x3), some (.int x4), some (.int x5)]) (st' := [.ref 51]) (I' := I4) (J' := J4) (by rw [g3]; rfl) ?_
                  refine Wp.steps 5 (pc' := 116) (lv' := [some (.ref 0), some (.int x1), some (.int x2), some (.int x3), some (.int x4), some (.int x5)]) (st' := [.int x3, .ref 48, .int x2, .ref 52]) (I' := I4) (J' := J4) rfl ?_
                  refine Wp.steps 1 (pc' := 117) (lv' := [some (.ref 0), some (.int x1), some (.int x2), some (.int x3), some (.int x4), some (.int x5)]) (st' := [.ref 51, .int x2, .ref 52]) (I' := I4) (J' := J4) (by rw [g5]; rfl) ?_
                  refine Wp.steps 3 (pc' := 124) (lv' := [some (.ref 0), some (.int x1), some (.int x2), some (.int x3), some (.int x4), some (.int x5)]) (st' := [.int x5, .int x4, .ref 52, .int x2, .ref 52]) (I' := I4) (J' := J4) rfl ?_
                  refine Wp.copyJ rfl rfl rfl rfl rfl h.1 ?_
                  replace h := h.2
                  refine Wp.steps 1 (pc' := 129) (lv' := [some (.ref 0), some (.int x1), some (.int x2), some (.int x3), some (.int x4), some (.int x5)]) (st' := [.int x5]) (I' := I4) (J' := (cpJ J4 52 52 (tN x2) (tN x4) (tN x5))) rfl ?_
                  exact Wp.ret rfl h
            · replace h := h.2 h6
              refine Wp.steps 1 (pc' := 66) (lv' := [some (.ref 0), some (.int x1), some (.int x2), some (.int x3), some (.int x4), some (.int x5)]) (st' := [.int (-12)]) (I' := I2) (J' := J2) rfl ?_
              exact Wp.ret rfl h
          · replace h := h.2.2.2.1 g5
            refine Wp.steps 1 (pc' := 34) (lv' := [some (.ref 0), some (.int x1), some (.int x2), some (.int x3), some (.int x4), some (.int x5)]) (st' := [.ref 53]) (I' := I2) (J' := J2) (by rw [g5]; rfl) ?_
            refine Wp.steps 1 (pc' := 37) (lv' := [some (.ref 0), some (.int x1), some (.int x2), some (.int x3), some (.int x4), some (.int x5)]) (st' := [.int (I2 53 0)]) (I' := I2) (J' := J2) rfl ?_
            refine Wp.steps 1 (pc' := if (I2 53 0) = 0 then 40 else 43) (lv' := [some (.ref 0), some (.int x1), some (.int x2), some (.int x3), some (.int x4), some (.int x5)]) (st' := []) (I' := I2) (J' := J2) rfl (Wp.ite (fun h6 => ?_) (fun h6 => ?_))
            · replace h := h.1 h6
              refine Wp.steps 1 (pc' := 42) (lv' := [some (.ref 0), some (.int x1), some (.int x2), some (.int x3), some (.int x4), some (.int x5)]) (st' := [.int (-11)]) (I' := I2) (J' := J2) rfl ?_
              exact Wp.ret rfl h
            · replace h := h.2 h6
              refine Wp.steps 3 (pc' := 48) (lv' := [some (.ref 0), some (.int x1), some (.int x2), some (.int x3), some (.int x4), some (.int x5)]) (st' := [.int x1, .ref 48]) (I' := I2) (J' := J2) rfl ?_
              refine Wp.steps 1 (pc' := 49) (lv' := [some (.ref 0), some (.int x1), some (.int x2), some (.int x3), some (.int x4), some (.int x5)]) (st' := [.ref 51]) (I' := I2) (J' := J2) (by rw [g3]; rfl) ?_
              refine Wp.steps 4 (pc' := 57) (lv' := [some (.ref 0), some (.int x1), some (.int x2), some (.int x3), some (.int x4), some (.int x5)]) (st' := [.int x3, .ref 48, .int (I2 51 1)]) (I' := I2) (J' := J2) rfl ?_
              refine Wp.steps 1 (pc' := 58) (lv' := [some (.ref 0), some (.int x1), some (.int x2), some (.int x3), some (.int x4), some (.int x5)]) (st' := [.ref 53, .int (I2 51 1)]) (I' := I2) (J' := J2) (by rw [g5]; rfl) ?_
              refine Wp.steps 1 (pc' := 61) (lv' := [some (.ref 0), some (.int x1), some (.int x2), some (.int x3), some (.int x4), some (.int x5)]) (st' := [.int (I2 53 1), .int (I2 51 1)]) (I' := I2) (J' := J2) rfl ?_
              refine Wp.steps 1 (pc' := if (I2 51 1) = (I2 53 1) then 67 else 64) (lv' := [some (.ref 0), some (.int x1), some (.int x2), some (.int x3), some (.int x4), some (.int x5)]) (st' := []) (I' := I2) (J' := J2) rfl (Wp.ite (fun h7 => ?_) (fun h7 => ?_))
              · replace h := h.1 h7
                refine Wp.steps 3 (pc' := 72) (lv' := [some (.ref 0), some (.int x1), some (.int x2), some (.int x3), some (.int x4), some (.int x5)]) (st' := [.int x1, .ref 48]) (I' := I2) (J' := J2) rfl ?_
                refine Wp.steps 1 (pc' := 73) (lv' := [some (.ref 0), some (.int x1), some (.int x2), some (.int x3), some (.int x4), some (.int x5)]) (st' := [.ref 51]) (I' := I2) (J' := J2) (by rw [g3]; rfl) ?_
                refine Wp.steps 2 (pc' := 76) (lv' := [some (.ref 0), some (.int x1), some (.int x2), some (.int x3), some (.int x4), some (.int x5)]) (st' := [.int x5, .int x2, .ref 51]) (I' := I2) (J' := J2) rfl ?_
                refine Wp.call (M' := Sh_holds) (as := [.ref 51, .int x2, .int x5]) (rest := []) rfl (CI.use h (fun v3 I3 J3 h => ?_))
                refine Wp.eqs (pc' := 79) (st' := [.int v3]) rfl rfl ?_
                refine Wp.steps 1 (pc' := if v3 = 0 then 98 else 82) (lv' := [some (.ref 0), some (.int x1), some (.int x2), some (.int x3), some (.int x4), some (.int x5)]) (st' := []) (I' := I3) (J' := J3) rfl (Wp.ite (fun h8 => ?_) (fun h8 => ?_))
                · replace h := h.1 h8
                  refine Wp.steps 1 (pc' := 100) (lv' := [some (.ref 0), some (.int x1), some (.int x2), some (.int x3), some (.int x4), some (.int x5)]) (st' := [.int (-13)]) (I' := I3) (J' := J3) rfl ?_
                  exact Wp.ret rfl h
                · replace h := h.2 h8
                  refine Wp.steps 3 (pc' := 87) (lv' := [some (.ref 0), some (.int x1), some (.int x2), some (.int x3), some (.int x4), some (.int x5)]) (st' := [.int x3, .ref 48]) (I' := I3) (J' := J3) rfl ?_
                  refine Wp.steps 1 (pc' := 88) (lv' := [some (.ref 0), some (.int x1), some (.int x2), some (.int x3), some (.int x4), some (.int x5)]) (st' := [.ref 53]) (I' := I3) (J' := J3) (by rw [g5]; rfl) ?_
                  refine Wp.steps 2 (pc' := 92) (lv' := [some (.ref 0), some (.int x1), some (.int x2), some (.int x3), some (.int x4), some (.int x5)]) (st' := [.int x5, .int x4, .ref 53]) (I' := I3) (J' := J3) rfl ?_
                  refine Wp.call (M' := Sh_holds) (as := [.ref 53, .int x4, .int x5]) (rest := []) rfl (CI.use h (fun v4 I4 J4 h => ?_))
                  refine Wp.eqs (pc' := 95) (st' := [.int v4]) rfl rfl ?_
                  refine Wp.steps 1 (pc' := if v4 = 0 then 98 else 101) (lv' := [some (.ref 0), some (.int x1), some (.int x2), some (.int x3), some (.int x4), some (.int x5)]) (st' := []) (I' := I4) (J' := J4) rfl (Wp.ite (fun h9 => ?_) (fun h9 => ?_))
                  · replace h := h.1 h9
                    refine Wp.steps 1 (pc' := 100) (lv' := [some (.ref 0), some (.int x1), some (.int x2), some (.int x3), some (.int x4), some (.int x5)]) (st' := [.int (-13)]) (I' := I4) (J' := J4) rfl ?_
                    exact Wp.ret rfl h
                  · replace h := h.2 h9
                    refine Wp.steps 3 (pc' := 106) (lv' := [some (.ref 0), some (.int x1), some (.int x2), some (.int x3), some (.int x4), some (.int x5)]) (st' := [.int x1, .ref 48]) (I' := I4) (J' := J4) rfl ?_
                    refine Wp.steps 1 (pc' := 107) (lv' := [some (.ref 0), some (.int x1), some (.int x2), some (.int x3), some (.int x4), some (.int x5)]) (st' := [.ref 51]) (I' := I4) (J' := J4) (by rw [g3]; rfl) ?_
                    refine Wp.steps 5 (pc' := 116) (lv' := [some (.ref 0), some (.int x1), some (.int x2), some (.int x3), some (.int x4), some (.int x5)]) (st' := [.int x3, .ref 48, .int x2, .ref 52]) (I' := I4) (J' := J4) rfl ?_
                    refine Wp.steps 1 (pc' := 117) (lv' := [some (.ref 0), some (.int x1), some (.int x2), some (.int x3), some (.int x4), some (.int x5)]) (st' := [.ref 53, .int x2, .ref 52]) (I' := I4) (J' := J4) (by rw [g5]; rfl) ?_
                    refine Wp.steps 3 (pc' := 124) (lv' := [some (.ref 0), some (.int x1), some (.int x2), some (.int x3), some (.int x4), some (.int x5)]) (st' := [.int x5, .int x4, .ref 54, .int x2, .ref 52]) (I' := I4) (J' := J4) rfl ?_
                    refine Wp.copyJ rfl rfl rfl rfl rfl h.1 ?_
                    replace h := h.2
                    refine Wp.steps 1 (pc' := 129) (lv' := [some (.ref 0), some (.int x1), some (.int x2), some (.int x3), some (.int x4), some (.int x5)]) (st' := [.int x5]) (I' := I4) (J' := (cpJ J4 54 52 (tN x2) (tN x4) (tN x5))) rfl ?_
                    exact Wp.ret rfl h
              · replace h := h.2 h7
                refine Wp.steps 1 (pc' := 66) (lv' := [some (.ref 0), some (.int x1), some (.int x2), some (.int x3), some (.int x4), some (.int x5)]) (st' := [.int (-12)]) (I' := I2) (J' := J2) rfl ?_
                exact Wp.ret rfl h
          · replace h := h.2.2.2.2 g5
            refine Wp.steps 1 (pc' := 34) (lv' := [some (.ref 0), some (.int x1), some (.int x2), some (.int x3), some (.int x4), some (.int x5)]) (st' := [.ref 55]) (I' := I2) (J' := J2) (by rw [g5]; rfl) ?_
            refine Wp.steps 1 (pc' := 37) (lv' := [some (.ref 0), some (.int x1), some (.int x2), some (.int x3), some (.int x4), some (.int x5)]) (st' := [.int (I2 55 0)]) (I' := I2) (J' := J2) rfl ?_
            refine Wp.steps 1 (pc' := if (I2 55 0) = 0 then 40 else 43) (lv' := [some (.ref 0), some (.int x1), some (.int x2), some (.int x3), some (.int x4), some (.int x5)]) (st' := []) (I' := I2) (J' := J2) rfl (Wp.ite (fun h6 => ?_) (fun h6 => ?_))
            · replace h := h.1 h6
              refine Wp.steps 1 (pc' := 42) (lv' := [some (.ref 0), some (.int x1), some (.int x2), some (.int x3), some (.int x4), some (.int x5)]) (st' := [.int (-11)]) (I' := I2) (J' := J2) rfl ?_
              exact Wp.ret rfl h
            · replace h := h.2 h6
              refine Wp.steps 3 (pc' := 48) (lv' := [some (.ref 0), some (.int x1), some (.int x2), some (.int x3), some (.int x4), some (.int x5)]) (st' := [.int x1, .ref 48]) (I' := I2) (J' := J2) rfl ?_
              refine Wp.steps 1 (pc' := 49) (lv' := [some (.ref 0), some (.int x1), some (.int x2), some (.int x3), some (.int x4), some (.int x5)]) (st' := [.ref 51]) (I' := I2) (J' := J2) (by rw [g3]; rfl) ?_
              refine Wp.steps 4 (pc' := 57) (lv' := [some (.ref 0), some (.int x1), some (.int x2), some (.int x3), some (.int x4), some (.int x5)]) (st' := [.int x3, .ref 48, .int (I2 51 1)]) (I' := I2) (J' := J2) rfl ?_
              refine Wp.steps 1 (pc' := 58) (lv' := [some (.ref 0), some (.int x1), some (.int x2), some (.int x3), some (.int x4), some (.int x5)]) (st' := [.ref 55, .int (I2 51 1)]) (I' := I2) (J' := J2) (by rw [g5]; rfl) ?_
              refine Wp.steps 1 (pc' := 61) (lv' := [some (.ref 0), some (.int x1), some (.int x2), some (.int x3), some (.int x4), some (.int x5)]) (st' := [.int (I2 55 1), .int (I2 51 1)]) (I' := I2) (J' := J2) rfl ?_
              refine Wp.steps 1 (pc' := if (I2 51 1) = (I2 55 1) then 67 else 64) (lv' := [some (.ref 0), some (.int x1), some (.int x2), some (.int x3), some (.int x4), some (.int x5)]) (st' := []) (I' := I2) (J' := J2) rfl (Wp.ite (fun h7 => ?_) (fun h7 => ?_))
              · replace h := h.1 h7
                refine Wp.steps 3 (pc' := 72) (lv' := [some (.ref 0), some (.int x1), some (.int x2), some (.int x3), some (.int x4), some (.int x5)]) (st' := [.int x1, .ref 48]) (I' := I2) (J' := J2) rfl ?_
                refine Wp.steps 1 (pc' := 73) (lv' := [some (.ref 0), some (.int x1), some (.int x2), some (.int x3), some (.int x4), some (.int x5)]) (st' := [.ref 51]) (I' := I2) (J' := J2) (by rw [g3]; rfl) ?_
                refine Wp.steps 2 (pc' := 76) (lv' := [some (.ref 0), some (.int x1), some (.int x2), some (.int x3), some (.int x4), some (.int x5)]) (st' := [.int x5, .int x2, .ref 51]) (I' := I2) (J' := J2) rfl ?_
                refine Wp.call (M' := Sh_holds) (as := [.ref 51, .int x2, .int x5]) (rest := []) rfl (CI.use h (fun v3 I3 J3 h => ?_))
                refine Wp.eqs (pc' := 79) (st' := [.int v3]) rfl rfl ?_
                refine Wp.steps 1 (pc' := if v3 = 0 then 98 else 82) (lv' := [some (.ref 0), some (.int x1), some (.int x2), some (.int x3), some (.int x4), some (.int x5)]) (st' := []) (I' := I3) (J' := J3) rfl (Wp.ite (fun h8 => ?_) (fun h8 => ?_))
                · replace h := h.1 h8
                  refine Wp.steps 1 (pc' := 100) (lv' := [some (.ref 0), some (.int x1), some (.int x2), some (.int x3), some (.int x4), some (.int x5)]) (st' := [.int (-13)]) (I' := I3) (J' := J3) rfl ?_
                  exact Wp.ret rfl h
                · replace h := h.2 h8
                  refine Wp.steps 3 (pc' := 87) (lv' := [some (.ref 0), some (.int x1), some (.int x2), some (.int x3), some (.int x4), some (.int x5)]) (st' := [.int x3, .ref 48]) (I' := I3) (J' := J3) rfl ?_
                  refine Wp.steps 1 (pc' := 88) (lv' := [some (.ref 0), some (.int x1), some (.int x2), some (.int x3), some (.int x4), some (.int x5)]) (st' := [.ref 55]) (I' := I3) (J' := J3) (by rw [g5]; rfl) ?_
                  refine Wp.steps 2 (pc' := 92) (lv' := [some (.ref 0), some (.int x1), some (.int x2), some (.int x3), some (.int x4), some (.int x5)]) (st' := [.int x5, .int x4, .ref 55]) (I' := I3) (J' := J3) rfl ?_
                  refine Wp.call (M' := Sh_holds) (as := [.ref 55, .int x4, .int x5]) (rest := []) rfl (CI.use h (fun v4 I4 J4 h => ?_))
                  refine Wp.eqs (pc' := 95) (st' := [.int v4]) rfl rfl ?_
                  refine Wp.steps 1 (pc' := if v4 = 0 then 98 else 101) (lv' := [some (.ref 0), some (.int x1), some (.int x2), some (.int x3), some (.int x4), some (.int x5)]) (st' := []) (I' := I4) (J' := J4) rfl (Wp.ite (fun h9 => ?_) (fun h9 => ?_))
                  · replace h := h.1 h9
                    refine Wp.steps 1 (pc' := 100) (lv' := [some (.ref 0), some (.int x1), some (.int x2), some (.int x3), some (.int x4), some (.int x5)]) (st' := [.int (-13)]) (I' := I4) (J' := J4) rfl ?_
                    exact Wp.ret rfl h
                  · replace h := h.2 h9
                    refine Wp.steps 3 (pc' := 106) (lv' := [some (.ref 0), some (.int x1), some (.int x2), some (.int x3), some (.int x4), some (.int x5)]) (st' := [.int x1, .ref 48]) (I' := I4) (J' := J4) rfl ?_
                    refine Wp.steps 1 (pc' := 107) (lv' := [some (.ref 0), some (.int x1), some (.int x2), some (.int x3), some (.int x4), some (.int x5)]) (st' := [.ref 51]) (I' := I4) (J' := J4) (by rw [g3]; rfl) ?_
                    refine Wp.steps 5 (pc' := 116) (lv' := [some (.ref 0), some (.int x1), some (.int x2), some (.int x3), some (.int x4), some (.int x5)]) (st' := [.int x3, .ref 48, .int x2, .ref 52]) (I' := I4) (J' := J4) rfl ?_
                    refine Wp.steps 1 (pc' := 117) (lv' := [some (.ref 0), some (.int x1), some (.int x2), some (.int x3), some (.int x4), some (.int x5)]) (st' := [.ref 55, .int x2, .ref 52]) (I' := I4) (J' := J4) (by rw [g5]; rfl) ?_
                    refine Wp.steps 3 (pc' := 124) (lv' := [some (.ref 0), some (.int x1), some (.int x2), some (.int x3), some (.int x4), some (.int x5)]) (st' := [.int x5, .int x4, .ref 56, .int x2, .ref 52]) (I' := I4) (J' := J4) rfl ?_
                    refine Wp.copyJ rfl rfl rfl rfl rfl h.1 ?_
                    replace h := h.2
                    refine Wp.steps 1 (pc' := 129) (lv' := [some (.ref 0), some (.int x1), some (.int x2), some (.int x3), some (.int x4), some (.int x5)]) (st' := [.int x5]) (I' := I4) (J' := (cpJ J4 56 52 (tN x2) (tN x4) (tN x5))) rfl ?_
                    exact Wp.ret rfl h
              · replace h := h.2 h7
                refine Wp.steps 1 (pc' := 66) (lv' := [some (.ref 0), some (.int x1), some (.int x2), some (.int x3), some (.int x4), some (.int x5)]) (st' := [.int (-12)]) (I' := I2) (J' := J2) rfl ?_
                exact Wp.ret rfl h
      · replace h := h.2.2.2.1 g3
        refine Wp.steps 1 (pc' := 22) (lv' := [some (.ref 0), some (.int x1), some (.int x2), some (.int x3), some (.int x4), some (.int x5)]) (st' := [.ref 53]) (I' := I2) (J' := J2) (by rw [g3]; rfl) ?_
        refine Wp.steps 1 (pc' := 25) (lv' := [some (.ref 0), some (.int x1), some (.int x2), some (.int x3), some (.int x4), some (.int x5)]) (st' := [.int (I2 53 0)]) (I' := I2) (J' := J2) rfl ?_
        refine Wp.steps 1 (pc' := if (I2 53 0) = 0 then 40 else 28) (lv' := [some (.ref 0), some (.int x1), some (.int x2), some (.int x3), some (.int x4), some (.int x5)]) (st' := []) (I' := I2) (J' := J2) rfl (Wp.ite (fun h4 => ?_) (fun h4 => ?_))
        · replace h := h.1 h4
          refine Wp.steps 1 (pc' := 42) (lv' := [some (.ref 0), some (.int x1), some (.int x2), some (.int x3), some (.int x4), some (.int x5)]) (st' := [.int (-11)]) (I' := I2) (J' := J2) rfl ?_
          exact Wp.ret rfl h
        · replace h := h.2 h4
          refine Wp.steps 3 (pc' := 33) (lv' := [some (.ref 0), some (.int x1), some (.int x2), some (.int x3), some (.int x4), some (.int x5)]) (st' := [.int x3, .ref 48]) (I' := I2) (J' := J2) rfl ?_
          rcases vp_4 h.1 with g5 | g5 | g5 | g5
          · replace h := h.2.1 g5
            refine Wp.steps 1 (pc' := 34) (lv' := [some (.ref 0), some (.int x1), some (.int x2), some (.int x3), some (.int x4), some (.int x5)]) (st' := [.ref 49]) (I' := I2) (J' := J2) (by rw [g5]; rfl) ?_
            refine Wp.steps 1 (pc' := 37) (lv' := [some (.ref 0), some (.int x1), some (.int x2), some (.int x3), some (.int x4), some (.int x5)]) (st' := [.int (I2 49 0)]) (I' := I2) (J' := J2) rfl ?_
            refine Wp.steps 1 (pc' := if (I2 49 0) = 0 then 40 else 43) (lv' := [some (.ref 0), some (.int x1), some (.int x2), some (.int x3), some (.int x4), some (.int x5)]) (st' := []) (I' := I2) (J' := J2) rfl (Wp.ite (fun h6 => ?_) (fun h6 => ?_))
            · replace h := h.1 h6
              refine Wp.steps 1 (pc' := 42) (lv' := [some (.ref 0), some (.int x1), some (.int x2), some (.int x3), some (.int x4), some (.int x5)]) (st' := [.int (-11)]) (I' := I2) (J' := J2) rfl ?_
              exact Wp.ret rfl h
            · replace h := h.2 h6
              refine Wp.steps 3 (pc' := 48) (lv' := [some (.ref 0), some (.int x1), some (.int x2), some (.int x3), some (.int x4), some (.int x5)]) (st' := [.int x1, .ref 48]) (I' := I2) (J' := J2) rfl ?_
              refine Wp.steps 1 (pc' := 49) (lv' := [some (.ref 0), some (.int x1), some (.int x2), some (.int x3), some (.int x4), some (.int x5)]) (st' := [.ref 53]) (I' := I2) (J' := J2) (by rw [g3]; rfl) ?_
              refine Wp.steps 4 (pc' := 57) (lv' := [some (.ref 0), some (.int x1), some (.int x2), some (.int x3), some (.int x4), some (.int x5)]) (st' := [.int x3, .ref 48, .int (I2 53 1)]) (I' := I2) (J' := J2) rfl ?_
              refine Wp.steps 1 (pc' := 58) (lv' := [some (.ref 0), some (.int x1), some (.int x2), some (.int x3), some (.int x4), some (.int x5)]) (st' := [.ref 49, .int (I2 53 1)]) (I' := I2) (J' := J2) (by rw [g5]; rfl) ?_
              refine Wp.steps 1 (pc' := 61) (lv' := [some (.ref 0), some (.int x1), some (.int x2), some (.int x3), some (.int x4), some (.int x5)]) (st' := [.int (I2 49 1), .int (I2 53 1)]) (I' := I2) (J' := J2) rfl ?_
              refine Wp.steps 1 (pc' := if (I2 53 1) = (I2 49 1) then 67 else 64) (lv' := [some (.ref 0), some (.int x1), some (.int x2), some (.int x3), some (.int x4), some (.int x5)]) (st' := []) (I' := I2) (J' := J2) rfl (Wp.ite (fun h7 => ?_) (fun h7 => ?_))
              · replace h := h.1 h7
                refine Wp.steps 3 (pc' := 72) (lv' := [some (.ref 0), some (.int x1), some (.int x2), some (.int x3), some (.int x4), some (.int x5)]) (st' := [.int x1, .ref 48]) (I' := I2) (J' := J2) rfl ?_
                refine Wp.steps 1 (pc' := 73) (lv' := [some (.ref 0), some (.int x1), some (.int x2), some (.int x3), some (.int x4), some (.int x5)]) (st' := [.ref 53]) (I' := I2) (J' := J2) (by rw [g3]; rfl) ?_
                refine Wp.steps 2 (pc' := 76) (lv' := [some (.ref 0), some (.int x1), some (.int x2), some (.int x3), some (.int x4), some (.int x5)]) (st' := [.int x5, .int x2, .ref 53]) (I' := I2) (J' := J2) rfl ?_
                refine Wp.call (M' := Sh_holds) (as := [.ref 53, .int x2, .int x5]) (rest := []) rfl (CI.use h (fun v3 I3 J3 h => ?_))
                refine Wp.eqs (pc' := 79) (st' := [.int v3]) rfl rfl ?_
                refine Wp.steps 1 (pc' := if v3 = 0 then 98 else 82) (lv' := [some (.ref 0), some (.int x1), some (.int x2), some (.int x3), some (.int x4), some (.int x5)]) (st' := []) (I' := I3) (J' := J3) rfl (Wp.ite (fun h8 => ?_) (fun h8 => ?_))
                · replace h := h.1 h8
                  refine Wp.steps 1 (pc' := 100) (lv' := [some (.ref 0), some (.int x1), some (.int x2), some (.int x3), some (.int x4), some (.int x5)]) (st' := [.int (-13)]) (I' := I3) (J' := J3) rfl ?_
                  exact Wp.ret rfl h
                · replace h := h.2 h8
                  refine Wp.steps 3 (pc' := 87) (lv' := [some (.ref 0), some (.int x1), some (.int x2), some (.int x3), some (.int x4), some (.int x5)]) (st' := [.int x3, .ref 48]) (I' := I3) (J' := J3) rfl ?_
                  refine Wp.steps 1 (pc' := 88) (lv' := [some (.ref 0), some (.int x1), some (.int x2), some (.int x3), some (.int x4), some (.int x5)]) (st' := [.ref 49]) (I' := I3) (J' := J3) (by rw [g5]; rfl) ?_
                  refine Wp.steps 2 (pc' := 92) (lv' := [some (.ref 0), some (.int x1), some (.int x2), some (.int x3), some (.int x4), some (.int x5)]) (st' := [.int x5, .int x4, .ref 49]) (I' := I3) (J' := J3) rfl ?_
                  refine Wp.call (M' := Sh_holds) (as := [.ref 49, .int x4, .int x5]) (rest := []) rfl (CI.use h (fun v4 I4 J4 h => ?_))
                  refine Wp.eqs (pc' := 95) (st' := [.int v4]) rfl rfl ?_
                  refine Wp.steps 1 (pc' := if v4 = 0 then 98 else 101) (lv' := [some (.ref 0), some (.int x1), some (.int x2), some (.int x3), some (.int x4), some (.int x5)]) (st' := []) (I' := I4) (J' := J4) rfl (Wp.ite (fun h9 => ?_) (fun h9 => ?_))
                  · replace h := h.1 h9
                    refine Wp.steps 1 (pc' := 100) (lv' := [some (.ref 0), some (.int x1), some (.int x2), some (.int x3), some (.int x4), some (.int x5)]) (st' := [.int (-13)]) (I' := I4) (J' := J4) rfl ?_
                    exact Wp.ret rfl h
                  · replace h := h.2 h9
                    refine Wp.steps 3 (pc' := 106) (lv' := [some (.ref 0), some (.int x1), some (.int x2), some (.int x3), some (.int x4), some (.int x5)]) (st' := [.int x1, .ref 48]) (I' := I4) (J' := J4) rfl ?_
                    refine Wp.steps 1 (pc' := 107) (lv' := [some (.ref 0), some (.int x1), some (.int x2), some (.int x3), some (.int x4), some (.int x5)]) (st' := [.ref 53]) (I' := I4) (J' := J4) (by rw [g3]; rfl) ?_
                    refine Wp.steps 5 (pc' := 116) (lv' := [some (.ref 0), some (.int x1), some (.int x2), some (.int x3), some (.int x4), some (.int x5)]) (st' := [.int x3, .ref 48, .int x2, .ref 54]) (I' := I4) (J' := J4) rfl ?_
                    refine Wp.steps 1 (pc' := 117) (lv' := [some (.ref 0), some (.int x1), some (.int x2), some (.int x3), some (.int x4), some (.int x5)]) (st' := [.ref 49, .int x2, .ref 54]) (I' := I4) (J' := J4) (by rw [g5]; rfl) ?_
                    refine Wp.steps 3 (pc' := 124) (lv' := [some (.ref 0), some (.int x1), some (.int x2), some (.int x3), some (.int x4), some (.int x5)]) (st' := [.int x5, .int x4, .ref 50, .int x2, .ref 54]) (I' := I4) (J' := J4) rfl ?_
                    refine Wp.copyJ rfl rfl rfl rfl rfl h.1 ?_
                    replace h := h.2
                    refine Wp.steps 1 (pc' := 129) (lv' := [some (.ref 0), some (.int x1), some (.int x2), some (.int x3), some (.int x4), some (.int x5)]) (st' := [.int x5]) (I' := I4) (J' := (cpJ J4 50 54 (tN x2) (tN x4) (tN x5))) rfl ?_
                    exact Wp.ret rfl h
              · replace h := h.2 h7
                refine Wp.steps 1 (pc' := 66) (lv' := [some (.ref 0), some (.int x1), some (.int x2), some (.int x3), some (.int x4), some (.int x5)]) (st' := [.int (-12)]) (I' := I2) (J' := J2) rfl ?_
                exact Wp.ret rfl h
          · replace h := h.2.2.1 g5
            refine Wp.steps 1 (pc' := 34) (lv' := [some (.ref 0), some (.int x1), some (.int x2), some (.int x3), some (.int x4), some (.int x5)]) (st' := [.ref 51]) (I' := I2) (J' := J2) (by rw [g5]; rfl) ?_
            refine Wp.steps 1 (pc' := 37) (lv' := [some (.ref 0), some (.int x1), some (.int x2), some (.int x3), some (.int x4), some (.int x5)]) (st' := [.int (I2 51 0)]) (I' := I2) (J' := J2) rfl ?_
            refine Wp.steps 1 (pc' := if (I2 51 0) = 0 then 40 else 43) (lv' := [some (.ref 0), some (.int x1), some (.int x2), some (.int x3), some (.int x4), some (.int x5)]) (st' := []) (I' := I2) (J' := J2) rfl (Wp.ite (fun h6 => ?_) (fun h6 => ?_))
            · replace h := h.1 h6
              refine Wp.steps 1 (pc' := 42) (lv' := [some (.ref 0), some (.int x1), some (.int x2), some (.int x3), some (.int x4), some (.int x5)]) (st' := [.int (-11)]) (I' := I2) (J' := J2) rfl ?_
              exact Wp.ret rfl h
            · replace h := h.2 h6
              refine Wp.steps 3 (pc' := 48) (lv' := [some (.ref 0), some (.int x1), some (.int x2), some (.int x3), some (.int x4), some (.int x5)]) (st' := [.int x1, .ref 48]) (I' := I2) (J' := J2) rfl ?_
              refine Wp.steps 1 (pc' := 49) (lv' := [some (.ref 0), some (.int x1), some (.int x2), some (.int x3), some (.int x4), some (.int x5)]) (st' := [.ref 53]) (I' := I2) (J' := J2) (by rw [g3]; rfl) ?_
              refine Wp.steps 4 (pc' := 57) (lv' := [some (.ref 0), some (.int x1), some (.int x2), some (.int x3), some (.int x4), some (.int x5)]) (st' := [.int x3, .ref 48, .int (I2 53 1)]) (I' := I2) (J' := J2) rfl ?_
              refine Wp.steps 1 (pc' := 58) (lv' := [some (.ref 0), some (.int x1), some (.int x2), some (.int x3), some (.int x4), some (.int x5)]) (st' := [.ref 51, .int (I2 53 1)]) (I' := I2) (J' := J2) (by rw [g5]; rfl) ?_
              refine Wp.steps 1 (pc' := 61) (lv' := [some (.ref 0), some (.int x1), some (.int x2), some (.int x3), some (.int x4), some (.int x5)]) (st' := [.int (I2 51 1), .int (I2 53 1)]) (I' := I2) (J' := J2) rfl ?_
              refine Wp.steps 1 (pc' := if (I2 53 1) = (I2 51 1) then 67 else 64) (lv' := [some (.ref 0), some (.int x1), some (.int x2), some (.int x3), some (.int x4), some (.int x5)]) (st' := []) (I' := I2) (J' := J2) rfl (Wp.ite (fun h7 => ?_) (fun h7 => ?_))
              · replace h := h.1 h7
                refine Wp.steps 3 (pc' := 72) (lv' := [some (.ref 0), some (.int x1), some (.int x2), some (.int x3), some (.int x4), some (.int x5)]) (st' := [.int x1, .ref 48]) (I' := I2) (J' := J2) rfl ?_
                refine Wp.steps 1 (pc' := 73) (lv' := [some (.ref 0), some (.int x1), some (.int x2), some (.int x3), some (.int x4), some (.int x5)]) (st' := [.ref 53]) (I' := I2) (J' := J2) (by rw [g3]; rfl) ?_
                refine Wp.steps 2 (pc' := 76) (lv' := [some (.ref 0), some (.int x1), some (.int x2), some (.int x3), some (.int x4), some (.int x5)]) (st' := [.int x5, .int x2, .ref 53]) (I' := I2) (J' := J2) rfl ?_
                refine Wp.call (M' := Sh_holds) (as := [.ref 53, .int x2, .int x5]) (rest := []) rfl (CI.use h (fun v3 I3 J3 h => ?_))
                refine Wp.eqs (pc' := 79) (st' := [.int v3]) rfl rfl ?_
                refine Wp.steps 1 (pc' := if v3 = 0 then 98 else 82) (lv' := [some (.ref 0), some (.int x1), some (.int x2), some (.int x3), some (.int x4), some (.int x5)]) (st' := []) (I' := I3) (J' := J3) rfl (Wp.ite (fun h8 => ?_) (fun h8 => ?_))
                · replace h := h.1 h8
                  refine Wp.steps 1 (pc' := 100) (lv' := [some (.ref 0), some (.int x1), some (.int x2), some (.int x3), some (.int x4), some (.int x5)]) (st' := [.int (-13)]) (I' := I3) (J' := J3) rfl ?_
                  exact Wp.ret rfl h
                · replace h := h.2 h8
                  refine Wp.steps 3 (pc' := 87) (lv' := [some (.ref 0), some (.int x1), some (.int x2), some (.int x3), some (.int x4), some (.int x5)]) (st' := [.int x3, .ref 48]) (I' := I3) (J' := J3) rfl ?_
                  refine Wp.steps 1 (pc' := 88) (lv' := [some (.ref 0), some (.int x1), some (.int x2), some (.int x3), some (.int x4), some (.int x5)]) (st' := [.ref 51]) (I' := I3) (J' := J3) (by rw [g5]; rfl) ?_
                  refine Wp.steps 2 (pc' := 92) (lv' := [some (.ref 0), some (.int x1), some (.int x2), some (.int x3), some (.int x4), some (.int x5)]) (st' := [.int x5, .int x4, .ref 51]) (I' := I3) (J' := J3) rfl ?_
                  refine Wp.call (M' := Sh_holds) (as := [.ref 51, .int x4, .int x5]) (rest := []) rfl (CI.use h (fun v4 I4 J4 h => ?_))
                  refine Wp.eqs (pc' := 95) (st' := [.int v4]) rfl rfl ?_
                  refine Wp.steps 1 (pc' := if v4 = 0 then 98 else 101) (lv' := [some (.ref 0), some (.int x1), some (.int x2), some (.int x3), some (.int x4), some (.int x5)]) (st' := []) (I' := I4) (J' := J4) rfl (Wp.ite (fun h9 => ?_) (fun h9 => ?_))
                  · replace h := h.1 h9
                    refine Wp.steps 1 (pc' := 100) (lv' := [some (.ref 0), some (.int x1), some (.int x2), some (.int x3), some (.int x4), some (.int x5)]) (st' := [.int (-13)]) (I' := I4) (J' := J4) rfl ?_
                    exact Wp.ret rfl h
                  · replace h := h.2 h9
                    refine Wp.steps 3 (pc' := 106) (lv' := [some (.ref 0), some (.int x1), some (.int x2), some (.int x3), some (.int x4), some (.int x5)]) (st' := [.int x1, .ref 48]) (I' := I4) (J' := J4) rfl ?_
                    refine Wp.steps 1 (pc' := 107) (lv' := [some (.ref 0), some (.int x1), some (.int x2), some (.int x3), some (.int x4), some (.int x5)]) (st' := [.ref 53]) (I' := I4) (J' := J4) (by rw [g3]; rfl) ?_
                    refine Wp.steps 5 (pc' := 116) (lv' := [some (.ref 0), some (.int x1), some (.int x2), some (.int x3), some (.int x4), some (.int x5)]) (st' := [.int x3, .ref 48, .int x2, .ref 54]) (I' := I4) (J' := J4) rfl ?_
                    refine Wp.steps 1 (pc' := 117) (lv' := [some (.ref 0), some (.int x1), some (.int x2), some (.int x3), some (.int x4), some (.int x5)]) (st' := [.ref 51, .int x2, .ref 54]) (I' := I4) (J' := J4) (by rw [g5]; rfl) ?_
                    refine Wp.steps 3 (pc' := 124) (lv' := [some (.ref 0), some (.int x1), some (.int x2), some (.int x3), some (.int x4), some (.int x5)]) (st' := [.int x5, .int x4, .ref 52, .int x2, .ref 54]) (I' := I4) (J' := J4) rfl ?_
                    refine Wp.copyJ rfl rfl rfl rfl rfl h.1 ?_
                    replace h := h.2
                    refine Wp.steps 1 (pc' := 129) (lv' := [some (.ref 0), some (.int x1), some (.int x2), some (.int x3), some (.int x4), some (.int x5)]) (st' := [.int x5]) (I' := I4) (J' := (cpJ J4 52 54 (tN x2) (tN x4) (tN x5))) rfl ?_
                    exact Wp.ret rfl h
              · replace h := h.2 h7
                refine Wp.steps 1 (pc' := 66) (lv' := [some (.ref 0), some (.int x1), some (.int x2), some (.int x3), some (.int x4), some (.int x5)]) (st' := [.int (-12)]) (I' := I2) (J' := J2) rfl ?_
                exact Wp.ret rfl h
          · replace h := h.2.2.2.1 g5
            refine Wp.steps 1 (pc' := 34) (lv' := [some (.ref 0), some (.int x1), some (.int x2), some (.int x3), some (.int x4), some (.int x5)]) (st' := [.ref 53]) (I' := I2) (J' := J2) (by rw [g5]; rfl) ?_
            refine Wp.steps 1 (pc' := 37) (lv' := [some (.ref 0), some (.int x1), some (.int x2), some (.int x3), some (.int x4), some (.int x5)]) (st' := [.int (I2 53 0)]) (I' := I2) (J' := J2) rfl ?_
            refine Wp.steps 1 (pc' := if (I2 53 0) = 0 then 40 else 43) (lv' := [some (.ref 0), some (.int x1), some (.int x2), some (.int x3), some (.int x4), some (.int x5)]) (st' := []) (I' := I2) (J' := J2) rfl ?_
            rw [if_neg h4]
            refine Wp.steps 3 (pc' := 48) (lv' := [some (.ref 0), some (.int x1), some (.int x2), some (.int x3), some (.int x4), some (.int x5)]) (st' := [.int x1, .ref 48]) (I' := I2) (J' := J2) rfl ?_
            refine Wp.steps 1 (pc' := 49) (lv' := [some (.ref 0), some (.int x1), some (.int x2), some (.int x3), some (.int x4), some (.int x5)]) (st' := [.ref 53]) (I' := I2) (J' := J2) (by rw [g3]; rfl) ?_
            refine Wp.steps 4 (pc' := 57) (lv' := [some (.ref 0), some (.int x1), some (.int x2), some (.int x3), some (.int x4), some (.int x5)]) (st' := [.int x3, .ref 48, .int (I2 53 1)]) (I' := I2) (J' := J2) rfl ?_
            refine Wp.steps 1 (pc' := 58) (lv' := [some (.ref 0), some (.int x1), some (.int x2), some (.int x3), some (.int x4), some (.int x5)]) (st' := [.ref 53, .int (I2 53 1)]) (I' := I2) (J' := J2) (by rw [g5]; rfl) ?_
            refine Wp.steps 1 (pc' := 61) (lv' := [some (.ref 0), some (.int x1), some (.int x2), some (.int x3), some (.int x4), some (.int x5)]) (st' := [.int (I2 53 1), .int (I2 53 1)]) (I' := I2) (J' := J2) rfl ?_
            refine Wp.steps 1 (pc' := if (I2 53 1) = (I2 53 1) then 67 else 64) (lv' := [some (.ref 0), some (.int x1), some (.int x2), some (.int x3), some (.int x4), some (.int x5)]) (st' := []) (I' := I2) (J' := J2) rfl (Wp.ite (fun h6 => ?_) (fun h6 => ?_))
            · replace h := h.1 h6
              refine Wp.steps 3 (pc' := 72) (lv' := [some (.ref 0), some (.int x1), some (.int x2), some (.int x3), some (.int x4), some (.int x5)]) (st' := [.int x1, .ref 48]) (I' := I2) (J' := J2) rfl ?_
              refine Wp.steps 1 (pc' := 73) (lv' := [some (.ref 0), some (.int x1), some (.int x2), some (.int x3), some (.int x4), some (.int x5)]) (st' := [.ref 53]) (I' := I2) (J' := J2) (by rw [g3]; rfl) ?_
              refine Wp.steps 2 (pc' := 76) (lv' := [some (.ref 0), some (.int x1), some (.int x2), some (.int x3), some (.int x4), some (.int x5)]) (st' := [.int x5, .int x2, .ref 53]) (I' := I2) (J' := J2) rfl ?_
              refine Wp.call (M' := Sh_holds) (as := [.ref 53, .int x2, .int x5]) (rest := []) rfl (CI.use h (fun v3 I3 J3 h => ?_))
              refine Wp.eqs (pc' := 79) (st' := [.int v3]) rfl rfl ?_
              refine Wp.steps 1 (pc' := if v3 = 0 then 98 else 82) (lv' := [some (.ref 0), some (.int x1), some (.int x2), some (.int x3), some (.int x4), some (.int x5)]) (st' := []) (I' := I3) (J' := J3) rfl (Wp.ite (fun h7 => ?_) (fun h7 => ?_))
              · replace h := h.1 h7
                refine Wp.steps 1 (pc' := 100) (lv' := [some (.ref 0), some (.int x1), some (.int x2), some (.int x3), some (.int x4), some (.int x5)]) (st' := [.int (-13)]) (I' := I3) (J' := J3) rfl ?_
                exact Wp.ret rfl h
              · replace h := h.2 h7
                refine Wp.steps 3 (pc' := 87) (lv' := [some (.ref 0), some (.int x1), some (.int x2), some (.int x3), some (.int x4), some (.int x5)]) (st' := [.int x3, .ref 48]) (I' := I3) (J' := J3) rfl ?_
                refine Wp.steps 1 (pc' := 88) (lv' := [some (.ref 0), some (.int x1), some (.int x2), some (.int x3), some (.int x4), some (.int x5)]) (st' := [.ref 53]) (I' := I3) (J' := J3) (by rw [g5]; rfl) ?_
                refine Wp.steps 2 (pc' := 92) (lv' := [some (.ref 0), some (.int x1), some (.int x2), some (.int x3), some (.int x4), some (.int x5)]) (st' := [.int x5, .int x4, .ref 53]) (I' := I3) (J' := J3) rfl ?_
                refine Wp.call (M' := Sh_holds) (as := [.ref 53, .int x4, .int x5]) (rest := []) rfl (CI.use h (fun v4 I4 J4 h => ?_))
                refine Wp.eqs (pc' := 95) (st' := [.int v4]) rfl rfl ?_
                refine Wp.steps 1 (pc' := if v4 = 0 then 98 else 101) (lv' := [some (.ref 0), some (.int x1), some (.int x2), some (.int x3), some (.int x4), some (.int x5)]) (st' := []) (I' := I4) (J' := J4) rfl (Wp.ite (fun h8 => ?_) (fun h8 => ?_))
                · replace h := h.1 h8
                  refine Wp.steps 1 (pc' := 100) (lv' := [some (.ref 0), some (.int x1), some (.int x2), some (.int x3), some (.int x4), some (.int x5)]) (st' := [.int (-13)]) (I' := I4) (J' := J4) rfl ?_
                  exact Wp.ret rfl h
                · replace h := h.2 h8
                  refine Wp.steps 3 (pc' := 106) (lv' := [some (.ref 0), some (.int x1), some (.int x2), some (.int x3), some (.int x4), some (.int x5)]) (st' := [.int x1, .ref 48]) (I' := I4) (J' := J4) rfl ?_
                  refine Wp.steps 1 (pc' := 107) (lv' := [some (.ref 0), some (.int x1), some (.int x2), some (.int x3), some (.int x4), some (.int x5)]) (st' := [.ref 53]) (I' := I4) (J' := J4) (by rw [g3]; rfl) ?_
                  refine Wp.steps 5 (pc' := 116) (lv' := [some (.ref 0), some (.int x1), some (.int x2), some (.int x3), some (.int x4), some (.int x5)]) (st' := [.int x3, .ref 48, .int x2, .ref 54]) (I' := I4) (J' := J4) rfl ?_
                  refine Wp.steps 1 (pc' := 117) (lv' := [some (.ref 0), some (.int x1), some (.int x2), some (.int x3), some (.int x4), some (.int x5)]) (st' := [.ref 53, .int x2, .ref 54]) (I' := I4) (J' := J4) (by rw [g5]; rfl) ?_
                  refine Wp.steps 3 (pc' := 124) (lv' := [some (.ref 0), some (.int x1), some (.int x2), some (.int x3), some (.int x4), some (.int x5)]) (st' := [.int x5, .int x4, .ref 54, .int x2, .ref 54]) (I' := I4) (J' := J4) rfl ?_
                  refine Wp.copyJ rfl rfl rfl rfl rfl h.1 ?_
                  replace h := h.2
                  refine Wp.steps 1 (pc' := 129) (lv' := [some (.ref 0), some (.int x1), some (.int x2), some (.int x3), some (.int x4), some (.int x5)]) (st' := [.int x5]) (I' := I4) (J' := (cpJ J4 54 54 (tN x2) (tN x4) (tN x5))) rfl ?_
                  exact Wp.ret rfl h
            · replace h := h.2 h6
              refine Wp.steps 1 (pc' := 66) (lv' := [some (.ref 0), some (.int x1), some (.int x2), some (.int x3), some (.int x4), some (.int x5)]) (st' := [.int (-12)]) (I' := I2) (J' := J2) rfl ?_
              exact Wp.ret rfl h
          · replace h := h.2.2.2.2 g5
            refine Wp.steps 1 (pc' := 34) (lv' := [some (.ref 0), some (.int x1), some (.int x2), some (.int x3), some (.int x4), some (.int x5)]) (st' := [.ref 55]) (I' := I2) (J' := J2) (by rw [g5]; rfl) ?_
            refine Wp.steps 1 (pc' := 37) (lv' := [some (.ref 0), some (.int x1), some (.int x2), some (.int x3), some (.int x4), some (.int x5)]) (st' := [.int (I2 55 0)]) (I' := I2) (J' := J2) rfl ?_
            refine Wp.steps 1 (pc' := if (I2 55 0) = 0 then 40 else 43) (lv' := [some (.ref 0), some (.int x1), some (.int x2), some (.int x3), some (.int x4), some (.int x5)]) (st' := []) (I' := I2) (J' := J2) rfl (Wp.ite (fun h6 => ?_) (fun h6 => ?_))
            · replace h := h.1 h6
              refine Wp.steps 1 (pc' := 42) (lv' := [some (.ref 0), some (.int x1), some (.int x2), some (.int x3), some (.int x4), some (.int x5)]) (st' := [.int (-11)]) (I' := I2) (J' := J2) rfl ?_
              exact Wp.ret rfl h
            · replace h := h.2 h6
              refine Wp.steps 3 (pc' := 48) (lv' := [some (.ref 0), some (.int x1), some (.int x2), some (.int x3), some (.int x4), some (.int x5)]) (st' := [.int x1, .ref 48]) (I' := I2) (J' := J2) rfl ?_
              refine Wp.steps 1 (pc' := 49) (lv' := [some (.ref 0), some (.int x1), some (.int x2), some (.int x3), some (.int x4), some (.int x5)]) (st' := [.ref 53]) (I' := I2) (J' := J2) (by rw [g3]; rfl) ?_
              refine Wp.steps 4 (pc' := 57) (lv' := [some (.ref 0), some (.int x1), some (.int x2), some (.int x3), some (.int x4), some (.int x5)]) (st' := [.int x3, .ref 48, .int (I2 53 1)]) (I' := I2) (J' := J2) rfl ?_
              refine Wp.steps 1 (pc' := 58) (lv' := [some (.ref 0), some (.int x1), some (.int x2), some (.int x3), some (.int x4), some (.int x5)]) (st' := [.ref 55, .int (I2 53 1)]) (I' := I2) (J' := J2) (by rw [g5]; rfl) ?_
              refine Wp.steps 1 (pc' := 61) (lv' := [some (.ref 0), some (.int x1), some (.int x2), some (.int x3), some (.int x4), some (.int x5)]) (st' := [.int (I2 55 1), .int (I2 53 1)]) (I' := I2) (J' := J2) rfl ?_
              refine Wp.steps 1 (pc' := if (I2 53 1) = (I2 55 1) then 67 else 64) (lv' := [some (.ref 0), some (.int x1), some (.int x2), some (.int x3), some (.int x4), some (.int x5)]) (st' := []) (I' := I2) (J' := J2) rfl (Wp.ite (fun h7 => ?_) (fun h7 => ?_))
              · replace h := h.1 h7
                refine Wp.steps 3 (pc' := 72) (lv' := [some (.ref 0), some (.int x1), some (.int x2), some (.int x3), some (.int x4), some (.int x5)]) (st' := [.int x1, .ref 48]) (I' := I2) (J' := J2) rfl ?_
                refine Wp.steps 1 (pc' := 73) (lv' := [some (.ref 0), some (.int x1), some (.int x2), some (.int x3), some (.int x4), some (.int x5)]) (st' := [.ref 53]) (I' := I2) (J' := J2) (by rw [g3]; rfl) ?_
                refine Wp.steps 2 (pc' := 76) (lv' := [some (.ref 0), some (.int x1), some (.int x2), some (.int x3), some (.int x4), some (.int x5)]) (st' := [.int x5, .int x2, .ref 53]) (I' := I2) (J' := J2) rfl ?_
                refine Wp.call (M' := Sh_holds) (as := [.ref 53, .int x2, .int x5]) (rest := []) rfl (CI.use h (fun v3 I3 J3 h => ?_))
                refine Wp.eqs (pc' := 79) (st' := [.int v3]) rfl rfl ?_
                refine Wp.steps 1 (pc' := if v3 = 0 then 98 else 82) (lv' := [some (.ref 0), some (.int x1), some (.int x2), some (.int x3), some (.int x4), some (.int x5)]) (st' := []) (I' := I3) (J' := J3) rfl (Wp.ite (fun h8 => ?_) (fun h8 => ?_))
                · replace h := h.1 h8
                  refine Wp.steps 1 (pc' := 100) (lv' := [some (.ref 0), some (.int x1), some (.int x2), some (.int x3), some (.int x4), some (.int x5)]) (st' := [.int (-13)]) (I' := I3) (J' := J3) rfl ?_
                  exact Wp.ret rfl h
                · replace h := h.2 h8
                  refine Wp.steps 3 (pc' := 87) (lv' := [some (.ref 0), some (.int x1), some (.int x2), some (.int x3), some (.int x4), some (.int x5)]) (st' := [.int x3, .ref 48]) (I' := I3) (J' := J3) rfl ?_
                  refine Wp.steps 1 (pc' := 88) (lv' := [some (.ref 0), some (.int x1), some (.int x2), some (.int x3), some (.int x4), some (.int x5)]) (st' := [.ref 55]) (I' := I3) (J' := J3) (by rw [g5]; rfl) ?_
                  refine Wp.steps 2 (pc' := 92) (lv' := [some (.ref 0), some (.int x1), some (.int x2), some (.int x3), some (.int x4), some (.int x5)]) (st' := [.int x5, .int x4, .ref 55]) (I' := I3) (J' := J3) rfl ?_
                  refine Wp.call (M' := Sh_holds) (as := [.ref 55, .int x4, .int x5]) (rest := []) rfl (CI.use h (fun v4 I4 J4 h => ?_))
                  refine Wp.eqs (pc' := 95) (st' := [.int v4]) rfl rfl ?_
                  refine Wp.steps 1 (pc' := if v4 = 0 then 98 else 101) (lv' := [some (.ref 0), some (.int x1), some (.int x2), some (.int x3), some (.int x4), some (.int x5)]) (st' := []) (I' := I4) (J' := J4) rfl (Wp.ite (fun h9 => ?_) (fun h9 => ?_))
                  · replace h := h.1 h9
                    refine Wp.steps 1 (pc' := 100) (lv' := [some (.ref 0), some (.int x1), some (.int x2), some (.int x3), some (.int x4), some (.int x5)]) (st' := [.int (-13)]) (I' := I4) (J' := J4) rfl ?_
                    exact Wp.ret rfl h
                  · replace h := h.2 h9
                    refine Wp.steps 3 (pc' := 106) (lv' := [some (.ref 0), some (.int x1), some (.int x2), some (.int x3), some (.int x4), some (.int x5)]) (st' := [.int x1, .ref 48]) (I' := I4) (J' := J4) rfl ?_
                    refine Wp.steps 1 (pc' := 107) (lv' := [some (.ref 0), some (.int x1), some (.int x2), some (.int x3), some (.int x4), some (.int x5)]) (st' := [.ref 53]) (I' := I4) (J' := J4) (by rw [g3]; rfl) ?_
                    refine Wp.steps 5 (pc' := 116) (lv' := [some (.ref 0), some (.int x1), some (.int x2), some (.int x3), some (.int x4), some (.int x5)]) (st' := [.int x3, .ref 48, .int x2, .ref 54]) (I' := I4) (J' := J4) rfl ?_
                    refine Wp.steps 1 (pc' := 117) (lv' := [some (.ref 0), some (.int x1), some (.int x2), some (.int x3), some (.int x4), some (.int x5)]) (st' := [.ref 55, .int x2, .ref 54]) (I' := I4) (J' := J4) (by rw [g5]; rfl) ?_
                    refine Wp.steps 3 (pc' := 124) (lv' := [some (.ref 0), some (.int x1), some (.int x2), some (.int x3), some (.int x4), some (.int x5)]) (st' := [.int x5, .int x4, .ref 56, .int x2, .ref 54]) (I' := I4) (J' := J4) rfl ?_
                    refine Wp.copyJ rfl rfl rfl rfl rfl h.1 ?_
                    replace h := h.2
                    refine Wp.steps 1 (pc' := 129) (lv' := [some (.ref 0), some (.int x1), some (.int x2), some (.int x3), some (.int x4), some (.int x5)]) (st' := [.int x5]) (I' := I4) (J' := (cpJ J4 56 54 (tN x2) (tN x4) (tN x5))) rfl ?_
                    exact Wp.ret rfl h
              · replace h := h.2 h7
                refine Wp.steps 1 (pc' := 66) (lv' := [some (.ref 0), some (.int x1), some (.int x2), some (.int x3), some (.int x4), some (.int x5)]) (st' := [.int (-12)]) (I' := I2) (J' := J2) rfl ?_
                exact Wp.ret rfl h
      · replace h := h.2.2.2.2 g3
        refine Wp.steps 1 (pc' := 22) (lv' := [some (.ref 0), some (.int x1), some (.int x2), some (.int x3), some (.int x4), some (.int x5)]) (st' := [.ref 55]) (I' := I2) (J' := J2) (by rw [g3]; rfl) ?_
        refine Wp.steps 1 (pc' := 25) (lv' := [some (.ref 0), some (.int x1), some (.int x2), some (.int x3), some (.int x4), some (.int x5)]) (st' := [.int (I2 55 0)]) (I' := I2) (J' := J2) rfl ?_
        refine Wp.steps 1 (pc' := if (I2 55 0) = 0 then 40 else 28) (lv' := [some (.ref 0), some (.int x1), some (.int x2), some (.int x3), some (.int x4), some (.int x5)]) (st' := []) (I' := I2) (J' := J2) rfl (Wp.ite (fun h4 => ?_) (fun h4 => ?_))
        · replace h := h.1 h4
          refine Wp.steps 1 (pc' := 42) (lv' := [some (.ref 0), some (.int x1), some (.int x2), some (.int x3), some (.int x4), some (.int x5)]) (st' := [.int (-11)]) (I' := I2) (J' := J2) rfl ?_
          exact Wp.ret rfl h
        · replace h := h.2 h4
          refine Wp.steps 3 (pc' := 33) (lv' := [some (.ref 0), some (.int x1), some (.int x2), some (.int x3), some (.int x4), some (.int x5)]) (st' := [.int x3, .ref 48]) (I' := I2) (J' := J2) rfl ?_
          rcases vp_4 h.1 with g5 | g5 | g5 | g5
          · replace h := h.2.1 g5
            refine Wp.steps 1 (pc' := 34) (lv' := [some (.ref 0), some (.int x1), some (.int x2), some (.int x3), some (.int x4), some (.int x5)]) (st' := [.ref 49]) (I' := I2) (J' := J2) (by rw [g5]; rfl) ?_
            refine Wp.steps 1 (pc' := 37) (lv' := [some (.ref 0), some (.int x1), some (.int x2), some (.int x3), some (.int x4), some (.int x5)]) (st' := [.int (I2 49 0)]) (I' := I2) (J' := J2) rfl ?_
            refine Wp.steps 1 (pc' := if (I2 49 0) = 0 then 40 else 43) (lv' := [some (.ref 0), some (.int x1), some (.int x2), some (.int x3), some (.int x4), some (.int x5)]) (st' := []) (I' := I2) (J' := J2) rfl (Wp.ite (fun h6 => ?_) (fun h6 => ?_))
            · replace h := h.1 h6
              refine Wp.steps 1 (pc' := 42) (lv' := [some (.ref 0), some (.int x1), some (.int x2), some (.int x3), some (.int x4), some (.int x5)]) (st' := [.int (-11)]) (I' := I2) (J' := J2) rfl ?_
              exact Wp.ret rfl h
            · replace h := h.2 h6
              refine Wp.steps 3 (pc' := 48) (lv' := [some (.ref 0), some (.int x1), some (.int x2), some (.int x3), some (.int x4), some (.int x5)]) (st' := [.int x1, .ref 48]) (I' := I2) (J' := J2) rfl ?_
              refine Wp.steps 1 (pc' := 49) (lv' := [some (.ref 0), some (.int x1), some (.int x2), some (.int x3), some (.int x4), some (.int x5)]) (st' := [.ref 55]) (I' := I2) (J' := J2) (by rw [g3]; rfl) ?_
              refine Wp.steps 4 (pc' := 57) (lv' := [some (.ref 0), some (.int x1), some (.int x2), some (.int x3), some (.int x4), some (.int x5)]) (st' := [.int x3, .ref 48, .int (I2 55 1)]) (I' := I2) (J' := J2) rfl ?_
              refine Wp.steps 1 (pc' := 58) (lv' := [some (.ref 0), some (.int x1), some (.int x2), some (.int x3), some (.int x4), some (.int x5)]) (st' := [.ref 49, .int (I2 55 1)]) (I' := I2) (J' := J2) (by rw [g5]; rfl) ?_
              refine Wp.steps 1 (pc' := 61) (lv' := [some (.ref 0), some (.int x1), some (.int x2), some (.int x3), some (.int x4), some (.int x5)]) (st' := [.int (I2 49 1), .int (I2 55 1)]) (I' := I2) (J' := J2) rfl ?_
              refine Wp.steps 1 (pc' := if (I2 55 1) = (I2 49 1) then 67 else 64) (lv' := [some (.ref 0), some (.int x1), some (.int x2), some (.int x3), some (.int x4), some (.int x5)]) (st' := []) (I' := I2) (J' := J2) rfl (Wp.ite (fun h7 => ?_) (fun h7 => ?_))
              · replace h := h.1 h7
                refine Wp.steps 3 (pc' := 72) (lv' := [some (.ref 0), some (.int x1), some (.int x2), some (.int x3), some (.int x4), some (.int x5)]) (st' := [.int x1, .ref 48]) (I' := I2) (J' := J2) rfl ?_
                refine Wp.steps 1 (pc' := 73) (lv' := [some (.ref 0), some (.int x1), some (.int x2), some (.int x3), some (.int x4), some (.int x5)]) (st' := [.ref 55]) (I' := I2) (J' := J2) (by rw [g3]; rfl) ?_
                refine Wp.steps 2 (pc' := 76) (lv' := [some (.ref 0), some (.int x1), some (.int x2), some (.int x3), some (.int x4), some (.int x5)]) (st' := [.int x5, .int x2, .ref 55]) (I' := I2) (J' := J2) rfl ?_
                refine Wp.call (M' := Sh_holds) (as := [.ref 55, .int x2, .int x5]) (rest := []) rfl (CI.use h (fun v3 I3 J3 h => ?_))
                refine Wp.eqs (pc' := 79) (st' := [.int v3]) rfl rfl ?_
                refine Wp.steps 1 (pc' := if v3 = 0 then 98 else 82) (lv' := [some (.ref 0), some (.int x1), some (.int x2), some (.int x3), some (.int x4), some (.int x5)]) (st' := []) (I' := I3) (J' := J3) rfl (Wp.ite (fun h8 => ?_) (fun h8 => ?_))
                · replace h := h.1 h8
                  refine Wp.steps 1 (pc' := 100) (lv' := [some (.ref 0), some (.int x1), some (.int x2), some (.int x3), some (.int x4), some (.int x5)]) (st' := [.int (-13)]) (I' := I3) (J' := J3) rfl ?_
                  exact Wp.ret rfl h
                · replace h := h.2 h8
                  refine Wp.steps 3 (pc' := 87) (lv' := [some (.ref 0), some (.int x1), some (.int x2), some (.int x3), some (.int x4), some (.int x5)]) (st' := [.int x3, .ref 48]) (I' := I3) (J' := J3) rfl ?_
                  refine Wp.steps 1 (pc' := 88) (lv' := [some (.ref 0), some (.int x1), some (.int x2), some (.int x3), some (.int x4), some (.int x5)]) (st' := [.ref 49]) (I' := I3) (J' := J3) (by rw [g5]; rfl) ?_
                  refine Wp.steps 2 (pc' := 92) (lv' := [some (.ref 0), some (.int x1), some (.int x2), some (.int x3), some (.int x4), some (.int x5)]) (st' := [.int x5, .int x4, .ref 49]) (I' := I3) (J' := J3) rfl ?_
                  refine Wp.call (M' := Sh_holds) (as := [.ref 49, .int x4, .int x5]) (rest := []) rfl (CI.use h (fun v4 I4 J4 h => ?_))
                  refine Wp.eqs (pc' := 95) (st' := [.int v4]) rfl rfl ?_
                  refine Wp.steps 1 (pc' := if v4 = 0 then 98 else 101) (lv' := [some (.ref 0), some (.int x1), some (.int x2), some (.int x3), some (.int x4), some (.int x5)]) (st' := []) (I' := I4) (J' := J4) rfl (Wp.ite (fun h9 => ?_) (fun h9 => ?_))
                  · replace h := h.1 h9
                    refine Wp.steps 1 (pc' := 100) (lv' := [some (.ref 0), some (.int x1), some (.int x2), some (.int x3), some (.int x4), some (.int x5)]) (st' := [.int (-13)]) (I' := I4) (J' := J4) rfl ?_
                    exact Wp.ret rfl h
                  · replace h := h.2 h9
                    refine Wp.steps 3 (pc' := 106) (lv' := [some (.ref 0), some (.int x1), some (.int x2), some (.int x3), some (.int x4), some (.int x5)]) (st' := [.int x1, .ref 48]) (I' := I4) (J' := J4) rfl ?_
                    refine Wp.steps 1 (pc' := 107) (lv' := [some (.ref 0), some (.int x1), some (.int x2), some (.int x3), some (.int x4), some (.int x5)]) (st' := [.ref 55]) (I' := I4) (J' := J4) (by rw [g3]; rfl) ?_
                    refine Wp.steps 5 (pc' := 116) (lv' := [some (.ref 0), some (.int x1), some (.int x2), some (.int x3), some (.int x4), some (.int x5)]) (st' := [.int x3, .ref 48, .int x2, .ref 56]) (I' := I4) (J' := J4) rfl ?_
                    refine Wp.steps 1 (pc' := 117) (lv' := [some (.ref 0), some (.int x1), some (.int x2), some (.int x3), some (.int x4), some (.int x5)]) (st' := [.ref 49, .int x2, .ref 56]) (I' := I4) (J' := J4) (by rw [g5]; rfl) ?_
                    refine Wp.steps 3 (pc' := 124) (lv' := [some (.ref 0), some (.int x1), some (.int x2), some (.int x3), some (.int x4), some (.int x5)]) (st' := [.int x5, .int x4, .ref 50, .int x2, .ref 56]) (I' := I4) (J' := J4) rfl ?_
                    refine Wp.copyJ rfl rfl rfl rfl rfl h.1 ?_
                    replace h := h.2
                    refine Wp.steps 1 (pc' := 129) (lv' := [some (.ref 0), some (.int x1), some (.int x2), some (.int x3), some (.int x4), some (.int x5)]) (st' := [.int x5]) (I' := I4) (J' := (cpJ J4 50 56 (tN x2) (tN x4) (tN x5))) rfl ?_
                    exact Wp.ret rfl h
              · replace h := h.2 h7
                refine Wp.steps 1 (pc' := 66) (lv' := [some (.ref 0), some (.int x1), some (.int x2), some (.int x3), some (.int x4), some (.int x5)]) (st' := [.int (-12)]) (I' := I2) (J' := J2) rfl ?_
                exact Wp.ret rfl h
          · replace h := h.2.2.1 g5
            refine Wp.steps 1 (pc' := 34) (lv' := [some (.ref 0), some (.int x1), some (.int x2), some (.int x3), some (.int x4), some (.int x5)]) (st' := [.ref 51]) (I' := I2) (J' := J2) (by rw [g5]; rfl) ?_
            refine Wp.steps 1 (pc' := 37) (lv' := [some (.ref 0), some (.int x1), some (.int x2), some (.int x3), some (.int x4), some (.int x5)]) (st' := [.int (I2 51 0)]) (I' := I2) (J' := J2) rfl ?_
            refine Wp.steps 1 (pc' := if (I2 51 0) = 0 then 40 else 43) (lv' := [some (.ref 0), some (.int x1), some (.int x2), some (.int x3), some (.int x4), some (.int x5)]) (st' := []) (I' := I2) (J' := J2) rfl (Wp.ite (fun h6 => ?_) (fun h6 => ?_))
            · replace h := h.1 h6
              refine Wp.steps 1 (pc' := 42) (lv' := [some (.ref 0), some (.int x1), some (.int x2), some (.int x3), some (.int x4), some (.int x5)]) (st' := [.int (-11)]) (I' := I2) (J' := J2) rfl ?_
              exact Wp.ret rfl h
            · replace h := h.2 h6
              refine Wp.steps 3 (pc' := 48) (lv' := [some (.ref 0), some (.int x1), some (.int x2), some (.int x3), some (.int x4), some (.int x5)]) (st' := [.int x1, .ref 48]) (I' := I2) (J' := J2) rfl ?_
              refine Wp.steps 1 (pc' := 49) (lv' := [some (.ref 0), some (.int x1), some (.int x2), some (.int x3), some (.int x4), some (.int x5)]) (st' := [.ref 55]) (I' := I2) (J' := J2) (by rw [g3]; rfl) ?_
              refine Wp.steps 4 (pc' := 57) (lv' := [some (.ref 0), some (.int x1), some (.int x2), some (.int x3), some (.int x4), some (.int x5)]) (st' := [.int x3, .ref 48, .int (I2 55 1)]) (I' := I2) (J' := J2) rfl ?_
              refine Wp.steps 1 (pc' := 58) (lv' := [some (.ref 0), some (.int x1), some (.int x2), some (.int x3), some (.int x4), some (.int x5)]) (st' := [.ref 51, .int (I2 55 1)]) (I' := I2) (J' := J2) (by rw [g5]; rfl) ?_
              refine Wp.steps 1 (pc' := 61) (lv' := [some (.ref 0), some (.int x1), some (.int x2), some (.int x3), some (.int x4), some (.int x5)]) (st' := [.int (I2 51 1), .int (I2 55 1)]) (I' := I2) (J' := J2) rfl ?_
              refine Wp.steps 1 (pc' := if (I2 55 1) = (I2 51 1) then 67 else 64) (lv' := [some (.ref 0), some (.int x1), some (.int x2), some (.int x3), some (.int x4), some (.int x5)]) (st' := []) (I' := I2) (J' := J2) rfl (Wp.ite (fun h7 => ?_) (fun h7 => ?_))
              · replace h := h.1 h7
                refine Wp.steps 3 (pc' := 72) (lv' := [some (.ref 0), some (.int x1), some (.int x2), some (.int x3), some (.int x4), some (.int x5)]) (st' := [.int x1, .ref 48]) (I' := I2) (J' := J2) rfl ?_
                refine Wp.steps 1 (pc' := 73) (lv' := [some (.ref 0), some (.int x1), some (.int x2), some (.int x3), some (.int x4), some (.int x5)]) (st' := [.ref 55]) (I' := I2) (J' := J2) (by rw [g3]; rfl) ?_
                refine Wp.steps 2 (pc' := 76) (lv' := [some (.ref 0), some (.int x1), some (.int x2), some (.int x3), some (.int x4), some (.int x5)]) (st' := [.int x5, .int x2, .ref 55]) (I' := I2) (J' := J2) rfl ?_
                refine Wp.call (M' := Sh_holds) (as := [.ref 55, .int x2, .int x5]) (rest := []) rfl (CI.use h (fun v3 I3 J3 h => ?_))
                refine Wp.eqs (pc' := 79) (st' := [.int v3]) rfl rfl ?_
                refine Wp.steps 1 (pc' := if v3 = 0 then 98 else 82) (lv' := [some (.ref 0), some (.int x1), some (.int x2), some (.int x3), some (.int x4), some (.int x5)]) (st' := []) (I' := I3) (J' := J3) rfl (Wp.ite (fun h8 => ?_) (fun h8 => ?_))
                · replace h := h.1 h8
                  refine Wp.steps 1 (pc' := 100) (lv' := [some (.ref 0), some (.int x1), some (.int x2), some (.int x3), some (.int x4), some (.int x5)]) (st' := [.int (-13)]) (I' := I3) (J' := J3) rfl ?_
                  exact Wp.ret rfl h
                · replace h := h.2 h8
                  refine Wp.steps 3 (pc' := 87) (lv' := [some (.ref 0), some (.int x1), some (.int x2), some (.int x3), some (.int x4), some (.int x5)]) (st' := [.int x3, .ref 48]) (I' := I3) (J' := J3) rfl ?_
                  refine Wp.steps 1 (pc' := 88) (lv' := [some (.ref 0), some (.int x1), some (.int x2), some (.int x3), some (.int x4), some (.int x5)]) (st' := [.ref 51]) (I' := I3) (J' := J3) (by rw [g5]; rfl) ?_
                  refine Wp.steps 2 (pc' := 92) (lv' := [some (.ref 0), some (.int x1), some (.int x2), some (.int x3), some (.int x4), some (.int x5)]) (st' := [.int x5, .int x4, .ref 51]) (I' := I3) (J' := J3) rfl ?_
                  refine Wp.call (M' := Sh_holds) (as := [.ref 51, .int x4, .int x5]) (rest := []) rfl (CI.use h (fun v4 I4 J4 h => ?_))
                  refine Wp.eqs (pc' := 95) (st' := [.int v4]) rfl rfl ?_
                  refine Wp.steps 1 (pc' := if v4 = 0 then 98 else 101) (lv' := [some (.ref 0), some (.int x1), some (.int x2), some (.int x3), some (.int x4), some (.int x5)]) (st' := []) (I' := I4) (J' := J4) rfl (Wp.ite (fun h9 => ?_) (fun h9 => ?_))
                  · replace h := h.1 h9
                    refine Wp.steps 1 (pc' := 100) (lv' := [some (.ref 0), some (.int x1), some (.int x2), some (.int x3), some (.int x4), some (.int x5)]) (st' := [.int (-13)]) (I' := I4) (J' := J4) rfl ?_
                    exact Wp.ret rfl h
                  · replace h := h.2 h9
                    refine Wp.steps 3 (pc' := 106) (lv' := [some (.ref 0), some (.int x1), some (.int x2), some (.int x3), some (.int x4), some (.int x5)]) (st' := [.int x1, .ref 48]) (I' := I4) (J' := J4) rfl ?_
                    refine Wp.steps 1 (pc' := 107) (lv' := [some (.ref 0), some (.int x1), some (.int x2), some (.int x3), some (.int x4), some (.int x5)]) (st' := [.ref 55]) (I' := I4) (J' := J4) (by rw [g3]; rfl) ?_
                    refine Wp.steps 5 (pc' := 116) (lv' := [some (.ref 0), some (.int x1), some (.int x2), some (.int x3), some (.int x4), some (.int x5)]) (st' := [.int x3, .ref 48, .int x2, .ref 56]) (I' := I4) (J' := J4) rfl ?_
                    refine Wp.steps 1 (pc' := 117) (lv' := [some (.ref 0), some (.int x1), some (.int x2), some (.int x3), some (.int x4), some (.int x5)]) (st' := [.ref 51, .int x2, .ref 56]) (I' := I4) (J' := J4) (by rw [g5]; rfl) ?_
                    refine Wp.steps 3 (pc' := 124) (lv' := [some (.ref 0), some (.int x1), some (.int x2), some (.int x3), some (.int x4), some (.int x5)]) (st' := [.int x5, .int x4, .ref 52, .int x2, .ref 56]) (I' := I4) (J' := J4) rfl ?_
                    refine Wp.copyJ rfl rfl rfl rfl rfl h.1 ?_
                    replace h := h.2
                    refine Wp.steps 1 (pc' := 129) (lv' := [some (.ref 0), some (.int x1), some (.int x2), some (.int x3), some (.int x4), some (.int x5)]) (st' := [.int x5]) (I' := I4) (J' := (cpJ J4 52 56 (tN x2) (tN x4) (tN x5))) rfl ?_
                    exact Wp.ret rfl h
              · replace h := h.2 h7
                refine Wp.steps 1 (pc' := 66) (lv' := [some (.ref 0), some (.int x1), some (.int x2), some (.int x3), some (.int x4), some (.int x5)]) (st' := [.int (-12)]) (I' := I2) (J' := J2) rfl ?_
                exact Wp.ret rfl h
          · replace h := h.2.2.2.1 g5
            refine Wp.steps 1 (pc' := 34) (lv' := [some (.ref 0), some (.int x1), some (.int x2), some (.int x3), some (.int x4), some (.int x5)]) (st' := [.ref 53]) (I' := I2) (J' := J2) (by rw [g5]; rfl) ?_
            refine Wp.steps 1 (pc' := 37) (lv' := [some (.ref 0), some (.int x1), some (.int x2), some (.int x3), some (.int x4), some (.int x5)]) (st' := [.int (I2 53 0)]) (I' := I2) (J' := J2) rfl ?_
            refine Wp.steps 1 (pc' := if (I2 53 0) = 0 then 40 else 43) (lv' := [some (.ref 0), some (.int x1), some (.int x2), some (.int x3), some (.int x4), some (.int x5)]) (st' := []) (I' := I2) (J' := J2) rfl (Wp.ite (fun h6 => ?_) (fun h6 => ?_))
            · replace h := h.1 h6
              refine Wp.steps 1 (pc' := 42) (lv' := [some (.ref 0), some (.int x1), some (.int x2), some (.int x3), some (.int x4), some (.int x5)]) (st' := [.int (-11)]) (I' := I2) (J' := J2) rfl ?_
              exact Wp.ret rfl h
            · replace h := h.2 h6
              refine Wp.steps 3 (pc' := 48) (lv' := [some (.ref 0), some (.int x1), some (.int x2), some (.int x3), some (.int x4), some (.int x5)]) (st' := [.int x1, .ref 48]) (I' := I2) (J' := J2) rfl ?_
              refine Wp.steps 1 (pc' := 49) (lv' := [some (.ref 0), some (.int x1), some (.int x2), some (.int x3), some (.int x4), some (.int x5)]) (st' := [.ref 55]) (I' := I2) (J' := J2) (by rw [g3]; rfl) ?_
              refine Wp.steps 4 (pc' := 57) (lv' := [some (.ref 0), some (.int x1), some (.int x2), some (.int x3), some (.int x4), some (.int x5)]) (st' := [.int x3, .ref 48, .int (I2 55 1)]) (I' := I2) (J' := J2) rfl ?_
              refine Wp.steps 1 (pc' := 58) (lv' := [some (.ref 0), some (.int x1), some (.int x2), some (.int x3), some (.int x4), some (.int x5)]) (st' := [.ref 53, .int (I2 55 1)]) (I' := I2) (J' := J2) (by rw [g5]; rfl) ?_
              refine Wp.steps 1 (pc' := 61) (lv' := [some (.ref 0), some (.int x1), some (.int x2), some (.int x3), some (.int x4), some (.int x5)]) (st' := [.int (I2 53 1), .int (I2 55 1)]) (I' := I2) (J' := J2) rfl ?_
              refine Wp.steps 1 (pc' := if (I2 55 1) = (I2 53 1) then 67 else 64) (lv' := [some (.ref 0), some (.int x1), some (.int x2), some (.int x3), some (.int x4), some (.int x5)]) (st' := []) (I' := I2) (J' := J2) rfl (Wp.ite (fun h7 => ?_) (fun h7 => ?_))
              · replace h := h.1 h7
                refine Wp.steps 3 (pc' := 72) (lv' := [some (.ref 0), some (.int x1), some (.int x2), some (.int x3), some (.int x4), some (.int x5)]) (st' := [.int x1, .ref 48]) (I' := I2) (J' := J2) rfl ?_
                refine Wp.steps 1 (pc' := 73) (lv' := [some (.ref 0), some (.int x1), some (.int x2), some (.int x3), some (.int x4), some (.int x5)]) (st' := [.ref 55]) (I' := I2) (J' := J2) (by rw [g3]; rfl) ?_
                refine Wp.steps 2 (pc' := 76) (lv' := [some (.ref 0), some (.int x1), some (.int x2), some (.int x3), some (.int x4), some (.int x5)]) (st' := [.int x5, .int x2, .ref 55]) (I' := I2) (J' := J2) rfl ?_
                refine Wp.call (M' := Sh_holds) (as := [.ref 55, .int x2, .int x5]) (rest := []) rfl (CI.use h (fun v3 I3 J3 h => ?_))
                refine Wp.eqs (pc' := 79) (st' := [.int v3]) rfl rfl ?_
                refine Wp.steps 1 (pc' := if v3 = 0 then 98 else 82) (lv' := [some (.ref 0), some (.int x1), some (.int x2), some (.int x3), some (.int x4), some (.int x5)]) (st' := []) (I' := I3) (J' := J3) rfl (Wp.ite (fun h8 => ?_) (fun h8 => ?_))
                · replace h := h.1 h8
                  refine Wp.steps 1 (pc' := 100) (lv' := [some (.ref 0), some (.int x1), some (.int x2), some (.int x3), some (.int x4), some (.int x5)]) (st' := [.int (-13)]) (I' := I3) (J' := J3) rfl ?_
                  exact Wp.ret rfl h
                · replace h := h.2 h8
                  refine Wp.steps 3 (pc' := 87) (lv' := [some (.ref 0), some (.int x1), some (.int x2), some (.int x3), some (.int x4), some (.int x5)]) (st' := [.int x3, .ref 48]) (I' := I3) (J' := J3) rfl ?_
                  refine Wp.steps 1 (pc' := 88) (lv' := [some (.ref 0), some (.int x1), some (.int x2), some (.int x3), some (.int x4), some (.int x5)]) (st' := [.ref 53]) (I' := I3) (J' := J3) (by rw [g5]; rfl) ?_
                  refine Wp.steps 2 (pc' := 92) (lv' := [some (.ref 0), some (.int x1), some (.int x2), some (.int x3), some (.int x4), some (.int x5)]) (st' := [.int x5, .int x4, .ref 53]) (I' := I3) (J' := J3) rfl ?_
                  refine Wp.call (M' := Sh_holds) (as := [.ref 53, .int x4, .int x5]) (rest := []) rfl (CI.use h (fun v4 I4 J4 h => ?_))
                  refine Wp.eqs (pc' := 95) (st' := [.int v4]) rfl rfl ?_
                  refine Wp.steps 1 (pc' := if v4 = 0 then 98 else 101) (lv' := [some (.ref 0), some (.int x1), some (.int x2), some (.int x3), some (.int x4), some (.int x5)]) (st' := []) (I' := I4) (J' := J4) rfl (Wp.ite (fun h9 => ?_) (fun h9 => ?_))
                  · replace h := h.1 h9
                    refine Wp.steps 1 (pc' := 100) (lv' := [some (.ref 0), some (.int x1), some (.int x2), some (.int x3), some (.int x4), some (.int x5)]) (st' := [.int (-13)]) (I' := I4) (J' := J4) rfl ?_
                    exact Wp.ret rfl h
                  · replace h := h.2 h9
                    refine Wp.steps 3 (pc' := 106) (lv' := [some (.ref 0), some (.int x1), some (.int x2), some (.int x3), some (.int x4), some (.int x5)]) (st' := [.int x1, .ref 48]) (I' := I4) (J' := J4) rfl ?_
                    refine Wp.steps 1 (pc' := 107) (lv' := [some (.ref 0), some (.int x1), some (.int x2), some (.int x3), some (.int x4), some (.int x5)]) (st' := [.ref 55]) (I' := I4) (J' := J4) (by rw [g3]; rfl) ?_
                    refine Wp.steps 5 (pc' := 116) (lv' := [some (.ref 0), some (.int x1), some (.int x2), some (.int x3), some (.int x4), some (.int x5)]) (st' := [.int x3, .ref 48, .int x2, .ref 56]) (I' := I4) (J' := J4) rfl ?_
                    refine Wp.steps 1 (pc' := 117) (lv' := [some (.ref 0), some (.int x1), some (.int x2), some (.int x3), some (.int x4), some (.int x5)]) (st' := [.ref 53, .int x2, .ref 56]) (I' := I4) (J' := J4) (by rw [g5]; rfl) ?_
                    refine Wp.steps 3 (pc' := 124) (lv' := [some (.ref 0), some (.int x1), some (.int x2), some (.int x3), some (.int x4), some (.int x5)]) (st' := [.int x5, .int x4, .ref 54, .int x2, .ref 56]) (I' := I4) (J' := J4) rfl ?_
                    refine Wp.copyJ rfl rfl rfl rfl rfl h.1 ?_
                    replace h := h.2
                    refine Wp.steps 1 (pc' := 129) (lv' := [some (.ref 0), some (.int x1), some (.int x2), some (.int x3), some (.int x4), some (.int x5)]) (st' := [.int x5]) (I' := I4) (J' := (cpJ J4 54 56 (tN x2) (tN x4) (tN x5))) rfl ?_
                    exact Wp.ret rfl h
              · replace h := h.2 h7
                refine Wp.steps 1 (pc' := 66) (lv' := [some (.ref 0), some (.int x1), some (.int x2), some (.int x3), some (.int x4), some (.int x5)]) (st' := [.int (-12)]) (I' := I2) (J' := J2) rfl ?_
                exact Wp.ret rfl h
          · replace h := h.2.2.2.2 g5
            refine Wp.steps 1 (pc' := 34) (lv' := [some (.ref 0), some (.int x1), some (.int x2), some (.int x3), some (.int x4), some (.int x5)]) (st' := [.ref 55]) (I' := I2) (J' := J2) (by rw [g5]; rfl) ?_
            refine Wp.steps 1 (pc' := 37) (lv' := [some (.ref 0), some (.int x1), some (.int x2), some (.int x3), some (.int x4), some (.int x5)]) (st' := [.int (I2 55 0)]) (I' := I2) (J' := J2) rfl ?_
            refine Wp.steps 1 (pc' := if (I2 55 0) = 0 then 40 else 43) (lv' := [some (.ref 0), some (.int x1), some (.int x2), some (.int x3), some (.int x4), some (.int x5)]) (st' := []) (I' := I2) (J' := J2) rfl ?_
            rw [if_neg h4]
            refine Wp.steps 3 (pc' := 48) (lv' := [some (.ref 0), some (.int x1), some (.int x2), some (.int x3), some (.int x4), some (.int x5)]) (st' := [.int x1, .ref 48]) (I' := I2) (J' := J2) rfl ?_
            refine Wp.steps 1 (pc' := 49) (lv' := [some (.ref 0), some (.int x1), some (.int x2), some (.int x3), some (.int x4), some (.int x5)]) (st' := [.ref 55]) (I' := I2) (J' := J2) (by rw [g3]; rfl) ?_
            refine Wp.steps 4 (pc' := 57) (lv' := [some (.ref 0), some (.int x1), some (.int x2), some (.int x3), some (.int x4), some (.int x5)]) (st' := [.int x3, .ref 48, .int (I2 55 1)]) (I' := I2) (J' := J2) rfl ?_
            refine Wp.steps 1 (pc' := 58) (lv' := [some (.ref 0), some (.int x1), some (.int x2), some (.int x3), some (.int x4), some (.int x5)]) (st' := [.ref 55, .int (I2 55 1)]) (I' := I2) (J' := J2) (by rw [g5]; rfl) ?_
            refine Wp.steps 1 (pc' := 61) (lv' := [some (.ref 0), some (.int x1), some (.int x2), some (.int x3), some (.int x4), some (.int x5)]) (st' := [.int (I2 55 1), .int (I2 55 1)]) (I' := I2) (J' := J2) rfl ?_
            refine Wp.steps 1 (pc' := if (I2 55 1) = (I2 55 1) then 67 else 64) (lv' := [some (.ref 0), some (.int x1), some (.int x2), some (.int x3), some (.int x4), some (.int x5)]) (st' := []) (I' := I2) (J' := J2) rfl (Wp.ite (fun h6 => ?_) (fun h6 => ?_))
            · replace h := h.1 h6
              refine Wp.steps 3 (pc' := 72) (lv' := [some (.ref 0), some (.int x1), some (.int x2), some (.int x3), some (.int x4), some (.int x5)]) (st' := [.int x1, .ref 48]) (I' := I2) (J' := J2) rfl ?_
              refine Wp.steps 1 (pc' := 73) (lv' := [some (.ref 0), some (.int x1), some (.int x2), some (.int x3), some (.int x4), some (.int x5)]) (st' := [.ref 55]) (I' := I2) (J' := J2) (by rw [g3]; rfl) ?_
              refine Wp.steps 2 (pc' := 76) (lv' := [some (.ref 0), some (.int x1), some (.int x2), some (.int x3), some (.int x4), some (.int x5)]) (st' := [.int x5, .int x2, .ref 55]) (I' := I2) (J' := J2) rfl ?_
              refine Wp.call (M' := Sh_holds) (as := [.ref 55, .int x2, .int x5]) (rest := []) rfl (CI.use h (fun v3 I3 J3 h => ?_))
              refine Wp.eqs (pc' := 79) (st' := [.int v3]) rfl rfl ?_
              refine Wp.steps 1 (pc' := if v3 = 0 then 98 else 82) (lv' := [some (.ref 0), some (.int x1), some (.int x2), some (.int x3), some (.int x4), some (.int x5)]) (st' := []) (I' := I3) (J' := J3) rfl (Wp.ite (fun h7 => ?_) (fun h7 => ?_))
              · replace h := h.1 h7
                refine Wp.steps 1 (pc' := 100) (lv' := [some (.ref 0), some (.int x1), some (.int x2), some (.int x3), some (.int x4), some (.int x5)]) (st' := [.int (-13)]) (I' := I3) (J' := J3) rfl ?_
                exact Wp.ret rfl h
              · replace h := h.2 h7
                refine Wp.steps 3 (pc' := 87) (lv' := [some (.ref 0), some (.int x1), some (.int x2), some (.int x3), some (.int x4), some (.int x5)]) (st' := [.int x3, .ref 48]) (I' := I3) (J' := J3) rfl ?_
                refine Wp.steps 1 (pc' := 88) (lv' := [some (.ref 0), some (.int x1), some (.int x2), some (.int x3), some (.int x4), some (.int x5)]) (st' := [.ref 55]) (I' := I3) (J' := J3) (by rw [g5]; rfl) ?_
                refine Wp.steps 2 (pc' := 92) (lv' := [some (.ref 0), some (.int x1), some (.int x2), some (.int x3), some (.int x4), some (.int x5)]) (st' := [.int x5, .int x4, .ref 55]) (I' := I3) (J' := J3) rfl ?_
                refine Wp.call (M' := Sh_holds) (as := [.ref 55, .int x4, .int x5]) (rest := []) rfl (CI.use h (fun v4 I4 J4 h => ?_))
                refine Wp.eqs (pc' := 95) (st' := [.int v4]) rfl rfl ?_
                refine Wp.steps 1 (pc' := if v4 = 0 then 98 else 101) (lv' := [some (.ref 0), some (.int x1), some (.int x2), some (.int x3), some (.int x4), some (.int x5)]) (st' := []) (I' := I4) (J' := J4) rfl (Wp.ite (fun h8 => ?_) (fun h8 => ?_))
                · replace h := h.1 h8
                  refine Wp.steps 1 (pc' := 100) (lv' := [some (.ref 0), some (.int x1), some (.int x2), some (.int x3), some (.int x4), some (.int x5)]) (st' := [.int (-13)]) (I' := I4) (J' := J4) rfl ?_
                  exact Wp.ret rfl h
                · replace h := h.2 h8
                  refine Wp.steps 3 (pc' := 106) (lv' := [some (.ref 0), some (.int x1), some (.int x2), some (.int x3), some (.int x4), some (.int x5)]) (st' := [.int x1, .ref 48]) (I' := I4) (J' := J4) rfl ?_
                  refine Wp.steps 1 (pc' := 107) (lv' := [some (.ref 0), some (.int x1), some (.int x2), some (.int x3), some (.int x4), some (.int x5)]) (st' := [.ref 55]) (I' := I4) (J' := J4) (by rw [g3]; rfl) ?_
                  refine Wp.steps 5 (pc' := 116) (lv' := [some (.ref 0), some (.int x1), some (.int x2), some (.int x3), some (.int x4), some (.int x5)]) (st' := [.int x3, .ref 48, .int x2, .ref 56]) (I' := I4) (J' := J4) rfl ?_
                  refine Wp.steps 1 (pc' := 117) (lv' := [some (.ref 0), some (.int x1), some (.int x2), some (.int x3), some (.int x4), some (.int x5)]) (st' := [.ref 55, .int x2, .ref 56]) (I' := I4) (J' := J4) (by rw [g5]; rfl) ?_
                  refine Wp.steps 3 (pc' := 124) (lv' := [some (.ref 0), some (.int x1), some (.int x2), some (.int x3), some (.int x4), some (.int x5)]) (st' := [.int x5, .int x4, .ref 56, .int x2, .ref 56]) (I' := I4) (J' := J4) rfl ?_
                  refine Wp.copyJ rfl rfl rfl rfl rfl h.1 ?_
                  replace h := h.2
                  refine Wp.steps 1 (pc' := 129) (lv' := [some (.ref 0), some (.int x1), some (.int x2), some (.int x3), some (.int x4), some (.int x5)]) (st' := [.int x5]) (I' := I4) (J' := (cpJ J4 56 56 (tN x2) (tN x4) (tN x5))) rfl ?_
                  exact Wp.ret rfl h
            · replace h := h.2 h6
              refine Wp.steps 1 (pc' := 66) (lv' := [some (.ref 0), some (.int x1), some (.int x2), some (.int x3), some (.int x4), some (.int x5)]) (st' := [.int (-12)]) (I' := I2) (J' := J2) rfl ?_
              exact Wp.ret rfl h
theorem v_Sb_placeIn_0 {d : Nat} {Q : Post} {I : I2} {J : J2} {x0 : Int32} {x1 : Int32} (h : Q (some (.int ((srI x0 (2 * x1)) &&& 3))) I J) : Wp d Sb_placeIn Q 0 [some (.int x0), some (.int x1)] [] I J := by
  refine Wp.steps 7 (pc' := 7) (lv' := [some (.int x0), some (.int x1)]) (st' := [.int ((srI x0 (2 * x1)) &&& 3)]) (I' := I) (J' := J) rfl ?_
  exact Wp.ret rfl h
theorem v_Sb_bit_0 {d : Nat} {Q : Post} {I : I2} {J : J2} {x0 : Int32} (h : (x0 = 0 → Q (some (.int 0)) I J) ∧ (¬ (x0 = 0) → Q (some (.int 1)) I J)) : Wp d Sb_bit Q 0 [some (.int x0)] [] I J := by
  refine Wp.steps 1 (pc' := 1) (lv' := [some (.int x0)]) (st' := [.int x0]) (I' := I) (J' := J) rfl ?_
  refine Wp.steps 1 (pc' := if x0 = 0 then 8 else 4) (lv' := [some (.int x0)]) (st' := []) (I' := I) (J' := J) rfl (Wp.ite (fun h1 => ?_) (fun h1 => ?_))
  · replace h := h.1 h1
    refine Wp.steps 1 (pc' := 9) (lv' := [some (.int x0)]) (st' := [.int 0]) (I' := I) (J' := J) rfl ?_
    exact Wp.ret rfl h
  · replace h := h.2 h1
    refine Wp.steps 2 (pc' := 9) (lv' := [some (.int x0)]) (st' := [.int 1]) (I' := I) (J' := J) rfl ?_
    exact Wp.ret rfl h
theorem v_Sb_opensWith_0_0 {d : Nat} {Q : Post} {I : I2} {J : J2} {x1 : Int32} (h : CV d Wk_from [.ref 33, .int (I 1 9), .int x1] I J (fun I1 J1 => CI d Wk_firstOpen [.ref 33] I1 J1 (fun v2 I2 J2 => CI d Wk_told [.ref 33, .int v2, .int (-1)] I2 J2 (fun v3 I3 J3 => Q (some (.int v3)) I3 J3)))) : Wp d Sb_opensWith Q 0 [some (.ref 0), some (.int x1)] [] I J := by
  refine Wp.steps 6 (pc' := 12) (lv' := [some (.ref 0), some (.int x1)]) (st' := [.int x1, .int (I 1 9), .ref 33]) (I' := I) (J' := J) rfl ?_
  refine Wp.call (M' := Wk_from) (as := [.ref 33, .int (I 1 9), .int x1]) (rest := []) rfl (CV.use h (fun I1 J1 h => ?_))
  refine Wp.eqs (pc' := 15) (st' := []) rfl rfl ?_
  refine Wp.steps 4 (pc' := 23) (lv' := [some (.ref 0), some (.int x1)]) (st' := [.ref 33, .ref 33]) (I' := I1) (J' := J1) rfl ?_
  refine Wp.call (M' := Wk_firstOpen) (as := [.ref 33]) (rest := [.ref 33]) rfl (CI.use h (fun v2 I2 J2 h => ?_))
  refine Wp.eqs (pc' := 26) (st' := [.int v2, .ref 33]) rfl rfl ?_
  refine Wp.steps 1 (pc' := 27) (lv' := [some (.ref 0), some (.int x1)]) (st' := [.int (-1), .int v2, .ref 33]) (I' := I2) (J' := J2) rfl ?_
  refine Wp.call (M' := Wk_told) (as := [.ref 33, .int v2, .int (-1)]) (rest := []) rfl (CI.use h (fun v3 I3 J3 h => ?_))
  refine Wp.eqs (pc' := 30) (st' := [.int v3]) rfl rfl ?_
  exact Wp.ret rfl h
theorem v_Sb_openShares_1_0 {d : Nat} {Q : Post} {I : I2} {J : J2} {x1 : Int32} {x2 : Int32} (h : CI d Bx_isOpen [.ref 1, .int x1] I J (fun v1 I1 J1 => (v1 = 0 → (0 < x2 → Wp d Sb_openShares Q 27 [some (.ref 1), some (.int x1), some (.int x2), some (.long 0), none, some (.int 0), some (.int 0)] [] I1 J1) ∧ (¬ (0 < x2) → Q (some (.long 0)) I1 J1)) ∧ (¬ (v1 = 0) → CL d Sb_evenShares [.int x2] I1 J1 (fun v2 I2 J2 => Q (some (.long v2)) I2 J2)))) : Wp d Sb_openShares Q 0 [some (.ref 1), some (.int x1), some (.int x2), none, none, none, none] [] I J := by
  refine Wp.steps 2 (pc' := 2) (lv' := [some (.ref 1), some (.int x1), some (.int x2), none, none, none, none]) (st' := [.int x1, .ref 1]) (I' := I) (J' := J) rfl ?_
  refine Wp.call (M' := Bx_isOpen) (as := [.ref 1, .int x1]) (rest := []) rfl (CI.use h (fun v1 I1 J1 h => ?_))
  refine Wp.eqs (pc' := 5) (st' := [.int v1]) rfl rfl ?_
  refine Wp.steps 1 (pc' := if v1 = 0 then 13 else 8) (lv' := [some (.ref 1), some (.int x1), some (.int x2), none, none, none, none]) (st' := []) (I' := I1) (J' := J1) rfl (Wp.ite (fun h1 => ?_) (fun h1 => ?_))
  · replace h := h.1 h1
    refine Wp.steps 1 (pc' := 14) (lv' := [some (.ref 1), some (.int x1), some (.int x2), none, none, none, none]) (st' := [.int x2]) (I' := I1) (J' := J1) rfl ?_
    refine Wp.steps 1 (pc' := if 0 < x2 then 19 else 17) (lv' := [some (.ref 1), some (.int x1), some (.int x2), none, none, none, none]) (st' := []) (I' := I1) (J' := J1) rfl (Wp.ite (fun h2 => ?_) (fun h2 => ?_))
    · replace h := h.1 h2
      refine Wp.steps 6 (pc' := 27) (lv' := [some (.ref 1), some (.int x1), some (.int x2), some (.long 0), none, some (.int 0), some (.int 0)]) (st' := []) (I' := I1) (J' := J1) rfl ?_
      exact h
    · replace h := h.2 h2
      refine Wp.steps 1 (pc' := 18) (lv' := [some (.ref 1), some (.int x1), some (.int x2), none, none, none, none]) (st' := [.long 0]) (I' := I1) (J' := J1) rfl ?_
      exact Wp.ret rfl h
  · replace h := h.2 h1
    refine Wp.steps 1 (pc' := 9) (lv' := [some (.ref 1), some (.int x1), some (.int x2), none, none, none, none]) (st' := [.int x2]) (I' := I1) (J' := J1) rfl ?_
    refine Wp.call (M' := Sb_evenShares) (as := [.int x2]) (rest := []) rfl (CL.use h (fun v2 I2 J2 h => ?_))
    refine Wp.eqs (pc' := 12) (st' := [.long v2]) rfl rfl ?_
    exact Wp.ret rfl h
theorem v_Sb_openShares_1_27 {d : Nat} {Q : Post} {I : I2} {J : J2} {x1 : Int32} {x2 : Int32} {x3 : Int64} {x5 : Int32} {x6 : Int32} (h : (x6 < (2 * (I 1 2)) → CI d Bx_maySlide [.ref 1, .int x1, .int (I 1 10), .int (srI x6 1), .int (x6 &&& 1)] I J (fun v1 I1 J1 => (v1 = 0 → Wp d Sb_openShares Q 27 [some (.ref 1), some (.int x1), some (.int x2), some (.long x3), none, some (.int x5), some (.int (x6 + 1))] [] I1 J1) ∧ (¬ (v1 = 0) → CI d Bx_behind [.ref 1, .int x1, .int (srI x6 1), .int (x6 &&& 1)] I1 J1 (fun v2 I2 J2 => CL d Sb_openShares [.ref 1, .int v2, .int (x2 - 1)] I2 J2 (fun v3 I3 J3 => Wp d Sb_openShares Q 27 [some (.ref 1), some (.int x1), some (.int x2), some (.long (x3 + v3)), none, some (.int (x5 + 1)), some (.int (x6 + 1))] [] I3 J3))))) ∧ (¬ (x6 < (2 * (I 1 2))) → (x5 = 0 → Q (some (.long 0)) I J) ∧ (¬ (x5 = 0) → ¬ (Int32.toInt64 x5) = 0 ∧ (Q (some (.long (x3 * (2520 / (Int32.toInt64 x5))))) I J)))) : Wp d Sb_openShares Q 27 [some (.ref 1), some (.int x1), some (.int x2), some (.long x3), none, some (.int x5), some (.int x6)] [] I J := by
  refine Wp.steps 5 (pc' := 35) (lv' := [some (.ref 1), some (.int x1), some (.int x2), some (.long x3), none, some (.int x5), some (.int x6)]) (st' := [.int (2 * (I 1 2)), .int x6]) (I' := I) (J' := J) rfl ?_
  refine Wp.steps 1 (pc' := if x6 < (2 * (I 1 2)) then 38 else 93) (lv' := [some (.ref 1), some (.int x1), some (.int x2), some (.long x3), none, some (.int x5), some (.int x6)]) (st' := []) (I' := I) (J' := J) rfl (Wp.ite (fun h1 => ?_) (fun h1 => ?_))
  · replace h := h.1 h1
    refine Wp.steps 10 (pc' := 52) (lv' := [some (.ref 1), some (.int x1), some (.int x2), some (.long x3), none, some (.int x5), some (.int x6)]) (st' := [.int (x6 &&& 1), .int (srI x6 1), .int (I 1 10), .int x1, .ref 1]) (I' := I) (J' := J) rfl ?_
    refine Wp.call (M' := Bx_maySlide) (as := [.ref 1, .int x1, .int (I 1 10), .int (srI x6 1), .int (x6 &&& 1)]) (rest := []) rfl (CI.use h (fun v1 I1 J1 h => ?_))
    refine Wp.eqs (pc' := 55) (st' := [.int v1]) rfl rfl ?_
    refine Wp.steps 1 (pc' := if v1 = 0 then 58 else 61) (lv' := [some (.ref 1), some (.int x1), some (.int x2), some (.long x3), none, some (.int x5), some (.int x6)]) (st' := []) (I' := I1) (J' := J1) rfl (Wp.ite (fun h2 => ?_) (fun h2 => ?_))
    · replace h := h.1 h2
      refine Wp.steps 3 (pc' := 27) (lv' := [some (.ref 1), some (.int x1), some (.int x2), some (.long x3), none, some (.int x5), some (.int (x6 + 1))]) (st' := []) (I' := I1) (J' := J1) rfl ?_
      exact h
    · replace h := h.2 h2
      refine Wp.steps 11 (pc' := 76) (lv' := [some (.ref 1), some (.int x1), some (.int x2), some (.long x3), none, some (.int (x5 + 1)), some (.int x6)]) (st' := [.int (x6 &&& 1), .int (srI x6 1), .int x1, .ref 1, .ref 1, .long x3]) (I' := I1) (J' := J1) rfl ?_
      refine Wp.call (M' := Bx_behind) (as := [.ref 1, .int x1, .int (srI x6 1), .int (x6 &&& 1)]) (rest := [.ref 1, .long x3]) rfl (CI.use h (fun v2 I2 J2 h => ?_))
      refine Wp.eqs (pc' := 79) (st' := [.int v2, .ref 1, .long x3]) rfl rfl ?_
      refine Wp.steps 3 (pc' := 82) (lv' := [some (.ref 1), some (.int x1), some (.int x2), some (.long x3), none, some (.int (x5 + 1)), some (.int x6)]) (st' := [.int (x2 - 1), .int v2, .ref 1, .long x3]) (I' := I2) (J' := J2) rfl ?_
      refine Wp.call (M' := Sb_openShares) (as := [.ref 1, .int v2, .int (x2 - 1)]) (rest := [.long x3]) rfl (CL.use h (fun v3 I3 J3 h => ?_))
      refine Wp.eqs (pc' := 85) (st' := [.long v3, .long x3]) rfl rfl ?_
      refine Wp.steps 4 (pc' := 27) (lv' := [some (.ref 1), some (.int x1), some (.int x2), some (.long (x3 + v3)), none, some (.int (x5 + 1)), some (.int (x6 + 1))]) (st' := []) (I' := I3) (J' := J3) rfl ?_
      exact h
  · replace h := h.2 h1
    refine Wp.steps 1 (pc' := 95) (lv' := [some (.ref 1), some (.int x1), some (.int x2), some (.long x3), none, some (.int x5), some (.int x6)]) (st' := [.int x5]) (I' := I) (J' := J) rfl ?_
    refine Wp.steps 1 (pc' := if x5 = 0 then 98 else 102) (lv' := [some (.ref 1), some (.int x1), some (.int x2), some (.long x3), none, some (.int x5), some (.int x6)]) (st' := []) (I' := I) (J' := J) rfl (Wp.ite (fun h2 => ?_) (fun h2 => ?_))
    · replace h := h.1 h2
      refine Wp.steps 2 (pc' := 111) (lv' := [some (.ref 1), some (.int x1), some (.int x2), some (.long x3), none, some (.int x5), some (.int x6)]) (st' := [.long 0]) (I' := I) (J' := J) rfl ?_
      exact Wp.ret rfl h
    · replace h := h.2 h2
      refine Wp.steps 4 (pc' := 109) (lv' := [some (.ref 1), some (.int x1), some (.int x2), some (.long x3), none, some (.int x5), some (.int x6)]) (st' := [.long (Int32.toInt64 x5), .long 2520, .long x3]) (I' := I) (J' := J) rfl ?_
      refine Wp.ldiv rfl h.1 ?_
      replace h := h.2
      refine Wp.steps 1 (pc' := 111) (lv' := [some (.ref 1), some (.int x1), some (.int x2), some (.long x3), none, some (.int x5), some (.int x6)]) (st' := [.long (x3 * (2520 / (Int32.toInt64 x5)))]) (I' := I) (J' := J) rfl ?_
      exact Wp.ret rfl h
theorem v_Sb_evenShares_0 {d : Nat} {Q : Post} {I : I2} {J : J2} {x0 : Int32} (h : Wp d Sb_evenShares Q 4 [some (.int x0), some (.long 1), none, some (.int 0)] [] I J) : Wp d Sb_evenShares Q 0 [some (.int x0), none, none, none] [] I J := by
  refine Wp.steps 4 (pc' := 4) (lv' := [some (.int x0), some (.long 1), none, some (.int 0)]) (st' := []) (I' := I) (J' := J) rfl ?_
  exact h
theorem v_Sb_evenShares_4 {d : Nat} {Q : Post} {I : I2} {J : J2} {x0 : Int32} {x1 : Int64} {x3 : Int32} (h : (x3 < x0 → Wp d Sb_evenShares Q 4 [some (.int x0), some (.long (x1 * 2520)), none, some (.int (x3 + 1))] [] I J) ∧ (¬ (x3 < x0) → Q (some (.long x1)) I J)) : Wp d Sb_evenShares Q 4 [some (.int x0), some (.long x1), none, some (.int x3)] [] I J := by
  refine Wp.steps 2 (pc' := 6) (lv' := [some (.int x0), some (.long x1), none, some (.int x3)]) (st' := [.int x0, .int x3]) (I' := I) (J' := J) rfl ?_
  refine Wp.steps 1 (pc' := if x3 < x0 then 9 else 21) (lv' := [some (.int x0), some (.long x1), none, some (.int x3)]) (st' := []) (I' := I) (J' := J) rfl (Wp.ite (fun h1 => ?_) (fun h1 => ?_))
  · replace h := h.1 h1
    refine Wp.steps 6 (pc' := 4) (lv' := [some (.int x0), some (.long (x1 * 2520)), none, some (.int (x3 + 1))]) (st' := []) (I' := I) (J' := J) rfl ?_
    exact h
  · replace h := h.2 h1
    refine Wp.steps 1 (pc' := 22) (lv' := [some (.int x0), some (.long x1), none, some (.int x3)]) (st' := [.long x1]) (I' := I) (J' := J) rfl ?_
    exact Wp.ret rfl h
