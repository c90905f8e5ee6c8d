/-! the four sheets alike: places 49 51 53 55 (rows of longs one behind) -/
def Pl (p : Nat) : Prop := p = 49 ∨ p = 51 ∨ p = 53 ∨ p = 55
theorem vu_Bx_stateOf_1_0 {p : Nat} (hp : Pl p) {d : Nat} {Q : Post} {I : I2} {J : J2} {x2 : Int32} (h : Wp d Bx_stateOf Q 5 [some (.ref 1), some (.ref p), some (.int x2), some (.int 0), some (.int 0), none, none] [] I J) : Wp d Bx_stateOf Q 0 [some (.ref 1), some (.ref p), some (.int x2), none, none, none, none] [] I J := by
  rcases hp with rfl | rfl | rfl | rfl
  · exact v_Bx_stateOf_1_49_0 h
  · exact v_Bx_stateOf_1_51_0 h
  · exact v_Bx_stateOf_1_53_0 h
  · exact v_Bx_stateOf_1_55_0 h
theorem vu_Bx_stateOf_1_5 {p : Nat} (hp : Pl p) {d : Nat} {Q : Post} {I : I2} {J : J2} {x2 : Int32} {x3 : Int32} {x4 : Int32} (h : (x4 < (I 1 2) → CL d Sh_look [.ref p, .int (x2 + x4)] I J (fun v1 I1 J1 => ((lg_cmp v1 0) < 0 → Q (some (.int (-2))) I1 J1) ∧ (¬ ((lg_cmp v1 0) < 0) → vp_in x4 5 ∧ ((0 < (lg_cmp v1 (Int32.toInt64 (I1 3 (tN x4)))) → Q (some (.int (-2))) I1 J1) ∧ (¬ (0 < (lg_cmp v1 (Int32.toInt64 (I1 3 (tN x4))))) → Wp d Bx_stateOf Q 5 [some (.ref 1), some (.ref p), some (.int x2), some (.int (x3 ||| (slI (Int64.toInt32 v1) (2 * x4)))), some (.int (x4 + 1)), none, none] [] I1 J1))))) ∧ (¬ (x4 < (I 1 2)) → Q (some (.int x3)) I J)) : Wp d Bx_stateOf Q 5 [some (.ref 1), some (.ref p), some (.int x2), some (.int x3), some (.int x4), none, none] [] I J := by
  rcases hp with rfl | rfl | rfl | rfl
  · exact v_Bx_stateOf_1_49_5 h
  · exact v_Bx_stateOf_1_51_5 h
  · exact v_Bx_stateOf_1_53_5 h
  · exact v_Bx_stateOf_1_55_5 h
theorem vu_Sb_areClicks_0_0 {p : Nat} (hp : Pl p) {d : Nat} {Q : Post} {I : I2} {J : J2} {x2 : Int32} {x3 : Int32} (h : Wp d Sb_areClicks Q 3 [some (.ref 0), some (.ref p), some (.int x2), some (.int x3), some (.int 0), none, none, none, none] [] I J) : Wp d Sb_areClicks Q 0 [some (.ref 0), some (.ref p), some (.int x2), some (.int x3), none, none, none, none, none] [] I J := by
  rcases hp with rfl | rfl | rfl | rfl
  · exact v_Sb_areClicks_0_49_0 h
  · exact v_Sb_areClicks_0_51_0 h
  · exact v_Sb_areClicks_0_53_0 h
  · exact v_Sb_areClicks_0_55_0 h
theorem vu_Sb_areClicks_0_3 {p : Nat} (hp : Pl p) {d : Nat} {Q : Post} {I : I2} {J : J2} {x2 : Int32} {x3 : Int32} {x4 : Int32} (h : (x4 < x3 → CL d Sh_look [.ref p, .int (x2 + (2 * x4))] I J (fun v1 I1 J1 => CL d Sh_look [.ref p, .int ((x2 + (2 * x4)) + 1)] I1 J1 (fun v2 I2 J2 => ((lg_cmp v1 0) < 0 → Q (some (.int 0)) I2 J2) ∧ (¬ ((lg_cmp v1 0) < 0) → ((lg_cmp (v1 / 10) (Int32.toInt64 (I2 1 2))) < 0 → (0 < (lg_cmp (rmL v1 10) 1) → Q (some (.int 0)) I2 J2) ∧ (¬ (0 < (lg_cmp (rmL v1 10) 1)) → ((lg_cmp v2 0) < 0 → Q (some (.int 0)) I2 J2) ∧ (¬ ((lg_cmp v2 0) < 0) → (0 < (lg_cmp v2 1) → Q (some (.int 0)) I2 J2) ∧ (¬ (0 < (lg_cmp v2 1)) → Wp d Sb_areClicks Q 3 [some (.ref 0), some (.ref p), some (.int x2), some (.int x3), some (.int (x4 + 1)), none, none, none, none] [] I2 J2)))) ∧ (¬ ((lg_cmp (v1 / 10) (Int32.toInt64 (I2 1 2))) < 0) → Q (some (.int 0)) I2 J2))))) ∧ (¬ (x4 < x3) → Q (some (.int 1)) I J)) : Wp d Sb_areClicks Q 3 [some (.ref 0), some (.ref p), some (.int x2), some (.int x3), some (.int x4), none, none, none, none] [] I J := by
  rcases hp with rfl | rfl | rfl | rfl
  · exact v_Sb_areClicks_0_49_3 h
  · exact v_Sb_areClicks_0_51_3 h
  · exact v_Sb_areClicks_0_53_3 h
  · exact v_Sb_areClicks_0_55_3 h
theorem vu_Sb_locksByClicks_0_0 {p : Nat} (hp : Pl p) {d : Nat} {Q : Post} {I : I2} {J : J2} {x2 : Int32} {x3 : Int32} (h : CI d Sb_clicksSo [.ref 1, .int (I 1 10), .ref p, .int x2, .int x3] I J (fun v1 I1 J1 => (v1 = 0 → Wp d Sb_locksByClicks Q 31 [some (.ref 0), some (.ref p), some (.int x2), some (.int x3), some (.int 0), some (.int 0)] [] I1 J1) ∧ (¬ (v1 = 0) → Wp d Sb_locksByClicks Q 31 [some (.ref 0), some (.ref p), some (.int x2), some (.int x3), some (.int 64), some (.int 0)] [] I1 J1))) : Wp d Sb_locksByClicks Q 0 [some (.ref 0), some (.ref p), some (.int x2), some (.int x3), none, none] [] I J := by
  rcases hp with rfl | rfl | rfl | rfl
  · exact v_Sb_locksByClicks_0_49_0 h
  · exact v_Sb_locksByClicks_0_51_0 h
  · exact v_Sb_locksByClicks_0_53_0 h
  · exact v_Sb_locksByClicks_0_55_0 h
theorem vu_Sb_locksByClicks_0_31 {p : Nat} (hp : Pl p) {d : Nat} {Q : Post} {I : I2} {J : J2} {x2 : Int32} {x3 : Int32} {x4 : Int32} {x5 : Int32} (h : (x5 < (I 1 7) → CI d Sb_clicksSo [.ref 1, .int ((I 1 10) ^^^ (slI 1 x5)), .ref p, .int x2, .int x3] I J (fun v1 I1 J1 => (v1 = 0 → Wp d Sb_locksByClicks Q 31 [some (.ref 0), some (.ref p), some (.int x2), some (.int x3), some (.int x4), some (.int (x5 + 1))] [] I1 J1) ∧ (¬ (v1 = 0) → Wp d Sb_locksByClicks Q 31 [some (.ref 0), some (.ref p), some (.int x2), some (.int x3), some (.int (x4 ||| (slI 1 x5))), some (.int (x5 + 1))] [] I1 J1))) ∧ (¬ (x5 < (I 1 7)) → Q (some (.int x4)) I J)) : Wp d Sb_locksByClicks Q 31 [some (.ref 0), some (.ref p), some (.int x2), some (.int x3), some (.int x4), some (.int x5)] [] I J := by
  rcases hp with rfl | rfl | rfl | rfl
  · exact v_Sb_locksByClicks_0_49_31 h
  · exact v_Sb_locksByClicks_0_51_31 h
  · exact v_Sb_locksByClicks_0_53_31 h
  · exact v_Sb_locksByClicks_0_55_31 h
theorem vu_Sb_kindsByClicks_0_0 {p : Nat} (hp : Pl p) {d : Nat} {Q : Post} {I : I2} {J : J2} {x1 : Int32} {x3 : Int32} {x4 : Int32} (h : CV d Bx_becomes [.ref 21, .ref 1] I J (fun I1 J1 => Wp d Sb_kindsByClicks Q 17 [some (.ref 0), some (.int x1), some (.ref p), some (.int x3), some (.int x4), some (.int 0), some (.int 0)] [] I1 J1)) : Wp d Sb_kindsByClicks Q 0 [some (.ref 0), some (.int x1), some (.ref p), some (.int x3), some (.int x4), none, none] [] I J := by
  rcases hp with rfl | rfl | rfl | rfl
  · exact v_Sb_kindsByClicks_0_49_0 h
  · exact v_Sb_kindsByClicks_0_51_0 h
  · exact v_Sb_kindsByClicks_0_53_0 h
  · exact v_Sb_kindsByClicks_0_55_0 h
theorem vu_Sb_kindsByClicks_0_17 {p : Nat} (hp : Pl p) {d : Nat} {Q : Post} {I : I2} {J : J2} {x1 : Int32} {x3 : Int32} {x4 : Int32} {x5 : Int32} {x6 : Int32} (h : (4 < x6 → Q (some (.int x5)) I J) ∧ (¬ (4 < x6) → vp_in x1 5 ∧ (CI d Sb_clicksSo [.ref 21, .int (I 21 10), .ref p, .int x3, .int x4] (up2 I 22 (tN x1) x6) J (fun v1 I1 J1 => (v1 = 0 → Wp d Sb_kindsByClicks Q 17 [some (.ref 0), some (.int x1), some (.ref p), some (.int x3), some (.int x4), some (.int x5), some (.int (x6 + 1))] [] I1 J1) ∧ (¬ (v1 = 0) → Wp d Sb_kindsByClicks Q 17 [some (.ref 0), some (.int x1), some (.ref p), some (.int x3), some (.int x4), some (.int (x5 ||| (slI 1 x6))), some (.int (x6 + 1))] [] I1 J1))))) : Wp d Sb_kindsByClicks Q 17 [some (.ref 0), some (.int x1), some (.ref p), some (.int x3), some (.int x4), some (.int x5), some (.int x6)] [] I J := by
  rcases hp with rfl | rfl | rfl | rfl
  · exact v_Sb_kindsByClicks_0_49_17 h
  · exact v_Sb_kindsByClicks_0_51_17 h
  · exact v_Sb_kindsByClicks_0_53_17 h
  · exact v_Sb_kindsByClicks_0_55_17 h
theorem vu_Sb_clicksSo_1_0 {p : Nat} (hp : Pl p) {d : Nat} {Q : Post} {I : I2} {J : J2} {x1 : Int32} {x3 : Int32} {x4 : Int32} (h : Wp d Sb_clicksSo Q 9 [some (.ref 1), some (.int x1), some (.ref p), some (.int x3), some (.int x4), some (.int (I 1 9)), some (.int 0), none, none] [] I J) : Wp d Sb_clicksSo Q 0 [some (.ref 1), some (.int x1), some (.ref p), some (.int x3), some (.int x4), none, none, none, none] [] I J := by
  rcases hp with rfl | rfl | rfl | rfl
  · exact v_Sb_clicksSo_1_49_0 h
  · exact v_Sb_clicksSo_1_51_0 h
  · exact v_Sb_clicksSo_1_53_0 h
  · exact v_Sb_clicksSo_1_55_0 h
theorem vu_Sb_clicksSo_1_9 {p : Nat} (hp : Pl p) {d : Nat} {Q : Post} {I : I2} {J : J2} {x1 : Int32} {x3 : Int32} {x4 : Int32} {x5 : Int32} {x6 : Int32} (h : (x6 < x4 → CL d Sh_look [.ref p, .int (x3 + (2 * x6))] I J (fun v1 I1 J1 => CL d Sh_look [.ref p, .int ((x3 + (2 * x6)) + 1)] I1 J1 (fun v2 I2 J2 => ((lg_cmp v2 1) = 0 → CI d Bx_maySlide [.ref 1, .int x5, .int x1, .int ((Int64.toInt32 v1) / 10), .int (rmI (Int64.toInt32 v1) 10)] I2 J2 (fun v3 I3 J3 => (v3 = 1 → CI d Bx_behind [.ref 1, .int x5, .int ((Int64.toInt32 v1) / 10), .int (rmI (Int64.toInt32 v1) 10)] I3 J3 (fun v4 I4 J4 => Wp d Sb_clicksSo Q 9 [some (.ref 1), some (.int x1), some (.ref p), some (.int x3), some (.int x4), some (.int v4), some (.int (x6 + 1)), none, none] [] I4 J4)) ∧ (¬ (v3 = 1) → Q (some (.int 0)) I3 J3))) ∧ (¬ ((lg_cmp v2 1) = 0) → CI d Bx_maySlide [.ref 1, .int x5, .int x1, .int ((Int64.toInt32 v1) / 10), .int (rmI (Int64.toInt32 v1) 10)] I2 J2 (fun v3 I3 J3 => (v3 = 0 → Wp d Sb_clicksSo Q 9 [some (.ref 1), some (.int x1), some (.ref p), some (.int x3), some (.int x4), some (.int x5), some (.int (x6 + 1)), none, none] [] I3 J3) ∧ (¬ (v3 = 0) → Q (some (.int 0)) I3 J3)))))) ∧ (¬ (x6 < x4) → Q (some (.int 1)) I J)) : Wp d Sb_clicksSo Q 9 [some (.ref 1), some (.int x1), some (.ref p), some (.int x3), some (.int x4), some (.int x5), some (.int x6), none, none] [] I J := by
  rcases hp with rfl | rfl | rfl | rfl
  · exact v_Sb_clicksSo_1_49_9 h
  · exact v_Sb_clicksSo_1_51_9 h
  · exact v_Sb_clicksSo_1_53_9 h
  · exact v_Sb_clicksSo_1_55_9 h
theorem vu_Sb_clicksSo_21_0 {p : Nat} (hp : Pl p) {d : Nat} {Q : Post} {I : I2} {J : J2} {x1 : Int32} {x3 : Int32} {x4 : Int32} (h : Wp d Sb_clicksSo Q 9 [some (.ref 21), some (.int x1), some (.ref p), some (.int x3), some (.int x4), some (.int (I 21 9)), some (.int 0), none, none] [] I J) : Wp d Sb_clicksSo Q 0 [some (.ref 21), some (.int x1), some (.ref p), some (.int x3), some (.int x4), none, none, none, none] [] I J := by
  rcases hp with rfl | rfl | rfl | rfl
  · exact v_Sb_clicksSo_21_49_0 h
  · exact v_Sb_clicksSo_21_51_0 h
  · exact v_Sb_clicksSo_21_53_0 h
  · exact v_Sb_clicksSo_21_55_0 h
theorem vu_Sb_clicksSo_21_9 {p : Nat} (hp : Pl p) {d : Nat} {Q : Post} {I : I2} {J : J2} {x1 : Int32} {x3 : Int32} {x4 : Int32} {x5 : Int32} {x6 : Int32} (h : (x6 < x4 → CL d Sh_look [.ref p, .int (x3 + (2 * x6))] I J (fun v1 I1 J1 => CL d Sh_look [.ref p, .int ((x3 + (2 * x6)) + 1)] I1 J1 (fun v2 I2 J2 => ((lg_cmp v2 1) = 0 → CI d Bx_maySlide [.ref 21, .int x5, .int x1, .int ((Int64.toInt32 v1) / 10), .int (rmI (Int64.toInt32 v1) 10)] I2 J2 (fun v3 I3 J3 => (v3 = 1 → CI d Bx_behind [.ref 21, .int x5, .int ((Int64.toInt32 v1) / 10), .int (rmI (Int64.toInt32 v1) 10)] I3 J3 (fun v4 I4 J4 => Wp d Sb_clicksSo Q 9 [some (.ref 21), some (.int x1), some (.ref p), some (.int x3), some (.int x4), some (.int v4), some (.int (x6 + 1)), none, none] [] I4 J4)) ∧ (¬ (v3 = 1) → Q (some (.int 0)) I3 J3))) ∧ (¬ ((lg_cmp v2 1) = 0) → CI d Bx_maySlide [.ref 21, .int x5, .int x1, .int ((Int64.toInt32 v1) / 10), .int (rmI (Int64.toInt32 v1) 10)] I2 J2 (fun v3 I3 J3 => (v3 = 0 → Wp d Sb_clicksSo Q 9 [some (.ref 21), some (.int x1), some (.ref p), some (.int x3), some (.int x4), some (.int x5), some (.int (x6 + 1)), none, none] [] I3 J3) ∧ (¬ (v3 = 0) → Q (some (.int 0)) I3 J3)))))) ∧ (¬ (x6 < x4) → Q (some (.int 1)) I J)) : Wp d Sb_clicksSo Q 9 [some (.ref 21), some (.int x1), some (.ref p), some (.int x3), some (.int x4), some (.int x5), some (.int x6), none, none] [] I J := by
  rcases hp with rfl | rfl | rfl | rfl
  · exact v_Sb_clicksSo_21_49_9 h
  · exact v_Sb_clicksSo_21_51_9 h
  · exact v_Sb_clicksSo_21_53_9 h
  · exact v_Sb_clicksSo_21_55_9 h
theorem vu_Sh_fault_0 {p : Nat} (hp : Pl p) {d : Nat} {Q : Post} {I : I2} {J : J2} {x1 : Int32} {x2 : Int32} {x3 : Int32} (h : ((I p 0) = 0 → Q (some (.int (-11))) I J) ∧ (¬ ((I p 0) = 0) → ((I p 1) = x1 → CI d Sh_holds [.ref p, .int x2, .int x3] I J (fun v1 I1 J1 => (v1 = 0 → Q (some (.int (-13))) I1 J1) ∧ (¬ (v1 = 0) → Q (some (.int 0)) I1 J1))) ∧ (¬ ((I p 1) = x1) → Q (some (.int (-12))) I J))) : Wp d Sh_fault Q 0 [some (.ref p), some (.int x1), some (.int x2), some (.int x3)] [] I J := by
  rcases hp with rfl | rfl | rfl | rfl
  · exact v_Sh_fault_49_0 h
  · exact v_Sh_fault_51_0 h
  · exact v_Sh_fault_53_0 h
  · exact v_Sh_fault_55_0 h
theorem vu_Sh_put_0 {p : Nat} (hp : Pl p) {d : Nat} {Q : Post} {I : I2} {J : J2} {x1 : Int32} {x2 : Int64} (h : CI d Sh_holds [.ref p, .int x1, .int 1] I J (fun v1 I1 J1 => (v1 = 0 → Q none I1 J1) ∧ (¬ (v1 = 0) → ((I1 p 1) = 0 → vp_in x1 24 ∧ (Q none I1 (upJ J1 (p + 1) (tN x1) (Int32.toInt64 (i2b (Int64.toInt32 x2)))))) ∧ (¬ ((I1 p 1) = 0) → ((I1 p 1) = 1 → vp_in x1 24 ∧ (Q none I1 (upJ J1 (p + 1) (tN x1) (Int32.toInt64 (i2s (Int64.toInt32 x2)))))) ∧ (¬ ((I1 p 1) = 1) → ((I1 p 1) = 2 → vp_in x1 24 ∧ (Q none I1 (upJ J1 (p + 1) (tN x1) (Int32.toInt64 (Int64.toInt32 x2))))) ∧ (¬ ((I1 p 1) = 2) → vp_in x1 24 ∧ (Q none I1 (upJ J1 (p + 1) (tN x1) x2)))))))) : Wp d Sh_put Q 0 [some (.ref p), some (.int x1), some (.long x2), none] [] I J := by
  rcases hp with rfl | rfl | rfl | rfl
  · exact v_Sh_put_49_0 h
  · exact v_Sh_put_51_0 h
  · exact v_Sh_put_53_0 h
  · exact v_Sh_put_55_0 h
theorem vu_Sh_begin_0 {p : Nat} (hp : Pl p) {d : Nat} {Q : Post} {I : I2} {J : J2} {x1 : Int32} {x2 : Int32} (h : Wp d Sh_begin Q 17 [some (.ref p), some (.int x1), some (.int x2), some (.int 0)] [] (up2 (up2 (up2 I p 0 1) p 1 x1) p 2 x2) J) : Wp d Sh_begin Q 0 [some (.ref p), some (.int x1), some (.int x2), none] [] I J := by
  rcases hp with rfl | rfl | rfl | rfl
  · exact v_Sh_begin_49_0 h
  · exact v_Sh_begin_51_0 h
  · exact v_Sh_begin_53_0 h
  · exact v_Sh_begin_55_0 h
theorem vu_Sh_begin_17 {p : Nat} (hp : Pl p) {d : Nat} {Q : Post} {I : I2} {J : J2} {x1 : Int32} {x2 : Int32} {x3 : Int32} (h : (x3 < 24 → vp_in x3 24 ∧ (Wp d Sh_begin Q 17 [some (.ref p), some (.int x1), some (.int x2), some (.int (x3 + 1))] [] I (upJ J (p + 1) (tN x3) 0))) ∧ (¬ (x3 < 24) → Q none I J)) : Wp d Sh_begin Q 17 [some (.ref p), some (.int x1), some (.int x2), some (.int x3)] [] I J := by
  rcases hp with rfl | rfl | rfl | rfl
  · exact v_Sh_begin_49_17 h
  · exact v_Sh_begin_51_17 h
  · exact v_Sh_begin_53_17 h
  · exact v_Sh_begin_55_17 h
theorem vu_Sh_end_0 {p : Nat} (hp : Pl p) {d : Nat} {Q : Post} {I : I2} {J : J2} (h : Q (some (.int (I p 2))) (up2 I p 0 0) J) : Wp d Sh_end Q 0 [some (.ref p)] [] I J := by
  rcases hp with rfl | rfl | rfl | rfl
  · exact v_Sh_end_49_0 h
  · exact v_Sh_end_51_0 h
  · exact v_Sh_end_53_0 h
  · exact v_Sh_end_55_0 h
theorem vu_Sh_holds_0 {p : Nat} (hp : Pl p) {d : Nat} {Q : Post} {I : I2} {J : J2} {x1 : Int32} {x2 : Int32} (h : (x2 < 0 → Q (some (.int 0)) I J) ∧ (¬ (x2 < 0) → (x1 < 0 → Q (some (.int 0)) I J) ∧ (¬ (x1 < 0) → (((I p 2) - x2) < x1 → Q (some (.int 0)) I J) ∧ (¬ (((I p 2) - x2) < x1) → Q (some (.int 1)) I J)))) : Wp d Sh_holds Q 0 [some (.ref p), some (.int x1), some (.int x2)] [] I J := by
  rcases hp with rfl | rfl | rfl | rfl
  · exact v_Sh_holds_49_0 h
  · exact v_Sh_holds_51_0 h
  · exact v_Sh_holds_53_0 h
  · exact v_Sh_holds_55_0 h
theorem vu_Sh_look_0 {p : Nat} (hp : Pl p) {d : Nat} {Q : Post} {I : I2} {J : J2} {x1 : Int32} (h : CI d Sh_holds [.ref p, .int x1, .int 1] I J (fun v1 I1 J1 => (v1 = 0 → Q (some (.long 0)) I1 J1) ∧ (¬ (v1 = 0) → vp_in x1 24 ∧ (Q (some (.long (J1 (p + 1) (tN x1)))) I1 J1)))) : Wp d Sh_look Q 0 [some (.ref p), some (.int x1)] [] I J := by
  rcases hp with rfl | rfl | rfl | rfl
  · exact v_Sh_look_49_0 h
  · exact v_Sh_look_51_0 h
  · exact v_Sh_look_53_0 h
  · exact v_Sh_look_55_0 h
