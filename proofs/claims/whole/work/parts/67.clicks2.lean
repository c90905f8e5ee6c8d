/-! clicks: the model -/
section CLK2
variable {d : Nat} {V : Bv} {S : Nat → Shv} {I : I2} {J : J2} {F : Int32 → I2 → J2 → Prop} {B : Bx} {f i : Nat} {g : Nat → Int64}
theorem n_or0 (a : Nat) : nI a ||| 0 = nI a := by
  rw [show (0 : Int32) = nI 0 from rfl, n_or, Nat.or_zero]
theorem c_Md_clicksSo {n s fr : Nat} (hd : 5 ≤ d) (hw : WFB B) (hB : BoxM B I) (h5 : I 58 5 = nI s) (hs : okS B s) (hf : f < 64) (hfr : fr + 2 * n ≤ 96) (hJ : ∀ q, q < 2 * n → J 76 (fr + q) = g (i + q)) (hok : clkO g i B.pn n = true) (h : F (bI (clkN B f g i n 0 s)) I J) : CI d Md_clicksSo [.ref 57, .int (nI fr), .int (nI n), .int (nI f)] I J F := by
  have hp5 := hw.1
  have stop : ∀ x4 x6, F 0 I J → Wp (d - 1) Md_clicksSo (QI F) 14 [some (.ref 57), some (.int (nI fr)), some (.int (nI n)), some (.int (nI f)), some (.int x4), some (.int 0), some (.int x6), none, none] [] I J := by
    intro x4 x6 h
    exact v_Md_clicksSo_57_14 ⟨fun _ => ⟨fun _ => ⟨Or.inl rfl, QI_i.mpr h⟩, fun q => absurd rfl q⟩, fun _ => ⟨Or.inl rfl, QI_i.mpr h⟩⟩
  have loop : ∀ r k s, k + r = n → okS B s → F (bI (clkN B f g i r k s)) I J → Wp (d - 1) Md_clicksSo (QI F) 14 [some (.ref 57), some (.int (nI fr)), some (.int (nI n)), some (.int (nI f)), some (.int (nI s)), some (.int 1), some (.int (nI k)), none, none] [] I J := by
    intro r
    induction r with
    | zero =>
      intro k s hk hs hz
      have hk : k = n := by omega
      subst hk
      exact v_Md_clicksSo_57_14 ⟨fun q => absurd ((n_lt (by omega) (by omega)).mp q) (Nat.lt_irrefl _), fun _ => ⟨Or.inr rfl, QI_i.mpr hz⟩⟩
    | succ r ih =>
      intro k s hk hs hz
      obtain ⟨m, em, h1, h2, h3, h4⟩ := okPr_i hp5 (clkO_at n hok k (by omega))
      have emv : mvN g i k = m := by unfold mvN; rw [em, lN_i, n_tN (by omega)]
      have hs2 := s31 hw hs.1
      simp only [clkN] at hz
      rw [emv] at hz
      have j1 : J 76 (fr + 2 * k) = lN m := by rw [hJ _ (by omega), em]
      have j2 : J 76 (fr + 2 * k + 1) = g (i + 2 * k + 1) := by rw [Nat.add_assoc, hJ _ (by omega), ← Nat.add_assoc]
      refine v_Md_clicksSo_57_14 ⟨fun _ => ⟨fun q => absurd q (by decide), fun _ => ?_⟩, fun q => absurd ((n_lt (by omega) (by omega)).mpr (by omega)) q⟩
      rw [show (2 : Int32) * nI k = nI (2 * k) from pk_mul 2 k, nI_add, n_inc, n_inc, n_tN (by omega), n_tN (by omega), j1, (n_mv h3).1, (n_mv h3).2]
      refine ⟨n_vp (by omega) (by decide), c_Md_may (by omega) hw hB (by omega) h1 hf h2 ⟨n_vp (by omega) (by decide), ?_⟩⟩
      rw [j2, cmp_eq]
      refine ⟨fun e => ⟨fun z => ⟨fun q => absurd (z.symm.trans q) (by decide), fun _ => ?_⟩, fun z => ⟨fun _ => stop _ _ ?_, fun q => ?_⟩⟩, fun e => ⟨fun z => ih (k + 1) s (by omega) hs ?_, fun z => ?_⟩⟩
      · rw [bI_1] at z
        rw [if_pos e, decide_eq_true e, if_pos z] at hz
        have hu := may_up hw hs h1 z
        exact c_Md_behind (by omega) hw hB hs.1 h1 h2 hu.1 hu.2 (ih (k + 1) _ (by omega) (okS_beh hw hs h1 h2 z) hz)
      · rw [bI_1] at z
        rw [decide_eq_true e, if_neg z] at hz; exact hz
      · rcases bI_01 (mayB B s f (m / 10) (m % 10)) with y | y
        · exact absurd y q
        · exact absurd y z
      · rw [bI_0] at z
        rw [if_neg e, decide_eq_false e, if_pos z] at hz; exact hz
      · have z1 : mayB B s f (m / 10) (m % 10) = true := by simpa [bI_0] using z
        rw [decide_eq_false e, if_neg (by rw [z1]; decide)] at hz
        have hu := may_up hw hs h1 z1
        exact c_Md_behind (by omega) hw hB hs.1 h1 h2 hu.1 hu.2 (stop _ _ hz)
  refine CI.of (by omega) rfl (v_Md_clicksSo_57_0 ?_)
  rw [h5]
  exact loop n 0 s (Nat.zero_add _) hs h
theorem BoxM_setK {x k : Nat} {I' : I2} (hx : x < B.pn) (hp5 : B.pn ≤ 5) (hl6 : B.ln ≤ 6) (hB : BoxM B I) (h2 : ∀ j, j ≠ 6 + 2 * x → I' 58 j = I 58 j) (h3 : I' 58 (6 + 2 * x) = nI k) : BoxM (B.setK x k) I' := by
  obtain ⟨b1, b2, b3, b4⟩ := hB
  refine ⟨by rw [h2 0 (by omega)]; exact b1, by rw [h2 1 (by omega)]; exact b2, fun q hq => ⟨?_, by rw [h2 _ (by omega)]; exact (b3 q hq).2⟩, fun q hq => ?_⟩
  · show I' 58 (6 + 2 * q) = nI (updN B.kd x k q)
    unfold updN
    by_cases e : q = x
    · rw [if_pos e, e, h3]
    · rw [if_neg e, h2 _ (by omega)]; exact (b3 q hq).1
  · rw [h2 _ (by omega), h2 _ (by omega), h2 _ (by omega), h2 _ (by omega)]; exact b4 q hq
theorem c_Md_kindsBy {n x fr : Nat} (hd : 6 ≤ d) (hw : WFV V) (hV : MBx V I) (hx : x < V.B.pn) (hfr : fr + 2 * n ≤ 96) (hJ : ∀ q, q < 2 * n → J 76 (fr + q) = g (i + q)) (hok : clkO g i V.B.pn n = true) (h : F (nI (kdS V g i n x 5)) I J) : CI d Md_kindsBy [.ref 57, .int (nI x), .int (nI fr), .int (nI n)] I J F := by
  have hp5 := hw.1.1
  have hl6 := hw.1.2.1
  have hf := f64 hw.1 hw.2.2.2.1
  have ex : (6 : Int32) + 2 * nI x = nI (6 + 2 * x) := by
    rw [show (2 : Int32) * nI x = nI (2 * x) from pk_mul 2 x]; exact nI_add 6 _
  have hv := n_vp (a := 6 + 2 * x) (n := 40) (by omega) (by decide)
  have loop : ∀ r k I2, k + r = 5 → (∀ a, a ≠ 58 → I2 a = I a) → (∀ j, j ≠ 6 + 2 * x → I2 58 j = I 58 j) → Wp (d - 1) Md_kindsBy (QI F) 13 [some (.ref 57), some (.int (nI x)), some (.int (nI fr)), some (.int (nI n)), some (.int (nI (V.B.kd x))), some (.int (nI (kdS V g i n x k))), some (.int (nI k))] [] I2 J := by
    intro r
    induction r with
    | zero =>
      intro k I2 hk h1 h2
      have hk : k = 5 := by omega
      subst hk
      refine v_Md_kindsBy_57_13 ⟨fun q => absurd q (by decide), fun _ => ?_⟩
      rw [ex, n_tN (by omega)]
      refine ⟨hv, QI_i.mpr ?_⟩
      have e : up2 I2 58 (6 + 2 * x) (nI (V.B.kd x)) = I := by
        funext a j
        by_cases ea : a = 58
        · subst ea
          by_cases ej : j = 6 + 2 * x
          · subst ej; simp [up2, upd]; exact (hV.1.2.2.1 x hx).1.symm
          · simp [up2, upd, ej]; exact h2 j ej
        · simp [up2, ea]; rw [h1 a ea]
      rw [e]; exact h
    | succ r ih =>
      intro k I2 hk h1 h2
      have go := ih (k + 1) (up2 I2 58 (6 + 2 * x) (nI k)) (by omega) (fun a ha => by simp [up2, ha]; exact h1 a ha) (fun j hj => by simp [up2, upd, hj]; exact h2 j hj)
      simp only [kdS] at go
      refine v_Md_kindsBy_57_13 ⟨fun _ => ?_, fun q => absurd ((n_lt (b := 5) (by omega) (by decide)).mpr (by omega)) q⟩
      rw [ex, n_tN (by omega), n_one (by omega), n_or, n_inc, n_or0]
      have e3 : up2 I2 58 (6 + 2 * x) (nI k) 58 3 = nI V.f := by
        have : (3 : Nat) ≠ 6 + 2 * x := by omega
        simp [up2, upd, this]; rw [h2 3 this]; exact hV.2.2.1
      have e5 : up2 I2 58 (6 + 2 * x) (nI k) 58 5 = nI V.s := by
        have : (5 : Nat) ≠ 6 + 2 * x := by omega
        simp [up2, upd, this]; rw [h2 5 this]; exact hV.2.2.2.2.1
      rw [e3]
      have hB3 : BoxM (V.B.setK x k) (up2 I2 58 (6 + 2 * x) (nI k)) := BoxM_setK hx hp5 hl6 hV.boxM (fun j hj => by simp [up2, upd, hj]; exact h2 j hj) (by simp [up2, upd])
      refine ⟨hv, c_Md_clicksSo (B := V.B.setK x k) (by omega) (WFB_setK hw.1 (by omega)) hB3 e5 (okS_setK hw.2.2.1) hf hfr hJ hok ?_⟩
      rw [bI_0]
      refine ⟨fun e => ?_, fun e => ?_⟩
      · rw [if_neg (by rw [e]; decide), Nat.or_zero] at go; exact go
      · rw [if_pos (by simpa using e)] at go; exact go
  refine CI.of (by omega) rfl (v_Md_kindsBy_57_0 (c_Md_kind (by omega) hw.1 hV.boxM hx ?_))
  exact loop 5 0 I rfl (fun _ _ => rfl) (fun _ _ => rfl)
theorem in10 {a : Int64} {pn : Nat} (hp : pn ≤ 5) : bI (decide (¬ a < 0) && decide (¬ 10 * (nI pn).toInt64 - 1 < a)) = 0 ↔ ¬ (¬ a < 0 ∧ a / 10 < lN pn) := by
  rw [bI_0, Bool.and_eq_false_iff, decide_eq_false_iff_not, decide_eq_false_iff_not, nI_l (by omega), show (10 : Int64) * lN pn = lN (10 * pn) from lN_mul 10 pn]
  constructor
  · rintro (q | q) ⟨z1, z2⟩
    · exact q z1
    · obtain ⟨m, hm, rfl⟩ := pk_lOf z1
      rw [show lN m / 10 = lN (m / 10) from pk_lDiv (b := 10) hm (by decide) (by decide), pk_lLT (by omega) (by omega)] at z2
      rw [show lN (10 * pn) - 1 = lN (10 * pn - 1) from lN_sub (b := 1) (by omega), pk_lLT (by omega) hm] at q
      exact q (by omega)
  · intro q
    by_cases z1 : a < 0
    · exact Or.inl (fun y => y z1)
    · refine Or.inr (fun y => q ⟨z1, ?_⟩)
      obtain ⟨m, hm, rfl⟩ := pk_lOf z1
      rw [show lN m / 10 = lN (m / 10) from pk_lDiv (b := 10) hm (by decide) (by decide), pk_lLT (by omega) (by omega)]
      rcases Nat.eq_zero_or_pos pn with e | e
      · subst e
        refine absurd ?_ y
        rw [show lN (10 * 0) - 1 = -1 from by decide]
        rw [Int64.lt_iff_toInt_lt, pk_lT hm, show (-1 : Int64).toInt = -1 from by decide]; omega
      · rw [show lN (10 * pn) - 1 = lN (10 * pn - 1) from lN_sub (b := 1) (by omega), pk_lLT (by omega) hm] at y
        omega
theorem in01 {b : Int64} : bI (decide (¬ b < 0) && decide (¬ 1 < b)) = 0 ↔ ¬ (¬ b < 0 ∧ ¬ 1 < b) := by
  rw [bI_0, Bool.and_eq_false_iff, decide_eq_false_iff_not, decide_eq_false_iff_not]
  constructor
  · rintro (q | q) ⟨z1, z2⟩
    · exact q z1
    · exact q z2
  · intro q
    by_cases z1 : b < 0
    · exact Or.inl (fun y => y z1)
    · exact Or.inr (fun y => q ⟨z1, y⟩)
theorem in18 {n : Int32} : bI (decide (¬ n.toInt64 < 1) && decide (¬ (8 : Int64) < n.toInt64)) = 0 ↔ (n < 1 ∨ 8 < n) := in_rng (lo := 1) (hi := 8) (by decide) (by decide)
theorem c_Md_clicks (hd : 8 ≤ d) (hw : WFV V) (hV : MBx V I) (hS : ShMs S I J) (hW : WFSs S) (x y z j n : Int32) (h : F (clicksF V S x y z j n) I J) : CI d Md_clicks [.ref 57, .int x, .int y, .int z, .int j, .int n] I J F := by
  have hp5 := hw.1.1
  have hl6 := hw.1.2.1
  have hf := f64 hw.1 hw.2.2.2.1
  have bad : ((¬ x = -4 ∧ ¬ inN x V.B.pn) ∨ ¬ inN y 4 ∨ ¬ inN z 4 ∨ n < 1 ∨ 8 < n) → QI F (some (.int (-1))) I J := by
    intro q
    rw [show clicksF V S x y z j n = -1 from if_pos q] at h
    exact QI_i.mpr h
  have rest : ¬ ((¬ x = -4 ∧ ¬ inN x V.B.pn) ∨ ¬ inN y 4 ∨ ¬ inN z 4 ∨ n < 1 ∨ 8 < n) → CI (d - 1) Md_why [.ref 57, .int y, .int z, .int j, .int (2 * n)] I J (fun v4 I4 J4 => (v4 < 0 → QI F (some (.int v4)) I4 J4) ∧ (¬ (v4 < 0) → Wp (d - 1) Md_clicks (QI F) 77 [some (.ref 57), some (.int x), some (.int y), some (.int z), some (.int j), some (.int n), some (.int v4), some (.int ((24 * y) + j)), some (.int 0), none, none] [] I4 J4)) := by
    intro nb
    have nb0 := nb
    simp only [not_or] at nb
    obtain ⟨n1, n2, n3, n4, n5⟩ := nb
    have n0 : ¬ n < 0 := fun q => n4 (Int32.lt_trans q (by decide))
    obtain ⟨k, hk, rfl⟩ := le_of (n := 8) n0 n5 (by decide)
    obtain ⟨i, hi, rfl⟩ := in_of (Classical.not_not.mp n2) (by decide)
    rw [show clicksF V S x (nI i) z j (nI k) = if faultS (S i) z j (2 * nI k) = 0 then (if clkO (itm (S i)) (tN j) V.B.pn (tN (nI k)) then (if x = -4 then nI (lkS V (itm (S i)) (tN j) (tN (nI k)) V.B.ln) else nI (kdS V (itm (S i)) (tN j) (tN (nI k)) (tN x) 5)) else -2) else faultS (S i) z j (2 * nI k) from (if_neg nb0).trans (by rw [n_tN (a := i) (by omega)])] at h
    refine c_Md_why (by omega) hi (hS i hi) (hW i hi) (fault_ge (fun e => QI_i.mpr ?_) (fun e => ?_))
    · rw [if_neg e] at h; exact h
    · rw [if_pos e] at h
      obtain ⟨l, sz, g, eS, ez, z1, z2, z3⟩ := fault_0 e
      obtain ⟨w1, w2⟩ := hW i hi l sz g eS
      obtain ⟨c, hc, rfl⟩ := nI_of z2
      rw [show (2 : Int32) * nI k = nI (2 * k) from pk_mul 2 k, n_tN hc, n_tN (by omega)] at z3
      have hSi := hS i hi
      rw [eS] at hSi
      rw [n_tN hc, n_tN (by omega), eS] at h
      have h : F (if clkO g c V.B.pn k then (if x = -4 then nI (lkS V g c k V.B.ln) else nI (kdS V g c k (tN x) 5)) else -2) I J := h
      rw [n_24]
      have hJ : ∀ q, q < 2 * k → J 76 (24 * i + c + q) = g (c + q) := fun q hq => by rw [Nat.add_assoc]; exact hSi.2.2 _ (by omega)
      have hfr : 24 * i + c + 2 * k ≤ 96 := by omega
      have loop206 : ∀ r q, q + r = V.B.ln → clkO g c V.B.pn k = true → F (nI (lkS V g c k V.B.ln)) I J → Wp (d - 1) Md_clicks (QI F) 206 [some (.ref 57), some (.int x), some (.int (nI i)), some (.int z), some (.int (nI c)), some (.int (nI k)), some (.int (faultS (S i) z (nI c) (2 * nI k))), some (.int (nI (24 * i + c))), some (.int (nI (lkS V g c k q))), some (.int (nI q)), none] [] I J := by
        intro r
        induction r with
        | zero =>
          intro q hq hok hh
          have hq : q = V.B.ln := by omega
          subst hq
          refine v_Md_clicks_57_206 ⟨fun z => ?_, fun _ => QI_i.mpr hh⟩
          rw [hV.1.2.1] at z; exact absurd ((n_lt (by omega) (by omega)).mp z) (Nat.lt_irrefl _)
        | succ r ih =>
          intro q hq hok hh
          have hlt : q < V.B.ln := by omega
          have go := ih (q + 1) (by omega) hok hh
          simp only [lkS] at go
          refine v_Md_clicks_57_206 ⟨fun _ => ?_, fun z => absurd ((n_lt (by omega) (by omega)).mpr hlt) (by rw [hV.1.2.1] at z; exact z)⟩
          rw [hV.2.2.1, n_one (by omega), n_xor, n_or, n_inc, n_or0]
          refine c_Md_clicksSo (by omega) hw.1 hV.boxM hV.2.2.2.2.1 hw.2.2.1 (lk_f hw hlt) hfr hJ hok ?_
          rw [bI_0]
          refine ⟨fun e => ?_, fun e => ?_⟩
          · rw [if_neg (by rw [e]; decide), Nat.or_zero] at go; exact go
          · rw [if_pos (by simpa using e)] at go; exact go
      have loop : ∀ r q, q + r = k → clkO g c V.B.pn q = true → Wp (d - 1) Md_clicks (QI F) 77 [some (.ref 57), some (.int x), some (.int (nI i)), some (.int z), some (.int (nI c)), some (.int (nI k)), some (.int (faultS (S i) z (nI c) (2 * nI k))), some (.int (nI (24 * i + c))), some (.int (nI q)), none, none] [] I J := by
        intro r
        induction r with
        | zero =>
          intro q hq hok
          have hq : q = k := by omega
          subst hq
          rw [if_pos hok] at h
          refine v_Md_clicks_57_77 ⟨fun z => absurd ((n_lt (by omega) (by omega)).mp z) (Nat.lt_irrefl _), fun _ => ⟨fun e4 => ?_, fun e4 => ?_⟩⟩
          · rw [if_pos e4] at h
            rw [hV.2.2.1]
            refine c_Md_clicksSo (by omega) hw.1 hV.boxM hV.2.2.2.2.1 hw.2.2.1 hf hfr hJ hok ?_
            have go := loop206 V.B.ln 0 (Nat.zero_add _) hok h
            simp only [lkS] at go
            rw [bI_0]
            refine ⟨fun e => ?_, fun e => ?_⟩
            · rw [if_neg (by rw [e]; decide)] at go; exact go
            · rw [if_pos (by simpa using e)] at go; exact go
          · rw [if_neg e4] at h
            obtain ⟨x', hx, rfl⟩ := in_of (Classical.not_not.mp (fun q => n1 ⟨e4, q⟩)) (by omega)
            rw [n_tN (by omega)] at h
            exact c_Md_kindsBy (by omega) hw hV hx hfr hJ hok (QI_i.mpr h)
        | succ r ih =>
          intro q hq hok
          have e1 : clkO g c V.B.pn (q + 1) = okPr V.B.pn (g (c + 2 * q)) (g (c + 2 * q + 1)) := by
            simp only [clkO]; rw [hok, Bool.true_and]
          have bad : okPr V.B.pn (g (c + 2 * q)) (g (c + 2 * q + 1)) = false → QI F (some (.int (-2))) I J := by
            intro z
            have e3 := clkO_up (e1.trans z) r
            rw [show q + 1 + r = k by omega] at e3
            rw [e3, if_neg (by decide)] at h
            exact QI_i.mpr h
          have j1 : J 76 (24 * i + c + 2 * q) = g (c + 2 * q) := hJ _ (by omega)
          have j2 : J 76 (24 * i + c + 2 * q + 1) = g (c + 2 * q + 1) := by rw [Nat.add_assoc, hJ _ (by omega), ← Nat.add_assoc]
          refine v_Md_clicks_57_77 ⟨fun _ => ?_, fun z => absurd ((n_lt (by omega) (by omega)).mpr (by omega)) z⟩
          rw [show (2 : Int32) * nI q = nI (2 * q) from pk_mul 2 q, nI_add, n_inc, n_inc, n_tN (by omega), n_tN (by omega), j1, hV.1.1, cmp_gt]
          unfold okPr at bad e1
          refine ⟨n_vp (by omega) (by decide), c_Md_in (by omega) ?_⟩
          rw [in10 hp5, j2]
          refine ⟨fun e => bad (decide_eq_false (fun z => e ⟨z.1, z.2.1⟩)), fun e => ⟨fun e2 => bad (decide_eq_false (fun z => z.2.2.1 e2)), fun e2 => ⟨n_vp (by omega) (by decide), c_Md_in (by omega) ?_⟩⟩⟩
          rw [in01]
          refine ⟨fun e3 => bad (decide_eq_false (fun z => e3 z.2.2.2)), fun e3 => ih (q + 1) (by omega) ?_⟩
          have e := Classical.not_not.mp e
          have e3 := Classical.not_not.mp e3
          rw [e1]; exact decide_eq_true ⟨e.1, e.2, e2, e3.1, e3.2⟩
      exact loop k 0 (Nat.zero_add _) rfl
  refine CI.of (by omega) rfl (v_Md_clicks_57_0 ⟨fun e4 => c_Md_isSheet (by omega) ?_, fun e4 => c_Md_isPanel (by omega) hw.1 hV.boxM ?_⟩)
  · rw [in_dec]
    refine ⟨fun q => bad (Or.inr (Or.inl q)), fun q1 => c_Md_isLane (by omega) ?_⟩
    rw [in_dec]
    refine ⟨fun q => bad (Or.inr (Or.inr (Or.inl q))), fun q2 => c_Md_in (by omega) ?_⟩
    rw [in18]
    refine ⟨fun q => bad (Or.inr (Or.inr (Or.inr q))), fun q3 => rest ?_⟩
    rintro (q | q | q | q)
    · exact q.1 e4
    · exact q1 q
    · exact q2 q
    · exact q3 q
  · rw [in_dec]
    refine ⟨fun q => bad (Or.inl ⟨e4, q⟩), fun q0 => c_Md_isSheet (by omega) ?_⟩
    rw [in_dec]
    refine ⟨fun q => bad (Or.inr (Or.inl q)), fun q1 => c_Md_isLane (by omega) ?_⟩
    rw [in_dec]
    refine ⟨fun q => bad (Or.inr (Or.inr (Or.inl q))), fun q2 => c_Md_in (by omega) ?_⟩
    rw [in18]
    refine ⟨fun q => bad (Or.inr (Or.inr (Or.inr q))), fun q3 => rest ?_⟩
    rintro (q | q | q | q)
    · exact q0 q.2
    · exact q1 q
    · exact q2 q
    · exact q3 q
end CLK2
