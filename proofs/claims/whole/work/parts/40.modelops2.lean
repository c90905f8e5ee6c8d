/-! the model: calls that change now -/
theorem in_rng {x lo hi : Int32} {l h : Int64} (hl : l = lo.toInt64) (hh : h = hi.toInt64) : bI (decide (¬ x.toInt64 < l) && decide (¬ h < x.toInt64)) = 0 ↔ (x < lo ∨ hi < x) := by
  subst hl; subst hh
  rw [bI_0]
  simp only [wide_lt, Bool.and_eq_false_iff, decide_eq_false_iff_not, Classical.not_not]
section MOPS2
variable {d : Nat} {V : Bv} {I : I2} {J : J2} {G : I2 → J2 → Prop} {F : Int32 → I2 → J2 → Prop} {s : Nat}
theorem c_Md_panel (hd : 3 ≤ d) (hw : WFV V) (hV : MBx V I) (x y : Int32) (h : ∀ I', MBx (panelS V x y).2 I' → FrN I I' → F (panelS V x y).1 I' J) : CI d Md_panel [.ref 57, .int x, .int y] I J F := by
  have hp5 := hw.1.1
  have bad : (x < 0 ∨ 4 < x ∨ y < 1 ∨ 3 < y) → QI F (some (.int (-1))) I J := by
    intro e
    rw [show panelS V x y = (-1, V) from if_pos e] at h
    exact QI_i.mpr (h I hV FrN.rf)
  refine CI.of (by omega) rfl (v_Md_panel_57_0 (c_Md_in (by omega) ?_))
  rw [in_rng (lo := 0) (hi := 4) (by decide) (by decide)]
  refine ⟨fun q => bad (by rcases q with q | q; exact Or.inl q; exact Or.inr (Or.inl q)), fun q => c_Md_in (by omega) ?_⟩
  rw [in_rng (lo := 1) (hi := 3) (by decide) (by decide)]
  refine ⟨fun q => bad (by rcases q with q | q; exact Or.inr (Or.inr (Or.inl q)); exact Or.inr (Or.inr (Or.inr q))), fun q9 => ?_⟩
  simp only [not_or] at q q9
  obtain ⟨q1, q2⟩ := q
  obtain ⟨q3, q4⟩ := q9
  have nb : ¬ (x < 0 ∨ 4 < x ∨ y < 1 ∨ 3 < y) := by simp only [not_or]; exact ⟨q1, q2, q3, q4⟩
  have e5 : I 58 0 = 5 ↔ ¬ V.B.pn < 5 := by
    rw [hV.1.1, show (nI V.B.pn = 5) = (nI V.B.pn = nI 5) from rfl, n_eq (by omega) (by decide)]; omega
  rw [e5]
  refine ⟨fun h5 => ?_, fun h5 => ?_⟩
  · rw [show panelS V x y = (-3, V) from (if_neg nb).trans (if_neg h5)] at h
    exact QI_i.mpr (h I hV FrN.rf)
  · have h5 : V.B.pn < 5 := Classical.not_not.mp h5
    rw [show panelS V x y = (nI V.B.pn, V.setB (V.B.addP (tN x) (tN y))) from (if_neg nb).trans (if_pos h5)] at h
    obtain ⟨kx, hkx, rfl⟩ := le_of (n := 4) q1 q2 (by decide)
    have y0 : ¬ y < 0 := fun q => q3 (Int32.lt_trans q (by decide))
    obtain ⟨ky, hky, rfl⟩ := le_of (n := 3) y0 q4 (by decide)
    rw [n_tN (by omega), n_tN (by omega)] at h
    refine CV.of (by omega) rfl (v_Md_panelComes_57_0 ?_)
    have e1 : (6 : Int32) + 2 * nI V.B.pn = nI (6 + 2 * V.B.pn) := by rw [show (2 : Int32) * nI V.B.pn = nI (2 * V.B.pn) from pk_mul 2 _]; exact nI_add 6 _
    have e0 : I 58 0 = nI V.B.pn := hV.1.1
    rw [e0, e1, n_tN (by omega)]
    have r1 : ∀ z : Int32, up2 I 58 (6 + 2 * V.B.pn) z 58 0 = nI V.B.pn := fun z => by simp only [up2, upd, if_pos]; rw [if_neg (by omega)]; exact e0
    have e2 : nI (6 + 2 * V.B.pn) + 1 = nI (6 + 2 * V.B.pn + 1) := nI_1 _
    rw [r1, e1, e2, n_tN (by omega)]
    have r2 : ∀ z z2 : Int32, up2 (up2 I 58 (6 + 2 * V.B.pn) z) 58 (6 + 2 * V.B.pn + 1) z2 58 0 = nI V.B.pn := fun z z2 => by simp only [up2, upd, if_pos]; rw [if_neg (by omega), if_neg (by omega)]; exact e0
    rw [r2, n_inc]
    refine ⟨n_vp (by omega) (by decide), n_vp (by omega) (by decide), QV_i.mpr (QI_i.mpr ?_)⟩
    have e9 : up2 (up2 (up2 (up2 I 58 (6 + 2 * V.B.pn) (nI kx)) 58 (6 + 2 * V.B.pn + 1) (nI ky)) 58 0 (nI (V.B.pn + 1))) 57 9 0 58 0 - 1 = nI V.B.pn := by
      simp [up2, upd]; exact n_dec (a := V.B.pn + 1) (by omega)
    rw [e9]
    obtain ⟨hB, h2, h3, h4, h5', h6, h7⟩ := hV
    have ne : ∀ j, j ≠ 0 → j ≠ 6 + 2 * V.B.pn → j ≠ 6 + 2 * V.B.pn + 1 → up2 (up2 (up2 (up2 I 58 (6 + 2 * V.B.pn) (nI kx)) 58 (6 + 2 * V.B.pn + 1) (nI ky)) 58 0 (nI (V.B.pn + 1))) 57 9 0 58 j = I 58 j := fun j j1 j2 j3 => by simp [up2, upd, j1, j2, j3]
    refine h _ ⟨⟨?_, ?_, ?_, ?_⟩, ?_, ?_, ?_, ?_, ?_, fun k x hx => (nil_get hx).elim⟩ ⟨fun a a1 a2 a3 => by simp [up2, a1, a2], fun k hk => by simp [up2, upd, hk]⟩
    · simp [up2, upd]; rfl
    · rw [ne 1 (by omega) (by omega) (by omega)]; exact hB.2.1
    · intro p hp2
      have hp2 : p < V.B.pn + 1 := hp2
      show _ = nI (updN V.B.kd V.B.pn kx p) ∧ _ = nI (updN V.B.dp V.B.pn ky p)
      by_cases e : p = V.B.pn
      · subst e
        simp [up2, upd, updN]
      · simp only [updN, if_neg e]
        rw [ne _ (by omega) (by omega) (by omega), ne _ (by omega) (by omega) (by omega)]
        exact hB.2.2.1 p (by omega)
    · intro l hl
      rw [ne _ (by omega) (by omega) (by omega), ne _ (by omega) (by omega) (by omega), ne _ (by omega) (by omega) (by omega), ne _ (by omega) (by omega) (by omega)]
      exact hB.2.2.2 l hl
    · rw [ne 2 (by omega) (by omega) (by omega)]; exact h2
    · rw [ne 3 (by omega) (by omega) (by omega)]; exact h3
    · rw [ne 4 (by omega) (by omega) (by omega)]; exact h4
    · rw [ne 5 (by omega) (by omega) (by omega)]; exact h5'
    · simp [up2, upd]; rfl
theorem c_Md_lock (hd : 3 ≤ d) (hw : WFV V) (hV : MBx V I) (a w o ps : Int32) (h : ∀ I', MBx (lockS V a w o ps).2 I' → FrN I I' → F (lockS V a w o ps).1 I' J) : CI d Md_lock [.ref 57, .int a, .int w, .int o, .int ps] I J F := by
  have hp5 := hw.1.1
  have hl6 := hw.1.2.1
  have bad : (¬ inN a V.B.pn ∨ ¬ inN o V.B.pn ∨ a = o ∨ w < 0 ∨ 2 < w ∨ ps < 1 ∨ 15 < ps) → QI F (some (.int (-1))) I J := by
    intro e
    rw [show lockS V a w o ps = (-1, V) from if_pos e] at h
    exact QI_i.mpr (h I hV FrN.rf)
  refine CI.of (by omega) rfl (v_Md_lock_57_0 (c_Md_isPanel (by omega) hw.1 hV.boxM ?_))
  rw [in_dec]
  refine ⟨fun q => bad (Or.inl q), fun q1 => c_Md_in (by omega) ?_⟩
  rw [in_rng (lo := 0) (hi := 2) (by decide) (by decide)]
  refine ⟨fun q => bad (by rcases q with q | q; exact Or.inr (Or.inr (Or.inr (Or.inl q))); exact Or.inr (Or.inr (Or.inr (Or.inr (Or.inl q))))), fun q45 => c_Md_isPanel (by omega) hw.1 hV.boxM ?_⟩
  rw [in_dec]
  refine ⟨fun q => bad (Or.inr (Or.inl q)), fun q2 => ⟨fun q => bad (Or.inr (Or.inr (Or.inl q))), fun q3 => c_Md_in (by omega) ?_⟩⟩
  rw [in_rng (lo := 1) (hi := 15) (by decide) (by decide)]
  refine ⟨fun q => bad (by rcases q with q | q; exact Or.inr (Or.inr (Or.inr (Or.inr (Or.inr (Or.inl q))))); exact Or.inr (Or.inr (Or.inr (Or.inr (Or.inr (Or.inr q)))))), fun q67 => ?_⟩
  simp only [not_or] at q45 q67
  obtain ⟨q4, q5⟩ := q45
  obtain ⟨q6, q7⟩ := q67
  have nb : ¬ (¬ inN a V.B.pn ∨ ¬ inN o V.B.pn ∨ a = o ∨ w < 0 ∨ 2 < w ∨ ps < 1 ∨ 15 < ps) := by
    rintro (q | q | q | q | q | q | q)
    · exact q1 q
    · exact q2 q
    · exact q3 q
    · exact q4 q
    · exact q5 q
    · exact q6 q
    · exact q7 q
  have e5 : I 58 1 = 6 ↔ ¬ V.B.ln < 6 := by
    rw [hV.1.2.1, show (nI V.B.ln = 6) = (nI V.B.ln = nI 6) from rfl, n_eq (by omega) (by decide)]; omega
  rw [e5]
  refine ⟨fun h5 => ?_, fun h5 => ?_⟩
  · rw [show lockS V a w o ps = (-3, V) from (if_neg nb).trans (if_neg h5)] at h
    exact QI_i.mpr (h I hV FrN.rf)
  · have h5 : V.B.ln < 6 := Classical.not_not.mp h5
    rw [show lockS V a w o ps = _ from (if_neg nb).trans (if_pos h5)] at h
    have q1 : inN a V.B.pn := Classical.not_not.mp q1
    have q2 : inN o V.B.pn := Classical.not_not.mp q2
    obtain ⟨a, ha, rfl⟩ := in_of q1 (by omega)
    obtain ⟨o, ho, rfl⟩ := in_of q2 (by omega)
    obtain ⟨w, hww, rfl⟩ := le_of (n := 2) q4 q5 (by decide)
    have y0 : ¬ ps < 0 := fun q => q6 (Int32.lt_trans q (by decide))
    obtain ⟨ps, hps, rfl⟩ := le_of (n := 15) y0 q7 (by decide)
    rw [n_tN (by omega), n_tN (by omega), n_tN (by omega), n_tN (by omega)] at h
    refine CV.of (by omega) rfl (v_Md_lockComes_57_0 ?_)
    have e1 : (16 : Int32) + 4 * nI V.B.ln = nI (16 + 4 * V.B.ln) := by rw [show (4 : Int32) * nI V.B.ln = nI (4 * V.B.ln) from pk_mul 4 _]; exact nI_add 16 _
    have e0 : I 58 1 = nI V.B.ln := hV.1.2.1
    have t1 : nI (16 + 4 * V.B.ln) + 1 = nI (16 + 4 * V.B.ln + 1) := nI_1 _
    have t2 : nI (16 + 4 * V.B.ln) + 2 = nI (16 + 4 * V.B.ln + 2) := nI_add _ 2
    have t3 : nI (16 + 4 * V.B.ln) + 3 = nI (16 + 4 * V.B.ln + 3) := nI_add _ 3
    rw [e0, e1, t1, t2, t3, n_tN (by omega), n_tN (by omega), n_tN (by omega), n_tN (by omega)]
    have r2 : ∀ z z2 z3 z4 : Int32, up2 (up2 (up2 (up2 I 58 (16 + 4 * V.B.ln) z) 58 (16 + 4 * V.B.ln + 1) z2) 58 (16 + 4 * V.B.ln + 2) z3) 58 (16 + 4 * V.B.ln + 3) z4 58 1 = nI V.B.ln := fun z z2 z3 z4 => by simp only [up2, upd, if_pos]; rw [if_neg (by omega), if_neg (by omega), if_neg (by omega), if_neg (by omega)]; exact e0
    rw [r2, n_inc]
    refine ⟨n_vp (by omega) (by decide), n_vp (by omega) (by decide), n_vp (by omega) (by decide), n_vp (by omega) (by decide), QV_i.mpr (QI_i.mpr ?_)⟩
    obtain ⟨hB, h2, h3, h4, h5', h6, h7⟩ := hV
    have ne : ∀ j, j ≠ 1 → (j < 16 + 4 * V.B.ln) → up2 (up2 (up2 (up2 (up2 (up2 I 58 (16 + 4 * V.B.ln) (nI a)) 58 (16 + 4 * V.B.ln + 1) (nI w)) 58 (16 + 4 * V.B.ln + 2) (nI o)) 58 (16 + 4 * V.B.ln + 3) (nI ps)) 58 1 (nI (V.B.ln + 1))) 57 9 0 58 j = I 58 j := fun j j1 j2 => by
      have z1 : j ≠ 16 + 4 * V.B.ln := by omega
      have z2 : j ≠ 16 + 4 * V.B.ln + 1 := by omega
      have z3 : j ≠ 16 + 4 * V.B.ln + 2 := by omega
      have z4 : j ≠ 16 + 4 * V.B.ln + 3 := by omega
      simp [up2, upd, j1, z1, z2, z3, z4]
    have e9 : up2 (up2 (up2 (up2 (up2 (up2 I 58 (16 + 4 * V.B.ln) (nI a)) 58 (16 + 4 * V.B.ln + 1) (nI w)) 58 (16 + 4 * V.B.ln + 2) (nI o)) 58 (16 + 4 * V.B.ln + 3) (nI ps)) 58 1 (nI (V.B.ln + 1))) 57 9 0 58 1 - 1 = nI V.B.ln := by
      simp [up2, upd]; exact n_dec (a := V.B.ln + 1) (by omega)
    rw [e9]
    refine h _ ⟨⟨?_, ?_, ?_, ?_⟩, ?_, ?_, ?_, ?_, ?_, fun k x hx => (nil_get hx).elim⟩ ⟨fun a a1 a2 a3 => by simp [up2, a1, a2], fun k hk => by simp [up2, upd, hk]⟩
    · rw [ne 0 (by omega) (by omega)]; exact hB.1
    · simp [up2, upd]; rfl
    · intro p hp2
      have hp2 : p < V.B.pn := hp2
      rw [ne _ (by omega) (by omega), ne _ (by omega) (by omega)]
      exact hB.2.2.1 p hp2
    · intro l hl
      have hl : l < V.B.ln + 1 := hl
      show _ = nI (updN V.B.ow V.B.ln a l) ∧ _ = nI (updN V.B.wy V.B.ln w l) ∧ _ = nI (updN V.B.ot V.B.ln o l) ∧ _ = nI (updN V.B.ps V.B.ln ps l)
      by_cases e : l = V.B.ln
      · subst e
        simp [up2, upd, updN]
        intro q; omega
      · simp only [updN, if_neg e]
        rw [ne _ (by omega) (by omega), ne _ (by omega) (by omega), ne _ (by omega) (by omega), ne _ (by omega) (by omega)]
        exact hB.2.2.2 l (by omega)
    · rw [ne 2 (by omega) (by omega)]; exact h2
    · rw [ne 3 (by omega) (by omega)]; exact h3
    · rw [ne 4 (by omega) (by omega)]; exact h4
    · rw [ne 5 (by omega) (by omega)]; exact h5'
    · simp [up2, upd]; rfl
theorem c_Md_lid (hd : 3 ≤ d) (hw : WFV V) (hV : MBx V I) (x : Int32) (h : ∀ I', MBx (lidS V x).2 I' → FrN I I' → F (lidS V x).1 I' J) : CI d Md_lid [.ref 57, .int x] I J F := by
  have hp5 := hw.1.1
  refine CI.of (by omega) rfl (v_Md_lid_57_0 (c_Md_isPanel (by omega) hw.1 hV.boxM ?_))
  rw [in_dec]
  refine ⟨fun e => QI_i.mpr ?_, fun e => QI_i.mpr ?_⟩
  · rw [show lidS V x = (-1, V) from if_neg e] at h
    exact h I hV FrN.rf
  · have e : inN x V.B.pn := Classical.not_not.mp e
    rw [show lidS V x = (nI V.lid, V.setLid (tN x)) from if_pos e] at h
    obtain ⟨j, hj, rfl⟩ := in_of e (by omega)
    rw [n_tN (by omega)] at h
    rw [hV.2.1]
    exact h _ (MBx_setLid hV) FrN_up
theorem c_Md_seed (hd : 1 ≤ d) (hV : MBx V I) (v : Int32) (h : ∀ I', MBx (seedS V v).2 I' → FrN I I' → F (seedS V v).1 I' J) : CI d Md_seed [.ref 57, .int v] I J F := by
  refine CI.of (by omega) rfl (v_Md_seed_57_0 ⟨fun e => QI_i.mpr ?_, fun e => QI_i.mpr ?_⟩)
  · rw [show seedS V v = (-1, V) from if_pos e] at h
    exact h I hV FrN.rf
  · rw [show seedS V v = (nI V.dr, V.setD (tN v)) from if_neg e] at h
    obtain ⟨j, hj, rfl⟩ := nI_of e
    rw [n_tN (by omega)] at h
    rw [hV.2.2.2.1]
    exact h _ (MBx_setD hV) FrN_up
theorem c_Md_slide (hd : 6 ≤ d) (hw : WFV V) (hV : MBx V I) (x y : Int32) (h : ∀ I', MBx (slideS V x y).2 I' → FrN I I' → F (slideS V x y).1 I' J) : CI d Md_slide [.ref 57, .int x, .int y] I J F := by
  have hp5 := hw.1.1
  have hs := s31 hw.1 hw.2.2.1.1
  have hf := f64 hw.1 hw.2.2.2.1
  have bad : (¬ inN x V.B.pn ∨ y < 0 ∨ 1 < y) → QI F (some (.int (-1))) I J := by
    intro e
    rw [show slideS V x y = (-1, V) from if_pos e] at h
    exact QI_i.mpr (h I hV FrN.rf)
  refine CI.of (by omega) rfl (v_Md_slide_57_0 (c_Md_isPanel (by omega) hw.1 hV.boxM ?_))
  rw [in_dec]
  refine ⟨fun q => bad (Or.inl q), fun q1 => c_Md_in (by omega) ?_⟩
  rw [in_rng (lo := 0) (hi := 1) (by decide) (by decide)]
  refine ⟨fun q => bad (Or.inr q), fun q23 => ?_⟩
  simp only [not_or] at q23
  obtain ⟨q2, q3⟩ := q23
  have nb : ¬ (¬ inN x V.B.pn ∨ y < 0 ∨ 1 < y) := by simp only [not_or]; exact ⟨q1, q2, q3⟩
  have q1 : inN x V.B.pn := Classical.not_not.mp q1
  obtain ⟨p, hp, rfl⟩ := in_of q1 (by omega)
  obtain ⟨w, hww, rfl⟩ := le_of (n := 1) q2 q3 (by decide)
  rw [show slideS V (nI p) (nI w) = _ from if_neg nb, n_tN (by omega), n_tN (by omega)] at h
  refine c_Md_mayNow (by omega) hw.1 hV.boxM hV.2.2.2.2.1 hV.2.2.1 (by omega) hp hf (by omega) ?_
  rw [bI_0]
  refine ⟨fun e => QI_i.mpr ?_, fun e => c_Md_notes (by omega) hw hV (fun I' hV' hF' h58 => ?_)⟩
  · rw [e] at h; exact h I hV FrN.rf
  · have e : mayB V.B V.s V.f p w = true := by simpa using e
    rw [e] at h
    have hpl := may_place e
    have hdp := (hw.1.2.2.1 p hp).2.2
    rw [hV'.2.2.2.2.1]
    refine c_Md_behind (by omega) hw.1 hV'.boxM (s := V.s) hw.2.2.1.1 hp (by omega) (fun z => by have := hpl.2 (by omega); omega) hpl.1 (QI_i.mpr ?_)
    exact h _ (MBx_setS hV') (hF'.tr FrN_up)
theorem l_Md_outs (hd : 1 ≤ d) (hw : WFB V.B) (hV : MBx V I) (hs : V.s < 2 ^ 31) (h : F (nI (outN V.s V.B.pn)) I J) : ∀ k n, n + k = V.B.pn → Wp d Md_outs (QI F) 4 [some (.ref 57), some (.int (nI (outN V.s n))), some (.int (nI n))] [] I J := by
  have hp5 := hw.1
  intro k
  induction k with
  | zero =>
    intro n hn
    have hn : n = V.B.pn := by omega
    subst hn
    refine v_Md_outs_57_4 ⟨fun q => ?_, fun _ => QI_i.mpr h⟩
    rw [hV.1.1] at q; exact absurd ((n_lt (by omega) (by omega)).mp q) (Nat.lt_irrefl _)
  | succ k ih =>
    intro n hn
    have hlt : n < V.B.pn := by omega
    have go := ih (n + 1) (by omega)
    refine v_Md_outs_57_4 ⟨fun _ => ?_, fun q => absurd ((n_lt (by omega) (by omega)).mpr hlt) (by rw [hV.1.1] at q; exact q)⟩
    rw [hV.2.2.2.2.1]
    refine c_Md_placeIn (by omega) hs (by omega) ?_
    have hpl := pl_lt V.s n
    have e3 : slI 1 (nI n) = nI (2 ^ n) := by
      have hb : 2 ^ n ≤ 2 ^ 6 := Nat.pow_le_pow_right (by decide) (by omega)
      have := n_sl (a := 1) (k := n) (by omega) (by omega)
      rwa [Nat.one_mul] at this
    rw [n_p0 (by omega), n_inc, e3, n_or, show (nI (outN V.s n) ||| 0) = nI (outN V.s n ||| 0) from n_or _ 0]
    refine ⟨fun h1 => ?_, fun h1 => ?_⟩
    · simp only [outN, if_pos h1] at go; exact go
    · simp only [outN, if_neg h1] at go; exact go
theorem c_Md_outs (hd : 2 ≤ d) (hw : WFB V.B) (hV : MBx V I) (hs : V.s < 2 ^ 31) (h : F (nI (outN V.s V.B.pn)) I J) : CI d Md_outs [.ref 57] I J F :=
  CI.of (by omega) rfl (v_Md_outs_57_0 (l_Md_outs (by omega) hw hV hs h V.B.pn 0 (by omega)))
theorem c_Md_shut (hd : 4 ≤ d) (hw : WFV V) (hV : MBx V I) (h : ∀ I', MBx (shutS V).2 I' → FrN I I' → F (shutS V).1 I' J) : CI d Md_shut [.ref 57] I J F := by
  have hp5 := hw.1.1
  have hs := s31 hw.1 hw.2.2.1.1
  have ho := outN_lt (s := V.s) (n := V.B.pn) (by omega)
  have hpop := pop_le _ ho
  refine CI.of (by omega) rfl (v_Md_shut_57_0 (c_Md_outs (by omega) hw.1 hV (by omega) (c_Md_many (by omega) ho ?_)))
  rw [n_e0 (by omega)]
  refine ⟨fun e => QI_i.mpr ?_, fun e => c_Md_notes (by omega) hw hV (fun I' hV' hF' _ => QI_i.mpr ?_)⟩
  · rw [show shutS V = (-2, V) from if_pos e] at h
    exact h I hV FrN.rf
  · rw [show shutS V = _ from if_neg e] at h
    exact h _ (MBx_setS (o := 0) hV') (hF'.tr FrN_up)
theorem c_Md_file (hd : 3 ≤ d) (hw : WFV V) (hV : MBx V I) (x : Int32) (h : ∀ I', MBx (fileS V x).2 I' → FrN I I' → F (fileS V x).1 I' J) : CI d Md_file [.ref 57, .int x] I J F := by
  have hl6 := hw.1.2.1
  have hf := f64 hw.1 hw.2.2.2.1
  refine CI.of (by omega) rfl (v_Md_file_57_0 (c_Md_isLock (by omega) hw.1 hV.boxM ?_))
  rw [in_dec]
  refine ⟨fun q => QI_i.mpr ?_, fun q => ?_⟩
  · rw [show fileS V x = (-1, V) from if_pos q] at h
    exact h I hV FrN.rf
  · have q1 : inN x V.B.ln := Classical.not_not.mp q
    rw [show fileS V x = _ from if_neg q] at h
    obtain ⟨l, hl, rfl⟩ := in_of q1 (by omega)
    rw [n_tN (by omega)] at h
    have e1 : (srI (nI V.f) (nI l) &&& 1) = 1 ↔ V.f.testBit l = true := by
      rw [n_sr (by omega) (by omega), n_and1 (Nat.lt_of_le_of_lt (Nat.div_le_self _ _) (by omega)), show (1 : Int32) = nI 1 from rfl, n_eq (by omega) (by omega), Nat.testBit_eq_decide_div_mod_eq]
      simp
    rw [hV.2.2.1, e1]
    refine ⟨fun e => QI_i.mpr ?_, fun e => c_Md_notes (by omega) hw hV (fun I' hV' hF' _ => QI_i.mpr ?_)⟩
    · rw [e] at h; exact h I hV FrN.rf
    · have e : V.f.testBit l = false := by simpa using e
      rw [e] at h
      have e3 : slI 1 (nI l) = nI (2 ^ l) := by
        have hb : 2 ^ l ≤ 2 ^ 6 := Nat.pow_le_pow_right (by decide) (by omega)
        have := n_sl (a := 1) (k := l) (by omega) (by omega)
        rwa [Nat.one_mul] at this
      rw [hV'.2.2.1, e3, n_or]
      exact h _ (MBx_setF hV') (hF'.tr FrN_up)
theorem c_Md_undo (hd : 1 ≤ d) (hw : WFV V) (hV : MBx V I) (h : ∀ I', MBx (undoS V).2 I' → FrN I I' → F (undoS V).1 I' J) : CI d Md_undo [.ref 57] I J F := by
  have h8 := hw.2.2.2.2.2.1
  obtain ⟨hB, h2, h3, h4, h5, h6, h7⟩ := id hV
  refine CI.of (by omega) rfl (v_Md_undo_57_0 ?_)
  rw [h6, n_e0 (by omega)]
  refine ⟨fun e => QI_i.mpr ?_, fun e => ?_⟩
  · have e0 : V.past = [] := List.eq_nil_of_length_eq_zero e
    rw [show undoS V = (-4, V) from by unfold undoS; rw [e0]] at h
    exact h I hV FrN.rf
  · obtain ⟨x, t, ex⟩ : ∃ x t, V.past = x :: t := by
      cases hh : V.past with
      | nil => rw [hh] at e; exact absurd rfl e
      | cons x t => exact ⟨x, t, rfl⟩
    rw [show undoS V = (nI t.length, (V.1, (V.lid, x.1, x.2.1, x.2.2), t)) from by unfold undoS; rw [ex]] at h
    have elen : V.past.length = t.length + 1 := by rw [ex]; rfl
    obtain ⟨x1, x2, x3⟩ := h7 0 x (by rw [ex]; rfl)
    rw [elen] at x1 x2 x3
    rw [Nat.add_sub_cancel, Nat.sub_zero] at x1 x2 x3
    have e0 : nI (t.length + 1) - 1 = nI t.length := n_dec (by omega)
    have e1 : (3 : Int32) * nI t.length = nI (3 * t.length) := pk_mul 3 _
    have e2 : nI (3 * t.length) + 1 = nI (3 * t.length + 1) := nI_1 _
    have e3 : nI (3 * t.length) + 2 = nI (3 * t.length + 2) := nI_add _ 2
    rw [elen, e0, e1, e2, e3, n_tN (by omega), n_tN (by omega), n_tN (by omega), x1, x2, x3]
    refine ⟨n_vp (by omega) (by decide), n_vp (by omega) (by decide), n_vp (by omega) (by decide), QI_i.mpr ?_⟩
    have ne : ∀ j, j ≠ 3 → j ≠ 4 → j ≠ 5 → up2 (up2 (up2 (up2 I 57 9 (nI t.length)) 58 5 (nI x.1)) 58 3 (nI x.2.1)) 58 4 (nI x.2.2) 58 j = I 58 j := fun j j1 j2 j3 => by simp [up2, upd, j1, j2, j3]
    refine h _ ⟨⟨?_, ?_, fun p hp => ?_, fun l hl => ?_⟩, ?_, ?_, ?_, ?_, ?_, ?_⟩ ⟨fun a a1 a2 a3 => by simp [up2, a1, a2], fun k hk => by simp [up2, upd, hk]⟩
    · rw [ne 0 (by omega) (by omega) (by omega)]; exact hB.1
    · rw [ne 1 (by omega) (by omega) (by omega)]; exact hB.2.1
    · rw [ne _ (by omega) (by omega) (by omega), ne _ (by omega) (by omega) (by omega)]; exact hB.2.2.1 p hp
    · rw [ne _ (by omega) (by omega) (by omega), ne _ (by omega) (by omega) (by omega), ne _ (by omega) (by omega) (by omega), ne _ (by omega) (by omega) (by omega)]; exact hB.2.2.2 l hl
    · rw [ne 2 (by omega) (by omega) (by omega)]; exact h2
    · simp [up2, upd]
    · simp [up2, upd]
    · simp [up2, upd]
    · simp [up2, upd]
    · intro k y hy
      have hy : t[k]? = some y := hy
      have hk : k < t.length := (List.getElem?_eq_some_iff.mp hy).1
      have := h7 (k + 1) y (by rw [ex]; exact hy)
      rw [elen, show t.length + 1 - 1 - (k + 1) = t.length - 1 - k by omega] at this
      simpa [up2] using this
end MOPS2
theorem n_drwL {a : Nat} (ha : a < 2 ^ 31) : Int64.toInt32 (((Int32.toInt64 (nI a)) * 1103515245 + 12345) &&& 2147483647) = nI (drw a) := by
  have e0 : Int32.toInt64 (nI a) = lN a := nI_l ha
  have e1 : lN a * 1103515245 = lN (a * 1103515245) := lN_mul a 1103515245
  have e2 : lN (a * 1103515245) + 12345 = lN (a * 1103515245 + 12345) := lN_add _ 12345
  rw [e0, e1, e2, drw_eq]
  have hN : a * 1103515245 + 12345 < 2 ^ 63 := by omega
  generalize a * 1103515245 + 12345 = N at hN
  have e3 : lN N &&& 2147483647 = lN (N % 2147483648) := by
    apply Int64.toBitVec_inj.mp
    show BitVec.ofNat 64 N &&& BitVec.ofNat 64 2147483647 = BitVec.ofNat 64 (N % 2147483648)
    rw [← BitVec.ofNat_and, show (2147483647 : Nat) = 2 ^ 31 - 1 from rfl, Nat.and_two_pow_sub_one_eq_mod]
  rw [e3, lN_i]
theorem up2_self {I : I2} {a k : Nat} : up2 I a k (I a k) = I := by
  funext i j
  simp only [up2]
  split
  · next h =>
    subst h
    simp only [upd]
    split
    · next h2 => rw [h2]
    · rfl
  · rfl
section MOPS3
variable {d : Nat} {V : Bv} {I : I2} {J : J2} {G : I2 → J2 → Prop} {F : Int32 → I2 → J2 → Prop} {s : Nat}
theorem l_Md_drift {n : Nat} (hd : 5 ≤ d) (hw : WFV V) (hn : n ≤ 40) (h : ∀ I', MBx (driftN n V) I' → FrN I I' → F (nI (driftN n V).s) I' J) : ∀ k m I1, m + k = n → MBx (driftN m V) I1 → FrN I I1 → Wp d Md_drift (QI F) 16 [some (.ref 57), some (.int (nI n)), some (.int (nI m)), none, none] [] I1 J := by
  intro k
  induction k with
  | zero =>
    intro m I1 hm hV1 hF1
    have hm : m = n := by omega
    subst hm
    refine v_Md_drift_57_16 ⟨fun q => absurd ((n_lt (by omega) (by omega)).mp q) (Nat.lt_irrefl _), fun _ => QI_i.mpr ?_⟩
    rw [hV1.2.2.2.2.1]
    exact h I1 hV1 hF1
  | succ k ih =>
    intro m I1 hm hV1 hF1
    have hwm := WF_driftN hw m
    have go := ih (m + 1)
    have hgo : ∀ I2, MBx (drift1 (driftN m V)) I2 → FrN I I2 → Wp d Md_drift (QI F) 16 [some (.ref 57), some (.int (nI n)), some (.int (nI m + 1)), none, none] [] I2 J := fun I2 q1 q2 => by
      rw [n_inc]; exact go I2 (by omega) q1 q2
    clear go ih
    generalize driftN m V = W at hV1 hwm hgo
    have hp5 := hwm.1.1
    have hs := s31 hwm.1 hwm.2.2.1.1
    have hf := f64 hwm.1 hwm.2.2.2.1
    have hz := drw_lt W.dr
    refine v_Md_drift_57_16 ⟨fun _ => c_Md_notes (by omega) hwm hV1 (fun I2 hV2 hF2 h58 => ?_), fun q => absurd ((n_lt (by omega) (by omega)).mpr (by omega)) q⟩
    have r0 : I2 58 0 = nI W.B.pn := hV2.1.1
    have r4 : I2 58 4 = nI W.dr := hV2.2.2.2.1
    rw [r0, r4, n_drwL hwm.2.2.2.2.1]
    unfold drift1 at hgo
    generalize drw W.dr = z at hz hgo ⊢
    rw [n_p0 (by omega), n_e0 (by omega)]
    have hV3 := MBx_setD (o := z) hV2
    have hF3 := hF1.tr (hF2.tr (FrN_up (I := I2) (k := 4) (x := nI z)))
    refine ⟨fun e => ⟨by omega, ?_⟩, fun e => ?_⟩
    · have e : ¬ W.B.pn = 0 := by omega
      rw [if_neg e] at hgo
      have e1 : rmI (nI z / 65536) (nI W.B.pn) = nI (z / 65536 % W.B.pn) := by
        rw [show nI z / 65536 = nI (z / 65536) from n_div hz (by decide) (by decide)]
        exact n_rm (Nat.lt_of_le_of_lt (Nat.div_le_self _ _) hz) (by omega) (by omega)
      have e2 : rmI (nI z / 128) 2 = nI (z / 128 % 2) := by
        rw [show nI z / 128 = nI (z / 128) from n_div hz (by decide) (by decide)]
        exact n_rm (k := 2) (Nat.lt_of_le_of_lt (Nat.div_le_self _ _) hz) (by decide) (by decide)
      have hp : z / 65536 % W.B.pn < W.B.pn := Nat.mod_lt _ (Nat.pos_of_ne_zero e)
      have hww : z / 128 % 2 < 2 := Nat.mod_lt _ Nat.zero_lt_two
      rw [e1, e2]
      generalize z / 65536 % W.B.pn = p at hp hgo ⊢
      generalize z / 128 % 2 = w at hww hgo ⊢
      refine c_Md_mayNow (by omega) hwm.1 hV3.boxM (s := W.s) (f := W.f) hV3.2.2.2.2.1 hV3.2.2.1 (by omega) hp hf hww ?_
      rw [bI_1]
      unfold driftP at hgo
      refine ⟨fun e3 => ?_, fun e3 => ?_⟩
      · rw [e3] at hgo
        have hpl := may_place e3
        have hdp := (hwm.1.2.2.1 p hp).2.2
        rw [hV3.2.2.2.2.1]
        refine c_Md_behind (by omega) hwm.1 hV3.boxM (s := W.s) hwm.2.2.1.1 hp hww (fun q => by have := hpl.2 (by omega); omega) hpl.1 ?_
        exact hgo _ (MBx_setS hV3) (hF3.tr FrN_up)
      · have e3 : mayB W.B W.s W.f p w = false := by simpa using e3
        rw [e3] at hgo
        rw [up2_self]
        exact hgo _ hV3 hF3
    · have e : W.B.pn = 0 := by omega
      rw [if_pos e] at hgo
      exact hgo _ hV3 hF3
theorem c_Md_drift (hd : 6 ≤ d) (hw : WFV V) (hV : MBx V I) (n : Int32) (h : ∀ I', MBx (driftS V n).2 I' → FrN I I' → F (driftS V n).1 I' J) : CI d Md_drift [.ref 57, .int n] I J F := by
  have bad : (n < 1 ∨ 40 < n) → QI F (some (.int (-1))) I J := by
    intro e
    rw [show driftS V n = (-1, V) from if_pos e] at h
    exact QI_i.mpr (h I hV FrN.rf)
  refine CI.of (by omega) rfl (v_Md_drift_57_0 (c_Md_in (by omega) ?_))
  rw [in_rng (lo := 1) (hi := 40) (by decide) (by decide)]
  refine ⟨fun q => bad q, fun q => ?_⟩
  rw [show driftS V n = _ from if_neg q] at h
  simp only [not_or] at q
  obtain ⟨q1, q2⟩ := q
  have y0 : ¬ n < 0 := fun q => q1 (Int32.lt_trans q (by decide))
  obtain ⟨n, hn, rfl⟩ := le_of (n := 40) y0 q2 (by decide)
  rw [n_tN (by omega)] at h
  exact l_Md_drift (by omega) hw hn h n 0 I (by omega) hV FrN.rf
end MOPS3
