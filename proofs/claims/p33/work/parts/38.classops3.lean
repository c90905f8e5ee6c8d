/-! the class: lock, drift, undo -/
section COPS3
variable {d : Nat} {V : Bv} {I : I2} {J : J2} {G : I2 → J2 → Prop} {F : Int32 → I2 → J2 → Prop} {s : Nat}
theorem c_Sb_undo (hd : 2 ≤ d) (hw : WFV V) (hV : CBx 1 V I) (h : ∀ I', CBx 1 (undoS V).2 I' → FrC V (undoS V).2 I I' → F (undoS V).1 I' J) : CI d Sb_undo [.ref 0] I J F := by
  have h6 := hw.2.2.2.2.2.1
  obtain ⟨hB, h8, h9, h10, h11, h15, np, hnp, h16, hp⟩ := id hV
  refine CI.of (by omega) rfl (v_Sb_undo_0_0 ?_)
  rw [h15, n_e0 (by omega)]
  refine ⟨fun e => QI_i.mpr ?_, fun e => CI.of (by omega) rfl (v_Bx_recall_1_0 ?_)⟩
  · have e0 : V.past = [] := List.eq_nil_of_length_eq_zero e
    rw [show undoS V = (-4, V) from by unfold undoS; rw [e0]] at h
    exact h I hV (Fr1.rf.frC rfl)
  · obtain ⟨x, t, ex⟩ : ∃ x t, V.past = x :: t := by
      cases hh : V.past with
      | nil => rw [hh] at e; exact absurd rfl e
      | cons x t => exact ⟨x, t, rfl⟩
    rw [show undoS V = (nI t.length, (V.1, (V.lid, x.1, x.2.1, x.2.2), t)) from by unfold undoS; rw [ex]] at h
    have elen : V.past.length = t.length + 1 := by rw [ex]; rfl
    have e1 : rmI (I 1 16 + 8 - 1) 8 = nI ((np + 7) % 8) := by
      rw [h16, show nI np + 8 = nI (np + 8) from nI_add np 8, n_dec (by omega), show np + 8 - 1 = np + 7 by omega]
      exact n_rm (by omega) (by decide) (by decide)
    have hv : vp_in (nI ((np + 7) % 8)) 8 := n_vp (Nat.mod_lt _ (by decide)) (by decide)
    have e2 : tN (nI ((np + 7) % 8)) = (np + 7) % 8 := n_tN (by omega)
    obtain ⟨x1, x2, x3⟩ := hp 0 x (by rw [ex]; rfl)
    rw [Nat.sub_zero] at x1 x2 x3
    rw [e1, e2, h15, n_e0 (by omega)]
    refine ⟨fun z => absurd z e, fun _ => ⟨hv, hv, hv, QI_i.mpr (QI_i.mpr ?_)⟩⟩
    rw [elen, show nI (t.length + 1) - 1 = nI t.length from n_dec (by omega)]
    rw [show I 8 ((np + 7) % 8) = nI x.1 from x1, show I 9 ((np + 7) % 8) = nI x.2.1 from x2, show I 10 ((np + 7) % 8) = nI x.2.2 from x3]
    refine h _ ⟨⟨?_, ?_, ?_, ?_⟩, ?_, ?_, ?_, ?_, ?_, (np + 7) % 8, Nat.mod_lt _ (by decide), ?_, ?_⟩ (Fr1.frC ⟨fun a ha => ?_, ?_⟩ rfl)
    · simp [up2, upd]; exact hB.1
    · simp [up2, upd]; exact hB.2.1
    · intro p hp2; simp [up2]; exact hB.2.2.1 p hp2
    · intro l hl; simp [up2]; exact hB.2.2.2 l hl
    · simp [up2, upd]; exact h8
    · simp [up2, upd]
    · simp [up2, upd]
    · simp [up2, upd]
    · simp [up2, upd]
    · simp [up2, upd]
    · intro k y hy
      have hy : t[k]? = some y := hy
      have hk : k < t.length := (List.getElem?_eq_some_iff.mp hy).1
      have := hp (k + 1) y (by rw [ex]; exact hy)
      have e9 : ((np + 7) % 8 + 7 - k) % 8 = (np + 7 - (k + 1)) % 8 := by omega
      rw [e9]
      simpa [up2] using this
    · have z1 : a ≠ 1 := by omega
      simp [up2, z1]
    · simp [up2, upd]
theorem n_low (N : Nat) : (nI N).toBitVec.toNat % 2 ^ 31 = N % 2147483648 := by
  have e : (nI N).toBitVec.toNat = N % 2 ^ 32 := BitVec.toNat_ofNat N 32
  rw [e]; omega
theorem n_drw {a : Nat} : (((nI a * 1103515245) + 12345) &&& 2147483647) = nI (drw a) := by
  have e1 : nI a * 1103515245 = nI (a * 1103515245) := pk_mul a 1103515245
  have e2 : nI (a * 1103515245) + 12345 = nI (a * 1103515245 + 12345) := nI_add _ 12345
  rw [e1, e2, drw_eq]
  generalize a * 1103515245 + 12345 = N
  rw [pk_and _ (m := 2147483647) 31 (by decide +kernel), n_low]
theorem c_Bx_driftOnce (hd : 5 ≤ d) (hw : WFV V) (hV : CBx 1 V I) (h : ∀ I', CBx 1 (drift1 V) I' → Fr1 I I' → G I' J) : CV d Bx_driftOnce [.ref 1] I J G := by
  have hp5 := hw.1.1
  have hs := s31 hw.1 hw.2.2.1.1
  have hf := f64 hw.1 hw.2.2.2.1
  have hz := drw_lt V.dr
  refine CV.of (by omega) rfl (v_Bx_driftOnce_1_0 (c_Bx_remember (by omega) hw hV (fun I1 hV1 hF1 => ?_)))
  have r2 : I1 1 2 = nI V.B.pn := hV1.1.1
  have r11 : I1 1 11 = nI V.dr := hV1.2.2.2.2.1
  rw [r2, r11, n_drw]
  unfold drift1 at h
  generalize drw V.dr = z at hz h ⊢
  rw [n_e0 (by omega)]
  refine ⟨fun e => QV_i.mpr ?_, fun e => ⟨e, ?_⟩⟩
  · rw [if_pos e] at h
    exact h _ (CBx_setD hV1) (hF1.tr (Fr1_up (by decide)))
  · rw [if_neg e] at h
    have e1 : rmI (nI z / 65536) (nI V.B.pn) = nI (z / 65536 % V.B.pn) := by
      rw [show nI z / 65536 = nI (z / 65536) from n_div hz (by decide) (by decide)]
      exact n_rm (Nat.lt_of_le_of_lt (Nat.div_le_self _ _) hz) (by omega) (by omega)
    have e2 : rmI (nI z / 128) 2 = nI (z / 128 % 2) := by
      rw [show nI z / 128 = nI (z / 128) from n_div hz (by decide) (by decide)]
      exact n_rm (k := 2) (Nat.lt_of_le_of_lt (Nat.div_le_self _ _) hz) (by decide) (by decide)
    have hp : z / 65536 % V.B.pn < V.B.pn := Nat.mod_lt _ (Nat.pos_of_ne_zero e)
    have hww : z / 128 % 2 < 2 := Nat.mod_lt _ Nat.zero_lt_two
    rw [e1, e2]
    generalize z / 65536 % V.B.pn = p at hp h ⊢
    generalize z / 128 % 2 = w at hww h ⊢
    have hV2 := CBx_setD (o := z) hV1
    have hF2 := hF1.tr (Fr1_up (I := I1) (k := 11) (x := nI z) (by decide))
    have r9 : I1 1 9 = nI V.s := hV1.2.2.1
    have r10 : I1 1 10 = nI V.f := hV1.2.2.2.1
    rw [r9, r10]
    refine c_Bx_maySlide_1 (by omega) hw.1 hV2.1 (s := V.s) (by omega) hp hf hww ?_
    rw [bI_0]
    unfold driftP at h
    refine ⟨fun e3 => QV_i.mpr ?_, fun e3 => ?_⟩
    · have e3 : mayB V.B V.s V.f p w = false := e3
      rw [e3] at h
      exact h _ hV2 hF2
    · have e3 : mayB V.B V.s V.f p w = true := by simpa using e3
      rw [e3] at h
      have hpl := may_place e3
      rw [hV2.2.2.1]
      refine c_Bx_behind_1 (by omega) hw.1 hV2.1 (s := V.s) (by omega) (by omega) hww hpl.1 (QV_i.mpr ?_)
      exact h _ (CBx_setS hV2) (hF2.tr (Fr1_up (by decide)))
theorem drift_B (n : Nat) : (driftN n V).B = V.B := by
  induction n with
  | zero => rfl
  | succ n ih =>
    have : ∀ W : Bv, (drift1 W).B = W.B := by
      intro W
      unfold drift1
      generalize drw W.dr = z
      split
      · rfl
      · unfold driftP; split <;> rfl
    exact (this _).trans ih
theorem l_Sb_drift {n : Nat} (hd : 5 ≤ d) (hw : WFV V) (hn : n ≤ 40) (h : ∀ I', CBx 1 (driftN n V) I' → Fr1 I I' → F (nI (driftN n V).s) I' J) : ∀ k m I1, m + k = n → CBx 1 (driftN m V) I1 → Fr1 I I1 → Wp d Sb_drift (QI F) 15 [some (.ref 0), some (.int (nI n)), some (.int (nI m))] [] I1 J := by
  intro k
  induction k with
  | zero =>
    intro m I1 hm hV1 hF1
    have hm : m = n := by omega
    subst hm
    refine v_Sb_drift_0_15 ⟨fun q => absurd ((n_lt (by omega) (by omega)).mp q) (Nat.lt_irrefl _), fun _ => QI_i.mpr ?_⟩
    rw [hV1.2.2.1]
    exact h I1 hV1 hF1
  | succ k ih =>
    intro m I1 hm hV1 hF1
    refine v_Sb_drift_0_15 ⟨fun _ => c_Bx_driftOnce hd (WF_driftN hw m) hV1 (fun I2 hV2 hF2 => ?_), fun q => absurd ((n_lt (by omega) (by omega)).mpr (by omega)) q⟩
    rw [n_inc]
    exact ih (m + 1) I2 (by omega) hV2 (hF1.tr hF2)
theorem c_Sb_drift (hd : 6 ≤ d) (hw : WFV V) (hV : CBx 1 V I) (n : Int32) (h : ∀ I', CBx 1 (driftS V n).2 I' → FrC V (driftS V n).2 I I' → F (driftS V n).1 I' J) : CI d Sb_drift [.ref 0, .int n] I J F := by
  have bad : (n < 1 ∨ 40 < n) → QI F (some (.int (-1))) I J := by
    intro e
    rw [show driftS V n = (-1, V) from if_pos e] at h
    exact QI_i.mpr (h I hV (Fr1.rf.frC rfl))
  refine CI.of (by omega) rfl (v_Sb_drift_0_0 ⟨fun q => bad (Or.inl q), fun q1 => ⟨fun q => bad (Or.inr q), fun q2 => ?_⟩⟩)
  rw [show driftS V n = _ from if_neg (by rintro (q | q); exact q1 q; exact q2 q)] at h
  have y0 : ¬ n < 0 := fun q => q1 (Int32.lt_trans q (by decide))
  obtain ⟨n, hn, rfl⟩ := le_of (n := 40) y0 q2 (by decide)
  rw [n_tN (by omega)] at h
  exact l_Sb_drift (by omega) hw hn (fun I' hV' hF' => h I' hV' (hF'.frC (drift_B n))) n 0 I (by omega) hV Fr1.rf
end COPS3
