/-! DRIFTS from one draw; undone -/
section DRF
variable {V V' : Bv}
noncomputable def dr1_z (B : Bx) (x : Nat × Nat × Nat × Nat) : Nat × Nat × Nat × Nat := (drift1 (B, x, [])).2.1
theorem drift1_x_z (V : Bv) : (drift1 V).1 = V.1 ∧ (drift1 V).2.1 = dr1_z V.1 V.2.1 ∧ (drift1 V).past = ((V.s, V.f, V.dr) :: V.past).take 8 ∧ (drift1 V).lid = V.lid := by
  obtain ⟨B, x, p⟩ := V
  unfold dr1_z
  by_cases e : Bx.pn B = 0
  · have a : ∀ p, drift1 (B, x, p) = (Bv.rem (B, x, p)).setD (drw x.2.2.2) := fun p => if_pos e
    rw [a p, a []]; exact ⟨rfl, rfl, rfl, rfl⟩
  · have a : ∀ p, drift1 (B, x, p) = driftP (B, x, p) (drw x.2.2.2) (drw x.2.2.2 / 65536 % B.pn) (drw x.2.2.2 / 128 % 2) := fun p => if_neg e
    rw [a p, a []]
    by_cases e2 : mayB B x.2.1 x.2.2.1 (drw x.2.2.2 / 65536 % B.pn) (drw x.2.2.2 / 128 % 2) = true
    · have b : ∀ p, driftP (B, x, p) (drw x.2.2.2) (drw x.2.2.2 / 65536 % B.pn) (drw x.2.2.2 / 128 % 2) = ((Bv.rem (B, x, p)).setD (drw x.2.2.2)).setS (behB B x.2.1 (drw x.2.2.2 / 65536 % B.pn) (drw x.2.2.2 / 128 % 2) B.pn) := fun p => if_pos e2
      rw [b p, b []]; exact ⟨rfl, rfl, rfl, rfl⟩
    · have b : ∀ p, driftP (B, x, p) (drw x.2.2.2) (drw x.2.2.2 / 65536 % B.pn) (drw x.2.2.2 / 128 % 2) = (Bv.rem (B, x, p)).setD (drw x.2.2.2) := fun p => if_neg e2
      rw [b p, b []]; exact ⟨rfl, rfl, rfl, rfl⟩
theorem driftN_same_z (h1 : V'.1 = V.1) (h2 : V'.2.1 = V.2.1) : ∀ n, (driftN n V').1 = (driftN n V).1 ∧ (driftN n V').2.1 = (driftN n V).2.1 := by
  intro n
  induction n with
  | zero => exact ⟨h1, h2⟩
  | succ n ih =>
    obtain ⟨a1, a2, -⟩ := drift1_x_z (driftN n V')
    obtain ⟨b1, b2, -⟩ := drift1_x_z (driftN n V)
    simp only [driftN]
    rw [a1, a2, b1, b2, ih.1, ih.2]; exact ⟨rfl, rfl⟩
noncomputable def tri_z (V : Bv) (n : Nat) : Nat × Nat × Nat := ((driftN n V).s, (driftN n V).f, (driftN n V).dr)
noncomputable def prv_z (V : Bv) : Nat → List (Nat × Nat × Nat)
  | 0 => V.past
  | n + 1 => tri_z V n :: prv_z V n
theorem driftN_B_z (n : Nat) : (driftN n V).B = V.B ∧ (driftN n V).lid = V.lid := by
  induction n with
  | zero => exact ⟨rfl, rfl⟩
  | succ n ih =>
    obtain ⟨a1, -, -, a4⟩ := drift1_x_z (driftN n V)
    exact ⟨a1.trans ih.1, a4.trans ih.2⟩
theorem driftN_past_z (h : V.past.length ≤ 8) (n : Nat) : (driftN n V).past = (prv_z V n).take 8 := by
  induction n with
  | zero => exact (List.take_of_length_le h).symm
  | succ n ih =>
    obtain ⟨-, -, a3, -⟩ := drift1_x_z (driftN n V)
    show (drift1 (driftN n V)).past = _
    rw [a3, ih]
    show _ = (tri_z V n :: prv_z V n).take 8
    rw [List.take_succ_cons, List.take_succ_cons, List.take_take]
    rfl
theorem drift8_past_z (h : V.past.length ≤ 8) : ∃ l, (driftN 8 V).past = l ++ [(V.s, V.f, V.dr)] ∧ l.length = 7 := ⟨[tri_z V 7, tri_z V 6, tri_z V 5, tri_z V 4, tri_z V 3, tri_z V 2, tri_z V 1], by rw [driftN_past_z h]; rfl, rfl⟩
theorem drift_8_z (V : Bv) : driftS V 8 = (nI (driftN 8 V).s, driftN 8 V) := by
  have e8 : tN (8 : Int32) = 8 := by decide +kernel
  unfold driftS
  rw [if_neg (by decide), e8]
/-- from this draw: what it leaves, told twice the same -/
def DrfO_z (V0 : Bv) (dr : Nat) (D : Bv) : Prop := ∃ D', driftS (V0.B, (V0.lid, V0.s, V0.f, dr), []) 8 = (nI D.s, D') ∧ hsV_z D' = hsV_z D ∧ D'.B = V0.B
theorem drift_first_z (V0 : Bv) (dr : Nat) (h : V0.past.length ≤ 8) : ∃ D, driftS (V0.setD dr) 8 = (nI D.s, D) ∧ D.B = V0.B ∧ D.lid = V0.lid ∧ (∃ l, D.past = l ++ [(V0.s, V0.f, dr)] ∧ l.length = 7) ∧ DrfO_z V0 dr D := by
  obtain ⟨l, p1, p2⟩ := drift8_past_z (V := V0.setD dr) h
  obtain ⟨b1, b2⟩ := driftN_B_z (V := V0.setD dr) 8
  refine ⟨driftN 8 (V0.setD dr), drift_8_z _, b1, b2, ⟨l, p1, p2⟩, driftN 8 (V0.B, (V0.lid, V0.s, V0.f, dr), []), ?_, ?_, ?_⟩
  · obtain ⟨d1, d2⟩ := driftN_same_z (V' := (V0.B, (V0.lid, V0.s, V0.f, dr), [])) (V := V0.setD dr) rfl rfl 8
    rw [drift_8_z]
    have es : (driftN 8 (V0.B, (V0.lid, V0.s, V0.f, dr), [])).s = (driftN 8 (V0.setD dr)).s := congrArg (fun x => x.2.1) d2
    rw [es]
  · obtain ⟨d1, d2⟩ := driftN_same_z (V' := (V0.B, (V0.lid, V0.s, V0.f, dr), [])) (V := V0.setD dr) rfl rfl 8
    exact Alk_z.hs ⟨d1, congrArg (fun x => x.1) d2, congrArg (fun x => x.2.1) d2, congrArg (fun x => x.2.2.1) d2⟩
  · exact (driftN_B_z (V := (V0.B, (V0.lid, V0.s, V0.f, dr), [])) 8).1
end DRF
/-! THE LAW ITSELF, both halves -/
section LAW
variable {d : Nat} {V V' V0 : Bv} {t : Tpe} {S : Nat → Shv} {I : I2} {J : J2} {Q : Post}
/-- what stands where the first half ends -/
def EndA_z (I : I2) (r : Option Value) (I' : I2) (J' : J2) : Prop := ∃ V t' S', RS_z V (some V) t' S' I' J' ∧ W2_z V.B I' ∧ 0 < V.B.pn ∧ V.B.pn ≤ 4 ∧ Sc_z I I' ∧ r = some (.long (hsV_z V))
theorem Sc_z.tr {I I1 I2' : I2} (h : Sc_z I I1) (h' : Sc_z I1 I2') : Sc_z I I2' := ⟨h'.1.trans h.1, h'.2.trans h.2⟩
theorem F57_z.sc {I I' : I2} (f : F57_z I I') : Sc_z I I' := ⟨f 100 (by decide), f 101 (by decide)⟩
theorem Scr_z.sc {I I' : I2} (hS : Scr_z I) (h : Sc_z I I') : Scr_z I' := by obtain ⟨L, h1, h2⟩ := hS; exact ⟨L, h1, by rw [h.2]; exact h2⟩
theorem l_lawA_40_z (hd : 11 ≤ d) (hSc : Scr_z I) (h : ∀ r I' J', EndA_z I r I' J' → Q r I' J') : ∀ k n V I', n + k = 5 → RS_z V none t S I' J → WV_z V I' → 0 < V.B.pn → V.B.pn ≤ 4 → Sc_z I I' → Wp d LawA Q 40 [some (.ref 100), some (.ref 0), some (.ref 57), some (.int 1), some (.int (nI n)), none, none, none, none, none, none, none] [] I' J := by
  intro k
  induction k with
  | zero =>
    intro n V I' hn r hw h0 h4 hs
    refine v_LawA_40 ⟨fun q => ?_, fun _ => ⟨fun q => absurd q (by decide), fun _ => k_image_z (by omega) r (fun I3 r3 f3 => ⟨fun _ => c_hash_z (by omega) r3 (by rw [f3 57 (by decide)]; exact hw.1.1) ?_, fun q => absurd rfl q⟩)⟩⟩
    · have := (n_lt (b := 5) (by omega) (by decide)).mp q; omega
    · exact h _ I3 J ⟨V, t, S, r3, (WBx_z.w2 hw.1).f f3, h0, h4, hs.tr f3.sc, rfl⟩
  | succ k ih =>
    intro n V I' hn r hw h0 h4 hs
    obtain ⟨c1, c2⟩ := celN_ok_z I' (6 + n)
    refine v_LawA_40 ⟨fun _ => ⟨fun q => absurd q (by decide), fun _ => ?_⟩, fun q => absurd ((n_lt (b := 5) (by omega) (by decide)).mpr (by omega)) q⟩
    rw [show (6 : Int32) + nI n = nI (6 + n) from nI_add 6 n]
    refine c_cell_z (by omega) (hSc.sc hs) (by omega) ?_
    rw [c1, show srI (nI (celN_z I' (6 + n))) 9 = nI (celN_z I' (6 + n) / 2 ^ 9) from n_sr (k := 9) c2 (by decide), show nI (celN_z I' (6 + n) / 2 ^ 9) &&& 4095 = nI (celN_z I' (6 + n) / 2 ^ 9 % 2 ^ 12) from pk_andN (by omega) 12 (by decide +kernel)]
    refine c_acts_z (by omega) r hw h0 (Nat.mod_lt _ (by decide)) (fun V' I3 v r3 w3 eB el e100 e101 hv => ⟨fun q => absurd q hv, fun _ => c_stands_z (by omega) r3 w3.1.w2 (by rw [eB]; exact h0) ⟨fun q => absurd q (by decide), fun _ => ?_⟩⟩)
    rw [n_inc]
    exact ih (n + 1) V' I3 (by omega) r3 w3 (by rw [eB]; exact h0) (by rw [eB]; exact h4) (hs.tr ⟨e100, e101⟩)
theorem l_lawA_z (hd : 11 ≤ d) (hR : RS_z V none t S I J) (ht : t.1 = 0) (hSc : Scr_z I) (hw : ∀ k, I 57 k = 0) (h : ∀ r I' J', EndA_z I r I' J' → Q r I' J') : Wp d LawA Q 13 [some (.ref 100), some (.ref 0), some (.ref 57), none, none, none, none, none, none, none, none, none] [] I J :=
  v_LawA_13 (c_lays_z (by omega) hR ht hSc hw (fun V' t' I' r w h0 h4 h5 hs => ⟨fun q => absurd q (by decide), fun _ => c_stands_z (by omega) r w.1.w2 h0 ⟨fun q => absurd q (by decide), fun _ => l_lawA_40_z hd hSc h 5 0 V' I' rfl r w h0 h4 hs⟩⟩))
set_option maxHeartbeats 4000000 in
theorem l_lawB_z (hd : 11 ≤ d) (hR : RS_z V0 (some V0) t S I J) (hw : W2_z V0.B I) (hSc : Scr_z I) (h4 : V0.B.pn ≤ 4) (h0 : 0 < V0.B.pn) (h : ∀ I' J', Q (some (.int 1)) I' J') : Wp d LawB Q 138 [some (.ref 100), some (.ref 0), some (.ref 57), none, some (.long (hsV_z V0)), none, none, none, none, none, none, none] [.int 1] I J := by
  have hW := hR.1.1
  have hd8 : 8 ≤ d := by omega
  -- behind the undoing
  have fin : ∀ (dr c : Nat) D S' I' J', DrfO_z V0 dr D → RS_z (V0.B, (V0.lid, V0.s, V0.f, dr), []) (some V0) t S' I' J' → F57_z I I' → Wp d LawB Q 306 [some (.ref 100), some (.ref 0), some (.ref 57), some (.int 1), some (.long (hsV_z V0)), none, some (.int (nI c)), some (.int (nI V0.past.length)), some (.int (nI D.s)), some (.long (hsV_z D)), none, some (.int (nI 8))] [] I' J' := by
    intro dr c D S' I' J' hD r f
    obtain ⟨D', g1, g2, g3⟩ := hD
    have ea : hsV_z (V0.B, (V0.lid, V0.s, V0.f, dr), []) = hsV_z V0 := Alk_z.hs ⟨rfl, rfl, rfl, rfl⟩
    have eu : undoS (V0.B, (V0.lid, V0.s, V0.f, dr), []) = (-4, (V0.B, (V0.lid, V0.s, V0.f, dr), [])) := rfl
    refine v_LawB_306 ⟨fun q => absurd q (by decide +kernel), fun _ => ⟨fun q => absurd q (by decide), fun _ => c_hash_z (by omega) r (hw.f f).1 ?_⟩⟩
    rw [ea]
    refine ⟨fun _ => k_undo_z hd8 r (fun I3 r3 f3 => ?_), fun q => absurd cmp_self_z q⟩
    rw [eu] at r3 ⊢
    refine ⟨fun _ => k_drift_z hd8 r3 _ (fun I4 r4 f4 => ?_), fun q => absurd rfl q⟩
    rw [g1] at r4 ⊢
    have f9 : F57_z I I4 := f.tr (f3.tr f4)
    refine ⟨fun _ => c_hash_z (by omega) r4 (by show I4 57 0 = nI D'.B.pn; rw [g3]; exact (hw.f f9).1) ?_, fun q => absurd rfl q⟩
    show ((lg_cmp (hsV_z D') (hsV_z D)) = 0 → _) ∧ (¬ ((lg_cmp (hsV_z D') (hsV_z D)) = 0) → _)
    rw [g2]
    exact ⟨fun _ => k_restore_z hd8 r4 (fun I5 r5 f5 => ⟨fun _ => k_count_z hd8 r5 _ ⟨fun _ => c_hash_z (by omega) r5 (hw.f (f9.tr f5)).1 ⟨fun _ => h I5 J', fun q => absurd cmp_self_z q⟩, fun q => absurd rfl q⟩, fun q => absurd rfl q⟩), fun q => absurd cmp_self_z q⟩
  -- undone, one by one
  have und : ∀ (dr c : Nat) D S' J', DrfO_z V0 dr D → ∀ (l : List (Nat × Nat × Nat)) n V I', n + l.length = 7 → RS_z V (some V0) t S' I' J' → F57_z I I' → V.B = V0.B → V.lid = V0.lid → V.past = l ++ [(V0.s, V0.f, dr)] → Wp d LawB Q 306 [some (.ref 100), some (.ref 0), some (.ref 57), some (.int 1), some (.long (hsV_z V0)), none, some (.int (nI c)), some (.int (nI V0.past.length)), some (.int (nI D.s)), some (.long (hsV_z D)), none, some (.int (nI n))] [] I' J' := by
    intro dr c D S' J' hD l
    induction l with
    | nil =>
      intro n V I' hn r f eB el ep
      have en : n = 7 := by simpa using hn
      subst en
      refine v_LawB_306 ⟨fun _ => ⟨fun q => absurd q (by decide), fun _ => k_undo_z hd8 r (fun I3 r3 f3 => ?_)⟩, fun q => absurd (by decide +kernel) q⟩
      have eu : undoS V = (nI 0, (V0.B, (V0.lid, V0.s, V0.f, dr), [])) := by
        unfold undoS; rw [ep]
        show (nI 0, (V.B, (V.lid, V0.s, V0.f, dr), ([] : List (Nat × Nat × Nat)))) = _
        rw [eB, el]
      rw [eu] at r3 ⊢
      refine ⟨fun _ => ?_, fun q => absurd (show nI 0 = 7 - nI 7 by decide +kernel) q⟩
      rw [n_inc]
      exact fin dr c D S' I3 J' hD r3 (f.tr f3)
    | cons x l ih =>
      intro n V I' hn r f eB el ep
      have hn2 : n + (l.length + 1) = 7 := hn
      refine v_LawB_306 ⟨fun _ => ⟨fun q => absurd q (by decide), fun _ => k_undo_z hd8 r (fun I3 r3 f3 => ?_)⟩, fun q => absurd ((n_lt (b := 8) (by omega) (by decide)).mpr (by omega)) q⟩
      have eu : undoS V = (nI (7 - n), (V0.B, (V0.lid, x.1, x.2.1, x.2.2), l ++ [(V0.s, V0.f, dr)])) := by
        unfold undoS; rw [ep]
        show (nI (l ++ [(V0.s, V0.f, dr)]).length, (V.B, (V.lid, x.1, x.2.1, x.2.2), l ++ [(V0.s, V0.f, dr)])) = _
        rw [eB, el, List.length_append, show l.length + [(V0.s, V0.f, dr)].length = 7 - n from by show l.length + 1 = 7 - n; omega]
      rw [eu] at r3 ⊢
      refine ⟨fun _ => ?_, fun q => absurd (show nI (7 - n) = 7 - nI n from (n_sub (a := 7) (b := n) (by omega)).symm) q⟩
      rw [n_inc]
      exact ih (n + 1) _ I3 (by omega) r3 (f.tr f3) rfl rfl rfl
  refine v_LawB_138 ⟨fun q => absurd q (by decide), fun _ => c_opened_z (by omega) hR hw h4 h0 (fun I1 r1 f1 => ⟨fun q => absurd q (by decide), fun _ => ?_⟩)⟩
  refine c_went_z (by omega) r1 (hw.f f1) (hSc.fr f1) h4 h0 (fun S2 I2 J2 r2 f2 => ⟨fun q => absurd q (by decide), fun _ => ?_⟩)
  have f12 := f1.tr f2
  refine c_filed_z (by omega) r2 (hw.f f12) (hSc.fr f12) h0 (fun I3 r3 f3 => ⟨fun q => absurd q (by decide), fun _ => ?_⟩)
  have f13 := f12.tr f3
  refine c_played_z hd r3 (hw.f f13) h0 (fun I4 r4 f4 => ⟨fun q => absurd q (by decide), fun _ => ?_⟩)
  have f14 := f13.tr f4
  refine c_clicked_z (by omega) r4 (hw.f f14) (hSc.fr f14) h0 (fun S5 I5 J5 r5 f5 => ⟨fun q => absurd q (by decide), fun _ => ?_⟩)
  have f9 : F57_z I I5 := f14.tr f5
  obtain ⟨c1, c2⟩ := celN_ok_z I5 14
  have hdr := hW.2.2.2.2.1
  have hpl := hW.2.2.2.2.2.1
  refine c_cell_z (k := 14) (by omega) (hSc.fr f9) (by decide) (k_count_z hd8 r5 _ (k_seed_z hd8 r5 _ (fun I6 r6 f6 => ?_)))
  rw [c1] at r6 ⊢
  generalize celN_z I5 14 = c at c2 r6 ⊢
  have esd : seedS V0 (nI c) = (nI V0.dr, V0.setD c) := by
    unfold seedS
    rw [if_neg (nI_pos c2), n_tN c2]
  rw [esd] at r6 ⊢
  rw [show countS V0 8 = nI V0.past.length from rfl]
  obtain ⟨D, g1, eB, el, ⟨l, p1, p2⟩, g2⟩ := drift_first_z V0 c hpl
  refine ⟨fun q => absurd q (nI_pos hdr), fun _ => k_drift_z hd8 r6 _ (fun I7 r7 f7 => ?_)⟩
  rw [show driftS (nI V0.dr, V0.setD c).snd 8 = (nI D.s, D) from g1] at r7 ⊢
  have f10 : F57_z I I7 := f9.tr (f6.tr f7)
  refine c_hash_z (by omega) r7 (by show I7 57 0 = nI D.B.pn; rw [eB]; exact (hw.f f10).1) (k_count_z hd8 r7 _ ⟨fun _ => c_stands_z (by omega) r7 (by show W2_z D.B I7; rw [eB]; exact hw.f f10) (by show 0 < D.B.pn; rw [eB]; exact h0) ⟨fun q => absurd q (by decide), fun _ => ?_⟩, fun q => absurd rfl q⟩)
  exact und c c D S5 J5 g2 l 0 D I7 (by rw [p2]) r7 f10 eB el p1
end LAW
