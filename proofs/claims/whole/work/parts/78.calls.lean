/-! each call: both sides answer alike, and stand beside one state again (by program) -/
def NX (d : Nat) (Q : Post) (x3 : Int32) (I0 : I2) : Prop := ∀ V K t S I' J', Rel V K t S I' J' → I' 100 = I0 100 → I' 101 = I0 101 → Wp d Law Q 1099 [some (.ref 100), some (.ref 0), some (.ref 57), some (.int x3)] [] I' J'
section CALLS
variable {d : Nat} {Q : Post} {x3 : Int32} {V : Bv} {K : Option Bv} {t : Tpe} {S : Nat → Shv} {I : I2} {J : J2}
theorem s_panel (hd : 12 ≤ d) (hR : Rel V K t S I J) (h1 : vp_in (x3 + 1) (I 101 0).toNatClampNeg) (h2 : vp_in (x3 + 2) (I 101 0).toNatClampNeg) (next : NX d Q x3 I) : Wp d Law Q 168 [some (.ref 100), some (.ref 0), some (.ref 57), some (.int x3)] [] I J := by
  obtain ⟨hW, hC, hM⟩ := hR
  refine v_Law_168 ⟨h1, h2, c_Sb_panel (by omega) hW.1 hC.1 _ _ (fun I1 k1 k2 => ?_)⟩
  obtain ⟨hC1, f1⟩ := rc_op hC k1 k2
  have hM1 := rm_fr hM f1
  rw [(f1 101 (by decide)).1, (f1 100 (by decide)).1]
  refine ⟨h1, h2, c_Md_panel (by omega) hW.1 hM1.1 _ _ (fun I2 l1 l2 => ?_)⟩
  obtain ⟨hM2, g2⟩ := rm_n hM1 l1 l2
  exact ⟨fun _ => next _ _ _ _ _ _ ⟨⟨WF_panel hW.1 _ _, hW.2⟩, rc_fr hC1 g2, hM2⟩ ((g2 100 (by decide)).1.trans (f1 100 (by decide)).1) ((g2 101 (by decide)).1.trans (f1 101 (by decide)).1), fun q => absurd rfl q⟩
theorem s_lock (hd : 12 ≤ d) (hR : Rel V K t S I J) (h1 : vp_in (x3 + 1) (I 101 0).toNatClampNeg) (h2 : vp_in (x3 + 2) (I 101 0).toNatClampNeg) (h3 : vp_in (x3 + 3) (I 101 0).toNatClampNeg) (h4 : vp_in (x3 + 4) (I 101 0).toNatClampNeg) (next : NX d Q x3 I) : Wp d Law Q 201 [some (.ref 100), some (.ref 0), some (.ref 57), some (.int x3)] [] I J := by
  obtain ⟨hW, hC, hM⟩ := hR
  refine v_Law_201 ⟨h1, h2, h3, h4, c_Sb_lock (by omega) hW.1 hC.1 _ _ _ _ (fun I1 k1 k2 => ?_)⟩
  obtain ⟨hC1, f1⟩ := rc_op hC k1 k2
  have hM1 := rm_fr hM f1
  rw [(f1 101 (by decide)).1, (f1 100 (by decide)).1]
  refine ⟨h1, h2, h3, h4, c_Md_lock (by omega) hW.1 hM1.1 _ _ _ _ (fun I2 l1 l2 => ?_)⟩
  obtain ⟨hM2, g2⟩ := rm_n hM1 l1 l2
  exact ⟨fun _ => next _ _ _ _ _ _ ⟨⟨WF_lock hW.1 _ _ _ _, hW.2⟩, rc_fr hC1 g2, hM2⟩ ((g2 100 (by decide)).1.trans (f1 100 (by decide)).1) ((g2 101 (by decide)).1.trans (f1 101 (by decide)).1), fun q => absurd rfl q⟩
theorem s_lid (hd : 12 ≤ d) (hR : Rel V K t S I J) (h1 : vp_in (x3 + 1) (I 101 0).toNatClampNeg) (next : NX d Q x3 I) : Wp d Law Q 254 [some (.ref 100), some (.ref 0), some (.ref 57), some (.int x3)] [] I J := by
  obtain ⟨hW, hC, hM⟩ := hR
  refine v_Law_254 ⟨h1, c_Sb_lid (by omega) hW.1 hC.1 _ (fun I1 k1 k2 => ?_)⟩
  obtain ⟨hC1, f1⟩ := rc_op hC k1 k2
  have hM1 := rm_fr hM f1
  rw [(f1 101 (by decide)).1, (f1 100 (by decide)).1]
  refine ⟨h1, c_Md_lid (by omega) hW.1 hM1.1 _ (fun I2 l1 l2 => ?_)⟩
  obtain ⟨hM2, g2⟩ := rm_n hM1 l1 l2
  exact ⟨fun _ => next _ _ _ _ _ _ ⟨⟨WF_lid hW.1 _, hW.2⟩, rc_fr hC1 g2, hM2⟩ ((g2 100 (by decide)).1.trans (f1 100 (by decide)).1) ((g2 101 (by decide)).1.trans (f1 101 (by decide)).1), fun q => absurd rfl q⟩
theorem s_of (hd : 12 ≤ d) (hR : Rel V K t S I J) (h1 : vp_in (x3 + 1) (I 101 0).toNatClampNeg) (h2 : vp_in (x3 + 2) (I 101 0).toNatClampNeg) (next : NX d Q x3 I) : Wp d Law Q 277 [some (.ref 100), some (.ref 0), some (.ref 57), some (.int x3)] [] I J := by
  obtain ⟨hW, hC, hM⟩ := hR
  refine v_Law_277 ⟨h1, h2, c_Sb_of (by omega) hW.1 hC.1 _ _ ⟨h1, h2, c_Md_of (by omega) hW.1 hM.1 _ _ ⟨fun _ => next _ _ _ _ _ _ ⟨hW, hC, hM⟩ rfl rfl, fun q => absurd rfl q⟩⟩⟩
theorem s_at (hd : 12 ≤ d) (hR : Rel V K t S I J) (h1 : vp_in (x3 + 1) (I 101 0).toNatClampNeg) (h2 : vp_in (x3 + 2) (I 101 0).toNatClampNeg) (next : NX d Q x3 I) : Wp d Law Q 310 [some (.ref 100), some (.ref 0), some (.ref 57), some (.int x3)] [] I J := by
  obtain ⟨hW, hC, hM⟩ := hR
  refine v_Law_310 ⟨h1, h2, c_Sb_at (by omega) hW.1 hC.1 _ _ ⟨h1, h2, c_Md_at (by omega) hW.1 hM.1 _ _ ⟨fun _ => next _ _ _ _ _ _ ⟨hW, hC, hM⟩ rfl rfl, fun q => absurd rfl q⟩⟩⟩
theorem s_type (hd : 12 ≤ d) (hR : Rel V K t S I J) (h1 : vp_in (x3 + 1) (I 101 0).toNatClampNeg) (next : NX d Q x3 I) : Wp d Law Q 343 [some (.ref 100), some (.ref 0), some (.ref 57), some (.int x3)] [] I J := by
  obtain ⟨hW, hC, hM⟩ := hR
  refine v_Law_343 ⟨h1, c_Sb_type (by omega) hW.2.2.1 hC.2.2.2.2.1 _ (fun I1 k1 k2 => ?_)⟩
  obtain ⟨hC1, f1⟩ := rc_type hC k1 k2
  have hM1 := rm_fr hM f1
  rw [(f1 101 (by decide)).1, (f1 100 (by decide)).1]
  refine ⟨h1, c_Md_type (by omega) hW.2.2.1 hM1.2.2.2.1 _ (fun I2 l1 l2 l3 => ?_)⟩
  obtain ⟨hM2, g2⟩ := rm_type hM1 l1 l2 l3
  exact ⟨fun _ => next _ _ _ _ _ _ ⟨⟨hW.1, hW.2.1, WF_type hW.2.2.1, hW.2.2.2⟩, rc_fr hC1 g2, hM2⟩ ((g2 100 (by decide)).1.trans (f1 100 (by decide)).1) ((g2 101 (by decide)).1.trans (f1 101 (by decide)).1), fun q => absurd rfl q⟩
theorem s_box (hd : 12 ≤ d) (hR : Rel V K t S I J) (next : NX d Q x3 I) : Wp d Law Q 366 [some (.ref 100), some (.ref 0), some (.ref 57), some (.int x3)] [] I J := by
  obtain ⟨hW, hC, hM⟩ := hR
  refine v_Law_366 (c_Sb_box (by omega) hW.1 hC.1 hW.2.2.1 hC.2.2.2.2.1 (fun I1 k1 k2 k3 k4 => ?_))
  obtain ⟨hC1, f1⟩ := rc_box hC k1 k2 k3 k4
  have hM1 := rm_fr hM f1
  refine c_Md_box (by omega) hW.1 hM1.1 hW.2.2.1 hM1.2.2.2.1 (fun I2 l1 l2 l3 => ?_)
  obtain ⟨hM2, g2⟩ := rm_box hM1 l1 l2 l3
  exact ⟨fun _ => next _ _ _ _ _ _ ⟨⟨WF_box hW.1, hW.2.1, ⟨Nat.zero_le _, fun k hk => absurd hk (Nat.not_lt_zero k)⟩, hW.2.2.2⟩, rc_fr hC1 g2, hM2⟩ ((g2 100 (by decide)).1.trans (f1 100 (by decide)).1) ((g2 101 (by decide)).1.trans (f1 101 (by decide)).1), fun q => absurd rfl q⟩
theorem s_count (hd : 12 ≤ d) (hR : Rel V K t S I J) (h1 : vp_in (x3 + 1) (I 101 0).toNatClampNeg) (next : NX d Q x3 I) : Wp d Law Q 379 [some (.ref 100), some (.ref 0), some (.ref 57), some (.int x3)] [] I J := by
  obtain ⟨hW, hC, hM⟩ := hR
  refine v_Law_379 ⟨h1, c_Sb_count (by omega) hW.1 hC.1 _ ⟨h1, c_Md_count (by omega) hW.1 hM.1 _ ⟨fun _ => next _ _ _ _ _ _ ⟨hW, hC, hM⟩ rfl rfl, fun q => absurd rfl q⟩⟩⟩
theorem s_slide (hd : 12 ≤ d) (hR : Rel V K t S I J) (h1 : vp_in (x3 + 1) (I 101 0).toNatClampNeg) (h2 : vp_in (x3 + 2) (I 101 0).toNatClampNeg) (next : NX d Q x3 I) : Wp d Law Q 402 [some (.ref 100), some (.ref 0), some (.ref 57), some (.int x3)] [] I J := by
  obtain ⟨hW, hC, hM⟩ := hR
  refine v_Law_402 ⟨h1, h2, c_Sb_slide (by omega) hW.1 hC.1 _ _ (fun I1 k1 k2 => ?_)⟩
  obtain ⟨hC1, f1⟩ := rc_op hC k1 k2
  have hM1 := rm_fr hM f1
  rw [(f1 101 (by decide)).1, (f1 100 (by decide)).1]
  refine ⟨h1, h2, c_Md_slide (by omega) hW.1 hM1.1 _ _ (fun I2 l1 l2 => ?_)⟩
  obtain ⟨hM2, g2⟩ := rm_n hM1 l1 l2
  exact ⟨fun _ => next _ _ _ _ _ _ ⟨⟨WF_slide hW.1 _ _, hW.2⟩, rc_fr hC1 g2, hM2⟩ ((g2 100 (by decide)).1.trans (f1 100 (by decide)).1) ((g2 101 (by decide)).1.trans (f1 101 (by decide)).1), fun q => absurd rfl q⟩
theorem s_shut (hd : 12 ≤ d) (hR : Rel V K t S I J) (next : NX d Q x3 I) : Wp d Law Q 435 [some (.ref 100), some (.ref 0), some (.ref 57), some (.int x3)] [] I J := by
  obtain ⟨hW, hC, hM⟩ := hR
  refine v_Law_435 (c_Sb_shut (by omega) hW.1 hC.1 (fun I1 k1 k2 => ?_))
  obtain ⟨hC1, f1⟩ := rc_op hC k1 k2
  have hM1 := rm_fr hM f1
  refine c_Md_shut (by omega) hW.1 hM1.1 (fun I2 l1 l2 => ?_)
  obtain ⟨hM2, g2⟩ := rm_n hM1 l1 l2
  exact ⟨fun _ => next _ _ _ _ _ _ ⟨⟨WF_shut hW.1, hW.2⟩, rc_fr hC1 g2, hM2⟩ ((g2 100 (by decide)).1.trans (f1 100 (by decide)).1) ((g2 101 (by decide)).1.trans (f1 101 (by decide)).1), fun q => absurd rfl q⟩
theorem s_file (hd : 12 ≤ d) (hR : Rel V K t S I J) (h1 : vp_in (x3 + 1) (I 101 0).toNatClampNeg) (next : NX d Q x3 I) : Wp d Law Q 448 [some (.ref 100), some (.ref 0), some (.ref 57), some (.int x3)] [] I J := by
  obtain ⟨hW, hC, hM⟩ := hR
  refine v_Law_448 ⟨h1, c_Sb_file (by omega) hW.1 hC.1 _ (fun I1 k1 k2 => ?_)⟩
  obtain ⟨hC1, f1⟩ := rc_op hC k1 k2
  have hM1 := rm_fr hM f1
  rw [(f1 101 (by decide)).1, (f1 100 (by decide)).1]
  refine ⟨h1, c_Md_file (by omega) hW.1 hM1.1 _ (fun I2 l1 l2 => ?_)⟩
  obtain ⟨hM2, g2⟩ := rm_n hM1 l1 l2
  exact ⟨fun _ => next _ _ _ _ _ _ ⟨⟨WF_file hW.1 _, hW.2⟩, rc_fr hC1 g2, hM2⟩ ((g2 100 (by decide)).1.trans (f1 100 (by decide)).1) ((g2 101 (by decide)).1.trans (f1 101 (by decide)).1), fun q => absurd rfl q⟩
theorem s_drift (hd : 12 ≤ d) (hR : Rel V K t S I J) (h1 : vp_in (x3 + 1) (I 101 0).toNatClampNeg) (next : NX d Q x3 I) : Wp d Law Q 471 [some (.ref 100), some (.ref 0), some (.ref 57), some (.int x3)] [] I J := by
  obtain ⟨hW, hC, hM⟩ := hR
  refine v_Law_471 ⟨h1, c_Sb_drift (by omega) hW.1 hC.1 _ (fun I1 k1 k2 => ?_)⟩
  obtain ⟨hC1, f1⟩ := rc_op hC k1 k2
  have hM1 := rm_fr hM f1
  rw [(f1 101 (by decide)).1, (f1 100 (by decide)).1]
  refine ⟨h1, c_Md_drift (by omega) hW.1 hM1.1 _ (fun I2 l1 l2 => ?_)⟩
  obtain ⟨hM2, g2⟩ := rm_n hM1 l1 l2
  exact ⟨fun _ => next _ _ _ _ _ _ ⟨⟨WF_drift hW.1 _, hW.2⟩, rc_fr hC1 g2, hM2⟩ ((g2 100 (by decide)).1.trans (f1 100 (by decide)).1) ((g2 101 (by decide)).1.trans (f1 101 (by decide)).1), fun q => absurd rfl q⟩
theorem s_undo (hd : 12 ≤ d) (hR : Rel V K t S I J) (next : NX d Q x3 I) : Wp d Law Q 494 [some (.ref 100), some (.ref 0), some (.ref 57), some (.int x3)] [] I J := by
  obtain ⟨hW, hC, hM⟩ := hR
  refine v_Law_494 (c_Sb_undo (by omega) hW.1 hC.1 (fun I1 k1 k2 => ?_))
  obtain ⟨hC1, f1⟩ := rc_op hC k1 k2
  have hM1 := rm_fr hM f1
  refine c_Md_undo (by omega) hW.1 hM1.1 (fun I2 l1 l2 => ?_)
  obtain ⟨hM2, g2⟩ := rm_n hM1 l1 l2
  exact ⟨fun _ => next _ _ _ _ _ _ ⟨⟨WF_undo hW.1, hW.2⟩, rc_fr hC1 g2, hM2⟩ ((g2 100 (by decide)).1.trans (f1 100 (by decide)).1) ((g2 101 (by decide)).1.trans (f1 101 (by decide)).1), fun q => absurd rfl q⟩
theorem s_seed (hd : 12 ≤ d) (hR : Rel V K t S I J) (h1 : vp_in (x3 + 1) (I 101 0).toNatClampNeg) (next : NX d Q x3 I) : Wp d Law Q 507 [some (.ref 100), some (.ref 0), some (.ref 57), some (.int x3)] [] I J := by
  obtain ⟨hW, hC, hM⟩ := hR
  refine v_Law_507 ⟨h1, c_Sb_seed (by omega) hC.1 _ (fun I1 k1 k2 => ?_)⟩
  obtain ⟨hC1, f1⟩ := rc_op hC k1 k2
  have hM1 := rm_fr hM f1
  rw [(f1 101 (by decide)).1, (f1 100 (by decide)).1]
  refine ⟨h1, c_Md_seed (by omega) hM1.1 _ (fun I2 l1 l2 => ?_)⟩
  obtain ⟨hM2, g2⟩ := rm_n hM1 l1 l2
  exact ⟨fun _ => next _ _ _ _ _ _ ⟨⟨WF_seed hW.1 _, hW.2⟩, rc_fr hC1 g2, hM2⟩ ((g2 100 (by decide)).1.trans (f1 100 (by decide)).1) ((g2 101 (by decide)).1.trans (f1 101 (by decide)).1), fun q => absurd rfl q⟩
theorem s_opens (hd : 12 ≤ d) (hR : Rel V K t S I J) (h1 : vp_in (x3 + 1) (I 101 0).toNatClampNeg) (next : NX d Q x3 I) : Wp d Law Q 530 [some (.ref 100), some (.ref 0), some (.ref 57), some (.int x3)] [] I J := by
  obtain ⟨hW, hC, hM⟩ := hR
  refine v_Law_530 ⟨h1, c_Sb_opens (by omega) hW.1 hC.1 hC.2.1 _ (fun I1 k1 k2 => ?_)⟩
  obtain ⟨hC1, f1⟩ := rc_g (t := t) (K := K) (S := S) (J := J) hC k1 k2
  have hM1 := rm_fr hM f1
  rw [(f1 101 (by decide)).1, (f1 100 (by decide)).1]
  refine ⟨h1, c_Md_opens (by omega) hW.1 hM1.1 _ (fun I2 l1 => ?_)⟩
  obtain ⟨hM2, g2⟩ := rm_q hM1 l1
  exact ⟨fun _ => next _ _ _ _ _ _ ⟨hW, rc_fr hC1 g2, hM2⟩ ((g2 100 (by decide)).1.trans (f1 100 (by decide)).1) ((g2 101 (by decide)).1.trans (f1 101 (by decide)).1), fun q => absurd rfl q⟩
theorem s_rows (hd : 12 ≤ d) (hR : Rel V K t S I J) (next : NX d Q x3 I) : Wp d Law Q 553 [some (.ref 100), some (.ref 0), some (.ref 57), some (.int x3)] [] I J := by
  obtain ⟨hW, hC, hM⟩ := hR
  refine v_Law_553 (c_Sb_rows (by omega) hW.1 hC.1 hC.2.1 (fun I1 k1 k2 => ?_))
  obtain ⟨hC1, f1⟩ := rc_g (t := t) (K := K) (S := S) (J := J) hC k1 k2
  have hM1 := rm_fr hM f1
  refine c_Md_rows (by omega) hW.1 hM1.1 (fun I2 l1 => ?_)
  obtain ⟨hM2, g2⟩ := rm_q hM1 l1
  exact ⟨fun _ => next _ _ _ _ _ _ ⟨hW, rc_fr hC1 g2, hM2⟩ ((g2 100 (by decide)).1.trans (f1 100 (by decide)).1) ((g2 101 (by decide)).1.trans (f1 101 (by decide)).1), fun q => absurd rfl q⟩
theorem s_reach (hd : 12 ≤ d) (hR : Rel V K t S I J) (h1 : vp_in (x3 + 1) (I 101 0).toNatClampNeg) (next : NX d Q x3 I) : Wp d Law Q 566 [some (.ref 100), some (.ref 0), some (.ref 57), some (.int x3)] [] I J := by
  obtain ⟨hW, hC, hM⟩ := hR
  refine v_Law_566 ⟨h1, c_Sb_reach (by omega) hW.1 hC.1 hC.2.1 _ (fun I1 k1 k2 => ?_)⟩
  obtain ⟨hC1, f1⟩ := rc_g (t := t) (K := K) (S := S) (J := J) hC k1 k2
  have hM1 := rm_fr hM f1
  rw [(f1 101 (by decide)).1, (f1 100 (by decide)).1]
  refine ⟨h1, c_Md_reach (by omega) hW.1 hM1.1 _ (fun I2 l1 => ?_)⟩
  obtain ⟨hM2, g2⟩ := rm_q hM1 l1
  exact ⟨fun _ => next _ _ _ _ _ _ ⟨hW, rc_fr hC1 g2, hM2⟩ ((g2 100 (by decide)).1.trans (f1 100 (by decide)).1) ((g2 101 (by decide)).1.trans (f1 101 (by decide)).1), fun q => absurd rfl q⟩
theorem s_key (hd : 12 ≤ d) (hR : Rel V K t S I J) (h1 : vp_in (x3 + 1) (I 101 0).toNatClampNeg) (next : NX d Q x3 I) : Wp d Law Q 589 [some (.ref 100), some (.ref 0), some (.ref 57), some (.int x3)] [] I J := by
  obtain ⟨hW, hC, hM⟩ := hR
  refine v_Law_589 ⟨h1, c_Sb_key (by omega) hW.1 hC.1 hC.2.1 _ (fun I1 k1 k2 => ?_)⟩
  obtain ⟨hC1, f1⟩ := rc_g (t := t) (K := K) (S := S) (J := J) hC k1 k2
  have hM1 := rm_fr hM f1
  rw [(f1 101 (by decide)).1, (f1 100 (by decide)).1]
  refine ⟨h1, c_Md_key (by omega) hW.1 hM1.1 _ (fun I2 l1 => ?_)⟩
  obtain ⟨hM2, g2⟩ := rm_q hM1 l1
  exact ⟨fun _ => next _ _ _ _ _ _ ⟨hW, rc_fr hC1 g2, hM2⟩ ((g2 100 (by decide)).1.trans (f1 100 (by decide)).1) ((g2 101 (by decide)).1.trans (f1 101 (by decide)).1), fun q => absurd rfl q⟩
theorem s_files (hd : 12 ≤ d) (hR : Rel V K t S I J) (h1 : vp_in (x3 + 1) (I 101 0).toNatClampNeg) (h2 : vp_in (x3 + 2) (I 101 0).toNatClampNeg) (next : NX d Q x3 I) : Wp d Law Q 612 [some (.ref 100), some (.ref 0), some (.ref 57), some (.int x3)] [] I J := by
  obtain ⟨hW, hC, hM⟩ := hR
  refine v_Law_612 ⟨h1, h2, c_Sb_files (by omega) hW.1 hC.1 hC.2.1 _ _ (fun I1 k1 k2 => ?_)⟩
  obtain ⟨hC1, f1⟩ := rc_g (t := t) (K := K) (S := S) (J := J) hC k1 k2
  have hM1 := rm_fr hM f1
  rw [(f1 101 (by decide)).1, (f1 100 (by decide)).1]
  refine ⟨h1, h2, c_Md_files (by omega) hW.1 hM1.1 _ _ (fun I2 l1 => ?_)⟩
  obtain ⟨hM2, g2⟩ := rm_q hM1 l1
  exact ⟨fun _ => next _ _ _ _ _ _ ⟨hW, rc_fr hC1 g2, hM2⟩ ((g2 100 (by decide)).1.trans (f1 100 (by decide)).1) ((g2 101 (by decide)).1.trans (f1 101 (by decide)).1), fun q => absurd rfl q⟩
theorem s_game (hd : 12 ≤ d) (hR : Rel V K t S I J) (h1 : vp_in (x3 + 1) (I 101 0).toNatClampNeg) (next : NX d Q x3 I) : Wp d Law Q 645 [some (.ref 100), some (.ref 0), some (.ref 57), some (.int x3)] [] I J := by
  obtain ⟨hW, hC, hM⟩ := hR
  refine v_Law_645 ⟨h1, c_Sb_game (by omega) hW.1 hC.1 hC.2.1 _ (fun I1 k1 k2 => ?_)⟩
  obtain ⟨hC1, f1⟩ := rc_g (t := t) (K := K) (S := S) (J := J) hC k1 k2
  have hM1 := rm_fr hM f1
  rw [(f1 101 (by decide)).1, (f1 100 (by decide)).1]
  refine ⟨h1, c_Md_game (by omega) hW.1 hM1.1 hM1.2.2.2.2.2 _ (fun I2 l1 => ?_)⟩
  obtain ⟨hM2, g2⟩ := rm_q hM1 l1
  exact ⟨fun _ => next _ _ _ _ _ _ ⟨hW, rc_fr hC1 g2, hM2⟩ ((g2 100 (by decide)).1.trans (f1 100 (by decide)).1) ((g2 101 (by decide)).1.trans (f1 101 (by decide)).1), fun q => absurd rfl q⟩
theorem s_fumble (hd : 12 ≤ d) (hR : Rel V K t S I J) (h1 : vp_in (x3 + 1) (I 101 0).toNatClampNeg) (h2 : vp_in (x3 + 2) (I 101 0).toNatClampNeg) (next : NX d Q x3 I) : Wp d Law Q 668 [some (.ref 100), some (.ref 0), some (.ref 57), some (.int x3)] [] I J := by
  obtain ⟨hW, hC, hM⟩ := hR
  refine v_Law_668 ⟨h1, h2, c_Sb_fumble (by omega) hW.1 hC.1 _ _ ?_⟩
  refine ⟨h1, h2, c_Md_fumble (by omega) hW.1 hM.1 _ _ (fun I2 J2 l1 l2 => ?_)⟩
  obtain ⟨hM2, g2⟩ := rm_j hM l1 l2
  exact ⟨fun _ => next _ _ _ _ _ _ ⟨hW, rc_fr hC g2, hM2⟩ (g2 100 (by decide)).1 (g2 101 (by decide)).1, fun q => absurd (cmp_eq.mpr rfl) q⟩
theorem s_image (hd : 12 ≤ d) (hR : Rel V K t S I J) (next : NX d Q x3 I) : Wp d Law Q 702 [some (.ref 100), some (.ref 0), some (.ref 57), some (.int x3)] [] I J := by
  obtain ⟨hW, hC, hM⟩ := hR
  refine v_Law_702 (c_Sb_image (by omega) hW.1 hC.1 (fun I1 k1 k2 k3 _ => ?_))
  obtain ⟨hC1, f1⟩ := rc_img hC k1 k2 k3
  have hM1 := rm_fr hM f1
  refine c_Md_image (by omega) hW.1 hM1.1 (fun I2 l1 l2 l3 l4 => ?_)
  obtain ⟨hM2, g2⟩ := rm_img hM1 l1 l2 l3 l4
  exact ⟨fun _ => next _ _ _ _ _ _ ⟨⟨hW.1, fun VK q => by cases q; exact hW.1, hW.2.2⟩, rc_fr hC1 g2, hM2⟩ ((g2 100 (by decide)).1.trans (f1 100 (by decide)).1) ((g2 101 (by decide)).1.trans (f1 101 (by decide)).1), fun q => absurd rfl q⟩
theorem s_restore (hd : 12 ≤ d) (hR : Rel V K t S I J) (next : NX d Q x3 I) : Wp d Law Q 715 [some (.ref 100), some (.ref 0), some (.ref 57), some (.int x3)] [] I J := by
  obtain ⟨hW, hC, hM⟩ := hR
  have kC : ∀ VK, K = some VK → WFV VK ∧ CBx 11 VK I := fun VK q => ⟨hW.2.1 VK q, hC.2.2.2.1 VK q⟩
  have kM : ∀ VK, K = some VK → WFV VK ∧ KMx VK I := fun VK q => ⟨hW.2.1 VK q, hM.2.2.1 VK q⟩
  refine v_Law_715 (c_Sb_restore (by omega) K hC.2.2.1 kC (fun eK => ?_) (fun VK I1 eK k1 k2 k3 => ?_))
  · refine c_Md_restore (by omega) K hM.2.1 kM (fun _ => ⟨fun _ => next _ _ _ _ _ _ ⟨hW, hC, hM⟩ rfl rfl, fun q => absurd rfl q⟩) (fun VK I2 eK2 _ _ => by rw [eK] at eK2; cases eK2)
  · obtain ⟨hC1, f1⟩ := rc_res hC k1 k2 k3
    have hM1 := rm_fr hM f1
    refine c_Md_restore (by omega) K hM1.2.1 (fun VK q => ⟨hW.2.1 VK q, hM1.2.2.1 VK q⟩) (fun eN => by rw [eK] at eN; cases eN) (fun VK2 I2 eK2 l1 l2 => ?_)
    have eV : VK2 = VK := by rw [eK] at eK2; cases eK2; rfl
    subst eV
    obtain ⟨hM2, g2⟩ := rm_n hM1 l1 l2
    exact ⟨fun _ => next _ _ _ _ _ _ ⟨⟨hW.2.1 _ eK, hW.2⟩, rc_fr hC1 g2, hM2⟩ ((g2 100 (by decide)).1.trans (f1 100 (by decide)).1) ((g2 101 (by decide)).1.trans (f1 101 (by decide)).1), fun q => absurd rfl q⟩
theorem s_to (hd : 12 ≤ d) (hR : Rel V K t S I J) (h1 : vp_in (x3 + 1) (I 101 0).toNatClampNeg) (h2 : vp_in (x3 + 2) (I 101 0).toNatClampNeg) (h3 : vp_in (x3 + 3) (I 101 0).toNatClampNeg) (h4 : vp_in (x3 + 4) (I 101 0).toNatClampNeg) (next : NX d Q x3 I) : Wp d Law Q 728 [some (.ref 100), some (.ref 0), some (.ref 57), some (.int x3)] [] I J := by
  obtain ⟨hW, hC, hM⟩ := hR
  refine v_Law_728 ⟨h1, h2, h3, h4, c_Sb_to (by omega) hW.1 hC.1 hC.2.1 hC.2.2.2.2.2 hW.2.2.2 _ _ _ _ (fun I1 k1 k2 => ?_)⟩
  obtain ⟨hC1, f1⟩ := rc_g (t := t) (K := K) (S := S) (J := J) hC k1 k2
  have hM1 := rm_fr hM f1
  rw [(f1 101 (by decide)).1, (f1 100 (by decide)).1]
  refine ⟨h1, h2, h3, h4, c_Md_to (by omega) hW.1 hM1.1 hM1.2.2.2.2.1 hW.2.2.2 _ _ _ _ (fun I2 l1 => ?_)⟩
  obtain ⟨hM2, g2⟩ := rm_q hM1 l1
  exact ⟨fun _ => next _ _ _ _ _ _ ⟨hW, rc_fr hC1 g2, hM2⟩ ((g2 100 (by decide)).1.trans (f1 100 (by decide)).1) ((g2 101 (by decide)).1.trans (f1 101 (by decide)).1), fun q => absurd rfl q⟩
theorem s_clicks (hd : 12 ≤ d) (hR : Rel V K t S I J) (h1 : vp_in (x3 + 1) (I 101 0).toNatClampNeg) (h2 : vp_in (x3 + 2) (I 101 0).toNatClampNeg) (h3 : vp_in (x3 + 3) (I 101 0).toNatClampNeg) (h4 : vp_in (x3 + 4) (I 101 0).toNatClampNeg) (h5 : vp_in (x3 + 5) (I 101 0).toNatClampNeg) (next : NX d Q x3 I) : Wp d Law Q 781 [some (.ref 100), some (.ref 0), some (.ref 57), some (.int x3)] [] I J := by
  obtain ⟨hW, hC, hM⟩ := hR
  refine v_Law_781 ⟨h1, h2, h3, h4, h5, c_Sb_clicks (by omega) hW.1 hC.1 hC.2.2.2.2.2 hW.2.2.2 _ _ _ _ _ (fun I1 k1 => ?_)⟩
  obtain ⟨hC1, f1⟩ := rc_cl hC k1
  have hM1 := rm_fr hM f1
  rw [(f1 101 (by decide)).1, (f1 100 (by decide)).1]
  exact ⟨h1, h2, h3, h4, h5, c_Md_clicks (by omega) hW.1 hM1.1 hM1.2.2.2.2.1 hW.2.2.2 _ _ _ _ _ ⟨fun _ => next _ _ _ _ _ _ ⟨hW, hC1, hM1⟩ (f1 100 (by decide)).1 (f1 101 (by decide)).1, fun q => absurd rfl q⟩⟩
theorem s_film (hd : 12 ≤ d) (hR : Rel V K t S I J) (h1 : vp_in (x3 + 1) (I 101 0).toNatClampNeg) (h2 : vp_in (x3 + 2) (I 101 0).toNatClampNeg) (h3 : vp_in (x3 + 3) (I 101 0).toNatClampNeg) (next : NX d Q x3 I) : Wp d Law Q 844 [some (.ref 100), some (.ref 0), some (.ref 57), some (.int x3)] [] I J := by
  obtain ⟨hW, hC, hM⟩ := hR
  refine v_Law_844 ⟨h1, h2, h3, c_Sb_film (by omega) hW.1 hC.1 hC.2.2.2.2.2 hW.2.2.2 _ _ _ (fun I1 J1 k1 k2 => ?_)⟩
  obtain ⟨hC1, f1⟩ := rc_sh hC k1 k2
  have hM1 := rm_fr hM f1
  rw [(f1 101 (by decide)).1, (f1 100 (by decide)).1]
  refine ⟨h1, h2, h3, c_Md_film (by omega) hW.1 hM1.1 hM1.2.2.2.2.1 hW.2.2.2 _ _ _ (fun I2 J2 l1 l2 l3 => ?_)⟩
  obtain ⟨hM2, g2⟩ := rm_sh hM1 l1 l2 l3
  exact ⟨fun _ => next _ _ _ _ _ _ ⟨⟨hW.1, hW.2.1, hW.2.2.1, WF_filmF hW.2.2.2⟩, rc_fr hC1 g2, hM2⟩ ((g2 100 (by decide)).1.trans (f1 100 (by decide)).1) ((g2 101 (by decide)).1.trans (f1 101 (by decide)).1), fun q => absurd rfl q⟩
theorem s_sheet (hd : 12 ≤ d) (hR : Rel V K t S I J) (h1 : vp_in (x3 + 1) (I 101 0).toNatClampNeg) (h2 : vp_in (x3 + 2) (I 101 0).toNatClampNeg) (h3 : vp_in (x3 + 3) (I 101 0).toNatClampNeg) (next : NX d Q x3 I) : Wp d Law Q 887 [some (.ref 100), some (.ref 0), some (.ref 57), some (.int x3)] [] I J := by
  obtain ⟨hW, hC, hM⟩ := hR
  refine v_Law_887 ⟨h1, h2, h3, c_Sb_sheet (by omega) hC.2.2.2.2.2 _ _ _ (fun I1 J1 k1 k2 => ?_)⟩
  obtain ⟨hC1, f1⟩ := rc_sh hC k1 k2
  have hM1 := rm_fr hM f1
  rw [(f1 101 (by decide)).1, (f1 100 (by decide)).1]
  refine ⟨h1, h2, h3, c_Md_sheet (by omega) hM1.2.2.2.2.1 _ _ _ (fun I2 J2 l1 l2 l3 => ?_)⟩
  obtain ⟨hM2, g2⟩ := rm_sh hM1 l1 l2 l3
  exact ⟨fun _ => next _ _ _ _ _ _ ⟨⟨hW.1, hW.2.1, hW.2.2.1, WF_sheetF hW.2.2.2⟩, rc_fr hC1 g2, hM2⟩ ((g2 100 (by decide)).1.trans (f1 100 (by decide)).1) ((g2 101 (by decide)).1.trans (f1 101 (by decide)).1), fun q => absurd rfl q⟩
theorem s_drop (hd : 12 ≤ d) (hR : Rel V K t S I J) (h1 : vp_in (x3 + 1) (I 101 0).toNatClampNeg) (next : NX d Q x3 I) : Wp d Law Q 930 [some (.ref 100), some (.ref 0), some (.ref 57), some (.int x3)] [] I J := by
  obtain ⟨hW, hC, hM⟩ := hR
  refine v_Law_930 ⟨h1, c_Sb_drop (by omega) hC.2.2.2.2.2 _ (fun I1 J1 k1 k2 => ?_)⟩
  obtain ⟨hC1, f1⟩ := rc_sh hC k1 k2
  have hM1 := rm_fr hM f1
  rw [(f1 101 (by decide)).1, (f1 100 (by decide)).1]
  refine ⟨h1, c_Md_drop (by omega) hM1.2.2.2.2.1 hW.2.2.2 _ (fun I2 J2 l1 l2 l3 => ?_)⟩
  obtain ⟨hM2, g2⟩ := rm_sh hM1 l1 l2 l3
  exact ⟨fun _ => next _ _ _ _ _ _ ⟨⟨hW.1, hW.2.1, hW.2.2.1, WF_dropF hW.2.2.2⟩, rc_fr hC1 g2, hM2⟩ ((g2 100 (by decide)).1.trans (f1 100 (by decide)).1) ((g2 101 (by decide)).1.trans (f1 101 (by decide)).1), fun q => absurd rfl q⟩
theorem s_item (hd : 12 ≤ d) (hR : Rel V K t S I J) (h1 : vp_in (x3 + 1) (I 101 0).toNatClampNeg) (h2 : vp_in (x3 + 2) (I 101 0).toNatClampNeg) (h3 : vp_in (x3 + 3) (I 101 0).toNatClampNeg) (h4 : vp_in (x3 + 4) (I 101 0).toNatClampNeg) (h5 : vp_in (x3 + 5) (I 101 0).toNatClampNeg) (next : NX d Q x3 I) : Wp d Law Q 953 [some (.ref 100), some (.ref 0), some (.ref 57), some (.int x3)] [] I J := by
  obtain ⟨hW, hC, hM⟩ := hR
  refine v_Law_953 ⟨h1, h2, h3, h4, h5, c_Sb_item (by omega) hC.2.2.2.2.2 hW.2.2.2 _ _ _ _ (fun I1 J1 k1 k2 => ?_)⟩
  obtain ⟨hC1, f1⟩ := rc_sh hC k1 k2
  have hM1 := rm_fr hM f1
  rw [(f1 101 (by decide)).1, (f1 100 (by decide)).1]
  refine ⟨h1, h2, h3, h4, h5, c_Md_item (by omega) hM1.2.2.2.2.1 hW.2.2.2 _ _ _ _ (fun I2 J2 l1 l2 l3 => ?_)⟩
  obtain ⟨hM2, g2⟩ := rm_sh hM1 l1 l2 l3
  exact ⟨fun _ => next _ _ _ _ _ _ ⟨⟨hW.1, hW.2.1, hW.2.2.1, WF_itemF hW.2.2.2⟩, rc_fr hC1 g2, hM2⟩ ((g2 100 (by decide)).1.trans (f1 100 (by decide)).1) ((g2 101 (by decide)).1.trans (f1 101 (by decide)).1), fun q => absurd rfl q⟩
theorem s_copy (hd : 12 ≤ d) (hR : Rel V K t S I J) (h1 : vp_in (x3 + 1) (I 101 0).toNatClampNeg) (h2 : vp_in (x3 + 2) (I 101 0).toNatClampNeg) (h3 : vp_in (x3 + 3) (I 101 0).toNatClampNeg) (h4 : vp_in (x3 + 4) (I 101 0).toNatClampNeg) (h5 : vp_in (x3 + 5) (I 101 0).toNatClampNeg) (next : NX d Q x3 I) : Wp d Law Q 1036 [some (.ref 100), some (.ref 0), some (.ref 57), some (.int x3)] [] I J := by
  obtain ⟨hW, hC, hM⟩ := hR
  refine v_Law_1036 ⟨h1, h2, h3, h4, h5, c_Sb_copy (by omega) hC.2.2.2.2.2 hW.2.2.2 _ _ _ _ _ (fun I1 J1 k1 k2 => ?_)⟩
  obtain ⟨hC1, f1⟩ := rc_sh hC k1 k2
  have hM1 := rm_fr hM f1
  rw [(f1 101 (by decide)).1, (f1 100 (by decide)).1]
  refine ⟨h1, h2, h3, h4, h5, c_Md_copy (by omega) hM1.2.2.2.2.1 hW.2.2.2 _ _ _ _ _ (fun I2 J2 l1 l2 l3 => ?_)⟩
  obtain ⟨hM2, g2⟩ := rm_sh hM1 l1 l2 l3
  exact ⟨fun _ => next _ _ _ _ _ _ ⟨⟨hW.1, hW.2.1, hW.2.2.1, WF_copyF hW.2.2.2⟩, rc_fr hC1 g2, hM2⟩ ((g2 100 (by decide)).1.trans (f1 100 (by decide)).1) ((g2 101 (by decide)).1.trans (f1 101 (by decide)).1), fun q => absurd rfl q⟩
end CALLS
