/-! LAYS, from its entry -/
section LYZ
variable {d : Nat} {V : Bv} {K : Option Bv} {t : Tpe} {S : Nat → Shv} {I : I2} {J : J2} {F : Int32 → I2 → J2 → Prop} {c : Nat → Nat}
theorem nI_srt_z : ∀ k, k < 5 → 33 ≤ srt_z k ∧ srt_z k ≤ 126 := by decide +kernel
theorem lid_eq_z {o : Option Nat} {n : Nat} (hn : n < 2 ^ 31) (ho : ∀ q, o = some q → q < 2 ^ 31) : (nI n = lidI_z o) ↔ o = some n := by
  cases o with
  | none =>
    refine ⟨fun q => ?_, fun q => by cases q⟩
    have : nI n < 0 := by rw [q]; exact (by decide +kernel : (-1 : Int32) < 0)
    exact absurd this (nI_pos hn)
  | some q =>
    show nI n = nI q ↔ _
    rw [n_eq hn (ho q rfl)]
    exact ⟨fun e => by rw [e], fun e => (Option.some.inj e).symm⟩
theorem lid_neg_z {o : Option Nat} (ho : ∀ q, o = some q → q < 2 ^ 31) : (lidI_z o < 0) ↔ o = none := by
  cases o with
  | none => exact ⟨fun _ => rfl, fun _ => (by decide +kernel : (-1 : Int32) < 0)⟩
  | some q => exact ⟨fun e => absurd e (nI_pos (ho q rfl)), fun e => by cases e⟩
set_option maxHeartbeats 8000000 in
/-- a panel is typed: from where its two numbers stand in w -/
theorem lay_116_z (hd : 9 ≤ d) {n : Nat} (hR : RS_z V K t S I J) (hL : TLt_z t (tx_z c n 0)) (hn : n < y_pn_z (c 0)) (hu : LQu_z c n 0 0 (I 57)) (hk : I 57 (6 + 2 * n) = nI (y_kd_z (c 0) (c 1) n)) (hdp : I 57 (7 + 2 * n) = nI (y_dp_z (c 1) n)) {x3 x4 x5 x9 : Int32}
    (nx : ∀ t' I', RS_z V K t' S I' J → TLt_z t' (tx_z c (n + 1) 0) → Sc_z I I' → LQu_z c (n + 1) 0 0 (I' 57) → Wp d Lw_lays (QI F) 43 [some (.ref 0), some (.ref 100), some (.ref 57), some (.int x3), some (.int x4), some (.int x5), some (.int (lidI_z (y_lid_z (c 0)))), some (.int 1), some (.int (nI (n + 1))), none, none, none, none] [] I' J) :
    Wp d Lw_lays (QI F) 116 [some (.ref 0), some (.ref 100), some (.ref 57), some (.int x3), some (.int x4), some (.int x5), some (.int (lidI_z (y_lid_z (c 0)))), some (.int 1), some (.int (nI n)), some (.int x9), none, none, none] [] I J := by
  have hb := y_pnb_z (c 0)
  have hkb := y_kdb_z (c 0) (c 1) n
  have hdb := y_dpb_z (c 1) n
  have hlen := tx_len_z (c := c) n 0
  have hsr := nI_srt_z _ hkb
  have hlid : ∀ q, y_lid_z (c 0) = some q → q < 2 ^ 31 := fun q e => by
    unfold y_lid_z at e
    split at e
    · cases e
    · have := Nat.mod_lt (c 0 / 32) (show 0 < y_pn_z (c 0) by omega)
      rw [← Option.some.inj e]; omega
  -- its end: one more panel is told of
  have fin : ∀ t2 I1, RS_z V K t2 S I1 J → TLt_z t2 (tx_z c (n + 1) 0) → F57_z I I1 → Wp d Lw_lays (QI F) 198 [some (.ref 0), some (.ref 100), some (.ref 57), some (.int x3), some (.int x4), some (.int x5), some (.int (lidI_z (y_lid_z (c 0)))), some (.int 1), some (.int (nI n)), some (.int x9), none, none, none] [] (up2 I1 57 0 (I1 57 0 + 1)) J := by
    intro t2 I1 r T f
    refine v_Lw_lays_0_100_57_198 ?_
    rw [n_inc]
    obtain ⟨u0, u1, u3, u5, up, ul⟩ := hu
    have e57 : ∀ k, k ≠ 0 → up2 I1 57 0 (I1 57 0 + 1) 57 k = I 57 k := fun k hk => by simp [up2, upd, hk]; rw [f 57 (by decide)]
    refine nx t2 _ (r.w (fun a ha => up2_ne ha)) T ⟨?_, ?_⟩ ⟨?_, ?_, ?_, ?_, fun q hq => ?_, fun j hj => absurd hj (Nat.not_lt_zero j)⟩
    · rw [up2_ne (by decide)]; exact f 100 (by decide)
    · rw [up2_ne (by decide)]; exact f 101 (by decide)
    · have : up2 I1 57 0 (I1 57 0 + 1) 57 0 = I1 57 0 + 1 := by simp [up2, upd]
      rw [this, f 57 (by decide), u0, n_inc]
    · rw [e57 1 (by decide)]; exact u1
    · rw [e57 3 (by decide)]; exact u3
    · rw [e57 5 (by decide)]; exact u5
    · rw [e57 _ (by omega), e57 _ (by omega)]
      by_cases e : q = n
      · rw [e]; exact ⟨hk, hdp⟩
      · exact up q (by omega)
  -- behind the comma
  have body : ∀ (t1 : Tpe) (I1 : Nat → Nat → Int32) (L : List Nat), RS_z V K t1 S I1 J → TLt_z t1 L → L.length < 60 → F57_z I I1 → tx_z c (n + 1) 0 = L ++ ([srt_z (y_kd_z (c 0) (c 1) n), 48 + y_dp_z (c 1) n] ++ (if y_lid_z (c 0) = some n then [33] else [])) → vp_in (nI (6 + 2 * n)) 40 ∧ (CI d Lw_sort [.int (I1 57 (tN (nI (6 + 2 * n))))] I1 J (fun v1 I3 J3 => CI d Sb_type [.ref 0, .int v1] I3 J3 (fun v2 I4 J4 => (0 < v2 → vp_in (nI (7 + 2 * n)) 40 ∧ (CI d Sb_type [.ref 0, .int (48 + (I4 57 (tN (nI (7 + 2 * n)))))] I4 J4 (fun v3 I5 J5 => (0 < v3 → (nI n = lidI_z (y_lid_z (c 0)) → CI d Sb_type [.ref 0, .int 33] I5 J5 (fun v4 I6 J6 => (0 < v4 → Wp d Lw_lays (QI F) 198 [some (.ref 0), some (.ref 100), some (.ref 57), some (.int x3), some (.int x4), some (.int x5), some (.int (lidI_z (y_lid_z (c 0)))), some (.int 1), some (.int (nI n)), some (.int x9), none, none, none] [] (up2 I6 57 0 ((I6 57 0) + 1)) J6) ∧ (¬ (0 < v4) → Wp d Lw_lays (QI F) 198 [some (.ref 0), some (.ref 100), some (.ref 57), some (.int x3), some (.int x4), some (.int x5), some (.int (lidI_z (y_lid_z (c 0)))), some (.int 0), some (.int (nI n)), some (.int x9), none, none, none] [] (up2 I6 57 0 ((I6 57 0) + 1)) J6))) ∧ (¬ (nI n = lidI_z (y_lid_z (c 0))) → Wp d Lw_lays (QI F) 198 [some (.ref 0), some (.ref 100), some (.ref 57), some (.int x3), some (.int x4), some (.int x5), some (.int (lidI_z (y_lid_z (c 0)))), some (.int 1), some (.int (nI n)), some (.int x9), none, none, none] [] (up2 I5 57 0 ((I5 57 0) + 1)) J5)) ∧ (¬ (0 < v3) → Wp d Lw_lays (QI F) 198 [some (.ref 0), some (.ref 100), some (.ref 57), some (.int x3), some (.int x4), some (.int x5), some (.int (lidI_z (y_lid_z (c 0)))), some (.int 0), some (.int (nI n)), some (.int x9), none, none, none] [] (up2 I5 57 0 ((I5 57 0) + 1)) J5)))) ∧ (¬ (0 < v2) → Wp d Lw_lays (QI F) 198 [some (.ref 0), some (.ref 100), some (.ref 57), some (.int x3), some (.int x4), some (.int x5), some (.int (lidI_z (y_lid_z (c 0)))), some (.int 0), some (.int (nI n)), some (.int x9), none, none, none] [] (up2 I4 57 0 ((I4 57 0) + 1)) J4)))) := by
    intro t1 I1 L r1 T1 hL1 f1 eL
    rw [n_tN (show 6 + 2 * n < 2 ^ 31 by omega), n_tN (show 7 + 2 * n < 2 ^ 31 by omega)]
    refine ⟨n_vp (by omega) (by decide), ?_⟩
    rw [f1 57 (by decide), hk]
    refine c_sort_z (by omega) hkb (k_typ_z (by omega) r1 T1 (by omega) hsr.1 hsr.2 (fun t2 I3 r2 T2 f2 => ⟨fun _ => ⟨n_vp (by omega) (by decide), ?_⟩, fun q => absurd (pos_v_z (by omega)) q⟩))
    have f9 : F57_z I I3 := f1.tr f2
    rw [f9 57 (by decide), hdp, show (48 : Int32) + nI (y_dp_z (c 1) n) = nI (48 + y_dp_z (c 1) n) from nI_add 48 _]
    refine k_typ_z (by omega) r2 T2 (by simp; omega) (by omega) (by omega) (fun t3 I4 r3 T3 f3 => ⟨fun _ => ⟨fun e => ?_, fun e => ?_⟩, fun q => absurd (pos_v_z (by simp; omega)) q⟩)
    · have e := (lid_eq_z (by omega) hlid).mp e
      refine k_typ_z (c := 33) (by omega) r3 T3 (by simp; omega) (by decide) (by decide) (fun t4 I5 r4 T4 f4 => ⟨fun _ => fin t4 I5 r4 ?_ (f9.tr (f3.tr f4)), fun q => absurd (pos_v_z (by simp; omega)) q⟩)
      rw [eL, if_pos e]; simpa using T4
    · have e : ¬ y_lid_z (c 0) = some n := fun q => e ((lid_eq_z (by omega) hlid).mpr q)
      refine fin t3 I4 r3 ?_ (f9.tr f3)
      rw [eL, if_neg e]; simpa using T3
  refine v_Lw_lays_0_100_57_116 ?_
  rw [i_6_z, i_7_z, n_e0 (by omega)]
  refine ⟨fun e => body t I (tx_z c n 0) hR hL (by omega) F57_z.rf ?_, fun e => k_typ_z (c := 44) (by omega) hR hL (by omega) (by decide) (by decide) (fun t1 I1 r1 T1 f1 => ⟨fun _ => body t1 I1 _ r1 T1 (by simp; omega) f1 ?_, fun q => absurd (pos_v_z (by omega)) q⟩)⟩
  · simp [tx_z, ptx_z, ptx1_z, ltx_z, e]
  · simp [tx_z, ptx_z, ptx1_z, ltx_z, e]
set_option maxHeartbeats 8000000 in
theorem lay_43_z (hd : 9 ≤ d) (hc : ∀ k, cel_z I (nI k) = nI (c k) ∧ c k < 2 ^ 31) (hS : Scr_z I) {x3 : Int32}
    (h : ∀ t' I', RS_z V none t' S I' J → TLt_z t' (tx_z c (y_pn_z (c 0)) 0) → Sc_z I I' → LQu_z c (y_pn_z (c 0)) 0 0 (I' 57) → Wp d Lw_lays (QI F) 218 [some (.ref 0), some (.ref 100), some (.ref 57), some (.int x3), some (.int (nI (c 0))), some (.int (nI (y_pn_z (c 0)))), some (.int (lidI_z (y_lid_z (c 0)))), some (.int 1), some (.int (nI (y_pn_z (c 0)))), none, none, none, none] [] I' J) :
    ∀ k n t' I', n + k = y_pn_z (c 0) → RS_z V none t' S I' J → TLt_z t' (tx_z c n 0) → Sc_z I I' → LQu_z c n 0 0 (I' 57) → Wp d Lw_lays (QI F) 43 [some (.ref 0), some (.ref 100), some (.ref 57), some (.int x3), some (.int (nI (c 0))), some (.int (nI (y_pn_z (c 0)))), some (.int (lidI_z (y_lid_z (c 0)))), some (.int 1), some (.int (nI n)), none, none, none, none] [] I' J := by
  have hb := y_pnb_z (c 0)
  have hc0 := (hc 0).2
  obtain ⟨c1, c2⟩ := hc 1
  intro k
  induction k with
  | zero =>
    intro n t' I' hn r T s hu
    have e : n = y_pn_z (c 0) := by omega
    have w2 : ∀ x : Int32, RS_z V none t' S (up2 I' 57 2 x) J ∧ Sc_z I (up2 I' 57 2 x) ∧ LQu_z c n 0 0 (up2 I' 57 2 x 57) := by
      intro x
      obtain ⟨u0, u1, u3, u5, up, ul⟩ := hu
      refine ⟨r.w (fun a ha => up2_ne ha), ⟨?_, ?_⟩, ?_, ?_, ?_, ?_, fun q hq => ?_, fun j hj => absurd hj (Nat.not_lt_zero j)⟩
      · rw [up2_ne (by decide)]; exact s.1
      · rw [up2_ne (by decide)]; exact s.2
      · simp [up2, upd]; exact u0
      · simp [up2, upd]; exact u1
      · simp [up2, upd]; exact u3
      · simp [up2, upd]; exact u5
      · simp [up2, upd, show ¬ 6 + 2 * q = 2 by omega, show ¬ 7 + 2 * q = 2 by omega]; exact up q hq
    rw [e] at T w2 ⊢
    refine v_Lw_lays_0_100_57_43 ⟨fun q => ?_, fun _ => ⟨fun _ => h t' _ (w2 0).1 T (w2 0).2.1 (w2 0).2.2, fun _ => h t' _ (w2 _).1 T (w2 _).2.1 (w2 _).2.2⟩⟩
    have := (n_lt (by omega) (by omega)).mp q; omega
  | succ k ih =>
    intro n t' I' hn r T s hu
    have hn2 : n < y_pn_z (c 0) := by omega
    have hy : c 1 / 2 ^ (5 * n) < 2 ^ 31 := Nat.lt_of_le_of_lt (Nat.div_le_self _ _) c2
    have ey : srI (nI (c 1)) (5 * nI n) = nI (c 1 / 2 ^ (5 * n)) := by
      rw [show (5 : Int32) * nI n = nI (5 * n) from pk_mul 5 n, n_sr c2 (by omega)]
    have e8 : (srI (nI (c 0)) 8 &&& 1) = nI (c 0 / 256 % 2) := by
      rw [show srI (nI (c 0)) 8 = nI (c 0 / 256) from n_sr (k := 8) hc0 (by decide), n_and1 (by omega)]
    -- behind the first of its two numbers
    have at97 : Wp d Lw_lays (QI F) 97 [some (.ref 0), some (.ref 100), some (.ref 57), some (.int x3), some (.int (nI (c 0))), some (.int (nI (y_pn_z (c 0)))), some (.int (lidI_z (y_lid_z (c 0)))), some (.int 1), some (.int (nI n)), some (.int (nI (c 1 / 2 ^ (5 * n)))), none, none, none] [] (up2 I' 57 (6 + 2 * n) (nI (y_kd_z (c 0) (c 1) n))) J := by
      refine v_Lw_lays_0_100_57_97 ?_
      rw [i_7_z, n_tN (show 7 + 2 * n < 2 ^ 31 by omega), show srI (nI (c 1 / 2 ^ (5 * n))) 3 = nI (c 1 / 2 ^ (5 * n) / 8) from n_sr (k := 3) hy (by decide), n_and3 (by omega), show rmI (nI (c 1 / 2 ^ (5 * n) / 8 % 4)) 3 = nI (c 1 / 2 ^ (5 * n) / 8 % 4 % 3) from n_rm (k := 3) (by omega) (by decide) (by decide), show (1 : Int32) + nI (c 1 / 2 ^ (5 * n) / 8 % 4 % 3) = nI (y_dp_z (c 1) n) from nI_add 1 _]
      refine ⟨n_vp (by omega) (by decide), ?_⟩
      obtain ⟨u0, u1, u3, u5, up, ul⟩ := hu
      have ew : ∀ k, k ≠ 6 + 2 * n → k ≠ 7 + 2 * n → up2 (up2 I' 57 (6 + 2 * n) (nI (y_kd_z (c 0) (c 1) n))) 57 (7 + 2 * n) (nI (y_dp_z (c 1) n)) 57 k = I' 57 k := fun k k1 k2 => by simp [up2, upd, k1, k2]
      refine lay_116_z hd (r.w (fun a ha => by simp [up2, ha])) T hn2 ⟨?_, ?_, ?_, ?_, fun q hq => ?_, fun j hj => absurd hj (Nat.not_lt_zero j)⟩ ?_ ?_ (fun t2 I3 r2 T2 s2 hu2 => ih (n + 1) t2 I3 (by omega) r2 T2 ⟨?_, ?_⟩ hu2)
      · rw [ew 0 (by omega) (by omega)]; exact u0
      · rw [ew 1 (by omega) (by omega)]; exact u1
      · rw [ew 3 (by omega) (by omega)]; exact u3
      · rw [ew 5 (by omega) (by omega)]; exact u5
      · rw [ew _ (by omega) (by omega), ew _ (by omega) (by omega)]; exact up q hq
      · simp [up2, upd, show ¬ 6 + 2 * n = 7 + 2 * n by omega]
      · simp [up2, upd]
      · rw [s2.1]; simp [up2]; exact s.1
      · rw [s2.2]; simp [up2]; exact s.2
    refine v_Lw_lays_0_100_57_43 ⟨fun _ => ⟨fun q => absurd q (by decide), fun _ => c_cell_z (k := 1) (by omega) (s.scr hS) (by decide) ?_⟩, fun q => absurd ((n_lt (by omega) (by omega)).mpr (by omega)) q⟩
    rw [s.cel, c1, ey, e8, n_e0 (by omega), i_6_z, n_tN (show 6 + 2 * n < 2 ^ 31 by omega)]
    refine ⟨fun e => ⟨n_vp (by omega) (by decide), ?_⟩, fun e => ⟨n_vp (by omega) (by decide), ?_⟩⟩
    · have : y_kd_z (c 0) (c 1) n = 0 := if_pos e
      rw [this] at at97; exact at97
    · have : y_kd_z (c 0) (c 1) n = c 1 / 2 ^ (5 * n) % 8 % 5 := if_neg e
      rw [show nI (c 1 / 2 ^ (5 * n)) &&& 7 = nI (c 1 / 2 ^ (5 * n) % 8) from pk_andN (by omega) 3 (by decide +kernel), show rmI (nI (c 1 / 2 ^ (5 * n) % 8)) 5 = nI (c 1 / 2 ^ (5 * n) % 8 % 5) from n_rm (k := 5) (by omega) (by decide) (by decide), ← this]
      exact at97
/-- the box that the cells tell -/
def y_B_z (c : Nat → Nat) : Bx := BLf_z (y_ow_z c) (y_wy_z c) (y_ot_z c) (y_ps_z c) (BPf_z (y_kd_z (c 0) (c 1)) (y_dp_z (c 1)) (y_pn_z (c 0))) (y_ln_z (c 0))
set_option maxHeartbeats 8000000 in
theorem c_lays_z (hd : 10 ≤ d) (hR : RS_z V none t S I J) (ht : t.1 = 0) (hS : Scr_z I) (hw : ∀ k, I 57 k = 0) (h : ∀ V' t' I', RS_z V' none t' S I' J → WV_z V' I' → 0 < V'.B.pn → V'.B.pn ≤ 4 → V'.B.ln ≤ 5 → Sc_z I I' → F 1 I' J) : CI d Lw_lays [.ref 0, .ref 100, .ref 57, .int 4] I J F := by
  have hc : ∀ k, cel_z I (nI k) = nI (celN_z I k) ∧ celN_z I k < 2 ^ 31 := celN_ok_z I
  generalize celN_z I = c at hc
  have hb := y_pnb_z (c 0)
  obtain ⟨c1, c2⟩ := hc 0
  have hlid : ∀ q, y_lid_z (c 0) = some q → q < y_pn_z (c 0) := fun q e => by
    unfold y_lid_z at e
    split at e
    · cases e
    · rw [← Option.some.inj e]; exact Nat.mod_lt _ (by omega)
  have hln : y_ln_z (c 0) ≤ 5 := by unfold y_ln_z; split <;> omega
  obtain ⟨q1, q2, q3⟩ := BPf_ok_z (kd := y_kd_z (c 0) (c 1)) (dp := y_dp_z (c 1)) (y_pn_z (c 0))
  obtain ⟨z1, z2, z3, z4⟩ := BLf_p_z (ow := y_ow_z c) (wy := y_wy_z c) (ot := y_ot_z c) (ps := y_ps_z c) (B := BPf_z (y_kd_z (c 0) (c 1)) (y_dp_z (c 1)) (y_pn_z (c 0))) (y_ln_z (c 0))
  have hl : ∀ l, l < y_ln_z (c 0) → okL1_z (BPf_z (y_kd_z (c 0) (c 1)) (y_dp_z (c 1)) (y_pn_z (c 0))) (y_ow_z c l) (y_wy_z c l) (y_ot_z c l) (y_ps_z c l) := by
    intro l hl
    have hpn : 1 < y_pn_z (c 0) := by
      rcases Nat.lt_or_ge 1 (y_pn_z (c 0)) with q | q
      · exact q
      · have : y_ln_z (c 0) = 0 := if_pos (by omega)
        omega
    have how : y_ow_z c l < y_pn_z (c 0) := Nat.mod_lt _ (by omega)
    have hot : y_ot_z c l < y_pn_z (c 0) := Nat.mod_lt _ (by omega)
    unfold okL1_z
    rw [q1, (q3 _ hot).2]
    have := y_dpb_z (c 1) (y_ot_z c l)
    have hp := y_psb_z c l
    exact ⟨how, Nat.mod_lt _ (by decide), hot, y_ot_ne_z c l hpn, hp.1, hp.2.1, this.2⟩
  -- the end: the box is asked for
  have at490 : ∀ t' I', RS_z V none t' S I' J → TLt_z t' (tx_z c (y_pn_z (c 0)) (y_ln_z (c 0))) → Sc_z I I' → LQu_z c (y_pn_z (c 0)) (y_ln_z (c 0)) (y_ln_z (c 0)) (I' 57) → Wp (d - 1) Lw_lays (QI F) 490 [some (.ref 0), some (.ref 100), some (.ref 57), some (.int 4), some (.int (nI (c 0))), some (.int (nI (y_pn_z (c 0)))), some (.int (lidI_z (y_lid_z (c 0)))), some (.int 1), some (.int (nI (y_ln_z (c 0)))), some (.int (nI (y_ln_z (c 0)))), none, none, none] [] (up2 I' 57 4 1) J := by
    intro t' I' r T s hu
    refine v_Lw_lays_0_100_57_490 ⟨fun q => absurd q (by decide), fun _ => k_box_z (by omega) (r.w (fun a ha => up2_ne ha)) (fun I3 r3 f3 => ?_)⟩
    have e := box_S_z (t := t') (lid := y_lid_z (c 0)) V hb.2 (by omega) hlid (fun q _ => ⟨y_kdb_z (c 0) (c 1) q, (y_dpb_z (c 1) q).1, (y_dpb_z (c 1) q).2⟩) (by omega) q1 hl T.at0
    rw [e] at r3 ⊢
    have ep : (y_B_z c).pn = y_pn_z (c 0) := z1.trans q1
    refine ⟨fun _ => QI_i.mpr (h (y_B_z c, (lidN (y_lid_z (c 0)), 0, 0, V.dr), []) _ I3 r3 ?_ (by show 0 < (y_B_z c).pn; omega) (by show (y_B_z c).pn ≤ 4; omega) ?_ ⟨?_, ?_⟩), fun q => absurd ?_ q⟩
    · obtain ⟨u0, u1, u3, u5, up, ul⟩ := hu
      have ew : ∀ k, k ≠ 4 → I3 57 k = I' 57 k := fun k hk => by rw [f3 57 (by decide)]; simp [up2, upd, hk]
      refine ⟨⟨?_, ?_, fun p hp => ?_, fun l hl2 => ?_⟩, ?_, ?_⟩
      · show I3 57 0 = nI (y_B_z c).pn
        rw [ew 0 (by decide), ep]; exact u0
      · show I3 57 1 = nI (y_B_z c).ln
        rw [ew 1 (by decide), show (y_B_z c).ln = y_ln_z (c 0) by show (BLf_z _ _ _ _ _ _).ln = _; rw [z4, q2, Nat.zero_add]]; exact u1
      · have hp : p < (y_B_z c).pn := hp
        show I3 57 (6 + 2 * p) = nI ((y_B_z c).kd p) ∧ I3 57 (7 + 2 * p) = nI ((y_B_z c).dp p)
        have hp2 : p < y_pn_z (c 0) := by omega
        rw [ew _ (by omega), ew _ (by omega), show (y_B_z c).kd = _ from z2, show (y_B_z c).dp = _ from z3, (q3 p hp2).1, (q3 p hp2).2]
        exact up p hp2
      · have hl2 : l < (y_B_z c).ln := hl2
        have hl3 : l < y_ln_z (c 0) := by rw [show (y_B_z c).ln = y_ln_z (c 0) by show (BLf_z _ _ _ _ _ _).ln = _; rw [z4, q2, Nat.zero_add]] at hl2; exact hl2
        show I3 57 (16 + 4 * l) = nI ((y_B_z c).ow l) ∧ I3 57 (16 + 4 * l + 1) = nI ((y_B_z c).wy l) ∧ I3 57 (16 + 4 * l + 2) = nI ((y_B_z c).ot l) ∧ I3 57 (16 + 4 * l + 3) = nI ((y_B_z c).ps l)
        obtain ⟨b1, b2, b3, b4⟩ := BLf_ok_z (ow := y_ow_z c) (wy := y_wy_z c) (ot := y_ot_z c) (ps := y_ps_z c) q2 (y_ln_z (c 0)) l hl3
        rw [ew _ (by omega), ew _ (by omega), ew _ (by omega), ew _ (by omega), show (y_B_z c).ow l = _ from b1, show (y_B_z c).wy l = _ from b2, show (y_B_z c).ot l = _ from b3, show (y_B_z c).ps l = _ from b4]
        exact ul l hl3
      · rw [ew 3 (by decide)]; exact u3
      · rw [ew 5 (by decide)]; exact u5
    · show (y_B_z c).ln ≤ 5
      rw [show (y_B_z c).ln = y_ln_z (c 0) by show (BLf_z _ _ _ _ _ _).ln = _; rw [z4, q2, Nat.zero_add]]; exact hln
    · rw [f3 100 (by decide), up2_ne (by decide)]; exact s.1
    · rw [f3 101 (by decide), up2_ne (by decide)]; exact s.2
    · show nI (y_B_z c).pn = nI (y_pn_z (c 0)); rw [ep]
  have at218 : ∀ t' I', RS_z V none t' S I' J → TLt_z t' (tx_z c (y_pn_z (c 0)) 0) → Sc_z I I' → LQu_z c (y_pn_z (c 0)) 0 0 (I' 57) → Wp (d - 1) Lw_lays (QI F) 218 [some (.ref 0), some (.ref 100), some (.ref 57), some (.int 4), some (.int (nI (c 0))), some (.int (nI (y_pn_z (c 0)))), some (.int (lidI_z (y_lid_z (c 0)))), some (.int 1), some (.int (nI (y_pn_z (c 0)))), none, none, none, none] [] I' J := by
    intro t' I' r T s hu
    have g := lay_241_z (d := d - 1) (x3 := 4) (x4 := nI (c 0)) (x6 := lidI_z (y_lid_z (c 0))) (V := V) (S := S) (J := J) (F := F) (by omega) hb.2 hc hS at490 (y_ln_z (c 0)) 0 t' I' (Nat.zero_add _) r T s hu
    refine v_Lw_lays_0_100_57_218 ⟨fun e => ?_, fun e => ?_⟩
    · have : y_ln_z (c 0) = 0 := if_pos ((n_eq (b := 1) (by omega) (by decide)).mp e)
      rw [this] at g; exact g
    · have : y_ln_z (c 0) = c 0 / 512 % 6 := if_neg (fun q => e (by rw [q]; rfl))
      rw [show srI (nI (c 0)) 9 = nI (c 0 / 512) from n_sr (k := 9) c2 (by decide), show rmI (nI (c 0 / 512)) 6 = nI (c 0 / 512 % 6) from n_rm (k := 6) (by omega) (by decide) (by decide), ← this]
      exact g
  have at43 := lay_43_z (d := d - 1) (x3 := 4) (V := V) (S := S) (J := J) (F := F) (by omega) hc hS at218 (y_pn_z (c 0)) 0 t I (Nat.zero_add _) hR ⟨by rw [ht]; rfl, fun k x hk => by cases hk⟩ ⟨rfl, rfl⟩ ⟨hw 0, hw 1, hw 3, hw 5, fun q hq => absurd hq (Nat.not_lt_zero q), fun q hq => absurd hq (Nat.not_lt_zero q)⟩
  refine CI.of (by omega) rfl (v_Lw_lays_0_100_57_0 (c_cell_z (k := 0) (by omega) hS (by decide) ?_))
  rw [c1, show rmI (nI (c 0)) 4 = nI (c 0 % 4) from n_rm (k := 4) c2 (by decide) (by decide), show (1 : Int32) + nI (c 0 % 4) = nI (y_pn_z (c 0)) from nI_add 1 _, show srI (nI (c 0)) 3 = nI (c 0 / 8) from n_sr (k := 3) c2 (by decide), n_and3 (by omega), n_e0 (by omega), n_e0 (by omega), show srI (nI (c 0)) 5 = nI (c 0 / 32) from n_sr (k := 5) c2 (by decide), n_rm (by omega) (by omega) (by omega)]
  refine ⟨by decide, fun e => ?_, fun e => ⟨by omega, ?_⟩⟩
  · have : y_lid_z (c 0) = none := if_pos e
    rw [this] at at43; exact at43
  · have : y_lid_z (c 0) = some (c 0 / 32 % y_pn_z (c 0)) := if_neg e
    rw [this] at at43; exact at43
end LYZ
