/-! LAYS, walked -/
section LYW
variable {d : Nat} {V : Bv} {K : Option Bv} {t : Tpe} {S : Nat → Shv} {I : I2} {J : J2} {F : Int32 → I2 → J2 → Prop} {c : Nat → Nat}
/-- what w holds behind n panels, l locks told, m locks put down -/
def LQu_z (c : Nat → Nat) (n l m : Nat) (u : Nat → Int32) : Prop := u 0 = nI n ∧ u 1 = nI l ∧ u 3 = 0 ∧ u 5 = 0 ∧ (∀ q, q < n → u (6 + 2 * q) = nI (y_kd_z (c 0) (c 1) q) ∧ u (7 + 2 * q) = nI (y_dp_z (c 1) q)) ∧ ∀ j, j < m → u (16 + 4 * j) = nI (y_ow_z c j) ∧ u (16 + 4 * j + 1) = nI (y_wy_z c j) ∧ u (16 + 4 * j + 2) = nI (y_ot_z c j) ∧ u (16 + 4 * j + 3) = nI (y_ps_z c j)
/-- the script stays -/
def Sc_z (I I' : I2) : Prop := I' 100 = I 100 ∧ I' 101 = I 101
theorem Sc_z.f57 {I0 I1 I' : I2} (h : Sc_z I0 I1) (f : F57_z I1 I') : Sc_z I0 I' := ⟨(f 100 (by decide)).trans h.1, (f 101 (by decide)).trans h.2⟩
theorem Sc_z.cel {I0 I' : I2} (h : Sc_z I0 I') (x : Int32) : cel_z I' x = cel_z I0 x := by unfold cel_z; rw [h.1, h.2]
theorem Sc_z.scr {I0 I' : I2} (h : Sc_z I0 I') (hS : Scr_z I0) : Scr_z I' := by obtain ⟨L, h1, h2⟩ := hS; exact ⟨L, h1, by rw [h.2]; exact h2⟩
def lidI_z (o : Option Nat) : Int32 := match o with
  | none => -1
  | some q => nI q
def tx_z (c : Nat → Nat) (n l : Nat) : List Nat := ptx_z (y_kd_z (c 0) (c 1)) (y_dp_z (c 1)) (y_lid_z (c 0)) n ++ ltx_z (y_ow_z c) (y_wy_z c) (y_ot_z c) (y_ps_z c) l
theorem tx_len_z (n l : Nat) : (tx_z c n l).length ≤ 4 * n + 8 * l := by
  have h1 := ptx_len_z (kd := y_kd_z (c 0) (c 1)) (dp := y_dp_z (c 1)) (lid := y_lid_z (c 0)) n
  have h2 := ltx_len_z (ow := y_ow_z c) (wy := y_wy_z c) (ot := y_ot_z c) (ps := y_ps_z c) l
  simp only [tx_z, List.length_append]; omega
theorem wch_b_z : ∀ w, w < 3 → 33 ≤ wch_z w ∧ wch_z w ≤ 126 ∧ nI (wch_z w) = (if w = 0 then 60 else if w = 1 then 62 else 61) := by decide +kernel
theorem pos_v_z {n : Nat} (h : n < 2 ^ 30) : 0 < nI (n + 1) := (n_p0 (by omega)).mpr (by omega)
set_option maxHeartbeats 4000000 in
theorem lay_431_z (hd : 9 ≤ d) {n l : Nat} (hR : RS_z V K t S I J) {L : List Nat} (hL : TLt_z t L) (hl : L.length < 70) (hu : LQu_z c n l (l + 1) (I 57)) (hl6 : l < 6) (hb : y_pn_z (c 0) ≤ 4) {x3 x4 x5 x6 x8 x9 x10 x12 : Int32} {w : Nat} (hw : w < 3)
    (nx : ∀ t' I', RS_z V K t' S I' J → TLt_z t' (L ++ (wch_z w :: (48 + y_ot_z c l) :: dgs_z 4 0 (y_ps_z c l))) → Sc_z I I' → LQu_z c n (l + 1) (l + 1) (I' 57) → Wp d Lw_lays (QI F) 480 [some (.ref 0), some (.ref 100), some (.ref 57), some (.int x3), some (.int x4), some (.int x5), some (.int x6), some (.int 1), some (.int x8), some (.int x9), some (.int x10), some (.int (nI (16 + 4 * l))), some (.int x12)] [] I' J) :
    Wp d Lw_lays (QI F) 431 [some (.ref 0), some (.ref 100), some (.ref 57), some (.int x3), some (.int x4), some (.int x5), some (.int x6), some (.int 1), some (.int x8), some (.int x9), some (.int x10), some (.int (nI (16 + 4 * l))), some (.int x12)] [.int (nI (wch_z w)), .ref 0] I J := by
  obtain ⟨u0, u1, u3, u5, up, ul⟩ := hu
  obtain ⟨a1, a2, a3, a4⟩ := ul l (by omega)
  obtain ⟨w1, w2, -⟩ := wch_b_z w hw
  have hot : y_ot_z c l < 4 := Nat.lt_of_lt_of_le (Nat.mod_lt _ (y_pnb_z (c 0)).1) hb
  obtain ⟨p1, p2, p3⟩ := y_psb_z c l
  refine v_Lw_lays_0_100_57_431 (k_typ_z (by omega) hR hL (by omega) w1 w2 (fun t1 I1 r1 T1 f1 => ⟨fun _ => ?_, fun q => absurd (pos_v_z (by omega)) q⟩))
  rw [show nI (16 + 4 * l) + 2 = nI (16 + 4 * l + 2) from nI_add _ 2, show nI (16 + 4 * l) + 3 = nI (16 + 4 * l + 3) from nI_add _ 3, n_tN (show 16 + 4 * l + 2 < 2 ^ 31 by omega), n_tN (show 16 + 4 * l + 3 < 2 ^ 31 by omega)]
  refine ⟨n_vp (by omega) (by decide), ?_⟩
  rw [f1 57 (by decide), a3, show (48 : Int32) + nI (y_ot_z c l) = nI (48 + y_ot_z c l) from nI_add 48 _]
  refine k_typ_z (by omega) r1 T1 (by simp; omega) (by omega) (by omega) (fun t2 I3 r2 T2 f2 => ⟨fun _ => ⟨n_vp (by omega) (by decide), ?_⟩, fun q => absurd (pos_v_z (by simp; omega)) q⟩)
  rw [f2 57 (by decide), f1 57 (by decide), a4]
  refine c_digits_z (by omega) r2 T2 (by simp; omega) p3 (fun t3 I4 r3 T3 f3 => ⟨fun q => absurd q (by decide), fun _ => ?_⟩)
  have f9 : F57_z I I4 := f1.tr (f2.tr f3)
  have e57 : ∀ k, k ≠ 1 → up2 I4 57 1 (I4 57 1 + 1) 57 k = I 57 k := fun k hk => by simp [up2, upd, hk]; rw [f9 57 (by decide)]
  refine nx t3 _ (r3.w (fun a ha => up2_ne ha)) (by simpa using T3) ⟨?_, ?_⟩ ⟨?_, ?_, ?_, ?_, fun q hq => ?_, fun j hj => ?_⟩
  · rw [up2_ne (by decide)]; exact f9 100 (by decide)
  · rw [up2_ne (by decide)]; exact f9 101 (by decide)
  · rw [e57 0 (by decide)]; exact u0
  · have : up2 I4 57 1 (I4 57 1 + 1) 57 1 = I4 57 1 + 1 := by simp [up2, upd]
    rw [this, f9 57 (by decide), u1, n_inc]
  · rw [e57 3 (by decide)]; exact u3
  · rw [e57 5 (by decide)]; exact u5
  · rw [e57 _ (by omega), e57 _ (by omega)]; exact up q hq
  · rw [e57 _ (by omega), e57 _ (by omega), e57 _ (by omega), e57 _ (by omega)]; exact ul j hj
set_option maxHeartbeats 4000000 in
theorem lay_366_z (hd : 9 ≤ d) {n l : Nat} (hR : RS_z V K t S I J) (hL : TLt_z t (tx_z c n l)) (hl : 4 * n + 8 * l < 60) (hu : LQu_z c n l (l + 1) (I 57)) (hl6 : l < 6) (hb : y_pn_z (c 0) ≤ 4) {x3 x4 x5 x6 x8 x10 x12 : Int32}
    (nx : ∀ t' I', RS_z V K t' S I' J → TLt_z t' (tx_z c n (l + 1)) → Sc_z I I' → LQu_z c n (l + 1) (l + 1) (I' 57) → Wp d Lw_lays (QI F) 241 [some (.ref 0), some (.ref 100), some (.ref 57), some (.int x3), some (.int x4), some (.int x5), some (.int x6), some (.int 1), some (.int x8), some (.int (nI (l + 1))), none, none, none] [] I' J) :
    Wp d Lw_lays (QI F) 366 [some (.ref 0), some (.ref 100), some (.ref 57), some (.int x3), some (.int x4), some (.int x5), some (.int x6), some (.int 1), some (.int x8), some (.int (nI l)), some (.int x10), some (.int (nI (16 + 4 * l))), some (.int x12)] [] I J := by
  have hlen := tx_len_z (c := c) n l
  obtain ⟨u0, u1, u3, u5, up, ul⟩ := id hu
  obtain ⟨a1, a2, a3, a4⟩ := ul l (by omega)
  have how : y_ow_z c l < 4 := Nat.lt_of_lt_of_le (Nat.mod_lt _ (y_pnb_z (c 0)).1) hb
  have hwy : y_wy_z c l < 3 := Nat.mod_lt _ (by decide)
  -- behind the mark ahead of the lock
  have body : ∀ (ch : Nat) (t1 : Tpe) (I1 : Nat → Nat → Int32), (if l = 0 then 59 else 44) = ch → RS_z V K t1 S I1 J → TLt_z t1 (tx_z c n l ++ [ch]) → F57_z I I1 → vp_in (nI (16 + 4 * l)) 40 ∧ (CI d Sb_type [.ref 0, .int (48 + (I1 57 (tN (nI (16 + 4 * l)))))] I1 J (fun v2 I3 J2 => (0 < v2 → vp_in (nI (16 + 4 * l) + 1) 40 ∧ (((I3 57 (tN (nI (16 + 4 * l) + 1))) = 0 → Wp d Lw_lays (QI F) 431 [some (.ref 0), some (.ref 100), some (.ref 57), some (.int x3), some (.int x4), some (.int x5), some (.int x6), some (.int 1), some (.int x8), some (.int (nI l)), some (.int x10), some (.int (nI (16 + 4 * l))), some (.int x12)] [.int 60, .ref 0] I3 J2) ∧ (¬ ((I3 57 (tN (nI (16 + 4 * l) + 1))) = 0) → vp_in (nI (16 + 4 * l) + 1) 40 ∧ (((I3 57 (tN (nI (16 + 4 * l) + 1))) = 1 → Wp d Lw_lays (QI F) 431 [some (.ref 0), some (.ref 100), some (.ref 57), some (.int x3), some (.int x4), some (.int x5), some (.int x6), some (.int 1), some (.int x8), some (.int (nI l)), some (.int x10), some (.int (nI (16 + 4 * l))), some (.int x12)] [.int 62, .ref 0] I3 J2) ∧ (¬ ((I3 57 (tN (nI (16 + 4 * l) + 1))) = 1) → Wp d Lw_lays (QI F) 431 [some (.ref 0), some (.ref 100), some (.ref 57), some (.int x3), some (.int x4), some (.int x5), some (.int x6), some (.int 1), some (.int x8), some (.int (nI l)), some (.int x10), some (.int (nI (16 + 4 * l))), some (.int x12)] [.int 61, .ref 0] I3 J2))))) ∧ (¬ (0 < v2) → Wp d Lw_lays (QI F) 480 [some (.ref 0), some (.ref 100), some (.ref 57), some (.int x3), some (.int x4), some (.int x5), some (.int x6), some (.int 0), some (.int x8), some (.int (nI l)), some (.int x10), some (.int (nI (16 + 4 * l))), some (.int x12)] [] (up2 I3 57 1 ((I3 57 1) + 1)) J2))) := by
    intro ch t1 I1 hch r1 T1 f1
    rw [show nI (16 + 4 * l) + 1 = nI (16 + 4 * l + 1) from nI_add _ 1, n_tN (show 16 + 4 * l < 2 ^ 31 by omega), n_tN (show 16 + 4 * l + 1 < 2 ^ 31 by omega)]
    refine ⟨n_vp (by omega) (by decide), ?_⟩
    rw [f1 57 (by decide), a1, show (48 : Int32) + nI (y_ow_z c l) = nI (48 + y_ow_z c l) from nI_add 48 _]
    refine k_typ_z (by omega) r1 T1 (by simp; omega) (by omega) (by omega) (fun t2 I3 r2 T2 f2 => ⟨fun _ => ?_, fun q => absurd (pos_v_z (by simp; omega)) q⟩)
    have f9 : F57_z I I3 := f1.tr f2
    have hu3 : LQu_z c n l (l + 1) (I3 57) := by rw [f9 57 (by decide)]; exact hu
    have go : Wp d Lw_lays (QI F) 431 [some (.ref 0), some (.ref 100), some (.ref 57), some (.int x3), some (.int x4), some (.int x5), some (.int x6), some (.int 1), some (.int x8), some (.int (nI l)), some (.int x10), some (.int (nI (16 + 4 * l))), some (.int x12)] [.int (nI (wch_z (y_wy_z c l))), .ref 0] I3 J := by
      refine lay_431_z hd r2 T2 (by simp; omega) hu3 hl6 hb hwy (fun t4 I4 r4 T4 s4 h4 => v_Lw_lays_0_100_57_480 ?_)
      rw [n_inc]
      refine nx t4 I4 r4 ?_ ⟨s4.1.trans (f9 100 (by decide)), s4.2.trans (f9 101 (by decide))⟩ h4
      have e : tx_z c n (l + 1) = tx_z c n l ++ [ch] ++ [48 + y_ow_z c l] ++ (wch_z (y_wy_z c l) :: (48 + y_ot_z c l) :: dgs_z 4 0 (y_ps_z c l)) := by
        simp [tx_z, ltx_z, ltx1_z, lbd_z, hch]
      rw [e]; exact T4
    have hv := n_vp (a := 16 + 4 * l + 1) (n := 40) (by omega) (by decide)
    rw [f9 57 (by decide), a2, n_e0 (by omega), show (nI (y_wy_z c l) = 1) = (y_wy_z c l = 1) from propext (n_eq (b := 1) (by omega) (by decide))]
    have ew := (wch_b_z _ hwy).2.2
    refine ⟨hv, fun e => ?_, fun e => ⟨hv, fun e1 => ?_, fun e1 => ?_⟩⟩
    · rw [if_pos e] at ew; rw [ew] at go; exact go
    · rw [if_neg e, if_pos e1] at ew; rw [ew] at go; exact go
    · rw [if_neg e, if_neg e1] at ew; rw [ew] at go; exact go
  refine v_Lw_lays_0_100_57_366 ?_
  rw [n_e0 (by omega)]
  refine ⟨fun e => k_typ_z (c := 59) (by omega) hR hL (by omega) (by decide) (by decide) (fun t1 I1 r1 T1 f1 => ⟨fun _ => body 59 t1 I1 (if_pos e) r1 T1 f1, fun q => absurd (pos_v_z (by omega)) q⟩), fun e => k_typ_z (c := 44) (by omega) hR hL (by omega) (by decide) (by decide) (fun t1 I1 r1 T1 f1 => ⟨fun _ => body 44 t1 I1 (if_neg e) r1 T1 f1, fun q => absurd (pos_v_z (by omega)) q⟩)⟩
set_option maxHeartbeats 4000000 in
theorem lay_241_z (hd : 9 ≤ d) (hb : y_pn_z (c 0) ≤ 4) (hc : ∀ k, cel_z I (nI k) = nI (c k) ∧ c k < 2 ^ 31) (hS : Scr_z I) {x3 x4 x6 : Int32}
    (h : ∀ t' I', RS_z V none t' S I' J → TLt_z t' (tx_z c (y_pn_z (c 0)) (y_ln_z (c 0))) → Sc_z I I' → LQu_z c (y_pn_z (c 0)) (y_ln_z (c 0)) (y_ln_z (c 0)) (I' 57) → Wp d Lw_lays (QI F) 490 [some (.ref 0), some (.ref 100), some (.ref 57), some (.int x3), some (.int x4), some (.int (nI (y_pn_z (c 0)))), some (.int x6), some (.int 1), some (.int (nI (y_ln_z (c 0)))), some (.int (nI (y_ln_z (c 0)))), none, none, none] [] (up2 I' 57 4 1) J) :
    ∀ k l t' I', l + k = y_ln_z (c 0) → RS_z V none t' S I' J → TLt_z t' (tx_z c (y_pn_z (c 0)) l) → Sc_z I I' → LQu_z c (y_pn_z (c 0)) l l (I' 57) → Wp d Lw_lays (QI F) 241 [some (.ref 0), some (.ref 100), some (.ref 57), some (.int x3), some (.int x4), some (.int (nI (y_pn_z (c 0)))), some (.int x6), some (.int 1), some (.int (nI (y_ln_z (c 0)))), some (.int (nI l)), none, none, none] [] I' J := by
  have hln : y_ln_z (c 0) < 6 := by unfold y_ln_z; split <;> omega
  intro k
  induction k with
  | zero =>
    intro l t' I' hl r T s hu
    have e : l = y_ln_z (c 0) := by omega
    refine v_Lw_lays_0_100_57_241 ⟨fun q => ?_, fun _ => ?_⟩
    · have := (n_lt (by omega) (by omega)).mp q; omega
    · rw [e] at T hu ⊢
      exact h t' I' r T s hu
  | succ k ih =>
    intro l t' I' hl r T s hu
    have hl6 : l < 6 := by omega
    have hpn1 : ¬ y_pn_z (c 0) = 1 := fun e => by have : y_ln_z (c 0) = 0 := if_pos e; omega
    have hpn : 1 < y_pn_z (c 0) := by have := (y_pnb_z (c 0)).1; omega
    obtain ⟨u0, u1, u3, u5, up, ul⟩ := hu
    obtain ⟨c1, c2⟩ := hc (2 + l / 2)
    have hy : y_y_z c l < 2 ^ 31 := Nat.lt_of_le_of_lt (Nat.div_le_self _ _) c2
    refine v_Lw_lays_0_100_57_241 ⟨fun _ => ⟨fun q => absurd q (by decide), fun _ => ?_⟩, fun q => ?_⟩
    · rw [show nI l / 2 = nI (l / 2) from n_div (k := 2) (by omega) (by decide) (by decide), show (2 : Int32) + nI (l / 2) = nI (2 + l / 2) from nI_add 2 _]
      refine c_cell_z (by omega) (s.scr hS) (by omega) ?_
      rw [s.cel, c1, show rmI (nI l) 2 = nI (l % 2) from n_rm (k := 2) (by omega) (by decide) (by decide), show (15 : Int32) * nI (l % 2) = nI (15 * (l % 2)) from pk_mul 15 _, n_sr c2 (by omega), show c (2 + l / 2) / 2 ^ (15 * (l % 2)) = y_y_z c l from rfl, i_16_z, n_e0 (by omega), n_tN (show 16 + 4 * l < 2 ^ 31 by omega), n_rm hy (by omega) (by omega), show y_y_z c l % y_pn_z (c 0) = y_ow_z c l from rfl]
      refine ⟨by omega, n_vp (by omega) (by decide), v_Lw_lays_0_100_57_291 ?_⟩
      rw [show nI (16 + 4 * l) + 1 = nI (16 + 4 * l + 1) from nI_add _ 1, n_tN (show 16 + 4 * l + 1 < 2 ^ 31 by omega), show srI (nI (y_y_z c l)) 3 = nI (y_y_z c l / 8) from n_sr (k := 3) hy (by decide), show rmI (nI (y_y_z c l / 8)) 3 = nI (y_wy_z c l) from n_rm (k := 3) (by omega) (by decide) (by decide)]
      refine ⟨n_vp (by omega) (by decide), v_Lw_lays_0_100_57_303 ?_⟩
      have how : y_ow_z c l < y_pn_z (c 0) := Nat.mod_lt _ (by omega)
      have e1 : up2 (up2 I' 57 (16 + 4 * l) (nI (y_ow_z c l))) 57 (16 + 4 * l + 1) (nI (y_wy_z c l)) 57 (16 + 4 * l) = nI (y_ow_z c l) := by simp [up2, upd]
      rw [n_tN (show 16 + 4 * l < 2 ^ 31 by omega), e1, show nI (16 + 4 * l) + 2 = nI (16 + 4 * l + 2) from nI_add _ 2, n_tN (show 16 + 4 * l + 2 < 2 ^ 31 by omega), show nI (y_pn_z (c 0)) - 1 = nI (y_pn_z (c 0) - 1) from n_dec (by omega), show srI (nI (y_y_z c l)) 5 = nI (y_y_z c l / 32) from n_sr (k := 5) hy (by decide), n_rm (by omega) (by omega) (by omega), n_inc, nI_add, n_rm (by have := Nat.mod_lt (y_y_z c l / 32) (show 0 < y_pn_z (c 0) - 1 by omega); omega) (by omega) (by omega), show (y_ow_z c l + 1 + y_y_z c l / 32 % (y_pn_z (c 0) - 1)) % y_pn_z (c 0) = y_ot_z c l from rfl, n_e0 (by omega), n_e0 (by omega)]
      refine ⟨n_vp (by omega) (by decide), by omega, by omega, n_vp (by omega) (by decide), v_Lw_lays_0_100_57_328 ?_⟩
      have hot : y_ot_z c l < y_pn_z (c 0) := Nat.mod_lt _ (by omega)
      have e2 : up2 (up2 (up2 I' 57 (16 + 4 * l) (nI (y_ow_z c l))) 57 (16 + 4 * l + 1) (nI (y_wy_z c l))) 57 (16 + 4 * l + 2) (nI (y_ot_z c l)) 57 (16 + 4 * l + 2) = nI (y_ot_z c l) := by simp [up2, upd]
      have e3 : up2 (up2 (up2 I' 57 (16 + 4 * l) (nI (y_ow_z c l))) 57 (16 + 4 * l + 1) (nI (y_wy_z c l))) 57 (16 + 4 * l + 2) (nI (y_ot_z c l)) 57 (7 + 2 * y_ot_z c l) = nI (y_dp_z (c 1) (y_ot_z c l)) := by
        simp [up2, upd, show ¬ 7 + 2 * y_ot_z c l = 16 + 4 * l by omega, show ¬ 7 + 2 * y_ot_z c l = 16 + 4 * l + 1 by omega, show ¬ 7 + 2 * y_ot_z c l = 16 + 4 * l + 2 by omega]
        exact (up _ hot).2
      have hdp := y_dpb_z (c 1) (y_ot_z c l)
      have h2p : 2 ^ y_dp_z (c 1) (y_ot_z c l) ≤ 2 ^ 3 := Nat.pow_le_pow_right (by decide) hdp.2
      have h2q : 2 ^ 1 ≤ 2 ^ y_dp_z (c 1) (y_ot_z c l) := Nat.pow_le_pow_right (by decide) hdp.1
      rw [show nI (16 + 4 * l) + 2 = nI (16 + 4 * l + 2) from nI_add _ 2, n_tN (show 16 + 4 * l + 2 < 2 ^ 31 by omega), e2, i_7_z, n_tN (show 7 + 2 * y_ot_z c l < 2 ^ 31 by omega), e3, show nI (16 + 4 * l) + 3 = nI (16 + 4 * l + 3) from nI_add _ 3, n_tN (show 16 + 4 * l + 3 < 2 ^ 31 by omega), show slI 2 (nI (y_dp_z (c 1) (y_ot_z c l))) = nI (2 * 2 ^ y_dp_z (c 1) (y_ot_z c l)) from n_sl (a := 2) (by omega) (by omega), show nI (2 * 2 ^ y_dp_z (c 1) (y_ot_z c l)) - 1 = nI (2 * 2 ^ y_dp_z (c 1) (y_ot_z c l) - 1) from n_dec (by omega), n_e0 (by omega), show srI (nI (y_y_z c l)) 8 = nI (y_y_z c l / 256) from n_sr (k := 8) hy (by decide), show nI (y_y_z c l / 256) &&& 15 = nI (y_y_z c l / 256 % 16) from pk_andN (by omega) 4 (by decide +kernel), n_rm (by omega) (by omega) (by omega), show (1 : Int32) + nI (y_y_z c l / 256 % 16 % (2 * 2 ^ y_dp_z (c 1) (y_ot_z c l) - 1)) = nI (y_ps_z c l) from nI_add 1 _]
      refine ⟨n_vp (by omega) (by decide), n_vp (by omega) (by decide), by omega, n_vp (by omega) (by decide), ?_⟩
      have ew : ∀ k, k ≠ 16 + 4 * l → k ≠ 16 + 4 * l + 1 → k ≠ 16 + 4 * l + 2 → k ≠ 16 + 4 * l + 3 → up2 (up2 (up2 (up2 I' 57 (16 + 4 * l) (nI (y_ow_z c l))) 57 (16 + 4 * l + 1) (nI (y_wy_z c l))) 57 (16 + 4 * l + 2) (nI (y_ot_z c l))) 57 (16 + 4 * l + 3) (nI (y_ps_z c l)) 57 k = I' 57 k := fun k k1 k2 k3 k4 => by simp [up2, upd, k1, k2, k3, k4]
      refine lay_366_z hd (n := y_pn_z (c 0)) (l := l) (r.w (fun a ha => by simp [up2, ha])) T (by omega) ⟨?_, ?_, ?_, ?_, fun q hq => ?_, fun j hj => ?_⟩ hl6 hb (fun t2 I2' r2 T2 s2 hu2 => ih (l + 1) t2 I2' (by omega) r2 T2 ⟨?_, ?_⟩ hu2)
      · rw [ew 0 (by omega) (by omega) (by omega) (by omega)]; exact u0
      · rw [ew 1 (by omega) (by omega) (by omega) (by omega)]; exact u1
      · rw [ew 3 (by omega) (by omega) (by omega) (by omega)]; exact u3
      · rw [ew 5 (by omega) (by omega) (by omega) (by omega)]; exact u5
      · rw [ew _ (by omega) (by omega) (by omega) (by omega), ew _ (by omega) (by omega) (by omega) (by omega)]; exact up q hq
      · by_cases e : j = l
        · subst e
          simp [up2, upd]
        · rw [ew _ (by omega) (by omega) (by omega) (by omega), ew _ (by omega) (by omega) (by omega) (by omega), ew _ (by omega) (by omega) (by omega) (by omega), ew _ (by omega) (by omega) (by omega) (by omega)]
          exact ul j (by omega)
      · rw [s2.1]; simp [up2]; exact s.1
      · rw [s2.2]; simp [up2]; exact s.2
    · exact absurd ((n_lt (by omega) (by omega)).mpr (by omega)) q
end LYW
