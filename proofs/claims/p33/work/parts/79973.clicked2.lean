/-! CLICKED, FLIPPED: walked -/
section CKW
variable {d : Nat} {V V' V0 : Bv} {K : Option Bv} {t : Tpe} {S : Nat → Shv} {I : I2} {J : J2} {F : Int32 → I2 → J2 → Prop}
theorem sl_i_z {m : Nat} (hm : m < 10) : Int32.toInt64 ((10 * (nI m / 2)) + (rmI (nI m) 2)) = lN (slN m) := by
  rw [(mv_2_z (m := m) (by omega)).1, (mv_2_z (m := m) (by omega)).2, show (10 : Int32) * nI (m / 2) = nI (10 * (m / 2)) from pk_mul 10 _, nI_add, nI_l (by omega)]
  rfl
theorem i_21_z (k : Nat) : (2 * nI k) + 1 = nI (2 * k + 1) := by rw [i_2_z]; exact nI_add _ 1
set_option maxHeartbeats 8000000 in
theorem c_flipped_z {a : Nat} {g : Nat → Int64} (hd : 9 ≤ d) (hR : RS_z V0 (some V0) t S I J) (hw : W2_z V0.B I) (hSc : Scr_z I) (h0 : 0 < V0.B.pn) (hS : S 3 = some (1, 16, g)) (ha : a < celN_z I 13 % 8 + 1) (h : ∀ I' J', RS_z V0 (some V0) t (updS S 3 (some (1, 16, vp_updL g (2 * a + 1) (lN (!ckD_z V0.B V0.f (mkN_z (celN_z I 13) V0.B.pn) V0.s a).toNat)))) I' J' → F57_z I I' → F 1 I' J') : CI d Lw_flipped [.ref 0, .ref 100, .ref 57, .int (nI a)] I J F := by
  have hp5 := hR.1.1.1.1
  have hd8 : 8 ≤ d - 1 := by omega
  obtain ⟨c1, c2⟩ := celN_ok_z I 13
  have l22 : ∀ k n V I' (x : Int32), n + k = celN_z I 13 % 8 + 1 → RS_z V (some V0) t S I' J → F57_z I I' → V.B = V0.B → V.f = V0.f → V.s = ckS_z V0.B V0.f (mkN_z (celN_z I 13) V0.B.pn) V0.s n → (a < n → x = nI (ckD_z V0.B V0.f (mkN_z (celN_z I 13) V0.B.pn) V0.s a).toNat) → Wp (d - 1) Lw_flipped (QI F) 22 [some (.ref 0), some (.ref 100), some (.ref 57), some (.int (nI a)), some (.int 1), some (.int (nI (celN_z I 13 % 8 + 1))), some (.int x), some (.int (nI n)), none, none] [] I' J := by
    intro k
    induction k with
    | zero =>
      intro n V I' x hn r f e1 e2 e3 hx
      have hx := hx (by omega)
      refine v_Lw_flipped_0_100_57_22 ⟨fun q => ?_, fun _ => k_restore_z hd8 r (fun I3 r3 f3 => ⟨fun _ => ?_, fun q => absurd rfl q⟩)⟩
      · have := (n_lt (by omega) (by omega)).mp q; omega
      · rw [hx, i_21_z, show Int32.toInt64 (1 - nI (ckD_z V0.B V0.f (mkN_z (celN_z I 13) V0.B.pn) V0.s a).toNat) = lN (!ckD_z V0.B V0.f (mkN_z (celN_z I 13) V0.B.pn) V0.s a).toNat from by cases ckD_z V0.B V0.f (mkN_z (celN_z I 13) V0.B.pn) V0.s a <;> decide +kernel]
        refine k_item_z hd8 r3 _ _ _ _ (fun I4 J4 r4 f4 => ?_)
        rw [show itemF S 3 1 (nI (2 * a + 1)) (lN (!ckD_z V0.B V0.f (mkN_z (celN_z I 13) V0.B.pn) V0.s a).toNat) = _ from itemF_1_z (x := 3) (y := 1) (by decide) (by decide) hS (show 2 * a + 1 < 16 by omega) (by decide), narL_64_z _ (by cases ckD_z V0.B V0.f (mkN_z (celN_z I 13) V0.B.pn) V0.s a <;> decide)] at r4 ⊢
        exact ⟨fun _ => QI_i.mpr (h I4 J4 r4 (f.tr (f3.tr f4))), fun q => absurd rfl q⟩
    | succ k ih =>
      intro n V I' x hn r f e1 e2 e3 hx
      have hm := mkN_lt_z (c := celN_z I 13) (k := n) h0
      have nxt : ∀ (V' : Bv) (I3 : I2) (x' : Int32), RS_z V' (some V0) t S I3 J → F57_z I I3 → V'.B = V0.B → V'.f = V0.f → V'.s = ckS_z V0.B V0.f (mkN_z (celN_z I 13) V0.B.pn) V0.s (n + 1) → (a < n + 1 → x' = nI (ckD_z V0.B V0.f (mkN_z (celN_z I 13) V0.B.pn) V0.s a).toNat) → Wp (d - 1) Lw_flipped (QI F) 22 [some (.ref 0), some (.ref 100), some (.ref 57), some (.int (nI a)), some (.int 1), some (.int (nI (celN_z I 13 % 8 + 1))), some (.int x'), some (.int (nI n + 1)), none, none] [] I3 J := by
        intro V' I3 x' r3 f3 k1 k2 k3 k4
        rw [n_inc]; exact ih (n + 1) V' I3 x' (by omega) r3 f3 k1 k2 k3 k4
      refine v_Lw_flipped_0_100_57_22 ⟨fun _ => ⟨fun q => absurd q (by decide), fun _ => c_cell_z (k := 13) (by omega) (hSc.fr f) (by decide) ?_⟩, fun q => absurd ((n_lt (by omega) (by omega)).mpr (by omega)) q⟩
      rw [cel_57_z f, c1, (hw.f f).1, mk_e_z c2 (by omega) h0 hp5]
      refine ⟨by rw [i_2_z, n_e0 (by omega)]; omega, k_sld_z hd8 r (by rw [e1]; exact hm) (fun hmay I3 r3 f3 => ?_) (fun hmay I3 r3 f3 => ?_)⟩
      · rw [e1, e2, e3] at hmay
        have k3 : (sld_z V (mkN_z (celN_z I 13) V0.B.pn n)).s = ckS_z V0.B V0.f (mkN_z (celN_z I 13) V0.B.pn) V0.s (n + 1) := by
          simp only [ckS_z]; rw [if_pos hmay]
          show behB V.B V.s _ _ V.B.pn = _
          rw [e1, e3]
        have hs := (sld_s_z (m := mkN_z (celN_z I 13) V0.B.pn n) r.1.1 (by rw [e1]; exact hm) (by rw [e1, e2, e3]; exact hmay)).1
        rw [n_eq (show n < 2 ^ 31 by omega) (show a < 2 ^ 31 by omega)]
        refine ⟨fun ea => ⟨fun q => absurd q (nI_pos (by omega)), fun _ => nxt _ I3 1 r3 (f.tr f3) e1 e2 k3 (fun _ => ?_)⟩, fun ea => nxt _ I3 x r3 (f.tr f3) e1 e2 k3 (fun q => hx (by omega))⟩
        rw [← ea, show ckD_z V0.B V0.f (mkN_z (celN_z I 13) V0.B.pn) V0.s n = true from hmay]; rfl
      · rw [e1, e2, e3] at hmay
        have k3 : V.s = ckS_z V0.B V0.f (mkN_z (celN_z I 13) V0.B.pn) V0.s (n + 1) := by
          simp only [ckS_z]; rw [if_neg (by rw [hmay]; decide), e3]
        rw [n_eq (show n < 2 ^ 31 by omega) (show a < 2 ^ 31 by omega)]
        refine ⟨fun ea => ⟨fun _ => nxt V I3 0 r3 (f.tr f3) e1 e2 k3 (fun _ => ?_), fun q => absurd (by decide +kernel) q⟩, fun ea => nxt V I3 x r3 (f.tr f3) e1 e2 k3 (fun q => hx (by omega))⟩
        rw [← ea, show ckD_z V0.B V0.f (mkN_z (celN_z I 13) V0.B.pn) V0.s n = false from hmay]; rfl
  refine CI.of (by omega) rfl (v_Lw_flipped_0_100_57_0 (c_cell_z (k := 13) (by omega) hSc (by decide) ?_))
  rw [c1, show rmI (nI (celN_z I 13)) 8 = nI (celN_z I 13 % 8) from n_rm (k := 8) c2 (by decide) (by decide), show (1 : Int32) + nI (celN_z I 13 % 8) = nI (celN_z I 13 % 8 + 1) from by rw [Nat.add_comm]; exact nI_add 1 _]
  exact l22 (celN_z I 13 % 8 + 1) 0 V0 I 0 (Nat.zero_add _) hR F57_z.rf rfl rfl rfl (fun q => absurd q (Nat.not_lt_zero a))
set_option maxHeartbeats 16000000 in
theorem c_clicked_z (hd : 10 ≤ d) (hR : RS_z V0 (some V0) t S I J) (hw : W2_z V0.B I) (hSc : Scr_z I) (h0 : 0 < V0.B.pn) (h : ∀ S' I' J', RS_z V0 (some V0) t S' I' J' → F57_z I I' → F 1 I' J') : CI d Lw_clicked [.ref 0, .ref 100, .ref 57, .long (hsV_z V0)] I J F := by
  have hW := hR.1.1
  have hp5 := hW.1.1
  have hl6 := hW.1.2.1
  have hd8 : 8 ≤ d - 1 := by omega
  obtain ⟨c1, c2⟩ := celN_ok_z I 13
  obtain ⟨q1, q2⟩ := celN_ok_z I 15
  have hmm : ∀ k, mkN_z (celN_z I 13) V0.B.pn k < 10 := fun k => by have := mkN_lt_z (c := celN_z I 13) (k := k) h0; omega
  have at216 : ∀ S' J' g, S' 3 = some (1, 16, g) → ckG_z V0.B V0.f (mkN_z (celN_z I 13) V0.B.pn) V0.s g (celN_z I 13 % 8 + 1) → ∀ k p I', p + k = V0.B.pn → RS_z V0 (some V0) t S' I' J' → F57_z I I' → Wp (d - 1) Lw_clicked (QI F) 216 [some (.ref 0), some (.ref 100), some (.ref 57), some (.long (hsV_z V0)), none, some (.int (nI (celN_z I 13 % 8 + 1))), some (.int 1), some (.int (nI p)), none, none] [] I' J' := by
    intro S' J' g hS hg k
    have hyes : ∀ n, n ≤ celN_z I 13 % 8 + 1 → clkN V0.B V0.f g 0 n 0 V0.s = true := fun n hn => clk_yes_z (n := n) (m := mkN_z (celN_z I 13) V0.B.pn) hmm (fun j hj => hg j (by omega)) n 0 (Nat.zero_add _)
    have hok : ∀ n, n ≤ celN_z I 13 % 8 + 1 → clkO g 0 V0.B.pn n = true := fun n hn => clkO_yes_z hp5 n (fun j hj => ⟨_, _, mkN_lt_z h0, (hg j (by omega)).1, (hg j (by omega)).2⟩)
    induction k with
    | zero =>
      intro p I' hp r f
      refine v_Lw_clicked_0_100_57_216 ⟨fun q => ?_, fun _ => c_cell_z (k := 15) (by omega) (hSc.fr f) (by decide) ?_⟩
      · rw [(hw.f f).1] at q; have := (n_lt (by omega) (by omega)).mp q; omega
      rw [cel_57_z f, q1, show nI (celN_z I 15) &&& 7 = nI (celN_z I 15 % 8) from pk_andN (by omega) 3 (by decide +kernel), n_rm (by omega) (by omega) (by omega)]
      refine ⟨by rw [n_e0 (by omega)]; omega, fun q => absurd q (by decide), fun _ => ?_⟩
      have hat : celN_z I 15 % 8 % (celN_z I 13 % 8 + 1) < celN_z I 13 % 8 + 1 := Nat.mod_lt _ (by omega)
      have e13 : celN_z I' 13 = celN_z I 13 := by unfold celN_z; rw [cel_57_z f]
      generalize celN_z I 15 % 8 % (celN_z I 13 % 8 + 1) = a at hat
      refine c_flipped_z (by omega) r (hw.f f) (hSc.fr f) h0 hS (by rw [e13]; exact hat) (fun I3 J3 r3 f3 => ⟨fun q => absurd q (by decide), fun _ => k_clicks_z hd8 r3 _ _ _ _ _ (fun I4 r4 f4 => ?_)⟩)
      rw [e13] at r4
      have f9 : F57_z I I4 := f.tr (f3.tr f4)
      have hS3 : updS S' 3 (some (1, 16, vp_updL g (2 * a + 1) (lN (!ckD_z V0.B V0.f (mkN_z (celN_z I 13) V0.B.pn) V0.s a).toNat))) 3 = some (1, 16, vp_updL g (2 * a + 1) (lN (!ckD_z V0.B V0.f (mkN_z (celN_z I 13) V0.B.pn) V0.s a).toNat)) := updS_s_z
      have hno := clk_no_z (g' := vp_updL g (2 * a + 1) (lN (!ckD_z V0.B V0.f (mkN_z (celN_z I 13) V0.B.pn) V0.s a).toNat)) hmm hg hat (fun j hj => pk_uLn hj) pk_uLs (celN_z I 13 % 8 + 1) 0 (Nat.zero_add _) (Nat.zero_le _)
      have hok3 : clkO (vp_updL g (2 * a + 1) (lN (!ckD_z V0.B V0.f (mkN_z (celN_z I 13) V0.B.pn) V0.s a).toNat)) 0 V0.B.pn (celN_z I 13 % 8 + 1) = true := clkO_yes_z hp5 _ (fun j hj => by
        refine ⟨mkN_z (celN_z I 13) V0.B.pn j, if j = a then !ckD_z V0.B V0.f (mkN_z (celN_z I 13) V0.B.pn) V0.s a else ckD_z V0.B V0.f (mkN_z (celN_z I 13) V0.B.pn) V0.s j, mkN_lt_z h0, ?_, ?_⟩
        · rw [pk_uLn (by omega)]; exact (hg j hj).1
        · by_cases e : j = a
          · subst e; rw [if_pos rfl, pk_uLs]
          · rw [if_neg e, pk_uLn (by omega)]; exact (hg j hj).2)
      rw [e13, (clicksF_1_z hW hS3 (by omega) (by omega) hok3).1]
      refine ⟨fun _ => k_drop_z hd8 r4 _ (fun I5 J5 r5 f5 => ?_), fun q => absurd ?_ q⟩
      · rw [show dropF (updS S' 3 (some (1, 16, vp_updL g (2 * a + 1) (lN (!ckD_z V0.B V0.f (mkN_z (celN_z I 13) V0.B.pn) V0.s a).toNat)))) 3 = (nI 16, _) from dropF_1_z (x := 3) (by decide) hS3] at r5 ⊢
        exact ⟨fun _ => c_hash_z (by omega) r5 (hw.f (f9.tr f5)).1 ⟨fun _ => QI_i.mpr (h _ I5 J5 r5 (f9.tr f5)), fun q => absurd cmp_self_z q⟩, fun q => absurd rfl q⟩
      · show nI _ &&& nI 64 = nI 0
        rw [n_and, lk_no_z hl6 hno]
    | succ k ih =>
      intro p I' hp r f
      have hp2 : p < V0.B.pn := by omega
      obtain ⟨b1, b2, b3⟩ := hW.1.2.2.1 p hp2
      refine v_Lw_clicked_0_100_57_216 ⟨fun _ => ⟨fun q => absurd q (by decide), fun _ => k_clicks_z hd8 r _ _ _ _ _ (fun I3 r3 f3 => k_of_z hd8 r3 _ _ ?_)⟩, fun q => ?_⟩
      · rw [(clicksF_1_z hW hS (by omega) (by omega) (hok _ (Nat.le_refl _))).2 p hp2, of_0_z hW hp2]
        have hkl := kd_lt_z (V := V0) (g := g) (i := 0) (n := celN_z I 13 % 8 + 1) (x := p)
        have nxt : ∀ I4, RS_z V0 (some V0) t S' I4 J' → F57_z I I4 → Wp (d - 1) Lw_clicked (QI F) 216 [some (.ref 0), some (.ref 100), some (.ref 57), some (.long (hsV_z V0)), none, some (.int (nI (celN_z I 13 % 8 + 1))), some (.int 1), some (.int (nI p + 1)), none, none] [] I4 J' := fun I4 r4 f4 => by
          rw [n_inc]; exact ih (p + 1) I4 (by omega) r4 f4
        rw [n_sr (by omega) (by omega), n_and1 (Nat.lt_of_le_of_lt (Nat.div_le_self _ _) (by omega)), kd_own_z (by omega) (hyes _ (Nat.le_refl _)), show (nI (kdS V0 g 0 (celN_z I 13 % 8 + 1) p 5) < 32) = (kdS V0 g 0 (celN_z I 13 % 8 + 1) p 5 < 32) from propext (n_lt (b := 32) (by omega) (by decide)), show (nI (celN_z I 13 % 8 + 1) = 1) = (celN_z I 13 % 8 + 1 = 1) from propext (n_eq (b := 1) (by omega) (by decide))]
        refine ⟨fun _ => ⟨fun _ => ⟨fun _ => nxt I3 r3 (f.tr f3), fun e1 => ?_⟩, fun q => absurd hkl q⟩, fun q => absurd rfl q⟩
        rw [show nI (celN_z I 13 % 8 + 1) - 1 = nI (celN_z I 13 % 8) from nI_pred _]
        refine k_clicks_z hd8 r3 _ _ _ _ _ (fun I4 r4 f4 => ?_)
        rw [(clicksF_1_z hW hS (by omega) (by omega) (hok _ (by omega))).2 p hp2, n_and, kd_sub_z]
        exact ⟨fun _ => nxt I4 r4 (f.tr (f3.tr f4)), fun q => absurd rfl q⟩
      · rw [(hw.f f).1] at q; exact absurd ((n_lt (by omega) (by omega)).mpr (by omega)) q
  have l36 : ∀ k n V S' I' J' g, n + k = celN_z I 13 % 8 + 1 → RS_z V (some V0) t S' I' J' → F57_z I I' → V.B = V0.B → V.f = V0.f → V.s = ckS_z V0.B V0.f (mkN_z (celN_z I 13) V0.B.pn) V0.s n → S' 3 = some (1, 16, g) → ckG_z V0.B V0.f (mkN_z (celN_z I 13) V0.B.pn) V0.s g n → Wp (d - 1) Lw_clicked (QI F) 36 [some (.ref 0), some (.ref 100), some (.ref 57), some (.long (hsV_z V0)), none, some (.int (nI (celN_z I 13 % 8 + 1))), some (.int 1), some (.int (nI n)), none, none] [] I' J' := by
    intro k
    induction k with
    | zero =>
      intro n V S' I' J' g hn r f e1 e2 e3 hS hg
      have en : n = celN_z I 13 % 8 + 1 := by omega
      rw [en] at hg
      have hy := clk_yes_z (n := celN_z I 13 % 8 + 1) hmm hg (celN_z I 13 % 8 + 1) 0 (Nat.zero_add _)
      have hok : clkO g 0 V0.B.pn (celN_z I 13 % 8 + 1) = true := clkO_yes_z hp5 _ (fun j hj => ⟨_, _, mkN_lt_z h0, (hg j hj).1, (hg j hj).2⟩)
      refine v_Lw_clicked_0_100_57_36 ⟨fun q => ?_, fun _ => ⟨fun q => absurd q (by decide), fun _ => k_restore_z hd8 r (fun I3 r3 f3 => ⟨fun _ => k_clicks_z hd8 r3 _ _ _ _ _ (fun I4 r4 f4 => ?_), fun q => absurd rfl q⟩)⟩⟩
      · have := (n_lt (by omega) (by omega)).mp q; omega
      rw [(clicksF_1_z hW hS (by omega) (by omega) hok).1]
      obtain ⟨z1, z2, z3⟩ := lk_yes_z (V := V0) (l := V0.B.ln) hl6 hy
      refine ⟨fun _ => k_clicks_z hd8 r4 _ _ _ _ _ (fun I5 r5 f5 => ?_), fun q => absurd ?_ q⟩
      · have f9 : F57_z I I5 := f.tr (f3.tr (f4.tr f5))
        have hP : 2 ^ V0.B.ln ≤ 2 ^ 6 := Nat.pow_le_pow_right (by decide) hl6
        rw [(clicksF_1_z hW hS (by omega) (by omega) hok).1, (hw.f f9).2, n_one (by omega), show (64 : Int32) + nI (2 ^ V0.B.ln) = nI (64 + 2 ^ V0.B.ln) from nI_add 64 _, n_lt (by omega) (by omega)]
        exact ⟨fun _ => at216 S' J' g hS hg V0.B.pn 0 I5 (Nat.zero_add _) r5 f9, fun q => absurd z2 q⟩
      · show nI _ &&& nI 64 = nI 64
        rw [n_and, z1]
    | succ k ih =>
      intro n V S' I' J' g hn r f e1 e2 e3 hS hg
      have hm := mkN_lt_z (c := celN_z I 13) (k := n) h0
      have hm10 := hmm n
      refine v_Lw_clicked_0_100_57_36 ⟨fun _ => ⟨fun q => absurd q (by decide), fun _ => c_cell_z (k := 13) (by omega) (hSc.fr f) (by decide) ?_⟩, fun q => absurd ((n_lt (by omega) (by omega)).mpr (by omega)) q⟩
      rw [cel_57_z f, c1, (hw.f f).1, mk_e_z c2 (by omega) h0 hp5, sl_i_z hm10, i_21_z, i_2_z, i_2_z]
      have hsl : slN (mkN_z (celN_z I 13) V0.B.pn n) < 64 := by unfold slN; omega
      have it1 := itemF_1_z (S := S') (x := 3) (y := 1) (v := lN (slN (mkN_z (celN_z I 13) V0.B.pn n))) (by decide) (by decide) hS (show 2 * n < 16 by omega) (by decide)
      rw [narL_64_z _ hsl] at it1
      have it2 : ∀ b : Bool, itemF (updS S' 3 (some (1, 16, vp_updL g (2 * n) (lN (slN (mkN_z (celN_z I 13) V0.B.pn n)))))) (nI 3) (nI 1) (nI (2 * n + 1)) (lN b.toNat) = (1, updS (updS S' 3 (some (1, 16, vp_updL g (2 * n) (lN (slN (mkN_z (celN_z I 13) V0.B.pn n)))))) 3 (some (1, 16, vp_updL (vp_updL g (2 * n) (lN (slN (mkN_z (celN_z I 13) V0.B.pn n)))) (2 * n + 1) (lN b.toNat)))) := fun b => by
        have := itemF_1_z (S := updS S' 3 (some (1, 16, vp_updL g (2 * n) (lN (slN (mkN_z (celN_z I 13) V0.B.pn n)))))) (x := 3) (y := 1) (v := lN b.toNat) (by decide) (by decide) updS_s_z (show 2 * n + 1 < 16 by omega) (by decide)
        rw [narL_64_z _ (by cases b <;> decide)] at this; exact this
      have nxt : ∀ (V' : Bv) (b : Bool) (I5 : I2) (J5 : J2), RS_z V' (some V0) t (updS (updS S' 3 (some (1, 16, vp_updL g (2 * n) (lN (slN (mkN_z (celN_z I 13) V0.B.pn n)))))) 3 (some (1, 16, vp_updL (vp_updL g (2 * n) (lN (slN (mkN_z (celN_z I 13) V0.B.pn n)))) (2 * n + 1) (lN b.toNat)))) I5 J5 → F57_z I I5 → V'.B = V0.B → V'.f = V0.f → V'.s = ckS_z V0.B V0.f (mkN_z (celN_z I 13) V0.B.pn) V0.s (n + 1) → b = ckD_z V0.B V0.f (mkN_z (celN_z I 13) V0.B.pn) V0.s n → Wp (d - 1) Lw_clicked (QI F) 36 [some (.ref 0), some (.ref 100), some (.ref 57), some (.long (hsV_z V0)), none, some (.int (nI (celN_z I 13 % 8 + 1))), some (.int 1), some (.int (nI n + 1)), none, none] [] I5 J5 := by
        intro V' b I5 J5 r5 f5 k1 k2 k3 k4
        rw [n_inc]
        refine ih (n + 1) V' _ I5 J5 (vp_updL (vp_updL g (2 * n) (lN (slN (mkN_z (celN_z I 13) V0.B.pn n)))) (2 * n + 1) (lN b.toNat)) (by omega) r5 f5 k1 k2 k3 updS_s_z (fun j hj => ?_)
        by_cases e : j = n
        · subst e
          rw [pk_uLn (by omega), pk_uLs, pk_uLs, k4]; exact ⟨rfl, rfl⟩
        · rw [pk_uLn (by omega), pk_uLn (by omega), pk_uLn (by omega), pk_uLn (by omega)]; exact hg j (by omega)
      refine ⟨by rw [n_e0 (by omega)]; omega, k_sld_z hd8 r (by rw [e1]; exact hm) (fun hmay I3 r3 f3 => ?_) (fun hmay I3 r3 f3 => ?_)⟩
      · rw [e1, e2, e3] at hmay
        have k3 : (sld_z V (mkN_z (celN_z I 13) V0.B.pn n)).s = ckS_z V0.B V0.f (mkN_z (celN_z I 13) V0.B.pn) V0.s (n + 1) := by
          simp only [ckS_z]; rw [if_pos hmay]
          show behB V.B V.s _ _ V.B.pn = _
          rw [e1, e3]
        have hs := (sld_s_z (m := mkN_z (celN_z I 13) V0.B.pn n) r.1.1 (by rw [e1]; exact hm) (by rw [e1, e2, e3]; exact hmay)).1
        refine k_item_z hd8 r3 _ _ _ _ (fun I4 J4 r4 f4 => ?_)
        rw [show itemF S' 3 1 (nI (2 * n)) (lN (slN (mkN_z (celN_z I 13) V0.B.pn n))) = _ from it1] at r4 ⊢
        refine ⟨fun _ => ⟨fun q => absurd q (nI_pos (by omega)), fun _ => k_item_z hd8 r4 _ _ _ _ (fun I5 J5 r5 f5 => ?_)⟩, fun q => absurd rfl q⟩
        rw [show itemF (updS S' 3 (some (1, 16, vp_updL g (2 * n) (lN (slN (mkN_z (celN_z I 13) V0.B.pn n)))))) 3 1 (nI (2 * n + 1)) 1 = _ from it2 true] at r5 ⊢
        exact ⟨fun _ => nxt _ true I5 J5 r5 (f.tr (f3.tr (f4.tr f5))) e1 e2 k3 hmay.symm, fun q => absurd rfl q⟩
      · rw [e1, e2, e3] at hmay
        have k3 : V.s = ckS_z V0.B V0.f (mkN_z (celN_z I 13) V0.B.pn) V0.s (n + 1) := by
          simp only [ckS_z]; rw [if_neg (by rw [hmay]; decide), e3]
        refine k_item_z hd8 r3 _ _ _ _ (fun I4 J4 r4 f4 => ?_)
        rw [show itemF S' 3 1 (nI (2 * n)) (lN (slN (mkN_z (celN_z I 13) V0.B.pn n))) = _ from it1] at r4 ⊢
        refine ⟨fun _ => ⟨fun _ => k_item_z hd8 r4 _ _ _ _ (fun I5 J5 r5 f5 => ?_), fun q => absurd (by decide +kernel) q⟩, fun q => absurd rfl q⟩
        rw [show itemF (updS S' 3 (some (1, 16, vp_updL g (2 * n) (lN (slN (mkN_z (celN_z I 13) V0.B.pn n)))))) 3 1 (nI (2 * n + 1)) 0 = _ from it2 false] at r5 ⊢
        exact ⟨fun _ => nxt _ false I5 J5 r5 (f.tr (f3.tr (f4.tr f5))) e1 e2 k3 hmay.symm, fun q => absurd rfl q⟩
  refine CI.of (by omega) rfl (v_Lw_clicked_0_100_57_0 (c_cell_z (k := 13) (by omega) hSc (by decide) (k_sheet_z hd8 hR _ _ _ (fun I1 J1 r1 f1 => ?_))))
  rw [show sheetF S 3 1 16 = _ from sheetF_1_z (x := 3) (y := 1) (n := 16) (by decide) (by decide) (by decide)] at r1 ⊢
  rw [c1, show rmI (nI (celN_z I 13)) 8 = nI (celN_z I 13 % 8) from n_rm (k := 8) c2 (by decide) (by decide), show (1 : Int32) + nI (celN_z I 13 % 8) = nI (celN_z I 13 % 8 + 1) from by rw [Nat.add_comm]; exact nI_add 1 _]
  exact ⟨fun _ => l36 (celN_z I 13 % 8 + 1) 0 V0 (updS S 3 (some (1, 16, fun _ => 0))) I1 J1 (fun _ => 0) (Nat.zero_add _) r1 f1 rfl rfl rfl updS_s_z (fun j hj => absurd hj (Nat.not_lt_zero j)), fun q => absurd rfl q⟩
end CKW
