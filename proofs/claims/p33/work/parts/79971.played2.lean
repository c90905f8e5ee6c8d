/-! PLAYED, from its entry -/
section PLZ
variable {d : Nat} {V V' V0 : Bv} {K : Option Bv} {t : Tpe} {S : Nat → Shv} {I : I2} {J : J2} {F : Int32 → I2 → J2 → Prop} {m : Nat} {g : Gv}
set_option maxHeartbeats 16000000 in
theorem c_played_z (hd : 11 ≤ d) (hR : RS_z V0 (some V0) t S I J) (hw : W2_z V0.B I) (h0 : 0 < V0.B.pn) (h : ∀ I', RS_z V0 (some V0) t S I' J → F57_z I I' → F 1 I' J) : CI d Lw_played [.ref 0, .ref 57, .long (hsV_z V0)] I J F := by
  have hW := hR.1.1
  have hp5 := hW.1.1
  have hd8 : 8 ≤ d - 1 := by omega
  refine CI.of (by omega) rfl (v_Lw_played_0_57_0 (k_game_z hd8 hR _ (fun I1 r1 f1 hgg => ?_)))
  obtain ⟨g, hG, hb⟩ := hgg (by decide +kernel) (by omega)
  have hself : V0.s ∈ V0.T.ord := bfs_self
  have gv := fun (V : Bv) (hwV : WFV V) (hs : GS_z V0 V) => gv_01_z hW hwV hs h0 hG
  obtain ⟨q0, q1, q2⟩ := gv V0 hW (GS_z.rf hW)
  have hb0 := hb _ hself
  have e388 : ∀ (V : Bv) (x4 x5 x7 : Int32) I', RS_z V (some V0) t S I' J → F57_z I I' → CI (d - 1) Sb_restore [.ref 0] I' J (fun v1 I1 J1 => (v1 = 1 → Wp (d - 1) Lw_played (QI F) 388 [some (.ref 0), some (.ref 57), some (.long (hsV_z V0)), none, some (.int x4), some (.int x5), some (.int 1), some (.int x7), some (.long 0), none, some (.long 1), none, some (.int 0), none, none, none, none] [] I1 J1) ∧ (¬ (v1 = 1) → Wp (d - 1) Lw_played (QI F) 388 [some (.ref 0), some (.ref 57), some (.long (hsV_z V0)), none, some (.int x4), some (.int x5), some (.int 0), some (.int x7), some (.long 0), none, some (.long 1), none, some (.int 0), none, none, none, none] [] I1 J1)) := by
    intro V x4 x5 x7 I' r f
    exact k_restore_z hd8 r (fun I3 r3 f3 => ⟨fun _ => pl_388_z (by omega) hw h0 h 4 0 rfl I3 0 1 r3 (f.tr f3) (Or.inl ⟨rfl, rfl, rfl⟩) x4 x5 x7, fun q => absurd rfl q⟩)
  -- who wins does, slide by slide
  have l247 : ∀ k n V I', n + k = 20 → RS_z V (some V0) t S I' J → F57_z I I' → GS_z V0 V → ∀ x5 x7 : Int32, ((g V.s).1 ≠ 0 → x7 = nI (g V.s).2) → Wp (d - 1) Lw_played (QI F) 247 [some (.ref 0), some (.ref 57), some (.long (hsV_z V0)), none, some (.int (nI (g V.s).1)), some (.int x5), some (.int 1), some (.int x7), some (.int (nI n)), none, none, none, none, none, none, none, none] [] I' J := by
    intro k
    induction k with
    | zero =>
      intro n V I' hn r f hs x5 x7 hx
      refine v_Lw_played_0_57_247 ⟨fun q => ?_, fun _ => ⟨fun q => absurd q (by decide), fun _ => e388 V _ _ _ I' r f⟩⟩
      have := (n_lt (b := 20) (show n < 2 ^ 31 by omega) (by decide)).mp q; omega
    | succ k ih =>
      intro n V I' hn r f hs x5 x7 hx
      have hWV := r.1.1
      obtain ⟨p0, p1, p2⟩ := gv V hWV hs
      have hbV := hb _ hs.2.2
      refine v_Lw_played_0_57_247 ⟨fun _ => ⟨fun q => absurd q (by decide), fun _ => k_game_z hd8 r _ (fun I3 r3 f3 _ => ?_)⟩, fun q => absurd ((n_lt (b := 20) (show n < 2 ^ 31 by omega) (by decide)).mpr (by omega)) q⟩
      rw [p2]
      cases ho : openB V.B V.lid V.s with
      | true => rw [if_pos rfl]; exact ⟨fun _ => e388 V _ _ _ I3 r3 (f.tr f3), fun q => absurd (by decide +kernel) q⟩
      | false =>
        rw [if_neg (by decide)]
        cases em : fmP V.B V.f V.s (ltB g V.s) with
        | none => exact ⟨fun _ => e388 V _ _ _ I3 r3 (f.tr f3), fun q => absurd (by decide +kernel) q⟩
        | some m =>
          have hm := fmP_lt em
          have hp5' := hWV.1.1
          have hmv : mvP V.B V.f V.s (ltB g V.s) m = true := List.find?_some em
          have hsl : slN m < 2 ^ 20 := by unfold slN; omega
          refine ⟨fun q => absurd q (nI_pos (show slN m < 2 ^ 31 by omega)), fun _ => k_game_z hd8 r3 _ (fun I4 r4 f4 _ => ?_)⟩
          rw [p2, ho, if_neg (by decide), em]
          unfold mvP at hmv
          cases hx2 : nx V.B V.f V.s m with
          | none => rw [hx2] at hmv; cases hmv
          | some u =>
            rw [hx2] at hmv
            have hmv : ltB g V.s u = true := hmv
            obtain ⟨hmay, eu⟩ := nx_may_z hx2
            have hs' := hs.sld hW hm hmay
            have hbU := hb _ hs'.2.2
            refine k_sl10_z hd8 r4 hm (fun _ I5 r5 f5 => ⟨fun q => absurd q (nI_pos (by have := (sld_s_z hWV hm hmay).1; omega)), fun _ => ?_⟩) (fun q => by rw [hmay] at q; cases q)
            have f9 : F57_z I I5 := f.tr (f3.tr (f4.tr f5))
            obtain ⟨s0, s1, -⟩ := gv (sld_z V m) r5.1.1 hs'
            rw [eu] at hmv
            rw [n_e0 (show (g V.s).1 < 2 ^ 31 by omega)]
            unfold ltB at hmv
            refine ⟨fun z => k_game_z hd8 r5 _ (fun I6 r6 f6 _ => ?_), fun z => k_game_z hd8 r5 _ (fun I6 r6 f6 _ => ?_)⟩
            · rw [if_pos z, decide_eq_true_eq] at hmv
              rw [s0, hmv]
              refine ⟨fun _ => ?_, fun q => absurd rfl q⟩
              rw [n_inc]
              have := ih (n + 1) (sld_z V m) I6 (by omega) r6 (f9.tr f6) hs' x5 (x7 + (-1)) (fun q => absurd hmv q)
              rw [hmv] at this; exact this
            · rw [if_neg z, decide_eq_true_eq] at hmv
              obtain ⟨k1, k2, k3⟩ := hmv
              have e3 : (3 : Int32) - nI (g V.s).1 = nI (g (sld_z V m).s).1 := by
                rw [show (3 : Int32) - nI (g V.s).1 = nI (3 - (g V.s).1) from n_sub (a := 3) (by omega)]
                congr 1; omega
              rw [s0, e3]
              refine ⟨fun _ => ⟨fun q => absurd ((n_e0 (by omega)).mp q) k1, fun _ => k_game_z hd8 r6 _ (fun I7 r7 f7 _ => ?_)⟩, fun q => absurd rfl q⟩
              have e7 : x7 + (-1) = nI (g (sld_z V m).s).2 := by
                rw [hx z, n_dec2 (by omega)]; congr 1; omega
              rw [s1, e7]
              refine ⟨fun _ => ?_, fun q => absurd rfl q⟩
              rw [n_inc]
              exact ih (n + 1) (sld_z V m) I7 (by omega) r7 (f9.tr (f6.tr f7)) hs' x5 _ (fun _ => rfl)
  have at247 : ∀ I', RS_z V0 (some V0) t S I' J → F57_z I I' → Wp (d - 1) Lw_played (QI F) 247 [some (.ref 0), some (.ref 57), some (.long (hsV_z V0)), none, some (.int (nI (g V0.s).1)), some (.int (nI (g V0.s).2)), some (.int 1), some (.int (nI (g V0.s).2)), some (.int 0), none, none, none, none, none, none, none, none] [] I' J := fun I' r f => l247 20 0 V0 I' rfl r f (GS_z.rf hW) _ _ (fun _ => rfl)
  -- each slide that may be done
  have l83 : ∀ k n I', n + k = 2 * V0.B.pn → RS_z V0 (some V0) t S I' J → F57_z I I' → Wp (d - 1) Lw_played (QI F) 83 [some (.ref 0), some (.ref 57), some (.long (hsV_z V0)), none, some (.int (nI (g V0.s).1)), some (.int (nI (g V0.s).2)), some (.int 1), some (.int (nI n)), none, none, none, none, none, none, none, none, none] [] I' J := by
    intro k
    induction k with
    | zero =>
      intro n I' hn r f
      refine v_Lw_played_0_57_83 ⟨fun q => ?_, fun _ => at247 I' r f⟩
      rw [(hw.f f).1, i_2_z] at q; have := (n_lt (by omega) (by omega)).mp q; omega
    | succ k ih =>
      intro n I' hn r f
      have hm : n < 2 * V0.B.pn := by omega
      refine v_Lw_played_0_57_83 ⟨fun _ => ⟨fun q => absurd q (by decide), fun _ => k_count_z hd8 r _ ?_⟩, fun q => ?_⟩
      · rw [cnt_3_z, bI_0]
        refine ⟨fun ho => k_ofm_z hd8 r hm ⟨fun hmy => ?_, fun _ => ?_⟩, fun _ => at247 I' r f⟩
        · have hmy := bI_1.mp hmy
          refine k_sld_z hd8 r hm (fun _ I3 r3 f3 => ⟨fun q => absurd q (nI_pos (by have := (sld_s_z hW hm hmy).1; omega)), fun _ => k_game_z hd8 r3 _ (fun I4 r4 f4 _ => k_game_z hd8 r4 _ (fun I5 r5 f5 _ => ?_))⟩) (fun q => by rw [hmy] at q; cases q)
          have hs' : GS_z V0 (sld_z V0 n) := (GS_z.rf hW).sld hW hm hmy
          have f9 : F57_z I I5 := f.tr (f3.tr (f4.tr f5))
          obtain ⟨s0, s1, -⟩ := gv (sld_z V0 n) r5.1.1 hs'
          have hbU := hb _ hs'.2.2
          obtain ⟨z1, z2, z3, z4⟩ := g_step_z hG hself ho ⟨n, hm, nx_of_z hmy⟩
          rw [s0, s1]
          have ok219 : ∀ x8 x9 : Int32, Wp (d - 1) Lw_played (QI F) 219 [some (.ref 0), some (.ref 57), some (.long (hsV_z V0)), none, some (.int (nI (g V0.s).1)), some (.int (nI (g V0.s).2)), some (.int 1), some (.int (nI n)), some (.int x8), some (.int x9), none, none, none, none, none, none, none] [] I5 J := by
            intro x8 x9
            refine v_Lw_played_0_57_219 (k_restore_z hd8 r5 (fun I6 r6 f6 => ⟨fun _ => ?_, fun q => absurd rfl q⟩))
            rw [n_inc]; exact ih (n + 1) I6 (by omega) r6 (f9.tr f6)
          rw [show (nI (g V0.s).1 = 1) = ((g V0.s).1 = 1) from propext (n_eq (b := 1) (by omega) (by decide)), show (nI (g V0.s).1 = 2) = ((g V0.s).1 = 2) from propext (n_eq (b := 2) (by omega) (by decide)), show (nI (g (sld_z V0 n).s).1 = 2) = ((g (sld_z V0 n).s).1 = 2) from propext (n_eq (b := 2) (by omega) (by decide)), show (nI (g (sld_z V0 n).s).1 = 1) = ((g (sld_z V0 n).s).1 = 1) from propext (n_eq (b := 1) (by omega) (by decide))]
          refine ⟨fun w1 => ⟨fun y => ⟨fun q => ?_, fun _ => ok219 _ _⟩, fun _ => ok219 _ _⟩, fun w1 => ⟨fun w2 => ⟨fun _ => ⟨fun q => ?_, fun _ => ok219 _ _⟩, fun y => absurd (z3 w2).1 y⟩, fun w2 => ⟨fun y => absurd y (z4 (by omega)), fun _ => ok219 _ _⟩⟩⟩
          · have a1 := z1 w1 y
            have a2 := z2 w1
            rw [show nI (g V0.s).2 - 1 = nI ((g V0.s).2 - 1) from n_dec (by omega), n_lt (by omega) (by omega)] at q
            omega
          · have a3 := (z3 w2).2
            rw [show nI (g V0.s).2 - 1 = nI ((g V0.s).2 - 1) from n_dec (by omega), n_lt (by omega) (by omega)] at q
            omega
        · rw [n_inc]; exact ih (n + 1) I' (by omega) r f
      · rw [(hw.f f).1, i_2_z] at q; exact absurd ((n_lt (by omega) (by omega)).mpr (by omega)) q
  have at83 : ∀ I', RS_z V0 (some V0) t S I' J → F57_z I I' → Wp (d - 1) Lw_played (QI F) 83 [some (.ref 0), some (.ref 57), some (.long (hsV_z V0)), none, some (.int (nI (g V0.s).1)), some (.int (nI (g V0.s).2)), some (.int 1), some (.int 0), none, none, none, none, none, none, none, none, none] [] I' J := fun I' r f => l83 (2 * V0.B.pn) 0 I' (Nat.zero_add _) r f
  rw [q0]
  refine k_game_z hd8 r1 _ (fun I3 r3 f3 _ => ?_)
  rw [q1]
  have f9 : F57_z I I3 := f1.tr f3
  have hz := GC_z hG hself
  -- ended: told so
  have at52 : trm V0.B V0.lid V0.f V0.s → Wp (d - 1) Lw_played (QI F) 52 [some (.ref 0), some (.ref 57), some (.long (hsV_z V0)), none, some (.int (nI (g V0.s).1)), some (.int (nI (g V0.s).2)), none, none, none, none, none, none, none, none, none, none, none] [] I3 J := by
    intro ht
    have eg := (hG _ hself).1 ht
    have go := at83
    rw [eg] at go ⊢
    refine v_Lw_played_0_57_52 ⟨fun _ => ⟨fun _ => k_game_z hd8 r3 _ (fun I4 r4 f4 _ => ?_), fun q => absurd rfl q⟩, fun q => absurd rfl q⟩
    rw [q2]
    have e4 : (if openB V0.B V0.lid V0.s then (-4 : Int32) else optI ((fmP V0.B V0.f V0.s (ltB g V0.s)).map slN) (-4)) = -4 := by
      rcases ht with z | z
      · rw [z]; rfl
      · rw [fmP_none z]; split <;> rfl
    rw [e4]
    exact ⟨fun _ => go I4 r4 (f9.tr f4), fun q => absurd rfl q⟩
  have main : CI (d - 1) Sb_count [.ref 0, .int 3] I3 J (fun v3 I1 J1 => (v3 = 0 → CI (d - 1) Sb_count [.ref 0, .int 6] I1 J1 (fun v4 I4 J4 => (0 < v4 → Wp (d - 1) Lw_played (QI F) 83 [some (.ref 0), some (.ref 57), some (.long (hsV_z V0)), none, some (.int (nI (g V0.s).1)), some (.int (nI (g V0.s).2)), some (.int 1), some (.int 0), none, none, none, none, none, none, none, none, none] [] I4 J4) ∧ (¬ (0 < v4) → Wp (d - 1) Lw_played (QI F) 52 [some (.ref 0), some (.ref 57), some (.long (hsV_z V0)), none, some (.int (nI (g V0.s).1)), some (.int (nI (g V0.s).2)), none, none, none, none, none, none, none, none, none, none, none] [] I4 J4))) ∧ (¬ (v3 = 0) → Wp (d - 1) Lw_played (QI F) 52 [some (.ref 0), some (.ref 57), some (.long (hsV_z V0)), none, some (.int (nI (g V0.s).1)), some (.int (nI (g V0.s).2)), none, none, none, none, none, none, none, none, none, none, none] [] I1 J1)) := by
    refine k_count_z hd8 r3 _ ?_
    rw [cnt_3_z, bI_0]
    refine ⟨fun ho => k_count_z hd8 r3 _ ?_, fun ho => at52 (Or.inl (by simpa using ho))⟩
    rw [cnt_6_z, n_p0 (by have := cntM_le (B := V0.B) (s := V0.s) (f := V0.f) (m := 2 * V0.B.pn); omega)]
    refine ⟨fun _ => at83 I3 r3 f9, fun hc => at52 (Or.inr (fun m hm => ?_))⟩
    rw [nx_none_z]
    cases e : mayB V0.B V0.s V0.f (m / 2) (m % 2) with
    | false => rfl
    | true => exact absurd ((cntM_pos_z _).mpr ⟨m, hm, e⟩) hc
  rw [show (nI (g V0.s).1 < 3) = ((g V0.s).1 < 3) from propext (n_lt (b := 3) (by omega) (by decide)), n_p0 (by omega), n_e0 (show (g V0.s).2 < 2 ^ 31 by omega)]
  exact ⟨fun q => absurd q (nI_pos (by omega)), fun _ => ⟨fun _ => ⟨fun _ => main, fun q => ⟨fun _ => main, fun q2 => absurd (hz.1 (by omega)) q2⟩⟩, fun q => absurd (by omega) q⟩⟩
end PLZ
