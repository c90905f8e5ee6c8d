/-! MOVES; MOVED -/
section MVS
variable {d : Nat} {V V0 : Bv} {K : Option Bv} {t : Tpe} {S : Nat → Shv} {I : I2} {J : J2} {F : Int32 → I2 → J2 → Prop} {m : Nat}
theorem RS_z.lo {I' : I2} (hR : RS_z V K t S I J) (h : ∀ a, a < 57 → I' a = I a) : RS_z V K t S I' J := ⟨hR.1, by
  obtain ⟨a1, a2, a3, a4, a5, a6⟩ := hR.2
  exact ⟨CBx_cg a1 (fun a _ x => h a (by omega)), CaR_cg a2 (by rw [h 1 (by decide)]) (fun a _ x => h a (by omega)), by rw [h 0 (by decide)]; exact a3, fun VK q => CBx_cg (a4 VK q) (fun a _ x => h a (by omega)), TpC_cg a5 (by rw [h 31 (by decide)]) (h 32 (by decide)), ShCs_cg a6 (fun a _ x => ⟨h a (by omega), rfl⟩)⟩⟩
theorem mv_2_z {m : Nat} (hm : m < 2 ^ 20) : nI m / 2 = nI (m / 2) ∧ rmI (nI m) 2 = nI (m % 2) := ⟨n_div (k := 2) (by omega) (by decide) (by decide), n_rm (k := 2) (by omega) (by decide) (by decide)⟩
theorem of_mv_z (hw : WFV V) (hm : m < 2 * V.B.pn) : ofS V (nI (m / 2)) (3 + nI (m % 2)) = bI (mayB V.B V.s V.f (m / 2) (m % 2)) := by
  have hp : m / 2 < V.B.pn := by omega
  have : m % 2 = 0 ∨ m % 2 = 1 := by omega
  rcases this with e | e
  · rw [e]; exact of_3_z hw hp
  · rw [e]; exact of_4_z hw hp
theorem k_ofm_z (hd : 8 ≤ d) (hR : RS_z V K t S I J) (hm : m < 2 * V.B.pn) (h : F (bI (mayB V.B V.s V.f (m / 2) (m % 2))) I J) : CI d Sb_of [.ref 0, .int (nI m / 2), .int (3 + rmI (nI m) 2)] I J F := by
  have hp5 := hR.1.1.1.1
  rw [(mv_2_z (by omega)).1, (mv_2_z (by omega)).2]
  refine k_of_z hd hR _ _ ?_
  rw [of_mv_z hR.1.1 hm]; exact h
/-- behind a slide -/
def sld_z (V : Bv) (m : Nat) : Bv := V.rem.setS (behB V.B V.s (m / 2) (m % 2) V.B.pn)
theorem k_sld'_z (hd : 8 ≤ d) (hR : RS_z V K t S I J) (hm : m < 2 * V.B.pn) (h1 : mayB V.B V.s V.f (m / 2) (m % 2) = true → ∀ I', RS_z (sld_z V m) K t S I' J → F57_z I I' → F (nI (sld_z V m).s) I' J) (h0 : mayB V.B V.s V.f (m / 2) (m % 2) = false → ∀ I', RS_z V K t S I' J → F57_z I I' → F (-2) I' J) : CI d Sb_slide [.ref 0, .int (nI (m / 2)), .int (nI (m % 2))] I J F := by
  refine k_slide_z hd hR _ _ (fun I' r f => ?_)
  rw [slide_1_z hR.1.1 (by omega) (Nat.mod_lt _ (by decide))] at r ⊢
  cases e : mayB V.B V.s V.f (m / 2) (m % 2) with
  | true => rw [e] at r; exact h1 e I' r f
  | false => rw [e] at r; exact h0 e I' r f
theorem k_sld_z (hd : 8 ≤ d) (hR : RS_z V K t S I J) (hm : m < 2 * V.B.pn) (h1 : mayB V.B V.s V.f (m / 2) (m % 2) = true → ∀ I', RS_z (sld_z V m) K t S I' J → F57_z I I' → F (nI (sld_z V m).s) I' J) (h0 : mayB V.B V.s V.f (m / 2) (m % 2) = false → ∀ I', RS_z V K t S I' J → F57_z I I' → F (-2) I' J) : CI d Sb_slide [.ref 0, .int (nI m / 2), .int (rmI (nI m) 2)] I J F := by
  have hp5 := hR.1.1.1.1
  rw [(mv_2_z (by omega)).1, (mv_2_z (by omega)).2]
  exact k_sld'_z hd hR hm h1 h0
theorem sl_10_z {m : Nat} (hm : m < 10) : nI (slN m) / 10 = nI (m / 2) ∧ rmI (nI (slN m)) 10 = nI (m % 2) := by
  have e : slN m = 10 * (m / 2) + m % 2 := rfl
  refine ⟨?_, ?_⟩
  · rw [show nI (slN m) / 10 = nI (slN m / 10) from n_div (k := 10) (by omega) (by decide) (by decide)]; congr 1; omega
  · rw [show rmI (nI (slN m)) 10 = nI (slN m % 10) from n_rm (k := 10) (by omega) (by decide) (by decide)]; congr 1; omega
theorem k_sl10_z (hd : 8 ≤ d) (hR : RS_z V K t S I J) (hm : m < 2 * V.B.pn) (h1 : mayB V.B V.s V.f (m / 2) (m % 2) = true → ∀ I', RS_z (sld_z V m) K t S I' J → F57_z I I' → F (nI (sld_z V m).s) I' J) (h0 : mayB V.B V.s V.f (m / 2) (m % 2) = false → ∀ I', RS_z V K t S I' J → F57_z I I' → F (-2) I' J) : CI d Sb_slide [.ref 0, .int (nI (slN m) / 10), .int (rmI (nI (slN m)) 10)] I J F := by
  have hp5 := hR.1.1.1.1
  rw [(sl_10_z (by omega)).1, (sl_10_z (by omega)).2]
  exact k_sld'_z hd hR hm h1 h0
theorem nx_of_z (h : mayB V.B V.s V.f (m / 2) (m % 2) = true) : nx V.B V.f V.s m = some (sld_z V m).s := by unfold nx; rw [if_pos h]; rfl
theorem nx_may_z {u : Nat} (h : nx V.B V.f V.s m = some u) : mayB V.B V.s V.f (m / 2) (m % 2) = true ∧ u = (sld_z V m).s := by
  unfold nx at h
  split at h
  · next e => exact ⟨e, (Option.some.inj h).symm⟩
  · cases h
theorem sld_s_z (hw : WFV V) (hm : m < 2 * V.B.pn) (h : mayB V.B V.s V.f (m / 2) (m % 2) = true) : (sld_z V m).s < 1024 ∧ ∀ q, q < V.B.pn → pl (sld_z V m).s q = plB V.B V.s (m / 2) (m % 2) q := by
  have hok := okS_beh hw.1 hw.2.2.1 (show m / 2 < V.B.pn by omega) (Nat.mod_lt _ (by decide)) h
  have hpl := may_place h
  have hdp := (hw.1.2.2.1 (m / 2) (by omega)).2.2
  have hlt : ∀ q, q < V.B.pn → plB V.B V.s (m / 2) (m % 2) q < 4 := fun q hq => plB_lt (fun e => by have := hpl.2 (by omega); omega)
  refine ⟨s31 hw.1 hok.1, fun q hq => ?_⟩
  show pl (behB V.B V.s (m / 2) (m % 2) V.B.pn) q = _
  rw [behB_Sm hlt, pl_Sm hlt hq]
theorem undo_sld_z : ∃ n V', n < 8 ∧ undoS (sld_z V m) = (nI n, V') ∧ Alk_z V V' ∧ V'.dr = V.dr := by
  refine ⟨(V.past.take 7).length, (V.1, (V.lid, V.s, V.f, V.dr), V.past.take 7), ?_, rfl, ⟨rfl, rfl, rfl, rfl⟩, rfl⟩
  rw [List.length_take]; omega
theorem rest_1_z : True := trivial
end MVS
section MVD
variable {d : Nat} {V0 : Bv} {t : Tpe} {S : Nat → Shv} {I : I2} {J : J2} {Q : Post}
def F58_z (I I' : I2) : Prop := ∀ a, 57 ≤ a → a ≠ 58 → I' a = I a
theorem F58_z.rf {I : I2} : F58_z I I := fun _ _ _ => rfl
theorem F58_z.tr7 {I0 I1 I' : I2} (h : F58_z I0 I1) (f : F57_z I1 I') : F58_z I0 I' := fun a h1 h2 => (f a h1).trans (h a h1 h2)
theorem W2_z.f8 {B : Bx} {I I' : I2} (h : W2_z B I) (f : F58_z I I') : W2_z B I' := by unfold W2_z; rw [f 57 (by decide) (by decide)]; exact h
def Was_z (V : Bv) (I : I2) (n : Nat) : Prop := ∀ q, q < n → I 58 q = nI (pl V.s q)
set_option maxHeartbeats 4000000 in
theorem l_mv_z (hd : 9 ≤ d) (hR : RS_z V0 (some V0) t S I J) (hw : W2_z V0.B I) (h4 : V0.B.pn ≤ 4) (h0 : 0 < V0.B.pn) (h : ∀ I', RS_z V0 (some V0) t S I' J → F58_z I I' → Q (some (.int 1)) I' J) : Wp d Mv Q 3 [some (.ref 0), some (.ref 57), some (.long (hsV_z V0)), none, none, none, none, none, none, none, none, none, none, none] [.ref 58] I J := by
  have hW := hR.1.1
  have hd8 : 8 ≤ d := by omega
  have fin : ∀ I', RS_z V0 (some V0) t S I' J → F58_z I I' → CL d Lw_hash [.ref 0, .ref 57] I' J (fun v1 I1 J1 => ((lg_cmp v1 (hsV_z V0)) = 0 → Q (some (.int 1)) I1 J1) ∧ (¬ ((lg_cmp v1 (hsV_z V0)) = 0) → Q (some (.int 0)) I1 J1)) := fun I' r f => c_hash_z hd r (hw.f8 f).1 ⟨fun _ => h I' r f, fun q => absurd (cmp_eq.mpr rfl) q⟩
  -- for each slide
  have l40 : ∀ k n I', n + k = 2 * V0.B.pn → RS_z V0 (some V0) t S I' J → F58_z I I' → Was_z V0 I' V0.B.pn → Wp d Mv Q 40 [some (.ref 0), some (.ref 57), some (.long (hsV_z V0)), none, some (.ref 58), some (.int 1), some (.int (nI n)), none, none, none, none, none, none, none] [] I' J := by
    intro k
    induction k with
    | zero =>
      intro n I' hn r f wa
      have hw2 := hw.f8 f
      refine v_Mv_40 ⟨fun q => ?_, fun _ => ⟨fun q => absurd q (by decide), fun _ => fin I' r f⟩⟩
      rw [hw2.1, i_2_z] at q
      have := (n_lt (by omega) (by omega)).mp q; omega
    | succ k ih =>
      intro n I' hn r f wa
      have hw2 := hw.f8 f
      have hm : n < 2 * V0.B.pn := by omega
      obtain ⟨e1, e2⟩ := mv_2_z (m := n) (by omega)
      -- stands, put back
      have back : ∀ (V' : Bv) (I3 : Nat → Nat → Int32), RS_z V' (some V0) t S I3 J → V'.B = V0.B → F58_z I I3 → Was_z V0 I3 V0.B.pn → ∀ (x7 x8 x9 x10 : Int32), CI d Lw_stands [.ref 0, .ref 57] I3 J (fun v1 I1 J1 => (v1 = 0 → Wp d Mv Q 318 [some (.ref 0), some (.ref 57), some (.long (hsV_z V0)), none, some (.ref 58), some (.int 1), some (.int (nI n)), some (.int x7), some (.int x8), some (.int x9), some (.int x10), none, none, none] [] I1 J1) ∧ (¬ (v1 = 0) → CI d Sb_restore [.ref 0] I1 J1 (fun v2 I4 J2 => (v2 = 1 → Wp d Mv Q 40 [some (.ref 0), some (.ref 57), some (.long (hsV_z V0)), none, some (.ref 58), some (.int 1), some (.int (nI n + 1)), none, none, none, none, none, none, none] [] I4 J2) ∧ (¬ (v2 = 1) → Wp d Mv Q 318 [some (.ref 0), some (.ref 57), some (.long (hsV_z V0)), none, some (.ref 58), some (.int 1), some (.int (nI n)), some (.int x7), some (.int x8), some (.int x9), some (.int x10), none, none, none] [] I4 J2)))) := by
        intro V' I3 r3 eB f3 wa3 x7 x8 x9 x10
        refine c_stands_z hd r3 (by rw [eB]; exact hw.f8 f3) (by rw [eB]; exact h0) ⟨fun q => absurd q (by decide), fun _ => k_restore_z hd8 r3 (fun I4 r4 f4 => ⟨fun _ => ?_, fun q => absurd rfl q⟩)⟩
        rw [n_inc]
        exact ih (n + 1) I4 (by omega) r4 (f3.tr7 f4) (fun q hq => by rw [f4 58 (by decide)]; exact wa3 q hq)
      refine v_Mv_40 ⟨fun _ => ⟨fun q => absurd q (by decide), fun _ => k_ofm_z hd8 r hm ⟨fun hmay => ?_, fun hmay => ?_⟩⟩, fun q => ?_⟩
      · have hmay := bI_1.mp hmay
        refine k_sld_z hd8 r hm (fun _ I3 r3 f3 => ⟨fun q => absurd q (nI_pos (by have := (sld_s_z hW hm hmay).1; omega)), fun _ => k_count_z hd8 r3 _ ⟨fun _ => ?_, fun q => absurd rfl q⟩⟩) (fun q => by rw [hmay] at q; cases q)
        rw [e1]
        obtain ⟨hs2, hpl⟩ := sld_s_z hW hm hmay
        have f9 : F58_z I I3 := f.tr7 f3
        have wa3 : Was_z V0 I3 V0.B.pn := fun q hq => by rw [f3 58 (by decide)]; exact wa q hq
        have hw3 := hw.f8 f9
        -- each panel is where it is to be
        have l142 : ∀ k2 q, q + k2 = V0.B.pn → Wp d Mv Q 142 [some (.ref 0), some (.ref 57), some (.long (hsV_z V0)), none, some (.ref 58), some (.int 1), some (.int (nI n)), some (.int (nI (n / 2))), some (.int 1), some (.int (nI (sld_z V0 n).s)), some (.int (nI q)), none, none, none] [] I3 J := by
          intro k2
          induction k2 with
          | zero =>
            intro q hq
            refine v_Mv_142 ⟨fun z => ?_, fun _ => ⟨fun z => absurd z (by decide), fun _ => back _ I3 r3 rfl f9 wa3 _ _ _ _⟩⟩
            rw [hw3.1] at z; have := (n_lt (by omega) (by omega)).mp z; omega
          | succ k2 ih2 =>
            intro q hq
            have hq2 : q < V0.B.pn := by omega
            have hp4 := pl_lt V0.s q
            obtain ⟨c1, c2, c3⟩ := hW.1.2.2.1 q hq2
            have hW3 : WFV (sld_z V0 n) := r3.1.1
            have hv := n_vp (a := q) (n := 4) (by omega) (by decide)
            have e3 : (sld_z V0 n).B = V0.B := rfl
            have at285 : ∀ x11 x12 x13 : Int32, Wp d Mv Q 285 [some (.ref 0), some (.ref 57), some (.long (hsV_z V0)), none, some (.ref 58), some (.int 1), some (.int (nI n)), some (.int (nI (n / 2))), some (.int 1), some (.int (nI (sld_z V0 n).s)), some (.int (nI q)), some (.int x11), some (.int x12), some (.int x13)] [.int 1] I3 J := by
              intro x11 x12 x13
              refine v_Mv_285 ?_
              rw [n_inc]; exact ih2 (q + 1) (by omega)
            have hpq := hpl q hq2
            have at224 : ∀ x12 : Int32, (q = n / 2 ∨ plB V0.B V0.s (n / 2) (n % 2) q = pl V0.s q) → Wp d Mv Q 224 [some (.ref 0), some (.ref 57), some (.long (hsV_z V0)), none, some (.ref 58), some (.int 1), some (.int (nI n)), some (.int (nI (n / 2))), some (.int 1), some (.int (nI (sld_z V0 n).s)), some (.int (nI q)), some (.int (nI (pl (sld_z V0 n).s q))), some (.int x12), none] [] I3 J := by
              intro x12 hor
              have hmp := may_place hmay
              refine v_Mv_224 ?_
              rw [n_tN (show q < 2 ^ 31 by omega), wa3 q hq2, e2, n_eq (by omega) (by omega), hpq, n_e0 (by omega)]
              refine ⟨fun z => ⟨hv, fun z0 => ⟨fun _ => at285 _ _ _, fun y => absurd ?_ y⟩, fun z0 => ⟨fun _ => at285 _ _ _, fun y => absurd ?_ y⟩⟩, fun z => ⟨hv, fun _ => at285 _ _ _, fun y => absurd ?_ y⟩⟩
              · have : plB V0.B V0.s (n / 2) (n % 2) q = pl V0.s q - 1 := by unfold plB; rw [if_pos z, z, if_neg (by omega)]
                rw [this, n_dec2 (by rw [z]; exact hmp.1 z0)]
              · have : plB V0.B V0.s (n / 2) (n % 2) q = pl V0.s q + 1 := by unfold plB; rw [if_pos z, z, if_pos (by omega)]
                rw [this, n_inc]
              · rcases hor with y2 | y2
                · exact absurd y2 z
                · rw [y2]
            refine v_Mv_142 ⟨fun _ => ⟨fun z => absurd z (by decide), fun _ => ⟨fun z => absurd z (by decide), fun _ => k_of_z hd8 r3 _ _ (k_of_z hd8 r3 _ _ ?_)⟩⟩, fun z => ?_⟩
            · rw [of_2_z hW3 (by rw [e3]; exact hq2), of_0_z hW3 (by rw [e3]; exact hq2), n_tN (show q < 2 ^ 31 by omega), wa3 q hq2, n_eq (by omega) (by omega), n_p0 (by omega), show (nI ((sld_z V0 n).B.kd q) = 1) = (V0.B.kd q = 1) from propext (n_eq (b := 1) (show V0.B.kd q < 2 ^ 31 by omega) (by decide)), show (nI ((sld_z V0 n).B.kd q) = 3) = (V0.B.kd q = 3) from propext (n_eq (b := 3) (show V0.B.kd q < 2 ^ 31 by omega) (by decide))]
              refine ⟨fun z => at224 _ (Or.inl z), fun z => ⟨hv, fun z0 => ⟨fun z1 => ⟨hv, fun _ => at285 _ _ _, fun y => absurd ?_ y⟩, fun z1 => ⟨fun z3 => ⟨hv, k_of_z hd8 r3 _ _ ?_⟩, fun z3 => at224 _ (Or.inr ?_)⟩⟩, fun z0 => at224 _ (Or.inr ?_)⟩⟩
              · rw [hpq, n_dec z0]; congr 1; unfold plB slips; rw [if_neg z]; simp [z0, z1]
              · rw [of_1_z hW3 (by rw [e3]; exact hq2), show nI ((sld_z V0 n).B.dp q) = nI (V0.B.dp q) from rfl, n_lt (by omega) (by omega)]
                refine ⟨fun z4 => ⟨hv, fun _ => at285 _ _ _, fun y => absurd ?_ y⟩, fun z4 => at224 _ (Or.inr ?_)⟩
                · rw [wa3 q hq2, hpq, n_dec z0]; congr 1; unfold plB slips; rw [if_neg z]; simp [z0, z3, z4]
                · unfold plB slips; rw [if_neg z]; simp [z1, z3, z4]
              · unfold plB slips; rw [if_neg z]; simp [z1, z3]
              · unfold plB slips; rw [if_neg z]; simp [z0]
            · rw [hw3.1] at z; exact absurd ((n_lt (by omega) (by omega)).mpr (by omega)) z
        exact l142 V0.B.pn 0 (Nat.zero_add _)
      · have hmay : mayB V0.B V0.s V0.f (n / 2) (n % 2) = false := by
          cases z : mayB V0.B V0.s V0.f (n / 2) (n % 2) with
          | false => rfl
          | true => exact absurd (bI_1.mpr z) hmay
        refine k_sld_z hd8 r hm (fun q => by rw [hmay] at q; cases q) (fun _ I3 r3 f3 => ⟨fun _ => ?_, fun q => absurd rfl q⟩)
        have f9 : F58_z I I3 := f.tr7 f3
        have wa3 : Was_z V0 I3 V0.B.pn := fun q hq => by rw [f3 58 (by decide)]; exact wa q hq
        refine v_Mv_142 ⟨fun _ => ⟨fun z => absurd z (by decide), fun _ => ⟨fun _ => back V0 I3 r3 rfl f9 wa3 _ _ _ _, fun z => absurd rfl z⟩⟩, fun z => ?_⟩
        rw [(hw.f8 f9).1] at z; exact absurd ((n_lt (a := 0) (by decide) (by omega)).mpr h0) z
      · rw [hw2.1, i_2_z] at q; exact absurd ((n_lt (by omega) (by omega)).mpr (by omega)) q
  -- where all is, ahead
  have l11 : ∀ k n I', n + k = V0.B.pn → RS_z V0 (some V0) t S I' J → F58_z I I' → Was_z V0 I' n → Wp d Mv Q 11 [some (.ref 0), some (.ref 57), some (.long (hsV_z V0)), none, some (.ref 58), some (.int 1), some (.int (nI n)), none, none, none, none, none, none, none] [] I' J := by
    intro k
    induction k with
    | zero =>
      intro n I' hn r f wa
      refine v_Mv_11 ⟨fun q => ?_, fun _ => l40 (2 * V0.B.pn) 0 I' (Nat.zero_add _) r f (fun q hq => wa q (by omega))⟩
      rw [(hw.f8 f).1] at q; have := (n_lt (by omega) (by omega)).mp q; omega
    | succ k ih =>
      intro n I' hn r f wa
      refine v_Mv_11 ⟨fun _ => k_of_z hd8 r _ _ ⟨n_vp (by omega) (by decide), ?_⟩, fun q => ?_⟩
      · rw [of_2_z hW (by omega), n_tN (by omega), n_inc]
        refine ih (n + 1) _ (by omega) (r.lo (fun a ha => up2_ne (by omega))) (fun a h1 h2 => (up2_ne h2).trans (f a h1 h2)) (fun q hq => ?_)
        by_cases e : q = n
        · rw [e]; simp [up2, upd]
        · simp [up2, upd, e]; exact wa q (by omega)
      · rw [(hw.f8 f).1] at q; exact absurd ((n_lt (by omega) (by omega)).mpr (by omega)) q
  exact v_Mv_3 (l11 V0.B.pn 0 I (Nat.zero_add _) hR F58_z.rf (fun q hq => absurd hq (Nat.not_lt_zero q)))
end MVD
