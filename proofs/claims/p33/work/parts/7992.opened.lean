/-! OPENED -/
section OPD
variable {d : Nat} {V V' V0 : Bv} {K : Option Bv} {t : Tpe} {S : Nat → Shv} {I : I2} {J : J2} {F : Int32 → I2 → J2 → Prop} {m : Nat}
theorem Alk_z.rf : Alk_z V V := ⟨rfl, rfl, rfl, rfl⟩
theorem Alk_z.tr {V'' : Bv} (h1 : Alk_z V V') (h2 : Alk_z V' V'') : Alk_z V V'' := ⟨h2.1.trans h1.1, h2.2.1.trans h1.2.1, h2.2.2.1.trans h1.2.2.1, h2.2.2.2.trans h1.2.2.2⟩
theorem Alk_z.may (h : Alk_z V V') (p w : Nat) : mayB V'.B V'.s V'.f p w = mayB V.B V.s V.f p w := by rw [h.1, h.2.2.1, h.2.2.2]
theorem Alk_z.sld (h : Alk_z V V') (m : Nat) : Alk_z (sld_z V m) (sld_z V' m) := by
  obtain ⟨h1, h2, h3, h4⟩ := h
  refine ⟨h1, h2, ?_, h4⟩
  show behB V'.B V'.s (m / 2) (m % 2) V'.B.pn = behB V.B V.s (m / 2) (m % 2) V.B.pn
  rw [h1, h3]
/-- of the same box -/
def Sm3_z (V0 V : Bv) : Prop := V.B = V0.B ∧ V.lid = V0.lid
theorem Sm3_z.alk (h : Sm3_z V0 V) (a : Alk_z V V') : Sm3_z V0 V' := ⟨a.1.trans h.1, a.2.1.trans h.2⟩
theorem Sm3_z.sld (h : Sm3_z V0 V) : Sm3_z V0 (sld_z V m) := h
theorem optI_neg_z {o : Option Nat} (h : ∀ c, o = some c → c < 1024) : (optI o (-4) < 0 ↔ o = none) ∧ (optI o (-4) = -4 ↔ o = none) := by
  cases o with
  | none => exact ⟨⟨fun _ => rfl, fun _ => (by decide +kernel : (-4 : Int32) < 0)⟩, ⟨fun _ => rfl, fun _ => rfl⟩⟩
  | some c =>
    have hc := h c rfl
    refine ⟨⟨fun q => absurd q (nI_pos (by omega)), fun q => by cases q⟩, ⟨fun q => ?_, fun q => by cases q⟩⟩
    have q : nI c = -4 := q
    have : nI c < 0 := by rw [q]; exact (by decide +kernel : (-4 : Int32) < 0)
    exact absurd this (nI_pos (by omega))
theorem cnt_lt_z (hw : WFV V) (f : Nat) : ∀ c, cnt V f = some c → c < 1024 := fun c e => by have := cnt_D_z hw f; rw [e] at this; exact this.2
/-- the end of what is asked: put back, the hash again -/
theorem fin_hs_z (hd : 9 ≤ d) (hR : RS_z V (some V0) t S I J) (hw : W2_z V0.B I) {G : Int32 → I2 → J2 → Prop} {P : Int64 → I2 → J2 → Prop} (h : ∀ I', RS_z V0 (some V0) t S I' J → F57_z I I' → P (hsV_z V0) I' J) : CI d Sb_restore [.ref 0] I J (fun v1 I1 J1 => (v1 = 1 → CL d Lw_hash [.ref 0, .ref 57] I1 J1 P) ∧ (¬ (v1 = 1) → G v1 I1 J1)) :=
  k_restore_z (by omega) hR (fun I' r f => ⟨fun _ => c_hash_z hd r (hw.f f).1 (h I' r f), fun q => absurd rfl q⟩)
theorem cmp_self_z {x : Int64} : lg_cmp x x = 0 := cmp_eq.mpr rfl
set_option maxHeartbeats 8000000 in
theorem c_opened_z (hd : 10 ≤ d) (hR : RS_z V0 (some V0) t S I J) (hw : W2_z V0.B I) (h4 : V0.B.pn ≤ 4) (h0 : 0 < V0.B.pn) (h : ∀ I', RS_z V0 (some V0) t S I' J → F57_z I I' → F 1 I' J) : CI d Lw_opened [.ref 0, .ref 57, .long (hsV_z V0)] I J F := by
  have hW := hR.1.1
  have hd8 : 8 ≤ d - 1 := by omega
  have hlt := cnt_lt_z hW V0.f
  have hop := cnt_0_z hW
  have hll := ord_256_z hW h4
  have hfar := (far_ok_z hW).2
  have hdl := dead_le_z (V := V0)
  have hda := dead_all_z hW
  -- slide by slide
  have l178 : ∀ c, cnt V0 V0.f = some c → ∀ k n V I', n + k = c → RS_z V (some V0) t S I' J → F57_z I I' → Sm3_z V0 V → cnt V V.f = some (c - n) → ∀ x5 x6 x7 x8 : Int32, Wp (d - 1) Lw_opened (QI F) 178 [some (.ref 0), some (.ref 57), some (.long (hsV_z V0)), none, some (.int (nI c)), some (.int x5), some (.int x6), some (.int x7), some (.int x8), some (.int 1), some (.int (nI n)), none, none] [] I' J := by
    intro c hc k
    have hc2 := hlt c hc
    induction k with
    | zero =>
      intro n V I' hn r f s3 hcn x5 x6 x7 x8
      have hn2 : c - n = 0 := by omega
      rw [hn2] at hcn
      have hWV := r.1.1
      have h0' : 0 < V.B.pn := by rw [s3.1]; exact h0
      refine v_Lw_opened_0_57_178 ⟨fun q => ?_, fun _ => ⟨fun q => absurd q (by decide), fun _ => ⟨fun q => absurd q (nI_pos (by omega)), fun _ => k_count_z hd8 r _ ⟨fun _ => k_opens_z hd8 r _ (fun I3 r3 f3 => ⟨fun _ => fin_hs_z (by omega) r3 (hw.f (f.tr f3)) (fun I4 r4 f4 => ⟨fun _ => QI_i.mpr (h I4 r4 (f.tr (f3.tr f4))), fun q => absurd cmp_self_z q⟩), fun q => absurd ((opens_0_z hWV h0').1 (Or.inr hcn)) q⟩), fun q => absurd ?_ q⟩⟩⟩⟩
      · have := (n_lt (by omega) (by omega)).mp q; omega
      · rw [cnt_3_z, (cnt_0_z hWV).mp hcn]; rfl
    | succ k ih =>
      intro n V I' hn r f s3 hcn x5 x6 x7 x8
      have hWV := r.1.1
      have h0' : 0 < V.B.pn := by rw [s3.1]; exact h0
      have hp5 := hWV.1.1
      obtain ⟨m, u, hm, e0, hu, hDu, hmin⟩ := (opens_0_z hWV h0').2 (c - n - 1) (by rw [hcn]; congr 1; omega)
      obtain ⟨hmay, eu⟩ := nx_may_z hu
      have hm10 : m < 10 := by omega
      -- the lesser moves
      have l200 : ∀ k2 b V2 I3, b + k2 = m → RS_z V2 (some V0) t S I3 J → F57_z I I3 → Alk_z V V2 → Wp (d - 1) Lw_opened (QI F) 200 [some (.ref 0), some (.ref 57), some (.long (hsV_z V0)), none, some (.int (nI c)), some (.int x5), some (.int x6), some (.int x7), some (.int x8), some (.int 1), some (.int (nI n)), some (.int (nI (slN m))), some (.int (nI b))] [] I3 J := by
        intro k2
        induction k2 with
        | zero =>
          intro b V2 I3 hb r2 f2 a2
          have hW2 := r2.1.1
          have hm2 : m < 2 * V2.B.pn := by rw [a2.1]; exact hm
          have eb : b = m := by omega
          refine v_Lw_opened_0_57_200 ⟨fun q => ?_, fun _ => ⟨fun q => absurd q (by decide), fun _ => k_count_z hd8 r2 _ ⟨fun _ => k_sl10_z hd8 r2 hm2 (fun hmy I4 r4 f4 => ⟨fun q => absurd q (nI_pos (by have := (sld_s_z hW2 hm2 hmy).1; omega)), fun _ => k_opens_z hd8 r4 _ (fun I5 r5 f5 => ?_)⟩) (fun q => by rw [a2.may, hmay] at q; cases q), fun q => absurd ?_ q⟩⟩⟩
          · rw [(sl_10_z hm10).1, (sl_10_z hm10).2, i_2_z, nI_add, n_lt (by omega) (by omega)] at q; omega
          · have e9 : cnt (sld_z V2 m) (sld_z V2 m).f = some (c - n - 1) := by
              refine DsO_one_z (cnt_D_z r5.1.1 _) ?_
              rw [eu] at hDu
              have a3 := a2.sld m
              rw [a3.1, a3.2.1, a3.2.2.1, a3.2.2.2]
              exact hDu
            have e10 : opensS (sld_z V2 m) (-1) = nI (c - n - 1) := by
              rw [opens_m1_z (show 0 < (sld_z V2 m).B.pn by show 0 < V2.B.pn; rw [a2.1]; exact h0'), e9]; rfl
            rw [e10, n_inc, show nI c - 1 = nI (c - 1) from n_dec (by omega), n_sub (by omega)]
            exact ⟨fun _ => ih (n + 1) _ I5 (by omega) r5 (f2.tr (f4.tr f5)) ((s3.alk a2).sld) (by rw [e9]; congr 1) x5 x6 x7 x8, fun q => absurd (by congr 1; omega) q⟩
          · rw [cnt_3_z]
            have : openB V2.B V2.lid V2.s = false := by
              cases z : openB V2.B V2.lid V2.s with
              | false => rfl
              | true =>
                have z2 := (cnt_0_z hW2).mpr z
                rw [cnt_alk_z a2.1 a2.2.1 a2.2.2.1, a2.2.2.2, hcn] at z2
                have := Option.some.inj z2; omega
            rw [this]; rfl
        | succ k2 ih2 =>
          intro b V2 I3 hb r2 f2 a2
          have hW2 := r2.1.1
          have hb2 : b < 2 * V2.B.pn := by rw [a2.1]; omega
          have h02 : 0 < (sld_z V2 b).B.pn := by show 0 < V2.B.pn; rw [a2.1]; exact h0'
          refine v_Lw_opened_0_57_200 ⟨fun _ => ⟨fun q => absurd q (by decide), fun _ => k_ofm_z hd8 r2 hb2 ⟨fun hmy => ?_, fun _ => ?_⟩⟩, fun q => ?_⟩
          · have hmy := bI_1.mp hmy
            have und : ∀ I4, RS_z (sld_z V2 b) (some V0) t S I4 J → F57_z I3 I4 → CI (d - 1) Sb_undo [.ref 0] I4 J (fun v4 I5 J4 => (v4 < 0 → Wp (d - 1) Lw_opened (QI F) 200 [some (.ref 0), some (.ref 57), some (.long (hsV_z V0)), none, some (.int (nI c)), some (.int x5), some (.int x6), some (.int x7), some (.int x8), some (.int 0), some (.int (nI n)), some (.int (nI (slN m))), some (.int (nI b + 1))] [] I5 J4) ∧ (¬ (v4 < 0) → Wp (d - 1) Lw_opened (QI F) 200 [some (.ref 0), some (.ref 57), some (.long (hsV_z V0)), none, some (.int (nI c)), some (.int x5), some (.int x6), some (.int x7), some (.int x8), some (.int 1), some (.int (nI n)), some (.int (nI (slN m))), some (.int (nI b + 1))] [] I5 J4)) := by
              intro I4 r4 f4
              obtain ⟨k9, V9, hk9, e9, a9, -⟩ := undo_sld_z (V := V2) (m := b)
              refine k_undo_z hd8 r4 (fun I5 r5 f5 => ?_)
              rw [e9] at r5 ⊢
              refine ⟨fun q => absurd q (nI_pos (by omega)), fun _ => ?_⟩
              rw [n_inc]
              exact ih2 (b + 1) V9 I5 (by omega) r5 (f2.tr (f4.tr f5)) (a2.tr a9)
            refine k_sld_z hd8 r2 hb2 (fun _ I4 r4 f4 => ⟨fun q => absurd q (nI_pos (by have := (sld_s_z hW2 hb2 hmy).1; omega)), fun _ => k_opens_z hd8 r4 _ (fun I5 r5 f5 => ?_)⟩) (fun q => by rw [hmy] at q; cases q)
            have e9 := opens_m1_z h02
            rw [e9, (optI_neg_z (cnt_lt_z r5.1.1 _)).2]
            refine ⟨fun _ => und I5 r5 (f4.tr f5), fun e10 => k_opens_z hd8 r5 _ (fun I6 r6 f6 => ?_)⟩
            have hD := cnt_D_z r5.1.1 (sld_z V2 b).f
            rw [e9]
            cases e11 : cnt (sld_z V2 b) (sld_z V2 b).f with
            | none => exact absurd e11 e10
            | some c' =>
              rw [e11] at hD
              obtain ⟨⟨⟨g, g1, g2⟩, -⟩, hc'⟩ := hD
              have a3 := a2.sld b
              rw [a3.1, a3.2.1] at g1
              rw [a3.1, a3.2.2.1, a3.2.2.2] at g2
              have hle := hmin b (sld_z V b).s (by omega) (nx_of_z (by rw [a2.may] at hmy; exact hmy)) c' g g2 g1
              refine ⟨fun q => ?_, fun _ => und I6 r6 (f4.tr (f5.tr f6))⟩
              have q : nI c' < nI c - nI n := q
              rw [n_sub (by omega), n_lt (by omega) (by omega)] at q
              omega
          · rw [n_inc]; exact ih2 (b + 1) V2 I3 (by omega) r2 f2 a2
          · rw [(sl_10_z hm10).1, (sl_10_z hm10).2, i_2_z, nI_add, n_lt (by omega) (by omega)] at q; omega
      refine v_Lw_opened_0_57_178 ⟨fun _ => ⟨fun q => absurd q (by decide), fun _ => k_opens_z hd8 r _ (fun I3 r3 f3 => ?_)⟩, fun q => absurd ((n_lt (by omega) (by omega)).mpr (by omega)) q⟩
      rw [e0]
      exact l200 m 0 V I3 (Nat.zero_add _) r3 (f.tr f3) Alk_z.rf
  -- none opens it
  have n178 : cnt V0 V0.f = none → ∀ I', RS_z V0 (some V0) t S I' J → F57_z I I' → ∀ x5 x6 x7 x8 : Int32, Wp (d - 1) Lw_opened (QI F) 178 [some (.ref 0), some (.ref 57), some (.long (hsV_z V0)), none, some (.int (-4)), some (.int x5), some (.int x6), some (.int x7), some (.int x8), some (.int 1), some (.int 0), none, none] [] I' J := by
    intro _ I' r f x5 x6 x7 x8
    exact v_Lw_opened_0_57_178 ⟨fun q => absurd q (by decide +kernel), fun _ => ⟨fun q => absurd q (by decide), fun _ => ⟨fun _ => fin_hs_z (by omega) r (hw.f f) (fun I4 r4 f4 => ⟨fun _ => QI_i.mpr (h I4 r4 (f.tr f4)), fun q => absurd cmp_self_z q⟩), fun q => absurd (by decide +kernel) q⟩⟩⟩
  refine CI.of (by omega) rfl (v_Lw_opened_0_57_0 (k_opens_z hd8 hR _ (fun I1 r1 f1 => k_rows_z hd8 r1 (fun I3 r3 f3 => k_reach_z hd8 r3 _ (fun I4 r4 f4 => k_reach_z hd8 r4 _ (fun I5 r5 f5 => k_reach_z hd8 r5 _ (fun I6 r6 f6 => ?_)))))))
  have f9 : F57_z I I6 := f1.tr (f3.tr (f4.tr (f5.tr f6)))
  rw [reach_0_z h0, reach_1_z h0, reach_2_z h0, opens_m1_z h0, n_p0 (by omega), show ((256 : Int32) < nI V0.T.ord.length) = (256 < V0.T.ord.length) from propext (n_lt (a := 256) (by decide) (by omega)), n_lt (show farS V0.T < 2 ^ 31 by omega) (by omega), n_lt (by omega) (show deadN V0.B V0.lid V0.f V0.T < 2 ^ 31 by omega), n_eq (show deadN V0.B V0.lid V0.f V0.T < 2 ^ 31 by omega) (by omega), hda, (optI_neg_z hlt).2]
  refine ⟨fun _ => ⟨fun q => by omega, fun _ => ⟨fun q => absurd q (nI_pos (by omega)), fun _ => ⟨fun _ => ⟨fun q => absurd q (nI_pos (by omega)), fun _ => ⟨fun q => by omega, fun _ => ⟨fun e => ⟨fun _ => ?_, fun q => absurd e q⟩, fun e => ⟨fun q => absurd q e, fun _ => ?_⟩⟩⟩⟩, fun q => absurd hfar q⟩⟩⟩, fun q => absurd hll.1 q⟩
  · -- none
    have hno : ¬ openB V0.B V0.lid V0.s = true := fun z => by rw [hop.mpr z] at e; cases e
    refine v_Lw_opened_0_57_95 ⟨fun _ => ?_, fun q => absurd rfl q⟩
    rw [e, rows_no_z h0 e]
    refine ⟨fun _ => ⟨fun _ => ⟨fun q => absurd q (by decide +kernel), fun _ => k_count_z hd8 r6 _ ⟨fun q => ?_, fun _ => n178 e I6 r6 f9 _ _ _ _⟩⟩, fun q => absurd rfl q⟩, fun q => absurd rfl q⟩
    rw [cnt_3_z] at q; exact absurd (bI_1.mp q) hno
  · cases e2 : cnt V0 V0.f with
    | none => exact absurd e2 e
    | some c =>
      have hc2 := hlt c e2
      have hcf := far_cnt_z hW e2
      have go : Wp (d - 1) Lw_opened (QI F) 178 [some (.ref 0), some (.ref 57), some (.long (hsV_z V0)), none, some (.int (nI c)), some (.int (rowsQ V0)), some (.int (nI V0.T.ord.length)), some (.int (nI (farS V0.T))), some (.int (nI (deadN V0.B V0.lid V0.f V0.T))), some (.int 1), some (.int 0), none, none] [] I6 J := l178 c e2 c 0 V0 I6 (Nat.zero_add _) r6 f9 ⟨rfl, rfl⟩ e2 _ _ _ _
      have rest : (nI c = 0 → CI (d - 1) Sb_count [.ref 0, .int 3] I6 J (fun v1 I1 J1 => (v1 = 1 → (rowsQ V0 = 1 → Wp (d - 1) Lw_opened (QI F) 178 [some (.ref 0), some (.ref 57), some (.long (hsV_z V0)), none, some (.int (nI c)), some (.int (rowsQ V0)), some (.int (nI V0.T.ord.length)), some (.int (nI (farS V0.T))), some (.int (nI (deadN V0.B V0.lid V0.f V0.T))), some (.int 1), some (.int 0), none, none] [] I1 J1) ∧ (¬ (rowsQ V0 = 1) → Wp (d - 1) Lw_opened (QI F) 178 [some (.ref 0), some (.ref 57), some (.long (hsV_z V0)), none, some (.int (nI c)), some (.int (rowsQ V0)), some (.int (nI V0.T.ord.length)), some (.int (nI (farS V0.T))), some (.int (nI (deadN V0.B V0.lid V0.f V0.T))), some (.int 0), some (.int 0), none, none] [] I1 J1)) ∧ (¬ (v1 = 1) → Wp (d - 1) Lw_opened (QI F) 178 [some (.ref 0), some (.ref 57), some (.long (hsV_z V0)), none, some (.int (nI c)), some (.int (rowsQ V0)), some (.int (nI V0.T.ord.length)), some (.int (nI (farS V0.T))), some (.int (nI (deadN V0.B V0.lid V0.f V0.T))), some (.int 0), some (.int 0), none, none] [] I1 J1))) ∧ (¬ (nI c = 0) → CI (d - 1) Sb_count [.ref 0, .int 3] I6 J (fun v1 I1 J1 => (v1 = 1 → Wp (d - 1) Lw_opened (QI F) 178 [some (.ref 0), some (.ref 57), some (.long (hsV_z V0)), none, some (.int (nI c)), some (.int (rowsQ V0)), some (.int (nI V0.T.ord.length)), some (.int (nI (farS V0.T))), some (.int (nI (deadN V0.B V0.lid V0.f V0.T))), some (.int 0), some (.int 0), none, none] [] I1 J1) ∧ (¬ (v1 = 1) → Wp (d - 1) Lw_opened (QI F) 178 [some (.ref 0), some (.ref 57), some (.long (hsV_z V0)), none, some (.int (nI c)), some (.int (rowsQ V0)), some (.int (nI V0.T.ord.length)), some (.int (nI (farS V0.T))), some (.int (nI (deadN V0.B V0.lid V0.f V0.T))), some (.int 1), some (.int 0), none, none] [] I1 J1))) := by
        rw [n_e0 (by omega)]
        refine ⟨fun z => k_count_z hd8 r6 _ ?_, fun z => k_count_z hd8 r6 _ ?_⟩
        · rw [z] at e2
          rw [cnt_3_z, bI_1]
          exact ⟨fun _ => ⟨fun _ => go, fun q => absurd (rows_one_z hW h0 e2) q⟩, fun q => absurd (hop.mp e2) q⟩
        · rw [cnt_3_z, bI_1]
          refine ⟨fun q => ?_, fun _ => go⟩
          have := hop.mpr q
          rw [e2] at this; exact absurd (Option.some.inj this) z
      have h4' : ¬ nI c = -4 := fun q => by
        have := (optI_neg_z hlt).2.mp (by rw [e2]; exact q)
        rw [e2] at this; cases this
      refine v_Lw_opened_0_57_95 ⟨fun _ => ⟨fun q => absurd q h4', fun _ => ⟨fun q => absurd q (nI_pos (by omega)), fun _ => ⟨fun q => ?_, fun _ => ⟨fun q => ?_, fun _ => rest⟩⟩⟩⟩, fun q => absurd rfl q⟩
      · have := (n_lt (by omega) (by omega)).mp q; omega
      · rcases rows_lt_z hW with z | ⟨r9, z, z2⟩
        · rw [z] at q; exact absurd q (by decide +kernel)
        · rw [z] at q; exact absurd q (nI_pos (by omega))
end OPD
