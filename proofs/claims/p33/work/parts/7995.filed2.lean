/-! FILED, walked -/
section FLE
variable {d : Nat} {V V' V0 : Bv} {K : Option Bv} {t : Tpe} {S : Nat → Shv} {I : I2} {J : J2} {F : Int32 → I2 → J2 → Prop} {m : Nat}
theorem n_bitl_z {f l : Nat} (hf : f < 64) (hl : l < 6) : (srI (nI f) (nI l) &&& 1 = 0) ↔ f.testBit l = false := n_bit hf hl
/-- behind a lock filed -/
def fld_z (V : Bv) (l : Nat) : Bv := V.rem.setF (V.f ||| 2 ^ l)
theorem k_fld_z {l : Nat} (hd : 8 ≤ d) (hR : RS_z V K t S I J) (hl : l < V.B.ln) (hb : V.f.testBit l = false) (h : ∀ I', RS_z (fld_z V l) K t S I' J → F57_z I I' → ∀ z, z < 64 → F (nI z) I' J) : CI d Sb_file [.ref 0, .int (nI l)] I J F := by
  refine k_file_z hd hR _ (fun I' r f => ?_)
  rw [file_1_z hR.1.1 hl, if_neg (by rw [hb]; decide)] at r ⊢
  exact h I' r f _ (f64 r.1.1.1 r.1.1.2.2.2.1)
theorem cnt_fld_z {l : Nat} (V : Bv) (f : Nat) : cnt (fld_z V l) f = cnt V f := rfl
theorem optI_lt_z {o : Option Nat} (h : ∀ c, o = some c → c < 1024) (n : Nat) (hn : n < 2 ^ 30) : (nI n < optI o (-4)) ↔ ∃ c, o = some c ∧ n < c := by
  cases o with
  | none =>
    refine ⟨fun q => absurd (Int32.lt_trans q (by decide +kernel : (-4 : Int32) < 0)) (nI_pos (by omega)), fun ⟨c, h1, _⟩ => by cases h1⟩
  | some c =>
    have := h c rfl
    show nI n < nI c ↔ _
    rw [n_lt (by omega) (by omega)]
    exact ⟨fun q => ⟨c, rfl, q⟩, fun ⟨c', h1, h2⟩ => by rw [Option.some.inj h1]; exact h2⟩
set_option maxHeartbeats 8000000 in
theorem c_filed_z (hd : 10 ≤ d) (hR : RS_z V0 (some V0) t S I J) (hw : W2_z V0.B I) (hSc : Scr_z I) (h0 : 0 < V0.B.pn) (h : ∀ I', RS_z V0 (some V0) t S I' J → F57_z I I' → F 1 I' J) : CI d Lw_filed [.ref 0, .ref 100, .ref 57, .long (hsV_z V0)] I J F := by
  have hW := hR.1.1
  have hd8 : 8 ≤ d - 1 := by omega
  have hl6 := hW.1.2.1
  have hf64 := f64 hW.1 hW.2.2.2.1
  have hlt := cnt_lt_z hW
  have hnow := opens_m1_z (V := V0) h0
  have hP : 2 ^ V0.B.ln ≤ 2 ^ 6 := Nat.pow_le_pow_right (by decide) hl6
  have hkey := key_ok_z V0 V0.B.ln
  obtain ⟨c1, c2⟩ := celN_ok_z I 12
  have hN : celN_z I 12 % 61 ≤ 60 := by omega
  have e438 : ∀ (V : Bv) (x5 x6 x7 x8 x9 x10 x11 x12 : Int32) I', RS_z V (some V0) t S I' J → F57_z I I' → Wp (d - 1) Lw_filed (QI F) 438 [some (.ref 0), some (.ref 100), some (.ref 57), some (.long (hsV_z V0)), none, some (.int x5), some (.int x6), some (.int x7), some (.int x8), some (.int x9), some (.int x10), some (.int x11), some (.int x12)] [] I' J := fun V x5 x6 x7 x8 x9 x10 x11 x12 I' r f =>
    v_Lw_filed_0_100_57_438 (fin_hs_z (by omega) r (hw.f f) (fun I4 r4 f4 => ⟨fun _ => QI_i.mpr (h I4 r4 (f.tr f4)), fun q => absurd cmp_self_z q⟩))
  -- a set is filed: it opens in time
  have l350 : ∀ x5 x6 x7 x10 : Int32, ∀ I', RS_z V0 (some V0) t S I' J → F57_z I I' → Wp (d - 1) Lw_filed (QI F) 350 [some (.ref 0), some (.ref 100), some (.ref 57), some (.long (hsV_z V0)), none, some (.int x5), some (.int x6), some (.int x7), some (.int 1), some (.int (nI (celN_z I 12 % 61))), some (.int x10), some (.int (optI (fileN V0 (nI (celN_z I 12 % 61)) (2 ^ V0.B.ln)) (-4))), some (.int 0)] [] I' J := by
    intro x5 x6 x7 x10 I' r f
    have h9 := file_ok_z V0 (nI (celN_z I 12 % 61)) (2 ^ V0.B.ln)
    cases e : fileN V0 (nI (celN_z I 12 % 61)) (2 ^ V0.B.ln) with
    | none =>
      have z := e438 V0 x5 x6 x7 1 (nI (celN_z I 12 % 61)) x10 (-4) 0 I' r f
      exact v_Lw_filed_0_100_57_350 ⟨fun _ => ⟨fun q => absurd q (by decide), fun _ => ⟨fun q => absurd q (by decide +kernel), fun _ => ⟨fun _ => z, fun q => absurd (by decide +kernel) q⟩⟩⟩, fun _ => ⟨fun q => absurd q (by decide), fun _ => ⟨fun _ => z, fun q => absurd (by decide +kernel) q⟩⟩⟩
    | some b =>
      rw [e] at h9
      obtain ⟨b1, b2, ⟨cb, b3, b4⟩, -⟩ := h9
      have hcb := hlt _ cb b3
      have hcN : cb ≤ celN_z I 12 % 61 := by
        rcases Nat.lt_or_ge (celN_z I 12 % 61) cb with z | z
        · exact absurd ((n_lt (by omega) (by omega)).mpr z) b4
        · exact z
      have hb64 : b < 64 := by omega
      -- behind all of it
      have tail : ∀ V I3, RS_z V (some V0) t S I3 J → F57_z I I3 → V.B = V0.B → V.lid = V0.lid → V.s = V0.s → V.f = V0.f ||| b → ∀ x12 : Int32, CI (d - 1) Sb_opens [.ref 0, .int (-1)] I3 J (fun v1 I1 J1 => (v1 < 0 → QI F (some (.int 0)) I1 J1) ∧ (¬ (v1 < 0) → CI (d - 1) Sb_opens [.ref 0, .int (-1)] I1 J1 (fun v2 I4 J2 => (nI (celN_z I 12 % 61) < v2 → QI F (some (.int 0)) I4 J2) ∧ (¬ (nI (celN_z I 12 % 61) < v2) → CI (d - 1) Sb_files [.ref 0, .int (nI (celN_z I 12 % 61)), .int 0] I4 J2 (fun v3 I5 J3 => (v3 = 0 → Wp (d - 1) Lw_filed (QI F) 438 [some (.ref 0), some (.ref 100), some (.ref 57), some (.long (hsV_z V0)), none, some (.int x5), some (.int x6), some (.int x7), some (.int 1), some (.int (nI (celN_z I 12 % 61))), some (.int x10), some (.int (nI b)), some (.int x12)] [] I5 J3) ∧ (¬ (v3 = 0) → QI F (some (.int 0)) I5 J3)))))) := by
        intro V I3 r3 f3 e1 e2 e3 e4 x12
        have h0' : 0 < V.B.pn := by rw [e1]; exact h0
        have ec : cnt V V.f = some cb := by rw [cnt_alk_z e1 e2 e3, e4]; exact b3
        have eo : opensS V (-1) = nI cb := by rw [opens_m1_z h0', ec]; rfl
        refine k_opens_z hd8 r3 _ (fun I4 r4 f4 => ?_)
        rw [eo]
        refine ⟨fun q => absurd q (nI_pos (by omega)), fun _ => k_opens_z hd8 r4 _ (fun I5 r5 f5 => ?_)⟩
        rw [eo]
        refine ⟨fun q => absurd ((n_lt (by omega) (by omega)).mp q) (by omega), fun _ => k_files_z hd8 r5 _ _ (fun I6 r6 f6 => ?_)⟩
        rw [files_0_z r5.1.1 h0' hN ec hcN]
        exact ⟨fun _ => e438 V _ _ _ _ _ _ _ _ I6 r6 (f3.tr (f4.tr (f5.tr f6))), fun q => absurd rfl q⟩
      by_cases eb : b = 0
      · have z := tail V0 I' r f rfl rfl rfl (by rw [eb, Nat.or_zero]) 0
        rw [eb] at z ⊢
        exact v_Lw_filed_0_100_57_350 ⟨fun _ => ⟨fun q => absurd q (by decide), fun _ => ⟨fun q => absurd q (by decide +kernel), fun _ => ⟨fun q => absurd q (by decide +kernel), fun _ => z⟩⟩⟩, fun _ => ⟨fun q => absurd q (by decide), fun _ => ⟨fun q => absurd q (by decide +kernel), fun _ => z⟩⟩⟩
      · have loop : ∀ k j V I3, j + k = V0.B.ln → RS_z V (some V0) t S I3 J → F57_z I I3 → V.B = V0.B → V.lid = V0.lid → V.s = V0.s → V.f = V0.f ||| b % 2 ^ j → Wp (d - 1) Lw_filed (QI F) 350 [some (.ref 0), some (.ref 100), some (.ref 57), some (.long (hsV_z V0)), none, some (.int x5), some (.int x6), some (.int x7), some (.int 1), some (.int (nI (celN_z I 12 % 61))), some (.int x10), some (.int (nI b)), some (.int (nI j))] [] I3 J := by
          intro k
          induction k with
          | zero =>
            intro j V I3 hj r3 f3 e1 e2 e3 e4
            rw [show j = V0.B.ln by omega, Nat.mod_eq_of_lt b1] at e4
            refine v_Lw_filed_0_100_57_350 ⟨fun q => ?_, fun _ => ⟨fun q => absurd q (by decide), fun _ => ⟨fun q => absurd q (nI_pos (by omega)), fun _ => tail V I3 r3 f3 e1 e2 e3 e4 _⟩⟩⟩
            rw [(hw.f f3).2] at q; have := (n_lt (by omega) (by omega)).mp q; omega
          | succ k ih =>
            intro j V I3 hj r3 f3 e1 e2 e3 e4
            refine v_Lw_filed_0_100_57_350 ⟨fun _ => ⟨fun q => absurd q (by decide), fun _ => ⟨fun _ => ?_, fun q => absurd ((n_p0 (by omega)).mpr (by omega)) q⟩⟩, fun q => ?_⟩
            · rw [n_bitl_z hb64 (by omega)]
              refine ⟨fun z => ?_, fun z => ?_⟩
              · rw [n_inc]
                refine ih (j + 1) V I3 (by omega) r3 f3 e1 e2 e3 ?_
                rw [mod_bit_z, z]; simp; exact e4
              · have z : b.testBit j = true := by simpa using z
                have hfj : V0.f.testBit j = false := by
                  have := congrArg (fun x => x.testBit j) b2
                  simp only [Nat.testBit_and, z, Bool.true_and, Nat.zero_testBit] at this
                  exact this
                have hVj : V.f.testBit j = false := by
                  rw [e4, Nat.testBit_or, hfj, Nat.testBit_mod_two_pow]; simp
                refine k_fld_z hd8 r3 (by rw [e1]; omega) hVj (fun I4 r4 f4 z9 hz9 => ⟨fun q => absurd q (nI_pos (by omega)), fun _ => ?_⟩)
                rw [n_inc]
                refine ih (j + 1) _ I4 (by omega) r4 (f3.tr f4) e1 e2 e3 ?_
                show V.f ||| 2 ^ j = _
                rw [e4, mod_bit_z, z]; simp [Nat.or_assoc]
            · rw [(hw.f f3).2] at q; exact absurd ((n_lt (by omega) (by omega)).mpr (by omega)) q
        exact loop V0.B.ln 0 V0 I' (Nat.zero_add _) r f rfl rfl rfl (by rw [Nat.pow_zero, Nat.mod_one, Nat.or_zero])
  -- behind the locks one by one
  have e83 : ∀ x6 x7 : Int32, ∀ I', RS_z V0 (some V0) t S I' J → F57_z I I' → Wp (d - 1) Lw_filed (QI F) 83 [some (.ref 0), some (.ref 100), some (.ref 57), some (.long (hsV_z V0)), none, some (.int (optI (cnt V0 V0.f) (-4))), some (.int x6), some (.int x7), some (.int 1), some (.int (nI V0.B.ln)), none, none, none] [] I' J := by
    intro x6 x7 I' r f
    refine v_Lw_filed_0_100_57_83 ⟨fun q => ?_, fun _ => c_cell_z (k := 12) (by omega) (hSc.fr f) (by decide) ?_⟩
    · rw [(hw.f f).2] at q; have := (n_lt (by omega) (by omega)).mp q; omega
    · rw [cel_57_z f, c1, show rmI (nI (celN_z I 12)) 61 = nI (celN_z I 12 % 61) from n_rm (k := 61) c2 (by decide) (by decide)]
      refine k_files_z hd8 r _ _ (fun I3 r3 f3 => k_files_z hd8 r3 _ _ (fun I4 r4 f4 => ⟨fun q => absurd q (by decide), fun _ => ?_⟩))
      have f9 : F57_z I I4 := f.tr (f3.tr f4)
      have h9 := file_ok_z V0 (nI (celN_z I 12 % 61)) (2 ^ V0.B.ln)
      rw [(files_01_z h0 hN).1, (files_01_z h0 hN).2]
      have go := fun x10 : Int32 => l350 (optI (cnt V0 V0.f) (-4)) x6 x7 x10 I4 r4 f9
      cases e : fileN V0 (nI (celN_z I 12 % 61)) (2 ^ V0.B.ln) with
      | none =>
        rw [e] at go
        exact ⟨fun _ => ⟨fun _ => go _, fun q => absurd rfl q⟩, fun q => absurd rfl q⟩
      | some b =>
        rw [e] at go h9
        obtain ⟨b1, b2, ⟨cb, b3, b4⟩, b5⟩ := h9
        have hcb := hlt _ cb b3
        have hb64 : b < 64 := by omega
        have hp7 : popN 6 b < 7 := (by decide +kernel : ∀ a, a < 64 → popN 6 a < 7) _ hb64
        show (nI (popN 6 b) = -4 → _) ∧ (¬ (nI (popN 6 b) = -4) → _)
        refine ⟨fun q => ?_, fun _ => c_size_z (a := b) (by omega) hb64 ⟨fun _ => k_count_z hd8 r4 _ ⟨fun _ => ?_, fun q => absurd ?_ q⟩, fun q => absurd rfl q⟩⟩
        · have : nI (popN 6 b) < 0 := by rw [q]; exact (by decide +kernel : (-4 : Int32) < 0)
          exact absurd this (nI_pos (by omega))
        · -- nothing filed, where it opens in time as it is
          show (nI (popN 6 b) = 0 → _) ∧ (¬ (nI (popN 6 b) = 0) → _)
          rw [n_e0 (by omega), (optI_neg_z (hlt V0.f)).1, optI_lt_z (hlt V0.f) _ (by omega)]
          refine ⟨fun z => ?_, fun z => ?_⟩
          · have eb := pop_0_z b hb64 z
            rw [eb, Nat.or_zero] at b3
            refine ⟨fun q => (by rw [b3] at q; cases q), fun _ => ⟨fun ⟨c, q1, q2⟩ => ?_, fun _ => go _⟩⟩
            rw [b3] at q1
            rw [← Option.some.inj q1] at q2
            exact absurd ((n_lt (by omega) (by omega)).mpr q2) b4
          · refine ⟨fun _ => v_Lw_filed_0_100_57_336 ⟨fun _ => go _, fun q => absurd rfl q⟩, fun e1 => ⟨fun _ => v_Lw_filed_0_100_57_336 ⟨fun _ => go _, fun q => absurd rfl q⟩, fun e2 => ?_⟩⟩
            exfalso
            cases e3 : cnt V0 V0.f with
            | none => exact e1 e3
            | some c =>
              have hc := hlt _ c e3
              have := b5 0 (Nat.pow_pos (by decide)) (Nat.zero_and _) c (by rw [Nat.or_zero]; exact e3) (fun q => e2 ⟨c, e3, (n_lt (by omega) (by omega)).mp q⟩)
              have e0 : popN 6 0 = 0 := by decide +kernel
              omega
        · show nI b &&& nI V0.f = 0
          rw [n_and, b2]; rfl
  -- each lock by itself
  have l83 : ∀ x6 x7 : Int32, ((keyN V0 V0.B.ln = none ∧ x6 = -4 ∧ x7 = -4) ∨ ∃ b w, keyN V0 V0.B.ln = some (b, w) ∧ x6 = nI b ∧ x7 = nI w) → ∀ k l I', l + k = V0.B.ln → RS_z V0 (some V0) t S I' J → F57_z I I' → Wp (d - 1) Lw_filed (QI F) 83 [some (.ref 0), some (.ref 100), some (.ref 57), some (.long (hsV_z V0)), none, some (.int (optI (cnt V0 V0.f) (-4))), some (.int x6), some (.int x7), some (.int 1), some (.int (nI l)), none, none, none] [] I' J := by
    intro x6 x7 hx k
    induction k with
    | zero => intro l I' hl r f; rw [show l = V0.B.ln by omega]; exact e83 x6 x7 I' r f
    | succ k ih =>
      intro l I' hl r f
      have hl2 : l < V0.B.ln := by omega
      refine v_Lw_filed_0_100_57_83 ⟨fun _ => ⟨fun q => absurd q (by decide), fun _ => k_count_z hd8 r _ ?_⟩, fun q => ?_⟩
      · rw [cnt_5_z, n_bitl_z hf64 (by omega)]
        refine ⟨fun hb => k_fld_z hd8 r hl2 hb (fun I3 r3 f3 z hz => ⟨fun q => absurd q (nI_pos (by omega)), fun _ => k_opens_z hd8 r3 _ (fun I4 r4 f4 => ?_)⟩), fun _ => ?_⟩
        · have f9 : F57_z I I4 := f.tr (f3.tr f4)
          have eo : opensS (fld_z V0 l) (-1) = optI (cnt V0 (V0.f ||| 2 ^ l)) (-4) := opens_m1_z (V := fld_z V0 l) h0
          rw [eo]
          have hlt2 := hlt (V0.f ||| 2 ^ l)
          -- its answer is as told: put back, the next
          have ok193 : ∀ x10 : Int32, x10 = optI (cnt V0 (V0.f ||| 2 ^ l)) (-4) → Wp (d - 1) Lw_filed (QI F) 193 [some (.ref 0), some (.ref 100), some (.ref 57), some (.long (hsV_z V0)), none, some (.int (optI (cnt V0 V0.f) (-4))), some (.int x6), some (.int x7), some (.int 1), some (.int (nI l)), some (.int x10), none, none] [.int 1] I4 J := by
            intro x10 e10
            have nxt : CI (d - 1) Sb_restore [.ref 0] I4 J (fun v1 I1 J1 => (v1 = 1 → Wp (d - 1) Lw_filed (QI F) 83 [some (.ref 0), some (.ref 100), some (.ref 57), some (.long (hsV_z V0)), none, some (.int (optI (cnt V0 V0.f) (-4))), some (.int x6), some (.int x7), some (.int 1), some (.int (nI l + 1)), none, none, none] [] I1 J1) ∧ (¬ (v1 = 1) → Wp (d - 1) Lw_filed (QI F) 83 [some (.ref 0), some (.ref 100), some (.ref 57), some (.long (hsV_z V0)), none, some (.int (optI (cnt V0 V0.f) (-4))), some (.int x6), some (.int x7), some (.int 0), some (.int (nI l + 1)), none, none, none] [] I1 J1)) := by
              refine k_restore_z hd8 r4 (fun I5 r5 f5 => ⟨fun _ => ?_, fun q => absurd rfl q⟩)
              rw [n_inc]; exact ih (l + 1) I5 (by omega) r5 (f9.tr f5)
            refine v_Lw_filed_0_100_57_193 ⟨fun q => absurd q (by decide), fun _ => ⟨fun _ => nxt, fun e1 => ?_⟩⟩
            have e1 : ¬ cnt V0 V0.f = none := fun q => e1 ((optI_neg_z (hlt V0.f)).1.mpr q)
            cases e3 : cnt V0 V0.f with
            | none => exact absurd e3 e1
            | some c =>
              obtain ⟨c', k1, k2⟩ := cnt_mono_z hW (or_bits_z V0.f (2 ^ l)) e3
              have hc := hlt _ c e3
              rw [e10, k1]
              rw [e3] at nxt
              exact ⟨fun q => absurd q (nI_pos (by omega)), fun _ => ⟨fun q => by have := (n_lt (by omega) (by omega)).mp q; omega, fun _ => nxt⟩⟩
          have ok188 := fun (x10 : Int32) (e : x10 = optI (cnt V0 (V0.f ||| 2 ^ l)) (-4)) => v_Lw_filed_0_100_57_188 (ok193 x10 e)
          refine v_Lw_filed_0_100_57_128 ?_
          rcases hx with ⟨k1, k2, k3⟩ | ⟨b, w, k1, k2, k3⟩
          · rw [k1] at hkey
            have ec := hkey l hl2 hb
            refine ⟨fun q => ?_, fun _ => ⟨fun _ => ok188 _ rfl, fun q => absurd ?_ q⟩⟩
            · rw [k2] at q
              have : nI l < 0 := by rw [q]; exact (by decide +kernel : (-4 : Int32) < 0)
              exact absurd this (nI_pos (by omega))
            · rw [ec]; rfl
          · rw [k1] at hkey
            obtain ⟨g1, g2, g3, g4⟩ := hkey
            have hw2 := hlt _ w g3
            rw [k2, k3, n_eq (by omega) (by omega), n_lt (a := l) (by omega) (by omega)]
            rw [k2, k3] at ok188 ok193
            refine ⟨fun q => ⟨fun _ => ok193 _ rfl, fun q2 => absurd ?_ q2⟩, fun q => ⟨fun _ => ok188 _ rfl, fun q2 => ⟨fun q3 => absurd q3 (nI_pos (by omega)), fun _ => ?_⟩⟩⟩
            · rw [q, g3]; rfl
            · have q2 : ¬ cnt V0 (V0.f ||| 2 ^ l) = none := fun z => q2 (by rw [z]; rfl)
              cases e3 : cnt V0 (V0.f ||| 2 ^ l) with
              | none => exact absurd e3 q2
              | some c =>
                have hc := hlt _ c e3
                obtain ⟨g5, g6⟩ := g4 l hl2 hb c e3
                rw [e3] at ok188
                have ok := ok188 _ rfl
                exact ⟨fun z => ⟨fun _ => ok, fun z2 => absurd ((n_lt (by omega) (by omega)).mpr (g6 z)) z2⟩, fun _ => ⟨fun z2 => by have := (n_lt (by omega) (by omega)).mp z2; omega, fun _ => ok⟩⟩
        · rw [n_inc]; exact ih (l + 1) I' (by omega) r f
      · rw [(hw.f f).2] at q; exact absurd ((n_lt (by omega) (by omega)).mpr (by omega)) q
  refine CI.of (by omega) rfl (v_Lw_filed_0_100_57_0 (k_opens_z hd8 hR _ (fun I1 r1 f1 => k_key_z hd8 r1 _ (fun I3 r3 f3 => k_key_z hd8 r3 _ (fun I4 r4 f4 => ?_)))))
  have f9 : F57_z I I4 := f1.tr (f3.tr f4)
  rw [hnow, key_0_z, key_1_z]
  cases e : keyN V0 V0.B.ln with
  | none => exact ⟨fun _ => ⟨fun _ => l83 _ _ (Or.inl ⟨e, rfl, rfl⟩) V0.B.ln 0 I4 (Nat.zero_add _) r4 f9, fun q => absurd rfl q⟩, fun q => absurd rfl q⟩
  | some x =>
    obtain ⟨b, w⟩ := x
    rw [e] at hkey
    obtain ⟨g1, g2, g3, g4⟩ := hkey
    have hw2 := hlt _ w g3
    have n4 : ∀ a, a < 2000 → ¬ nI a = -4 := fun a ha q => by
      have : nI a < 0 := by rw [q]; exact (by decide +kernel : (-4 : Int32) < 0)
      exact nI_pos (by omega) this
    show (nI b = -4 → _) ∧ (¬ (nI b = -4) → _)
    refine ⟨fun q => absurd q (n4 b (by omega)), fun _ => ⟨fun q => absurd q (n4 w (by omega)), fun _ => k_count_z hd8 r4 _ ⟨fun _ => ⟨fun q => absurd q (nI_pos (n := w) (by omega)), fun _ => l83 _ _ (Or.inr ⟨b, w, e, rfl, rfl⟩) V0.B.ln 0 I4 (Nat.zero_add _) r4 f9⟩, fun q => absurd ?_ q⟩⟩⟩
    exact (n_bitl_z hf64 (show b < 6 by omega)).mpr g2
end FLE
