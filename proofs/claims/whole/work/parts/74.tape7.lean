/-! the tape: the model reads locks, a box -/
section TAPE7
variable {d : Nat} {t : Tpe} {V : Bv} {I : I2} {J : J2} {G : I2 → J2 → Prop} {F : Int32 → I2 → J2 → Prop}
theorem lks_m0 (hd : 2 ≤ d) {x1 x2 : Int32} {q : Nat} {I1 : I2} (A : I2 → J2 → Prop) (A2 : Int32 → I2 → J2 → Prop) (h1 : FrB I I1) (h4 : I1 57 4 = 0) (h3 : I1 57 3 = nI q) (h : ∀ v I', FrB I I' → I' 57 4 = 1 → I' 57 3 = nI q → F v I' J) : CV d Md_must [.ref 57, .int 0] I1 J (fun I2 J2 => (I2 57 4 = 0 → A I2 J2) ∧ (¬ (I2 57 4 = 0) → CI d Md_placesRead [.ref 57, .int 0] I2 J2 (fun v3 I3 J3 => (I3 57 4 = 0 → A2 v3 I3 J3) ∧ (¬ (I3 57 4 = 0) → Wp d Md_locksRead (QI F) 2 [some (.ref 57), some (.int x1), some (.int (x2 + 1)), none, none, none, none, none] [] I3 J3)))) :=
  c_Md_must0 (by omega) h4 (fun I2 z1 z2 z3 => ⟨fun q => absurd (z2.symm.trans q) (by decide), fun _ => c_Md_placesF (by omega) z2 (fun I3 y1 y2 y3 => ⟨fun q => absurd (y2.symm.trans q) (by decide), fun _ => lks_f2 FrB.rf ((h1.tr z1.b).tr y1.b) y2 (by rw [y3, z3]; exact h3) h⟩)⟩)
theorem c_Md_locksRead {B : Bx} {p : Nat} (hd : 4 ≤ d) (hW : WFT t) (hT : TpM t I) (hp : p ≤ t.1) (hat : AtM t p I) (h4 : I 57 4 = 0) (hB : WFB B) (h1p : 1 ≤ B.pn) (hl : B.ln = 0) (hR : RpM B I) (hF : ∀ v q I', pLks t 6 0 p B = (q, none) → FrB I I' → I' 57 4 = 1 → I' 57 3 = nI q → F v I' J) (hM : ∀ v q I', pLks t 6 0 p B = (q, none) → FrB I I' → I' 57 4 = 0 → I' 57 3 = nI q → skT t q = q → q ≤ t.1 → hrT t q ≠ 0 → F v I' J) (hS : ∀ q B' I', pLks t 6 0 p B = (q, some B') → FrB I I' → I' 57 4 = 0 → I' 57 3 = nI q → q ≤ t.1 → hrT t q = 0 → RpM B' I' → RlM B' I' → I' 57 6 = I 57 6 → F (nI B'.ln) I' J) : CI d Md_locksRead [.ref 57, .int (nI B.pn)] I J F := by
  have loop : ∀ r l p B1 I1, l + r = 6 → p ≤ t.1 → FrB I I1 → I1 57 6 = I 57 6 → I1 57 4 = 0 → AtM t p I1 → WFB B1 → B1.pn = B.pn → B1.ln = l → RpM B1 I1 → RlM B1 I1 → (∀ v q I', pLks t r l p B1 = (q, none) → FrB I I' → I' 57 4 = 1 → I' 57 3 = nI q → F v I' J) → (∀ v q I', pLks t r l p B1 = (q, none) → FrB I I' → I' 57 4 = 0 → I' 57 3 = nI q → skT t q = q → q ≤ t.1 → hrT t q ≠ 0 → F v I' J) → (∀ q B' I', pLks t r l p B1 = (q, some B') → FrB I I' → I' 57 4 = 0 → I' 57 3 = nI q → q ≤ t.1 → hrT t q = 0 → RpM B' I' → RlM B' I' → I' 57 6 = I 57 6 → F (nI B'.ln) I' J) → Wp (d - 1) Md_locksRead (QI F) 2 [some (.ref 57), some (.int (nI B.pn)), some (.int (nI l)), none, none, none, none, none] [] I1 J := by
    intro r
    induction r with
    | zero =>
      intro l p B1 I1 hr hp hFr h6 h4 hat hB1 hpn hln hR hL kF kM kS
      have hb := hr_bd (p := p) hW
      refine v_Md_locksRead_57_2 ⟨fun _ => ⟨fun q => absurd ((n_e0 (by omega)).mp q) (by omega), fun _ => c_Md_here (by omega) hW (hFr.tpm hT) hat (fun I2 z1 z2 => ?_)⟩, fun q => absurd h4 q⟩
      have h42 : I2 57 4 = 0 := by rw [z1.2 4 (by decide)]; exact h4
      have F2 := hFr.tr z1.u.b
      rw [show (nI (hrT t p) = 44) = (nI (hrT t p) = nI 44) from rfl, n_eq (by omega) (by decide)]
      refine ⟨fun e => ⟨fun _ => ⟨fun q => absurd ((n_lt (b := 6) (by omega) (by decide)).mp q) (by omega), fun _ => v_Md_locksRead_57_38 (c_Md_must0 (by omega) h42 (fun I3 y1 y2 y3 => c_Md_digitF (by omega) y2 (fun I4 w1 w2 w3 => ⟨fun q => absurd (w2.symm.trans q) (by decide), fun _ => lks_f65 (by omega) ((F2.tr y1.b).tr w1.b) w2 (by rw [w3, y3]; exact z2) (fun v I' v1 v2 v3 => kF v _ I' ?_ v1 v2 v3)⟩)))⟩, fun q => absurd ((n_p0 (by omega)).mpr (by omega)) q⟩, fun e => QI_i.mpr ?_⟩
      · simp only [pLks]; rw [if_neg (by rw [e]; decide)]
      · by_cases e0 : hrT t p = 0
        · have := kS (skT t p) B1 I2 (by simp only [pLks]; rw [if_pos e0]) F2 h42 z2 hat.le (by rw [hr_same hat.ss]; exact e0) (RpM_u hR z1.u) (RlM_u hL z1.u) (by rw [z1.2 6 (by decide)]; exact h6)
          rw [hln] at this; exact this
        · exact kM _ (skT t p) I2 (by simp only [pLks]; rw [if_neg e0]) F2 h42 z2 hat.ss hat.le (by rw [hr_same hat.ss]; exact e0)
    | succ r ih =>
      intro l p B1 I1 hr hp hFr h6 h4 hat hB1 hpn hln hR hL kF kM kS
      have hp5 := hB1.1
      have hb := hr_bd (p := p) hW
      have core : ∀ (p1 : Nat) (I2 : I2), p1 = (if 0 < l then skT t p + 1 else p) → ¬ (0 < l ∧ hrT t p ≠ 44) → p1 ≤ t.1 → FrB I I2 → I2 57 6 = I 57 6 → I2 57 4 = 0 → AtM t p1 I2 → RpM B1 I2 → RlM B1 I2 → CI (d - 1) Md_digit [.ref 57, .int 0, .int (nI B.pn - 1)] I2 J (fun v1 I3 J3 => (I3 57 4 = 0 → CI (d - 1) Md_here [.ref 57] I3 J3 (fun v2 I4 J4 => Wp (d - 1) Md_locksRead (QI F) 65 [some (.ref 57), some (.int (nI B.pn)), some (.int (nI l)), some (.int v1), none, none, none, none] [.int v2] I4 J4)) ∧ (¬ (I3 57 4 = 0) → Wp (d - 1) Md_locksRead (QI F) 65 [some (.ref 57), some (.int (nI B.pn)), some (.int (nI l)), some (.int v1), none, none, none, none] [.int 0] I3 J3)) := by
        intro p1 I2 ep hc hp1 hF2 h62 h42 hat2 hR2 hL2
        have es : ∀ z, pLk1 t B1 p1 = z → pLks t (r + 1) l p B1 = match z with
            | (q, none) => (q, none)
            | (q, some x) => pLks t r (l + 1) q (B1.addL x.1 x.2.1 x.2.2.1 x.2.2.2) := by
          intro z ez
          simp only [pLks]; rw [if_neg hc, ← ep, ez]; rfl
        have flt : ∀ q, pLk1 t B1 p1 = (q, none) → ∀ v I', FrB I I' → I' 57 4 = 1 → I' 57 3 = nI q → F v I' J := fun q e v I' => kF v q I' (es _ e)
        rw [n_dec (by omega)]
        have ehi : B.pn - 1 = B1.pn - 1 := by rw [hpn]
        refine c_Md_digit (lo := 0) (hi := B.pn - 1) (by omega) hW (hF2.tpm hT) hat2 h42 (by decide) (by omega) (fun q v I3 e z0 z1 z2 z3 => ⟨fun y => absurd (z2.symm.trans y) (by decide), fun _ => lks_f65 (by omega) (hF2.tr z1.b) z2 z3 (flt q ?_)⟩) (fun q a I3 e z0 z8 z9 z1 z2 z3 => ⟨fun _ => ?_, fun y => absurd z2 y⟩)
        · unfold pLk1; rw [← ehi, e]
        · have hbq := hr_bd (p := q) hW
          have F3 := hF2.tr z1.b
          refine c_Md_here (by omega) hW (F3.tpm hT) (AtM_of z0 z3) (fun I4 y1 y2 => ?_)
          have F4 := F3.tr y1.u.b
          have h44 : I4 57 4 = 0 := by rw [y1.2 4 (by decide)]; exact z2
          have h64 : I4 57 6 = I 57 6 := by rw [y1.2 6 (by decide), z1.2 6 (by decide) (by decide)]; exact h62
          have R4 := RpM_u (RpM_u hR2 z1) y1.u
          have L4 := RlM_u (RlM_u hL2 z1) y1.u
          have at101 : ∀ s0 x4, s0 = oI (idW (hrT t q)) → Wp (d - 1) Md_locksRead (QI F) 101 [some (.ref 57), some (.int (nI B.pn)), some (.int (nI l)), some (.int (nI a)), some (.int x4), none, none, none] [.int s0] I4 J := by
            rintro s0 x4 rfl
            have k5 : ∀ j, idW (hrT t q) = some j → j < 2 ^ 31 := fun j hj => by have := (idW_3 hj).1; omega
            refine v_Md_locksRead_57_101 ⟨fun en => ?_, fun en => ?_⟩
            · have en := (oI_neg k5).mp en
              refine c_Md_must0 (by omega) h44 (fun I5 w1 w2 w3 => ⟨fun y => absurd (w2.symm.trans y) (by decide), fun _ => lks_f135 (by omega) (F4.tr w1.b) w2 (w3.trans y2) (flt _ ?_)⟩)
              unfold pLk1; rw [← ehi, e]; dsimp only; rw [en]
            · cases ew : idW (hrT t q) with
              | none => rw [ew] at en; exact absurd (by decide) en
              | some w =>
                obtain ⟨ew2, ewn⟩ := idW_3 ew
                have hlq : skT t q + 1 ≤ t.1 := hr_lt ewn
                refine c_Md_must1 (by omega) h44 (fun I5 w1 w2 w3 => ⟨fun _ => ?_, fun y => absurd w2 y⟩)
                have h35 : I5 57 3 = nI (skT t q + 1) := by rw [w3, y2, n_inc]
                have F5 := F4.tr w1.b
                have hb2 := hr_bd (p := skT t q + 1) hW
                refine c_Md_here (by omega) hW (F5.tpm hT) (AtM_of hlq h35) (fun I6 v1 v2 => ?_)
                have F6 := F5.tr v1.u.b
                have h46 : I6 57 4 = 0 := by rw [v1.2 4 (by decide)]; exact w2
                have h66 : I6 57 6 = I 57 6 := by rw [v1.2 6 (by decide), w1.2 6 (by decide) (by decide)]; exact h64
                have R6 := RpM_u (RpM_u R4 w1) v1.u
                have L6 := RlM_u (RlM_u L4 w1) v1.u
                have sl2 : skT t (skT t q + 1) ≤ t.1 := sk_le hlq
                refine v_Md_locksRead_57_135 (c_Md_in (by omega) ?_)
                rw [show (0 : Int64) = (nI 0).toInt64 from by decide, n_dec (by omega), in_m48 (by omega) (by decide) (by omega), bI_0, decide_eq_false_iff_not]
                refine ⟨fun ec => lks_m0 (by omega) _ _ F6 h46 v2 (flt _ ?_), fun ec => ⟨fun ea => lks_m0 (by omega) _ _ F6 h46 v2 (flt _ ?_), fun ea => ?_⟩⟩
                · unfold pLk1; rw [← ehi, e]; dsimp only; rw [ew]; dsimp only
                  rw [if_neg (fun y => ec (by omega)), show pDig t 0 (B.pn - 1) (skT t q + 1) = (skT t (skT t q + 1), none) from if_neg ec]
                · rw [show (48 : Int32) = nI 48 from rfl, sub_eq (by omega) (by decide) (by omega)] at ea
                  unfold pLk1; rw [← ehi, e]; dsimp only; rw [ew]; dsimp only
                  rw [if_pos ea]
                · rw [show (48 : Int32) = nI 48 from rfl, sub_eq (by omega) (by decide) (by omega)] at ea
                  have ec := Classical.not_not.mp ec
                  have ho : hrT t (skT t q + 1) - 48 < B1.pn := by omega
                  have hdp := (hB1.2.2.1 _ ho).2.2
                  have hl2 : skT t (skT t q + 1) + 1 ≤ t.1 := hr_lt (t := t) (p := skT t q + 1) (by omega)
                  have ed : pDig t 0 (B.pn - 1) (skT t q + 1) = (skT t (skT t q + 1) + 1, some (hrT t (skT t q + 1) - 48)) := if_pos ec
                  have ek : pLk1 t B1 p1 = if (pPl t (B1.dp (hrT t (skT t q + 1) - 48)) (B1.dp (hrT t (skT t q + 1) - 48) + 1) 0 0 (skT t (skT t q + 1) + 1)).2 = 0 then (skT t (pPl t (B1.dp (hrT t (skT t q + 1) - 48)) (B1.dp (hrT t (skT t q + 1) - 48) + 1) 0 0 (skT t (skT t q + 1) + 1)).1, none) else ((pPl t (B1.dp (hrT t (skT t q + 1) - 48)) (B1.dp (hrT t (skT t q + 1) - 48) + 1) 0 0 (skT t (skT t q + 1) + 1)).1, some (a, w, hrT t (skT t q + 1) - 48, (pPl t (B1.dp (hrT t (skT t q + 1) - 48)) (B1.dp (hrT t (skT t q + 1) - 48) + 1) 0 0 (skT t (skT t q + 1) + 1)).2)) := by
                    unfold pLk1; rw [← ehi, e]; dsimp only; rw [ew]; dsimp only; rw [if_neg ea, ed]
                  rw [show (48 : Int32) = nI 48 from rfl, n_sub (by omega)]
                  generalize hrT t (skT t q + 1) - 48 = o at ho hdp ek ⊢
                  refine c_Md_must1 (by omega) h46 (fun I7 u1 u2 u3 => ⟨fun _ => ?_, fun y => absurd u2 y⟩)
                  have h37 : I7 57 3 = nI (skT t (skT t q + 1) + 1) := by rw [u3, v2, n_inc]
                  have F7 := F6.tr u1.b
                  have R7 := RpM_u R6 u1
                  have L7 := RlM_u L6 u1
                  have h67 : I7 57 6 = I 57 6 := by rw [u1.2 6 (by decide) (by decide)]; exact h66
                  rw [show (2 : Int32) * nI o = nI (2 * o) from pk_mul 2 o, n_inc, n_tN (by omega), (R7 o ho).2]
                  generalize skT t (skT t q + 1) + 1 = p3 at hl2 ek h37
                  refine ⟨n_vp (by omega) (by decide), c_Md_placesRead (by omega) hW (F7.tpm hT) (AtM_of hl2 h37) u2 hdp (fun e9 v I8 s1 s2 s3 => ⟨fun y => absurd (s2.symm.trans y) (by decide), fun _ => lks_f2 FrB.rf (F7.tr s1.b) s2 s3 (flt _ ?_)⟩) (fun q3 ps I8 e9 s0 s1 s2 s3 => ⟨fun _ => ?_, fun y => absurd s2 y⟩)⟩
                  · have e10 : pPl t (B1.dp o) (B1.dp o + 1) 0 0 p3 = (skT t p3, 0) := by simp only [pPl]; rw [e9]
                    rw [e10] at ek
                    rw [if_pos rfl] at ek
                    dsimp only at ek
                    rw [sk_sk hl2] at ek
                    exact ek
                  · have hq3 : q3 ≤ t.1 := by
                      have := pPl_le (t := t) (dp := B1.dp o) (B1.dp o + 1) 0 0 p3 hl2
                      rw [e9] at this; exact this
                    rw [e9] at ek
                    rw [if_neg s0] at ek
                    have es2 := es _ ek
                    obtain ⟨x1, x2, x3, x4, x5⟩ := pLk1_wf hB1 (by omega) ek
                    have F8 := F7.tr s1.b
                    have e4l : (4 : Int32) * nI l = nI (4 * l) := pk_mul 4 l
                    rw [e4l, show nI (4 * l) + 1 = nI (4 * l + 1) from n_inc _, show nI (4 * l) + 2 = nI (4 * l + 2) from nI_add _ 2, show nI (4 * l) + 3 = nI (4 * l + 3) from nI_add _ 3, n_inc, n_tN (by omega), n_tN (by omega), n_tN (by omega), n_tN (by omega)]
                    refine ⟨n_vp (by omega) (by decide), n_vp (by omega) (by decide), n_vp (by omega) (by decide), n_vp (by omega) (by decide), ?_⟩
                    refine ih (l + 1) q3 (B1.addL a w o ps) _ (by omega) hq3 (F8.tr (FrB_61.tr (FrB_61.tr (FrB_61.tr FrB_61)))) (by simp [up2]; rw [s1.2 6 (by decide) (by decide)]; exact h67) (by simp [up2]; exact s2) ?_ (hB1.addL (by omega) x1 x2 x3 x4 x5) hpn (by show B1.ln + 1 = l + 1; omega) (fun j hj => by simp [up2]; exact RpM_u R7 s1 j hj) (fun j hj => ?_) (fun v q I9 e9 => kF v q I9 (es2.trans e9)) (fun v q I9 e9 => kM v q I9 (es2.trans e9)) (fun q B' I9 e9 => kS q B' I9 (es2.trans e9))
                    · obtain ⟨p', y1, y2, y3⟩ := s3
                      exact ⟨p', y1, y2, by simp [up2]; exact y3⟩
                    · have hj : j < B1.ln + 1 := hj
                      show _ = nI (updN B1.ow B1.ln a j) ∧ _ = nI (updN B1.wy B1.ln w j) ∧ _ = nI (updN B1.ot B1.ln o j) ∧ _ = nI (updN B1.ps B1.ln ps j)
                      rw [hln]
                      by_cases ej : j = l
                      · subst ej; simp [up2, upd, updN]; rfl
                      · have L8 := RlM_u L7 s1 j (by omega)
                        have n1 : ¬ 4 * j = 4 * l := by omega
                        have n2 : ¬ 4 * j = 4 * l + 1 := by omega
                        have n3 : ¬ 4 * j = 4 * l + 2 := by omega
                        have n4 : ¬ 4 * j = 4 * l + 3 := by omega
                        have m1 : ¬ 4 * j + 1 = 4 * l := by omega
                        have m2 : ¬ 4 * j + 1 = 4 * l + 2 := by omega
                        have m3 : ¬ 4 * j + 1 = 4 * l + 3 := by omega
                        have o1 : ¬ 4 * j + 2 = 4 * l := by omega
                        have o2 : ¬ 4 * j + 2 = 4 * l + 1 := by omega
                        have o3 : ¬ 4 * j + 2 = 4 * l + 3 := by omega
                        have r1 : ¬ 4 * j + 3 = 4 * l := by omega
                        have r2 : ¬ 4 * j + 3 = 4 * l + 1 := by omega
                        have r3 : ¬ 4 * j + 3 = 4 * l + 2 := by omega
                        simp [up2, upd, updN, ej, n1, n2, n3, n4, m1, m2, m3, o1, o2, o3, r1, r2, r3]
                        exact L8
          refine v_Md_locksRead_57_65 ?_
          rw [show (nI (hrT t q) = 60) = (nI (hrT t q) = nI 60) from rfl, n_eq (by omega) (by decide), show (nI (hrT t q) = 62) = (nI (hrT t q) = nI 62) from rfl, n_eq (by omega) (by decide), show (nI (hrT t q) = 61) = (nI (hrT t q) = nI 61) from rfl, n_eq (by omega) (by decide)]
          unfold idW at at101
          refine ⟨fun f => at101 _ _ ?_, fun f1 => ⟨fun f => at101 _ _ ?_, fun f2 => ⟨fun f => at101 _ _ ?_, fun f3 => at101 _ _ ?_⟩⟩⟩
          · rw [if_pos f]; rfl
          · rw [if_neg f1, if_pos f]; rfl
          · rw [if_neg f1, if_neg f2, if_pos f]; rfl
          · rw [if_neg f1, if_neg f2, if_neg f3]; rfl
      refine v_Md_locksRead_57_2 ⟨fun _ => ⟨fun e0 => ⟨fun q => absurd (by rw [e0] at q; exact q) (by decide), fun _ => ?_⟩, fun e0 => ?_⟩, fun q => absurd h4 q⟩
      · have e0 : l = 0 := (n_e0 (by omega)).mp e0
        exact core p I1 (by rw [if_neg (by omega)]) (fun q => by omega) hp hFr h6 h4 hat hR hL
      · have hl0 : 0 < l := Nat.pos_of_ne_zero (fun q => e0 ((n_e0 (by omega)).mpr q))
        refine c_Md_here (by omega) hW (hFr.tpm hT) hat (fun I2 z1 z2 => ?_)
        have h42 : I2 57 4 = 0 := by rw [z1.2 4 (by decide)]; exact h4
        have F2 := hFr.tr z1.u.b
        rw [show (nI (hrT t p) = 44) = (nI (hrT t p) = nI 44) from rfl, n_eq (by omega) (by decide)]
        refine ⟨fun e => ⟨fun _ => ⟨fun _ => v_Md_locksRead_57_38 (c_Md_must1 (by omega) h42 (fun I3 y1 y2 y3 => ?_)), fun q => absurd ((n_lt (b := 6) (by omega) (by decide)).mpr (by omega)) q⟩, fun q => absurd ((n_p0 (by omega)).mpr (by omega)) q⟩, fun e => QI_i.mpr ?_⟩
        · have hlt := hr_lt (t := t) (p := p) (by rw [e]; decide)
          have h33 : I3 57 3 = nI (skT t p + 1) := by rw [y3, z2, n_inc]
          exact core (skT t p + 1) I3 (by rw [if_pos hl0]) (fun q => q.2 e) hlt (F2.tr y1.b) (by rw [y1.2 6 (by decide) (by decide), z1.2 6 (by decide)]; exact h6) y2 (AtM_of hlt h33) (RpM_u (RpM_u hR z1.u) y1) (RlM_u (RlM_u hL z1.u) y1)
        · by_cases e0 : hrT t p = 0
          · have := kS (skT t p) B1 I2 (by simp only [pLks]; rw [if_pos ⟨hl0, e⟩, if_pos e0]) F2 h42 z2 hat.le (by rw [hr_same hat.ss]; exact e0) (RpM_u hR z1.u) (RlM_u hL z1.u) (by rw [z1.2 6 (by decide)]; exact h6)
            rw [hln] at this; exact this
          · exact kM _ (skT t p) I2 (by simp only [pLks]; rw [if_pos ⟨hl0, e⟩, if_neg e0]) F2 h42 z2 hat.ss hat.le (by rw [hr_same hat.ss]; exact e0)
  exact CI.of (by omega) rfl (v_Md_locksRead_57_0 (loop 6 0 p B I rfl hp FrB.rf rfl h4 hat hB rfl hl hR (fun j hj => by rw [hl] at hj; exact absurd hj (Nat.not_lt_zero j)) hF hM hS))
end TAPE7
