/-! the tape: the calls of the class -/
section TAPE4
variable {d : Nat} {t : Tpe} {lid : Option Nat} {V : Bv} {I : I2} {J : J2} {G : I2 → J2 → Prop} {F : Int32 → I2 → J2 → Prop}
theorem c_Tp_readLocks {B : Bx} {p : Nat} (hd : 5 ≤ d) (hW : WFT t) (hT : TpC t I) (hp : p ≤ t.1) (h2 : AtC t p I) (hB : WFB B) (h1p : 1 ≤ B.pn) (hl : B.ln = 0) (hD : DrC B lid I) (h0 : ∀ q I', pLks t 6 0 p B = (q, none) → FrP I I' → I' 31 2 = nI q → F 0 I' J) (h1 : ∀ q B' I', pLks t 6 0 p B = (q, some B') → FrP I I' → DrC B' lid I' → F 1 I' J) : CI d Tp_readLocks [.ref 31, .ref 21] I J F := by
  have fin : ∀ (r l p : Nat) (B : Bx) (I1 : I2), FrP I I1 → DrC B lid I1 → (hrT t p = 0 → ∀ q I', q = skT t p → FrP I I' → DrC B lid I' → F 1 I' J) → (hrT t p ≠ 0 → ∀ I', FrP I I' → I' 31 2 = nI (skT t p) → F 0 I' J) → AtC t p I1 → CI (d - 1) Tp_isEnd [.ref 31] I1 J (fun v I2 J2 => (v = 0 ∨ v = 1) ∧ QI F (some (.int v)) I2 J2) := by
    intro r l p B I1 hF hD1 k1 k0 hat
    refine c_Tp_isEnd (by omega) hW (hF.tpc hT) hat (fun I' z1 z2 => ⟨bI_01 _, QI_i.mpr ?_⟩)
    by_cases e : hrT t p = 0
    · rw [decide_eq_true e]; exact k1 e _ I' rfl (hF.tr z1.p) (DrC_t hD1 z1)
    · rw [decide_eq_false e]; exact k0 e I' (hF.tr z1.p) z2
  have loop : ∀ r l p B I1, l + r = 6 → p ≤ t.1 → FrP I I1 → AtC t p I1 → WFB B → 1 ≤ B.pn → B.ln = l → DrC B lid I1 → (∀ q I', pLks t r l p B = (q, none) → FrP I I' → I' 31 2 = nI q → F 0 I' J) → (∀ q B' I', pLks t r l p B = (q, some B') → FrP I I' → DrC B' lid I' → F 1 I' J) → Wp (d - 1) Tp_readLocks (QI F) 2 [some (.ref 31), some (.ref 21), some (.int (nI l))] [] I1 J := by
    intro r
    induction r with
    | zero =>
      intro l p B I1 hr hp hF hat hB h1p hl hD1 k0 k1
      refine v_Tp_readLocks_31_21_2 ⟨fun q => absurd ((n_lt (b := 6) (by omega) (by decide)).mp q) (by omega), fun _ => fin 0 l p B I1 hF hD1 (fun e q I' eq z1 z2 => k1 q B I' ?_ z1 z2) (fun e I' z1 z2 => k0 _ I' ?_ z1 z2) hat⟩
      · simp only [pLks]; rw [if_pos e, eq]
      · simp only [pLks]; rw [if_neg e]
    | succ r ih =>
      intro l p B I1 hr hp hF hat hB h1p hl hD1 k0 k1
      have lock : ∀ (p1 : Nat) (I2 : I2), p1 = (if 0 < l then skT t p + 1 else p) → ¬ (0 < l ∧ hrT t p ≠ 44) → p1 ≤ t.1 → FrP I I2 → AtC t p1 I2 → DrC B lid I2 → CI (d - 1) Tp_readLock [.ref 31, .ref 21] I2 J (fun v I3 J3 => (v = 0 → QI F (some (.int 0)) I3 J3) ∧ (¬ (v = 0) → Wp (d - 1) Tp_readLocks (QI F) 2 [some (.ref 31), some (.ref 21), some (.int (nI l + 1))] [] I3 J3)) := by
        intro p1 I2 ep hc hp1 hF2 hat2 hD2
        refine c_Tp_readLock (by omega) hW (hF2.tpc hT) hat2 hp1 hB h1p (by omega) hD2 (fun q I' e z1 z2 => ⟨fun _ => QI_i.mpr (k0 q I' ?_ (hF2.tr z1) z2), fun z => absurd rfl z⟩) (fun q x I' e zq x1 x2 x3 x4 x5 z1 z2 z3 => ⟨fun z => absurd z (by decide), fun _ => ?_⟩)
        · simp only [pLks]; rw [if_neg hc, ← ep, e]
        · rw [n_inc]
          have es : pLks t (r + 1) l p B = pLks t r (l + 1) q (B.addL x.1 x.2.1 x.2.2.1 x.2.2.2) := by
            simp only [pLks]; rw [if_neg hc, ← ep, e]
          exact ih (l + 1) q _ I' (by omega) zq (hF2.tr z1) (AtC_of zq z2) (hB.addL (by omega) x1 x2 x3 x4 x5) h1p (show B.ln + 1 = l + 1 by omega) z3 (fun q' I4 e4 => k0 q' I4 (es.trans e4)) (fun q' B' I4 e4 => k1 q' B' I4 (es.trans e4))
      refine v_Tp_readLocks_31_21_2 ⟨fun _ => ⟨fun hl0 => ?_, fun hl0 => ?_⟩, fun q => absurd ((n_lt (b := 6) (by omega) (by decide)).mpr (by omega)) q⟩
      · have hl0 : 0 < l := (n_p0 (by omega)).mp hl0
        refine c_Tp_accept (x := 44) (by omega) hW (hF.tpc hT) hat (by decide) (fun e I' z1 z2 => ⟨fun _ => fin r l p B I' (hF.tr z1.p) (DrC_t hD1 z1) (fun e0 q I2 eq y1 y2 => k1 q B I2 ?_ y1 y2) (fun e0 I2 y1 y2 => k0 _ I2 ?_ y1 y2) (hat.sk z2), fun z => absurd rfl z⟩) (fun e I' z1 z2 => ⟨fun z => absurd z (by decide), fun _ => ?_⟩)
        · simp only [pLks]; rw [if_pos ⟨hl0, e⟩, if_pos e0, eq]
        · simp only [pLks]; rw [if_pos ⟨hl0, e⟩, if_neg e0]
        · have hlt := hr_lt (t := t) (p := p) (by rw [e]; decide)
          exact lock (skT t p + 1) I' (by rw [if_pos hl0]) (fun q => q.2 e) hlt (hF.tr z1.p) (AtC_of hlt z2) (DrC_t hD1 z1)
      · have hl0 : ¬ 0 < l := fun q => hl0 ((n_p0 (by omega)).mpr q)
        exact lock p I1 (by rw [if_neg hl0]) (fun q => hl0 q.1) hp hF hat hD1
  exact CI.of (by omega) rfl (v_Tp_readLocks_31_21_0 (loop 6 0 p B I rfl hp FrP.rf h2 hB h1p hl hD h0 h1))
theorem c_Tp_readPanels (hd : 4 ≤ d) (hW : WFT t) (hT : TpC t I) (h2 : I 31 2 = 0) (hD : DrC Bx0 none I) (h0 : ∀ q I', pPan t 5 0 0 Bx0 none = (q, none) → FrP I I' → I' 31 2 = nI q → F 0 I' J) (h1 : ∀ q x I', pPan t 5 0 0 Bx0 none = (q, some x) → FrP I I' → AtC t q I' → DrC x.1 x.2 I' → F 1 I' J) : CI d Tp_readPanels [.ref 31, .ref 21] I J F := by
  have loop : ∀ r k p B lid I1, k + r = 5 → p ≤ t.1 → FrP I I1 → AtC t p I1 → B.pn = k → DrC B lid I1 → (∀ q I', pPan t r k p B lid = (q, none) → FrP I I' → I' 31 2 = nI q → F 0 I' J) → (∀ q x I', pPan t r k p B lid = (q, some x) → FrP I I' → AtC t q I' → DrC x.1 x.2 I' → F 1 I' J) → Wp (d - 1) Tp_readPanels (QI F) 4 [some (.ref 31), some (.ref 21), some (.int (bI lid.isSome)), some (.int (nI k)), none, none] [] I1 J := by
    intro r
    induction r with
    | zero =>
      intro k p B lid I1 hr hp hF hat hk hD1 k0 k1
      exact v_Tp_readPanels_31_21_4 ⟨fun q => absurd ((n_lt (b := 5) (by omega) (by decide)).mp q) (by omega), fun _ => QI_i.mpr (k1 p (B, lid) I1 rfl hF hat hD1)⟩
    | succ r ih =>
      intro k p B lid I1 hr hp hF hat hk hD1 k0 k1
      have tail : ∀ (p1 : Nat) (I2 : I2), p1 = (if 0 < k then skT t p + 1 else p) → ¬ (0 < k ∧ hrT t p ≠ 44) → p1 ≤ t.1 → FrP I I2 → AtC t p1 I2 → DrC B lid I2 → CI (d - 1) Tp_oneOf [.ref 31, .ref 201] I2 J (fun v2 I3 J3 => (v2 < 0 → QI F (some (.int 0)) I3 J3) ∧ (¬ (v2 < 0) → CI (d - 1) Tp_digit [.ref 31, .int 1, .int 3] I3 J3 (fun v3 I4 J4 => (v3 < 0 → QI F (some (.int 0)) I4 J4) ∧ (¬ (v3 < 0) → CI (d - 1) Bx_addPanel [.ref 21, .int v2, .int v3] I4 J4 (fun v4 I5 J5 => (bI lid.isSome = 0 → CI (d - 1) Tp_accept [.ref 31, .int 33] I5 J5 (fun v5 I6 J6 => (v5 = 0 → Wp (d - 1) Tp_readPanels (QI F) 4 [some (.ref 31), some (.ref 21), some (.int (bI lid.isSome)), some (.int (nI k + 1)), none, none] [] I6 J6) ∧ (¬ (v5 = 0) → Wp (d - 1) Tp_readPanels (QI F) 4 [some (.ref 31), some (.ref 21), some (.int 1), some (.int (nI k + 1)), none, none] [] (up2 I6 21 8 (nI k)) J6))) ∧ (¬ (bI lid.isSome = 0) → Wp (d - 1) Tp_readPanels (QI F) 4 [some (.ref 31), some (.ref 21), some (.int (bI lid.isSome)), some (.int (nI k + 1)), none, none] [] I5 J5)))))) := by
        intro p1 I2 ep hc hp1 hF2 hat2 hD2
        refine c_Tp_oneOfK (by omega) hW (hF2.tpc hT) hat2 (fun e I' z1 z2 => ⟨fun _ => QI_i.mpr (k0 _ I' ?_ (hF2.tr z1.p) z2), fun z => absurd (by decide) z⟩) (fun kd e kd4 zl I' z1 z2 => ⟨fun z => absurd z (nI_pos (by omega)), fun _ => ?_⟩)
        · simp only [pPan]; rw [if_neg hc, ← ep]
          have : pPan1 t p1 = (skT t p1, none) := by unfold pPan1; rw [e]
          rw [this]
        · have F3 := hF2.tr z1.p
          refine c_Tp_digit (lo := 1) (hi := 3) (by omega) hW (F3.tpc hT) (AtC_of zl z2) (by decide) (by decide) (fun q I4 e2 y1 y2 y3 => ⟨fun _ => QI_i.mpr (k0 q I4 ?_ (F3.tr y2.p) y3), fun z => absurd (by decide) z⟩) (fun q dp I4 e2 y1 y2 y3 y4 y5 => ⟨fun z => absurd z (nI_pos (by omega)), fun _ => ?_⟩)
          · simp only [pPan]; rw [if_neg hc, ← ep]
            have : pPan1 t p1 = (q, none) := by unfold pPan1; rw [e]; dsimp only; rw [e2]
            rw [this]
          · have F4 := F3.tr y4.p
            have e1 : pPan1 t p1 = (q, some (kd, dp)) := by unfold pPan1; rw [e]; dsimp only; rw [e2]
            have es : pPan t (r + 1) k p B lid = if lid = none ∧ hrT t q = 33 then pPan t r (k + 1) (skT t q + 1) (B.addP kd dp) (some k) else pPan t r (k + 1) q (B.addP kd dp) lid := by
              simp only [pPan]; rw [if_neg hc, ← ep, e1]
            refine c_Bx_addPanel_21 (by omega) (DrC_t (DrC_t hD2 z1) y4) (by omega) (fun I5 w1 w2 w3 => ?_)
            have F5 := F4.tr w2
            have at5 : AtC t q I5 := AtC_of y1 (by rw [w3]; exact y5)
            have hk2 : (B.addP kd dp).pn = k + 1 := by show B.pn + 1 = k + 1; omega
            rw [n_inc]
            refine ⟨fun el => ?_, fun el => ?_⟩
            · have ln : lid = none := by
                cases lid with
                | none => rfl
                | some _ => cases el
              subst ln
              refine c_Tp_accept (x := 33) (by omega) hW (F5.tpc hT) at5 (by decide) (fun e3 I6 x1 x2 => ⟨fun _ => ?_, fun z => absurd rfl z⟩) (fun e3 I6 x1 x2 => ⟨fun z => absurd z (by decide), fun _ => ?_⟩)
              · rw [if_neg (fun z => e3 z.2)] at es
                exact ih (k + 1) q _ none I6 (by omega) y1 (F5.tr x1.p) (at5.sk x2) hk2 (DrC_t w1 x1) (fun q' I7 e7 => k0 q' I7 (es.trans e7)) (fun q' x I7 e7 => k1 q' x I7 (es.trans e7))
              · rw [if_pos ⟨rfl, e3⟩] at es
                have hlt := hr_lt (t := t) (p := q) (by rw [e3]; decide)
                have w6 := DrC_t w1 x1
                refine ih (k + 1) (skT t q + 1) _ (some k) _ (by omega) hlt ((F5.tr x1.p).tr ⟨fun a ha => ?_, fun j _ => by simp [up2]⟩) (AtC_of hlt (by simp [up2]; exact x2)) hk2 ?_ (fun q' I7 e7 => k0 q' I7 (es.trans e7)) (fun q' x I7 e7 => k1 q' x I7 (es.trans e7))
                · have : a ≠ 21 := by omega
                  simp [up2, this]
                · obtain ⟨⟨b1, b2, b3, b4⟩, c8, c9, c10, c15, c16⟩ := w6
                  refine ⟨⟨by simp [up2, upd]; exact b1, by simp [up2, upd]; exact b2, fun j hj => by simp [up2]; exact b3 j hj, fun j hj => by simp [up2]; exact b4 j hj⟩, by simp [up2, upd]; rfl, by simp [up2, upd]; exact c9, by simp [up2, upd]; exact c10, by simp [up2, upd]; exact c15, by simp [up2, upd]; exact c16⟩
            · have ln : ¬ lid = none := fun q => el (by rw [q]; rfl)
              rw [if_neg (fun z => ln z.1)] at es
              exact ih (k + 1) q _ lid I5 (by omega) y1 F5 at5 hk2 w1 (fun q' I7 e7 => k0 q' I7 (es.trans e7)) (fun q' x I7 e7 => k1 q' x I7 (es.trans e7))
      refine v_Tp_readPanels_31_21_4 ⟨fun _ => ⟨fun hk0 => ?_, fun hk0 => ?_⟩, fun q => absurd ((n_lt (b := 5) (by omega) (by decide)).mpr (by omega)) q⟩
      · have hk0 : 0 < k := (n_p0 (by omega)).mp hk0
        refine c_Tp_accept (x := 44) (by omega) hW (hF.tpc hT) hat (by decide) (fun e I' z1 z2 => ⟨fun _ => QI_i.mpr (k1 (skT t p) (B, lid) I' ?_ (hF.tr z1.p) (AtC_of hat.le z2) (DrC_t hD1 z1)), fun z => absurd rfl z⟩) (fun e I' z1 z2 => ⟨fun z => absurd z (by decide), fun _ => ?_⟩)
        · simp only [pPan]; rw [if_pos ⟨hk0, e⟩]
        · have hlt := hr_lt (t := t) (p := p) (by rw [e]; decide)
          exact tail (skT t p + 1) I' (by rw [if_pos hk0]) (fun q => q.2 e) hlt (hF.tr z1.p) (AtC_of hlt z2) (DrC_t hD1 z1)
      · have hk0 : ¬ 0 < k := fun q => hk0 ((n_p0 (by omega)).mpr q)
        exact tail p I1 (by rw [if_neg hk0]) (fun q => hk0 q.1) hp hF hat hD1
  exact CI.of (by omega) rfl (v_Tp_readPanels_31_21_0 (loop 5 0 0 Bx0 none I rfl (Nat.zero_le _) FrP.rf (AtC_of (Nat.zero_le _) h2) rfl hD h0 h1))
/-- what reading a box leaves alone -/
def FrR (I I' : I2) : Prop := ∀ a, (a < 21 ∨ 31 < a) → I' a = I a
theorem c_Tp_read (hd : 6 ≤ d) (hW : WFT t) (hT : TpC t I) (h0 : ∀ q I', boxR t = (q, none) → FrR I I' → I' 31 1 = 0 → F (-20 - nI q) I' J) (h1 : ∀ q x I', boxR t = (q, some x) → FrR I I' → I' 31 1 = 0 → DrC x.1 x.2 I' → F (nI x.1.pn) I' J) : CI d Tp_read [.ref 31, .ref 21] I J F := by
  refine CI.of (by omega) rfl (v_Tp_read_31_21_0 (CV.of (by omega) rfl (v_Bx_clear_21_0 (CV.of (by omega) rfl (v_Bx_forget_21_0 (QV_i.mpr (QV_i.mpr ?_)))))))
  generalize hI1 : up2 (up2 (up2 (up2 (up2 (up2 (up2 (up2 (up2 I 31 2 0) 21 2 0) 21 7 0) 21 8 0) 21 9 0) 21 10 0) 21 15 0) 21 16 0) 21 17 1 = I1
  have F1 : FrP I I1 := by
    subst hI1
    refine ⟨fun a ha => ?_, fun k hk => by simp [up2, upd, hk]⟩
    have z1 : a ≠ 21 := by omega
    have z2 : a ≠ 31 := by omega
    simp [up2, z1, z2]
  have e2 : I1 31 2 = 0 := by subst hI1; simp [up2, upd]
  have D1 : DrC Bx0 none I1 := by
    subst hI1
    refine ⟨⟨by simp [up2, upd]; rfl, by simp [up2, upd]; rfl, fun p hp => absurd hp (Nat.not_lt_zero p), fun p hp => absurd hp (Nat.not_lt_zero p)⟩, by simp [up2, upd]; rfl, by simp [up2, upd], by simp [up2, upd], by simp [up2, upd], by simp [up2, upd]⟩
  have fr : ∀ I', FrP I1 I' → FrR I (up2 I' 31 1 0) := by
    intro I' hF a ha
    have z : a ≠ 31 := by omega
    simp [up2, z]
    exact (F1.tr hF).1 a ha
  have bad : ∀ q I', boxR t = (q, none) → FrP I1 I' → I' 31 2 = nI q → QI F (some (.int (-20 - I' 31 2))) (up2 I' 31 1 0) J := by
    intro q I' e hF hq
    rw [hq]
    exact QI_i.mpr (h0 q _ e (fr I' hF) (by simp [up2, upd]))
  have drc : ∀ B lid I', DrC B lid I' → DrC B lid (up2 I' 31 1 0) := by
    intro B lid I' h
    obtain ⟨⟨b1, b2, b3, b4⟩, c8, c9, c10, c15, c16⟩ := h
    exact ⟨⟨by simp [up2]; exact b1, by simp [up2]; exact b2, fun j hj => by simp [up2]; exact b3 j hj, fun j hj => by simp [up2]; exact b4 j hj⟩, by simp [up2]; exact c8, by simp [up2]; exact c9, by simp [up2]; exact c10, by simp [up2]; exact c15, by simp [up2]; exact c16⟩
  have good : ∀ q x I', boxR t = (q, some x) → FrP I1 I' → DrC x.1 x.2 I' → QI F (some (.int (I' 21 2))) (up2 I' 31 1 0) J := by
    intro q x I' e hF hD
    rw [hD.1.1]
    exact QI_i.mpr (h1 q x _ e (fr I' hF) (by simp [up2, upd]) (drc _ _ _ hD))
  have hT1 := F1.tpc hT
  refine c_Tp_readPanels (by omega) hW hT1 e2 D1 (fun q I' e z1 z2 => ⟨fun _ => bad q I' ?_ z1 z2, fun z => absurd rfl z⟩) (fun q x I2 e z1 z2 z3 => ⟨fun z => absurd z (by decide), fun _ => ?_⟩)
  · unfold boxR; rw [e]
  · have hq := pPan_le 5 0 0 _ _ _ _ (Nat.zero_le _) e
    obtain ⟨w1, w2, w3, w4⟩ := pPan_wf 5 0 0 Bx0 none q x WFB_0 rfl rfl rfl (fun j hj => by cases hj) (Or.inr (by decide)) e
    have eb : boxR t = if hrT t q = 0 then (q, some x) else if hrT t q = 59 then (match pLks t 6 0 (skT t q + 1) x.1 with
        | (q', none) => (q', none)
        | (q', some B) => (q', some (B, x.2))) else (skT t q, none) := by
      unfold boxR; rw [e]; first | done | rfl
    refine c_Tp_isEnd (by omega) hW (z1.tpc hT1) z2 (fun I3 y1 y2 => ?_)
    have D3 := DrC_t z3 y1
    have F3 := z1.tr y1.p
    rw [bI_0, decide_eq_false_iff_not]
    refine ⟨fun e0 => ?_, fun e0 => ?_⟩
    · rw [if_neg e0] at eb
      refine c_Tp_accept (x := 59) (by omega) hW (F3.tpc hT1) (z2.sk y2) (by decide) (fun e5 I4 x1 x2 => ⟨fun _ => ?_, fun z => absurd rfl z⟩) (fun e5 I4 x1 x2 => ⟨fun z => absurd z (by decide), fun _ => ?_⟩)
      · rw [if_neg e5] at eb
        exact bad _ I4 eb (F3.tr x1.p) x2
      · rw [if_pos e5] at eb
        have hlt := hr_lt (t := t) (p := q) (by rw [e5]; decide)
        refine c_Tp_readLocks (by omega) hW ((F3.tr x1.p).tpc hT1) hlt (AtC_of hlt x2) w1 w2 w3 (DrC_t D3 x1) (fun q' I5 e6 v1 v2 => ⟨fun _ => bad q' I5 ?_ ((F3.tr x1.p).tr v1) v2, fun z => absurd rfl z⟩) (fun q' B' I5 e6 v1 v2 => ⟨fun z => absurd z (by decide), fun _ => good q' (B', x.2) I5 ?_ ((F3.tr x1.p).tr v1) v2⟩)
        · rw [eb, e6]
        · rw [eb, e6]
    · rw [if_pos (Classical.not_not.mp e0)] at eb
      exact good q x I3 eb F3 D3
theorem c_Sb_box (hd : 7 ≤ d) (hw : WFV V) (hV : CBx 1 V I) (hW : WFT t) (hT : TpC t I) (h : ∀ I', CBx 1 (boxS V t).2 I' → (∀ a, (a = 0 ∨ (10 < a ∧ a < 21) ∨ 31 < a) → I' a = I a) → (I' 1 17 = 1 ∨ (I' 1 = I 1 ∧ (boxS V t).2 = V)) → I' 31 1 = 0 → F (boxS V t).1 I' J) : CI d Sb_box [.ref 0] I J F := by
  refine CI.of (by omega) rfl (v_Sb_box_0_0 (c_Tp_read (by omega) hW hT (fun q I' e z1 z2 => ?_) (fun q x I' e z1 z2 z3 => ?_)))
  · have hq := boxR_le e
    have h90 := hW.1
    rw [show boxS V t = (-20 - nI q, V) from by unfold boxS; rw [e]] at h
    have hn : -20 - nI q < 0 := by
      rw [← Int32.neg_add, show (20 : Int32) + nI q = nI (20 + q) from nI_add 20 q, Int32.lt_iff_toInt_lt, sb_negT (by omega), show (0 : Int32).toInt = 0 from by decide]
      omega
    refine ⟨fun _ => QI_i.mpr (h I' ?_ (fun a ha => z1 a (by omega)) (Or.inr ⟨z1 1 (by decide), rfl⟩) z2), fun z => absurd hn z⟩
    exact CBx_copy hw hV (fun k _ => by rw [z1 1 (by decide)]) (fun p _ => ⟨by rw [z1 (1 + 1) (by decide)], by rw [z1 (1 + 2) (by decide)]⟩) (fun l _ => ⟨by rw [z1 (1 + 3) (by decide)], by rw [z1 (1 + 4) (by decide)], by rw [z1 (1 + 5) (by decide)], by rw [z1 (1 + 6) (by decide)]⟩) (fun k _ => ⟨by rw [z1 (1 + 7) (by decide)], by rw [z1 (1 + 8) (by decide)], by rw [z1 (1 + 9) (by decide)]⟩)
  · have hpn := (boxR_wf e).1.1
    have hwb := WF_box (t := t) hw
    have eb : boxS V t = (nI x.1.pn, (x.1, (lidN x.2, 0, 0, V.dr), [])) := by unfold boxS; rw [e]
    rw [eb] at h hwb
    refine ⟨fun z => absurd z (nI_pos (by omega)), fun _ => ?_⟩
    obtain ⟨⟨b1, b2, b3, b4⟩, c8, c9, c10, c15, c16⟩ := z3
    have e11 : I' 1 11 = nI V.dr := by rw [z1 1 (by decide)]; exact hV.2.2.2.2.1
    have C21 : CBx 21 (x.1, (lidN x.2, 0, 0, V.dr), []) (up2 I' 21 11 (I' 1 11)) := by
      refine ⟨⟨by simp [up2, upd]; exact b1, by simp [up2, upd]; exact b2, fun j hj => by simp [up2]; exact b3 j hj, fun j hj => by simp [up2]; exact b4 j hj⟩, by simp [up2, upd]; exact c8, by simp [up2, upd]; exact c9, by simp [up2, upd]; exact c10, by simp [up2, upd]; exact e11, by simp [up2, upd]; exact c15, 0, by decide, by simp [up2, upd]; exact c16, fun k y hy => (nil_get hy).elim⟩
    refine c_Bx_becomes_1_21 (by omega) hwb C21 (fun I2 y1 y2 y3 => QI_i.mpr (h I2 y1 (fun a ha => ?_) (Or.inl y2) ?_))
    · rw [y3 a (by omega)]
      have : a ≠ 21 := by omega
      simp [up2, this]
      exact z1 a (by omega)
    · rw [y3 31 (by decide)]; simp [up2]; exact z2
theorem c_Sb_type (hd : 2 ≤ d) (hW : WFT t) (hT : TpC t I) (x : Int32) (h : ∀ I', TpC (typeS t x).2 I' → (∀ a, a ≠ 31 → a ≠ 32 → I' a = I a) → F (typeS t x).1 I' J) : CI d Sb_type [.ref 0, .int x] I J F := by
  have h90 := hW.1
  refine CI.of (by omega) rfl (v_Sb_type_0_0 ⟨fun q => QI_i.mpr ?_, fun q1 => ⟨fun q => QI_i.mpr ?_, fun q2 => ?_⟩⟩)
  · rw [show typeS t x = (-1, t) from if_pos (Or.inl q)] at h; exact h I hT (fun _ _ _ => rfl)
  · rw [show typeS t x = (-1, t) from if_pos (Or.inr q)] at h; exact h I hT (fun _ _ _ => rfl)
  · have nb : ¬ (x < 32 ∨ 126 < x) := fun q => q.elim q1 q2
    have x0 : ¬ x < 0 := fun q => q1 (Int32.lt_trans q (by decide))
    obtain ⟨j, hj, rfl⟩ := le_of (n := 126) x0 q2 (by decide)
    rw [ch_i2c j (by omega)]
    refine CI.of (by omega) rfl (v_Tp_write_31_0 ?_)
    rw [hT.1, show (nI t.1 < 90) = (nI t.1 < nI 90) from rfl, n_lt (by omega) (by decide), n_tN (by omega), ch_nar j (by omega), n_inc]
    refine ⟨fun e => ⟨n_vp e (by decide), QI_i.mpr (QI_i.mpr ?_)⟩, fun e => QI_i.mpr (QI_i.mpr ?_)⟩
    · rw [show typeS t (nI j) = (nI (t.1 + 1), (t.1 + 1, updN t.2 t.1 (tN (nI j)))) from (if_neg nb).trans (if_pos e), n_tN (by omega)] at h
      refine h _ ⟨by simp [up2, upd], fun k hk => ?_⟩ (fun a a1 a2 => by simp [up2, a1, a2])
      have hk : k < t.1 + 1 := hk
      show _ = nI (updN t.2 t.1 j k)
      by_cases e3 : k = t.1
      · simp [up2, upd, updN, e3]
      · simp [up2, upd, updN, e3]; exact hT.2 k (by omega)
    · rw [show typeS t (nI j) = (-3, t) from (if_neg nb).trans (if_neg e)] at h
      exact h I hT (fun _ _ _ => rfl)
end TAPE4
