/-! the tape: the calls of the model -/
section TAPE8
variable {d : Nat} {t : Tpe} {V : Bv} {I : I2} {J : J2} {G : I2 → J2 → Prop} {F : Int32 → I2 → J2 → Prop}
theorem c_Md_panelComes {k : Nat} {x y : Int32} (hd : 1 ≤ d) (h0 : I 58 0 = nI k) (hk : k < 5) (h : ∀ I', I' 58 0 = nI (k + 1) → I' 58 (6 + 2 * k) = x → I' 58 (6 + 2 * k + 1) = y → (∀ j, j ≠ 0 → j ≠ 6 + 2 * k → j ≠ 6 + 2 * k + 1 → I' 58 j = I 58 j) → I' 57 9 = 0 → (∀ j, j ≠ 9 → I' 57 j = I 57 j) → (∀ a, a ≠ 57 → a ≠ 58 → I' a = I a) → G I' J) : CV d Md_panelComes [.ref 57, .int x, .int y] I J G := by
  refine CV.of hd rfl (v_Md_panelComes_57_0 ?_)
  have e1 : (6 : Int32) + 2 * nI k = nI (6 + 2 * k) := by rw [show (2 : Int32) * nI k = nI (2 * k) from pk_mul 2 _]; exact nI_add 6 _
  rw [h0, e1, n_tN (by omega)]
  have r1 : ∀ z : Int32, up2 I 58 (6 + 2 * k) z 58 0 = nI k := fun z => by simp only [up2, upd, if_pos]; rw [if_neg (by omega)]; exact h0
  have e2 : nI (6 + 2 * k) + 1 = nI (6 + 2 * k + 1) := nI_1 _
  rw [r1, e1, e2, n_tN (by omega)]
  have r2 : ∀ z z2 : Int32, up2 (up2 I 58 (6 + 2 * k) z) 58 (6 + 2 * k + 1) z2 58 0 = nI k := fun z z2 => by simp only [up2, upd, if_pos]; rw [if_neg (by omega), if_neg (by omega)]; exact h0
  rw [r2, n_inc]
  refine ⟨n_vp (by omega) (by decide), n_vp (by omega) (by decide), QV_i.mpr (h _ (by simp [up2, upd]) ?_ ?_ (fun j j0 j1 j2 => by simp [up2, upd, j0, j1, j2]) (by simp [up2, upd]) (fun j hj => by simp [up2, upd, hj]) (fun a a1 a2 => by simp [up2, a1, a2]))⟩
  · simp [up2, upd]
  · simp [up2, upd]
theorem c_Md_lockComes {l : Nat} {x1 x2 x3 x4 : Int32} (hd : 1 ≤ d) (h0 : I 58 1 = nI l) (hl : l < 6) (h : ∀ I', I' 58 1 = nI (l + 1) → I' 58 (16 + 4 * l) = x1 → I' 58 (16 + 4 * l + 1) = x2 → I' 58 (16 + 4 * l + 2) = x3 → I' 58 (16 + 4 * l + 3) = x4 → (∀ j, j ≠ 1 → (j < 16 + 4 * l ∨ 16 + 4 * l + 3 < j) → I' 58 j = I 58 j) → I' 57 9 = 0 → (∀ j, j ≠ 9 → I' 57 j = I 57 j) → (∀ a, a ≠ 57 → a ≠ 58 → I' a = I a) → G I' J) : CV d Md_lockComes [.ref 57, .int x1, .int x2, .int x3, .int x4] I J G := by
  refine CV.of hd rfl (v_Md_lockComes_57_0 ?_)
  have e1 : (16 : Int32) + 4 * nI l = nI (16 + 4 * l) := by rw [show (4 : Int32) * nI l = nI (4 * l) from pk_mul 4 _]; exact nI_add 16 _
  have e2 : nI (16 + 4 * l) + 1 = nI (16 + 4 * l + 1) := nI_1 _
  have e3 : nI (16 + 4 * l) + 2 = nI (16 + 4 * l + 2) := nI_add _ 2
  have e4 : nI (16 + 4 * l) + 3 = nI (16 + 4 * l + 3) := nI_add _ 3
  rw [h0, e1, e2, e3, e4, n_tN (by omega), n_tN (by omega), n_tN (by omega), n_tN (by omega)]
  have r : up2 (up2 (up2 (up2 I 58 (16 + 4 * l) x1) 58 (16 + 4 * l + 1) x2) 58 (16 + 4 * l + 2) x3) 58 (16 + 4 * l + 3) x4 58 1 = nI l := by
    simp only [up2, upd, if_pos]
    rw [if_neg (by omega), if_neg (by omega), if_neg (by omega), if_neg (by omega)]; exact h0
  rw [r, n_inc]
  refine ⟨n_vp (by omega) (by decide), n_vp (by omega) (by decide), n_vp (by omega) (by decide), n_vp (by omega) (by decide), QV_i.mpr (h _ (by simp [up2, upd]) ?_ ?_ ?_ ?_ (fun j j0 j1 => ?_) (by simp [up2, upd]) (fun j hj => by simp [up2, upd, hj]) (fun a a1 a2 => by simp [up2, a1, a2]))⟩
  · have z : ¬ 16 + 4 * l = 1 := by omega
    simp [up2, upd, z]
  · have z : ¬ 16 + 4 * l + 1 = 1 := by omega
    simp [up2, upd]
  · have z : ¬ 16 + 4 * l + 2 = 1 := by omega
    simp [up2, upd]
  · have z : ¬ 16 + 4 * l + 3 = 1 := by omega
    simp [up2, upd]
  · have z1 : ¬ j = 16 + 4 * l := by omega
    have z2 : ¬ j = 16 + 4 * l + 1 := by omega
    have z3 : ¬ j = 16 + 4 * l + 2 := by omega
    have z4 : ¬ j = 16 + 4 * l + 3 := by omega
    simp [up2, upd, j0, z1, z2, z3, z4]
theorem badP_box {q : Nat} (h : badP t (pPan t 5 0 0 Bx0 none) q) : boxR t = (q, none) := by
  unfold boxR
  generalize pPan t 5 0 0 Bx0 none = z at h ⊢
  obtain ⟨z1, z2⟩ := z
  rcases h with ⟨e1, e2⟩ | ⟨⟨x, e1⟩, e2, e3, e4⟩
  · dsimp only at e1 e2
    subst e1; subst e2; rfl
  · dsimp only at e1 e2 e3 e4
    subst e1; subst e2
    dsimp only
    rw [if_neg e3, if_neg e4]
theorem c_Md_type (hd : 2 ≤ d) (hW : WFT t) (hT : TpM t I) (x : Int32) (h : ∀ I', TpM (typeS t x).2 I' → (∀ a, a ≠ 57 → a ≠ 59 → I' a = I a) → (∀ k, k ≠ 2 → I' 57 k = I 57 k) → F (typeS t x).1 I' J) : CI d Md_type [.ref 57, .int x] I J F := by
  have h90 := hW.1
  refine CI.of (by omega) rfl (v_Md_type_57_0 (c_Md_in (by omega) ?_))
  rw [in_rng (lo := 32) (hi := 126) (by decide) (by decide)]
  refine ⟨fun q => QI_i.mpr ?_, fun nb => ?_⟩
  · rw [show typeS t x = (-1, t) from if_pos q] at h; exact h I hT (fun _ _ _ => rfl) (fun _ _ => rfl)
  · have nb2 := nb
    simp only [not_or] at nb2
    have x0 : ¬ x < 0 := fun q => nb2.1 (Int32.lt_trans q (by decide))
    obtain ⟨j, hj, rfl⟩ := le_of (n := 126) x0 nb2.2 (by decide)
    rw [hT.1, show (nI t.1 = 90) = (nI t.1 = nI 90) from rfl, n_eq (by omega) (by decide), n_tN (by omega), n_inc]
    refine ⟨fun e => QI_i.mpr ?_, fun e => ⟨n_vp (by omega) (by decide), QI_i.mpr ?_⟩⟩
    · rw [show typeS t (nI j) = (-3, t) from (if_neg nb).trans (if_neg (by omega))] at h
      exact h I hT (fun _ _ _ => rfl) (fun _ _ => rfl)
    · rw [show typeS t (nI j) = (nI (t.1 + 1), (t.1 + 1, updN t.2 t.1 (tN (nI j)))) from (if_neg nb).trans (if_pos (by omega)), n_tN (by omega)] at h
      refine h _ ⟨by simp [up2, upd], fun k hk => ?_⟩ (fun a a1 a2 => by simp [up2, a1, a2]) (fun k hk => by simp [up2, upd, hk])
      have hk : k < t.1 + 1 := hk
      show _ = nI (updN t.2 t.1 j k)
      by_cases e3 : k = t.1
      · simp [up2, upd, updN, e3]
      · simp [up2, upd, updN, e3]; exact hT.2 k (by omega)
/-- what a box that is read leaves alone -/
def FrX2 (I I' : I2) : Prop := (∀ a, a ≠ 57 → a ≠ 58 → a ≠ 60 → a ≠ 61 → I' a = I a) ∧ ∀ k, k ≠ 2 → k ≠ 3 → k ≠ 4 → k ≠ 6 → k ≠ 9 → I' 57 k = I 57 k
theorem l_Md_box (hd : 1 ≤ d) (hw : WFV V) {B : Bx} {o : Nat} {I0 : I2} (hB : WFB B) (h1p : 1 ≤ B.pn) (hR : RpM B I0) (hL : RlM B I0) (h : ∀ I', MBx (B, (o, 0, 0, V.dr), []) I' → FrX2 I I' → I' 57 2 = 0 → F (nI B.pn) I' J) (hF : FrX2 I I0) (h2 : I0 57 2 = 0) (c0 : I0 58 0 = 0) (c1 : I0 58 1 = 0) (c2 : I0 58 2 = nI o) (c3 : I0 58 3 = 0) (c4 : I0 58 4 = nI V.dr) (c5 : I0 58 5 = 0) : Wp d Md_box (QI F) 143 [some (.ref 57), some (.int (nI B.pn)), some (.int (nI B.ln)), some (.int 0)] [] I0 J := by
  have hp5 := hB.1
  have hl6 := hB.2.1
  have loopL : ∀ r l I1, l + r = B.ln → FrX2 I I1 → I1 57 2 = 0 → I1 57 9 = 0 → I1 61 = I0 61 → I1 58 0 = nI B.pn → I1 58 1 = nI l → I1 58 2 = nI o → I1 58 3 = 0 → I1 58 4 = nI V.dr → I1 58 5 = 0 → (∀ j, j < B.pn → I1 58 (6 + 2 * j) = nI (B.kd j) ∧ I1 58 (6 + 2 * j + 1) = nI (B.dp j)) → (∀ j, j < l → I1 58 (16 + 4 * j) = nI (B.ow j) ∧ I1 58 (16 + 4 * j + 1) = nI (B.wy j) ∧ I1 58 (16 + 4 * j + 2) = nI (B.ot j) ∧ I1 58 (16 + 4 * j + 3) = nI (B.ps j)) → Wp d Md_box (QI F) 178 [some (.ref 57), some (.int (nI B.pn)), some (.int (nI B.ln)), some (.int (nI l))] [] I1 J := by
    intro r
    induction r with
    | zero =>
      intro l I1 hl f1 f2 f9 f61 g0 g1 g2 g3 g4 g5 gp gl
      have hl : l = B.ln := by omega
      subst hl
      exact v_Md_box_57_178 ⟨fun q => absurd ((n_lt (by omega) (by omega)).mp q) (Nat.lt_irrefl _), fun _ => QI_i.mpr (h I1 ⟨⟨g0, g1, gp, gl⟩, g2, g3, g4, g5, f9, fun k x hx => (nil_get hx).elim⟩ f1 f2)⟩
    | succ r ih =>
      intro l I1 hl f1 f2 f9 f61 g0 g1 g2 g3 g4 g5 gp gl
      have hlt : l < B.ln := by omega
      refine v_Md_box_57_178 ⟨fun _ => ?_, fun q => absurd ((n_lt (by omega) (by omega)).mpr hlt) q⟩
      rw [show (4 : Int32) * nI l = nI (4 * l) from pk_mul 4 l, show nI (4 * l) + 1 = nI (4 * l + 1) from n_inc _, show nI (4 * l) + 2 = nI (4 * l + 2) from nI_add _ 2, show nI (4 * l) + 3 = nI (4 * l + 3) from nI_add _ 3, n_inc, n_tN (by omega), n_tN (by omega), n_tN (by omega), n_tN (by omega), f61]
      obtain ⟨q1, q2, q3, q4⟩ := hL l hlt
      rw [q1, q2, q3, q4]
      refine ⟨n_vp (by omega) (by decide), n_vp (by omega) (by decide), n_vp (by omega) (by decide), n_vp (by omega) (by decide), c_Md_lockComes hd g1 (by omega) (fun I2 r1 r2 r3 r4 r5 r6 r7 r8 r9 => ih (l + 1) I2 (by omega) ⟨fun a a1 a2 a3 a4 => by rw [r9 a a1 a2]; exact f1.1 a a1 a2 a3 a4, fun k k1 k2 k3 k4 k5 => by rw [r8 k k5]; exact f1.2 k k1 k2 k3 k4 k5⟩ (by rw [r8 2 (by decide)]; exact f2) r7 (by rw [r9 61 (by decide) (by decide)]; exact f61) (by rw [r6 0 (by decide) (by omega)]; exact g0) r1 (by rw [r6 2 (by decide) (by omega)]; exact g2) (by rw [r6 3 (by decide) (by omega)]; exact g3) (by rw [r6 4 (by decide) (by omega)]; exact g4) (by rw [r6 5 (by decide) (by omega)]; exact g5) (fun j hj => by rw [r6 _ (by omega) (by omega), r6 _ (by omega) (by omega)]; exact gp j hj) (fun j hj => ?_))⟩
      by_cases ej : j = l
      · rw [ej]; exact ⟨r2, r3, r4, r5⟩
      · rw [r6 _ (by omega) (by omega), r6 _ (by omega) (by omega), r6 _ (by omega) (by omega), r6 _ (by omega) (by omega)]; exact gl j (by omega)
  have loopP : ∀ r k I1, k + r = B.pn → FrX2 I I1 → I1 57 2 = 0 → (0 < k → I1 57 9 = 0) → I1 60 = I0 60 → I1 61 = I0 61 → I1 58 0 = nI k → I1 58 1 = 0 → I1 58 2 = nI o → I1 58 3 = 0 → I1 58 4 = nI V.dr → I1 58 5 = 0 → (∀ j, j < k → I1 58 (6 + 2 * j) = nI (B.kd j) ∧ I1 58 (6 + 2 * j + 1) = nI (B.dp j)) → Wp d Md_box (QI F) 143 [some (.ref 57), some (.int (nI B.pn)), some (.int (nI B.ln)), some (.int (nI k))] [] I1 J := by
    intro r
    induction r with
    | zero =>
      intro k I1 hk f1 f2 f9 f60 f61 g0 g1 g2 g3 g4 g5 gp
      have hk : k = B.pn := by omega
      subst hk
      exact v_Md_box_57_143 ⟨fun q => absurd ((n_lt (by omega) (by omega)).mp q) (Nat.lt_irrefl _), fun _ => loopL B.ln 0 I1 (Nat.zero_add _) f1 f2 (f9 (by omega)) f61 g0 g1 g2 g3 g4 g5 gp (fun j hj => absurd hj (Nat.not_lt_zero j))⟩
    | succ r ih =>
      intro k I1 hk f1 f2 f9 f60 f61 g0 g1 g2 g3 g4 g5 gp
      have hlt : k < B.pn := by omega
      refine v_Md_box_57_143 ⟨fun _ => ?_, fun q => absurd ((n_lt (by omega) (by omega)).mpr hlt) q⟩
      rw [show (2 : Int32) * nI k = nI (2 * k) from pk_mul 2 k, n_inc, n_inc, n_tN (by omega), n_tN (by omega), f60]
      obtain ⟨q1, q2⟩ := hR k hlt
      rw [q1, q2]
      refine ⟨n_vp (by omega) (by decide), n_vp (by omega) (by decide), c_Md_panelComes hd g0 (by omega) (fun I2 r1 r2 r3 r6 r7 r8 r9 => ih (k + 1) I2 (by omega) ⟨fun a a1 a2 a3 a4 => by rw [r9 a a1 a2]; exact f1.1 a a1 a2 a3 a4, fun k k1 k2 k3 k4 k5 => by rw [r8 k k5]; exact f1.2 k k1 k2 k3 k4 k5⟩ (by rw [r8 2 (by decide)]; exact f2) (fun _ => r7) (by rw [r9 60 (by decide) (by decide)]; exact f60) (by rw [r9 61 (by decide) (by decide)]; exact f61) r1 (by rw [r6 1 (by omega) (by omega) (by omega)]; exact g1) (by rw [r6 2 (by omega) (by omega) (by omega)]; exact g2) (by rw [r6 3 (by omega) (by omega) (by omega)]; exact g3) (by rw [r6 4 (by omega) (by omega) (by omega)]; exact g4) (by rw [r6 5 (by omega) (by omega) (by omega)]; exact g5) (fun j hj => ?_))⟩
      by_cases ej : j = k
      · rw [ej]; exact ⟨r2, r3⟩
      · rw [r6 _ (by omega) (by omega) (by omega), r6 _ (by omega) (by omega) (by omega)]; exact gp j (by omega)
  exact loopP B.pn 0 I0 (Nat.zero_add _) hF h2 (fun q => absurd q (Nat.lt_irrefl _)) rfl rfl c0 c1 c2 c3 c4 c5 (fun j hj => absurd hj (Nat.not_lt_zero j))
theorem c_Md_box (hd : 5 ≤ d) (hw : WFV V) (hV : MBx V I) (hW : WFT t) (hT : TpM t I) (h : ∀ I', MBx (boxS V t).2 I' → FrX2 I I' → I' 57 2 = 0 → F (boxS V t).1 I' J) : CI d Md_box [.ref 57] I J F := by
  have bad : ∀ q I' x1 x2, boxR t = (q, none) → FrB I I' → I' 57 3 = nI q → Wp (d - 1) Md_box (QI F) 64 [some (.ref 57), some (.int x1), some (.int x2), none] [.ref 57] I' J := by
    intro q I' x1 x2 e hF h3
    rw [show boxS V t = (-20 - nI q, V) from by unfold boxS; rw [e]] at h
    refine v_Md_box_57_64 ⟨fun q => absurd q (by decide), fun _ => ?_⟩
    rw [h3]
    refine QI_i.mpr (h _ ?_ ⟨fun a a1 a2 a3 a4 => by simp [up2, a1]; exact hF.1 a a1 a3 a4, fun k k1 k2 k3 k4 k5 => by simp [up2, upd, k1, k3]; exact hF.2 k k2 k3 k4⟩ (by simp [up2, upd]))
    show MRw V _ _ _
    have e9 : up2 (up2 I' 57 4 1) 57 2 0 57 9 = I' 57 9 := by simp [up2, upd]
    have e58 : up2 (up2 I' 57 4 1) 57 2 0 58 = I' 58 := by simp [up2]
    have e62 : up2 (up2 I' 57 4 1) 57 2 0 62 = I' 62 := by simp [up2]
    rw [e9, e58, e62]
    rw [hF.1 58 (by decide) (by decide) (by decide), hF.1 62 (by decide) (by decide) (by decide), hF.2 9 (by decide) (by decide) (by decide)]
    exact hV
  refine CI.of (by omega) rfl (v_Md_box_57_0 ?_)
  have F0 : FrB I (up2 (up2 I 57 3 0) 57 4 0) := (FrU_3.tr FrU_4).b
  refine c_Md_panelsRead (by omega) hW (F0.tpm hT) (by simp [up2, upd]) (by simp [up2, upd]) (fun v q I1 e z1 z2 z3 => ⟨fun y => absurd (z2.symm.trans y) (by decide), fun _ => bad q I1 _ _ (badP_box e) (F0.tr z1) z3⟩) (fun q x I1 e z1 z2 z3 z4 z5 => ⟨fun _ => ?_, fun y => absurd z2 y⟩)
  have hq := pPan_le 5 0 0 _ _ _ _ (Nat.zero_le _) e
  obtain ⟨w1, w2, w3, w4⟩ := pPan_wf 5 0 0 Bx0 none q x WFB_0 rfl rfl rfl (fun j hj => by cases hj) (Or.inr (by decide)) e
  have hp5 := w1.1
  have eb : boxR t = if hrT t q = 0 then (q, some x) else if hrT t q = 59 then (match pLks t 6 0 (skT t q + 1) x.1 with
      | (q', none) => (q', none)
      | (q', some B) => (q', some (B, x.2))) else (skT t q, none) := by
    unfold boxR; rw [e]; first | done | rfl
  have F1 := F0.tr z1
  have hb := hr_bd (p := q) hW
  have fin : ∀ (B' : Bx) (I3 : I2), boxR t = (q, some (B', x.2)) ∨ (∃ q', boxR t = (q', some (B', x.2))) → FrB I I3 → I3 57 6 = oI x.2 → RpM B' I3 → RlM B' I3 → B'.pn = x.1.pn → (I3 57 6 < 0 → Wp (d - 1) Md_box (QI F) 143 [some (.ref 57), some (.int (nI x.1.pn)), some (.int (nI B'.ln)), some (.int 0)] [] (up2 (up2 (up2 (up2 (up2 (up2 (up2 I3 57 4 0) 57 2 0) 58 0 0) 58 1 0) 58 2 0) 58 3 0) 58 5 0) J) ∧ (¬ (I3 57 6 < 0) → Wp (d - 1) Md_box (QI F) 143 [some (.ref 57), some (.int (nI x.1.pn)), some (.int (nI B'.ln)), some (.int 0)] [] (up2 (up2 (up2 (up2 (up2 (up2 (up2 I3 57 4 0) 57 2 0) 58 0 0) 58 1 0) 58 2 (I3 57 6)) 58 3 0) 58 5 0) J) := by
    intro B' I3 eB F3 h6 R3 L3 epn
    obtain ⟨q', eB⟩ : ∃ q', boxR t = (q', some (B', x.2)) := eB.elim (fun z => ⟨q, z⟩) id
    have hB := (boxR_wf eB).1
    have h1p := (boxR_wf eB).2.1
    have hlid := (boxR_wf eB).2.2
    dsimp only at hB h1p hlid
    rw [show boxS V t = (nI B'.pn, (B', (lidN x.2, 0, 0, V.dr), [])) from by unfold boxS; rw [eB]] at h
    have e4 : I3 58 4 = nI V.dr := by rw [F3.1 58 (by decide) (by decide) (by decide)]; exact hV.2.2.2.1
    rw [← epn, h6, oI_neg (fun j hj => by have := hlid j hj; omega)]
    have go : ∀ v, v = nI (lidN x.2) → Wp (d - 1) Md_box (QI F) 143 [some (.ref 57), some (.int (nI B'.pn)), some (.int (nI B'.ln)), some (.int 0)] [] (up2 (up2 (up2 (up2 (up2 (up2 (up2 I3 57 4 0) 57 2 0) 58 0 0) 58 1 0) 58 2 v) 58 3 0) 58 5 0) J := by
      intro v hv
      refine l_Md_box (by omega) hw hB h1p (fun j hj => by simp [up2]; exact R3 j hj) (fun j hj => by simp [up2]; exact L3 j hj) h ⟨fun a a1 a2 a3 a4 => by simp [up2, a1, a2]; exact F3.1 a a1 a3 a4, fun k k1 k2 k3 k4 k5 => by simp [up2, upd, k1, k3]; exact F3.2 k k2 k3 k4⟩ (by simp [up2, upd]) (by simp [up2, upd]) (by simp [up2, upd]) (by simp [up2, upd]; exact hv) (by simp [up2, upd]) (by simp [up2, upd]; exact e4) (by simp [up2, upd])
    refine ⟨fun en => go 0 (by rw [en]; rfl), fun en => go _ ?_⟩
    cases ex : x.2 with
    | none => exact absurd ex en
    | some j => rfl
  refine c_Md_here (by omega) hW (F1.tpm hT) z3 (fun I2 y1 y2 => ?_)
  have h42 : I2 57 4 = 0 := by rw [y1.2 4 (by decide)]; exact z2
  have F2 := F1.tr y1.u.b
  have sl := z3.le
  rw [show (nI (hrT t q) = 59) = (nI (hrT t q) = nI 59) from rfl, n_eq (by omega) (by decide)]
  refine ⟨fun e5 => ?_, fun e5 => ⟨fun _ => c_Md_here (p := q) (by omega) hW (F2.tpm hT) (z3.sk y2) (fun I3 u1 u2 => ?_), fun y => absurd h42 y⟩⟩
  · have hlt := hr_lt (t := t) (p := q) (by rw [e5]; decide)
    rw [if_neg (by rw [e5]; decide), if_pos e5] at eb
    rw [y2, n_inc]
    have FL : FrU I2 (up2 I2 57 3 (nI (skT t q + 1))) := FrU_3
    have FL2 := F2.tr FL.b
    have R2 := RpM_u (RpM_u z4 y1.u) FL
    refine c_Md_locksRead (by omega) hW (FL2.tpm hT) hlt (AtM_of hlt (by simp [up2, upd])) (by simp [up2, upd]; exact h42) w1 w2 w3 R2 (fun v q' I3 e6 u1 u2 u3 => ⟨fun y => absurd (u2.symm.trans y) (by decide), fun _ => bad q' I3 _ _ (by rw [eb, e6]) (FL2.tr u1) u3⟩) (fun v q' I3 e6 u1 u2 u3 u4 u5 u6 => ⟨fun _ => ?_, fun y => absurd u2 y⟩) (fun q' B' I3 e6 u1 u2 u3 u4 u5 u6 u7 u8 => ⟨fun _ => ?_, fun y => absurd u2 y⟩)
    · have hb2 := hr_bd (p := q') hW
      refine c_Md_here (by omega) hW ((FL2.tr u1).tpm hT) (AtM_of u5 u3) (fun I4 s1 s2 => ?_)
      rw [n_e0 (by omega)]
      exact ⟨fun y => absurd y u6, fun _ => bad q' I4 _ _ (by rw [eb, e6]) ((FL2.tr u1).tr s1.u.b) (by rw [s2, u4])⟩
    · refine c_Md_here (by omega) hW ((FL2.tr u1).tpm hT) (AtM_of u4 u3) (fun I4 s1 s2 => ?_)
      rw [u5]
      have hpn := (pLks_wf 6 0 _ _ _ _ w1 w2 w3 rfl e6).2
      have eB : boxR t = (q', some (B', x.2)) := by rw [eb, e6]
      have h66 : I4 57 6 = oI x.2 := by
        rw [s1.2 6 (by decide), u8]; simp [up2, upd]; rw [y1.2 6 (by decide)]; exact z5
      exact ⟨fun _ => ⟨fun _ => fin B' I4 (Or.inr ⟨q', eB⟩) ((FL2.tr u1).tr s1.u.b) h66 (RpM_u u6 s1.u) (RlM_u u7 s1.u) hpn, fun y => absurd rfl y⟩, fun y => absurd rfl y⟩
  · rw [n_e0 (by omega)]
    refine ⟨fun e0 => ⟨fun _ => ?_, fun y => absurd rfl y⟩, fun e0 => bad (skT t q) I3 _ _ (by rw [eb, if_neg e0, if_neg e5]) (F2.tr u1.u.b) u2⟩
    rw [if_pos e0] at eb
    have := fin x.1 I3 (Or.inl eb) (F2.tr u1.u.b) (by rw [u1.2 6 (by decide), y1.2 6 (by decide)]; exact z5) (RpM_u (RpM_u z4 y1.u) u1.u) (fun j hj => by rw [w3] at hj; exact absurd hj (Nat.not_lt_zero j)) rfl
    rw [w3] at this
    exact this
end TAPE8
