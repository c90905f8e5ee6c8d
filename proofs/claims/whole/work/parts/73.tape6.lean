/-! the tape: the model reads panels -/
/-- what is read so far -/
def RpM (B : Bx) (I : I2) : Prop := ∀ k, k < B.pn → I 60 (2 * k) = nI (B.kd k) ∧ I 60 (2 * k + 1) = nI (B.dp k)
def RlM (B : Bx) (I : I2) : Prop := ∀ l, l < B.ln → I 61 (4 * l) = nI (B.ow l) ∧ I 61 (4 * l + 1) = nI (B.wy l) ∧ I 61 (4 * l + 2) = nI (B.ot l) ∧ I 61 (4 * l + 3) = nI (B.ps l)
/-- so it will be a fault at q -/
def badP (t : Tpe) (z : Nat × Option (Bx × Option Nat)) (q : Nat) : Prop := (z.2 = none ∧ z.1 = q) ∨ ((∃ x, z.2 = some x) ∧ q = skT t z.1 ∧ hrT t z.1 ≠ 0 ∧ hrT t z.1 ≠ 59)
section TAPE6
variable {d : Nat} {t : Tpe} {I : I2} {J : J2} {G : I2 → J2 → Prop} {F : Int32 → I2 → J2 → Prop}
theorem RpM_u {B : Bx} {I I' : I2} (h : RpM B I) (hF : FrU I I') : RpM B I' := fun k hk => by rw [hF.1 60 (by decide)]; exact h k hk
theorem RlM_u {B : Bx} {I I' : I2} (h : RlM B I) (hF : FrU I I') : RlM B I' := fun k hk => by rw [hF.1 61 (by decide)]; exact h k hk
theorem FrB_60 {I : I2} {k : Nat} {x : Int32} : FrB I (up2 I 60 k x) := ⟨fun a _ h _ => by simp [up2, h], fun k _ _ _ => by simp [up2]⟩
theorem FrB_61 {I : I2} {k : Nat} {x : Int32} : FrB I (up2 I 61 k x) := ⟨fun a _ _ h => by simp [up2, h], fun k _ _ _ => by simp [up2]⟩
theorem FrB_6 {I : I2} {x : Int32} : FrB I (up2 I 57 6 x) := ⟨fun a h _ _ => by simp [up2, h], fun k _ _ h => by simp [up2, upd, h]⟩
theorem lks_f2 {x1 x2 : Int32} {q : Nat} (hF : FrB I I) {I1 : I2} (h1 : FrB I I1) (h4 : I1 57 4 = 1) (h3 : I1 57 3 = nI q) (h : ∀ v I', FrB I I' → I' 57 4 = 1 → I' 57 3 = nI q → F v I' J) : Wp d Md_locksRead (QI F) 2 [some (.ref 57), some (.int x1), some (.int x2), none, none, none, none, none] [] I1 J :=
  v_Md_locksRead_57_2 ⟨fun z => absurd (h4.symm.trans z) (by decide), fun _ => QI_i.mpr (h _ I1 h1 h4 h3)⟩
theorem lks_f135 (hd : 2 ≤ d) {x1 x2 x3 x4 x5 s0 : Int32} {q : Nat} {I1 : I2} (h1 : FrB I I1) (h4 : I1 57 4 = 1) (h3 : I1 57 3 = nI q) (h : ∀ v I', FrB I I' → I' 57 4 = 1 → I' 57 3 = nI q → F v I' J) : Wp d Md_locksRead (QI F) 135 [some (.ref 57), some (.int x1), some (.int x2), some (.int x3), some (.int x4), some (.int x5), none, none] [.int s0] I1 J := by
  have rest : ∀ x, CV d Md_must [.ref 57, .int x] I1 J (fun I2 J2 => (I2 57 4 = 0 → False) ∧ CI d Md_placesRead [.ref 57, .int 0] I2 J2 (fun _ I3 J3 => (I3 57 4 = 0 → False) ∧ Wp d Md_locksRead (QI F) 2 [some (.ref 57), some (.int x1), some (.int (x2 + 1)), none, none, none, none, none] [] I3 J3)) := by
    intro x
    refine c_Md_mustF (by omega) h4 (fun I2 z1 z2 z3 => ⟨fun q => absurd (z2.symm.trans q) (by decide), c_Md_placesF (by omega) z2 (fun I3 y1 y2 y3 => ⟨fun q => absurd (y2.symm.trans q) (by decide), lks_f2 FrB.rf ((h1.tr z1.b).tr y1.b) y2 (by rw [y3, z3]; exact h3) h⟩)⟩)
  have use : ∀ x (A : I2 → J2 → Prop) (A2 : Int32 → I2 → J2 → Prop), CV d Md_must [.ref 57, .int x] I1 J (fun I2 J2 => (I2 57 4 = 0 → A I2 J2) ∧ (¬ (I2 57 4 = 0) → CI d Md_placesRead [.ref 57, .int 0] I2 J2 (fun v3 I3 J3 => (I3 57 4 = 0 → A2 v3 I3 J3) ∧ (¬ (I3 57 4 = 0) → Wp d Md_locksRead (QI F) 2 [some (.ref 57), some (.int x1), some (.int (x2 + 1)), none, none, none, none, none] [] I3 J3)))) :=
    fun x A A2 => CV.mono (rest x) (fun I2 J2 ⟨a, b⟩ => ⟨fun q => (a q).elim, fun _ => CI.mono b (fun v I3 J3 ⟨a, b⟩ => ⟨fun q => (a q).elim, fun _ => b⟩)⟩)
  exact v_Md_locksRead_57_135 (c_Md_in (by omega) ⟨fun _ => use _ _ _, fun _ => ⟨fun _ => use _ _ _, fun _ => use _ _ _⟩⟩)
theorem lks_f101 (hd : 2 ≤ d) {x1 x2 x3 x4 s0 : Int32} {q : Nat} {I1 : I2} (h1 : FrB I I1) (h4 : I1 57 4 = 1) (h3 : I1 57 3 = nI q) (h : ∀ v I', FrB I I' → I' 57 4 = 1 → I' 57 3 = nI q → F v I' J) : Wp d Md_locksRead (QI F) 101 [some (.ref 57), some (.int x1), some (.int x2), some (.int x3), some (.int x4), none, none, none] [.int s0] I1 J := by
  refine v_Md_locksRead_57_101 ⟨fun _ => c_Md_mustF (by omega) h4 (fun I2 z1 z2 z3 => ⟨fun q => absurd (z2.symm.trans q) (by decide), fun _ => lks_f135 hd (h1.tr z1.b) z2 (by rw [z3]; exact h3) h⟩), fun _ => c_Md_mustF (by omega) h4 (fun I2 z1 z2 z3 => ⟨fun q => absurd (z2.symm.trans q) (by decide), fun _ => lks_f135 hd (h1.tr z1.b) z2 (by rw [z3]; exact h3) h⟩)⟩
theorem lks_f65 (hd : 2 ≤ d) {x1 x2 x3 s0 : Int32} {q : Nat} {I1 : I2} (h1 : FrB I I1) (h4 : I1 57 4 = 1) (h3 : I1 57 3 = nI q) (h : ∀ v I', FrB I I' → I' 57 4 = 1 → I' 57 3 = nI q → F v I' J) : Wp d Md_locksRead (QI F) 65 [some (.ref 57), some (.int x1), some (.int x2), some (.int x3), none, none, none, none] [.int s0] I1 J :=
  v_Md_locksRead_57_65 ⟨fun _ => lks_f101 hd h1 h4 h3 h, fun _ => ⟨fun _ => lks_f101 hd h1 h4 h3 h, fun _ => ⟨fun _ => lks_f101 hd h1 h4 h3 h, fun _ => lks_f101 hd h1 h4 h3 h⟩⟩⟩
theorem pan_f112 (hd : 2 ≤ d) {x1 x2 s0 : Int32} {q : Nat} {I1 : I2} (h1 : FrB I I1) (h4 : I1 57 4 = 1) (h3 : I1 57 3 = nI q) (h : ∀ v I', FrB I I' → I' 57 4 = 1 → I' 57 3 = nI q → F v I' J) : Wp d Md_panelsRead (QI F) 112 [some (.ref 57), some (.int x1), some (.int x2), none, none] [.int s0] I1 J := by
  have fin : ∀ I3, FrB I I3 → I3 57 4 = 1 → I3 57 3 = nI q → Wp d Md_panelsRead (QI F) 7 [some (.ref 57), some (.int (x1 + 1)), none, none, none] [] I3 J := fun I3 y1 y2 y3 => v_Md_panelsRead_57_7 ⟨fun z => absurd (y2.symm.trans z) (by decide), fun _ => QI_i.mpr (h _ I3 y1 y2 y3)⟩
  refine v_Md_panelsRead_57_112 ⟨fun _ => c_Md_mustF (by omega) h4 (fun I2 z1 z2 z3 => c_Md_digitF (by omega) z2 (fun I3 y1 y2 y3 => ⟨fun q => absurd (y2.symm.trans q) (by decide), fun _ => fin I3 ((h1.tr z1.b).tr y1.b) y2 (by rw [y3, z3]; exact h3)⟩)), fun _ => c_Md_mustF (by omega) h4 (fun I2 z1 z2 z3 => c_Md_digitF (by omega) z2 (fun I3 y1 y2 y3 => ⟨fun q => absurd (y2.symm.trans q) (by decide), fun _ => fin I3 ((h1.tr z1.b).tr y1.b) y2 (by rw [y3, z3]; exact h3)⟩))⟩
theorem pan_f60 (hd : 2 ≤ d) {x1 s0 : Int32} {q : Nat} {I1 : I2} (h1 : FrB I I1) (h4 : I1 57 4 = 1) (h3 : I1 57 3 = nI q) (h : ∀ v I', FrB I I' → I' 57 4 = 1 → I' 57 3 = nI q → F v I' J) : Wp d Md_panelsRead (QI F) 60 [some (.ref 57), some (.int x1), none, none, none] [.int s0] I1 J :=
  v_Md_panelsRead_57_60 ⟨fun _ => pan_f112 hd h1 h4 h3 h, fun _ => ⟨fun _ => pan_f112 hd h1 h4 h3 h, fun _ => ⟨fun _ => pan_f112 hd h1 h4 h3 h, fun _ => ⟨fun _ => pan_f112 hd h1 h4 h3 h, fun _ => ⟨fun _ => pan_f112 hd h1 h4 h3 h, fun _ => pan_f112 hd h1 h4 h3 h⟩⟩⟩⟩⟩
/-- two lids told -/
theorem bad_two {r k q : Nat} {B : Bx} {lid : Option Nat} (hq : q ≤ t.1) (hk : 0 < k) (hl : lid ≠ none) (h : hrT t q = 33) : badP t (pPan t r k q B lid) (skT t q) := by
  cases r with
  | zero => simp only [pPan]; exact Or.inr ⟨⟨_, rfl⟩, rfl, by rw [h]; decide, by rw [h]; decide⟩
  | succ r =>
    simp only [pPan]
    rw [if_pos ⟨hk, by rw [h]; decide⟩]
    exact Or.inr ⟨⟨_, rfl⟩, (sk_sk hq).symm, by rw [hr_sk hq, h]; decide, by rw [hr_sk hq, h]; decide⟩
theorem oI_neg {o : Option Nat} (h : ∀ k, o = some k → k < 2 ^ 31) : oI o < 0 ↔ o = none := by
  cases o with
  | none => exact ⟨fun _ => rfl, fun _ => by decide⟩
  | some k => exact ⟨fun q => absurd q (nI_pos (h k rfl)), fun q => by cases q⟩
theorem c_Md_panelsRead (hd : 4 ≤ d) (hW : WFT t) (hT : TpM t I) (h3 : I 57 3 = 0) (h4 : I 57 4 = 0) (hF : ∀ v q I', badP t (pPan t 5 0 0 Bx0 none) q → FrB I I' → I' 57 4 = 1 → I' 57 3 = nI q → F v I' J) (hS : ∀ q x I', pPan t 5 0 0 Bx0 none = (q, some x) → FrB I I' → I' 57 4 = 0 → AtM t q I' → RpM x.1 I' → I' 57 6 = oI x.2 → F (nI x.1.pn) I' J) : CI d Md_panelsRead [.ref 57] I J F := by
  have loop : ∀ r k p B lid I1, k + r = 5 → p ≤ t.1 → FrB I I1 → I1 57 4 = 0 → AtM t p I1 → B.pn = k → RpM B I1 → I1 57 6 = oI lid → (∀ j, lid = some j → j < k) → (∀ v q I', badP t (pPan t r k p B lid) q → FrB I I' → I' 57 4 = 1 → I' 57 3 = nI q → F v I' J) → (∀ q x I', pPan t r k p B lid = (q, some x) → FrB I I' → I' 57 4 = 0 → AtM t q I' → RpM x.1 I' → I' 57 6 = oI x.2 → F (nI x.1.pn) I' J) → Wp (d - 1) Md_panelsRead (QI F) 7 [some (.ref 57), some (.int (nI k)), none, none, none] [] I1 J := by
    intro r
    induction r with
    | zero =>
      intro k p B lid I1 hr hp hFr h4 hat hk hR h6 hlid kF kS
      have hb := hr_bd (p := p) hW
      refine v_Md_panelsRead_57_7 ⟨fun _ => ⟨fun q => absurd ((n_e0 (by omega)).mp q) (by omega), fun _ => c_Md_here (by omega) hW (hFr.tpm hT) hat (fun I2 z1 z2 => ?_)⟩, fun q => absurd h4 q⟩
      have h42 : I2 57 4 = 0 := by rw [z1.2 4 (by decide)]; exact h4
      rw [show (nI (hrT t p) = 44) = (nI (hrT t p) = nI 44) from rfl, n_eq (by omega) (by decide)]
      refine ⟨fun e => ⟨fun _ => ⟨fun q => absurd ((n_lt (b := 5) (by omega) (by decide)).mp q) (by omega), fun _ => v_Md_panelsRead_57_42 (c_Md_must0 (by omega) h42 (fun I3 y1 y2 y3 => ⟨fun q => absurd (y2.symm.trans q) (by decide), fun _ => pan_f60 (by omega) ((hFr.tr z1.u.b).tr y1.b) y2 (y3.trans z2) (fun v I' w1 w2 w3 => kF v _ I' ?_ w1 w2 w3)⟩))⟩, fun q => absurd ((n_p0 (by omega)).mpr (by omega)) q⟩, fun e => QI_i.mpr ?_⟩
      · simp only [pPan]; exact Or.inr ⟨⟨_, rfl⟩, rfl, by rw [e]; decide, by rw [e]; decide⟩
      · have := kS p (B, lid) I2 rfl (hFr.tr z1.u.b) h42 (hat.sk z2) (RpM_u hR z1.u) (by rw [z1.2 6 (by decide)]; exact h6)
        rw [show (B, lid).1.pn = k from hk] at this
        exact this
    | succ r ih =>
      intro k p B lid I1 hr hp hFr h4 hat hk hR h6 hlid kF kS
      have hb := hr_bd (p := p) hW
      have tail : ∀ (p1 : Nat) (I2 : I2), p1 = (if 0 < k then skT t p + 1 else p) → ¬ (0 < k ∧ hrT t p ≠ 44) → p1 ≤ t.1 → FrB I I2 → I2 57 4 = 0 → I2 57 3 = nI (skT t p1) → RpM B I2 → I2 57 6 = oI lid → Wp (d - 1) Md_panelsRead (QI F) 60 [some (.ref 57), some (.int (nI k)), none, none, none] [.int (nI (hrT t p1))] I2 J := by
        intro p1 I2 ep hc hp1 hF2 h42 h32 hR2 h62
        have hb1 := hr_bd (p := p1) hW
        have sl := sk_le hp1
        have at112 : ∀ s0 x2, s0 = oI (idK (hrT t p1)) → Wp (d - 1) Md_panelsRead (QI F) 112 [some (.ref 57), some (.int (nI k)), some (.int x2), none, none] [.int s0] I2 J := by
          rintro s0 x2 rfl
          have k5 : ∀ j, idK (hrT t p1) = some j → j < 2 ^ 31 := fun j hj => by have := (idK_5 hj).1; omega
          refine v_Md_panelsRead_57_112 ⟨fun e => ?_, fun e => ?_⟩
          · have e := (oI_neg k5).mp e
            refine c_Md_must0 (by omega) h42 (fun I3 z1 z2 z3 => c_Md_digitF (by omega) z2 (fun I4 y1 y2 y3 => ⟨fun q => absurd (y2.symm.trans q) (by decide), fun _ => ?_⟩))
            refine v_Md_panelsRead_57_7 ⟨fun z => absurd (y2.symm.trans z) (by decide), fun _ => QI_i.mpr (kF _ (skT t p1) I4 ?_ ((hF2.tr z1.b).tr y1.b) y2 (by rw [y3, z3]; exact h32))⟩
            simp only [pPan]; rw [if_neg hc, ← ep]
            rw [show pPan1 t p1 = (skT t p1, none) from by unfold pPan1; rw [e]]
            exact Or.inl ⟨rfl, rfl⟩
          · cases ek : idK (hrT t p1) with
            | none => rw [ek] at e; exact absurd (by decide) e
            | some kd =>
              have hl := hr_lt (idK_5 ek).2
              refine c_Md_must1 (by omega) h42 (fun I3 z1 z2 z3 => ?_)
              have h33 : I3 57 3 = nI (skT t p1 + 1) := by rw [z3, h32, n_inc]
              have F3 := hF2.tr z1.b
              refine c_Md_digit (lo := 1) (hi := 3) (by omega) hW (F3.tpm hT) (AtM_of hl h33) z2 (by decide) (by decide) (fun q v I4 e2 y0 y1 y2 y3 => ⟨fun q => absurd (y2.symm.trans q) (by decide), fun _ => ?_⟩) (fun q dp I4 e2 y0 y8 y9 y1 y2 y3 => ⟨fun _ => ?_, fun q => absurd y2 q⟩)
              · refine v_Md_panelsRead_57_7 ⟨fun z => absurd (y2.symm.trans z) (by decide), fun _ => QI_i.mpr (kF _ q I4 ?_ (F3.tr y1.b) y2 y3)⟩
                simp only [pPan]; rw [if_neg hc, ← ep]
                rw [show pPan1 t p1 = (q, none) from by unfold pPan1; rw [ek]; dsimp only; rw [e2]]
                exact Or.inl ⟨rfl, rfl⟩
              · have e1 : pPan1 t p1 = (q, some (kd, dp)) := by unfold pPan1; rw [ek]; dsimp only; rw [e2]
                have es : pPan t (r + 1) k p B lid = if lid = none ∧ hrT t q = 33 then pPan t r (k + 1) (skT t q + 1) (B.addP kd dp) (some k) else pPan t r (k + 1) q (B.addP kd dp) lid := by
                  simp only [pPan]; rw [if_neg hc, ← ep, e1]
                have F4 := F3.tr y1.b
                have R4 := RpM_u (RpM_u hR2 z1) y1
                have h64 : I4 57 6 = oI lid := by rw [y1.2 6 (by decide) (by decide), z1.2 6 (by decide) (by decide)]; exact h62
                have hbq := hr_bd (p := q) hW
                have e2k : (2 : Int32) * nI k = nI (2 * k) := pk_mul 2 k
                have hk2 : (B.addP kd dp).pn = k + 1 := by show B.pn + 1 = k + 1; omega
                have Radd : ∀ I5 : Nat → Nat → Int32, RpM B I5 → RpM (B.addP kd dp) (up2 (up2 I5 60 (2 * k) (nI kd)) 60 (2 * k + 1) (nI dp)) := by
                  intro I5 h5 j hj
                  have hj : j < k + 1 := by rw [hk2] at hj; exact hj
                  show _ = nI (updN B.kd B.pn kd j) ∧ _ = nI (updN B.dp B.pn dp j)
                  rw [hk]
                  by_cases ej : j = k
                  · subst ej; simp [up2, upd, updN]
                  · have z1 : ¬ 2 * j = 2 * k + 1 := by omega
                    have z2 : ¬ 2 * j = 2 * k := by omega
                    have z3 : ¬ 2 * j + 1 = 2 * k := by omega
                    simp [up2, upd, updN, ej, z1, z2, z3]
                    exact h5 j (by omega)
                have hv1 := n_vp (a := 2 * k) (n := 10) (by omega) (by decide)
                have hv2 := n_vp (a := 2 * k + 1) (n := 10) (by omega) (by decide)
                refine c_Md_here (by omega) hW (F4.tpm hT) (AtM_of y0 y3) (fun I5 w1 w2 => ?_)
                have F5 := F4.tr w1.u.b
                have R5 := RpM_u R4 w1.u
                have h45 : I5 57 4 = 0 := by rw [w1.2 4 (by decide)]; exact y2
                have h65 : I5 57 6 = oI lid := by rw [w1.2 6 (by decide)]; exact h64
                rw [show (nI (hrT t q) = 33) = (nI (hrT t q) = nI 33) from rfl, n_eq (by omega) (by decide), h65, oI_neg (fun j hj => by have := hlid j hj; omega), e2k, n_inc, n_inc, n_tN (by omega), n_tN (by omega)]
                refine ⟨fun e33 => ⟨fun el => ?_, fun el => ?_⟩, fun e33 => ⟨fun _ => ⟨hv1, hv2, ?_⟩, fun q => absurd h45 q⟩⟩
                · have hlt := hr_lt (t := t) (p := q) (by rw [e33]; decide)
                  rw [if_pos ⟨el, e33⟩] at es
                  refine c_Md_must1 (by omega) h45 (fun I6 v1 v2 v3 => ⟨fun _ => ⟨hv1, hv2, ?_⟩, fun q => absurd v2 q⟩)
                  have R6 := RpM_u R5 v1
                  refine ih (k + 1) (skT t q + 1) _ (some k) _ (by omega) hlt (((F5.tr v1.b).tr FrB_6).tr (FrB_60.tr FrB_60)) (by simp [up2, upd]; exact v2) (AtM_of hlt (by simp [up2, upd]; rw [v3, w2, n_inc])) hk2 (Radd _ (fun j hj => by simp [up2]; exact R6 j hj)) (by simp [up2, upd]; rfl) (fun j hj => by cases hj; exact Nat.lt_succ_self k) (fun v q' I7 e7 => kF v q' I7 (by rw [es]; exact e7)) (fun q' x I7 e7 => kS q' x I7 (es.trans e7))
                · rw [if_neg (fun z => el z.1)] at es
                  refine c_Md_must0 (by omega) h45 (fun I6 v1 v2 v3 => ⟨fun q => absurd (v2.symm.trans q) (by decide), fun _ => ?_⟩)
                  refine v_Md_panelsRead_57_7 ⟨fun z => absurd z (by simp [up2, upd]; rw [v2]; decide), fun _ => QI_i.mpr (kF _ (skT t q) _ (by rw [es]; exact bad_two y0 (Nat.succ_pos k) el e33) ((F5.tr v1.b).tr FrB_6) (by simp [up2, upd]; exact v2) (by simp [up2, upd]; rw [v3, w2]))⟩
                · rw [if_neg (fun z => e33 z.2)] at es
                  exact ih (k + 1) q _ lid _ (by omega) y0 (F5.tr (FrB_60.tr FrB_60)) (by simp [up2]; exact h45) ((AtM_of y0 y3).sk (by simp [up2]; exact w2)) hk2 (Radd _ R5) (by simp [up2]; exact h65) (fun j hj => by have := hlid j hj; omega) (fun v q' I7 e7 => kF v q' I7 (by rw [es]; exact e7)) (fun q' x I7 e7 => kS q' x I7 (es.trans e7))
        refine v_Md_panelsRead_57_60 ?_
        rw [show (nI (hrT t p1) = 112) = (nI (hrT t p1) = nI 112) from rfl, n_eq (by omega) (by decide), show (nI (hrT t p1) = 115) = (nI (hrT t p1) = nI 115) from rfl, n_eq (by omega) (by decide), show (nI (hrT t p1) = 114) = (nI (hrT t p1) = nI 114) from rfl, n_eq (by omega) (by decide), show (nI (hrT t p1) = 108) = (nI (hrT t p1) = nI 108) from rfl, n_eq (by omega) (by decide), show (nI (hrT t p1) = 98) = (nI (hrT t p1) = nI 98) from rfl, n_eq (by omega) (by decide)]
        unfold idK at at112
        refine ⟨fun e => at112 _ _ ?_, fun f1 => ⟨fun e => at112 _ _ ?_, fun f2 => ⟨fun e => at112 _ _ ?_, fun f3 => ⟨fun e => at112 _ _ ?_, fun f4 => ⟨fun e => at112 _ _ ?_, fun f5 => at112 _ _ ?_⟩⟩⟩⟩⟩
        · rw [if_pos e]; rfl
        · rw [if_neg f1, if_pos e]; rfl
        · rw [if_neg f1, if_neg f2, if_pos e]; rfl
        · rw [if_neg f1, if_neg f2, if_neg f3, if_pos e]; rfl
        · rw [if_neg f1, if_neg f2, if_neg f3, if_neg f4, if_pos e]; rfl
        · rw [if_neg f1, if_neg f2, if_neg f3, if_neg f4, if_neg f5]; rfl
      refine v_Md_panelsRead_57_7 ⟨fun _ => ⟨fun e0 => ⟨fun q => absurd (by rw [e0] at q; exact q) (by decide), fun _ => ?_⟩, fun e0 => ?_⟩, fun q => absurd h4 q⟩
      · have e0 : k = 0 := (n_e0 (by omega)).mp e0
        exact c_Md_here (by omega) hW (hFr.tpm hT) hat (fun I2 z1 z2 => tail p I2 (by rw [if_neg (by omega)]) (fun q => by omega) hp (hFr.tr z1.u.b) (by rw [z1.2 4 (by decide)]; exact h4) z2 (RpM_u hR z1.u) (by rw [z1.2 6 (by decide)]; exact h6))
      · have hk0 : 0 < k := Nat.pos_of_ne_zero (fun q => e0 ((n_e0 (by omega)).mpr q))
        refine c_Md_here (by omega) hW (hFr.tpm hT) hat (fun I2 z1 z2 => ?_)
        have h42 : I2 57 4 = 0 := by rw [z1.2 4 (by decide)]; exact h4
        rw [show (nI (hrT t p) = 44) = (nI (hrT t p) = nI 44) from rfl, n_eq (by omega) (by decide)]
        refine ⟨fun e => ⟨fun _ => ⟨fun _ => v_Md_panelsRead_57_42 (c_Md_must1 (by omega) h42 (fun I3 y1 y2 y3 => ⟨fun _ => ?_, fun q => absurd y2 q⟩)), fun q => absurd ((n_lt (b := 5) (by omega) (by decide)).mpr (by omega)) q⟩, fun q => absurd ((n_p0 (by omega)).mpr (by omega)) q⟩, fun e => QI_i.mpr ?_⟩
        · have hlt := hr_lt (t := t) (p := p) (by rw [e]; decide)
          have h33 : I3 57 3 = nI (skT t p + 1) := by rw [y3, z2, n_inc]
          have F3 := (hFr.tr z1.u.b).tr y1.b
          exact c_Md_here (by omega) hW (F3.tpm hT) (AtM_of hlt h33) (fun I4 w1 w2 => tail (skT t p + 1) I4 (by rw [if_pos hk0]) (fun q => q.2 e) hlt (F3.tr w1.u.b) (by rw [w1.2 4 (by decide)]; exact y2) w2 (RpM_u (RpM_u (RpM_u hR z1.u) y1) w1.u) (by rw [w1.2 6 (by decide), y1.2 6 (by decide) (by decide), z1.2 6 (by decide)]; exact h6))
        · have es : pPan t (r + 1) k p B lid = (skT t p, some (B, lid)) := by simp only [pPan]; rw [if_pos ⟨hk0, e⟩]
          have := kS _ _ I2 es (hFr.tr z1.u.b) h42 ⟨skT t p, hat.le, rfl, z2⟩ (RpM_u hR z1.u) (by rw [z1.2 6 (by decide)]; exact h6)
          rw [show (B, lid).1.pn = k from hk] at this
          exact this
  refine CI.of (by omega) rfl (v_Md_panelsRead_57_0 (loop 5 0 0 Bx0 none _ rfl (Nat.zero_le _) FrB_6 (by simp [up2, upd]; exact h4) (AtM_of (Nat.zero_le _) (by simp [up2, upd]; exact h3)) rfl (fun k hk => absurd hk (Nat.not_lt_zero k)) (by simp [up2, upd]; rfl) (fun j hj => by cases hj) hF hS))
end TAPE6
