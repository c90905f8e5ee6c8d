/-! the tape, and the reading of it: what it is; the class' small readers -/
abbrev Tpe : Type := Nat × (Nat → Nat)
def skF (c : Nat → Nat) : Nat → Nat → Nat
  | 0, p => p
  | k + 1, p => if c p = 32 then skF c k (p + 1) else p
/-- behind blanks -/
def skT (t : Tpe) (p : Nat) : Nat := skF t.2 (t.1 - p) p
/-- the letter there (0: the end) -/
def hrT (t : Tpe) (p : Nat) : Nat := if skT t p < t.1 then t.2 (skT t p) else 0
def idK (c : Nat) : Option Nat := if c = 112 then some 0 else if c = 115 then some 1 else if c = 114 then some 2 else if c = 108 then some 3 else if c = 98 then some 4 else none
def idW (c : Nat) : Option Nat := if c = 60 then some 0 else if c = 62 then some 1 else if c = 61 then some 2 else none
def pDig (t : Tpe) (lo hi p : Nat) : Nat × Option Nat := if 48 + lo ≤ hrT t p ∧ hrT t p ≤ 48 + hi then (skT t p + 1, some (hrT t p - 48)) else (skT t p, none)
def pPan1 (t : Tpe) (p : Nat) : Nat × Option (Nat × Nat) := match idK (hrT t p) with
  | none => (skT t p, none)
  | some kd => match pDig t 1 3 (skT t p + 1) with
    | (q, none) => (q, none)
    | (q, some dp) => (q, some (kd, dp))
def pPan (t : Tpe) : Nat → Nat → Nat → Bx → Option Nat → Nat × Option (Bx × Option Nat)
  | 0, _, p, B, lid => (p, some (B, lid))
  | r + 1, k, p, B, lid => if 0 < k ∧ hrT t p ≠ 44 then (skT t p, some (B, lid)) else
    match pPan1 t (if 0 < k then skT t p + 1 else p) with
    | (q, none) => (q, none)
    | (q, some x) => if lid = none ∧ hrT t q = 33 then pPan t r (k + 1) (skT t q + 1) (B.addP x.1 x.2) (some k) else pPan t r (k + 1) q (B.addP x.1 x.2) lid
def pPl (t : Tpe) (dp : Nat) : Nat → Nat → Nat → Nat → Nat × Nat
  | 0, _, a, p => (p, a)
  | r + 1, lo, a, p => match pDig t lo dp p with
    | (q, none) => (q, a)
    | (q, some v) => pPl t dp r (v + 1) (a ||| 2 ^ v) q
def pLk1 (t : Tpe) (B : Bx) (p : Nat) : Nat × Option (Nat × Nat × Nat × Nat) := match pDig t 0 (B.pn - 1) p with
  | (q, none) => (q, none)
  | (q, some a) => match idW (hrT t q) with
    | none => (skT t q, none)
    | some w => if hrT t (skT t q + 1) = 48 + a then (skT t (skT t q + 1), none) else match pDig t 0 (B.pn - 1) (skT t q + 1) with
      | (q2, none) => (q2, none)
      | (q2, some o) => if (pPl t (B.dp o) (B.dp o + 1) 0 0 q2).2 = 0 then (skT t (pPl t (B.dp o) (B.dp o + 1) 0 0 q2).1, none) else ((pPl t (B.dp o) (B.dp o + 1) 0 0 q2).1, some (a, w, o, (pPl t (B.dp o) (B.dp o + 1) 0 0 q2).2))
def pLks (t : Tpe) : Nat → Nat → Nat → Bx → Nat × Option Bx
  | 0, _, p, B => if hrT t p = 0 then (skT t p, some B) else (skT t p, none)
  | r + 1, l, p, B => if 0 < l ∧ hrT t p ≠ 44 then (if hrT t p = 0 then (skT t p, some B) else (skT t p, none)) else
    match pLk1 t B (if 0 < l then skT t p + 1 else p) with
    | (q, none) => (q, none)
    | (q, some x) => pLks t r (l + 1) q (B.addL x.1 x.2.1 x.2.2.1 x.2.2.2)
def Bx0 : Bx := ((0, 0), (fun _ => 0, fun _ => 0), (fun _ => 0, fun _ => 0, fun _ => 0, fun _ => 0))
def boxR (t : Tpe) : Nat × Option (Bx × Option Nat) := match pPan t 5 0 0 Bx0 none with
  | (q, none) => (q, none)
  | (q, some x) => if hrT t q = 0 then (q, some x) else if hrT t q = 59 then (match pLks t 6 0 (skT t q + 1) x.1 with
    | (q', none) => (q', none)
    | (q', some B) => (q', some (B, x.2))) else (skT t q, none)
def lidN (o : Option Nat) : Nat := match o with
  | some k => k
  | none => 0
def boxS (V : Bv) (t : Tpe) : Int32 × Bv := match boxR t with
  | (q, none) => (-20 - nI q, V)
  | (_, some x) => (nI x.1.pn, (x.1, (lidN x.2, 0, 0, V.dr), []))
def typeS (t : Tpe) (x : Int32) : Int32 × Tpe := if x < 32 ∨ 126 < x then (-1, t) else if t.1 < 90 then (nI (t.1 + 1), (t.1 + 1, updN t.2 t.1 (tN x))) else (-3, t)
def WFT (t : Tpe) : Prop := t.1 ≤ 90 ∧ ∀ k, k < t.1 → 32 ≤ t.2 k ∧ t.2 k ≤ 126
/-! blanks -/
theorem sk_step {t : Tpe} {p : Nat} (h : p < t.1) (h2 : t.2 p = 32) : skT t p = skT t (p + 1) := by
  unfold skT
  rw [show t.1 - p = (t.1 - (p + 1)) + 1 by omega]
  simp only [skF]; rw [if_pos h2]
theorem sk_stop {t : Tpe} {p : Nat} (h : ¬ (p < t.1 ∧ t.2 p = 32)) : skT t p = p := by
  unfold skT
  rcases Nat.lt_or_ge p t.1 with h1 | h1
  · rw [show t.1 - p = (t.1 - (p + 1)) + 1 by omega]
    simp only [skF]; rw [if_neg (fun q => h ⟨h1, q⟩)]
  · rw [show t.1 - p = 0 by omega]; rfl
theorem sk_fin {t : Tpe} : ∀ k p, p + k = t.1 → p ≤ skT t p ∧ skT t p ≤ t.1 ∧ skT t (skT t p) = skT t p := by
  intro k
  induction k with
  | zero =>
    intro p hp
    have e : skT t p = p := sk_stop (fun q => by omega)
    rw [e]; exact ⟨Nat.le_refl _, by omega, e⟩
  | succ k ih =>
    intro p hp
    by_cases h : t.2 p = 32
    · have := ih (p + 1) (by omega)
      rw [sk_step (by omega) h]; exact ⟨by omega, this.2⟩
    · have e : skT t p = p := sk_stop (fun q => h q.2)
      rw [e]; exact ⟨Nat.le_refl _, by omega, e⟩
theorem sk_le {t : Tpe} {p : Nat} (h : p ≤ t.1) : skT t p ≤ t.1 := (sk_fin (t.1 - p) p (by omega)).2.1
theorem sk_sk {t : Tpe} {p : Nat} (h : p ≤ t.1) : skT t (skT t p) = skT t p := (sk_fin (t.1 - p) p (by omega)).2.2
theorem hr_sk {t : Tpe} {p : Nat} (h : p ≤ t.1) : hrT t (skT t p) = hrT t p := by
  unfold hrT; rw [sk_sk h]
theorem hr_same {t : Tpe} {p q : Nat} (h : skT t p = skT t q) : hrT t p = hrT t q := by
  unfold hrT; rw [h]
theorem hr_lt {t : Tpe} {p : Nat} (h : hrT t p ≠ 0) : skT t p < t.1 := by
  rcases Nat.lt_or_ge (skT t p) t.1 with q | q
  · exact q
  · exfalso; apply h; unfold hrT; exact if_neg (by omega)
theorem hr_bd {t : Tpe} {p : Nat} (hW : WFT t) : hrT t p ≤ 126 := by
  unfold hrT
  split
  · next h => exact (hW.2 _ h).2
  · omega
theorem hr_sp {t : Tpe} {p : Nat} (hW : WFT t) (hp : p ≤ t.1) : hrT t p = 0 ∨ (skT t p < t.1 ∧ 32 < hrT t p) := by
  by_cases e : hrT t p = 0
  · exact Or.inl e
  · have h := hr_lt e
    refine Or.inr ⟨h, ?_⟩
    have h1 := (hW.2 _ h).1
    have e2 : hrT t p = t.2 (skT t p) := if_pos h
    rw [e2]
    rcases Nat.lt_or_ge 32 (t.2 (skT t p)) with q | q
    · exact q
    · have e3 : t.2 (skT t p) = 32 := by omega
      have e4 := sk_step h e3
      rw [sk_sk hp] at e4
      have e5 := (sk_fin (t := t) (t.1 - (skT t p + 1)) (skT t p + 1) (by omega)).1
      omega
theorem ch_nar : ∀ c, c < 128 → vp_nar .char (nI c) = nI c := by decide +kernel
theorem ch_i2c : ∀ c, c < 128 → i2c (nI c) = nI c := by decide +kernel
/-- the tape of the class; where it is read, blanks aside -/
def TpC (t : Tpe) (I : I2) : Prop := I 31 1 = nI t.1 ∧ ∀ k, k < t.1 → I 32 k = nI (t.2 k)
def AtC (t : Tpe) (p : Nat) (I : I2) : Prop := ∃ p', p' ≤ t.1 ∧ skT t p' = skT t p ∧ I 31 2 = nI p'
/-- the place alone -/
def FrT (I I' : I2) : Prop := (∀ a, a ≠ 31 → I' a = I a) ∧ ∀ k, k ≠ 2 → I' 31 k = I 31 k
theorem FrT.rf {I : I2} : FrT I I := ⟨fun _ _ => rfl, fun _ _ => rfl⟩
theorem FrT.tr {I0 I1 I2 : I2} (h1 : FrT I0 I1) (h2 : FrT I1 I2) : FrT I0 I2 := ⟨fun a x => (h2.1 a x).trans (h1.1 a x), fun k x => (h2.2 k x).trans (h1.2 k x)⟩
theorem FrT_up {I : I2} {x : Int32} : FrT I (up2 I 31 2 x) := ⟨fun a h => by simp [up2, h], fun k h => by simp [up2, upd, h]⟩
theorem FrT.tpc {t : Tpe} {I I' : I2} (h : FrT I I') (hT : TpC t I) : TpC t I' := ⟨by rw [h.2 1 (by decide)]; exact hT.1, fun k hk => by rw [h.1 32 (by decide)]; exact hT.2 k hk⟩
theorem AtC_of {t : Tpe} {q : Nat} {I : I2} (hq : q ≤ t.1) (h : I 31 2 = nI q) : AtC t q I := ⟨q, hq, rfl, h⟩
theorem AtC.le {t : Tpe} {p : Nat} {I : I2} (h : AtC t p I) : skT t p ≤ t.1 := by
  obtain ⟨p', h1, h2, _⟩ := h
  rw [← h2]; exact sk_le h1
theorem AtC.ss {t : Tpe} {p : Nat} {I : I2} (h : AtC t p I) : skT t (skT t p) = skT t p := by
  obtain ⟨p', h1, h2, _⟩ := h
  rw [← h2]; exact sk_sk h1
theorem AtC.sk {t : Tpe} {p : Nat} {I I' : I2} (h : AtC t p I) (h2 : I' 31 2 = nI (skT t p)) : AtC t p I' := ⟨skT t p, h.le, h.ss, h2⟩
section TAPE
variable {d p : Nat} {t : Tpe} {I : I2} {J : J2} {G : I2 → J2 → Prop} {F : Int32 → I2 → J2 → Prop}
theorem l_Tp_peek (hW : WFT t) : ∀ k p I, p + k = t.1 → TpC t I → I 31 2 = nI p → (∀ I', FrT I I' → I' 31 2 = nI (skT t p) → F (nI (hrT t p)) I' J) → Wp d Tp_peek (QI F) 0 [some (.ref 31)] [] I J := by
  have h90 := hW.1
  intro k
  induction k with
  | zero =>
    intro p I hp hT h2 h
    have e : skT t p = p := sk_stop (fun q => by omega)
    refine v_Tp_peek_31_0 ⟨fun q => ?_, fun _ => ⟨by decide, QI_i.mpr ?_⟩⟩
    · rw [h2, hT.1] at q; exact absurd ((n_lt (by omega) (by omega)).mp q) (by omega)
    · have h := h I FrT.rf (by rw [e]; exact h2)
      rw [show hrT t p = 0 from if_neg (by rw [e]; omega)] at h
      exact h
  | succ k ih =>
    intro p I hp hT h2 h
    have hlt : p < t.1 := by omega
    have hc := hW.2 p hlt
    refine v_Tp_peek_31_0 ⟨fun _ => ⟨fun _ => ?_, fun q => ?_⟩, fun q => ?_⟩
    · rw [h2, n_tN (by omega), hT.2 p hlt, show (nI (t.2 p) = 32) = (nI (t.2 p) = nI 32) from rfl, n_eq (by omega) (by decide), n_inc]
      refine ⟨n_vp (by omega) (by decide), fun e => ?_, fun e => ⟨n_vp (by omega) (by decide), ch_nar _ (by omega), QI_i.mpr ?_⟩⟩
      · refine ih (p + 1) _ (by omega) (FrT_up.tpc hT) (by simp [up2, upd]) (fun I' k1 k2 => ?_)
        rw [← sk_step hlt e] at k2
        have := h I' (FrT_up.tr k1) k2
        rw [hr_same (sk_step hlt e)] at this; exact this
      · have e2 : skT t p = p := sk_stop (fun q => e q.2)
        have h := h I FrT.rf (by rw [e2]; exact h2)
        rw [show hrT t p = t.2 p from (if_pos (by rw [e2]; exact hlt)).trans (by rw [e2])] at h
        exact h
    · rw [h2] at q; exact absurd ((n_lt (b := 90) (by omega) (by decide)).mpr (by omega)) q
    · rw [h2, hT.1] at q; exact absurd ((n_lt (by omega) (by omega)).mpr hlt) q
theorem c_Tp_peek (hd : 1 ≤ d) (hW : WFT t) (hT : TpC t I) (hp : AtC t p I) (h : ∀ I', FrT I I' → I' 31 2 = nI (skT t p) → F (nI (hrT t p)) I' J) : CI d Tp_peek [.ref 31] I J F := by
  obtain ⟨p', h1, h2, h3⟩ := hp
  refine CI.of hd rfl (l_Tp_peek hW (t.1 - p') p' I (by omega) hT h3 (fun I' k1 k2 => ?_))
  rw [h2] at k2
  rw [hr_same h2]
  exact h I' k1 k2
theorem c_Tp_isEnd (hd : 2 ≤ d) (hW : WFT t) (hT : TpC t I) (hp : AtC t p I) (h : ∀ I', FrT I I' → I' 31 2 = nI (skT t p) → F (bI (decide (hrT t p = 0))) I' J) : CI d Tp_isEnd [.ref 31] I J F := by
  have hb := hr_bd (p := p) hW
  refine CI.of (by omega) rfl (v_Tp_isEnd_31_0 (c_Tp_peek (by omega) hW hT hp (fun I' k1 k2 => ?_)))
  have h := h I' k1 k2
  rw [n_e0 (by omega)]
  refine ⟨fun e => QI_i.mpr ?_, fun e => QI_i.mpr ?_⟩
  · rw [decide_eq_true e] at h; exact h
  · rw [decide_eq_false e] at h; exact h
theorem c_Tp_accept {x : Nat} (hd : 2 ≤ d) (hW : WFT t) (hT : TpC t I) (hp : AtC t p I) (hx : x < 200) (h0 : hrT t p ≠ x → ∀ I', FrT I I' → I' 31 2 = nI (skT t p) → F 0 I' J) (h1 : hrT t p = x → ∀ I', FrT I I' → I' 31 2 = nI (skT t p + 1) → F 1 I' J) : CI d Tp_accept [.ref 31, .int (nI x)] I J F := by
  have hb := hr_bd (p := p) hW
  refine CI.of (by omega) rfl (v_Tp_accept_31_0 (c_Tp_peek (by omega) hW hT hp (fun I' k1 k2 => ?_)))
  rw [n_eq (by omega) (by omega), k2, n_inc]
  exact ⟨fun e => QI_i.mpr (h1 e _ (k1.tr FrT_up) (by simp [up2, upd])), fun e => QI_i.mpr (h0 e I' k1 k2)⟩
theorem sub_gt {a b c : Nat} (ha : a < 2 ^ 30) (hb : b < 2 ^ 31) (hc : c < 2 ^ 30) : nI c < nI a - nI b ↔ c + b < a := by
  by_cases h : b ≤ a
  · rw [n_sub h, n_lt (by omega) (by omega)]; omega
  · have e : nI a - nI b = -nI (b - a) := by
      rw [← n_sub (a := b) (b := a) (by omega), Int32.neg_sub]
    have e2 : ¬ nI c < nI a - nI b := by
      rw [e, Int32.lt_iff_toInt_lt, sb_negT (by omega), nI_toInt (by omega)]; omega
    exact ⟨fun q => absurd q e2, fun q => by omega⟩
theorem c_Tp_digit {lo hi : Nat} (hd : 2 ≤ d) (hW : WFT t) (hT : TpC t I) (hp : AtC t p I) (hlo : lo < 200) (hhi : hi < 200) (h0 : ∀ q I', pDig t lo hi p = (q, none) → q ≤ t.1 → FrT I I' → I' 31 2 = nI q → F (-1) I' J) (h1 : ∀ q v I', pDig t lo hi p = (q, some v) → q ≤ t.1 → lo ≤ v → v ≤ hi → FrT I I' → I' 31 2 = nI q → F (nI v) I' J) : CI d Tp_digit [.ref 31, .int (nI lo), .int (nI hi)] I J F := by
  have hb := hr_bd (p := p) hW
  refine CI.of (by omega) rfl (v_Tp_digit_31_0 (c_Tp_peek (by omega) hW hT hp (fun I' k1 k2 => ?_)))
  unfold pDig at h0 h1
  rw [show (48 : Int32) = nI 48 from rfl, sub_lt (by omega) (by omega) (by omega), sub_gt (by omega) (by omega) (by omega), k2, n_inc]
  have bad : ¬ (48 + lo ≤ hrT t p ∧ hrT t p ≤ 48 + hi) → F (-1) I' J := by
    intro q
    rw [if_neg q] at h0
    exact h0 _ I' rfl hp.le k1 k2
  refine ⟨fun e => QI_i.mpr (bad (by omega)), fun e => ⟨fun e2 => QI_i.mpr (bad (by omega)), fun e2 => ?_⟩⟩
  have q : 48 + lo ≤ hrT t p ∧ hrT t p ≤ 48 + hi := ⟨by omega, by omega⟩
  rw [if_pos q] at h1
  have hl := hr_lt (t := t) (p := p) (by omega)
  rw [n_sub (by omega)]
  exact QI_i.mpr (h1 _ _ _ rfl (by omega) (by omega) (by omega) (k1.tr FrT_up) (by simp [up2, upd]))
def oI (o : Option Nat) : Int32 := match o with
  | some k => nI k
  | none => -1
theorem tx1_i : ∀ c, c < 128 → txF (nI c) tx1 0 = oI (idK c) := by decide +kernel
theorem tx2_i : ∀ c, c < 128 → txF (nI c) tx2 0 = oI (idW c) := by decide +kernel
theorem idK_5 {c k : Nat} (h : idK c = some k) : k ≤ 4 ∧ c ≠ 0 := by
  unfold idK at h
  split at h
  · cases h; exact ⟨by decide, by omega⟩
  · split at h
    · cases h; exact ⟨by decide, by omega⟩
    · split at h
      · cases h; exact ⟨by decide, by omega⟩
      · split at h
        · cases h; exact ⟨by decide, by omega⟩
        · split at h
          · cases h; exact ⟨by decide, by omega⟩
          · cases h
theorem idW_3 {c k : Nat} (h : idW c = some k) : k ≤ 2 ∧ c ≠ 0 := by
  unfold idW at h
  split at h
  · cases h; exact ⟨by decide, by omega⟩
  · split at h
    · cases h; exact ⟨by decide, by omega⟩
    · split at h
      · cases h; exact ⟨by decide, by omega⟩
      · cases h
theorem c_Tp_oneOfK (hd : 2 ≤ d) (hW : WFT t) (hT : TpC t I) (hp : AtC t p I) (h0 : idK (hrT t p) = none → ∀ I', FrT I I' → I' 31 2 = nI (skT t p) → F (-1) I' J) (h1 : ∀ k, idK (hrT t p) = some k → k ≤ 4 → skT t p + 1 ≤ t.1 → ∀ I', FrT I I' → I' 31 2 = nI (skT t p + 1) → F (nI k) I' J) : CI d Tp_oneOf [.ref 31, .ref 201] I J F := by
  have hb := hr_bd (p := p) hW
  refine CI.of (by omega) rfl (v_Tp_oneOf_31_201_0 (c_Tp_peek (by omega) hW hT hp (fun I' k1 k2 => ?_)))
  rw [tx1_i _ (by omega), k2, n_inc]
  cases e : idK (hrT t p) with
  | none => exact ⟨fun _ => QI_i.mpr (h0 e I' k1 k2), fun q => absurd (by decide) q⟩
  | some k =>
    obtain ⟨e1, e2⟩ := idK_5 e
    have hl := hr_lt e2
    exact ⟨fun q => absurd q (nI_pos (by omega)), fun _ => QI_i.mpr (h1 k e e1 hl _ (k1.tr FrT_up) (by simp [up2, upd]))⟩
theorem c_Tp_oneOfW (hd : 2 ≤ d) (hW : WFT t) (hT : TpC t I) (hp : AtC t p I) (h0 : idW (hrT t p) = none → ∀ I', FrT I I' → I' 31 2 = nI (skT t p) → F (-1) I' J) (h1 : ∀ k, idW (hrT t p) = some k → k ≤ 2 → skT t p + 1 ≤ t.1 → ∀ I', FrT I I' → I' 31 2 = nI (skT t p + 1) → F (nI k) I' J) : CI d Tp_oneOf [.ref 31, .ref 202] I J F := by
  have hb := hr_bd (p := p) hW
  refine CI.of (by omega) rfl (v_Tp_oneOf_31_202_0 (c_Tp_peek (by omega) hW hT hp (fun I' k1 k2 => ?_)))
  rw [tx2_i _ (by omega), k2, n_inc]
  cases e : idW (hrT t p) with
  | none => exact ⟨fun _ => QI_i.mpr (h0 e I' k1 k2), fun q => absurd (by decide) q⟩
  | some k =>
    obtain ⟨e1, e2⟩ := idW_3 e
    have hl := hr_lt e2
    exact ⟨fun q => absurd q (nI_pos (by omega)), fun _ => QI_i.mpr (h1 k e e1 hl _ (k1.tr FrT_up) (by simp [up2, upd]))⟩
end TAPE
