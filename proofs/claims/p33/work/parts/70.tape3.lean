/-! the tape: what is read is a box -/
section TAPE3
variable {t : Tpe}
theorem pDig_some {lo hi p q v : Nat} (h : pDig t lo hi p = (q, some v)) : lo ≤ v ∧ v ≤ hi ∧ q ≤ t.1 := by
  unfold pDig at h
  split at h
  · next e =>
    cases h
    have := hr_lt (t := t) (p := p) (by omega)
    omega
  · cases h
theorem pPl_le {dp : Nat} : ∀ r lo a p, p ≤ t.1 → (pPl t dp r lo a p).1 ≤ t.1 := by
  intro r
  induction r with
  | zero => intro lo a p hp; exact hp
  | succ r ih =>
    intro lo a p hp
    simp only [pPl]
    split
    · next q e => exact pDig_le hp e
    · next q v e => exact ih _ _ q (pDig_le hp e)
theorem pPan1_le {p q : Nat} {o : Option (Nat × Nat)} (hp : p ≤ t.1) (h : pPan1 t p = (q, o)) : q ≤ t.1 := by
  unfold pPan1 at h
  split at h
  · cases h; exact sk_le hp
  · next kd e =>
    have hl := hr_lt (idK_5 e).2
    split at h
    · next q1 e1 => cases h; exact pDig_le hl e1
    · next q1 dp e1 => cases h; exact pDig_le hl e1
theorem pPan1_wf {p q : Nat} {x : Nat × Nat} (h : pPan1 t p = (q, some x)) : x.1 ≤ 4 ∧ 1 ≤ x.2 ∧ x.2 ≤ 3 := by
  unfold pPan1 at h
  split at h
  · cases h
  · next kd e =>
    split at h
    · cases h
    · next q1 dp e1 =>
      cases h
      have := pDig_some e1
      exact ⟨(idK_5 e).1, this.1, this.2.1⟩
theorem pPan_le : ∀ r k p B lid q o, p ≤ t.1 → pPan t r k p B lid = (q, o) → q ≤ t.1 := by
  intro r
  induction r with
  | zero => intro k p B lid q o hp h; simp only [pPan] at h; cases h; exact hp
  | succ r ih =>
    intro k p B lid q o hp h
    simp only [pPan] at h
    split at h
    · cases h; exact sk_le hp
    · next hc =>
      have h1 : (if 0 < k then skT t p + 1 else p) ≤ t.1 := by
        split
        · next h0 => exact hr_lt (by intro z; apply hc; exact ⟨h0, by rw [z]; decide⟩)
        · exact hp
      split at h
      · next q1 e1 => cases h; exact pPan1_le h1 e1
      · next q1 x e1 =>
        have h2 := pPan1_le h1 e1
        split at h
        · next hb => exact ih _ _ _ _ q o (hr_lt (by rw [hb.2]; decide)) h
        · exact ih _ _ _ _ q o h2 h
theorem pPan_wf : ∀ r k p B lid q x, WFB B → B.pn = k → B.ln = 0 → k + r = 5 → (∀ j, lid = some j → j < k) → (0 < k ∨ 0 < r) → pPan t r k p B lid = (q, some x) → WFB x.1 ∧ 1 ≤ x.1.pn ∧ x.1.ln = 0 ∧ ∀ j, x.2 = some j → j < x.1.pn := by
  intro r
  induction r with
  | zero =>
    intro k p B lid q x hB hk hl hr hlid h0 h
    simp only [pPan] at h
    cases h
    exact ⟨hB, by show 1 ≤ B.pn; omega, hl, fun j hj => by have := hlid j hj; show j < B.pn; omega⟩
  | succ r ih =>
    intro k p B lid q x hB hk hl hr hlid h0 h
    simp only [pPan] at h
    split at h
    · next hc => cases h; exact ⟨hB, by have := hc.1; show 1 ≤ B.pn; omega, hl, fun j hj => by have := hlid j hj; show j < B.pn; omega⟩
    · split at h
      · cases h
      · next q1 y e1 =>
        obtain ⟨w1, w2, w3⟩ := pPan1_wf e1
        have hB2 := hB.addP (k := y.1) (dp := y.2) (by omega) w1 w2 w3
        have hk2 : (B.addP y.1 y.2).pn = k + 1 := by show B.pn + 1 = k + 1; omega
        split at h
        · exact ih (k + 1) _ _ _ q x hB2 hk2 hl (by omega) (fun j hj => by cases hj; exact Nat.lt_succ_self k) (Or.inl (Nat.succ_pos k)) h
        · exact ih (k + 1) _ _ _ q x hB2 hk2 hl (by omega) (fun j hj => by have := hlid j hj; omega) (Or.inl (Nat.succ_pos k)) h
theorem pLk1_le {B : Bx} {p q : Nat} {o : Option (Nat × Nat × Nat × Nat)} (hp : p ≤ t.1) (h : pLk1 t B p = (q, o)) : q ≤ t.1 := by
  unfold pLk1 at h
  split at h
  · next q1 e1 => cases h; exact pDig_le hp e1
  · next q1 a e1 =>
    have h1 := pDig_le hp e1
    split at h
    · cases h; exact sk_le h1
    · next w ew =>
      have h2 := hr_lt (idW_3 ew).2
      split at h
      · cases h; exact sk_le h2
      · split at h
        · next q2 e2 => cases h; exact pDig_le h2 e2
        · next q2 o2 e2 =>
          have h3 := pPl_le (dp := B.dp o2) (B.dp o2 + 1) 0 0 q2 (pDig_le h2 e2)
          split at h
          · cases h; exact sk_le h3
          · cases h; exact h3
theorem pLk1_wf {B : Bx} {p q : Nat} {x : Nat × Nat × Nat × Nat} (hB : WFB B) (h1 : 1 ≤ B.pn) (h : pLk1 t B p = (q, some x)) : x.1 < B.pn ∧ x.2.1 ≤ 2 ∧ x.2.2.1 < B.pn ∧ 1 ≤ x.2.2.2 ∧ x.2.2.2 ≤ 15 := by
  unfold pLk1 at h
  split at h
  · cases h
  · next q1 a e1 =>
    have d1 := pDig_some e1
    split at h
    · cases h
    · next w ew =>
      split at h
      · cases h
      · split at h
        · cases h
        · next q2 o2 e2 =>
          have d2 := pDig_some e2
          split at h
          · cases h
          · next hz =>
            cases h
            have hdp := (hB.2.2.1 o2 (by omega)).2.2
            have hlt := pPl_lt (t := t) (dp := B.dp o2) (B.dp o2 + 1) 0 0 q2 (by decide) (by omega)
            have hlt2 : 2 ^ (B.dp o2 + 1) ≤ 2 ^ 4 := Nat.pow_le_pow_right (by decide) (by omega)
            exact ⟨by show a < B.pn; omega, (idW_3 ew).1, by show o2 < B.pn; omega, Nat.pos_of_ne_zero hz, by show (pPl t (B.dp o2) (B.dp o2 + 1) 0 0 q2).2 ≤ 15; omega⟩
theorem pLks_le : ∀ r l p B q o, p ≤ t.1 → pLks t r l p B = (q, o) → q ≤ t.1 := by
  intro r
  induction r with
  | zero =>
    intro l p B q o hp h
    simp only [pLks] at h
    split at h
    · cases h; exact sk_le hp
    · cases h; exact sk_le hp
  | succ r ih =>
    intro l p B q o hp h
    simp only [pLks] at h
    split at h
    · split at h
      · cases h; exact sk_le hp
      · cases h; exact sk_le hp
    · next hc =>
      have h1 : (if 0 < l then skT t p + 1 else p) ≤ t.1 := by
        split
        · next h0 => exact hr_lt (by intro z; apply hc; exact ⟨h0, by rw [z]; decide⟩)
        · exact hp
      split at h
      · next q1 e1 => cases h; exact pLk1_le h1 e1
      · next q1 x e1 => exact ih _ _ _ q o (pLk1_le h1 e1) h
theorem pLks_wf : ∀ r l p B q B', WFB B → 1 ≤ B.pn → B.ln = l → l + r = 6 → pLks t r l p B = (q, some B') → WFB B' ∧ B'.pn = B.pn := by
  intro r
  induction r with
  | zero =>
    intro l p B q B' hB h1 hl hr h
    simp only [pLks] at h
    split at h
    · cases h; exact ⟨hB, rfl⟩
    · cases h
  | succ r ih =>
    intro l p B q B' hB h1 hl hr h
    simp only [pLks] at h
    split at h
    · split at h
      · cases h; exact ⟨hB, rfl⟩
      · cases h
    · split at h
      · cases h
      · next q1 x e1 =>
        obtain ⟨w1, w2, w3, w4, w5⟩ := pLk1_wf hB h1 e1
        have hB2 := hB.addL (a := x.1) (w := x.2.1) (o := x.2.2.1) (ps := x.2.2.2) (by omega) w1 w2 w3 w4 w5
        have := ih (l + 1) _ _ q B' hB2 h1 (by show B.ln + 1 = l + 1; omega) (by omega) h
        exact ⟨this.1, this.2⟩
theorem WFB_0 : WFB Bx0 := ⟨Nat.zero_le _, Nat.zero_le _, fun p hp => absurd hp (Nat.not_lt_zero p), fun p hp => absurd hp (Nat.not_lt_zero p)⟩
theorem boxR_wf {q : Nat} {x : Bx × Option Nat} (h : boxR t = (q, some x)) : WFB x.1 ∧ 1 ≤ x.1.pn ∧ ∀ j, x.2 = some j → j < x.1.pn := by
  unfold boxR at h
  split at h
  · cases h
  · next q1 y e1 =>
    obtain ⟨w1, w2, w3, w4⟩ := pPan_wf 5 0 0 Bx0 none q1 y WFB_0 rfl rfl rfl (fun j hj => by cases hj) (Or.inr (by decide)) e1
    split at h
    · cases h; exact ⟨w1, w2, w4⟩
    · split at h
      · split at h
        · cases h
        · next q2 B' e2 =>
          cases h
          have := pLks_wf 6 0 _ _ _ B' w1 w2 w3 rfl e2
          exact ⟨this.1, by show 1 ≤ B'.pn; omega, fun j hj => by have := w4 j hj; show j < B'.pn; omega⟩
      · cases h
theorem boxR_le {q : Nat} {o : Option (Bx × Option Nat)} (h : boxR t = (q, o)) : q ≤ t.1 := by
  unfold boxR at h
  split at h
  · next q1 e1 => cases h; exact pPan_le 5 0 0 _ _ _ _ (Nat.zero_le _) e1
  · next q1 y e1 =>
    have h1 := pPan_le 5 0 0 _ _ q1 _ (Nat.zero_le _) e1
    split at h
    · cases h; exact h1
    · split at h
      · next h59 =>
        have h2 : skT t q1 + 1 ≤ t.1 := hr_lt (by rw [h59]; decide)
        split at h
        · next q2 e2 => cases h; exact pLks_le 6 0 _ _ _ _ h2 e2
        · next q2 B' e2 => cases h; exact pLks_le 6 0 _ _ _ _ h2 e2
      · cases h; exact sk_le h1
theorem WF_box {V : Bv} (hw : WFV V) : WFV (boxS V t).2 := by
  unfold boxS
  split
  · exact hw
  · next q x e =>
    obtain ⟨w1, w2, w3⟩ := boxR_wf e
    refine ⟨w1, Or.inr ?_, okS_0, Nat.pow_pos (by decide), hw.2.2.2.2.1, Nat.zero_le _, fun y hy => by cases hy⟩
    show lidN x.2 < x.1.pn
    cases ex : x.2 with
    | none => exact w2
    | some j => exact w3 j ex
theorem WF_type {x : Int32} (hW : WFT t) : WFT (typeS t x).2 := by
  unfold typeS
  split
  · exact hW
  · next hb =>
    simp only [not_or] at hb
    split
    · next h90 =>
      have x0 : ¬ x < 0 := fun q => hb.1 (Int32.lt_trans q (by decide))
      obtain ⟨j, hj, rfl⟩ := le_of (n := 126) x0 hb.2 (by decide)
      have j1 : 32 ≤ j := by
        have := hb.1
        rw [show (32 : Int32) = nI 32 from rfl, n_lt (by omega) (by decide)] at this; omega
      rw [n_tN (by omega)]
      refine ⟨h90, fun k hk => ?_⟩
      have hk : k < t.1 + 1 := hk
      show 32 ≤ updN t.2 t.1 j k ∧ updN t.2 t.1 j k ≤ 126
      unfold updN
      split
      · omega
      · exact hW.2 k (by omega)
    · exact hW
end TAPE3
