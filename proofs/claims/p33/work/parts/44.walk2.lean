/-! the class: the chart, the whole walk -/
def ChD (B : Bx) (I : I2) (s m : Nat) : Prop := I 34 (10 * s + m) = (if fitsB B s (m / 2) (m % 2) then nI (behB B s (m / 2) (m % 2) B.pn) else -1) ∧ I 35 (10 * s + m) = nI (hset B s (m / 2) (m % 2) B.ln)
/-- what is charted and walked holds, if it isn't told otherwise -/
def CaR (B : Bx) (I : I2) : Prop := I 1 17 = 1 ∨ (I 1 17 = 0 ∧ ChR B I ∧ ∃ s0 f0, okS B s0 ∧ f0 < 64 ∧ I 33 10 = nI s0 ∧ I 33 11 = nI f0 ∧ WkR (bfs B f0 s0) I)
section WALK2
variable {d : Nat} {B : Bx} {I : I2} {J : J2} {G : I2 → J2 → Prop} {F : Int32 → I2 → J2 → Prop} {s f m : Nat}
theorem l_Bx_isState (hd : 1 ≤ d) (hw : WFB B) (hB : BoxI 1 B I) (hs : s < 2 ^ 31) (h1 : (∀ p, p < B.pn → pl s p ≤ B.dp p) → F 1 I J) (h0 : ¬ (∀ p, p < B.pn → pl s p ≤ B.dp p) → F 0 I J) : ∀ k n, n + k = B.pn → (∀ p, p < n → pl s p ≤ B.dp p) → Wp d Bx_isState (QI F) 2 [some (.ref 1), some (.int (nI s)), some (.int (nI n))] [] I J := by
  have hp5 := hw.1
  intro k
  induction k with
  | zero =>
    intro n hn ha
    have hn : n = B.pn := by omega
    subst hn
    refine v_Bx_isState_1_2 ⟨fun q => ?_, fun _ => QI_i.mpr (h1 ha)⟩
    rw [hB.1] at q; exact absurd ((n_lt (by omega) (by omega)).mp q) (Nat.lt_irrefl _)
  | succ k ih =>
    intro n hn ha
    have hlt : n < B.pn := by omega
    have hdp := (hw.2.2.1 n hlt).2.2
    have hpl := pl_lt s n
    refine v_Bx_isState_1_2 ⟨fun _ => c_Sb_placeIn (by omega) hs (by omega) ⟨n_vp (by omega) (by decide), ?_⟩, fun q => absurd ((n_lt (by omega) (by omega)).mpr hlt) (by rw [hB.1] at q; exact q)⟩
    rw [n_tN (by omega), show I 3 n = nI (B.dp n) from (hB.2.2.1 n hlt).2, n_lt (by omega) (by omega), n_inc]
    refine ⟨fun e => QI_i.mpr (h0 (fun q => ?_)), fun e => ih (n + 1) (by omega) (fun p hp => ?_)⟩
    · have := q n hlt; omega
    · by_cases e2 : p = n
      · rw [e2]; omega
      · exact ha p (by omega)
theorem c_Bx_isState (hd : 2 ≤ d) (hw : WFB B) (hB : BoxI 1 B I) (hs : s < 2 ^ 31) (h1 : (∀ p, p < B.pn → pl s p ≤ B.dp p) → F 1 I J) (h0 : ¬ (∀ p, p < B.pn → pl s p ≤ B.dp p) → F 0 I J) : CI d Bx_isState [.ref 1, .int (nI s)] I J F :=
  CI.of (by omega) rfl (v_Bx_isState_1_0 (l_Bx_isState (by omega) hw hB hs h1 h0 _ 0 (Nat.zero_add _) (fun p hp => absurd hp (Nat.not_lt_zero p))))
theorem c_Wk_chartMove (hd : 4 ≤ d) (hw : WFB B) (hB : BoxI 1 B I) (hs : okS B s) (hm : m < 2 * B.pn) (h : G (up2 (up2 I 34 (10 * s + m) (if fitsB B s (m / 2) (m % 2) then nI (behB B s (m / 2) (m % 2) B.pn) else -1)) 35 (10 * s + m) (nI (hset B s (m / 2) (m % 2) B.ln))) J) : CV d Wk_chartMove [.ref 33, .int (nI s), .int (nI m)] I J G := by
  have hp5 := hw.1
  have hs2 := s31 hw hs.1
  have e3 : srI (nI m) 1 = nI (m / 2) := n_sr (k := 1) (by omega) (by decide)
  have hm2 : m % 2 < 2 := Nat.mod_lt _ (by decide)
  have hbx : ∀ z : Int32, BoxI 1 B (up2 I 34 (10 * s + m) z) := fun z => (FrW_up (by decide) (by decide)).box hB
  refine CV.of (by omega) rfl (v_Wk_chartMove_33_0 ?_)
  rw [e3, n_and1 (by omega), sp10, n_tN (by omega)]
  have hv := n_vp (a := 10 * s + m) (n := 10240) (by omega) (by decide)
  refine c_Bx_fits_1 (by omega) hw hB (by omega) (by omega) hm2 ?_
  rw [bI_0]
  refine ⟨fun e => ⟨hv, c_Bx_holding_1 (by omega) hw (hbx _) (by omega) (by omega) hm2 ⟨hv, QV_i.mpr ?_⟩⟩, fun e => c_Bx_behind_1 (by omega) hw hB (by omega) (by omega) hm2 ?_ ⟨hv, c_Bx_holding_1 (by omega) hw (hbx _) (by omega) (by omega) hm2 ⟨hv, QV_i.mpr ?_⟩⟩⟩
  · rw [e] at h; exact h
  · intro q
    have e : fitsB B s (m / 2) (m % 2) = true := by simpa using e
    unfold fitsB at e
    rw [if_pos q] at e
    simp only [Bool.and_eq_true, decide_eq_true_eq] at e
    exact e.1
  · have e : fitsB B s (m / 2) (m % 2) = true := by simpa using e
    rw [e] at h; exact h
theorem ChD_new {v w : Int32} (hv : v = (if fitsB B s (m / 2) (m % 2) then nI (behB B s (m / 2) (m % 2) B.pn) else -1)) (hw : w = nI (hset B s (m / 2) (m % 2) B.ln)) : ChD B (up2 (up2 I 34 (10 * s + m) v) 35 (10 * s + m) w) s m := by
  subst hv; subst hw
  refine ⟨?_, ?_⟩ <;> simp [up2, upd]
theorem ChD_old {v w : Int32} {a b : Nat} (h : ChD B I a b) (hb : b < 10) (hm : m < 10) (hne : a ≠ s ∨ b ≠ m) : ChD B (up2 (up2 I 34 (10 * s + m) v) 35 (10 * s + m) w) a b := by
  have : 10 * a + b ≠ 10 * s + m := by omega
  refine ⟨?_, ?_⟩
  · simp [up2, upd, this]; exact h.1
  · simp [up2, upd, this]; exact h.2
theorem l_Wk_chartS (hd : 4 ≤ d) (hw : WFB B) (hs : okS B s) {I0 : I2} (h : ∀ I', (∀ a, a < s → okS B a → ∀ b, b < 2 * B.pn → ChD B I' a b) → (∀ b, b < 2 * B.pn → ChD B I' s b) → FrW I0 I' → I' 33 8 = nI (2 * B.pn) → BoxI 1 B I' → Wp d Wk_chart (QV G) 15 [some (.ref 33), some (.int (nI s + 1)), none] [] I' J) : ∀ k n I, n + k = 2 * B.pn → (∀ a, a < s → okS B a → ∀ b, b < 2 * B.pn → ChD B I a b) → (∀ b, b < n → ChD B I s b) → FrW I0 I → I 33 8 = nI (2 * B.pn) → BoxI 1 B I → Wp d Wk_chart (QV G) 48 [some (.ref 33), some (.int (nI s)), some (.int (nI n))] [] I J := by
  have hp5 := hw.1
  intro k
  induction k with
  | zero =>
    intro n I hn h1 h2 h3 h4 h5
    have hn : n = 2 * B.pn := by omega
    subst hn
    refine v_Wk_chart_33_48 ⟨fun q => ?_, fun _ => h I h1 h2 h3 h4 h5⟩
    rw [h4] at q; exact absurd ((n_lt (by omega) (by omega)).mp q) (Nat.lt_irrefl _)
  | succ k ih =>
    intro n I hn h1 h2 h3 h4 h5
    have hlt : n < 2 * B.pn := by omega
    refine v_Wk_chart_33_48 ⟨fun _ => c_Wk_chartMove hd hw h5 hs hlt ?_, fun q => absurd ((n_lt (by omega) (by omega)).mpr hlt) (by rw [h4] at q; exact q)⟩
    have hF : FrW I (up2 (up2 I 34 (10 * s + n) (if fitsB B s (n / 2) (n % 2) then nI (behB B s (n / 2) (n % 2) B.pn) else -1)) 35 (10 * s + n) (nI (hset B s (n / 2) (n % 2) B.ln))) := (FrW_up (by decide) (by decide)).tr (FrW_up (by decide) (by decide))
    rw [n_inc]
    refine ih (n + 1) _ (by omega) (fun a ha hok b hb => ChD_old (h1 a ha hok b hb) (by omega) (by omega) (Or.inl (by omega))) (fun b hb => ?_) (h3.tr hF) ?_ (hF.box h5)
    · by_cases e : b = n
      · subst e; exact ChD_new rfl rfl
      · exact ChD_old (h2 b (by omega)) (by omega) (by omega) (Or.inr e)
    · simpa [up2] using h4
theorem l_Wk_chart (hd : 4 ≤ d) (hw : WFB B) {I0 : I2} (h : ∀ I', ChR B I' → FrW I0 I' → BoxI 1 B I' → I' 1 17 = 0 → G I' J) : ∀ k n I, n + k = 4 ^ B.pn → (∀ a, a < n → okS B a → ∀ b, b < 2 * B.pn → ChD B I a b) → FrW I0 I → I 33 8 = nI (2 * B.pn) → BoxI 1 B I → Wp d Wk_chart (QV G) 15 [some (.ref 33), some (.int (nI n)), none] [] I J := by
  have hp5 := hw.1
  have hb : 4 ^ B.pn ≤ 4 ^ 5 := Nat.pow_le_pow_right (by decide) hp5
  have hb2 : 2 ^ (2 * B.pn) = 4 ^ B.pn := two4 _
  have e1 : slI 1 (nI (2 * B.pn)) = nI (4 ^ B.pn) := by
    have := n_sl (a := 1) (k := 2 * B.pn) (by omega) (by omega)
    rw [Nat.one_mul, two4] at this
    exact this
  intro k
  induction k with
  | zero =>
    intro n I hn h1 h3 h4 h5
    have hn : n = 4 ^ B.pn := by omega
    refine v_Wk_chart_33_15 ⟨fun q => ?_, fun _ => QV_i.mpr ?_⟩
    · rw [h4, e1, n_lt (by omega) (by omega)] at q; omega
    · refine h _ ⟨by simpa [up2] using h4, fun s hs m hm => ?_⟩ ⟨fun a ha hb => ?_, fun k hk => ?_⟩ ?_ (by simp [up2, upd])
      · have := h1 s (by rw [hn]; exact hs.1) hs m hm
        simpa [up2, ChD] using this
      · have := h3.1 a ha hb
        simpa [up2, hb] using this
      · have := h3.2 k hk
        simpa [up2, upd, hk] using this
      · obtain ⟨b1, b2, b3, b4⟩ := h5
        refine ⟨by simpa [up2, upd] using b1, by simpa [up2, upd] using b2, fun p hp => ?_, fun l hl => ?_⟩
        · simpa [up2, upd] using b3 p hp
        · simpa [up2, upd] using b4 l hl
  | succ k ih =>
    intro n I hn h1 h3 h4 h5
    have hlt : n < 4 ^ B.pn := by omega
    refine v_Wk_chart_33_15 ⟨fun _ => ⟨fun _ => c_Bx_isState (by omega) hw h5 (by omega) (fun e => ⟨fun z => absurd z (by decide), fun _ => ?_⟩) (fun e => ⟨fun _ => ?_, fun z => absurd rfl z⟩), fun q => absurd ((n_lt (b := 1024) (by omega) (by decide)).mpr (by omega)) q⟩, fun q => absurd ((n_lt (by omega) (by omega)).mpr hlt) (by rw [h4, e1] at q; exact q)⟩
    · refine l_Wk_chartS hd hw (s := n) ⟨hlt, e⟩ (I0 := I0) (fun I' q1 q2 q3 q4 q5 => ?_) _ 0 I (Nat.zero_add _) h1 (fun b hb => absurd hb (Nat.not_lt_zero b)) h3 h4 h5
      rw [n_inc]
      refine ih (n + 1) I' (by omega) (fun a ha hok b hb => ?_) q3 q4 q5
      by_cases e2 : a = n
      · subst e2; exact q2 b hb
      · exact q1 a (by omega) hok b hb
    · rw [n_inc]
      refine ih (n + 1) I (by omega) (fun a ha hok b hb => ?_) h3 h4 h5
      by_cases e2 : a = n
      · subst e2; exact absurd hok.2 e
      · exact h1 a (by omega) hok b hb
theorem c_Wk_chart (hd : 5 ≤ d) (hw : WFB B) (hB : BoxI 1 B I) (h : ∀ I', ChR B I' → FrW I I' → BoxI 1 B I' → I' 1 17 = 0 → G I' J) : CV d Wk_chart [.ref 33] I J G := by
  have hF : FrW I (up2 I 33 8 (nI (2 * B.pn))) := FrW_up (by decide) (by decide)
  have e2 : (2 : Int32) * nI B.pn = nI (2 * B.pn) := pk_mul 2 _
  refine CV.of (by omega) rfl (v_Wk_chart_33_0 ?_)
  rw [hB.1, e2]
  exact l_Wk_chart (d := d - 1) (by omega) hw (I0 := I) h (4 ^ B.pn) 0 _ (Nat.zero_add _) (fun a ha => absurd ha (Nat.not_lt_zero a)) hF (by simp [up2, upd]) (hF.box hB)
end WALK2
