/-! WHO WINS, THE ODDS: what holds of the answers -/
section GMP
variable {V V0 : Bv} {B : Bx} {o f : Nat} {T : Tw} {g : Gv}
theorem g_step_z (hG : GC B o f T g) {s u : Nat} (hs : s ∈ T.ord) (ho : openB B o s = false) (hu : suc B f s u) : ((g s).1 = 1 → (g u).1 = 2 → (g s).2 ≤ (g u).2 + 1) ∧ ((g s).1 = 1 → 1 ≤ (g s).2) ∧ ((g s).1 = 2 → (g u).1 = 1 ∧ (g u).2 + 1 ≤ (g s).2) ∧ ((g s).1 = 0 → (g u).1 ≠ 2) := by
  have hnt : ¬ trm B o f s := by
    rintro (q | q)
    · rw [q] at ho; cases ho
    · obtain ⟨m, hm, hx⟩ := hu
      rw [q m hm] at hx; cases hx
  obtain ⟨a1, a2, a3, a4⟩ := hG s hs
  by_cases hl : ∃ t, suc B f s t ∧ (g t).1 = 2
  · obtain ⟨b1, ⟨t, b2, b3, b4⟩, b5⟩ := a2 hnt hl
    exact ⟨fun _ h => b5 u hu h, fun _ => by omega, fun h => by omega, fun h => by omega⟩
  · by_cases hwn : ∀ t, suc B f s t → (g t).1 = 1
    · obtain ⟨b1, b2, b3⟩ := a3 hnt hwn
      exact ⟨fun h => by omega, fun h => by omega, fun _ => ⟨hwn u hu, b3 u hu⟩, fun h => by omega⟩
    · have e := a4 hnt hl hwn
      rw [e]
      exact ⟨fun h => (by cases h), fun h => (by cases h), fun h => (by cases h), fun _ h => hl ⟨u, hu, h⟩⟩
/-- where the game goes on -/
def GS_z (V0 V : Bv) : Prop := Sm3_z V0 V ∧ V.f = V0.f ∧ V.s ∈ V0.T.ord
theorem GS_z.sub (hw : WFV V0) (hwV : WFV V) (h : GS_z V0 V) : ∀ t, t ∈ V.T.ord → t ∈ V0.T.ord := by
  obtain ⟨⟨h1, h2⟩, h3, h4⟩ := h
  have hB0 : BF_z V0.B V0.f V0.s V0.T := BFv_z hw V0.f
  have hB : BF_z V.B V.f V.s V.T := BFv_z hwV V.f
  intro t ht
  have p1 := hB.1.pos ht
  have p2 := hB0.1.pos h4
  have r1 := hB.rch (V.T.fa t - 1) t ht (Nat.succ_pred_eq_of_pos p1).symm
  have r2 := hB0.rch (V0.T.fa V.s - 1) V.s h4 (Nat.succ_pred_eq_of_pos p2).symm
  rw [h1, h3] at r1
  exact (hB0.least hw.1.1 _ t (Rch_add_z _ _ _ _ _ r2 r1)).1
theorem GS_z.gc (hw : WFV V0) (hwV : WFV V) (h : GS_z V0 V) (hG : GC V0.B V0.lid V0.f V0.T g) : GC V.B V.lid V.f V.T g := by
  rw [h.1.1, h.1.2, h.2.1]
  intro s hs
  exact hG s (h.sub hw hwV s hs)
theorem GS_z.rf (hw : WFV V0) : GS_z V0 V0 := ⟨⟨rfl, rfl⟩, rfl, bfs_self⟩
theorem GS_z.sld (hw : WFV V0) (h : GS_z V0 V) {m : Nat} (hm : m < 2 * V.B.pn) (hmay : mayB V.B V.s V.f (m / 2) (m % 2) = true) : GS_z V0 (sld_z V m) := by
  refine ⟨h.1, h.2.1, ?_⟩
  have hx := nx_of_z hmay
  rw [h.1.1, h.2.1] at hx
  exact Clob hw V0.f V.s h.2.2 m _ (by rw [h.1.1] at hm; exact hm) hx
theorem gv_01_z (hw : WFV V0) (hwV : WFV V) (h : GS_z V0 V) (h0 : 0 < V0.B.pn) (hG : GC V0.B V0.lid V0.f V0.T g) : gameS V 0 = nI (g V.s).1 ∧ gameS V 1 = nI (g V.s).2 ∧ gameS V 2 = if openB V.B V.lid V.s then -4 else optI ((fmP V.B V.f V.s (ltB g V.s)).map slN) (-4) := by
  have hg := h.gc hw hwV hG
  have hp : ¬ V.B.pn = 0 := by rw [h.1.1]; omega
  exact ⟨gameS_of hwV hg (by decide +kernel) hp, gameS_of hwV hg (by decide +kernel) hp, gameS_of hwV hg (by decide +kernel) hp⟩
theorem cntM_pos_z {s : Nat} : ∀ n, 0 < cntM B s f n ↔ ∃ m, m < n ∧ mayB B s f (m / 2) (m % 2) = true := by
  intro n
  induction n with
  | zero => exact ⟨fun h => absurd h (Nat.lt_irrefl 0), fun ⟨m, hm, _⟩ => absurd hm (Nat.not_lt_zero m)⟩
  | succ n ih =>
    simp only [cntM]
    by_cases e : mayB B s f (n / 2) (n % 2) = true
    · rw [if_pos e]
      exact ⟨fun _ => ⟨n, by omega, e⟩, fun _ => by omega⟩
    · rw [if_neg e, Nat.add_zero, ih]
      refine ⟨fun ⟨m, hm, h⟩ => ⟨m, by omega, h⟩, fun ⟨m, hm, h⟩ => ⟨m, ?_, h⟩⟩
      by_cases e2 : m = n
      · rw [e2] at h; exact absurd h e
      · omega
theorem nx_none_z {s m : Nat} : nx B f s m = none ↔ mayB B s f (m / 2) (m % 2) = false := by
  unfold nx
  cases mayB B s f (m / 2) (m % 2) <;> simp
/-! the odds -/
theorem sumM_mono_z {s : Nat} {w w' : Nat → Nat} (h : ∀ t, w t ≤ w' t) : ∀ n, sumM B f s w n ≤ sumM B f s w' n := by
  intro n
  induction n with
  | zero => exact Nat.le_refl _
  | succ n ih =>
    simp only [sumM]
    cases nx B f s n with
    | none => exact ih
    | some t => have := h t; simp only; omega
theorem sumM_mul_z {s : Nat} {w : Nat → Nat} (c : Nat) : ∀ n, sumM B f s (fun t => c * w t) n = c * sumM B f s w n := by
  intro n
  induction n with
  | zero => rfl
  | succ n ih =>
    simp only [sumM]
    rw [ih, Nat.mul_add]
    cases nx B f s n <;> rfl
theorem sumM_pos_z {s : Nat} {w : Nat → Nat} : ∀ n, 0 < sumM B f s w n ↔ ∃ m t, m < n ∧ nx B f s m = some t ∧ 0 < w t := by
  intro n
  induction n with
  | zero => exact ⟨fun h => absurd h (Nat.lt_irrefl 0), fun ⟨m, _, hm, _⟩ => absurd hm (Nat.not_lt_zero m)⟩
  | succ n ih =>
    simp only [sumM]
    constructor
    · intro h
      by_cases e : 0 < sumM B f s w n
      · obtain ⟨m, t, h1, h2, h3⟩ := ih.mp e
        exact ⟨m, t, by omega, h2, h3⟩
      · cases en : nx B f s n with
        | none => rw [en] at h; simp only at h; omega
        | some t => rw [en] at h; simp only at h; exact ⟨n, t, by omega, en, by omega⟩
    · rintro ⟨m, t, h1, h2, h3⟩
      by_cases e : m = n
      · rw [← e, h2]; simp only; omega
      · have := ih.mpr ⟨m, t, by omega, h2, h3⟩; omega
theorem shr_step_z (n : Nat) : ∀ s, 2520 * shr B o f n s ≤ shr B o f (n + 1) s := by
  induction n with
  | zero =>
    intro s
    simp only [shr]
    split
    · decide
    · simp
  | succ n ih =>
    intro s
    have e1 : shr B o f (n + 1 + 1) s = if openB B o s then 2520 ^ (n + 1 + 1) else if deg B f s (2 * B.pn) = 0 then 0 else sumM B f s (shr B o f (n + 1)) (2 * B.pn) * (2520 / deg B f s (2 * B.pn)) := rfl
    have e2 : shr B o f (n + 1) s = if openB B o s then 2520 ^ (n + 1) else if deg B f s (2 * B.pn) = 0 then 0 else sumM B f s (shr B o f n) (2 * B.pn) * (2520 / deg B f s (2 * B.pn)) := rfl
    rw [e1, e2]
    by_cases h1 : openB B o s = true
    · rw [if_pos h1, if_pos h1, Nat.pow_succ 2520 (n + 1), Nat.mul_comm]; exact Nat.le_refl _
    · rw [if_neg h1, if_neg h1]
      by_cases h2 : deg B f s (2 * B.pn) = 0
      · rw [if_pos h2, if_pos h2]; exact Nat.le_refl _
      · rw [if_neg h2, if_neg h2, ← Nat.mul_assoc, ← sumM_mul_z]
        exact Nat.mul_le_mul_right _ (sumM_mono_z ih _)
theorem shr_pos_z (hp : B.pn ≤ 5) (n : Nat) : ∀ s, 0 < shr B o f n s ↔ ∃ j g, j ≤ n ∧ Rch_z B f j s g ∧ openB B o g = true := by
  induction n with
  | zero =>
    intro s
    simp only [shr]
    constructor
    · intro h
      split at h
      · next e => exact ⟨0, s, Nat.le_refl _, rfl, e⟩
      · exact absurd h (Nat.lt_irrefl 0)
    · rintro ⟨j, g, h1, h2, h3⟩
      have ej : j = 0 := by omega
      rw [ej] at h2
      rw [show s = g from h2, if_pos h3]; decide
  | succ n ih =>
    intro s
    have e2 : shr B o f (n + 1) s = if openB B o s then 2520 ^ (n + 1) else if deg B f s (2 * B.pn) = 0 then 0 else sumM B f s (shr B o f n) (2 * B.pn) * (2520 / deg B f s (2 * B.pn)) := rfl
    rw [e2]
    by_cases h1 : openB B o s = true
    · rw [if_pos h1]
      exact ⟨fun _ => ⟨0, s, Nat.zero_le _, rfl, h1⟩, fun _ => Nat.pow_pos (by decide)⟩
    · rw [if_neg h1]
      have hd10 : deg B f s (2 * B.pn) ≤ 10 := Nat.le_trans deg_le (by omega)
      by_cases h2 : deg B f s (2 * B.pn) = 0
      · rw [if_pos h2]
        refine ⟨fun h => absurd h (Nat.lt_irrefl 0), ?_⟩
        rintro ⟨j, g, k1, k2, k3⟩
        cases j with
        | zero => rw [show s = g from k2] at h1; exact absurd k3 h1
        | succ j =>
          obtain ⟨m, t, hm, hx, hr⟩ := k2
          rw [deg_0 h2 m hm] at hx; cases hx
      · rw [if_neg h2]
        have hq : 0 < 2520 / deg B f s (2 * B.pn) := Nat.div_pos (by omega) (by omega)
        constructor
        · intro h
          have h3 : 0 < sumM B f s (shr B o f n) (2 * B.pn) := Nat.pos_of_mul_pos_right h
          obtain ⟨m, t, k1, k2, k3⟩ := (sumM_pos_z _).mp h3
          obtain ⟨j, g, l1, l2, l3⟩ := (ih t).mp k3
          exact ⟨j + 1, g, by omega, ⟨m, t, k1, k2, l2⟩, l3⟩
        · rintro ⟨j, g, k1, k2, k3⟩
          cases j with
          | zero => rw [show s = g from k2] at h1; exact absurd k3 h1
          | succ j =>
            obtain ⟨m, t, hm, hx, hr⟩ := k2
            exact Nat.mul_pos ((sumM_pos_z _).mpr ⟨m, t, hm, hx, (ih t).mpr ⟨j, g, by omega, hr, k3⟩⟩) hq
/-- above, below -/
def fA_z (V : Bv) (n : Nat) : Nat := fumA V n / Nat.gcd (fumA V n) (2520 ^ n)
def fB_z (V : Bv) (n : Nat) : Nat := 2520 ^ n / Nat.gcd (fumA V n) (2520 ^ n)
theorem fum_v_z {n : Nat} (hn : n ≤ 3) : fumbleS V (nI n) 0 = lN (fA_z V n) ∧ fumbleS V (nI n) 1 = lN (fB_z V n) := by
  have hc : ∀ y : Int32, (y = 0 ∨ y = 1) → ¬ (nI n < 0 ∨ 3 < nI n ∨ y < 0 ∨ 1 < y) := by
    rintro y hy (q | q | q | q)
    · exact nI_pos (by omega) q
    · have := (n_lt (a := 3) (by decide) (show n < 2 ^ 31 by omega)).mp q; omega
    · rcases hy with e | e <;> rw [e] at q <;> exact absurd q (by decide +kernel)
    · rcases hy with e | e <;> rw [e] at q <;> exact absurd q (by decide +kernel)
  refine ⟨?_, ?_⟩
  · unfold fumbleS
    rw [if_neg (hc 0 (Or.inl rfl)), if_pos rfl, n_tN (by omega)]; rfl
  · unfold fumbleS
    rw [if_neg (hc 1 (Or.inr rfl)), if_neg (by decide), n_tN (by omega)]; rfl
theorem gcd_p_z (n : Nat) : 0 < Nat.gcd (fumA V n) (2520 ^ n) := Nat.gcd_pos_of_pos_right _ (Nat.pow_pos (by decide))
theorem fA_eq_z (n : Nat) : fA_z V n * Nat.gcd (fumA V n) (2520 ^ n) = fumA V n := Nat.div_mul_cancel (Nat.gcd_dvd_left _ _)
theorem fB_eq_z (n : Nat) : fB_z V n * Nat.gcd (fumA V n) (2520 ^ n) = 2520 ^ n := Nat.div_mul_cancel (Nat.gcd_dvd_right _ _)
theorem fB_pos_z (n : Nat) : 0 < fB_z V n := by
  rcases Nat.eq_zero_or_pos (fB_z V n) with q | q
  · have := fB_eq_z (V := V) n
    rw [q, Nat.zero_mul] at this
    exact absurd this.symm (Nat.pos_iff_ne_zero.mp (Nat.pow_pos (by decide)))
  · exact q
theorem fB_le_z (n : Nat) : fB_z V n ≤ 2520 ^ n := Nat.div_le_self _ _
theorem fA_le_z (n : Nat) : fA_z V n ≤ fB_z V n := Nat.div_le_div_right (shr_le n V.s)
theorem fA_0_z (n : Nat) : fA_z V n = 0 ↔ fumA V n = 0 := by
  have h := fA_eq_z (V := V) n
  have hg := gcd_p_z (V := V) n
  constructor
  · intro e; rw [e, Nat.zero_mul] at h; exact h.symm
  · intro e
    rw [e] at h
    rcases Nat.mul_eq_zero.mp h with q | q
    · exact q
    · rw [e] at hg; omega
theorem f_cross_z (n : Nat) : fA_z V n * fB_z V (n + 1) ≤ fA_z V (n + 1) * fB_z V n := by
  have h1 := fA_eq_z (V := V) n
  have h2 := fB_eq_z (V := V) n
  have h3 := fA_eq_z (V := V) (n + 1)
  have h4 := fB_eq_z (V := V) (n + 1)
  have g1 := gcd_p_z (V := V) n
  have g2 := gcd_p_z (V := V) (n + 1)
  have hs : 2520 * fumA V n ≤ fumA V (n + 1) := shr_step_z n V.s
  generalize Nat.gcd (fumA V n) (2520 ^ n) = x at *
  generalize Nat.gcd (fumA V (n + 1)) (2520 ^ (n + 1)) = y at *
  have hP : 2520 ^ (n + 1) = 2520 * 2520 ^ n := by rw [Nat.pow_succ, Nat.mul_comm]
  have key : (fA_z V n * fB_z V (n + 1)) * (x * y) ≤ (fA_z V (n + 1) * fB_z V n) * (x * y) := by
    have e1 : (fA_z V n * fB_z V (n + 1)) * (x * y) = fumA V n * 2520 ^ (n + 1) := by
      rw [← h1, ← h4]; simp only [Nat.mul_assoc, Nat.mul_comm, Nat.mul_left_comm]
    have e2 : (fA_z V (n + 1) * fB_z V n) * (x * y) = fumA V (n + 1) * 2520 ^ n := by
      rw [← h3, ← h2]; simp only [Nat.mul_assoc, Nat.mul_comm, Nat.mul_left_comm]
    rw [e1, e2, hP, ← Nat.mul_assoc, Nat.mul_comm (fumA V n)]
    exact Nat.mul_le_mul_right _ hs
  exact Nat.le_of_mul_le_mul_right key (Nat.mul_pos g1 g2)
theorem fA_open_z : fA_z V 0 = if openB V.B V.lid V.s then 1 else 0 := by
  unfold fA_z fumA
  simp only [shr]
  split
  · decide
  · decide
theorem fA_cnt_z (hw : WFV V) (n : Nat) : fA_z V n = 0 ↔ (cnt V V.f = none ∨ ∃ c, cnt V V.f = some c ∧ n < c) := by
  have hC := cnt_D_z hw V.f
  rw [fA_0_z]
  have hp := shr_pos_z (B := V.B) (o := V.lid) (f := V.f) hw.1.1 n V.s
  constructor
  · intro e
    cases ec : cnt V V.f with
    | none => exact Or.inl rfl
    | some c =>
      rw [ec] at hC
      obtain ⟨⟨g, g1, g2⟩, -⟩ := hC.1
      refine Or.inr ⟨c, rfl, ?_⟩
      rcases Nat.lt_or_ge n c with q | q
      · exact q
      · have := hp.mpr ⟨c, g, q, g2, g1⟩
        have e : shr V.B V.lid V.f n V.s = 0 := e
        omega
  · intro h
    rcases Nat.eq_zero_or_pos (fumA V n) with q | q
    · exact q
    · obtain ⟨j, g, h1, h2, h3⟩ := hp.mp q
      rcases h with h | ⟨c, h, hlt⟩
      · rw [h] at hC
        rw [hC j g h2] at h3; cases h3
      · rw [h] at hC
        have := hC.1.2 j g h2 h3
        omega
end GMP
