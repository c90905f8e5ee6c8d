/-! FILED: keys, sets of locks -/
section FLD
variable {d : Nat} {V V' V0 : Bv} {K : Option Bv} {t : Tpe} {S : Nat → Shv} {I : I2} {J : J2} {F : Int32 → I2 → J2 → Prop} {m : Nat}
theorem key_ok_z (V : Bv) : ∀ n, match keyN V n with
    | none => ∀ l, l < n → V.f.testBit l = false → cnt V (V.f ||| 2 ^ l) = none
    | some (b, w) => b < n ∧ V.f.testBit b = false ∧ cnt V (V.f ||| 2 ^ b) = some w ∧ ∀ l, l < n → V.f.testBit l = false → ∀ c, cnt V (V.f ||| 2 ^ l) = some c → w ≤ c ∧ (l < b → w < c) := by
  intro n
  induction n with
  | zero => exact fun l hl => absurd hl (Nat.not_lt_zero l)
  | succ n ih =>
    -- as it was, n being no better
    have same : keyN V (n + 1) = keyN V n → (V.f.testBit n = false → ∀ c, cnt V (V.f ||| 2 ^ n) = some c → ∃ b w, keyN V n = some (b, w) ∧ w ≤ c) → (match keyN V (n + 1) with
      | none => ∀ l, l < n + 1 → V.f.testBit l = false → cnt V (V.f ||| 2 ^ l) = none
      | some (b, w) => b < n + 1 ∧ V.f.testBit b = false ∧ cnt V (V.f ||| 2 ^ b) = some w ∧ ∀ l, l < n + 1 → V.f.testBit l = false → ∀ c, cnt V (V.f ||| 2 ^ l) = some c → w ≤ c ∧ (l < b → w < c)) := by
      intro e9 hn
      rw [e9]
      cases ek : keyN V n with
      | none =>
        rw [ek] at ih
        intro l hl hf
        by_cases e : l = n
        · cases ec : cnt V (V.f ||| 2 ^ l) with
          | none => rfl
          | some c =>
            rw [e] at ec hf
            obtain ⟨b, w, z, -⟩ := hn hf c ec
            rw [ek] at z; cases z
        · exact ih l (by omega) hf
      | some x =>
        obtain ⟨b, w⟩ := x
        rw [ek] at ih
        obtain ⟨h1, h2, h3, h4⟩ := ih
        refine ⟨by omega, h2, h3, fun l hl hf c hc => ?_⟩
        by_cases e : l = n
        · rw [e] at hc hf
          obtain ⟨b', w', z, z2⟩ := hn hf c hc
          rw [ek] at z
          have z3 : w = w' := congrArg Prod.snd (Option.some.inj z)
          exact ⟨by omega, fun q => by omega⟩
        · exact h4 l (by omega) hf c hc
    cases ef : V.f.testBit n with
    | true => exact same (by simp [keyN, ef]) (fun q => by rw [ef] at q; cases q)
    | false =>
      cases ec : cnt V (V.f ||| 2 ^ n) with
      | none => exact same (by simp [keyN, ef, ec]) (fun _ c hc => by rw [ec] at hc; cases hc)
      | some c0 =>
        cases ek : keyN V n with
        | none =>
          have e9 : keyN V (n + 1) = some (n, c0) := by simp [keyN, ef, ec, ek]
          rw [ek] at ih
          rw [e9]
          refine ⟨by omega, ef, ec, fun l hl hf c hc => ?_⟩
          by_cases e : l = n
          · rw [e, ec] at hc
            have := Option.some.inj hc
            exact ⟨by omega, fun q => by omega⟩
          · rw [ih l (by omega) hf] at hc; cases hc
        | some x =>
          obtain ⟨b, w⟩ := x
          by_cases hlt : c0 < w
          · have e9 : keyN V (n + 1) = some (n, c0) := by simp [keyN, ef, ec, ek, hlt]
            rw [ek] at ih
            obtain ⟨h1, h2, h3, h4⟩ := ih
            rw [e9]
            refine ⟨by omega, ef, ec, fun l hl hf c hc => ?_⟩
            by_cases e : l = n
            · rw [e, ec] at hc
              have := Option.some.inj hc
              exact ⟨by omega, fun q => by omega⟩
            · have := h4 l (by omega) hf c hc
              exact ⟨by omega, fun q => by omega⟩
          · exact same (by simp [keyN, ef, ec, ek, hlt]) (fun _ c hc => ⟨b, w, ek, by rw [ec] at hc; have := Option.some.inj hc; omega⟩)
theorem file_ok_z (V : Bv) (x : Int32) : ∀ n, match fileN V x n with
    | none => ∀ s, s < n → s &&& V.f = 0 → ∀ c, cnt V (V.f ||| s) = some c → x < nI c
    | some b => b < n ∧ b &&& V.f = 0 ∧ (∃ c, cnt V (V.f ||| b) = some c ∧ ¬ x < nI c) ∧ ∀ s, s < n → s &&& V.f = 0 → ∀ c, cnt V (V.f ||| s) = some c → ¬ x < nI c → popN 6 b ≤ popN 6 s := by
  intro n
  induction n with
  | zero => exact fun l hl => absurd hl (Nat.not_lt_zero l)
  | succ n ih =>
    simp only [fileN]
    by_cases ef : n &&& V.f = 0
    · rw [if_pos ef]
      cases ek : fileN V x n with
      | none =>
        rw [ek] at ih
        simp only [fileB]
        cases ec : cnt V (V.f ||| n) with
        | none =>
          intro s hs hf c hc
          by_cases e : s = n
          · rw [e, ec] at hc; cases hc
          · exact ih s (by omega) hf c hc
        | some c0 =>
          simp only
          by_cases ex : x < nI c0
          · rw [if_pos ex]
            intro s hs hf c hc
            by_cases e : s = n
            · rw [e, ec] at hc
              rw [← Option.some.inj hc]; exact ex
            · exact ih s (by omega) hf c hc
          · rw [if_neg ex]
            refine ⟨by omega, ef, ⟨c0, ec, ex⟩, fun s hs hf c hc hx => ?_⟩
            by_cases e : s = n
            · rw [e]; exact Nat.le_refl _
            · exact absurd (ih s (by omega) hf c hc) hx
      | some b =>
        rw [ek] at ih
        obtain ⟨h1, h2, h3, h4⟩ := ih
        simp only
        by_cases ep : popN 6 n < popN 6 b
        · rw [if_pos ep]
          simp only [fileB]
          cases ec : cnt V (V.f ||| n) with
          | none =>
            refine ⟨by omega, h2, h3, fun s hs hf c hc hx => ?_⟩
            by_cases e : s = n
            · rw [e, ec] at hc; cases hc
            · exact h4 s (by omega) hf c hc hx
          | some c0 =>
            simp only
            by_cases ex : x < nI c0
            · rw [if_pos ex]
              refine ⟨by omega, h2, h3, fun s hs hf c hc hx => ?_⟩
              by_cases e : s = n
              · rw [e, ec] at hc
                rw [← Option.some.inj hc] at hx; exact absurd ex hx
              · exact h4 s (by omega) hf c hc hx
            · rw [if_neg ex]
              refine ⟨by omega, ef, ⟨c0, ec, ex⟩, fun s hs hf c hc hx => ?_⟩
              by_cases e : s = n
              · rw [e]; exact Nat.le_refl _
              · have := h4 s (by omega) hf c hc hx; omega
        · rw [if_neg ep]
          refine ⟨by omega, h2, h3, fun s hs hf c hc hx => ?_⟩
          by_cases e : s = n
          · rw [e]; omega
          · exact h4 s (by omega) hf c hc hx
    · rw [if_neg ef]
      cases ek : fileN V x n with
      | none =>
        rw [ek] at ih
        intro s hs hf c hc
        by_cases e : s = n
        · rw [e] at hf; exact absurd hf ef
        · exact ih s (by omega) hf c hc
      | some b =>
        rw [ek] at ih
        obtain ⟨h1, h2, h3, h4⟩ := ih
        refine ⟨by omega, h2, h3, fun s hs hf c hc hx => ?_⟩
        by_cases e : s = n
        · rw [e] at hf; exact absurd hf ef
        · exact h4 s (by omega) hf c hc hx
/-- more locks filed: no farther -/
theorem cnt_mono_z (hw : WFV V) {f f' : Nat} (hff : ∀ l, f.testBit l = true → f'.testBit l = true) {c : Nat} (h : cnt V f = some c) : ∃ c', cnt V f' = some c' ∧ c' ≤ c := by
  have h1 := cnt_D_z hw f
  have h2 := cnt_D_z hw f'
  rw [h] at h1
  obtain ⟨⟨g, g1, g2⟩, -⟩ := h1.1
  have g3 := Rch_mono_z hff c V.s g g2
  cases e : cnt V f' with
  | none =>
    rw [e] at h2
    have := h2 c g g3
    rw [this] at g1; cases g1
  | some c' =>
    rw [e] at h2
    exact ⟨c', rfl, h2.1.2 c g g3 g1⟩
theorem or_bits_z (f s : Nat) : ∀ l, f.testBit l = true → (f ||| s).testBit l = true := fun l h => by rw [Nat.testBit_or, h]; rfl
theorem key_0_z : keyS V 0 = optI ((keyN V V.B.ln).map Prod.fst) (-4) := by
  unfold keyS; rw [if_neg (by decide +kernel)]; rfl
theorem key_1_z : keyS V 1 = optI ((keyN V V.B.ln).map Prod.snd) (-4) := by
  unfold keyS; rw [if_neg (by decide +kernel)]; rfl
theorem files_01_z {N : Nat} (h0 : 0 < V.B.pn) (hN : N ≤ 60) : filesS V (nI N) 0 = optI ((fileN V (nI N) (2 ^ V.B.ln)).map (popN 6)) (-4) ∧ filesS V (nI N) 1 = optI (fileN V (nI N) (2 ^ V.B.ln)) (-4) := by
  have hn : ∀ y : Int32, (y = 0 ∨ y = 1) → ¬ (nI N < 0 ∨ 60 < nI N ∨ y < 0 ∨ 1 < y) := by
    rintro y hy (q | q | q | q)
    · exact nI_pos (by omega) q
    · have := (n_lt (a := 60) (by decide) (show N < 2 ^ 31 by omega)).mp q; omega
    · rcases hy with e | e <;> rw [e] at q <;> exact absurd q (by decide +kernel)
    · rcases hy with e | e <;> rw [e] at q <;> exact absurd q (by decide +kernel)
  refine ⟨?_, ?_⟩
  · unfold filesS
    rw [if_neg (hn 0 (Or.inl rfl)), if_neg (show ¬ V.B.pn = 0 by omega)]
    rfl
  · unfold filesS
    rw [if_neg (hn 1 (Or.inr rfl)), if_neg (show ¬ V.B.pn = 0 by omega)]
    rfl
theorem mod_bit_z (b j : Nat) : b % 2 ^ (j + 1) = b % 2 ^ j ||| (if b.testBit j then 2 ^ j else 0) := by
  apply Nat.eq_of_testBit_eq
  intro i
  rw [Nat.testBit_or, Nat.testBit_mod_two_pow, Nat.testBit_mod_two_pow]
  cases e : b.testBit j with
  | true =>
    simp only [if_true, Nat.testBit_two_pow]
    by_cases h : i = j
    · subst h; simp [e]
    · rw [show decide (j = i) = false from decide_eq_false (fun q => h q.symm), Bool.or_false]
      congr 1
      exact decide_eq_decide.mpr (by omega)
  | false =>
    simp only [Bool.false_eq_true, if_false, Nat.zero_testBit, Bool.or_false]
    by_cases h : i = j
    · subst h; simp [e]
    · congr 1
      exact decide_eq_decide.mpr (by omega)
theorem files_0_z (hw : WFV V) (h0 : 0 < V.B.pn) {N c : Nat} (hN : N ≤ 60) (hc : cnt V V.f = some c) (hcN : c ≤ N) : filesS V (nI N) 0 = 0 := by
  have hc2 := cnt_lt_z hw V.f c hc
  have hl6 := hw.1.2.1
  have hP : 2 ^ V.B.ln ≤ 2 ^ 6 := Nat.pow_le_pow_right (by decide) hl6
  have hP0 : 0 < 2 ^ V.B.ln := Nat.pow_pos (by decide)
  have h9 := file_ok_z V (nI N) (2 ^ V.B.ln)
  rw [(files_01_z h0 hN).1]
  have hx : ¬ nI N < nI c := fun q => by have := (n_lt (by omega) (by omega)).mp q; omega
  cases e : fileN V (nI N) (2 ^ V.B.ln) with
  | none =>
    rw [e] at h9
    exact absurd (h9 0 hP0 (Nat.zero_and _) c (by rw [Nat.or_zero]; exact hc)) hx
  | some b =>
    rw [e] at h9
    obtain ⟨h1, h2, h3, h4⟩ := h9
    have := h4 0 hP0 (Nat.zero_and _) c (by rw [Nat.or_zero]; exact hc) hx
    have e0 : popN 6 b = 0 := by have : popN 6 0 = 0 := by decide +kernel
                                 omega
    show nI (popN 6 b) = 0
    rw [e0]; rfl
end FLD
