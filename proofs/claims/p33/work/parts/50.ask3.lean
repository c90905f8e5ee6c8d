/-! key, files: both sides -/
section ASK3
variable {d : Nat} {V : Bv} {I : I2} {J : J2} {G : I2 → J2 → Prop} {F : Int32 → I2 → J2 → Prop} {f : Nat}
theorem n_or2 {f l : Nat} (hl : l < 6) : nI f ||| slI 1 (nI l) = nI (f ||| 2 ^ l) := by
  rw [show slI 1 (nI l) = nI (1 * 2 ^ l) from n_sl (a := 1) (by omega) (by rw [Nat.one_mul]; exact Nat.lt_of_lt_of_le (Nat.pow_lt_pow_right (by decide) hl) (by decide)), n_or, Nat.one_mul]
theorem or64 {f g : Nat} (hf : f < 64) (hg : g < 64) : f ||| g < 64 := Nat.or_lt_two_pow (n := 6) hf hg
theorem p64 {l : Nat} (hl : l < 6) : 2 ^ l < 64 := Nat.lt_of_lt_of_le (Nat.pow_lt_pow_right (by decide) hl) (by decide)
theorem keyN_lt (hw : WFV V) : ∀ n b c, keyN V n = some (b, c) → b < n ∧ c < 1024 := by
  intro n
  induction n with
  | zero => intro b c h; cases h
  | succ n ih =>
    intro b c h
    simp only [keyN] at h
    split at h
    · have := ih b c h; omega
    · split at h
      · have := ih b c h; omega
      · next c1 hc =>
        have := cnt_lt hw hc
        split at h
        · cases h; omega
        · next b2 w2 hk =>
          have := ih _ _ hk
          split at h
          · cases h; omega
          · cases h; omega
theorem l_Sb_key (hd : 7 ≤ d) (hw : WFV V) (x : Int32) {I0 : I2} (hx : ¬ x < 0 ∧ ¬ 1 < x) (h : ∀ I', FrG I0 I' → CaR V.B I' → F (keyS V x) I' J) : ∀ k n I, n + k = V.B.ln → FrG I0 I → CBx 1 V I → CaR V.B I → Wp d Sb_key (QI F) 20 [some (.ref 0), some (.int x), some (.int (optI ((keyN V n).map Prod.fst) (-4))), some (.int (optI ((keyN V n).map Prod.snd) (-4))), some (.int (nI n)), none] [] I J := by
  have hl6 := hw.1.2.1
  have hf := f64 hw.1 hw.2.2.2.1
  intro k
  induction k with
  | zero =>
    intro n I hn hFr hV hC
    have hn : n = V.B.ln := by omega
    subst hn
    have h := h I hFr hC
    unfold keyS at h
    rw [if_neg (by simp only [not_or]; exact hx)] at h
    refine v_Sb_key_0_20 ⟨fun q => ?_, fun _ => ⟨fun e => QI_i.mpr ?_, fun e => QI_i.mpr ?_⟩⟩
    · rw [hV.1.2.1] at q; exact absurd ((n_lt (by omega) (by omega)).mp q) (Nat.lt_irrefl _)
    · rw [if_pos e] at h; exact h
    · rw [if_neg e] at h; exact h
  | succ k ih =>
    intro n I hn hFr hV hC
    have hlt : n < V.B.ln := by omega
    have go := fun I' => ih (n + 1) I' (by omega)
    have hlk := keyN_lt hw n
    simp only [keyN] at go
    refine v_Sb_key_0_20 ⟨fun _ => ?_, fun q => absurd ((n_lt (by omega) (by omega)).mpr hlt) (by rw [hV.1.2.1] at q; exact q)⟩
    rw [hV.2.2.2.1, n_bit hf (by omega), n_or2 (by omega), n_inc]
    refine ⟨fun e => c_Sb_opensWith hd hw hV hC (or64 hf (p64 (by omega))) (fun I' q1 q2 q3 => ?_), fun e => ?_⟩
    · have go := go I' (hFr.tr q1) q2 q3
      rw [if_neg (by rw [e]; decide)] at go
      cases hc : cnt V (V.f ||| 2 ^ n) with
      | none => rw [hc] at go; exact ⟨fun _ => go, fun q => absurd (by decide) q⟩
      | some c =>
        have hc2 := cnt_lt hw hc
        rw [hc] at go
        refine ⟨fun q => absurd q (nI_pos (by omega)), fun _ => ?_⟩
        cases hk : keyN V n with
        | none => rw [hk] at go; exact ⟨fun _ => go, fun q => absurd (by decide) q⟩
        | some bw =>
          obtain ⟨b, w⟩ := bw
          have hbw := hlk b w hk
          rw [hk] at go
          dsimp only at go
          simp only [Option.map, optI] at go ⊢
          refine ⟨fun q => absurd q (nI_pos (by omega)), fun _ => ?_⟩
          rw [n_lt (by omega) (by omega)]
          refine ⟨fun e2 => ?_, fun e2 => ?_⟩
          · rw [if_pos e2] at go; exact go
          · rw [if_neg e2] at go; exact go
    · have go := go I hFr hV hC
      rw [if_pos (by simpa using e)] at go
      exact go
theorem c_Sb_key (hd : 8 ≤ d) (hw : WFV V) (hV : CBx 1 V I) (hC : CaR V.B I) (x : Int32) (h : ∀ I', FrG I I' → CaR V.B I' → F (keyS V x) I' J) : CI d Sb_key [.ref 0, .int x] I J F := by
  refine CI.of (by omega) rfl (v_Sb_key_0_0 ⟨fun e => QI_i.mpr ?_, fun e => ⟨fun e1 => QI_i.mpr ?_, fun e1 => l_Sb_key (by omega) hw x ⟨e, e1⟩ h _ 0 I (Nat.zero_add _) FrG.rf hV hC⟩⟩)
  · have h := h I FrG.rf hC
    unfold keyS at h
    rw [if_pos (Or.inl e)] at h; exact h
  · have h := h I FrG.rf hC
    unfold keyS at h
    rw [if_pos (Or.inr e1)] at h; exact h
theorem fileN_lt {x : Int32} : ∀ n b, fileN V x n = some b → b < n := by
  intro n
  induction n with
  | zero => intro b h; cases h
  | succ n ih =>
    intro b h
    have hB : ∀ b0, fileB V x n b0 = some b → (∀ b1, b0 = some b1 → b1 < n) → b < n + 1 := by
      intro b0 h1 h2
      unfold fileB at h1
      split at h1
      · have := h2 b h1; omega
      · split at h1
        · have := h2 b h1; omega
        · cases h1; omega
    simp only [fileN] at h
    split at h
    · split at h
      · exact hB none h (fun b1 q => by cases q)
      · next b1 hb =>
        split at h
        · exact hB _ h (fun b2 q => by cases q; exact ih _ hb)
        · cases h; have := ih _ hb; omega
    · have := ih b h; omega
theorem n_2p {l : Nat} (hl : l ≤ 6) : slI 1 (nI l) = nI (2 ^ l) := by
  rw [show slI 1 (nI l) = nI (1 * 2 ^ l) from n_sl (a := 1) (by omega) (by rw [Nat.one_mul]; exact Nat.lt_of_le_of_lt (Nat.pow_le_pow_right (by decide) hl) (by decide)), Nat.one_mul]
theorem l_Sb_files (hd : 7 ≤ d) (hw : WFV V) (x y : Int32) {I0 : I2} (hx : ¬ (x < 0 ∨ 60 < x ∨ y < 0 ∨ 1 < y)) (hpn : V.B.pn ≠ 0) (h : ∀ I', FrG I0 I' → CaR V.B I' → F (filesS V x y) I' J) : ∀ k n I, n + k = 2 ^ V.B.ln → FrG I0 I → CBx 1 V I → CaR V.B I → Wp d Sb_files (QI F) 40 [some (.ref 0), some (.int x), some (.int y), some (.int (optI (fileN V x n) (-4))), some (.int (nI n)), none] [] I J := by
  have hl6 := hw.1.2.1
  have hp2 : 2 ^ V.B.ln ≤ 64 := Nat.pow_le_pow_right (n := 2) (by decide) hl6
  have hf := f64 hw.1 hw.2.2.2.1
  intro k
  induction k with
  | zero =>
    intro n I hn hFr hV hC
    have hn : n = 2 ^ V.B.ln := by omega
    subst hn
    have h := h I hFr hC
    have hbl := fileN_lt (V := V) (x := x) (2 ^ V.B.ln)
    unfold filesS at h
    rw [if_neg hx, if_neg hpn] at h
    refine v_Sb_files_0_40 ⟨fun q => ?_, fun _ => ?_⟩
    · rw [hV.1.2.1, n_2p hl6] at q; exact absurd ((n_lt (by omega) (by omega)).mp q) (Nat.lt_irrefl _)
    · cases hk : fileN V x (2 ^ V.B.ln) with
      | none =>
        rw [hk] at h
        refine ⟨fun _ => QI_i.mpr ?_, fun q => absurd (by decide) q⟩
        by_cases e : y = 0
        · rw [if_pos e] at h; exact h
        · rw [if_neg e] at h; exact h
      | some b =>
        have hb := hbl b hk
        rw [hk] at h
        refine ⟨fun q => absurd q (nI_pos (by omega)), fun _ => ⟨fun e => c_Ji_bitCount (by omega) (by omega) (QI_i.mpr ?_), fun e => QI_i.mpr ?_⟩⟩
        · rw [if_pos e] at h; exact h
        · rw [if_neg e] at h; exact h
  | succ k ih =>
    intro n I hn hFr hV hC
    have hlt : n < 2 ^ V.B.ln := by omega
    have go := fun I' => ih (n + 1) I' (by omega)
    have hbl := fileN_lt (V := V) (x := x) n
    simp only [fileN] at go
    refine v_Sb_files_0_40 ⟨fun _ => ?_, fun q => absurd ((n_lt (by omega) (by omega)).mpr hlt) (by rw [hV.1.2.1, n_2p hl6] at q; exact q)⟩
    rw [hV.2.2.2.1, n_and, n_e0 (Nat.lt_of_le_of_lt Nat.and_le_left (by omega)), n_inc]
    have hon : nI V.f ||| nI n = nI (V.f ||| n) := n_or _ _
    rw [hon]
    have try1 : ∀ b0 : Option Nat, ∀ I1, (∀ I', FrG I1 I' → CBx 1 V I' → CaR V.B I' → Wp d Sb_files (QI F) 40 [some (.ref 0), some (.int x), some (.int y), some (.int (optI (fileB V x n b0) (-4))), some (.int (nI (n + 1))), none] [] I' J) → CBx 1 V I1 → CaR V.B I1 → CI d Sb_opensWith [.ref 0, .int (nI (V.f ||| n))] I1 J (fun v1 I2 J1 => (v1 < 0 → Wp d Sb_files (QI F) 40 [some (.ref 0), some (.int x), some (.int y), some (.int (optI b0 (-4))), some (.int (nI (n + 1))), none] [] I2 J1) ∧ (¬ (v1 < 0) → (x < v1 → Wp d Sb_files (QI F) 40 [some (.ref 0), some (.int x), some (.int y), some (.int (optI b0 (-4))), some (.int (nI (n + 1))), none] [] I2 J1) ∧ (¬ (x < v1) → Wp d Sb_files (QI F) 40 [some (.ref 0), some (.int x), some (.int y), some (.int (nI n)), some (.int (nI (n + 1))), none] [] I2 J1))) := by
      intro b0 I1 g hV1 hC1
      refine c_Sb_opensWith hd hw hV1 hC1 (or64 hf (by omega)) (fun I' q1 q2 q3 => ?_)
      have g := g I' q1 q2 q3
      unfold fileB at g
      cases hc : cnt V (V.f ||| n) with
      | none => rw [hc] at g; exact ⟨fun _ => g, fun q => absurd (by decide) q⟩
      | some c =>
        have hc2 := cnt_lt hw hc
        rw [hc] at g
        dsimp only at g
        refine ⟨fun q => absurd q (nI_pos (by omega)), fun _ => ⟨fun (e : x < nI c) => ?_, fun (e : ¬ x < nI c) => ?_⟩⟩
        · rw [if_pos e] at g; exact g
        · rw [if_neg e] at g; exact g
    refine ⟨fun e => ?_, fun e => ?_⟩
    · cases hk : fileN V x n with
      | none =>
        refine ⟨fun _ => try1 none I (fun I' q1 q2 q3 => ?_) hV hC, fun q => absurd (by decide) q⟩
        have go := go I' (hFr.tr q1) q2 q3
        rw [if_pos e, hk] at go
        exact go
      | some b =>
        have hb := hbl b hk
        refine ⟨fun q => absurd q (nI_pos (by omega)), fun _ => c_Ji_bitCount (by omega) (by omega) (c_Ji_bitCount (by omega) (by omega) ?_)⟩
        have p1 := pop_le n (by omega)
        have p2 := pop_le b (by omega)
        rw [n_lt (by omega) (by omega)]
        rw [hV.2.2.2.1, hon]
        refine ⟨fun e2 => try1 (some b) I (fun I' q1 q2 q3 => ?_) hV hC, fun e2 => ?_⟩
        · have go := go I' (hFr.tr q1) q2 q3
          rw [if_pos e, hk] at go
          dsimp only at go
          rw [if_pos e2] at go
          exact go
        · have go := go I hFr hV hC
          rw [if_pos e, hk] at go
          dsimp only at go
          rw [if_neg e2] at go
          exact go
    · have go := go I hFr hV hC
      rw [if_neg e] at go
      exact go
theorem c_Sb_files (hd : 8 ≤ d) (hw : WFV V) (hV : CBx 1 V I) (hC : CaR V.B I) (x y : Int32) (h : ∀ I', FrG I I' → CaR V.B I' → F (filesS V x y) I' J) : CI d Sb_files [.ref 0, .int x, .int y] I J F := by
  have hp5 := hw.1.1
  have bad : (x < 0 ∨ 60 < x ∨ y < 0 ∨ 1 < y) → QI F (some (.int (-1))) I J := by
    intro e
    have h := h I FrG.rf hC
    unfold filesS at h
    rw [if_pos e] at h; exact QI_i.mpr h
  refine CI.of (by omega) rfl (v_Sb_files_0_0 ⟨fun e => bad (Or.inl e), fun e => ⟨fun e1 => bad (Or.inr (Or.inl e1)), fun e1 => ⟨fun e2 => bad (Or.inr (Or.inr (Or.inl e2))), fun e2 => ⟨fun e3 => bad (Or.inr (Or.inr (Or.inr e3))), fun e3 => ?_⟩⟩⟩⟩)
  have hx : ¬ (x < 0 ∨ 60 < x ∨ y < 0 ∨ 1 < y) := by simp only [not_or]; exact ⟨e, e1, e2, e3⟩
  rw [hV.1.1, n_e0 (by omega)]
  refine ⟨fun e4 => QI_i.mpr ?_, fun e4 => l_Sb_files (by omega) hw x y hx e4 h _ 0 I (Nat.zero_add _) FrG.rf hV hC⟩
  have h := h I FrG.rf hC
  unfold filesS at h
  rw [if_neg hx, if_pos e4] at h; exact h
end ASK3
