/-! the class: slides, and what else changes now -/
def bcI (x0 : Int32) : Int32 := ((((((((x0 - ((urI x0 1) &&& 1431655765)) &&& 858993459) + ((urI (x0 - ((urI x0 1) &&& 1431655765)) 2) &&& 858993459)) + (urI (((x0 - ((urI x0 1) &&& 1431655765)) &&& 858993459) + ((urI (x0 - ((urI x0 1) &&& 1431655765)) 2) &&& 858993459)) 4)) &&& 252645135) + (urI (((((x0 - ((urI x0 1) &&& 1431655765)) &&& 858993459) + ((urI (x0 - ((urI x0 1) &&& 1431655765)) 2) &&& 858993459)) + (urI (((x0 - ((urI x0 1) &&& 1431655765)) &&& 858993459) + ((urI (x0 - ((urI x0 1) &&& 1431655765)) 2) &&& 858993459)) 4)) &&& 252645135) 8)) + (urI ((((((x0 - ((urI x0 1) &&& 1431655765)) &&& 858993459) + ((urI (x0 - ((urI x0 1) &&& 1431655765)) 2) &&& 858993459)) + (urI (((x0 - ((urI x0 1) &&& 1431655765)) &&& 858993459) + ((urI (x0 - ((urI x0 1) &&& 1431655765)) 2) &&& 858993459)) 4)) &&& 252645135) + (urI (((((x0 - ((urI x0 1) &&& 1431655765)) &&& 858993459) + ((urI (x0 - ((urI x0 1) &&& 1431655765)) 2) &&& 858993459)) + (urI (((x0 - ((urI x0 1) &&& 1431655765)) &&& 858993459) + ((urI (x0 - ((urI x0 1) &&& 1431655765)) 2) &&& 858993459)) 4)) &&& 252645135) 8)) 16)) &&& 63)
theorem bc_ok : ∀ a, a < 64 → bcI (nI a) = nI (popN 6 a) := by decide +kernel
theorem pop_step : ∀ a, a < 64 → 0 < a → (nI a &&& (nI a - 1)) = nI (a &&& (a - 1)) ∧ popN 6 a = popN 6 (a &&& (a - 1)) + 1 ∧ a &&& (a - 1) < a := by decide +kernel
theorem pop_le : ∀ a, a < 64 → popN 6 a ≤ 6 := by decide +kernel
theorem outN_lt {s n : Nat} (h : n ≤ 6) : outN s n < 64 := by
  have : ∀ n, outN s n < 2 ^ n := by
    intro n
    induction n with
    | zero => show (0 : Nat) < 1; decide
    | succ n ih =>
      simp only [outN]
      refine Nat.or_lt_two_pow (Nat.lt_of_lt_of_le ih (Nat.pow_le_pow_right (by decide) (by omega))) ?_
      split
      · exact Nat.pow_lt_pow_right (by decide) (by omega)
      · exact Nat.pow_pos (by decide)
  exact Nat.lt_of_lt_of_le (this n) (Nat.pow_le_pow_right (n := 2) (by decide) h)
section COPS2
variable {d : Nat} {V : Bv} {I : I2} {J : J2} {G : I2 → J2 → Prop} {F : Int32 → I2 → J2 → Prop} {s : Nat}
theorem c_Ji_bitCount {a : Nat} (hd : 1 ≤ d) (ha : a < 64) (h : F (nI (popN 6 a)) I J) : CI d Ji_bitCount [.int (nI a)] I J F := by
  refine CI.of hd rfl (v_Ji_bitCount_0 (QI_i.mpr ?_))
  show F (bcI (nI a)) I J
  rw [bc_ok a ha]; exact h
theorem l_Bx_outSet (hd : 1 ≤ d) (hw : WFB V.B) (hV : CBx 1 V I) (hs : V.s < 2 ^ 31) (h : F (nI (outN V.s V.B.pn)) I J) : ∀ k n, n + k = V.B.pn → Wp d Bx_outSet (QI F) 4 [some (.ref 1), some (.int (nI (outN V.s n))), some (.int (nI n))] [] I J := by
  have hp5 := hw.1
  intro k
  induction k with
  | zero =>
    intro n hn
    have hn : n = V.B.pn := by omega
    subst hn
    refine v_Bx_outSet_1_4 ⟨fun q => ?_, fun _ => QI_i.mpr h⟩
    rw [hV.1.1] at q; exact absurd ((n_lt (by omega) (by omega)).mp q) (Nat.lt_irrefl _)
  | succ k ih =>
    intro n hn
    have hlt : n < V.B.pn := by omega
    have go := ih (n + 1) (by omega)
    refine v_Bx_outSet_1_4 ⟨fun _ => ?_, fun q => absurd ((n_lt (by omega) (by omega)).mpr hlt) (by rw [hV.1.1] at q; exact q)⟩
    rw [hV.2.2.1]
    refine c_Sb_placeIn (by omega) hs (by omega) ?_
    have hpl := pl_lt V.s n
    have e3 : slI 1 (nI n) = nI (2 ^ n) := by
      have hb : 2 ^ n ≤ 2 ^ 6 := Nat.pow_le_pow_right (by decide) (by omega)
      have := n_sl (a := 1) (k := n) (by omega) (by omega)
      rwa [Nat.one_mul] at this
    rw [n_p0 (by omega), n_inc, e3, n_or]
    refine ⟨fun h1 => ?_, fun h1 => ?_⟩
    · simp only [outN, if_pos h1] at go; exact go
    · simp only [outN, if_neg h1, Nat.or_zero] at go; exact go
theorem c_Bx_outSet (hd : 2 ≤ d) (hw : WFB V.B) (hV : CBx 1 V I) (hs : V.s < 2 ^ 31) (h : F (nI (outN V.s V.B.pn)) I J) : CI d Bx_outSet [.ref 1] I J F :=
  CI.of (by omega) rfl (v_Bx_outSet_1_0 (l_Bx_outSet (by omega) hw hV hs h V.B.pn 0 (by omega)))
theorem in_dec {x : Int32} {n : Nat} : bI (decide (¬ x < 0) && decide (x < nI n)) = 0 ↔ ¬ inN x n := by
  rw [bI_0]; simp [inN]
theorem c_Sb_seed (hd : 1 ≤ d) (hV : CBx 1 V I) (v : Int32) (h : ∀ I', CBx 1 (seedS V v).2 I' → FrC V (seedS V v).2 I I' → F (seedS V v).1 I' J) : CI d Sb_seed [.ref 0, .int v] I J F := by
  refine CI.of (by omega) rfl (v_Sb_seed_0_0 ⟨fun e => QI_i.mpr ?_, fun e => QI_i.mpr ?_⟩)
  · rw [show seedS V v = (-1, V) from if_pos e] at h
    exact h I hV (Fr1.rf.frC rfl)
  · rw [show seedS V v = (nI V.dr, V.setD (tN v)) from if_neg e] at h
    obtain ⟨j, hj, rfl⟩ := nI_of e
    rw [n_tN (by omega)] at h
    rw [hV.2.2.2.2.1]
    exact h _ (CBx_setD hV) ((Fr1_up (by decide)).frC rfl)
theorem c_Sb_slide (hd : 6 ≤ d) (hw : WFV V) (hV : CBx 1 V I) (x y : Int32) (h : ∀ I', CBx 1 (slideS V x y).2 I' → FrC V (slideS V x y).2 I I' → F (slideS V x y).1 I' J) : CI d Sb_slide [.ref 0, .int x, .int y] I J F := by
  have hp5 := hw.1.1
  have hs := s31 hw.1 hw.2.2.1.1
  have hf := f64 hw.1 hw.2.2.2.1
  have bad : (¬ inN x V.B.pn ∨ y < 0 ∨ 1 < y) → QI F (some (.int (-1))) I J := by
    intro e
    rw [show slideS V x y = (-1, V) from if_pos e] at h
    exact QI_i.mpr (h I hV (Fr1.rf.frC rfl))
  refine CI.of (by omega) rfl (v_Sb_slide_0_0 (c_Bx_hasPanel_1 (by omega) hV.1 ?_))
  rw [in_dec]
  refine ⟨fun q => bad (Or.inl q), fun q1 => ⟨fun q => bad (Or.inr (Or.inl q)), fun q2 => ⟨fun q => bad (Or.inr (Or.inr q)), fun q3 => ?_⟩⟩⟩
  have nb : ¬ (¬ inN x V.B.pn ∨ y < 0 ∨ 1 < y) := by simp only [not_or]; exact ⟨q1, q2, q3⟩
  have q1 : inN x V.B.pn := Classical.not_not.mp q1
  obtain ⟨p, hp, rfl⟩ := in_of q1 (by omega)
  obtain ⟨w, hww, rfl⟩ := le_of (n := 1) q2 q3 (by decide)
  rw [show slideS V (nI p) (nI w) = _ from if_neg nb, n_tN (by omega), n_tN (by omega)] at h
  rw [hV.2.2.1, hV.2.2.2.1]
  refine c_Bx_maySlide_1 (by omega) hw.1 hV.1 (by omega) hp hf (by omega) ?_
  rw [bI_0]
  refine ⟨fun e => QI_i.mpr ?_, fun e => c_Bx_remember (by omega) hw hV (fun I' hV' hF' => ?_)⟩
  · rw [e] at h; exact h I hV (Fr1.rf.frC rfl)
  · have e : mayB V.B V.s V.f p w = true := by simpa using e
    rw [e] at h
    have hpl := may_place e
    rw [hV'.2.2.1]
    refine c_Bx_behind_1 (by omega) hw.1 hV'.1 (s := V.s) (by omega) (by omega) (by omega) hpl.1 (QI_i.mpr ?_)
    exact h _ (CBx_setS hV') ((hF'.tr (Fr1_up (by decide))).frC rfl)
theorem c_Sb_shut (hd : 4 ≤ d) (hw : WFV V) (hV : CBx 1 V I) (h : ∀ I', CBx 1 (shutS V).2 I' → FrC V (shutS V).2 I I' → F (shutS V).1 I' J) : CI d Sb_shut [.ref 0] I J F := by
  have hp5 := hw.1.1
  have hs := s31 hw.1 hw.2.2.1.1
  have ho := outN_lt (s := V.s) (n := V.B.pn) (by omega)
  have hpop := pop_le _ ho
  refine CI.of (by omega) rfl (v_Sb_shut_0_0 (c_Bx_outSet (by omega) hw.1 hV (by omega) (c_Ji_bitCount (by omega) ho ?_)))
  rw [n_e0 (by omega)]
  refine ⟨fun e => QI_i.mpr ?_, fun e => c_Bx_remember (by omega) hw hV (fun I' hV' hF' => QI_i.mpr ?_)⟩
  · rw [show shutS V = (-2, V) from if_pos e] at h
    exact h I hV (Fr1.rf.frC rfl)
  · rw [show shutS V = _ from if_neg e] at h
    exact h _ (CBx_setS (o := 0) hV') ((hF'.tr (Fr1_up (by decide))).frC rfl)
theorem c_Sb_file (hd : 3 ≤ d) (hw : WFV V) (hV : CBx 1 V I) (x : Int32) (h : ∀ I', CBx 1 (fileS V x).2 I' → FrC V (fileS V x).2 I I' → F (fileS V x).1 I' J) : CI d Sb_file [.ref 0, .int x] I J F := by
  have hl6 := hw.1.2.1
  have hf := f64 hw.1 hw.2.2.2.1
  refine CI.of (by omega) rfl (v_Sb_file_0_0 (c_Bx_hasLock_1 (by omega) hV.1 ?_))
  rw [in_dec]
  refine ⟨fun q => QI_i.mpr ?_, fun q => ?_⟩
  · rw [show fileS V x = (-1, V) from if_pos q] at h
    exact h I hV (Fr1.rf.frC rfl)
  · have q1 : inN x V.B.ln := Classical.not_not.mp q
    rw [show fileS V x = _ from if_neg q] at h
    obtain ⟨l, hl, rfl⟩ := in_of q1 (by omega)
    rw [n_tN (by omega)] at h
    rw [hV.2.2.2.1, n_bit hf (by omega)]
    refine ⟨fun e => c_Bx_remember (by omega) hw hV (fun I' hV' hF' => QI_i.mpr ?_), fun e => QI_i.mpr ?_⟩
    · rw [e] at h
      have e3 : slI 1 (nI l) = nI (2 ^ l) := by
        have hb : 2 ^ l ≤ 2 ^ 6 := Nat.pow_le_pow_right (by decide) (by omega)
        have := n_sl (a := 1) (k := l) (by omega) (by omega)
        rwa [Nat.one_mul] at this
      rw [hV'.2.2.2.1, e3, n_or]
      exact h _ (CBx_setF hV') ((hF'.tr (Fr1_up (by decide))).frC rfl)
    · have e : V.f.testBit l = true := by simpa using e
      rw [e] at h; exact h I hV (Fr1.rf.frC rfl)
end COPS2
