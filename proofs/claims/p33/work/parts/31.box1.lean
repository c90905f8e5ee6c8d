/-! the box of the class at place 1: its reads -/
section BOX1
variable {d : Nat} {B : Bx} {I : I2} {J : J2} {F : Int32 → I2 → J2 → Prop} {s f p w l : Nat}
theorem c_Bx_hasPanel_1 {x : Int32} (hd : 1 ≤ d) (hB : BoxI 1 B I) (h : F (bI (decide (¬ x < 0) && decide (x < nI B.pn))) I J) : CI d Bx_hasPanel [.ref 1, .int x] I J F := by
  refine CI.of hd rfl (v_Bx_hasPanel_1_0 ?_)
  rw [hB.1]
  refine ⟨fun h1 => QI_i.mpr ?_, fun h1 => ⟨fun h2 => QI_i.mpr ?_, fun h2 => QI_i.mpr ?_⟩⟩
  · simpa [h1, bI] using h
  · simpa [h1, h2, bI] using h
  · simpa [h1, h2, bI] using h
theorem c_Bx_hasLock_1 {x : Int32} (hd : 1 ≤ d) (hB : BoxI 1 B I) (h : F (bI (decide (¬ x < 0) && decide (x < nI B.ln))) I J) : CI d Bx_hasLock [.ref 1, .int x] I J F := by
  refine CI.of hd rfl (v_Bx_hasLock_1_0 ?_)
  rw [hB.2.1]
  refine ⟨fun h1 => QI_i.mpr ?_, fun h1 => ⟨fun h2 => QI_i.mpr ?_, fun h2 => QI_i.mpr ?_⟩⟩
  · simpa [h1, bI] using h
  · simpa [h1, h2, bI] using h
  · simpa [h1, h2, bI] using h
theorem c_Bx_isMet_1 (hd : 2 ≤ d) (hw : WFB B) (hB : BoxI 1 B I) (hl : l < B.ln) (hs : s < 2 ^ 31) (h : F (bI (met B l s)) I J) : CI d Bx_isMet [.ref 1, .int (nI l), .int (nI s)] I J F := by
  have hl6 : l < 6 := Nat.lt_of_lt_of_le hl hw.2.1
  obtain ⟨g1, g2, g3, g4⟩ := hB.2.2.2 l hl
  obtain ⟨k1, k2, k3, k4, k5⟩ := hw.2.2.2 l hl
  have hp5 := hw.1
  refine CI.of (by omega) rfl (v_Bx_isMet_1_0 ⟨n_vp hl6 (by decide), n_vp hl6 (by decide), ?_⟩)
  rw [n_tN (by omega), show I 6 l = nI (B.ot l) from g3, show I 7 l = nI (B.ps l) from g4]
  refine c_Sb_placeIn (by omega) hs (by omega) ?_
  have hpl := pl_lt s (B.ot l)
  rw [n_sr (by omega) (by omega), n_and1 (Nat.lt_of_le_of_lt (Nat.div_le_self _ _) (by omega)), n_e0 (by omega)]
  refine ⟨fun h1 => QI_i.mpr ?_, fun h1 => QI_i.mpr ?_⟩
  · have e : met B l s = false := by simp [met, h1]
    rw [e] at h; exact h
  · have e : met B l s = true := by simp only [met, decide_eq_true_eq]; omega
    rw [e] at h; exact h
theorem c_Bx_isOpen_1 {o : Nat} (hd : 2 ≤ d) (hw : WFB B) (hB : BoxI 1 B I) (ho : I 1 8 = nI o) (hop : B.pn = 0 ∧ o = 0 ∨ o < B.pn) (hs : s < 2 ^ 31) (h : F (bI (decide (0 < B.pn) && decide (pl s o = B.dp o))) I J) : CI d Bx_isOpen [.ref 1, .int (nI s)] I J F := by
  have hp5 := hw.1
  refine CI.of (by omega) rfl (v_Bx_isOpen_1_0 ?_)
  rw [ho]
  refine c_Bx_hasPanel_1 (by omega) hB ?_
  have ho31 : o < 2 ^ 31 := by omega
  rw [bI_0]
  simp only [n_neg ho31, n_lt ho31 (show B.pn < 2 ^ 31 by omega), not_false_eq_true, decide_true, Bool.true_and, decide_eq_false_iff_not]
  refine ⟨fun h1 => QI_i.mpr ?_, fun h1 => ?_⟩
  · have e : B.pn = 0 := by omega
    simpa [e, bI] using h
  · have h1 : o < B.pn := by omega
    rw [ho]
    refine c_Sb_placeIn (by omega) hs (by omega) ⟨?_, ?_⟩
    · rw [ho]; exact n_vp (by omega) (by decide)
    · have hpl := pl_lt s o
      have hdp := (hw.2.2.1 o h1).2
      rw [ho, n_tN ho31, show I 3 o = nI (B.dp o) from (hB.2.2.1 o h1).2, n_eq (by omega) (by omega)]
      have e0 : 0 < B.pn := by omega
      refine ⟨fun h2 => QI_i.mpr ?_, fun h2 => QI_i.mpr ?_⟩
      · simpa [e0, h2, bI] using h
      · simpa [e0, h2, bI] using h
theorem c_Bx_ringLets_1 (hd : 2 ≤ d) (hs : s < 2 ^ 31) (hp : p < 8) (h : F (bI (ringL s p)) I J) : CI d Bx_ringLets [.ref 1, .int (nI s), .int (nI p)] I J F := by
  refine CI.of (by omega) rfl (v_Bx_ringLets_1_0 ?_)
  rw [n_e0 (by omega)]
  refine ⟨fun h1 => QI_i.mpr ?_, fun h1 => ?_⟩
  · simpa [ringL, h1, bI] using h
  · have hp0 : 0 < p := by omega
    rw [n_dec hp0]
    refine c_Sb_placeIn (by omega) hs (by omega) ?_
    have hpl := pl_lt s (p - 1)
    have e1 : (2 : Int32) * nI (p - 1) = nI (2 * (p - 1)) := pk_mul 2 (p - 1)
    have e2 : slI 1 (nI (2 * (p - 1))) = nI (4 ^ (p - 1)) := by
      have hb : 2 ^ (2 * (p - 1)) ≤ 2 ^ 14 := Nat.pow_le_pow_right (by decide) (by omega)
      have := n_sl (a := 1) (k := 2 * (p - 1)) (by omega) (by omega)
      rw [Nat.one_mul, two4] at this
      exact this
    have e3 : nI (4 ^ (p - 1)) - 1 = nI (4 ^ (p - 1) - 1) := n_dec (Nat.pow_pos (by decide))
    have e4 : nI s &&& nI (4 ^ (p - 1) - 1) = nI (s % 4 ^ (p - 1)) := by
      rw [n_and, ← two4, Nat.and_two_pow_sub_one_eq_mod]
    rw [e1, e2, e3, e4, n_p0 (by omega), n_e0 (Nat.lt_of_le_of_lt (Nat.mod_le _ _) hs)]
    refine ⟨fun h2 => ⟨fun h3 => QI_i.mpr ?_, fun h3 => QI_i.mpr ?_⟩, fun h2 => QI_i.mpr ?_⟩
    · simpa [ringL, h1, h2, h3, bI] using h
    · simpa [ringL, h1, h2, h3, bI] using h
    · simpa [ringL, h1, h2, bI] using h
theorem c_Bx_slipsBack_1 {x : Nat} (hd : 1 ≤ d) (hw : WFB B) (hB : BoxI 1 B I) (hp : p < B.pn) (hx : x < 4) (h : F (bI (slips B p x)) I J) : CI d Bx_slipsBack [.ref 1, .int (nI p), .int (nI x)] I J F := by
  have hp5 : p < 5 := Nat.lt_of_lt_of_le hp hw.1
  obtain ⟨g1, g2⟩ := hB.2.2.1 p hp
  obtain ⟨k1, k2, k3⟩ := hw.2.2.1 p hp
  refine CI.of (by omega) rfl (v_Bx_slipsBack_1_0 ?_)
  have e1 : nI (B.kd p) = 1 ↔ B.kd p = 1 := n_eq (b := 1) (by omega) (by omega)
  have e3 : nI (B.kd p) = 3 ↔ B.kd p = 3 := n_eq (b := 3) (by omega) (by omega)
  have e4 : nI x < nI (B.dp p) ↔ x < B.dp p := n_lt (by omega) (by omega)
  rw [n_e0 (by omega), n_tN (by omega), show I 2 p = nI (B.kd p) from g1, show I 3 p = nI (B.dp p) from g2, e1, e3, e4]
  have hv := n_vp hp5 (by decide)
  refine ⟨fun h1 => QI_i.mpr ?_, fun h1 => ⟨hv, fun h2 => QI_i.mpr ?_, fun h2 => ⟨hv, fun h3 => ⟨hv, fun h4 => QI_i.mpr ?_, fun h4 => QI_i.mpr ?_⟩, fun h3 => QI_i.mpr ?_⟩⟩⟩
  · simpa [slips, h1, bI] using h
  · have h1 : 0 < x := by omega
    simpa [slips, h1, h2, bI] using h
  · have h1 : 0 < x := by omega
    simpa [slips, h1, h2, h3, h4, bI] using h
  · have h1 : 0 < x := by omega
    simpa [slips, h1, h2, h3, h4, bI] using h
  · have h1 : 0 < x := by omega
    simpa [slips, h1, h2, h3, bI] using h
theorem c_Bx_fits_1 (hd : 3 ≤ d) (hw : WFB B) (hB : BoxI 1 B I) (hs : s < 2 ^ 31) (hp : p < B.pn) (hww : w < 2) (h : F (bI (fitsB B s p w)) I J) : CI d Bx_fits [.ref 1, .int (nI s), .int (nI p), .int (nI w)] I J F := by
  have hp5 : p < 5 := Nat.lt_of_lt_of_le hp hw.1
  have hpn5 := hw.1
  obtain ⟨g1, g2⟩ := hB.2.2.1 p hp
  obtain ⟨k1, k2, k3⟩ := hw.2.2.1 p hp
  have hv := n_vp (a := p) hp5 (by decide)
  have hpl := pl_lt s p
  have q1 : I 2 p = nI (B.kd p) := g1
  have q2 : I 3 p = nI (B.dp p) := g2
  refine CI.of (by omega) rfl (v_Bx_fits_1_0 (c_Bx_hasPanel_1 (by omega) hB ?_))
  simp only [n_neg (show p < 2 ^ 31 by omega), n_lt (show p < 2 ^ 31 by omega) (show B.pn < 2 ^ 31 by omega), hp, not_false_eq_true, decide_true, Bool.and_self]
  refine ⟨fun z => absurd z (by decide), fun _ => c_Sb_placeIn (by omega) hs (by omega) ?_⟩
  rw [n_tN (by omega), q1, q2]
  have ew0 : nI w = 0 ↔ w = 0 := n_e0 (by omega)
  have ew1 : nI w = 1 ↔ w = 1 := n_eq (b := 1) (by omega) (by omega)
  have ek2 : nI (B.kd p) = 2 ↔ B.kd p = 2 := n_eq (b := 2) (by omega) (by omega)
  have ek4 : nI (B.kd p) = 4 ↔ B.kd p = 4 := n_eq (b := 4) (by omega) (by omega)
  have ev0 : nI (pl s p) = 0 ↔ pl s p = 0 := n_e0 (by omega)
  have elt : nI (pl s p) < nI (B.dp p) ↔ pl s p < B.dp p := n_lt (by omega) (by omega)
  have t0 : fitsB B s p w = false → QI F (some (.int 0)) I J := fun e => QI_i.mpr (by rw [e] at h; exact h)
  have t1 : fitsB B s p w = true → QI F (some (.int 1)) I J := fun e => QI_i.mpr (by rw [e] at h; exact h)
  have ring : fitsB B s p w = ringL s p → CI (d - 1) Bx_ringLets [.ref 1, .int (nI s), .int (nI p)] I J (fun v3 I3 J3 => (v3 = 0 → QI F (some (.int 0)) I3 J3) ∧ (¬ (v3 = 0) → QI F (some (.int 1)) I3 J3)) := by
    intro e
    rw [e] at t0 t1
    refine c_Bx_ringLets_1 (by omega) hs (by omega) ?_
    cases hr : ringL s p
    · exact ⟨fun _ => t0 hr, fun z => absurd rfl z⟩
    · exact ⟨fun z => absurd z (by decide), fun _ => t1 hr⟩
  rw [ew0, ew1, ek2, ek4, ev0, elt]
  refine ⟨fun hw0 => ⟨fun hv0 => t0 ?_, fun hv0 => ⟨hv, fun h2 => ring ?_, fun h2 => ⟨hv, fun h4 => ⟨fun h1 => ring ?_, fun h1 => t1 ?_⟩, fun h4 => t1 ?_⟩⟩⟩, fun hw0 => ⟨hv, fun hlt => ⟨hv, fun h2 => ring ?_, fun h2 => ⟨hv, fun h4 => ⟨fun h1 => ring ?_, fun h1 => t1 ?_⟩, fun h4 => t1 ?_⟩⟩, fun hlt => t0 ?_⟩⟩
  · simp [fitsB, hw0, hv0]
  · have hv1 : 0 < pl s p := by omega
    simp [fitsB, hw0, hv1, h2]
  · omega
  · have hv1 : 0 < pl s p := by omega
    simp [fitsB, hw0, hv1, h2]
  · have hv1 : 0 < pl s p := by omega
    simp [fitsB, hw0, hv1, h2, h4]
  · simp [fitsB, hw0, hlt, h2]
  · simp [fitsB, hlt, h2, h4, h1]
  · omega
  · simp [fitsB, hw0, hlt, h2, h4]
  · simp [fitsB, hw0, hlt]
theorem l_Bx_holding_1 (hd : 2 ≤ d) (hw : WFB B) (hB : BoxI 1 B I) (hs : s < 2 ^ 31) (hp : p < 8) (hww : w < 2) (h : F (nI (hset B s p w B.ln)) I J) : ∀ k n, n + k = B.ln → Wp d Bx_holding (QI F) 6 [some (.ref 1), some (.int (nI s)), some (.int (nI p)), some (.int (nI w)), some (.int (nI (hset B s p w n))), some (.int (nI n))] [] I J := by
  have hl6 := hw.2.1
  intro k
  induction k with
  | zero =>
    intro n hn
    refine v_Bx_holding_1_6 ⟨fun q => ?_, fun _ => QI_i.mpr ?_⟩
    · rw [show I 1 7 = nI B.ln from hB.2.1, n_lt (by omega) (by omega)] at q; omega
    · rw [show n = B.ln by omega]; exact h
  | succ k ih =>
    intro n hn
    have hlt : n < B.ln := by omega
    obtain ⟨g1, g2, g3, g4⟩ := hB.2.2.2 n hlt
    obtain ⟨k1, k2, k3, k4, k5⟩ := hw.2.2.2 n hlt
    have hpn := hw.1
    have hv := n_vp (a := n) (n := 6) (by omega) (by decide)
    have r1 : I 4 n = nI (B.ow n) := g1
    have r2 : I 5 n = nI (B.wy n) := g2
    have go := ih (n + 1) (by omega)
    have skip : (con B n p w && !met B n s) = false → Wp d Bx_holding (QI F) 6 [some (.ref 1), some (.int (nI s)), some (.int (nI p)), some (.int (nI w)), some (.int (nI (hset B s p w n))), some (.int (nI n + 1))] [] I J := by
      intro e
      rw [n_inc]
      have e2 : hset B s p w (n + 1) = hset B s p w n := by simp [hset, e]
      rw [e2] at go
      exact go
    have take : (con B n p w && !met B n s) = true → Wp d Bx_holding (QI F) 6 [some (.ref 1), some (.int (nI s)), some (.int (nI p)), some (.int (nI w)), some (.int (nI (hset B s p w n) ||| slI 1 (nI n))), some (.int (nI n + 1))] [] I J := by
      intro e
      have e3 : slI 1 (nI n) = nI (2 ^ n) := by
        have hb : 2 ^ n ≤ 2 ^ 6 := Nat.pow_le_pow_right (by decide) (by omega)
        have := n_sl (a := 1) (k := n) (by omega) (by omega)
        rwa [Nat.one_mul] at this
      rw [n_inc, e3, n_or]
      have e2 : hset B s p w (n + 1) = hset B s p w n ||| 2 ^ n := by simp [hset, e]
      rw [e2] at go
      exact go
    have ask : con B n p w = true → CI d Bx_isMet [.ref 1, .int (nI n), .int (nI s)] I J (fun v1 I1 J1 => (v1 = 0 → Wp d Bx_holding (QI F) 6 [some (.ref 1), some (.int (nI s)), some (.int (nI p)), some (.int (nI w)), some (.int (nI (hset B s p w n) ||| slI 1 (nI n))), some (.int (nI n + 1))] [] I1 J1) ∧ (¬ (v1 = 0) → Wp d Bx_holding (QI F) 6 [some (.ref 1), some (.int (nI s)), some (.int (nI p)), some (.int (nI w)), some (.int (nI (hset B s p w n))), some (.int (nI n + 1))] [] I1 J1)) := by
      intro e
      refine c_Bx_isMet_1 hd hw hB hlt hs ?_
      cases hm : met B n s
      · exact ⟨fun _ => take (by simp [e, hm]), fun z => absurd rfl z⟩
      · exact ⟨fun z => absurd z (by decide), fun _ => skip (by simp [hm])⟩
    refine v_Bx_holding_1_6 ⟨fun _ => ⟨hv, ?_⟩, fun q => absurd ((n_lt (by omega) (by omega)).mpr hlt) (by rw [show I 1 7 = nI B.ln from hB.2.1] at q; exact q)⟩
    rw [n_tN (by omega), r1, r2, n_eq (show B.ow n < 2 ^ 31 by omega) (show p < 2 ^ 31 by omega), show (2 : Int32) = nI 2 from rfl, n_eq (show B.wy n < 2 ^ 31 by omega) (show 2 < 2 ^ 31 by decide), n_eq (show B.wy n < 2 ^ 31 by omega) (show w < 2 ^ 31 by omega)]
    refine ⟨fun h1 => ⟨hv, fun h2 => ask ?_, fun h2 => ⟨hv, fun h3 => ask ?_, fun h3 => skip ?_⟩⟩, fun h1 => skip ?_⟩
    · simp [con, h1, h2]
    · simp [con, h1, h3]
    · simp [con, h2, h3]
    · simp [con, h1]
theorem c_Bx_holding_1 (hd : 3 ≤ d) (hw : WFB B) (hB : BoxI 1 B I) (hs : s < 2 ^ 31) (hp : p < 8) (hww : w < 2) (h : F (nI (hset B s p w B.ln)) I J) : CI d Bx_holding [.ref 1, .int (nI s), .int (nI p), .int (nI w)] I J F :=
  CI.of (by omega) rfl (v_Bx_holding_1_0 (l_Bx_holding_1 (by omega) hw hB hs hp hww h B.ln 0 (by omega)))
theorem c_Bx_maySlide_1 (hd : 4 ≤ d) (hw : WFB B) (hB : BoxI 1 B I) (hs : s < 2 ^ 31) (hp : p < B.pn) (hf : f < 64) (hww : w < 2) (h : F (bI (mayB B s f p w)) I J) : CI d Bx_maySlide [.ref 1, .int (nI s), .int (nI f), .int (nI p), .int (nI w)] I J F := by
  have hp5 : p < 5 := Nat.lt_of_lt_of_le hp hw.1
  refine CI.of (by omega) rfl (v_Bx_maySlide_1_0 (c_Bx_fits_1 (by omega) hw hB hs hp hww ?_))
  rw [bI_0]
  refine ⟨fun e => QI_i.mpr ?_, fun e => c_Bx_holding_1 (by omega) hw hB hs (by omega) hww ?_⟩
  · simpa [mayB, e, bI] using h
  · have e : fitsB B s p w = true := by simpa using e
    rw [hs_sub hf (hset_lt hw.2.1)]
    refine ⟨fun h2 => QI_i.mpr ?_, fun h2 => QI_i.mpr ?_⟩
    · have h4 : mayB B s f p w = true := by simp only [mayB, e, Bool.true_and, decide_eq_true_eq]; exact hset_sub.mp h2
      rw [h4] at h; exact h
    · have h4 : mayB B s f p w = false := by simp only [mayB, e, Bool.true_and, decide_eq_false_iff_not]; exact fun z => h2 (hset_sub.mpr z)
      rw [h4] at h; exact h
theorem l_Bx_behind_1 (hd : 1 ≤ d) (hw : WFB B) (hB : BoxI 1 B I) (hs : s < 2 ^ 31) (hp : p < 8) (hww : w < 2) (hm : w = 0 → 0 < pl s p) (h : F (nI (behB B s p w B.pn)) I J) : ∀ k n, n + k = B.pn → Wp d Bx_behind (QI F) 6 [some (.ref 1), some (.int (nI s)), some (.int (nI p)), some (.int (nI w)), some (.int (nI (behB B s p w n))), some (.int (nI n)), none] [] I J := by
  have hpn := hw.1
  intro k
  induction k with
  | zero =>
    intro n hn
    refine v_Bx_behind_1_6 ⟨fun q => ?_, fun _ => QI_i.mpr ?_⟩
    · rw [show I 1 2 = nI B.pn from hB.1, n_lt (by omega) (by omega)] at q; omega
    · rw [show n = B.pn by omega]; exact h
  | succ k ih =>
    intro n hn
    have hlt : n < B.pn := by omega
    have go := ih (n + 1) (by omega)
    have hpl := pl_lt s n
    have put : ∀ x, x ≤ 4 → plB B s p w n = x → Wp d Bx_behind (QI F) 6 [some (.ref 1), some (.int (nI s)), some (.int (nI p)), some (.int (nI w)), some (.int (nI (behB B s p w n) ||| slI (nI x) (2 * nI n))), some (.int (nI n + 1)), none] [] I J := by
      intro x hx e
      have e1 : (2 : Int32) * nI n = nI (2 * n) := pk_mul 2 n
      have e3 : slI (nI x) (nI (2 * n)) = nI (x * 4 ^ n) := by
        have hb : 2 ^ (2 * n) ≤ 2 ^ 10 := Nat.pow_le_pow_right (by decide) (by omega)
        have hb2 : x * 2 ^ (2 * n) ≤ 4 * 2 ^ 10 := Nat.mul_le_mul hx hb
        rw [n_sl (by omega) (by omega), two4]
      rw [n_inc, e1, e3, n_or]
      have e2 : behB B s p w (n + 1) = behB B s p w n ||| (x * 4 ^ n) := by simp [behB, e]
      rw [e2] at go
      exact go
    refine v_Bx_behind_1_6 ⟨fun _ => c_Sb_placeIn (by omega) hs (by omega) ?_, fun q => absurd ((n_lt (by omega) (by omega)).mpr hlt) (by rw [show I 1 2 = nI B.pn from hB.1] at q; exact q)⟩
    rw [n_eq (show n < 2 ^ 31 by omega) (show p < 2 ^ 31 by omega), show (nI w = 1) = (nI w = nI 1) from rfl, n_eq (show w < 2 ^ 31 by omega) (show 1 < 2 ^ 31 by decide)]
    refine ⟨fun h1 => ⟨fun h2 => ?_, fun h2 => ?_⟩, fun h1 => c_Bx_slipsBack_1 (by omega) hw hB hlt hpl ?_⟩
    · rw [n_inc (pl s n)]
      exact put (pl s n + 1) (by omega) (by simp [plB, h1, h2])
    · have h3 : 0 < pl s n := by rw [h1]; exact hm (by omega)
      rw [n_dec2 h3]
      exact put (pl s n - 1) (by omega) (by rw [plB, if_pos h1, if_neg h2])
    · cases hsl : slips B n (pl s n)
      · refine ⟨fun _ => put (pl s n) (by omega) (by rw [plB, if_neg h1, hsl]; rfl), fun z => absurd rfl z⟩
      · have h3 : 0 < pl s n := by simp [slips] at hsl; exact hsl.1
        refine ⟨fun z => absurd z (by decide), fun _ => ?_⟩
        rw [n_dec2 h3]
        exact put (pl s n - 1) (by omega) (by rw [plB, if_neg h1, hsl]; rfl)
theorem c_Bx_behind_1 (hd : 2 ≤ d) (hw : WFB B) (hB : BoxI 1 B I) (hs : s < 2 ^ 31) (hp : p < 8) (hww : w < 2) (hm : w = 0 → 0 < pl s p) (h : F (nI (behB B s p w B.pn)) I J) : CI d Bx_behind [.ref 1, .int (nI s), .int (nI p), .int (nI w)] I J F :=
  CI.of (by omega) rfl (v_Bx_behind_1_0 (l_Bx_behind_1 (by omega) hw hB hs hp hww hm h B.pn 0 (by omega)))
end BOX1
