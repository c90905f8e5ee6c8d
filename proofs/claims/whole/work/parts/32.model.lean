/-! the box of the model: its reads -/
theorem wide_lt (a b : Int32) : a.toInt64 < b.toInt64 ↔ a < b := by
  rw [Int64.lt_iff_toInt_lt, Int32.lt_iff_toInt_lt, Int32.toInt_toInt64, Int32.toInt_toInt64]
theorem wide_eq (a b : Int32) : a.toInt64 = b.toInt64 ↔ a = b := by
  rw [← Int64.toInt_inj, ← Int32.toInt_inj, Int32.toInt_toInt64, Int32.toInt_toInt64]
theorem cmp_lt {x y : Int64} : lg_cmp x y < 0 ↔ x < y := by
  unfold lg_cmp
  by_cases h : x > y
  · rw [if_pos h]
    exact ⟨fun q => absurd q (by decide), fun q => absurd (Int64.lt_trans q h) (Int64.lt_irrefl)⟩
  · rw [if_neg h]
    by_cases e : x = y
    · rw [if_pos e]
      exact ⟨fun q => absurd q (by decide), fun q => absurd q (by rw [e]; exact Int64.lt_irrefl)⟩
    · rw [if_neg e]
      refine ⟨fun _ => ?_, fun _ => by decide⟩
      have h1 := Int64.not_lt.mp h
      rw [Int64.lt_iff_toInt_lt]
      rw [Int64.le_iff_toInt_le] at h1
      have h2 : x.toInt ≠ y.toInt := fun q => e (Int64.toInt_inj.mp q)
      omega
theorem cmp_gt {x y : Int64} : 0 < lg_cmp x y ↔ y < x := by
  unfold lg_cmp
  by_cases h : x > y
  · rw [if_pos h]
    exact ⟨fun _ => h, fun _ => by decide⟩
  · rw [if_neg h]
    by_cases e : x = y
    · rw [if_pos e]
      exact ⟨fun q => absurd q (by decide), fun q => absurd q h⟩
    · rw [if_neg e]
      exact ⟨fun q => absurd q (by decide), fun q => absurd q h⟩
theorem cmp_eq {x y : Int64} : lg_cmp x y = 0 ↔ x = y := by
  unfold lg_cmp
  by_cases h : x > y
  · rw [if_pos h]
    exact ⟨fun q => absurd q (by decide), fun q => absurd h (by rw [q]; exact Int64.lt_irrefl)⟩
  · rw [if_neg h]
    by_cases e : x = y
    · rw [if_pos e]; exact ⟨fun _ => e, fun _ => rfl⟩
    · rw [if_neg e]
      exact ⟨fun q => absurd q (by decide), fun q => absurd q e⟩
section MODEL
variable {d : Nat} {B : Bx} {I : I2} {J : J2} {F : Int32 → I2 → J2 → Prop} {s f p w l : Nat}
theorem c_Md_in {v lo hi : Int64} (hd : 1 ≤ d) (h : F (bI (decide (¬ v < lo) && decide (¬ hi < v))) I J) : CI d Md_in [.long v, .long lo, .long hi] I J F := by
  refine CI.of hd rfl (v_Md_in_0 ?_)
  rw [cmp_lt, cmp_gt]
  refine ⟨fun h1 => QI_i.mpr ?_, fun h1 => ⟨fun h2 => QI_i.mpr ?_, fun h2 => QI_i.mpr ?_⟩⟩
  · simpa [h1, bI] using h
  · simpa [h1, h2, bI] using h
  · simpa [h1, h2, bI] using h
theorem not_lt_pred {x : Int32} {n : Nat} (hn : n < 2 ^ 31) (hx : ¬ x < 0) : ¬ (nI n - 1) < x ↔ x < nI n := by
  rw [Int32.lt_iff_toInt_lt, Int32.lt_iff_toInt_lt, nI_toInt hn]
  rw [Int32.lt_iff_toInt_lt] at hx
  have e0 : (0 : Int32).toInt = 0 := by decide
  rw [e0] at hx
  have e : (nI n - 1).toInt = (n : Int) - 1 := by
    rcases Nat.eq_zero_or_pos n with h | h
    · subst h; decide
    · rw [n_dec h, nI_toInt (by omega)]; omega
  rw [e]; omega
theorem c_Md_isPanel {x : Int32} (hd : 2 ≤ d) (hw : WFB B) (hB : BoxM B I) (h : F (bI (decide (¬ x < 0) && decide (x < nI B.pn))) I J) : CI d Md_isPanel [.ref 57, .int x] I J F := by
  have hp5 := hw.1
  refine CI.of (by omega) rfl (v_Md_isPanel_57_0 (c_Md_in (by omega) ?_))
  have e : (decide (¬ Int32.toInt64 x < 0) && decide (¬ (I 58 0 - 1).toInt64 < x.toInt64)) = (decide (¬ x < 0) && decide (x < nI B.pn)) := by
    rw [Bool.eq_iff_iff]
    simp only [Bool.and_eq_true, decide_eq_true_eq]
    rw [hB.1, show (0 : Int64) = (0 : Int32).toInt64 from by decide, wide_lt, wide_lt]
    exact and_congr_right (fun h1 => not_lt_pred (by omega) h1)
  rw [e]
  exact ⟨by cases (decide (¬ x < 0) && decide (x < nI B.pn)) <;> simp [bI], QI_i.mpr h⟩
theorem c_Md_isLock {x : Int32} (hd : 2 ≤ d) (hw : WFB B) (hB : BoxM B I) (h : F (bI (decide (¬ x < 0) && decide (x < nI B.ln))) I J) : CI d Md_isLock [.ref 57, .int x] I J F := by
  have hp5 := hw.2.1
  refine CI.of (by omega) rfl (v_Md_isLock_57_0 (c_Md_in (by omega) ?_))
  have e : (decide (¬ Int32.toInt64 x < 0) && decide (¬ (I 58 1 - 1).toInt64 < x.toInt64)) = (decide (¬ x < 0) && decide (x < nI B.ln)) := by
    rw [Bool.eq_iff_iff]
    simp only [Bool.and_eq_true, decide_eq_true_eq]
    rw [hB.2.1, show (0 : Int64) = (0 : Int32).toInt64 from by decide, wide_lt, wide_lt]
    exact and_congr_right (fun h1 => not_lt_pred (by omega) h1)
  rw [e]
  exact ⟨by cases (decide (¬ x < 0) && decide (x < nI B.ln)) <;> simp [bI], QI_i.mpr h⟩
theorem c_Md_kind (hd : 1 ≤ d) (hw : WFB B) (hB : BoxM B I) (hp : p < B.pn) (h : F (nI (B.kd p)) I J) : CI d Md_kind [.ref 57, .int (nI p)] I J F := by
  have hp5 := hw.1
  have e : (6 : Int32) + 2 * nI p = nI (6 + 2 * p) := by rw [show (2 : Int32) * nI p = nI (2 * p) from pk_mul 2 p]; exact nI_add 6 (2 * p)
  refine CI.of hd rfl (v_Md_kind_57_0 ?_)
  rw [e, n_tN (by omega), (hB.2.2.1 p hp).1]
  exact ⟨n_vp (by omega) (by decide), QI_i.mpr h⟩
theorem c_Md_deep (hd : 1 ≤ d) (hw : WFB B) (hB : BoxM B I) (hp : p < B.pn) (h : F (nI (B.dp p)) I J) : CI d Md_deep [.ref 57, .int (nI p)] I J F := by
  have hp5 := hw.1
  have e : (6 : Int32) + 2 * nI p + 1 = nI (6 + 2 * p + 1) := by rw [show (2 : Int32) * nI p = nI (2 * p) from pk_mul 2 p, show (6 : Int32) + nI (2 * p) = nI (6 + 2 * p) from nI_add 6 (2 * p)]; exact nI_1 _
  refine CI.of hd rfl (v_Md_deep_57_0 ?_)
  rw [e, n_tN (by omega), (hB.2.2.1 p hp).2]
  exact ⟨n_vp (by omega) (by decide), QI_i.mpr h⟩
theorem c_Md_ofLock {k : Nat} (hd : 1 ≤ d) (hw : WFB B) (hB : BoxM B I) (hl : l < B.ln) (hk : k < 4) (h : F (I 58 (16 + 4 * l + k)) I J) : CI d Md_ofLock [.ref 57, .int (nI l), .int (nI k)] I J F := by
  have hl6 := hw.2.1
  have e : (16 : Int32) + 4 * nI l + nI k = nI (16 + 4 * l + k) := by rw [show (4 : Int32) * nI l = nI (4 * l) from pk_mul 4 l, show (16 : Int32) + nI (4 * l) = nI (16 + 4 * l) from nI_add 16 (4 * l)]; exact nI_add _ _
  refine CI.of hd rfl (v_Md_ofLock_57_0 ?_)
  rw [e, n_tN (by omega)]
  exact ⟨n_vp (by omega) (by decide), QI_i.mpr h⟩
theorem c_Md_isRing (hd : 2 ≤ d) (hs : s < 2 ^ 31) (hp : p < 8) (h : F (bI (ringL s p)) I J) : CI d Md_isRing [.int (nI s), .int (nI p)] I J F := by
  refine CI.of (by omega) rfl (v_Md_isRing_0 ?_)
  rw [n_e0 (by omega)]
  refine ⟨fun h1 => QI_i.mpr ?_, fun h1 => ?_⟩
  · simpa [ringL, h1, bI] using h
  · have hp0 : 0 < p := by omega
    rw [n_dec hp0]
    refine c_Md_placeIn (by omega) hs (by omega) ?_
    have hpl := pl_lt s (p - 1)
    have e1 : (2 : Int32) * nI (p - 1) = nI (2 * (p - 1)) := pk_mul 2 (p - 1)
    have e2 : slI 1 (nI (2 * (p - 1))) = nI (4 ^ (p - 1)) := by
      have hb : 2 ^ (2 * (p - 1)) ≤ 2 ^ 14 := Nat.pow_le_pow_right (by decide) (by omega)
      have := n_sl (a := 1) (k := 2 * (p - 1)) (by omega) (by omega)
      rw [Nat.one_mul, two4] at this
      exact this
    have e3 : nI (4 ^ (p - 1)) - 1 = nI (4 ^ (p - 1) - 1) := n_dec (Nat.pow_pos (by decide))
    have e4 : nI s &&& nI (4 ^ (p - 1) - 1) = nI (s % 4 ^ (p - 1)) := by
      rw [n_and, ← two4, Nat.and_two_pow_sub_one_eq_mod]
    rw [e1, e2, e3, e4, n_p0 (by omega), n_e0 (Nat.lt_of_le_of_lt (Nat.mod_le _ _) hs)]
    refine ⟨fun h2 => ⟨fun h3 => QI_i.mpr ?_, fun h3 => QI_i.mpr ?_⟩, fun h2 => QI_i.mpr ?_⟩
    · simpa [ringL, h1, h2, h3, bI] using h
    · simpa [ringL, h1, h2, h3, bI] using h
    · simpa [ringL, h1, h2, bI] using h
/-- what a lock says of a slide -/
def letsB (B : Bx) (s f p w l : Nat) : Bool := !(con B l p w && !f.testBit l) || met B l s
theorem n_bit {f l : Nat} (hf : f < 64) (hl : l < 6) : (srI (nI f) (nI l) &&& 1 = 0) ↔ f.testBit l = false := by
  rw [n_sr (by omega) (by omega), n_and1 (Nat.lt_of_le_of_lt (Nat.div_le_self _ _) (by omega)), n_e0 (by omega), Nat.testBit_eq_decide_div_mod_eq]
  simp only [decide_eq_false_iff_not]
  omega
theorem c_Md_lets (hd : 2 ≤ d) (hw : WFB B) (hB : BoxM B I) (hl : l < B.ln) (hs : s < 2 ^ 31) (hp : p < 8) (hww : w < 2) (hf : f < 64) (h : F (bI (letsB B s f p w l)) I J) : CI d Md_lets [.ref 57, .int (nI l), .int (nI s), .int (nI p), .int (nI w), .int (nI f)] I J F := by
  have hl6 : l < 6 := Nat.lt_of_lt_of_le hl hw.2.1
  obtain ⟨g1, g2, g3, g4⟩ := hB.2.2.2 l hl
  obtain ⟨k1, k2, k3, k4, k5⟩ := hw.2.2.2 l hl
  have hp5 := hw.1
  have hpl := pl_lt s (B.ot l)
  have t0 : letsB B s f p w l = false → QI F (some (.int 0)) I J := fun e => QI_i.mpr (by rw [e] at h; exact h)
  have t1 : letsB B s f p w l = true → QI F (some (.int 1)) I J := fun e => QI_i.mpr (by rw [e] at h; exact h)
  have ewp : nI (B.ow l) = nI p ↔ B.ow l = p := n_eq (by omega) (by omega)
  have ew2 : nI (B.wy l) = 2 ↔ B.wy l = 2 := n_eq (b := 2) (by omega) (by omega)
  have eww : nI (B.wy l) = nI w ↔ B.wy l = w := n_eq (by omega) (by omega)
  have em : (srI (nI (B.ps l)) (nI (pl s (B.ot l))) &&& 1) = 1 ↔ met B l s = true := by
    rw [n_sr (by omega) (by omega), n_and1 (Nat.lt_of_le_of_lt (Nat.div_le_self _ _) (by omega)), show (1 : Int32) = nI 1 from rfl, n_eq (by omega) (by omega)]
    simp [met]
  have g1' : I 58 (16 + 4 * l + 0) = nI (B.ow l) := g1
  have ask : con B l p w = true → f.testBit l = false → CI (d - 1) Md_ofLock [.ref 57, .int (nI l), .int (nI 3)] I J (fun v3 I3 J3 => CI (d - 1) Md_ofLock [.ref 57, .int (nI l), .int (nI 2)] I3 J3 (fun v4 I4 J4 => CI (d - 1) Md_placeIn [.int (nI s), .int v4] I4 J4 (fun v5 I5 J5 => (((srI v3 v5) &&& 1) = 1 → QI F (some (.int 1)) I5 J5) ∧ (¬ (((srI v3 v5) &&& 1) = 1) → QI F (some (.int 0)) I5 J5)))) := by
    intro e1 e2
    refine c_Md_ofLock (by omega) hw hB hl (by decide) (c_Md_ofLock (by omega) hw hB hl (by decide) ?_)
    rw [g4, g3]
    refine c_Md_placeIn (by omega) hs (by omega) ?_
    rw [em]
    exact ⟨fun h1 => t1 (by simp [letsB, h1]), fun h1 => t0 (by simp [letsB, e1, e2, h1])⟩
  refine CI.of (by omega) rfl (v_Md_lets_57_0 ?_)
  refine c_Md_ofLock (k := 0) (by omega) hw hB hl (by decide) ?_
  rw [g1', ewp, n_bit hf hl6]
  refine ⟨fun h1 => c_Md_ofLock (k := 1) (by omega) hw hB hl (by decide) ?_, fun h1 => t1 ?_⟩
  · rw [g2, eww]
    refine ⟨fun h2 => ⟨fun h3 => ask (by simp [con, h1, h2]) h3, fun h3 => t1 ?_⟩, fun h2 => c_Md_ofLock (k := 1) (by omega) hw hB hl (by decide) ?_⟩
    · simp [letsB, h3]
    · rw [g2, ew2]
      refine ⟨fun h3 => ⟨fun h4 => ask (by simp [con, h1, h3]) h4, fun h4 => t1 ?_⟩, fun h3 => t1 ?_⟩
      · simp [letsB, h4]
      · simp [letsB, con, h2, h3]
  · simp [letsB, con, h1]
end MODEL
