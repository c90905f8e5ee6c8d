/-! of, at, count: both sides -/
def ofS (V : Bv) (x y : Int32) : Int32 := if ¬ inN x V.B.pn then -1 else if y = 0 then nI (V.B.kd (tN x)) else if y = 1 then nI (V.B.dp (tN x)) else if y = 2 then nI (pl V.s (tN x)) else if y = 3 then bI (mayB V.B V.s V.f (tN x) 0) else if y = 4 then bI (mayB V.B V.s V.f (tN x) 1) else -1
def atS (V : Bv) (x y : Int32) : Int32 := if ¬ inN x V.B.ln then -1 else if y = 0 then nI (V.B.ow (tN x)) else if y = 1 then nI (V.B.wy (tN x)) else if y = 2 then nI (V.B.ot (tN x)) else if y = 3 then nI (V.B.ps (tN x)) else if y = 4 then bI (V.f.testBit (tN x)) else if y = 5 then bI (met V.B (tN x) V.s) else -1
def openB (B : Bx) (o s : Nat) : Bool := decide (0 < B.pn) && decide (pl s o = B.dp o)
def cntM (B : Bx) (s f : Nat) : Nat → Nat
  | 0 => 0
  | m + 1 => cntM B s f m + (if mayB B s f (m / 2) (m % 2) then 1 else 0)
theorem cntM_le {B : Bx} {s f m : Nat} : cntM B s f m ≤ m := by
  induction m with
  | zero => exact Nat.le_refl _
  | succ m ih => simp only [cntM]; split <;> omega
def countS (V : Bv) (x : Int32) : Int32 := if x = 0 then nI V.B.pn else if x = 1 then nI V.B.ln else if x = 2 then nI V.lid else if x = 3 then bI (openB V.B V.lid V.s) else if x = 4 then nI (outN V.s V.B.pn) else if x = 5 then nI V.f else if x = 6 then nI (cntM V.B V.s V.f (2 * V.B.pn)) else if x = 7 then nI V.s else if x = 8 then nI V.past.length else -1
section READS
variable {d : Nat} {V : Bv} {I : I2} {J : J2} {G : I2 → J2 → Prop} {F : Int32 → I2 → J2 → Prop} {s : Nat}
theorem n_bI {f l : Nat} (hf : f < 64) (hl : l < 6) : srI (nI f) (nI l) &&& 1 = bI (f.testBit l) := by
  rw [n_sr (by omega) (by omega), n_and1 (Nat.lt_of_le_of_lt (Nat.div_le_self _ _) (by omega)), Nat.testBit_eq_decide_div_mod_eq]
  rcases Nat.mod_two_eq_zero_or_one (f / 2 ^ l) with e | e <;> rw [e] <;> rfl
theorem n_met {B : Bx} {l : Nat} (hw : WFB B) (hl : l < B.ln) : srI (nI (B.ps l)) (nI (pl s (B.ot l))) &&& 1 = bI (met B l s) := by
  have hpl := pl_lt s (B.ot l)
  have h15 := (hw.2.2.2 l hl).2.2.2.2
  rw [n_sr (by omega) (by omega), n_and1 (Nat.lt_of_le_of_lt (Nat.div_le_self _ _) (by omega))]
  unfold met
  rcases Nat.mod_two_eq_zero_or_one (B.ps l / 2 ^ pl s (B.ot l)) with e | e <;> rw [e] <;> rfl
theorem c_Sb_of (hd : 5 ≤ d) (hw : WFV V) (hV : CBx 1 V I) (x y : Int32) (h : F (ofS V x y) I J) : CI d Sb_of [.ref 0, .int x, .int y] I J F := by
  have hp5 := hw.1.1
  have hs := s31 hw.1 hw.2.2.1.1
  have hf := f64 hw.1 hw.2.2.2.1
  refine CI.of (by omega) rfl (v_Sb_of_0_0 (c_Bx_hasPanel_1 (by omega) hV.1 ?_))
  rw [in_dec]
  refine ⟨fun q => QI_i.mpr ?_, fun q => ?_⟩
  · rw [show ofS V x y = -1 from if_pos q] at h; exact h
  · have q1 : inN x V.B.pn := Classical.not_not.mp q
    rw [show ofS V x y = _ from if_neg q] at h
    obtain ⟨p, hp, rfl⟩ := in_of q1 (by omega)
    rw [n_tN (by omega)] at h ⊢
    have hv := n_vp (a := p) (n := 5) (by omega) (by decide)
    rw [hV.2.2.1, hV.2.2.2.1, (hV.1.2.2.1 p hp).1, (hV.1.2.2.1 p hp).2]
    refine ⟨fun e => ⟨hv, QI_i.mpr ?_⟩, fun e => ⟨hv, QI_i.mpr ?_⟩, fun e => c_Sb_placeIn (by omega) (by omega) (by omega) (QI_i.mpr ?_), fun e => c_Bx_maySlide_1 (w := 0) (by omega) hw.1 hV.1 (by omega) hp hf (by decide) (c_Sb_bit (by omega) (QI_i.mpr ?_)), fun e => c_Bx_maySlide_1 (w := 1) (by omega) hw.1 hV.1 (by omega) hp hf (by decide) (c_Sb_bit (by omega) (QI_i.mpr ?_)), fun ⟨e0, e1, e2, e3, e4⟩ => QI_i.mpr ?_⟩
    · subst e; exact h
    · subst e; exact h
    · subst e; exact h
    · subst e; exact h
    · subst e; exact h
    · rw [if_neg e0, if_neg e1, if_neg e2, if_neg e3, if_neg e4] at h; exact h
theorem c_Sb_at (hd : 3 ≤ d) (hw : WFV V) (hV : CBx 1 V I) (x y : Int32) (h : F (atS V x y) I J) : CI d Sb_at [.ref 0, .int x, .int y] I J F := by
  have hl6 := hw.1.2.1
  have hs := s31 hw.1 hw.2.2.1.1
  have hf := f64 hw.1 hw.2.2.2.1
  refine CI.of (by omega) rfl (v_Sb_at_0_0 (c_Bx_hasLock_1 (by omega) hV.1 ?_))
  rw [in_dec]
  refine ⟨fun q => QI_i.mpr ?_, fun q => ?_⟩
  · rw [show atS V x y = -1 from if_pos q] at h; exact h
  · have q1 : inN x V.B.ln := Classical.not_not.mp q
    rw [show atS V x y = _ from if_neg q] at h
    obtain ⟨l, hl, rfl⟩ := in_of q1 (by omega)
    rw [n_tN (by omega)] at h ⊢
    have hv := n_vp (a := l) (n := 6) (by omega) (by decide)
    obtain ⟨g1, g2, g3, g4⟩ := hV.1.2.2.2 l hl
    rw [hV.2.2.1, hV.2.2.2.1, g1, g2, g3, g4, n_bI hf (by omega)]
    refine ⟨fun e => ⟨hv, QI_i.mpr ?_⟩, fun e => ⟨hv, QI_i.mpr ?_⟩, fun e => ⟨hv, QI_i.mpr ?_⟩, fun e => ⟨hv, QI_i.mpr ?_⟩, fun e => QI_i.mpr ?_, fun e => c_Bx_isMet_1 (by omega) hw.1 hV.1 hl (by omega) (c_Sb_bit (by omega) (QI_i.mpr ?_)), fun ⟨e0, e1, e2, e3, e4, e5⟩ => QI_i.mpr ?_⟩
    · subst e; exact h
    · subst e; exact h
    · subst e; exact h
    · subst e; exact h
    · subst e; exact h
    · subst e; exact h
    · rw [if_neg e0, if_neg e1, if_neg e2, if_neg e3, if_neg e4, if_neg e5] at h; exact h
theorem l_Bx_slides (hd : 4 ≤ d) (hw : WFV V) (hV : CBx 1 V I) (h : F (nI (cntM V.B V.s V.f (2 * V.B.pn))) I J) : ∀ k n, n + k = 2 * V.B.pn → Wp d Bx_slidesThatMay (QI F) 4 [some (.ref 1), some (.int (nI (cntM V.B V.s V.f n))), some (.int (nI n))] [] I J := by
  have hp5 := hw.1.1
  have hs := s31 hw.1 hw.2.2.1.1
  have hf := f64 hw.1 hw.2.2.2.1
  have e2 : (2 : Int32) * nI V.B.pn = nI (2 * V.B.pn) := pk_mul 2 _
  intro k
  induction k with
  | zero =>
    intro n hn
    have hn : n = 2 * V.B.pn := by omega
    subst hn
    refine v_Bx_slidesThatMay_1_4 ⟨fun q => ?_, fun _ => QI_i.mpr h⟩
    rw [hV.1.1, e2] at q; exact absurd ((n_lt (by omega) (by omega)).mp q) (Nat.lt_irrefl _)
  | succ k ih =>
    intro n hn
    have hlt : n < 2 * V.B.pn := by omega
    have go := ih (n + 1) (by omega)
    refine v_Bx_slidesThatMay_1_4 ⟨fun _ => ?_, fun q => absurd ((n_lt (by omega) (by omega)).mpr hlt) (by rw [hV.1.1, e2] at q; exact q)⟩
    have e3 : srI (nI n) 1 = nI (n / 2) := n_sr (k := 1) (by omega) (by decide)
    rw [hV.2.2.1, hV.2.2.2.1, e3, n_and1 (by omega)]
    refine c_Bx_maySlide_1 hd hw.1 hV.1 (by omega) (by omega) hf (Nat.mod_lt _ (by decide)) ?_
    rw [bI_0, n_inc, n_inc]
    simp only [cntM] at go
    refine ⟨fun e => ?_, fun e => ?_⟩
    · rw [e] at go; exact go
    · have e : mayB V.B V.s V.f (n / 2) (n % 2) = true := by simpa using e
      rw [e] at go; exact go
theorem c_Bx_slides (hd : 5 ≤ d) (hw : WFV V) (hV : CBx 1 V I) (h : F (nI (cntM V.B V.s V.f (2 * V.B.pn))) I J) : CI d Bx_slidesThatMay [.ref 1] I J F :=
  CI.of (by omega) rfl (v_Bx_slidesThatMay_1_0 (l_Bx_slides (by omega) hw hV h _ 0 (Nat.zero_add _)))
theorem c_Sb_count (hd : 6 ≤ d) (hw : WFV V) (hV : CBx 1 V I) (x : Int32) (h : F (countS V x) I J) : CI d Sb_count [.ref 0, .int x] I J F := by
  have hs := s31 hw.1 hw.2.2.1.1
  obtain ⟨hB, h8, h9, h10, h11, h15, -⟩ := id hV
  refine CI.of (by omega) rfl (v_Sb_count_0_0 ?_)
  rw [hB.1, hB.2.1, h8, h9, h10, h15]
  unfold countS at h
  refine ⟨fun e => QI_i.mpr ?_, fun e => QI_i.mpr ?_, fun e => QI_i.mpr ?_, fun e => c_Bx_isOpen_1 (by omega) hw.1 hV.1 h8 hw.2.1 (by omega) (c_Sb_bit (by omega) (QI_i.mpr ?_)), fun e => c_Bx_outSet (by omega) hw.1 hV (by omega) (QI_i.mpr ?_), fun e => QI_i.mpr ?_, fun e => c_Bx_slides (by omega) hw hV (QI_i.mpr ?_), fun e => QI_i.mpr ?_, fun e => QI_i.mpr ?_, fun ⟨e0, e1, e2, e3, e4, e5, e6, e7, e8⟩ => QI_i.mpr ?_⟩
  iterate 9 (· subst e; exact h)
  · rw [if_neg e0, if_neg e1, if_neg e2, if_neg e3, if_neg e4, if_neg e5, if_neg e6, if_neg e7, if_neg e8] at h; exact h
end READS
