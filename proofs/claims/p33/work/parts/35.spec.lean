/-! what each call of the first two groups answers and leaves -/
abbrev inN (x : Int32) (n : Nat) : Prop := ¬ x < 0 ∧ x < nI n
def updN (g : Nat → Nat) (n v : Nat) : Nat → Nat := fun q => if q = n then v else g q
def Bx.addP (B : Bx) (k dp : Nat) : Bx := ((B.pn + 1, B.ln), (updN B.kd B.pn k, updN B.dp B.pn dp), B.2.2)
def Bx.addL (B : Bx) (a w o ps : Nat) : Bx := ((B.pn, B.ln + 1), B.2.1, (updN B.ow B.ln a, updN B.wy B.ln w, updN B.ot B.ln o, updN B.ps B.ln ps))
def Bv.setB (V : Bv) (B : Bx) : Bv := (B, V.2.1, [])
def Bv.setLid (V : Bv) (o : Nat) : Bv := (V.1, (o, V.s, V.f, V.dr), V.past)
def Bv.setS (V : Bv) (s : Nat) : Bv := (V.1, (V.lid, s, V.f, V.dr), V.past)
def Bv.setF (V : Bv) (f : Nat) : Bv := (V.1, (V.lid, V.s, f, V.dr), V.past)
def Bv.setD (V : Bv) (dr : Nat) : Bv := (V.1, (V.lid, V.s, V.f, dr), V.past)
theorem in_of {x : Int32} {n : Nat} (h : inN x n) (hn : n < 2 ^ 31) : ∃ j, j < n ∧ x = nI j := by
  obtain ⟨j, hj, rfl⟩ := nI_of h.1
  exact ⟨j, (n_lt hj hn).mp h.2, rfl⟩
theorem in_nI {j n : Nat} (hj : j < n) (hn : n < 2 ^ 31) : inN (nI j) n := ⟨nI_pos (by omega), (n_lt (by omega) hn).mpr hj⟩
theorem pl_0 {s q : Nat} (h : s < 4 ^ q) : pl s q = 0 := by simp [pl, Nat.div_eq_of_lt h]
theorem okS_addP {B : Bx} {s k dp : Nat} (h : okS B s) : okS (B.addP k dp) s := by
  refine ⟨?_, fun p hp => ?_⟩
  · show s < 4 ^ (B.pn + 1)
    have := h.1; rw [Nat.pow_succ]; omega
  · show pl s p ≤ updN B.dp B.pn dp p
    have hp : p < B.pn + 1 := hp
    unfold updN
    split
    · next e => rw [e, pl_0 h.1]; omega
    · exact h.2 p (by omega)
theorem WFB.addP {B : Bx} (h : WFB B) {k dp : Nat} (h5 : B.pn < 5) (hk : k ≤ 4) (h1 : 1 ≤ dp) (h3 : dp ≤ 3) : WFB (B.addP k dp) := by
  refine ⟨h5, h.2.1, fun p hp => ?_, fun l hl => ?_⟩
  · have hp : p < B.pn + 1 := hp
    show updN B.kd B.pn k p ≤ 4 ∧ 1 ≤ updN B.dp B.pn dp p ∧ updN B.dp B.pn dp p ≤ 3
    unfold updN
    by_cases e : p = B.pn
    · simp [e]; omega
    · simp only [if_neg e]; exact h.2.2.1 p (by omega)
  · obtain ⟨a1, a2, a3, a4, a5⟩ := h.2.2.2 l hl
    exact ⟨Nat.lt_succ_of_lt a1, a2, Nat.lt_succ_of_lt a3, a4, a5⟩
theorem WFB.addL {B : Bx} (h : WFB B) {a w o ps : Nat} (h6 : B.ln < 6) (ha : a < B.pn) (hw : w ≤ 2) (ho : o < B.pn) (h1 : 1 ≤ ps) (h15 : ps ≤ 15) : WFB (B.addL a w o ps) := by
  refine ⟨h.1, h6, h.2.2.1, fun l hl => ?_⟩
  have hl : l < B.ln + 1 := hl
  show updN B.ow B.ln a l < B.pn ∧ updN B.wy B.ln w l ≤ 2 ∧ updN B.ot B.ln o l < B.pn ∧ 1 ≤ updN B.ps B.ln ps l ∧ updN B.ps B.ln ps l ≤ 15
  unfold updN
  by_cases e : l = B.ln
  · simp [e]; omega
  · simp only [if_neg e]; exact h.2.2.2 l (by omega)
theorem may_place {B : Bx} {s f p w : Nat} (h : mayB B s f p w = true) : (w = 0 → 0 < pl s p) ∧ (¬ w = 0 → pl s p < B.dp p) := by
  simp only [mayB, fitsB, Bool.and_eq_true] at h
  have h1 := h.1.1
  refine ⟨fun e => ?_, fun e => ?_⟩
  · rw [if_pos e] at h1; simpa using h1
  · rw [if_neg e] at h1; simpa using h1
theorem okS_beh {B : Bx} {s f p w : Nat} (hB : WFB B) (h : okS B s) (hp : p < B.pn) (hw : w < 2) (hm : mayB B s f p w = true) : okS B (behB B s p w B.pn) := by
  have hpl := may_place hm
  have hdp := (hB.2.2.1 p hp).2.2
  have hlt : ∀ q, q < B.pn → plB B s p w q < 4 := fun q hq => plB_lt (fun e => by have := hpl.2 (by omega); omega)
  rw [behB_Sm hlt]
  refine ⟨Sm_lt hlt, fun q hq => ?_⟩
  rw [pl_Sm hlt hq]
  have h2 := h.2 q hq
  unfold plB
  split
  · next e =>
    split
    · next e1 => rw [e]; have := hpl.2 (by omega); omega
    · omega
  · split <;> omega
/-- panel -/
def panelS (V : Bv) (x y : Int32) : Int32 × Bv := if x < 0 ∨ 4 < x ∨ y < 1 ∨ 3 < y then (-1, V) else if V.B.pn < 5 then (nI V.B.pn, V.setB (V.B.addP (tN x) (tN y))) else (-3, V)
/-- lock -/
def lockS (V : Bv) (a w o ps : Int32) : Int32 × Bv := if ¬ inN a V.B.pn ∨ ¬ inN o V.B.pn ∨ a = o ∨ w < 0 ∨ 2 < w ∨ ps < 1 ∨ 15 < ps then (-1, V) else if V.B.ln < 6 then (nI V.B.ln, V.setB (V.B.addL (tN a) (tN w) (tN o) (tN ps))) else (-3, V)
/-- lid -/
def lidS (V : Bv) (x : Int32) : Int32 × Bv := if inN x V.B.pn then (nI V.lid, V.setLid (tN x)) else (-1, V)
/-- slide -/
def slideS (V : Bv) (p w : Int32) : Int32 × Bv := if ¬ inN p V.B.pn ∨ w < 0 ∨ 1 < w then (-1, V) else if mayB V.B V.s V.f (tN p) (tN w) then (nI (behB V.B V.s (tN p) (tN w) V.B.pn), V.rem.setS (behB V.B V.s (tN p) (tN w) V.B.pn)) else (-2, V)
/-- which are out: below n -/
def outN (s : Nat) : Nat → Nat
  | 0 => 0
  | n + 1 => outN s n ||| (if 0 < pl s n then 2 ^ n else 0)
def popN : Nat → Nat → Nat
  | 0, _ => 0
  | k + 1, a => a % 2 + popN k (a / 2)
/-- shut -/
def shutS (V : Bv) : Int32 × Bv := if popN 6 (outN V.s V.B.pn) = 0 then (-2, V) else (nI (popN 6 (outN V.s V.B.pn)), V.rem.setS 0)
/-- file -/
def fileS (V : Bv) (l : Int32) : Int32 × Bv := if ¬ inN l V.B.ln then (-1, V) else if V.f.testBit (tN l) then (-2, V) else (nI (V.f ||| 2 ^ tN l), V.rem.setF (V.f ||| 2 ^ tN l))
theorem drw_ex (a : Nat) : ∃ z : Nat, z = (a * 1103515245 + 12345) % 2147483648 := ⟨_, rfl⟩
/-- the draw behind a (chosen, so that nobody reckons it) -/
noncomputable def drw (a : Nat) : Nat := Classical.choose (drw_ex a)
theorem drw_eq (a : Nat) : drw a = (a * 1103515245 + 12345) % 2147483648 := Classical.choose_spec (drw_ex a)
/-- one time of a drift: the draw z, the panel p, the way w -/
def driftP (V : Bv) (z p w : Nat) : Bv := if mayB V.B V.s V.f p w then (V.rem.setD z).setS (behB V.B V.s p w V.B.pn) else V.rem.setD z
noncomputable def drift1 (V : Bv) : Bv := if V.B.pn = 0 then V.rem.setD (drw V.dr) else driftP V (drw V.dr) (drw V.dr / 65536 % V.B.pn) (drw V.dr / 128 % 2)
noncomputable def driftN : Nat → Bv → Bv
  | 0, V => V
  | n + 1, V => drift1 (driftN n V)
/-- drift -/
noncomputable def driftS (V : Bv) (n : Int32) : Int32 × Bv := if n < 1 ∨ 40 < n then (-1, V) else (nI (driftN (tN n) V).s, driftN (tN n) V)
/-- undo -/
def undoS (V : Bv) : Int32 × Bv := match V.past with
  | [] => (-4, V)
  | x :: t => (nI t.length, (V.1, (V.lid, x.1, x.2.1, x.2.2), t))
/-- seed -/
def seedS (V : Bv) (v : Int32) : Int32 × Bv := if v < 0 then (-1, V) else (nI V.dr, V.setD (tN v))
/-! what each leaves is a box -/
theorem le_of {x : Int32} {n : Nat} (h : ¬ x < 0) (h2 : ¬ nI n < x) (hn : n < 2 ^ 31) : ∃ j, j ≤ n ∧ x = nI j := by
  obtain ⟨j, hj, rfl⟩ := nI_of h
  refine ⟨j, ?_, rfl⟩
  rw [n_lt hn hj] at h2; omega
theorem WF_panel {V : Bv} (h : WFV V) (x y : Int32) : WFV (panelS V x y).2 := by
  unfold panelS
  split
  · exact h
  · next hb =>
    simp only [not_or] at hb
    obtain ⟨b1, b2, b3, b4⟩ := hb
    split
    · next h5 =>
      obtain ⟨j, hj, rfl⟩ := le_of (n := 4) b1 b2 (by decide)
      have y0 : ¬ y < 0 := fun q => b3 (Int32.lt_trans q (by decide))
      obtain ⟨k, hk, rfl⟩ := le_of (n := 3) y0 b4 (by decide)
      have k1 : 1 ≤ k := by
        rw [show (1 : Int32) = nI 1 from rfl, n_lt (by omega) (by decide)] at b3; omega
      obtain ⟨h1, h2, h3, h4, h6, h7, h8⟩ := h
      rw [n_tN (by omega), n_tN (by omega)]
      refine ⟨h1.addP h5 hj k1 hk, ?_, okS_addP h3, h4, h6, Nat.zero_le _, fun x hx => by cases hx⟩
      rcases h2 with ⟨e1, e2⟩ | e
      · right; show V.lid < V.B.pn + 1; omega
      · right; show V.lid < V.B.pn + 1; omega
    · exact h
theorem WF_lock {V : Bv} (h : WFV V) (a w o ps : Int32) : WFV (lockS V a w o ps).2 := by
  unfold lockS
  split
  · exact h
  · next hb =>
    simp only [not_or, Classical.not_not] at hb
    obtain ⟨b1, b2, b3, b4, b5, b6, b7⟩ := hb
    split
    · next h5 =>
      obtain ⟨h1, h2, h3, h4, h6, h7, h8⟩ := h
      have hp5 := h1.1
      obtain ⟨a', ha, rfl⟩ := in_of b1 (by omega)
      obtain ⟨o', ho, rfl⟩ := in_of b2 (by omega)
      obtain ⟨w', hw, rfl⟩ := le_of (n := 2) b4 b5 (by decide)
      have y0 : ¬ ps < 0 := fun q => b6 (Int32.lt_trans q (by decide))
      obtain ⟨k, hk, rfl⟩ := le_of (n := 15) y0 b7 (by decide)
      have k1 : 1 ≤ k := by
        rw [show (1 : Int32) = nI 1 from rfl, n_lt (by omega) (by decide)] at b6; omega
      rw [n_tN (by omega), n_tN (by omega), n_tN (by omega), n_tN (by omega)]
      refine ⟨h1.addL h5 ha hw ho k1 hk, h2, h3, ?_, h6, Nat.zero_le _, fun x hx => by cases hx⟩
      show V.f < 2 ^ (V.B.ln + 1)
      rw [Nat.pow_succ]; omega
    · exact h
theorem WF_lid {V : Bv} (h : WFV V) (x : Int32) : WFV (lidS V x).2 := by
  unfold lidS
  split
  · next hb =>
    obtain ⟨h1, h2, h3, h4, h6, h7, h8⟩ := h
    have hp5 := h1.1
    obtain ⟨a', ha, rfl⟩ := in_of hb (by omega)
    rw [n_tN (by omega)]
    exact ⟨h1, Or.inr ha, h3, h4, h6, h7, h8⟩
  · exact h
theorem WF_setS {V : Bv} (h : WFV V) {s : Nat} (hs : okS V.B s) : WFV (V.setS s) := ⟨h.1, h.2.1, hs, h.2.2.2⟩
theorem WF_setD {V : Bv} (h : WFV V) {s : Nat} (hs : s < 2 ^ 31) : WFV (V.setD s) := ⟨h.1, h.2.1, h.2.2.1, h.2.2.2.1, hs, h.2.2.2.2.2⟩
theorem WF_setF {V : Bv} (h : WFV V) {s : Nat} (hs : s < 2 ^ V.B.ln) : WFV (V.setF s) := ⟨h.1, h.2.1, h.2.2.1, hs, h.2.2.2.2⟩
theorem WF_slide {V : Bv} (h : WFV V) (p w : Int32) : WFV (slideS V p w).2 := by
  unfold slideS
  split
  · exact h
  · next hb =>
    simp only [not_or, Classical.not_not] at hb
    obtain ⟨b1, b2, b3⟩ := hb
    split
    · next hm =>
      have hp5 := h.1.1
      obtain ⟨a', ha, rfl⟩ := in_of b1 (by omega)
      obtain ⟨w', hw, rfl⟩ := le_of (n := 1) b2 b3 (by decide)
      rw [n_tN (by omega), n_tN (by omega)] at hm ⊢
      exact WF_setS h.rem (okS_beh h.1 h.2.2.1 ha (by omega) hm)
    · exact h
theorem okS_0 {B : Bx} : okS B 0 := ⟨Nat.pow_pos (by decide), fun p _ => by simp [pl]⟩
theorem WF_shut {V : Bv} (h : WFV V) : WFV (shutS V).2 := by
  unfold shutS
  split
  · exact h
  · exact WF_setS h.rem okS_0
theorem WF_file {V : Bv} (h : WFV V) (l : Int32) : WFV (fileS V l).2 := by
  unfold fileS
  split
  · exact h
  · next hb =>
    simp only [Classical.not_not] at hb
    split
    · exact h
    · have hl6 := h.1.2.1
      obtain ⟨a', ha, rfl⟩ := in_of hb (by omega)
      rw [n_tN (by omega)]
      exact WF_setF h.rem (Nat.or_lt_two_pow h.2.2.2.1 (Nat.pow_lt_pow_right (by decide) ha))
theorem drw_lt (a : Nat) : drw a < 2 ^ 31 := by rw [drw_eq]; exact Nat.mod_lt _ (by decide)
theorem WF_driftP {V : Bv} (h : WFV V) {z p w : Nat} (hz : z < 2 ^ 31) (hp : p < V.B.pn) (hw : w < 2) : WFV (driftP V z p w) := by
  unfold driftP
  split
  · next hm => exact WF_setS (WF_setD h.rem hz) (okS_beh h.1 h.2.2.1 hp hw hm)
  · exact WF_setD h.rem hz
theorem WF_drift1 {V : Bv} (h : WFV V) : WFV (drift1 V) := by
  have hd := drw_lt V.dr
  unfold drift1
  generalize drw V.dr = z at hd ⊢
  by_cases e : V.B.pn = 0
  · rw [if_pos e]; exact WF_setD h.rem hd
  · rw [if_neg e]
    have h1 : z / 65536 % V.B.pn < V.B.pn := Nat.mod_lt _ (Nat.pos_of_ne_zero e)
    have h2 : z / 128 % 2 < 2 := Nat.mod_lt _ (Nat.zero_lt_two)
    generalize z / 65536 % V.B.pn = p at h1 ⊢
    generalize z / 128 % 2 = w at h2 ⊢
    exact WF_driftP h hd h1 h2
theorem WF_driftN {V : Bv} (h : WFV V) : ∀ n, WFV (driftN n V) := by
  intro n
  induction n with
  | zero => exact h
  | succ n ih => exact WF_drift1 ih
theorem WF_drift {V : Bv} (h : WFV V) (n : Int32) : WFV (driftS V n).2 := by
  unfold driftS
  split
  · exact h
  · exact WF_driftN h _
theorem WF_undo {V : Bv} (h : WFV V) : WFV (undoS V).2 := by
  obtain ⟨h1, h2, h3, h4, h6, h7, h8⟩ := h
  unfold undoS
  split
  · exact ⟨h1, h2, h3, h4, h6, h7, h8⟩
  · next x t e =>
    rw [e] at h7 h8
    obtain ⟨x1, x2, x3⟩ := h8 x List.mem_cons_self
    simp only [List.length_cons] at h7
    exact ⟨h1, h2, x1, x2, x3, show t.length ≤ 8 by omega, fun y hy => h8 y (List.mem_cons_of_mem _ hy)⟩
theorem WF_seed {V : Bv} (h : WFV V) (v : Int32) : WFV (seedS V v).2 := by
  unfold seedS
  split
  · exact h
  · next hb =>
    obtain ⟨j, hj, rfl⟩ := nI_of hb
    rw [n_tN hj]
    exact WF_setD h hj
