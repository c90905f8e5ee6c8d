/-! clicks: both sides -/
def okPr (pn : Nat) (a b : Int64) : Bool := decide (¬ a < 0 ∧ a / 10 < lN pn ∧ ¬ 1 < rmL a 10 ∧ ¬ b < 0 ∧ ¬ 1 < b)
def clkO (g : Nat → Int64) (i pn : Nat) : Nat → Bool
  | 0 => true
  | k + 1 => clkO g i pn k && okPr pn (g (i + 2 * k)) (g (i + 2 * k + 1))
def mvN (g : Nat → Int64) (i k : Nat) : Nat := tN (g (i + 2 * k)).toInt32
def clkN (B : Bx) (f : Nat) (g : Nat → Int64) (i : Nat) : Nat → Nat → Nat → Bool
  | 0, _, _ => true
  | r + 1, k, s => if mayB B s f (mvN g i k / 10) (mvN g i k % 10) = decide (g (i + 2 * k + 1) = 1) then clkN B f g i r (k + 1) (if g (i + 2 * k + 1) = 1 then behB B s (mvN g i k / 10) (mvN g i k % 10) B.pn else s) else false
def Bx.setK (B : Bx) (p k : Nat) : Bx := (B.1, (updN B.kd p k, B.dp), B.2.2)
def lkS (V : Bv) (g : Nat → Int64) (i n : Nat) : Nat → Nat
  | 0 => if clkN V.B V.f g i n 0 V.s then 64 else 0
  | l + 1 => lkS V g i n l ||| (if clkN V.B (V.f ^^^ 2 ^ l) g i n 0 V.s then 2 ^ l else 0)
def kdS (V : Bv) (g : Nat → Int64) (i n x : Nat) : Nat → Nat
  | 0 => 0
  | k + 1 => kdS V g i n x k ||| (if clkN (V.B.setK x k) V.f g i n 0 V.s then 2 ^ k else 0)
def clicksF (V : Bv) (S : Nat → Shv) (x y z i n : Int32) : Int32 := if (¬ x = -4 ∧ ¬ inN x V.B.pn) ∨ ¬ inN y 4 ∨ ¬ inN z 4 ∨ n < 1 ∨ 8 < n then -1 else if faultS (S (tN y)) z i (2 * n) = 0 then (if clkO (itm (S (tN y))) (tN i) V.B.pn (tN n) then (if x = -4 then nI (lkS V (itm (S (tN y))) (tN i) (tN n) V.B.ln) else nI (kdS V (itm (S (tN y))) (tN i) (tN n) (tN x) 5)) else -2) else faultS (S (tN y)) z i (2 * n)
theorem okPr_i {pn : Nat} {a b : Int64} (hp : pn ≤ 5) (h : okPr pn a b = true) : ∃ m, a = lN m ∧ m / 10 < pn ∧ m % 10 < 2 ∧ m < 50 ∧ (b = 0 ∨ b = 1) := by
  simp only [okPr, decide_eq_true_eq] at h
  obtain ⟨h1, h2, h3, h4, h5⟩ := h
  obtain ⟨m, hm, rfl⟩ := pk_lOf h1
  obtain ⟨c, hc, rfl⟩ := pk_lOf h4
  rw [show lN m / 10 = lN (m / 10) from pk_lDiv (b := 10) hm (by decide) (by decide), pk_lLT (by omega) (by omega)] at h2
  rw [show rmL (lN m) 10 = lN (m % 10) from n_rmL (b := 10) hm (by decide) (by decide), show ((1 : Int64) < lN (m % 10)) = (lN 1 < lN (m % 10)) from rfl, pk_lLT (by decide) (by omega)] at h3
  rw [show ((1 : Int64) < lN c) = (lN 1 < lN c) from rfl, pk_lLT (by decide) hc] at h5
  refine ⟨m, rfl, h2, by omega, by omega, ?_⟩
  have : c = 0 ∨ c = 1 := by omega
  rcases this with rfl | rfl
  · exact Or.inl rfl
  · exact Or.inr rfl
theorem clkO_at {g : Nat → Int64} {i pn : Nat} : ∀ n, clkO g i pn n = true → ∀ k, k < n → okPr pn (g (i + 2 * k)) (g (i + 2 * k + 1)) = true := by
  intro n
  induction n with
  | zero => intro _ k hk; exact absurd hk (Nat.not_lt_zero k)
  | succ n ih =>
    intro h k hk
    simp only [clkO, Bool.and_eq_true] at h
    by_cases e : k = n
    · rw [e]; exact h.2
    · exact ih h.1 k (by omega)
theorem clkO_up {g : Nat → Int64} {i pn k : Nat} (h : clkO g i pn k = false) : ∀ r, clkO g i pn (k + r) = false := by
  intro r
  induction r with
  | zero => exact h
  | succ r ih =>
    show clkO g i pn (k + r + 1) = false
    simp only [clkO]; rw [ih]; rfl
theorem WFB_setK {B : Bx} (h : WFB B) {p k : Nat} (hk : k ≤ 4) : WFB (B.setK p k) := by
  refine ⟨h.1, h.2.1, fun q hq => ⟨?_, (h.2.2.1 q hq).2⟩, h.2.2.2⟩
  show updN B.kd p k q ≤ 4
  unfold updN
  split
  · exact hk
  · exact (h.2.2.1 q hq).1
theorem okS_setK {B : Bx} {p k s : Nat} (h : okS B s) : okS (B.setK p k) s := h
theorem n_xor (a b : Nat) : nI a ^^^ nI b = nI (a ^^^ b) := by
  apply Int32.toBitVec_inj.mp
  show BitVec.ofNat 32 a ^^^ BitVec.ofNat 32 b = BitVec.ofNat 32 (a ^^^ b)
  rw [BitVec.ofNat_xor]
theorem n_one {l : Nat} (hl : l < 30) : slI 1 (nI l) = nI (2 ^ l) := by
  have h : 1 * 2 ^ l < 2 ^ 32 := by rw [Nat.one_mul]; exact Nat.pow_lt_pow_right (by decide) (by omega)
  have := n_sl (a := 1) (k := l) (by omega) h
  rw [Nat.one_mul] at this
  exact this
theorem may_up {B : Bx} {s f p w : Nat} (hB : WFB B) (hs : okS B s) (hp : p < B.pn) (h : mayB B s f p w = true) : (w = 1 → pl s p < 3) ∧ (w = 0 → 0 < pl s p) := by
  have h1 := may_place h
  have h3 := (hB.2.2.1 p hp).2.2
  exact ⟨fun e => by have := h1.2 (by omega); omega, h1.1⟩
section CLK
variable {d : Nat} {V : Bv} {S : Nat → Shv} {I : I2} {J : J2} {F : Int32 → I2 → J2 → Prop} {B : Bx} {p sz l i f : Nat} {g : Nat → Int64}
theorem n_mv {m : Nat} (h : m < 50) : (lN m).toInt32 / 10 = nI (m / 10) ∧ rmI (lN m).toInt32 10 = nI (m % 10) := by
  rw [lN_i]
  exact ⟨n_div (k := 10) (by omega) (by decide) (by decide), n_rm (k := 10) (by omega) (by decide) (by decide)⟩
theorem c_Sb_clicksSo_1 {n s : Nat} (hd : 5 ≤ d) (hw : WFB B) (hB : BoxI 1 B I) (h9 : I 1 9 = nI s) (hs : okS B s) (hf : f < 64) (hp : Pl p) (hS : ShC p (some (l, sz, g)) I J) (hsz : sz ≤ 24) (hi : i + 2 * n ≤ sz) (hok : clkO g i B.pn n = true) (h : F (bI (clkN B f g i n 0 s)) I J) : CI d Sb_clicksSo [.ref 1, .int (nI f), .ref p, .int (nI i), .int (nI n)] I J F := by
  have hp5 := hw.1
  have loop : ∀ r k s, k + r = n → okS B s → F (bI (clkN B f g i r k s)) I J → Wp (d - 1) Sb_clicksSo (QI F) 9 [some (.ref 1), some (.int (nI f)), some (.ref p), some (.int (nI i)), some (.int (nI n)), some (.int (nI s)), some (.int (nI k)), none, none] [] I J := by
    intro r
    induction r with
    | zero =>
      intro k s hk hs hz
      have hk : k = n := by omega
      subst hk
      exact vu_Sb_clicksSo_1_9 hp ⟨fun q => absurd ((n_lt (by omega) (by omega)).mp q) (Nat.lt_irrefl _), fun _ => QI_i.mpr hz⟩
    | succ r ih =>
      intro k s hk hs h
      obtain ⟨m, em, h1, h2, h3, h4⟩ := okPr_i hp5 (clkO_at n hok k (by omega))
      have emv : mvN g i k = m := by unfold mvN; rw [em, lN_i, n_tN (by omega)]
      have hs2 := s31 hw hs.1
      simp only [clkN] at h
      rw [emv] at h
      refine vu_Sb_clicksSo_1_9 hp ⟨fun _ => ?_, fun q => absurd ((n_lt (by omega) (by omega)).mpr (by omega)) q⟩
      rw [show (2 : Int32) * nI k = nI (2 * k) from pk_mul 2 k, nI_add, n_inc, n_inc]
      refine c_Sh_look (by omega) hp hS hsz (by omega) (c_Sh_look (by omega) hp hS hsz (by omega) ?_)
      rw [em, (n_mv h3).1, (n_mv h3).2, cmp_eq]
      refine ⟨fun e => c_Bx_maySlide_1 (by omega) hw hB (by omega) h1 hf h2 ?_, fun e => c_Bx_maySlide_1 (by omega) hw hB (by omega) h1 hf h2 ?_⟩
      · rw [bI_1]
        rw [if_pos e, decide_eq_true e] at h
        refine ⟨fun z => c_Bx_behind_1 (by omega) hw hB (by omega) (by omega) h2 (may_place z).1 (ih (k + 1) _ (by omega) (okS_beh hw hs h1 h2 z) ?_), fun z => QI_i.mpr ?_⟩
        · rw [if_pos z] at h; exact h
        · rw [if_neg z] at h; exact h
      · rw [bI_0]
        rw [if_neg e, decide_eq_false e] at h
        refine ⟨fun z => ih (k + 1) _ (by omega) hs ?_, fun z => QI_i.mpr ?_⟩
        · rw [if_pos z] at h; exact h
        · rw [if_neg z] at h; exact h
  refine CI.of (by omega) rfl (vu_Sb_clicksSo_1_0 hp ?_)
  rw [h9]
  exact loop n 0 s (Nat.zero_add _) hs h
theorem c_Sb_clicksSo_21 {n s : Nat} (hd : 5 ≤ d) (hw : WFB B) (hB : BoxI 21 B I) (h9 : I 21 9 = nI s) (hs : okS B s) (hf : f < 64) (hp : Pl p) (hS : ShC p (some (l, sz, g)) I J) (hsz : sz ≤ 24) (hi : i + 2 * n ≤ sz) (hok : clkO g i B.pn n = true) (h : F (bI (clkN B f g i n 0 s)) I J) : CI d Sb_clicksSo [.ref 21, .int (nI f), .ref p, .int (nI i), .int (nI n)] I J F := by
  have hp5 := hw.1
  have loop : ∀ r k s, k + r = n → okS B s → F (bI (clkN B f g i r k s)) I J → Wp (d - 1) Sb_clicksSo (QI F) 9 [some (.ref 21), some (.int (nI f)), some (.ref p), some (.int (nI i)), some (.int (nI n)), some (.int (nI s)), some (.int (nI k)), none, none] [] I J := by
    intro r
    induction r with
    | zero =>
      intro k s hk hs hz
      have hk : k = n := by omega
      subst hk
      exact vu_Sb_clicksSo_21_9 hp ⟨fun q => absurd ((n_lt (by omega) (by omega)).mp q) (Nat.lt_irrefl _), fun _ => QI_i.mpr hz⟩
    | succ r ih =>
      intro k s hk hs h
      obtain ⟨m, em, h1, h2, h3, h4⟩ := okPr_i hp5 (clkO_at n hok k (by omega))
      have emv : mvN g i k = m := by unfold mvN; rw [em, lN_i, n_tN (by omega)]
      have hs2 := s31 hw hs.1
      simp only [clkN] at h
      rw [emv] at h
      refine vu_Sb_clicksSo_21_9 hp ⟨fun _ => ?_, fun q => absurd ((n_lt (by omega) (by omega)).mpr (by omega)) q⟩
      rw [show (2 : Int32) * nI k = nI (2 * k) from pk_mul 2 k, nI_add, n_inc, n_inc]
      refine c_Sh_look (by omega) hp hS hsz (by omega) (c_Sh_look (by omega) hp hS hsz (by omega) ?_)
      rw [em, (n_mv h3).1, (n_mv h3).2, cmp_eq]
      refine ⟨fun e => c_Bx_maySlide_21 (by omega) hw hB (by omega) h1 hf h2 ?_, fun e => c_Bx_maySlide_21 (by omega) hw hB (by omega) h1 hf h2 ?_⟩
      · rw [bI_1]
        rw [if_pos e, decide_eq_true e] at h
        refine ⟨fun z => c_Bx_behind_21 (by omega) hw hB (by omega) (by omega) h2 (may_place z).1 (ih (k + 1) _ (by omega) (okS_beh hw hs h1 h2 z) ?_), fun z => QI_i.mpr ?_⟩
        · rw [if_pos z] at h; exact h
        · rw [if_neg z] at h; exact h
      · rw [bI_0]
        rw [if_neg e, decide_eq_false e] at h
        refine ⟨fun z => ih (k + 1) _ (by omega) hs ?_, fun z => QI_i.mpr ?_⟩
        · rw [if_pos z] at h; exact h
        · rw [if_neg z] at h; exact h
  refine CI.of (by omega) rfl (vu_Sb_clicksSo_21_0 hp ?_)
  rw [h9]
  exact loop n 0 s (Nat.zero_add _) hs h
theorem c_Sb_areClicks {n : Nat} (hd : 3 ≤ d) (hw : WFV V) (hV : CBx 1 V I) (hp : Pl p) (hS : ShC p (some (l, sz, g)) I J) (hsz : sz ≤ 24) (hi : i + 2 * n ≤ sz) (h : F (bI (clkO g i V.B.pn n)) I J) : CI d Sb_areClicks [.ref 0, .ref p, .int (nI i), .int (nI n)] I J F := by
  have hp5 := hw.1.1
  have loop : ∀ r k, k + r = n → clkO g i V.B.pn k = true → Wp (d - 1) Sb_areClicks (QI F) 3 [some (.ref 0), some (.ref p), some (.int (nI i)), some (.int (nI n)), some (.int (nI k)), none, none, none, none] [] I J := by
    intro r
    induction r with
    | zero =>
      intro k hk he
      have hk : k = n := by omega
      subst hk
      rw [he] at h
      exact vu_Sb_areClicks_0_3 hp ⟨fun q => absurd ((n_lt (by omega) (by omega)).mp q) (Nat.lt_irrefl _), fun _ => QI_i.mpr h⟩
    | succ r ih =>
      intro k hk he
      have e1 : clkO g i V.B.pn (k + 1) = okPr V.B.pn (g (i + 2 * k)) (g (i + 2 * k + 1)) := by
        simp only [clkO]; rw [he, Bool.true_and]
      have bad : okPr V.B.pn (g (i + 2 * k)) (g (i + 2 * k + 1)) = false → QI F (some (.int 0)) I J := by
        intro q
        have e3 := clkO_up (e1.trans q) r
        rw [show k + 1 + r = n by omega] at e3
        rw [e3] at h
        exact QI_i.mpr h
      refine vu_Sb_areClicks_0_3 hp ⟨fun _ => ?_, fun q => absurd ((n_lt (by omega) (by omega)).mpr (by omega)) q⟩
      rw [show (2 : Int32) * nI k = nI (2 * k) from pk_mul 2 k, nI_add, n_inc, n_inc]
      refine c_Sh_look (by omega) hp hS hsz (by omega) (c_Sh_look (by omega) hp hS hsz (by omega) ?_)
      rw [hV.1.1, nI_l (by omega), cmp_lt, cmp_lt, cmp_gt, cmp_lt, cmp_gt]
      unfold okPr at bad e1
      refine ⟨fun q => bad (decide_eq_false (fun z => z.1 q)), fun q1 => ⟨fun q2 => ⟨fun q => bad (decide_eq_false (fun z => z.2.2.1 q)), fun q3 => ⟨fun q => bad (decide_eq_false (fun z => z.2.2.2.1 q)), fun q4 => ⟨fun q => bad (decide_eq_false (fun z => z.2.2.2.2 q)), fun q5 => ih (k + 1) (by omega) ?_⟩⟩⟩, fun q => bad (decide_eq_false (fun z => q z.2.1))⟩⟩
      rw [e1]; exact decide_eq_true ⟨q1, q2, q3, q4, q5⟩
  exact CI.of (by omega) rfl (vu_Sb_areClicks_0_0 hp (loop n 0 (Nat.zero_add _) rfl))
theorem lk_f {V : Bv} (hw : WFV V) {l : Nat} (hl : l < V.B.ln) : V.f ^^^ 2 ^ l < 64 := by
  have h6 := hw.1.2.1
  exact Nat.xor_lt_two_pow (n := 6) (f64 hw.1 hw.2.2.2.1) (Nat.pow_lt_pow_right (by decide) (by omega))
theorem c_Sb_locksBy {n : Nat} (hd : 6 ≤ d) (hw : WFV V) (hV : CBx 1 V I) (hp : Pl p) (hS : ShC p (some (l, sz, g)) I J) (hsz : sz ≤ 24) (hi : i + 2 * n ≤ sz) (hok : clkO g i V.B.pn n = true) (h : F (nI (lkS V g i n V.B.ln)) I J) : CI d Sb_locksByClicks [.ref 0, .ref p, .int (nI i), .int (nI n)] I J F := by
  have hl6 := hw.1.2.1
  have hf := f64 hw.1 hw.2.2.2.1
  have loop : ∀ r k, k + r = V.B.ln → Wp (d - 1) Sb_locksByClicks (QI F) 31 [some (.ref 0), some (.ref p), some (.int (nI i)), some (.int (nI n)), some (.int (nI (lkS V g i n k))), some (.int (nI k))] [] I J := by
    intro r
    induction r with
    | zero =>
      intro k hk
      have hk : k = V.B.ln := by omega
      subst hk
      refine vu_Sb_locksByClicks_0_31 hp ⟨fun q => ?_, fun _ => QI_i.mpr h⟩
      rw [hV.1.2.1] at q; exact absurd ((n_lt (by omega) (by omega)).mp q) (Nat.lt_irrefl _)
    | succ r ih =>
      intro k hk
      have hlt : k < V.B.ln := by omega
      have go := ih (k + 1) (by omega)
      simp only [lkS] at go
      refine vu_Sb_locksByClicks_0_31 hp ⟨fun _ => ?_, fun q => absurd ((n_lt (by omega) (by omega)).mpr hlt) (by rw [hV.1.2.1] at q; exact q)⟩
      rw [hV.2.2.2.1, n_one (by omega), n_xor, n_or, n_inc]
      refine c_Sb_clicksSo_1 (by omega) hw.1 hV.1 hV.2.2.1 hw.2.2.1 (lk_f hw hlt) hp hS hsz hi hok ?_
      rw [bI_0]
      refine ⟨fun e => ?_, fun e => ?_⟩
      · rw [if_neg (by rw [e]; decide), Nat.or_zero] at go; exact go
      · rw [if_pos (by simpa using e)] at go; exact go
  refine CI.of (by omega) rfl (vu_Sb_locksByClicks_0_0 hp ?_)
  rw [hV.2.2.2.1]
  refine c_Sb_clicksSo_1 (by omega) hw.1 hV.1 hV.2.2.1 hw.2.2.1 hf hp hS hsz hi hok ?_
  have go := loop V.B.ln 0 (Nat.zero_add _)
  simp only [lkS] at go
  rw [bI_0]
  refine ⟨fun e => ?_, fun e => ?_⟩
  · rw [if_neg (by rw [e]; decide)] at go; exact go
  · rw [if_pos (by simpa using e)] at go; exact go
theorem BoxI_setK {x k : Nat} {I' : I2} (hB : BoxI 21 B I) (h : ∀ a, a ≠ 22 → I' a = I a) (h2 : ∀ j, j ≠ x → I' 22 j = I 22 j) (h3 : I' 22 x = nI k) : BoxI 21 (B.setK x k) I' := by
  obtain ⟨b1, b2, b3, b4⟩ := hB
  refine ⟨by rw [h 21 (by decide)]; exact b1, by rw [h 21 (by decide)]; exact b2, fun q hq => ⟨?_, by rw [h (21 + 2) (by decide)]; exact (b3 q hq).2⟩, fun q hq => ?_⟩
  · show I' 22 q = nI (updN B.kd x k q)
    unfold updN
    by_cases e : q = x
    · rw [if_pos e, e, h3]
    · rw [if_neg e, h2 q e]; exact (b3 q hq).1
  · rw [h (21 + 3) (by decide), h (21 + 4) (by decide), h (21 + 5) (by decide), h (21 + 6) (by decide)]; exact b4 q hq
theorem c_Sb_kindsBy {n x : Nat} (hd : 6 ≤ d) (hw : WFV V) (hV : CBx 1 V I) (hx : x < V.B.pn) (hp : Pl p) (hS : ShC p (some (l, sz, g)) I J) (hsz : sz ≤ 24) (hi : i + 2 * n ≤ sz) (hok : clkO g i V.B.pn n = true) (h : ∀ I', (∀ a, (a < 21 ∨ 30 < a) → I' a = I a) → F (nI (kdS V g i n x 5)) I' J) : CI d Sb_kindsByClicks [.ref 0, .int (nI x), .ref p, .int (nI i), .int (nI n)] I J F := by
  have hp5 := hw.1.1
  have hf := f64 hw.1 hw.2.2.2.1
  have hp0 : p < 21 ∨ 30 < p := by rcases hp with e | e | e | e <;> omega
  refine CI.of (by omega) rfl (vu_Sb_kindsByClicks_0_0 hp (c_Bx_becomes_21_1 (by omega) hw hV (fun I1 q1 q2 q3 => ?_)))
  have loop : ∀ r k I2, k + r = 5 → (∀ a, a ≠ 22 → I2 a = I1 a) → (∀ j, j ≠ x → I2 22 j = I1 22 j) → Wp (d - 1) Sb_kindsByClicks (QI F) 17 [some (.ref 0), some (.int (nI x)), some (.ref p), some (.int (nI i)), some (.int (nI n)), some (.int (nI (kdS V g i n x k))), some (.int (nI k))] [] I2 J := by
    intro r
    induction r with
    | zero =>
      intro k I2 hk h1 h2
      have hk : k = 5 := by omega
      subst hk
      refine vu_Sb_kindsByClicks_0_17 hp ⟨fun _ => QI_i.mpr (h I2 (fun a ha => ?_)), fun q => absurd (by decide) q⟩
      rw [h1 a (by omega)]; exact q3 a ha
    | succ r ih =>
      intro k I2 hk h1 h2
      have go := ih (k + 1) (up2 I2 22 x (nI k)) (by omega) (fun a ha => by simp [up2, ha]; exact h1 a ha) (fun j hj => by simp [up2, upd, hj]; exact h2 j hj)
      simp only [kdS] at go
      refine vu_Sb_kindsByClicks_0_17 hp ⟨fun q => absurd ((n_lt (a := 4) (by decide) (by omega)).mp q) (by omega), fun _ => ⟨n_vp (by omega) (by decide), ?_⟩⟩
      rw [n_tN (by omega), h1 21 (by decide), q1.2.2.2.1, n_one (by omega), n_or, n_inc]
      have hB3 : BoxI 21 (V.B.setK x k) (up2 I2 22 x (nI k)) := BoxI_setK q1.1 (fun a ha => by simp [up2, ha]; exact h1 a ha) (fun j hj => by simp [up2, upd, hj]; exact h2 j hj) (by simp [up2, upd])
      have h9 : up2 I2 22 x (nI k) 21 9 = nI V.s := by
        simp [up2]; rw [h1 21 (by decide)]; exact q1.2.2.1
      have hS3 : ShC p (some (l, sz, g)) (up2 I2 22 x (nI k)) J := ShC_congr hS (by
        have : p ≠ 22 := by omega
        simp [up2, this]; rw [h1 p this]; exact q3 p hp0) rfl
      refine c_Sb_clicksSo_21 (B := V.B.setK x k) (by omega) (WFB_setK hw.1 (by omega)) hB3 h9 (okS_setK hw.2.2.1) hf hp hS3 hsz hi hok ?_
      rw [bI_0]
      refine ⟨fun e => ?_, fun e => ?_⟩
      · rw [if_neg (by rw [e]; decide), Nat.or_zero] at go; exact go
      · rw [if_pos (by simpa using e)] at go; exact go
  exact loop 5 0 I1 rfl (fun _ _ => rfl) (fun _ _ => rfl)
theorem c_Sb_clicks (hd : 7 ≤ d) (hw : WFV V) (hV : CBx 1 V I) (hS : ShCs S I J) (hW : WFSs S) (x y z j n : Int32) (h : ∀ I', (∀ a, (a < 21 ∨ 30 < a) → I' a = I a) → F (clicksF V S x y z j n) I' J) : CI d Sb_clicks [.ref 0, .int x, .int y, .int z, .int j, .int n] I J F := by
  have hp5 := hw.1.1
  have bad : ((¬ x = -4 ∧ ¬ inN x V.B.pn) ∨ ¬ inN y 4 ∨ ¬ inN z 4 ∨ n < 1 ∨ 8 < n) → QI F (some (.int (-1))) I J := by
    intro q
    rw [show clicksF V S x y z j n = -1 from if_pos q] at h
    exact QI_i.mpr (h I (fun _ _ => rfl))
  have rest : ∀ (X : Nat → I2 → J2 → Prop), ¬ ((¬ x = -4 ∧ ¬ inN x V.B.pn) ∨ ¬ inN y 4 ∨ ¬ inN z 4 ∨ n < 1 ∨ 8 < n) → ∀ i, i < 4 → y = nI i → (∀ l sz g c k, S i = some (l, sz, g) → sz ≤ 24 → c + 2 * k ≤ sz → n = nI k → j = nI c → clkO g c V.B.pn k = true → (∀ I', (∀ a, (a < 21 ∨ 30 < a) → I' a = I a) → F (if x = -4 then nI (lkS V g c k V.B.ln) else nI (kdS V g c k (tN x) 5)) I' J) → X (49 + 2 * i) I J) → CI (d - 1) Sh_fault [.ref (49 + 2 * i), .int z, .int j, .int (2 * n)] I J (fun v3 I3 J3 => (v3 = 0 → CI (d - 1) Sb_areClicks [.ref 0, .ref (49 + 2 * i), .int j, .int n] I3 J3 (fun v4 I4 J4 => (v4 = 0 → QI F (some (.int (-2))) I4 J4) ∧ (¬ (v4 = 0) → X (49 + 2 * i) I4 J4))) ∧ (¬ (v3 = 0) → QI F (some (.int v3)) I3 J3)) := by
    rintro X nb i hi rfl hX
    rw [show clicksF V S x (nI i) z j n = if faultS (S i) z j (2 * n) = 0 then (if clkO (itm (S i)) (tN j) V.B.pn (tN n) then (if x = -4 then nI (lkS V (itm (S i)) (tN j) (tN n) V.B.ln) else nI (kdS V (itm (S i)) (tN j) (tN n) (tN x) 5)) else -2) else faultS (S i) z j (2 * n) from (if_neg nb).trans (by rw [n_tN (by omega)])] at h
    simp only [not_or] at nb
    obtain ⟨n1, n2, n3, n4, n5⟩ := nb
    have n0 : ¬ n < 0 := fun q => n4 (Int32.lt_trans q (by decide))
    obtain ⟨k, hk, rfl⟩ := le_of (n := 8) n0 n5 (by decide)
    refine c_Sh_fault (by omega) (Pl_of hi) (hS i hi) (hW i hi) ⟨fun e => ?_, fun e => QI_i.mpr ?_⟩
    · rw [if_pos e] at h
      obtain ⟨l, sz, g, eS, ez, z1, z2, z3⟩ := fault_0 e
      obtain ⟨w1, w2⟩ := hW i hi l sz g eS
      obtain ⟨c, hc, rfl⟩ := nI_of z2
      rw [show (2 : Int32) * nI k = nI (2 * k) from pk_mul 2 k, n_tN hc, n_tN (by omega)] at z3
      have hSi := hS i hi
      rw [eS] at hSi
      rw [n_tN hc, n_tN (by omega), eS] at h
      refine c_Sb_areClicks (by omega) hw hV (Pl_of hi) hSi w2 z3 ?_
      rw [bI_0]
      have h : ∀ I', (∀ a, (a < 21 ∨ 30 < a) → I' a = I a) → F (if clkO g c V.B.pn k then (if x = -4 then nI (lkS V g c k V.B.ln) else nI (kdS V g c k (tN x) 5)) else -2) I' J := h
      refine ⟨fun e2 => QI_i.mpr ?_, fun e2 => ?_⟩
      · rw [if_neg (by rw [e2]; decide)] at h; exact h I (fun _ _ => rfl)
      · have e2 : clkO g c V.B.pn k = true := by simpa using e2
        rw [if_pos e2] at h
        exact hX l sz g c k eS w2 z3 rfl rfl e2 h
    · rw [if_neg e] at h; exact h I (fun _ _ => rfl)
  refine CI.of (by omega) rfl (v_Sb_clicks_0_0 ⟨fun e4 => c_Sb_isSheet (by omega) ?_, fun e4 => c_Bx_hasPanel_1 (by omega) hV.1 ?_⟩)
  · rw [in_dec]
    refine ⟨fun q => bad (Or.inr (Or.inl q)), fun q1 => c_Sb_isLane (by omega) ?_⟩
    rw [in_dec]
    refine ⟨fun q => bad (Or.inr (Or.inr (Or.inl q))), fun q2 => ⟨fun q => bad (Or.inr (Or.inr (Or.inr (Or.inl q)))), fun q3 => ⟨fun q => bad (Or.inr (Or.inr (Or.inr (Or.inr q)))), fun q4 => ?_⟩⟩⟩
    have nb : ¬ ((¬ x = -4 ∧ ¬ inN x V.B.pn) ∨ ¬ inN y 4 ∨ ¬ inN z 4 ∨ n < 1 ∨ 8 < n) := by
      rintro (q | q | q | q | q)
      · exact q.1 e4
      · exact q1 q
      · exact q2 q
      · exact q3 q
      · exact q4 q
    obtain ⟨i, hi, ey⟩ := in_of (Classical.not_not.mp q1) (by decide)
    have R := rest (fun p I J => CI (d - 1) Sb_locksByClicks [.ref 0, .ref p, .int j, .int n] I J (fun v5 I5 J5 => QI F (some (.int v5)) I5 J5)) nb i hi ey (fun l sz g c k a1 a2 a3 a4 a5 a6 a7 => ?_)
    · subst ey
      exact ⟨n_vp hi (by decide), four (A := fun p => CI (d - 1) Sh_fault [.ref p, .int z, .int j, .int (2 * n)] I J (fun v3 I3 J3 => (v3 = 0 → CI (d - 1) Sb_areClicks [.ref 0, .ref p, .int j, .int n] I3 J3 (fun v4 I4 J4 => (v4 = 0 → QI F (some (.int (-2))) I4 J4) ∧ (¬ (v4 = 0) → CI (d - 1) Sb_locksByClicks [.ref 0, .ref p, .int j, .int n] I4 J4 (fun v5 I5 J5 => QI F (some (.int v5)) I5 J5)))) ∧ (¬ (v3 = 0) → QI F (some (.int v3)) I3 J3))) hi R⟩
    · subst a4; subst a5
      rw [if_pos e4] at a7
      have hSi := hS i hi
      rw [a1] at hSi
      exact c_Sb_locksBy (by omega) hw hV (Pl_of hi) hSi a2 a3 a6 (QI_i.mpr (a7 I (fun _ _ => rfl)))
  · rw [in_dec]
    refine ⟨fun q => bad (Or.inl ⟨e4, q⟩), fun q0 => c_Sb_isSheet (by omega) ?_⟩
    rw [in_dec]
    refine ⟨fun q => bad (Or.inr (Or.inl q)), fun q1 => c_Sb_isLane (by omega) ?_⟩
    rw [in_dec]
    refine ⟨fun q => bad (Or.inr (Or.inr (Or.inl q))), fun q2 => ⟨fun q => bad (Or.inr (Or.inr (Or.inr (Or.inl q)))), fun q3 => ⟨fun q => bad (Or.inr (Or.inr (Or.inr (Or.inr q)))), fun q4 => ?_⟩⟩⟩
    have nb : ¬ ((¬ x = -4 ∧ ¬ inN x V.B.pn) ∨ ¬ inN y 4 ∨ ¬ inN z 4 ∨ n < 1 ∨ 8 < n) := by
      rintro (q | q | q | q | q)
      · exact q0 q.2
      · exact q1 q
      · exact q2 q
      · exact q3 q
      · exact q4 q
    obtain ⟨i, hi, ey⟩ := in_of (Classical.not_not.mp q1) (by decide)
    obtain ⟨x', hx, ex⟩ := in_of (Classical.not_not.mp q0) (by omega)
    have R := rest (fun p I J => CI (d - 1) Sb_kindsByClicks [.ref 0, .int x, .ref p, .int j, .int n] I J (fun v5 I5 J5 => QI F (some (.int v5)) I5 J5)) nb i hi ey (fun l sz g c k a1 a2 a3 a4 a5 a6 a7 => ?_)
    · subst ey
      exact ⟨n_vp hi (by decide), four (A := fun p => CI (d - 1) Sh_fault [.ref p, .int z, .int j, .int (2 * n)] I J (fun v3 I3 J3 => (v3 = 0 → CI (d - 1) Sb_areClicks [.ref 0, .ref p, .int j, .int n] I3 J3 (fun v4 I4 J4 => (v4 = 0 → QI F (some (.int (-2))) I4 J4) ∧ (¬ (v4 = 0) → CI (d - 1) Sb_kindsByClicks [.ref 0, .int x, .ref p, .int j, .int n] I4 J4 (fun v5 I5 J5 => QI F (some (.int v5)) I5 J5)))) ∧ (¬ (v3 = 0) → QI F (some (.int v3)) I3 J3))) hi R⟩
    · subst a4; subst a5
      rw [if_neg e4, ex, n_tN (by omega)] at a7
      have hSi := hS i hi
      rw [a1] at hSi
      rw [ex]
      exact c_Sb_kindsBy (by omega) hw hV hx (Pl_of hi) hSi a2 a3 a6 (fun I' hI' => QI_i.mpr (a7 I' hI'))
end CLK
