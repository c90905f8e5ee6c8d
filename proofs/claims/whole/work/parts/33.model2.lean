/-! sums of places -/
def Sm (g : Nat → Nat) : Nat → Nat
  | 0 => 0
  | n + 1 => Sm g n + g n * 4 ^ n
theorem Sm_congr {g g' : Nat → Nat} {n : Nat} (h : ∀ q, q < n → g q = g' q) : Sm g n = Sm g' n := by
  induction n with
  | zero => rfl
  | succ n ih => simp only [Sm]; rw [ih (fun q hq => h q (by omega)), h n (by omega)]
theorem Sm_upd {g g' : Nat → Nat} {n : Nat} : ∀ {N : Nat}, n < N → (∀ q, q ≠ n → g q = g' q) → Sm g N + g' n * 4 ^ n = Sm g' N + g n * 4 ^ n := by
  intro N
  induction N with
  | zero => intro h; omega
  | succ N ih =>
    intro h heq
    simp only [Sm]
    by_cases e : n = N
    · subst e
      rw [Sm_congr (g := g) (g' := g') (fun q hq => heq q (by omega))]
      omega
    · have := ih (by omega) heq
      rw [heq N (fun q => e q.symm)]
      omega
theorem Sm_lt {g : Nat → Nat} {n : Nat} (h : ∀ q, q < n → g q < 4) : Sm g n < 4 ^ n := by
  induction n with
  | zero => show (0 : Nat) < 1; decide
  | succ n ih =>
    simp only [Sm]
    have h1 := ih (fun q hq => h q (by omega))
    have h2 := h n (by omega)
    have h3 : g n * 4 ^ n ≤ 3 * 4 ^ n := Nat.mul_le_mul_right _ (by omega)
    rw [Nat.pow_succ]; omega
theorem Sm_pl (s n : Nat) : Sm (pl s) n = s % 4 ^ n := by
  induction n with
  | zero => simp [Sm, Nat.mod_one]
  | succ n ih =>
    simp only [Sm]
    rw [ih, Nat.pow_succ, Nat.mod_mul]
    simp only [pl]
    rw [Nat.mul_comm (4 ^ n)]
theorem pl_Sm {g : Nat → Nat} {n q : Nat} (h : ∀ q, q < n → g q < 4) (hq : q < n) : pl (Sm g n) q = g q := by
  induction n with
  | zero => omega
  | succ n ih =>
    simp only [Sm, pl]
    have h1 : Sm g n < 4 ^ n := Sm_lt (fun q hq => h q (by omega))
    by_cases e : q = n
    · subst e
      rw [Nat.add_mul_div_right _ _ (Nat.pow_pos (by decide)), Nat.div_eq_of_lt h1, Nat.zero_add, Nat.mod_eq_of_lt (h q (by omega))]
    · have hq' : q < n := by omega
      have h2 := ih (fun q hq => h q (by omega)) hq'
      simp only [pl] at h2
      obtain ⟨k, hk⟩ : ∃ k, n = q + 1 + k := ⟨n - q - 1, by omega⟩
      have e3 : g n * 4 ^ n = (g n * 4 ^ k * 4) * 4 ^ q := by
        rw [hk, Nat.pow_add, Nat.pow_add, Nat.pow_one]
        simp only [Nat.mul_assoc, Nat.mul_comm, Nat.mul_left_comm]
      rw [e3, Nat.add_mul_div_right _ _ (Nat.pow_pos (by decide)), Nat.add_mul_mod_self_right]
      exact h2
theorem behB_Sm {B : Bx} {s p w n : Nat} (h : ∀ q, q < n → plB B s p w q < 4) : behB B s p w n = Sm (plB B s p w) n := by
  induction n with
  | zero => rfl
  | succ n ih =>
    simp only [behB, Sm]
    rw [ih (fun q hq => h q (by omega))]
    have h1 : Sm (plB B s p w) n < 2 ^ (2 * n) := by rw [two4]; exact Sm_lt (fun q hq => h q (by omega))
    rw [← two4, Nat.mul_comm (plB B s p w n), Nat.or_comm, ← Nat.two_pow_add_eq_or_of_lt h1]
    omega
theorem plB_lt {B : Bx} {s p w q : Nat} (h : w = 1 → pl s p < 3) : plB B s p w q < 4 := by
  have := pl_lt s q
  unfold plB
  split
  · next e =>
    split
    · next e1 => have := h e1; rw [e]; omega
    · omega
  · split <;> omega
/-! may, behind, and what is asked now: the model -/
def plcB (B : Bx) (s p w : Nat) : Bool := if w = 0 then decide (0 < pl s p) else decide (pl s p < B.dp p)
def asRB (B : Bx) (p w : Nat) : Bool := decide (B.kd p = 2) || (decide (B.kd p = 4) && decide (w = 1))
def alB (B : Bx) (s f p w : Nat) : Nat → Bool
  | 0 => plcB B s p w
  | n + 1 => alB B s f p w n && letsB B s f p w n
theorem alB_iff {B : Bx} {s f p w n : Nat} : alB B s f p w n = true ↔ plcB B s p w = true ∧ ∀ l, l < n → letsB B s f p w l = true := by
  induction n with
  | zero => simp [alB]
  | succ n ih =>
    simp only [alB, Bool.and_eq_true, ih]
    constructor
    · rintro ⟨⟨h1, h2⟩, h3⟩
      refine ⟨h1, fun l hl => ?_⟩
      by_cases e : l = n
      · rw [e]; exact h3
      · exact h2 l (by omega)
    · rintro ⟨h1, h2⟩
      exact ⟨⟨h1, fun l hl => h2 l (by omega)⟩, h2 n (by omega)⟩
theorem alB_mono {B : Bx} {s f p w n m : Nat} (h : n ≤ m) (h2 : alB B s f p w n = false) : alB B s f p w m = false := by
  cases e : alB B s f p w m with
  | false => rfl
  | true =>
    rw [alB_iff] at e
    have : alB B s f p w n = true := alB_iff.mpr ⟨e.1, fun l hl => e.2 l (by omega)⟩
    rw [this] at h2; cases h2
theorem may_al {B : Bx} {s f p w : Nat} : mayB B s f p w = (alB B s f p w B.ln && (!asRB B p w || ringL s p)) := by
  rw [Bool.eq_iff_iff]
  have e : (∀ l, l < B.ln → con B l p w = true → met B l s = false → f.testBit l = true) ↔ ∀ l, l < B.ln → letsB B s f p w l = true := by
    constructor
    · intro h l hl
      have := h l hl
      unfold letsB
      revert this
      generalize con B l p w = x
      generalize met B l s = y
      generalize f.testBit l = z
      cases x <;> cases y <;> cases z <;> simp
    · intro h l hl h1 h2
      have := h l hl
      unfold letsB at this
      rw [h1, h2] at this
      simpa using this
  simp only [mayB, fitsB, Bool.and_eq_true, alB_iff, decide_eq_true_eq, plcB, asRB, e]
  constructor
  · rintro ⟨⟨h1, h2⟩, h3⟩; exact ⟨⟨h1, h3⟩, h2⟩
  · rintro ⟨⟨h1, h3⟩, h2⟩; exact ⟨⟨h1, h2⟩, h3⟩
section MODEL2
variable {d : Nat} {B : Bx} {I : I2} {J : J2} {F : Int32 → I2 → J2 → Prop} {s f p w l : Nat}
theorem l_Md_may (hd : 3 ≤ d) (hw : WFB B) (hB : BoxM B I) (hs : s < 2 ^ 31) (hp : p < B.pn) (hf : f < 64) (hww : w < 2) (h : F (bI (mayB B s f p w)) I J) : ∀ k n, n + k = B.ln → Wp d Md_may (QI F) 43 [some (.ref 57), some (.int (nI s)), some (.int (nI p)), some (.int (nI w)), some (.int (nI f)), some (.int (bI (alB B s f p w n))), some (.int (nI n))] [] I J := by
  have hl6 := hw.2.1
  have hp5 := hw.1
  have k1 := (hw.2.2.1 p hp).1
  have t0 : mayB B s f p w = false → QI F (some (.int 0)) I J := fun e => QI_i.mpr (by rw [e] at h; exact h)
  have t1 : mayB B s f p w = true → QI F (some (.int 1)) I J := fun e => QI_i.mpr (by rw [e] at h; exact h)
  have ek2 : nI (B.kd p) = 2 ↔ B.kd p = 2 := n_eq (b := 2) (by omega) (by omega)
  have ek4 : nI (B.kd p) = 4 ↔ B.kd p = 4 := n_eq (b := 4) (by omega) (by omega)
  have ew1 : nI w = 1 ↔ w = 1 := n_eq (b := 1) (by omega) (by omega)
  intro k
  induction k with
  | zero =>
    intro n hn
    have hn : n = B.ln := by omega
    subst hn
    refine v_Md_may_57_43 ⟨fun q => ?_, fun _ => c_Md_kind (by omega) hw hB hp ?_⟩
    · rw [hB.2.1] at q; exact absurd ((n_lt (by omega) (by omega)).mp q) (Nat.lt_irrefl _)
    have ring : asRB B p w = true → alB B s f p w B.ln = true → CI d Md_isRing [.int (nI s), .int (nI p)] I J (fun v2 I2 J2 => (v2 = 0 → QI F (some (.int 0)) I2 J2) ∧ (¬ (v2 = 0) → QI F (some (.int 1)) I2 J2)) := by
      intro e1 e2
      have e3 : mayB B s f p w = ringL s p := by rw [may_al, e1, e2]; simp
      rw [e3] at t0 t1
      refine c_Md_isRing (by omega) hs (by omega) ?_
      cases hr : ringL s p
      · exact ⟨fun _ => t0 hr, fun z => absurd rfl z⟩
      · exact ⟨fun z => absurd z (by decide), fun _ => t1 hr⟩
    have no : alB B s f p w B.ln = false → mayB B s f p w = false := fun e => by rw [may_al, e]; rfl
    have yes : asRB B p w = false → alB B s f p w B.ln = true → mayB B s f p w = true := fun e1 e2 => by rw [may_al, e1, e2]; rfl
    rw [bI_0, ek2, ew1]
    refine ⟨fun h2 => ⟨fun e => t0 (no e), fun e => ring (by simp [asRB, h2]) (by simpa using e)⟩, fun h2 => c_Md_kind (by omega) hw hB hp ?_⟩
    rw [ek4]
    refine ⟨fun h4 => ⟨fun h1 => ⟨fun e => t0 (no e), fun e => ring (by simp [asRB, h4, h1]) (by simpa using e)⟩, fun h1 => ⟨fun e => t0 (no e), fun e => t1 (yes (by simp [asRB, h2, h1]) (by simpa using e))⟩⟩, fun h4 => ⟨fun e => t0 (no e), fun e => t1 (yes (by simp [asRB, h2, h4]) (by simpa using e))⟩⟩
  | succ k ih =>
    intro n hn
    have hlt : n < B.ln := by omega
    have go := ih (n + 1) (by omega)
    refine v_Md_may_57_43 ⟨fun _ => ?_, fun q => absurd ((n_lt (by omega) (by omega)).mpr hlt) (by rw [hB.2.1] at q; exact q)⟩
    rw [bI_0]
    refine ⟨fun e => c_Md_kind (by omega) hw hB hp ?_, fun e => c_Md_lets (by omega) hw hB hlt hs (by omega) hww hf ?_⟩
    · have z := t0 (by rw [may_al, alB_mono (by omega) e]; rfl)
      exact ⟨fun _ => z, fun _ => c_Md_kind (by omega) hw hB hp ⟨fun _ => ⟨fun _ => z, fun _ => z⟩, fun _ => z⟩⟩
    · have e : alB B s f p w n = true := by simpa using e
      rw [n_inc]
      have e2 : alB B s f p w (n + 1) = letsB B s f p w n := by simp [alB, e]
      rw [e2] at go
      exact go
theorem c_Md_may (hd : 4 ≤ d) (hw : WFB B) (hB : BoxM B I) (hs : s < 2 ^ 31) (hp : p < B.pn) (hf : f < 64) (hww : w < 2) (h : F (bI (mayB B s f p w)) I J) : CI d Md_may [.ref 57, .int (nI s), .int (nI p), .int (nI w), .int (nI f)] I J F := by
  have hp5 := hw.1
  have k2 := (hw.2.2.1 p hp).2
  have hpl := pl_lt s p
  have L := l_Md_may (d := d - 1) (by omega) hw hB hs hp hf hww h B.ln 0 (by omega)
  have m1 : alB B s f p w 0 = true → Wp (d - 1) Md_may (QI F) 43 [some (.ref 57), some (.int (nI s)), some (.int (nI p)), some (.int (nI w)), some (.int (nI f)), some (.int 1), some (.int 0)] [] I J := fun e => by rw [e] at L; exact L
  have m0 : alB B s f p w 0 = false → Wp (d - 1) Md_may (QI F) 43 [some (.ref 57), some (.int (nI s)), some (.int (nI p)), some (.int (nI w)), some (.int (nI f)), some (.int 0), some (.int 0)] [] I J := fun e => by rw [e] at L; exact L
  refine CI.of (by omega) rfl (v_Md_may_57_0 ?_)
  rw [n_e0 (by omega)]
  refine ⟨fun h0 => c_Md_placeIn (by omega) hs (by omega) ?_, fun h0 => c_Md_placeIn (by omega) hs (by omega) (c_Md_deep (by omega) hw hB hp ?_)⟩
  · rw [n_p0 (by omega)]
    exact ⟨fun h1 => m1 (by simp [alB, plcB, h0, h1]), fun h1 => m0 (by simp [alB, plcB, h0, h1])⟩
  · rw [n_lt (by omega) (by omega)]
    exact ⟨fun h1 => m1 (by simp [alB, plcB, h0, h1]), fun h1 => m0 (by simp [alB, plcB, h0]; omega)⟩
theorem c_Md_mayNow (hd : 5 ≤ d) (hw : WFB B) (hB : BoxM B I) (h5 : I 58 5 = nI s) (h3 : I 58 3 = nI f) (hs : s < 2 ^ 31) (hp : p < B.pn) (hf : f < 64) (hww : w < 2) (h : F (bI (mayB B s f p w)) I J) : CI d Md_mayNow [.ref 57, .int (nI p), .int (nI w)] I J F := by
  refine CI.of (by omega) rfl (v_Md_mayNow_57_0 ?_)
  rw [h5, h3]
  refine c_Md_may (by omega) hw hB hs hp hf hww ?_
  cases e : mayB B s f p w
  · rw [e] at h; exact ⟨fun _ => QI_i.mpr h, fun z => absurd rfl z⟩
  · rw [e] at h; exact ⟨fun z => absurd z (by decide), fun _ => QI_i.mpr h⟩
theorem c_Md_isOpen {o : Nat} (hd : 2 ≤ d) (hw : WFB B) (hB : BoxM B I) (ho : I 58 2 = nI o) (hop : B.pn = 0 ∧ o = 0 ∨ o < B.pn) (hs : s < 2 ^ 31) (h : F (bI (decide (0 < B.pn) && decide (pl s o = B.dp o))) I J) : CI d Md_isOpen [.ref 57, .int (nI s)] I J F := by
  have hp5 := hw.1
  refine CI.of (by omega) rfl (v_Md_isOpen_57_0 ?_)
  rw [hB.1, n_p0 (by omega)]
  refine ⟨fun h1 => ?_, fun h1 => QI_i.mpr (by simpa [h1, bI] using h)⟩
  have h2 : o < B.pn := by omega
  have hpl := pl_lt s o
  have hdp := (hw.2.2.1 o h2).2
  rw [ho]
  refine c_Md_placeIn (by omega) hs (by omega) ?_
  rw [ho]
  refine c_Md_deep (by omega) hw hB h2 ?_
  rw [n_eq (by omega) (by omega)]
  exact ⟨fun h3 => QI_i.mpr (by simpa [h1, h3, bI] using h), fun h3 => QI_i.mpr (by simpa [h1, h3, bI] using h)⟩
/-- the sum, the first n panels done -/
def plM (B : Bx) (s p w n q : Nat) : Nat := if q < n then plB B s p w q else if q = p then (if w = 1 then pl s q + 1 else pl s q - 1) else pl s q
theorem l_Md_behind (hd : 1 ≤ d) (hw : WFB B) (hB : BoxM B I) (hs : s < 2 ^ 31) (hp : p < B.pn) (hww : w < 2) (hm : w = 1 → pl s p < 3) (h : F (nI (behB B s p w B.pn)) I J) : ∀ k n, n + k = B.pn → Wp d Md_behind (QI F) 22 [some (.ref 57), some (.int (nI s)), some (.int (nI p)), some (.int (nI w)), some (.int (nI (Sm (plM B s p w n) B.pn))), some (.int (nI n)), none, none] [] I J := by
  have hpn := hw.1
  intro k
  induction k with
  | zero =>
    intro n hn
    have hn : n = B.pn := by omega
    subst hn
    refine v_Md_behind_57_22 ⟨fun q => ?_, fun _ => QI_i.mpr ?_⟩
    · rw [hB.1] at q; exact absurd ((n_lt (by omega) (by omega)).mp q) (Nat.lt_irrefl _)
    · rw [behB_Sm (fun q _ => plB_lt hm)] at h
      rw [Sm_congr (g := plM B s p w B.pn) (g' := plB B s p w) (fun q hq => by simp [plM, hq])]
      exact h
  | succ k ih =>
    intro n hn
    have hlt : n < B.pn := by omega
    have go := ih (n + 1) (by omega)
    have hpl := pl_lt s n
    obtain ⟨z1, z2, z3⟩ := hw.2.2.1 n hlt
    have same : ∀ q, q ≠ n → plM B s p w n q = plM B s p w (n + 1) q := by
      intro q hq
      unfold plM
      by_cases a : q < n
      · rw [if_pos a, if_pos (show q < n + 1 by omega)]
      · rw [if_neg a, if_neg (show ¬ q < n + 1 by omega)]
    have e1 : plM B s p w (n + 1) n = plB B s p w n := by simp [plM]
    have keep : (¬ n = p → slips B n (pl s n) = false) → Wp d Md_behind (QI F) 22 [some (.ref 57), some (.int (nI s)), some (.int (nI p)), some (.int (nI w)), some (.int (nI (Sm (plM B s p w n) B.pn) - 0)), some (.int (nI n + 1)), none, none] [] I J := by
      intro e
      have e2 : plM B s p w n n = plB B s p w n := by
        unfold plM plB
        rw [if_neg (Nat.lt_irrefl n)]
        by_cases q : n = p
        · rw [if_pos q, if_pos q]
        · rw [if_neg q, if_neg q, e q]; rfl
      have e3 : Sm (plM B s p w n) B.pn = Sm (plM B s p w (n + 1)) B.pn := Sm_congr (fun q _ => by
        by_cases e4 : q = n
        · rw [e4, e1, e2]
        · exact same q e4)
      rw [n_inc, Int32.sub_zero, e3]
      exact go
    have less : ¬ n = p → slips B n (pl s n) = true → Wp d Md_behind (QI F) 22 [some (.ref 57), some (.int (nI s)), some (.int (nI p)), some (.int (nI w)), some (.int (nI (Sm (plM B s p w n) B.pn) - slI 1 (2 * nI n))), some (.int (nI n + 1)), none, none] [] I J := by
      intro q e
      have hpos : 0 < pl s n := by simp [slips] at e; exact e.1
      have e2 : plM B s p w n n = pl s n := by simp [plM, q]
      have e5 : plB B s p w n = pl s n - 1 := by simp [plB, q, e]
      have hu := Sm_upd (g := plM B s p w n) (g' := plM B s p w (n + 1)) hlt same
      rw [e1, e2, e5] at hu
      have e6 : pl s n * 4 ^ n = (pl s n - 1) * 4 ^ n + 4 ^ n := by
        obtain ⟨z, hz⟩ : ∃ z, pl s n = z + 1 := ⟨pl s n - 1, by omega⟩
        rw [hz, Nat.add_sub_cancel, Nat.succ_mul]
      have e7 : Sm (plM B s p w n) B.pn = Sm (plM B s p w (n + 1)) B.pn + 4 ^ n := by omega
      have e8 : slI 1 (2 * nI n) = nI (4 ^ n) := by
        rw [show (2 : Int32) * nI n = nI (2 * n) from pk_mul 2 n]
        have hb : 2 ^ (2 * n) ≤ 2 ^ 14 := Nat.pow_le_pow_right (by decide) (by omega)
        have := n_sl (a := 1) (k := 2 * n) (by omega) (by omega)
        rw [Nat.one_mul, two4] at this
        exact this
      rw [n_inc, e8, e7, pk_sub (by omega), Nat.add_sub_cancel]
      exact go
    have ek1 : nI (B.kd n) = 1 ↔ B.kd n = 1 := n_eq (b := 1) (by omega) (by omega)
    have ek3 : nI (B.kd n) = 3 ↔ B.kd n = 3 := n_eq (b := 3) (by omega) (by omega)
    have enp : nI n = nI p ↔ n = p := n_eq (by omega) (by omega)
    refine v_Md_behind_57_22 ⟨fun _ => c_Md_placeIn (by omega) hs (by omega) (c_Md_kind (by omega) hw hB hlt ?_), fun q => absurd ((n_lt (by omega) (by omega)).mpr hlt) (by rw [hB.1] at q; exact q)⟩
    rw [ek1, enp, n_p0 (by omega)]
    refine ⟨fun h1 => ⟨fun h2 => keep (fun q => absurd h2 q), fun h2 => ⟨fun h3 => less h2 (by simp [slips, h1, h3]), fun h3 => keep (fun _ => by simp [slips, h3])⟩⟩, fun h1 => c_Md_kind (by omega) hw hB hlt ?_⟩
    rw [ek3]
    refine ⟨fun h3 => c_Md_deep (by omega) hw hB hlt ?_, fun h3 => ⟨fun h2 => keep (fun q => absurd h2 q), fun h2 => keep (fun _ => by simp [slips, h1, h3])⟩⟩
    rw [n_lt (by omega) (by omega)]
    exact ⟨fun h4 => ⟨fun h2 => keep (fun q => absurd h2 q), fun h2 => ⟨fun h5 => less h2 (by simp [slips, h3, h4, h5]), fun h5 => keep (fun _ => by simp [slips, h5])⟩⟩, fun h4 => ⟨fun h2 => keep (fun q => absurd h2 q), fun h2 => keep (fun _ => by simp [slips, h1, h4])⟩⟩
theorem c_Md_behind (hd : 2 ≤ d) (hw : WFB B) (hB : BoxM B I) (hs : s < 4 ^ B.pn) (hp : p < B.pn) (hww : w < 2) (hm : w = 1 → pl s p < 3) (hm0 : w = 0 → 0 < pl s p) (h : F (nI (behB B s p w B.pn)) I J) : CI d Md_behind [.ref 57, .int (nI s), .int (nI p), .int (nI w)] I J F := by
  have hpn := hw.1
  have hb : 4 ^ B.pn ≤ 4 ^ 5 := Nat.pow_le_pow_right (by decide) hpn
  have hs31 : s < 2 ^ 31 := by omega
  have hbp : 4 ^ p ≤ 4 ^ 5 := Nat.pow_le_pow_right (by decide) (by omega)
  have L := l_Md_behind (d := d - 1) (by omega) hw hB hs31 hp hww hm h B.pn 0 (by omega)
  have es : Sm (pl s) B.pn = s := by rw [Sm_pl, Nat.mod_eq_of_lt hs]
  have hu := Sm_upd (g := plM B s p w 0) (g' := pl s) hp (fun q hq => by simp [plM, hq])
  rw [es] at hu
  have e8 : slI 1 (2 * nI p) = nI (4 ^ p) := by
    rw [show (2 : Int32) * nI p = nI (2 * p) from pk_mul 2 p]
    have hb : 2 ^ (2 * p) ≤ 2 ^ 14 := Nat.pow_le_pow_right (by decide) (by omega)
    have := n_sl (a := 1) (k := 2 * p) (by omega) (by omega)
    rw [Nat.one_mul, two4] at this
    exact this
  refine CI.of (by omega) rfl (v_Md_behind_57_0 ?_)
  rw [n_e0 (by omega), e8]
  refine ⟨fun h0 => ?_, fun h0 => ?_⟩
  · have hpos := hm0 h0
    have e2 : plM B s p w 0 p = pl s p - 1 := by simp [plM, h0]
    rw [e2] at hu
    have e6 : pl s p * 4 ^ p = (pl s p - 1) * 4 ^ p + 4 ^ p := by
      obtain ⟨z, hz⟩ : ∃ z, pl s p = z + 1 := ⟨pl s p - 1, by omega⟩
      rw [hz, Nat.add_sub_cancel, Nat.succ_mul]
    have e7 : s = Sm (plM B s p w 0) B.pn + 4 ^ p := by omega
    have e9 : nI s + (-1) * nI (4 ^ p) = nI (Sm (plM B s p w 0) B.pn) := by
      rw [Int32.neg_mul, Int32.one_mul, ← Int32.sub_eq_add_neg, e7]
      rw [pk_sub (by omega), Nat.add_sub_cancel, ← e7]
    rw [e9]
    exact L
  · have hw1 : w = 1 := by omega
    have e2 : plM B s p w 0 p = pl s p + 1 := by simp [plM, hw1]
    rw [e2] at hu
    have e6 : (pl s p + 1) * 4 ^ p = pl s p * 4 ^ p + 4 ^ p := Nat.succ_mul _ _
    have e7 : Sm (plM B s p w 0) B.pn = s + 4 ^ p := by omega
    have e9 : nI s + 1 * nI (4 ^ p) = nI (Sm (plM B s p w 0) B.pn) := by
      rw [Int32.one_mul, nI_add, e7]
    rw [e9]
    exact L
end MODEL2
