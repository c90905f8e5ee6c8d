/-! sums of places -/
def Sm (g : Nat → Nat) : Nat → Nat
  | 0 => 0
  | n + 1 => Sm g n + g n * 4 ^ n
theorem Sm_congr {g g' : Nat → Nat} {n : Nat} (h : ∀ q, q < n → g q = g' q) : Sm g n = Sm g' n := by
  induction n with
  | zero => rfl
  | succ n ih => simp only [Sm]; rw [ih (fun q hq => h q (by omega)), h n (by omega)]
theorem Sm_upd {g g' : Nat → Nat} {n : Nat} : ∀ {N : Nat}, n < N → (∀ q, q ≠ n → g q = g' q) → Sm g N + g' n * 4 ^ n = Sm g' N + g n * 4 ^ n := by
  intro N
  induction N with
  | zero => intro h; omega
  | succ N ih =>
    intro h heq
    simp only [Sm]
    by_cases e : n = N
    · subst e
      rw [Sm_congr (g := g) (g' := g') (fun q hq => heq q (by omega))]
      omega
    · have := ih (by omega) heq
      rw [heq N (fun q => e q.symm)]
      omega
theorem Sm_lt {g : Nat → Nat} {n : Nat} (h : ∀ q, q < n → g q < 4) : Sm g n < 4 ^ n := by
  induction n with
  | zero => show (0 : Nat) < 1; decide
  | succ n ih =>
    simp only [Sm]
    have h1 := ih (fun q hq => h q (by omega))
    have h2 := h n (by omega)
    have h3 : g n * 4 ^ n ≤ 3 * 4 ^ n := Nat.mul_le_mul_right _ (by omega)
    rw [Nat.pow_succ]; omega
theorem Sm_pl (s n : Nat) : Sm (pl s) n = s % 4 ^ n := by
  induction n with
  | zero => simp [Sm, Nat.mod_one]
  | succ n ih =>
    simp only [Sm]
    rw [ih, Nat.pow_succ, Nat.mod_mul]
    simp only [pl]
    rw [Nat.mul_comm (4 ^ n)]
theorem pl_Sm {g : Nat → Nat} {n q : Nat} (h : ∀ q, q < n → g q < 4) (hq : q < n) : pl (Sm g n) q = g q := by
  induction n with
  | zero => omega
  | succ n ih =>
    simp only [Sm, pl]
    have h1 : Sm g n < 4 ^ n := Sm_lt (fun q hq => h q (by omega))
    by_cases e : q = n
    · subst e
      rw [Nat.add_mul_div_right _ _ (Nat.pow_pos (by decide)), Nat.div_eq_of_lt h1, Nat.zero_add, Nat.mod_eq_of_lt (h q (by omega))]
    · have hq' : q < n := by omega
      have h2 := ih (fun q hq => h q (by omega)) hq'
      simp only [pl] at h2
      obtain ⟨k, hk⟩ : ∃ k, n = q + 1 + k := ⟨n - q - 1, by omega⟩
      have e3 : g n * 4 ^ n = (g n * 4 ^ k * 4) * 4 ^ q := by
        rw [hk, Nat.pow_add, Nat.pow_add, Nat.pow_one]
        simp only [Nat.mul_assoc, Nat.mul_comm, Nat.mul_left_comm]
      rw [e3, Nat.add_mul_div_right _ _ (Nat.pow_pos (by decide)), Nat.add_mul_mod_self_right]
      exact h2
theorem behB_Sm {B : Bx} {s p w n : Nat} (h : ∀ q, q < n → plB B s p w q < 4) : behB B s p w n = Sm (plB B s p w) n := by
  induction n with
  | zero => rfl
  | succ n ih =>
    simp only [behB, Sm]
    rw [ih (fun q hq => h q (by omega))]
    have h1 : Sm (plB B s p w) n < 2 ^ (2 * n) := by rw [two4]; exact Sm_lt (fun q hq => h q (by omega))
    rw [← two4, Nat.mul_comm (plB B s p w n), Nat.or_comm, ← Nat.two_pow_add_eq_or_of_lt h1]
    omega
theorem plB_lt {B : Bx} {s p w q : Nat} (h : w = 1 → pl s p < 3) : plB B s p w q < 4 := by
  have := pl_lt s q
  unfold plB
  split
  · next e =>
    split
    · next e1 => have := h e1; rw [e]; omega
    · omega
  · split <;> omega
/-! may, behind, and what is asked now: the model -/
def plcB (B : Bx) (s p w : Nat) : Bool := if w = 0 then decide (0 < pl s p) else decide (pl s p < B.dp p)
def asRB (B : Bx) (p w : Nat) : Bool := decide (B.kd p = 2) || (decide (B.kd p = 4) && decide (w = 1))
def alB (B : Bx) (s f p w : Nat) : Nat → Bool
  | 0 => plcB B s p w
  | n + 1 => alB B s f p w n && letsB B s f p w n
theorem alB_iff {B : Bx} {s f p w n : Nat} : alB B s f p w n = true ↔ plcB B s p w = true ∧ ∀ l, l < n → letsB B s f p w l = true := by
  induction n with
  | zero => simp [alB]
  | succ n ih =>
    simp only [alB, Bool.and_eq_true, ih]
    constructor
    · rintro ⟨⟨h1, h2⟩, h3⟩
      refine ⟨h1, fun l hl => ?_⟩
      by_cases e : l = n
      · rw [e]; exact h3
      · exact h2 l (by omega)
    · rintro ⟨h1, h2⟩
      exact ⟨⟨h1, fun l hl => h2 l (by omega)⟩, h2 n (by omega)⟩
theorem alB_mono {B : Bx} {s f p w n m : Nat} (h : n ≤ m) (h2 : alB B s f p w n = false) : alB B s f p w m = false := by
  cases e : alB B s f p w m with
  | false => rfl
  | true =>
    rw [alB_iff] at e
    have : alB B s f p w n = true := alB_iff.mpr ⟨e.1, fun l hl => e.2 l (by omega)⟩
    rw [this] at h2; cases h2
theorem may_al {B : Bx} {s f p w : Nat} : mayB B s f p w = (alB B s f p w B.ln && (!asRB B p w || ringL s p)) := by
  rw [Bool.eq_iff_iff]
  have e : (∀ l, l < B.ln → con B l p w = true → met B l s = false → f.testBit l = true) ↔ ∀ l, l < B.ln → letsB B s f p w l = true := by
    constructor
    · intro h l hl
      have := h l hl
      unfold letsB
      revert this
      generalize con B l p w = x
      generalize met B l s = y
      generalize f.testBit l = z
      cases x <;> cases y <;> cases z <;> simp
    · intro h l hl h1 h2
      have := h l hl
      unfold letsB at this
      rw [h1, h2] at this
      simpa using this
  simp only [mayB, fitsB, Bool.and_eq_true, alB_iff, decide_eq_true_eq, plcB, asRB, e]
  constructor
  · rintro ⟨⟨h1, h2⟩, h3⟩; exact ⟨⟨h1, h3⟩, h2⟩
  · rintro ⟨⟨h1, h3⟩, h2⟩; exact ⟨⟨h1, h2⟩, h3⟩
section MODEL2
variable {d : Nat} {B : Bx} {I : I2} {J : J2} {F : Int32 → I2 → J2 → Prop} {s f p w l : Nat}
/-- the sum, the first n panels done -/
def plM (B : Bx) (s p w n q : Nat) : Nat := if q < n then plB B s p w q else if q = p then (if w = 1 then pl s q + 1 else pl s q - 1) else pl s q
end MODEL2
