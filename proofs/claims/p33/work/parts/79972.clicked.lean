/-! CLICKED: pure -/
section CKP
variable {V V0 : Bv} {S : Nat → Shv}
/-- which slide a draw of the script tells -/
def mkN_z (c pn k : Nat) : Nat := c / 2 ^ (3 + 2 * k) % 16 % (2 * pn)
theorem mkN_lt_z {c pn k : Nat} (h : 0 < pn) : mkN_z c pn k < 2 * pn := Nat.mod_lt _ (by omega)
theorem mk_e_z {c pn k : Nat} (hc : c < 2 ^ 31) (hk : k < 8) (h0 : 0 < pn) (hp : pn ≤ 5) : rmI ((srI (nI c) (3 + 2 * nI k)) &&& 15) (2 * nI pn) = nI (mkN_z c pn k) := by
  have hlt : c / 2 ^ (3 + 2 * k) < 2 ^ 31 := Nat.lt_of_le_of_lt (Nat.div_le_self _ _) hc
  rw [i_2_z, i_2_z, show (3 : Int32) + nI (2 * k) = nI (3 + 2 * k) from nI_add 3 (2 * k), n_sr hc (by omega), show nI (c / 2 ^ (3 + 2 * k)) &&& 15 = nI (c / 2 ^ (3 + 2 * k) % 16) from pk_andN (by omega) 4 (by decide +kernel), n_rm (by omega) (by omega) (by omega)]
  rfl
/-- where it is, k slides on -/
def ckS_z (B : Bx) (f : Nat) (m : Nat → Nat) (s : Nat) : Nat → Nat
  | 0 => s
  | k + 1 => if mayB B (ckS_z B f m s k) f (m k / 2) (m k % 2) = true then behB B (ckS_z B f m s k) (m k / 2) (m k % 2) B.pn else ckS_z B f m s k
/-- whether the slide was done -/
def ckD_z (B : Bx) (f : Nat) (m : Nat → Nat) (s k : Nat) : Bool := mayB B (ckS_z B f m s k) f (m k / 2) (m k % 2)
def ckG_z (B : Bx) (f : Nat) (m : Nat → Nat) (s : Nat) (g : Nat → Int64) (n : Nat) : Prop := ∀ k, k < n → g (2 * k) = lN (slN (m k)) ∧ g (2 * k + 1) = lN (ckD_z B f m s k).toNat
theorem sl_d_z {m : Nat} : slN m / 10 = m / 2 ∧ slN m % 10 = m % 2 := by unfold slN; omega
theorem mv_at_z {g : Nat → Int64} {k m : Nat} (h : g (2 * k) = lN (slN m)) (hm : m < 10) : mvN g 0 k = slN m := by
  unfold mvN
  rw [Nat.zero_add, h, lN_i, n_tN (by unfold slN; omega)]
theorem l1_eq_z (b : Bool) : decide (lN b.toNat = 1) = b := by cases b <;> decide +kernel
theorem l1_if_z {α : Type} (b : Bool) (x y : α) : (if lN b.toNat = 1 then x else y) = if b = true then x else y := by
  cases b
  · rw [if_neg (by decide +kernel), if_neg (by decide)]
  · rw [if_pos (by decide +kernel), if_pos rfl]
theorem clk_yes_z {B : Bx} {f s n : Nat} {m : Nat → Nat} {g : Nat → Int64} (hm : ∀ k, m k < 10) (hg : ckG_z B f m s g n) : ∀ r k, k + r = n → clkN B f g 0 r k (ckS_z B f m s k) = true := by
  intro r
  induction r with
  | zero => intro k _; rfl
  | succ r ih =>
    intro k hk
    obtain ⟨g1, g2⟩ := hg k (by omega)
    simp only [clkN]
    rw [mv_at_z g1 (hm k), sl_d_z.1, sl_d_z.2, Nat.zero_add, g2, l1_eq_z, if_pos (show mayB B (ckS_z B f m s k) f (m k / 2) (m k % 2) = ckD_z B f m s k from rfl)]
    have := ih (k + 1) (by omega)
    simp only [ckS_z] at this
    rw [l1_if_z]
    exact this
theorem clk_no_z {B : Bx} {f s n at' : Nat} {m : Nat → Nat} {g g' : Nat → Int64} (hm : ∀ k, m k < 10) (hg : ckG_z B f m s g n) (hat : at' < n) (h1 : ∀ j, j ≠ 2 * at' + 1 → g' j = g j) (h2 : g' (2 * at' + 1) = lN (!ckD_z B f m s at').toNat) : ∀ r k, k + r = n → k ≤ at' → clkN B f g' 0 r k (ckS_z B f m s k) = false := by
  intro r
  induction r with
  | zero => intro k hk hk2; omega
  | succ r ih =>
    intro k hk hk2
    obtain ⟨g1, g2⟩ := hg k (by omega)
    simp only [clkN]
    rw [mv_at_z (by rw [h1 _ (by omega)]; exact g1) (hm k), sl_d_z.1, sl_d_z.2, Nat.zero_add]
    by_cases e : k = at'
    · subst e
      rw [h2, l1_eq_z, if_neg]
      intro q
      change ckD_z B f m s k = _ at q
      cases z : ckD_z B f m s k <;> rw [z] at q <;> cases q
    · rw [h1 _ (by omega), g2, l1_eq_z, if_pos (show mayB B (ckS_z B f m s k) f (m k / 2) (m k % 2) = ckD_z B f m s k from rfl)]
      have := ih (k + 1) (by omega) (by omega)
      simp only [ckS_z] at this
      rw [l1_if_z]
      exact this
theorem clk_less_z {B : Bx} {f : Nat} {g : Nat → Int64} {i : Nat} : ∀ r k s, clkN B f g i (r + 1) k s = true → clkN B f g i r k s = true := by
  intro r
  induction r with
  | zero => intro k s _; rfl
  | succ r ih =>
    intro k s h
    simp only [clkN] at h ⊢
    split at h
    · next e => rw [if_pos e]; exact ih _ _ (by simp only [clkN]; exact h)
    · cases h
theorem setK_same_z (B : Bx) (p : Nat) : B.setK p (B.kd p) = B := by
  unfold Bx.setK
  have e : updN B.kd p (B.kd p) = B.kd := by
    funext q
    unfold updN
    split
    · next e => rw [e]
    · rfl
  rw [e]
theorem kd_bit_z {g : Nat → Int64} {i n x : Nat} (j : Nat) : ∀ k, (kdS V g i n x k).testBit j = (decide (j < k) && clkN (V.B.setK x j) V.f g i n 0 V.s) := by
  intro k
  induction k with
  | zero => simp [kdS]
  | succ k ih =>
    simp only [kdS]
    rw [Nat.testBit_or, ih]
    by_cases e : j = k
    · subst e
      cases z : clkN (V.B.setK x j) V.f g i n 0 V.s <;> simp [z]
    · have : ((if clkN (V.B.setK x k) V.f g i n 0 V.s then 2 ^ k else 0) : Nat).testBit j = false := by
        split
        · rw [Nat.testBit_two_pow]; simp; omega
        · simp
      rw [this, Bool.or_false]
      congr 1
      by_cases z : j < k
      · rw [decide_eq_true z, decide_eq_true (by omega)]
      · rw [decide_eq_false z, decide_eq_false (by omega)]
theorem kd_lt_z {g : Nat → Int64} {i n x : Nat} : kdS V g i n x 5 < 32 := by
  refine Nat.lt_pow_two_of_testBit (n := 5) _ (fun j hj => ?_)
  rw [kd_bit_z, decide_eq_false (by omega), Bool.false_and]
theorem kd_sub_z {g : Nat → Int64} {i n x : Nat} : kdS V g i n x 5 &&& kdS V g i (n + 1) x 5 = kdS V g i (n + 1) x 5 := by
  apply Nat.eq_of_testBit_eq
  intro j
  rw [Nat.testBit_and, kd_bit_z, kd_bit_z]
  cases e : clkN (V.B.setK x j) V.f g i (n + 1) 0 V.s with
  | false => simp
  | true => rw [clk_less_z _ _ _ e]; simp
theorem kd_own_z {g : Nat → Int64} {i n x : Nat} (hk : V.B.kd x < 5) (h : clkN V.B V.f g i n 0 V.s = true) : kdS V g i n x 5 / 2 ^ V.B.kd x % 2 = 1 := by
  have := kd_bit_z (V := V) (g := g) (i := i) (n := n) (x := x) (V.B.kd x) 5
  rw [setK_same_z, h, decide_eq_true hk, Nat.testBit_eq_decide_div_mod_eq] at this
  simpa using this
theorem lk_split_z {g : Nat → Int64} {i n : Nat} : ∀ l, ∃ r, r < 2 ^ l ∧ lkS V g i n l = (if clkN V.B V.f g i n 0 V.s then 64 else 0) ||| r := by
  intro l
  induction l with
  | zero => exact ⟨0, by decide, by simp [lkS]⟩
  | succ l ih =>
    obtain ⟨r, h1, h2⟩ := ih
    refine ⟨r ||| (if clkN V.B (V.f ^^^ 2 ^ l) g i n 0 V.s then 2 ^ l else 0), Nat.or_lt_two_pow (by rw [Nat.pow_succ]; omega) ?_, ?_⟩
    · split
      · exact Nat.pow_lt_pow_right (by decide) (by omega)
      · exact Nat.pow_pos (by decide)
    · simp only [lkS]; rw [h2, Nat.or_assoc]
theorem lk_yes_z {g : Nat → Int64} {i n l : Nat} (hl : l ≤ 6) (h : clkN V.B V.f g i n 0 V.s = true) : lkS V g i n l &&& 64 = 64 ∧ lkS V g i n l < 64 + 2 ^ l ∧ lkS V g i n l < 128 := by
  obtain ⟨r, h1, h2⟩ := lk_split_z (V := V) (g := g) (i := i) (n := n) l
  have h6 : r < 64 := Nat.lt_of_lt_of_le h1 (Nat.pow_le_pow_right (n := 2) (by decide) hl)
  rw [h, if_pos rfl] at h2
  have z : ∀ r, r < 64 → (64 ||| r) &&& 64 = 64 ∧ 64 ||| r = 64 + r := by decide +kernel
  obtain ⟨z1, z2⟩ := z r h6
  rw [h2]
  exact ⟨z1, by omega, by omega⟩
theorem lk_no_z {g : Nat → Int64} {i n l : Nat} (hl : l ≤ 6) (h : clkN V.B V.f g i n 0 V.s = false) : lkS V g i n l &&& 64 = 0 := by
  obtain ⟨r, h1, h2⟩ := lk_split_z (V := V) (g := g) (i := i) (n := n) l
  have h6 : r < 64 := Nat.lt_of_lt_of_le h1 (Nat.pow_le_pow_right (n := 2) (by decide) hl)
  rw [h2, h]
  exact (by decide +kernel : ∀ r, r < 64 → ((if false = true then 64 else 0) ||| r) &&& 64 = 0) r h6
theorem okPr_m_z : ∀ pn, pn < 6 → ∀ m, m < 10 → m < 2 * pn → okPr pn (lN (slN m)) (lN 0) = true ∧ okPr pn (lN (slN m)) (lN 1) = true := by decide +kernel
theorem clkO_yes_z {g : Nat → Int64} {pn : Nat} (hp : pn ≤ 5) : ∀ n, (∀ k, k < n → ∃ m b, m < 2 * pn ∧ g (2 * k) = lN (slN m) ∧ g (2 * k + 1) = lN (Bool.toNat b)) → clkO g 0 pn n = true := by
  intro n
  induction n with
  | zero => intro _; rfl
  | succ n ih =>
    intro h
    simp only [clkO]
    rw [ih (fun k hk => h k (by omega)), Bool.true_and, Nat.zero_add]
    obtain ⟨m, b, h1, h2, h3⟩ := h n (by omega)
    obtain ⟨o1, o2⟩ := okPr_m_z pn (by omega) m (by omega) h1
    rw [h2, h3]
    cases b
    · exact o1
    · exact o2
theorem clicksF_1_z {n : Nat} {g : Nat → Int64} (hw : WFV V) (hS : S 3 = some (1, 16, g)) (h1 : 1 ≤ n) (h8 : n ≤ 8) (hok : clkO g 0 V.B.pn n = true) : clicksF V S (-4) 3 1 0 (nI n) = nI (lkS V g 0 n V.B.ln) ∧ ∀ p, p < V.B.pn → clicksF V S (nI p) 3 1 0 (nI n) = nI (kdS V g 0 n p 5) := by
  have hp5 := hw.1.1
  have e3 : tN (3 : Int32) = 3 := by decide +kernel
  have e0 : tN (0 : Int32) = 0 := by decide +kernel
  have ef : faultS (S 3) 1 0 (2 * nI n) = 0 := by rw [hS, i_2_z]; exact fault_1_z (y := 1) (i := 0) (by omega) (by decide)
  have hn1 : ¬ nI n < 1 := fun q => by have := (n_lt (b := 1) (show n < 2 ^ 31 by omega) (by decide)).mp q; omega
  have hn8 : ¬ 8 < nI n := fun q => by have := (n_lt (a := 8) (by decide) (show n < 2 ^ 31 by omega)).mp q; omega
  have i3 : inN (3 : Int32) 4 := in4_z (x := 3) (by decide)
  have i1 : inN (1 : Int32) 4 := in4_z (x := 1) (by decide)
  have ei : itm (S 3) = g := by rw [hS]; rfl
  refine ⟨?_, fun p hp => ?_⟩
  · unfold clicksF
    rw [if_neg, e3, if_pos ef, ei, e0, n_tN (show n < 2 ^ 31 by omega), if_pos hok, if_pos rfl]
    rintro (q | q | q | q | q)
    · exact q.1 rfl
    · exact q i3
    · exact q i1
    · exact hn1 q
    · exact hn8 q
  · have hp4 : ¬ nI p = -4 := (by decide +kernel : ∀ a, a < 5 → ¬ nI a = -4) p (by omega)
    unfold clicksF
    rw [if_neg, e3, if_pos ef, ei, e0, n_tN (show n < 2 ^ 31 by omega), if_pos hok, if_neg hp4, n_tN (show p < 2 ^ 31 by omega)]
    rintro (q | q | q | q | q)
    · exact q.2 (in_nI hp (by omega))
    · exact q i3
    · exact q i1
    · exact hn1 q
    · exact hn8 q
theorem narL_64_z : ∀ a, a < 64 → narL 1 (lN a) = lN a := by decide +kernel
end CKP
