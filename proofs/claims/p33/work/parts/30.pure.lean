/-! PURE: calls by depth, small numbers -/
theorem callW_succ : ∀ (d M : Nat) (as : List Value) (I : I2) (J : J2) (Q : Post), callW d M as I J Q → callW (d + 1) M as I J Q := by
  intro d
  induction d with
  | zero => intro M as I J Q h; exact absurd h (fun q => q)
  | succ d ih => exact fun M as I J Q h => ⟨h.1, fun X hX => h.2 X ⟨hX.1, hX.2.1, fun pc lv st I1 J1 M' as1 rest hc k => hX.2.2.1 pc lv st I1 J1 M' as1 rest hc (ih _ _ _ _ _ k), hX.2.2.2⟩⟩
theorem callW_le {d d' M : Nat} {as : List Value} {I : I2} {J : J2} {Q : Post} (h : callW d M as I J Q) (hd : d ≤ d') : callW d' M as I J Q := by
  induction hd with
  | refl => exact h
  | step _ ih => exact callW_succ _ _ _ _ _ _ ih
def QI (F : Int32 → I2 → J2 → Prop) : Post := fun r I' J' => ∃ v, r = some (.int v) ∧ F v I' J'
def QL (F : Int64 → I2 → J2 → Prop) : Post := fun r I' J' => ∃ v, r = some (.long v) ∧ F v I' J'
def QV (F : I2 → J2 → Prop) : Post := fun r I' J' => r = none ∧ F I' J'
theorem QI_i {F : Int32 → I2 → J2 → Prop} {v : Int32} {I : I2} {J : J2} : QI F (some (.int v)) I J ↔ F v I J := by simp [QI]
theorem QL_i {F : Int64 → I2 → J2 → Prop} {v : Int64} {I : I2} {J : J2} : QL F (some (.long v)) I J ↔ F v I J := by simp [QL]
theorem QV_i {F : I2 → J2 → Prop} {I : I2} {J : J2} : QV F none I J ↔ F I J := by simp [QV]
theorem CI.of {d M : Nat} {as : List Value} {I : I2} {J : J2} {F : Int32 → I2 → J2 → Prop} (hd : 1 ≤ d) (hl : Nat.ble (entL as).length (mlM M) = true) (h : Wp (d - 1) M (QI F) 0 (entLv (mlM M) as) [] I J) : CI d M as I J F := by
  obtain ⟨d, rfl⟩ : ∃ e, d = e + 1 := ⟨d - 1, by omega⟩
  exact callW.of hl h
theorem CL.of {d M : Nat} {as : List Value} {I : I2} {J : J2} {F : Int64 → I2 → J2 → Prop} (hd : 1 ≤ d) (hl : Nat.ble (entL as).length (mlM M) = true) (h : Wp (d - 1) M (QL F) 0 (entLv (mlM M) as) [] I J) : CL d M as I J F := by
  obtain ⟨d, rfl⟩ : ∃ e, d = e + 1 := ⟨d - 1, by omega⟩
  exact callW.of hl h
theorem CV.of {d M : Nat} {as : List Value} {I : I2} {J : J2} {F : I2 → J2 → Prop} (hd : 1 ≤ d) (hl : Nat.ble (entL as).length (mlM M) = true) (h : Wp (d - 1) M (QV F) 0 (entLv (mlM M) as) [] I J) : CV d M as I J F := by
  obtain ⟨d, rfl⟩ : ∃ e, d = e + 1 := ⟨d - 1, by omega⟩
  exact callW.of hl h
/-- true and false as the machine has them -/
def bI (b : Bool) : Int32 := bif b then 1 else 0
theorem bI_0 {b : Bool} : bI b = 0 ↔ b = false := by cases b <;> simp [bI]
theorem bI_1 {b : Bool} : bI b = 1 ↔ b = true := by cases b <;> simp [bI]
theorem bI_t : bI true = 1 := rfl
theorem bI_f : bI false = 0 := rfl
/-! numbers -/
theorem s_l : ∀ n, n < 32 → ((nI n &&& 31).toBitVec.smod 32).toNat = n := by decide +kernel
theorem n_lit (n : Nat) : (OfNat.ofNat n : Int32) = nI n := rfl
theorem n_m1 : (-1 : Int32) = nI 4294967295 := by decide +kernel
theorem n_tN {a : Nat} (h : a < 2 ^ 31) : tN (nI a) = a := nI_clamp h
theorem n_vp {a n : Nat} (h : a < n) (hn : n < 2 ^ 31) : vp_in (nI a) n := vp_in_nI h hn
theorem n_sr {a k : Nat} (ha : a < 2 ^ 31) (hk : k < 32) : srI (nI a) (nI k) = nI (a / 2 ^ k) := pk_shrN ha _ k (s_l k hk)
theorem n_sl {a k : Nat} (hk : k < 32) (h : a * 2 ^ k < 2 ^ 32) : slI (nI a) (nI k) = nI (a * 2 ^ k) := pk_shlN _ k (s_l k hk) h
theorem n_and1 {a : Nat} (h : a < 2 ^ 32) : nI a &&& 1 = nI (a % 2) := pk_andN h 1 (by decide +kernel)
theorem n_and3 {a : Nat} (h : a < 2 ^ 32) : nI a &&& 3 = nI (a % 4) := pk_andN h 2 (by decide +kernel)
theorem n_or (a b : Nat) : nI a ||| nI b = nI (a ||| b) := by
  apply Int32.toBitVec_inj.mp
  show BitVec.ofNat 32 a ||| BitVec.ofNat 32 b = BitVec.ofNat 32 (a ||| b)
  rw [BitVec.ofNat_or]
theorem n_and (a b : Nat) : nI a &&& nI b = nI (a &&& b) := by
  apply Int32.toBitVec_inj.mp
  show BitVec.ofNat 32 a &&& BitVec.ofNat 32 b = BitVec.ofNat 32 (a &&& b)
  rw [BitVec.ofNat_and]
theorem n_neg {a : Nat} (h : a < 2 ^ 31) : nI a < 0 ↔ False := iff_false_intro (nI_pos h)
theorem n_lt {a b : Nat} (ha : a < 2 ^ 31) (hb : b < 2 ^ 31) : nI a < nI b ↔ a < b := nI_ltI ha hb
theorem n_eq {a b : Nat} (ha : a < 2 ^ 31) (hb : b < 2 ^ 31) : nI a = nI b ↔ a = b := nI_eq ha hb
theorem n_e0 {a : Nat} (ha : a < 2 ^ 31) : nI a = 0 ↔ a = 0 := nI_eq ha (by decide)
theorem n_p0 {a : Nat} (ha : a < 2 ^ 31) : 0 < nI a ↔ 0 < a := nI_ltI (a := 0) (by decide) ha
theorem n_dec {a : Nat} (h : 0 < a) : nI a - 1 = nI (a - 1) := pk_sub (b := 1) h
theorem n_dec2 {a : Nat} (h : 0 < a) : nI a + (-1) = nI (a - 1) := by
  obtain ⟨b, rfl⟩ : ∃ b, a = b + 1 := ⟨a - 1, by omega⟩
  exact pk_m1 b
theorem n_inc (a : Nat) : nI a + 1 = nI (a + 1) := nI_1 a
/-! places -/
def pl (s q : Nat) : Nat := s / 4 ^ q % 4
theorem pl_lt (s q : Nat) : pl s q < 4 := Nat.mod_lt _ (by decide)
theorem two4 (q : Nat) : 2 ^ (2 * q) = 4 ^ q := by rw [Nat.pow_mul]
theorem n_pl {s q : Nat} (hs : s < 2 ^ 31) (hq : q < 16) : (srI (nI s) (2 * nI q)) &&& 3 = nI (pl s q) := by
  have e : (2 : Int32) * nI q = nI (2 * q) := pk_mul 2 q
  rw [e, n_sr hs (by omega), n_and3 (Nat.lt_of_le_of_lt (Nat.div_le_self _ _) (by omega)), two4]
  rfl
theorem c_Sb_placeIn {d s q : Nat} {I : I2} {J : J2} {F : Int32 → I2 → J2 → Prop} (hd : 1 ≤ d) (hs : s < 2 ^ 31) (hq : q < 16) (h : F (nI (pl s q)) I J) : CI d Sb_placeIn [.int (nI s), .int (nI q)] I J F :=
  CI.of hd rfl (v_Sb_placeIn_0 (QI_i.mpr (by rw [n_pl hs hq]; exact h)))
theorem c_Sb_bit {d : Nat} {b : Bool} {I : I2} {J : J2} {F : Int32 → I2 → J2 → Prop} (hd : 1 ≤ d) (h : F (bI b) I J) : CI d Sb_bit [.int (bI b)] I J F := by
  refine CI.of hd rfl (v_Sb_bit_0 ?_)
  cases b
  · exact ⟨fun _ => QI_i.mpr h, fun q => absurd rfl q⟩
  · exact ⟨fun q => absurd q (by decide), fun _ => QI_i.mpr h⟩
/-! a box -/
abbrev Bx : Type := (Nat × Nat) × ((Nat → Nat) × (Nat → Nat)) × ((Nat → Nat) × (Nat → Nat) × (Nat → Nat) × (Nat → Nat))
abbrev Bx.pn (B : Bx) : Nat := B.1.1
abbrev Bx.ln (B : Bx) : Nat := B.1.2
abbrev Bx.kd (B : Bx) : Nat → Nat := B.2.1.1
abbrev Bx.dp (B : Bx) : Nat → Nat := B.2.1.2
abbrev Bx.ow (B : Bx) : Nat → Nat := B.2.2.1
abbrev Bx.wy (B : Bx) : Nat → Nat := B.2.2.2.1
abbrev Bx.ot (B : Bx) : Nat → Nat := B.2.2.2.2.1
abbrev Bx.ps (B : Bx) : Nat → Nat := B.2.2.2.2.2
/-- a box as the document has it -/
def WFB (B : Bx) : Prop := B.pn ≤ 5 ∧ B.ln ≤ 6 ∧ (∀ p, p < B.pn → B.kd p ≤ 4 ∧ 1 ≤ B.dp p ∧ B.dp p ≤ 3) ∧ ∀ l, l < B.ln → B.ow l < B.pn ∧ B.wy l ≤ 2 ∧ B.ot l < B.pn ∧ 1 ≤ B.ps l ∧ B.ps l ≤ 15
/-- a box of the class, at place b -/
def BoxI (b : Nat) (B : Bx) (I : I2) : Prop := I b 2 = nI B.pn ∧ I b 7 = nI B.ln ∧ (∀ p, p < B.pn → I (b + 1) p = nI (B.kd p) ∧ I (b + 2) p = nI (B.dp p)) ∧ ∀ l, l < B.ln → I (b + 3) l = nI (B.ow l) ∧ I (b + 4) l = nI (B.wy l) ∧ I (b + 5) l = nI (B.ot l) ∧ I (b + 6) l = nI (B.ps l)
/-- the box of the model -/
def BoxM (B : Bx) (I : I2) : Prop := I 58 0 = nI B.pn ∧ I 58 1 = nI B.ln ∧ (∀ p, p < B.pn → I 58 (6 + 2 * p) = nI (B.kd p) ∧ I 58 (6 + 2 * p + 1) = nI (B.dp p)) ∧ ∀ l, l < B.ln → I 58 (16 + 4 * l) = nI (B.ow l) ∧ I 58 (16 + 4 * l + 1) = nI (B.wy l) ∧ I 58 (16 + 4 * l + 2) = nI (B.ot l) ∧ I 58 (16 + 4 * l + 3) = nI (B.ps l)
/-- lock l tells a place that its other panel is at -/
def met (B : Bx) (l s : Nat) : Bool := decide (B.ps l / 2 ^ pl s (B.ot l) % 2 = 1)
def con (B : Bx) (l p w : Nat) : Bool := decide (B.ow l = p) && (decide (B.wy l = 2) || decide (B.wy l = w))
def ringL (s p : Nat) : Bool := decide (p = 0) || (decide (0 < pl s (p - 1)) && decide (s % 4 ^ (p - 1) = 0))
def fitsB (B : Bx) (s p w : Nat) : Bool := (if w = 0 then decide (0 < pl s p) else decide (pl s p < B.dp p)) && (!(decide (B.kd p = 2) || (decide (B.kd p = 4) && decide (w = 1))) || ringL s p)
/-- the locks that hold a slide, filed ones too: below n -/
def hset (B : Bx) (s p w : Nat) : Nat → Nat
  | 0 => 0
  | n + 1 => hset B s p w n ||| (bif con B n p w && !met B n s then 2 ^ n else 0)
def slips (B : Bx) (q x : Nat) : Bool := decide (0 < x) && (decide (B.kd q = 1) || (decide (B.kd q = 3) && decide (x < B.dp q)))
def plB (B : Bx) (s p w q : Nat) : Nat := if q = p then (if w = 1 then pl s q + 1 else pl s q - 1) else if slips B q (pl s q) then pl s q - 1 else pl s q
def behB (B : Bx) (s p w : Nat) : Nat → Nat
  | 0 => 0
  | n + 1 => behB B s p w n ||| (plB B s p w n * 4 ^ n)
/-- may it be done, these locks filed -/
def mayB (B : Bx) (s f p w : Nat) : Bool := fitsB B s p w && decide (∀ l, l < B.ln → con B l p w = true → met B l s = false → f.testBit l = true)
theorem hset_bit {B : Bx} {s p w n : Nat} (l : Nat) : (hset B s p w n).testBit l = (decide (l < n) && (con B l p w && !met B l s)) := by
  induction n with
  | zero => simp [hset]
  | succ n ih =>
    simp only [hset, Nat.testBit_or, ih]
    cases e : (con B n p w && !met B n s) with
    | false =>
      simp only [cond_false, Nat.zero_testBit, Bool.or_false]
      by_cases h : l = n
      · subst h; simp [e]
      · have : decide (l < n + 1) = decide (l < n) := by congr 1; exact propext ⟨fun _ => by omega, fun _ => by omega⟩
        rw [this]
    | true =>
      simp only [cond_true, Nat.testBit_two_pow]
      by_cases h : l = n
      · subst h; simp [e]
      · have : decide (l < n + 1) = decide (l < n) := by congr 1; exact propext ⟨fun _ => by omega, fun _ => by omega⟩
        rw [this]
        simp [show ¬ n = l from fun q => h q.symm]
theorem hset_lt {B : Bx} {s p w n : Nat} (h : n ≤ 6) : hset B s p w n < 64 := by
  refine Nat.lt_pow_two_of_testBit (n := 6) _ (fun j hj => ?_)
  rw [hset_bit]
  have : ¬ j < n := by omega
  simp only [this, decide_false, Bool.false_and]
theorem hs_sub0 : ∀ a, a < 64 → ∀ f, f < 64 → ((nI a &&& (nI f ^^^ (-1))) = 0 ↔ a &&& f = a) := by decide +kernel
theorem hs_sub {a f : Nat} (hf : f < 64) (ha : a < 64) : ((nI a &&& (nI f ^^^ (-1))) = 0 ↔ a &&& f = a) := hs_sub0 a ha f hf
theorem hset_sub {B : Bx} {s p w f n : Nat} : hset B s p w n &&& f = hset B s p w n ↔ ∀ l, l < n → con B l p w = true → met B l s = false → f.testBit l = true := by
  constructor
  · intro h l hl h1 h2
    have e := congrArg (fun x => x.testBit l) h
    simp only [Nat.testBit_and, hset_bit, hl, h1, h2, decide_true, Bool.not_false, Bool.and_self, Bool.true_and] at e
    exact e
  · intro h
    apply Nat.eq_of_testBit_eq
    intro l
    rw [Nat.testBit_and, hset_bit]
    by_cases hl : l < n
    · cases h1 : con B l p w with
      | false => simp
      | true =>
        cases h2 : met B l s with
        | true => simp
        | false => simp [h l hl h1 h2]
    · simp [hl]
