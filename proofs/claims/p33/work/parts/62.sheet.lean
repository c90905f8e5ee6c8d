/-! sheets: nothing, or a lane, how many, what stands there; the class -/
abbrev Shv : Type := Option (Nat × Nat × (Nat → Int64))
def ShC (p : Nat) (S : Shv) (I : I2) (J : J2) : Prop := match S with
  | none => I p 0 = 0
  | some (l, n, g) => I p 0 = 1 ∧ I p 1 = nI l ∧ I p 2 = nI n ∧ ∀ k, k < 24 → J (p + 1) k = g k
def ShM (i : Nat) (S : Shv) (I : I2) (J : J2) : Prop := match S with
  | none => I 74 i = -1
  | some (l, n, g) => I 74 i = nI l ∧ I 75 i = nI n ∧ ∀ k, k < 24 → J 76 (24 * i + k) = g k
def WFS (S : Shv) : Prop := ∀ l n g, S = some (l, n, g) → l < 4 ∧ n ≤ 24
def hldB (sz : Nat) (i n : Int32) : Bool := decide (¬ n < 0 ∧ ¬ i < 0 ∧ tN i + tN n ≤ sz)
def faultS (S : Shv) (l i n : Int32) : Int32 := match S with
  | none => -11
  | some (l', sz, _) => if nI l' = l then (if hldB sz i n then 0 else -13) else -12
def narL (l : Nat) (v : Int64) : Int64 := if l = 0 then (i2b v.toInt32).toInt64 else if l = 1 then (i2s v.toInt32).toInt64 else if l = 2 then v.toInt32.toInt64 else v
def updS (S : Nat → Shv) (i : Nat) (v : Shv) : Nat → Shv := fun j => if j = i then v else S j
theorem fault_neg {S : Shv} {l i n : Int32} : faultS S l i n = 0 ∨ faultS S l i n = -11 ∨ faultS S l i n = -12 ∨ faultS S l i n = -13 := by
  unfold faultS
  split
  · exact Or.inr (Or.inl rfl)
  · split
    · split
      · exact Or.inl rfl
      · exact Or.inr (Or.inr (Or.inr rfl))
    · exact Or.inr (Or.inr (Or.inl rfl))
theorem fault_lt {S : Shv} {l i n : Int32} : faultS S l i n < 0 ↔ ¬ faultS S l i n = 0 := by
  rcases fault_neg (S := S) (l := l) (i := i) (n := n) with e | e | e | e <;> rw [e] <;> decide
theorem fault_0 {S : Shv} {l i n : Int32} (h : faultS S l i n = 0) : ∃ l' sz g, S = some (l', sz, g) ∧ l = nI l' ∧ ¬ n < 0 ∧ ¬ i < 0 ∧ tN i + tN n ≤ sz := by
  unfold faultS at h
  split at h
  · exact absurd h (by decide)
  · next l' sz g =>
    split at h
    · next e =>
      split at h
      · next e2 =>
        simp only [hldB, decide_eq_true_eq] at e2
        exact ⟨l', sz, g, rfl, e.symm, e2⟩
      · exact absurd h (by decide)
    · exact absurd h (by decide)
theorem sub_lt {sz a b : Nat} (hs : sz < 2 ^ 30) (ha : a < 2 ^ 31) (hb : b < 2 ^ 31) : nI sz - nI a < nI b ↔ sz < b + a := by
  by_cases h : a ≤ sz
  · rw [n_sub h, n_lt (by omega) hb]; omega
  · have e : nI sz - nI a = -nI (a - sz) := by
      rw [← n_sub (a := a) (b := sz) (by omega), Int32.neg_sub]
    have e2 : nI sz - nI a < nI b := by
      rw [e, Int32.lt_iff_toInt_lt, sb_negT (by omega), nI_toInt hb]; omega
    exact ⟨fun _ => by omega, fun _ => e2⟩
section SHT
variable {d p : Nat} {S : Shv} {I : I2} {J : J2} {G : I2 → J2 → Prop} {F : Int32 → I2 → J2 → Prop} {FL : Int64 → I2 → J2 → Prop} {l sz : Nat} {g : Nat → Int64}
theorem c_Sh_holds {i n : Int32} (hd : 1 ≤ d) (hp : Pl p) (h2 : I p 2 = nI sz) (hsz : sz ≤ 24) (h : F (bI (hldB sz i n)) I J) : CI d Sh_holds [.ref p, .int i, .int n] I J F := by
  refine CI.of hd rfl (vu_Sh_holds_0 hp ?_)
  unfold hldB at h
  rw [h2]
  refine ⟨fun q => QI_i.mpr ?_, fun q1 => ⟨fun q => QI_i.mpr ?_, fun q2 => ?_⟩⟩
  · rw [decide_eq_false (fun z => z.1 q)] at h; exact h
  · rw [decide_eq_false (fun z => z.2.1 q)] at h; exact h
  · obtain ⟨a, ha, rfl⟩ := nI_of q1
    obtain ⟨b, hb, rfl⟩ := nI_of q2
    rw [n_tN ha, n_tN hb] at h
    rw [sub_lt (by omega) ha hb]
    refine ⟨fun q => QI_i.mpr ?_, fun q => QI_i.mpr ?_⟩
    · rw [decide_eq_false (fun z => by have := z.2.2; omega)] at h; exact h
    · rw [decide_eq_true ⟨q1, q2, by omega⟩] at h; exact h
theorem c_Sh_fault {x i n : Int32} (hd : 2 ≤ d) (hp : Pl p) (hS : ShC p S I J) (hW : WFS S) (h : F (faultS S x i n) I J) : CI d Sh_fault [.ref p, .int x, .int i, .int n] I J F := by
  refine CI.of (by omega) rfl (vu_Sh_fault_0 hp ?_)
  cases S with
  | none =>
    have hS : I p 0 = 0 := hS
    exact ⟨fun _ => QI_i.mpr h, fun q => absurd hS q⟩
  | some v =>
    obtain ⟨l, sz, g⟩ := v
    obtain ⟨h0, h1, h2, h3⟩ := hS
    have hsz := (hW l sz g rfl).2
    rw [h0, h1]
    simp only [faultS] at h
    refine ⟨fun q => absurd q (by decide), fun _ => ⟨fun e => c_Sh_holds (by omega) hp h2 hsz ?_, fun e => QI_i.mpr ?_⟩⟩
    · rw [if_pos e] at h
      rw [bI_0]
      refine ⟨fun z => QI_i.mpr ?_, fun z => QI_i.mpr ?_⟩
      · rw [if_neg (by rw [z]; decide)] at h; exact h
      · rw [if_pos (by simpa using z)] at h; exact h
    · rw [if_neg e] at h; exact h
theorem hld_k {k : Nat} (hk : k < sz) (hsz : sz ≤ 24) : hldB sz (nI k) 1 = true := by
  unfold hldB
  refine decide_eq_true ⟨by decide, nI_pos (by omega), ?_⟩
  rw [n_tN (by omega), show tN 1 = 1 from by decide]; omega
theorem c_Sh_look {k : Nat} (hd : 2 ≤ d) (hp : Pl p) (hS : ShC p (some (l, sz, g)) I J) (hsz : sz ≤ 24) (hk : k < sz) (h : FL (g k) I J) : CL d Sh_look [.ref p, .int (nI k)] I J FL := by
  refine CL.of (by omega) rfl (vu_Sh_look_0 hp ?_)
  obtain ⟨h0, h1, h2, h3⟩ := hS
  refine c_Sh_holds (by omega) hp h2 hsz ?_
  rw [hld_k hk hsz]
  refine ⟨fun q => absurd q (by decide), fun _ => ⟨n_vp (by omega) (by decide), QL_i.mpr ?_⟩⟩
  rw [n_tN (by omega), h3 k (by omega)]; exact h
theorem c_Sh_put {k : Nat} {v : Int64} (hd : 2 ≤ d) (hp : Pl p) (hS : ShC p (some (l, sz, g)) I J) (hl : l < 4) (hsz : sz ≤ 24) (hk : k < sz) (h : G I (upJ J (p + 1) k (narL l v))) : CV d Sh_put [.ref p, .int (nI k), .long v] I J G := by
  refine CV.of (by omega) rfl (vu_Sh_put_0 hp ?_)
  obtain ⟨h0, h1, h2, h3⟩ := hS
  refine c_Sh_holds (by omega) hp h2 hsz ?_
  have hv := n_vp (a := k) (n := 24) (by omega) (by decide)
  rw [hld_k hk hsz, h1, n_tN (by omega), n_e0 (by omega), show (nI l = 1) = (nI l = nI 1) from rfl, n_eq (by omega) (by decide), show (nI l = 2) = (nI l = nI 2) from rfl, n_eq (by omega) (by decide)]
  unfold narL at h
  refine ⟨fun q => absurd q (by decide), fun _ => ⟨fun e => ⟨hv, QV_i.mpr ?_⟩, fun e => ⟨fun e1 => ⟨hv, QV_i.mpr ?_⟩, fun e1 => ⟨fun e2 => ⟨hv, QV_i.mpr ?_⟩, fun e2 => ⟨hv, QV_i.mpr ?_⟩⟩⟩⟩⟩
  · rw [if_pos e] at h; exact h
  · rw [if_neg e, if_pos e1] at h; exact h
  · rw [if_neg e, if_neg e1, if_pos e2] at h; exact h
  · rw [if_neg e, if_neg e1, if_neg e2] at h; exact h
theorem ShC_put {k : Nat} {v : Int64} (hS : ShC p (some (l, sz, g)) I J) : ShC p (some (l, sz, vp_updL g k v)) I (upJ J (p + 1) k v) := by
  obtain ⟨h0, h1, h2, h3⟩ := hS
  refine ⟨h0, h1, h2, fun j hj => ?_⟩
  by_cases e : j = k
  · rw [e, upJ_s]; simp [vp_updL]
  · rw [upJ_k e, h3 j hj]; simp [vp_updL, e]
theorem c_Sh_begin {x n : Int32} (hd : 1 ≤ d) (hp : Pl p) (h : ∀ J', (∀ k, k < 24 → J' (p + 1) k = 0) → (∀ a, a ≠ p + 1 → J' a = J a) → G (up2 (up2 (up2 I p 0 1) p 1 x) p 2 n) J') : CV d Sh_begin [.ref p, .int x, .int n] I J G := by
  have loop : ∀ k j J1, j + k = 24 → (∀ i, i < j → J1 (p + 1) i = 0) → (∀ a, a ≠ p + 1 → J1 a = J a) → Wp (d - 1) Sh_begin (QV G) 17 [some (.ref p), some (.int x), some (.int n), some (.int (nI j))] [] (up2 (up2 (up2 I p 0 1) p 1 x) p 2 n) J1 := by
    intro k
    induction k with
    | zero =>
      intro j J1 hj h1 h2
      have hj : j = 24 := by omega
      subst hj
      exact vu_Sh_begin_17 hp ⟨fun q => absurd q (by decide), fun _ => QV_i.mpr (h J1 h1 h2)⟩
    | succ k ih =>
      intro j J1 hj h1 h2
      refine vu_Sh_begin_17 hp ⟨fun _ => ⟨n_vp (by omega) (by decide), ?_⟩, fun q => absurd ((n_lt (b := 24) (by omega) (by decide)).mpr (by omega)) q⟩
      rw [n_tN (by omega), n_inc]
      refine ih (j + 1) _ (by omega) (fun i hi => ?_) (fun a ha => by rw [upJ_a ha]; exact h2 a ha)
      by_cases e : i = j
      · rw [e, upJ_s]
      · rw [upJ_k e]; exact h1 i (by omega)
  exact CV.of hd rfl (vu_Sh_begin_0 hp (loop 24 0 J rfl (fun i hi => absurd hi (Nat.not_lt_zero _)) (fun _ _ => rfl)))
theorem c_Sb_isSheet {x : Int32} (hd : 1 ≤ d) (h : F (bI (decide (¬ x < 0) && decide (x < nI 4))) I J) : CI d Sb_isSheet [.int x] I J F := by
  refine CI.of hd rfl (v_Sb_isSheet_0 ⟨fun q => QI_i.mpr ?_, fun q => ⟨fun q2 => QI_i.mpr ?_, fun q2 => QI_i.mpr ?_⟩⟩)
  · rw [decide_eq_false (fun z => z q)] at h; exact h
  · rw [decide_eq_true q, decide_eq_true (show x < nI 4 from q2)] at h; exact h
  · rw [decide_eq_true q, decide_eq_false (show ¬ x < nI 4 from q2)] at h; exact h
theorem c_Sb_isLane {x : Int32} (hd : 1 ≤ d) (h : F (bI (decide (¬ x < 0) && decide (x < nI 4))) I J) : CI d Sb_isLane [.int x] I J F := by
  refine CI.of hd rfl (v_Sb_isLane_0 ⟨fun q => QI_i.mpr ?_, fun q => ⟨fun q2 => QI_i.mpr ?_, fun q2 => QI_i.mpr ?_⟩⟩)
  · rw [decide_eq_false (fun z => z q)] at h; exact h
  · rw [decide_eq_true q, decide_eq_true (show x < nI 4 from q2)] at h; exact h
  · rw [decide_eq_true q, decide_eq_false (show ¬ x < nI 4 from q2)] at h; exact h
theorem in34 {x : Int32} : (decide (¬ x.toInt64 < 0) && decide (¬ (3 : Int64) < x.toInt64)) = (decide (¬ x < 0) && decide (x < nI 4)) := by
  have e1 : (x.toInt64 < 0) = (x < 0) := by
    rw [show (0 : Int64) = (0 : Int32).toInt64 from by decide, wide_lt]
  have e2 : (¬ (3 : Int64) < x.toInt64) = (x < nI 4) := by
    rw [show (3 : Int64) = (3 : Int32).toInt64 from by decide, wide_lt]
    rw [Int32.lt_iff_toInt_lt, Int32.lt_iff_toInt_lt, show (3 : Int32).toInt = 3 from by decide, show (nI 4).toInt = 4 from by decide]
    exact propext ⟨fun h => by omega, fun h => by omega⟩
  simp only [e1, e2]
theorem bI_01 (b : Bool) : bI b = 0 ∨ bI b = 1 := by cases b <;> simp [bI]
end SHT
