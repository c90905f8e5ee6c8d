/-! to told places: both sides -/
def itm (S : Shv) : Nat → Int64 := match S with
  | none => fun _ => 0
  | some v => v.2.2
/-- the state that items from i on tell, below p -/
def stV (B : Bx) (g : Nat → Int64) (i : Nat) : Nat → Option Nat
  | 0 => some 0
  | p + 1 => match stV B g i p with
    | none => none
    | some a => if g (i + p) < 0 ∨ lN (B.dp p) < g (i + p) then none else some (a ||| tN (g (i + p)).toInt32 * 4 ^ p)
noncomputable def toF (V : Bv) (S : Nat → Shv) (x y j k : Int32) : Int32 := if k < -1 ∨ V.B.pn = 0 ∨ ¬ inN x 4 ∨ ¬ inN y 4 then -1 else if faultS (S (tN x)) y j (nI V.B.pn) = 0 then (match stV V.B (itm (S (tN x))) (tN j) V.B.pn with
  | none => -2
  | some a => tldS V.T (if V.T.fa a = 0 then none else some a) k) else faultS (S (tN x)) y j (nI V.B.pn)
theorem stV_none {B : Bx} {g : Nat → Int64} {i p : Nat} (h : stV B g i p = none) : ∀ k, stV B g i (p + k) = none := by
  intro k
  induction k with
  | zero => exact h
  | succ k ih =>
    show stV B g i (p + k + 1) = none
    simp only [stV]; rw [ih]
theorem stV_lt {B : Bx} {g : Nat → Int64} {i : Nat} (hB : WFB B) : ∀ p a, p ≤ B.pn → stV B g i p = some a → a < 4 ^ p := by
  intro p
  induction p with
  | zero => intro a _ h; simp only [stV] at h; cases h; decide
  | succ p ih =>
    intro a hp h
    simp only [stV] at h
    split at h
    · cases h
    · next b e =>
      split at h
      · cases h
      · next hn =>
        cases h
        simp only [not_or] at hn
        obtain ⟨m, hm, em⟩ := pk_lOf hn.1
        have hb := ih b (by omega) e
        have hdp := (hB.2.2.1 p (by omega)).2.2
        have h2 := hn.2
        rw [em, pk_lLT (by omega) hm] at h2
        rw [em, lN_i, n_tN (by omega)]
        have e4 : 4 ^ (p + 1) = 2 ^ (2 * p + 2) := by rw [← two4]; rfl
        rw [e4]
        refine Nat.or_lt_two_pow ?_ ?_
        · rw [← two4] at hb
          exact Nat.lt_of_lt_of_le hb (Nat.pow_le_pow_right (by decide) (by omega))
        · rw [← two4, Nat.pow_add]
          have h3 : m ≤ 3 := by omega
          have h4 := Nat.mul_le_mul_right (2 ^ (2 * p)) h3
          have h5 : 0 < 2 ^ (2 * p) := Nat.pow_pos (by decide)
          have h6 : 2 ^ (2 * p) * 2 ^ 2 = 4 * 2 ^ (2 * p) := by rw [Nat.mul_comm]
          omega
section TOT
variable {d : Nat} {V : Bv} {S : Nat → Shv} {I : I2} {J : J2} {F : Int32 → I2 → J2 → Prop} {T : Tw} {B : Bx}
theorem c_Wk_told0 {t : Nat} {k : Int32} (hd : 1 ≤ d) (hI : WkR T I) (ht : t < 1024) (h0 : T.fa t = 0) (h : F (-4) I J) : CI d Wk_told [.ref 33, .int (nI t), .int k] I J F := by
  refine CI.of (by omega) rfl (v_Wk_told_33_0 ?_)
  have e : I 37 t = -1 := by rw [hI.2.2.1 t ht, h0]; decide
  rw [n_tN (by omega), e]
  exact ⟨fun q => absurd q (nI_pos (by omega)), fun _ => ⟨fun _ => ⟨n_vp ht (by decide), fun _ => QI_i.mpr h, fun q => absurd (by decide) q⟩, fun q => absurd ((n_lt (b := 1024) (by omega) (by decide)).mpr ht) q⟩⟩
theorem n_stV {a m p : Nat} (hp : p < 5) (hm : m ≤ 3) : nI a ||| slI (nI m) (2 * nI p) = nI (a ||| m * 4 ^ p) := by
  have e2 : (2 : Int32) * nI p = nI (2 * p) := pk_mul 2 _
  have h4 : 2 ^ (2 * p) ≤ 2 ^ 8 := Nat.pow_le_pow_right (by decide) (by omega)
  have h5 := Nat.mul_le_mul hm h4
  rw [e2, n_sl (by omega) (by omega), n_or, two4]
theorem c_Bx_stateOf {p sz l i : Nat} {g : Nat → Int64} (hd : 3 ≤ d) (hw : WFV V) (hV : CBx 1 V I) (hp : Pl p) (hS : ShC p (some (l, sz, g)) I J) (hsz : sz ≤ 24) (hi : i + V.B.pn ≤ sz) (h : F (optI (stV V.B g i V.B.pn) (-2)) I J) : CI d Bx_stateOf [.ref 1, .ref p, .int (nI i)] I J F := by
  have hp5 := hw.1.1
  have loop : ∀ k n a, n + k = V.B.pn → stV V.B g i n = some a → Wp (d - 1) Bx_stateOf (QI F) 5 [some (.ref 1), some (.ref p), some (.int (nI i)), some (.int (nI a)), some (.int (nI n)), none, none] [] I J := by
    intro k
    induction k with
    | zero =>
      intro n a hn he
      have hn : n = V.B.pn := by omega
      subst hn
      refine vu_Bx_stateOf_1_5 hp ⟨fun q => ?_, fun _ => QI_i.mpr ?_⟩
      · rw [hV.1.1] at q; exact absurd ((n_lt (by omega) (by omega)).mp q) (Nat.lt_irrefl _)
      · rw [he] at h; exact h
    | succ k ih =>
      intro n a hn he
      have hlt : n < V.B.pn := by omega
      have hdp := (hw.1.2.2.1 n hlt).2.2
      refine vu_Bx_stateOf_1_5 hp ⟨fun _ => ?_, fun q => absurd ((n_lt (by omega) (by omega)).mpr hlt) (by rw [hV.1.1] at q; exact q)⟩
      rw [nI_add, n_inc]
      have e1 : ∀ z, stV V.B g i (n + 1) = z → z = if g (i + n) < 0 ∨ lN (V.B.dp n) < g (i + n) then none else some (a ||| tN (g (i + n)).toInt32 * 4 ^ n) := by
        intro z hz
        rw [← hz]; simp only [stV]; rw [he]
      have bad : (g (i + n) < 0 ∨ lN (V.B.dp n) < g (i + n)) → QI F (some (.int (-2))) I J := by
        intro q
        have e2 := e1 _ rfl
        rw [if_pos q] at e2
        have e3 := stV_none e2 k
        rw [show n + 1 + k = V.B.pn by omega] at e3
        rw [e3] at h
        exact QI_i.mpr h
      refine c_Sh_look (by omega) hp hS hsz (by omega) ?_
      rw [cmp_lt, n_tN (by omega), show I 3 n = nI (V.B.dp n) from (hV.1.2.2.1 n hlt).2, nI_l (by omega), cmp_gt]
      refine ⟨fun q => bad (Or.inl q), fun q => ⟨n_vp (by omega) (by decide), fun q2 => bad (Or.inr q2), fun q2 => ?_⟩⟩
      have e2 := e1 _ rfl
      rw [if_neg (fun z => z.elim q q2)] at e2
      obtain ⟨m, hm, em⟩ := pk_lOf q
      rw [em, pk_lLT (by omega) hm] at q2
      rw [em, lN_i, n_tN (by omega)] at e2
      rw [em, lN_i, n_stV (by omega) (by omega)]
      exact ih (n + 1) _ (by omega) e2
  exact CI.of (by omega) rfl (vu_Bx_stateOf_1_0 hp (loop V.B.pn 0 0 (Nat.zero_add _) rfl))
theorem toF_of {x y j k : Int32} (hb : ¬ (k < -1 ∨ V.B.pn = 0 ∨ ¬ inN x 4 ∨ ¬ inN y 4)) (h0 : faultS (S (tN x)) y j (nI V.B.pn) = 0) : toF V S x y j k = match stV V.B (itm (S (tN x))) (tN j) V.B.pn with
  | none => -2
  | some a => tldS V.T (if V.T.fa a = 0 then none else some a) k := (if_neg hb).trans (if_pos h0)
theorem c_Sb_to (hd : 7 ≤ d) (hw : WFV V) (hV : CBx 1 V I) (hC : CaR V.B I) (hS : ShCs S I J) (hW : WFSs S) (x y j k : Int32) (h : ∀ I', FrG I I' → CaR V.B I' → F (toF V S x y j k) I' J) : CI d Sb_to [.ref 0, .int x, .int y, .int j, .int k] I J F := by
  have hp5 := hw.1.1
  have hf := f64 hw.1 hw.2.2.2.1
  have hT : TI V.B V.T := TIb hw V.f
  have bad : (k < -1 ∨ V.B.pn = 0 ∨ ¬ inN x 4 ∨ ¬ inN y 4) → QI F (some (.int (-1))) I J := by
    intro q
    rw [show toF V S x y j k = -1 from if_pos q] at h
    exact QI_i.mpr (h I FrG.rf hC)
  refine CI.of (by omega) rfl (v_Sb_to_0_0 ?_)
  rw [hV.1.1, n_e0 (by omega)]
  refine ⟨fun q => bad (Or.inl q), fun q0 => ⟨fun q => bad (Or.inr (Or.inl q)), fun q3 => c_Sb_isSheet (by omega) ?_⟩⟩
  rw [in_dec]
  refine ⟨fun q => bad (Or.inr (Or.inr (Or.inl q))), fun q1 => c_Sb_isLane (by omega) ?_⟩
  rw [in_dec]
  refine ⟨fun q => bad (Or.inr (Or.inr (Or.inr q))), fun q2 => ?_⟩
  have nb : ¬ (k < -1 ∨ V.B.pn = 0 ∨ ¬ inN x 4 ∨ ¬ inN y 4) := by simp only [not_or]; exact ⟨q0, q3, q1, q2⟩
  obtain ⟨i, hi, rfl⟩ := in_of (Classical.not_not.mp q1) (by decide)
  rw [hV.1.1]
  refine ⟨n_vp hi (by decide), four (A := fun p => CI (d - 1) Sh_fault [.ref p, .int y, .int j, .int (nI V.B.pn)] I J (fun v3 I3 J3 => (v3 = 0 → CI (d - 1) Bx_stateOf [.ref 1, .ref p, .int j] I3 J3 (fun v4 I4 J4 => (v4 < 0 → QI F (some (.int (-2))) I4 J4) ∧ (¬ (v4 < 0) → CV (d - 1) Wk_from [.ref 33, .int (I4 1 9), .int (I4 1 10)] I4 J4 (fun I5 J5 => CI (d - 1) Wk_told [.ref 33, .int v4, .int k] I5 J5 (fun v6 I6 J6 => QI F (some (.int v6)) I6 J6))))) ∧ (¬ (v3 = 0) → QI F (some (.int v3)) I3 J3))) hi (c_Sh_fault (by omega) (Pl_of hi) (hS i hi) (hW i hi) ⟨fun e => ?_, fun e => QI_i.mpr ?_⟩)⟩
  · rw [toF_of nb (by rw [n_tN (by omega)]; exact e), n_tN (by omega)] at h
    obtain ⟨l, sz, g, eS, rfl, z1, z2, z3⟩ := fault_0 e
    obtain ⟨w1, w2⟩ := hW i hi l sz g eS
    obtain ⟨c, hc, rfl⟩ := nI_of z2
    rw [n_tN hc, n_tN (by omega)] at z3
    rw [n_tN hc, eS] at h
    have hSi := hS i hi
    rw [eS] at hSi
    refine c_Bx_stateOf (by omega) hw hV (Pl_of hi) hSi w2 z3 ?_
    have h : ∀ I', FrG I I' → CaR V.B I' → F (match stV V.B g c V.B.pn with
      | none => -2
      | some a => tldS V.T (if V.T.fa a = 0 then none else some a) k) I' J := h
    cases est : stV V.B g c V.B.pn with
    | none =>
      rw [est] at h
      exact ⟨fun _ => QI_i.mpr (h I FrG.rf hC), fun q => absurd (by decide) q⟩
    | some a =>
      rw [est] at h
      have ha := s31 hw.1 (stV_lt hw.1 _ a (Nat.le_refl _) est)
      dsimp only [optI] at h ⊢
      rw [hV.2.2.1, hV.2.2.2.1]
      refine ⟨fun q => absurd q (nI_pos (by omega)), fun _ => c_W_from (by omega) hw hV hC hf (fun I1 r1 r2 r3 => ?_)⟩
      have h := h I1 r1 (r3.ca hw hf)
      have hI : WkR V.T I1 := r3.2.2.2.2
      by_cases e0 : V.T.fa a = 0
      · rw [if_pos e0] at h
        exact c_Wk_told0 (by omega) hI ha e0 (QI_i.mpr h)
      · rw [if_neg e0] at h
        exact c_Wk_told (by omega) hw.1 hT hI (some a) (fun t ht => by cases ht; exact (hT.2.1 a).mpr e0) k (QI_i.mpr h)
  · rw [show toF V S (nI i) y j k = faultS (S i) y j (nI V.B.pn) from (if_neg nb).trans (by rw [n_tN (by omega)]; exact if_neg e)] at h
    exact h I FrG.rf hC
end TOT
