/-! fumbled at: in shares of 2520 each time; the class -/
def sumM (B : Bx) (f s : Nat) (w : Nat → Nat) : Nat → Nat
  | 0 => 0
  | m + 1 => sumM B f s w m + (match nx B f s m with
    | some t => w t
    | none => 0)
def shr (B : Bx) (o f : Nat) : Nat → Nat → Nat
  | 0, s => if openB B o s then 1 else 0
  | n + 1, s => if openB B o s then 2520 ^ (n + 1) else if deg B f s (2 * B.pn) = 0 then 0 else sumM B f s (shr B o f n) (2 * B.pn) * (2520 / deg B f s (2 * B.pn))
theorem sumM_le {B : Bx} {f s : Nat} {w : Nat → Nat} {c : Nat} (h : ∀ t, w t ≤ c) : ∀ m, sumM B f s w m ≤ deg B f s m * c := by
  intro m
  induction m with
  | zero => simp [sumM, deg]
  | succ m ih =>
    simp only [sumM, deg]
    cases nx B f s m with
    | none => simpa using ih
    | some t =>
      have := h t
      simp only [Option.isSome_some, if_true, Nat.add_mul, Nat.one_mul]
      omega
theorem shr_le {B : Bx} {o f : Nat} : ∀ n s, shr B o f n s ≤ 2520 ^ n := by
  intro n
  induction n with
  | zero => intro s; simp only [shr]; split <;> simp
  | succ n ih =>
    intro s
    simp only [shr]
    split
    · exact Nat.le_refl _
    · split
      · exact Nat.zero_le _
      · next h0 =>
        have h1 := sumM_le (B := B) (f := f) (s := s) ih (2 * B.pn)
        have h2 : sumM B f s (shr B o f n) (2 * B.pn) * (2520 / deg B f s (2 * B.pn)) ≤ (deg B f s (2 * B.pn) * 2520 ^ n) * (2520 / deg B f s (2 * B.pn)) := Nat.mul_le_mul_right _ h1
        have h3 : (deg B f s (2 * B.pn) * 2520 ^ n) * (2520 / deg B f s (2 * B.pn)) = 2520 ^ n * (deg B f s (2 * B.pn) * (2520 / deg B f s (2 * B.pn))) := by
          rw [Nat.mul_comm (deg B f s (2 * B.pn)) (2520 ^ n), Nat.mul_assoc]
        have h4 : deg B f s (2 * B.pn) * (2520 / deg B f s (2 * B.pn)) ≤ 2520 := Nat.mul_div_le _ _
        have h5 := Nat.mul_le_mul_left (2520 ^ n) h4
        rw [Nat.pow_succ]
        omega
theorem pow25 {n : Nat} (h : n ≤ 3) : 2520 ^ n ≤ 16003008000 := by
  have := Nat.pow_le_pow_right (n := 2520) (by decide) h
  exact Nat.le_trans this (by decide)
theorem gcd_step (a b : Nat) : Nat.gcd a b = Nat.gcd b (a % b) := by
  rw [Nat.gcd_comm a b, Nat.gcd_rec b a, Nat.gcd_comm]
theorem n_rmL {a b : Nat} (ha : a < 2 ^ 63) (h0 : 0 < b) (hb : b < 2 ^ 63) : rmL (lN a) (lN b) = lN (a % b) := pk_lRem ha h0 hb
theorem lN_0 {a : Nat} (ha : a < 2 ^ 63) : lg_cmp (lN a) 0 = 0 ↔ a = 0 := by
  rw [cmp_eq]; exact pk_lEQ (b := 0) ha (by decide)
theorem lN_n0 {a : Nat} (ha : a < 2 ^ 63) (h : a ≠ 0) : ¬ lN a = 0 := fun q => h ((pk_lEQ (b := 0) ha (by decide)).mp q)
def fumA (V : Bv) (n : Nat) : Nat := shr V.B V.lid V.f n V.s
def fumbleS (V : Bv) (x y : Int32) : Int64 := if x < 0 ∨ 3 < x ∨ y < 0 ∨ 1 < y then -1 else if y = 0 then lN (fumA V (tN x) / Nat.gcd (fumA V (tN x)) (2520 ^ tN x)) else lN (2520 ^ tN x / Nat.gcd (fumA V (tN x)) (2520 ^ tN x))
section FUM
variable {d : Nat} {V : Bv} {I : I2} {J : J2} {F : Int64 → I2 → J2 → Prop} {f s : Nat}
theorem c_Sb_evenShares {n : Nat} (hd : 1 ≤ d) (hn : n < 2 ^ 20) (h : F (lN (2520 ^ n)) I J) : CL d Sb_evenShares [.int (nI n)] I J F := by
  have loop : ∀ k j, j + k = n → Wp (d - 1) Sb_evenShares (QL F) 4 [some (.int (nI n)), some (.long (lN (2520 ^ j))), none, some (.int (nI j))] [] I J := by
    intro k
    induction k with
    | zero =>
      intro j hj
      have hj : j = n := by omega
      subst hj
      exact v_Sb_evenShares_4 ⟨fun q => absurd ((n_lt (by omega) (by omega)).mp q) (Nat.lt_irrefl _), fun _ => QL_i.mpr h⟩
    | succ k ih =>
      intro j hj
      refine v_Sb_evenShares_4 ⟨fun _ => ?_, fun q => absurd ((n_lt (by omega) (by omega)).mpr (by omega)) q⟩
      have e : lN (2520 ^ j) * 2520 = lN (2520 ^ (j + 1)) := by rw [Nat.pow_succ]; exact lN_mul _ 2520
      rw [e, n_inc]
      exact ih (j + 1) (by omega)
  exact CL.of (by omega) rfl (v_Sb_evenShares_0 (loop n 0 (Nat.zero_add _)))
theorem c_Sb_gcd {a b : Nat} (hd : 1 ≤ d) (ha : a < 2 ^ 40) (hb : b < 2 ^ 40) (h : F (lN (Nat.gcd a b)) I J) : CL d Sb_greatestDivisor [.long (lN a), .long (lN b)] I J F := by
  have loop : ∀ k a b i, a < 2 ^ 40 → b < 2 ^ k → k ≤ 40 → i + 2 * k + 2 ≤ 128 → F (lN (Nat.gcd a b)) I J → Wp (d - 1) Sb_greatestDivisor (QL F) 3 [some (.long (lN a)), none, some (.long (lN b)), none, some (.int (nI i)), none, none] [] I J := by
    intro k
    induction k with
    | zero =>
      intro a b i ha hb hk hi h
      have b0 : b = 0 := by have : b < 1 := hb; omega
      subst b0
      rw [Nat.gcd_zero_right] at h
      exact v_Sb_greatestDivisor_3 ⟨fun _ => ⟨fun _ => QL_i.mpr h, fun q => absurd ((lN_0 (by omega)).mpr rfl) q⟩, fun _ => QL_i.mpr h⟩
    | succ k ih =>
      intro a b i ha hb hk hi h
      have h40 : 2 ^ (k + 1) ≤ 2 ^ 40 := Nat.pow_le_pow_right (by decide) hk
      have e2 : 2 ^ (k + 1) = 2 ^ k * 2 := Nat.pow_succ ..
      refine v_Sb_greatestDivisor_3 ⟨fun _ => ?_, fun q => absurd ((n_lt (b := 128) (by omega) (by decide)).mpr (by omega)) q⟩
      rw [lN_0 (by omega), n_inc]
      refine ⟨fun b0 => QL_i.mpr ?_, fun b0 => ⟨lN_n0 (by omega) b0, ?_⟩⟩
      · rw [b0, Nat.gcd_zero_right] at h; exact h
      · rw [gcd_step] at h
        have hr := Nat.mod_lt a (Nat.pos_of_ne_zero b0)
        rw [n_rmL (by omega) (by omega) (by omega)]
        generalize a % b = r at hr h ⊢
        refine v_Sb_greatestDivisor_3 ⟨fun _ => ?_, fun q => absurd ((n_lt (b := 128) (by omega) (by decide)).mpr (by omega)) q⟩
        rw [lN_0 (by omega), n_inc]
        refine ⟨fun r0 => QL_i.mpr ?_, fun r0 => ⟨lN_n0 (by omega) r0, ?_⟩⟩
        · rw [r0, Nat.gcd_zero_right] at h; exact h
        · rw [gcd_step] at h
          rw [n_rmL (by omega) (by omega) (by omega)]
          have h1 := Nat.mod_lt b (Nat.pos_of_ne_zero r0)
          have h2 : b % r ≤ b - r := by
            rw [Nat.mod_eq_sub_mod (by omega : b ≥ r)]
            exact Nat.mod_le _ _
          exact ih r (b % r) (i + 1 + 1) (by omega) (by omega) (by omega) (by omega) h
  exact CL.of (by omega) rfl (v_Sb_greatestDivisor_0 (loop 40 a b 0 ha hb (Nat.le_refl _) (by decide) h))
theorem c_Sb_openShares (hw : WFV V) (hV : CBx 1 V I) : ∀ n, n ≤ 3 → ∀ (d s : Nat) (F : Int64 → I2 → J2 → Prop), n + 6 ≤ d → okS V.B s → F (lN (shr V.B V.lid V.f n s)) I J → CL d Sb_openShares [.ref 1, .int (nI s), .int (nI n)] I J F := by
  have hp5 := hw.1.1
  have hf := f64 hw.1 hw.2.2.2.1
  intro n
  induction n with
  | zero =>
    intro _ d s F hd hs h
    have hs2 := s31 hw.1 hs.1
    refine CL.of (by omega) rfl (v_Sb_openShares_1_0 (c_Bx_isOpen_1 (by omega) hw.1 hV.1 hV.2.1 hw.2.1 (by omega) ?_))
    rw [show (decide (0 < V.B.pn) && decide (pl s V.lid = V.B.dp V.lid)) = openB V.B V.lid s from rfl, bI_0]
    simp only [shr] at h
    refine ⟨fun e => ⟨fun q => absurd q (by decide), fun _ => QL_i.mpr ?_⟩, fun e => c_Sb_evenShares (n := 0) (by omega) (by decide) (QL_i.mpr ?_)⟩
    · rw [if_neg (by rw [e]; decide)] at h; exact h
    · rw [if_pos (by simpa using e)] at h; exact h
  | succ n ih =>
    intro hn3 d s F hd hs h
    have hs2 := s31 hw.1 hs.1
    refine CL.of (by omega) rfl (v_Sb_openShares_1_0 (c_Bx_isOpen_1 (by omega) hw.1 hV.1 hV.2.1 hw.2.1 (by omega) ?_))
    rw [show (decide (0 < V.B.pn) && decide (pl s V.lid = V.B.dp V.lid)) = openB V.B V.lid s from rfl, bI_0]
    simp only [shr] at h
    refine ⟨fun e => ⟨fun _ => ?_, fun q => absurd ((n_p0 (by omega)).mpr (Nat.succ_pos n)) q⟩, fun e => c_Sb_evenShares (by omega) (by omega) (QL_i.mpr ?_)⟩
    · rw [if_neg (by rw [e]; decide)] at h
      have e2 : (2 : Int32) * nI V.B.pn = nI (2 * V.B.pn) := pk_mul 2 _
      have loop : ∀ k m, m + k = 2 * V.B.pn → Wp (d - 1) Sb_openShares (QL F) 27 [some (.ref 1), some (.int (nI s)), some (.int (nI (n + 1))), some (.long (lN (sumM V.B V.f s (shr V.B V.lid V.f n) m))), none, some (.int (nI (deg V.B V.f s m))), some (.int (nI m))] [] I J := by
        intro k
        induction k with
        | zero =>
          intro m hm
          have hm : m = 2 * V.B.pn := by omega
          subst hm
          have hdl := deg_le (B := V.B) (f := V.f) (s := s) (n := 2 * V.B.pn)
          refine v_Sb_openShares_1_27 ⟨fun q => ?_, fun _ => ?_⟩
          · rw [hV.1.1, e2] at q; exact absurd ((n_lt (by omega) (by omega)).mp q) (Nat.lt_irrefl _)
          · rw [n_e0 (by omega), nI_l (by omega)]
            refine ⟨fun z => QL_i.mpr ?_, fun z => ⟨lN_n0 (by omega) z, QL_i.mpr ?_⟩⟩
            · rw [if_pos z] at h; exact h
            · rw [if_neg z] at h
              have e3 : (2520 : Int64) / lN (deg V.B V.f s (2 * V.B.pn)) = lN (2520 / deg V.B V.f s (2 * V.B.pn)) := pk_lDiv (a := 2520) (by decide) (by omega) (by omega)
              rw [e3, lN_mul]; exact h
        | succ k ihk =>
          intro m hm
          have hlt : m < 2 * V.B.pn := by omega
          have go := ihk (m + 1) (by omega)
          simp only [sumM, deg] at go
          refine v_Sb_openShares_1_27 ⟨fun _ => ?_, fun q => absurd ((n_lt (by omega) (by omega)).mpr hlt) (by rw [hV.1.1, e2] at q; exact q)⟩
          have e3 : srI (nI m) 1 = nI (m / 2) := n_sr (k := 1) (by omega) (by decide)
          rw [hV.2.2.2.1, e3, n_and1 (by omega), n_inc, n_inc, n_dec (Nat.succ_pos n)]
          refine c_Bx_maySlide_1 (by omega) hw.1 hV.1 (by omega) (by omega) hf (Nat.mod_lt _ (by decide)) ?_
          rw [bI_0]
          refine ⟨fun z => ?_, fun z => ?_⟩
          · have hnx : nx V.B V.f s m = none := by unfold nx; rw [if_neg (by rw [z]; decide)]
            rw [hnx] at go; exact go
          · have z : mayB V.B s V.f (m / 2) (m % 2) = true := by simpa using z
            have hnx : nx V.B V.f s m = some (behB V.B s (m / 2) (m % 2) V.B.pn) := by unfold nx; rw [if_pos z]
            have hok := (nx_ok hw.1 hs hlt hnx).1
            rw [hnx] at go
            refine c_Bx_behind_1 (by omega) hw.1 hV.1 (by omega) (by omega) (Nat.mod_lt _ (by decide)) (may_place z).1 ?_
            refine ih (by omega) (d - 1) _ _ (by omega) hok ?_
            rw [lN_add]; exact go
      exact loop _ 0 (Nat.zero_add _)
    · rw [if_pos (by simpa using e)] at h; exact h
theorem gcd_pos' {a n : Nat} : 0 < Nat.gcd a (2520 ^ n) := Nat.gcd_pos_of_pos_right _ (Nat.pow_pos (by decide))
theorem fum_bd (V : Bv) {n : Nat} (h : n ≤ 3) : fumA V n ≤ 16003008000 ∧ 2520 ^ n ≤ 16003008000 ∧ Nat.gcd (fumA V n) (2520 ^ n) ≤ 16003008000 :=
  ⟨Nat.le_trans (shr_le n _) (pow25 h), pow25 h, Nat.le_trans (Nat.gcd_le_right _ (Nat.pow_pos (by decide))) (pow25 h)⟩
theorem c_Sb_fumble (hd : 10 ≤ d) (hw : WFV V) (hV : CBx 1 V I) (x y : Int32) (h : F (fumbleS V x y) I J) : CL d Sb_fumble [.ref 0, .int x, .int y] I J F := by
  refine CL.of (by omega) rfl (v_Sb_fumble_0_0 ?_)
  unfold fumbleS at h
  refine ⟨fun e => QL_i.mpr ?_, fun e1 => ⟨fun e => QL_i.mpr ?_, fun e2 => ⟨fun e => QL_i.mpr ?_, fun e3 => ⟨fun e => QL_i.mpr ?_, fun e4 => ?_⟩⟩⟩⟩
  · rw [if_pos (Or.inl e)] at h; exact h
  · rw [if_pos (Or.inr (Or.inl e))] at h; exact h
  · rw [if_pos (Or.inr (Or.inr (Or.inl e)))] at h; exact h
  · rw [if_pos (Or.inr (Or.inr (Or.inr e)))] at h; exact h
  · rw [if_neg (by simp only [not_or]; exact ⟨e1, e2, e3, e4⟩)] at h
    obtain ⟨n, hn, rfl⟩ := le_of (n := 3) e1 e2 (by decide)
    rw [n_tN (by omega)] at h
    rw [hV.2.2.1]
    obtain ⟨b1, b2, b3⟩ := fum_bd V hn
    have hg := gcd_pos' (a := fumA V n) (n := n)
    refine c_Sb_openShares hw hV n hn (d - 1) V.s _ (by omega) hw.2.2.1 (c_Sb_evenShares (by omega) (by omega) ?_)
    refine c_Sb_gcd (a := fumA V n) (by omega) (by omega) (by omega) ?_
    rw [show shr V.B V.lid V.f n V.s = fumA V n from rfl]
    generalize fumA V n = A at *
    generalize 2520 ^ n = P at *
    generalize Nat.gcd A P = g at *
    rw [lN_0 (by omega)]
    refine ⟨fun z => by omega, fun z => ⟨fun e => ⟨lN_n0 (by omega) z, QL_i.mpr ?_⟩, fun e => ⟨lN_n0 (by omega) z, QL_i.mpr ?_⟩⟩⟩
    · rw [if_pos e] at h; rw [pk_lDiv (by omega) hg (by omega)]; exact h
    · rw [if_neg e] at h; rw [pk_lDiv (by omega) hg (by omega)]; exact h
end FUM
