/-! THE LAW'S OWN HELPERS: cell, place, size, sort, outs, slid -/
section LW
variable {d : Nat} {I : I2} {J : J2} {F : Int32 → I2 → J2 → Prop} {B : Bx} {s f p w q a : Nat}
theorem i_2_z (a : Nat) : (2 : Int32) * nI a = nI (2 * a) := pk_mul 2 a
theorem i_4_z (a : Nat) : (4 : Int32) * nI a = nI (4 * a) := pk_mul 4 a
theorem i_6_z (p : Nat) : (6 : Int32) + 2 * nI p = nI (6 + 2 * p) := by rw [i_2_z]; exact nI_add 6 (2 * p)
theorem i_7_z (p : Nat) : (7 : Int32) + 2 * nI p = nI (7 + 2 * p) := by rw [i_2_z]; exact nI_add 7 (2 * p)
theorem i_16_z (l : Nat) : (16 : Int32) + 4 * nI l = nI (16 + 4 * l) := by rw [i_4_z]; exact nI_add 16 (4 * l)
theorem i_16k_z (l k : Nat) : nI (16 + 4 * l) + (OfNat.ofNat k : Int32) = nI (16 + 4 * l + k) := nI_add _ k
theorem i_sub1_z (n : Nat) : nI n + (-1) = nI n - 1 := (Int32.sub_eq_add_neg _ _).symm
theorem i_m1_z : nI 0 - 1 < 0 := by decide +kernel
theorem any_nI_z (v : Int32) : ∃ a, a < 2 ^ 32 ∧ v = nI a := ⟨v.toBitVec.toNat, v.toBitVec.isLt, by
  apply Int32.toBitVec_inj.mp
  show v.toBitVec = BitVec.ofNat 32 v.toBitVec.toNat
  rw [BitVec.ofNat_toNat, BitVec.setWidth_eq]⟩
theorem i_mask_z (v : Int32) : ∃ a, a < 2 ^ 31 ∧ v &&& 2147483647 = nI a := by
  obtain ⟨a, ha, rfl⟩ := any_nI_z v
  exact ⟨a % 2 ^ 31, Nat.mod_lt _ (by decide), pk_andN ha 31 (by decide +kernel)⟩
/-- a cell of the script, or what stands for one -/
def cel_z (I : I2) (x : Int32) : Int32 := if x < I 101 0 then I 100 (tN x) &&& 2147483647 else ((15485957 * x) + 107) &&& 2147483647
def Scr_z (I : I2) : Prop := ∃ L, L < 2 ^ 31 ∧ I 101 0 = nI L
theorem cel_nat_z (I : I2) (x : Int32) : ∃ a, a < 2 ^ 31 ∧ cel_z I x = nI a := by
  unfold cel_z
  split <;> exact i_mask_z _
theorem cel_57_z {I' : I2} (h : F57_z I I') (x : Int32) : cel_z I' x = cel_z I x := by unfold cel_z; rw [h 101 (by decide), h 100 (by decide)]
theorem Scr_z.fr {I' : I2} (hS : Scr_z I) (h : F57_z I I') : Scr_z I' := by obtain ⟨L, h1, h2⟩ := hS; exact ⟨L, h1, by rw [h 101 (by decide)]; exact h2⟩
theorem c_cell_z {k : Nat} (hd : 1 ≤ d) (hS : Scr_z I) (hk : k < 2 ^ 31) (h : F (cel_z I (nI k)) I J) : CI d Lw_cell [.ref 100, .int (nI k)] I J F := by
  obtain ⟨L, hL, e⟩ := hS
  refine CI.of hd rfl (v_Lw_cell_100_0 ⟨fun q => ⟨?_, QI_i.mpr ?_⟩, fun q => QI_i.mpr ?_⟩)
  · rw [e] at q ⊢; rw [nI_clamp hL]; exact n_vp ((n_lt hk hL).mp q) hL
  · unfold cel_z at h; rw [if_pos q] at h; exact h
  · unfold cel_z at h; rw [if_neg q] at h; exact h
theorem n_p2_z (hs : s < 2 ^ 31) (hq : q < 16) : (srI (nI s) (nI q + nI q)) &&& 3 = nI (pl s q) := by
  rw [nI_add, ← Nat.two_mul, ← pk_mul 2 q]; exact n_pl hs hq
theorem c_place_z (hd : 1 ≤ d) (hs : s < 2 ^ 31) (hq : q < 16) (h : F (nI (pl s q)) I J) : CI d Lw_place [.int (nI s), .int (nI q)] I J F :=
  CI.of hd rfl (v_Lw_place_0 (QI_i.mpr (by rw [n_p2_z hs hq]; exact h)))
def onN_z (a : Nat) : Nat → Nat
  | 0 => 0
  | n + 1 => onN_z a n + a / 2 ^ n % 2
theorem onN_6_z : ∀ a, a < 64 → onN_z a 6 = popN 6 a := by decide +kernel
theorem c_size_z (hd : 1 ≤ d) (ha : a < 64) (h : F (nI (popN 6 a)) I J) : CI d Lw_size [.int (nI a)] I J F := by
  have loop : ∀ k n, n + k = 6 → Wp (d - 1) Lw_size (QI F) 4 [some (.int (nI a)), some (.int (nI (onN_z a n))), some (.int (nI n))] [] I J := by
    intro k
    induction k with
    | zero =>
      intro n hn
      refine v_Lw_size_4 ⟨fun q => ?_, fun _ => QI_i.mpr ?_⟩
      · have := (n_lt (b := 6) (by omega) (by decide)).mp q; omega
      · rw [show n = 6 by omega, onN_6_z a ha]; exact h
    | succ k ih =>
      intro n hn
      refine v_Lw_size_4 ⟨fun _ => ?_, fun q => ?_⟩
      · rw [n_sr (by omega) (by omega), n_and1 (Nat.lt_of_le_of_lt (Nat.div_le_self _ _) (by omega)), nI_add, n_inc]
        exact ih (n + 1) (by omega)
      · exact absurd ((n_lt (b := 6) (by omega) (by decide)).mpr (by omega)) q
  exact CI.of hd rfl (v_Lw_size_0 (loop 6 0 rfl))
def srt_z (k : Nat) : Nat := if k = 0 then 112 else if k = 1 then 115 else if k = 2 then 114 else if k = 3 then 108 else 98
theorem c_sort_z {k : Nat} (hd : 1 ≤ d) (hk : k < 5) (h : F (nI (srt_z k)) I J) : CI d Lw_sort [.int (nI k)] I J F := by
  refine CI.of hd rfl (v_Lw_sort_0 ?_)
  match k, hk with
  | 0, _ => exact ⟨fun _ => QI_i.mpr h, fun q => absurd rfl q⟩
  | 1, _ => exact ⟨fun q => absurd q (by decide +kernel), fun _ => ⟨fun _ => QI_i.mpr h, fun q => absurd rfl q⟩⟩
  | 2, _ => exact ⟨fun q => absurd q (by decide +kernel), fun _ => ⟨fun q => absurd q (by decide +kernel), fun _ => ⟨fun _ => QI_i.mpr h, fun q => absurd rfl q⟩⟩⟩
  | 3, _ => exact ⟨fun q => absurd q (by decide +kernel), fun _ => ⟨fun q => absurd q (by decide +kernel), fun _ => ⟨fun q => absurd q (by decide +kernel), fun _ => ⟨fun _ => QI_i.mpr h, fun q => absurd rfl q⟩⟩⟩⟩
  | 4, _ => exact ⟨fun q => absurd q (by decide +kernel), fun _ => ⟨fun q => absurd q (by decide +kernel), fun _ => ⟨fun q => absurd q (by decide +kernel), fun _ => ⟨fun q => absurd q (by decide +kernel), fun _ => QI_i.mpr h⟩⟩⟩⟩
/-- the box, as the law keeps it -/
def WBx_z (B : Bx) (I : I2) : Prop := I 57 0 = nI B.pn ∧ I 57 1 = nI B.ln ∧ (∀ p, p < B.pn → I 57 (6 + 2 * p) = nI (B.kd p) ∧ I 57 (7 + 2 * p) = nI (B.dp p)) ∧ ∀ l, l < B.ln → I 57 (16 + 4 * l) = nI (B.ow l) ∧ I 57 (16 + 4 * l + 1) = nI (B.wy l) ∧ I 57 (16 + 4 * l + 2) = nI (B.ot l) ∧ I 57 (16 + 4 * l + 3) = nI (B.ps l)
theorem c_outs_z (hd : 2 ≤ d) (hw : WFB B) (hp : I 57 0 = nI B.pn) (hs5 : I 57 5 = nI s) (hs : s < 2 ^ 31) (h : F (nI (outN s B.pn)) I J) : CI d Lw_outs [.ref 57] I J F := by
  have hp5 := hw.1
  have loop : ∀ k n, n + k = B.pn → Wp (d - 1) Lw_outs (QI F) 4 [some (.ref 57), some (.int (nI (outN s n))), some (.int (nI n))] [] I J := by
    intro k
    induction k with
    | zero =>
      intro n hn
      refine v_Lw_outs_57_4 ⟨fun q => ?_, fun _ => QI_i.mpr ?_⟩
      · rw [hp] at q; have := (n_lt (by omega) (by omega)).mp q; omega
      · rw [show n = B.pn by omega]; exact h
    | succ k ih =>
      intro n hn
      refine v_Lw_outs_57_4 ⟨fun _ => ?_, fun q => ?_⟩
      · rw [hs5]
        refine c_place_z (by omega) hs (by omega) ?_
        have hpl := pl_lt s n
        rw [n_p0 (by omega)]
        have e : outN s (n + 1) = outN s n ||| (if 0 < pl s n then 2 ^ n else 0) := rfl
        refine ⟨fun q => ?_, fun q => ?_⟩
        · rw [n_one (by omega), n_or, n_inc]
          rw [if_pos q] at e; rw [← e]
          exact ih (n + 1) (by omega)
        · rw [n_or0, n_inc]
          rw [if_neg q, Nat.or_zero] at e; rw [← e]
          exact ih (n + 1) (by omega)
      · rw [hp] at q; exact absurd ((n_lt (by omega) (by omega)).mpr (by omega)) q
  exact CI.of (by omega) rfl (v_Lw_outs_57_0 (loop B.pn 0 (Nat.zero_add _)))
/-! slid -/
theorem z_241_z (hd : 1 ≤ d) (hw : WFB B) (hB : WBx_z B I) (hs : s < 2 ^ 31) {x2 x3 x4 x5 x6 : Int32} (h : F (-1) I J) : ∀ n, n ≤ B.pn → ∀ x8 : Int32, Wp d Lw_slid (QI F) 241 [some (.ref 57), some (.int (nI s)), some (.int x2), some (.int x3), some (.int x4), some (.int x5), some (.int x6), some (.int 0), some (.int x8), some (.int (nI n - 1)), none, none, none] [] I J := by
  have hp5 := hw.1
  intro n
  induction n with
  | zero => intro _ x8; exact v_Lw_slid_57_241 ⟨fun _ => ⟨fun _ => QI_i.mpr h, fun q => absurd rfl q⟩, fun q => absurd i_m1_z q⟩
  | succ n ih =>
    intro hn x8
    have ih' : ∀ x8 : Int32, Wp d Lw_slid (QI F) 241 [some (.ref 57), some (.int (nI s)), some (.int x2), some (.int x3), some (.int x4), some (.int x5), some (.int x6), some (.int 0), some (.int x8), some (.int (nI n + (-1))), none, none, none] [] I J := fun x8 => by rw [i_sub1_z]; exact ih (by omega) x8
    rw [nI_pred]
    refine v_Lw_slid_57_241 ⟨fun q => absurd q (nI_pos (by omega)), fun _ => c_place_z (s := s) hd hs (by omega) ?_⟩
    rw [i_6_z, i_7_z, n_tN (by omega), n_tN (by omega)]
    exact ⟨n_vp (by omega) (by decide), fun _ => ih' _, fun _ => ⟨fun _ => ⟨fun _ => ih' _, fun _ => ⟨fun _ => ⟨n_vp (by omega) (by decide), fun _ => ih' _, fun _ => ih' _⟩, fun _ => ih' _⟩⟩, fun _ => ih' _⟩⟩
theorem z_196_z (hd : 1 ≤ d) (hw : WFB B) (hB : WBx_z B I) (hs : s < 2 ^ 31) (hp : p < B.pn) {x3 x4 x5 x6 : Int32} (h : F (-1) I J) : ∀ k n, n + k = p → Wp d Lw_slid (QI F) 196 [some (.ref 57), some (.int (nI s)), some (.int (nI p)), some (.int x3), some (.int x4), some (.int x5), some (.int x6), some (.int 0), some (.int (nI n)), none, none, none, none] [] I J := by
  have hp5 := hw.1
  have fin : Wp d Lw_slid (QI F) 241 [some (.ref 57), some (.int (nI s)), some (.int (nI p)), some (.int x3), some (.int x4), some (.int x5), some (.int x6), some (.int 0), some (.int 0), some (.int ((I 57 0) - 1)), none, none, none] [] I J := by
    rw [hB.1]; exact z_241_z hd hw hB hs h B.pn (Nat.le_refl _) 0
  intro k
  induction k with
  | zero =>
    intro n hn
    refine v_Lw_slid_57_196 ⟨fun q => ?_, fun _ => fin⟩
    exfalso
    by_cases e : p = 0
    · rw [e, show n = 0 by omega] at q
      exact absurd q (by decide +kernel)
    · rw [n_dec (by omega), n_lt (by omega) (by omega)] at q; omega
  | succ k ih =>
    intro n hn
    refine v_Lw_slid_57_196 ⟨fun _ => ⟨fun _ => ?_, fun q => absurd rfl q⟩, fun _ => fin⟩
    rw [n_inc]; exact ih (n + 1) (by omega)
theorem z_51_z (hd : 1 ≤ d) (hw : WFB B) (hB : WBx_z B I) (hs : s < 2 ^ 31) (hf : f < 64) (hp : p < B.pn) {x3 x5 x6 : Int32} (h : F (-1) I J) : ∀ k n, n + k = B.ln → Wp d Lw_slid (QI F) 51 [some (.ref 57), some (.int (nI s)), some (.int (nI p)), some (.int x3), some (.int (nI f)), some (.int x5), some (.int x6), some (.int 0), some (.int (nI n)), none, none, none, none] [] I J := by
  have hp5 := hw.1
  have hl6 := hw.2.1
  have fin : Wp d Lw_slid (QI F) 241 [some (.ref 57), some (.int (nI s)), some (.int (nI p)), some (.int x3), some (.int (nI f)), some (.int x5), some (.int x6), some (.int 0), some (.int 0), some (.int ((I 57 0) - 1)), none, none, none] [] I J := by
    rw [hB.1]; exact z_241_z hd hw hB hs h B.pn (Nat.le_refl _) 0
  have fin2 := z_196_z (J := J) hd hw hB hs hp (x3 := x3) (x4 := nI f) (x5 := x5) (x6 := x6) h p 0 (Nat.zero_add _)
  intro k
  induction k with
  | zero =>
    intro n hn
    refine v_Lw_slid_57_51 ⟨fun q => ?_, fun _ => ⟨fun _ => ⟨fun _ => ⟨fun _ => fin2, fun q => absurd rfl q⟩, fun _ => ⟨fun _ => ⟨fun _ => ⟨fun _ => fin2, fun q => absurd rfl q⟩, fun _ => fin⟩, fun _ => fin⟩⟩, fun _ => fin⟩⟩
    rw [hB.2.1] at q; have := (n_lt (by omega) (by omega)).mp q; omega
  | succ k ih =>
    intro n hn
    obtain ⟨b1, b2, b3, b4⟩ := hB.2.2.2 n (by omega)
    obtain ⟨k1, k2, k3, k4, k5⟩ := hw.2.2.2 n (by omega)
    have nxt : Wp d Lw_slid (QI F) 51 [some (.ref 57), some (.int (nI s)), some (.int (nI p)), some (.int x3), some (.int (nI f)), some (.int x5), some (.int x6), some (.int 0), some (.int (nI n + 1)), none, none, none, none] [] I J := by
      rw [n_inc]; exact ih (n + 1) (by omega)
    have a124 : ∀ x9 : Int32, Wp d Lw_slid (QI F) 124 [some (.ref 57), some (.int (nI s)), some (.int (nI p)), some (.int x3), some (.int (nI f)), some (.int x5), some (.int x6), some (.int 0), some (.int (nI n)), some (.int x9), none, none, none] [] I J := fun x9 => v_Lw_slid_57_124 ⟨fun _ => nxt, fun q => absurd rfl q⟩
    refine v_Lw_slid_57_51 ⟨fun _ => ⟨fun _ => ?_, fun _ => a124 _⟩, fun q => ?_⟩
    · rw [i_16_z, show nI (16 + 4 * n) + 1 = nI (16 + 4 * n + 1) from nI_add _ 1, show nI (16 + 4 * n) + 2 = nI (16 + 4 * n + 2) from nI_add _ 2, show nI (16 + 4 * n) + 3 = nI (16 + 4 * n + 3) from nI_add _ 3, n_tN (show 16 + 4 * n < 2 ^ 31 by omega), n_tN (show 16 + 4 * n + 1 < 2 ^ 31 by omega), n_tN (show 16 + 4 * n + 2 < 2 ^ 31 by omega), n_tN (show 16 + 4 * n + 3 < 2 ^ 31 by omega)]
      refine ⟨n_vp (by omega) (by decide), fun _ => ⟨n_vp (by omega) (by decide), fun _ => a124 _, fun _ => ⟨n_vp (by omega) (by decide), n_vp (by omega) (by decide), ?_⟩⟩, fun _ => a124 _⟩
      rw [b3]
      exact c_place_z hd hs (by omega) ⟨fun _ => ⟨fun _ => nxt, fun q => absurd rfl q⟩, fun _ => a124 _⟩
    · rw [hB.2.1] at q; exact absurd ((n_lt (by omega) (by omega)).mpr (by omega)) q
theorem q4_z (X n : Nat) : X / 4 ^ n = 4 * (X / 4 ^ (n + 1)) + pl X n := by
  unfold pl
  rw [Nat.pow_succ, ← Nat.div_div_eq_div_mul]
  omega
theorem y_241_z (hd : 1 ≤ d) (hw : WFB B) (hB : WBx_z B I) (hs : okS B s) (hp : p < B.pn) (hw2 : w < 2) (hm : mayB B s f p w = true) {x3 x4 x6 : Int32} (h : F (nI (behB B s p w B.pn)) I J) : ∀ n, n ≤ B.pn → Wp d Lw_slid (QI F) 241 [some (.ref 57), some (.int (nI s)), some (.int (nI p)), some (.int x3), some (.int x4), some (.int (nI (if w = 1 then pl s p + 1 else pl s p - 1))), some (.int x6), some (.int 1), some (.int (nI (behB B s p w B.pn / 4 ^ n))), some (.int (nI n - 1)), none, none, none] [] I J := by
  have hp5 := hw.1
  have hs2 := s31 hw hs.1
  have hpl := may_place hm
  have hdp := (hw.2.2.1 p hp).2.2
  have hlt : ∀ q, q < B.pn → plB B s p w q < 4 := fun q hq => plB_lt (fun e => by have := hpl.2 (by omega); omega)
  have hX : behB B s p w B.pn = Sm (plB B s p w) B.pn := behB_Sm hlt
  intro n
  induction n with
  | zero =>
    intro _
    refine v_Lw_slid_57_241 ⟨fun _ => ⟨fun q => absurd q (by decide), fun _ => QI_i.mpr ?_⟩, fun q => absurd i_m1_z q⟩
    rw [Nat.pow_zero, Nat.div_one]; exact h
  | succ n ih =>
    intro hn
    have leaf : ∀ v, plB B s p w n = v → Wp d Lw_slid (QI F) 241 [some (.ref 57), some (.int (nI s)), some (.int (nI p)), some (.int x3), some (.int x4), some (.int (nI (if w = 1 then pl s p + 1 else pl s p - 1))), some (.int x6), some (.int 1), some (.int (4 * nI (behB B s p w B.pn / 4 ^ (n + 1)) + nI v)), some (.int (nI n + (-1))), none, none, none] [] I J := by
      intro v hv
      have e : behB B s p w B.pn / 4 ^ n = 4 * (behB B s p w B.pn / 4 ^ (n + 1)) + v := by
        rw [q4_z, ← hv]
        congr 1
        rw [hX]; exact pl_Sm hlt (by omega)
      rw [i_4_z, nI_add, ← e, i_sub1_z]
      exact ih (by omega)
    obtain ⟨b1, b2⟩ := hB.2.2.1 n (by omega)
    obtain ⟨c1, c2, c3⟩ := hw.2.2.1 n (by omega)
    have hln := pl_lt s n
    rw [nI_pred]
    refine v_Lw_slid_57_241 ⟨fun q => absurd q (nI_pos (by omega)), fun _ => c_place_z hd (by omega) (by omega) ?_⟩
    rw [i_6_z, i_7_z, n_tN (by omega), n_tN (by omega), b1, b2, n_eq (by omega) (by omega), n_p0 (by omega), n_lt (by omega) (by omega), show (nI (B.kd n) = 1) = (B.kd n = 1) from propext (n_eq (b := 1) (by omega) (by decide)), show (nI (B.kd n) = 3) = (B.kd n = 3) from propext (n_eq (b := 3) (by omega) (by decide))]
    refine ⟨n_vp (by omega) (by decide), fun e => leaf _ ?_, fun e => ⟨fun e0 => ⟨fun e1 => ?_, fun e1 => ⟨fun e3 => ⟨n_vp (by omega) (by decide), fun e4 => ?_, fun e4 => leaf _ ?_⟩, fun e3 => leaf _ ?_⟩⟩, fun e0 => leaf _ ?_⟩⟩
    · unfold plB; rw [if_pos e, e]
    · rw [n_dec e0]; exact leaf _ (by unfold plB slips; rw [if_neg e]; simp [e0, e1])
    · rw [n_dec e0]; exact leaf _ (by unfold plB slips; rw [if_neg e]; simp [e0, e3, e4])
    · unfold plB slips; rw [if_neg e]; simp [e1, e3, e4]
    · unfold plB slips; rw [if_neg e]; simp [e1, e3]
    · unfold plB slips; rw [if_neg e]; simp [e0]
theorem Sm_zero_z {g : Nat → Nat} : ∀ n, (∀ q, q < n → g q = 0) → Sm g n = 0 := by
  intro n
  induction n with
  | zero => intro _; rfl
  | succ n ih => intro h; simp only [Sm]; rw [ih (fun q hq => h q (by omega)), h n (by omega)]; simp
theorem Sm_zero'_z {g : Nat → Nat} : ∀ n, Sm g n = 0 → ∀ q, q < n → g q = 0 := by
  intro n
  induction n with
  | zero => intro _ q hq; omega
  | succ n ih =>
    intro h q hq
    simp only [Sm] at h
    have h1 : Sm g n = 0 := by omega
    have h2 : g n * 4 ^ n = 0 := by omega
    have h3 : g n = 0 := by
      rcases Nat.mul_eq_zero.mp h2 with z | z
      · exact z
      · exact absurd z (Nat.pos_iff_ne_zero.mp (Nat.pow_pos (by decide)))
    by_cases e : q = n
    · rw [e]; exact h3
    · exact ih h1 q (by omega)
theorem all0_z (s m : Nat) : s % 4 ^ m = 0 ↔ ∀ q, q < m → pl s q = 0 := by
  rw [← Sm_pl s m]
  exact ⟨Sm_zero'_z m, Sm_zero_z m⟩
theorem y_196_z (hd : 1 ≤ d) (hw : WFB B) (hB : WBx_z B I) (hs : s < 2 ^ 31) (hp : p < B.pn) (hp0 : 0 < p) {x3 x4 x5 x6 : Int32} (hT : (∀ q, q < p - 1 → pl s q = 0) → Wp d Lw_slid (QI F) 241 [some (.ref 57), some (.int (nI s)), some (.int (nI p)), some (.int x3), some (.int x4), some (.int x5), some (.int x6), some (.int 1), some (.int 0), some (.int ((I 57 0) - 1)), none, none, none] [] I J) (hZ : ¬ (∀ q, q < p - 1 → pl s q = 0) → F (-1) I J) : ∀ k n, n + k = p - 1 → (∀ q, q < n → pl s q = 0) → Wp d Lw_slid (QI F) 196 [some (.ref 57), some (.int (nI s)), some (.int (nI p)), some (.int x3), some (.int x4), some (.int x5), some (.int x6), some (.int 1), some (.int (nI n)), none, none, none, none] [] I J := by
  have hp5 := hw.1
  intro k
  induction k with
  | zero =>
    intro n hn h0
    refine v_Lw_slid_57_196 ⟨fun q => ?_, fun _ => hT (fun q hq => h0 q (by omega))⟩
    rw [n_dec (by omega), n_lt (by omega) (by omega)] at q; omega
  | succ k ih =>
    intro n hn h0
    have hln := pl_lt s n
    refine v_Lw_slid_57_196 ⟨fun _ => ⟨fun q => absurd q (by decide), fun _ => c_place_z hd hs (by omega) ?_⟩, fun q => ?_⟩
    · rw [n_e0 (by omega)]
      refine ⟨fun e => ?_, fun e => ?_⟩
      · rw [n_inc]; exact ih (n + 1) (by omega) (fun q hq => by
          by_cases e2 : q = n
          · rw [e2]; exact e
          · exact h0 q (by omega))
      · rw [n_inc]; exact z_196_z hd hw hB hs hp (hZ (fun z => e (z n (by omega)))) (p - (n + 1)) (n + 1) (by omega)
    · rw [n_dec (by omega), n_lt (by omega) (by omega)] at q; omega
abbrev lksB_z (B : Bx) (s f p w n : Nat) : Prop := ∀ l, l < n → con B l p w = true → met B l s = false → f.testBit l = true
theorem y_51_z (hd : 1 ≤ d) (hw : WFB B) (hB : WBx_z B I) (hs : s < 2 ^ 31) (hf : f < 64) (hp : p < B.pn) (hw2 : w < 2) {x5 x6 : Int32} (hT : lksB_z B s f p w B.ln → (0 < p → (x6 = 2 → CI d Lw_place [.int (nI s), .int (nI p - 1)] I J (fun v1 I1 J1 => (0 < v1 → Wp d Lw_slid (QI F) 196 [some (.ref 57), some (.int (nI s)), some (.int (nI p)), some (.int (nI w)), some (.int (nI f)), some (.int x5), some (.int x6), some (.int 1), some (.int 0), none, none, none, none] [] I1 J1) ∧ (¬ (0 < v1) → Wp d Lw_slid (QI F) 196 [some (.ref 57), some (.int (nI s)), some (.int (nI p)), some (.int (nI w)), some (.int (nI f)), some (.int x5), some (.int x6), some (.int 0), some (.int 0), none, none, none, none] [] I1 J1))) ∧ (¬ x6 = 2 → (x6 = 4 → w = 1 → CI d Lw_place [.int (nI s), .int (nI p - 1)] I J (fun v1 I1 J1 => (0 < v1 → Wp d Lw_slid (QI F) 196 [some (.ref 57), some (.int (nI s)), some (.int (nI p)), some (.int (nI w)), some (.int (nI f)), some (.int x5), some (.int x6), some (.int 1), some (.int 0), none, none, none, none] [] I1 J1) ∧ (¬ (0 < v1) → Wp d Lw_slid (QI F) 196 [some (.ref 57), some (.int (nI s)), some (.int (nI p)), some (.int (nI w)), some (.int (nI f)), some (.int x5), some (.int x6), some (.int 0), some (.int 0), none, none, none, none] [] I1 J1))) ∧ (¬ (x6 = 4 ∧ w = 1) → Wp d Lw_slid (QI F) 241 [some (.ref 57), some (.int (nI s)), some (.int (nI p)), some (.int (nI w)), some (.int (nI f)), some (.int x5), some (.int x6), some (.int 1), some (.int 0), some (.int ((I 57 0) - 1)), none, none, none] [] I J))) ∧ (¬ 0 < p → Wp d Lw_slid (QI F) 241 [some (.ref 57), some (.int (nI s)), some (.int (nI p)), some (.int (nI w)), some (.int (nI f)), some (.int x5), some (.int x6), some (.int 1), some (.int 0), some (.int ((I 57 0) - 1)), none, none, none] [] I J)) (hZ : ¬ lksB_z B s f p w B.ln → F (-1) I J) : ∀ k n, n + k = B.ln → lksB_z B s f p w n → Wp d Lw_slid (QI F) 51 [some (.ref 57), some (.int (nI s)), some (.int (nI p)), some (.int (nI w)), some (.int (nI f)), some (.int x5), some (.int x6), some (.int 1), some (.int (nI n)), none, none, none, none] [] I J := by
  have hp5 := hw.1
  have hl6 := hw.2.1
  intro k
  induction k with
  | zero =>
    intro n hn h0
    have en : n = B.ln := by omega
    obtain ⟨t1, t2⟩ := hT (en ▸ h0)
    refine v_Lw_slid_57_51 ⟨fun q => ?_, fun _ => ?_⟩
    · rw [hB.2.1] at q; have := (n_lt (by omega) (by omega)).mp q; omega
    · rw [n_p0 (by omega), show (nI w = 1) = (w = 1) from propext (n_eq (b := 1) (by omega) (by decide))]
      exact ⟨fun e => ⟨fun e2 => ⟨fun q => absurd q (by decide), fun _ => (t1 e).1 e2⟩, fun e2 => ⟨fun e4 => ⟨fun e1 => ⟨fun q => absurd q (by decide), fun _ => ((t1 e).2 e2).1 e4 e1⟩, fun e1 => ((t1 e).2 e2).2 (fun q => e1 q.2)⟩, fun e4 => ((t1 e).2 e2).2 (fun q => e4 q.1)⟩⟩, t2⟩
  | succ k ih =>
    intro n hn h0
    obtain ⟨b1, b2, b3, b4⟩ := hB.2.2.2 n (by omega)
    obtain ⟨k1, k2, k3, k4, k5⟩ := hw.2.2.2 n (by omega)
    have nxt : (con B n p w = true → met B n s = false → f.testBit n = true) → Wp d Lw_slid (QI F) 51 [some (.ref 57), some (.int (nI s)), some (.int (nI p)), some (.int (nI w)), some (.int (nI f)), some (.int x5), some (.int x6), some (.int 1), some (.int (nI n + 1)), none, none, none, none] [] I J := by
      intro e
      rw [n_inc]; exact ih (n + 1) (by omega) (fun l hl => by
        by_cases e2 : l = n
        · rw [e2]; exact e
        · exact h0 l (by omega))
    have a124 : ∀ x9 : Int32, (con B n p w = true → met B n s = false → f.testBit n = true) → Wp d Lw_slid (QI F) 124 [some (.ref 57), some (.int (nI s)), some (.int (nI p)), some (.int (nI w)), some (.int (nI f)), some (.int x5), some (.int x6), some (.int 1), some (.int (nI n)), some (.int x9), none, none, none] [] I J := fun x9 e => v_Lw_slid_57_124 ⟨fun q => absurd q (by decide), fun _ => nxt e⟩
    refine v_Lw_slid_57_51 ⟨fun _ => ?_, fun q => ?_⟩
    · rw [n_bit hf (by omega), i_16_z, show nI (16 + 4 * n) + 1 = nI (16 + 4 * n + 1) from nI_add _ 1, show nI (16 + 4 * n) + 2 = nI (16 + 4 * n + 2) from nI_add _ 2, show nI (16 + 4 * n) + 3 = nI (16 + 4 * n + 3) from nI_add _ 3, n_tN (show 16 + 4 * n < 2 ^ 31 by omega), n_tN (show 16 + 4 * n + 1 < 2 ^ 31 by omega), n_tN (show 16 + 4 * n + 2 < 2 ^ 31 by omega), n_tN (show 16 + 4 * n + 3 < 2 ^ 31 by omega), b1, b2, b3, b4, n_eq (by omega) (by omega), show (1 : Int32) - nI w = nI (1 - w) from n_sub (a := 1) (by omega), n_eq (by omega) (by omega)]
      refine ⟨fun e1 => ⟨n_vp (by omega) (by decide), fun e2 => ⟨n_vp (by omega) (by decide), fun e3 => a124 _ (fun hc => ?_), fun e3 => ⟨n_vp (by omega) (by decide), n_vp (by omega) (by decide), c_place_z hd hs (by omega) ?_⟩⟩, fun e2 => a124 _ (fun hc => ?_)⟩, fun e1 => a124 _ (fun _ _ => by simpa using e1)⟩
      · simp only [con, Bool.and_eq_true, Bool.or_eq_true, decide_eq_true_eq] at hc; omega
      · rw [n_met hw (by omega), bI_0]
        refine ⟨fun e4 => ⟨fun q => absurd q (by decide), fun _ => ?_⟩, fun e4 => a124 _ (fun _ q => absurd q e4)⟩
        rw [n_inc]
        refine z_51_z hd hw hB hs hf hp (hZ (fun z => ?_)) k (n + 1) (by omega)
        have := z n (by omega) (by simp only [con, Bool.and_eq_true, Bool.or_eq_true, decide_eq_true_eq]; omega) e4
        rw [e1] at this; cases this
      · simp only [con, Bool.and_eq_true, Bool.or_eq_true, decide_eq_true_eq] at hc; exact absurd hc.1 e2
    · rw [hB.2.1] at q; exact absurd ((n_lt (by omega) (by omega)).mpr (by omega)) q
theorem c_slid_z (hd : 2 ≤ d) (hw : WFB B) (hB : WBx_z B I) (hs : okS B s) (hf : f < 64) (hp : p < B.pn) (hw2 : w < 2) (h : F (if mayB B s f p w then nI (behB B s p w B.pn) else -1) I J) : CI d Lw_slid [.ref 57, .int (nI s), .int (nI p), .int (nI w), .int (nI f)] I J F := by
  have hp5 := hw.1
  have hs2 := s31 hw hs.1
  have hpl := pl_lt s p
  have hple := hs.2 p hp
  obtain ⟨b1, b2⟩ := hB.2.2.1 p hp
  obtain ⟨c1, c2, c3⟩ := hw.2.2.1 p hp
  have hno : mayB B s f p w = false → F (-1) I J := fun e => by rw [e] at h; exact h
  have z0 : ∀ x5 x6 : Int32, mayB B s f p w = false → Wp (d - 1) Lw_slid (QI F) 51 [some (.ref 57), some (.int (nI s)), some (.int (nI p)), some (.int (nI w)), some (.int (nI f)), some (.int x5), some (.int x6), some (.int 0), some (.int 0), none, none, none, none] [] I J := fun x5 x6 e => z_51_z (by omega) hw hB (by omega) hf hp (hno e) B.ln 0 (Nat.zero_add _)
  have mayE : mayB B s f p w = (fitsB B s p w && decide (lksB_z B s f p w B.ln)) := rfl
  -- the walk where the place is one that the panel has
  have y0 : (if w = 0 then decide (0 < pl s p) else decide (pl s p < B.dp p)) = true → Wp (d - 1) Lw_slid (QI F) 51 [some (.ref 57), some (.int (nI s)), some (.int (nI p)), some (.int (nI w)), some (.int (nI f)), some (.int (nI (if w = 1 then pl s p + 1 else pl s p - 1))), some (.int (nI (B.kd p))), some (.int 1), some (.int 0), none, none, none, none] [] I J := by
    intro hfit
    have fin : mayB B s f p w = true → Wp (d - 1) Lw_slid (QI F) 241 [some (.ref 57), some (.int (nI s)), some (.int (nI p)), some (.int (nI w)), some (.int (nI f)), some (.int (nI (if w = 1 then pl s p + 1 else pl s p - 1))), some (.int (nI (B.kd p))), some (.int 1), some (.int 0), some (.int ((I 57 0) - 1)), none, none, none] [] I J := by
      intro hm
      rw [hB.1]
      have e0 : behB B s p w B.pn / 4 ^ B.pn = 0 := Nat.div_eq_of_lt (okS_beh hw hs hp hw2 hm).1
      have := y_241_z (J := J) (F := F) (x3 := nI w) (x4 := nI f) (x6 := nI (B.kd p)) (d := d - 1) (by omega) hw hB hs hp hw2 hm (by rw [hm] at h; exact h) B.pn (Nat.le_refl _)
      rw [e0] at this
      exact this
    refine y_51_z (by omega) hw hB (by omega) hf hp hw2 (fun hL => ?_) (fun hL => hno ?_) B.ln 0 (Nat.zero_add _) (fun l hl => absurd hl (Nat.not_lt_zero l))
    · have mayR : ∀ kdR : Bool, (!(decide (B.kd p = 2) || (decide (B.kd p = 4) && decide (w = 1))) || ringL s p) = kdR → mayB B s f p w = kdR := by
        intro k e
        rw [mayE, show decide (lksB_z B s f p w B.ln) = true from decide_eq_true hL, Bool.and_true]
        unfold fitsB
        rw [hfit, e, Bool.true_and]
      have ring : 0 < p → ((!(decide (B.kd p = 2) || (decide (B.kd p = 4) && decide (w = 1)))) = false) → CI (d - 1) Lw_place [.int (nI s), .int (nI p - 1)] I J (fun v1 I1 J1 => (0 < v1 → Wp (d - 1) Lw_slid (QI F) 196 [some (.ref 57), some (.int (nI s)), some (.int (nI p)), some (.int (nI w)), some (.int (nI f)), some (.int (nI (if w = 1 then pl s p + 1 else pl s p - 1))), some (.int (nI (B.kd p))), some (.int 1), some (.int 0), none, none, none, none] [] I1 J1) ∧ (¬ (0 < v1) → Wp (d - 1) Lw_slid (QI F) 196 [some (.ref 57), some (.int (nI s)), some (.int (nI p)), some (.int (nI w)), some (.int (nI f)), some (.int (nI (if w = 1 then pl s p + 1 else pl s p - 1))), some (.int (nI (B.kd p))), some (.int 0), some (.int 0), none, none, none, none] [] I1 J1)) := by
        intro hp0 hk
        have hl1 := pl_lt s (p - 1)
        rw [n_dec hp0]
        refine c_place_z (by omega) (by omega) (by omega) ?_
        rw [n_p0 (by omega)]
        refine ⟨fun e => y_196_z (by omega) hw hB (by omega) hp hp0 (fun hz => fin (mayR true ?_)) (fun hz => hno (mayR false ?_)) (p - 1) 0 (Nat.zero_add _) (fun q hq => absurd hq (Nat.not_lt_zero q)), fun e => z_196_z (by omega) hw hB (by omega) hp (hno (mayR false ?_)) p 0 (Nat.zero_add _)⟩
        · rw [hk, Bool.false_or]
          unfold ringL
          rw [decide_eq_true e, decide_eq_true ((all0_z s (p - 1)).mpr hz)]
          simp
        · rw [hk, Bool.false_or]
          unfold ringL
          rw [decide_eq_false (fun q => hz ((all0_z s (p - 1)).mp q)), decide_eq_false (show ¬ p = 0 by omega)]
          simp
        · rw [hk, Bool.false_or]
          unfold ringL
          rw [decide_eq_false e, decide_eq_false (show ¬ p = 0 by omega)]
          simp
      refine ⟨fun hp0 => ⟨fun e2 => ring hp0 ?_, fun e2 => ⟨fun e4 e1 => ring hp0 ?_, fun e4 => fin (mayR true ?_)⟩⟩, fun hp0 => fin (mayR true ?_)⟩
      · have := (n_eq (b := 2) (show B.kd p < 2 ^ 31 by omega) (by decide)).mp e2
        simp [this]
      · have := (n_eq (b := 4) (show B.kd p < 2 ^ 31 by omega) (by decide)).mp e4
        simp [this, e1]
      · have e2' : ¬ B.kd p = 2 := fun q => e2 (by rw [q]; rfl)
        have e4' : ¬ (B.kd p = 4 ∧ w = 1) := fun q => e4 ⟨by rw [q.1]; rfl, q.2⟩
        by_cases k4 : B.kd p = 4
        · have : ¬ w = 1 := fun q => e4' ⟨k4, q⟩
          simp [e2', this]
        · simp [e2', k4]
      · have : p = 0 := by omega
        simp [ringL, this]
    · rw [mayE, decide_eq_false hL, Bool.and_false]
  refine CI.of (by omega) rfl (v_Lw_slid_57_0 (c_place_z (by omega) (by omega) (by omega) ?_))
  rw [i_6_z, i_7_z, n_tN (by omega), n_tN (by omega), b1, b2, i_2_z]
  match w, hw2 with
  | 0, _ =>
    have y0 := y0
    simp only [↓reduceIte, Nat.zero_ne_one] at y0
    rw [show nI (2 * 0) = 0 from rfl, Int32.add_zero]
    by_cases e : 0 < pl s p
    · rw [n_dec e, n_neg (by omega), n_lt (by omega) (by omega)]
      exact ⟨n_vp (by omega) (by decide), fun q => q.elim, fun _ => ⟨n_vp (by omega) (by decide), fun q => by omega, fun _ => y0 (decide_eq_true e)⟩⟩
    · have e0 : pl s p = 0 := by omega
      have hm : mayB B s f p 0 = false := by rw [mayE]; unfold fitsB; simp [e0]
      rw [e0]
      exact ⟨n_vp (by omega) (by decide), fun _ => z0 _ _ hm, fun q => absurd i_m1_z q⟩
  | 1, _ =>
    have y0 := y0
    simp only [↓reduceIte, Nat.one_ne_zero] at y0
    rw [nI_add, show pl s p + 2 * 1 = (pl s p + 1) + 1 by omega, nI_pred, n_neg (by omega), n_lt (by omega) (by omega)]
    refine ⟨n_vp (by omega) (by decide), fun q => q.elim, fun _ => ⟨n_vp (by omega) (by decide), fun q => z0 _ _ ?_, fun q => y0 (decide_eq_true (by omega))⟩⟩
    rw [mayE]; unfold fitsB
    simp [show ¬ pl s p < B.dp p by omega]
end LW
