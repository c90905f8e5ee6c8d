/-! LAYS: what the law types, what it keeps -/
def celN_z (I : I2) (k : Nat) : Nat := tN (cel_z I (nI k))
theorem celN_ok_z (I : I2) (k : Nat) : cel_z I (nI k) = nI (celN_z I k) ∧ celN_z I k < 2 ^ 31 := by
  obtain ⟨a, ha, e⟩ := cel_nat_z I (nI k)
  have : celN_z I k = a := by unfold celN_z; rw [e, n_tN ha]
  rw [this]; exact ⟨e, ha⟩
def TLt_z (t : Tpe) (L : List Nat) : Prop := t.1 = L.length ∧ ∀ (k c : Nat), L[k]? = some c → t.2 k = c ∧ c ≠ 32
theorem TLt_z.at0 {t : Tpe} {L : List Nat} (h : TLt_z t L) : AtT_z t 0 L := ⟨by rw [h.1]; omega, fun k c hk => by rw [Nat.zero_add]; exact h.2 k c hk⟩
section LWL
variable {d : Nat} {V : Bv} {K : Option Bv} {t : Tpe} {S : Nat → Shv} {I : I2} {J : J2} {F : Int32 → I2 → J2 → Prop} {L : List Nat}
theorem k_typ_z {c : Nat} (hd : 8 ≤ d) (hR : RS_z V K t S I J) (hL : TLt_z t L) (hl : L.length < 90) (h1 : 33 ≤ c) (h2 : c ≤ 126) (h : ∀ t' I', RS_z V K t' S I' J → TLt_z t' (L ++ [c]) → F57_z I I' → F (nI (L.length + 1)) I' J) : CI d Sb_type [.ref 0, .int (nI c)] I J F := by
  refine k_type_z hd hR _ (fun I' r f => ?_)
  have e : typeS t (nI c) = (nI (t.1 + 1), (t.1 + 1, updN t.2 t.1 c)) := by
    unfold typeS
    rw [if_neg, if_pos (by rw [hL.1]; exact hl), n_tN (by omega)]
    rintro (q | q)
    · have := (n_lt (b := 32) (show c < 2 ^ 31 by omega) (by decide)).mp q; omega
    · have := (n_lt (a := 126) (by decide) (show c < 2 ^ 31 by omega)).mp q; omega
  rw [e] at r ⊢
  have := h _ I' r ⟨by show t.1 + 1 = _; rw [hL.1]; simp, fun k x hk => ?_⟩ f
  · rw [← hL.1] at this; exact this
  · show updN t.2 t.1 c k = x ∧ x ≠ 32
    unfold updN
    rw [hL.1]
    rcases Nat.lt_trichotomy k L.length with q | q | q
    · rw [if_neg (by omega)]
      rw [List.getElem?_append_left q] at hk
      exact hL.2 k x hk
    · subst q
      simp at hk
      subst hk
      rw [if_pos rfl]; exact ⟨rfl, by omega⟩
    · rw [List.getElem?_eq_none (by simp; omega)] at hk; cases hk
theorem dgs_len_z (s : Nat) : ∀ r lo, (dgs_z r lo s).length ≤ r := by
  intro r
  induction r with
  | zero => intro lo; exact Nat.le_refl _
  | succ r ih => intro lo; have := ih (lo + 1); simp only [dgs_z, List.length_append]; split <;> simp <;> omega
theorem dgs_app_z (s : Nat) : ∀ n lo r, dgs_z (n + r) lo s = dgs_z n lo s ++ dgs_z r (lo + n) s := by
  intro n
  induction n with
  | zero => intro lo r; simp [dgs_z]
  | succ n ih =>
    intro lo r
    have := ih (lo + 1) r
    rw [show n + 1 + r = n + r + 1 by omega]
    simp only [dgs_z]
    rw [this, List.append_assoc, show lo + 1 + n = lo + (n + 1) by omega]
theorem n_bit4_z {s k : Nat} (hs : s < 16) (hk : k < 4) : (srI (nI s) (nI k) &&& 1 = 0) ↔ s.testBit k = false := n_bit (by omega) (by omega)
theorem c_digits_z {s : Nat} (hd : 9 ≤ d) (hR : RS_z V K t S I J) (hL : TLt_z t L) (hl : L.length < 80) (hs : s < 16) (h : ∀ t' I', RS_z V K t' S I' J → TLt_z t' (L ++ dgs_z 4 0 s) → F57_z I I' → F 1 I' J) : CI d Lw_digits [.ref 0, .int (nI s)] I J F := by
  have loop : ∀ k n t' I', n + k = 4 → RS_z V K t' S I' J → TLt_z t' (L ++ dgs_z n 0 s) → F57_z I I' → Wp (d - 1) Lw_digits (QI F) 4 [some (.ref 0), some (.int (nI s)), some (.int 1), some (.int (nI n))] [] I' J := by
    intro k
    induction k with
    | zero =>
      intro n t' I' hn r hT f
      refine v_Lw_digits_0_4 ⟨fun q => ?_, fun _ => ⟨Or.inr rfl, QI_i.mpr ?_⟩⟩
      · have := (n_lt (b := 4) (show n < 2 ^ 31 by omega) (by decide)).mp q; omega
      · rw [show n = 4 by omega] at hT; exact h t' I' r hT f
    | succ k ih =>
      intro n t' I' hn r hT f
      have e9 := dgs_app_z s n 0 1
      rw [Nat.zero_add] at e9
      refine v_Lw_digits_0_4 ⟨fun _ => ⟨fun q => absurd q (by decide), fun _ => ?_⟩, fun q => ?_⟩
      · rw [n_bit4_z hs (by omega)]
        refine ⟨fun e => ?_, fun e => ?_⟩
        · rw [n_inc]
          refine ih (n + 1) t' I' (by omega) r ?_ f
          rw [e9]; simp [dgs_z, e]; exact hT
        · rw [show (48 : Int32) + nI n = nI (48 + n) from nI_add 48 n]
          have hlen := dgs_len_z s n 0
          refine k_typ_z (by omega) r hT (by simp; omega) (by omega) (by omega) (fun t2 I3 r2 hT2 f2 => ⟨fun _ => ?_, fun q => ?_⟩)
          · rw [n_inc]
            refine ih (n + 1) t2 I3 (by omega) r2 ?_ (f.tr f2)
            rw [e9]
            simp only [Bool.not_eq_false] at e
            simp [dgs_z, e]
            rw [List.append_assoc] at hT2; exact hT2
          · exact absurd ((n_p0 (by simp; omega)).mpr (by omega)) q
      · exact absurd ((n_lt (b := 4) (show n < 2 ^ 31 by omega) (by decide)).mpr (by omega)) q
  exact CI.of (by omega) rfl (v_Lw_digits_0_0 (loop 4 0 t I rfl hR (by simpa [dgs_z] using hL) F57_z.rf))
end LWL
/-! the numbers that the cells tell -/
def y_pn_z (c0 : Nat) : Nat := 1 + c0 % 4
def y_lid_z (c0 : Nat) : Option Nat := if c0 / 8 % 4 = 0 then none else some (c0 / 32 % y_pn_z c0)
def y_kd_z (c0 c1 p : Nat) : Nat := if c0 / 256 % 2 = 0 then 0 else c1 / 2 ^ (5 * p) % 8 % 5
def y_dp_z (c1 p : Nat) : Nat := 1 + c1 / 2 ^ (5 * p) / 8 % 4 % 3
def y_ln_z (c0 : Nat) : Nat := if y_pn_z c0 = 1 then 0 else c0 / 512 % 6
def y_y_z (c : Nat → Nat) (l : Nat) : Nat := c (2 + l / 2) / 2 ^ (15 * (l % 2))
def y_ow_z (c : Nat → Nat) (l : Nat) : Nat := y_y_z c l % y_pn_z (c 0)
def y_wy_z (c : Nat → Nat) (l : Nat) : Nat := y_y_z c l / 8 % 3
def y_ot_z (c : Nat → Nat) (l : Nat) : Nat := (y_ow_z c l + 1 + y_y_z c l / 32 % (y_pn_z (c 0) - 1)) % y_pn_z (c 0)
def y_ps_z (c : Nat → Nat) (l : Nat) : Nat := 1 + y_y_z c l / 256 % 16 % (2 * 2 ^ y_dp_z (c 1) (y_ot_z c l) - 1)
theorem BPf_ok_z {kd dp : Nat → Nat} : ∀ n, (BPf_z kd dp n).pn = n ∧ (BPf_z kd dp n).ln = 0 ∧ ∀ p, p < n → (BPf_z kd dp n).kd p = kd p ∧ (BPf_z kd dp n).dp p = dp p := by
  intro n
  induction n with
  | zero => exact ⟨rfl, rfl, fun p hp => absurd hp (Nat.not_lt_zero p)⟩
  | succ n ih =>
    obtain ⟨h1, h2, h3⟩ := ih
    refine ⟨by show (BPf_z kd dp n).pn + 1 = n + 1; rw [h1], h2, fun p hp => ?_⟩
    show updN (BPf_z kd dp n).kd (BPf_z kd dp n).pn (kd n) p = kd p ∧ updN (BPf_z kd dp n).dp (BPf_z kd dp n).pn (dp n) p = dp p
    unfold updN
    rw [h1]
    by_cases e : p = n
    · rw [if_pos e, if_pos e, e]; exact ⟨rfl, rfl⟩
    · rw [if_neg e, if_neg e]; exact h3 p (by omega)
theorem BLf_ok_z {ow wy ot ps : Nat → Nat} {B : Bx} (h0 : B.ln = 0) : ∀ n l, l < n → (BLf_z ow wy ot ps B n).ow l = ow l ∧ (BLf_z ow wy ot ps B n).wy l = wy l ∧ (BLf_z ow wy ot ps B n).ot l = ot l ∧ (BLf_z ow wy ot ps B n).ps l = ps l := by
  intro n
  induction n with
  | zero => intro l hl; omega
  | succ n ih =>
    intro l hl
    have e := (BLf_p_z (ow := ow) (wy := wy) (ot := ot) (ps := ps) (B := B) n).2.2.2
    show updN (BLf_z ow wy ot ps B n).ow (BLf_z ow wy ot ps B n).ln (ow n) l = ow l ∧ updN (BLf_z ow wy ot ps B n).wy (BLf_z ow wy ot ps B n).ln (wy n) l = wy l ∧ updN (BLf_z ow wy ot ps B n).ot (BLf_z ow wy ot ps B n).ln (ot n) l = ot l ∧ updN (BLf_z ow wy ot ps B n).ps (BLf_z ow wy ot ps B n).ln (ps n) l = ps l
    unfold updN
    rw [e, h0, Nat.zero_add]
    by_cases z : l = n
    · simp only [if_pos z]; rw [z]; exact ⟨rfl, rfl, rfl, rfl⟩
    · simp only [if_neg z]; exact ih l (by omega)
theorem y_pnb_z (c0 : Nat) : 1 ≤ y_pn_z c0 ∧ y_pn_z c0 ≤ 4 := by unfold y_pn_z; omega
theorem y_kdb_z (c0 c1 p : Nat) : y_kd_z c0 c1 p < 5 := by unfold y_kd_z; split <;> omega
theorem y_dpb_z (c1 p : Nat) : 1 ≤ y_dp_z c1 p ∧ y_dp_z c1 p ≤ 3 := by unfold y_dp_z; omega
theorem y_ot_ne_z (c : Nat → Nat) (l : Nat) (h : 1 < y_pn_z (c 0)) : y_ow_z c l ≠ y_ot_z c l := by
  have hb := (y_pnb_z (c 0)).2
  have h1 : y_ow_z c l < y_pn_z (c 0) := Nat.mod_lt _ (by omega)
  have h2 : y_y_z c l / 32 % (y_pn_z (c 0) - 1) < y_pn_z (c 0) - 1 := Nat.mod_lt _ (by omega)
  intro e
  unfold y_ot_z at e
  generalize y_y_z c l / 32 % (y_pn_z (c 0) - 1) = r at *
  generalize y_ow_z c l = a at *
  generalize y_pn_z (c 0) = n at *
  rcases Nat.lt_or_ge (a + 1 + r) n with z | z
  · rw [Nat.mod_eq_of_lt z] at e; omega
  · rw [Nat.mod_eq_sub_mod z, Nat.mod_eq_of_lt (by omega)] at e; omega
theorem y_psb_z (c : Nat → Nat) (l : Nat) : 1 ≤ y_ps_z c l ∧ y_ps_z c l < 2 ^ (y_dp_z (c 1) (y_ot_z c l) + 1) ∧ y_ps_z c l < 16 := by
  have hd := y_dpb_z (c 1) (y_ot_z c l)
  have h2 : 2 ^ (y_dp_z (c 1) (y_ot_z c l) + 1) = 2 * 2 ^ y_dp_z (c 1) (y_ot_z c l) := by rw [Nat.pow_succ, Nat.mul_comm]
  have h3 : 2 ^ 1 ≤ 2 ^ y_dp_z (c 1) (y_ot_z c l) := Nat.pow_le_pow_right (by decide) hd.1
  have h4 : 2 ^ y_dp_z (c 1) (y_ot_z c l) ≤ 2 ^ 3 := Nat.pow_le_pow_right (by decide) hd.2
  have h5 : y_y_z c l / 256 % 16 % (2 * 2 ^ y_dp_z (c 1) (y_ot_z c l) - 1) < 2 * 2 ^ y_dp_z (c 1) (y_ot_z c l) - 1 := Nat.mod_lt _ (by omega)
  have h6 : y_y_z c l / 256 % 16 % (2 * 2 ^ y_dp_z (c 1) (y_ot_z c l) - 1) ≤ y_y_z c l / 256 % 16 := Nat.mod_le _ _
  have h7 : y_y_z c l / 256 % 16 < 16 := Nat.mod_lt _ (by decide)
  unfold y_ps_z
  rw [h2]
  omega
theorem ptx_len_z {kd dp : Nat → Nat} {lid : Option Nat} : ∀ n, (ptx_z kd dp lid n).length ≤ 4 * n := by
  intro n
  induction n with
  | zero => exact Nat.le_refl _
  | succ n ih => simp only [ptx_z, ptx1_z, List.length_append]; split <;> split <;> simp <;> omega
theorem ltx_len_z {ow wy ot ps : Nat → Nat} : ∀ n, (ltx_z ow wy ot ps n).length ≤ 8 * n := by
  intro n
  induction n with
  | zero => exact Nat.le_refl _
  | succ n ih => have := dgs_len_z (ps n) 4 0; simp only [ltx_z, ltx1_z, lbd_z, List.length_append, List.length_cons, List.length_nil]; omega
