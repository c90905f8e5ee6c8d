/-! the law: its loop, its start -/
def QLaw : Post := fun r _ _ => r = some (.int 1)
theorem l_law {d L : Nat} (hd : 12 ≤ d) (hL : L ≤ 3072) : ∀ k i V K t S I J, L < i + 6 * (k + 1) → i ≤ L + 6 → Rel V K t S I J → I 101 0 = nI L → Wp d Law QLaw 18 [some (.ref 100), some (.ref 0), some (.ref 57), some (.int (nI i))] [] I J := by
  intro k
  induction k with
  | zero =>
    intro i V K t S I J hk hi hR h101
    refine v_Law_18 ⟨fun _ => rfl, fun q => absurd ?_ q⟩
    rw [h101, show (6 : Int32) = nI 6 from rfl, sub_lt (by omega) (by omega) (by omega)]; omega
  | succ k ih =>
    intro i V K t S I J hk hi hR h101
    refine v_Law_18 ⟨fun _ => rfl, fun q => ?_⟩
    rw [h101, show (6 : Int32) = nI 6 from rfl, sub_lt (by omega) (by omega) (by omega)] at q
    have hv : ∀ k, k < 6 → vp_in (nI i + nI k) (I 101 0).toNatClampNeg := by
      intro k hk
      rw [h101, nI_add, nI_clamp (by omega)]; exact n_vp (by omega) (by omega)
    have nx : NX d QLaw (nI i) I := by
      intro V' K' t' S' I' J' hR' e100 e101
      refine v_Law_1099 ?_
      rw [show nI i + 6 = nI (i + 6) from nI_add i 6]
      exact ih (i + 6) V' K' t' S' I' J' (by omega) (by omega) hR' (by rw [e101]; exact h101)
    have v0 : vp_in (nI i) (I 101 0).toNatClampNeg := by
      rw [h101, nI_clamp (by omega)]; exact n_vp (by omega) (by omega)
    have v1 : vp_in (nI i + 1) (I 101 0).toNatClampNeg := hv 1 (by decide)
    have v2 : vp_in (nI i + 2) (I 101 0).toNatClampNeg := hv 2 (by decide)
    have v3 : vp_in (nI i + 3) (I 101 0).toNatClampNeg := hv 3 (by decide)
    have v4 : vp_in (nI i + 4) (I 101 0).toNatClampNeg := hv 4 (by decide)
    have v5 : vp_in (nI i + 5) (I 101 0).toNatClampNeg := hv 5 (by decide)
    exact ⟨v0, fun _ => s_panel hd hR v1 v2 nx, fun _ => s_lock hd hR v1 v2 v3 v4 nx, fun _ => s_lid hd hR v1 nx, fun _ => s_of hd hR v1 v2 nx, fun _ => s_at hd hR v1 v2 nx, fun _ => s_type hd hR v1 nx, fun _ => s_box hd hR nx, fun _ => s_count hd hR v1 nx, fun _ => s_slide hd hR v1 v2 nx, fun _ => s_shut hd hR nx, fun _ => s_file hd hR v1 nx, fun _ => s_drift hd hR v1 nx, fun _ => s_undo hd hR nx, fun _ => s_seed hd hR v1 nx, fun _ => s_opens hd hR v1 nx, fun _ => s_rows hd hR nx, fun _ => s_reach hd hR v1 nx, fun _ => s_key hd hR v1 nx, fun _ => s_files hd hR v1 v2 nx, fun _ => s_game hd hR v1 nx, fun _ => s_fumble hd hR v1 v2 nx, fun _ => s_image hd hR nx, fun _ => s_restore hd hR nx, fun _ => s_to hd hR v1 v2 v3 v4 nx, fun _ => s_clicks hd hR v1 v2 v3 v4 v5 nx, fun _ => s_film hd hR v1 v2 v3 nx, fun _ => s_sheet hd hR v1 v2 v3 nx, fun _ => s_drop hd hR v1 nx, fun _ => s_item hd hR v1 v2 v3 v4 v5 nx, fun _ => s_copy hd hR v1 v2 v3 v4 v5 nx, fun _ => nx V K t S I J hR rfl rfl⟩
def V00 : Bv := (Bx0, (0, 0, 0, 1), [])
/-- what the objects hold as they are made -/
def Ini (I : I2) : Prop := (∀ k, I 0 k = 0) ∧ (∀ k, k ≠ 11 → k ≠ 17 → I 1 k = 0) ∧ I 1 11 = 1 ∧ I 1 17 = 1 ∧ (∀ k, I 31 k = 0) ∧ I 49 0 = 0 ∧ I 51 0 = 0 ∧ I 53 0 = 0 ∧ I 55 0 = 0 ∧ (∀ k, I 57 k = 0) ∧ (∀ k, k ≠ 4 → I 58 k = 0) ∧ I 58 4 = 1 ∧ (∀ k, k < 4 → I 74 k = -1) ∧ ∀ k, I 69 k = 0
theorem rel_0 {I : I2} {J : J2} (h : Ini I) : Rel V00 none (0, fun _ => 0) (fun _ => none) I J := by
  obtain ⟨a0, a1, a11, a17, a31, s0, s1, s2, s3, a57, a58, a4, a74, a69⟩ := h
  refine ⟨⟨⟨WFB_0, Or.inl ⟨rfl, rfl⟩, okS_0, by decide, by decide, Nat.zero_le _, fun x hx => (by cases hx)⟩, fun VK q => (by cases q), ⟨Nat.zero_le _, fun k hk => absurd hk (Nat.not_lt_zero k)⟩, fun j _ => WFS_none⟩, ⟨?_, Or.inl a17, a0 3, fun VK q => (by cases q), ⟨a31 1, fun k hk => absurd hk (Nat.not_lt_zero k)⟩, fun j hj => ?_⟩, ⟨?_, a57 23, fun VK q => (by cases q), ⟨a57 2, fun k hk => absurd hk (Nat.not_lt_zero k)⟩, fun j hj => a74 j hj, fun k => Or.inl (a69 k)⟩⟩
  · exact ⟨⟨a1 2 (by decide) (by decide), a1 7 (by decide) (by decide), fun p hp => absurd hp (Nat.not_lt_zero p), fun p hp => absurd hp (Nat.not_lt_zero p)⟩, a1 8 (by decide) (by decide), a1 9 (by decide) (by decide), a1 10 (by decide) (by decide), a11, a1 15 (by decide) (by decide), 0, by decide, a1 16 (by decide) (by decide), fun k x hx => (nil_get hx).elim⟩
  · match j, hj with
    | 0, _ => exact s0
    | 1, _ => exact s1
    | 2, _ => exact s2
    | 3, _ => exact s3
  · exact ⟨⟨a58 0 (by decide), a58 1 (by decide), fun p hp => absurd hp (Nat.not_lt_zero p), fun p hp => absurd hp (Nat.not_lt_zero p)⟩, a58 2 (by decide), a58 3 (by decide), a4, a58 5 (by decide), a57 9, fun k x hx => (nil_get hx).elim⟩
/-- the law from where its objects stand -/
theorem law_all {L : Nat} (hL : L ≤ 3072) {I : I2} {J : J2} (h : Ini I) (h101 : I 101 0 = nI L) : Wp 12 Law QLaw 18 [some (.ref 100), some (.ref 0), some (.ref 57), some (.int 0)] [] I J :=
  l_law (Nat.le_refl _) hL L 0 V00 none (0, fun _ => 0) (fun _ => none) I J (by omega) (by omega) (rel_0 h) h101
