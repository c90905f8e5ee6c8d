/-! the class: calls that change now -/
theorem CBx_sc {V : Bv} {I I' : I2} {lid s f dr : Nat} (hV : CBx 1 V I) (ha : ∀ a, 2 ≤ a → a ≤ 10 → I' a = I a) (hk : ∀ k, k ≠ 8 → k ≠ 9 → k ≠ 10 → k ≠ 11 → k ≠ 17 → I' 1 k = I 1 k) (e8 : I' 1 8 = nI lid) (e9 : I' 1 9 = nI s) (e10 : I' 1 10 = nI f) (e11 : I' 1 11 = nI dr) : CBx 1 (V.1, (lid, s, f, dr), V.2.2) I' := by
  obtain ⟨hB, h8, h9, h10, h11, h15, np, hnp, h16, hp⟩ := hV
  refine ⟨⟨?_, ?_, ?_, ?_⟩, e8, e9, e10, e11, ?_, np, hnp, ?_, ?_⟩
  · rw [hk 2 (by decide) (by decide) (by decide) (by decide) (by decide)]; exact hB.1
  · rw [hk 7 (by decide) (by decide) (by decide) (by decide) (by decide)]; exact hB.2.1
  · intro p hp2
    rw [ha (1 + 1) (by decide) (by decide), ha (1 + 2) (by decide) (by decide)]
    exact hB.2.2.1 p hp2
  · intro l hl
    rw [ha (1 + 3) (by decide) (by decide), ha (1 + 4) (by decide) (by decide), ha (1 + 5) (by decide) (by decide), ha (1 + 6) (by decide) (by decide)]
    exact hB.2.2.2 l hl
  · rw [hk 15 (by decide) (by decide) (by decide) (by decide) (by decide)]; exact h15
  · rw [hk 16 (by decide) (by decide) (by decide) (by decide) (by decide)]; exact h16
  · intro k x hx
    rw [ha (1 + 7) (by decide) (by decide), ha (1 + 8) (by decide) (by decide), ha (1 + 9) (by decide) (by decide)]
    exact hp k x hx
theorem nil_get {α : Type} {k : Nat} {x : α} (h : ([] : List α)[k]? = some x) : False := by cases k <;> cases h
section COPS
variable {d : Nat} {V : Bv} {I : I2} {J : J2} {G : I2 → J2 → Prop} {F : Int32 → I2 → J2 → Prop}
theorem CBx_setLid {o : Nat} (hV : CBx 1 V I) : CBx 1 (V.setLid o) (up2 I 1 8 (nI o)) := by
  refine CBx_sc hV (fun a h1 h2 => by simp [up2]; omega) (fun k k1 k2 k3 k4 k5 => by simp [up2, upd, k1]) (by simp [up2, upd]) ?_ ?_ ?_
  · simp [up2, upd]; exact hV.2.2.1
  · simp [up2, upd]; exact hV.2.2.2.1
  · simp [up2, upd]; exact hV.2.2.2.2.1
theorem CBx_setS {o : Nat} (hV : CBx 1 V I) : CBx 1 (V.setS o) (up2 I 1 9 (nI o)) := by
  refine CBx_sc hV (fun a h1 h2 => by simp [up2]; omega) (fun k k1 k2 k3 k4 k5 => by simp [up2, upd, k2]) ?_ (by simp [up2, upd]) ?_ ?_
  · simp [up2, upd]; exact hV.2.1
  · simp [up2, upd]; exact hV.2.2.2.1
  · simp [up2, upd]; exact hV.2.2.2.2.1
theorem CBx_setF {o : Nat} (hV : CBx 1 V I) : CBx 1 (V.setF o) (up2 I 1 10 (nI o)) := by
  refine CBx_sc hV (fun a h1 h2 => by simp [up2]; omega) (fun k k1 k2 k3 k4 k5 => by simp [up2, upd, k3]) ?_ ?_ (by simp [up2, upd]) ?_
  · simp [up2, upd]; exact hV.2.1
  · simp [up2, upd]; exact hV.2.2.1
  · simp [up2, upd]; exact hV.2.2.2.2.1
theorem CBx_setD {o : Nat} (hV : CBx 1 V I) : CBx 1 (V.setD o) (up2 I 1 11 (nI o)) := by
  refine CBx_sc hV (fun a h1 h2 => by simp [up2]; omega) (fun k k1 k2 k3 k4 k5 => by simp [up2, upd, k4]) ?_ ?_ ?_ (by simp [up2, upd])
  · simp [up2, upd]; exact hV.2.1
  · simp [up2, upd]; exact hV.2.2.1
  · simp [up2, upd]; exact hV.2.2.2.1
theorem Fr1_up {k : Nat} {x : Int32} (h : k ≠ 17) : Fr1 I (up2 I 1 k x) := ⟨fun a ha => by simp [up2]; omega, by simp [up2, upd]; omega⟩
theorem CBx_forget (hV : CBx 1 V I) : CBx 1 (V.1, V.2.1, []) (up2 (up2 I 1 15 0) 1 16 0) := by
  obtain ⟨hB, h8, h9, h10, h11, h15, np, hnp, h16, hp⟩ := hV
  refine ⟨⟨?_, ?_, ?_, ?_⟩, ?_, ?_, ?_, ?_, ?_, 0, by decide, ?_, fun k x hx => (nil_get hx).elim⟩
  · simp [up2, upd]; exact hB.1
  · simp [up2, upd]; exact hB.2.1
  · intro p hp2; simp [up2]; exact hB.2.2.1 p hp2
  · intro l hl; simp [up2]; exact hB.2.2.2 l hl
  · simp [up2, upd]; exact h8
  · simp [up2, upd]; exact h9
  · simp [up2, upd]; exact h10
  · simp [up2, upd]; exact h11
  · simp [up2, upd]; rfl
  · simp [up2, upd]; rfl
theorem c_Bx_forget_1 (hd : 1 ≤ d) (h : G (up2 (up2 I 1 15 0) 1 16 0) J) : CV d Bx_forget [.ref 1] I J G := CV.of hd rfl (v_Bx_forget_1_0 (QV_i.mpr h))
/-- the change of a call of now: all else stays, and what is charted, unless it is told -/
def FrC (V V' : Bv) (I I' : I2) : Prop := (∀ a, (a = 0 ∨ 11 ≤ a) → I' a = I a) ∧ (I' 1 17 = 1 ∨ (I' 1 17 = I 1 17 ∧ V'.B = V.B))
theorem Fr1.frC {V V' : Bv} {I I' : I2} (h : Fr1 I I') (hB : V'.B = V.B) : FrC V V' I I' := ⟨h.1, Or.inr ⟨h.2, hB⟩⟩
theorem c_Sb_panel (hd : 3 ≤ d) (hw : WFV V) (hV : CBx 1 V I) (x y : Int32) (h : ∀ I', CBx 1 (panelS V x y).2 I' → FrC V (panelS V x y).2 I I' → F (panelS V x y).1 I' J) : CI d Sb_panel [.ref 0, .int x, .int y] I J F := by
  have hp5 := hw.1.1
  have bad : (x < 0 ∨ 4 < x ∨ y < 1 ∨ 3 < y) → QI F (some (.int (-1))) I J := by
    intro e
    rw [show panelS V x y = (-1, V) from if_pos e] at h
    exact QI_i.mpr (h I hV (Fr1.rf.frC rfl))
  refine CI.of (by omega) rfl (v_Sb_panel_0_0 ⟨fun q => bad (Or.inl q), fun q1 => ⟨fun q => bad (Or.inr (Or.inl q)), fun q2 => ⟨fun q => bad (Or.inr (Or.inr (Or.inl q))), fun q3 => ⟨fun q => bad (Or.inr (Or.inr (Or.inr q))), fun q4 => ?_⟩⟩⟩⟩)
  have nb : ¬ (x < 0 ∨ 4 < x ∨ y < 1 ∨ 3 < y) := by simp only [not_or]; exact ⟨q1, q2, q3, q4⟩
  have e5 : I 1 2 < 5 ↔ V.B.pn < 5 := by rw [hV.1.1]; exact n_lt (b := 5) (by omega) (by decide)
  rw [e5]
  refine ⟨fun h5 => c_Bx_forget_1 (by omega) ?_, fun h5 => ?_⟩
  · rw [show panelS V x y = (nI V.B.pn, V.setB (V.B.addP (tN x) (tN y))) from (if_neg nb).trans (if_pos h5)] at h
    obtain ⟨kx, hkx, rfl⟩ := le_of (n := 4) q1 q2 (by decide)
    have y0 : ¬ y < 0 := fun q => q3 (Int32.lt_trans q (by decide))
    obtain ⟨ky, hky, rfl⟩ := le_of (n := 3) y0 q4 (by decide)
    rw [n_tN (by omega), n_tN (by omega)] at h
    have e2 : (up2 (up2 I 1 15 0) 1 16 0) 1 2 = nI V.B.pn := by simp [up2, upd]; exact hV.1.1
    refine CI.of (by omega) rfl (v_Bx_addPanel_1_0 ⟨fun _ => ?_, fun q => absurd ?_ q⟩)
    · rw [e2, n_tN (by omega)]
      have hv := n_vp (a := V.B.pn) (n := 5) h5 (by decide)
      refine ⟨hv, hv, QI_i.mpr (QI_i.mpr (h _ ?_ ⟨fun a ha => ?_, Or.inl (by simp [up2, upd])⟩))⟩
      rotate_left
      · have z1 : a ≠ 1 := by omega
        have z2 : a ≠ 2 := by omega
        have z3 : a ≠ 3 := by omega
        simp [up2, z1, z2, z3]
      obtain ⟨hB, h8, h9, h10, h11, h15, np, hnp, h16, hp⟩ := hV
      refine ⟨⟨?_, ?_, ?_, ?_⟩, ?_, ?_, ?_, ?_, ?_, 0, by decide, ?_, fun k x hx => (nil_get hx).elim⟩
      · simp [up2, upd]; rw [n_inc]; rfl
      · simp [up2, upd]; exact hB.2.1
      · intro p hp2
        have hp2 : p < V.B.pn + 1 := hp2
        show _ = nI (updN V.B.kd V.B.pn kx p) ∧ _ = nI (updN V.B.dp V.B.pn ky p)
        by_cases e : p = V.B.pn
        · simp [up2, upd, updN, e]
        · simp only [updN, if_neg e]
          simp [up2, upd, e]
          exact hB.2.2.1 p (by omega)
      · intro l hl; simp [up2]; exact hB.2.2.2 l hl
      · simp [up2, upd]; exact h8
      · simp [up2, upd]; exact h9
      · simp [up2, upd]; exact h10
      · simp [up2, upd]; exact h11
      · simp [up2, upd]; rfl
      · simp [up2, upd]; rfl
    · rw [e2]; exact (n_lt (b := 5) (by omega) (by decide)).mpr h5
  · rw [show panelS V x y = (-3, V) from (if_neg nb).trans (if_neg h5)] at h
    exact QI_i.mpr (h I hV (Fr1.rf.frC rfl))
end COPS
