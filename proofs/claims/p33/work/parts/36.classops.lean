/-! the class: calls that change now -/
theorem CBx_sc {V : Bv} {I I' : I2} {lid s f dr : Nat} (hV : CBx 1 V I) (ha : ∀ a, 2 ≤ a → a ≤ 10 → I' a = I a) (hk : ∀ k, k ≠ 8 → k ≠ 9 → k ≠ 10 → k ≠ 11 → k ≠ 17 → I' 1 k = I 1 k) (e8 : I' 1 8 = nI lid) (e9 : I' 1 9 = nI s) (e10 : I' 1 10 = nI f) (e11 : I' 1 11 = nI dr) : CBx 1 (V.1, (lid, s, f, dr), V.2.2) I' := by
  obtain ⟨hB, h8, h9, h10, h11, h15, np, hnp, h16, hp⟩ := hV
  refine ⟨⟨?_, ?_, ?_, ?_⟩, e8, e9, e10, e11, ?_, np, hnp, ?_, ?_⟩
  · rw [hk 2 (by decide) (by decide) (by decide) (by decide) (by decide)]; exact hB.1
  · rw [hk 7 (by decide) (by decide) (by decide) (by decide) (by decide)]; exact hB.2.1
  · intro p hp2
    rw [ha (1 + 1) (by decide) (by decide), ha (1 + 2) (by decide) (by decide)]
    exact hB.2.2.1 p hp2
  · intro l hl
    rw [ha (1 + 3) (by decide) (by decide), ha (1 + 4) (by decide) (by decide), ha (1 + 5) (by decide) (by decide), ha (1 + 6) (by decide) (by decide)]
    exact hB.2.2.2 l hl
  · rw [hk 15 (by decide) (by decide) (by decide) (by decide) (by decide)]; exact h15
  · rw [hk 16 (by decide) (by decide) (by decide) (by decide) (by decide)]; exact h16
  · intro k x hx
    rw [ha (1 + 7) (by decide) (by decide), ha (1 + 8) (by decide) (by decide), ha (1 + 9) (by decide) (by decide)]
    exact hp k x hx
theorem nil_get {α : Type} {k : Nat} {x : α} (h : ([] : List α)[k]? = some x) : False := by cases k <;> cases h
section COPS
variable {d : Nat} {V : Bv} {I : I2} {J : J2} {G : I2 → J2 → Prop} {F : Int32 → I2 → J2 → Prop}
theorem CBx_setLid {o : Nat} (hV : CBx 1 V I) : CBx 1 (V.setLid o) (up2 I 1 8 (nI o)) := by
  refine CBx_sc hV (fun a h1 h2 => by simp [up2]; omega) (fun k k1 k2 k3 k4 k5 => by simp [up2, upd, k1]) (by simp [up2, upd]) ?_ ?_ ?_
  · simp [up2, upd]; exact hV.2.2.1
  · simp [up2, upd]; exact hV.2.2.2.1
  · simp [up2, upd]; exact hV.2.2.2.2.1
theorem CBx_setS {o : Nat} (hV : CBx 1 V I) : CBx 1 (V.setS o) (up2 I 1 9 (nI o)) := by
  refine CBx_sc hV (fun a h1 h2 => by simp [up2]; omega) (fun k k1 k2 k3 k4 k5 => by simp [up2, upd, k2]) ?_ (by simp [up2, upd]) ?_ ?_
  · simp [up2, upd]; exact hV.2.1
  · simp [up2, upd]; exact hV.2.2.2.1
  · simp [up2, upd]; exact hV.2.2.2.2.1
theorem CBx_setF {o : Nat} (hV : CBx 1 V I) : CBx 1 (V.setF o) (up2 I 1 10 (nI o)) := by
  refine CBx_sc hV (fun a h1 h2 => by simp [up2]; omega) (fun k k1 k2 k3 k4 k5 => by simp [up2, upd, k3]) ?_ ?_ (by simp [up2, upd]) ?_
  · simp [up2, upd]; exact hV.2.1
  · simp [up2, upd]; exact hV.2.2.1
  · simp [up2, upd]; exact hV.2.2.2.2.1
theorem CBx_setD {o : Nat} (hV : CBx 1 V I) : CBx 1 (V.setD o) (up2 I 1 11 (nI o)) := by
  refine CBx_sc hV (fun a h1 h2 => by simp [up2]; omega) (fun k k1 k2 k3 k4 k5 => by simp [up2, upd, k4]) ?_ ?_ ?_ (by simp [up2, upd])
  · simp [up2, upd]; exact hV.2.1
  · simp [up2, upd]; exact hV.2.2.1
  · simp [up2, upd]; exact hV.2.2.2.1
theorem Fr1_up {k : Nat} {x : Int32} (h : k ≠ 17) : Fr1 I (up2 I 1 k x) := ⟨fun a ha => by simp [up2]; omega, by simp [up2, upd]; omega⟩
theorem CBx_forget (hV : CBx 1 V I) : CBx 1 (V.1, V.2.1, []) (up2 (up2 I 1 15 0) 1 16 0) := by
  obtain ⟨hB, h8, h9, h10, h11, h15, np, hnp, h16, hp⟩ := hV
  refine ⟨⟨?_, ?_, ?_, ?_⟩, ?_, ?_, ?_, ?_, ?_, 0, by decide, ?_, fun k x hx => (nil_get hx).elim⟩
  · simp [up2, upd]; exact hB.1
  · simp [up2, upd]; exact hB.2.1
  · intro p hp2; simp [up2]; exact hB.2.2.1 p hp2
  · intro l hl; simp [up2]; exact hB.2.2.2 l hl
  · simp [up2, upd]; exact h8
  · simp [up2, upd]; exact h9
  · simp [up2, upd]; exact h10
  · simp [up2, upd]; exact h11
  · simp [up2, upd]; rfl
  · simp [up2, upd]; rfl
/-- the change of a call of now: all else stays, and what is charted, unless it is told -/
def FrC (V V' : Bv) (I I' : I2) : Prop := (∀ a, (a = 0 ∨ 11 ≤ a) → I' a = I a) ∧ (I' 1 17 = 1 ∨ (I' 1 17 = I 1 17 ∧ V'.B = V.B))
theorem Fr1.frC {V V' : Bv} {I I' : I2} (h : Fr1 I I') (hB : V'.B = V.B) : FrC V V' I I' := ⟨h.1, Or.inr ⟨h.2, hB⟩⟩
end COPS
