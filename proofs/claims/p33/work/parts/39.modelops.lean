/-! the model: what it notes ahead of a step -/
def setR (I : I2) (a : Nat) (g : Nat → Int32) : I2 := fun i => if i = a then g else I i
theorem setR_up {I : I2} {a k : Nat} {x : Int32} {g : Nat → Int32} : up2 (setR I a g) a k x = setR I a (upd g k x) := by
  funext i
  simp only [up2, setR]
  split <;> simp_all
theorem setR_self {I : I2} {a : Nat} : setR I a (I a) = I := by
  funext i
  simp only [setR]
  split
  · next h => rw [h]
  · rfl
def shL (m : Nat) (u : Nat → Int32) : Nat → Int32 := fun j => if j + 3 < m then u (j + 3) else u j
theorem shL_3 {u : Nat → Int32} : shL 3 u = u := by
  funext j
  simp only [shL]
  rw [if_neg (by omega)]
theorem shL_up {u : Nat → Int32} {m : Nat} (h : 3 ≤ m) : upd (shL m u) (m - 3) (shL m u m) = shL (m + 1) u := by
  funext j
  simp only [upd, shL]
  by_cases e : j = m - 3
  · rw [if_pos e, if_neg (show ¬ m + 3 < m by omega), if_pos (show j + 3 < m + 1 by omega)]
    congr 1; omega
  · rw [if_neg e]
    by_cases e2 : j + 3 < m
    · rw [if_pos e2, if_pos (by omega)]
    · rw [if_neg e2, if_neg (by omega)]
section MOPS
variable {d : Nat} {V : Bv} {I : I2} {J : J2} {G : I2 → J2 → Prop} {F : Int32 → I2 → J2 → Prop} {s : Nat}
theorem MBx_rem {I' : I2} (hV : MBx V I) (e58 : I' 58 = I 58) (hn : I' 57 9 = nI V.rem.past.length) (h0 : I' 62 (3 * (V.rem.past.length - 1)) = nI V.s ∧ I' 62 (3 * (V.rem.past.length - 1) + 1) = nI V.f ∧ I' 62 (3 * (V.rem.past.length - 1) + 2) = nI V.dr) (hs : ∀ j c, j + 1 < V.rem.past.length → c < 3 → I' 62 (3 * (V.rem.past.length - 1 - (j + 1)) + c) = I 62 (3 * (V.past.length - 1 - j) + c)) : MBx V.rem I' := by
  obtain ⟨hB, h2, h3, h4, h5, h6, h7⟩ := hV
  rw [← e58] at hB h2 h3 h4 h5
  refine ⟨hB, h2, h3, h4, h5, hn, fun k x hx => ?_⟩
  have hlt := (List.getElem?_eq_some_iff.mp hx).1
  obtain ⟨hk, ⟨rfl, rfl⟩ | ⟨j, rfl, hj⟩⟩ := rem_get hx
  · exact h0
  · obtain ⟨y1, y2, y3⟩ := h7 j x hj
    rw [← y1, ← y2, ← y3]
    exact ⟨hs j 0 hlt (by decide), hs j 1 hlt (by decide), hs j 2 hlt (by decide)⟩
/-- one number of the model's row -/
theorem MBx_up {k : Nat} {x : Int32} {lid s f dr : Nat} (hV : MBx V I) (hk : k < 6) (hk2 : 2 ≤ k) (e2 : upd (I 58) k x 2 = nI lid) (e3 : upd (I 58) k x 3 = nI f) (e4 : upd (I 58) k x 4 = nI dr) (e5 : upd (I 58) k x 5 = nI s) : MBx (V.1, (lid, s, f, dr), V.2.2) (up2 I 58 k x) := by
  obtain ⟨hB, h2, h3, h4, h5, h6, h7⟩ := hV
  have ne : ∀ j, j ≠ k → up2 I 58 k x 58 j = I 58 j := fun j hj => by simp [up2, upd, hj]
  refine ⟨⟨?_, ?_, fun p hp => ?_, fun l hl => ?_⟩, by simpa [up2] using e2, by simpa [up2] using e3, by simpa [up2] using e4, by simpa [up2] using e5, ?_, ?_⟩
  · rw [ne 0 (by omega)]; exact hB.1
  · rw [ne 1 (by omega)]; exact hB.2.1
  · rw [ne _ (by omega), ne _ (by omega)]; exact hB.2.2.1 p hp
  · rw [ne _ (by omega), ne _ (by omega), ne _ (by omega), ne _ (by omega)]; exact hB.2.2.2 l hl
  · simpa [up2] using h6
  · intro k y hy; simpa [up2] using h7 k y hy
theorem MBx_setLid {o : Nat} (hV : MBx V I) : MBx (V.setLid o) (up2 I 58 2 (nI o)) := MBx_up hV (by decide) (by decide) (by simp [upd]) (by simp [upd]; exact hV.2.2.1) (by simp [upd]; exact hV.2.2.2.1) (by simp [upd]; exact hV.2.2.2.2.1)
theorem MBx_setF {o : Nat} (hV : MBx V I) : MBx (V.setF o) (up2 I 58 3 (nI o)) := MBx_up hV (by decide) (by decide) (by simp [upd]; exact hV.2.1) (by simp [upd]) (by simp [upd]; exact hV.2.2.2.1) (by simp [upd]; exact hV.2.2.2.2.1)
theorem MBx_setD {o : Nat} (hV : MBx V I) : MBx (V.setD o) (up2 I 58 4 (nI o)) := MBx_up hV (by decide) (by decide) (by simp [upd]; exact hV.2.1) (by simp [upd]; exact hV.2.2.1) (by simp [upd]) (by simp [upd]; exact hV.2.2.2.2.1)
theorem MBx_setS {o : Nat} (hV : MBx V I) : MBx (V.setS o) (up2 I 58 5 (nI o)) := MBx_up hV (by decide) (by decide) (by simp [upd]; exact hV.2.1) (by simp [upd]; exact hV.2.2.1) (by simp [upd]; exact hV.2.2.2.1) (by simp [upd])
theorem FrN_up {k : Nat} {x : Int32} : FrN I (up2 I 58 k x) := ⟨fun a h1 h2 h3 => by simp [up2, h2], fun k hk => by simp [up2]⟩
end MOPS
