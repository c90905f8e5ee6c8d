/-! an image, and what is restored -/
theorem CBx_copy {b b' : Nat} {V : Bv} {I I' : I2} (hw : WFV V) (hV : CBx b V I) (h0 : ∀ k, k = 2 ∨ k = 7 ∨ k = 8 ∨ k = 9 ∨ k = 10 ∨ k = 11 ∨ k = 15 ∨ k = 16 → I' b' k = I b k) (h5 : ∀ p, p < 5 → I' (b' + 1) p = I (b + 1) p ∧ I' (b' + 2) p = I (b + 2) p) (h6 : ∀ l, l < 6 → I' (b' + 3) l = I (b + 3) l ∧ I' (b' + 4) l = I (b + 4) l ∧ I' (b' + 5) l = I (b + 5) l ∧ I' (b' + 6) l = I (b + 6) l) (h8 : ∀ k, k < 8 → I' (b' + 7) k = I (b + 7) k ∧ I' (b' + 8) k = I (b + 8) k ∧ I' (b' + 9) k = I (b + 9) k) : CBx b' V I' := by
  have hp5 := hw.1.1
  have hl6 := hw.1.2.1
  obtain ⟨⟨b1, b2, b3, b4⟩, c8, c9, c10, c11, c15, np, hnp, c16, hp⟩ := hV
  refine ⟨⟨by rw [h0 2 (by simp)]; exact b1, by rw [h0 7 (by simp)]; exact b2, fun p hp => ?_, fun l hl => ?_⟩, by rw [h0 8 (by simp)]; exact c8, by rw [h0 9 (by simp)]; exact c9, by rw [h0 10 (by simp)]; exact c10, by rw [h0 11 (by simp)]; exact c11, by rw [h0 15 (by simp)]; exact c15, np, hnp, by rw [h0 16 (by simp)]; exact c16, fun k x hx => ?_⟩
  · rw [(h5 p (by omega)).1, (h5 p (by omega)).2]; exact b3 p hp
  · obtain ⟨e1, e2, e3, e4⟩ := h6 l (by omega)
    rw [e1, e2, e3, e4]; exact b4 l hl
  · obtain ⟨e1, e2, e3⟩ := h8 ((np + 7 - k) % 8) (Nat.mod_lt _ (by decide))
    rw [e1, e2, e3]; exact hp k x hx
theorem cpI_s {I : I2} {a b n j : Nat} (h : j < n) : cpI I a b 0 0 n a j = I b j := by
  unfold cpI
  rw [if_pos rfl]
  exact sb_cpy0 h
theorem cpI_n {I : I2} {a b n c : Nat} (h : c ≠ a) : cpI I a b 0 0 n c = I c := by
  unfold cpI
  exact if_neg h
section KEPT
variable {d : Nat} {V : Bv} {I : I2} {J : J2} {G : I2 → J2 → Prop} {F : Int32 → I2 → J2 → Prop}
theorem c_Bx_becomes_1_21 (hd : 1 ≤ d) (hw : WFV V) (hV : CBx 21 V I) (h : ∀ I', CBx 1 V I' → I' 1 17 = 1 → (∀ a, (a < 1 ∨ 10 < a) → I' a = I a) → G I' J) : CV d Bx_becomes [.ref 1, .ref 21] I J G := by
  refine CV.of hd rfl (v_Bx_becomes_1_21_0 (QV_i.mpr (h _ ?_ ?_ ?_)))
  · refine CBx_copy hw hV (fun k hk => ?_) (fun p hp => ⟨?_, ?_⟩) (fun l hl => ⟨?_, ?_, ?_, ?_⟩) (fun k hk => ⟨?_, ?_, ?_⟩)
    · rcases hk with rfl | rfl | rfl | rfl | rfl | rfl | rfl | rfl <;> simp [up2, upd, cpI]
    all_goals (simp only [up2, cpI_n, ne_eq, Nat.reduceAdd, Nat.reduceEqDiff, not_false_eq_true, if_neg])
    · exact cpI_s hp
    · rw [cpI_s hp, cpI_n (by decide)]
    · rw [cpI_s hl]; simp only [up2, cpI_n, ne_eq, Nat.reduceAdd, Nat.reduceEqDiff, not_false_eq_true, if_neg]
    · rw [cpI_s hl]; simp only [up2, cpI_n, ne_eq, Nat.reduceAdd, Nat.reduceEqDiff, not_false_eq_true, if_neg]
    · rw [cpI_s hl]; simp only [up2, cpI_n, ne_eq, Nat.reduceAdd, Nat.reduceEqDiff, not_false_eq_true, if_neg]
    · rw [cpI_s hl]; simp only [up2, cpI_n, ne_eq, Nat.reduceAdd, Nat.reduceEqDiff, not_false_eq_true, if_neg]
    · rw [cpI_s hk]; simp only [up2, cpI_n, ne_eq, Nat.reduceAdd, Nat.reduceEqDiff, not_false_eq_true, if_neg]
    · rw [cpI_s hk]; simp only [up2, cpI_n, ne_eq, Nat.reduceAdd, Nat.reduceEqDiff, not_false_eq_true, if_neg]
    · rw [cpI_s hk]; simp only [up2, cpI_n, ne_eq, Nat.reduceAdd, Nat.reduceEqDiff, not_false_eq_true, if_neg]
  · simp [up2, upd]
  · intro a ha
    have z0 : ¬ a = 1 := by omega
    have z1 : ¬ a = 2 := by omega
    have z2 : ¬ a = 3 := by omega
    have z3 : ¬ a = 4 := by omega
    have z4 : ¬ a = 5 := by omega
    have z5 : ¬ a = 6 := by omega
    have z6 : ¬ a = 7 := by omega
    have z7 : ¬ a = 8 := by omega
    have z8 : ¬ a = 9 := by omega
    have z9 : ¬ a = 10 := by omega
    simp only [up2, cpI_n, ne_eq, z0, z1, z2, z3, z4, z5, z6, z7, z8, z9, not_false_eq_true, if_neg]
theorem c_Bx_becomes_11_1 (hd : 1 ≤ d) (hw : WFV V) (hV : CBx 1 V I) (h : ∀ I', CBx 11 V I' → I' 11 17 = 1 → (∀ a, (a < 11 ∨ 20 < a) → I' a = I a) → G I' J) : CV d Bx_becomes [.ref 11, .ref 1] I J G := by
  refine CV.of hd rfl (v_Bx_becomes_11_1_0 (QV_i.mpr (h _ ?_ ?_ ?_)))
  · refine CBx_copy hw hV (fun k hk => ?_) (fun p hp => ⟨?_, ?_⟩) (fun l hl => ⟨?_, ?_, ?_, ?_⟩) (fun k hk => ⟨?_, ?_, ?_⟩)
    · rcases hk with rfl | rfl | rfl | rfl | rfl | rfl | rfl | rfl <;> simp [up2, upd, cpI]
    all_goals (simp only [up2, cpI_n, ne_eq, Nat.reduceAdd, Nat.reduceEqDiff, not_false_eq_true, if_neg])
    · exact cpI_s hp
    · rw [cpI_s hp, cpI_n (by decide)]
    · rw [cpI_s hl]; simp only [up2, cpI_n, ne_eq, Nat.reduceAdd, Nat.reduceEqDiff, not_false_eq_true, if_neg]
    · rw [cpI_s hl]; simp only [up2, cpI_n, ne_eq, Nat.reduceAdd, Nat.reduceEqDiff, not_false_eq_true, if_neg]
    · rw [cpI_s hl]; simp only [up2, cpI_n, ne_eq, Nat.reduceAdd, Nat.reduceEqDiff, not_false_eq_true, if_neg]
    · rw [cpI_s hl]; simp only [up2, cpI_n, ne_eq, Nat.reduceAdd, Nat.reduceEqDiff, not_false_eq_true, if_neg]
    · rw [cpI_s hk]; simp only [up2, cpI_n, ne_eq, Nat.reduceAdd, Nat.reduceEqDiff, not_false_eq_true, if_neg]
    · rw [cpI_s hk]; simp only [up2, cpI_n, ne_eq, Nat.reduceAdd, Nat.reduceEqDiff, not_false_eq_true, if_neg]
    · rw [cpI_s hk]; simp only [up2, cpI_n, ne_eq, Nat.reduceAdd, Nat.reduceEqDiff, not_false_eq_true, if_neg]
  · simp [up2, upd]
  · intro a ha
    have z0 : ¬ a = 11 := by omega
    have z1 : ¬ a = 12 := by omega
    have z2 : ¬ a = 13 := by omega
    have z3 : ¬ a = 14 := by omega
    have z4 : ¬ a = 15 := by omega
    have z5 : ¬ a = 16 := by omega
    have z6 : ¬ a = 17 := by omega
    have z7 : ¬ a = 18 := by omega
    have z8 : ¬ a = 19 := by omega
    have z9 : ¬ a = 20 := by omega
    simp only [up2, cpI_n, ne_eq, z0, z1, z2, z3, z4, z5, z6, z7, z8, z9, not_false_eq_true, if_neg]
theorem c_Bx_becomes_1_11 (hd : 1 ≤ d) (hw : WFV V) (hV : CBx 11 V I) (h : ∀ I', CBx 1 V I' → I' 1 17 = 1 → (∀ a, (a < 1 ∨ 10 < a) → I' a = I a) → G I' J) : CV d Bx_becomes [.ref 1, .ref 11] I J G := by
  refine CV.of hd rfl (v_Bx_becomes_1_11_0 (QV_i.mpr (h _ ?_ ?_ ?_)))
  · refine CBx_copy hw hV (fun k hk => ?_) (fun p hp => ⟨?_, ?_⟩) (fun l hl => ⟨?_, ?_, ?_, ?_⟩) (fun k hk => ⟨?_, ?_, ?_⟩)
    · rcases hk with rfl | rfl | rfl | rfl | rfl | rfl | rfl | rfl <;> simp [up2, upd, cpI]
    all_goals (simp only [up2, cpI_n, ne_eq, Nat.reduceAdd, Nat.reduceEqDiff, not_false_eq_true, if_neg])
    · exact cpI_s hp
    · rw [cpI_s hp, cpI_n (by decide)]
    · rw [cpI_s hl]; simp only [up2, cpI_n, ne_eq, Nat.reduceAdd, Nat.reduceEqDiff, not_false_eq_true, if_neg]
    · rw [cpI_s hl]; simp only [up2, cpI_n, ne_eq, Nat.reduceAdd, Nat.reduceEqDiff, not_false_eq_true, if_neg]
    · rw [cpI_s hl]; simp only [up2, cpI_n, ne_eq, Nat.reduceAdd, Nat.reduceEqDiff, not_false_eq_true, if_neg]
    · rw [cpI_s hl]; simp only [up2, cpI_n, ne_eq, Nat.reduceAdd, Nat.reduceEqDiff, not_false_eq_true, if_neg]
    · rw [cpI_s hk]; simp only [up2, cpI_n, ne_eq, Nat.reduceAdd, Nat.reduceEqDiff, not_false_eq_true, if_neg]
    · rw [cpI_s hk]; simp only [up2, cpI_n, ne_eq, Nat.reduceAdd, Nat.reduceEqDiff, not_false_eq_true, if_neg]
    · rw [cpI_s hk]; simp only [up2, cpI_n, ne_eq, Nat.reduceAdd, Nat.reduceEqDiff, not_false_eq_true, if_neg]
  · simp [up2, upd]
  · intro a ha
    have z0 : ¬ a = 1 := by omega
    have z1 : ¬ a = 2 := by omega
    have z2 : ¬ a = 3 := by omega
    have z3 : ¬ a = 4 := by omega
    have z4 : ¬ a = 5 := by omega
    have z5 : ¬ a = 6 := by omega
    have z6 : ¬ a = 7 := by omega
    have z7 : ¬ a = 8 := by omega
    have z8 : ¬ a = 9 := by omega
    have z9 : ¬ a = 10 := by omega
    simp only [up2, cpI_n, ne_eq, z0, z1, z2, z3, z4, z5, z6, z7, z8, z9, not_false_eq_true, if_neg]
theorem c_Bx_becomes_21_1 (hd : 1 ≤ d) (hw : WFV V) (hV : CBx 1 V I) (h : ∀ I', CBx 21 V I' → I' 21 17 = 1 → (∀ a, (a < 21 ∨ 30 < a) → I' a = I a) → G I' J) : CV d Bx_becomes [.ref 21, .ref 1] I J G := by
  refine CV.of hd rfl (v_Bx_becomes_21_1_0 (QV_i.mpr (h _ ?_ ?_ ?_)))
  · refine CBx_copy hw hV (fun k hk => ?_) (fun p hp => ⟨?_, ?_⟩) (fun l hl => ⟨?_, ?_, ?_, ?_⟩) (fun k hk => ⟨?_, ?_, ?_⟩)
    · rcases hk with rfl | rfl | rfl | rfl | rfl | rfl | rfl | rfl <;> simp [up2, upd, cpI]
    all_goals (simp only [up2, cpI_n, ne_eq, Nat.reduceAdd, Nat.reduceEqDiff, not_false_eq_true, if_neg])
    · exact cpI_s hp
    · rw [cpI_s hp, cpI_n (by decide)]
    · rw [cpI_s hl]; simp only [up2, cpI_n, ne_eq, Nat.reduceAdd, Nat.reduceEqDiff, not_false_eq_true, if_neg]
    · rw [cpI_s hl]; simp only [up2, cpI_n, ne_eq, Nat.reduceAdd, Nat.reduceEqDiff, not_false_eq_true, if_neg]
    · rw [cpI_s hl]; simp only [up2, cpI_n, ne_eq, Nat.reduceAdd, Nat.reduceEqDiff, not_false_eq_true, if_neg]
    · rw [cpI_s hl]; simp only [up2, cpI_n, ne_eq, Nat.reduceAdd, Nat.reduceEqDiff, not_false_eq_true, if_neg]
    · rw [cpI_s hk]; simp only [up2, cpI_n, ne_eq, Nat.reduceAdd, Nat.reduceEqDiff, not_false_eq_true, if_neg]
    · rw [cpI_s hk]; simp only [up2, cpI_n, ne_eq, Nat.reduceAdd, Nat.reduceEqDiff, not_false_eq_true, if_neg]
    · rw [cpI_s hk]; simp only [up2, cpI_n, ne_eq, Nat.reduceAdd, Nat.reduceEqDiff, not_false_eq_true, if_neg]
  · simp [up2, upd]
  · intro a ha
    have z0 : ¬ a = 21 := by omega
    have z1 : ¬ a = 22 := by omega
    have z2 : ¬ a = 23 := by omega
    have z3 : ¬ a = 24 := by omega
    have z4 : ¬ a = 25 := by omega
    have z5 : ¬ a = 26 := by omega
    have z6 : ¬ a = 27 := by omega
    have z7 : ¬ a = 28 := by omega
    have z8 : ¬ a = 29 := by omega
    have z9 : ¬ a = 30 := by omega
    simp only [up2, cpI_n, ne_eq, z0, z1, z2, z3, z4, z5, z6, z7, z8, z9, not_false_eq_true, if_neg]
/-- what the class keeps: an image there is -/
theorem c_Sb_image (hd : 2 ≤ d) (hw : WFV V) (hV : CBx 1 V I) (h : ∀ I', CBx 11 V I' → I' 0 3 = 1 → (∀ a, a ≠ 0 → (a < 11 ∨ 20 < a) → I' a = I a) → (∀ k, k ≠ 3 → I' 0 k = I 0 k) → F 1 I' J) : CI d Sb_image [.ref 0] I J F := by
  refine CI.of (by omega) rfl (v_Sb_image_0_0 (c_Bx_becomes_11_1 (by omega) hw hV (fun I1 q1 q2 q3 => QI_i.mpr (h _ ?_ ?_ ?_ ?_))))
  · refine CBx_copy hw q1 (fun k _ => by simp [up2]) (fun p _ => ⟨by simp [up2], by simp [up2]⟩) (fun l _ => ⟨by simp [up2], by simp [up2], by simp [up2], by simp [up2]⟩) (fun k _ => ⟨by simp [up2], by simp [up2], by simp [up2]⟩)
  · simp [up2, upd]
  · intro a h0 h1; simp [up2, h0]; exact q3 a h1
  · intro k hk; simp [up2, upd, hk]; rw [q3 0 (by decide)]
theorem c_Sb_restore (hd : 2 ≤ d) (K : Option Bv) (hk : I 0 3 = bI K.isSome) (hK : ∀ VK, K = some VK → WFV VK ∧ CBx 11 VK I) (h0 : K = none → F (-4) I J) (h1 : ∀ VK I', K = some VK → CBx 1 VK I' → I' 1 17 = 1 → (∀ a, (a < 1 ∨ 10 < a) → I' a = I a) → F 1 I' J) : CI d Sb_restore [.ref 0] I J F := by
  refine CI.of (by omega) rfl (v_Sb_restore_0_0 ?_)
  rw [hk, bI_0]
  cases K with
  | none => exact ⟨fun _ => QI_i.mpr (h0 rfl), fun q => absurd rfl q⟩
  | some VK =>
    obtain ⟨k1, k2⟩ := hK VK rfl
    exact ⟨fun q => (by cases q), fun _ => c_Bx_becomes_1_11 (by omega) k1 k2 (fun I' q1 q2 q3 => QI_i.mpr (h1 VK I' rfl q1 q2 q3))⟩
theorem MRw_congr {g g' u u' : Nat → Int32} {n n' : Int32} (hw : WFV V) (h : MRw V g u n) (hg : ∀ k, k < 40 → g' k = g k) (hu : ∀ k, k < 24 → u' k = u k) (hn : n' = n) : MRw V g' u' n' := by
  have hp5 := hw.1.1
  have hl6 := hw.1.2.1
  have h8 := hw.2.2.2.2.2.1
  obtain ⟨⟨b1, b2, b3, b4⟩, c2, c3, c4, c5, cn, hp⟩ := h
  refine ⟨⟨by rw [hg 0 (by decide)]; exact b1, by rw [hg 1 (by decide)]; exact b2, fun p hp => ?_, fun l hl => ?_⟩, by rw [hg 2 (by decide)]; exact c2, by rw [hg 3 (by decide)]; exact c3, by rw [hg 4 (by decide)]; exact c4, by rw [hg 5 (by decide)]; exact c5, by rw [hn]; exact cn, fun k x hx => ?_⟩
  · rw [hg _ (by omega), hg _ (by omega)]; exact b3 p hp
  · rw [hg _ (by omega), hg _ (by omega), hg _ (by omega), hg _ (by omega)]; exact b4 l hl
  · have hk := (List.getElem?_eq_some_iff.mp hx).1
    rw [hu _ (by omega), hu _ (by omega), hu _ (by omega)]; exact hp k x hx
/-- what the model keeps -/
def KMx (V : Bv) (I : I2) : Prop := MRw V (I 73) (fun k => I 73 (40 + k)) (I 57 22)
end KEPT
