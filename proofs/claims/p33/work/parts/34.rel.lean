/-! what a box holds: panels, locks, lid, where all is, filed, the draw, what may be undone (newest first) -/
abbrev Bv : Type := Bx × (Nat × Nat × Nat × Nat) × List (Nat × Nat × Nat)
abbrev Bv.B (V : Bv) : Bx := V.1
abbrev Bv.lid (V : Bv) : Nat := V.2.1.1
abbrev Bv.s (V : Bv) : Nat := V.2.1.2.1
abbrev Bv.f (V : Bv) : Nat := V.2.1.2.2.1
abbrev Bv.dr (V : Bv) : Nat := V.2.1.2.2.2
abbrev Bv.past (V : Bv) : List (Nat × Nat × Nat) := V.2.2
def okS (B : Bx) (s : Nat) : Prop := s < 4 ^ B.pn ∧ ∀ p, p < B.pn → pl s p ≤ B.dp p
def okP (B : Bx) (x : Nat × Nat × Nat) : Prop := okS B x.1 ∧ x.2.1 < 2 ^ B.ln ∧ x.2.2 < 2 ^ 31
def WFV (V : Bv) : Prop := WFB V.B ∧ (V.B.pn = 0 ∧ V.lid = 0 ∨ V.lid < V.B.pn) ∧ okS V.B V.s ∧ V.f < 2 ^ V.B.ln ∧ V.dr < 2 ^ 31 ∧ V.past.length ≤ 8 ∧ ∀ x ∈ V.past, okP V.B x
/-- the class: at place b -/
def CBx (b : Nat) (V : Bv) (I : I2) : Prop := BoxI b V.B I ∧ I b 8 = nI V.lid ∧ I b 9 = nI V.s ∧ I b 10 = nI V.f ∧ I b 11 = nI V.dr ∧ I b 15 = nI V.past.length ∧ ∃ np, np < 8 ∧ I b 16 = nI np ∧ ∀ k x, V.past[k]? = some x → I (b + 7) ((np + 7 - k) % 8) = nI x.1 ∧ I (b + 8) ((np + 7 - k) % 8) = nI x.2.1 ∧ I (b + 9) ((np + 7 - k) % 8) = nI x.2.2
/-- the model: its row of numbers, the row of what may be undone, how many -/
def BoxR (B : Bx) (g : Nat → Int32) : Prop := g 0 = nI B.pn ∧ g 1 = nI B.ln ∧ (∀ p, p < B.pn → g (6 + 2 * p) = nI (B.kd p) ∧ g (6 + 2 * p + 1) = nI (B.dp p)) ∧ ∀ l, l < B.ln → g (16 + 4 * l) = nI (B.ow l) ∧ g (16 + 4 * l + 1) = nI (B.wy l) ∧ g (16 + 4 * l + 2) = nI (B.ot l) ∧ g (16 + 4 * l + 3) = nI (B.ps l)
def MRw (V : Bv) (g u : Nat → Int32) (n : Int32) : Prop := BoxR V.B g ∧ g 2 = nI V.lid ∧ g 3 = nI V.f ∧ g 4 = nI V.dr ∧ g 5 = nI V.s ∧ n = nI V.past.length ∧ ∀ k x, V.past[k]? = some x → u (3 * (V.past.length - 1 - k)) = nI x.1 ∧ u (3 * (V.past.length - 1 - k) + 1) = nI x.2.1 ∧ u (3 * (V.past.length - 1 - k) + 2) = nI x.2.2
abbrev MBx (V : Bv) (I : I2) : Prop := MRw V (I 58) (I 62) (I 57 9)
theorem MBx.boxM {V : Bv} {I : I2} (h : MBx V I) : BoxM V.B I := h.1
/-- what a step of now leaves alone: the class -/
def Fr1 (I I' : I2) : Prop := (∀ a, (a = 0 ∨ 11 ≤ a) → I' a = I a) ∧ I' 1 17 = I 1 17
/-- what a step of now leaves alone: the model -/
def FrN (I I' : I2) : Prop := (∀ a, a ≠ 57 → a ≠ 58 → a ≠ 62 → I' a = I a) ∧ ∀ k, k ≠ 9 → I' 57 k = I 57 k
theorem Fr1.rf {I : I2} : Fr1 I I := ⟨fun _ _ => rfl, rfl⟩
theorem Fr1.tr {I0 I1 I2 : I2} (h1 : Fr1 I0 I1) (h2 : Fr1 I1 I2) : Fr1 I0 I2 := ⟨fun a h => (h2.1 a h).trans (h1.1 a h), h2.2.trans h1.2⟩
theorem FrN.rf {I : I2} : FrN I I := ⟨fun _ _ _ _ => rfl, fun _ _ => rfl⟩
theorem FrN.tr {I0 I1 I2 : I2} (h1 : FrN I0 I1) (h2 : FrN I1 I2) : FrN I0 I2 := ⟨fun a x y z => (h2.1 a x y z).trans (h1.1 a x y z), fun k h => (h2.2 k h).trans (h1.2 k h)⟩
/-- with what was kept ahead of a step -/
def Bv.rem (V : Bv) : Bv := (V.1, V.2.1, ((V.s, V.f, V.dr) :: V.past).take 8)
theorem rem_get {V : Bv} {k : Nat} {x : Nat × Nat × Nat} (h : V.rem.past[k]? = some x) : k < 8 ∧ (k = 0 ∧ x = (V.s, V.f, V.dr) ∨ ∃ j, k = j + 1 ∧ V.past[j]? = some x) := by
  simp only [Bv.rem, Bv.past] at h
  rw [List.getElem?_take] at h
  split at h
  · next hk =>
    refine ⟨hk, ?_⟩
    cases k with
    | zero => simp at h; exact Or.inl ⟨rfl, h.symm⟩
    | succ j => exact Or.inr ⟨j, rfl, by simpa using h⟩
  · cases h
theorem rem_len {V : Bv} (h : V.past.length ≤ 8) : V.rem.past.length = if V.past.length < 8 then V.past.length + 1 else 8 := by
  simp only [Bv.rem, Bv.past, List.length_take, List.length_cons]
  have : V.2.2.length ≤ 8 := h
  split <;> omega
theorem WFV.rem {V : Bv} (h : WFV V) : WFV V.rem := by
  obtain ⟨h1, h2, h3, h4, h5, h6, h7⟩ := h
  refine ⟨h1, h2, h3, h4, h5, by rw [rem_len h6]; split <;> omega, fun x hx => ?_⟩
  have hx2 := List.mem_of_mem_take hx
  rcases List.mem_cons.mp hx2 with rfl | hx3
  · exact ⟨h3, h4, h5⟩
  · exact h7 x hx3
theorem s31 {B : Bx} {s : Nat} (hw : WFB B) (h : s < 4 ^ B.pn) : s < 1024 := Nat.lt_of_lt_of_le h (Nat.le_trans (Nat.pow_le_pow_right (by decide) hw.1) (by decide))
theorem f64 {B : Bx} {f : Nat} (hw : WFB B) (h : f < 2 ^ B.ln) : f < 64 := Nat.lt_of_lt_of_le h (Nat.le_trans (Nat.pow_le_pow_right (by decide) hw.2.1) (by decide))
theorem n_rm {a k : Nat} (ha : a < 2 ^ 31) (hk : 0 < k) (hk2 : k < 2 ^ 31) : rmI (nI a) (nI k) = nI (a % k) := pk_rem ha hk hk2
theorem n_div {a k : Nat} (ha : a < 2 ^ 31) (hk : 0 < k) (hk2 : k < 2 ^ 31) : nI a / nI k = nI (a / k) := pk_div ha hk hk2
section REL
variable {d : Nat} {V : Bv} {I : I2} {J : J2} {G : I2 → J2 → Prop} {F : Int32 → I2 → J2 → Prop}
set_option maxHeartbeats 1000000 in
theorem c_Bx_remember (hd : 1 ≤ d) (hw : WFV V) (hV : CBx 1 V I) (h : ∀ I', CBx 1 V.rem I' → Fr1 I I' → G I' J) : CV d Bx_remember [.ref 1] I J G := by
  obtain ⟨hB, h8, h9, h10, h11, h15, np, hnp, h16, hp⟩ := hV
  have h6 := hw.2.2.2.2.2.1
  refine CV.of hd rfl (v_Bx_remember_1_0 ?_)
  have hv : vp_in (I 1 16) 8 := by rw [h16]; exact n_vp hnp (by decide)
  have e1 : rmI (I 1 16 + 1) 8 = nI ((np + 1) % 8) := by rw [h16, n_inc]; exact n_rm (by omega) (by decide) (by decide)
  have e2 : tN (I 1 16) = np := by rw [h16]; exact n_tN (by omega)
  have key : ∀ I', (∀ a, a ≠ 1 → a ≠ 8 → a ≠ 9 → a ≠ 10 → I' a = I a) → (∀ k, k ≠ 15 → k ≠ 16 → I' 1 k = I 1 k) → I' 1 15 = nI V.rem.past.length → I' 1 16 = nI ((np + 1) % 8) → I' 8 = upd (I 8) np (I 1 9) → I' 9 = upd (I 9) np (I 1 10) → I' 10 = upd (I 10) np (I 1 11) → G I' J := by
    intro I' g1 g2 g3 g4 g5 g6 g7
    refine h I' ⟨⟨?_, ?_, ?_, ?_⟩, ?_, ?_, ?_, ?_, g3, (np + 1) % 8, Nat.mod_lt _ (by decide), g4, ?_⟩ ⟨fun a ha => g1 a (by omega) (by omega) (by omega) (by omega), g2 17 (by decide) (by decide)⟩
    · rw [g2 2 (by decide) (by decide)]; exact hB.1
    · rw [g2 7 (by decide) (by decide)]; exact hB.2.1
    · intro p hp2
      rw [g1 (1 + 1) (by decide) (by decide) (by decide) (by decide), g1 (1 + 2) (by decide) (by decide) (by decide) (by decide)]
      exact hB.2.2.1 p hp2
    · intro l hl
      rw [g1 (1 + 3) (by decide) (by decide) (by decide) (by decide), g1 (1 + 4) (by decide) (by decide) (by decide) (by decide), g1 (1 + 5) (by decide) (by decide) (by decide) (by decide), g1 (1 + 6) (by decide) (by decide) (by decide) (by decide)]
      exact hB.2.2.2 l hl
    · rw [g2 8 (by decide) (by decide)]; exact h8
    · rw [g2 9 (by decide) (by decide)]; exact h9
    · rw [g2 10 (by decide) (by decide)]; exact h10
    · rw [g2 11 (by decide) (by decide)]; exact h11
    · intro k x hx
      obtain ⟨hk, ⟨rfl, rfl⟩ | ⟨j, rfl, hj⟩⟩ := rem_get hx
      · have e : ((np + 1) % 8 + 7 - 0) % 8 = np := by omega
        rw [e, show I' (1 + 7) = upd (I 8) np (I 1 9) from g5, show I' (1 + 8) = upd (I 9) np (I 1 10) from g6, show I' (1 + 9) = upd (I 10) np (I 1 11) from g7, h9, h10, h11]
        simp [upd]
      · have e : ((np + 1) % 8 + 7 - (j + 1)) % 8 = (np + 7 - j) % 8 := by omega
        have ne : (np + 7 - j) % 8 ≠ np := by omega
        rw [e, show I' (1 + 7) = upd (I 8) np (I 1 9) from g5, show I' (1 + 8) = upd (I 9) np (I 1 10) from g6, show I' (1 + 9) = upd (I 10) np (I 1 11) from g7]
        simp only [upd, if_neg ne]
        exact hp j x hj
  refine ⟨hv, hv, hv, fun hlt => QV_i.mpr (key _ ?_ ?_ ?_ ?_ ?_ ?_ ?_), fun hlt => QV_i.mpr (key _ ?_ ?_ ?_ ?_ ?_ ?_ ?_)⟩
  · intro a a1 a2 a3 a4; simp [up2, a1, a2, a3, a4]
  · intro k k1 k2; simp [up2, upd, k1, k2]
  · rw [h15, show (8 : Int32) = nI 8 from rfl, n_lt (by omega) (by decide)] at hlt
    rw [rem_len h6, if_pos hlt]; simp [up2, upd]; rw [h15, n_inc]
  · simp [up2, upd]; exact e1
  · simp [up2, e2]
  · simp [up2, e2]
  · simp [up2, e2]
  · intro a a1 a2 a3 a4; simp [up2, a1, a2, a3, a4]
  · intro k k1 k2; simp [up2, upd, k1, k2]
  · rw [h15, show (8 : Int32) = nI 8 from rfl, n_lt (by omega) (by decide)] at hlt
    rw [rem_len h6, if_neg hlt]; simp [up2, upd]; rw [h15]; congr 1; omega
  · simp [up2, upd]; exact e1
  · simp [up2, e2]
  · simp [up2, e2]
  · simp [up2, e2]
end REL
