/-! both sides beside one state: box, image, tape, sheets -/
def WFg (V : Bv) (K : Option Bv) (t : Tpe) (S : Nat → Shv) : Prop := WFV V ∧ (∀ VK, K = some VK → WFV VK) ∧ WFT t ∧ WFSs S
def RelC (V : Bv) (K : Option Bv) (t : Tpe) (S : Nat → Shv) (I : I2) (J : J2) : Prop := CBx 1 V I ∧ CaR V.B I ∧ I 0 3 = bI K.isSome ∧ (∀ VK, K = some VK → CBx 11 VK I) ∧ TpC t I ∧ ShCs S I J
def RelM (V : Bv) (K : Option Bv) (t : Tpe) (S : Nat → Shv) (I : I2) (J : J2) : Prop := MBx V I ∧ I 57 23 = bI K.isSome ∧ (∀ VK, K = some VK → KMx VK I) ∧ TpM t I ∧ ShMs S I J ∧ ∀ k, KnV (I 69 k)
def Rel (V : Bv) (K : Option Bv) (t : Tpe) (S : Nat → Shv) (I : I2) (J : J2) : Prop := WFg V K t S ∧ RelC V K t S I J ∧ RelM V K t S I J
/-- what calls of the class, of the model leave alone -/
def FrCt (I I' : I2) (J J' : J2) : Prop := ∀ a, 57 ≤ a → I' a = I a ∧ J' a = J a
def FrMt (I I' : I2) (J J' : J2) : Prop := ∀ a, (a < 57 ∨ 78 ≤ a) → I' a = I a ∧ J' a = J a
section REL2
variable {V V' : Bv} {K : Option Bv} {t t' : Tpe} {S S' : Nat → Shv} {I I' : I2} {J J' : J2} {b : Nat} {B : Bx}
theorem CBx_cg (h : CBx b V I) (e : ∀ a, b ≤ a → a ≤ b + 9 → I' a = I a) : CBx b V I' := by
  have e0 := e b (by omega) (by omega)
  have e1 := e (b + 1) (by omega) (by omega)
  have e2 := e (b + 2) (by omega) (by omega)
  have e3 := e (b + 3) (by omega) (by omega)
  have e4 := e (b + 4) (by omega) (by omega)
  have e5 := e (b + 5) (by omega) (by omega)
  have e6 := e (b + 6) (by omega) (by omega)
  have e7 := e (b + 7) (by omega) (by omega)
  have e8 := e (b + 8) (by omega) (by omega)
  have e9 := e (b + 9) (by omega) (by omega)
  unfold CBx BoxI at h ⊢
  rw [e0, e1, e2, e3, e4, e5, e6, e7, e8, e9]; exact h
theorem CaR_cg (h : CaR B I) (e17 : I' 1 17 = I 1 17) (e : ∀ a, 33 ≤ a → a ≤ 40 → I' a = I a) : CaR B I' := by
  have e0 := e 33 (by omega) (by omega)
  have e1 := e 34 (by omega) (by omega)
  have e2 := e 35 (by omega) (by omega)
  have e3 := e 36 (by omega) (by omega)
  have e4 := e 37 (by omega) (by omega)
  have e5 := e 38 (by omega) (by omega)
  have e6 := e 39 (by omega) (by omega)
  have e7 := e 40 (by omega) (by omega)
  unfold CaR ChR WkR at h ⊢
  rw [e17, e0, e1, e2, e3, e4, e5, e6, e7]; exact h
theorem TpC_cg (h : TpC t I) (e1 : I' 31 1 = I 31 1) (e2 : I' 32 = I 32) : TpC t I' := by
  unfold TpC at h ⊢
  rw [e1, e2]; exact h
theorem ShCs_cg (h : ShCs S I J) (e : ∀ a, 49 ≤ a → a ≤ 56 → I' a = I a ∧ J' a = J a) : ShCs S I' J' := fun j hj => ShC_congr (h j hj) (e _ (by omega) (by omega)).1 (e _ (by omega) (by omega)).2
theorem KMx_cg (h : KMx V I) (e1 : I' 73 = I 73) (e2 : I' 57 22 = I 57 22) : KMx V I' := by
  unfold KMx at h ⊢
  rw [e1, e2]; exact h
theorem MBx_cg (h : MBx V I) (e1 : I' 58 = I 58) (e2 : I' 62 = I 62) (e3 : I' 57 9 = I 57 9) : MBx V I' := by
  show MRw V (I' 58) (I' 62) (I' 57 9)
  rw [e1, e2, e3]; exact h
theorem TpM_cg (h : TpM t I) (e1 : I' 57 2 = I 57 2) (e2 : I' 59 = I 59) : TpM t I' := by
  unfold TpM at h ⊢
  rw [e1, e2]; exact h
theorem ShMs_cg (h : ShMs S I J) (e1 : I' 74 = I 74) (e2 : I' 75 = I 75) (e3 : J' 76 = J 76) : ShMs S I' J' := fun j hj => ShM_congr (h j hj) (by rw [e1]) (by rw [e2]) (fun k _ => by rw [e3])
theorem rc_fr (h : RelC V K t S I J) (f : FrMt I I' J J') : RelC V K t S I' J' := by
  obtain ⟨a1, a2, a3, a4, a5, a6⟩ := h
  have e : ∀ a, a < 57 → I' a = I a := fun a x => (f a (Or.inl x)).1
  exact ⟨CBx_cg a1 (fun a _ x => e a (by omega)), CaR_cg a2 (by rw [e 1 (by decide)]) (fun a _ x => e a (by omega)), by rw [e 0 (by decide)]; exact a3, fun VK q => CBx_cg (a4 VK q) (fun a _ x => e a (by omega)), TpC_cg a5 (by rw [e 31 (by decide)]) (e 32 (by decide)), ShCs_cg a6 (fun a _ x => f a (by omega))⟩
theorem rm_fr (h : RelM V K t S I J) (f : FrCt I I' J J') : RelM V K t S I' J' := by
  obtain ⟨a1, a2, a3, a4, a5, a6⟩ := h
  have e : ∀ a, 57 ≤ a → I' a = I a := fun a x => (f a x).1
  have e57 := e 57 (by decide)
  exact ⟨MBx_cg a1 (e 58 (by decide)) (e 62 (by decide)) (by rw [e57]), by rw [e57]; exact a2, fun VK q => KMx_cg (a3 VK q) (e 73 (by decide)) (by rw [e57]), TpM_cg a4 (by rw [e57]) (e 59 (by decide)), ShMs_cg a5 (e 74 (by decide)) (e 75 (by decide)) (f 76 (by decide)).2, fun k => by rw [e 69 (by decide)]; exact a6 k⟩
theorem rc_op (h : RelC V K t S I J) (hV : CBx 1 V' I') (f : FrC V V' I I') : RelC V' K t S I' J ∧ FrCt I I' J J := by
  obtain ⟨a1, a2, a3, a4, a5, a6⟩ := h
  have e : ∀ a, 11 ≤ a → I' a = I a := fun a x => f.1 a (Or.inr x)
  refine ⟨⟨hV, ?_, by rw [f.1 0 (Or.inl rfl)]; exact a3, fun VK q => CBx_cg (a4 VK q) (fun a x _ => e a (by omega)), TpC_cg a5 (by rw [e 31 (by decide)]) (e 32 (by decide)), ShCs_cg a6 (fun a x _ => ⟨e a (by omega), rfl⟩)⟩, fun a x => ⟨e a (by omega), rfl⟩⟩
  rcases f.2 with z | ⟨z, zB⟩
  · exact Or.inl z
  · rw [zB]; exact CaR_cg a2 z (fun a x _ => e a (by omega))
theorem rc_g (h : RelC V K t S I J) (f : FrG I I') (hC : CaR V.B I') : RelC V K t S I' J ∧ FrCt I I' J J := by
  obtain ⟨a1, a2, a3, a4, a5, a6⟩ := h
  have e : ∀ a, (a < 33 ∨ 47 < a) → a ≠ 1 → I' a = I a := f.1
  exact ⟨⟨f.cbx a1, hC, by rw [e 0 (by decide) (by decide)]; exact a3, fun VK q => CBx_cg (a4 VK q) (fun a x y => e a (by omega) (by omega)), TpC_cg a5 (by rw [e 31 (by decide) (by decide)]) (e 32 (by decide) (by decide)), ShCs_cg a6 (fun a x _ => ⟨e a (by omega) (by omega), rfl⟩)⟩, fun a x => ⟨e a (by omega) (by omega), rfl⟩⟩
theorem rc_sh (h : RelC V K t S I J) (hS : ShCs S' I' J') (f : FrSh I I' J J') : RelC V K t S' I' J' ∧ FrCt I I' J J' := by
  obtain ⟨a1, a2, a3, a4, a5, a6⟩ := h
  have e : ∀ a, a < 49 → I' a = I a := fun a x => (f a (Or.inl x)).1
  exact ⟨⟨CBx_cg a1 (fun a _ x => e a (by omega)), CaR_cg a2 (by rw [e 1 (by decide)]) (fun a _ x => e a (by omega)), by rw [e 0 (by decide)]; exact a3, fun VK q => CBx_cg (a4 VK q) (fun a _ x => e a (by omega)), TpC_cg a5 (by rw [e 31 (by decide)]) (e 32 (by decide)), hS⟩, fun a x => f a (by omega)⟩
theorem rc_cl (h : RelC V K t S I J) (f : ∀ a, (a < 21 ∨ 30 < a) → I' a = I a) : RelC V K t S I' J ∧ FrCt I I' J J := by
  obtain ⟨a1, a2, a3, a4, a5, a6⟩ := h
  exact ⟨⟨CBx_cg a1 (fun a _ x => f a (by omega)), CaR_cg a2 (by rw [f 1 (by decide)]) (fun a x _ => f a (by omega)), by rw [f 0 (by decide)]; exact a3, fun VK q => CBx_cg (a4 VK q) (fun a _ x => f a (by omega)), TpC_cg a5 (by rw [f 31 (by decide)]) (f 32 (by decide)), ShCs_cg a6 (fun a x _ => ⟨f a (by omega), rfl⟩)⟩, fun a x => ⟨f a (by omega), rfl⟩⟩
theorem rc_img (h : RelC V K t S I J) (hV : CBx 11 V I') (h3 : I' 0 3 = 1) (f : ∀ a, a ≠ 0 → (a < 11 ∨ 20 < a) → I' a = I a) : RelC V (some V) t S I' J ∧ FrCt I I' J J := by
  obtain ⟨a1, a2, a3, a4, a5, a6⟩ := h
  exact ⟨⟨CBx_cg a1 (fun a _ x => f a (by omega) (by omega)), CaR_cg a2 (by rw [f 1 (by decide) (by decide)]) (fun a x _ => f a (by omega) (by omega)), h3, fun VK q => by cases q; exact hV, TpC_cg a5 (by rw [f 31 (by decide) (by decide)]) (f 32 (by decide) (by decide)), ShCs_cg a6 (fun a x _ => ⟨f a (by omega) (by omega), rfl⟩)⟩, fun a x => ⟨f a (by omega) (by omega), rfl⟩⟩
theorem rc_res (h : RelC V K t S I J) (hV : CBx 1 V' I') (h17 : I' 1 17 = 1) (f : ∀ a, (a < 1 ∨ 10 < a) → I' a = I a) : RelC V' K t S I' J ∧ FrCt I I' J J :=
  rc_op h hV ⟨fun a x => f a (by omega), Or.inl h17⟩
theorem rc_type (h : RelC V K t S I J) (hT : TpC t' I') (f : ∀ a, a ≠ 31 → a ≠ 32 → I' a = I a) : RelC V K t' S I' J ∧ FrCt I I' J J := by
  obtain ⟨a1, a2, a3, a4, a5, a6⟩ := h
  exact ⟨⟨CBx_cg a1 (fun a _ x => f a (by omega) (by omega)), CaR_cg a2 (by rw [f 1 (by decide) (by decide)]) (fun a x _ => f a (by omega) (by omega)), by rw [f 0 (by decide) (by decide)]; exact a3, fun VK q => CBx_cg (a4 VK q) (fun a _ x => f a (by omega) (by omega)), hT, ShCs_cg a6 (fun a x _ => ⟨f a (by omega) (by omega), rfl⟩)⟩, fun a x => ⟨f a (by omega) (by omega), rfl⟩⟩
theorem rc_box (h : RelC V K t S I J) (hV : CBx 1 V' I') (f : ∀ a, (a = 0 ∨ (10 < a ∧ a < 21) ∨ 31 < a) → I' a = I a) (h17 : I' 1 17 = 1 ∨ (I' 1 = I 1 ∧ V' = V)) (h31 : I' 31 1 = 0) : RelC V' K (0, t.2) S I' J ∧ FrCt I I' J J := by
  obtain ⟨a1, a2, a3, a4, a5, a6⟩ := h
  refine ⟨⟨hV, ?_, by rw [f 0 (Or.inl rfl)]; exact a3, fun VK q => CBx_cg (a4 VK q) (fun a x y => f a (by omega)), ⟨h31, fun k hk => absurd hk (Nat.not_lt_zero k)⟩, ShCs_cg a6 (fun a x _ => ⟨f a (by omega), rfl⟩)⟩, fun a x => ⟨f a (by omega), rfl⟩⟩
  rcases h17 with z | ⟨z, zV⟩
  · exact Or.inl z
  · rw [zV]; exact CaR_cg a2 (by rw [z]) (fun a x _ => f a (by omega))
theorem rm_n (h : RelM V K t S I J) (hV : MBx V' I') (f : FrN I I') : RelM V' K t S I' J ∧ FrMt I I' J J := by
  obtain ⟨a1, a2, a3, a4, a5, a6⟩ := h
  have e : ∀ a, a ≠ 57 → a ≠ 58 → a ≠ 62 → I' a = I a := f.1
  exact ⟨⟨hV, by rw [f.2 23 (by decide)]; exact a2, fun VK q => KMx_cg (a3 VK q) (e 73 (by decide) (by decide) (by decide)) (f.2 22 (by decide)), TpM_cg a4 (f.2 2 (by decide)) (e 59 (by decide) (by decide) (by decide)), ShMs_cg a5 (e 74 (by decide) (by decide) (by decide)) (e 75 (by decide) (by decide) (by decide)) rfl, fun k => by rw [e 69 (by decide) (by decide) (by decide)]; exact a6 k⟩, fun a x => ⟨e a (by omega) (by omega) (by omega), rfl⟩⟩
theorem rm_j (h : RelM V K t S I J) (f : FrQ I I') (g : FrJ J J') : RelM V K t S I' J' ∧ FrMt I I' J J' := by
  obtain ⟨a1, a2, a3, a4, a5, a6⟩ := h
  have e : ∀ a, (a < 63 ∨ 70 < a) → a ≠ 57 → I' a = I a := f.1
  exact ⟨⟨f.mbx a1, by rw [f.2.1 23 (by decide)]; exact a2, fun VK q => KMx_cg (a3 VK q) (e 73 (by decide) (by decide)) (f.2.1 22 (by decide)), TpM_cg a4 (f.2.1 2 (by decide)) (e 59 (by decide) (by decide)), ShMs_cg a5 (e 74 (by decide) (by decide)) (e 75 (by decide) (by decide)) (g 76 (by decide) (by decide)), fun k => f.2.2 k (a6 k)⟩, fun a x => ⟨e a (by omega) (by omega), g a (by omega) (by omega)⟩⟩
theorem rm_q (h : RelM V K t S I J) (f : FrQ I I') : RelM V K t S I' J ∧ FrMt I I' J J := rm_j h f FrJ.rf
theorem rm_sh (h : RelM V K t S I J) (hS : ShMs S' I' J') (f : FrSi I I') (g : FrSj J J') : RelM V K t S' I' J' ∧ FrMt I I' J J' := by
  obtain ⟨a1, a2, a3, a4, a5, a6⟩ := h
  have e : ∀ a, a ≠ 74 → a ≠ 75 → I' a = I a := f
  have e57 := e 57 (by decide) (by decide)
  exact ⟨⟨MBx_cg a1 (e 58 (by decide) (by decide)) (e 62 (by decide) (by decide)) (by rw [e57]), by rw [e57]; exact a2, fun VK q => KMx_cg (a3 VK q) (e 73 (by decide) (by decide)) (by rw [e57]), TpM_cg a4 (by rw [e57]) (e 59 (by decide) (by decide)), hS, fun k => by rw [e 69 (by decide) (by decide)]; exact a6 k⟩, fun a x => ⟨e a (by omega) (by omega), g a (by omega) (by omega)⟩⟩
theorem rm_img (h : RelM V K t S I J) (hV : KMx V I') (h3 : I' 57 23 = 1) (f : ∀ a, a ≠ 57 → a ≠ 73 → I' a = I a) (g : ∀ k, k ≠ 22 → k ≠ 23 → I' 57 k = I 57 k) : RelM V (some V) t S I' J ∧ FrMt I I' J J := by
  obtain ⟨a1, a2, a3, a4, a5, a6⟩ := h
  exact ⟨⟨MBx_cg a1 (f 58 (by decide) (by decide)) (f 62 (by decide) (by decide)) (g 9 (by decide) (by decide)), h3, fun VK q => by cases q; exact hV, TpM_cg a4 (g 2 (by decide) (by decide)) (f 59 (by decide) (by decide)), ShMs_cg a5 (f 74 (by decide) (by decide)) (f 75 (by decide) (by decide)) rfl, fun k => by rw [f 69 (by decide) (by decide)]; exact a6 k⟩, fun a x => ⟨f a (by omega) (by omega), rfl⟩⟩
theorem rm_type (h : RelM V K t S I J) (hT : TpM t' I') (f : ∀ a, a ≠ 57 → a ≠ 59 → I' a = I a) (g : ∀ k, k ≠ 2 → I' 57 k = I 57 k) : RelM V K t' S I' J ∧ FrMt I I' J J := by
  obtain ⟨a1, a2, a3, a4, a5, a6⟩ := h
  exact ⟨⟨MBx_cg a1 (f 58 (by decide) (by decide)) (f 62 (by decide) (by decide)) (g 9 (by decide)), by rw [g 23 (by decide)]; exact a2, fun VK q => KMx_cg (a3 VK q) (f 73 (by decide) (by decide)) (g 22 (by decide)), hT, ShMs_cg a5 (f 74 (by decide) (by decide)) (f 75 (by decide) (by decide)) rfl, fun k => by rw [f 69 (by decide) (by decide)]; exact a6 k⟩, fun a x => ⟨f a (by omega) (by omega), rfl⟩⟩
theorem rm_box (h : RelM V K t S I J) (hV : MBx V' I') (f : FrX2 I I') (h2 : I' 57 2 = 0) : RelM V' K (0, t.2) S I' J ∧ FrMt I I' J J := by
  obtain ⟨a1, a2, a3, a4, a5, a6⟩ := h
  have e : ∀ a, a ≠ 57 → a ≠ 58 → a ≠ 60 → a ≠ 61 → I' a = I a := f.1
  exact ⟨⟨hV, by rw [f.2 23 (by decide) (by decide) (by decide) (by decide) (by decide)]; exact a2, fun VK q => KMx_cg (a3 VK q) (e 73 (by decide) (by decide) (by decide) (by decide)) (f.2 22 (by decide) (by decide) (by decide) (by decide) (by decide)), ⟨h2, fun k hk => absurd hk (Nat.not_lt_zero k)⟩, ShMs_cg a5 (e 74 (by decide) (by decide) (by decide) (by decide)) (e 75 (by decide) (by decide) (by decide) (by decide)) rfl, fun k => by rw [e 69 (by decide) (by decide) (by decide) (by decide)]; exact a6 k⟩, fun a x => ⟨e a (by omega) (by omega) (by omega) (by omega), rfl⟩⟩
theorem fc_rf : FrCt I I J J := fun _ _ => ⟨rfl, rfl⟩
theorem fm_rf : FrMt I I J J := fun _ _ => ⟨rfl, rfl⟩
end REL2
