/-! the model: it goes through the states the same way -/
def TZ (T : Tw) : Prop := ∀ t, T.fa t = 0 → T.wy t = 0
theorem TZ_meet {B : Bx} {T : Tw} {s m t : Nat} (h : TZ T) (hT : TI B T) (hs : s ∈ T.ord) : TZ (meet T s m t) := by
  have mo : ∀ T1 : Tw, TZ T1 → TZ (T1.more s t) := by
    intro T1 h1 x hx
    unfold Tw.more at hx ⊢
    split
    · next e =>
      rw [if_pos e] at hx
      have hx : T1.fa x = 0 := hx
      show updN T1.wy t _ x = 0
      unfold updN
      split
      · next e2 => subst e2; omega
      · exact h1 x hx
    · next e => rw [if_neg e] at hx; exact h1 x hx
  unfold meet
  split
  · refine mo _ (fun x hx => ?_)
    have hx : updN T.fa t (T.fa s + 1) x = 0 := hx
    show updN T.wy t 0 x = 0
    unfold updN at hx ⊢
    split
    · rfl
    · next e => rw [if_neg e] at hx; exact h x hx
  · exact mo T h
theorem TZ_vis {B : Bx} {f s m : Nat} {T : Tw} (hw : WFB B) (h : TI B T) (hz : TZ T) (hs : s ∈ T.ord) (hm : m ≤ 2 * B.pn) : TZ (vis B f s m T) := by
  induction m with
  | zero => exact hz
  | succ m ih =>
    simp only [vis]
    split
    · exact ih (by omega)
    · exact TZ_meet (ih (by omega)) (TI_vis hw h hs (by omega)) (vis_mem hs)
theorem TZ_0 {s0 : Nat} : TZ (bfs0 s0) := by
  intro t ht
  have ht : updN (fun _ => 0) s0 1 t = 0 := ht
  exact ht
theorem TZ_bfsN {B : Bx} {f s0 : Nat} (hw : WFB B) (h : okS B s0) (n : Nat) : TZ (bfsN B f s0 n) := by
  induction n with
  | zero => exact TZ_0
  | succ n ih =>
    simp only [bfsN]
    split
    · exact ih
    · next s hs => exact TZ_vis hw (TI_bfsN hw h n) ih (List.mem_of_getElem? hs) (Nat.le_refl _)
theorem meet_pre {T : Tw} {s m t j x : Nat} (h : T.ord[j]? = some x) : (meet T s m t).ord[j]? = some x := by
  unfold meet
  split
  · rw [more_ord.1]
    show (T.ord ++ [t])[j]? = some x
    rw [List.getElem?_append_left (List.getElem?_eq_some_iff.mp h).1]; exact h
  · rw [more_ord.1]; exact h
theorem vis_pre {B : Bx} {f s m j x : Nat} {T : Tw} (h : T.ord[j]? = some x) : (vis B f s m T).ord[j]? = some x := by
  induction m with
  | zero => exact h
  | succ m ih =>
    simp only [vis]
    split
    · exact ih
    · exact meet_pre ih
theorem bfsN_pre {B : Bx} {f s0 n j x : Nat} (h : (bfsN B f s0 n).ord[j]? = some x) (k : Nat) : (bfsN B f s0 (n + k)).ord[j]? = some x := by
  induction k with
  | zero => exact h
  | succ k ih =>
    show (bfsN B f s0 (n + k + 1)).ord[j]? = some x
    simp only [bfsN]
    split
    · exact ih
    · exact vis_pre ih
theorem bfs_pre {B : Bx} {f s0 n j x : Nat} (hn : n ≤ 1024) (h : (bfsN B f s0 n).ord[j]? = some x) : (bfs B f s0).ord[j]? = some x := by
  have := bfsN_pre h (1024 - n)
  rw [show n + (1024 - n) = 1024 by omega] at this
  rw [bfs_eq]; exact this
def WmR (T : Tw) (I : I2) : Prop := I 57 11 = nI T.ord.length ∧ (∀ k s, T.ord[k]? = some s → I 63 k = nI s) ∧ (∀ t, t < 1024 → I 64 t = nI (T.fa t) - 1) ∧ (∀ t, t < 1024 → I 67 t = nI (T.wy t)) ∧ ∀ t, 1 < T.fa t → I 65 t = nI (T.fr t) ∧ I 66 t = nI (T.by' t)
def nxI (B : Bx) (f s m : Nat) : Int32 := match nx B f s m with
  | some t => nI t
  | none => -1
/-- what known may hold -/
def KnV (v : Int32) : Prop := v = 0 ∨ v = 1 ∨ v = 2
/-- what a question leaves alone: the model -/
def FrQ (I I' : I2) : Prop := (∀ a, (a < 63 ∨ 70 < a) → a ≠ 57 → I' a = I a) ∧ (∀ k, k ≠ 11 → I' 57 k = I 57 k) ∧ ∀ t, KnV (I 69 t) → KnV (I' 69 t)
theorem FrQ.rf {I : I2} : FrQ I I := ⟨fun _ _ _ => rfl, fun _ _ => rfl, fun _ h => h⟩
theorem FrQ.tr {I0 I1 I2 : I2} (h1 : FrQ I0 I1) (h2 : FrQ I1 I2) : FrQ I0 I2 := ⟨fun a x y => (h2.1 a x y).trans (h1.1 a x y), fun k h => (h2.2.1 k h).trans (h1.2.1 k h), fun t h => h2.2.2 t (h1.2.2 t h)⟩
theorem FrQ_up {I : I2} {a k : Nat} {x : Int32} (ha : 63 ≤ a) (h2 : a ≤ 70) (h9 : a ≠ 69 := by decide) : FrQ I (up2 I a k x) := by
  refine ⟨fun b hb _ => ?_, fun j _ => ?_, fun t h => ?_⟩
  · have : b ≠ a := by omega
    simp [up2, this]
  · have : (57 : Nat) ≠ a := by omega
    simp [up2, this]
  · have : (69 : Nat) ≠ a := fun q => h9 q.symm
    simp [up2, this]; exact h
theorem FrQ_up11 {I : I2} {x : Int32} : FrQ I (up2 I 57 11 x) := ⟨fun b _ hb => by simp [up2, hb], fun k hk => by simp [up2, upd, hk], fun t h => by simp [up2]; exact h⟩
theorem FrQ.box {B : Bx} {I I' : I2} (h : FrQ I I') (hB : BoxM B I) : BoxM B I' := by
  have e : I' 58 = I 58 := h.1 58 (by decide) (by decide)
  unfold BoxM
  rw [e]; exact hB
section THR
variable {d : Nat} {B : Bx} {I : I2} {J : J2} {G : I2 → J2 → Prop} {F : Int32 → I2 → J2 → Prop} {s f m : Nat}
theorem WmR_more {T : Tw} {t : Nat} (hI : WmR T I) (e : T.fa t = T.fa s + 1) : WmR (T.more s t) (up2 I 67 t (nI ((T.wy t + T.wy s) % 1000003))) := by
  unfold Tw.more
  rw [if_pos e]
  obtain ⟨w1, w2, w3, w4, w5⟩ := hI
  refine ⟨by simpa [up2] using w1, fun k x hx => by simpa [up2] using w2 k x hx, fun x hx => by simpa [up2] using w3 x hx, fun x hx => ?_, fun x hx => by simpa [up2] using w5 x hx⟩
  show up2 I 67 t _ 67 x = nI (updN T.wy t _ x)
  simp only [up2, upd, updN, if_pos]
  split
  · rfl
  · exact w4 x hx
theorem WmR_add {T : Tw} {t : Nat} (hI : WmR T I) (hz : T.wy t = 0) : WmR (T.add s m t) (up2 (up2 (up2 (up2 (up2 I 64 t (nI (T.fa s + 1) - 1)) 65 t (nI s)) 66 t (nI m)) 63 T.ord.length (nI t)) 57 11 (nI (T.ord.length + 1))) := by
  obtain ⟨w1, w2, w3, w4, w5⟩ := hI
  refine ⟨?_, fun k x hx => ?_, fun x hx => ?_, fun x hx => ?_, fun x hx => ?_⟩
  · show _ = nI (T.ord ++ [t]).length
    simp [up2, upd]
  · have hx : (T.ord ++ [t])[k]? = some x := hx
    by_cases e : k = T.ord.length
    · subst e
      simp at hx
      simp [up2, upd, hx]
    · have hk : k < T.ord.length := by
        have := (List.getElem?_eq_some_iff.mp hx).1
        simp at this; omega
      rw [List.getElem?_append_left hk] at hx
      simp [up2, upd, e]
      exact w2 k x hx
  · show _ = nI (updN T.fa t (T.fa s + 1) x) - 1
    by_cases e : x = t
    · subst e; simp [up2, upd, updN]
    · simp [up2, upd, updN, e]; exact w3 x hx
  · show _ = nI (updN T.wy t 0 x)
    by_cases e : x = t
    · subst e; simp [up2, updN]; rw [w4 x hx, hz]
    · simp [up2, updN, e]; exact w4 x hx
  · have hx : 1 < updN T.fa t (T.fa s + 1) x := hx
    show _ = nI (updN T.fr t s x) ∧ _ = nI (updN T.by' t m x)
    by_cases e : x = t
    · subst e; simp [up2, upd, updN]
    · simp only [updN, if_neg e] at hx
      simp [up2, upd, updN, e]; exact w5 x hx
/-- what meets leaves alone, too -/
def FrE (I I' : I2) : Prop := FrQ I I' ∧ I' 68 = I 68
end THR
