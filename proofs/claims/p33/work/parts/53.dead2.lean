/-! which are dead: the model; reach of both sides -/
theorem filt_lt {p p' : Nat → Bool} (h : ∀ x, p' x = true → p x = true) {s : Nat} (h1 : p s = true) (h2 : p' s = false) : ∀ {l : List Nat}, s ∈ l → (l.filter p').length < (l.filter p).length := by
  have le : ∀ l : List Nat, (l.filter p').length ≤ (l.filter p).length := by
    intro l
    induction l with
    | nil => exact Nat.le_refl _
    | cons x l ih =>
      cases e : p' x with
      | true => simp [e, h x e]; exact ih
      | false => cases e2 : p x <;> simp [e, e2] <;> omega
  intro l
  induction l with
  | nil => intro hs; cases hs
  | cons x l ih =>
    intro hs
    rcases List.mem_cons.mp hs with rfl | hs
    · have := le l
      simp [h1, h2]; omega
    · have := ih hs
      cases e : p' x with
      | true => simp [e, h x e]; omega
      | false => cases e2 : p x <;> simp [e, e2] <;> omega
def ltk (B : Bx) (f : Nat) (K : Nat → Bool) (s : Nat) : Nat → Bool
  | 0 => false
  | n + 1 => ltk B f K s n || (match nx B f s n with
    | some t => K t
    | none => false)
theorem ltk_i {B : Bx} {f s : Nat} {K : Nat → Bool} {n : Nat} : ltk B f K s n = true ↔ ∃ m t, m < n ∧ nx B f s m = some t ∧ K t = true := by
  induction n with
  | zero => exact ⟨fun h => (by cases h), fun ⟨m, t, h, _⟩ => absurd h (Nat.not_lt_zero m)⟩
  | succ n ih =>
    simp only [ltk, Bool.or_eq_true, ih]
    constructor
    · rintro (⟨m, t, h1, h2⟩ | h)
      · exact ⟨m, t, by omega, h2⟩
      · cases hn : nx B f s n with
        | none => rw [hn] at h; cases h
        | some t => rw [hn] at h; exact ⟨n, t, by omega, hn, h⟩
    · rintro ⟨m, t, h1, h2, h3⟩
      by_cases e : m = n
      · right; rw [← e, h2]; exact h3
      · exact Or.inl ⟨m, t, by omega, h2, h3⟩
def updB (K : Nat → Bool) (s : Nat) (b : Bool) : Nat → Bool := fun x => if x = s then b else K x
noncomputable def reachS (V : Bv) (x : Int32) : Int32 := if x < 0 ∨ 2 < x then -1 else if V.B.pn = 0 then (if x = 1 then 0 else 1) else if x = 0 then nI V.T.ord.length else if x = 1 then nI (farS V.T) else nI (deadN V.B V.lid V.f V.T)
section DEAD2
variable {d : Nat} {V : Bv} {I : I2} {J : J2} {G : I2 → J2 → Prop} {F : Int32 → I2 → J2 → Prop} {f a : Nat}
theorem FrQ.wma' {I' : I2} (h11 : I' 57 11 = I 57 11) (h : ∀ a, 63 ≤ a → a ≤ 68 → I' a = I a) (hA : WmA V f I) : WmA V f I' := by
  unfold WmA WmR at hA ⊢
  rw [h11, h 63 (by decide) (by decide), h 64 (by decide) (by decide), h 65 (by decide) (by decide), h 66 (by decide) (by decide), h 67 (by decide) (by decide), h 68 (by decide) (by decide)]
  exact hA
/-- the rows of known and depth alone -/
def FrK (I I' : I2) : Prop := (∀ a, a ≠ 69 → a ≠ 70 → I' a = I a) ∧ ∀ t, KnV (I 69 t) → KnV (I' 69 t)
theorem FrK.rf {I : I2} : FrK I I := ⟨fun _ _ _ => rfl, fun _ h => h⟩
theorem FrK.tr {I0 I1 I2 : I2} (h1 : FrK I0 I1) (h2 : FrK I1 I2) : FrK I0 I2 := ⟨fun a x y => (h2.1 a x y).trans (h1.1 a x y), fun t h => h2.2 t (h1.2 t h)⟩
theorem FrK_69 {I : I2} {k : Nat} {x : Int32} (hx : KnV x := by simp [KnV]) : FrK I (up2 I 69 k x) := ⟨fun b h1 h2 => by simp [up2, h1], fun t h => by
  simp only [up2, upd, if_pos]
  split
  · exact hx
  · exact h⟩
theorem FrK_70 {I : I2} {k : Nat} {x : Int32} : FrK I (up2 I 70 k x) := ⟨fun b h1 h2 => by simp [up2, h2], fun t h => by simp [up2]; exact h⟩
theorem FrK.q {I I' : I2} (h : FrK I I') : FrQ I I' := ⟨fun a x _ => h.1 a (by omega) (by omega), fun k _ => by rw [h.1 57 (by decide) (by decide)], h.2⟩
theorem FrK.wma {I I' : I2} (h : FrK I I') (hA : WmA V f I) : WmA V f I' := FrQ.wma' (by rw [h.1 57 (by decide) (by decide)]) (fun a x y => h.1 a (by omega) (by omega)) hA
theorem farS_at {T : Tw} (h : 0 < T.ord.length) : farS T = T.fa (T.ord[T.ord.length - 1]'(by omega)) - 1 := by
  unfold farS
  rw [List.getElem?_eq_getElem (by omega)]
theorem c_Wk_farthest {T : Tw} {B : Bx} (hd : 1 ≤ d) (hw : WFB B) (hT : TI B T) (hI : WkR T I) (hpos : 0 < T.ord.length) (h : F (nI (farS T)) I J) : CI d Wk_farthest [.ref 33] I J F := by
  have hlen := hT.len hw
  have hm := List.getElem_mem (l := T.ord) (n := T.ord.length - 1) (by omega)
  have hm2 := s31 hw (hT.2.2.1 _ hm).1.1
  rw [farS_at hpos] at h
  refine CI.of (by omega) rfl (v_Wk_farthest_33_0 ?_)
  rw [hI.1, n_e0 (by omega), n_dec hpos, n_tN (by omega), hI.ord' (by omega : T.ord.length - 1 < T.ord.length), n_tN (by omega), hI.far' hw hT hm]
  exact ⟨fun q => absurd q (by omega), fun _ => ⟨n_vp (by omega) (by decide), n_vp hm2 (by decide), QI_i.mpr h⟩⟩
theorem m_far {T : Tw} {B : Bx} (hw : WFB B) (hT : TI B T) (hI : WmR T I) (hpos : 0 < T.ord.length) (h : F (nI (farS T)) I J) : vp_in (I 57 11 - 1) 1024 ∧ vp_in (I 63 (tN (I 57 11 - 1))) 1024 ∧ F (I 64 (tN (I 63 (tN (I 57 11 - 1))))) I J := by
  have hlen := hT.len hw
  have hm := List.getElem_mem (l := T.ord) (n := T.ord.length - 1) (by omega)
  have hm2 := s31 hw (hT.2.2.1 _ hm).1.1
  rw [farS_at hpos] at h
  rw [hI.1, n_dec hpos, n_tN (by omega), hI.ord' (by omega : T.ord.length - 1 < T.ord.length), n_tN (by omega), hI.far' hw hT hm]
  exact ⟨n_vp (by omega) (by decide), n_vp hm2 (by decide), h⟩
theorem c_Sb_reach (hd : 7 ≤ d) (hw : WFV V) (hV : CBx 1 V I) (hC : CaR V.B I) (x : Int32) (h : ∀ I', FrG I I' → CaR V.B I' → F (reachS V x) I' J) : CI d Sb_reach [.ref 0, .int x] I J F := by
  have hf := f64 hw.1 hw.2.2.2.1
  have hp5 := hw.1.1
  unfold reachS at h
  have bad : (x < 0 ∨ 2 < x) → QI F (some (.int (-1))) I J := fun e => by
    rw [if_pos e] at h; exact QI_i.mpr (h I FrG.rf hC)
  refine CI.of (by omega) rfl (v_Sb_reach_0_0 ⟨fun e => bad (Or.inl e), fun e => ⟨fun e1 => bad (Or.inr e1), fun e1 => ?_⟩⟩)
  rw [if_neg (by simp only [not_or]; exact ⟨e, e1⟩)] at h
  rw [hV.1.1, n_e0 (by omega), hV.2.2.1, hV.2.2.2.1]
  refine ⟨fun e2 => ?_, fun e2 => c_W_from (by omega) hw hV hC hf (fun I' q1 q2 q3 => ?_)⟩
  · rw [if_pos e2] at h
    have h := h I FrG.rf hC
    refine ⟨fun e3 => QI_i.mpr ?_, fun e3 => QI_i.mpr ?_⟩
    · rw [if_pos e3] at h; exact h
    · rw [if_neg e3] at h; exact h
  · rw [if_neg e2] at h
    have hT := TIb hw V.f
    have hI := q3.2.2.2.2
    have hlen := hT.len hw.1
    have hpos : 0 < V.T.ord.length := List.length_pos_of_mem bfs_self
    refine ⟨fun e3 => QI_i.mpr ?_, fun e3 => ⟨fun e4 => ?_, fun e4 => c_Eg_dead (by omega) hw q2 hf rfl q3 (fun I2 z => QI_i.mpr ?_)⟩⟩
    · rw [if_pos e3] at h; rw [hI.1]; exact h I' q1 (q3.ca hw hf)
    · rw [if_neg e3, if_pos e4] at h
      exact c_Wk_farthest (by omega) hw.1 hT hI hpos (QI_i.mpr (h I' q1 (q3.ca hw hf)))
    · rw [if_neg e3, if_neg e4] at h
      exact h I2 (q1.tr z.g) ((z.wka q3).ca hw hf)
theorem bfs_none {B : Bx} {f s0 : Nat} (h : B.pn = 0) : bfs B f s0 = bfs0 s0 := by
  have e : bfsN B f s0 1 = bfs0 s0 := by
    show (match (bfs0 s0).ord[0]? with
      | none => bfs0 s0
      | some s => vis B f s (2 * B.pn) (bfs0 s0)) = _
    rw [h]; rfl
  rw [bfs_at (n := 1) (by rw [e]; exact Nat.le_refl 1) (by decide), e]
end DEAD2
