/-! the game: the model solves it by rounds -/
/-- a move to what is so -/
def mvP (B : Bx) (f s : Nat) (P : Nat → Bool) (m : Nat) : Bool := match nx B f s m with
  | some t => P t
  | none => false
def fmP (B : Bx) (f s : Nat) (P : Nat → Bool) : Option Nat := (List.range (2 * B.pn)).find? (mvP B f s P)
def allP (B : Bx) (f s : Nat) (P : Nat → Bool) : Nat → Bool
  | 0 => true
  | n + 1 => allP B f s P n && (match nx B f s n with
    | some t => P t
    | none => true)
theorem fmPN {N n : Nat} {p : Nat → Bool} (h : n < N) : ((List.range N).drop n).find? p = if p n then some n else ((List.range N).drop (n + 1)).find? p := by
  have e := findN (p := p) (l := List.range N) (n := n) (by simpa using h)
  rw [List.getElem_range] at e
  exact e
theorem fmP_i {B : Bx} {f s : Nat} {P : Nat → Bool} : (fmP B f s P).isSome = true ↔ ∃ t, suc B f s t ∧ P t = true := by
  unfold fmP
  rw [List.find?_isSome]
  constructor
  · rintro ⟨m, hm, h⟩
    unfold mvP at h
    cases hnx : nx B f s m with
    | none => rw [hnx] at h; cases h
    | some t => rw [hnx] at h; exact ⟨t, ⟨m, List.mem_range.mp hm, hnx⟩, h⟩
  · rintro ⟨t, ⟨m, hm, hnx⟩, h⟩
    refine ⟨m, List.mem_range.mpr hm, ?_⟩
    unfold mvP
    rw [hnx]; exact h
theorem fmP_none {B : Bx} {f s : Nat} {P : Nat → Bool} (h : ∀ m, m < 2 * B.pn → nx B f s m = none) : fmP B f s P = none := by
  cases e : fmP B f s P with
  | none => rfl
  | some m =>
    obtain ⟨t, ⟨m, hm, hnx⟩, _⟩ := fmP_i.mp (by rw [e]; rfl : (fmP B f s P).isSome = true)
    rw [h m hm] at hnx; cases hnx
theorem fmP_congr {B : Bx} {f s : Nat} {P P' : Nat → Bool} (h : ∀ t, suc B f s t → P t = P' t) : fmP B f s P = fmP B f s P' := by
  unfold fmP
  have : ∀ l : List Nat, (∀ m ∈ l, m < 2 * B.pn) → l.find? (mvP B f s P) = l.find? (mvP B f s P') := by
    intro l
    induction l with
    | nil => intro _; rfl
    | cons m l ih =>
      intro hl
      have e : mvP B f s P m = mvP B f s P' m := by
        unfold mvP
        cases hnx : nx B f s m with
        | none => rfl
        | some t => exact h t ⟨m, hl m List.mem_cons_self, hnx⟩
      rw [List.find?_cons, List.find?_cons, e, ih (fun x hx => hl x (List.mem_cons_of_mem _ hx))]
  exact this _ (fun m hm => List.mem_range.mp hm)
theorem fmP_lt {B : Bx} {f s m : Nat} {P : Nat → Bool} (h : fmP B f s P = some m) : m < 2 * B.pn := List.mem_range.mp (List.mem_of_find?_eq_some h)
theorem allP_i {B : Bx} {f s : Nat} {P : Nat → Bool} {n : Nat} : allP B f s P n = true ↔ ∀ m t, m < n → nx B f s m = some t → P t = true := by
  induction n with
  | zero => exact ⟨fun _ m t hm => absurd hm (Nat.not_lt_zero m), fun _ => rfl⟩
  | succ n ih =>
    simp only [allP, Bool.and_eq_true, ih]
    constructor
    · rintro ⟨h1, h2⟩ m t hm hnx
      by_cases e : m = n
      · subst e; rw [hnx] at h2; exact h2
      · exact h1 m t (by omega) hnx
    · intro h
      refine ⟨fun m t hm hnx => h m t (by omega) hnx, ?_⟩
      cases hnx : nx B f s n with
      | none => rfl
      | some t => exact h n t (by omega) hnx
section GM2
variable {d : Nat} {V : Bv} {I : I2} {J : J2} {G : I2 → J2 → Prop} {F : Int32 → I2 → J2 → Prop} {f : Nat}
end GM2
/-! rounds -/
def wnB (B : Bx) (f : Nat) (g : Gv) (n s : Nat) : Bool := (fmP B f s (fun t => decide ((g t).1 = 2 ∧ (g t).2 = n - 1))).isSome
def lsB (B : Bx) (f : Nat) (g : Gv) (s : Nat) : Bool := allP B f s (fun t => decide ((g t).1 = 1)) (2 * B.pn)
def rnd (B : Bx) (f : Nat) (g : Gv) (n : Nat) : Gv := fun s => if (g s).1 = 0 then (if wnB B f g n s then (1, n) else if lsB B f g s then (2, n) else (0, 0)) else g s
theorem wnB_i {B : Bx} {f n s : Nat} {g : Gv} : wnB B f g n s = true ↔ ∃ t, suc B f s t ∧ (g t).1 = 2 ∧ (g t).2 = n - 1 := by
  unfold wnB; rw [fmP_i]; simp only [decide_eq_true_eq]
theorem lsB_i {B : Bx} {f s : Nat} {g : Gv} : lsB B f g s = true ↔ ∀ t, suc B f s t → (g t).1 = 1 := by
  unfold lsB; rw [allP_i]
  simp only [decide_eq_true_eq]
  exact ⟨fun h t ⟨m, hm, e⟩ => h m t hm e, fun h m t hm e => h t ⟨m, hm, e⟩⟩
/-- as it stands ahead of round n -/
def PI (B : Bx) (o f : Nat) (T : Tw) (n : Nat) (g : Gv) : Prop := ∀ s, s ∈ T.ord → ((g s).1 ≤ 2 ∧ (g s).2 < n ∧ ((g s).1 = 0 → (g s).2 = 0)) ∧ (trm B o f s → g s = (2, 0)) ∧ (¬ trm B o f s → (g s).1 = 1 → (∃ t, suc B f s t ∧ (g t).1 = 2 ∧ (g s).2 = (g t).2 + 1) ∧ ∀ t, suc B f s t → (g t).1 = 2 → (g s).2 ≤ (g t).2 + 1) ∧ (¬ trm B o f s → (g s).1 = 2 → (∃ t, suc B f s t ∧ (g s).2 = (g t).2 + 1) ∧ ∀ t, suc B f s t → (g t).1 = 1 ∧ (g t).2 + 1 ≤ (g s).2) ∧ (¬ trm B o f s → (g s).1 = 0 → (∀ t, suc B f s t → (g t).1 = 2 → (g t).2 + 1 = n) ∧ ∃ t, suc B f s t ∧ ((g t).1 ≠ 1 ∨ (g t).2 + 1 = n))
section RND
variable {B : Bx} {o f : Nat} {T : Tw} {g : Gv} {n s : Nat}
theorem rnd_n (h : (g s).1 ≠ 0) : rnd B f g n s = g s := if_neg h
theorem rnd_0 (h : (g s).1 = 0) : (rnd B f g n s = (1, n) ∧ wnB B f g n s = true) ∨ (rnd B f g n s = (2, n) ∧ wnB B f g n s = false ∧ lsB B f g s = true) ∨ (rnd B f g n s = (0, 0) ∧ wnB B f g n s = false ∧ lsB B f g s = false) := by
  unfold rnd
  rw [if_pos h]
  cases h1 : wnB B f g n s with
  | true => exact Or.inl ⟨if_pos rfl, rfl⟩
  | false =>
    cases h2 : lsB B f g s with
    | true => exact Or.inr (Or.inl ⟨(if_neg (by simp)).trans (if_pos rfl), rfl, rfl⟩)
    | false => exact Or.inr (Or.inr ⟨(if_neg (by simp)).trans (if_neg (by simp)), rfl, rfl⟩)
theorem PI_rnd (hcl : Clo B f T) (hn : 1 ≤ n) (hP : PI B o f T n g) : PI B o f T (n + 1) (rnd B f g n) := by
  intro s hs
  obtain ⟨⟨a1, a2, a3⟩, a4, a5, a6, a7⟩ := hP s hs
  have mem : ∀ t, suc B f s t → t ∈ T.ord := fun t ⟨m, hm, e⟩ => hcl s hs m t hm e
  by_cases e0 : (g s).1 = 0
  · have nt : ¬ trm B o f s := fun q => by rw [a4 q] at e0; exact absurd e0 (by simp)
    obtain ⟨b1, t0, b2, b3⟩ := a7 nt e0
    rcases rnd_0 (B := B) (f := f) (n := n) e0 with ⟨e, w⟩ | ⟨e, w, l⟩ | ⟨e, w, l⟩
    · rw [e]
      refine ⟨⟨by simp, Nat.lt_succ_self n, fun q => absurd q (by simp)⟩, fun q => absurd q nt, fun _ _ => ?_, fun _ q => absurd q (by simp), fun _ q => absurd q (by simp)⟩
      obtain ⟨t, c1, c2, c3⟩ := wnB_i.mp w
      refine ⟨⟨t, c1, by rw [rnd_n (by omega)]; exact c2, by rw [rnd_n (by omega)]; show n = _; omega⟩, fun t ht h2 => ?_⟩
      show n ≤ _
      by_cases z : (g t).1 = 0
      · rcases rnd_0 (B := B) (f := f) (n := n) z with ⟨y, _⟩ | ⟨y, _⟩ | ⟨y, _⟩
        · rw [y] at h2; exact absurd h2 (by simp)
        · rw [y]; exact Nat.le_succ n
        · rw [y] at h2; exact absurd h2 (by simp)
      · rw [rnd_n z] at h2 ⊢
        have := b1 t ht h2; omega
    · rw [e]
      have l := lsB_i.mp l
      refine ⟨⟨by simp, Nat.lt_succ_self n, fun q => absurd q (by simp)⟩, fun q => absurd q nt, fun _ q => absurd q (by simp), fun _ _ => ?_, fun _ q => absurd q (by simp)⟩
      refine ⟨⟨t0, b2, ?_⟩, fun t ht => ?_⟩
      · rw [rnd_n (by rw [l t0 b2]; decide)]
        rcases b3 with z | z
        · exact absurd (l t0 b2) z
        · exact z.symm
      · rw [rnd_n (by rw [l t ht]; decide)]
        have := (hP t (mem t ht)).1.2.1
        exact ⟨l t ht, this⟩
    · rw [e]
      refine ⟨⟨by simp, Nat.succ_pos n, fun _ => rfl⟩, fun q => absurd q nt, fun _ q => absurd q (by simp), fun _ q => absurd q (by simp), fun _ _ => ?_⟩
      refine ⟨fun t ht h2 => ?_, ?_⟩
      · by_cases z : (g t).1 = 0
        · rcases rnd_0 (B := B) (f := f) (n := n) z with ⟨y, _⟩ | ⟨y, _⟩ | ⟨y, _⟩
          · rw [y] at h2; exact absurd h2 (by simp)
          · rw [y]
          · rw [y] at h2; exact absurd h2 (by simp)
        · rw [rnd_n z] at h2 ⊢
          have k := b1 t ht h2
          have : wnB B f g n s = true := wnB_i.mpr ⟨t, ht, h2, by omega⟩
          rw [this] at w; cases w
      · have : ¬ ∀ t, suc B f s t → (g t).1 = 1 := fun q => by rw [lsB_i.mpr q] at l; cases l
        obtain ⟨t, ht⟩ := Classical.not_forall.mp this
        obtain ⟨ht1, ht2⟩ := Classical.not_imp.mp ht
        refine ⟨t, ht1, ?_⟩
        by_cases z : (g t).1 = 0
        · rcases rnd_0 (B := B) (f := f) (n := n) z with ⟨y, _⟩ | ⟨y, _⟩ | ⟨y, _⟩
          · rw [y]; exact Or.inr rfl
          · rw [y]; exact Or.inl (by simp)
          · rw [y]; exact Or.inl (by simp)
        · rw [rnd_n z]; exact Or.inl ht2
  · rw [rnd_n e0]
    refine ⟨⟨a1, by omega, a3⟩, a4, fun nt h1 => ?_, fun nt h2 => ?_, fun _ q => absurd q e0⟩
    · obtain ⟨⟨t, c1, c2, c3⟩, c4⟩ := a5 nt h1
      refine ⟨⟨t, c1, by rw [rnd_n (by omega)]; exact c2, by rw [rnd_n (by omega)]; exact c3⟩, fun t ht h2 => ?_⟩
      by_cases z : (g t).1 = 0
      · rcases rnd_0 (B := B) (f := f) (n := n) z with ⟨y, _⟩ | ⟨y, _⟩ | ⟨y, _⟩
        · rw [y] at h2; exact absurd h2 (by simp)
        · rw [y]; show (g s).2 ≤ n + 1; omega
        · rw [y] at h2; exact absurd h2 (by simp)
      · rw [rnd_n z] at h2 ⊢; exact c4 t ht h2
    · obtain ⟨⟨t, c1, c2⟩, c4⟩ := a6 nt h2
      refine ⟨⟨t, c1, by rw [rnd_n (by rw [(c4 t c1).1]; decide)]; exact c2⟩, fun t ht => ?_⟩
      rw [rnd_n (by rw [(c4 t ht).1]; decide)]
      exact c4 t ht
theorem PI_end (hn : 1 ≤ n) (hP : PI B o f T n g) (hE : ∀ s, s ∈ T.ord → (g s).1 = 0 → (rnd B f g n s).1 = 0) : GC B o f T g := by
  intro s hs
  obtain ⟨⟨a1, a2, a3⟩, a4, a5, a6, a7⟩ := hP s hs
  have hno : (g s).1 = 0 → ¬ trm B o f s ∧ (¬ ∃ t, suc B f s t ∧ (g t).1 = 2) ∧ ¬ ∀ t, suc B f s t → (g t).1 = 1 := by
    intro e0
    have nt : ¬ trm B o f s := fun q => by rw [a4 q] at e0; exact absurd e0 (by simp)
    have hE := hE s hs e0
    rcases rnd_0 (B := B) (f := f) (n := n) e0 with ⟨e, _⟩ | ⟨e, _⟩ | ⟨e, w, l⟩
    · rw [e] at hE; exact absurd hE (by simp)
    · rw [e] at hE; exact absurd hE (by simp)
    · refine ⟨nt, fun ⟨t, h1, h2⟩ => ?_, fun q => by rw [lsB_i.mpr q] at l; cases l⟩
      have := (a7 nt e0).1 t h1 h2
      rw [wnB_i.mpr ⟨t, h1, h2, by omega⟩] at w; cases w
  refine ⟨a4, fun nt hx => ?_, fun nt hx => ?_, fun nt h1 h2 => ?_⟩
  · have e1 : (g s).1 = 1 := by
      rcases (show (g s).1 = 0 ∨ (g s).1 = 1 ∨ (g s).1 = 2 by omega) with e | e | e
      · exact absurd hx (hno e).2.1
      · exact e
      · obtain ⟨t, h1, h2⟩ := hx
        have := ((a6 nt e).2 t h1).1
        omega
    exact ⟨e1, (a5 nt e1).1, (a5 nt e1).2⟩
  · have e2 : (g s).1 = 2 := by
      rcases (show (g s).1 = 0 ∨ (g s).1 = 1 ∨ (g s).1 = 2 by omega) with e | e | e
      · exact absurd hx (hno e).2.2
      · obtain ⟨⟨t, c1, c2, _⟩, _⟩ := a5 nt e
        have := hx t c1; omega
      · exact e
    exact ⟨e2, (a6 nt e2).1, fun t ht => ((a6 nt e2).2 t ht).2⟩
  · have e0 : (g s).1 = 0 := by
      rcases (show (g s).1 = 0 ∨ (g s).1 = 1 ∨ (g s).1 = 2 by omega) with e | e | e
      · exact e
      · obtain ⟨⟨t, c1, c2, _⟩, _⟩ := a5 nt e
        exact absurd ⟨t, c1, c2⟩ h1
      · exact absurd (fun t ht => ((a6 nt e).2 t ht).1) h2
    exact Prod.ext e0 (a3 e0)
theorem PI_1 (h : ∀ s, s ∈ T.ord → g s = if termB B o f s then (2, 0) else (0, 0)) : (∀ t, t ∈ T.ord → g t = (2, 0) ∨ g t = (0, 0)) ∧ (Clo B f T → PI B o f T 1 g) := by
  have two : ∀ t, t ∈ T.ord → g t = (2, 0) ∨ g t = (0, 0) := by
    intro t ht
    rw [h t ht]
    cases termB B o f t
    · exact Or.inr rfl
    · exact Or.inl rfl
  refine ⟨two, fun hcl s hs => ?_⟩
  have mem : ∀ t, suc B f s t → t ∈ T.ord := fun t ⟨m, hm, e⟩ => hcl s hs m t hm e
  have b : (g s).1 ≤ 2 ∧ (g s).2 < 1 ∧ ((g s).1 = 0 → (g s).2 = 0) ∧ (g s).1 ≠ 1 := by
    rcases two s hs with e | e <;> rw [e] <;> decide
  refine ⟨⟨b.1, b.2.1, b.2.2.1⟩, fun q => by rw [h s hs, if_pos (termB_i.mpr q)], fun _ q => absurd q b.2.2.2, fun nt q => ?_, fun nt q => ?_⟩
  · rw [h s hs, if_neg (fun z => nt (termB_i.mp z))] at q; exact absurd q (by simp)
  · refine ⟨fun t ht h2 => ?_, ?_⟩
    · rcases two t (mem t ht) with e | e <;> rw [e]
    · have : ¬ ∀ m, m < 2 * B.pn → nx B f s m = none := fun z => nt (Or.inr z)
      obtain ⟨m, hm⟩ := Classical.not_forall.mp this
      obtain ⟨hm1, hm2⟩ := Classical.not_imp.mp hm
      cases hnx : nx B f s m with
      | none => exact absurd hnx hm2
      | some t =>
        refine ⟨t, ⟨m, hm1, hnx⟩, Or.inl ?_⟩
        rcases two t (mem t ⟨m, hm1, hnx⟩) with e | e <;> rw [e] <;> decide
end RND
