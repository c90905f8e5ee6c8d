/-! the game: what is asked of an answer, and that there is but one -/
abbrev Gv : Type := Nat → Nat × Nat
def trm (B : Bx) (o f s : Nat) : Prop := openB B o s = true ∨ ∀ m, m < 2 * B.pn → nx B f s m = none
def suc (B : Bx) (f s t : Nat) : Prop := ∃ m, m < 2 * B.pn ∧ nx B f s m = some t
def GC (B : Bx) (o f : Nat) (T : Tw) (g : Gv) : Prop := ∀ s, s ∈ T.ord → (trm B o f s → g s = (2, 0)) ∧ (¬ trm B o f s → (∃ t, suc B f s t ∧ (g t).1 = 2) → (g s).1 = 1 ∧ (∃ t, suc B f s t ∧ (g t).1 = 2 ∧ (g s).2 = (g t).2 + 1) ∧ ∀ t, suc B f s t → (g t).1 = 2 → (g s).2 ≤ (g t).2 + 1) ∧ (¬ trm B o f s → (∀ t, suc B f s t → (g t).1 = 1) → (g s).1 = 2 ∧ (∃ t, suc B f s t ∧ (g s).2 = (g t).2 + 1) ∧ ∀ t, suc B f s t → (g t).2 + 1 ≤ (g s).2) ∧ (¬ trm B o f s → ¬ (∃ t, suc B f s t ∧ (g t).1 = 2) → ¬ (∀ t, suc B f s t → (g t).1 = 1) → g s = (0, 0))
theorem GC_same {B : Bx} {o f : Nat} {T : Tw} (hcl : Clo B f T) : ∀ n, ∀ g1 g2, GC B o f T g1 → GC B o f T g2 → ∀ s, s ∈ T.ord → (g1 s).1 ≠ 0 → (g1 s).2 < n → g2 s = g1 s := by
  intro n
  induction n with
  | zero => intro g1 g2 _ _ s _ _ h; exact absurd h (Nat.not_lt_zero _)
  | succ n ih =>
    intro g1 g2 h1 h2 s hs hne hlt
    obtain ⟨a1, a2, a3, a4⟩ := h1 s hs
    obtain ⟨b1, b2, b3, b4⟩ := h2 s hs
    by_cases ht : trm B o f s
    · rw [a1 ht, b1 ht]
    · have mem : ∀ t, suc B f s t → t ∈ T.ord := fun t ⟨m, hm, e⟩ => hcl s hs m t hm e
      by_cases hl : ∃ t, suc B f s t ∧ (g1 t).1 = 2
      · obtain ⟨c1, ⟨t, d1, d2, d3⟩, c3⟩ := a2 ht hl
        have e1 := ih g1 g2 h1 h2 t (mem t d1) (by rw [d2]; decide) (by omega)
        obtain ⟨k1, ⟨t2, l1, l2, l3⟩, k3⟩ := b2 ht ⟨t, d1, by rw [e1]; exact d2⟩
        have z1 := k3 t d1 (by rw [e1]; exact d2)
        rw [e1] at z1
        have e2 := ih g2 g1 h2 h1 t2 (mem t2 l1) (by rw [l2]; decide) (by omega)
        have z2 := c3 t2 l1 (by rw [e2]; exact l2)
        rw [e2] at z2
        exact Prod.ext (by rw [k1, c1]) (by omega)
      · by_cases hw : ∀ t, suc B f s t → (g1 t).1 = 1
        · obtain ⟨c1, ⟨t, d1, d2⟩, c3⟩ := a3 ht hw
          have e : ∀ t, suc B f s t → g2 t = g1 t := fun t h => ih g1 g2 h1 h2 t (mem t h) (by rw [hw t h]; decide) (by have := c3 t h; omega)
          obtain ⟨k1, ⟨t2, l1, l2⟩, k3⟩ := b3 ht (fun t h => by rw [e t h]; exact hw t h)
          have z1 := k3 t d1
          have z2 := c3 t2 l1
          rw [e t d1] at z1
          rw [e t2 l1] at l2
          exact Prod.ext (by rw [k1, c1]) (by omega)
        · rw [a4 ht hl hw] at hne
          exact absurd rfl hne
theorem GC_one {B : Bx} {o f : Nat} {T : Tw} (hcl : Clo B f T) {g1 g2 : Gv} (h1 : GC B o f T g1) (h2 : GC B o f T g2) {s : Nat} (hs : s ∈ T.ord) : g1 s = g2 s := by
  by_cases e1 : (g1 s).1 = 0
  · by_cases e2 : (g2 s).1 = 0
    · have z : ∀ g, GC B o f T g → (g s).1 = 0 → g s = (0, 0) := by
        intro g hg e
        obtain ⟨a1, a2, a3, a4⟩ := hg s hs
        by_cases ht : trm B o f s
        · rw [a1 ht] at e; exact absurd e (by decide)
        · by_cases hl : ∃ t, suc B f s t ∧ (g t).1 = 2
          · rw [(a2 ht hl).1] at e; exact absurd e (by decide)
          · by_cases hw : ∀ t, suc B f s t → (g t).1 = 1
            · rw [(a3 ht hw).1] at e; exact absurd e (by decide)
            · exact a4 ht hl hw
      rw [z g1 h1 e1, z g2 h2 e2]
    · exact GC_same hcl ((g2 s).2 + 1) g2 g1 h2 h1 s hs e2 (Nat.lt_succ_self _)
  · exact (GC_same hcl ((g1 s).2 + 1) g1 g2 h1 h2 s hs e1 (Nat.lt_succ_self _)).symm
/-- the game's answer -/
noncomputable def gm (B : Bx) (o f : Nat) (T : Tw) : Gv := @dite _ (∃ g, GC B o f T g) (Classical.propDecidable _) (fun h => Classical.choose h) (fun _ _ => (0, 0))
theorem gm_eq {B : Bx} {o f : Nat} {T : Tw} (hcl : Clo B f T) {g : Gv} (h : GC B o f T g) {s : Nat} (hs : s ∈ T.ord) : gm B o f T s = g s := by
  have e : gm B o f T = Classical.choose (⟨g, h⟩ : ∃ g, GC B o f T g) := by
    unfold gm
    exact @dif_pos _ (Classical.propDecidable _) ⟨g, h⟩ _ _ _
  rw [e]
  exact GC_one hcl (Classical.choose_spec (⟨g, h⟩ : ∃ g, GC B o f T g)) h hs
/-! the class: solved back, by a queue -/
def cntU (B : Bx) (f : Nat) (D : Nat → Bool) (s : Nat) : Nat → Nat
  | 0 => 0
  | n + 1 => cntU B f D s n + (if (nx B f s n).isSome = true ∧ D (10 * s + n) = false then 1 else 0)
theorem cntU_le {B : Bx} {f s n : Nat} {D : Nat → Bool} : cntU B f D s n ≤ n := by
  induction n with
  | zero => exact Nat.le_refl _
  | succ n ih => simp only [cntU]; split <;> omega
theorem cntU_deg {B : Bx} {f s n : Nat} : cntU B f (fun _ => false) s n = deg B f s n := by
  induction n with
  | zero => rfl
  | succ n ih => simp only [cntU, deg, ih, and_true]
theorem cntU_0 {B : Bx} {f s n : Nat} {D : Nat → Bool} (h : cntU B f D s n = 0) : ∀ m t, m < n → nx B f s m = some t → D (10 * s + m) = true := by
  induction n with
  | zero => intro m t hm; exact absurd hm (Nat.not_lt_zero m)
  | succ n ih =>
    intro m t hm ht
    simp only [cntU] at h
    by_cases e : m = n
    · subst e
      cases hD : D (10 * s + m) with
      | true => rfl
      | false => rw [if_pos ⟨by rw [ht]; rfl, hD⟩] at h; omega
    · exact ih (by omega) m t (by omega) ht
theorem deg_0 {B : Bx} {f s n : Nat} (h : deg B f s n = 0) : ∀ m, m < n → nx B f s m = none := by
  induction n with
  | zero => intro m hm; exact absurd hm (Nat.not_lt_zero m)
  | succ n ih =>
    intro m hm
    simp only [deg] at h
    by_cases e : m = n
    · subst e
      cases hD : nx B f s m with
      | none => rfl
      | some t => rw [hD] at h; simp at h
    · exact ih (by omega) m (by omega)
theorem deg_0' {B : Bx} {f s n : Nat} (h : ∀ m, m < n → nx B f s m = none) : deg B f s n = 0 := by
  induction n with
  | zero => rfl
  | succ n ih =>
    simp only [deg]
    rw [ih (fun m hm => h m (by omega)), h n (by omega)]; rfl
theorem cntU_oth {B : Bx} {f s s' m n : Nat} {D : Nat → Bool} (hm : m < 10) (hn : n ≤ 10) (hne : s' ≠ s) : cntU B f (updB D (10 * s + m) true) s' n = cntU B f D s' n := by
  induction n with
  | zero => rfl
  | succ n ih =>
    simp only [cntU]
    rw [ih (by omega), show updB D (10 * s + m) true (10 * s' + n) = D (10 * s' + n) from if_neg (by omega)]
theorem cntU_upd {B : Bx} {f s m n t : Nat} {D : Nat → Bool} (hm : m < n) (ht : nx B f s m = some t) (hD : D (10 * s + m) = false) : cntU B f (updB D (10 * s + m) true) s n + 1 = cntU B f D s n := by
  have same : ∀ k, k ≤ m → cntU B f (updB D (10 * s + m) true) s k = cntU B f D s k := by
    intro k
    induction k with
    | zero => intro _; rfl
    | succ k ih =>
      intro hk
      simp only [cntU]
      rw [ih (by omega), show updB D (10 * s + m) true (10 * s + k) = D (10 * s + k) from if_neg (by omega)]
  induction n with
  | zero => exact absurd hm (Nat.not_lt_zero m)
  | succ n ih =>
    simp only [cntU]
    by_cases e : m = n
    · subst e
      rw [same m (Nat.le_refl _), if_neg (by simp [updB]), if_pos ⟨by rw [ht]; rfl, hD⟩]
    · rw [show updB D (10 * s + m) true (10 * s + n) = D (10 * s + n) from if_neg (by omega)]
      have := ih (by omega)
      omega
def updG (g : Gv) (s : Nat) (v : Nat × Nat) : Gv := fun x => if x = s then v else g x
theorem updG_s {g : Gv} {s : Nat} {v : Nat × Nat} : updG g s v s = v := if_pos rfl
theorem updG_n {g : Gv} {s t : Nat} {v : Nat × Nat} (h : t ≠ s) : updG g s v t = g t := if_neg h
/-- as it stands, the head at j, of the head's chain l left, the ways D done -/
def GI (B : Bx) (o f : Nat) (T : Tw) (q : List Nat) (j : Nat) (l : List Nat) (D : Nat → Bool) (g : Gv) : Prop :=
  q.Nodup ∧ (∀ x ∈ q, x ∈ T.ord) ∧ (∀ s, s ∈ T.ord → (s ∈ q ↔ (g s).1 ≠ 0) ∧ ((g s).1 = 0 → (g s).2 = 0) ∧ (g s).1 ≤ 2) ∧ (∀ (i i' a b : Nat), i ≤ i' → q[i]? = some a → q[i']? = some b → (g a).2 ≤ (g b).2) ∧ (∀ h : Nat, q[j]? = some h → ∀ x ∈ q, (g x).2 ≤ (g h).2 + 1) ∧ (∀ (i : Nat) (a : Nat), q[i]? = some a → (g a).2 ≤ i) ∧ (∀ s, s ∈ T.ord → trm B o f s → g s = (2, 0)) ∧ (∀ s, s ∈ T.ord → ¬ trm B o f s → (g s).1 = 1 → (∃ t, suc B f s t ∧ (g t).1 = 2 ∧ (g s).2 = (g t).2 + 1) ∧ ∀ t, suc B f s t → (g t).1 = 2 → (g s).2 ≤ (g t).2 + 1) ∧ (∀ s, s ∈ T.ord → ¬ trm B o f s → (g s).1 = 2 → (∀ t, suc B f s t → (g t).1 = 1 ∧ (g t).2 + 1 ≤ (g s).2) ∧ ∃ t, suc B f s t ∧ (g s).2 = (g t).2 + 1) ∧ (∀ s, s ∈ T.ord → ∀ m t, m < 2 * B.pn → nx B f s m = some t → D (10 * s + m) = true → (g t).1 = 2 → (g s).1 ≠ 0) ∧ (∀ s, s ∈ T.ord → (g s).1 = 0 → 0 < cntU B f D s (2 * B.pn)) ∧ (∀ s, s ∈ T.ord → ∀ m t, m < 2 * B.pn → nx B f s m = some t → (D (10 * s + m) = true ↔ ∃ i : Nat, q[i]? = some t ∧ (i < j ∨ (i = j ∧ 10 * s + m ∉ l))))
section GAME
variable {B : Bx} {o f : Nat} {T : Tw} {q : List Nat} {j : Nat} {l : List Nat} {D : Nat → Bool} {g : Gv} {s m h s' m' : Nat}
theorem dd_pop (hDD : ∀ s, s ∈ T.ord → ∀ m t, m < 2 * B.pn → nx B f s m = some t → (D (10 * s + m) = true ↔ ∃ i : Nat, q[i]? = some t ∧ (i < j ∨ (i = j ∧ 10 * s + m ∉ (10 * s' + m') :: l)))) (hp : B.pn ≤ 5) (hm' : m' < 2 * B.pn) (hnx : nx B f s' m' = some h) (hj : q[j]? = some h) (hl : 10 * s' + m' ∉ l) {q' : List Nat} (hq' : q' = q ∨ q' = q ++ [s']) : ∀ s, s ∈ T.ord → ∀ m t, m < 2 * B.pn → nx B f s m = some t → (updB D (10 * s' + m') true (10 * s + m) = true ↔ ∃ i : Nat, q'[i]? = some t ∧ (i < j ∨ (i = j ∧ 10 * s + m ∉ l))) := by
  intro s hs m t hm ht
  have hjl := (List.getElem?_eq_some_iff.mp hj).1
  have up : ∀ i t, (i < j ∨ i = j) → (q'[i]? = some t ↔ q[i]? = some t) := by
    intro i t hi
    rcases hq' with rfl | rfl
    · exact Iff.rfl
    · rw [List.getElem?_append_left (by omega)]
  by_cases e : 10 * s + m = 10 * s' + m'
  · have e1 : s = s' := by omega
    have e2 : m = m' := by omega
    subst e1; subst e2
    rw [hnx] at ht
    cases ht
    refine ⟨fun _ => ⟨j, (up j h (Or.inr rfl)).mpr hj, Or.inr ⟨rfl, hl⟩⟩, fun _ => by simp [updB]⟩
  · rw [show updB D (10 * s' + m') true (10 * s + m) = D (10 * s + m) from if_neg e, hDD s hs m t hm ht]
    constructor
    · rintro ⟨i, z1, z2⟩
      refine ⟨i, (up i t (z2.imp id (fun z => z.1))).mpr z1, z2.imp id (fun z => ⟨z.1, fun w => z.2 (List.mem_cons_of_mem _ w)⟩)⟩
    · rintro ⟨i, z1, z2⟩
      refine ⟨i, (up i t (z2.imp id (fun z => z.1))).mp z1, z2.imp id (fun z => ⟨z.1, fun w => ?_⟩)⟩
      rcases List.mem_cons.mp w with w | w
      · exact e w
      · exact z.2 w
theorem GI_skip (hp : B.pn ≤ 5) (hG : GI B o f T q j ((10 * s + m) :: l) D g) (hm : m < 2 * B.pn) (hnx : nx B f s m = some h) (hj : q[j]? = some h) (hl : 10 * s + m ∉ l) (hg : (g s).1 ≠ 0) : GI B o f T q j l (updB D (10 * s + m) true) g := by
  obtain ⟨a1, a2, a3, a4, a5, a6, a7, a8, a9, a10, a11, a12⟩ := hG
  refine ⟨a1, a2, a3, a4, a5, a6, a7, a8, a9, fun s1 hs1 m1 t1 hm1 ht1 hD => ?_, fun s1 hs1 e => ?_, dd_pop a12 hp hm hnx hj hl (Or.inl rfl)⟩
  · by_cases e : 10 * s1 + m1 = 10 * s + m
    · have e1 : s1 = s := by omega
      rw [e1]; exact fun _ => hg
    · rw [show updB D (10 * s + m) true (10 * s1 + m1) = D (10 * s1 + m1) from if_neg e] at hD
      exact a10 s1 hs1 m1 t1 hm1 ht1 hD
  · have : s1 ≠ s := fun z => hg (z ▸ e)
    rw [cntU_oth (by omega) (by omega) this]
    exact a11 s1 hs1 e
theorem GI_nD (hG : GI B o f T q j ((10 * s + m) :: l) D g) (hs : s ∈ T.ord) (hm : m < 2 * B.pn) (hnx : nx B f s m = some h) (hj : q[j]? = some h) : D (10 * s + m) = false := by
  obtain ⟨a1, a2, a3, a4, a5, a6, a7, a8, a9, a10, a11, a12⟩ := hG
  cases e : D (10 * s + m) with
  | false => rfl
  | true =>
    obtain ⟨i, z1, z2⟩ := (a12 s hs m h hm hnx).mp e
    rcases z2 with z | z
    · have hjl := (List.getElem?_eq_some_iff.mp hj)
      have hil := (List.getElem?_eq_some_iff.mp z1)
      obtain ⟨y1, y2⟩ := hjl
      obtain ⟨y3, y4⟩ := hil
      have := (List.getElem_inj (h₀ := y3) (h₁ := y1) a1).mp (y4.trans y2.symm)
      omega
    · exact absurd List.mem_cons_self z.2
theorem GI_dec (hp : B.pn ≤ 5) (hG : GI B o f T q j ((10 * s + m) :: l) D g) (hs : s ∈ T.ord) (hm : m < 2 * B.pn) (hnx : nx B f s m = some h) (hj : q[j]? = some h) (hl : 10 * s + m ∉ l) (hg : (g h).1 ≠ 2) (hc : 1 < cntU B f D s (2 * B.pn)) : GI B o f T q j l (updB D (10 * s + m) true) g := by
  have hnD := GI_nD hG hs hm hnx hj
  obtain ⟨a1, a2, a3, a4, a5, a6, a7, a8, a9, a10, a11, a12⟩ := hG
  refine ⟨a1, a2, a3, a4, a5, a6, a7, a8, a9, fun s1 hs1 m1 t1 hm1 ht1 hD => ?_, fun s1 hs1 e => ?_, dd_pop a12 hp hm hnx hj hl (Or.inl rfl)⟩
  · by_cases e : 10 * s1 + m1 = 10 * s + m
    · have e1 : s1 = s := by omega
      have e2 : m1 = m := by omega
      subst e1; subst e2
      rw [hnx] at ht1
      cases ht1
      exact fun z => absurd z hg
    · rw [show updB D (10 * s + m) true (10 * s1 + m1) = D (10 * s1 + m1) from if_neg e] at hD
      exact a10 s1 hs1 m1 t1 hm1 ht1 hD
  · by_cases e1 : s1 = s
    · subst e1
      have := cntU_upd hm hnx hnD
      omega
    · rw [cntU_oth (by omega) (by omega) e1]
      exact a11 s1 hs1 e
theorem GI_win (hp : B.pn ≤ 5) (hcl : Clo B f T) (hG : GI B o f T q j ((10 * s + m) :: l) D g) (hs : s ∈ T.ord) (hm : m < 2 * B.pn) (hnx : nx B f s m = some h) (hj : q[j]? = some h) (hl : 10 * s + m ∉ l) (hg : (g h).1 = 2) (hg0 : (g s).1 = 0) : GI B o f T (q ++ [s]) j l (updB D (10 * s + m) true) (updG g s (1, (g h).2 + 1)) := by
  obtain ⟨a1, a2, a3, a4, a5, a6, a7, a8, a9, a10, a11, a12⟩ := hG
  have hsq : s ∉ q := fun z => ((a3 s hs).1.mp z) hg0
  have hhq : h ∈ q := List.mem_of_getElem? hj
  have hjl := (List.getElem?_eq_some_iff.mp hj).1
  have ne : ∀ t, t ∈ q → t ≠ s := fun t ht z => hsq (z ▸ ht)
  have nz : ∀ t, (g t).1 ≠ 0 → t ≠ s := fun t ht z => ht (by rw [z]; exact hg0)
  have hnt : ¬ trm B o f s := fun z => by have := a7 s hs z; rw [this] at hg0; exact absurd hg0 (by decide)
  have ghh : updG g s (1, (g h).2 + 1) h = g h := updG_n (ne h hhq)
  refine ⟨?_, fun x hx => ?_, fun x hx => ?_, fun i i' a b hi ha hb => ?_, fun h' hh' x hx => ?_, fun i a ha => ?_, fun x hx ht => ?_, fun x hx ht h1 => ?_, fun x hx ht h1 => ?_, fun s1 hs1 m1 t1 hm1 ht1 hD h2 => ?_, fun x hx h1 => ?_, dd_pop a12 hp hm hnx hj hl (Or.inr rfl)⟩
  · rw [List.nodup_append]
    exact ⟨a1, by simp, fun a ha b hb => by simp at hb; subst hb; exact ne a ha⟩
  · rcases List.mem_append.mp hx with z | z
    · exact a2 x z
    · simp at z; rw [z]; exact hs
  · by_cases e : x = s
    · subst e
      rw [updG_s]
      exact ⟨⟨fun _ => (by decide : (1 : Nat) ≠ 0), fun _ => List.mem_append_right _ (by simp)⟩, fun z => absurd z (by decide : ¬ (1 : Nat) = 0), (by decide : (1 : Nat) ≤ 2)⟩
    · rw [updG_n e, List.mem_append, List.mem_singleton]
      exact ⟨⟨fun z => (a3 x hx).1.mp (z.resolve_right e), fun z => Or.inl ((a3 x hx).1.mpr z)⟩, (a3 x hx).2⟩
  · rcases app_get ha with ⟨e1, e2⟩ | ⟨e1, e2⟩
    · rcases app_get hb with ⟨e3, e4⟩ | ⟨e3, e4⟩
      · rw [e2, e4]; exact Nat.le_refl _
      · have := (List.getElem?_eq_some_iff.mp e4).1; omega
    · have aq := List.mem_of_getElem? e2
      rw [updG_n (ne a aq)]
      rcases app_get hb with ⟨e3, e4⟩ | ⟨e3, e4⟩
      · rw [e4, updG_s]; exact a5 h hj a aq
      · rw [updG_n (ne b (List.mem_of_getElem? e4))]; exact a4 i i' a b hi e2 e4
  · have e1 : h' = h := by
      rw [app_old hj] at hh'
      exact (Option.some.inj hh').symm
    subst e1
    rw [ghh]
    rcases List.mem_append.mp hx with z | z
    · rw [updG_n (ne x z)]; exact a5 h' hj x z
    · simp at z
      rw [z, updG_s]; exact Nat.le_refl _
  · rcases app_get ha with ⟨e1, e2⟩ | ⟨e1, e2⟩
    · rw [e2, updG_s]
      have := a6 j h hj
      show (g h).2 + 1 ≤ i
      omega
    · rw [updG_n (ne a (List.mem_of_getElem? e2))]; exact a6 i a e2
  · have e : x ≠ s := fun z => hnt (z ▸ ht)
    rw [updG_n e]; exact a7 x hx ht
  · by_cases e : x = s
    · subst e
      rw [updG_s]
      refine ⟨⟨h, ⟨m, hm, hnx⟩, by rw [ghh]; exact hg, by rw [ghh]⟩, fun t ⟨m1, hm1, ht1⟩ h2 => ?_⟩
      have hts : t ≠ x := by
        intro z
        rw [z, updG_s] at h2
        simp at h2
      rw [updG_n hts] at h2 ⊢
      have htT := hcl x hs m1 t hm1 ht1
      have htq := (a3 t htT).1.mpr (by rw [h2]; decide)
      obtain ⟨i, hi⟩ := List.getElem?_of_mem htq
      rcases Nat.lt_or_ge i j with hij | hij
      · have hD := (a12 x hs m1 t hm1 ht1).mpr ⟨i, hi, Or.inl hij⟩
        exact absurd hg0 (a10 x hs m1 t hm1 ht1 hD h2)
      · have := a4 j i h t hij hj hi
        show (g h).2 + 1 ≤ (g t).2 + 1
        omega
    · rw [updG_n e] at h1 ⊢
      obtain ⟨⟨t, t1, t2, t3⟩, t4⟩ := a8 x hx ht h1
      refine ⟨⟨t, t1, ?_⟩, fun t' ht' h2 => ?_⟩
      · rw [updG_n (nz t (by rw [t2]; decide))]; exact ⟨t2, t3⟩
      · have hts : t' ≠ s := by
          intro z
          rw [z, updG_s] at h2
          simp at h2
        rw [updG_n hts] at h2 ⊢
        exact t4 t' ht' h2
  · have e : x ≠ s := by
      intro z
      rw [z, updG_s] at h1
      simp at h1
    rw [updG_n e] at h1 ⊢
    obtain ⟨t1, t, t2, t3⟩ := a9 x hx ht h1
    refine ⟨fun t' ht' => ?_, t, t2, ?_⟩
    · rw [updG_n (nz t' (by rw [(t1 t' ht').1]; decide))]; exact t1 t' ht'
    · rw [updG_n (nz t (by rw [(t1 t t2).1]; decide))]; exact t3
  · by_cases e0 : s1 = s
    · rw [e0, updG_s]; exact (by decide : (1 : Nat) ≠ 0)
    · rw [updG_n e0]
      have hts : t1 ≠ s := by
        intro z
        rw [z, updG_s] at h2
        simp at h2
      rw [updG_n hts] at h2
      rw [show updB D (10 * s + m) true (10 * s1 + m1) = D (10 * s1 + m1) from if_neg (by omega)] at hD
      exact a10 s1 hs1 m1 t1 hm1 ht1 hD h2
  · have e : x ≠ s := by
      intro z
      rw [z, updG_s] at h1
      simp at h1
    rw [updG_n e] at h1
    rw [cntU_oth (by omega) (by omega) e]
    exact a11 x hx h1
theorem GI_lose (hp : B.pn ≤ 5) (hcl : Clo B f T) (hG : GI B o f T q j ((10 * s + m) :: l) D g) (hs : s ∈ T.ord) (hm : m < 2 * B.pn) (hnx : nx B f s m = some h) (hj : q[j]? = some h) (hl : 10 * s + m ∉ l) (hg : (g h).1 ≠ 2) (hg0 : (g s).1 = 0) (hc : cntU B f D s (2 * B.pn) = 1) : GI B o f T (q ++ [s]) j l (updB D (10 * s + m) true) (updG g s (2, (g h).2 + 1)) := by
  have hnD := GI_nD hG hs hm hnx hj
  obtain ⟨a1, a2, a3, a4, a5, a6, a7, a8, a9, a10, a11, a12⟩ := hG
  have hsq : s ∉ q := fun z => ((a3 s hs).1.mp z) hg0
  have hhq : h ∈ q := List.mem_of_getElem? hj
  have hjl := (List.getElem?_eq_some_iff.mp hj).1
  have ne : ∀ t, t ∈ q → t ≠ s := fun t ht z => hsq (z ▸ ht)
  have nz : ∀ t, (g t).1 ≠ 0 → t ≠ s := fun t ht z => ht (by rw [z]; exact hg0)
  have hnt : ¬ trm B o f s := fun z => by have := a7 s hs z; rw [this] at hg0; exact absurd hg0 (by decide)
  have ghh : updG g s (2, (g h).2 + 1) h = g h := updG_n (ne h hhq)
  have hh1 : (g h).1 = 1 := by
    have z1 := (a3 h (a2 h hhq)).1.mp hhq
    have z2 := (a3 h (a2 h hhq)).2.2
    omega
  have hall : ∀ m1 t1, m1 < 2 * B.pn → nx B f s m1 = some t1 → (g t1).1 = 1 ∧ (g t1).2 ≤ (g h).2 ∧ t1 ≠ s := by
    intro m1 t1 hm1 ht1
    have c0 := cntU_upd hm hnx hnD
    have hD := cntU_0 (B := B) (f := f) (D := updB D (10 * s + m) true) (n := 2 * B.pn) (s := s) (by omega) m1 t1 hm1 ht1
    by_cases e : m1 = m
    · subst e
      rw [hnx] at ht1
      cases ht1
      exact ⟨hh1, Nat.le_refl _, ne _ hhq⟩
    · rw [show updB D (10 * s + m) true (10 * s + m1) = D (10 * s + m1) from if_neg (by omega)] at hD
      obtain ⟨i, z1, z2⟩ := (a12 s hs m1 t1 hm1 ht1).mp hD
      have tq := List.mem_of_getElem? z1
      have z3 := (a3 t1 (a2 t1 tq)).1.mp tq
      have z4 := (a3 t1 (a2 t1 tq)).2.2
      have z5 : (g t1).1 ≠ 2 := fun z => absurd hg0 (a10 s hs m1 t1 hm1 ht1 hD z)
      exact ⟨by omega, a4 i j t1 h (by omega) z1 hj, ne t1 tq⟩
  refine ⟨?_, fun x hx => ?_, fun x hx => ?_, fun i i' a b hi ha hb => ?_, fun h' hh' x hx => ?_, fun i a ha => ?_, fun x hx ht => ?_, fun x hx ht h1 => ?_, fun x hx ht h1 => ?_, fun s1 hs1 m1 t1 hm1 ht1 hD h2 => ?_, fun x hx h1 => ?_, dd_pop a12 hp hm hnx hj hl (Or.inr rfl)⟩
  · rw [List.nodup_append]
    exact ⟨a1, by simp, fun a ha b hb => by simp at hb; subst hb; exact ne a ha⟩
  · rcases List.mem_append.mp hx with z | z
    · exact a2 x z
    · simp at z; rw [z]; exact hs
  · by_cases e : x = s
    · subst e
      rw [updG_s]
      exact ⟨⟨fun _ => (by decide : (2 : Nat) ≠ 0), fun _ => List.mem_append_right _ (by simp)⟩, fun z => absurd z (by decide : ¬ (2 : Nat) = 0), (by decide : (2 : Nat) ≤ 2)⟩
    · rw [updG_n e, List.mem_append, List.mem_singleton]
      exact ⟨⟨fun z => (a3 x hx).1.mp (z.resolve_right e), fun z => Or.inl ((a3 x hx).1.mpr z)⟩, (a3 x hx).2⟩
  · rcases app_get ha with ⟨e1, e2⟩ | ⟨e1, e2⟩
    · rcases app_get hb with ⟨e3, e4⟩ | ⟨e3, e4⟩
      · rw [e2, e4]; exact Nat.le_refl _
      · have := (List.getElem?_eq_some_iff.mp e4).1; omega
    · have aq := List.mem_of_getElem? e2
      rw [updG_n (ne a aq)]
      rcases app_get hb with ⟨e3, e4⟩ | ⟨e3, e4⟩
      · rw [e4, updG_s]; exact a5 h hj a aq
      · rw [updG_n (ne b (List.mem_of_getElem? e4))]; exact a4 i i' a b hi e2 e4
  · have e1 : h' = h := by
      rw [app_old hj] at hh'
      exact (Option.some.inj hh').symm
    subst e1
    rw [ghh]
    rcases List.mem_append.mp hx with z | z
    · rw [updG_n (ne x z)]; exact a5 h' hj x z
    · simp at z
      rw [z, updG_s]; exact Nat.le_refl _
  · rcases app_get ha with ⟨e1, e2⟩ | ⟨e1, e2⟩
    · rw [e2, updG_s]
      have := a6 j h hj
      show (g h).2 + 1 ≤ i
      omega
    · rw [updG_n (ne a (List.mem_of_getElem? e2))]; exact a6 i a e2
  · have e : x ≠ s := fun z => hnt (z ▸ ht)
    rw [updG_n e]; exact a7 x hx ht
  · have e : x ≠ s := by
      intro z
      rw [z, updG_s] at h1
      simp at h1
    rw [updG_n e] at h1 ⊢
    obtain ⟨⟨t, t1, t2, t3⟩, t4⟩ := a8 x hx ht h1
    refine ⟨⟨t, t1, ?_⟩, fun t' ht' h2 => ?_⟩
    · rw [updG_n (nz t (by rw [t2]; decide))]; exact ⟨t2, t3⟩
    · by_cases hts : t' = s
      · have xq := (a3 x hx).1.mpr (by rw [h1]; decide)
        have := a5 h hj x xq
        rw [hts, updG_s]
        show (g x).2 ≤ (g h).2 + 1 + 1
        omega
      · rw [updG_n hts] at h2 ⊢
        exact t4 t' ht' h2
  · by_cases e : x = s
    · subst e
      rw [updG_s]
      refine ⟨fun t ⟨m1, hm1, ht1⟩ => ?_, h, ⟨m, hm, hnx⟩, by rw [ghh]⟩
      obtain ⟨z1, z2, z3⟩ := hall m1 t hm1 ht1
      rw [updG_n z3]
      exact ⟨z1, by show (g t).2 + 1 ≤ (g h).2 + 1; omega⟩
    · rw [updG_n e] at h1 ⊢
      obtain ⟨t1, t, t2, t3⟩ := a9 x hx ht h1
      refine ⟨fun t' ht' => ?_, t, t2, ?_⟩
      · rw [updG_n (nz t' (by rw [(t1 t' ht').1]; decide))]; exact t1 t' ht'
      · rw [updG_n (nz t (by rw [(t1 t t2).1]; decide))]; exact t3
  · by_cases e0 : s1 = s
    · rw [e0, updG_s]; exact (by decide : (2 : Nat) ≠ 0)
    · rw [updG_n e0]
      rw [show updB D (10 * s + m) true (10 * s1 + m1) = D (10 * s1 + m1) from if_neg (by omega)] at hD
      have hts : t1 ≠ s := by
        intro z
        obtain ⟨i, z1, z2⟩ := (a12 s1 hs1 m1 t1 hm1 ht1).mp hD
        exact hsq (z ▸ List.mem_of_getElem? z1)
      rw [updG_n hts] at h2
      exact a10 s1 hs1 m1 t1 hm1 ht1 hD h2
  · have e : x ≠ s := by
      intro z
      rw [z, updG_s] at h1
      simp at h1
    rw [updG_n e] at h1
    rw [cntU_oth (by omega) (by omega) e]
    exact a11 x hx h1
theorem GI_next {L : Nat → List Nat} (hL : ∀ t, t ∈ T.ord → ∀ x, x ∈ L t ↔ x / 10 ∈ T.ord ∧ x % 10 < 2 * B.pn ∧ nx B f (x / 10) (x % 10) = some t) (hp : B.pn ≤ 5) (hG : GI B o f T q j [] D g) {h2 : Nat} (hj : q[j + 1]? = some h2) : GI B o f T q (j + 1) (L h2) D g := by
  obtain ⟨a1, a2, a3, a4, a5, a6, a7, a8, a9, a10, a11, a12⟩ := hG
  refine ⟨a1, a2, a3, a4, fun h' hh' x hx => ?_, a6, a7, a8, a9, a10, a11, fun s hs m t hm ht => (a12 s hs m t hm ht).trans ?_⟩
  · have hjl := (List.getElem?_eq_some_iff.mp hh').1
    have e1 : q[j]? = some q[j] := List.getElem?_eq_getElem (by omega)
    have z1 := a5 _ e1 x hx
    have z2 := a4 j (j + 1) _ _ (by omega) e1 hh'
    omega
  · constructor
    · rintro ⟨i, z1, z2⟩
      exact ⟨i, z1, Or.inl (by omega)⟩
    · rintro ⟨i, z1, z2⟩
      rcases z2 with z | ⟨z, z3⟩
      · rcases Nat.lt_or_ge i j with w | w
        · exact ⟨i, z1, Or.inl w⟩
        · exact ⟨i, z1, Or.inr ⟨by omega, List.not_mem_nil⟩⟩
      · exfalso
        rw [z, hj] at z1
        cases z1
        refine z3 ((hL h2 (a2 h2 (List.mem_of_getElem? hj)) _).mpr ?_)
        rw [show (10 * s + m) / 10 = s by omega, show (10 * s + m) % 10 = m by omega]
        exact ⟨hs, hm, ht⟩
theorem GI_fin (hcl : Clo B f T) (hG : GI B o f T q j [] D g) (hj : q.length ≤ j + 1) : GC B o f T g := by
  obtain ⟨a1, a2, a3, a4, a5, a6, a7, a8, a9, a10, a11, a12⟩ := hG
  have allD : ∀ s, s ∈ T.ord → ∀ m t, m < 2 * B.pn → nx B f s m = some t → (g t).1 ≠ 0 → D (10 * s + m) = true := by
    intro s hs m t hm ht hg
    have tq := (a3 t (hcl s hs m t hm ht)).1.mpr hg
    obtain ⟨i, hi⟩ := List.getElem?_of_mem tq
    have := (List.getElem?_eq_some_iff.mp hi).1
    refine (a12 s hs m t hm ht).mpr ⟨i, hi, ?_⟩
    rcases Nat.lt_or_ge i j with w | w
    · exact Or.inl w
    · exact Or.inr ⟨by omega, List.not_mem_nil⟩
  have c012 : ∀ s, s ∈ T.ord → (g s).1 = 0 ∨ (g s).1 = 1 ∨ (g s).1 = 2 := fun s hs => by have := (a3 s hs).2.2; omega
  intro s hs
  refine ⟨a7 s hs, fun ht ⟨t, ⟨m, hm, hnx⟩, h2⟩ => ?_, fun ht hw => ?_, fun ht hl hw => ?_⟩
  · have e0 := a10 s hs m t hm hnx (allD s hs m t hm hnx (by rw [h2]; decide)) h2
    rcases c012 s hs with e | e | e
    · exact absurd e e0
    · exact ⟨e, a8 s hs ht e⟩
    · have := ((a9 s hs ht e).1 t ⟨m, hm, hnx⟩).1
      omega
  · rcases c012 s hs with e | e | e
    · have c := a11 s hs e
      have : cntU B f D s (2 * B.pn) = 0 := by
        have k : ∀ n, n ≤ 2 * B.pn → cntU B f D s n = 0 := by
          intro n
          induction n with
          | zero => intro _; rfl
          | succ n ih =>
            intro hn
            simp only [cntU]
            rw [ih (by omega), if_neg]
            rintro ⟨z1, z2⟩
            obtain ⟨t, ht2⟩ := Option.isSome_iff_exists.mp z1
            have := allD s hs n t (by omega) ht2 (by rw [hw t ⟨n, by omega, ht2⟩]; decide)
            rw [z2] at this; cases this
        exact k _ (Nat.le_refl _)
      omega
    · obtain ⟨⟨t, t1, t2, t3⟩, t4⟩ := a8 s hs ht e
      have := hw t t1
      omega
    · obtain ⟨t1, t2⟩ := a9 s hs ht e
      exact ⟨e, t2, fun t h => (t1 t h).2⟩
  · rcases c012 s hs with e | e | e
    · exact Prod.ext e ((a3 s hs).2.1 e)
    · obtain ⟨⟨t, t1, t2, t3⟩, t4⟩ := a8 s hs ht e
      exact absurd ⟨t, t1, t2⟩ hl
    · obtain ⟨t1, t2⟩ := a9 s hs ht e
      exact absurd (fun t h => (t1 t h).1) hw
end GAME
