/-! THE WALK IS THE SHORTEST, THE FIRST ONE: what the order of the walk tells of distances and of rows of slides -/
/-- k slides lead from s to t -/
def Rch_z (B : Bx) (f : Nat) : Nat → Nat → Nat → Prop
  | 0, s, t => s = t
  | k + 1, s, t => ∃ m u, m < 2 * B.pn ∧ nx B f s m = some u ∧ Rch_z B f k u t
theorem Rch_snoc_z {B : Bx} {f : Nat} : ∀ k s t u m, Rch_z B f k s t → m < 2 * B.pn → nx B f t m = some u → Rch_z B f (k + 1) s u := by
  intro k
  induction k with
  | zero => intro s t u m h hm hx; cases (show s = t from h); exact ⟨m, u, hm, hx, rfl⟩
  | succ k ih =>
    intro s t u m h hm hx
    obtain ⟨b, v, hb, hv, hr⟩ := h
    exact ⟨b, v, hb, hv, ih v t u m hr hm hx⟩
theorem Rch_last_z {B : Bx} {f : Nat} : ∀ k s u, Rch_z B f (k + 1) s u → ∃ t m, Rch_z B f k s t ∧ m < 2 * B.pn ∧ nx B f t m = some u := by
  intro k
  induction k with
  | zero => intro s u h; obtain ⟨m, v, hm, hv, hr⟩ := h; cases (show v = u from hr); exact ⟨s, m, rfl, hm, hv⟩
  | succ k ih =>
    intro s u h
    obtain ⟨b, v, hb, hv, hr⟩ := h
    obtain ⟨t, m, h1, h2, h3⟩ := ih v u hr
    exact ⟨t, m, ⟨b, v, hb, hv, h1⟩, h2, h3⟩
theorem Rch_add_z {B : Bx} {f : Nat} : ∀ k j s t u, Rch_z B f k s t → Rch_z B f j t u → Rch_z B f (k + j) s u := by
  intro k
  induction k with
  | zero => intro j s t u h1 h2; cases (show s = t from h1); rw [Nat.zero_add]; exact h2
  | succ k ih =>
    intro j s t u h1 h2
    obtain ⟨b, v, hb, hv, hr⟩ := h1
    rw [Nat.succ_add]
    exact ⟨b, v, hb, hv, ih j v t u hr h2⟩
theorem Rch_mono_z {B : Bx} {f f' : Nat} (hff : ∀ l, f.testBit l = true → f'.testBit l = true) : ∀ k s t, Rch_z B f k s t → Rch_z B f' k s t := by
  intro k
  induction k with
  | zero => intro s t h; exact h
  | succ k ih =>
    intro s t h
    obtain ⟨b, v, hb, hv, hr⟩ := h
    refine ⟨b, v, hb, ?_, ih v t hr⟩
    unfold nx at hv ⊢
    split at hv
    · next hm =>
      cases hv
      have : mayB B s f' (b / 2) (b % 2) = true := by
        simp only [mayB, Bool.and_eq_true, decide_eq_true_eq] at hm ⊢
        exact ⟨hm.1, fun l hl h1 h2 => hff l (hm.2 l hl h1 h2)⟩
      rw [if_pos this]
    · cases hv
theorem Rch_ok_z {B : Bx} {f : Nat} (hw : WFB B) : ∀ k s t, okS B s → Rch_z B f k s t → okS B t := by
  intro k
  induction k with
  | zero => intro s t hs h; cases (show s = t from h); exact hs
  | succ k ih =>
    intro s t hs h
    obtain ⟨b, v, hb, hv, hr⟩ := h
    exact ih v t (nx_ok hw hs hb hv).1 hr
/-- what holds of the walk all along: n of the order are through, m moves of the next -/
def BI_z (B : Bx) (f s0 n m : Nat) (T : Tw) : Prop :=
  (T.ord[0]? = some s0 ∧ T.fa s0 = 1 ∧ T.wy s0 = 1) ∧
  (∀ i t, 0 < i → T.ord[i]? = some t → 1 < T.fa t ∧ ∃ j, j < i ∧ T.ord[j]? = some (T.fr t) ∧ T.by' t < 2 * B.pn ∧ nx B f (T.fr t) (T.by' t) = some t ∧ 10 * j + T.by' t < 10 * n + m) ∧
  (∀ i i' t t' j j', 0 < i → i < i' → T.ord[i]? = some t → T.ord[i']? = some t' → T.ord[j]? = some (T.fr t) → T.ord[j']? = some (T.fr t') → 10 * j + T.by' t < 10 * j' + T.by' t') ∧
  (∀ j s b t, T.ord[j]? = some s → b < 2 * B.pn → 10 * j + b < 10 * n + m → nx B f s b = some t → ∃ i, T.ord[i]? = some t ∧ (0 < i → ∃ j', T.ord[j']? = some (T.fr t) ∧ 10 * j' + T.by' t ≤ 10 * j + b))
theorem nodup_ix_z {l : List Nat} (h : l.Nodup) {i j x : Nat} (hi : l[i]? = some x) (hj : l[j]? = some x) : i = j := by
  have h1 := (List.getElem?_eq_some_iff.mp hi).1
  exact (List.getElem?_inj h1 h).mp (hi.trans hj.symm)
theorem BI_0_z {B : Bx} {f s0 : Nat} : BI_z B f s0 0 0 (bfs0 s0) := by
  refine ⟨⟨rfl, by show updN (fun _ => 0) s0 1 s0 = 1; simp [updN], by show updN (fun _ => 0) s0 1 s0 = 1; simp [updN]⟩, fun i t hi h => ?_, fun i i' t t' j j' hi hii h => ?_, fun j s b t h hb hlt => by omega⟩
  · have h : [s0][i]? = some t := h
    obtain ⟨k, rfl⟩ : ∃ k, i = k + 1 := ⟨i - 1, by omega⟩
    simp at h
  · have h : [s0][i]? = some t := h
    obtain ⟨k, rfl⟩ : ∃ k, i = k + 1 := ⟨i - 1, by omega⟩
    simp at h
theorem BI_more_z {B : Bx} {f s0 n m s t : Nat} {T : Tw} (hs : T.fa s ≠ 0) (h : BI_z B f s0 n m T) : BI_z B f s0 n m (T.more s t) := by
  obtain ⟨e1, e2, e3, e4⟩ := more_ord (T := T) (s := s) (t := t)
  obtain ⟨⟨a1, a2, a3⟩, b, c, d⟩ := h
  refine ⟨⟨by rw [e1]; exact a1, by rw [e2]; exact a2, ?_⟩, ?_, ?_, ?_⟩
  · unfold Tw.more
    split
    · next e =>
      show updN T.wy t _ s0 = 1
      unfold updN
      rw [if_neg (fun q => by rw [← q, a2] at e; omega)]
      exact a3
    · exact a3
  · rw [e1, e2, e3, e4]; exact b
  · rw [e1, e3, e4]; exact c
  · rw [e1, e3, e4]; exact d
theorem BI_skip_z {B : Bx} {f s0 n m s : Nat} {T : Tw} (hT : TI B T) (hs : T.ord[n]? = some s) (hx : ∀ t, nx B f s m = some t → ∃ i, T.ord[i]? = some t ∧ (0 < i → ∃ j', T.ord[j']? = some (T.fr t) ∧ 10 * j' + T.by' t ≤ 10 * n + m)) (hm : m < 10) (hp : B.pn ≤ 5) (h : BI_z B f s0 n m T) : BI_z B f s0 n (m + 1) T := by
  obtain ⟨a, b, c, d⟩ := h
  refine ⟨a, fun i t hi ht => ?_, c, fun j s1 b1 t hj hb hlt hn => ?_⟩
  · obtain ⟨h1, j, h2, h3, h4, h5, h6⟩ := b i t hi ht
    exact ⟨h1, j, h2, h3, h4, h5, by omega⟩
  · by_cases e : 10 * j + b1 < 10 * n + m
    · exact d j s1 b1 t hj hb e hn
    · have ej : j = n := by omega
      have eb : b1 = m := by omega
      rw [ej] at hj ⊢
      rw [eb] at hn ⊢
      rw [Option.some.inj (hj.symm.trans hs)] at hn
      exact hx t hn
theorem BI_add_z {B : Bx} {f s0 n m s t : Nat} {T : Tw} (hT : TI B T) (hs : T.ord[n]? = some s) (hx : nx B f s m = some t) (h0 : T.fa t = 0) (hm : m < 2 * B.pn) (hp : B.pn ≤ 5) (h : BI_z B f s0 n m T) : BI_z B f s0 n (m + 1) (T.add s m t) := by
  obtain ⟨⟨a1, a2, a3⟩, b, c, d⟩ := h
  have htn : t ∉ T.ord := fun q => (hT.2.1 t).mp q h0
  have hst : s ≠ t := fun q => htn (q ▸ List.mem_of_getElem? hs)
  have hn : n < T.ord.length := (List.getElem?_eq_some_iff.mp hs).1
  have ts0 : s0 ≠ t := fun q => htn (q ▸ List.mem_of_getElem? a1)
  have old : ∀ i x, i < T.ord.length → ((T.ord ++ [t])[i]? = some x ↔ T.ord[i]? = some x) := fun i x hi => by rw [List.getElem?_append_left hi]
  have pre : ∀ i x, T.ord[i]? = some x → (T.ord ++ [t])[i]? = some x := fun i x hi => (old i x (List.getElem?_eq_some_iff.mp hi).1).mpr hi
  have spl : ∀ i x, (T.ord ++ [t])[i]? = some x → (T.ord[i]? = some x ∧ x ≠ t) ∨ (i = T.ord.length ∧ x = t) := by
    intro i x hi
    rcases Nat.lt_trichotomy i T.ord.length with q | q | q
    · have h1 := (old i x q).mp hi
      exact Or.inl ⟨h1, fun e => htn (e ▸ List.mem_of_getElem? h1)⟩
    · subst q; simp at hi; exact Or.inr ⟨rfl, hi.symm⟩
    · rw [List.getElem?_eq_none (by simp; omega)] at hi; cases hi
  have fr_ne : ∀ x, x ≠ t → updN T.fr t s x = T.fr x ∧ updN T.by' t m x = T.by' x ∧ updN T.fa t (T.fa s + 1) x = T.fa x := fun x hx => ⟨if_neg hx, if_neg hx, if_neg hx⟩
  have fr_eq : updN T.fr t s t = s ∧ updN T.by' t m t = m ∧ updN T.fa t (T.fa s + 1) t = T.fa s + 1 := ⟨if_pos rfl, if_pos rfl, if_pos rfl⟩
  have fas : T.fa s ≠ 0 := (hT.2.1 s).mp (List.mem_of_getElem? hs)
  have nf : ∀ x j : Nat, x ≠ t → (T.ord ++ [t])[j]? = some (T.fr x) → 1 < T.fa x → T.ord[j]? = some (T.fr x) := by
    intro x j hx hj h1
    rcases spl j _ hj with q | ⟨q1, q2⟩
    · exact q.1
    · exact absurd (q2 ▸ (hT.2.2.2 x h1).1) htn
  refine ⟨⟨pre 0 s0 a1, by show updN T.fa t (T.fa s + 1) s0 = 1; rw [(fr_ne s0 ts0).2.2]; exact a2, by show updN T.wy t 0 s0 = 1; unfold updN; rw [if_neg ts0]; exact a3⟩, fun i x hi hxi => ?_, fun i i' x x' j j' hi hii h1 h2 h3 h4 => ?_, fun j s1 b1 x hj hb hlt hnx => ?_⟩
  · show 1 < updN T.fa t (T.fa s + 1) x ∧ ∃ j, j < i ∧ (T.ord ++ [t])[j]? = some (updN T.fr t s x) ∧ updN T.by' t m x < 2 * B.pn ∧ nx B f (updN T.fr t s x) (updN T.by' t m x) = some x ∧ 10 * j + updN T.by' t m x < 10 * n + (m + 1)
    rcases spl i x hxi with ⟨q1, q2⟩ | ⟨q1, q2⟩
    · obtain ⟨g1, j, g2, g3, g4, g5, g6⟩ := b i x hi q1
      rw [(fr_ne x q2).1, (fr_ne x q2).2.1, (fr_ne x q2).2.2]
      exact ⟨g1, j, g2, pre j _ g3, g4, g5, by omega⟩
    · subst q2
      rw [fr_eq.1, fr_eq.2.1, fr_eq.2.2]
      exact ⟨by omega, n, by omega, pre n s hs, hm, hx, by omega⟩
  · have h3 : (T.ord ++ [t])[j]? = some (updN T.fr t s x) := h3
    have h4 : (T.ord ++ [t])[j']? = some (updN T.fr t s x') := h4
    show 10 * j + updN T.by' t m x < 10 * j' + updN T.by' t m x'
    rcases spl i x h1 with ⟨q1, q2⟩ | ⟨q1, q2⟩
    · rw [(fr_ne x q2).1] at h3
      rw [(fr_ne x q2).2.1]
      obtain ⟨g1, jj, g2, g3, g4, g5, g6⟩ := b i x hi q1
      have h3' := nf x j q2 h3 g1
      have ejj := nodup_ix_z hT.1 h3' g3
      subst ejj
      rcases spl i' x' h2 with ⟨r1, r2⟩ | ⟨r1, r2⟩
      · rw [(fr_ne x' r2).1] at h4
        rw [(fr_ne x' r2).2.1]
        exact c i i' x x' j j' hi hii q1 r1 h3' (nf x' j' r2 h4 (b i' x' (by omega) r1).1)
      · subst r2
        rw [fr_eq.1] at h4
        rw [fr_eq.2.1]
        have : j' = n := by
          rcases spl j' s h4 with ⟨z1, _⟩ | ⟨_, z2⟩
          · exact nodup_ix_z hT.1 z1 hs
          · exact absurd z2 hst
        subst this
        exact g6
    · have hlt : i' < (T.ord ++ [t]).length := (List.getElem?_eq_some_iff.mp h2).1
      simp at hlt
      omega
  · have hj : (T.ord ++ [t])[j]? = some s1 := hj
    show ∃ i, (T.ord ++ [t])[i]? = some x ∧ (0 < i → ∃ j', (T.ord ++ [t])[j']? = some (updN T.fr t s x) ∧ 10 * j' + updN T.by' t m x ≤ 10 * j + b1)
    have hjn : j ≤ n := by omega
    have hj' : T.ord[j]? = some s1 := (old j s1 (by omega)).mp hj
    by_cases e : 10 * j + b1 < 10 * n + m
    · obtain ⟨i, g1, g2⟩ := d j s1 b1 x hj' hb e hnx
      have hxt : x ≠ t := fun q => htn (q ▸ List.mem_of_getElem? g1)
      refine ⟨i, pre i x g1, fun hi => ?_⟩
      obtain ⟨j', g3, g4⟩ := g2 hi
      rw [(fr_ne x hxt).1, (fr_ne x hxt).2.1]
      exact ⟨j', pre j' _ g3, g4⟩
    · have ej : j = n := by omega
      have eb : b1 = m := by omega
      rw [ej] at hj'
      rw [eb] at hnx
      have es : s1 = s := Option.some.inj (hj'.symm.trans hs)
      rw [es] at hnx
      have ex : x = t := Option.some.inj (hnx.symm.trans hx)
      rw [ex]
      refine ⟨T.ord.length, by simp, fun _ => ⟨n, ?_, ?_⟩⟩
      · rw [fr_eq.1]; exact pre n s hs
      · rw [fr_eq.2.1]; omega
theorem BI_vis_z {B : Bx} {f s0 n s : Nat} {T : Tw} (hw : WFB B) (hT : TI B T) (hs : T.ord[n]? = some s) (h : BI_z B f s0 n 0 T) : ∀ m, m ≤ 2 * B.pn → BI_z B f s0 n m (vis B f s m T) := by
  intro m
  have hp := hw.1
  induction m with
  | zero => intro _; exact h
  | succ m ih =>
    intro hm
    have hT' := TI_vis (f := f) (m := m) hw hT (List.mem_of_getElem? hs) (by omega)
    have hs' := vis_pre (B := B) (f := f) (s := s) (m := m) hs
    have ih' := ih (by omega)
    have fas : (vis B f s m T).fa s ≠ 0 := (hT'.2.1 s).mp (List.mem_of_getElem? hs')
    simp only [vis]
    split
    · next hx => exact BI_skip_z hT' hs' (fun t ht => by rw [hx] at ht; cases ht) (by omega) hp ih'
    · next t hx =>
      unfold meet
      split
      · next h0 =>
        refine BI_more_z ?_ (BI_add_z hT' hs' hx h0 (by omega) hp ih')
        show updN _ t _ s ≠ 0
        unfold updN
        split
        · omega
        · exact fas
      · next h0 =>
        refine BI_more_z fas (BI_skip_z hT' hs' (fun u hu => ?_) (by omega) hp ih')
        have eu : u = t := Option.some.inj (hu.symm.trans hx)
        rw [eu]
        have hmem := (hT'.2.1 t).mpr h0
        obtain ⟨i, hi⟩ := List.getElem?_of_mem hmem
        refine ⟨i, hi, fun h1 => ?_⟩
        obtain ⟨-, j, -, g3, -, -, g6⟩ := ih'.2.1 i t h1 hi
        exact ⟨j, g3, Nat.le_of_lt g6⟩
theorem BI_next_z {B : Bx} {f s0 n m : Nat} {T : Tw} (hp : B.pn ≤ 5) (hm : m = 2 * B.pn ∨ T.ord.length ≤ n) (h : BI_z B f s0 n m T) (hm2 : m ≤ 10) : BI_z B f s0 (n + 1) 0 T := by
  obtain ⟨a, b, c, d⟩ := h
  refine ⟨a, fun i t hi ht => ?_, c, fun j s1 b1 t hj hb hlt hn => ?_⟩
  · obtain ⟨h1, j, h2, h3, h4, h5, h6⟩ := b i t hi ht
    exact ⟨h1, j, h2, h3, h4, h5, by omega⟩
  · have hjl := (List.getElem?_eq_some_iff.mp hj).1
    exact d j s1 b1 t hj hb (by rcases hm with q | q <;> omega) hn
theorem BI_bfsN_z {B : Bx} {f s0 : Nat} (hw : WFB B) (h : okS B s0) : ∀ n, BI_z B f s0 n 0 (bfsN B f s0 n) := by
  intro n
  have hp := hw.1
  induction n with
  | zero => exact BI_0_z
  | succ n ih =>
    simp only [bfsN]
    split
    · next hs => exact BI_next_z hp (Or.inr (List.getElem?_eq_none_iff.mp hs)) ih (by omega)
    · next s hs => exact BI_next_z hp (Or.inl rfl) (BI_vis_z hw (TI_bfsN hw h n) hs ih (2 * B.pn) (Nat.le_refl _)) (by omega)
/-- the whole walk -/
def BF_z (B : Bx) (f s0 : Nat) (T : Tw) : Prop := TI B T ∧
  (T.ord[0]? = some s0 ∧ T.fa s0 = 1 ∧ T.wy s0 = 1) ∧
  (∀ i t, 0 < i → T.ord[i]? = some t → 1 < T.fa t ∧ ∃ j, j < i ∧ T.ord[j]? = some (T.fr t) ∧ T.by' t < 2 * B.pn ∧ nx B f (T.fr t) (T.by' t) = some t) ∧
  (∀ i i' t t' j j', 0 < i → i < i' → T.ord[i]? = some t → T.ord[i']? = some t' → T.ord[j]? = some (T.fr t) → T.ord[j']? = some (T.fr t') → 10 * j + T.by' t < 10 * j' + T.by' t') ∧
  (∀ j s b t, T.ord[j]? = some s → b < 2 * B.pn → nx B f s b = some t → ∃ i, T.ord[i]? = some t ∧ (0 < i → ∃ j', T.ord[j']? = some (T.fr t) ∧ 10 * j' + T.by' t ≤ 10 * j + b))
theorem BF_bfs_z {B : Bx} {f s0 : Nat} (hw : WFB B) (h : okS B s0) : BF_z B f s0 (bfs B f s0) := by
  have hT : TI B (bfs B f s0) := by rw [bfs_eq]; exact TI_bfsN hw h 1024
  have hB : BI_z B f s0 1024 0 (bfs B f s0) := by rw [bfs_eq]; exact BI_bfsN_z hw h 1024
  have hl := hT.len hw
  have hp := hw.1
  obtain ⟨a, b, c, d⟩ := hB
  refine ⟨hT, a, fun i t hi ht => ?_, c, fun j s b1 t hj hb hn => ?_⟩
  · obtain ⟨h1, j, h2, h3, h4, h5, _⟩ := b i t hi ht
    exact ⟨h1, j, h2, h3, h4, h5⟩
  · have hjl := (List.getElem?_eq_some_iff.mp hj).1
    exact d j s b1 t hj hb (by omega) hn
section BFS
variable {B : Bx} {f s0 : Nat} {T : Tw}
theorem BF_z.ix (h : BF_z B f s0 T) {t : Nat} (ht : t ∈ T.ord) : ∃ i : Nat, T.ord[i]? = some t := List.getElem?_of_mem ht
theorem BF_z.fr_le (h : BF_z B f s0 T) {i i' t t' j j' : Nat} (hi : 0 < i) (hii : i ≤ i') (h1 : T.ord[i]? = some t) (h2 : T.ord[i']? = some t') (h3 : T.ord[j]? = some (T.fr t)) (h4 : T.ord[j']? = some (T.fr t')) : j ≤ j' ∧ (j = j' → T.by' t ≤ T.by' t') := by
  rcases Nat.lt_or_eq_of_le hii with q | q
  · have h5 := h.2.2.2.1 i i' t t' j j' hi q h1 h2 h3 h4
    have g1 := (h.2.2.1 i t hi h1).1
    have g2 := (h.2.2.1 i' t' (by omega) h2).1
    have b1 := (h.1.2.2.2 t g1).2.1
    have b2 := (h.1.2.2.2 t' g2).2.1
    exact ⟨by omega, fun e => by omega⟩
  · subst q
    rw [h1] at h2; cases h2
    have := nodup_ix_z h.1.1 h3 h4
    exact ⟨by omega, fun _ => Nat.le_refl _⟩
/-- the order is by distance -/
theorem BF_z.sorted (h : BF_z B f s0 T) : ∀ (i' i t t' : Nat), i ≤ i' → T.ord[i]? = some t → T.ord[i']? = some t' → T.fa t ≤ T.fa t' := by
  intro i'
  induction i' using Nat.strongRecOn with
  | ind i' ih =>
    intro i t t' hii h1 h2
    by_cases e : i = i'
    · subst e; rw [h1] at h2; cases h2; exact Nat.le_refl _
    · obtain ⟨g1, j', g2, g3, g4, g5⟩ := h.2.2.1 i' t' (by omega) h2
      by_cases e0 : i = 0
      · subst e0
        rw [h.2.1.1] at h1; cases h1
        rw [h.2.1.2.1]; omega
      · obtain ⟨k1, j, k2, k3, k4, k5⟩ := h.2.2.1 i t (by omega) h1
        have hle := (h.fr_le (by omega) hii h1 h2 k3 g3).1
        have := ih j' g2 j _ _ hle k3 g3
        have e1 := (h.1.2.2.2 t k1).2.2
        have e2 := (h.1.2.2.2 t' g1).2.2
        omega
/-- it is met as far as its row is long -/
theorem BF_z.rch (h : BF_z B f s0 T) : ∀ k t, t ∈ T.ord → T.fa t = k + 1 → Rch_z B f k s0 t := by
  intro k
  induction k with
  | zero =>
    intro t ht hk
    obtain ⟨i, hi⟩ := h.ix ht
    by_cases e : i = 0
    · subst e; rw [h.2.1.1] at hi; exact Option.some.inj hi
    · have := (h.2.2.1 i t (by omega) hi).1; omega
  | succ k ih =>
    intro t ht hk
    obtain ⟨i, hi⟩ := h.ix ht
    have hi0 : 0 < i := by
      rcases Nat.eq_zero_or_pos i with q | q
      · subst q; rw [h.2.1.1] at hi; cases hi; have := h.2.1.2.1; omega
      · exact q
    obtain ⟨g1, j, g2, g3, g4, g5⟩ := h.2.2.1 i t hi0 hi
    have e1 := (h.1.2.2.2 t g1).2.2
    exact Rch_snoc_z k s0 _ t _ (ih _ (List.mem_of_getElem? g3) (by omega)) g4 g5
/-- no row is shorter -/
theorem BF_z.least (hp : B.pn ≤ 5) (h : BF_z B f s0 T) : ∀ k t, Rch_z B f k s0 t → t ∈ T.ord ∧ T.fa t ≤ k + 1 := by
  intro k
  induction k with
  | zero => intro t ht; cases (show s0 = t from ht); exact ⟨List.mem_of_getElem? h.2.1.1, by rw [h.2.1.2.1]; omega⟩
  | succ k ih =>
    intro t ht
    obtain ⟨u, m, h1, h2, h3⟩ := Rch_last_z k s0 t ht
    obtain ⟨g1, g2⟩ := ih u h1
    obtain ⟨j, hj⟩ := h.ix g1
    obtain ⟨i, k1, k2⟩ := h.2.2.2.2 j u m t hj h2 h3
    refine ⟨List.mem_of_getElem? k1, ?_⟩
    rcases Nat.eq_zero_or_pos i with q | q
    · subst q; rw [h.2.1.1] at k1; cases k1; rw [h.2.1.2.1]; omega
    · obtain ⟨j', l1, l2⟩ := k2 q
      obtain ⟨g1', jj, g2', g3', g4', g5'⟩ := h.2.2.1 i t q k1
      have e1 := (h.1.2.2.2 t g1').2.2
      have b1 := (h.1.2.2.2 t g1').2.1
      have hle : j' ≤ j := by omega
      have := h.sorted j j' _ _ hle l1 hj
      omega
theorem BF_z.zero (h : BF_z B f s0 T) {j t : Nat} (hj : T.ord[j]? = some t) (h1 : T.fa t = 1) : j = 0 := by
  rcases Nat.eq_zero_or_pos j with q | q
  · exact q
  · have := (h.2.2.1 j t q hj).1; omega
theorem back_succ_z {T : Tw} {t : Nat} : ∀ n, back T t (n + 1) = back T (T.fr t) n := by
  intro n
  induction n with
  | zero => rfl
  | succ n ih => show T.fr (back T t (n + 1)) = T.fr (back T (T.fr t) n); rw [ih]
/-- what is met later, as far, was begun by no lesser move -/
theorem BF_z.mono (h : BF_z B f s0 T) : ∀ (k t t' i i' : Nat), T.fa t = k + 2 → T.fa t' = k + 2 → T.ord[i]? = some t → T.ord[i']? = some t' → i ≤ i' → T.by' (back T t k) ≤ T.by' (back T t' k) := by
  intro k
  induction k with
  | zero =>
    intro t t' i i' e1 e2 h1 h2 hii
    have hi : 0 < i := by
      rcases Nat.eq_zero_or_pos i with q | q
      · subst q; rw [h.2.1.1] at h1; cases h1; have := h.2.1.2.1; omega
      · exact q
    obtain ⟨g1, j, g2, g3, g4, g5⟩ := h.2.2.1 i t hi h1
    obtain ⟨k1, j', k2, k3, k4, k5⟩ := h.2.2.1 i' t' (by omega) h2
    have z1 := h.zero g3 (by have := (h.1.2.2.2 t g1).2.2; omega)
    have z2 := h.zero k3 (by have := (h.1.2.2.2 t' k1).2.2; omega)
    exact (h.fr_le hi hii h1 h2 g3 k3).2 (by omega)
  | succ k ih =>
    intro t t' i i' e1 e2 h1 h2 hii
    have hi : 0 < i := by
      rcases Nat.eq_zero_or_pos i with q | q
      · subst q; rw [h.2.1.1] at h1; cases h1; have := h.2.1.2.1; omega
      · exact q
    obtain ⟨g1, j, g2, g3, g4, g5⟩ := h.2.2.1 i t hi h1
    obtain ⟨k1, j', k2, k3, k4, k5⟩ := h.2.2.1 i' t' (by omega) h2
    have z1 := (h.1.2.2.2 t g1).2.2
    have z2 := (h.1.2.2.2 t' k1).2.2
    rw [back_succ_z, back_succ_z]
    exact ih _ _ j j' (by omega) (by omega) g3 k3 (h.fr_le hi hii h1 h2 g3 k3).1
/-- no row as short begins by a lesser move -/
theorem BF_z.first (hp : B.pn ≤ 5) (h : BF_z B f s0 T) {b u : Nat} (hb : b < 2 * B.pn) (hu : nx B f s0 b = some u) : ∀ k g, Rch_z B f k u g → T.fa g = k + 2 → T.by' (back T g k) ≤ b := by
  intro k
  induction k with
  | zero =>
    intro g hr hg
    have eg : g = u := (show u = g from hr).symm
    rw [eg] at hg ⊢
    obtain ⟨i, h1, h2⟩ := h.2.2.2.2 0 s0 b u h.2.1.1 hb hu
    have hi : 0 < i := by
      rcases Nat.eq_zero_or_pos i with q | q
      · subst q; rw [h.2.1.1] at h1; cases h1; have := h.2.1.2.1; omega
      · exact q
    obtain ⟨j', h3, h4⟩ := h2 hi
    have := h.zero h3 (by have := (h.1.2.2.2 u (by omega)).2.2; omega)
    subst this
    show T.by' u ≤ b
    omega
  | succ k ih =>
    intro g hr hg
    obtain ⟨p, m, h1, h2, h3⟩ := Rch_last_z k u g hr
    have hrp : Rch_z B f (k + 1) s0 p := ⟨b, u, hb, hu, h1⟩
    obtain ⟨hpm, hpl⟩ := h.least hp (k + 1) p hrp
    have hp0 := Nat.pos_of_ne_zero ((h.1.2.1 p).mp hpm)
    have hgl := (h.least hp (T.fa p - 1 + 1) g (Rch_snoc_z _ s0 p g m (h.rch (T.fa p - 1) p hpm (by omega)) h2 h3)).2
    have hpe : T.fa p = k + 2 := by omega
    have i1 := ih p h1 hpe
    obtain ⟨j, hj⟩ := h.ix hpm
    obtain ⟨i, g1, g2⟩ := h.2.2.2.2 j p m g hj h2 h3
    have hi : 0 < i := by
      rcases Nat.eq_zero_or_pos i with q | q
      · subst q; rw [h.2.1.1] at g1; cases g1; have := h.2.1.2.1; omega
      · exact q
    obtain ⟨j', g3, g4⟩ := g2 hi
    have z := (h.1.2.2.2 g (by omega)).2.2
    rw [back_succ_z]
    exact Nat.le_trans (h.mono k _ _ j' j (by omega) hpe g3 hj (by omega)) i1
end BFS
/-! how far the nearest open one is -/
def Dst_z (B : Bx) (o f s : Nat) (c : Nat) : Prop := (∃ g, openB B o g = true ∧ Rch_z B f c s g) ∧ ∀ j g, Rch_z B f j s g → openB B o g = true → c ≤ j
def NoD_z (B : Bx) (o f s : Nat) : Prop := ∀ j g, Rch_z B f j s g → openB B o g = false
theorem Dst_one_z {B : Bx} {o f s c c' : Nat} (h : Dst_z B o f s c) (h' : Dst_z B o f s c') : c = c' := by
  obtain ⟨⟨g, h1, h2⟩, h3⟩ := h
  obtain ⟨⟨g', k1, k2⟩, k3⟩ := h'
  have := h3 _ _ k2 k1
  have := k3 _ _ h2 h1
  omega
theorem Dst_no_z {B : Bx} {o f s c : Nat} (h : Dst_z B o f s c) (h' : NoD_z B o f s) : False := by
  obtain ⟨⟨g, h1, h2⟩, -⟩ := h
  rw [h' _ _ h2] at h1; cases h1
theorem find_first_z {p : Nat → Bool} : ∀ (l : List Nat) {t : Nat}, l.find? p = some t → ∃ i : Nat, l[i]? = some t ∧ p t = true ∧ ∀ j u : Nat, j < i → l[j]? = some u → p u = false := by
  intro l
  induction l with
  | nil => intro t h; cases h
  | cons x l ih =>
    intro t h
    rw [List.find?_cons] at h
    cases hx : p x with
    | true => rw [hx] at h; cases h; exact ⟨0, rfl, hx, fun j u hj => absurd hj (Nat.not_lt_zero j)⟩
    | false =>
      rw [hx] at h
      obtain ⟨i, h1, h2, h3⟩ := ih h
      refine ⟨i + 1, by simpa using h1, h2, fun j u hj hu => ?_⟩
      match j, hu with
      | 0, hu => simp at hu; rw [← hu]; exact hx
      | j + 1, hu => exact h3 j u (by omega) (by simpa using hu)
/-- the first open one of the walk is the nearest -/
theorem fop_Dst_z {B : Bx} {o f s0 t : Nat} {T : Tw} (hp : B.pn ≤ 5) (h : BF_z B f s0 T) (ht : fop B o T = some t) : t ∈ T.ord ∧ openB B o t = true ∧ Dst_z B o f s0 (T.fa t - 1) := by
  obtain ⟨i, h1, h2, h3⟩ := find_first_z _ ht
  have hm := List.mem_of_getElem? h1
  have h0 := Nat.pos_of_ne_zero ((h.1.2.1 t).mp hm)
  refine ⟨hm, h2, ⟨t, h2, h.rch _ t hm (by omega)⟩, fun j g hr hg => ?_⟩
  obtain ⟨g1, g2⟩ := h.least hp j g hr
  obtain ⟨i', hi'⟩ := h.ix g1
  have : i ≤ i' := by
    rcases Nat.lt_or_ge i' i with q | q
    · have := h3 i' g q hi'; rw [this] at hg; cases hg
    · exact q
  have := h.sorted i' i t g this h1 hi'
  omega
theorem fop_no_z {B : Bx} {o f s0 : Nat} {T : Tw} (hp : B.pn ≤ 5) (h : BF_z B f s0 T) (ht : fop B o T = none) : NoD_z B o f s0 := by
  intro j g hr
  have := List.find?_eq_none.mp ht g (h.least hp j g hr).1
  cases e : openB B o g with
  | false => rfl
  | true => exact absurd e this
/-- the first slide of the row told: no lesser one leads to a row as short -/
theorem fop_first_z {B : Bx} {o f s0 t : Nat} {T : Tw} (hp : B.pn ≤ 5) (h : BF_z B f s0 T) (ht : fop B o T = some t) (h2 : 2 ≤ T.fa t) {b u : Nat} (hb : b < T.by' (back T t (T.fa t - 2))) (hb2 : b < 2 * B.pn) (hu : nx B f s0 b = some u) {j g : Nat} (hr : Rch_z B f j u g) (hg : openB B o g = true) : T.fa t - 1 ≤ j := by
  obtain ⟨i, k1, k2, k3⟩ := find_first_z _ ht
  obtain ⟨hm, -, hD⟩ := fop_Dst_z hp h ht
  have l1 := hD.2 (j + 1) g ⟨b, u, hb2, hu, hr⟩ hg
  rcases Nat.lt_or_ge j (T.fa t - 1) with q | q
  · exfalso
    have ej : j = T.fa t - 2 := by omega
    subst ej
    obtain ⟨g1, g2⟩ := h.least hp _ g (show Rch_z B f (T.fa t - 2 + 1) s0 g from ⟨b, u, hb2, hu, hr⟩)
    have g0 := Nat.pos_of_ne_zero ((h.1.2.1 g).mp g1)
    have l2 := hD.2 (T.fa g - 1) g (h.rch _ g g1 (by omega)) hg
    have eg : T.fa g = T.fa t - 2 + 2 := by omega
    have m1 := h.first hp hb2 hu _ g hr eg
    obtain ⟨i', hi'⟩ := h.ix g1
    have hii : i ≤ i' := by
      rcases Nat.lt_or_ge i' i with q | q
      · have := k3 i' g q hi'; rw [this] at hg; cases hg
      · exact q
    have m2 := h.mono (T.fa t - 2) t g i i' (by omega) eg k1 hi' hii
    omega
  · exact q
/-- the row told: its first slide may be done, and what is behind it is one nearer -/
theorem back_first_z {B : Bx} {f s0 : Nat} {T : Tw} (hp : B.pn ≤ 5) (h : BF_z B f s0 T) : ∀ k t, t ∈ T.ord → T.fa t = k + 2 → ∃ u, T.by' (back T t k) < 2 * B.pn ∧ nx B f s0 (T.by' (back T t k)) = some u ∧ Rch_z B f k u t := by
  intro k
  induction k with
  | zero =>
    intro t ht hk
    obtain ⟨i, hi⟩ := h.ix ht
    have hi0 : 0 < i := by
      rcases Nat.eq_zero_or_pos i with q | q
      · subst q; rw [h.2.1.1] at hi; cases hi; have := h.2.1.2.1; omega
      · exact q
    obtain ⟨g1, j, g2, g3, g4, g5⟩ := h.2.2.1 i t hi0 hi
    have e1 := (h.1.2.2.2 t g1).2.2
    have := h.zero g3 (by omega)
    subst this
    rw [h.2.1.1] at g3
    have e : s0 = T.fr t := Option.some.inj g3
    rw [← e] at g5
    exact ⟨t, g4, g5, rfl⟩
  | succ k ih =>
    intro t ht hk
    obtain ⟨i, hi⟩ := h.ix ht
    have hi0 : 0 < i := by
      rcases Nat.eq_zero_or_pos i with q | q
      · subst q; rw [h.2.1.1] at hi; cases hi; have := h.2.1.2.1; omega
      · exact q
    obtain ⟨g1, j, g2, g3, g4, g5⟩ := h.2.2.1 i t hi0 hi
    have e1 := (h.1.2.2.2 t g1).2.2
    obtain ⟨u, k1, k2, k3⟩ := ih _ (List.mem_of_getElem? g3) (by omega)
    rw [back_succ_z]
    exact ⟨u, k1, k2, Rch_snoc_z k u _ t _ k3 g4 g5⟩
