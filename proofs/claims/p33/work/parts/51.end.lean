/-! the end: what the walk reaches is all; the ways into each state -/
theorem meet_self {T : Tw} {s m t : Nat} (hT : ∀ t, t ∈ T.ord ↔ T.fa t ≠ 0) : t ∈ (meet T s m t).ord := by
  unfold meet
  split
  · rw [more_ord.1]; exact List.mem_append_right _ (by simp)
  · next h => rw [more_ord.1]; exact (hT t).mpr h
theorem vis_has {B : Bx} {f s : Nat} {T : Tw} (hw : WFB B) (h : TI B T) (hs : s ∈ T.ord) : ∀ m, m ≤ 2 * B.pn → ∀ b t, b < m → nx B f s b = some t → t ∈ (vis B f s m T).ord := by
  intro m
  induction m with
  | zero => intro _ b t hb; exact absurd hb (Nat.not_lt_zero b)
  | succ m ih =>
    intro hm b t hb ht
    have hTm := TI_vis (f := f) (m := m) hw h hs (by omega)
    simp only [vis]
    by_cases e : b = m
    · subst e
      rw [ht]
      exact meet_self hTm.2.1
    · have := ih (by omega) b t (by omega) ht
      split
      · exact this
      · exact meet_mem this
theorem bfs_closed {B : Bx} {f s0 a b t : Nat} (hw : WFB B) (hs : okS B s0) (ha : a ∈ (bfs B f s0).ord) (hb : b < 2 * B.pn) (ht : nx B f a b = some t) : t ∈ (bfs B f s0).ord := by
  obtain ⟨j, hj⟩ := List.getElem?_of_mem ha
  have hT := TI_bfsN (f := f) hw hs 1024
  have hlen := hT.len hw
  have hj2 := (List.getElem?_eq_some_iff.mp hj).1
  rw [bfs_eq] at hj2
  have hj3 : j < 1024 := by omega
  have hTj := TI_bfsN (f := f) hw hs j
  have hjl : j < (bfsN B f s0 j).ord.length := by
    rcases Nat.lt_or_ge j (bfsN B f s0 j).ord.length with h | h
    · exact h
    · have := bfs_at (B := B) (f := f) (s0 := s0) h (by omega)
      rw [← bfs_eq, this] at hj2
      omega
  have e1 : (bfsN B f s0 j).ord[j]? = some ((bfsN B f s0 j).ord[j]) := List.getElem?_eq_getElem hjl
  have e2 := bfs_pre (by omega) e1
  rw [hj] at e2
  cases e2
  have e3 : bfsN B f s0 (j + 1) = vis B f ((bfsN B f s0 j).ord[j]) (2 * B.pn) (bfsN B f s0 j) := by
    show (match (bfsN B f s0 j).ord[j]? with
      | none => bfsN B f s0 j
      | some s1 => vis B f s1 (2 * B.pn) (bfsN B f s0 j)) = _
    rw [e1]
  have h4 := vis_has hw hTj (List.getElem_mem hjl) (2 * B.pn) (Nat.le_refl _) b t hb ht
  rw [← e3] at h4
  obtain ⟨i, hi⟩ := List.getElem?_of_mem h4
  exact List.mem_of_getElem? (bfs_pre (by omega) hi)
theorem bfs_self {B : Bx} {f s0 : Nat} : s0 ∈ (bfs B f s0).ord := List.mem_of_getElem? (bfs_pre (n := 0) (j := 0) (by decide) (show [s0][0]? = some s0 from rfl))
/-- all that is known of a walk that is done -/
def Clo (B : Bx) (f : Nat) (T : Tw) : Prop := ∀ a, a ∈ T.ord → ∀ b t, b < 2 * B.pn → nx B f a b = some t → t ∈ T.ord
theorem Clob {V : Bv} (hw : WFV V) (f : Nat) : Clo V.B f (bfs V.B f V.s) := fun _ ha _ _ hb ht => bfs_closed hw.1 hw.2.2.1 ha hb ht
/-- a chain -/
def Ch (e : Nat → Int32) : Int32 → List Nat → Prop
  | v, [] => v = -1
  | v, x :: r => v = nI x ∧ Ch e (e x) r
theorem Ch_congr {e e' : Nat → Int32} : ∀ {l : List Nat} {v : Int32}, (∀ x ∈ l, e x = e' x) → Ch e v l → Ch e' v l := by
  intro l
  induction l with
  | nil => intro v _ h; exact h
  | cons x r ih =>
    intro v h1 h2
    refine ⟨h2.1, ?_⟩
    rw [← h1 x List.mem_cons_self]
    exact ih (fun y hy => h1 y (List.mem_cons_of_mem _ hy)) h2.2
/-- how many moves there are, below n -/
def deg (B : Bx) (f s : Nat) : Nat → Nat
  | 0 => 0
  | n + 1 => deg B f s n + (if (nx B f s n).isSome then 1 else 0)
theorem deg_le {B : Bx} {f s n : Nat} : deg B f s n ≤ n := by
  induction n with
  | zero => exact Nat.le_refl _
  | succ n ih => simp only [deg]; split <;> omega
/-- the chains of the ways into the states, those of the states of D and of a below m charted -/
def LkR (B : Bx) (f : Nat) (T : Tw) (D : List Nat) (a m : Nat) (I : I2) : Prop := ∃ L : Nat → List Nat, ∀ t, t ∈ T.ord → Ch (I 43) (I 42 t) (L t) ∧ (L t).Nodup ∧ ∀ x, x ∈ L t ↔ (x / 10 ∈ D ∨ (x / 10 = a ∧ x % 10 < m)) ∧ x % 10 < 2 * B.pn ∧ nx B f (x / 10) (x % 10) = some t
/-- what the end leaves alone -/
def FrX (I I' : I2) : Prop := ∀ a, (a < 41 ∨ 47 < a) → I' a = I a
theorem FrX.rf {I : I2} : FrX I I := fun _ _ => rfl
theorem FrX.tr {I0 I1 I2 : I2} (h1 : FrX I0 I1) (h2 : FrX I1 I2) : FrX I0 I2 := fun a x => (h2 a x).trans (h1 a x)
theorem FrX_up {I : I2} {a k : Nat} {x : Int32} (ha : 41 ≤ a) (h2 : a ≤ 47) : FrX I (up2 I a k x) := by
  intro b hb
  have : b ≠ a := by omega
  simp [up2, this]
theorem FrX.g {I I' : I2} (h : FrX I I') : FrG I I' := ⟨fun a x _ => h a (by omega), fun k _ => by rw [h 1 (by decide)]⟩
theorem FrX.wka {V : Bv} {f : Nat} {I I' : I2} (h : FrX I I') (hA : WkA V f I) : WkA V f I' := by
  have e1 := h 1 (by decide)
  have e33 := h 33 (by decide)
  have e34 := h 34 (by decide)
  have e35 := h 35 (by decide)
  have e36 := h 36 (by decide)
  have e37 := h 37 (by decide)
  have e38 := h 38 (by decide)
  have e39 := h 39 (by decide)
  have e40 := h 40 (by decide)
  unfold WkA ChR WkR at hA ⊢
  rw [e1, e33, e34, e35, e36, e37, e38, e39, e40]
  exact hA
section END
variable {d : Nat} {V : Bv} {I : I2} {J : J2} {G : I2 → J2 → Prop} {F : Int32 → I2 → J2 → Prop} {f a : Nat}
theorem l_Eg_chain (hd : 1 ≤ d) (hw : WFV V) (hf : f < 64) {T : Tw} {D : List Nat} {I0 : I2} (eT : bfs V.B f V.s = T) (hA : WkA V f I0) (ha : a ∈ T.ord) (haD : a ∉ D) (h0 : I0 44 a = 0) (h : ∀ I', FrX I0 I' → I' 41 = I0 41 ∧ I' 45 = I0 45 ∧ I' 46 = I0 46 ∧ I' 47 = I0 47 → I' 44 = upd (I0 44) a (nI (deg V.B f a (2 * V.B.pn))) → LkR V.B f T D a (2 * V.B.pn) I' → G I' J) : ∀ k n I, n + k = 2 * V.B.pn → FrX I0 I → I 41 = I0 41 ∧ I 45 = I0 45 ∧ I 46 = I0 46 ∧ I 47 = I0 47 → I 44 = upd (I0 44) a (nI (deg V.B f a n)) → LkR V.B f T D a n I → Wp d Eg_chain (QV G) 2 [some (.ref 41), some (.int (nI a)), some (.int (nI n)), none, none] [] I J := by
  have hp5 := hw.1.1
  have hT : TI V.B T := eT ▸ TIb hw f
  have hcl : Clo V.B f T := eT ▸ Clob hw f
  have hok := (hT.2.2.1 a ha).1
  have ha2 := s31 hw.1 hok.1
  intro k
  induction k with
  | zero =>
    intro n I hn hFr hX h44 hL
    have hn : n = 2 * V.B.pn := by omega
    subst hn
    have hA1 := hFr.wka hA
    refine v_Eg_chain_41_2 ⟨fun q => ?_, fun _ => QV_i.mpr (h I hFr hX h44 hL)⟩
    rw [hA1.2.1.1] at q; exact absurd ((n_lt (by omega) (by omega)).mp q) (Nat.lt_irrefl _)
  | succ k ih =>
    intro n I hn hFr hX h44 hL
    have hlt : n < 2 * V.B.pn := by omega
    have hA1 := hFr.wka hA
    have go := fun I' => ih (n + 1) I' (by omega)
    have hdl := deg_le (B := V.B) (f := f) (s := a) (n := n)
    simp only [deg] at go
    refine v_Eg_chain_41_2 ⟨fun _ => c_Wk_next hd hw.1 hA1.2.1 hA1.2.2.2.1 hf hok hlt ?_, fun q => absurd ((n_lt (by omega) (by omega)).mpr hlt) (by rw [hA1.2.1.1] at q; exact q)⟩
    rw [n_inc]
    obtain ⟨L, hL⟩ := hL
    cases hnx : nx V.B f a n with
    | none =>
      rw [hnx] at go
      refine ⟨fun _ => go I hFr hX h44 ⟨L, fun t ht => ?_⟩, fun q => absurd (by decide) q⟩
      obtain ⟨g1, g2, g3⟩ := hL t ht
      refine ⟨g1, g2, fun x => (g3 x).trans ⟨fun ⟨z1, z2⟩ => ⟨z1.imp id (fun z => ⟨z.1, by omega⟩), z2⟩, fun ⟨z1, z2, z3⟩ => ⟨z1.imp id (fun z => ⟨z.1, ?_⟩), z2, z3⟩⟩⟩
      have : x % 10 ≠ n := by
        intro e
        rw [z.1, e, hnx] at z3
        cases z3
      omega
    | some t =>
      rw [hnx] at go
      have htT := hcl a ha n t hlt hnx
      have ht2 := s31 hw.1 (hT.2.2.1 t htT).1.1
      have hva := n_vp (a := a) (n := 1024) ha2 (by decide)
      have hvt := n_vp (a := t) (n := 1024) ht2 (by decide)
      have hvs := n_vp (a := 10 * a + n) (n := 10240) (by omega) (by decide)
      dsimp only
      rw [sp10, n_tN (a := a) (by omega), n_tN (a := t) (by omega), n_tN (a := 10 * a + n) (by omega)]
      refine ⟨fun q => absurd q (nI_pos (by omega)), fun _ => ⟨hva, hva, hvt, hvs, hvt, ?_⟩⟩
      obtain ⟨x1, x5, x6, x7⟩ := hX
      refine go _ (hFr.tr (((FrX_up (by decide) (by decide)).tr (FrX_up (by decide) (by decide))).tr (FrX_up (by decide) (by decide)))) ⟨by simpa [up2] using x1, by simpa [up2] using x5, by simpa [up2] using x6, by simpa [up2] using x7⟩ ?_ ⟨fun t' => if t' = t then (10 * a + n) :: L t' else L t', fun t' ht' => ?_⟩
      · have e44 : up2 (up2 (up2 I 44 a (I 44 a + 1)) 43 (10 * a + n) (I 42 t)) 42 t (nI (10 * a + n)) 44 = upd (I 44) a (I 44 a + 1) := by simp [up2]
        rw [e44, h44]
        funext x
        simp only [upd]
        split
        · rw [if_pos trivial, n_inc]; rfl
        · rfl
      · obtain ⟨g1, g2, g3⟩ := hL t' ht'
        have hnew : 10 * a + n ∉ L t' := by
          intro q
          have q := ((g3 _).mp q).1
          rw [show (10 * a + n) / 10 = a by omega, show (10 * a + n) % 10 = n by omega] at q
          rcases q with q | q
          · exact haD q
          · omega
        have e43 : up2 (up2 (up2 I 44 a (I 44 a + 1)) 43 (10 * a + n) (I 42 t)) 42 t (nI (10 * a + n)) 43 = upd (I 43) (10 * a + n) (I 42 t) := by simp [up2]
        have e42 : up2 (up2 (up2 I 44 a (I 44 a + 1)) 43 (10 * a + n) (I 42 t)) 42 t (nI (10 * a + n)) 42 = upd (I 42) t (nI (10 * a + n)) := by simp [up2]
        have hcg : ∀ v l, (∀ x ∈ l, x ∈ L t') → Ch (I 43) v l → Ch (upd (I 43) (10 * a + n) (I 42 t)) v l := by
          intro v l hl hc
          refine Ch_congr (fun x hx => ?_) hc
          have : x ≠ 10 * a + n := fun q => hnew (q ▸ hl x hx)
          simp [upd, this]
        rw [e43, e42]
        by_cases e : t' = t
        · subst e
          simp only [if_pos]
          refine ⟨⟨by simp [upd], ?_⟩, List.nodup_cons.mpr ⟨hnew, g2⟩, fun x => ?_⟩
          · rw [show upd (I 43) (10 * a + n) (I 42 t') (10 * a + n) = I 42 t' from by simp [upd]]
            exact hcg _ _ (fun x hx => hx) g1
          · rw [List.mem_cons, g3 x]
            constructor
            · rintro (rfl | ⟨z1, z2⟩)
              · rw [show (10 * a + n) / 10 = a by omega, show (10 * a + n) % 10 = n by omega]
                exact ⟨Or.inr ⟨rfl, Nat.lt_succ_self n⟩, hlt, hnx⟩
              · exact ⟨z1.imp id (fun z => ⟨z.1, by omega⟩), z2⟩
            · rintro ⟨z1, z2⟩
              rcases z1 with z | ⟨z3, z4⟩
              · exact Or.inr ⟨Or.inl z, z2⟩
              · by_cases e2 : x % 10 = n
                · left; omega
                · exact Or.inr ⟨Or.inr ⟨z3, by omega⟩, z2⟩
        · simp only [if_neg e]
          refine ⟨?_, g2, fun x => (g3 x).trans ⟨fun ⟨z1, z2⟩ => ⟨z1.imp id (fun z => ⟨z.1, by omega⟩), z2⟩, fun ⟨z1, z2, z3⟩ => ⟨z1.imp id (fun z => ⟨z.1, ?_⟩), z2, z3⟩⟩⟩
          · rw [show upd (I 42) t (nI (10 * a + n)) t' = I 42 t' from by simp [upd, e]]
            exact hcg _ _ (fun x hx => hx) g1
          · have : x % 10 ≠ n := by
              intro e3
              rw [z.1, e3, hnx] at z3
              exact e (Option.some.inj z3).symm
            omega
/-- as the end begins -/
def EgB (B : Bx) (f : Nat) (T : Tw) (I : I2) : Prop := I 41 6 = 0 ∧ (∀ s, s ∈ T.ord → I 44 s = nI (deg B f s (2 * B.pn)) ∧ I 46 s = 0 ∧ I 47 s = 0) ∧ LkR B f T T.ord 0 0 I
theorem take_mem_of {l : List Nat} {n x : Nat} (h : x ∈ l.take n) : x ∈ l := List.mem_of_mem_take h
theorem take_last {l : List Nat} {n : Nat} (h : n < l.length) : l.take (n + 1) = l.take n ++ [l[n]] := by
  rw [List.take_add_one, List.getElem?_eq_getElem h]; rfl
theorem nodup_take_not {l : List Nat} {n : Nat} (hn : l.Nodup) (h : n < l.length) : l[n] ∉ l.take n := by
  intro q
  have h2 : (l.take (n + 1)).Nodup := hn.sublist (List.take_sublist _ _)
  rw [take_last h, List.nodup_append] at h2
  exact h2.2.2 _ q _ (by simp) rfl
theorem c_Eg_begin (hd : 3 ≤ d) (hw : WFV V) (hf : f < 64) {T : Tw} (eT : bfs V.B f V.s = T) (hA : WkA V f I) (h : ∀ I', FrX I I' → EgB V.B f T I' → G I' J) : CV d Eg_begin [.ref 41] I J G := by
  have hp5 := hw.1.1
  have hT : TI V.B T := eT ▸ TIb hw f
  have hlen := hT.len hw.1
  have hWk : ∀ I1, FrX I I1 → WkR T I1 := fun I1 q => eT ▸ (q.wka hA).2.2.2.2
  have loop2 : ∀ k n I1, n + k = T.ord.length → FrX I I1 → (∀ s, s ∈ T.ord → I1 46 s = 0 ∧ I1 47 s = 0 ∧ I1 44 s = if s ∈ T.ord.take n then nI (deg V.B f s (2 * V.B.pn)) else 0) → LkR V.B f T (T.ord.take n) 0 0 I1 → Wp (d - 1) Eg_begin (QV G) 59 [some (.ref 41), some (.int (nI n)), none] [] I1 J := by
    intro k
    induction k with
    | zero =>
      intro n I1 hn hFr hz hL
      have hn : n = T.ord.length := by omega
      subst hn
      have hI := hWk I1 hFr
      refine v_Eg_begin_41_59 ⟨fun q => ?_, fun _ => QV_i.mpr (h _ (hFr.tr (FrX_up (by decide) (by decide))) ⟨by simp [up2, upd], fun s hs => ?_, ?_⟩)⟩
      · rw [hI.1] at q; exact absurd ((n_lt (by omega) (by omega)).mp q) (Nat.lt_irrefl _)
      · have hz := hz s hs
        rw [List.take_length, if_pos hs] at hz
        simp only [up2]
        exact ⟨hz.2.2, hz.1, hz.2.1⟩
      · rw [List.take_length] at hL
        exact hL
    | succ k ih =>
      intro n I1 hn hFr hz hL
      have hlt : n < T.ord.length := by omega
      have hI := hWk I1 hFr
      have hm := List.getElem_mem hlt
      have hm2 := s31 hw.1 (hT.2.2.1 _ hm).1.1
      have hnt := nodup_take_not hT.1 hlt
      refine v_Eg_begin_41_59 ⟨fun _ => ⟨n_vp (by omega) (by decide), ?_⟩, fun q => absurd ((n_lt (by omega) (by omega)).mpr hlt) (by rw [hI.1] at q; exact q)⟩
      rw [n_tN (a := n) (by omega), hI.ord' hlt, n_inc]
      refine CV.of (by omega) rfl (v_Eg_chain_41_0 (l_Eg_chain (by omega) hw hf eT (hFr.wka hA) hm hnt ?_ (fun I' q1 q2 q3 q4 => ?_) (2 * V.B.pn) 0 I1 (Nat.zero_add _) FrX.rf ⟨rfl, rfl, rfl, rfl⟩ ?_ ?_))
      · rw [(hz _ hm).2.2, if_neg hnt]
      · refine ih (n + 1) I' (by omega) (hFr.tr q1) (fun s hs => ?_) ?_
        · obtain ⟨z1, z2, z3⟩ := hz s hs
          rw [q2.2.2.1, q2.2.2.2, q3]
          refine ⟨z1, z2, ?_⟩
          simp only [upd, take_last hlt, List.mem_append, List.mem_singleton]
          by_cases e : s = T.ord[n]
          · rw [if_pos e, if_pos (Or.inr e), e]
          · rw [if_neg e, z3]
            simp only [e, or_false]
        · obtain ⟨L, hL⟩ := q4
          refine ⟨L, fun t ht => ?_⟩
          obtain ⟨g1, g2, g3⟩ := hL t ht
          refine ⟨g1, g2, fun x => (g3 x).trans ?_⟩
          rw [take_last hlt, List.mem_append, List.mem_singleton]
          constructor
          · rintro ⟨z | z, z2⟩
            · exact ⟨Or.inl (Or.inl z), z2⟩
            · exact ⟨Or.inl (Or.inr z.1), z2⟩
          · rintro ⟨(z | z) | z, z2⟩
            · exact ⟨Or.inl z, z2⟩
            · exact ⟨Or.inr ⟨z, z2.1⟩, z2⟩
            · omega
      · have e := (hz _ hm).2.2
        rw [if_neg hnt] at e
        funext x
        simp only [upd, deg]
        split
        · next e2 => rw [e2, e]; rfl
        · rfl
      · obtain ⟨L, hL⟩ := hL
        refine ⟨L, fun t ht => ?_⟩
        obtain ⟨g1, g2, g3⟩ := hL t ht
        refine ⟨g1, g2, fun x => (g3 x).trans ?_⟩
        constructor
        · rintro ⟨z | z, z2⟩
          · exact ⟨Or.inl z, z2⟩
          · omega
        · rintro ⟨z | z, z2⟩
          · exact ⟨Or.inl z, z2⟩
          · omega
  have loop1 : ∀ k n I1, n + k = T.ord.length → FrX I I1 → (∀ s, s ∈ T.ord.take n → I1 42 s = -1 ∧ I1 44 s = 0 ∧ I1 46 s = 0 ∧ I1 47 s = 0) → Wp (d - 1) Eg_begin (QV G) 2 [some (.ref 41), some (.int (nI n)), none] [] I1 J := by
    intro k
    induction k with
    | zero =>
      intro n I1 hn hFr hz
      have hn : n = T.ord.length := by omega
      subst hn
      have hI := hWk I1 hFr
      rw [List.take_length] at hz
      refine v_Eg_begin_41_2 ⟨fun q => ?_, fun _ => loop2 _ 0 I1 (Nat.zero_add _) hFr (fun s hs => ?_) ⟨fun _ => [], fun t ht => ⟨(hz t ht).1, List.nodup_nil, fun x => ?_⟩⟩⟩
      · rw [hI.1] at q; exact absurd ((n_lt (by omega) (by omega)).mp q) (Nat.lt_irrefl _)
      · have hz := hz s hs
        refine ⟨hz.2.2.1, hz.2.2.2, ?_⟩
        rw [List.take_zero, if_neg (by simp)]; exact hz.2.1
      · simp
    | succ k ih =>
      intro n I1 hn hFr hz
      have hlt : n < T.ord.length := by omega
      have hI := hWk I1 hFr
      have hm := List.getElem_mem hlt
      have hm2 := s31 hw.1 (hT.2.2.1 _ hm).1.1
      have hv := n_vp (a := T.ord[n]) (n := 1024) hm2 (by decide)
      refine v_Eg_begin_41_2 ⟨fun _ => ⟨n_vp (by omega) (by decide), ?_⟩, fun q => absurd ((n_lt (by omega) (by omega)).mpr hlt) (by rw [hI.1] at q; exact q)⟩
      rw [n_tN (a := n) (by omega), hI.ord' hlt, n_inc, n_tN (a := T.ord[n]) (by omega)]
      refine ⟨hv, hv, hv, hv, ih (n + 1) _ (by omega) (hFr.tr ((((FrX_up (by decide) (by decide)).tr (FrX_up (by decide) (by decide))).tr (FrX_up (by decide) (by decide))).tr (FrX_up (by decide) (by decide)))) (fun s hs => ?_)⟩
      rw [take_last hlt, List.mem_append, List.mem_singleton] at hs
      by_cases e : s = T.ord[n]
      · simp [up2, upd, e]
      · have hz := hz s (hs.resolve_right e)
        simpa [up2, upd, e] using hz
  exact CV.of (by omega) rfl (v_Eg_begin_41_0 (loop1 _ 0 I (Nat.zero_add _) FrX.rf (fun s hs => by simp at hs)))
end END
