/-! which are dead: the class -/
/-- it can be opened from there -/
def live (B : Bx) (o f s : Nat) : Prop := ∀ P : Nat → Prop, (∀ s, openB B o s = true → P s) → (∀ s m t, m < 2 * B.pn → nx B f s m = some t → P t → P s) → P s
noncomputable def dlive (B : Bx) (o f s : Nat) : Bool := @decide (live B o f s) (Classical.propDecidable _)
theorem dlive_i {B : Bx} {o f s : Nat} : dlive B o f s = true ↔ live B o f s := by unfold dlive; exact @decide_eq_true_iff _ (Classical.propDecidable _)
noncomputable def deadN (B : Bx) (o f : Nat) (T : Tw) : Nat := (T.ord.filter (fun s => !dlive B o f s)).length
theorem filt_two {p : Nat → Bool} : ∀ l : List Nat, l.length = (l.filter p).length + (l.filter (fun s => !p s)).length := by
  intro l
  induction l with
  | nil => rfl
  | cons x l ih => cases h : p x <;> simp [h] <;> omega
theorem same_len {l r : List Nat} (hl : l.Nodup) (hr : r.Nodup) (h : ∀ x, x ∈ l ↔ x ∈ r) : l.length = r.length := ((List.perm_ext_iff_of_nodup hl hr).mpr h).length_eq
/-- the queue, and who is in it -/
def DqR (T : Tw) (q : List Nat) (I : I2) : Prop := I 41 6 = nI q.length ∧ (∀ k x, q[k]? = some x → I 45 k = nI x) ∧ q.Nodup ∧ (∀ x ∈ q, x ∈ T.ord) ∧ ∀ s, s ∈ T.ord → I 46 s = if s ∈ q then 1 else 0
theorem q_room {B : Bx} {T : Tw} {q : List Nat} {s : Nat} (hw : WFB B) (hT : TI B T) (hq : q.Nodup) (hm : ∀ x ∈ q, x ∈ T.ord) (hs : s ∈ T.ord) (hn : s ∉ q) : q.length < 1024 := by
  have := nodup_len 1024 (s :: q) (List.nodup_cons.mpr ⟨hn, hq⟩) (fun x hx => by
    rcases List.mem_cons.mp hx with rfl | h
    · exact s31 hw (hT.2.2.1 _ hs).1.1
    · exact s31 hw (hT.2.2.1 _ (hm x h)).1.1)
  simp only [List.length_cons] at this
  omega
theorem app_get {q : List Nat} {s k x : Nat} (h : (q ++ [s])[k]? = some x) : (k = q.length ∧ x = s) ∨ (k ≠ q.length ∧ q[k]? = some x) := by
  by_cases e : k = q.length
  · subst e; simp at h; exact Or.inl ⟨rfl, h.symm⟩
  · right
    have hk := (List.getElem?_eq_some_iff.mp h).1
    simp at hk
    rw [List.getElem?_append_left (by omega)] at h
    exact ⟨e, h⟩
theorem app_old {q : List Nat} {s k x : Nat} (h : q[k]? = some x) : (q ++ [s])[k]? = some x := by
  rw [List.getElem?_append_left (List.getElem?_eq_some_iff.mp h).1]; exact h
theorem DqR_add {T : Tw} {q : List Nat} {I : I2} {s : Nat} {b : Int32} (h : DqR T q I) (hs : s ∈ T.ord) (hn : s ∉ q) : DqR T (q ++ [s]) (up2 (up2 (up2 (up2 I 46 s 1) 47 s b) 45 q.length (nI s)) 41 6 (nI (q.length + 1))) := by
  obtain ⟨h1, h2, h3, h4, h5⟩ := h
  refine ⟨by simp [up2, upd], fun k x hx => ?_, ?_, fun x hx => ?_, fun x hx => ?_⟩
  · rcases app_get hx with ⟨rfl, rfl⟩ | ⟨e, e2⟩
    · simp [up2, upd]
    · simp [up2, upd, e]; exact h2 k x e2
  · rw [List.nodup_append]
    exact ⟨h3, by simp, fun a ha b hb => by simp at hb; subst hb; exact fun q => hn (q ▸ ha)⟩
  · rcases List.mem_append.mp hx with h | h
    · exact h4 x h
    · simp at h; rw [h]; exact hs
  · have := h5 x hx
    by_cases e : x = s
    · simp [up2, upd, e]
    · simp [up2, upd, e]; exact this
section DEAD
variable {d : Nat} {V : Bv} {I : I2} {J : J2} {G : I2 → J2 → Prop} {F : Int32 → I2 → J2 → Prop} {f a : Nat}
theorem c_Eg_settle {s n : Nat} {w b : Int32} (hd : 1 ≤ d) (h6 : I 41 6 = nI n) (hn : n < 1024) (hs : s < 1024) (h : G (up2 (up2 (up2 (up2 I 46 s w) 47 s b) 45 n (nI s)) 41 6 (nI (n + 1))) J) : CV d Eg_settle [.ref 41, .int (nI s), .int w, .int b] I J G := by
  have hv := n_vp (a := s) (n := 1024) hs (by decide)
  refine CV.of (by omega) rfl (v_Eg_settle_41_0 ?_)
  rw [h6, n_tN (by omega), n_tN (by omega), n_inc]
  exact ⟨fun _ => ⟨hv, hv, n_vp (by omega) (by decide), QV_i.mpr h⟩, fun q => absurd ((n_lt (b := 1024) (by omega) (by decide)).mpr hn) q⟩
theorem FrX_settle {s n : Nat} {w b : Int32} : FrX I (up2 (up2 (up2 (up2 I 46 s w) 47 s b) 45 n (nI s)) 41 6 (nI (n + 1))) := (((FrX_up (by decide) (by decide)).tr (FrX_up (by decide) (by decide))).tr (FrX_up (by decide) (by decide))).tr (FrX_up (by decide) (by decide))
theorem n_sub {a b : Nat} (h : b ≤ a) : nI a - nI b = nI (a - b) := pk_sub h
theorem c_Eg_dead (hd : 4 ≤ d) (hw : WFV V) (hV : CBx 1 V I) (hf : f < 64) {T : Tw} (eT : bfs V.B f V.s = T) (hA : WkA V f I) (h : ∀ I', FrX I I' → F (nI (deadN V.B V.lid f T)) I' J) : CI d Eg_dead [.ref 41] I J F := by
  have hp5 := hw.1.1
  have hT : TI V.B T := eT ▸ TIb hw f
  have hcl : Clo V.B f T := eT ▸ Clob hw f
  have hlen := hT.len hw.1
  have hWk : ∀ I1, FrX I I1 → WkR T I1 := fun I1 q => eT ▸ (q.wka hA).2.2.2.2
  refine CI.of (by omega) rfl (v_Eg_dead_41_0 (c_Eg_begin (by omega) hw hf eT hA (fun I0 hF0 hB0 => ?_)))
  obtain ⟨b1, b2, L, hL⟩ := hB0
  have hLm : ∀ t, t ∈ T.ord → ∀ x, x ∈ L t ↔ x / 10 ∈ T.ord ∧ x % 10 < 2 * V.B.pn ∧ nx V.B f (x / 10) (x % 10) = some t := fun t ht x => ((hL t ht).2.2 x).trans ⟨fun ⟨z1, z2⟩ => ⟨z1.elim id (fun z => by omega), z2⟩, fun ⟨z1, z2⟩ => ⟨Or.inl z1, z2⟩⟩
  have hLl : ∀ t, t ∈ T.ord → (L t).length ≤ 10240 ∧ ∀ x ∈ L t, x < 10240 := by
    intro t ht
    have h1 : ∀ x ∈ L t, x < 10240 := by
      intro x hx
      have h2 := ((hLm t ht x).mp hx).1
      have h3 := s31 hw.1 (hT.2.2.1 _ h2).1.1
      omega
    exact ⟨nodup_len _ _ (hL t ht).2.1 h1, h1⟩
  -- the end
  have fin : ∀ q I1, FrX I I1 → DqR T q I1 → (∀ x ∈ q, live V.B V.lid f x) → (∀ x ∈ T.ord, openB V.B V.lid x = true → x ∈ q) → (∀ t ∈ q, ∀ x ∈ L t, x / 10 ∈ q) → F (I1 33 9 - I1 41 6) I1 J := by
    intro q I1 g1 g2 g3 g4 g5
    have e : q.length = (T.ord.filter (dlive V.B V.lid f)).length := by
      refine same_len g2.2.2.1 (hT.1.sublist List.filter_sublist) (fun x => ?_)
      rw [List.mem_filter, dlive_i]
      refine ⟨fun hx => ⟨g2.2.2.2.1 x hx, g3 x hx⟩, fun ⟨hx, hl⟩ => ?_⟩
      refine hl (fun s => s ∈ T.ord → s ∈ q) (fun s ho hs => g4 s hs ho) (fun s m t hm hnx ih hs => ?_) hx
      have ht := ih (hcl s hs m t hm hnx)
      have := g5 t ht (10 * s + m) ((hLm t (g2.2.2.2.1 t ht) _).mpr (by
        rw [show (10 * s + m) / 10 = s by omega, show (10 * s + m) % 10 = m by omega]
        exact ⟨hs, hm, hnx⟩))
      rw [show (10 * s + m) / 10 = s by omega] at this
      exact this
    have e2 := filt_two (p := dlive V.B V.lid f) T.ord
    rw [(hWk I1 g1).1, g2.1, n_sub (by omega), show T.ord.length - q.length = deadN V.B V.lid f T by unfold deadN; omega]
    exact h I1 g1
  have loop88 : ∀ (j : Nat) (t : Nat), t ∈ T.ord → (∀ q I1, FrX I I1 → I1 42 = I0 42 ∧ I1 43 = I0 43 → DqR T q I1 → (∀ x ∈ q, live V.B V.lid f x) → (∀ x ∈ T.ord, openB V.B V.lid x = true → x ∈ q) → (∀ i, i < j + 1 → ∀ t, q[i]? = some t → ∀ x ∈ L t, x / 10 ∈ q) → Wp (d - 1) Eg_dead (QI F) 59 [some (.ref 41), some (.int (nI (j + 1))), none, none, none] [] I1 J) → ∀ (l : List Nat) (q : List Nat) (I1 : I2) (c : Nat) (v : Int32), c + l.length ≤ 10240 → (∀ x ∈ l, x ∈ L t) → (∀ x ∈ L t, x ∈ l ∨ x / 10 ∈ q) → Ch (I0 43) v l → q[j]? = some t → FrX I I1 → I1 42 = I0 42 ∧ I1 43 = I0 43 → DqR T q I1 → (∀ x ∈ q, live V.B V.lid f x) → (∀ x ∈ T.ord, openB V.B V.lid x = true → x ∈ q) → (∀ i, i < j → ∀ t, q[i]? = some t → ∀ x ∈ L t, x / 10 ∈ q) → Wp (d - 1) Eg_dead (QI F) 88 [some (.ref 41), some (.int (nI j)), some (.int v), some (.int (nI c)), none] [] I1 J := by
    intro j t ht next l
    induction l with
    | nil =>
      intro q I1 c v hc hl hl2 hch hqj hFr hX hq h1 h2 h3
      have go := next q I1 hFr hX hq h1 h2 (fun i hi t' ht' x hx => by
        by_cases e : i = j
        · subst e
          rw [hqj] at ht'
          cases ht'
          exact (hl2 x hx).resolve_left (by simp)
        · exact h3 i (by omega) t' ht' x hx)
      have hv : v = -1 := hch
      subst hv
      refine v_Eg_dead_41_88 ⟨fun _ => ⟨fun _ => by rw [n_inc]; exact go, fun q => absurd (by decide) q⟩, fun _ => by rw [n_inc]; exact go⟩
    | cons x l ih =>
      intro q I1 c v hc hl hl2 hch hqj hFr hX hq h1 h2 h3
      have hxL := hl x List.mem_cons_self
      have hx1 := (hLl t ht).2 x hxL
      obtain ⟨hxa, hxb, hxc⟩ := (hLm t ht x).mp hxL
      have hx2 := s31 hw.1 (hT.2.2.1 _ hxa).1.1
      have hv : v = nI x := hch.1
      subst hv
      simp only [List.length_cons] at hc
      have ediv : nI x / 10 = nI (x / 10) := n_div (k := 10) (by omega) (by decide) (by decide)
      refine v_Eg_dead_41_88 ⟨fun _ => ⟨fun q => absurd q (nI_pos (by omega)), fun _ => ?_⟩, fun q => absurd ((n_lt (b := 10240) (by omega) (by decide)).mpr (by omega)) q⟩
      rw [ediv, n_tN (a := x / 10) (by omega), n_tN (a := x) (by omega), n_inc c]
      refine ⟨n_vp hx2 (by decide), ?_⟩
      rw [hq.2.2.2.2 _ hxa]
      refine ⟨fun e => ?_, fun e => ⟨n_vp hx1 (by decide), ?_⟩⟩
      · have hnq : x / 10 ∉ q := by
          intro z
          rw [if_pos z] at e; exact absurd e (by decide)
        have hroom := q_room hw.1 hT hq.2.2.1 hq.2.2.2.1 hxa hnq
        refine c_Eg_settle (by omega) hq.1 hroom hx2 ⟨n_vp hx1 (by decide), ?_⟩
        refine ih (q ++ [x / 10]) _ (c + 1) _ (by omega) (fun y hy => hl y (List.mem_cons_of_mem _ hy)) (fun y hy => ?_) ?_ (app_old hqj) (hFr.tr FrX_settle) ⟨by simpa [up2] using hX.1, by simpa [up2] using hX.2⟩ (DqR_add hq hxa hnq) (fun y hy => ?_) (fun y hy ho => List.mem_append_left _ (h2 y hy ho)) (fun i hi t' ht' y hy => ?_)
        · rcases hl2 y hy with z | z
          · rcases List.mem_cons.mp z with rfl | z
            · exact Or.inr (List.mem_append_right _ (by simp))
            · exact Or.inl z
          · exact Or.inr (List.mem_append_left _ z)
        · rw [show up2 (up2 (up2 (up2 I1 46 (x / 10) 1) 47 (x / 10) 0) 45 q.length (nI (x / 10))) 41 6 (nI (q.length + 1)) 43 = I0 43 from by simpa [up2] using hX.2]
          exact hch.2
        · rcases List.mem_append.mp hy with z | z
          · exact h1 y z
          · simp at z
            rw [z]
            intro P p1 p2
            exact p2 _ _ t hxb hxc (h1 t (List.mem_of_getElem? hqj) P p1 p2)
        · rcases app_get ht' with ⟨e1, -⟩ | ⟨-, e1⟩
          · have := (List.getElem?_eq_some_iff.mp hqj).1; omega
          · exact List.mem_append_left _ (h3 i hi t' e1 y hy)
      · have hnq : x / 10 ∈ q := by
          rcases Classical.em (x / 10 ∈ q) with z | z
          · exact z
          · rw [if_neg z] at e; exact absurd rfl e
        refine ih q I1 (c + 1) _ (by omega) (fun y hy => hl y (List.mem_cons_of_mem _ hy)) (fun y hy => ?_) (by rw [hX.2]; exact hch.2) hqj hFr hX hq h1 h2 h3
        rcases hl2 y hy with z | z
        · rcases List.mem_cons.mp z with rfl | z
          · exact Or.inr hnq
          · exact Or.inl z
        · exact Or.inr z
  have loop59 : ∀ k j q I1, j + k = 1024 → FrX I I1 → I1 42 = I0 42 ∧ I1 43 = I0 43 → DqR T q I1 → (∀ x ∈ q, live V.B V.lid f x) → (∀ x ∈ T.ord, openB V.B V.lid x = true → x ∈ q) → (∀ i, i < j → ∀ t, q[i]? = some t → ∀ x ∈ L t, x / 10 ∈ q) → Wp (d - 1) Eg_dead (QI F) 59 [some (.ref 41), some (.int (nI j)), none, none, none] [] I1 J := by
    intro k
    induction k with
    | zero =>
      intro j q I1 hj hFr hX hq h1 h2 h3
      have hql := nodup_len 1024 q hq.2.2.1 (fun x hx => s31 hw.1 (hT.2.2.1 _ (hq.2.2.2.1 x hx)).1.1)
      have e := QI_i.mpr (fin q I1 hFr hq h1 h2 (fun t ht x hx => by
        obtain ⟨i, hi⟩ := List.getElem?_of_mem ht
        have := (List.getElem?_eq_some_iff.mp hi).1
        exact h3 i (by omega) t hi x hx))
      refine v_Eg_dead_41_59 ⟨fun _ => ⟨fun q => absurd ((n_lt (b := 1024) (by omega) (by decide)).mp q) (by omega), fun _ => e⟩, fun _ => e⟩
    | succ k ih =>
      intro j q I1 hj hFr hX hq h1 h2 h3
      have hql := nodup_len 1024 q hq.2.2.1 (fun x hx => s31 hw.1 (hT.2.2.1 _ (hq.2.2.2.1 x hx)).1.1)
      refine v_Eg_dead_41_59 ⟨fun e => ⟨fun _ => ?_, fun q => absurd ((n_lt (b := 1024) (by omega) (by decide)).mpr (by omega)) q⟩, fun e => QI_i.mpr (fin q I1 hFr hq h1 h2 (fun t ht x hx => ?_))⟩
      · rw [hq.1, n_lt (by omega) (by omega)] at e
        have ej : q[j]? = some q[j] := List.getElem?_eq_getElem e
        have ht := hq.2.2.2.1 _ (List.getElem_mem e)
        have ht2 := s31 hw.1 (hT.2.2.1 _ ht).1.1
        rw [n_tN (a := j) (by omega), hq.2.1 j _ ej, n_tN (a := q[j]) (by omega)]
        refine ⟨n_vp (by omega) (by decide), n_vp ht2 (by decide), ?_⟩
        refine loop88 j q[j] ht (fun q' I' a1 a2 a3 a4 a5 a6 => ih (j + 1) q' I' (by omega) a1 a2 a3 a4 a5 a6) (L q[j]) q I1 0 _ (by have := (hLl _ ht).1; omega) (fun x hx => hx) (fun x hx => Or.inl hx) (by rw [hX.1]; exact (hL _ ht).1) ej hFr hX hq h1 h2 h3
      · rw [hq.1, n_lt (by omega) (by omega)] at e
        obtain ⟨i, hi⟩ := List.getElem?_of_mem ht
        have := (List.getElem?_eq_some_iff.mp hi).1
        exact h3 i (by omega) t hi x hx
  have loop6 : ∀ k n I1, n + k = T.ord.length → FrX I I1 → I1 42 = I0 42 ∧ I1 43 = I0 43 → DqR T ((T.ord.take n).filter (openB V.B V.lid)) I1 → Wp (d - 1) Eg_dead (QI F) 6 [some (.ref 41), some (.int (nI n)), none, none, none] [] I1 J := by
    intro k
    induction k with
    | zero =>
      intro n I1 hn hFr hX hq
      have hn : n = T.ord.length := by omega
      subst hn
      rw [List.take_length] at hq
      refine v_Eg_dead_41_6 ⟨fun q => ?_, fun _ => loop59 1024 0 _ I1 (by omega) hFr hX hq (fun x hx P p1 p2 => p1 x (List.mem_filter.mp hx).2) (fun x hx ho => List.mem_filter.mpr ⟨hx, ho⟩) (fun i hi => absurd hi (Nat.not_lt_zero i))⟩
      rw [(hWk I1 hFr).1] at q; exact absurd ((n_lt (by omega) (by omega)).mp q) (Nat.lt_irrefl _)
    | succ k ih =>
      intro n I1 hn hFr hX hq
      have hlt : n < T.ord.length := by omega
      have hI := hWk I1 hFr
      have hm := List.getElem_mem hlt
      have hm2 := s31 hw.1 (hT.2.2.1 _ hm).1.1
      have hnt := nodup_take_not hT.1 hlt
      have hV1 := hFr.g.cbx hV
      have hv := n_vp (a := n) (n := 1024) (by omega) (by decide)
      have go := fun I' => ih (n + 1) I' (by omega)
      rw [take_last hlt, List.filter_append] at go
      refine v_Eg_dead_41_6 ⟨fun _ => ⟨hv, ?_⟩, fun q => absurd ((n_lt (by omega) (by omega)).mpr hlt) (by rw [hI.1] at q; exact q)⟩
      rw [n_tN (a := n) (by omega), hI.ord' hlt, n_inc]
      refine c_Bx_isOpen_1 (by omega) hw.1 hV1.1 hV1.2.1 hw.2.1 (by omega) ?_
      rw [show (decide (0 < V.B.pn) && decide (pl T.ord[n] V.lid = V.B.dp V.lid)) = openB V.B V.lid T.ord[n] from rfl, bI_0, hI.ord' hlt]
      refine ⟨fun e => ?_, fun e => ⟨hv, ?_⟩⟩
      · rw [List.filter_cons_of_neg (by simp [e]), List.filter_nil, List.append_nil] at go
        exact go I1 hFr hX hq
      · have e : openB V.B V.lid T.ord[n] = true := by simpa using e
        rw [List.filter_cons_of_pos (by simp [e]), List.filter_nil] at go
        have hnq : T.ord[n] ∉ (T.ord.take n).filter (openB V.B V.lid) := fun z => hnt (List.mem_filter.mp z).1
        refine c_Eg_settle (by omega) hq.1 (q_room hw.1 hT hq.2.2.1 hq.2.2.2.1 hm hnq) hm2 (go _ (hFr.tr FrX_settle) ⟨by simpa [up2] using hX.1, by simpa [up2] using hX.2⟩ (DqR_add hq hm hnq))
  refine loop6 _ 0 I0 (Nat.zero_add _) hF0 ⟨rfl, rfl⟩ ?_
  rw [List.take_zero, List.filter_nil]
  exact ⟨b1, fun k x hx => by simp at hx, List.nodup_nil, fun x hx => by simp at hx, fun s hs => by rw [(b2 s hs).2.1]; rfl⟩
end DEAD
