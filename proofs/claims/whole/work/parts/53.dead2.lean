/-! which are dead: the model; reach of both sides -/
theorem filt_lt {p p' : Nat → Bool} (h : ∀ x, p' x = true → p x = true) {s : Nat} (h1 : p s = true) (h2 : p' s = false) : ∀ {l : List Nat}, s ∈ l → (l.filter p').length < (l.filter p).length := by
  have le : ∀ l : List Nat, (l.filter p').length ≤ (l.filter p).length := by
    intro l
    induction l with
    | nil => exact Nat.le_refl _
    | cons x l ih =>
      cases e : p' x with
      | true => simp [e, h x e]; exact ih
      | false => cases e2 : p x <;> simp [e, e2] <;> omega
  intro l
  induction l with
  | nil => intro hs; cases hs
  | cons x l ih =>
    intro hs
    rcases List.mem_cons.mp hs with rfl | hs
    · have := le l
      simp [h1, h2]; omega
    · have := ih hs
      cases e : p' x with
      | true => simp [e, h x e]; omega
      | false => cases e2 : p x <;> simp [e, e2] <;> omega
def ltk (B : Bx) (f : Nat) (K : Nat → Bool) (s : Nat) : Nat → Bool
  | 0 => false
  | n + 1 => ltk B f K s n || (match nx B f s n with
    | some t => K t
    | none => false)
theorem ltk_i {B : Bx} {f s : Nat} {K : Nat → Bool} {n : Nat} : ltk B f K s n = true ↔ ∃ m t, m < n ∧ nx B f s m = some t ∧ K t = true := by
  induction n with
  | zero => exact ⟨fun h => (by cases h), fun ⟨m, t, h, _⟩ => absurd h (Nat.not_lt_zero m)⟩
  | succ n ih =>
    simp only [ltk, Bool.or_eq_true, ih]
    constructor
    · rintro (⟨m, t, h1, h2⟩ | h)
      · exact ⟨m, t, by omega, h2⟩
      · cases hn : nx B f s n with
        | none => rw [hn] at h; cases h
        | some t => rw [hn] at h; exact ⟨n, t, by omega, hn, h⟩
    · rintro ⟨m, t, h1, h2, h3⟩
      by_cases e : m = n
      · right; rw [← e, h2]; exact h3
      · exact Or.inl ⟨m, t, by omega, h2, h3⟩
def updB (K : Nat → Bool) (s : Nat) (b : Bool) : Nat → Bool := fun x => if x = s then b else K x
noncomputable def reachS (V : Bv) (x : Int32) : Int32 := if x < 0 ∨ 2 < x then -1 else if V.B.pn = 0 then (if x = 1 then 0 else 1) else if x = 0 then nI V.T.ord.length else if x = 1 then nI (farS V.T) else nI (deadN V.B V.lid V.f V.T)
section DEAD2
variable {d : Nat} {V : Bv} {I : I2} {J : J2} {G : I2 → J2 → Prop} {F : Int32 → I2 → J2 → Prop} {f a : Nat}
theorem FrQ.wma' {I' : I2} (h11 : I' 57 11 = I 57 11) (h : ∀ a, 63 ≤ a → a ≤ 68 → I' a = I a) (hA : WmA V f I) : WmA V f I' := by
  unfold WmA WmR at hA ⊢
  rw [h11, h 63 (by decide) (by decide), h 64 (by decide) (by decide), h 65 (by decide) (by decide), h 66 (by decide) (by decide), h 67 (by decide) (by decide), h 68 (by decide) (by decide)]
  exact hA
/-- the rows of known and depth alone -/
def FrK (I I' : I2) : Prop := (∀ a, a ≠ 69 → a ≠ 70 → I' a = I a) ∧ ∀ t, KnV (I 69 t) → KnV (I' 69 t)
theorem FrK.rf {I : I2} : FrK I I := ⟨fun _ _ _ => rfl, fun _ h => h⟩
theorem FrK.tr {I0 I1 I2 : I2} (h1 : FrK I0 I1) (h2 : FrK I1 I2) : FrK I0 I2 := ⟨fun a x y => (h2.1 a x y).trans (h1.1 a x y), fun t h => h2.2 t (h1.2 t h)⟩
theorem FrK_69 {I : I2} {k : Nat} {x : Int32} (hx : KnV x := by simp [KnV]) : FrK I (up2 I 69 k x) := ⟨fun b h1 h2 => by simp [up2, h1], fun t h => by
  simp only [up2, upd, if_pos]
  split
  · exact hx
  · exact h⟩
theorem FrK_70 {I : I2} {k : Nat} {x : Int32} : FrK I (up2 I 70 k x) := ⟨fun b h1 h2 => by simp [up2, h2], fun t h => by simp [up2]; exact h⟩
theorem FrK.q {I I' : I2} (h : FrK I I') : FrQ I I' := ⟨fun a x _ => h.1 a (by omega) (by omega), fun k _ => by rw [h.1 57 (by decide) (by decide)], h.2⟩
theorem FrK.wma {I I' : I2} (h : FrK I I') (hA : WmA V f I) : WmA V f I' := FrQ.wma' (by rw [h.1 57 (by decide) (by decide)]) (fun a x y => h.1 a (by omega) (by omega)) hA
theorem c_Md_leads (hd : 1 ≤ d) (hw : WFV V) (hV : MBx V I) {T : Tw} (eT : bfs V.B f V.s = T) (hA : WmA V f I) {K : Nat → Bool} (hK : ∀ s, s ∈ T.ord → I 69 s = bI (K s)) {s : Nat} (hs : s ∈ T.ord) (h : F (bI (ltk V.B f K s (2 * V.B.pn))) I J) : CI d Md_leadsToKnown [.ref 57, .int (nI s)] I J F := by
  have hp5 := hw.1.1
  have hT : TI V.B T := eT ▸ TIb hw f
  have hcl : Clo V.B f T := eT ▸ Clob hw f
  have hs2 := s31 hw.1 (hT.2.2.1 _ hs).1.1
  have h68 : ∀ b, b < 2 * V.B.pn → I 68 (10 * s + b) = nxI V.B f s b := fun b hb => hA.2 s (by rw [eT]; exact hs) b hb
  have e2 : (2 : Int32) * nI V.B.pn = nI (2 * V.B.pn) := pk_mul 2 _
  have loop : ∀ k n, n + k = 2 * V.B.pn → Wp (d - 1) Md_leadsToKnown (QI F) 4 [some (.ref 57), some (.int (nI s)), some (.int (bI (ltk V.B f K s n))), some (.int (nI n)), none] [] I J := by
    intro k
    induction k with
    | zero =>
      intro n hn
      have hn : n = 2 * V.B.pn := by omega
      subst hn
      refine v_Md_leadsToKnown_57_4 ⟨fun q => ?_, fun _ => ⟨?_, QI_i.mpr h⟩⟩
      · rw [hV.1.1, e2] at q; exact absurd ((n_lt (by omega) (by omega)).mp q) (Nat.lt_irrefl _)
      · cases ltk V.B f K s (2 * V.B.pn)
        · exact Or.inl rfl
        · exact Or.inr rfl
    | succ k ih =>
      intro n hn
      have hlt : n < 2 * V.B.pn := by omega
      have go := ih (n + 1) (by omega)
      simp only [ltk] at go
      have hv := n_vp (a := 10 * s + n) (n := 10240) (by omega) (by decide)
      refine v_Md_leadsToKnown_57_4 ⟨fun _ => ?_, fun q => absurd ((n_lt (by omega) (by omega)).mpr hlt) (by rw [hV.1.1, e2] at q; exact q)⟩
      rw [sp10, n_tN (by omega), h68 n hlt, bI_0, n_inc]
      refine ⟨hv, fun e => ?_, fun e => ?_⟩
      · rw [e, Bool.false_or] at go
        unfold nxI
        cases hnx : nx V.B f s n with
        | none => rw [hnx] at go; exact ⟨fun _ => go, fun q => absurd (by decide) q⟩
        | some t =>
          rw [hnx] at go
          have htT := hcl s hs n t hlt hnx
          have ht2 := s31 hw.1 (hT.2.2.1 _ htT).1.1
          dsimp only at go ⊢
          rw [n_tN (by omega), hK t htT, bI_1]
          refine ⟨fun q => absurd q (nI_pos (by omega)), fun _ => ⟨n_vp ht2 (by decide), fun e3 => ?_, fun e3 => ?_⟩⟩
          · rw [e3] at go; exact go
          · have e3 : K t = false := by simpa using e3
            rw [e3] at go; exact go
      · have e : ltk V.B f K s n = true := by simpa using e
        rw [e, Bool.true_or] at go
        exact go
  exact CI.of (by omega) rfl (v_Md_leadsToKnown_57_0 (loop _ 0 (Nat.zero_add _)))
theorem c_Md_dead (hd : 3 ≤ d) (hw : WFV V) (hV : MBx V I) {T : Tw} (eT : bfs V.B f V.s = T) (hA : WmA V f I) (h : ∀ I', FrK I I' → F (nI (deadN V.B V.lid f T)) I' J) : CI d Md_dead [.ref 57] I J F := by
  have hp5 := hw.1.1
  have hT : TI V.B T := eT ▸ TIb hw f
  have hcl : Clo V.B f T := eT ▸ Clob hw f
  have hlen := hT.len hw.1
  have hWk : ∀ I1, FrK I I1 → WmR T I1 := fun I1 q => eT ▸ (q.wma hA).1
  -- the sum
  have loop117 : ∀ (K : Nat → Bool) I1, FrK I I1 → (∀ s, s ∈ T.ord → I1 69 s = bI (K s)) → (∀ s, s ∈ T.ord → K s = dlive V.B V.lid f s) → ∀ k n, n + k = T.ord.length → Wp (d - 1) Md_dead (QI F) 117 [some (.ref 57), some (.int 0), some (.int (nI ((T.ord.take n).filter (fun s => !dlive V.B V.lid f s)).length)), some (.int (nI n))] [] I1 J := by
    intro K I1 hFr hK hl k
    have hI := hWk I1 hFr
    induction k with
    | zero =>
      intro n hn
      have hn : n = T.ord.length := by omega
      subst hn
      refine v_Md_dead_57_117 ⟨fun q => ?_, fun _ => QI_i.mpr ?_⟩
      · rw [hI.1] at q; exact absurd ((n_lt (by omega) (by omega)).mp q) (Nat.lt_irrefl _)
      · rw [List.take_length]; exact h I1 hFr
    | succ k ih =>
      intro n hn
      have hlt : n < T.ord.length := by omega
      have hm := List.getElem_mem hlt
      have hm2 := s31 hw.1 (hT.2.2.1 _ hm).1.1
      have go := ih (n + 1) (by omega)
      rw [take_last hlt, List.filter_append, List.length_append] at go
      refine v_Md_dead_57_117 ⟨fun _ => ⟨n_vp (by omega) (by decide), ?_⟩, fun q => absurd ((n_lt (by omega) (by omega)).mpr hlt) (by rw [hI.1] at q; exact q)⟩
      rw [n_tN (a := n) (by omega), hI.ord' hlt, n_tN (a := T.ord[n]) (by omega), hK _ hm, n_inc]
      refine ⟨n_vp hm2 (by decide), ?_⟩
      rw [hl _ hm]
      cases e : dlive V.B V.lid f T.ord[n] with
      | false =>
        rw [List.filter_cons_of_pos (by simp [e]), List.filter_nil] at go
        rw [show (1 : Int32) - bI false = nI 1 from rfl, nI_add]
        exact go
      | true =>
        rw [List.filter_cons_of_neg (by simp [e]), List.filter_nil] at go
        rw [show (1 : Int32) - bI true = nI 0 from rfl, nI_add]
        exact go
  have fin : ∀ (K : Nat → Bool) I1, FrK I I1 → (∀ s, s ∈ T.ord → I1 69 s = bI (K s)) → (∀ s, s ∈ T.ord → K s = true → live V.B V.lid f s) → (∀ s, s ∈ T.ord → openB V.B V.lid s = true → K s = true) → (∀ s, s ∈ T.ord → K s = false → ltk V.B f K s (2 * V.B.pn) = false) → Wp (d - 1) Md_dead (QI F) 47 [some (.ref 57), some (.int 0), none, none] [] I1 J := by
    intro K I1 hFr hK h1 h2 h3
    refine v_Md_dead_57_47 ⟨fun _ => loop117 K I1 hFr hK (fun s hs => ?_) _ 0 (Nat.zero_add _), fun q => absurd rfl q⟩
    rw [Bool.eq_iff_iff, dlive_i]
    refine ⟨h1 s hs, fun hl => ?_⟩
    refine hl (fun s => s ∈ T.ord → K s = true) (fun s ho hs => h2 s hs ho) (fun s m t hm hnx ih hs => ?_) hs
    have ht := ih (hcl s hs m t hm hnx)
    cases e : K s with
    | true => rfl
    | false =>
      have e2 := h3 s hs e
      have e3 : ltk V.B f K s (2 * V.B.pn) = true := ltk_i.mpr ⟨m, t, hm, hnx, ht⟩
      rw [e2] at e3; cases e3
  have rounds : ∀ c (K : Nat → Bool) I1, (T.ord.filter (fun s => !K s)).length < c → FrK I I1 → (∀ s, s ∈ T.ord → I1 69 s = bI (K s)) → (∀ s, s ∈ T.ord → K s = true → live V.B V.lid f s) → (∀ s, s ∈ T.ord → openB V.B V.lid s = true → K s = true) → Wp (d - 1) Md_dead (QI F) 47 [some (.ref 57), some (.int 1), none, none] [] I1 J := by
    intro c
    induction c with
    | zero => intro K I1 hc; exact absurd hc (Nat.not_lt_zero _)
    | succ c ihc =>
      intro K0 I0 hc hFr0 hK0 h10 h20
      have pass : ∀ k n (K : Nat → Bool) I1 (fl : Bool), n + k = T.ord.length → (fl = false → K = K0 ∧ ∀ s, s ∈ T.ord.take n → K s = false → ltk V.B f K s (2 * V.B.pn) = false) → (fl = true → (T.ord.filter (fun s => !K s)).length < (T.ord.filter (fun s => !K0 s)).length) → FrK I I1 → (∀ s, s ∈ T.ord → I1 69 s = bI (K s)) → (∀ s, s ∈ T.ord → K s = true → live V.B V.lid f s) → (∀ s, s ∈ T.ord → openB V.B V.lid s = true → K s = true) → Wp (d - 1) Md_dead (QI F) 55 [some (.ref 57), some (.int (bI fl)), some (.int (nI n)), none] [] I1 J := by
        intro k
        induction k with
        | zero =>
          intro n K I1 fl hn f0 f1 hFr hK h1 h2
          have hn : n = T.ord.length := by omega
          subst hn
          have hI := hWk I1 hFr
          refine v_Md_dead_57_55 ⟨fun q => ?_, fun _ => ?_⟩
          · rw [hI.1] at q; exact absurd ((n_lt (by omega) (by omega)).mp q) (Nat.lt_irrefl _)
          · cases fl with
            | false =>
              have f0 := (f0 rfl).2
              rw [List.take_length] at f0
              exact fin K I1 hFr hK h1 h2 f0
            | true => exact ihc K I1 (by have := f1 rfl; omega) hFr hK h1 h2
        | succ k ih =>
          intro n K I1 fl hn f0 f1 hFr hK h1 h2
          have hlt : n < T.ord.length := by omega
          have hI := hWk I1 hFr
          have hm := List.getElem_mem hlt
          have hm2 := s31 hw.1 (hT.2.2.1 _ hm).1.1
          have hv := n_vp (a := n) (n := 1024) (by omega) (by decide)
          have hv2 := n_vp (a := T.ord[n]) (n := 1024) hm2 (by decide)
          have hV1 := hFr.q.mbx hV
          have skip : (K T.ord[n] = false → ltk V.B f K T.ord[n] (2 * V.B.pn) = false) → Wp (d - 1) Md_dead (QI F) 55 [some (.ref 57), some (.int (bI fl)), some (.int (nI (n + 1))), none] [] I1 J := by
            intro z
            refine ih (n + 1) K I1 fl (by omega) (fun e => ⟨(f0 e).1, fun s hs => ?_⟩) f1 hFr hK h1 h2
            rw [take_last hlt, List.mem_append, List.mem_singleton] at hs
            rcases hs with hs | rfl
            · exact (f0 e).2 s hs
            · exact z
          refine v_Md_dead_57_55 ⟨fun _ => ⟨hv, ?_⟩, fun q => absurd ((n_lt (by omega) (by omega)).mpr hlt) (by rw [hI.1] at q; exact q)⟩
          rw [n_tN (a := n) (by omega), hI.ord' hlt, n_tN (a := T.ord[n]) (by omega), hK _ hm, bI_0, n_inc]
          refine ⟨hv2, fun e => ⟨hv, c_Md_leads (by omega) hw hV1 eT (hFr.wma hA) hK hm ?_⟩, fun e => skip (fun z => absurd z e)⟩
          rw [bI_0, hI.ord' hlt, n_tN (a := T.ord[n]) (by omega)]
          refine ⟨fun e2 => skip (fun _ => e2), fun e2 => ⟨hv, hv2, ?_⟩⟩
          have e2 : ltk V.B f K T.ord[n] (2 * V.B.pn) = true := by simpa using e2
          obtain ⟨m, t, hm3, hnx, hKt⟩ := ltk_i.mp e2
          refine ih (n + 1) (updB K T.ord[n] true) _ true (by omega) (fun q => by cases q) (fun _ => ?_) (hFr.tr FrK_69) (fun s hs => ?_) (fun s hs => ?_) (fun s hs ho => ?_)
          · have lt1 := filt_lt (p := fun s => !K s) (p' := fun s => !(updB K T.ord[n] true) s) (s := T.ord[n]) (l := T.ord) (fun x hx => by
              simp only [updB] at hx
              split at hx
              · cases hx
              · exact hx) (by simp [e]) (by simp [updB]) hm
            cases fl with
            | false => rw [(f0 rfl).1] at lt1; rw [(f0 rfl).1]; exact lt1
            | true => have := f1 rfl; omega
          · simp only [up2, updB]
            by_cases e3 : s = T.ord[n]
            · simp [upd, e3]; rfl
            · simp [upd, e3]; exact hK s hs
          · intro hk
            simp only [updB] at hk
            split at hk
            · next e3 =>
              subst e3
              intro P p1 p2
              exact p2 _ m t hm3 hnx (h1 t (hcl _ hs m t hm3 hnx) hKt P p1 p2)
            · exact h1 s hs hk
          · simp only [updB]
            split
            · rfl
            · exact h2 s hs ho
      refine v_Md_dead_57_47 ⟨fun q => absurd q (by decide), fun _ => pass _ 0 K0 I0 false (Nat.zero_add _) (fun _ => ⟨rfl, fun s hs => by simp at hs⟩) (fun q => by cases q) hFr0 hK0 h10 h20⟩
  have loop2 : ∀ k n I1, n + k = T.ord.length → FrK I I1 → (∀ s, s ∈ T.ord.take n → I1 69 s = bI (openB V.B V.lid s)) → Wp (d - 1) Md_dead (QI F) 2 [some (.ref 57), some (.int (nI n)), none, none] [] I1 J := by
    intro k
    induction k with
    | zero =>
      intro n I1 hn hFr hK
      have hn : n = T.ord.length := by omega
      subst hn
      have hI := hWk I1 hFr
      rw [List.take_length] at hK
      refine v_Md_dead_57_2 ⟨fun q => ?_, fun _ => rounds _ (openB V.B V.lid) I1 (Nat.lt_succ_self _) hFr hK (fun s hs ho P p1 p2 => p1 s ho) (fun s hs ho => ho)⟩
      rw [hI.1] at q; exact absurd ((n_lt (by omega) (by omega)).mp q) (Nat.lt_irrefl _)
    | succ k ih =>
      intro n I1 hn hFr hK
      have hlt : n < T.ord.length := by omega
      have hI := hWk I1 hFr
      have hm := List.getElem_mem hlt
      have hm2 := s31 hw.1 (hT.2.2.1 _ hm).1.1
      have hv := n_vp (a := n) (n := 1024) (by omega) (by decide)
      have hv2 := n_vp (a := T.ord[n]) (n := 1024) hm2 (by decide)
      have hV1 := hFr.q.mbx hV
      refine v_Md_dead_57_2 ⟨fun _ => ⟨hv, hv, ?_⟩, fun q => absurd ((n_lt (by omega) (by omega)).mpr hlt) (by rw [hI.1] at q; exact q)⟩
      rw [n_tN (a := n) (by omega), hI.ord' hlt, n_tN (a := T.ord[n]) (by omega), n_inc]
      refine c_Md_isOpen (by omega) hw.1 hV1.boxM hV1.2.1 hw.2.1 (by omega) ?_
      rw [show (decide (0 < V.B.pn) && decide (pl T.ord[n] V.lid = V.B.dp V.lid)) = openB V.B V.lid T.ord[n] from rfl, bI_0]
      have go : ∀ v, v = bI (openB V.B V.lid T.ord[n]) → KnV v → Wp (d - 1) Md_dead (QI F) 2 [some (.ref 57), some (.int (nI (n + 1))), none, none] [] (up2 I1 69 T.ord[n] v) J := by
        intro v hvv hvk
        refine ih (n + 1) _ (by omega) (hFr.tr (FrK_69 hvk)) (fun s hs => ?_)
        rw [take_last hlt, List.mem_append, List.mem_singleton] at hs
        by_cases e3 : s = T.ord[n]
        · simp [up2, upd, e3]; exact hvv
        · simp [up2, upd, e3]; exact hK s (hs.resolve_right e3)
      refine ⟨fun e => ⟨hv2, go 0 (by rw [e]; rfl) (Or.inl rfl)⟩, fun e => ⟨hv2, go 1 (by rw [show openB V.B V.lid T.ord[n] = true by simpa using e]; rfl) (Or.inr (Or.inl rfl))⟩⟩
  exact CI.of (by omega) rfl (v_Md_dead_57_0 (loop2 _ 0 I (Nat.zero_add _) FrK.rf (fun s hs => by simp at hs)))
theorem farS_at {T : Tw} (h : 0 < T.ord.length) : farS T = T.fa (T.ord[T.ord.length - 1]'(by omega)) - 1 := by
  unfold farS
  rw [List.getElem?_eq_getElem (by omega)]
theorem c_Wk_farthest {T : Tw} {B : Bx} (hd : 1 ≤ d) (hw : WFB B) (hT : TI B T) (hI : WkR T I) (hpos : 0 < T.ord.length) (h : F (nI (farS T)) I J) : CI d Wk_farthest [.ref 33] I J F := by
  have hlen := hT.len hw
  have hm := List.getElem_mem (l := T.ord) (n := T.ord.length - 1) (by omega)
  have hm2 := s31 hw (hT.2.2.1 _ hm).1.1
  rw [farS_at hpos] at h
  refine CI.of (by omega) rfl (v_Wk_farthest_33_0 ?_)
  rw [hI.1, n_e0 (by omega), n_dec hpos, n_tN (by omega), hI.ord' (by omega : T.ord.length - 1 < T.ord.length), n_tN (by omega), hI.far' hw hT hm]
  exact ⟨fun q => absurd q (by omega), fun _ => ⟨n_vp (by omega) (by decide), n_vp hm2 (by decide), QI_i.mpr h⟩⟩
theorem m_far {T : Tw} {B : Bx} (hw : WFB B) (hT : TI B T) (hI : WmR T I) (hpos : 0 < T.ord.length) (h : F (nI (farS T)) I J) : vp_in (I 57 11 - 1) 1024 ∧ vp_in (I 63 (tN (I 57 11 - 1))) 1024 ∧ F (I 64 (tN (I 63 (tN (I 57 11 - 1))))) I J := by
  have hlen := hT.len hw
  have hm := List.getElem_mem (l := T.ord) (n := T.ord.length - 1) (by omega)
  have hm2 := s31 hw (hT.2.2.1 _ hm).1.1
  rw [farS_at hpos] at h
  rw [hI.1, n_dec hpos, n_tN (by omega), hI.ord' (by omega : T.ord.length - 1 < T.ord.length), n_tN (by omega), hI.far' hw hT hm]
  exact ⟨n_vp (by omega) (by decide), n_vp hm2 (by decide), h⟩
theorem c_Sb_reach (hd : 7 ≤ d) (hw : WFV V) (hV : CBx 1 V I) (hC : CaR V.B I) (x : Int32) (h : ∀ I', FrG I I' → CaR V.B I' → F (reachS V x) I' J) : CI d Sb_reach [.ref 0, .int x] I J F := by
  have hf := f64 hw.1 hw.2.2.2.1
  have hp5 := hw.1.1
  unfold reachS at h
  have bad : (x < 0 ∨ 2 < x) → QI F (some (.int (-1))) I J := fun e => by
    rw [if_pos e] at h; exact QI_i.mpr (h I FrG.rf hC)
  refine CI.of (by omega) rfl (v_Sb_reach_0_0 ⟨fun e => bad (Or.inl e), fun e => ⟨fun e1 => bad (Or.inr e1), fun e1 => ?_⟩⟩)
  rw [if_neg (by simp only [not_or]; exact ⟨e, e1⟩)] at h
  rw [hV.1.1, n_e0 (by omega), hV.2.2.1, hV.2.2.2.1]
  refine ⟨fun e2 => ?_, fun e2 => c_W_from (by omega) hw hV hC hf (fun I' q1 q2 q3 => ?_)⟩
  · rw [if_pos e2] at h
    have h := h I FrG.rf hC
    refine ⟨fun e3 => QI_i.mpr ?_, fun e3 => QI_i.mpr ?_⟩
    · rw [if_pos e3] at h; exact h
    · rw [if_neg e3] at h; exact h
  · rw [if_neg e2] at h
    have hT := TIb hw V.f
    have hI := q3.2.2.2.2
    have hlen := hT.len hw.1
    have hpos : 0 < V.T.ord.length := List.length_pos_of_mem bfs_self
    refine ⟨fun e3 => QI_i.mpr ?_, fun e3 => ⟨fun e4 => ?_, fun e4 => c_Eg_dead (by omega) hw q2 hf rfl q3 (fun I2 z => QI_i.mpr ?_)⟩⟩
    · rw [if_pos e3] at h; rw [hI.1]; exact h I' q1 (q3.ca hw hf)
    · rw [if_neg e3, if_pos e4] at h
      exact c_Wk_farthest (by omega) hw.1 hT hI hpos (QI_i.mpr (h I' q1 (q3.ca hw hf)))
    · rw [if_neg e3, if_neg e4] at h
      exact h I2 (q1.tr z.g) ((z.wka q3).ca hw hf)
theorem bfs_none {B : Bx} {f s0 : Nat} (h : B.pn = 0) : bfs B f s0 = bfs0 s0 := by
  have e : bfsN B f s0 1 = bfs0 s0 := by
    show (match (bfs0 s0).ord[0]? with
      | none => bfs0 s0
      | some s => vis B f s (2 * B.pn) (bfs0 s0)) = _
    rw [h]; rfl
  rw [bfs_at (n := 1) (by rw [e]; exact Nat.le_refl 1) (by decide), e]
theorem c_Md_reach (hd : 7 ≤ d) (hw : WFV V) (hV : MBx V I) (x : Int32) (h : ∀ I', FrQ I I' → F (reachS V x) I' J) : CI d Md_reach [.ref 57, .int x] I J F := by
  have hf := f64 hw.1 hw.2.2.2.1
  have hp5 := hw.1.1
  unfold reachS at h
  refine CI.of (by omega) rfl (v_Md_reach_57_0 (c_Md_in (by omega) ?_))
  rw [in_rng (lo := 0) (hi := 2) (by decide) (by decide)]
  refine ⟨fun e => ?_, fun e => ?_⟩
  · rw [if_pos e] at h; exact QI_i.mpr (h I FrQ.rf)
  · rw [if_neg e] at h
    rw [hV.2.2.1]
    refine c_M_thr (by omega) hw hV hf (fun I' q1 q2 q3 => ?_)
    have h : ∀ I', FrQ I I' → F (if x = 0 then nI V.T.ord.length else if x = 1 then nI (farS V.T) else nI (deadN V.B V.lid V.f V.T)) I' J := by
      intro I' hI'
      have h := h I' hI'
      by_cases e2 : V.B.pn = 0
      · rw [if_pos e2] at h
        have eT : V.T = bfs0 V.s := bfs_none e2
        rw [eT]
        have e3 : farS (bfs0 V.s) = 0 := by
          show updN (fun _ => 0) V.s 1 V.s - 1 = 0
          simp [updN]
        have hop : openB V.B V.lid V.s = false := by simp [openB, e2]
        have e4 : deadN V.B V.lid V.f (bfs0 V.s) = 1 := by
          have : dlive V.B V.lid V.f V.s = false := by
            cases hh : dlive V.B V.lid V.f V.s with
            | false => rfl
            | true =>
              have := dlive_i.mp hh (fun _ => False) (fun s ho => by simp [openB, e2] at ho) (fun s m t hm => by omega)
              exact absurd this (fun q => q)
          show ([V.s].filter (fun s => !dlive V.B V.lid V.f s)).length = 1
          simp [this]
        rw [e3, e4]
        by_cases x0 : x = 0
        · rw [if_pos x0]
          rw [if_neg (by rw [x0]; decide)] at h
          exact h
        · rw [if_neg x0]
          exact h
      · rw [if_neg e2] at h; exact h
    have hT := TIb hw V.f
    have hI := q3.1
    have hlen := hT.len hw.1
    have hpos : 0 < V.T.ord.length := List.length_pos_of_mem bfs_self
    refine ⟨fun e3 => QI_i.mpr ?_, fun e3 => ⟨fun e4 => ?_, fun e4 => c_Md_dead (by omega) hw q2 rfl q3 (fun I2 z => QI_i.mpr ?_)⟩⟩
    · rw [if_pos e3] at h; rw [hI.1]; exact h I' q1
    · rw [if_neg e3, if_pos e4] at h
      exact m_far (F := fun v I J => QI F (some (.int v)) I J) hw.1 hT hI hpos (QI_i.mpr (h I' q1))
    · rw [if_neg e3, if_neg e4] at h
      exact h I2 (q1.tr z.q)
end DEAD2
