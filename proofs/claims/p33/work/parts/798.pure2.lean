/-! WHAT THE QUESTIONS TELL, of distances -/
section OPN
variable {V : Bv}
theorem BFv_z (hw : WFV V) (f : Nat) : BF_z V.B f V.s (bfs V.B f V.s) := BF_bfs_z hw.1 hw.2.2.1
/-- by how many slides, or none -/
def DsO_z (B : Bx) (o f s : Nat) (r : Option Nat) : Prop := match r with
  | none => NoD_z B o f s
  | some c => Dst_z B o f s c ∧ c < 1024
theorem cnt_D_z (hw : WFV V) (f : Nat) : DsO_z V.B V.lid f V.s (cnt V f) := by
  have hB := BFv_z hw f
  have hp := hw.1.1
  unfold cnt
  cases e : fop V.B V.lid (bfs V.B f V.s) with
  | none => exact fop_no_z hp hB e
  | some t =>
    obtain ⟨h1, h2, h3⟩ := fop_Dst_z hp hB e
    have := hB.1.fl hw.1 h1
    have := hB.1.pos h1
    exact ⟨h3, by show (bfs V.B f V.s).fa t - 1 < 1024; omega⟩
theorem DsO_one_z {B : Bx} {o f s : Nat} {r r' : Option Nat} (h : DsO_z B o f s r) (h' : DsO_z B o f s r') : r = r' := by
  cases r with
  | none => cases r' with
    | none => rfl
    | some c => exact (Dst_no_z h'.1 h).elim
  | some c => cases r' with
    | none => exact (Dst_no_z h.1 h').elim
    | some c' => rw [Dst_one_z h.1 h'.1]
theorem opens_m1_z (h0 : 0 < V.B.pn) : opensS V (-1) = optI (cnt V V.f) (-4) := by
  unfold opensS
  rw [if_neg (by decide), if_neg (by omega)]
  unfold cnt
  cases e : fop V.B V.lid V.T with
  | none => simp only [tldS]; rfl
  | some t =>
    simp only [tldS]
    rw [if_pos (by decide)]
    rfl
/-- the first slide of the row told -/
theorem opens_0_z (hw : WFV V) (h0 : 0 < V.B.pn) : (cnt V V.f = none ∨ cnt V V.f = some 0 → opensS V 0 = -4) ∧ ∀ c, cnt V V.f = some (c + 1) → ∃ m u, m < 2 * V.B.pn ∧ opensS V 0 = nI (slN m) ∧ nx V.B V.f V.s m = some u ∧ DsO_z V.B V.lid V.f u (some c) ∧ ∀ b u', b < m → nx V.B V.f V.s b = some u' → ∀ j g, Rch_z V.B V.f j u' g → openB V.B V.lid g = true → c + 1 ≤ j := by
  have hB : BF_z V.B V.f V.s V.T := BFv_z hw V.f
  have hp := hw.1.1
  have e0 : opensS V 0 = tldS V.T (fop V.B V.lid V.T) 0 := by
    unfold opensS
    rw [if_neg (by decide), if_neg (by omega)]
  have hC := cnt_D_z hw V.f
  unfold cnt at hC ⊢
  cases e : fop V.B V.lid V.T with
  | none => exact ⟨fun _ => by rw [e0, e]; rfl, fun c h => by cases h⟩
  | some t =>
    rw [e] at hC
    obtain ⟨h1, h2, h3⟩ := fop_Dst_z hp hB e
    have hpos := hB.1.pos h1
    have hfl := hB.1.fl hw.1 h1
    refine ⟨fun h => ?_, fun c h => ?_⟩
    · rcases h with h | h
      · cases h
      · have ez : V.T.fa t - 1 = 0 := Option.some.inj h
        rw [e0, e]
        simp only [tldS]
        rw [if_neg (by decide), ez, if_neg (by decide +kernel)]
    · have ec : V.T.fa t - 1 = c + 1 := Option.some.inj h
      have ef : V.T.fa t = c + 2 := by omega
      obtain ⟨u, k1, k2, k3⟩ := back_first_z hp hB c t h1 ef
      refine ⟨V.T.by' (back V.T t c), u, k1, ?_, k2, ⟨⟨⟨t, h2, k3⟩, fun j g hr hg => ?_⟩, by omega⟩, fun b u' hb hu' j g hr hg => ?_⟩
      · rw [e0, e]
        simp only [tldS]
        rw [if_neg (by decide), if_pos (by rw [ec]; exact (n_p0 (by omega)).mpr (by omega)), ec]
        show nI (slN (V.T.by' (back V.T t (c + 1 - (tN 0 + 1))))) = _
        rw [show tN (0 : Int32) = 0 by decide +kernel, show c + 1 - (0 + 1) = c by omega]
      · have := h3.2 (j + 1) g ⟨_, u, k1, k2, hr⟩ hg
        omega
      · have := fop_first_z hp hB e (by omega) (b := b) (u := u') (by rw [ef, show c + 2 - 2 = c by omega]; exact hb) (by omega) hu' hr hg
        omega
theorem opens_alk_z {V' : Bv} (h : Alk_z V V') (k : Int32) : opensS V' k = opensS V k := by
  obtain ⟨h1, h2, h3, h4⟩ := h
  unfold opensS Bv.T; rw [h1, h2, h3, h4]
theorem cnt_alk_z {V' : Bv} (h1 : V'.B = V.B) (h2 : V'.lid = V.lid) (h3 : V'.s = V.s) (f : Nat) : cnt V' f = cnt V f := by
  unfold cnt; rw [h1, h2, h3]
/-! rows, reach -/
theorem rows_lt_z (hw : WFV V) : rowsQ V = 0 ∨ ∃ r, rowsQ V = nI r ∧ r < 1000003 := by
  unfold rowsQ
  split
  · exact Or.inl rfl
  · refine Or.inr ⟨_, rfl, ?_⟩
    unfold rowsS
    split
    · decide
    · exact rowF_lt _ _ (by decide)
theorem rows_no_z (h0 : 0 < V.B.pn) (h : cnt V V.f = none) : rowsQ V = 0 := by
  unfold rowsQ
  rw [if_neg (by omega)]
  unfold cnt at h
  cases e : fop V.B V.lid V.T with
  | none => unfold rowsS; rw [e]; rfl
  | some t => rw [e] at h; cases h
theorem rows_one_z (hw : WFV V) (h0 : 0 < V.B.pn) (h : cnt V V.f = some 0) : rowsQ V = 1 := by
  have hB : BF_z V.B V.f V.s V.T := BFv_z hw V.f
  unfold rowsQ
  rw [if_neg (by omega)]
  unfold cnt at h
  cases e : fop V.B V.lid V.T with
  | none => rw [e] at h; cases h
  | some t =>
    rw [e] at h
    have ez : V.T.fa t - 1 = 0 := Option.some.inj h
    obtain ⟨h1, h2, h3⟩ := fop_Dst_z hw.1.1 hB e
    have hpos := hB.1.pos h1
    have ef : V.T.fa t = 1 := by omega
    obtain ⟨i, hi⟩ := hB.ix h1
    have ei := hB.zero hi ef
    rw [ei, hB.2.1.1] at hi
    have et : V.s = t := Option.some.inj hi
    unfold rowsS
    rw [e]
    simp only
    rw [ef]
    -- the order is s and those behind it
    have hsplit : V.T.ord = V.s :: V.T.ord.drop 1 := by
      have := hB.2.1.1
      cases eo : V.T.ord with
      | nil => rw [show (bfs V.B V.f V.s).ord = [] from eo] at this; cases this
      | cons x l => rw [show (bfs V.B V.f V.s).ord = x :: l from eo] at this; simp at this; simp [this]
    have rest : ∀ (l : List Nat) (a : Nat), (∀ x ∈ l, V.T.fa x ≠ 1) → l.foldl (rowF V.B V.lid 1 V.T) a = a := by
      intro l
      induction l with
      | nil => intro a _; rfl
      | cons x l ih =>
        intro a hx
        rw [List.foldl_cons, rowF_2 (hx x List.mem_cons_self)]
        exact ih a (fun y hy => hx y (List.mem_cons_of_mem _ hy))
    rw [hsplit, List.foldl_cons, rest]
    · rw [rowF_t (by rw [et]; exact h2) hB.2.1.2.1]
      rw [show V.T.wy V.s = 1 from hB.2.1.2.2]
      rfl
    · intro x hx
      obtain ⟨j, hj⟩ := List.getElem?_of_mem hx
      rw [List.getElem?_drop] at hj
      have := (hB.2.2.1 (1 + j) x (by omega) hj).1
      show V.T.fa x ≠ 1
      omega
theorem ord_256_z (hw : WFV V) (h4 : V.B.pn ≤ 4) : 0 < V.T.ord.length ∧ V.T.ord.length ≤ 256 := by
  have hB : BF_z V.B V.f V.s V.T := BFv_z hw V.f
  refine ⟨?_, nodup_len 256 _ hB.1.1 (fun x hx => ?_)⟩
  · have := (List.getElem?_eq_some_iff.mp hB.2.1.1).1; exact this
  · have := (hB.1.2.2.1 x hx).1.1
    have h5 : 4 ^ V.B.pn ≤ 4 ^ 4 := Nat.pow_le_pow_right (by decide) h4
    omega
/-- the farthest -/
theorem far_ok_z (hw : WFV V) : (∀ t, t ∈ V.T.ord → V.T.fa t - 1 ≤ farS V.T) ∧ farS V.T < V.T.ord.length := by
  have hB : BF_z V.B V.f V.s V.T := BFv_z hw V.f
  have hl : 0 < V.T.ord.length := (List.getElem?_eq_some_iff.mp hB.2.1.1).1
  unfold farS
  rw [List.getElem?_eq_getElem (show V.T.ord.length - 1 < V.T.ord.length by omega)]
  simp only
  have hm : V.T.ord[V.T.ord.length - 1] ∈ V.T.ord := List.getElem_mem _
  refine ⟨fun t ht => ?_, ?_⟩
  · obtain ⟨i, hi⟩ := hB.ix ht
    have hi2 := (List.getElem?_eq_some_iff.mp hi).1
    have := hB.sorted (V.T.ord.length - 1) i t _ (show i ≤ V.T.ord.length - 1 from Nat.le_sub_one_of_lt hi2) hi (List.getElem?_eq_getElem (show V.T.ord.length - 1 < V.T.ord.length by omega))
    exact Nat.sub_le_sub_right this 1
  · have h1 := (hB.1.2.2.1 _ hm).2.1
    have h2 := hB.1.pos hm
    have h1 : V.T.fa V.T.ord[V.T.ord.length - 1] ≤ V.T.ord.length := h1
    omega
theorem far_cnt_z (hw : WFV V) {c : Nat} (h : cnt V V.f = some c) : c ≤ farS V.T := by
  unfold cnt at h
  cases e : fop V.B V.lid V.T with
  | none => rw [e] at h; cases h
  | some t =>
    rw [e] at h
    rw [← Option.some.inj h]
    exact (far_ok_z hw).1 t (fop_mem e)
theorem live_iff_z {B : Bx} {o f s : Nat} : live B o f s ↔ ∃ j g, Rch_z B f j s g ∧ openB B o g = true := by
  constructor
  · intro h
    exact h (fun s => ∃ j g, Rch_z B f j s g ∧ openB B o g = true) (fun s hs => ⟨0, s, rfl, hs⟩) (fun s m t hm hx ⟨j, g, h1, h2⟩ => ⟨j + 1, g, ⟨m, t, hm, hx, h1⟩, h2⟩)
  · rintro ⟨j, g, h1, h2⟩ P p1 p2
    revert s
    induction j with
    | zero => intro s h1; cases (show s = g from h1); exact p1 _ h2
    | succ j ih =>
      intro s h1
      obtain ⟨m, t, hm, hx, hr⟩ := h1
      exact p2 s m t hm hx (ih hr)
theorem dead_le_z : deadN V.B V.lid V.f V.T ≤ V.T.ord.length := List.length_filter_le _ _
theorem dead_all_z (hw : WFV V) : deadN V.B V.lid V.f V.T = V.T.ord.length ↔ cnt V V.f = none := by
  have hB : BF_z V.B V.f V.s V.T := BFv_z hw V.f
  have hC := cnt_D_z hw V.f
  unfold deadN
  rw [List.length_filter_eq_length_iff]
  have hs : V.s ∈ V.T.ord := List.mem_of_getElem? hB.2.1.1
  have hd : ∀ s, dlive V.B V.lid V.f s = true ↔ live V.B V.lid V.f s := fun s => by
    unfold dlive; exact @decide_eq_true_iff _ (Classical.propDecidable _)
  constructor
  · intro h
    cases e : cnt V V.f with
    | none => rfl
    | some c =>
      rw [e] at hC
      obtain ⟨⟨g, h1, h2⟩, -⟩ := hC.1
      have := h V.s hs
      rw [(hd V.s).mpr (live_iff_z.mpr ⟨c, g, h2, h1⟩)] at this
      cases this
  · intro e x hx
    rw [e] at hC
    cases el : dlive V.B V.lid V.f x with
    | false => rfl
    | true =>
      obtain ⟨j, g, h1, h2⟩ := live_iff_z.mp ((hd x).mp el)
      have h0 := hB.1.pos hx
      have := hC _ g (Rch_add_z _ j V.s x g (hB.rch (V.T.fa x - 1) x hx (Nat.succ_pred_eq_of_pos h0).symm) h1)
      rw [this] at h2; cases h2
theorem reach_0_z (h0 : 0 < V.B.pn) : reachS V 0 = nI V.T.ord.length := by
  unfold reachS; rw [if_neg (by decide +kernel), if_neg (by omega)]; rfl
theorem reach_1_z (h0 : 0 < V.B.pn) : reachS V 1 = nI (farS V.T) := by
  unfold reachS; rw [if_neg (by decide +kernel), if_neg (by omega)]; rfl
theorem reach_2_z (h0 : 0 < V.B.pn) : reachS V 2 = nI (deadN V.B V.lid V.f V.T) := by
  unfold reachS; rw [if_neg (by decide +kernel), if_neg (by omega)]; rfl
theorem cnt_0_z (hw : WFV V) : cnt V V.f = some 0 ↔ openB V.B V.lid V.s = true := by
  have hC := cnt_D_z hw V.f
  constructor
  · intro e
    rw [e] at hC
    obtain ⟨⟨g, h1, h2⟩, -⟩ := hC.1
    rw [show V.s = g from h2]; exact h1
  · intro h
    exact DsO_one_z hC ⟨⟨⟨V.s, h, rfl⟩, fun j g _ _ => Nat.zero_le _⟩, by decide⟩
end OPN
