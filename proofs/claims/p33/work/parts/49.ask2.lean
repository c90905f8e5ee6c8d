/-! opens, rows, key, files: both sides -/
def WkA (V : Bv) (f : Nat) (I : I2) : Prop := I 1 17 = 0 ∧ ChR V.B I ∧ I 33 10 = nI V.s ∧ I 33 11 = nI f ∧ WkR (bfs V.B f V.s) I
def WmA (V : Bv) (f : Nat) (I : I2) : Prop := WmR (bfs V.B f V.s) I ∧ ∀ a, a ∈ (bfs V.B f V.s).ord → ∀ b, b < 2 * V.B.pn → I 68 (10 * a + b) = nxI V.B f a b
theorem WkA.ca {V : Bv} {f : Nat} {I : I2} (hw : WFV V) (hf : f < 64) (h : WkA V f I) : CaR V.B I := Or.inr ⟨h.1, h.2.1, V.s, f, hw.2.2.1, hf, h.2.2.1, h.2.2.2.1, h.2.2.2.2⟩
theorem TIb {V : Bv} (hw : WFV V) (f : Nat) : TI V.B (bfs V.B f V.s) := by rw [bfs_eq]; exact TI_bfsN hw.1 hw.2.2.1 1024
noncomputable abbrev Bv.T (V : Bv) : Tw := bfs V.B V.f V.s
noncomputable def opensS (V : Bv) (k : Int32) : Int32 := if k < -1 then -1 else if V.B.pn = 0 then -4 else tldS V.T (fop V.B V.lid V.T) k
noncomputable def rowsQ (V : Bv) : Int32 := if V.B.pn = 0 then 0 else nI (rowsS V.B V.lid V.T)
/-- how soon it is open, these locks filed -/
noncomputable def cnt (V : Bv) (f : Nat) : Option Nat := (fop V.B V.lid (bfs V.B f V.s)).map (fun t => (bfs V.B f V.s).fa t - 1)
noncomputable def keyN (V : Bv) : Nat → Option (Nat × Nat)
  | 0 => none
  | n + 1 => if V.f.testBit n then keyN V n else match cnt V (V.f ||| 2 ^ n) with
    | none => keyN V n
    | some c => match keyN V n with
      | none => some (n, c)
      | some (b, w) => if c < w then some (n, c) else some (b, w)
noncomputable def keyS (V : Bv) (x : Int32) : Int32 := if x < 0 ∨ 1 < x then -1 else if x = 0 then optI ((keyN V V.B.ln).map Prod.fst) (-4) else optI ((keyN V V.B.ln).map Prod.snd) (-4)
noncomputable def fileB (V : Bv) (x : Int32) (n : Nat) (b : Option Nat) : Option Nat := match cnt V (V.f ||| n) with
  | none => b
  | some c => if x < nI c then b else some n
noncomputable def fileN (V : Bv) (x : Int32) : Nat → Option Nat
  | 0 => none
  | n + 1 => if n &&& V.f = 0 then match fileN V x n with
      | none => fileB V x n none
      | some b => if popN 6 n < popN 6 b then fileB V x n (some b) else some b
    else fileN V x n
noncomputable def filesS (V : Bv) (x y : Int32) : Int32 := if x < 0 ∨ 60 < x ∨ y < 0 ∨ 1 < y then -1 else if V.B.pn = 0 then -4 else if y = 0 then optI ((fileN V x (2 ^ V.B.ln)).map (popN 6)) (-4) else optI (fileN V x (2 ^ V.B.ln)) (-4)
theorem rowF_t {B : Bx} {o c : Nat} {T : Tw} {a x : Nat} (h1 : openB B o x = true) (h2 : T.fa x = c) : rowF B o c T a x = (a + T.wy x) % 1000003 := if_pos ⟨h1, h2⟩
theorem rowF_1 {B : Bx} {o c : Nat} {T : Tw} {a x : Nat} (h1 : openB B o x = false) : rowF B o c T a x = a := if_neg (fun q => by rw [h1] at q; exact absurd q.1 (by decide))
theorem rowF_2 {B : Bx} {o c : Nat} {T : Tw} {a x : Nat} (h1 : T.fa x ≠ c) : rowF B o c T a x = a := if_neg (fun q => h1 q.2)
theorem n_row {a b : Nat} (h1 : a < 1000003) (h2 : b < 1000003) : rmI (nI a + nI b) 1000003 = nI ((a + b) % 1000003) := by
  rw [nI_add]; exact n_rm (k := 1000003) (by omega) (by decide) (by decide)
theorem n_rowF {B : Bx} {o c : Nat} {T : Tw} {a x : Nat} (h1 : openB B o x = true) (h2 : T.fa x = c) (ha : a < 1000003) (hx : T.wy x < 1000003) : rmI (nI a + nI (T.wy x)) 1000003 = nI (rowF B o c T a x) := by
  rw [rowF_t h1 h2]; exact n_row ha hx
theorem foldN {f : Nat → Nat → Nat} {a : Nat} {l : List Nat} {n : Nat} (h : n < l.length) : (l.take (n + 1)).foldl f a = f ((l.take n).foldl f a) l[n] := by
  rw [List.take_add_one, List.getElem?_eq_getElem h, List.foldl_append]; rfl
section ASK2
variable {d : Nat} {V : Bv} {I : I2} {J : J2} {G : I2 → J2 → Prop} {F : Int32 → I2 → J2 → Prop} {f : Nat}
theorem c_W_from (hd : 6 ≤ d) (hw : WFV V) (hV : CBx 1 V I) (hC : CaR V.B I) (hf : f < 64) (h : ∀ I', FrG I I' → CBx 1 V I' → WkA V f I' → G I' J) : CV d Wk_from [.ref 33, .int (nI V.s), .int (nI f)] I J G :=
  c_Wk_from hd hw.1 hV.1 hC hw.2.2.1 hf (fun I' q1 q2 q3 q4 q5 q6 => h I' q1.g (q1.g.cbx hV) ⟨q2, q3, q4, q5, q6⟩)
theorem c_W_first (hd : 3 ≤ d) (hw : WFV V) (hV : CBx 1 V I) (hA : WkA V f I) (h : F (optI (fop V.B V.lid (bfs V.B f V.s)) (-4)) I J) : CI d Wk_firstOpen [.ref 33] I J F :=
  c_Wk_firstOpen hd hw.1 hV.1 hV.2.1 hw.2.1 (TIb hw f) hA.2.2.2.2 h
theorem c_Sb_opens (hd : 7 ≤ d) (hw : WFV V) (hV : CBx 1 V I) (hC : CaR V.B I) (k : Int32) (h : ∀ I', FrG I I' → CaR V.B I' → F (opensS V k) I' J) : CI d Sb_opens [.ref 0, .int k] I J F := by
  have hf := f64 hw.1 hw.2.2.2.1
  have hp5 := hw.1.1
  unfold opensS at h
  refine CI.of (by omega) rfl (v_Sb_opens_0_0 ⟨fun e => QI_i.mpr ?_, fun e => ?_⟩)
  · rw [if_pos e] at h; exact h I FrG.rf hC
  · rw [if_neg e] at h
    rw [hV.1.1, n_e0 (by omega), hV.2.2.1, hV.2.2.2.1]
    refine ⟨fun e => QI_i.mpr ?_, fun e => c_W_from (by omega) hw hV hC hf (fun I' q1 q2 q3 => ?_)⟩
    · rw [if_pos e] at h; exact h I FrG.rf hC
    · rw [if_neg e] at h
      refine c_W_first (by omega) hw q2 q3 (c_Wk_told (by omega) hw.1 (TIb hw V.f) q3.2.2.2.2 _ (fun t ht => fop_mem ht) k (QI_i.mpr ?_))
      exact h I' q1 (q3.ca hw hf)
theorem rowF_lt {B : Bx} {o c : Nat} {T : Tw} : ∀ (l : List Nat) a, a < 1000003 → l.foldl (rowF B o c T) a < 1000003 := by
  intro l
  induction l with
  | nil => exact fun a h => h
  | cons x l ih =>
    intro a h
    rw [List.foldl_cons]
    refine ih _ ?_
    unfold rowF
    split
    · exact Nat.mod_lt _ (by decide)
    · exact h
theorem c_Wk_rowsToOpen {T : Tw} (hd : 4 ≤ d) (hw : WFV V) (hV : CBx 1 V I) (hT : TI V.B T) (hI : WkR T I) (h : F (nI (rowsS V.B V.lid T)) I J) : CI d Wk_rowsToOpen [.ref 33] I J F := by
  have hp5 := hw.1.1
  have hlen := hT.len hw.1
  unfold rowsS at h
  refine CI.of (by omega) rfl (v_Wk_rowsToOpen_33_0 (c_Wk_firstOpen (by omega) hw.1 hV.1 hV.2.1 hw.2.1 hT hI ?_))
  cases hg : fop V.B V.lid T with
  | none => rw [hg] at h; exact ⟨fun _ => QI_i.mpr h, fun q => absurd (by decide) q⟩
  | some t =>
    rw [hg] at h
    have ht := fop_mem hg
    have hs2 := s31 hw.1 (hT.2.2.1 t ht).1.1
    have htf := hT.fl hw.1 ht
    have htp := hT.pos ht
    refine ⟨fun q => absurd q (nI_pos (by omega)), fun _ => ?_⟩
    have loop : ∀ k n, n + k = T.ord.length → Wp (d - 1) Wk_rowsToOpen (QI F) 15 [some (.ref 33), some (.int (nI t)), some (.int (nI ((T.ord.take n).foldl (rowF V.B V.lid (T.fa t) T) 0))), some (.int (nI n)), none] [] I J := by
      intro k
      induction k with
      | zero =>
        intro n hn
        have hn : n = T.ord.length := by omega
        subst hn
        refine v_Wk_rowsToOpen_33_15 ⟨fun q => ?_, fun _ => QI_i.mpr ?_⟩
        · rw [hI.1] at q; exact absurd ((n_lt (by omega) (by omega)).mp q) (Nat.lt_irrefl _)
        · rw [List.take_length]; exact h
      | succ k ih =>
        intro n hn
        have hlt : n < T.ord.length := by omega
        have hm := List.getElem_mem hlt
        have hx := hT.2.2.1 _ hm
        have hx2 := s31 hw.1 hx.1.1
        have hxf := hT.fl hw.1 hm
        have hxp := hT.pos hm
        have go := ih (n + 1) (by omega)
        rw [foldN hlt] at go
        have hacc := rowF_lt (B := V.B) (o := V.lid) (c := T.fa t) (T := T) (T.ord.take n) 0 (by decide)
        generalize (T.ord.take n).foldl (rowF V.B V.lid (T.fa t) T) 0 = acc at go hacc ⊢
        have hv := n_vp (a := n) (n := 1024) (by omega) (by decide)
        have hv2 := n_vp (a := T.ord[n]) (n := 1024) hx2 (by decide)
        have hv3 := n_vp (a := t) (n := 1024) hs2 (by decide)
        refine v_Wk_rowsToOpen_33_15 ⟨fun _ => ⟨hv, ?_⟩, fun q => absurd ((n_lt (by omega) (by omega)).mpr hlt) (by rw [hI.1] at q; exact q)⟩
        rw [n_tN (a := n) (by omega), hI.ord' hlt, n_tN (a := T.ord[n]) (by omega), n_tN (a := t) (by omega), hI.far' hw.1 hT hm, hI.far' hw.1 hT ht, n_eq (by omega) (by omega), n_inc]
        refine ⟨hv2, hv3, fun e => c_Bx_isOpen_1 (by omega) hw.1 hV.1 hV.2.1 hw.2.1 (by omega) ?_, fun e => ?_⟩
        · rw [show (decide (0 < V.B.pn) && decide (pl T.ord[n] V.lid = V.B.dp V.lid)) = openB V.B V.lid T.ord[n] from rfl, bI_0]
          refine ⟨fun e2 => ?_, fun e2 => ⟨hv2, ?_⟩⟩
          · rw [rowF_1 e2] at go; exact go
          · rw [hI.2.2.2.1 _ (by omega), n_rowF (c := T.fa t) (by simpa using e2) (by omega) hacc hx.2.2]
            exact go
        · rw [rowF_2 (by omega)] at go; exact go
    have go0 := loop _ 0 (Nat.zero_add _)
    rw [List.take_zero, List.foldl_nil] at go0
    exact go0
theorem c_Sb_rows (hd : 8 ≤ d) (hw : WFV V) (hV : CBx 1 V I) (hC : CaR V.B I) (h : ∀ I', FrG I I' → CaR V.B I' → F (rowsQ V) I' J) : CI d Sb_rows [.ref 0] I J F := by
  have hf := f64 hw.1 hw.2.2.2.1
  have hp5 := hw.1.1
  unfold rowsQ at h
  refine CI.of (by omega) rfl (v_Sb_rows_0_0 ?_)
  rw [hV.1.1, n_e0 (by omega), hV.2.2.1, hV.2.2.2.1]
  refine ⟨fun e => QI_i.mpr ?_, fun e => c_W_from (by omega) hw hV hC hf (fun I' q1 q2 q3 => c_Wk_rowsToOpen (by omega) hw q2 (TIb hw V.f) q3.2.2.2.2 (QI_i.mpr ?_))⟩
  · rw [if_pos e] at h; exact h I FrG.rf hC
  · rw [if_neg e] at h
    exact h I' q1 (q3.ca hw hf)
theorem cnt_lt (hw : WFV V) {f c : Nat} (h : cnt V f = some c) : c < 1024 := by
  unfold cnt at h
  cases hg : fop V.B V.lid (bfs V.B f V.s) with
  | none => rw [hg] at h; cases h
  | some t =>
    rw [hg] at h
    have h : (bfs V.B f V.s).fa t - 1 = c := Option.some.inj h
    have := (TIb hw f).fl hw.1 (fop_mem hg)
    have h2 := (TIb hw f).pos (fop_mem hg)
    omega
theorem c_Sb_opensWith (hd : 7 ≤ d) (hw : WFV V) (hV : CBx 1 V I) (hC : CaR V.B I) (hf : f < 64) (h : ∀ I', FrG I I' → CBx 1 V I' → CaR V.B I' → F (optI (cnt V f) (-4)) I' J) : CI d Sb_opensWith [.ref 0, .int (nI f)] I J F := by
  refine CI.of (by omega) rfl (v_Sb_opensWith_0_0 ?_)
  rw [hV.2.2.1]
  refine c_W_from (by omega) hw hV hC hf (fun I' q1 q2 q3 => c_W_first (by omega) hw q2 q3 (c_Wk_told (by omega) hw.1 (TIb hw f) q3.2.2.2.2 _ (fun t ht => fop_mem ht) (-1) (QI_i.mpr ?_)))
  have h := h I' q1 q2 (q3.ca hw hf)
  unfold cnt at h
  cases hg : fop V.B V.lid (bfs V.B f V.s) with
  | none => rw [hg] at h; exact h
  | some t => rw [hg] at h; exact h
end ASK2
