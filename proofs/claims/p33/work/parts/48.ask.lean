/-! questions: what they answer, of the walk -/
def fop (B : Bx) (o : Nat) (T : Tw) : Option Nat := T.ord.find? (fun t => openB B o t)
def optI (g : Option Nat) (z : Int32) : Int32 := match g with
  | some t => nI t
  | none => z
def back (T : Tw) (t : Nat) : Nat → Nat
  | 0 => t
  | n + 1 => T.fr (back T t n)
def slN (m : Nat) : Nat := 10 * (m / 2) + m % 2
def tldS (T : Tw) (g : Option Nat) (k : Int32) : Int32 := match g with
  | none => -4
  | some t => if k < 0 then nI (T.fa t - 1) else if k < nI (T.fa t - 1) then nI (slN (T.by' (back T t (T.fa t - 1 - (tN k + 1))))) else -4
def rowF (B : Bx) (o c : Nat) (T : Tw) (acc x : Nat) : Nat := if openB B o x = true ∧ T.fa x = c then (acc + T.wy x) % 1000003 else acc
def rowsS (B : Bx) (o : Nat) (T : Tw) : Nat := match fop B o T with
  | none => 0
  | some t => T.ord.foldl (rowF B o (T.fa t) T) 0
def farS (T : Tw) : Nat := match T.ord[T.ord.length - 1]? with
  | some t => T.fa t - 1
  | none => 0
/-- what a question leaves alone: the class -/
def FrG (I I' : I2) : Prop := (∀ a, (a < 33 ∨ 47 < a) → a ≠ 1 → I' a = I a) ∧ ∀ k, k ≠ 17 → I' 1 k = I 1 k
theorem FrG.rf {I : I2} : FrG I I := ⟨fun _ _ _ => rfl, fun _ _ => rfl⟩
theorem FrG.tr {I0 I1 I2 : I2} (h1 : FrG I0 I1) (h2 : FrG I1 I2) : FrG I0 I2 := ⟨fun a x y => (h2.1 a x y).trans (h1.1 a x y), fun k h => (h2.2 k h).trans (h1.2 k h)⟩
theorem FrW.g {I I' : I2} (h : FrW I I') : FrG I I' := ⟨fun a x y => h.1 a (by omega) y, h.2⟩
theorem FrG.cbx {V : Bv} {I I' : I2} (h : FrG I I') (hV : CBx 1 V I) : CBx 1 V I' := by
  obtain ⟨⟨b1, b2, b3, b4⟩, h8, h9, h10, h11, h15, np, hnp, h16, hp⟩ := hV
  have e : ∀ a, a < 33 → a ≠ 1 → I' a = I a := fun a x y => h.1 a (Or.inl x) y
  refine ⟨⟨by rw [h.2 2 (by decide)]; exact b1, by rw [h.2 7 (by decide)]; exact b2, fun p hp => ?_, fun l hl => ?_⟩, by rw [h.2 8 (by decide)]; exact h8, by rw [h.2 9 (by decide)]; exact h9, by rw [h.2 10 (by decide)]; exact h10, by rw [h.2 11 (by decide)]; exact h11, by rw [h.2 15 (by decide)]; exact h15, np, hnp, by rw [h.2 16 (by decide)]; exact h16, fun k x hx => ?_⟩
  · rw [e (1 + 1) (by decide) (by decide), e (1 + 2) (by decide) (by decide)]; exact b3 p hp
  · rw [e (1 + 3) (by decide) (by decide), e (1 + 4) (by decide) (by decide), e (1 + 5) (by decide) (by decide), e (1 + 6) (by decide) (by decide)]; exact b4 l hl
  · rw [e (1 + 7) (by decide) (by decide), e (1 + 8) (by decide) (by decide), e (1 + 9) (by decide) (by decide)]; exact hp k x hx
theorem FrQ.mbx {V : Bv} {I I' : I2} (h : FrQ I I') (hV : MBx V I) : MBx V I' := by
  have e1 : I' 58 = I 58 := h.1 58 (by decide) (by decide)
  have e2 : I' 62 = I 62 := h.1 62 (by decide) (by decide)
  have e3 : I' 57 9 = I 57 9 := h.2.1 9 (by decide)
  show MRw V (I' 58) (I' 62) (I' 57 9)
  rw [e1, e2, e3]; exact hV
theorem findN {p : Nat → Bool} {l : List Nat} {n : Nat} (h : n < l.length) : (l.drop n).find? p = if p (l[n]) then some (l[n]) else (l.drop (n + 1)).find? p := by
  rw [List.drop_eq_getElem_cons h, List.find?_cons]
  cases p l[n] <;> rfl
theorem back_ok {B : Bx} {T : Tw} {t : Nat} (hT : TI B T) (ht : t ∈ T.ord) : ∀ n, n < T.fa t → back T t n ∈ T.ord ∧ T.fa (back T t n) + n = T.fa t := by
  intro n
  induction n with
  | zero => intro _; exact ⟨ht, rfl⟩
  | succ n ih =>
    intro hn
    obtain ⟨h1, h2⟩ := ih (by omega)
    obtain ⟨g1, g2, g3⟩ := hT.2.2.2 (back T t n) (by omega)
    exact ⟨g1, by show T.fa (T.fr (back T t n)) + (n + 1) = T.fa t; omega⟩
theorem fop_mem {B : Bx} {o t : Nat} {T : Tw} (h : fop B o T = some t) : t ∈ T.ord := List.mem_of_find?_eq_some h
theorem TI.pos {B : Bx} {T : Tw} {t : Nat} (h : TI B T) (ht : t ∈ T.ord) : 0 < T.fa t := Nat.pos_of_ne_zero ((h.2.1 t).mp ht)
theorem TI.fl {B : Bx} {T : Tw} {t : Nat} (hw : WFB B) (h : TI B T) (ht : t ∈ T.ord) : T.fa t ≤ 1024 := Nat.le_trans (h.2.2.1 t ht).2.1 (h.len hw)
section ASK
variable {d : Nat} {B : Bx} {I : I2} {J : J2} {G : I2 → J2 → Prop} {F : Int32 → I2 → J2 → Prop} {s f m o : Nat} {T : Tw}
theorem WkR.ord' (hI : WkR T I) {n : Nat} (h : n < T.ord.length) : I 36 n = nI T.ord[n] := hI.2.1 n _ (List.getElem?_eq_getElem h)
theorem WmR.ord' (hI : WmR T I) {n : Nat} (h : n < T.ord.length) : I 63 n = nI T.ord[n] := hI.2.1 n _ (List.getElem?_eq_getElem h)
theorem WkR.far' (hI : WkR T I) (hw : WFB B) (hT : TI B T) {t : Nat} (h : t ∈ T.ord) : I 37 t = nI (T.fa t - 1) := by
  rw [hI.2.2.1 t (s31 hw (hT.2.2.1 t h).1.1), n_dec (hT.pos h)]
theorem WmR.far' (hI : WmR T I) (hw : WFB B) (hT : TI B T) {t : Nat} (h : t ∈ T.ord) : I 64 t = nI (T.fa t - 1) := by
  rw [hI.2.2.1 t (s31 hw (hT.2.2.1 t h).1.1), n_dec (hT.pos h)]
theorem l_Wk_firstOpen (hd : 2 ≤ d) (hw : WFB B) (hB : BoxI 1 B I) (ho : I 1 8 = nI o) (hop : B.pn = 0 ∧ o = 0 ∨ o < B.pn) (hT : TI B T) (hI : WkR T I) (h : F (optI (fop B o T) (-4)) I J) : ∀ k n, n + k = T.ord.length → (T.ord.drop n).find? (fun t => openB B o t) = fop B o T → Wp d Wk_firstOpen (QI F) 2 [some (.ref 33), some (.int (nI n))] [] I J := by
  have hlen := hT.len hw
  intro k
  induction k with
  | zero =>
    intro n hn he
    have hn : n = T.ord.length := by omega
    subst hn
    refine v_Wk_firstOpen_33_2 ⟨fun q => ?_, fun _ => QI_i.mpr ?_⟩
    · rw [hI.1] at q; exact absurd ((n_lt (by omega) (by omega)).mp q) (Nat.lt_irrefl _)
    · rw [← he, List.drop_length] at h; exact h
  | succ k ih =>
    intro n hn he
    have hlt : n < T.ord.length := by omega
    have hs := (hT.2.2.1 _ (List.getElem_mem hlt)).1
    have hs2 := s31 hw hs.1
    have hv := n_vp (a := n) (n := 1024) (by omega) (by decide)
    refine v_Wk_firstOpen_33_2 ⟨fun _ => ⟨hv, ?_⟩, fun q => absurd ((n_lt (by omega) (by omega)).mpr hlt) (by rw [hI.1] at q; exact q)⟩
    rw [n_tN (by omega), hI.ord' hlt]
    rw [findN hlt] at he
    refine c_Bx_isOpen_1 (by omega) hw hB ho hop (by omega) ?_
    rw [show (decide (0 < B.pn) && decide (pl T.ord[n] o = B.dp o)) = openB B o T.ord[n] from rfl, bI_0]
    refine ⟨fun e => ?_, fun e => ⟨hv, QI_i.mpr ?_⟩⟩
    · rw [e] at he
      rw [n_inc]
      exact ih (n + 1) (by omega) he
    · have e : openB B o T.ord[n] = true := by simpa using e
      rw [e] at he
      rw [← he, if_pos rfl] at h
      rw [hI.ord' hlt]
      exact h
theorem c_Wk_firstOpen (hd : 3 ≤ d) (hw : WFB B) (hB : BoxI 1 B I) (ho : I 1 8 = nI o) (hop : B.pn = 0 ∧ o = 0 ∨ o < B.pn) (hT : TI B T) (hI : WkR T I) (h : F (optI (fop B o T) (-4)) I J) : CI d Wk_firstOpen [.ref 33] I J F :=
  CI.of (by omega) rfl (v_Wk_firstOpen_33_0 (l_Wk_firstOpen (by omega) hw hB ho hop hT hI h _ 0 (Nat.zero_add _) (by rw [List.drop_zero]; rfl)))
theorem n_slW {a : Nat} (h : a < 2 ^ 20) : 10 * srI (nI a) 1 + (nI a &&& 1) = nI (slN a) := by
  rw [show srI (nI a) 1 = nI (a / 2) from n_sr (k := 1) (by omega) (by decide), n_and1 (by omega), show (10 : Int32) * nI (a / 2) = nI (10 * (a / 2)) from pk_mul 10 _, nI_add]; rfl
theorem n_slM {a : Nat} (h : a < 2 ^ 20) : 10 * (nI a / 2) + rmI (nI a) 2 = nI (slN a) := by
  rw [show nI a / 2 = nI (a / 2) from n_div (k := 2) (by omega) (by decide) (by decide), show rmI (nI a) 2 = nI (a % 2) from n_rm (k := 2) (by omega) (by decide) (by decide), show (10 : Int32) * nI (a / 2) = nI (10 * (a / 2)) from pk_mul 10 _, nI_add]; rfl
theorem c_Wk_told (hd : 2 ≤ d) (hw : WFB B) (hT : TI B T) (hI : WkR T I) (g : Option Nat) (hg : ∀ t, g = some t → t ∈ T.ord) (k : Int32) (h : F (tldS T g k) I J) : CI d Wk_told [.ref 33, .int (optI g (-4)), .int k] I J F := by
  refine CI.of (by omega) rfl (v_Wk_told_33_0 ?_)
  cases g with
  | none => exact ⟨fun _ => QI_i.mpr h, fun q => absurd (by decide) q⟩
  | some t =>
    have ht := hg t rfl
    have hs2 := s31 hw (hT.2.2.1 t ht).1.1
    have hpos := hT.pos ht
    have hfl := hT.fl hw ht
    have hv := n_vp (a := t) (n := 1024) hs2 (by decide)
    have hf := hI.far' hw hT ht
    simp only [optI, tldS] at h ⊢
    refine ⟨fun q => absurd q (nI_pos (by omega)), fun _ => ⟨fun _ => ⟨hv, ?_⟩, fun q => absurd ((n_lt (b := 1024) (by omega) (by decide)).mpr hs2) q⟩⟩
    rw [n_tN (by omega), hf]
    refine ⟨fun q => absurd q (nI_pos (by omega)), fun _ => ⟨fun e => ⟨hv, QI_i.mpr ?_⟩, fun e => ⟨hv, fun e2 => ⟨hv, ?_⟩, fun e2 => QI_i.mpr ?_⟩⟩⟩
    · rw [if_pos e] at h; exact h
    · rw [if_neg e, if_pos e2] at h
      obtain ⟨j, hj, rfl⟩ := nI_of e
      have hjf := (n_lt hj (by omega)).mp e2
      rw [n_tN hj] at h
      have loop : ∀ q n, n + q = T.fa t - 1 - (j + 1) → Wp (d - 1) Wk_told (QI F) 57 [some (.ref 33), some (.int (nI t)), some (.int (nI j)), some (.int (nI (back T t n))), some (.int (nI (T.fa t - 1 - n)))] [] I J := by
        intro q
        induction q with
        | zero =>
          intro n hn
          have hn : n = T.fa t - 1 - (j + 1) := by omega
          have hb := back_ok hT ht n (by omega)
          have hb2 := s31 hw (hT.2.2.1 _ hb.1).1.1
          have hvb := n_vp (a := back T t n) (n := 1024) hb2 (by decide)
          refine v_Wk_told_33_57 ⟨fun q => ?_, fun _ => ⟨hvb, ?_⟩⟩
          · rw [n_inc, n_lt (by omega) (by omega)] at q; omega
          · have g1 := hT.2.2.2 (back T t n) (by omega)
            rw [n_tN (by omega), (hI.2.2.2.2 (back T t n) (by omega)).2]
            refine CI.of (by omega) rfl (v_Wk_slideOf_0 (QI_i.mpr (QI_i.mpr ?_)))
            rw [n_slW (by omega), hn]; exact h
        | succ q ih =>
          intro n hn
          have hb := back_ok hT ht n (by omega)
          have hb2 := s31 hw (hT.2.2.1 _ hb.1).1.1
          have hvb := n_vp (a := back T t n) (n := 1024) hb2 (by decide)
          have go := ih (n + 1) (by omega)
          refine v_Wk_told_33_57 ⟨fun _ => ⟨hvb, ?_⟩, fun q => absurd ((n_lt (a := j + 1) (b := T.fa t - 1 - n) (by omega) (by omega)).mpr (by omega)) (by rw [n_inc] at q; exact q)⟩
          rw [n_tN (by omega), (hI.2.2.2.2 (back T t n) (by omega)).1, n_dec2 (by omega), show T.fa t - 1 - n - 1 = T.fa t - 1 - (n + 1) by omega]
          exact go
      exact loop _ 0 (Nat.zero_add _)
    · rw [if_neg e, if_neg e2] at h; exact h
end ASK
