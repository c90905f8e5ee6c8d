/-! the class: charts, walks -/
/-- all slides of the box, charted -/
def ChR (B : Bx) (I : I2) : Prop := I 33 8 = nI (2 * B.pn) ∧ ∀ s, okS B s → ∀ m, m < 2 * B.pn → I 34 (10 * s + m) = (if fitsB B s (m / 2) (m % 2) then nI (behB B s (m / 2) (m % 2) B.pn) else -1) ∧ I 35 (10 * s + m) = nI (hset B s (m / 2) (m % 2) B.ln)
/-- a walk, as it stands in the rows -/
def WkR (T : Tw) (I : I2) : Prop := I 33 9 = nI T.ord.length ∧ (∀ k s, T.ord[k]? = some s → I 36 k = nI s) ∧ (∀ t, t < 1024 → I 37 t = nI (T.fa t) - 1) ∧ (∀ t, T.fa t ≠ 0 → I 40 t = nI (T.wy t)) ∧ ∀ t, 1 < T.fa t → I 38 t = nI (T.fr t) ∧ I 39 t = nI (T.by' t)
/-- what a walk leaves alone -/
def FrW (I I' : I2) : Prop := (∀ a, (a < 33 ∨ 40 < a) → a ≠ 1 → I' a = I a) ∧ ∀ k, k ≠ 17 → I' 1 k = I 1 k
theorem FrW.rf {I : I2} : FrW I I := ⟨fun _ _ _ => rfl, fun _ _ => rfl⟩
theorem FrW.tr {I0 I1 I2 : I2} (h1 : FrW I0 I1) (h2 : FrW I1 I2) : FrW I0 I2 := ⟨fun a x y => (h2.1 a x y).trans (h1.1 a x y), fun k h => (h2.2 k h).trans (h1.2 k h)⟩
theorem FrW.box {B : Bx} {I I' : I2} (h : FrW I I') (hB : BoxI 1 B I) : BoxI 1 B I' := by
  obtain ⟨b1, b2, b3, b4⟩ := hB
  refine ⟨by rw [h.2 2 (by decide)]; exact b1, by rw [h.2 7 (by decide)]; exact b2, fun p hp => ?_, fun l hl => ?_⟩
  · rw [h.1 (1 + 1) (by decide) (by decide), h.1 (1 + 2) (by decide) (by decide)]; exact b3 p hp
  · rw [h.1 (1 + 3) (by decide) (by decide), h.1 (1 + 4) (by decide) (by decide), h.1 (1 + 5) (by decide) (by decide), h.1 (1 + 6) (by decide) (by decide)]; exact b4 l hl
theorem FrW_up {I : I2} {a k : Nat} {x : Int32} (ha : 33 ≤ a) (h2 : a ≤ 40) : FrW I (up2 I a k x) := by
  refine ⟨fun b hb _ => ?_, fun k _ => ?_⟩
  · have : b ≠ a := by omega
    simp [up2, this]
  · have : (1 : Nat) ≠ a := by omega
    simp [up2, this]
theorem pred_lt {a : Nat} (h : a < 2 ^ 30) : nI a - 1 < 0 ↔ a = 0 := by
  rcases Nat.eq_zero_or_pos a with e | e
  · subst e; exact ⟨fun _ => rfl, fun _ => by decide⟩
  · rw [n_dec e]
    exact ⟨fun q => absurd q (nI_pos (by omega)), fun q => by omega⟩
theorem pred_succ (a : Nat) : nI a - 1 + 1 = nI (a + 1) - 1 := by
  rw [n_dec (a := a + 1) (by omega), Nat.add_sub_cancel]
  exact Int32.sub_add_cancel _ _
theorem pred_eq {a b : Nat} (ha : a < 2 ^ 30) (hb : b < 2 ^ 30) : nI a - 1 = nI b - 1 + 1 ↔ a = b + 1 := by
  rw [pred_succ, n_dec (a := b + 1) (by omega), Nat.add_sub_cancel]
  constructor
  · intro h
    have h2 : nI a = nI b + 1 := by rw [← h]; exact (Int32.sub_add_cancel _ _).symm
    rw [n_inc] at h2
    exact (n_eq (by omega) (by omega)).mp h2
  · intro h
    subst h
    rw [n_dec (by omega), Nat.add_sub_cancel]
section WALK
variable {d : Nat} {B : Bx} {I : I2} {J : J2} {G : I2 → J2 → Prop} {F : Int32 → I2 → J2 → Prop} {s f m : Nat}
theorem sp10 (s m : Nat) : (10 : Int32) * nI s + nI m = nI (10 * s + m) := by
  rw [show (10 : Int32) * nI s = nI (10 * s) from pk_mul 10 s, nI_add]
theorem c_Wk_next (hd : 1 ≤ d) (hw : WFB B) (hC : ChR B I) (hF : I 33 11 = nI f) (hf : f < 64) (hs : okS B s) (hm : m < 2 * B.pn) (h : F (match nx B f s m with | some t => nI t | none => -1) I J) : CI d Wk_next [.ref 33, .int (nI s), .int (nI m)] I J F := by
  have hs2 := s31 hw hs.1
  have hp5 := hw.1
  obtain ⟨c1, c2⟩ := hC.2 s hs m hm
  refine CI.of hd rfl (v_Wk_next_33_0 ?_)
  rw [sp10, n_tN (by omega), c1, c2, hF, hs_sub hf (hset_lt hw.2.1)]
  have hv := n_vp (a := 10 * s + m) (n := 10240) (by omega) (by decide)
  have key : ∀ b : Bool, mayB B s f (m / 2) (m % 2) = b → F (if b then nI (behB B s (m / 2) (m % 2) B.pn) else -1) I J := by
    intro b e
    unfold nx at h
    rw [e] at h
    cases b <;> exact h
  refine ⟨hv, fun e => ⟨hv, QI_i.mpr ?_⟩, fun e => QI_i.mpr ?_⟩
  · have e2 := hset_sub.mp e
    cases hfit : fitsB B s (m / 2) (m % 2)
    · exact key false (by rw [mayB, hfit]; rfl)
    · exact key true (by simp only [mayB, hfit, Bool.true_and, decide_eq_true_eq]; exact e2)
  · have e2 := fun z => e (hset_sub.mpr z)
    refine key false ?_
    cases hfit : fitsB B s (m / 2) (m % 2)
    · rw [mayB, hfit]; rfl
    · simp only [mayB, hfit, Bool.true_and, decide_eq_false_iff_not]; exact e2
/-- what a step of a walk leaves alone, too -/
def FrV (I I' : I2) : Prop := FrW I I' ∧ I' 1 17 = I 1 17 ∧ I' 34 = I 34 ∧ I' 35 = I 35 ∧ ∀ k, k ≠ 9 → I' 33 k = I 33 k
theorem FrV.rf {I : I2} : FrV I I := ⟨FrW.rf, rfl, rfl, rfl, fun _ _ => rfl⟩
theorem FrV.tr {I0 I1 I2 : I2} (h1 : FrV I0 I1) (h2 : FrV I1 I2) : FrV I0 I2 := ⟨h1.1.tr h2.1, h2.2.1.trans h1.2.1, h2.2.2.1.trans h1.2.2.1, h2.2.2.2.1.trans h1.2.2.2.1, fun k h => (h2.2.2.2.2 k h).trans (h1.2.2.2.2 k h)⟩
theorem FrV.ch {I I' : I2} (h : FrV I I') (hC : ChR B I) : ChR B I' := by
  refine ⟨by rw [h.2.2.2.2 8 (by decide)]; exact hC.1, ?_⟩
  rw [h.2.2.1, h.2.2.2.1]; exact hC.2
theorem WkR_more {T : Tw} {t : Nat} (hI : WkR T I) (e : T.fa t = T.fa s + 1) : WkR (T.more s t) (up2 I 40 t (nI ((T.wy t + T.wy s) % 1000003))) := by
  unfold Tw.more
  rw [if_pos e]
  obtain ⟨w1, w2, w3, w4, w5⟩ := hI
  refine ⟨by simpa [up2] using w1, fun k x hx => by simpa [up2] using w2 k x hx, fun x hx => by simpa [up2] using w3 x hx, fun x hx => ?_, fun x hx => by simpa [up2] using w5 x hx⟩
  show up2 I 40 t _ 40 x = nI (updN T.wy t _ x)
  simp only [up2, upd, updN, if_pos]
  split
  · rfl
  · exact w4 x hx
theorem WkR_add {T : Tw} {t : Nat} (hI : WkR T I) (hm : m < 10) : WkR (T.add s m t) (up2 (up2 (up2 (up2 (up2 (up2 I 37 t (nI (T.fa s + 1) - 1)) 38 t (nI s)) 39 t (nI m)) 40 t 0) 36 T.ord.length (nI t)) 33 9 (nI (T.ord.length + 1))) := by
  obtain ⟨w1, w2, w3, w4, w5⟩ := hI
  refine ⟨?_, fun k x hx => ?_, fun x hx => ?_, fun x hx => ?_, fun x hx => ?_⟩
  · show _ = nI (T.ord ++ [t]).length
    simp [up2, upd]
  · have hx : (T.ord ++ [t])[k]? = some x := hx
    by_cases e : k = T.ord.length
    · subst e
      simp at hx
      simp [up2, upd, hx]
    · have hk : k < T.ord.length := by
        have := (List.getElem?_eq_some_iff.mp hx).1
        simp at this; omega
      rw [List.getElem?_append_left hk] at hx
      simp [up2, upd, e]
      exact w2 k x hx
  · show _ = nI (updN T.fa t (T.fa s + 1) x) - 1
    by_cases e : x = t
    · subst e; simp [up2, upd, updN]
    · simp [up2, upd, updN, e]; exact w3 x hx
  · have hx : updN T.fa t (T.fa s + 1) x ≠ 0 := hx
    show _ = nI (updN T.wy t 0 x)
    by_cases e : x = t
    · subst e; simp [up2, upd, updN]; rfl
    · simp only [updN, if_neg e] at hx
      simp [up2, upd, updN, e]; exact w4 x hx
  · have hx : 1 < updN T.fa t (T.fa s + 1) x := hx
    show _ = nI (updN T.fr t s x) ∧ _ = nI (updN T.by' t m x)
    by_cases e : x = t
    · subst e; simp [up2, upd, updN]
    · simp only [updN, if_neg e] at hx
      simp [up2, upd, updN, e]; exact w5 x hx
theorem FrV_up {I : I2} {a k : Nat} {x : Int32} (ha : 36 ≤ a) (h2 : a ≤ 40) : FrV I (up2 I a k x) := by
  refine ⟨FrW_up (by omega) h2, ?_, ?_, ?_, fun j _ => ?_⟩
  · have : (1 : Nat) ≠ a := by omega
    simp [up2, this]
  · have : (34 : Nat) ≠ a := by omega
    simp [up2, this]
  · have : (35 : Nat) ≠ a := by omega
    simp [up2, this]
  · have : (33 : Nat) ≠ a := by omega
    simp [up2, this]
theorem FrV_up9 {I : I2} {x : Int32} : FrV I (up2 I 33 9 x) :=
  ⟨FrW_up (by decide) (by decide), by simp [up2], by simp [up2], by simp [up2], fun k hk => by simp [up2, upd, hk]⟩
set_option maxHeartbeats 1000000 in
theorem l_Wk_visit (hd : 1 ≤ d) (hw : WFB B) (hf : f < 64) {T0 : Tw} {I0 : I2} (hT : TI B T0) (hs : s ∈ T0.ord) (h : ∀ I', WkR (vis B f s (2 * B.pn) T0) I' → FrV I0 I' → G I' J) : ∀ k n I, n + k = 2 * B.pn → ChR B I → I 33 11 = nI f → WkR (vis B f s n T0) I → FrV I0 I → Wp d Wk_visit (QV G) 2 [some (.ref 33), some (.int (nI s)), some (.int (nI n)), none] [] I J := by
  have hp5 := hw.1
  have hok := (hT.2.2.1 s hs).1
  have hs2 := s31 hw hok.1
  intro k
  induction k with
  | zero =>
    intro n I hn hC hF hI hFr
    have hn : n = 2 * B.pn := by omega
    subst hn
    refine v_Wk_visit_33_2 ⟨fun q => ?_, fun _ => QV_i.mpr (h I hI hFr)⟩
    rw [hC.1] at q; exact absurd ((n_lt (by omega) (by omega)).mp q) (Nat.lt_irrefl _)
  | succ k ih =>
    intro n I hn hC hF hI hFr
    have hlt : n < 2 * B.pn := by omega
    have go : ∀ I1, FrV I I1 → WkR (vis B f s (n + 1) T0) I1 → Wp d Wk_visit (QV G) 2 [some (.ref 33), some (.int (nI s)), some (.int (nI n + 1)), none] [] I1 J := by
      intro I1 q1 q2
      rw [n_inc]
      exact ih (n + 1) I1 (by omega) (q1.ch hC) (by rw [q1.2.2.2.2 11 (by decide)]; exact hF) q2 (hFr.tr q1)
    refine v_Wk_visit_33_2 ⟨fun _ => c_Wk_next hd hw hC hF hf hok hlt ?_, fun q => absurd ((n_lt (by omega) (by omega)).mpr hlt) (by rw [hC.1] at q; exact q)⟩
    have evis : vis B f s (n + 1) T0 = match nx B f s n with
      | none => vis B f s n T0
      | some t => meet (vis B f s n T0) s n t := rfl
    rw [evis] at go
    have hTn : TI B (vis B f s n T0) := TI_vis hw hT hs (by omega)
    have hsn : s ∈ (vis B f s n T0).ord := vis_mem hs
    generalize vis B f s n T0 = T at hTn hsn hI go
    cases hnx : nx B f s n with
    | none =>
      rw [hnx] at go
      exact ⟨fun _ => go I FrV.rf hI, fun q => absurd (by decide) q⟩
    | some t =>
      rw [hnx] at go
      dsimp only at go ⊢
      have hokt := (nx_ok hw hok hlt hnx).1
      have ht2 := s31 hw hokt.1
      have hlen := hTn.len hw
      have hfas := (hTn.2.2.1 s hsn)
      have hfs0 := (hTn.2.1 s).mp hsn
      have w3s := hI.2.2.1 s hs2
      have w3t := hI.2.2.1 t ht2
      have hv := n_vp (a := t) (n := 1024) ht2 (by decide)
      have hvs := n_vp (a := s) (n := 1024) hs2 (by decide)
      have hfat : T.fa t ≤ 1024 := by
        by_cases e : T.fa t = 0
        · omega
        · have := (hTn.2.2.1 t ((hTn.2.1 t).mpr e)).2.1; omega
      -- the second half: more rows
      have again : ∀ (T1 : Tw) (I1 : I2), FrV I I1 → WkR T1 I1 → TI B T1 → s ∈ T1.ord → T1.fa t ≠ 0 → meet T s n t = T1.more s t → (((I1 37 t) = ((I1 37 s) + 1)) → Wp d Wk_visit (QV G) 2 [some (.ref 33), some (.int (nI s)), some (.int (nI n + 1)), none] [] (up2 I1 40 t (rmI ((I1 40 t) + (I1 40 s)) 1000003)) J) ∧ (¬ ((I1 37 t) = ((I1 37 s) + 1)) → Wp d Wk_visit (QV G) 2 [some (.ref 33), some (.int (nI s)), some (.int (nI n + 1)), none] [] I1 J) := by
        intro T1 I1 q1 q2 q3 q4 q5 q6
        rw [q6] at go
        have a1 := (q3.2.2.1 s q4)
        have a2 := (q3.2.2.1 t ((q3.2.1 t).mpr q5))
        have hl1 := q3.len hw
        rw [q2.2.2.1 s hs2, q2.2.2.1 t ht2, pred_eq (by omega) (by omega)]
        refine ⟨fun e => ?_, fun e => ?_⟩
        · rw [q2.2.2.2.1 t q5, q2.2.2.2.1 s ((q3.2.1 s).mp q4), nI_add]
          rw [show rmI (nI (T1.wy t + T1.wy s)) 1000003 = nI ((T1.wy t + T1.wy s) % 1000003) from n_rm (k := 1000003) (by omega) (by decide) (by decide)]
          exact go _ (q1.tr (FrV_up (by decide) (by decide))) (WkR_more q2 e)
        · have e2 : T1.more s t = T1 := by unfold Tw.more; rw [if_neg e]
          rw [e2] at go
          exact go _ q1 q2
      have htN : tN (nI t) = t := n_tN (by omega)
      have hsN : tN (nI s) = s := n_tN (by omega)
      refine ⟨fun q => absurd q (nI_pos (by omega)), fun _ => ⟨hv, ?_, ?_⟩⟩
      · rw [htN, hsN, w3t, w3s, pred_lt (by omega)]
        intro e0
        have htn : t ∉ T.ord := fun q => (hTn.2.1 t).mp q e0
        have hst : s ≠ t := fun q => htn (q ▸ hsn)
        have hTa := TI_add (m := n) hTn hsn hokt e0 (by omega)
        have hla := hTa.len hw
        have hla2 : (T.add s n t).ord.length = T.ord.length + 1 := by
          show (T.ord ++ [t]).length = _
          simp
        rw [hI.1]
        have hlt2 : T.ord.length < 1024 := by omega
        rw [show (nI T.ord.length < 1024) = (nI T.ord.length < nI 1024) from rfl, n_lt (by omega) (by decide), n_tN (by omega), n_inc T.ord.length]
        have emeet : meet T s n t = (T.add s n t).more s t := by unfold meet; rw [if_pos e0]
        have hWa := WkR_add (s := s) (t := t) (m := n) hI (by omega)
        have hFa : FrV I (up2 (up2 (up2 (up2 (up2 (up2 I 37 t (nI (T.fa s + 1) - 1)) 38 t (nI s)) 39 t (nI n)) 40 t 0) 36 T.ord.length (nI t)) 33 9 (nI (T.ord.length + 1))) :=
          (((((FrV_up (by decide) (by decide)).tr (FrV_up (by decide) (by decide))).tr (FrV_up (by decide) (by decide))).tr (FrV_up (by decide) (by decide))).tr (FrV_up (by decide) (by decide))).tr FrV_up9
        have A := again (T.add s n t) _ hFa hWa hTa (List.mem_append_left _ hsn) ((hTa.2.1 t).mp (List.mem_append_right _ (by simp))) emeet
        rw [pred_succ]
        refine ⟨fun _ => ⟨hvs, hv, hv, hv, hv, n_vp hlt2 (by decide), hv, hvs, ?_⟩, fun q => absurd hlt2 q⟩
        refine ⟨fun e1 => ⟨hv, hvs, hv, ?_⟩, fun e1 => ?_⟩
        · have B1 := A.1 (by simpa [up2] using e1)
          simpa [up2] using B1
        · exact A.2 (by simpa [up2] using e1)
      · intro e1
        have e0 : T.fa t ≠ 0 := by
          intro q
          apply e1
          rw [htN, w3t, pred_lt (by omega)]; exact q
        have emeet : meet T s n t = T.more s t := by unfold meet; rw [if_neg e0]
        have A := again T I FrV.rf hI hTn hsn e0 emeet
        rw [htN, hsN]
        exact ⟨hv, hvs, fun q => ⟨hv, hvs, hv, A.1 q⟩, A.2⟩
theorem c_Wk_visit (hd : 2 ≤ d) (hw : WFB B) (hf : f < 64) {T : Tw} (hT : TI B T) (hs : s ∈ T.ord) (hC : ChR B I) (hF : I 33 11 = nI f) (hI : WkR T I) (h : ∀ I', WkR (vis B f s (2 * B.pn) T) I' → FrV I I' → G I' J) : CV d Wk_visit [.ref 33, .int (nI s)] I J G :=
  CV.of (by omega) rfl (v_Wk_visit_33_0 (l_Wk_visit (by omega) hw hf hT hs h _ 0 I (Nat.zero_add _) hC hF hI FrV.rf))
end WALK
