section THR2
variable {d : Nat} {B : Bx} {J : J2} {G : I2 → J2 → Prop} {F : Int32 → I2 → J2 → Prop} {s f m s0 : Nat}
def thD (B : Bx) (f s0 n : Nat) (I : I2) : Prop := ∀ j, j < n → ∀ a, (bfs B f s0).ord[j]? = some a → ∀ b, b < 2 * B.pn → I 68 (10 * a + b) = nxI B f a b
theorem l_Md_thr83 (hd : 5 ≤ d) (hw : WFB B) (hf : f < 64) {T0 : Tw} {I0 : I2} {n : Nat} {x2 : Int32} (hT : TI B T0) (hz : TZ T0) (hs : s ∈ T0.ord) (hB0 : BoxM B I0) (h : ∀ I', WmR (vis B f s (2 * B.pn) T0) I' → FrQ I0 I' → thD B f s0 n I' → (∀ b, b < 2 * B.pn → I' 68 (10 * s + b) = nxI B f s b) → Wp d Md_goesThrough (QV G) 64 [some (.ref 57), some (.int (nI f)), some (.int x2), some (.int (nI n + 1)), none, none, none] [] I' J) : ∀ k m I, m + k = 2 * B.pn → WmR (vis B f s m T0) I → FrQ I0 I → thD B f s0 n I → (∀ b, b < m → I 68 (10 * s + b) = nxI B f s b) → Wp d Md_goesThrough (QV G) 83 [some (.ref 57), some (.int (nI f)), some (.int x2), some (.int (nI n)), some (.int (nI s)), some (.int (nI m)), none] [] I J := by
  have hp5 := hw.1
  have hok := (hT.2.2.1 s hs).1
  have hs2 := s31 hw hok.1
  have e2 : (2 : Int32) * nI B.pn = nI (2 * B.pn) := pk_mul 2 _
  intro k
  induction k with
  | zero =>
    intro m I hm hI hFr h1 h2
    have hm : m = 2 * B.pn := by omega
    subst hm
    have hB := hFr.box hB0
    refine v_Md_goesThrough_57_83 ⟨fun q => ?_, fun _ => h I hI hFr h1 h2⟩
    rw [hB.1, e2] at q; exact absurd ((n_lt (by omega) (by omega)).mp q) (Nat.lt_irrefl _)
  | succ k ih =>
    intro m I hm hI hFr h1 h2
    have hlt : m < 2 * B.pn := by omega
    have hB := hFr.box hB0
    have hm2 : m % 2 < 2 := Nat.mod_lt _ (by decide)
    have go := ih (m + 1)
    have evis : vis B f s (m + 1) T0 = match nx B f s m with
      | none => vis B f s m T0
      | some t => meet (vis B f s m T0) s m t := rfl
    rw [evis] at go
    have hTn : TI B (vis B f s m T0) := TI_vis hw hT hs (by omega)
    have hzn : TZ (vis B f s m T0) := TZ_vis hw hT hz hs (by omega)
    have hsn : s ∈ (vis B f s m T0).ord := vis_mem hs
    generalize vis B f s m T0 = T at hTn hzn hsn hI go
    have e5 : nI m / 2 = nI (m / 2) := n_div (k := 2) (by omega) (by decide) (by decide)
    have e6 : rmI (nI m) 2 = nI (m % 2) := n_rm (k := 2) (by omega) (by decide) (by decide)
    have hv := n_vp (a := 10 * s + m) (n := 10240) (by omega) (by decide)
    -- the entry that is written
    have ent : ∀ I1 : I2, I1 68 = upd (I 68) (10 * s + m) (nxI B f s m) → thD B f s0 n I1 ∧ ∀ b, b < m + 1 → I1 68 (10 * s + b) = nxI B f s b := by
      intro I1 q
      refine ⟨fun j hj a ha b hb => ?_, fun b hb => ?_⟩
      · rw [q]
        simp only [upd]
        split
        · next e =>
          have a1 : a = s := by omega
          have a2 : b = m := by omega
          rw [a1, a2]
        · exact h1 j hj a ha b hb
      · rw [q]
        simp only [upd]
        split
        · next e =>
          have a2 : b = m := by omega
          rw [a2]
        · next e => exact h2 b (by omega)
    refine v_Md_goesThrough_57_83 ⟨fun _ => ?_, fun q => absurd ((n_lt (by omega) (by omega)).mpr hlt) (by rw [hB.1, e2] at q; exact q)⟩
    rw [e5, e6, sp10, n_tN (by omega)]
    refine c_Md_may (by omega) hw hB (by omega) (by omega) hf hm2 ?_
    rw [bI_0]
    refine ⟨fun e => ⟨hv, ?_⟩, fun e => ?_⟩
    · have e9 : nx B f s m = none := by unfold nx; rw [e]; rfl
      have e8 : nxI B f s m = -1 := by unfold nxI; rw [e9]
      rw [e9] at go
      dsimp only at go
      have hE := ent (up2 I 68 (10 * s + m) (-1)) (by rw [← e8]; simp [up2])
      rw [n_inc m]
      refine go _ (by omega) ?_ (hFr.tr (FrQ_up (by decide) (by decide))) hE.1 hE.2
      obtain ⟨w1, w2, w3, w4, w5⟩ := hI
      exact ⟨by simpa [up2] using w1, fun k x hx => by simpa [up2] using w2 k x hx, fun x hx => by simpa [up2] using w3 x hx, fun x hx => by simpa [up2] using w4 x hx, fun x hx => by simpa [up2] using w5 x hx⟩
    · have e : mayB B s f (m / 2) (m % 2) = true := by simpa using e
      have hpl := may_place e
      have hdp := (hw.2.2.1 (m / 2) (by omega)).2.2
      have e9 : nx B f s m = some (behB B s (m / 2) (m % 2) B.pn) := by unfold nx; rw [e]; rfl
      have e8 : nxI B f s m = nI (behB B s (m / 2) (m % 2) B.pn) := by unfold nxI; rw [e9]
      have hokt := (nx_ok hw hok hlt e9).1
      rw [e9] at go
      dsimp only at go
      refine c_Md_behind (by omega) hw hB hok.1 (by omega) hm2 (fun q => by have := hpl.2 (by omega); omega) hpl.1 ⟨hv, hv, ?_⟩
      generalize behB B s (m / 2) (m % 2) B.pn = t at go e8 hokt ⊢
      rw [show up2 I 68 (10 * s + m) (nI t) 68 (10 * s + m) = nI t from by simp [up2, upd]]
      have hI2 : WmR T (up2 I 68 (10 * s + m) (nI t)) := by
        obtain ⟨w1, w2, w3, w4, w5⟩ := hI
        exact ⟨by simpa [up2] using w1, fun k x hx => by simpa [up2] using w2 k x hx, fun x hx => by simpa [up2] using w3 x hx, fun x hx => by simpa [up2] using w4 x hx, fun x hx => by simpa [up2] using w5 x hx⟩
      refine c_Md_meets (by omega) hw hTn hzn hsn hokt (by omega) hI2 (fun I' q1 q2 => ?_)
      have hE := ent I' (by rw [q2.2, e8]; simp [up2])
      rw [n_inc m]
      exact go I' (by omega) q1 (hFr.tr ((FrQ_up (by decide) (by decide)).tr q2.1)) hE.1 hE.2
theorem l_Md_thr64 (hd : 5 ≤ d) (hw : WFB B) (hf : f < 64) (hs : okS B s0) {I0 : I2} {x2 : Int32} (hB0 : BoxM B I0) (h : ∀ I', WmR (bfs B f s0) I' → FrQ I0 I' → (∀ a, a ∈ (bfs B f s0).ord → ∀ b, b < 2 * B.pn → I' 68 (10 * a + b) = nxI B f a b) → G I' J) : ∀ k n I, n + k = 1024 → WmR (bfsN B f s0 n) I → FrQ I0 I → thD B f s0 n I → Wp d Md_goesThrough (QV G) 64 [some (.ref 57), some (.int (nI f)), some (.int x2), some (.int (nI n)), none, none, none] [] I J := by
  have fin : ∀ n I, n ≤ 1024 → (bfsN B f s0 n).ord.length ≤ n → WmR (bfsN B f s0 n) I → FrQ I0 I → thD B f s0 n I → G I J := by
    intro n I hn hl hI hFr hD
    have e2 := bfs_at (B := B) (f := f) (s0 := s0) hl hn
    refine h I (by rw [e2]; exact hI) hFr (fun a ha b hb => ?_)
    obtain ⟨j, hj⟩ := List.getElem?_of_mem ha
    have hj2 := (List.getElem?_eq_some_iff.mp hj).1
    rw [e2] at hj2
    exact hD j (by omega) a hj b hb
  intro k
  induction k with
  | zero =>
    intro n I hn hI hFr hD
    have hn : n = 1024 := by omega
    subst hn
    have hlen := (TI_bfsN (f := f) hw hs 1024).len hw
    refine v_Md_goesThrough_57_64 ⟨fun q => ?_, fun _ => QV_i.mpr (fin 1024 I (Nat.le_refl _) hlen hI hFr hD)⟩
    rw [hI.1, n_lt (by omega) (by omega)] at q; omega
  | succ k ih =>
    intro n I hn hI hFr hD
    have hT := TI_bfsN (f := f) hw hs n
    have hz := TZ_bfsN (f := f) hw hs n
    have hlen := hT.len hw
    refine v_Md_goesThrough_57_64 ⟨fun q => ⟨n_vp (by omega) (by decide), ?_⟩, fun q => QV_i.mpr ?_⟩
    · rw [hI.1, n_lt (by omega) (by omega)] at q
      have e1 : (bfsN B f s0 n).ord[n]? = some ((bfsN B f s0 n).ord[n]) := List.getElem?_eq_getElem q
      have e3 := bfs_pre (by omega) e1
      have hmem := List.mem_of_getElem? e1
      have hgo := ih (n + 1)
      have e2 : bfsN B f s0 (n + 1) = vis B f ((bfsN B f s0 n).ord[n]) (2 * B.pn) (bfsN B f s0 n) := by
        show (match (bfsN B f s0 n).ord[n]? with
          | none => bfsN B f s0 n
          | some s1 => vis B f s1 (2 * B.pn) (bfsN B f s0 n)) = _
        rw [e1]
      rw [e2] at hgo
      rw [n_tN (by omega), hI.2.1 n _ e1]
      refine l_Md_thr83 hd hw hf hT hz hmem hB0 (fun I' q1 q2 q3 q4 => ?_) (2 * B.pn) 0 I (Nat.zero_add _) hI hFr hD (fun b hb => absurd hb (Nat.not_lt_zero b))
      rw [n_inc]
      refine hgo I' (by omega) q1 q2 (fun j hj a ha b hb => ?_)
      by_cases e : j = n
      · subst e
        rw [e3] at ha
        cases ha
        exact q4 b hb
      · exact q3 j (by omega) a ha b hb
    · rw [hI.1, n_lt (by omega) (by omega)] at q
      exact fin n I (by omega) (by omega) hI hFr hD
theorem WmR_0 {I : I2} (hI : ∀ t, t < 1024 → I 64 t = -1) (hI2 : ∀ t, t < 1024 → I 67 t = 0) : WmR (bfs0 s) (up2 (up2 (up2 (up2 I 64 s 0) 67 s 1) 63 0 (nI s)) 57 11 1) := by
  refine ⟨?_, fun k x hx => ?_, fun t ht => ?_, fun t ht => ?_, fun t ht => ?_⟩
  · show _ = nI [s].length
    simp [up2, upd]; rfl
  · have hx : [s][k]? = some x := hx
    match k, hx with
    | 0, hx => simp at hx; subst hx; simp [up2, upd]
    | k + 1, hx => simp at hx
  · show _ = nI (updN (fun _ => 0) s 1 t) - 1
    by_cases e : t = s
    · subst e; simp [up2, upd, updN]; rfl
    · simp [up2, upd, updN, e]; rw [hI t ht]; rfl
  · show _ = nI (updN (fun _ => 0) s 1 t)
    by_cases e : t = s
    · subst e; simp [up2, upd, updN]; rfl
    · simp [up2, upd, updN, e]; rw [hI2 t ht]; rfl
  · have ht : 1 < updN (fun _ => 0) s 1 t := ht
    unfold updN at ht
    split at ht
    · omega
    · exact absurd ht (show ¬ 1 < 0 from by decide)
def zrL (n : Nat) (u : Nat → Int32) : Nat → Int32 := fun j => if j < n then 0 else u j
theorem zrL_0 {u : Nat → Int32} : zrL 0 u = u := by
  funext j
  simp only [zrL]
  rw [if_neg (Nat.not_lt_zero j)]
theorem zrL_up {u : Nat → Int32} {n : Nat} : upd (zrL n u) n 0 = zrL (n + 1) u := by
  funext j
  simp only [upd, zrL]
  by_cases e : j = n
  · rw [if_pos e, if_pos (by omega)]
  · rw [if_neg e]
    by_cases e2 : j < n
    · rw [if_pos e2, if_pos (by omega)]
    · rw [if_neg e2, if_neg (by omega)]
theorem c_Md_goesThrough {I : I2} (hd : 6 ≤ d) (hw : WFB B) (hB : BoxM B I) (h5 : I 58 5 = nI s0) (hs : okS B s0) (hf : f < 64) (h : ∀ I', WmR (bfs B f s0) I' → FrQ I I' → (∀ a, a ∈ (bfs B f s0).ord → ∀ b, b < 2 * B.pn → I' 68 (10 * a + b) = nxI B f a b) → G I' J) : CV d Md_goesThrough [.ref 57, .int (nI f)] I J G := by
  have hs2 := s31 hw hs.1
  have fill : ∀ k n, n + k = 1024 → Wp (d - 1) Md_goesThrough (QV G) 2 [some (.ref 57), some (.int (nI f)), some (.int (nI n)), none, none, none, none] [] (setR (setR I 64 (m1L n (I 64))) 67 (zrL n (I 67))) J := by
    intro k
    induction k with
    | zero =>
      intro n hn
      have hn : n = 1024 := by omega
      subst hn
      have hv := n_vp (a := s0) (n := 1024) hs2 (by decide)
      have e5 : setR (setR I 64 (m1L 1024 (I 64))) 67 (zrL 1024 (I 67)) 58 5 = nI s0 := by simpa [setR] using h5
      refine v_Md_goesThrough_57_2 ⟨fun q => absurd ((n_lt (b := 1024) (by decide) (by decide)).mp q) (Nat.lt_irrefl _), fun _ => ?_⟩
      rw [e5, n_tN (by omega)]
      refine ⟨hv, hv, ?_⟩
      have hF1 : FrQ I (setR (setR I 64 (m1L 1024 (I 64))) 67 (zrL 1024 (I 67))) := by
        refine ⟨fun a ha hb => ?_, fun k _ => by simp [setR], fun t h => by simp [setR]; exact h⟩
        have a1 : a ≠ 64 := by omega
        have a2 : a ≠ 67 := by omega
        simp [setR, a1, a2]
      have hF2 := ((((hF1.tr (FrQ_up (a := 64) (k := s0) (x := 0) (by decide) (by decide))).tr (FrQ_up (a := 67) (k := s0) (x := 1) (by decide) (by decide))).tr (FrQ_up (a := 63) (k := 0) (x := nI s0) (by decide) (by decide)))).tr (FrQ_up11 (x := 1))
      refine l_Md_thr64 (d := d - 1) (by omega) hw hf hs (I0 := I) hB h 1024 0 _ (by omega) ?_ hF2 (fun j hj => absurd hj (Nat.not_lt_zero j))
      exact WmR_0 (fun t ht => by simp [setR, m1L, ht]) (fun t ht => by simp [setR, zrL, ht])
    | succ k ih =>
      intro n hn
      have go := ih (n + 1) (by omega)
      have hv := n_vp (a := n) (n := 1024) (by omega) (by decide)
      refine v_Md_goesThrough_57_2 ⟨fun _ => ⟨hv, hv, ?_⟩, fun q => absurd ((n_lt (b := 1024) (by omega) (by decide)).mpr (by omega)) q⟩
      have e9 : up2 (up2 (setR (setR I 64 (m1L n (I 64))) 67 (zrL n (I 67))) 64 n (-1)) 67 n 0 = setR (setR I 64 (m1L (n + 1) (I 64))) 67 (zrL (n + 1) (I 67)) := by
        rw [← m1L_up, ← zrL_up]
        funext i
        simp only [up2, setR]
        by_cases a1 : i = 67
        · subst a1; simp
        · by_cases a2 : i = 64
          · subst a2; simp
          · simp [a1, a2]
      rw [n_tN (by omega), n_inc, e9]
      exact go
  have L := fill 1024 0 (by omega)
  rw [m1L_0, zrL_0, setR_self] at L
  have e67 : setR I 67 (I 67) = I := setR_self
  rw [e67] at L
  exact CV.of (by omega) rfl (v_Md_goesThrough_57_0 L)
end THR2
