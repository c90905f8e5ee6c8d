/-! the class: from -/
def m1L (n : Nat) (u : Nat → Int32) : Nat → Int32 := fun j => if j < n then -1 else u j
theorem m1L_0 {u : Nat → Int32} : m1L 0 u = u := by
  funext j
  simp only [m1L]
  rw [if_neg (Nat.not_lt_zero j)]
theorem m1L_up {u : Nat → Int32} {n : Nat} : upd (m1L n u) n (-1) = m1L (n + 1) u := by
  funext j
  simp only [upd, m1L]
  by_cases e : j = n
  · rw [if_pos e, if_pos (by omega)]
  · rw [if_neg e]
    by_cases e2 : j < n
    · rw [if_pos e2, if_pos (by omega)]
    · rw [if_neg e2, if_neg (by omega)]
section WALK3
variable {d : Nat} {B : Bx} {I : I2} {J : J2} {G : I2 → J2 → Prop} {F : Int32 → I2 → J2 → Prop} {s f m : Nat}
theorem l_Wk_head (hd : 2 ≤ d) (hw : WFB B) (hf : f < 64) (hs : okS B s) {I0 : I2} {x3 : Int32} (h : ∀ I', WkR (bfs B f s) I' → FrV I0 I' → G I' J) (hC0 : ChR B I0) (hF0 : I0 33 11 = nI f) : ∀ k n I, n + k = 1024 → WkR (bfsN B f s n) I → FrV I0 I → Wp d Wk_from (QV G) 127 [some (.ref 33), some (.int (nI s)), some (.int (nI f)), some (.int x3), some (.int (nI n))] [] I J := by
  intro k
  induction k with
  | zero =>
    intro n I hn hI hFr
    have hn : n = 1024 := by omega
    subst hn
    have hlen := (TI_bfsN (f := f) hw hs 1024).len hw
    have fin := QV_i.mpr (h I (by rw [bfs_eq]; exact hI) hFr)
    refine v_Wk_from_33_127 ⟨fun _ => ⟨fun q => absurd ((n_lt (b := 1024) (by decide) (by decide)).mp q) (Nat.lt_irrefl _), fun _ => fin⟩, fun _ => fin⟩
  | succ k ih =>
    intro n I hn hI hFr
    have hT := TI_bfsN (f := f) hw hs n
    have hlen := hT.len hw
    refine v_Wk_from_33_127 ⟨fun q => ⟨fun _ => ⟨n_vp (by omega) (by decide), ?_⟩, fun q2 => absurd ((n_lt (b := 1024) (by omega) (by decide)).mpr (by omega)) q2⟩, fun q => QV_i.mpr ?_⟩
    · rw [hI.1, n_lt (by omega) (by omega)] at q
      have e1 : (bfsN B f s n).ord[n]? = some ((bfsN B f s n).ord[n]) := List.getElem?_eq_getElem q
      rw [n_tN (by omega), hI.2.1 n _ e1]
      refine c_Wk_visit hd hw hf hT (List.mem_of_getElem? e1) (hFr.ch hC0) (by rw [hFr.2.2.2.2 11 (by decide)]; exact hF0) hI (fun I' q1 q2 => ?_)
      rw [n_inc]
      refine ih (n + 1) I' (by omega) ?_ (hFr.tr q2)
      have e2 : bfsN B f s (n + 1) = vis B f ((bfsN B f s n).ord[n]) (2 * B.pn) (bfsN B f s n) := by
        show (match (bfsN B f s n).ord[n]? with
          | none => bfsN B f s n
          | some s1 => vis B f s1 (2 * B.pn) (bfsN B f s n)) = _
        rw [e1]
      rw [e2]; exact q1
    · rw [hI.1, n_lt (by omega) (by omega)] at q
      have e2 := bfs_at (B := B) (f := f) (s0 := s) (n := n) (by omega) (by omega)
      exact h I (by rw [e2]; exact hI) hFr
theorem WkR_0 (hw : WFB B) (hs : okS B s) (hI : ∀ t, t < 1024 → I 37 t = -1) : WkR (bfs0 s) (up2 (up2 (up2 (up2 I 37 s 0) 40 s 1) 36 0 (nI s)) 33 9 1) := by
  refine ⟨?_, fun k x hx => ?_, fun t ht => ?_, fun t ht => ?_, fun t ht => ?_⟩
  · show _ = nI [s].length
    simp [up2, upd]; rfl
  · have hx : [s][k]? = some x := hx
    match k, hx with
    | 0, hx => simp at hx; subst hx; simp [up2, upd]
    | k + 1, hx => simp at hx
  · show _ = nI (updN (fun _ => 0) s 1 t) - 1
    by_cases e : t = s
    · subst e; simp [up2, upd, updN]; rfl
    · simp [up2, upd, updN, e]; rw [hI t ht]; rfl
  · have ht : updN (fun _ => 0) s 1 t ≠ 0 := ht
    show _ = nI (updN (fun _ => 0) s 1 t)
    by_cases e : t = s
    · subst e; simp [up2, upd, updN]; rfl
    · simp [updN, e] at ht
  · have ht : 1 < updN (fun _ => 0) s 1 t := ht
    unfold updN at ht
    split at ht
    · omega
    · exact absurd ht (show ¬ 1 < 0 from by decide)
theorem l_Wk_fill (hd : 2 ≤ d) (hw : WFB B) (hf : f < 64) (hs : okS B s) {x3 : Int32} (hC : ChR B I) (hF : I 33 11 = nI f) (h : ∀ I', WkR (bfs B f s) I' → FrV I I' → G I' J) : ∀ k n, n + k = 1024 → Wp d Wk_from (QV G) 76 [some (.ref 33), some (.int (nI s)), some (.int (nI f)), some (.int x3), some (.int (nI n))] [] (setR I 37 (m1L n (I 37))) J := by
  have hs2 := s31 hw hs.1
  intro k
  induction k with
  | zero =>
    intro n hn
    have hn : n = 1024 := by omega
    subst hn
    have hv := n_vp (a := s) (n := 1024) hs2 (by decide)
    refine v_Wk_from_33_76 ⟨fun q => absurd ((n_lt (b := 1024) (by decide) (by decide)).mp q) (Nat.lt_irrefl _), fun _ => ⟨hv, hv, ?_⟩⟩
    rw [n_tN (by omega)]
    have hF1 : FrV I (setR I 37 (m1L 1024 (I 37))) := ⟨⟨fun a ha hb => by simp [setR]; omega, fun k _ => by simp [setR]⟩, by simp [setR], by simp [setR], by simp [setR], fun k _ => by simp [setR]⟩
    have hF2 := ((((hF1.tr (FrV_up (a := 37) (k := s) (x := 0) (by decide) (by decide))).tr (FrV_up (a := 40) (k := s) (x := 1) (by decide) (by decide))).tr (FrV_up (a := 36) (k := 0) (x := nI s) (by decide) (by decide)))).tr (FrV_up9 (x := 1))
    refine l_Wk_head hd hw hf hs (I0 := I) h hC hF 1024 0 _ (by omega) ?_ hF2
    refine WkR_0 hw hs (fun t ht => ?_)
    simp [setR, m1L, ht]
  | succ k ih =>
    intro n hn
    have go := ih (n + 1) (by omega)
    refine v_Wk_from_33_76 ⟨fun _ => ⟨n_vp (by omega) (by decide), ?_⟩, fun q => absurd ((n_lt (b := 1024) (by omega) (by decide)).mpr (by omega)) q⟩
    rw [n_tN (by omega), setR_up, m1L_up, n_inc]
    exact go
theorem c_Wk_from (hd : 6 ≤ d) (hw : WFB B) (hB : BoxI 1 B I) (hC : CaR B I) (hs : okS B s) (hf : f < 64) (h : ∀ I', FrW I I' → I' 1 17 = 0 → ChR B I' → I' 33 10 = nI s → I' 33 11 = nI f → WkR (bfs B f s) I' → G I' J) : CV d Wk_from [.ref 33, .int (nI s), .int (nI f)] I J G := by
  have hs2 := s31 hw hs.1
  have walk : ∀ I1, ChR B I1 → FrW I I1 → I1 1 17 = 0 → Wp (d - 1) Wk_from (QV G) 76 [some (.ref 33), some (.int (nI s)), some (.int (nI f)), some (.int 0), some (.int 0)] [] (up2 (up2 I1 33 10 (nI s)) 33 11 (nI f)) J := by
    intro I1 q1 q2 q3
    have hF : FrW I1 (up2 (up2 I1 33 10 (nI s)) 33 11 (nI f)) := (FrW_up (by decide) (by decide)).tr (FrW_up (by decide) (by decide))
    have hC1 : ChR B (up2 (up2 I1 33 10 (nI s)) 33 11 (nI f)) := by
      refine ⟨by simpa [up2, upd] using q1.1, fun s hs m hm => ?_⟩
      have := q1.2 s hs m hm
      simpa [up2] using this
    have L := l_Wk_fill (d := d - 1) (B := B) (G := G) (J := J) (x3 := 0) (by omega) hw hf hs hC1 (by simp [up2, upd]) (fun I' z1 z2 => h I' (q2.tr (hF.tr z2.1)) ?_ (z2.ch hC1) ?_ ?_ z1) 1024 0 (by omega)
    · rw [m1L_0, setR_self] at L
      exact L
    · rw [z2.2.1]; simpa [up2] using q3
    · rw [z2.2.2.2.2 10 (by decide)]; simp [up2, upd]
    · rw [z2.2.2.2.2 11 (by decide)]; simp [up2, upd]
  refine CV.of (by omega) rfl (v_Wk_from_33_0 ⟨fun q => absurd q (nI_pos (by omega)), fun _ => ⟨fun _ => ⟨fun e => ?_, fun e => ?_⟩, fun q => absurd ((n_lt (b := 1024) (by omega) (by decide)).mpr (by omega)) q⟩⟩)
  · rcases hC with z | ⟨z1, z2, s0, f0, z3, z4, z5, z6, z7⟩
    · rw [z] at e; exact absurd e (by decide)
    · refine ⟨fun e2 => ⟨fun e3 => QV_i.mpr ?_, fun e3 => walk I z2 FrW.rf z1⟩, fun e2 => walk I z2 FrW.rf z1⟩
      have h0 := s31 hw z3.1
      rw [z5] at e2
      rw [z6] at e3
      have y1 : s0 = s := (n_eq (by omega) (by omega)).mp e2
      have y2 : f0 = f := (n_eq (by omega) (by omega)).mp e3
      subst y1; subst y2
      exact h I FrW.rf z1 z2 z5 z6 z7
  · exact c_Wk_chart (by omega) hw hB (fun I1 q1 q2 q3 q4 => walk I1 q1 q2 q4)
end WALK3
