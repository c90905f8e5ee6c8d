/-! the game: the model's rounds walked; the answer of both sides -/
/-- known and depth tell g -/
def SR (T : Tw) (g : Gv) (I : I2) : Prop := ∀ s, s ∈ T.ord → I 69 s = nI (g s).1 ∧ ((g s).1 ≠ 0 → I 70 s = nI (g s).2)
def dI (B : Bx) (f : Nat) (g : Gv) (n s : Nat) : Int32 := if wnB B f g n s then nI n else if lsB B f g s then -nI n else 0
theorem neg_ok : ∀ n, n < 1100 → n ≠ 0 → ¬ (-nI n = 0) ∧ ¬ (0 < -nI n) := by decide +kernel
theorem KnV_m1 {x : Int32} (h : KnV x) : ¬ x = -1 := by
  rcases h with e | e | e <;> rw [e] <;> decide
theorem optI_4 {g : Option Nat} (h : ∀ m, g = some m → m < 2 ^ 31) : optI g (-4) = -4 ↔ g = none := by
  cases g with
  | none => exact ⟨fun _ => rfl, fun _ => rfl⟩
  | some m =>
    refine ⟨fun q => ?_, fun q => by cases q⟩
    have e : nI m = -4 := q
    exact absurd (by rw [e]; decide) (nI_pos (h m rfl))
theorem allF {B : Bx} {f s n : Nat} : allP B f s (fun _ => false) n = decide (deg B f s n = 0) := by
  induction n with
  | zero => rfl
  | succ n ih =>
    cases hx : nx B f s n with
    | none => simp [allP, deg, ih, hx]
    | some t => simp [allP, deg, ih, hx]
section SV
variable {d : Nat} {V : Bv} {I : I2} {J : J2} {G : I2 → J2 → Prop} {F : Int32 → I2 → J2 → Prop} {f : Nat}
/-! the answers -/
def ltB (g : Gv) (s t : Nat) : Bool := if (g s).1 = 0 then decide ((g t).1 = 0) else decide ((g t).1 ≠ 0 ∧ (g t).1 ≠ (g s).1 ∧ (g t).2 + 1 = (g s).2)
noncomputable def gameS (V : Bv) (x : Int32) : Int32 := if x < 0 ∨ 2 < x then -1 else if V.B.pn = 0 then -4 else if x = 0 then nI (gm V.B V.lid V.f V.T V.s).1 else if x = 1 then nI (gm V.B V.lid V.f V.T V.s).2 else if openB V.B V.lid V.s then -4 else optI ((fmP V.B V.f V.s (ltB (gm V.B V.lid V.f V.T) V.s)).map slN) (-4)
theorem gameS_of (hw : WFV V) {g : Gv} (hG : GC V.B V.lid V.f V.T g) {x : Int32} (h0 : ¬ (x < 0 ∨ 2 < x)) (h1 : ¬ V.B.pn = 0) : gameS V x = if x = 0 then nI (g V.s).1 else if x = 1 then nI (g V.s).2 else if openB V.B V.lid V.s then -4 else optI ((fmP V.B V.f V.s (ltB g V.s)).map slN) (-4) := by
  have hcl : Clo V.B V.f V.T := Clob hw V.f
  have hs : V.s ∈ V.T.ord := bfs_self
  have e := gm_eq hcl hG hs
  have e2 : fmP V.B V.f V.s (ltB (gm V.B V.lid V.f V.T) V.s) = fmP V.B V.f V.s (ltB g V.s) := by
    refine fmP_congr (fun t ht => ?_)
    obtain ⟨m, hm, hnx⟩ := ht
    unfold ltB
    rw [e, gm_eq hcl hG (hcl V.s hs m t hm hnx)]
  unfold gameS
  rw [if_neg h0, if_neg h1, e, e2]
theorem GC_z {B : Bx} {o f : Nat} {T : Tw} {g : Gv} (hg : GC B o f T g) {s : Nat} (hs : s ∈ T.ord) : ((g s).1 = 0 → (g s).2 = 0) ∧ ((g s).2 = 0 → ¬ (g s).1 = 0 → trm B o f s) := by
  obtain ⟨a1, a2, a3, a4⟩ := hg s hs
  by_cases ht : trm B o f s
  · exact ⟨fun _ => by rw [a1 ht], fun _ _ => ht⟩
  · by_cases hl : ∃ t, suc B f s t ∧ (g t).1 = 2
    · obtain ⟨b1, ⟨t, _, _, b2⟩, _⟩ := a2 ht hl
      exact ⟨fun e => by omega, fun e => by omega⟩
    · by_cases hw : ∀ t, suc B f s t → (g t).1 = 1
      · obtain ⟨b1, ⟨t, _, b2⟩, _⟩ := a3 ht hw
        exact ⟨fun e => by omega, fun e => by omega⟩
      · have := a4 ht hl hw
        exact ⟨fun _ => by rw [this], fun _ e => absurd (by rw [this]) e⟩
theorem c_Eg_leadsTo {T : Tw} {g : Gv} {s t : Nat} (hd : 1 ≤ d) (hgs : (g s).1 ≤ 2 ∧ (g s).2 ≤ 1024) (hgt : (g t).1 ≤ 2 ∧ (g t).2 ≤ 1024) (hs2 : s < 1024) (ht2 : t < 1024) (hs : I 46 s = nI (g s).1 ∧ I 47 s = nI (g s).2) (ht : I 46 t = nI (g t).1 ∧ I 47 t = nI (g t).2) (h : F (bI (ltB g s t)) I J) : CI d Eg_leadsTo [.ref 41, .int (nI s), .int (nI t)] I J F := by
  have hv := n_vp (a := s) (n := 1024) hs2 (by decide)
  have hv2 := n_vp (a := t) (n := 1024) ht2 (by decide)
  refine CI.of (by omega) rfl (v_Eg_leadsTo_41_0 ?_)
  rw [n_tN (a := s) (by omega), n_tN (a := t) (by omega), hs.1, hs.2, ht.1, ht.2, n_e0 (by omega), n_e0 (by omega), n_eq (by omega) (by omega), n_inc, n_eq (by omega) (by omega)]
  unfold ltB at h
  refine ⟨hv, fun e => ⟨hv2, fun e2 => QI_i.mpr ?_, fun e2 => QI_i.mpr ?_⟩, fun e => ⟨hv2, fun e2 => QI_i.mpr ?_, fun e2 => ⟨hv2, hv, fun e3 => QI_i.mpr ?_, fun e3 => ⟨hv2, hv, fun e4 => QI_i.mpr ?_, fun e4 => QI_i.mpr ?_⟩⟩⟩⟩
  · rw [if_pos e, decide_eq_true e2] at h; exact h
  · rw [if_pos e, decide_eq_false e2] at h; exact h
  · rw [if_neg e, decide_eq_false (fun q => q.1 e2)] at h; exact h
  · rw [if_neg e, decide_eq_false (fun q => q.2.1 e3)] at h; exact h
  · rw [if_neg e, decide_eq_true ⟨e2, e3, e4⟩] at h; exact h
  · rw [if_neg e, decide_eq_false (fun q => e4 q.2.2)] at h; exact h
theorem c_Eg_firstSlide {T : Tw} {g : Gv} {s : Nat} (hd : 3 ≤ d) (hw : WFV V) (hV : CBx 1 V I) (hf : f < 64) (eT : bfs V.B f V.s = T) (hA : WkA V f I) (hb : ∀ s, s ∈ T.ord → (g s).1 ≤ 2 ∧ (g s).2 ≤ 1024) (hS : ∀ s, s ∈ T.ord → I 46 s = nI (g s).1 ∧ I 47 s = nI (g s).2) (hs : s ∈ T.ord) (h : F (if openB V.B V.lid s then -4 else optI ((fmP V.B f s (ltB g s)).map slN) (-4)) I J) : CI d Eg_firstSlide [.ref 41, .int (nI s)] I J F := by
  have hp5 := hw.1.1
  have hT : TI V.B T := eT ▸ TIb hw f
  have hcl : Clo V.B f T := eT ▸ Clob hw f
  have hok := (hT.2.2.1 _ hs).1
  have hs2 := s31 hw.1 hok.1
  refine CI.of (by omega) rfl (v_Eg_firstSlide_41_0 ?_)
  refine c_Bx_isOpen_1 (by omega) hw.1 hV.1 hV.2.1 hw.2.1 (by omega) ?_
  rw [show (decide (0 < V.B.pn) && decide (pl s V.lid = V.B.dp V.lid)) = openB V.B V.lid s from rfl, bI_0]
  refine ⟨fun e => ?_, fun e => QI_i.mpr ?_⟩
  · rw [if_neg (by rw [e]; decide)] at h
    have loop : ∀ k n, n + k = 2 * V.B.pn → ((List.range (2 * V.B.pn)).drop n).find? (mvP V.B f s (ltB g s)) = fmP V.B f s (ltB g s) → Wp (d - 1) Eg_firstSlide (QI F) 16 [some (.ref 41), some (.int (nI s)), some (.int (nI n)), none] [] I J := by
      intro k
      induction k with
      | zero =>
        intro n hn he
        have hn : n = 2 * V.B.pn := by omega
        subst hn
        rw [List.drop_of_length_le (by simp)] at he
        refine v_Eg_firstSlide_41_16 ⟨fun q => ?_, fun _ => QI_i.mpr ?_⟩
        · rw [hA.2.1.1] at q; exact absurd ((n_lt (by omega) (by omega)).mp q) (Nat.lt_irrefl _)
        · rw [← he] at h; exact h
      | succ k ih =>
        intro n hn he
        have hlt : n < 2 * V.B.pn := by omega
        rw [fmPN hlt] at he
        refine v_Eg_firstSlide_41_16 ⟨fun _ => c_Wk_next (by omega) hw.1 hA.2.1 hA.2.2.2.1 hf hok hlt ?_, fun q => absurd ((n_lt (by omega) (by omega)).mpr hlt) (by rw [hA.2.1.1] at q; exact q)⟩
        rw [n_inc]
        cases hnx : nx V.B f s n with
        | none =>
          have hp : mvP V.B f s (ltB g s) n = false := by unfold mvP; rw [hnx]
          rw [if_neg (by rw [hp]; decide)] at he
          exact ⟨fun _ => ih (n + 1) (by omega) he, fun q => absurd (by decide) q⟩
        | some t =>
          have htT := hcl s hs n t hlt hnx
          have ht2 := s31 hw.1 (hT.2.2.1 _ htT).1.1
          have hp : mvP V.B f s (ltB g s) n = ltB g s t := by unfold mvP; rw [hnx]
          rw [hp] at he
          refine ⟨fun q => absurd q (nI_pos (by omega)), fun _ => c_Eg_leadsTo (T := T) (by omega) (hb s hs) (hb t htT) hs2 ht2 (hS s hs) (hS t htT) ?_⟩
          rw [bI_0]
          refine ⟨fun e2 => ?_, fun e2 => CI.of (by omega) rfl (v_Wk_slideOf_0 (QI_i.mpr (QI_i.mpr ?_)))⟩
          · rw [if_neg (by rw [e2]; decide)] at he
            exact ih (n + 1) (by omega) he
          · rw [if_pos (by simpa using e2)] at he
            rw [← he] at h
            rw [n_slW (by omega)]; exact h
    exact loop _ 0 (Nat.zero_add _) rfl
  · rw [if_pos (by simpa using e)] at h; exact h
theorem c_Sb_game (hd : 7 ≤ d) (hw : WFV V) (hV : CBx 1 V I) (hC : CaR V.B I) (x : Int32) (h : ∀ I', FrG I I' → CaR V.B I' → (¬ (x < 0 ∨ 2 < x) → ¬ V.B.pn = 0 → ∃ g, GCb V.B V.lid V.f V.T g) → F (gameS V x) I' J) : CI d Sb_game [.ref 0, .int x] I J F := by
  have hf := f64 hw.1 hw.2.2.2.1
  have hp5 := hw.1.1
  have hs2 := s31 hw.1 hw.2.2.1.1
  have hv := n_vp (a := V.s) (n := 1024) hs2 (by decide)
  refine CI.of (by omega) rfl (v_Sb_game_0_0 ?_)
  rw [hV.1.1, n_e0 (by omega), hV.2.2.1, hV.2.2.2.1]
  refine ⟨fun e => ?_, fun e0 => ⟨fun e => ?_, fun e1 => ⟨fun e => ?_, fun e2 => ?_⟩⟩⟩
  · rw [show gameS V x = -1 from if_pos (Or.inl e)] at h; exact QI_i.mpr (h I FrG.rf hC (fun q => absurd (Or.inl e) q))
  · rw [show gameS V x = -1 from if_pos (Or.inr e)] at h; exact QI_i.mpr (h I FrG.rf hC (fun q => absurd (Or.inr e) q))
  · have e0 : ¬ (x < 0 ∨ 2 < x) := fun q => q.elim e0 e1
    rw [show gameS V x = -4 from (if_neg e0).trans (if_pos e)] at h; exact QI_i.mpr (h I FrG.rf hC (fun _ q => absurd e q))
  · have e0 : ¬ (x < 0 ∨ 2 < x) := fun q => q.elim e0 e1
    refine c_W_from (by omega) hw hV hC hf (fun I1 q1 q2 q3 => c_Eg_solve (by omega) hw q2 hf rfl q3 (fun I2 g z hG hS => ?_))
    rw [gameS_of hw hG.1 e0 e2] at h
    have hA2 := z.wka q3
    have hV2 := z.g.cbx q2
    have h := h I2 (q1.tr z.g) (hA2.ca hw hf) (fun _ _ => ⟨g, hG⟩)
    have hs : V.s ∈ V.T.ord := bfs_self
    obtain ⟨s1, s2⟩ := hS _ hs
    rw [hV2.2.2.1, n_tN (by omega), s1, s2]
    refine ⟨fun e3 => ⟨hv, QI_i.mpr ?_⟩, fun e3 => ⟨fun e4 => ⟨hv, QI_i.mpr ?_⟩, fun e4 => ?_⟩⟩
    · rw [if_pos e3] at h; exact h
    · rw [if_neg e3, if_pos e4] at h; exact h
    · rw [if_neg e3, if_neg e4] at h
      exact c_Eg_firstSlide (by omega) hw hV2 hf rfl hA2 hG.2 hS hs (QI_i.mpr h)
end SV
