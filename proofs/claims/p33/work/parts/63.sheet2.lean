/-! sheets: the calls of the class -/
def ShCs (S : Nat → Shv) (I : I2) (J : J2) : Prop := ∀ j, j < 4 → ShC (49 + 2 * j) (S j) I J
def ShMs (S : Nat → Shv) (I : I2) (J : J2) : Prop := ∀ j, j < 4 → ShM j (S j) I J
def WFSs (S : Nat → Shv) : Prop := ∀ j, j < 4 → WFS (S j)
def FrSh (I I' : I2) (J J' : J2) : Prop := ∀ a, (a < 49 ∨ 56 < a) → I' a = I a ∧ J' a = J a
theorem FrSh.rf {I : I2} {J : J2} : FrSh I I J J := fun _ _ => ⟨rfl, rfl⟩
theorem FrSh.tr {I0 I1 I2 : I2} {J0 J1 J2 : J2} (h1 : FrSh I0 I1 J0 J1) (h2 : FrSh I1 I2 J1 J2) : FrSh I0 I2 J0 J2 := fun a h => ⟨(h2 a h).1.trans (h1 a h).1, (h2 a h).2.trans (h1 a h).2⟩
theorem Pl_of {i : Nat} (hi : i < 4) : Pl (49 + 2 * i) := by
  match i, hi with
  | 0, _ => exact Or.inl rfl
  | 1, _ => exact Or.inr (Or.inl rfl)
  | 2, _ => exact Or.inr (Or.inr (Or.inl rfl))
  | 3, _ => exact Or.inr (Or.inr (Or.inr rfl))
theorem four {A : Nat → Prop} {i : Nat} (hi : i < 4) (h : A (49 + 2 * i)) : (nI i = 0 → A 49) ∧ (nI i = 1 → A 51) ∧ (nI i = 2 → A 53) ∧ (nI i = 3 → A 55) := by
  match i, hi with
  | 0, _ => exact ⟨fun _ => h, fun q => absurd q (by decide), fun q => absurd q (by decide), fun q => absurd q (by decide)⟩
  | 1, _ => exact ⟨fun q => absurd q (by decide), fun _ => h, fun q => absurd q (by decide), fun q => absurd q (by decide)⟩
  | 2, _ => exact ⟨fun q => absurd q (by decide), fun q => absurd q (by decide), fun _ => h, fun q => absurd q (by decide)⟩
  | 3, _ => exact ⟨fun q => absurd q (by decide), fun q => absurd q (by decide), fun q => absurd q (by decide), fun _ => h⟩
theorem ShC_congr {p : Nat} {S : Shv} {I I' : I2} {J J' : J2} (h : ShC p S I J) (h1 : I' p = I p) (h2 : J' (p + 1) = J (p + 1)) : ShC p S I' J' := by
  cases S with
  | none => show I' p 0 = 0; rw [h1]; exact h
  | some v =>
    obtain ⟨l, n, g⟩ := v
    obtain ⟨a, b, c, e⟩ := h
    exact ⟨by rw [h1]; exact a, by rw [h1]; exact b, by rw [h1]; exact c, fun k hk => by rw [h2]; exact e k hk⟩
theorem ShCs_upd {S : Nat → Shv} {I I' : I2} {J J' : J2} {i : Nat} {v : Shv} (hS : ShCs S I J) (hv : ShC (49 + 2 * i) v I' J') (h1 : ∀ a, a ≠ 49 + 2 * i → I' a = I a) (h2 : ∀ a, a ≠ 49 + 2 * i + 1 → J' a = J a) : ShCs (updS S i v) I' J' := by
  intro j hj
  unfold updS
  by_cases e : j = i
  · rw [if_pos e, e]; exact hv
  · rw [if_neg e]
    exact ShC_congr (hS j hj) (h1 _ (by omega)) (h2 _ (by omega))
def putS (S : Shv) (k : Nat) (v : Int64) : Shv := match S with
  | none => none
  | some (l, sz, g) => some (l, sz, vp_updL g k (narL l v))
def filmS (s i : Nat) (S : Shv) : Nat → Shv
  | 0 => S
  | p + 1 => putS (filmS s i S p) (i + p) (lN (pl s p))
def sheetF (S : Nat → Shv) (x y n : Int32) : Int32 × (Nat → Shv) := if ¬ inN x 4 ∨ ¬ inN y 4 ∨ 24 < n then (-1, S) else if n < 0 then (-14, S) else (n, updS S (tN x) (some (tN y, tN n, fun _ => 0)))
def dropF (S : Nat → Shv) (x : Int32) : Int32 × (Nat → Shv) := if ¬ inN x 4 then (-1, S) else match S (tN x) with
  | none => (-11, S)
  | some v => (nI v.2.1, updS S (tN x) none)
def itemF (S : Nat → Shv) (x y i : Int32) (v : Int64) : Int32 × (Nat → Shv) := if ¬ inN x 4 ∨ ¬ inN y 4 then (-1, S) else if faultS (S (tN x)) y i 1 = 0 then (1, updS S (tN x) (putS (S (tN x)) (tN i) v)) else (faultS (S (tN x)) y i 1, S)
def filmF (V : Bv) (S : Nat → Shv) (x y i : Int32) : Int32 × (Nat → Shv) := if V.B.pn = 0 ∨ ¬ inN x 4 ∨ ¬ inN y 4 then (-1, S) else if faultS (S (tN x)) y i (nI V.B.pn) = 0 then (nI V.B.pn, updS S (tN x) (filmS V.s (tN i) (S (tN x)) V.B.pn)) else (faultS (S (tN x)) y i (nI V.B.pn), S)
def copyF (S : Nat → Shv) (x i y j n : Int32) : Int32 × (Nat → Shv) := if ¬ inN x 4 ∨ ¬ inN y 4 then (-1, S) else match S (tN x), S (tN y) with
  | none, _ => (-11, S)
  | some _, none => (-11, S)
  | some (l, sz, g), some (l', sz', g') => if l = l' then (if hldB sz i n then (if hldB sz' j n then (n, updS S (tN y) (some (l', sz', va_cpy g g' (tN i) (tN j) (tN n)))) else (-13, S)) else (-13, S)) else (-12, S)
theorem filmS_some {s i l sz : Nat} {g : Nat → Int64} : ∀ p, ∃ g', filmS s i (some (l, sz, g)) p = some (l, sz, g') := by
  intro p
  induction p with
  | zero => exact ⟨g, rfl⟩
  | succ p ih =>
    obtain ⟨g', e⟩ := ih
    exact ⟨_, by simp only [filmS]; rw [e]; rfl⟩
theorem WFSs_upd {S : Nat → Shv} {i : Nat} {v : Shv} (h : WFSs S) (hv : WFS v) : WFSs (updS S i v) := by
  intro j hj
  unfold updS
  split
  · exact hv
  · exact h j hj
theorem WFS_none : WFS none := fun _ _ _ q => by cases q
theorem WFS_some {l n : Nat} {g : Nat → Int64} (h1 : l < 4) (h2 : n ≤ 24) : WFS (some (l, n, g)) := fun _ _ _ q => by cases q; exact ⟨h1, h2⟩
theorem WFS_put {S : Shv} {k : Nat} {v : Int64} (h : WFS S) : WFS (putS S k v) := by
  unfold putS
  split
  · exact WFS_none
  · next l sz g => exact WFS_some (h l sz g rfl).1 (h l sz g rfl).2
theorem WFS_film {S : Shv} {s i : Nat} (h : WFS S) : ∀ p, WFS (filmS s i S p) := by
  intro p
  induction p with
  | zero => exact h
  | succ p ih => exact WFS_put ih
theorem WF_sheetF {S : Nat → Shv} {x y n : Int32} (h : WFSs S) : WFSs (sheetF S x y n).2 := by
  unfold sheetF
  split
  · exact h
  · next hb =>
    simp only [not_or, Classical.not_not] at hb
    split
    · exact h
    · next h0 =>
      obtain ⟨j, hj, rfl⟩ := in_of hb.2.1 (by decide)
      obtain ⟨k, hk, rfl⟩ := le_of (n := 24) h0 hb.2.2 (by decide)
      rw [n_tN (a := j) (by omega), n_tN (a := k) (by omega)]
      exact WFSs_upd h (WFS_some hj hk)
theorem WF_dropF {S : Nat → Shv} {x : Int32} (h : WFSs S) : WFSs (dropF S x).2 := by
  unfold dropF
  split
  · exact h
  · split
    · exact h
    · exact WFSs_upd h WFS_none
theorem WF_itemF {S : Nat → Shv} {x y i : Int32} {v : Int64} (h : WFSs S) : WFSs (itemF S x y i v).2 := by
  unfold itemF
  split
  · exact h
  · next hb =>
    simp only [not_or, Classical.not_not] at hb
    obtain ⟨j, hj, rfl⟩ := in_of hb.1 (by decide)
    split
    · rw [n_tN (a := j) (by omega)]; exact WFSs_upd h (WFS_put (h j hj))
    · exact h
theorem WF_filmF {V : Bv} {S : Nat → Shv} {x y i : Int32} (h : WFSs S) : WFSs (filmF V S x y i).2 := by
  unfold filmF
  split
  · exact h
  · next hb =>
    simp only [not_or, Classical.not_not] at hb
    obtain ⟨j, hj, rfl⟩ := in_of hb.2.1 (by decide)
    split
    · rw [n_tN (a := j) (by omega)]; exact WFSs_upd h (WFS_film (h j hj) _)
    · exact h
theorem WF_copyF {S : Nat → Shv} {x i y j n : Int32} (h : WFSs S) : WFSs (copyF S x i y j n).2 := by
  unfold copyF
  split
  · exact h
  · next hb =>
    simp only [not_or, Classical.not_not] at hb
    obtain ⟨k, hk, rfl⟩ := in_of hb.2 (by decide)
    rw [n_tN (a := k) (by omega)]
    split
    · exact h
    · exact h
    · next l sz g l' sz' g' e1 e2 =>
      split
      · split
        · split
          · have := h k hk l' sz' g' e2
            exact WFSs_upd h (WFS_some this.1 this.2)
          · exact h
        · exact h
      · exact h
section SHF
variable {d : Nat} {V : Bv} {S : Nat → Shv} {I : I2} {J : J2} {F : Int32 → I2 → J2 → Prop}
theorem c_Sb_sheet (hd : 2 ≤ d) (hS : ShCs S I J) (x y n : Int32) (h : ∀ I' J', ShCs (sheetF S x y n).2 I' J' → FrSh I I' J J' → F (sheetF S x y n).1 I' J') : CI d Sb_sheet [.ref 0, .int x, .int y, .int n] I J F := by
  refine CI.of (by omega) rfl (v_Sb_sheet_0_0 (c_Sb_isSheet (by omega) ?_))
  unfold sheetF at h
  rw [in_dec]
  refine ⟨fun q => QI_i.mpr ?_, fun q1 => c_Sb_isLane (by omega) ?_⟩
  · rw [if_pos (Or.inl q)] at h; exact h I J hS FrSh.rf
  rw [in_dec]
  refine ⟨fun q => QI_i.mpr ?_, fun q2 => ⟨fun q => QI_i.mpr ?_, fun q3 => ⟨fun q => QI_i.mpr ?_, fun q4 => ?_⟩⟩⟩
  · rw [if_pos (Or.inr (Or.inl q))] at h; exact h I J hS FrSh.rf
  · rw [if_pos (Or.inr (Or.inr q))] at h; exact h I J hS FrSh.rf
  · rw [if_neg (by simp only [not_or]; exact ⟨q1, q2, q3⟩), if_pos q] at h; exact h I J hS FrSh.rf
  · rw [if_neg (by simp only [not_or]; exact ⟨q1, q2, q3⟩), if_neg q4] at h
    obtain ⟨i, hi, rfl⟩ := in_of (Classical.not_not.mp q1) (by decide)
    obtain ⟨l, hl, rfl⟩ := in_of (Classical.not_not.mp q2) (by decide)
    obtain ⟨k, hk, rfl⟩ := le_of (n := 24) q4 q3 (by decide)
    rw [n_tN (a := i) (by omega), n_tN (a := l) (by omega), n_tN (a := k) (by omega)] at h
    refine ⟨n_vp hi (by decide), four (A := fun p => CV (d - 1) Sh_begin [.ref p, .int (nI l), .int (nI k)] I J (fun I3 J3 => QI F (some (.int (nI k))) I3 J3)) hi (c_Sh_begin (by omega) (Pl_of hi) (fun J' z1 z2 => QI_i.mpr (h _ J' (ShCs_upd hS ?_ (fun a ha => ?_) z2) (fun a ha => ⟨?_, z2 a (by omega)⟩))))⟩
    · exact ⟨by simp [up2, upd], by simp [up2, upd], by simp [up2, upd], fun k hk => z1 k hk⟩
    · simp [up2, ha]
    · have : a ≠ 49 + 2 * i := by omega
      simp [up2, this]
theorem c_Sb_drop (hd : 2 ≤ d) (hS : ShCs S I J) (x : Int32) (h : ∀ I' J', ShCs (dropF S x).2 I' J' → FrSh I I' J J' → F (dropF S x).1 I' J') : CI d Sb_drop [.ref 0, .int x] I J F := by
  refine CI.of (by omega) rfl (v_Sb_drop_0_0 (c_Sb_isSheet (by omega) ?_))
  unfold dropF at h
  rw [in_dec]
  refine ⟨fun q => QI_i.mpr ?_, fun q1 => ?_⟩
  · rw [if_pos q] at h; exact h I J hS FrSh.rf
  rw [if_neg q1] at h
  obtain ⟨i, hi, rfl⟩ := in_of (Classical.not_not.mp q1) (by decide)
  rw [n_tN (a := i) (by omega)] at h
  refine ⟨n_vp hi (by decide), four (A := fun p => ((I p 0) = 0 → QI F (some (.int (-11))) I J) ∧ (¬ ((I p 0) = 0) → CI (d - 1) Sh_end [.ref p] I J (fun v2 I2 J2 => QI F (some (.int v2)) I2 J2))) hi ?_⟩
  have hSi := hS i hi
  cases e : S i with
  | none =>
    rw [e] at h hSi
    exact ⟨fun _ => QI_i.mpr (h I J hS FrSh.rf), fun q => absurd hSi q⟩
  | some v =>
    rw [e] at h hSi
    obtain ⟨l, sz, g⟩ := v
    obtain ⟨a0, a1, a2, a3⟩ := hSi
    refine ⟨fun q => absurd (a0.symm.trans q) (by decide), fun _ => CI.of (by omega) rfl (vu_Sh_end_0 (Pl_of hi) (QI_i.mpr (QI_i.mpr ?_)))⟩
    rw [a2]
    refine h _ J (ShCs_upd hS (show up2 I (49 + 2 * i) 0 0 (49 + 2 * i) 0 = 0 by simp [up2, upd]) (fun a ha => by simp [up2, ha]) (fun _ _ => rfl)) (fun a ha => ⟨?_, rfl⟩)
    have : a ≠ 49 + 2 * i := by omega
    simp [up2, this]
theorem c_Sb_item (hd : 3 ≤ d) (hS : ShCs S I J) (hW : WFSs S) (x y j : Int32) (v : Int64) (h : ∀ I' J', ShCs (itemF S x y j v).2 I' J' → FrSh I I' J J' → F (itemF S x y j v).1 I' J') : CI d Sb_item [.ref 0, .int x, .int y, .int j, .long v] I J F := by
  refine CI.of (by omega) rfl (v_Sb_item_0_0 (c_Sb_isSheet (by omega) ?_))
  unfold itemF at h
  rw [in_dec]
  refine ⟨fun q => QI_i.mpr ?_, fun q1 => c_Sb_isLane (by omega) ?_⟩
  · rw [if_pos (Or.inl q)] at h; exact h I J hS FrSh.rf
  rw [in_dec]
  refine ⟨fun q => QI_i.mpr ?_, fun q2 => ?_⟩
  · rw [if_pos (Or.inr q)] at h; exact h I J hS FrSh.rf
  rw [if_neg (by simp only [not_or]; exact ⟨q1, q2⟩)] at h
  obtain ⟨i, hi, rfl⟩ := in_of (Classical.not_not.mp q1) (by decide)
  rw [n_tN (a := i) (by omega)] at h
  refine ⟨n_vp hi (by decide), four (A := fun p => CI (d - 1) Sh_fault [.ref p, .int y, .int j, .int 1] I J (fun v3 I3 J3 => (v3 = 0 → CV (d - 1) Sh_put [.ref p, .int j, .long v] I3 J3 (fun I4 J4 => QI F (some (.int 1)) I4 J4)) ∧ (¬ (v3 = 0) → QI F (some (.int v3)) I3 J3))) hi (c_Sh_fault (by omega) (Pl_of hi) (hS i hi) (hW i hi) ⟨fun e => ?_, fun e => QI_i.mpr ?_⟩)⟩
  · rw [if_pos e] at h
    obtain ⟨l, sz, g, eS, rfl, z1, z2, z3⟩ := fault_0 e
    obtain ⟨w1, w2⟩ := hW i hi l sz g eS
    obtain ⟨k, hk, rfl⟩ := nI_of z2
    rw [n_tN hk, show tN 1 = 1 from by decide] at z3
    have hSi := hS i hi
    rw [eS] at h hSi
    rw [n_tN hk] at h
    refine c_Sh_put (by omega) (Pl_of hi) hSi w1 w2 (by omega) (QI_i.mpr (h I _ (ShCs_upd hS (ShC_put hSi) (fun _ _ => rfl) (fun a ha => upJ_a ha)) (fun a ha => ⟨rfl, upJ_a (by omega)⟩)))
  · rw [if_neg e] at h; exact h I J hS FrSh.rf
theorem narL_small {l : Nat} : ∀ a, a < 4 → narL l (lN a) = lN a := by
  intro a ha
  unfold narL
  match a, ha with
  | 0, _ => split; decide; split; decide; split; decide; rfl
  | 1, _ => split; decide; split; decide; split; decide; rfl
  | 2, _ => split; decide; split; decide; split; decide; rfl
  | 3, _ => split; decide; split; decide; split; decide; rfl
theorem c_Sb_film (hd : 3 ≤ d) (hw : WFV V) (hV : CBx 1 V I) (hS : ShCs S I J) (hW : WFSs S) (x y j : Int32) (h : ∀ I' J', ShCs (filmF V S x y j).2 I' J' → FrSh I I' J J' → F (filmF V S x y j).1 I' J') : CI d Sb_film [.ref 0, .int x, .int y, .int j] I J F := by
  have hp5 := hw.1.1
  have hs2 := s31 hw.1 hw.2.2.1.1
  refine CI.of (by omega) rfl (v_Sb_film_0_0 ?_)
  unfold filmF at h
  rw [hV.1.1, n_e0 (by omega)]
  refine ⟨fun q => QI_i.mpr ?_, fun q0 => c_Sb_isSheet (by omega) ?_⟩
  · rw [if_pos (Or.inl q)] at h; exact h I J hS FrSh.rf
  rw [in_dec]
  refine ⟨fun q => QI_i.mpr ?_, fun q1 => c_Sb_isLane (by omega) ?_⟩
  · rw [if_pos (Or.inr (Or.inl q))] at h; exact h I J hS FrSh.rf
  rw [in_dec]
  refine ⟨fun q => QI_i.mpr ?_, fun q2 => ?_⟩
  · rw [if_pos (Or.inr (Or.inr q))] at h; exact h I J hS FrSh.rf
  rw [if_neg (by simp only [not_or]; exact ⟨q0, q1, q2⟩)] at h
  obtain ⟨i, hi, rfl⟩ := in_of (Classical.not_not.mp q1) (by decide)
  rw [n_tN (a := i) (by omega)] at h
  rw [hV.1.1]
  refine ⟨n_vp hi (by decide), four (A := fun p => CI (d - 1) Sh_fault [.ref p, .int y, .int j, .int (nI V.B.pn)] I J (fun v3 I3 J3 => (v3 = 0 → Wp (d - 1) Sb_film (QI F) 57 [some (.ref 0), some (.int (nI i)), some (.int y), some (.int j), some (.int v3), some (.int 0)] [] I3 J3) ∧ (¬ (v3 = 0) → QI F (some (.int v3)) I3 J3))) hi (c_Sh_fault (by omega) (Pl_of hi) (hS i hi) (hW i hi) ⟨fun e => ?_, fun e => QI_i.mpr ?_⟩)⟩
  · rw [if_pos e] at h
    obtain ⟨l, sz, g, eS, rfl, z1, z2, z3⟩ := fault_0 e
    obtain ⟨w1, w2⟩ := hW i hi l sz g eS
    obtain ⟨k, hk, rfl⟩ := nI_of z2
    rw [n_tN hk, n_tN (by omega)] at z3
    rw [n_tN hk, eS] at h
    have loop : ∀ r p J1, p + r = V.B.pn → ShCs (updS S i (filmS V.s k (some (l, sz, g)) p)) I J1 → FrSh I I J J1 → Wp (d - 1) Sb_film (QI F) 57 [some (.ref 0), some (.int (nI i)), some (.int (nI l)), some (.int (nI k)), some (.int (faultS (S i) (nI l) (nI k) (nI V.B.pn))), some (.int (nI p))] [] I J1 := by
      intro r
      induction r with
      | zero =>
        intro p J1 hp h1 h2
        have hp : p = V.B.pn := by omega
        subst hp
        refine v_Sb_film_0_57 ⟨fun q => ?_, fun _ => ?_⟩
        · rw [hV.1.1] at q; exact absurd ((n_lt (by omega) (by omega)).mp q) (Nat.lt_irrefl _)
        · rw [hV.1.1]; exact QI_i.mpr (h I J1 h1 h2)
      | succ r ih =>
        intro p J1 hp h1 h2
        have hlt : p < V.B.pn := by omega
        refine v_Sb_film_0_57 ⟨fun _ => ?_, fun q => absurd ((n_lt (by omega) (by omega)).mpr hlt) (by rw [hV.1.1] at q; exact q)⟩
        rw [hV.2.2.1, nI_add, n_inc]
        refine ⟨n_vp hi (by decide), four (A := fun pp => CI (d - 1) Sb_placeIn [.int (nI V.s), .int (nI p)] I J1 (fun v1 I1 J1 => CV (d - 1) Sh_put [.ref pp, .int (nI (k + p)), .long (Int32.toInt64 v1)] I1 J1 (fun I2 J2 => Wp (d - 1) Sb_film (QI F) 57 [some (.ref 0), some (.int (nI i)), some (.int (nI l)), some (.int (nI k)), some (.int (faultS (S i) (nI l) (nI k) (nI V.B.pn))), some (.int (nI (p + 1)))] [] I2 J2))) hi ?_⟩
        refine c_Sb_placeIn (by omega) (by omega) (by omega) ?_
        have hpl := pl_lt V.s p
        rw [nI_l (by omega)]
        obtain ⟨g', eg⟩ := filmS_some (s := V.s) (i := k) (l := l) (sz := sz) (g := g) p
        have h1i := h1 i hi
        rw [show updS S i (filmS V.s k (some (l, sz, g)) p) i = some (l, sz, g') from (if_pos rfl).trans eg] at h1i
        refine c_Sh_put (by omega) (Pl_of hi) h1i w1 w2 (by omega) (ih (p + 1) _ (by omega) ?_ (h2.tr (fun a ha => ⟨rfl, upJ_a (by omega)⟩)))
        have e3 : filmS V.s k (some (l, sz, g)) (p + 1) = some (l, sz, vp_updL g' (k + p) (narL l (lN (pl V.s p)))) := by
          simp only [filmS]; rw [eg]; rfl
        rw [e3]
        have e4 := ShCs_upd h1 (ShC_put (k := k + p) (v := narL l (lN (pl V.s p))) h1i) (fun _ _ => rfl) (fun a ha => upJ_a ha)
        have e5 : ∀ v v', updS (updS S i v) i v' = updS S i v' := by
          intro v v'; funext q; unfold updS; by_cases z : q = i <;> simp [z]
        rw [e5] at e4
        exact e4
    exact loop V.B.pn 0 J (Nat.zero_add _) (by
      have : updS S i (filmS V.s k (some (l, sz, g)) 0) = S := by
        funext q; unfold updS
        by_cases z : q = i
        · rw [if_pos z, z, eS]; rfl
        · rw [if_neg z]
      rw [this]; exact hS) FrSh.rf
  · rw [if_neg e] at h; exact h I J hS FrSh.rf
end SHF
