/-! sheets: the calls of the model -/
def FrSi (I I' : I2) : Prop := ∀ a, a ≠ 74 → a ≠ 75 → I' a = I a
def FrSj (J J' : J2) : Prop := ∀ a, a ≠ 76 → a ≠ 77 → J' a = J a
theorem FrSi.rf {I : I2} : FrSi I I := fun _ _ _ => rfl
theorem FrSj.rf {J : J2} : FrSj J J := fun _ _ _ => rfl
theorem FrSj.tr {J0 J1 J2 : J2} (h1 : FrSj J0 J1) (h2 : FrSj J1 J2) : FrSj J0 J2 := fun a x y => (h2 a x y).trans (h1 a x y)
theorem FrSj_76 {J : J2} {k : Nat} {x : Int64} : FrSj J (upJ J 76 k x) := fun _ h _ => upJ_a h
theorem FrSj_77 {J : J2} {k : Nat} {x : Int64} : FrSj J (upJ J 77 k x) := fun _ _ h => upJ_a h
theorem ShM_congr {i : Nat} {S : Shv} {I I' : I2} {J J' : J2} (h : ShM i S I J) (h1 : I' 74 i = I 74 i) (h2 : I' 75 i = I 75 i) (h3 : ∀ k, k < 24 → J' 76 (24 * i + k) = J 76 (24 * i + k)) : ShM i S I' J' := by
  cases S with
  | none => show I' 74 i = -1; rw [h1]; exact h
  | some v =>
    obtain ⟨l, n, g⟩ := v
    obtain ⟨a, b, e⟩ := h
    exact ⟨by rw [h1]; exact a, by rw [h2]; exact b, fun k hk => by rw [h3 k hk]; exact e k hk⟩
theorem ShMs_upd {S : Nat → Shv} {I I' : I2} {J J' : J2} {i : Nat} {v : Shv} (hS : ShMs S I J) (hv : ShM i v I' J') (h1 : ∀ j, j ≠ i → I' 74 j = I 74 j) (h2 : ∀ j, j ≠ i → I' 75 j = I 75 j) (h3 : ∀ j k, j ≠ i → k < 24 → J' 76 (24 * j + k) = J 76 (24 * j + k)) : ShMs (updS S i v) I' J' := by
  intro j hj
  unfold updS
  by_cases e : j = i
  · rw [if_pos e, e]; exact hv
  · rw [if_neg e]
    exact ShM_congr (hS j hj) (h1 _ e) (h2 _ e) (fun k hk => h3 j k e hk)
theorem n_24 (i k : Nat) : (24 : Int32) * nI i + nI k = nI (24 * i + k) := by
  rw [show (24 : Int32) * nI i = nI (24 * i) from pk_mul 24 i, nI_add]
theorem fault_ge {S : Shv} {l i n : Int32} {A B : Prop} (h1 : ¬ faultS S l i n = 0 → A) (h2 : faultS S l i n = 0 → B) : (faultS S l i n < 0 → A) ∧ (¬ (faultS S l i n < 0) → B) :=
  ⟨fun q => h1 (fault_lt.mp q), fun q => h2 (Classical.not_not.mp (fun z => q (fault_lt.mpr z)))⟩
section SHM
variable {d : Nat} {V : Bv} {S : Nat → Shv} {I : I2} {J : J2} {F : Int32 → I2 → J2 → Prop}
theorem c_Md_sheet (hd : 3 ≤ d) (hS : ShMs S I J) (x y n : Int32) (h : ∀ I' J', ShMs (sheetF S x y n).2 I' J' → FrSi I I' → FrSj J J' → F (sheetF S x y n).1 I' J') : CI d Md_sheet [.ref 57, .int x, .int y, .int n] I J F := by
  refine CI.of (by omega) rfl (v_Md_sheet_57_0 (c_Md_isSheet (by omega) ?_))
  unfold sheetF at h
  rw [in_dec]
  refine ⟨fun q => QI_i.mpr ?_, fun q1 => c_Md_isLane (by omega) ?_⟩
  · rw [if_pos (Or.inl q)] at h; exact h I J hS FrSi.rf FrSj.rf
  rw [in_dec]
  refine ⟨fun q => QI_i.mpr ?_, fun q2 => ⟨fun q => QI_i.mpr ?_, fun q3 => ⟨fun q => QI_i.mpr ?_, fun q4 => ?_⟩⟩⟩
  · rw [if_pos (Or.inr (Or.inl q))] at h; exact h I J hS FrSi.rf FrSj.rf
  · rw [if_pos (Or.inr (Or.inr q))] at h; exact h I J hS FrSi.rf FrSj.rf
  · rw [if_neg (by simp only [not_or]; exact ⟨q1, q2, q3⟩), if_pos q] at h; exact h I J hS FrSi.rf FrSj.rf
  · rw [if_neg (by simp only [not_or]; exact ⟨q1, q2, q3⟩), if_neg q4] at h
    obtain ⟨i, hi, rfl⟩ := in_of (Classical.not_not.mp q1) (by decide)
    obtain ⟨l, hl, rfl⟩ := in_of (Classical.not_not.mp q2) (by decide)
    obtain ⟨k, hk, rfl⟩ := le_of (n := 24) q4 q3 (by decide)
    rw [n_tN (a := i) (by omega), n_tN (a := l) (by omega), n_tN (a := k) (by omega)] at h
    have hv := n_vp (a := i) (n := 4) hi (by decide)
    rw [n_tN (a := i) (by omega)]
    refine ⟨hv, hv, ?_⟩
    have loop : ∀ r j J1, j + r = 24 → FrSj J J1 → (∀ q, q < j → J1 76 (24 * i + q) = 0) → (∀ q q', q ≠ i → q' < 24 → J1 76 (24 * q + q') = J 76 (24 * q + q')) → Wp (d - 1) Md_sheet (QI F) 46 [some (.ref 57), some (.int (nI i)), some (.int (nI l)), some (.int (nI k)), some (.int (nI j))] [] (up2 (up2 I 74 i (nI l)) 75 i (nI k)) J1 := by
      intro r
      induction r with
      | zero =>
        intro j J1 hj h1 h2 h3
        have hj : j = 24 := by omega
        subst hj
        refine v_Md_sheet_57_46 ⟨fun q => absurd q (by decide), fun _ => QI_i.mpr (h _ J1 (ShMs_upd hS ⟨?_, ?_, fun q hq => h2 q hq⟩ (fun q hq => ?_) (fun q hq => ?_) h3) (fun a a1 a2 => ?_) h1)⟩
        · simp [up2, upd]
        · simp [up2, upd]
        · simp [up2, upd, hq]
        · simp [up2, upd, hq]
        · simp [up2, a1, a2]
      | succ r ih =>
        intro j J1 hj h1 h2 h3
        refine v_Md_sheet_57_46 ⟨fun _ => ?_, fun q => absurd ((n_lt (b := 24) (by omega) (by decide)).mpr (by omega)) q⟩
        rw [n_24, n_tN (by omega), n_inc]
        refine ⟨n_vp (by omega) (by decide), ih (j + 1) _ (by omega) (h1.tr FrSj_76) (fun q hq => ?_) (fun q q' z1 z2 => ?_)⟩
        · by_cases e : q = j
          · rw [e, upJ_s]
          · rw [upJ_k (by omega)]; exact h2 q (by omega)
        · rw [upJ_k (by omega)]; exact h3 q q' z1 z2
    exact loop 24 0 J rfl FrSj.rf (fun q hq => absurd hq (Nat.not_lt_zero _)) (fun _ _ _ _ => rfl)
theorem c_Md_drop (hd : 3 ≤ d) (hS : ShMs S I J) (hW : WFSs S) (x : Int32) (h : ∀ I' J', ShMs (dropF S x).2 I' J' → FrSi I I' → FrSj J J' → F (dropF S x).1 I' J') : CI d Md_drop [.ref 57, .int x] I J F := by
  refine CI.of (by omega) rfl (v_Md_drop_57_0 (c_Md_isSheet (by omega) ?_))
  unfold dropF at h
  rw [in_dec]
  refine ⟨fun q => QI_i.mpr ?_, fun q1 => ?_⟩
  · rw [if_pos q] at h; exact h I J hS FrSi.rf FrSj.rf
  rw [if_neg q1] at h
  obtain ⟨i, hi, rfl⟩ := in_of (Classical.not_not.mp q1) (by decide)
  have hv := n_vp (a := i) (n := 4) hi (by decide)
  rw [n_tN (a := i) (by omega)] at h ⊢
  refine ⟨hv, ?_⟩
  have hSi := hS i hi
  cases e : S i with
  | none =>
    rw [e] at h hSi
    have hSi : I 74 i = -1 := hSi
    rw [hSi]
    exact ⟨fun _ => QI_i.mpr (h I J hS FrSi.rf FrSj.rf), fun q => absurd (by decide) q⟩
  | some v =>
    rw [e] at h hSi
    obtain ⟨l, sz, g⟩ := v
    obtain ⟨a1, a2, a3⟩ := hSi
    have hl := (hW i hi l sz g e).1
    rw [a1, a2]
    refine ⟨fun q => absurd q (nI_pos (by omega)), fun _ => ⟨hv, hv, QI_i.mpr (h _ J (ShMs_upd hS (show up2 I 74 i (-1) 74 i = -1 by simp [up2, upd]) (fun q hq => by simp [up2, upd, hq]) (fun q hq => by simp [up2]) (fun _ _ _ _ => rfl)) (fun a b1 b2 => by simp [up2, b1]) FrSj.rf)⟩⟩
theorem c_Md_item (hd : 3 ≤ d) (hS : ShMs S I J) (hW : WFSs S) (x y j : Int32) (v : Int64) (h : ∀ I' J', ShMs (itemF S x y j v).2 I' J' → FrSi I I' → FrSj J J' → F (itemF S x y j v).1 I' J') : CI d Md_item [.ref 57, .int x, .int y, .int j, .long v] I J F := by
  refine CI.of (by omega) rfl (v_Md_item_57_0 (c_Md_isSheet (by omega) ?_))
  unfold itemF at h
  rw [in_dec]
  refine ⟨fun q => QI_i.mpr ?_, fun q1 => c_Md_isLane (by omega) ?_⟩
  · rw [if_pos (Or.inl q)] at h; exact h I J hS FrSi.rf FrSj.rf
  rw [in_dec]
  refine ⟨fun q => QI_i.mpr ?_, fun q2 => ?_⟩
  · rw [if_pos (Or.inr q)] at h; exact h I J hS FrSi.rf FrSj.rf
  rw [if_neg (by simp only [not_or]; exact ⟨q1, q2⟩)] at h
  obtain ⟨i, hi, rfl⟩ := in_of (Classical.not_not.mp q1) (by decide)
  rw [n_tN (a := i) (by omega)] at h
  refine c_Md_why (by omega) hi (hS i hi) (hW i hi) (fault_ge (fun e => QI_i.mpr ?_) (fun e => ?_))
  · rw [if_neg e] at h; exact h I J hS FrSi.rf FrSj.rf
  · rw [if_pos e] at h
    obtain ⟨l, sz, g, eS, rfl, z1, z2, z3⟩ := fault_0 e
    obtain ⟨w1, w2⟩ := hW i hi l sz g eS
    obtain ⟨k, hk, rfl⟩ := nI_of z2
    rw [n_tN hk, show tN 1 = 1 from by decide] at z3
    have hSi := hS i hi
    rw [eS] at h hSi
    rw [n_tN hk] at h
    rw [n_24, n_tN (by omega), n_e0 (by omega), show (nI l = 1) = (nI l = nI 1) from rfl, n_eq (by omega) (by decide), show (nI l = 2) = (nI l = nI 2) from rfl, n_eq (by omega) (by decide)]
    have hv := n_vp (a := 24 * i + k) (n := 96) (by omega) (by decide)
    have key : ∀ v', v' = narL l v → F 1 I (upJ J 76 (24 * i + k) v') := by
      intro v' ev
      refine h I _ (ShMs_upd hS ⟨hSi.1, hSi.2.1, fun q hq => ?_⟩ (fun _ _ => rfl) (fun _ _ => rfl) (fun q q' z1 z2 => upJ_k (by omega))) FrSi.rf FrSj_76
      by_cases e3 : q = k
      · rw [e3, upJ_s, ev]; simp [vp_updL]
      · rw [upJ_k (by omega), hSi.2.2 q hq]; simp [vp_updL, e3]
    unfold narL at key
    refine ⟨fun e => ⟨hv, QI_i.mpr (key _ ?_)⟩, fun e => ⟨fun e1 => ⟨hv, QI_i.mpr (key _ ?_)⟩, fun e1 => ⟨fun e2 => ⟨hv, QI_i.mpr (key _ ?_)⟩, fun e2 => ⟨hv, QI_i.mpr (key _ ?_)⟩⟩⟩⟩
    · rw [if_pos e]
    · rw [if_neg e, if_pos e1]
    · rw [if_neg e, if_neg e1, if_pos e2]
    · rw [if_neg e, if_neg e1, if_neg e2]
theorem c_Md_film (hd : 3 ≤ d) (hw : WFV V) (hV : MBx V I) (hS : ShMs S I J) (hW : WFSs S) (x y j : Int32) (h : ∀ I' J', ShMs (filmF V S x y j).2 I' J' → FrSi I I' → FrSj J J' → F (filmF V S x y j).1 I' J') : CI d Md_film [.ref 57, .int x, .int y, .int j] I J F := by
  have hp5 := hw.1.1
  have hs2 := s31 hw.1 hw.2.2.1.1
  refine CI.of (by omega) rfl (v_Md_film_57_0 (c_Md_isSheet (by omega) ?_))
  unfold filmF at h
  rw [in_dec]
  refine ⟨fun q => QI_i.mpr ?_, fun q1 => c_Md_isLane (by omega) ?_⟩
  · rw [if_pos (Or.inr (Or.inl q))] at h; exact h I J hS FrSi.rf FrSj.rf
  rw [in_dec]
  refine ⟨fun q => QI_i.mpr ?_, fun q2 => ?_⟩
  · rw [if_pos (Or.inr (Or.inr q))] at h; exact h I J hS FrSi.rf FrSj.rf
  rw [hV.1.1, n_e0 (by omega)]
  refine ⟨fun q => QI_i.mpr ?_, fun q0 => ?_⟩
  · rw [if_pos (Or.inl q)] at h; exact h I J hS FrSi.rf FrSj.rf
  rw [if_neg (by simp only [not_or]; exact ⟨q0, q1, q2⟩)] at h
  obtain ⟨i, hi, rfl⟩ := in_of (Classical.not_not.mp q1) (by decide)
  rw [n_tN (a := i) (by omega)] at h
  refine c_Md_why (by omega) hi (hS i hi) (hW i hi) (fault_ge (fun e => QI_i.mpr ?_) (fun e => ?_))
  · rw [if_neg e] at h; exact h I J hS FrSi.rf FrSj.rf
  · rw [if_pos e] at h
    obtain ⟨l, sz, g, eS, rfl, z1, z2, z3⟩ := fault_0 e
    obtain ⟨w1, w2⟩ := hW i hi l sz g eS
    obtain ⟨k, hk, rfl⟩ := nI_of z2
    rw [n_tN hk, n_tN (by omega)] at z3
    rw [n_tN hk, eS] at h
    have loop : ∀ r p J1, p + r = V.B.pn → ShMs (updS S i (filmS V.s k (some (l, sz, g)) p)) I J1 → FrSj J J1 → Wp (d - 1) Md_film (QI F) 51 [some (.ref 57), some (.int (nI i)), some (.int (nI l)), some (.int (nI k)), some (.int (faultS (S i) (nI l) (nI k) (nI V.B.pn))), some (.int (nI p))] [] I J1 := by
      intro r
      induction r with
      | zero =>
        intro p J1 hp h1 h2
        have hp : p = V.B.pn := by omega
        subst hp
        refine v_Md_film_57_51 ⟨fun q => ?_, fun _ => ?_⟩
        · rw [hV.1.1] at q; exact absurd ((n_lt (by omega) (by omega)).mp q) (Nat.lt_irrefl _)
        · rw [hV.1.1]; exact QI_i.mpr (h I J1 h1 FrSi.rf h2)
      | succ r ih =>
        intro p J1 hp h1 h2
        have hlt : p < V.B.pn := by omega
        refine v_Md_film_57_51 ⟨fun _ => ?_, fun q => absurd ((n_lt (by omega) (by omega)).mpr hlt) (by rw [hV.1.1] at q; exact q)⟩
        rw [hV.2.2.2.2.1]
        refine c_Md_placeIn (by omega) (by omega) (by omega) ?_
        have hpl := pl_lt V.s p
        rw [n_24, nI_add, n_tN (by omega), nI_l (by omega), n_inc]
        obtain ⟨g', eg⟩ := filmS_some (s := V.s) (i := k) (l := l) (sz := sz) (g := g) p
        have h1i := h1 i hi
        rw [show updS S i (filmS V.s k (some (l, sz, g)) p) i = some (l, sz, g') from (if_pos rfl).trans eg] at h1i
        refine ⟨n_vp (by omega) (by decide), ih (p + 1) _ (by omega) ?_ (h2.tr FrSj_76)⟩
        have e3 : filmS V.s k (some (l, sz, g)) (p + 1) = some (l, sz, vp_updL g' (k + p) (narL l (lN (pl V.s p)))) := by
          simp only [filmS]; rw [eg]; rfl
        rw [e3]
        have e5 : ∀ v v', updS (updS S i v) i v' = updS S i v' := by
          intro v v'; funext q; unfold updS; by_cases z : q = i <;> simp [z]
        rw [← e5 (filmS V.s k (some (l, sz, g)) p)]
        refine ShMs_upd h1 ⟨h1i.1, h1i.2.1, fun q hq => ?_⟩ (fun _ _ => rfl) (fun _ _ => rfl) (fun q q' y1 y2 => upJ_k (by omega))
        by_cases e6 : q = k + p
        · rw [e6, ← Nat.add_assoc, upJ_s, narL_small _ hpl]; simp [vp_updL]
        · rw [upJ_k (by omega), h1i.2.2 q hq]; simp [vp_updL, e6]
    exact loop V.B.pn 0 J (Nat.zero_add _) (by
      have : updS S i (filmS V.s k (some (l, sz, g)) 0) = S := by
        funext q; unfold updS
        by_cases z : q = i
        · rw [if_pos z, z, eS]; rfl
        · rw [if_neg z]
      rw [this]; exact hS) FrSj.rf
theorem c_Md_copy (hd : 3 ≤ d) (hS : ShMs S I J) (hW : WFSs S) (x i y j n : Int32) (h : ∀ I' J', ShMs (copyF S x i y j n).2 I' J' → FrSi I I' → FrSj J J' → F (copyF S x i y j n).1 I' J') : CI d Md_copy [.ref 57, .int x, .int i, .int y, .int j, .int n] I J F := by
  refine CI.of (by omega) rfl (v_Md_copy_57_0 (c_Md_isSheet (by omega) ?_))
  unfold copyF at h
  rw [in_dec]
  refine ⟨fun q => QI_i.mpr ?_, fun q1 => c_Md_isSheet (by omega) ?_⟩
  · rw [if_pos (Or.inl q)] at h; exact h I J hS FrSi.rf FrSj.rf
  rw [in_dec]
  refine ⟨fun q => QI_i.mpr ?_, fun q2 => ?_⟩
  · rw [if_pos (Or.inr q)] at h; exact h I J hS FrSi.rf FrSj.rf
  rw [if_neg (by simp only [not_or]; exact ⟨q1, q2⟩)] at h
  obtain ⟨a, ha, rfl⟩ := in_of (Classical.not_not.mp q1) (by decide)
  obtain ⟨b, hb, rfl⟩ := in_of (Classical.not_not.mp q2) (by decide)
  rw [n_tN (a := a) (by omega), n_tN (a := b) (by omega)] at h ⊢
  have hva := n_vp (a := a) (n := 4) ha (by decide)
  have hvb := n_vp (a := b) (n := 4) hb (by decide)
  have hSa := hS a ha
  have hSb := hS b hb
  refine ⟨hva, ?_⟩
  cases ea : S a with
  | none =>
    rw [ea] at h hSa
    have hSa : I 74 a = -1 := hSa
    rw [hSa]
    exact ⟨fun _ => QI_i.mpr (h I J hS FrSi.rf FrSj.rf), fun q => absurd (by decide) q⟩
  | some va =>
    obtain ⟨l, sz, g⟩ := va
    rw [ea] at h hSa
    have hSa0 := hSa
    obtain ⟨a1, a2, a3⟩ := hSa
    obtain ⟨wa1, wa2⟩ := hW a ha l sz g ea
    rw [a1]
    refine ⟨fun q => absurd q (nI_pos (by omega)), fun _ => ⟨hvb, ?_⟩⟩
    cases eb : S b with
    | none =>
      rw [eb] at h hSb
      have hSb : I 74 b = -1 := hSb
      rw [hSb]
      exact ⟨fun _ => QI_i.mpr (h I J hS FrSi.rf FrSj.rf), fun q => absurd (by decide) q⟩
    | some vb =>
      obtain ⟨l', sz', g'⟩ := vb
      rw [eb] at h hSb
      obtain ⟨b1, b2, b3⟩ := id hSb
      obtain ⟨wb1, wb2⟩ := hW b hb l' sz' g' eb
      dsimp only at h
      rw [b1]
      refine ⟨fun q => absurd q (nI_pos (by omega)), fun _ => ⟨hva, c_Md_why (by omega) hb (by rw [eb]; exact hSb : ShM b (S b) I J) (hW b hb) ?_⟩⟩
      rw [eb]
      have fb : faultS (some (l', sz', g')) (nI l) j n = if l = l' then (if hldB sz' j n then 0 else -13) else -12 := by
        show (if nI l' = nI l then (if hldB sz' j n then (0 : Int32) else -13) else -12) = _
        by_cases e : l = l'
        · rw [if_pos e, if_pos (congrArg nI e.symm)]
        · rw [if_neg e, if_neg (fun q => e ((n_eq (by omega) (by omega)).mp q).symm)]
      have fa : faultS (some (l, sz, g)) (nI l) i n = if hldB sz i n then 0 else -13 := by
        simp [faultS]
      by_cases e : l = l'
      · rw [if_pos e] at fb h
        cases z2 : hldB sz' j n with
        | false =>
          rw [z2] at fb h
          rw [if_neg (by decide)] at fb
          simp only [Bool.false_eq_true, ↓reduceIte, ite_self] at h
          rw [fb]
          exact ⟨fun q => absurd q (by decide), fun _ => ⟨fun _ => QI_i.mpr (h I J hS FrSi.rf FrSj.rf), fun q => absurd (by decide) q⟩⟩
        | true =>
          rw [z2, if_pos rfl] at fb h
          rw [fb]
          refine ⟨fun _ => ⟨hva, c_Md_why (by omega) ha (by rw [ea]; exact hSa0 : ShM a (S a) I J) (hW a ha) ?_⟩, fun q => absurd rfl q⟩
          rw [ea, a1, fa]
          cases z : hldB sz i n with
          | false =>
            rw [z, if_neg (by decide)] at h
            exact ⟨fun _ => QI_i.mpr (h I J hS FrSi.rf FrSj.rf), fun q => absurd (by decide) q⟩
          | true =>
            rw [z, if_pos rfl] at h
            refine ⟨fun q => absurd q (by decide), fun _ => ?_⟩
            simp only [hldB, decide_eq_true_eq] at z z2
            obtain ⟨c1, c2, c3⟩ := z
            obtain ⟨d1, d2, d3⟩ := z2
            obtain ⟨n, hn, rfl⟩ := nI_of c1
            obtain ⟨i, hi, rfl⟩ := nI_of c2
            obtain ⟨j, hj, rfl⟩ := nI_of d2
            rw [n_tN hn, n_tN hi] at c3
            rw [n_tN hn, n_tN hj] at d3
            rw [n_tN hn, n_tN hi, n_tN hj] at h
            have loop2 : ∀ r p J1, p + r = n → (∀ q, q < n → J1 77 q = g (i + q)) → FrSj J J1 → (∀ q, q < p → J1 76 (24 * b + j + q) = g (i + q)) → (∀ q, (q < 24 * b + j ∨ 24 * b + j + p ≤ q) → J1 76 q = J 76 q) → Wp (d - 1) Md_copy (QI F) 128 [some (.ref 57), some (.int (nI a)), some (.int (nI i)), some (.int (nI b)), some (.int (nI j)), some (.int (nI n)), some (.int (if true = true then 0 else -13)), some (.int (nI p))] [] I J1 := by
              intro r
              induction r with
              | zero =>
                intro p J1 hp h1 h2 h3 h4
                have hp : p = n := by omega
                subst hp
                refine v_Md_copy_57_128 ⟨fun q => absurd ((n_lt (by omega) (by omega)).mp q) (Nat.lt_irrefl _), fun _ => QI_i.mpr (h I J1 (ShMs_upd hS ⟨b1, b2, fun k hk => ?_⟩ (fun _ _ => rfl) (fun _ _ => rfl) (fun q q' y1 y2 => h4 _ (by omega))) FrSi.rf h2)⟩
                by_cases m : j ≤ k ∧ k < j + p
                · rw [pk_cpy_in m.1 m.2, show 24 * b + k = 24 * b + j + (k - j) by omega]; exact h3 _ (by omega)
                · have m2 : k < j ∨ j + p ≤ k := by omega
                  rw [pk_cpy_out m2, h4 _ (by omega)]; exact b3 k hk
              | succ r ih =>
                intro p J1 hp h1 h2 h3 h4
                refine v_Md_copy_57_128 ⟨fun _ => ?_, fun q => absurd ((n_lt (by omega) (by omega)).mpr (by omega)) q⟩
                rw [n_24, nI_add, n_tN (a := p) (by omega), n_tN (by omega), n_inc]
                refine ⟨n_vp (by omega) (by decide), n_vp (by omega) (by decide), ih (p + 1) _ (by omega) (fun q hq => by rw [upJ_a (by decide)]; exact h1 q hq) (h2.tr FrSj_76) (fun q hq => ?_) (fun q hq => ?_)⟩
                · by_cases e3 : q = p
                  · rw [e3, upJ_s]; exact h1 p (by omega)
                  · rw [upJ_k (by omega)]; exact h3 q (by omega)
                · rw [upJ_k (by omega)]; exact h4 q (by omega)
            have loop1 : ∀ r p J1, p + r = n → (∀ q, q < p → J1 77 q = g (i + q)) → FrSj J J1 → J1 76 = J 76 → Wp (d - 1) Md_copy (QI F) 91 [some (.ref 57), some (.int (nI a)), some (.int (nI i)), some (.int (nI b)), some (.int (nI j)), some (.int (nI n)), some (.int (if true = true then 0 else -13)), some (.int (nI p))] [] I J1 := by
              intro r
              induction r with
              | zero =>
                intro p J1 hp h1 h2 h3
                have hp : p = n := by omega
                subst hp
                exact v_Md_copy_57_91 ⟨fun q => absurd ((n_lt (by omega) (by omega)).mp q) (Nat.lt_irrefl _), fun _ => loop2 p 0 J1 (Nat.zero_add _) h1 h2 (fun q hq => absurd hq (Nat.not_lt_zero _)) (fun q _ => by rw [h3])⟩
              | succ r ih =>
                intro p J1 hp h1 h2 h3
                refine v_Md_copy_57_91 ⟨fun _ => ?_, fun q => absurd ((n_lt (by omega) (by omega)).mpr (by omega)) q⟩
                rw [n_24, nI_add, n_tN (a := p) (by omega), n_tN (by omega), n_inc]
                refine ⟨n_vp (by omega) (by decide), n_vp (by omega) (by decide), ih (p + 1) _ (by omega) (fun q hq => ?_) (h2.tr FrSj_77) (by rw [upJ_a (by decide)]; exact h3)⟩
                by_cases e3 : q = p
                · rw [e3, upJ_s, h3, Nat.add_assoc]; exact a3 _ (by omega)
                · rw [upJ_k (by omega)]; exact h1 q (by omega)
            exact loop1 n 0 J (Nat.zero_add _) (fun q hq => absurd hq (Nat.not_lt_zero _)) FrSj.rf rfl
      · rw [if_neg e] at fb h
        rw [fb]
        exact ⟨fun q => absurd q (by decide), fun _ => ⟨fun _ => QI_i.mpr (h I J hS FrSi.rf FrSj.rf), fun q => absurd (by decide) q⟩⟩
end SHM
