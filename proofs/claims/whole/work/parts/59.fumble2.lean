/-! fumbled at: the model, forward from now -/
def sm (w P : Nat → Nat) (l : List Nat) : Nat := (l.map (fun t => P t * w t)).sum
theorem sm_nil {w P : Nat → Nat} : sm w P [] = 0 := rfl
theorem sm_cons {w P : Nat → Nat} {x : Nat} {l : List Nat} : sm w P (x :: l) = P x * w x + sm w P l := by simp [sm]
theorem sm_app {w P : Nat → Nat} {l r : List Nat} : sm w P (l ++ r) = sm w P l + sm w P r := by simp [sm]
theorem sm_congr {w P P' : Nat → Nat} : ∀ {l : List Nat}, (∀ t ∈ l, P t = P' t) → sm w P l = sm w P' l := by
  intro l
  induction l with
  | nil => intro _; rfl
  | cons x l ih =>
    intro h
    rw [sm_cons, sm_cons, h x List.mem_cons_self, ih (fun t ht => h t (List.mem_cons_of_mem _ ht))]
theorem sm_0 {w P : Nat → Nat} : ∀ {l : List Nat}, (∀ t ∈ l, P t = 0) → sm w P l = 0 := by
  intro l
  induction l with
  | nil => intro _; rfl
  | cons x l ih =>
    intro h
    rw [sm_cons, h x List.mem_cons_self, ih (fun t ht => h t (List.mem_cons_of_mem _ ht)), Nat.zero_mul]
theorem sm_upd {w P : Nat → Nat} {t c : Nat} : ∀ {l : List Nat}, l.Nodup → t ∈ l → sm w (updN P t (P t + c)) l = sm w P l + c * w t := by
  intro l
  induction l with
  | nil => intro _ h; cases h
  | cons x l ih =>
    intro hn hm
    obtain ⟨h1, h2⟩ := List.nodup_cons.mp hn
    rw [sm_cons, sm_cons]
    by_cases e : x = t
    · subst e
      have e3 : ∀ y ∈ l, updN P x (P x + c) y = P y := fun y hy => if_neg (fun (q : y = x) => h1 (q ▸ hy))
      rw [sm_congr e3, show updN P x (P x + c) x = P x + c from if_pos rfl, Nat.add_mul]
      omega
    · have hm : t ∈ l := (List.mem_cons.mp hm).resolve_left (fun q => e q.symm)
      rw [ih h2 hm, show updN P t (P t + c) x = P x from if_neg e]
      omega
def nxw (B : Bx) (o f : Nat) (w : Nat → Nat) (s : Nat) : Nat := if deg B f s (2 * B.pn) = 0 ∨ openB B o s = true then 2520 * w s else (2520 / deg B f s (2 * B.pn)) * sumM B f s w (2 * B.pn)
theorem shr_open {B : Bx} {o f j s : Nat} (h : openB B o s = true) : shr B o f j s = 2520 ^ j := by
  cases j with
  | zero => simp only [shr]; rw [if_pos h]
  | succ j => simp only [shr]; rw [if_pos h]
theorem nxw_shr {B : Bx} {o f j s : Nat} : nxw B o f (shr B o f j) s = shr B o f (j + 1) s := by
  unfold nxw
  by_cases h : openB B o s = true
  · rw [if_pos (Or.inr h), shr_open h, shr_open h, Nat.pow_succ, Nat.mul_comm]
  · by_cases h0 : deg B f s (2 * B.pn) = 0
    · rw [if_pos (Or.inl h0)]
      have e1 : shr B o f (j + 1) s = 0 := by simp only [shr]; rw [if_neg h, if_pos h0]
      have e2 : shr B o f j s = 0 := by
        cases j with
        | zero => simp only [shr]; rw [if_neg h]
        | succ j => simp only [shr]; rw [if_neg h, if_pos h0]
      rw [e1, e2]
    · rw [if_neg (fun q => q.elim h0 h)]
      simp only [shr]
      rw [if_neg h, if_neg h0, Nat.mul_comm]
/-- what fumbling leaves alone of the rows of longs -/
def FrJ (J J' : J2) : Prop := ∀ a, a ≠ 71 → a ≠ 72 → J' a = J a
theorem FrJ.rf {J : J2} : FrJ J J := fun _ _ _ => rfl
theorem FrJ.tr {J0 J1 J2 : J2} (h1 : FrJ J0 J1) (h2 : FrJ J1 J2) : FrJ J0 J2 := fun a x y => (h2 a x y).trans (h1 a x y)
theorem FrJ_71 {J : J2} {k : Nat} {x : Int64} : FrJ J (upJ J 71 k x) := fun a h _ => by simp [upJ, h]
theorem FrJ_72 {J : J2} {k : Nat} {x : Int64} : FrJ J (upJ J 72 k x) := fun a _ h => by simp [upJ, h]
theorem upJ_s {J : J2} {a k : Nat} {x : Int64} : upJ J a k x a k = x := by simp [upJ, vp_updL]
theorem upJ_k {J : J2} {a k j : Nat} {x : Int64} (h : j ≠ k) : upJ J a k x a j = J a j := by simp [upJ, vp_updL, h]
theorem upJ_a {J : J2} {a k b : Nat} {x : Int64} (h : b ≠ a) : upJ J a k x b = J b := by simp [upJ, h]
section FUM2
variable {d : Nat} {V : Bv} {I : I2} {J : J2} {G : I2 → J2 → Prop} {F : Int64 → I2 → J2 → Prop} {f s : Nat}
theorem c_Md_fumbles (hd : 3 ≤ d) (hw : WFV V) (hV : MBx V I) {T : Tw} (eT : bfs V.B f V.s = T) (hA : WmA V f I) {P w : Nat → Nat} (hP : ∀ t, t ∈ T.ord → J 71 t = lN (P t)) (h : ∀ J' P', FrJ J J' → (∀ t, t ∈ T.ord → J' 71 t = lN (P' t)) → sm w P' T.ord = sm (nxw V.B V.lid f w) P T.ord → G I J') : CV d Md_fumbles [.ref 57] I J G := by
  have hp5 := hw.1.1
  have hT : TI V.B T := eT ▸ TIb hw f
  have hcl : Clo V.B f T := eT ▸ Clob hw f
  have hlen := hT.len hw.1
  have hI : WmR T I := eT ▸ hA.1
  have e2 : (2 : Int32) * nI V.B.pn = nI (2 * V.B.pn) := pk_mul 2 _
  have loop216 : ∀ k j J1 P', j + k = T.ord.length → FrJ J J1 → (∀ t, t ∈ T.ord → J1 72 t = lN (P' t)) → (∀ t, t ∈ T.ord.take j → J1 71 t = lN (P' t)) → sm w P' T.ord = sm (nxw V.B V.lid f w) P T.ord → Wp (d - 1) Md_fumbles (QV G) 216 [some (.ref 57), some (.int (nI j)), none, none, none, none, none] [] I J1 := by
    intro k
    induction k with
    | zero =>
      intro j J1 P' hj hF h72 h71 hs
      have hj : j = T.ord.length := by omega
      subst hj
      rw [List.take_length] at h71
      refine v_Md_fumbles_57_216 ⟨fun q => ?_, fun _ => QV_i.mpr (h J1 P' hF h71 hs)⟩
      rw [hI.1] at q; exact absurd ((n_lt (by omega) (by omega)).mp q) (Nat.lt_irrefl _)
    | succ k ih =>
      intro j J1 P' hj hF h72 h71 hs
      have hlt : j < T.ord.length := by omega
      have hm := List.getElem_mem hlt
      have hs2 := s31 hw.1 (hT.2.2.1 _ hm).1.1
      have hv := n_vp (a := j) (n := 1024) (by omega) (by decide)
      have hv2 := n_vp (a := T.ord[j]) (n := 1024) hs2 (by decide)
      refine v_Md_fumbles_57_216 ⟨fun _ => ⟨hv, ?_⟩, fun q => absurd ((n_lt (by omega) (by omega)).mpr hlt) (by rw [hI.1] at q; exact q)⟩
      rw [n_tN (by omega), hI.ord' hlt, n_tN (a := T.ord[j]) (by omega), n_inc]
      refine ⟨hv, hv2, hv2, ih (j + 1) _ P' (by omega) (hF.tr FrJ_71) (fun t ht => ?_) (fun t ht => ?_) hs⟩
      · rw [upJ_a (by decide)]; exact h72 t ht
      · rw [take_last hlt] at ht
        by_cases e : t = T.ord[j]
        · rw [e, upJ_s]; exact h72 _ hm
        · rw [upJ_k e]
          rcases List.mem_append.mp ht with z | z
          · exact h71 t z
          · exact absurd (by simpa using z) e
  have loop30 : ∀ k j J1 N, j + k = T.ord.length → FrJ J J1 → J1 71 = J 71 → (∀ t, t ∈ T.ord → J1 72 t = lN (N t)) → sm w N T.ord = sm (nxw V.B V.lid f w) P (T.ord.take j) → Wp (d - 1) Md_fumbles (QV G) 30 [some (.ref 57), some (.int (nI j)), none, none, none, none, none] [] I J1 := by
    intro k
    induction k with
    | zero =>
      intro j J1 N hj hF h71 h72 hs
      have hj : j = T.ord.length := by omega
      subst hj
      rw [List.take_length] at hs
      refine v_Md_fumbles_57_30 ⟨fun q => ?_, fun _ => loop216 _ 0 J1 N (Nat.zero_add _) hF h72 (fun t ht => by simp at ht) hs⟩
      rw [hI.1] at q; exact absurd ((n_lt (by omega) (by omega)).mp q) (Nat.lt_irrefl _)
    | succ k ih =>
      intro j J1 N hj hF h71 h72 hsm
      have hlt : j < T.ord.length := by omega
      have hm := List.getElem_mem hlt
      have hok := (hT.2.2.1 _ hm).1
      have hs2 := s31 hw.1 hok.1
      have hv := n_vp (a := j) (n := 1024) (by omega) (by decide)
      have hv2 := n_vp (a := T.ord[j]) (n := 1024) hs2 (by decide)
      refine v_Md_fumbles_57_30 ⟨fun _ => ⟨hv, ?_⟩, fun q => absurd ((n_lt (by omega) (by omega)).mpr hlt) (by rw [hI.1] at q; exact q)⟩
      rw [n_tN (by omega), hI.ord' hlt]
      have go : ∀ J2 N2, FrJ J J2 → J2 71 = J 71 → (∀ t, t ∈ T.ord → J2 72 t = lN (N2 t)) → sm w N2 T.ord = sm w N T.ord + P T.ord[j] * nxw V.B V.lid f w T.ord[j] → Wp (d - 1) Md_fumbles (QV G) 30 [some (.ref 57), some (.int (nI (j + 1))), none, none, none, none, none] [] I J2 := by
        intro J2 N2 k1 k2 k3 k4
        refine ih (j + 1) J2 N2 (by omega) k1 k2 k3 ?_
        rw [take_last hlt, sm_app, sm_cons, sm_nil, k4, hsm, Nat.add_zero]
      have h68 : ∀ b, b < 2 * V.B.pn → I 68 (10 * T.ord[j] + b) = nxI V.B f T.ord[j] b := fun b hb => hA.2 _ (by rw [eT]; exact hm) b hb
      have h71s : J1 71 T.ord[j] = lN (P T.ord[j]) := by rw [h71]; exact hP _ hm
      have stay : nxw V.B V.lid f w T.ord[j] = 2520 * w T.ord[j] → ∀ x3, Wp (d - 1) Md_fumbles (QV G) 142 [some (.ref 57), some (.int (nI j)), some (.int (nI T.ord[j])), some (.int x3), some (.int 1), some (.int 0), none] [] I (upJ J1 72 T.ord[j] (J1 72 T.ord[j] + 2520 * J1 71 T.ord[j])) := by
        intro en x3
        have g2 := go (upJ J1 72 T.ord[j] (J1 72 T.ord[j] + 2520 * J1 71 T.ord[j])) (updN N T.ord[j] (N T.ord[j] + 2520 * P T.ord[j])) (hF.tr FrJ_72) (by rw [upJ_a (by decide)]; exact h71) (fun t ht => ?_) ?_
        · refine v_Md_fumbles_57_142 ⟨fun _ => ⟨fun q => absurd q (by decide), fun _ => ?_⟩, fun _ => ?_⟩
          · rw [n_inc]; exact g2
          · rw [n_inc]; exact g2
        · by_cases e : t = T.ord[j]
          · rw [e, upJ_s, h71s, h72 _ hm, show (2520 : Int64) * lN (P T.ord[j]) = lN (2520 * P T.ord[j]) from lN_mul 2520 _, lN_add]
            simp [updN]
          · rw [upJ_k e, h72 t ht]; simp [updN, e]
        · rw [sm_upd hT.1 hm, en, Nat.mul_comm 2520 (P T.ord[j]), Nat.mul_assoc]
      have loop50 : ∀ k m, m + k = 2 * V.B.pn → Wp (d - 1) Md_fumbles (QV G) 50 [some (.ref 57), some (.int (nI j)), some (.int (nI T.ord[j])), some (.int (nI (deg V.B f T.ord[j] m))), some (.int (nI m)), none, none] [] I J1 := by
        intro k
        induction k with
        | zero =>
          intro m hm2
          have hm2 : m = 2 * V.B.pn := by omega
          subst hm2
          have hdl := deg_le (B := V.B) (f := f) (s := T.ord[j]) (n := 2 * V.B.pn)
          refine v_Md_fumbles_57_50 ⟨fun q => ?_, fun _ => ?_⟩
          · rw [hV.1.1, e2] at q; exact absurd ((n_lt (by omega) (by omega)).mp q) (Nat.lt_irrefl _)
          · rw [n_e0 (by omega), n_tN (a := T.ord[j]) (by omega)]
            refine ⟨fun z => ⟨hv2, hv2, hv2, stay (if_pos (Or.inl z)) _⟩, fun z => ?_⟩
            refine c_Md_isOpen (by omega) hw.1 hV.boxM hV.2.1 hw.2.1 (by omega) ?_
            rw [show (decide (0 < V.B.pn) && decide (pl T.ord[j] V.lid = V.B.dp V.lid)) = openB V.B V.lid T.ord[j] from rfl, bI_0]
            refine ⟨fun e => ⟨hv2, hv2, ?_⟩, fun e => ⟨hv2, hv2, hv2, stay (if_pos (Or.inr (by simpa using e))) _⟩⟩
            have en : nxw V.B V.lid f w T.ord[j] = (2520 / deg V.B f T.ord[j] (2 * V.B.pn)) * sumM V.B f T.ord[j] w (2 * V.B.pn) := if_neg (by rintro (q | q); exact z q; rw [e] at q; cases q)
            have loop142 : ∀ k m J2 N2, m + k = 2 * V.B.pn → FrJ J J2 → J2 71 = J 71 → (∀ t, t ∈ T.ord → J2 72 t = lN (N2 t)) → sm w N2 T.ord = sm w N T.ord + ((2520 / deg V.B f T.ord[j] (2 * V.B.pn)) * P T.ord[j]) * sumM V.B f T.ord[j] w m → Wp (d - 1) Md_fumbles (QV G) 142 [some (.ref 57), some (.int (nI j)), some (.int (nI T.ord[j])), some (.int (nI (deg V.B f T.ord[j] (2 * V.B.pn)))), some (.int 0), some (.int (nI m)), none] [] I J2 := by
              intro k
              induction k with
              | zero =>
                intro m J2 N2 hm3 k1 k2 k3 k4
                have hm3 : m = 2 * V.B.pn := by omega
                subst hm3
                refine v_Md_fumbles_57_142 ⟨fun q => ?_, fun _ => ?_⟩
                · rw [hV.1.1, e2] at q; exact absurd ((n_lt (by omega) (by omega)).mp q) (Nat.lt_irrefl _)
                · rw [n_inc]
                  refine go J2 N2 k1 k2 k3 ?_
                  rw [k4, en]
                  simp only [Nat.mul_comm, Nat.mul_left_comm, Nat.mul_assoc]
              | succ k ihk =>
                intro m J2 N2 hm3 k1 k2 k3 k4
                have hlm : m < 2 * V.B.pn := by omega
                have hv3 := n_vp (a := 10 * T.ord[j] + m) (n := 10240) (by omega) (by decide)
                have gk := fun J N => ihk (m + 1) J N (by omega)
                simp only [sumM] at gk
                refine v_Md_fumbles_57_142 ⟨fun _ => ⟨fun _ => ?_, fun q => absurd rfl q⟩, fun q => absurd ((n_lt (by omega) (by omega)).mpr hlm) (by rw [hV.1.1, e2] at q; exact q)⟩
                rw [sp10, n_tN (a := 10 * T.ord[j] + m) (by omega), h68 m hlm, n_inc m, n_tN (a := T.ord[j]) (by omega)]
                unfold nxI
                cases hnx : nx V.B f T.ord[j] m with
                | none =>
                  rw [hnx] at gk
                  exact ⟨hv3, fun _ => gk J2 N2 k1 k2 k3 k4, fun q => absurd (by decide) q⟩
                | some t =>
                  rw [hnx] at gk
                  have htT := hcl _ hm m t hlm hnx
                  have ht2 := s31 hw.1 (hT.2.2.1 _ htT).1.1
                  have hvt := n_vp (a := t) (n := 1024) ht2 (by decide)
                  dsimp only at gk ⊢
                  rw [n_tN (a := t) (by omega), nI_l (by omega)]
                  refine ⟨hv3, fun q => absurd q (nI_pos (by omega)), fun _ => ⟨hvt, lN_n0 (by omega) z, hv2, hvt, ?_⟩⟩
                  have e3 : (2520 : Int64) / lN (deg V.B f T.ord[j] (2 * V.B.pn)) = lN (2520 / deg V.B f T.ord[j] (2 * V.B.pn)) := pk_lDiv (a := 2520) (by decide) (by omega) (by omega)
                  refine gk _ (updN N2 t (N2 t + (2520 / deg V.B f T.ord[j] (2 * V.B.pn)) * P T.ord[j])) (k1.tr FrJ_72) (by rw [upJ_a (by decide)]; exact k2) (fun t' ht' => ?_) ?_
                  · by_cases e4 : t' = t
                    · rw [e4, upJ_s, k2, hP _ hm, k3 t htT, e3, lN_mul, lN_add]
                      simp [updN]
                    · rw [upJ_k e4, k3 t' ht']; simp [updN, e4]
                  · rw [sm_upd hT.1 htT, k4, Nat.mul_add, Nat.add_assoc]
            refine loop142 _ 0 _ N (Nat.zero_add _) (hF.tr FrJ_72) (by rw [upJ_a (by decide)]; exact h71) (fun t ht => ?_) (by simp [sumM])
            by_cases e4 : t = T.ord[j]
            · rw [e4, upJ_s, h72 _ hm, Int64.add_zero]
            · rw [upJ_k e4, h72 t ht]
        | succ k ihk =>
          intro m hm2
          have hlm : m < 2 * V.B.pn := by omega
          have gk := ihk (m + 1) (by omega)
          simp only [deg] at gk
          have hv3 := n_vp (a := 10 * T.ord[j] + m) (n := 10240) (by omega) (by decide)
          refine v_Md_fumbles_57_50 ⟨fun _ => ?_, fun q => absurd ((n_lt (by omega) (by omega)).mpr hlm) (by rw [hV.1.1, e2] at q; exact q)⟩
          rw [sp10, n_tN (by omega), h68 m hlm, n_inc, n_inc, Int32.add_zero]
          unfold nxI
          cases hnx : nx V.B f T.ord[j] m with
          | none => rw [hnx] at gk; exact ⟨hv3, fun _ => gk, fun q => absurd (by decide) q⟩
          | some t =>
            rw [hnx] at gk
            have ht2 := s31 hw.1 (hT.2.2.1 _ (hcl _ hm m t hlm hnx)).1.1
            exact ⟨hv3, fun q => absurd q (nI_pos (by omega)), fun _ => gk⟩
      exact loop50 _ 0 (Nat.zero_add _)
  have loop2 : ∀ k j J1, j + k = T.ord.length → FrJ J J1 → J1 71 = J 71 → (∀ t, t ∈ T.ord.take j → J1 72 t = lN 0) → Wp (d - 1) Md_fumbles (QV G) 2 [some (.ref 57), some (.int (nI j)), none, none, none, none, none] [] I J1 := by
    intro k
    induction k with
    | zero =>
      intro j J1 hj hF h71 h72
      have hj : j = T.ord.length := by omega
      subst hj
      rw [List.take_length] at h72
      refine v_Md_fumbles_57_2 ⟨fun q => ?_, fun _ => loop30 _ 0 J1 (fun _ => 0) (Nat.zero_add _) hF h71 h72 ?_⟩
      · rw [hI.1] at q; exact absurd ((n_lt (by omega) (by omega)).mp q) (Nat.lt_irrefl _)
      · rw [sm_0 (fun _ _ => rfl)]; rfl
    | succ k ih =>
      intro j J1 hj hF h71 h72
      have hlt : j < T.ord.length := by omega
      have hm := List.getElem_mem hlt
      have hs2 := s31 hw.1 (hT.2.2.1 _ hm).1.1
      have hv := n_vp (a := j) (n := 1024) (by omega) (by decide)
      have hv2 := n_vp (a := T.ord[j]) (n := 1024) hs2 (by decide)
      refine v_Md_fumbles_57_2 ⟨fun _ => ⟨hv, ?_⟩, fun q => absurd ((n_lt (by omega) (by omega)).mpr hlt) (by rw [hI.1] at q; exact q)⟩
      rw [n_tN (by omega), hI.ord' hlt, n_tN (a := T.ord[j]) (by omega), n_inc]
      refine ⟨hv2, ih (j + 1) _ (by omega) (hF.tr FrJ_72) (by rw [upJ_a (by decide)]; exact h71) (fun t ht => ?_)⟩
      rw [take_last hlt] at ht
      by_cases e : t = T.ord[j]
      · rw [e, upJ_s]; rfl
      · rw [upJ_k e]
        rcases List.mem_append.mp ht with z | z
        · exact h72 t z
        · exact absurd (by simpa using z) e
  exact CV.of (by omega) rfl (v_Md_fumbles_57_0 (loop2 _ 0 J (Nat.zero_add _) FrJ.rf rfl (fun t ht => by simp at ht)))
theorem c_Md_fumble (hd : 7 ≤ d) (hw : WFV V) (hV : MBx V I) (x y : Int32) (h : ∀ I' J', FrQ I I' → FrJ J J' → F (fumbleS V x y) I' J') : CL d Md_fumble [.ref 57, .int x, .int y] I J F := by
  have hf := f64 hw.1 hw.2.2.2.1
  have hp5 := hw.1.1
  have hT : TI V.B V.T := TIb hw V.f
  have hlen : V.T.ord.length ≤ 1024 := hT.len hw.1
  refine CL.of (by omega) rfl (v_Md_fumble_57_0 (c_Md_in (by omega) ?_))
  rw [in_rng (lo := 0) (hi := 3) (by decide) (by decide)]
  unfold fumbleS at h
  refine ⟨fun e => QL_i.mpr ?_, fun e => c_Md_in (by omega) ?_⟩
  · rw [if_pos (e.elim Or.inl (fun q => Or.inr (Or.inl q)))] at h; exact h I J FrQ.rf FrJ.rf
  · rw [in_rng (lo := 0) (hi := 1) (by decide) (by decide)]
    refine ⟨fun e' => QL_i.mpr ?_, fun e' => ?_⟩
    · rw [if_pos (Or.inr (Or.inr e'))] at h; exact h I J FrQ.rf FrJ.rf
    · simp only [not_or] at e e'
      rw [if_neg (by simp only [not_or]; exact ⟨e.1, e.2, e'.1, e'.2⟩)] at h
      obtain ⟨n, hn, rfl⟩ := le_of (n := 3) e.1 e.2 (by decide)
      rw [n_tN (by omega)] at h
      rw [hV.2.2.1]
      refine c_M_thr (by omega) hw hV hf (fun I1 q1 q2 q3 => ?_)
      have hI : WmR V.T I1 := q3.1
      have h := fun J' => h I1 J' q1
      obtain ⟨b1, b2, b3⟩ := fum_bd V hn
      have hg := gcd_pos' (a := fumA V n) (n := n)
      have loop166 : ∀ k a b J1, b < k → a < 2 ^ 40 → b < 2 ^ 40 → Nat.gcd a b = Nat.gcd (fumA V n) (2520 ^ n) → FrJ J J1 → Wp (d - 1) Md_fumble (QL F) 166 [some (.ref 57), some (.int (nI n)), some (.int y), some (.long (lN (2520 ^ n))), none, some (.long (lN (fumA V n))), none, some (.long (lN a)), none, some (.long (lN b)), none, none, none] [] I1 J1 := by
        intro k
        induction k with
        | zero => intro a b J1 hb; exact absurd hb (Nat.not_lt_zero _)
        | succ k ih =>
          intro a b J1 hb ha hb2 hgc hF
          have h := h J1 hF
          refine v_Md_fumble_57_166 ?_
          rw [lN_0 (by omega)]
          refine ⟨fun b0 => ?_, fun b0 => ⟨lN_n0 (by omega) b0, ?_⟩⟩
          · rw [b0, Nat.gcd_zero_right] at hgc
            subst hgc
            generalize fumA V n = A at *
            generalize 2520 ^ n = P at *
            generalize Nat.gcd A P = g at *
            refine ⟨fun e => ⟨lN_n0 (by omega) (by omega), QL_i.mpr ?_⟩, fun e => ⟨lN_n0 (by omega) (by omega), QL_i.mpr ?_⟩⟩
            · rw [if_pos e] at h; rw [pk_lDiv (by omega) hg (by omega)]; exact h
            · rw [if_neg e] at h; rw [pk_lDiv (by omega) hg (by omega)]; exact h
          · have hr := Nat.mod_lt a (Nat.pos_of_ne_zero b0)
            rw [gcd_step] at hgc
            rw [n_rmL (by omega) (by omega) (by omega)]
            exact ih b (a % b) J1 (by omega) hb2 (by omega) hgc hF
      have loop109 : ∀ k j J1 P, j + k = V.T.ord.length → FrJ J J1 → (∀ t, t ∈ V.T.ord → J1 71 t = lN (P t)) → sm (shr V.B V.lid V.f 0) P V.T.ord = fumA V n → Wp (d - 1) Md_fumble (QL F) 109 [some (.ref 57), some (.int (nI n)), some (.int y), some (.long (lN (2520 ^ n))), none, some (.long (lN (sm (shr V.B V.lid V.f 0) P (V.T.ord.take j)))), none, some (.int (nI j)), none, none, none, none, none] [] I1 J1 := by
        intro k
        induction k with
        | zero =>
          intro j J1 P hj hF hP hs
          have hj : j = V.T.ord.length := by omega
          subst hj
          rw [List.take_length, hs]
          refine v_Md_fumble_57_109 ⟨fun q => ?_, fun _ => loop166 (2520 ^ n + 1) _ _ J1 (by omega) (by omega) (by omega) rfl hF⟩
          rw [hI.1] at q; exact absurd ((n_lt (by omega) (by omega)).mp q) (Nat.lt_irrefl _)
        | succ k ih =>
          intro j J1 P hj hF hP hs
          have hlt : j < V.T.ord.length := by omega
          have hm := List.getElem_mem hlt
          have hs2 := s31 hw.1 (hT.2.2.1 _ hm).1.1
          have hv := n_vp (a := j) (n := 1024) (by omega) (by decide)
          have hv2 := n_vp (a := V.T.ord[j]) (n := 1024) hs2 (by decide)
          have go := ih (j + 1) J1 P (by omega) hF hP hs
          rw [take_last hlt, sm_app, sm_cons, sm_nil, Nat.add_zero] at go
          refine v_Md_fumble_57_109 ⟨fun _ => ⟨hv, ?_⟩, fun q => absurd ((n_lt (by omega) (by omega)).mpr hlt) (by rw [hI.1] at q; exact q)⟩
          rw [n_tN (by omega), hI.ord' hlt, n_inc]
          refine c_Md_isOpen (by omega) hw.1 q2.boxM q2.2.1 hw.2.1 (by omega) ?_
          rw [show (decide (0 < V.B.pn) && decide (pl V.T.ord[j] V.lid = V.B.dp V.lid)) = openB V.B V.lid V.T.ord[j] from rfl, bI_0, hI.ord' hlt, n_tN (a := V.T.ord[j]) (by omega), hP _ hm, lN_add, Int64.add_zero]
          simp only [shr] at go
          refine ⟨fun z => ?_, fun z => ⟨hv, hv2, ?_⟩⟩
          · rw [if_neg (by rw [z]; decide), Nat.mul_zero, Nat.add_zero] at go; exact go
          · rw [if_pos (by simpa using z), Nat.mul_one] at go; exact go
      have loop81 : ∀ k j J1 P, j + k = n → FrJ J J1 → (∀ t, t ∈ V.T.ord → J1 71 t = lN (P t)) → sm (shr V.B V.lid V.f k) P V.T.ord = fumA V n → Wp (d - 1) Md_fumble (QL F) 81 [some (.ref 57), some (.int (nI n)), some (.int y), some (.long (lN (2520 ^ j))), none, some (.int (nI j)), none, none, none, none, none, none, none] [] I1 J1 := by
        intro k
        induction k with
        | zero =>
          intro j J1 P hj hF hP hs
          have hj : j = n := by omega
          subst hj
          exact v_Md_fumble_57_81 ⟨fun q => absurd ((n_lt (by omega) (by omega)).mp q) (Nat.lt_irrefl _), fun _ => loop109 _ 0 J1 P (Nat.zero_add _) hF hP hs⟩
        | succ k ih =>
          intro j J1 P hj hF hP hs
          have e3 : lN (2520 ^ j) * 2520 = lN (2520 ^ (j + 1)) := by rw [Nat.pow_succ]; exact lN_mul _ 2520
          refine v_Md_fumble_57_81 ⟨fun _ => ?_, fun q => absurd ((n_lt (by omega) (by omega)).mpr (by omega)) q⟩
          rw [e3, n_inc]
          refine c_Md_fumbles (w := shr V.B V.lid V.f k) (by omega) hw q2 rfl q3 hP (fun J2 P2 z1 z2 z3 => ih (j + 1) J2 P2 (by omega) (hF.tr z1) z2 ?_)
          rw [z3, ← hs]
          have : nxw V.B V.lid V.f (shr V.B V.lid V.f k) = shr V.B V.lid V.f (k + 1) := funext (fun s => nxw_shr)
          rw [this]
      have loop38 : ∀ k j J1, j + k = V.T.ord.length → FrJ J J1 → (∀ t, t ∈ V.T.ord.take j → J1 71 t = lN 0) → Wp (d - 1) Md_fumble (QL F) 38 [some (.ref 57), some (.int (nI n)), some (.int y), some (.int (nI j)), none, none, none, none, none, none, none, none, none] [] I1 J1 := by
        intro k
        induction k with
        | zero =>
          intro j J1 hj hF h71
          have hj : j = V.T.ord.length := by omega
          subst hj
          rw [List.take_length] at h71
          refine v_Md_fumble_57_38 ⟨fun q => ?_, fun _ => ?_⟩
          · rw [hI.1] at q; exact absurd ((n_lt (by omega) (by omega)).mp q) (Nat.lt_irrefl _)
          · have hs2 := s31 hw.1 hw.2.2.1.1
            rw [q2.2.2.2.2.1, n_tN (by omega)]
            refine ⟨n_vp hs2 (by decide), loop81 n 0 _ (updN (fun _ => 0) V.s (0 + 1)) (Nat.zero_add _) (hF.tr FrJ_71) (fun t ht => ?_) ?_⟩
            · by_cases e4 : t = V.s
              · rw [e4, upJ_s]; simp [updN]; rfl
              · rw [upJ_k e4, h71 t ht]; simp [updN, e4]
            · rw [sm_upd (P := fun _ => 0) hT.1 bfs_self, sm_0 (fun _ _ => rfl), Nat.zero_add, Nat.one_mul]; rfl
        | succ k ih =>
          intro j J1 hj hF h71
          have hlt : j < V.T.ord.length := by omega
          have hm := List.getElem_mem hlt
          have hs2 := s31 hw.1 (hT.2.2.1 _ hm).1.1
          have hv := n_vp (a := j) (n := 1024) (by omega) (by decide)
          have hv2 := n_vp (a := V.T.ord[j]) (n := 1024) hs2 (by decide)
          refine v_Md_fumble_57_38 ⟨fun _ => ⟨hv, ?_⟩, fun q => absurd ((n_lt (by omega) (by omega)).mpr hlt) (by rw [hI.1] at q; exact q)⟩
          rw [n_tN (by omega), hI.ord' hlt, n_tN (a := V.T.ord[j]) (by omega), n_inc]
          refine ⟨hv2, ih (j + 1) _ (by omega) (hF.tr FrJ_71) (fun t ht => ?_)⟩
          rw [take_last hlt] at ht
          by_cases e4 : t = V.T.ord[j]
          · rw [e4, upJ_s]; rfl
          · rw [upJ_k e4]
            rcases List.mem_append.mp ht with z | z
            · exact h71 t z
            · exact absurd (by simpa using z) e4
      exact loop38 _ 0 J (Nat.zero_add _) FrJ.rf (fun t ht => by simp at ht)
end FUM2
