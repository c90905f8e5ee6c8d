/-! the game: the model's rounds walked; the answer of both sides -/
/-- known and depth tell g -/
def SR (T : Tw) (g : Gv) (I : I2) : Prop := ∀ s, s ∈ T.ord → I 69 s = nI (g s).1 ∧ ((g s).1 ≠ 0 → I 70 s = nI (g s).2)
def dI (B : Bx) (f : Nat) (g : Gv) (n s : Nat) : Int32 := if wnB B f g n s then nI n else if lsB B f g s then -nI n else 0
theorem neg_ok : ∀ n, n < 1100 → n ≠ 0 → ¬ (-nI n = 0) ∧ ¬ (0 < -nI n) := by decide +kernel
theorem KnV_m1 {x : Int32} (h : KnV x) : ¬ x = -1 := by
  rcases h with e | e | e <;> rw [e] <;> decide
theorem optI_4 {g : Option Nat} (h : ∀ m, g = some m → m < 2 ^ 31) : optI g (-4) = -4 ↔ g = none := by
  cases g with
  | none => exact ⟨fun _ => rfl, fun _ => rfl⟩
  | some m =>
    refine ⟨fun q => ?_, fun q => by cases q⟩
    have e : nI m = -4 := q
    exact absurd (by rw [e]; decide) (nI_pos (h m rfl))
theorem allF {B : Bx} {f s n : Nat} : allP B f s (fun _ => false) n = decide (deg B f s n = 0) := by
  induction n with
  | zero => rfl
  | succ n ih =>
    cases hx : nx B f s n with
    | none => simp [allP, deg, ih, hx]
    | some t => simp [allP, deg, ih, hx]
section SV
variable {d : Nat} {V : Bv} {I : I2} {J : J2} {G : I2 → J2 → Prop} {F : Int32 → I2 → J2 → Prop} {f : Nat}
theorem l_solves1 (hd : 2 ≤ d) (hw : WFV V) (hV : MBx V I) {T : Tw} (eT : bfs V.B f V.s = T) (hA : WmA V f I) {g : Gv} {n : Nat} {x1 : Int32} (hn1 : 1 ≤ n) (hn : n < 1100) (hg : ∀ s, s ∈ T.ord → (g s).1 ≤ 2 ∧ (g s).2 < n) (h : ∀ I', FrK I I' → SR T g I' → (∀ s, s ∈ T.ord → (g s).1 = 0 → I' 70 s = dI V.B f g n s) → Wp d Md_solves (QV G) 146 [some (.ref 57), some (.int x1), some (.int (nI n)), some (.int 0), none] [] I' J) : ∀ k j I1, j + k = T.ord.length → FrK I I1 → SR T g I1 → (∀ s, s ∈ T.ord.take j → (g s).1 = 0 → I1 70 s = dI V.B f g n s) → Wp d Md_solves (QV G) 70 [some (.ref 57), some (.int x1), some (.int (nI n)), some (.int (nI j)), none] [] I1 J := by
  have hp5 := hw.1.1
  have hT : TI V.B T := eT ▸ TIb hw f
  have hlen := hT.len hw.1
  intro k
  induction k with
  | zero =>
    intro j I1 hj hFr hS hD
    have hj : j = T.ord.length := by omega
    subst hj
    rw [List.take_length] at hD
    have hI : WmR T I1 := eT ▸ (hFr.wma hA).1
    refine v_Md_solves_57_70 ⟨fun q => ?_, fun _ => h I1 hFr hS hD⟩
    rw [hI.1] at q; exact absurd ((n_lt (by omega) (by omega)).mp q) (Nat.lt_irrefl _)
  | succ k ih =>
    intro j I1 hj hFr hS hD
    have hlt : j < T.ord.length := by omega
    have hA1 := hFr.wma hA
    have hI : WmR T I1 := eT ▸ hA1.1
    have hV1 := hFr.q.mbx hV
    have hs := List.getElem_mem hlt
    have hs2 := s31 hw.1 (hT.2.2.1 _ hs).1.1
    have hnt := nodup_take_not hT.1 hlt
    have hv := n_vp (a := j) (n := 1024) (by omega) (by decide)
    have hv2 := n_vp (a := T.ord[j]) (n := 1024) hs2 (by decide)
    have go := fun I' => ih (j + 1) I' (by omega)
    rw [take_last hlt] at go
    obtain ⟨g1, g2⟩ := hg _ hs
    refine v_Md_solves_57_70 ⟨fun _ => ⟨hv, ?_⟩, fun q => absurd ((n_lt (by omega) (by omega)).mpr hlt) (by rw [hI.1] at q; exact q)⟩
    rw [n_tN (by omega), hI.ord' hlt, n_tN (a := T.ord[j]) (by omega), (hS _ hs).1, n_e0 (by omega), n_inc, n_dec hn1]
    refine ⟨hv2, fun e0 => ?_, fun e0 => go I1 hFr hS (fun s hs h0 => ?_)⟩
    · have go : Wp d Md_solves (QV G) 70 [some (.ref 57), some (.int x1), some (.int (nI n)), some (.int (nI (j + 1))), none] [] (up2 I1 70 T.ord[j] (dI V.B f g n T.ord[j])) J := by
        refine go _ (hFr.tr FrK_70) (fun t ht => ?_) (fun t ht h0 => ?_)
        · refine ⟨by simp [up2]; exact (hS t ht).1, fun hne => ?_⟩
          have : t ≠ T.ord[j] := fun z => hne (by rw [z]; exact e0)
          simp [up2, upd, this]; exact (hS t ht).2 hne
        · by_cases e : t = T.ord[j]
          · simp [up2, upd, e]
          · simp [up2, upd, e]
            rcases List.mem_append.mp ht with z | z
            · exact hD t z h0
            · exact absurd (by simpa using z) e
      have hP : ∀ t, t ∈ T.ord → ((fun t => decide ((g t).1 = 2 ∧ (g t).2 = n - 1)) t = true ↔ I1 69 t = 2 ∧ (nI (n - 1) < 0 ∨ I1 70 t = nI (n - 1))) := by
        intro t ht
        obtain ⟨b1, b2⟩ := hg t ht
        obtain ⟨c1, c2⟩ := hS t ht
        rw [c1, show (nI (g t).1 = 2) = (nI (g t).1 = nI 2) from rfl, n_eq (by omega) (by decide)]
        simp only [decide_eq_true_eq]
        refine ⟨fun ⟨y1, y2⟩ => ⟨y1, Or.inr ?_⟩, fun ⟨y1, y2⟩ => ⟨y1, ?_⟩⟩
        · rw [c2 (by rw [y1]; decide), y2]
        · rcases y2 with z | z
          · exact absurd z (nI_pos (by omega))
          · rw [c2 (by rw [y1]; decide), n_eq (by omega) (by omega)] at z; exact z
      have hQ : ∀ t, t ∈ T.ord → ((fun t => decide ((g t).1 = 1)) t = true ↔ I1 69 t = 1) := by
        intro t ht
        obtain ⟨b1, b2⟩ := hg t ht
        rw [(hS t ht).1, show (nI (g t).1 = 1) = (nI (g t).1 = nI 1) from rfl, n_eq (by omega) (by decide)]
        simp only [decide_eq_true_eq]
      refine c_Md_slideTo (by omega) hw hV1 eT hA1 hP hs ?_
      rw [optI_4 (fun m hm => by have := fmP_lt hm; omega)]
      unfold dI at go
      refine ⟨fun e1 => ?_, fun e1 => ⟨hv2, ?_⟩⟩
      · have ew : wnB V.B f g n T.ord[j] = false := by unfold wnB; rw [e1]; rfl
        rw [if_neg (by rw [ew]; decide)] at go
        refine c_Md_areAll (by omega) hw hV1 eT hA1 hQ hs ?_
        rw [bI_0]
        refine ⟨fun e2 => ⟨hv2, ?_⟩, fun e2 => ⟨hv2, ?_⟩⟩
        · rw [if_neg (by unfold lsB; rw [e2]; decide)] at go; exact go
        · rw [if_pos (show lsB V.B f g T.ord[j] = true by simpa [lsB] using e2)] at go; exact go
      · have ew : wnB V.B f g n T.ord[j] = true := by
          unfold wnB
          cases z : fmP V.B f T.ord[j] (fun t => decide ((g t).1 = 2 ∧ (g t).2 = n - 1)) with
          | none => exact absurd z e1
          | some _ => rfl
        rw [if_pos ew] at go; exact go
    · rcases List.mem_append.mp hs with z | z
      · exact hD s z h0
      · have z : s = T.ord[j] := by simpa using z
        exact absurd (z ▸ h0) e0
theorem l_solves2 (hw : WFV V) {T : Tw} (eT : bfs V.B f V.s = T) (hA : WmA V f I) {g : Gv} {n : Nat} (hn1 : 1 ≤ n) (hn : n < 1100) (hg : ∀ s, s ∈ T.ord → (g s).1 ≤ 2 ∧ (g s).2 < n) (h : ∀ I', FrK I I' → SR T (rnd V.B f g n) I' → Wp d Md_solves (QV G) 62 [some (.ref 57), some (.int (bI (T.ord.any (fun s => decide ((g s).1 = 0 ∧ (rnd V.B f g n s).1 ≠ 0))))), some (.int (nI (n + 1))), none, none] [] I' J) : ∀ k j I1, j + k = T.ord.length → FrK I I1 → (∀ s, s ∈ T.ord.take j → I1 69 s = nI (rnd V.B f g n s).1 ∧ ((rnd V.B f g n s).1 ≠ 0 → I1 70 s = nI (rnd V.B f g n s).2)) → (∀ s, s ∈ T.ord → s ∉ T.ord.take j → I1 69 s = nI (g s).1 ∧ ((g s).1 ≠ 0 → I1 70 s = nI (g s).2) ∧ ((g s).1 = 0 → I1 70 s = dI V.B f g n s)) → Wp d Md_solves (QV G) 146 [some (.ref 57), some (.int (bI ((T.ord.take j).any (fun s => decide ((g s).1 = 0 ∧ (rnd V.B f g n s).1 ≠ 0))))), some (.int (nI n)), some (.int (nI j)), none] [] I1 J := by
  have hp5 := hw.1.1
  have hT : TI V.B T := eT ▸ TIb hw f
  have hlen := hT.len hw.1
  intro k
  induction k with
  | zero =>
    intro j I1 hj hFr hS hD
    have hj : j = T.ord.length := by omega
    subst hj
    rw [List.take_length] at hS ⊢
    have hI : WmR T I1 := eT ▸ (hFr.wma hA).1
    refine v_Md_solves_57_146 ⟨fun q => ?_, fun _ => by rw [n_inc]; exact h I1 hFr hS⟩
    rw [hI.1] at q; exact absurd ((n_lt (by omega) (by omega)).mp q) (Nat.lt_irrefl _)
  | succ k ih =>
    intro j I1 hj hFr hS hD
    have hlt : j < T.ord.length := by omega
    have hA1 := hFr.wma hA
    have hI : WmR T I1 := eT ▸ hA1.1
    have hs := List.getElem_mem hlt
    have hs2 := s31 hw.1 (hT.2.2.1 _ hs).1.1
    have hnt := nodup_take_not hT.1 hlt
    have hv := n_vp (a := j) (n := 1024) (by omega) (by decide)
    have hv2 := n_vp (a := T.ord[j]) (n := 1024) hs2 (by decide)
    have go0 := fun I' => ih (j + 1) I' (by omega)
    rw [take_last hlt, List.any_append, List.any_cons, List.any_nil, Bool.or_false] at go0
    obtain ⟨g1, g2⟩ := hg _ hs
    obtain ⟨d1, d2, d3⟩ := hD _ hs hnt
    have go : ∀ I2 b, FrK I I2 → (I2 69 T.ord[j] = nI (rnd V.B f g n T.ord[j]).1 ∧ ((rnd V.B f g n T.ord[j]).1 ≠ 0 → I2 70 T.ord[j] = nI (rnd V.B f g n T.ord[j]).2)) → (∀ t, t ≠ T.ord[j] → I2 69 t = I1 69 t ∧ I2 70 t = I1 70 t) → b = bI ((T.ord.take j).any (fun s => decide ((g s).1 = 0 ∧ (rnd V.B f g n s).1 ≠ 0)) || decide ((g T.ord[j]).1 = 0 ∧ (rnd V.B f g n T.ord[j]).1 ≠ 0)) → Wp d Md_solves (QV G) 146 [some (.ref 57), some (.int b), some (.int (nI n)), some (.int (nI (j + 1))), none] [] I2 J := by
      intro I2 b k1 k2 k3 k4
      rw [k4]
      refine go0 I2 k1 (fun s hs => ?_) (fun s hs hn => ?_)
      · rcases List.mem_append.mp hs with z | z
        · have hne : s ≠ T.ord[j] := fun y => hnt (y ▸ z)
          rw [(k3 s hne).1, (k3 s hne).2]; exact hS s z
        · have z : s = T.ord[j] := by simpa using z
          rw [z]; exact k2
      · have h1 : s ∉ T.ord.take j := fun z => hn (List.mem_append_left _ z)
        have hne : s ≠ T.ord[j] := fun y => hn (List.mem_append_right _ (by rw [y]; exact List.mem_singleton.mpr rfl))
        rw [(k3 s hne).1, (k3 s hne).2]; exact hD s hs h1
    refine v_Md_solves_57_146 ⟨fun _ => ⟨hv, ?_⟩, fun q => absurd ((n_lt (by omega) (by omega)).mpr hlt) (by rw [hI.1] at q; exact q)⟩
    rw [n_tN (by omega), hI.ord' hlt, n_tN (a := T.ord[j]) (by omega), d1, n_e0 (by omega), n_inc]
    refine ⟨hv2, fun e0 => ⟨hv2, ?_⟩, fun e0 => ?_⟩
    · rw [d3 e0]
      unfold dI
      rcases rnd_0 (B := V.B) (f := f) (n := n) e0 with ⟨e, w⟩ | ⟨e, w, l⟩ | ⟨e, w, l⟩
      · rw [if_pos w, n_e0 (by omega)]
        refine ⟨fun q => by omega, fun _ => ⟨hv2, fun _ => ⟨hv2, hv2, go _ _ ((hFr.tr FrK_69).tr FrK_70) ?_ (fun t ht => by simp [up2, upd, ht]) ?_⟩, fun q => absurd ((n_p0 (by omega)).mpr (by omega)) q⟩⟩
        · rw [e]; simp [up2, upd]; rfl
        · rw [e]; simp [e0, bI]
      · rw [if_neg (by rw [w]; decide), if_pos l]
        have ng := neg_ok n hn (by omega)
        refine ⟨fun q => absurd q ng.1, fun _ => ⟨hv2, fun q => absurd q ng.2, fun _ => ⟨hv2, hv2, go _ _ ((hFr.tr FrK_69).tr FrK_70) ?_ (fun t ht => by simp [up2, upd, ht]) ?_⟩⟩⟩
        · rw [e]; simp [up2, upd]; rfl
        · rw [e]; simp [e0, bI]
      · rw [if_neg (by rw [w]; decide), if_neg (by rw [l]; decide)]
        refine ⟨fun _ => go _ _ hFr ?_ (fun t _ => ⟨rfl, rfl⟩) ?_, fun q => absurd rfl q⟩
        · rw [e]; exact ⟨by rw [d1, e0], fun q => absurd rfl q⟩
        · rw [e]; simp
    · refine go _ _ hFr ?_ (fun t _ => ⟨rfl, rfl⟩) ?_
      · rw [rnd_n e0]; exact ⟨d1, d2⟩
      · simp [e0]
theorem c_Md_solves (hd : 3 ≤ d) (hw : WFV V) (hV : MBx V I) {T : Tw} (eT : bfs V.B f V.s = T) (hA : WmA V f I) (hK : ∀ t, KnV (I 69 t)) (h : ∀ I' g, FrK I I' → GC V.B V.lid f T g → (∀ s, s ∈ T.ord → (g s).1 ≤ 2 ∧ (g s).2 ≤ 1025) → SR T g I' → G I' J) : CV d Md_solves [.ref 57] I J G := by
  have hp5 := hw.1.1
  have hT : TI V.B T := eT ▸ TIb hw f
  have hcl : Clo V.B f T := eT ▸ Clob hw f
  have hlen := hT.len hw.1
  have one : ∀ n g I1, 1 ≤ n → n < 1026 → FrK I I1 → PI V.B V.lid f T n g → SR T g I1 → (∀ I3, FrK I I3 → PI V.B V.lid f T (n + 1) (rnd V.B f g n) → SR T (rnd V.B f g n) I3 → (T.ord.filter (fun s => decide ((rnd V.B f g n s).1 = 0))).length < (T.ord.filter (fun s => decide ((g s).1 = 0))).length → Wp (d - 1) Md_solves (QV G) 62 [some (.ref 57), some (.int 1), some (.int (nI (n + 1))), none, none] [] I3 J) → Wp (d - 1) Md_solves (QV G) 62 [some (.ref 57), some (.int 1), some (.int (nI n)), none, none] [] I1 J := by
    intro n g I1 hn1 hn hFr hP hS next
    have hg : ∀ s, s ∈ T.ord → (g s).1 ≤ 2 ∧ (g s).2 < n := fun s hs => ⟨(hP s hs).1.1, (hP s hs).1.2.1⟩
    refine v_Md_solves_57_62 ⟨fun q => absurd q (by decide), fun _ => ?_⟩
    refine l_solves1 (by omega) hw hV eT hA hn1 (by omega) hg (fun I2 k1 k2 k3 => ?_) _ 0 I1 (Nat.zero_add _) hFr hS (fun s hs => by simp at hs)
    refine l_solves2 hw eT hA hn1 (by omega) hg (fun I3 l1 l2 => ?_) _ 0 I2 (Nat.zero_add _) k1 (fun s hs => by simp at hs) (fun s hs _ => ⟨(k2 s hs).1, (k2 s hs).2, k3 s hs⟩)
    cases hany : T.ord.any (fun s => decide ((g s).1 = 0 ∧ (rnd V.B f g n s).1 ≠ 0)) with
    | false =>
      rw [List.any_eq_false] at hany
      have hE : ∀ s, s ∈ T.ord → (g s).1 = 0 → (rnd V.B f g n s).1 = 0 := by
        intro s hs e0
        have := hany s hs
        simp only [decide_eq_true_eq, not_and, Classical.not_not] at this
        exact this e0
      refine v_Md_solves_57_62 ⟨fun _ => QV_i.mpr (h I3 g l1 (PI_end hn1 hP hE) (fun s hs => ⟨(hg s hs).1, by have := (hg s hs).2; omega⟩) (fun s hs => ?_)), fun q => absurd rfl q⟩
      obtain ⟨m1, m2⟩ := l2 s hs
      by_cases e0 : (g s).1 = 0
      · rw [hE s hs e0] at m1
        exact ⟨by rw [e0]; exact m1, fun q => absurd e0 q⟩
      · rw [rnd_n e0] at m1 m2; exact ⟨m1, m2⟩
    | true =>
      obtain ⟨s, hs, hc⟩ := List.any_eq_true.mp hany
      simp only [decide_eq_true_eq] at hc
      refine next I3 l1 (PI_rnd hcl hn1 hP) l2 (filt_lt (s := s) (fun x hx => ?_) (by simp [hc.1]) (by simp [hc.2]) hs)
      by_cases e0 : (g x).1 = 0
      · simp [e0]
      · rw [rnd_n e0] at hx; exact hx
  have rounds : ∀ K n g I1, (T.ord.filter (fun s => decide ((g s).1 = 0))).length ≤ K → n + K ≤ 1025 → 1 ≤ n → FrK I I1 → PI V.B V.lid f T n g → SR T g I1 → Wp (d - 1) Md_solves (QV G) 62 [some (.ref 57), some (.int 1), some (.int (nI n)), none, none] [] I1 J := by
    intro K
    induction K with
    | zero =>
      intro n g I1 hc hk hn hFr hP hS
      exact one n g I1 hn (by omega) hFr hP hS (fun I3 _ _ _ z => by omega)
    | succ K ih =>
      intro n g I1 hc hk hn hFr hP hS
      exact one n g I1 hn (by omega) hFr hP hS (fun I3 z1 z2 z3 z4 => ih (n + 1) _ I3 (by omega) (by omega) (by omega) z1 z2 z3)
  have loop2 : ∀ k j I1, j + k = T.ord.length → FrK I I1 → (∀ s, s ∈ T.ord.take j → I1 69 s = (if termB V.B V.lid f s then 2 else 0) ∧ I1 70 s = 0) → Wp (d - 1) Md_solves (QV G) 2 [some (.ref 57), some (.int (nI j)), none, none, none] [] I1 J := by
    intro k
    induction k with
    | zero =>
      intro j I1 hj hFr hS
      have hj : j = T.ord.length := by omega
      subst hj
      rw [List.take_length] at hS
      have hI : WmR T I1 := eT ▸ (hFr.wma hA).1
      refine v_Md_solves_57_2 ⟨fun q => ?_, fun _ => ?_⟩
      · rw [hI.1] at q; exact absurd ((n_lt (by omega) (by omega)).mp q) (Nat.lt_irrefl _)
      · have h1 := PI_1 (B := V.B) (o := V.lid) (f := f) (T := T) (g := fun s => if termB V.B V.lid f s then (2, 0) else (0, 0)) (fun s _ => rfl)
        refine rounds 1024 1 _ I1 (Nat.le_trans (List.length_filter_le _ _) hlen) (by decide) (by decide) hFr (h1.2 hcl) (fun s hs => ?_)
        obtain ⟨m1, m2⟩ := hS s hs
        cases hh : termB V.B V.lid f s with
        | true => rw [hh] at m1; exact ⟨m1, fun _ => m2⟩
        | false => rw [hh] at m1; exact ⟨m1, fun _ => m2⟩
    | succ k ih =>
      intro j I1 hj hFr hS
      have hlt : j < T.ord.length := by omega
      have hA1 := hFr.wma hA
      have hI : WmR T I1 := eT ▸ hA1.1
      have hV1 := hFr.q.mbx hV
      have hs := List.getElem_mem hlt
      have hs2 := s31 hw.1 (hT.2.2.1 _ hs).1.1
      have hnt := nodup_take_not hT.1 hlt
      have hv := n_vp (a := j) (n := 1024) (by omega) (by decide)
      have hv2 := n_vp (a := T.ord[j]) (n := 1024) hs2 (by decide)
      have go0 := fun I' => ih (j + 1) I' (by omega)
      rw [take_last hlt] at go0
      have go : ∀ v, KnV v → v = (if termB V.B V.lid f T.ord[j] then 2 else 0) → Wp (d - 1) Md_solves (QV G) 2 [some (.ref 57), some (.int (nI (j + 1))), none, none, none] [] (up2 (up2 I1 69 T.ord[j] v) 70 T.ord[j] 0) J := by
        intro v hkv ev
        refine go0 _ ((hFr.tr (FrK_69 hkv)).tr FrK_70) (fun s hs => ?_)
        rcases List.mem_append.mp hs with z | z
        · have hne : s ≠ T.ord[j] := fun y => hnt (y ▸ z)
          simp [up2, upd, hne]; exact hS s z
        · have z : s = T.ord[j] := by simpa using z
          rw [z]; simp [up2, upd]; exact ev
      refine v_Md_solves_57_2 ⟨fun _ => ⟨hv, ?_⟩, fun q => absurd ((n_lt (by omega) (by omega)).mpr hlt) (by rw [hI.1] at q; exact q)⟩
      rw [n_tN (by omega), hI.ord' hlt, n_tN (a := T.ord[j]) (by omega), n_inc]
      refine c_Md_isOpen (by omega) hw.1 hV1.boxM hV1.2.1 hw.2.1 (by omega) ?_
      rw [show (decide (0 < V.B.pn) && decide (pl T.ord[j] V.lid = V.B.dp V.lid)) = openB V.B V.lid T.ord[j] from rfl, bI_0]
      refine ⟨fun e => c_Md_areAll (P := fun _ => false) (by omega) hw hV1 eT hA1 (fun t ht => ⟨fun q => absurd q (by decide), fun q => absurd q (KnV_m1 (hFr.2 t (hK t)))⟩) hs ?_, fun e => ⟨hv2, hv2, go 2 (Or.inr (Or.inr rfl)) ?_⟩⟩
      · rw [allF, bI_0, decide_eq_false_iff_not]
        refine ⟨fun e2 => ⟨hv2, hv2, go 0 (Or.inl rfl) ?_⟩, fun e2 => ⟨hv2, hv2, go 2 (Or.inr (Or.inr rfl)) ?_⟩⟩
        · rw [if_neg (by unfold termB; simp [e, e2])]
        · rw [if_pos (by unfold termB; simp [e, Classical.not_not.mp e2])]
      · rw [if_pos (by unfold termB; simp [show openB V.B V.lid T.ord[j] = true by simpa using e])]
  exact CV.of (by omega) rfl (v_Md_solves_57_0 (loop2 _ 0 I (Nat.zero_add _) FrK.rf (fun s hs => by simp at hs)))
/-! the answers -/
def ltB (g : Gv) (s t : Nat) : Bool := if (g s).1 = 0 then decide ((g t).1 = 0) else decide ((g t).1 ≠ 0 ∧ (g t).1 ≠ (g s).1 ∧ (g t).2 + 1 = (g s).2)
noncomputable def gameS (V : Bv) (x : Int32) : Int32 := if x < 0 ∨ 2 < x then -1 else if V.B.pn = 0 then -4 else if x = 0 then nI (gm V.B V.lid V.f V.T V.s).1 else if x = 1 then nI (gm V.B V.lid V.f V.T V.s).2 else if openB V.B V.lid V.s then -4 else optI ((fmP V.B V.f V.s (ltB (gm V.B V.lid V.f V.T) V.s)).map slN) (-4)
theorem gameS_of (hw : WFV V) {g : Gv} (hG : GC V.B V.lid V.f V.T g) {x : Int32} (h0 : ¬ (x < 0 ∨ 2 < x)) (h1 : ¬ V.B.pn = 0) : gameS V x = if x = 0 then nI (g V.s).1 else if x = 1 then nI (g V.s).2 else if openB V.B V.lid V.s then -4 else optI ((fmP V.B V.f V.s (ltB g V.s)).map slN) (-4) := by
  have hcl : Clo V.B V.f V.T := Clob hw V.f
  have hs : V.s ∈ V.T.ord := bfs_self
  have e := gm_eq hcl hG hs
  have e2 : fmP V.B V.f V.s (ltB (gm V.B V.lid V.f V.T) V.s) = fmP V.B V.f V.s (ltB g V.s) := by
    refine fmP_congr (fun t ht => ?_)
    obtain ⟨m, hm, hnx⟩ := ht
    unfold ltB
    rw [e, gm_eq hcl hG (hcl V.s hs m t hm hnx)]
  unfold gameS
  rw [if_neg h0, if_neg h1, e, e2]
theorem GC_z {B : Bx} {o f : Nat} {T : Tw} {g : Gv} (hg : GC B o f T g) {s : Nat} (hs : s ∈ T.ord) : ((g s).1 = 0 → (g s).2 = 0) ∧ ((g s).2 = 0 → ¬ (g s).1 = 0 → trm B o f s) := by
  obtain ⟨a1, a2, a3, a4⟩ := hg s hs
  by_cases ht : trm B o f s
  · exact ⟨fun _ => by rw [a1 ht], fun _ _ => ht⟩
  · by_cases hl : ∃ t, suc B f s t ∧ (g t).1 = 2
    · obtain ⟨b1, ⟨t, _, _, b2⟩, _⟩ := a2 ht hl
      exact ⟨fun e => by omega, fun e => by omega⟩
    · by_cases hw : ∀ t, suc B f s t → (g t).1 = 1
      · obtain ⟨b1, ⟨t, _, b2⟩, _⟩ := a3 ht hw
        exact ⟨fun e => by omega, fun e => by omega⟩
      · have := a4 ht hl hw
        exact ⟨fun _ => by rw [this], fun _ e => absurd (by rw [this]) e⟩
theorem c_Md_game (hd : 7 ≤ d) (hw : WFV V) (hV : MBx V I) (hK : ∀ t, KnV (I 69 t)) (x : Int32) (h : ∀ I', FrQ I I' → F (gameS V x) I' J) : CI d Md_game [.ref 57, .int x] I J F := by
  have hf := f64 hw.1 hw.2.2.2.1
  have hp5 := hw.1.1
  refine CI.of (by omega) rfl (v_Md_game_57_0 (c_Md_in (by omega) ?_))
  rw [in_rng (lo := 0) (hi := 2) (by decide) (by decide)]
  refine ⟨fun e => ?_, fun e => ?_⟩
  · rw [show gameS V x = -1 from if_pos e] at h; exact QI_i.mpr (h I FrQ.rf)
  · rw [hV.1.1, n_e0 (by omega), hV.2.2.1]
    refine ⟨fun e1 => ?_, fun e1 => ?_⟩
    · rw [show gameS V x = -4 from (if_neg e).trans (if_pos e1)] at h; exact QI_i.mpr (h I FrQ.rf)
    · refine c_M_thr (by omega) hw hV hf (fun I1 q1 q2 q3 => c_Md_solves (by omega) hw q2 rfl q3 (fun t => q1.2.2 t (hK t)) (fun I2 g z hG hb hS => ?_))
      rw [gameS_of hw hG e e1] at h
      have h := h I2 (q1.tr z.q)
      have hV2 := z.q.mbx q2
      have hs : V.s ∈ V.T.ord := bfs_self
      have hs2 := s31 hw.1 hw.2.2.1.1
      obtain ⟨b1, b2⟩ := hb _ hs
      obtain ⟨s1, s2⟩ := hS _ hs
      have hv := n_vp (a := V.s) (n := 1024) hs2 (by decide)
      rw [hV2.2.2.2.2.1, n_tN (by omega), s1, n_e0 (by omega)]
      have hA2 := z.wma q3
      have fin : ∀ g1 : Option Nat, (∀ m, g1 = some m → m < 2 ^ 20) → F (optI (g1.map slN) (-4)) I2 J → ((optI g1 (-4) = -4 → QI F (some (.int (-4))) I2 J) ∧ (¬ (optI g1 (-4) = -4) → QI F (some (.int (10 * (optI g1 (-4) / 2) + rmI (optI g1 (-4)) 2))) I2 J)) := by
        intro g1 hg hh
        cases g1 with
        | none => exact ⟨fun _ => QI_i.mpr hh, fun q => absurd rfl q⟩
        | some m =>
          have hm := hg m rfl
          refine ⟨fun q => ?_, fun _ => QI_i.mpr ?_⟩
          · rw [optI_4 (fun m' hm' => by have := hg m' hm'; omega)] at q; cases q
          · show F (10 * (nI m / 2) + rmI (nI m) 2) I2 J
            rw [n_slM hm]; exact hh
      refine ⟨fun e2 => ⟨fun e3 => ⟨hv, QI_i.mpr ?_⟩, fun e3 => ⟨hv, fun e4 => QI_i.mpr ?_, fun e4 => ⟨hv, QI_i.mpr ?_⟩⟩⟩, fun e2 => ?_⟩
      · rw [if_pos e3] at h; exact h
      · have e5 : x = 1 := by
          simp only [not_or] at e
          obtain ⟨j, hj, rfl⟩ := le_of (n := 2) e.1 e.2 (by decide)
          have := (n_lt (b := 2) (by omega) (by decide)).mp e2
          match j, this with
          | 0, _ => exact absurd rfl e3
          | 1, _ => rfl
        rw [if_neg e3, if_pos e5, (GC_z hG hs).1 e4] at h; exact h
      · have e5 : x = 1 := by
          simp only [not_or] at e
          obtain ⟨j, hj, rfl⟩ := le_of (n := 2) e.1 e.2 (by decide)
          have := (n_lt (b := 2) (by omega) (by decide)).mp e2
          match j, this with
          | 0, _ => exact absurd rfl e3
          | 1, _ => rfl
        rw [if_neg e3, if_pos e5] at h; rw [s2 e4]; exact h
      · rw [if_neg (fun q => e2 (by rw [q]; decide)), if_neg (fun q => e2 (by rw [q]; decide))] at h
        refine c_Md_isOpen (by omega) hw.1 hV2.boxM hV2.2.1 hw.2.1 (by omega) ?_
        rw [show (decide (0 < V.B.pn) && decide (pl V.s V.lid = V.B.dp V.lid)) = openB V.B V.lid V.s from rfl, bI_0]
        refine ⟨fun e3 => ⟨hv, fun e4 => ?_, fun e4 => ⟨hv, hv, ?_⟩⟩, fun e3 => QI_i.mpr ?_⟩
        · rw [s1, n_e0 (by omega)] at e4
          rw [if_neg (by rw [e3]; decide)] at h
          refine c_Md_slideTo (P := ltB g V.s) (by omega) hw hV2 rfl hA2 (fun t ht => ?_) hs (fin _ (fun m hm => by have := fmP_lt hm; omega) h)
          have := (hb t ht).1
          unfold ltB
          rw [if_pos e4, (hS t ht).1, n_e0 (by omega), decide_eq_true_eq]
          exact ⟨fun q => ⟨q, Or.inl (by decide)⟩, fun q => q.1⟩
        · rw [s1, n_e0 (by omega)] at e4
          rw [if_neg (by rw [e3]; decide)] at h
          rw [s1, s2 e4]
          by_cases e5 : (g V.s).2 = 0
          · have hno : ∀ P, fmP V.B V.f V.s P = none := fun P => fmP_none (((GC_z hG hs).2 e5 e4).resolve_left (by rw [e3]; decide))
            rw [hno] at h
            refine c_Md_slideTo (P := fun t => decide (I2 69 t = 3 - nI (g V.s).1 ∧ (nI (g V.s).2 - 1 < 0 ∨ I2 70 t = nI (g V.s).2 - 1))) (by omega) hw hV2 rfl hA2 (fun t ht => decide_eq_true_iff) hs ?_
            rw [hno]
            exact fin none (fun m hm => by cases hm) h
          · have e6 : (3 : Int32) - nI (g V.s).1 = nI (3 - (g V.s).1) := pk_sub (a := 3) (by omega)
            rw [e6, n_dec (by omega)]
            refine c_Md_slideTo (P := ltB g V.s) (by omega) hw hV2 rfl hA2 (fun t ht => ?_) hs (fin _ (fun m hm => by have := fmP_lt hm; omega) h)
            obtain ⟨t1, t2⟩ := hb t ht
            obtain ⟨u1, u2⟩ := hS t ht
            unfold ltB
            rw [if_neg e4, u1, n_eq (by omega) (by omega), decide_eq_true_eq]
            refine ⟨fun ⟨y1, y2, y3⟩ => ⟨by omega, Or.inr ?_⟩, fun ⟨y1, y2⟩ => ?_⟩
            · rw [u2 y1]; congr 1; omega
            · have y3 : (g t).1 ≠ 0 := by omega
              refine ⟨y3, by omega, ?_⟩
              rcases y2 with y | y
              · exact absurd y (nI_pos (by omega))
              · rw [u2 y3, n_eq (by omega) (by omega)] at y; omega
        · rw [if_pos (by simpa using e3)] at h; exact h
theorem c_Eg_leadsTo {T : Tw} {g : Gv} {s t : Nat} (hd : 1 ≤ d) (hgs : (g s).1 ≤ 2 ∧ (g s).2 ≤ 1024) (hgt : (g t).1 ≤ 2 ∧ (g t).2 ≤ 1024) (hs2 : s < 1024) (ht2 : t < 1024) (hs : I 46 s = nI (g s).1 ∧ I 47 s = nI (g s).2) (ht : I 46 t = nI (g t).1 ∧ I 47 t = nI (g t).2) (h : F (bI (ltB g s t)) I J) : CI d Eg_leadsTo [.ref 41, .int (nI s), .int (nI t)] I J F := by
  have hv := n_vp (a := s) (n := 1024) hs2 (by decide)
  have hv2 := n_vp (a := t) (n := 1024) ht2 (by decide)
  refine CI.of (by omega) rfl (v_Eg_leadsTo_41_0 ?_)
  rw [n_tN (a := s) (by omega), n_tN (a := t) (by omega), hs.1, hs.2, ht.1, ht.2, n_e0 (by omega), n_e0 (by omega), n_eq (by omega) (by omega), n_inc, n_eq (by omega) (by omega)]
  unfold ltB at h
  refine ⟨hv, fun e => ⟨hv2, fun e2 => QI_i.mpr ?_, fun e2 => QI_i.mpr ?_⟩, fun e => ⟨hv2, fun e2 => QI_i.mpr ?_, fun e2 => ⟨hv2, hv, fun e3 => QI_i.mpr ?_, fun e3 => ⟨hv2, hv, fun e4 => QI_i.mpr ?_, fun e4 => QI_i.mpr ?_⟩⟩⟩⟩
  · rw [if_pos e, decide_eq_true e2] at h; exact h
  · rw [if_pos e, decide_eq_false e2] at h; exact h
  · rw [if_neg e, decide_eq_false (fun q => q.1 e2)] at h; exact h
  · rw [if_neg e, decide_eq_false (fun q => q.2.1 e3)] at h; exact h
  · rw [if_neg e, decide_eq_true ⟨e2, e3, e4⟩] at h; exact h
  · rw [if_neg e, decide_eq_false (fun q => e4 q.2.2)] at h; exact h
theorem c_Eg_firstSlide {T : Tw} {g : Gv} {s : Nat} (hd : 3 ≤ d) (hw : WFV V) (hV : CBx 1 V I) (hf : f < 64) (eT : bfs V.B f V.s = T) (hA : WkA V f I) (hb : ∀ s, s ∈ T.ord → (g s).1 ≤ 2 ∧ (g s).2 ≤ 1024) (hS : ∀ s, s ∈ T.ord → I 46 s = nI (g s).1 ∧ I 47 s = nI (g s).2) (hs : s ∈ T.ord) (h : F (if openB V.B V.lid s then -4 else optI ((fmP V.B f s (ltB g s)).map slN) (-4)) I J) : CI d Eg_firstSlide [.ref 41, .int (nI s)] I J F := by
  have hp5 := hw.1.1
  have hT : TI V.B T := eT ▸ TIb hw f
  have hcl : Clo V.B f T := eT ▸ Clob hw f
  have hok := (hT.2.2.1 _ hs).1
  have hs2 := s31 hw.1 hok.1
  refine CI.of (by omega) rfl (v_Eg_firstSlide_41_0 ?_)
  refine c_Bx_isOpen_1 (by omega) hw.1 hV.1 hV.2.1 hw.2.1 (by omega) ?_
  rw [show (decide (0 < V.B.pn) && decide (pl s V.lid = V.B.dp V.lid)) = openB V.B V.lid s from rfl, bI_0]
  refine ⟨fun e => ?_, fun e => QI_i.mpr ?_⟩
  · rw [if_neg (by rw [e]; decide)] at h
    have loop : ∀ k n, n + k = 2 * V.B.pn → ((List.range (2 * V.B.pn)).drop n).find? (mvP V.B f s (ltB g s)) = fmP V.B f s (ltB g s) → Wp (d - 1) Eg_firstSlide (QI F) 16 [some (.ref 41), some (.int (nI s)), some (.int (nI n)), none] [] I J := by
      intro k
      induction k with
      | zero =>
        intro n hn he
        have hn : n = 2 * V.B.pn := by omega
        subst hn
        rw [List.drop_of_length_le (by simp)] at he
        refine v_Eg_firstSlide_41_16 ⟨fun q => ?_, fun _ => QI_i.mpr ?_⟩
        · rw [hA.2.1.1] at q; exact absurd ((n_lt (by omega) (by omega)).mp q) (Nat.lt_irrefl _)
        · rw [← he] at h; exact h
      | succ k ih =>
        intro n hn he
        have hlt : n < 2 * V.B.pn := by omega
        rw [fmPN hlt] at he
        refine v_Eg_firstSlide_41_16 ⟨fun _ => c_Wk_next (by omega) hw.1 hA.2.1 hA.2.2.2.1 hf hok hlt ?_, fun q => absurd ((n_lt (by omega) (by omega)).mpr hlt) (by rw [hA.2.1.1] at q; exact q)⟩
        rw [n_inc]
        cases hnx : nx V.B f s n with
        | none =>
          have hp : mvP V.B f s (ltB g s) n = false := by unfold mvP; rw [hnx]
          rw [if_neg (by rw [hp]; decide)] at he
          exact ⟨fun _ => ih (n + 1) (by omega) he, fun q => absurd (by decide) q⟩
        | some t =>
          have htT := hcl s hs n t hlt hnx
          have ht2 := s31 hw.1 (hT.2.2.1 _ htT).1.1
          have hp : mvP V.B f s (ltB g s) n = ltB g s t := by unfold mvP; rw [hnx]
          rw [hp] at he
          refine ⟨fun q => absurd q (nI_pos (by omega)), fun _ => c_Eg_leadsTo (T := T) (by omega) (hb s hs) (hb t htT) hs2 ht2 (hS s hs) (hS t htT) ?_⟩
          rw [bI_0]
          refine ⟨fun e2 => ?_, fun e2 => CI.of (by omega) rfl (v_Wk_slideOf_0 (QI_i.mpr (QI_i.mpr ?_)))⟩
          · rw [if_neg (by rw [e2]; decide)] at he
            exact ih (n + 1) (by omega) he
          · rw [if_pos (by simpa using e2)] at he
            rw [← he] at h
            rw [n_slW (by omega)]; exact h
    exact loop _ 0 (Nat.zero_add _) rfl
  · rw [if_pos (by simpa using e)] at h; exact h
theorem c_Sb_game (hd : 7 ≤ d) (hw : WFV V) (hV : CBx 1 V I) (hC : CaR V.B I) (x : Int32) (h : ∀ I', FrG I I' → CaR V.B I' → F (gameS V x) I' J) : CI d Sb_game [.ref 0, .int x] I J F := by
  have hf := f64 hw.1 hw.2.2.2.1
  have hp5 := hw.1.1
  have hs2 := s31 hw.1 hw.2.2.1.1
  have hv := n_vp (a := V.s) (n := 1024) hs2 (by decide)
  refine CI.of (by omega) rfl (v_Sb_game_0_0 ?_)
  rw [hV.1.1, n_e0 (by omega), hV.2.2.1, hV.2.2.2.1]
  refine ⟨fun e => ?_, fun e0 => ⟨fun e => ?_, fun e1 => ⟨fun e => ?_, fun e2 => ?_⟩⟩⟩
  · rw [show gameS V x = -1 from if_pos (Or.inl e)] at h; exact QI_i.mpr (h I FrG.rf hC)
  · rw [show gameS V x = -1 from if_pos (Or.inr e)] at h; exact QI_i.mpr (h I FrG.rf hC)
  · have e0 : ¬ (x < 0 ∨ 2 < x) := fun q => q.elim e0 e1
    rw [show gameS V x = -4 from (if_neg e0).trans (if_pos e)] at h; exact QI_i.mpr (h I FrG.rf hC)
  · have e0 : ¬ (x < 0 ∨ 2 < x) := fun q => q.elim e0 e1
    refine c_W_from (by omega) hw hV hC hf (fun I1 q1 q2 q3 => c_Eg_solve (by omega) hw q2 hf rfl q3 (fun I2 g z hG hS => ?_))
    rw [gameS_of hw hG.1 e0 e2] at h
    have hA2 := z.wka q3
    have hV2 := z.g.cbx q2
    have h := h I2 (q1.tr z.g) (hA2.ca hw hf)
    have hs : V.s ∈ V.T.ord := bfs_self
    obtain ⟨s1, s2⟩ := hS _ hs
    rw [hV2.2.2.1, n_tN (by omega), s1, s2]
    refine ⟨fun e3 => ⟨hv, QI_i.mpr ?_⟩, fun e3 => ⟨fun e4 => ⟨hv, QI_i.mpr ?_⟩, fun e4 => ?_⟩⟩
    · rw [if_pos e3] at h; exact h
    · rw [if_neg e3, if_pos e4] at h; exact h
    · rw [if_neg e3, if_neg e4] at h
      exact c_Eg_firstSlide (by omega) hw hV2 hf rfl hA2 hG.2 hS hs (QI_i.mpr h)
end SV
