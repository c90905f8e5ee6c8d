/-! the class solves the game -/
def MI (B : Bx) (f : Nat) (T : Tw) (q : List Nat) (D : Nat → Bool) (g : Gv) (I : I2) : Prop := I 41 6 = nI q.length ∧ (∀ (k x : Nat), q[k]? = some x → I 45 k = nI x) ∧ (∀ s, s ∈ T.ord → I 46 s = nI (g s).1 ∧ I 47 s = nI (g s).2) ∧ ∀ s, s ∈ T.ord → (g s).1 = 0 → I 44 s = nI (cntU B f D s (2 * B.pn))
def GCb (B : Bx) (o f : Nat) (T : Tw) (g : Gv) : Prop := GC B o f T g ∧ ∀ s, s ∈ T.ord → (g s).1 ≤ 2 ∧ (g s).2 ≤ 1024
theorem GI_len {B : Bx} {o f : Nat} {T : Tw} {q : List Nat} {j : Nat} {l : List Nat} {D : Nat → Bool} {g : Gv} (hw : WFB B) (hT : TI B T) (hG : GI B o f T q j l D g) : q.length ≤ 1024 :=
  nodup_len 1024 q hG.1 (fun x hx => s31 hw (hT.2.2.1 _ (hG.2.1 x hx)).1.1)
theorem GI_bd {B : Bx} {o f : Nat} {T : Tw} {q : List Nat} {j : Nat} {l : List Nat} {D : Nat → Bool} {g : Gv} (hw : WFB B) (hT : TI B T) (hG : GI B o f T q j l D g) {s : Nat} (hs : s ∈ T.ord) : (g s).1 ≤ 2 ∧ (g s).2 ≤ 1024 := by
  have hl := GI_len hw hT hG
  obtain ⟨a1, a2, a3, a4, a5, a6, -⟩ := hG
  obtain ⟨b1, b2, b3⟩ := a3 s hs
  refine ⟨b3, ?_⟩
  by_cases e : (g s).1 = 0
  · rw [b2 e]; exact Nat.zero_le _
  · obtain ⟨i, hi⟩ := List.getElem?_of_mem (b1.mpr e)
    have h1 := a6 i s hi
    have h2 := (List.getElem?_eq_some_iff.mp hi).1
    omega
def termB (B : Bx) (o f s : Nat) : Bool := openB B o s || decide (deg B f s (2 * B.pn) = 0)
theorem termB_i {B : Bx} {o f s : Nat} : termB B o f s = true ↔ trm B o f s := by
  unfold termB trm
  rw [Bool.or_eq_true, decide_eq_true_iff]
  exact ⟨fun h => h.imp id deg_0, fun h => h.imp id deg_0'⟩
section SOLVE
variable {d : Nat} {V : Bv} {I : I2} {J : J2} {G : I2 → J2 → Prop} {F : Int32 → I2 → J2 → Prop} {f a : Nat}
theorem MI_set {B : Bx} {T : Tw} {q : List Nat} {D : Nat → Bool} {g : Gv} {s : Nat} {w b x : Nat} (hM : MI B f T q D g I) (hp : B.pn ≤ 5) (hs : s ∈ T.ord) (hw : w ≠ 0) (hm : x < 10) {I1 : I2} (h1 : ∀ a, a ≠ 44 → I1 a = I a) (h44 : ∀ t, t ≠ s → I1 44 t = I 44 t) : MI B f T (q ++ [s]) (updB D (10 * s + x) true) (updG g s (w, b)) (up2 (up2 (up2 (up2 I1 46 s (nI w)) 47 s (nI b)) 45 q.length (nI s)) 41 6 (nI (q.length + 1))) := by
  obtain ⟨m1, m2, m3, m4⟩ := hM
  refine ⟨by simp [up2, upd], fun k x hx => ?_, fun t ht => ?_, fun t ht h0 => ?_⟩
  · rcases app_get hx with ⟨rfl, rfl⟩ | ⟨e, e2⟩
    · simp [up2, upd]
    · simp [up2, upd, e]; rw [h1 45 (by decide)]; exact m2 k x e2
  · by_cases e : t = s
    · rw [e, updG_s]; simp [up2, upd]
    · rw [updG_n e]; simp [up2, upd, e]; rw [h1 46 (by decide), h1 47 (by decide)]; exact m3 t ht
  · by_cases e : t = s
    · rw [e, updG_s] at h0; exact absurd h0 hw
    · rw [updG_n e] at h0
      rw [cntU_oth hm (by omega) e]
      simp [up2, upd]
      rw [h44 t e]
      exact m4 t ht h0
theorem c_Eg_learn (hd : 2 ≤ d) (hw : WFV V) {T : Tw} (eT : bfs V.B f V.s = T) {q : List Nat} {j : Nat} {l : List Nat} {D : Nat → Bool} {g : Gv} {s m h : Nat} (hG : GI V.B V.lid f T q j ((10 * s + m) :: l) D g) (hM : MI V.B f T q D g I) (hs : s ∈ T.ord) (hm : m < 2 * V.B.pn) (hnx : nx V.B f s m = some h) (hj : q[j]? = some h) (hl : 10 * s + m ∉ l) (k : ∀ I' q' g', FrX I I' → I' 42 = I 42 → I' 43 = I 43 → q'[j]? = some h → GI V.B V.lid f T q' j l (updB D (10 * s + m) true) g' → MI V.B f T q' (updB D (10 * s + m) true) g' I' → G I' J) : CV d Eg_learn [.ref 41, .int (nI s), .int (nI h)] I J G := by
  have hp5 := hw.1.1
  have hT : TI V.B T := eT ▸ TIb hw f
  have hcl : Clo V.B f T := eT ▸ Clob hw f
  have hs2 := s31 hw.1 (hT.2.2.1 _ hs).1.1
  have hhT := hG.2.1 h (List.mem_of_getElem? hj)
  have hh2 := s31 hw.1 (hT.2.2.1 _ hhT).1.1
  have hqlen := GI_len hw.1 hT hG
  obtain ⟨bs1, bs2⟩ := GI_bd hw.1 hT hG hs
  obtain ⟨bh1, bh2⟩ := GI_bd hw.1 hT hG hhT
  have hnD := GI_nD hG hs hm hnx hj
  obtain ⟨m1, m2, m3, m4⟩ := id hM
  have hv := n_vp (a := s) (n := 1024) hs2 (by decide)
  have hvh := n_vp (a := h) (n := 1024) hh2 (by decide)
  refine CV.of (by omega) rfl (v_Eg_learn_41_0 ⟨hv, ?_⟩)
  rw [n_tN (a := s) (by omega), n_tN (a := h) (by omega), (m3 s hs).1, (m3 h hhT).1, (m3 h hhT).2, n_e0 (by omega), show (nI (g h).1 = 2) = (nI (g h).1 = nI 2) from rfl, n_eq (by omega) (by decide), n_inc]
  refine ⟨fun e => ⟨hvh, fun e2 => ⟨hvh, ?_⟩, fun e2 => ⟨hv, hv, hv, ?_⟩⟩, fun e => QV_i.mpr ?_⟩
  · have hsq : s ∉ q := fun z => ((hG.2.2.1 s hs).1.mp z) e
    refine c_Eg_settle (by omega) m1 (q_room hw.1 hT hG.1 hG.2.1 hs hsq) hs2 (QV_i.mpr ?_)
    exact k _ (q ++ [s]) _ FrX_settle (by simp [up2]) (by simp [up2]) (app_old hj) (GI_win hp5 hcl hG hs hm hnx hj hl e2 e) (MI_set hM hp5 hs (by decide) (by omega) (fun a _ => rfl) (fun t _ => rfl))
  · have hsq : s ∉ q := fun z => ((hG.2.2.1 s hs).1.mp z) e
    have h44 := m4 s hs e
    have hc := hG.2.2.2.2.2.2.2.2.2.2.1 s hs e
    have hcl2 := cntU_le (B := V.B) (f := f) (D := D) (s := s) (n := 2 * V.B.pn)
    have hcu := cntU_upd hm hnx hnD
    have e44 : up2 I 44 s (I 44 s - 1) 44 s = nI (cntU V.B f D s (2 * V.B.pn) - 1) := by
      simp [up2, upd]; rw [h44, n_dec hc]
    rw [e44, n_e0 (by omega)]
    have hX : FrX I (up2 I 44 s (I 44 s - 1)) := FrX_up (by decide) (by decide)
    refine ⟨fun e3 => ⟨hvh, ?_⟩, fun e3 => QV_i.mpr ?_⟩
    · refine c_Eg_settle (by omega) (by simpa [up2] using m1) (q_room hw.1 hT hG.1 hG.2.1 hs hsq) hs2 (QV_i.mpr ?_)
      exact k _ (q ++ [s]) _ (hX.tr FrX_settle) (by simp [up2]) (by simp [up2]) (app_old hj) (GI_lose hp5 hcl hG hs hm hnx hj hl e2 e (by omega)) (MI_set hM hp5 hs (by decide) (by omega) (fun a ha => by simp [up2, ha]) (fun t ht => by simp [up2, upd, ht]))
    · refine k _ q g hX (by simp [up2]) (by simp [up2]) hj (GI_dec hp5 hG hs hm hnx hj hl e2 (by omega)) ⟨by simpa [up2] using m1, fun i x hx => by simpa [up2] using m2 i x hx, fun t ht => by simpa [up2] using m3 t ht, fun t ht h0 => ?_⟩
      by_cases et : t = s
      · rw [et, e44]
        congr 1
        omega
      · rw [cntU_oth (by omega) (by omega) et]
        simp [up2, upd, et]
        exact m4 t ht h0
  · refine k I q g FrX.rf rfl rfl hj (GI_skip hp5 hG hm hnx hj hl e) ⟨m1, m2, m3, fun t ht h0 => ?_⟩
    have : t ≠ s := fun z => e (z ▸ h0)
    rw [cntU_oth (by omega) (by omega) this]
    exact m4 t ht h0
theorem c_Eg_solve (hd : 4 ≤ d) (hw : WFV V) (hV : CBx 1 V I) (hf : f < 64) {T : Tw} (eT : bfs V.B f V.s = T) (hA : WkA V f I) (h : ∀ I' g, FrX I I' → GCb V.B V.lid f T g → (∀ s, s ∈ T.ord → I' 46 s = nI (g s).1 ∧ I' 47 s = nI (g s).2) → G I' J) : CV d Eg_solve [.ref 41] I J G := by
  have hp5 := hw.1.1
  have hT : TI V.B T := eT ▸ TIb hw f
  have hcl : Clo V.B f T := eT ▸ Clob hw f
  have hlen := hT.len hw.1
  have hWk : ∀ I1, FrX I I1 → WkR T I1 := fun I1 q => eT ▸ (q.wka hA).2.2.2.2
  refine CV.of (by omega) rfl (v_Eg_solve_41_0 (c_Eg_begin (by omega) hw hf eT hA (fun I0 hF0 hB0 => ?_)))
  obtain ⟨b1, b2, L, hL⟩ := hB0
  have hLm : ∀ t, t ∈ T.ord → ∀ x, x ∈ L t ↔ x / 10 ∈ T.ord ∧ x % 10 < 2 * V.B.pn ∧ nx V.B f (x / 10) (x % 10) = some t := fun t ht x => ((hL t ht).2.2 x).trans ⟨fun ⟨z1, z2⟩ => ⟨z1.elim id (fun z => by omega), z2⟩, fun ⟨z1, z2⟩ => ⟨Or.inl z1, z2⟩⟩
  have hLl : ∀ t, t ∈ T.ord → (L t).length ≤ 10240 ∧ ∀ x ∈ L t, x < 10240 := by
    intro t ht
    have h1 : ∀ x ∈ L t, x < 10240 := by
      intro x hx
      have h2 := ((hLm t ht x).mp hx).1
      have h3 := s31 hw.1 (hT.2.2.1 _ h2).1.1
      omega
    exact ⟨nodup_len _ _ (hL t ht).2.1 h1, h1⟩
  have loop91 : ∀ (j t : Nat), t ∈ T.ord → (∀ q g D I1, FrX I I1 → I1 42 = I0 42 ∧ I1 43 = I0 43 → q[j]? = some t → GI V.B V.lid f T q j [] D g → MI V.B f T q D g I1 → Wp (d - 1) Eg_solve (QV G) 62 [some (.ref 41), some (.int (nI (j + 1))), none, none] [] I1 J) → ∀ (l q : List Nat) (g : Gv) (D : Nat → Bool) (I1 : I2) (c : Nat) (v : Int32), c + l.length ≤ 10240 → l.Nodup → (∀ x ∈ l, x ∈ L t) → Ch (I0 43) v l → FrX I I1 → I1 42 = I0 42 ∧ I1 43 = I0 43 → q[j]? = some t → GI V.B V.lid f T q j l D g → MI V.B f T q D g I1 → Wp (d - 1) Eg_solve (QV G) 91 [some (.ref 41), some (.int (nI j)), some (.int v), some (.int (nI c))] [] I1 J := by
    intro j t ht next l
    induction l with
    | nil =>
      intro q g D I1 c v hc hn hl hch hFr hX hqj hG hM
      have go := next q g D I1 hFr hX hqj hG hM
      have hv : v = -1 := hch
      subst hv
      refine v_Eg_solve_41_91 ⟨fun _ => ⟨fun _ => by rw [n_inc]; exact go, fun q => absurd (by decide) q⟩, fun _ => by rw [n_inc]; exact go⟩
    | cons x l ih =>
      intro q g D I1 c v hc hn hl hch hFr hX hqj hG hM
      have hxL := hl x List.mem_cons_self
      have hx1 := (hLl t ht).2 x hxL
      obtain ⟨hxa, hxb, hxc⟩ := (hLm t ht x).mp hxL
      have hx2 := s31 hw.1 (hT.2.2.1 _ hxa).1.1
      have hv : v = nI x := hch.1
      subst hv
      simp only [List.length_cons] at hc
      have hj3 := GI_len hw.1 hT hG
      have hjl := (List.getElem?_eq_some_iff.mp hqj).1
      obtain ⟨hnx1, hnx2⟩ := List.nodup_cons.mp hn
      have ediv : nI x / 10 = nI (x / 10) := n_div (k := 10) (by omega) (by decide) (by decide)
      have ex : 10 * (x / 10) + x % 10 = x := by omega
      refine v_Eg_solve_41_91 ⟨fun _ => ⟨fun q => absurd q (nI_pos (by omega)), fun _ => ⟨n_vp (by omega) (by decide), ?_⟩⟩, fun q => absurd ((n_lt (b := 10240) (by omega) (by decide)).mpr (by omega)) q⟩
      rw [ediv, n_tN (a := j) (by omega), hM.2.1 j t hqj, n_tN (a := x) (by omega), n_inc c]
      refine c_Eg_learn (by omega) hw eT (s := x / 10) (m := x % 10) (l := l) (by rw [ex]; exact hG) hM hxa hxb hxc hqj (by rw [ex]; exact hnx1) (fun I' q' g' z1 z2 z3 z4 z5 z6 => ⟨n_vp hx1 (by decide), ?_⟩)
      refine ih q' g' _ I' (c + 1) _ (by omega) hnx2 (fun y hy => hl y (List.mem_cons_of_mem _ hy)) ?_ (hFr.tr z1) ⟨z2.trans hX.1, z3.trans hX.2⟩ z4 z5 z6
      rw [z3, hX.2]; exact hch.2
  have loop62 : ∀ k j q g D I1, j + k = 1024 → FrX I I1 → I1 42 = I0 42 ∧ I1 43 = I0 43 → q.length ≤ 1024 → (∀ t, q[j]? = some t → GI V.B V.lid f T q j (L t) D g) → (q.length ≤ j → GCb V.B V.lid f T g) → MI V.B f T q D g I1 → Wp (d - 1) Eg_solve (QV G) 62 [some (.ref 41), some (.int (nI j)), none, none] [] I1 J := by
    intro k
    induction k with
    | zero =>
      intro j q g D I1 hj hFr hX hql hG hC hM
      have e := QV_i.mpr (h I1 g hFr (hC (by omega)) hM.2.2.1)
      refine v_Eg_solve_41_62 ⟨fun _ => ⟨fun q => absurd ((n_lt (b := 1024) (by omega) (by decide)).mp q) (by omega), fun _ => e⟩, fun _ => e⟩
    | succ k ih =>
      intro j q g D I1 hj hFr hX hql hG hC hM
      refine v_Eg_solve_41_62 ⟨fun e => ⟨fun _ => ?_, fun q => absurd ((n_lt (b := 1024) (by omega) (by decide)).mpr (by omega)) q⟩, fun e => QV_i.mpr (h I1 g hFr (hC ?_) hM.2.2.1)⟩
      · rw [hM.1, n_lt (by omega) (by omega)] at e
        have ej : q[j]? = some q[j] := List.getElem?_eq_getElem e
        have hG := hG _ ej
        have ht := hG.2.1 _ (List.getElem_mem e)
        have ht2 := s31 hw.1 (hT.2.2.1 _ ht).1.1
        rw [n_tN (a := j) (by omega), hM.2.1 j _ ej, n_tN (a := q[j]) (by omega)]
        refine ⟨n_vp (by omega) (by decide), n_vp ht2 (by decide), ?_⟩
        refine loop91 j q[j] ht (fun q' g' D' I' a1 a2 a3 a4 a5 => ?_) (L q[j]) q g D I1 0 _ (by have := (hLl _ ht).1; omega) (hL _ ht).2.1 (fun x hx => hx) (by rw [hX.1]; exact (hL _ ht).1) hFr hX ej hG hM
        have hql' := GI_len hw.1 hT a4
        exact ih (j + 1) q' g' D' I' (by omega) a1 a2 hql' (fun t ht => GI_next hLm hp5 a4 ht) (fun z => ⟨GI_fin hcl a4 z, fun s hs => GI_bd hw.1 hT a4 hs⟩) a5
      · rw [hM.1, n_lt (by omega) (by omega)] at e; omega
  have loop6 : ∀ k n I1, n + k = T.ord.length → FrX I I1 → I1 42 = I0 42 ∧ I1 43 = I0 43 → I1 44 = I0 44 → MI V.B f T ((T.ord.take n).filter (termB V.B V.lid f)) (fun _ => false) (fun s => if s ∈ (T.ord.take n).filter (termB V.B V.lid f) then (2, 0) else (0, 0)) I1 → Wp (d - 1) Eg_solve (QV G) 6 [some (.ref 41), some (.int (nI n)), none, none] [] I1 J := by
    intro k
    induction k with
    | zero =>
      intro n I1 hn hFr hX h44 hM
      have hn : n = T.ord.length := by omega
      subst hn
      rw [List.take_length] at hM
      have hqn : (T.ord.filter (termB V.B V.lid f)).Nodup := hT.1.sublist List.filter_sublist
      have hqm : ∀ x ∈ T.ord.filter (termB V.B V.lid f), x ∈ T.ord ∧ trm V.B V.lid f x := fun x hx => ⟨(List.mem_filter.mp hx).1, termB_i.mp (List.mem_filter.mp hx).2⟩
      have hqi : ∀ s, s ∈ T.ord → trm V.B V.lid f s → s ∈ T.ord.filter (termB V.B V.lid f) := fun s hs ht => List.mem_filter.mpr ⟨hs, termB_i.mpr ht⟩
      generalize T.ord.filter (termB V.B V.lid f) = q at hM hqn hqm hqi
      have hql := nodup_len 1024 q hqn (fun x hx => s31 hw.1 (hT.2.2.1 _ (hqm x hx).1).1.1)
      have gi : ∀ (l : List Nat), (∀ s, s ∈ T.ord → ∀ m t, m < 2 * V.B.pn → nx V.B f s m = some t → q[0]? = some t → 10 * s + m ∈ l) → GI V.B V.lid f T q 0 l (fun _ => false) (fun s => if s ∈ q then (2, 0) else (0, 0)) := by
        intro l hl
        have g2 : ∀ x, (if x ∈ q then ((2, 0) : Nat × Nat) else (0, 0)).2 = 0 := fun x => by split <;> rfl
        refine ⟨hqn, fun x hx => (hqm x hx).1, fun s hs => ?_, fun i i' a b _ _ _ => by rw [g2, g2]; exact Nat.le_refl _, fun h _ x _ => by rw [g2]; exact Nat.zero_le _, fun i a _ => by rw [g2]; exact Nat.zero_le _, fun s hs ht => if_pos (hqi s hs ht), fun s hs ht h1 => ?_, fun s hs ht h1 => ?_, fun s hs m t hm ht hD => (by cases hD), fun s hs h0 => ?_, fun s hs m t hm ht => ⟨fun z => (by cases z), fun ⟨i, z1, z2⟩ => ?_⟩⟩
        · by_cases e : s ∈ q
          · simp [e]
          · simp [e]
        · by_cases e : s ∈ q
          · simp [e] at h1
          · simp [e] at h1
        · by_cases e : s ∈ q
          · exact absurd (hqm s e).2 ht
          · simp [e] at h1
        · have e : s ∉ q := by
            intro e
            simp [e] at h0
          have hnt : ¬ trm V.B V.lid f s := fun z => e (hqi s hs z)
          rw [cntU_deg]
          refine Nat.pos_of_ne_zero (fun z => hnt (Or.inr (deg_0 z)))
        · exfalso
          rcases z2 with z | ⟨z, z3⟩
          · exact Nat.not_lt_zero _ z
          · rw [z] at z1
            exact z3 (hl s hs m t hm ht z1)
      refine v_Eg_solve_41_6 ⟨fun q => ?_, fun _ => loop62 1024 0 q _ (fun _ => false) I1 (by omega) hFr hX hql (fun t ht => gi (L t) (fun s hs m t' hm hnx ht' => ?_)) (fun z => ?_) hM⟩
      · rw [(hWk I1 hFr).1] at q; exact absurd ((n_lt (by omega) (by omega)).mp q) (Nat.lt_irrefl _)
      · rw [ht] at ht'
        cases ht'
        refine (hLm t (hcl s hs m t hm hnx) _).mpr ?_
        rw [show (10 * s + m) / 10 = s by omega, show (10 * s + m) % 10 = m by omega]
        exact ⟨hs, hm, hnx⟩
      · have hG := gi [] (fun s hs m t hm hnx ht => by
          have := (List.getElem?_eq_some_iff.mp ht).1
          omega)
        exact ⟨GI_fin hcl hG (by omega), fun s hs => GI_bd hw.1 hT hG hs⟩
    | succ k ih =>
      intro n I1 hn hFr hX h44 hM
      have hlt : n < T.ord.length := by omega
      have hI := hWk I1 hFr
      have hm := List.getElem_mem hlt
      have hm2 := s31 hw.1 (hT.2.2.1 _ hm).1.1
      have hnt := nodup_take_not hT.1 hlt
      have hV1 := hFr.g.cbx hV
      have hv := n_vp (a := n) (n := 1024) (by omega) (by decide)
      have hv2 := n_vp (a := T.ord[n]) (n := 1024) hm2 (by decide)
      have go := fun I' => ih (n + 1) I' (by omega)
      rw [take_last hlt, List.filter_append] at go
      have hnq : T.ord[n] ∉ (T.ord.take n).filter (termB V.B V.lid f) := fun z => hnt (List.mem_filter.mp z).1
      have hqn : ((T.ord.take n).filter (termB V.B V.lid f)).Nodup := (hT.1.sublist (List.take_sublist _ _)).sublist List.filter_sublist
      have hqm : ∀ x ∈ (T.ord.take n).filter (termB V.B V.lid f), x ∈ T.ord := fun x hx => List.mem_of_mem_take (List.mem_filter.mp hx).1
      have hdl := deg_le (B := V.B) (f := f) (s := T.ord[n]) (n := 2 * V.B.pn)
      have set : termB V.B V.lid f T.ord[n] = true → CV (d - 1) Eg_settle [.ref 41, .int (nI T.ord[n]), .int 2, .int 0] I1 J (fun I2 J2 => Wp (d - 1) Eg_solve (QV G) 6 [some (.ref 41), some (.int (nI (n + 1))), none, none] [] I2 J2) := by
        intro e
        rw [List.filter_cons_of_pos (by simp [e]), List.filter_nil] at go
        refine c_Eg_settle (by omega) hM.1 (q_room hw.1 hT hqn hqm hm hnq) hm2 (go _ (hFr.tr FrX_settle) ⟨by simpa [up2] using hX.1, by simpa [up2] using hX.2⟩ (by simpa [up2] using h44) ?_)
        obtain ⟨m1, m2, m3, m4⟩ := hM
        refine ⟨by simp [up2, upd], fun k x hx => ?_, fun t ht => ?_, fun t ht h0 => ?_⟩
        · rcases app_get hx with ⟨rfl, rfl⟩ | ⟨e, e2⟩
          · simp [up2, upd]
          · simp [up2, upd, e]; exact m2 k x e2
        · have := m3 t ht
          by_cases e3 : t = T.ord[n]
          · simp [up2, upd, e3]; exact ⟨rfl, rfl⟩
          · simp only [List.mem_append, List.mem_singleton, e3, or_false]
            simp [up2, upd, e3]; simpa using this
        · have := m4 t ht
          by_cases e3 : t = T.ord[n]
          · simp [e3] at h0
          · simp only [List.mem_append, List.mem_singleton, e3, or_false] at h0
            simp [up2]; exact this h0
      refine v_Eg_solve_41_6 ⟨fun _ => ⟨hv, ?_⟩, fun q => absurd ((n_lt (by omega) (by omega)).mpr hlt) (by rw [hI.1] at q; exact q)⟩
      rw [n_tN (a := n) (by omega), hI.ord' hlt, n_inc, n_tN (a := T.ord[n]) (by omega)]
      refine c_Bx_isOpen_1 (by omega) hw.1 hV1.1 hV1.2.1 hw.2.1 (by omega) ?_
      rw [show (decide (0 < V.B.pn) && decide (pl T.ord[n] V.lid = V.B.dp V.lid)) = openB V.B V.lid T.ord[n] from rfl, bI_0, h44, (b2 _ hm).1, n_e0 (by omega)]
      refine ⟨fun e => ⟨hv2, fun e2 => set (by unfold termB; simp [e, e2]), fun e2 => ?_⟩, fun e => set (by unfold termB; simp [show openB V.B V.lid T.ord[n] = true by simpa using e])⟩
      rw [List.filter_cons_of_neg (by unfold termB; simp [e, e2]), List.filter_nil, List.append_nil] at go
      exact go I1 hFr hX h44 hM
  refine loop6 _ 0 I0 (Nat.zero_add _) hF0 ⟨rfl, rfl⟩ rfl ?_
  rw [List.take_zero, List.filter_nil]
  exact ⟨b1, fun k x hx => by simp at hx, fun s hs => by have := b2 s hs; simp; exact ⟨this.2.1, this.2.2⟩, fun s hs _ => by rw [cntU_deg]; exact (b2 s hs).1⟩
end SOLVE
