/-! WENT: to told places -/
section WNT
variable {d : Nat} {V V' V0 : Bv} {K : Option Bv} {t : Tpe} {S : Nat → Shv} {I : I2} {J : J2} {F : Int32 → I2 → J2 → Prop} {m : Nat}
theorem in4_z {x : Nat} (hx : x < 4) : inN (nI x) 4 := in_nI hx (by decide)
theorem itemF_1_z {x y sz k : Nat} {g : Nat → Int64} {v : Int64} (hx : x < 4) (hy : y < 4) (hS : S x = some (y, sz, g)) (hk : k < sz) (hsz : sz ≤ 24) : itemF S (nI x) (nI y) (nI k) v = (1, updS S x (some (y, sz, vp_updL g k (narL y v)))) := by
  unfold itemF
  rw [if_neg (fun q => q.elim (fun z => z (in4_z hx)) (fun z => z (in4_z hy))), n_tN (show x < 2 ^ 31 by omega), hS]
  have e : faultS (some (y, sz, g)) (nI y) (nI k) 1 = 0 := by
    unfold faultS
    simp only
    rw [if_pos trivial, if_pos (hld_k hk hsz)]
  rw [if_pos e, n_tN (show k < 2 ^ 31 by omega)]
  rfl
theorem fault_1_z {y sz i n : Nat} {g : Nat → Int64} (hi : i + n ≤ sz) (hsz : sz ≤ 24) : faultS (some (y, sz, g)) (nI y) (nI i) (nI n) = 0 := by
  unfold faultS
  simp only
  rw [if_pos trivial, if_pos]
  unfold hldB
  rw [decide_eq_true_eq, n_tN (show i < 2 ^ 31 by omega), n_tN (show n < 2 ^ 31 by omega)]
  exact ⟨nI_pos (by omega), nI_pos (by omega), hi⟩
theorem sheetF_1_z {x y n : Nat} (hx : x < 4) (hy : y < 4) (hn : n ≤ 24) : sheetF S (nI x) (nI y) (nI n) = (nI n, updS S x (some (y, n, fun _ => 0))) := by
  unfold sheetF
  rw [if_neg, if_neg (nI_pos (by omega)), n_tN (show x < 2 ^ 31 by omega), n_tN (show y < 2 ^ 31 by omega), n_tN (show n < 2 ^ 31 by omega)]
  rintro (q | q | q)
  · exact q (in4_z hx)
  · exact q (in4_z hy)
  · have := (n_lt (a := 24) (by decide) (show n < 2 ^ 31 by omega)).mp q; omega
theorem dropF_1_z {x y sz : Nat} {g : Nat → Int64} (hx : x < 4) (hS : S x = some (y, sz, g)) : dropF S (nI x) = (nI sz, updS S x none) := by
  unfold dropF
  rw [if_neg (fun q => q (in4_z hx)), n_tN (show x < 2 ^ 31 by omega), hS]
theorem updS_s_z {x : Nat} {v : Shv} : updS S x v x = v := if_pos rfl
theorem updS_n_z {x y : Nat} {v : Shv} (h : y ≠ x) : updS S x v y = S y := if_neg h
theorem stV_Sm_z {B : Bx} {g : Nat → Int64} {i : Nat} {x : Nat → Nat} : ∀ p, (∀ q, q < p → g (i + q) = lN (x q) ∧ x q ≤ B.dp q ∧ B.dp q ≤ 3) → stV B g i p = some (Sm x p) := by
  intro p
  induction p with
  | zero => intro _; rfl
  | succ p ih =>
    intro h
    obtain ⟨h1, h2, h3⟩ := h p (by omega)
    simp only [stV, Sm]
    rw [ih (fun q hq => h q (by omega))]
    simp only
    rw [h1, if_neg]
    · congr 1
      have e : (lN (x p)).toInt32 = nI (x p) := by
        have : ∀ a, a < 4 → (lN a).toInt32 = nI a := by decide +kernel
        exact this _ (by omega)
      rw [e, n_tN (by omega)]
      have h4 : Sm x p < 2 ^ (2 * p) := by rw [two4]; exact Sm_lt (fun q hq => by have := h q (by omega); omega)
      rw [← two4, Nat.mul_comm (x p), Nat.or_comm, ← Nat.two_pow_add_eq_or_of_lt h4]
      omega
    · rintro (q | q)
      · have : ∀ a, a < 4 → ¬ lN a < 0 := by decide +kernel
        exact this _ (by omega) q
      · have := (pk_lLT (show B.dp p < 2 ^ 63 by omega) (show x p < 2 ^ 63 by omega)).mp q; omega
/-- how many slides to a state -/
def DgO_z (B : Bx) (f s G : Nat) (r : Option Nat) : Prop := match r with
  | none => ∀ j, ¬ Rch_z B f j s G
  | some c => (Rch_z B f c s G ∧ ∀ j, Rch_z B f j s G → c ≤ j) ∧ c < 1024
theorem DgO_one_z {B : Bx} {f s G : Nat} {r r' : Option Nat} (h : DgO_z B f s G r) (h' : DgO_z B f s G r') : r = r' := by
  cases r with
  | none => cases r' with
    | none => rfl
    | some c => exact (h c h'.1.1).elim
  | some c => cases r' with
    | none => exact (h' c h.1.1).elim
    | some c' =>
      have h1 := h.1.2 _ h'.1.1
      have h2 := h'.1.2 _ h.1.1
      rw [show c = c' by omega]
noncomputable def torO_z (V : Bv) (G : Nat) : Option Nat := if V.T.fa G = 0 then none else some (V.T.fa G - 1)
theorem torO_D_z (hw : WFV V) (G : Nat) : DgO_z V.B V.f V.s G (torO_z V G) := by
  have hB : BF_z V.B V.f V.s V.T := BFv_z hw V.f
  have hp := hw.1.1
  unfold torO_z
  split
  · next e => exact fun j hj => (hB.1.2.1 G).mp (hB.least hp j G hj).1 e
  · next e =>
    have hm := (hB.1.2.1 G).mpr e
    have hl := hB.1.fl hw.1 hm
    refine ⟨⟨hB.rch _ G hm (by omega), fun j hj => ?_⟩, by omega⟩
    have := (hB.least hp j G hj).2
    omega
theorem torO_lt_z (hw : WFV V) (G : Nat) : ∀ c, torO_z V G = some c → c < 1024 := fun c e => by have := torO_D_z hw G; rw [e] at this; exact this.2
theorem toF_1_z {sz i G : Nat} {g : Nat → Int64} (h0 : 0 < V.B.pn) (hS : S 2 = some (0, sz, g)) (hi : i + V.B.pn ≤ sz) (hsz : sz ≤ 24) (hG : stV V.B g i V.B.pn = some G) (k : Int32) (hk : ¬ k < -1) : toF V S 2 0 (nI i) k = tldS V.T (if V.T.fa G = 0 then none else some G) k := by
  have e2 : tN (2 : Int32) = 2 := by decide +kernel
  rw [toF_of]
  · rw [e2, hS, n_tN (show i < 2 ^ 31 by omega)]
    show (match stV V.B g i V.B.pn with
      | none => -2
      | some a => tldS V.T (if V.T.fa a = 0 then none else some a) k) = _
    rw [hG]
  · rintro (q | q | q | q)
    · exact hk q
    · omega
    · exact q (in4_z (x := 2) (by decide))
    · exact q (in4_z (x := 0) (by decide))
  · rw [e2, hS]; exact fault_1_z (y := 0) hi hsz
theorem told_m1_z {G : Nat} : tldS V.T (if V.T.fa G = 0 then none else some G) (-1) = optI (torO_z V G) (-4) := by
  unfold torO_z
  split
  · rfl
  · simp only [tldS]; rw [if_pos (by decide)]; rfl
theorem told_0_z (hw : WFV V) {G c : Nat} (h : torO_z V G = some (c + 1)) : ∃ m u, m < 2 * V.B.pn ∧ tldS V.T (if V.T.fa G = 0 then none else some G) 0 = nI (slN m) ∧ nx V.B V.f V.s m = some u ∧ DgO_z V.B V.f u G (some c) := by
  have hB : BF_z V.B V.f V.s V.T := BFv_z hw V.f
  have hp := hw.1.1
  have hD := torO_D_z hw G
  rw [h] at hD
  unfold torO_z at h
  split at h
  · cases h
  · next e =>
    have ec : V.T.fa G - 1 = c + 1 := Option.some.inj h
    have hm := (hB.1.2.1 G).mpr e
    have hl := hB.1.fl hw.1 hm
    obtain ⟨u, k1, k2, k3⟩ := back_first_z hp hB c G hm (by omega)
    refine ⟨V.T.by' (back V.T G c), u, k1, ?_, k2, ⟨k3, fun j hj => ?_⟩, by omega⟩
    · rw [if_neg e]
      simp only [tldS]
      rw [if_neg (by decide), if_pos (by rw [ec]; exact (n_p0 (by omega)).mpr (by omega)), ec]
      show nI (slN (V.T.by' (back V.T G (c + 1 - (tN 0 + 1))))) = _
      rw [show tN (0 : Int32) = 0 by decide +kernel, show c + 1 - (0 + 1) = c by omega]
    · have := hD.1.2 (j + 1) ⟨_, u, k1, k2, hj⟩
      omega
theorem torO_far_z (hw : WFV V) {G c : Nat} (h : torO_z V G = some c) : c ≤ farS V.T := by
  have hB : BF_z V.B V.f V.s V.T := BFv_z hw V.f
  unfold torO_z at h
  split at h
  · cases h
  · next e =>
    rw [← Option.some.inj h]
    exact (far_ok_z hw).1 G ((hB.1.2.1 G).mpr e)
def flm_z (s i l : Nat) (g : Nat → Int64) : Nat → Nat → Int64
  | 0 => g
  | p + 1 => vp_updL (flm_z s i l g p) (i + p) (narL l (lN (pl s p)))
theorem filmS_flm_z {s i l sz : Nat} {g : Nat → Int64} : ∀ p, filmS s i (some (l, sz, g)) p = some (l, sz, flm_z s i l g p) := by
  intro p
  induction p with
  | zero => rfl
  | succ p ih => simp only [filmS, flm_z]; rw [ih]; rfl
theorem flm_ok_z {s i l : Nat} {g : Nat → Int64} : ∀ p, (∀ q, q < p → flm_z s i l g p (i + q) = lN (pl s q)) ∧ ∀ k, k < i → flm_z s i l g p k = g k := by
  intro p
  induction p with
  | zero => exact ⟨fun q hq => absurd hq (Nat.not_lt_zero q), fun k _ => rfl⟩
  | succ p ih =>
    refine ⟨fun q hq => ?_, fun k hk => ?_⟩
    · simp only [flm_z]
      by_cases e : q = p
      · rw [e, pk_uLs, narL_small _ (pl_lt s p)]
      · rw [pk_uLn (by omega)]; exact ih.1 q (by omega)
    · simp only [flm_z]
      rw [pk_uLn (by omega)]; exact ih.2 k hk
theorem filmF_1_z {sz : Nat} {g : Nat → Int64} (h0 : 0 < V.B.pn) (hS : S 2 = some (0, sz, g)) (hi : 5 + V.B.pn ≤ sz) (hsz : sz ≤ 24) : filmF V S 2 0 5 = (nI V.B.pn, updS S 2 (some (0, sz, flm_z V.s 5 0 g V.B.pn))) := by
  have e2 : tN (2 : Int32) = 2 := by decide +kernel
  have e5 : tN (5 : Int32) = 5 := by decide +kernel
  unfold filmF
  have ef : faultS (some (0, sz, g)) 0 5 (nI V.B.pn) = 0 := fault_1_z (y := 0) (i := 5) hi hsz
  rw [if_neg, e2, e5, hS, if_pos ef, filmS_flm_z]
  rintro (q | q | q)
  · omega
  · exact q (in4_z (x := 2) (by decide))
  · exact q (in4_z (x := 0) (by decide))
set_option maxHeartbeats 8000000 in
theorem c_went_z (hd : 10 ≤ d) (hR : RS_z V0 (some V0) t S I J) (hw : W2_z V0.B I) (hSc : Scr_z I) (h4 : V0.B.pn ≤ 4) (h0 : 0 < V0.B.pn) (h : ∀ S' I' J', RS_z V0 (some V0) t S' I' J' → F57_z I I' → F 1 I' J') : CI d Lw_went [.ref 0, .ref 100, .ref 57, .long (hsV_z V0)] I J F := by
  have hW := hR.1.1
  have hd8 : 8 ≤ d - 1 := by omega
  -- the end: put back, dropped, the hash again
  have fin : ∀ V S' I' J' g, RS_z V (some V0) t S' I' J' → F57_z I I' → S' 2 = some (0, 9, g) → CI (d - 1) Sb_restore [.ref 0] I' J' (fun v1 I1 J1 => (v1 = 1 → CI (d - 1) Sb_drop [.ref 0, .int 2] I1 J1 (fun v2 I3 J2 => (v2 = 9 → CL (d - 1) Lw_hash [.ref 0, .ref 57] I3 J2 (fun v3 I4 J3 => ((lg_cmp v3 (hsV_z V0)) = 0 → QI F (some (.int 1)) I4 J3) ∧ (¬ ((lg_cmp v3 (hsV_z V0)) = 0) → QI F (some (.int 0)) I4 J3))) ∧ (¬ (v2 = 9) → QI F (some (.int 0)) I3 J2))) ∧ (¬ (v1 = 1) → QI F (some (.int 0)) I1 J1)) := by
    intro V S' I' J' g r f hS
    refine k_restore_z hd8 r (fun I1 r1 f1 => ⟨fun _ => k_drop_z hd8 r1 _ (fun I3 J3 r3 f3 => ?_), fun q => absurd rfl q⟩)
    rw [show dropF S' 2 = (nI 9, updS S' 2 none) from dropF_1_z (x := 2) (by decide) hS] at r3 ⊢
    exact ⟨fun _ => c_hash_z (by omega) r3 (hw.f (f.tr (f1.tr f3))).1 ⟨fun _ => QI_i.mpr (h _ I3 J3 r3 (f.tr (f1.tr f3))), fun q => absurd cmp_self_z q⟩, fun q => absurd rfl q⟩
  obtain ⟨c1, c2⟩ := celN_ok_z I 11
  -- the way, slide by slide
  have walk : ∀ S' g x, S' 2 = some (0, 9, g) → (∀ q, q < V0.B.pn → g q = lN (x q) ∧ x q ≤ V0.B.dp q) → ∀ c, ∀ k n V I' J', n + k = c → RS_z V (some V0) t S' I' J' → F57_z I I' → Sm3_z V0 V → torO_z V (Sm x V0.B.pn) = some (c - n) → c < 1024 → Wp (d - 1) Lw_went (QI F) 137 [some (.ref 0), some (.ref 100), some (.ref 57), some (.long (hsV_z V0)), none, some (.int 1), some (.int (nI c)), some (.int (nI n)), none] [] I' J' := by
    intro S' g x hS hx c k
    have hst : ∀ V : Bv, Sm3_z V0 V → stV V.B g 0 V.B.pn = some (Sm x V0.B.pn) := fun V s3 => by
      rw [s3.1]; exact stV_Sm_z V0.B.pn (fun q hq => ⟨by rw [Nat.zero_add]; exact (hx q hq).1, (hx q hq).2, (hW.1.2.2.1 q hq).2.2⟩)
    have toE : ∀ (V : Bv) (k : Int32), Sm3_z V0 V → ¬ k < -1 → toF V S' 2 0 0 k = tldS V.T (if V.T.fa (Sm x V0.B.pn) = 0 then none else some (Sm x V0.B.pn)) k := fun V k s3 hk => toF_1_z (i := 0) (by rw [s3.1]; exact h0) hS (by rw [s3.1]; omega) (by decide) (hst V s3) k hk
    induction k with
    | zero =>
      intro n V I' J' hn r f s3 ht hc
      have hWV := r.1.1
      have h0' : 0 < V.B.pn := by rw [s3.1]; exact h0
      have h4' : V.B.pn ≤ 4 := by rw [s3.1]; exact h4
      rw [show c - n = 0 by omega] at ht
      have hs : V.s = Sm x V0.B.pn := by have := torO_D_z hWV (Sm x V0.B.pn); rw [ht] at this; exact this.1.1
      refine v_Lw_went_0_100_57_137 ⟨fun q => ?_, fun _ => ⟨fun q => absurd q (by decide), fun _ => ⟨fun q => absurd q (nI_pos (by omega)), fun _ => k_film_z hd8 r _ _ _ (fun I3 J3 r3 f3 => ?_)⟩⟩⟩
      · have := (n_lt (by omega) (by omega)).mp q; omega
      · rw [filmF_1_z h0' hS (by omega) (by decide)] at r3 ⊢
        have f9 := f.tr f3
        have hS3 : updS S' 2 (some (0, 9, flm_z V.s 5 0 g V.B.pn)) 2 = some (0, 9, flm_z V.s 5 0 g V.B.pn) := updS_s_z
        have fo := flm_ok_z (s := V.s) (i := 5) (l := 0) (g := g) V.B.pn
        refine ⟨fun _ => k_to_z hd8 r3 _ _ _ _ (fun I4 r4 f4 => ?_), fun q => absurd ?_ q⟩
        · have g5 : stV V.B (flm_z V.s 5 0 g V.B.pn) 5 V.B.pn = some V.s := by
            have := stV_Sm_z (B := V.B) (g := flm_z V.s 5 0 g V.B.pn) (i := 5) (x := pl V.s) V.B.pn (fun q hq => ⟨fo.1 q hq, hWV.2.2.1.2 q hq, (hWV.1.2.2.1 q hq).2.2⟩)
            rw [Sm_pl, Nat.mod_eq_of_lt hWV.2.2.1.1] at this; exact this
          have g0 : stV V.B (flm_z V.s 5 0 g V.B.pn) 0 V.B.pn = some (Sm x V0.B.pn) := by
            rw [s3.1]
            refine stV_Sm_z V0.B.pn (fun q hq => ⟨?_, (hx q hq).2, (hW.1.2.2.1 q hq).2.2⟩)
            rw [Nat.zero_add]
            have := fo.2 q (by omega)
            rw [s3.1] at this
            rw [this]; exact (hx q hq).1
          have e5 : toF V (updS S' 2 (some (0, 9, flm_z V.s 5 0 g V.B.pn))) 2 0 5 (-1) = 0 := by
            rw [show (5 : Int32) = nI 5 from rfl, toF_1_z h0' hS3 (by omega) (by decide) g5 _ (by decide), hs, told_m1_z, ht]; rfl
          have e0 : toF V (updS S' 2 (some (0, 9, flm_z V.s 5 0 g V.B.pn))) 2 0 0 (-1) = 0 := by
            rw [show toF V (updS S' 2 (some (0, 9, flm_z V.s 5 0 g V.B.pn))) 2 0 0 (-1) = _ from toF_1_z (i := 0) h0' hS3 (by omega) (by decide) g0 _ (by decide), told_m1_z, ht]; rfl
          rw [e5]
          refine ⟨fun _ => k_to_z hd8 r4 _ _ _ _ (fun I5 r5 f5 => ?_), fun q => absurd rfl q⟩
          rw [e0]
          exact ⟨fun _ => fin V _ I5 J3 _ r5 (f9.tr (f4.tr f5)) hS3, fun q => absurd rfl q⟩
        · rw [(hw.f f9).1, s3.1]
    | succ k ih =>
      intro n V I' J' hn r f s3 ht hc
      have hWV := r.1.1
      have hp5 := hWV.1.1
      have h0' : 0 < V.B.pn := by rw [s3.1]; exact h0
      obtain ⟨m, u, hm, e0, hu, hDu⟩ := told_0_z hWV (c := c - n - 1) (by rw [ht]; congr 1; omega)
      obtain ⟨hmay, eu⟩ := nx_may_z hu
      refine v_Lw_went_0_100_57_137 ⟨fun _ => ⟨fun q => absurd q (by decide), fun _ => k_to_z hd8 r _ _ _ _ (fun I3 r3 f3 => ?_)⟩, fun q => absurd ((n_lt (by omega) (by omega)).mpr (by omega)) q⟩
      rw [toE V 0 s3 (by decide), e0]
      refine ⟨fun q => absurd q (nI_pos (by unfold slN; omega)), fun _ => k_sl10_z hd8 r3 hm (fun _ I4 r4 f4 => ⟨fun q => absurd q (nI_pos (by have := (sld_s_z hWV hm hmay).1; omega)), fun _ => k_to_z hd8 r4 _ _ _ _ (fun I5 r5 f5 => ?_)⟩) (fun q => by rw [hmay] at q; cases q)⟩
      have e9 : torO_z (sld_z V m) (Sm x V0.B.pn) = some (c - n - 1) := by
        refine DgO_one_z (torO_D_z r5.1.1 _) ?_
        rw [eu] at hDu; exact hDu
      rw [toE (sld_z V m) (-1) s3.sld (by decide), told_m1_z, e9, show nI c - 1 = nI (c - 1) from n_dec (by omega), n_sub (by omega)]
      refine ⟨fun _ => v_Lw_went_0_100_57_204 ?_, fun q => absurd (show nI (c - n - 1) = nI (c - 1 - n) by congr 1; omega) q⟩
      rw [n_inc]
      exact ih (n + 1) _ I5 J' (by omega) r5 (f.tr (f3.tr (f4.tr f5))) s3.sld (by rw [e9]; congr 1) hc
  -- the places are written
  have l23 : ∀ k n S' I' J' g, n + k = V0.B.pn → RS_z V0 (some V0) t S' I' J' → F57_z I I' → S' 2 = some (0, 9, g) → (∀ q, q < n → g q = lN (celN_z I 11 / 2 ^ (3 * q) % 8 % (V0.B.dp q + 1))) → Wp (d - 1) Lw_went (QI F) 23 [some (.ref 0), some (.ref 100), some (.ref 57), some (.long (hsV_z V0)), none, some (.int 1), some (.int (nI n)), none, none] [] I' J' := by
    intro k
    induction k with
    | zero =>
      intro n S' I' J' g hn r f hS hg
      have en : n = V0.B.pn := by omega
      have hx : ∀ q, q < V0.B.pn → g q = lN (celN_z I 11 / 2 ^ (3 * q) % 8 % (V0.B.dp q + 1)) ∧ celN_z I 11 / 2 ^ (3 * q) % 8 % (V0.B.dp q + 1) ≤ V0.B.dp q := fun q hq => ⟨hg q (by omega), Nat.le_of_lt_succ (Nat.mod_lt _ (by omega))⟩
      have hst : stV V0.B g 0 V0.B.pn = some (Sm (fun q => celN_z I 11 / 2 ^ (3 * q) % 8 % (V0.B.dp q + 1)) V0.B.pn) := stV_Sm_z V0.B.pn (fun q hq => ⟨by rw [Nat.zero_add]; exact (hx q hq).1, (hx q hq).2, (hW.1.2.2.1 q hq).2.2⟩)
      refine v_Lw_went_0_100_57_23 ⟨fun q => ?_, fun _ => ⟨fun q => absurd q (by decide), fun _ => k_to_z hd8 r _ _ _ _ (fun I3 r3 f3 => ?_)⟩⟩
      · rw [(hw.f f).1] at q; have := (n_lt (by omega) (by omega)).mp q; omega
      · rw [show toF V0 S' 2 0 0 (-1) = _ from toF_1_z (i := 0) h0 hS (by omega) (by decide) hst _ (by decide), told_m1_z]
        cases e : torO_z V0 (Sm (fun q => celN_z I 11 / 2 ^ (3 * q) % 8 % (V0.B.dp q + 1)) V0.B.pn) with
        | none =>
          have hfar := (far_ok_z hW).2
          have hll := ord_256_z hW h4
          refine ⟨fun q => absurd q (by decide +kernel), fun _ => k_reach_z hd8 r3 _ (fun I4 r4 f4 => ?_)⟩
          rw [reach_1_z h0]
          refine ⟨fun q => ?_, fun _ => v_Lw_went_0_100_57_137 ⟨fun q => absurd q (by decide +kernel), fun _ => ⟨fun q => absurd q (by decide), fun _ => ⟨fun _ => fin V0 S' I4 J' g r4 (f.tr (f3.tr f4)) hS, fun q => absurd (by decide +kernel) q⟩⟩⟩⟩
          have : nI (farS V0.T) < 0 := Int32.lt_trans q (by decide +kernel : (optI none (-4) : Int32) < 0)
          exact absurd this (nI_pos (by omega))
        | some c =>
          have hc := torO_lt_z hW _ c e
          have hcf := torO_far_z hW e
          have hfar := (far_ok_z hW).2
          have hll := ord_256_z hW h4
          refine ⟨fun q => absurd (Int32.lt_trans (show nI c < -4 from q) (by decide +kernel : (-4 : Int32) < 0)) (nI_pos (by omega)), fun _ => k_reach_z hd8 r3 _ (fun I4 r4 f4 => ?_)⟩
          rw [reach_1_z h0, show (nI (farS V0.T) < optI (some c) (-4)) = (farS V0.T < c) from propext (n_lt (by omega) (by omega))]
          exact ⟨fun q => by omega, fun _ => walk S' g _ hS hx c c 0 V0 I4 J' (Nat.zero_add _) r4 (f.tr (f3.tr f4)) ⟨rfl, rfl⟩ e hc⟩
    | succ k ih =>
      intro n S' I' J' g hn r f hS hg
      have hn2 : n < V0.B.pn := by omega
      obtain ⟨b1, b2, b3⟩ := hW.1.2.2.1 n hn2
      refine v_Lw_went_0_100_57_23 ⟨fun _ => ⟨fun q => absurd q (by decide), fun _ => c_cell_z (k := 11) (by omega) (hSc.fr f) (by decide) (k_of_z hd8 r _ _ ?_)⟩, fun q => ?_⟩
      · rw [cel_57_z f, c1, of_1_z hW hn2, n_inc, n_e0 (by omega), show (3 : Int32) * nI n = nI (3 * n) from pk_mul 3 n, n_sr c2 (by omega)]
        have hlt : celN_z I 11 / 2 ^ (3 * n) < 2 ^ 31 := Nat.lt_of_le_of_lt (Nat.div_le_self _ _) c2
        have hv : celN_z I 11 / 2 ^ (3 * n) % 8 % (V0.B.dp n + 1) < 4 := by have := Nat.mod_lt (celN_z I 11 / 2 ^ (3 * n) % 8) (show 0 < V0.B.dp n + 1 by omega); omega
        rw [show nI (celN_z I 11 / 2 ^ (3 * n)) &&& 7 = nI (celN_z I 11 / 2 ^ (3 * n) % 8) from pk_andN (by omega) 3 (by decide +kernel), n_rm (by omega) (by omega) (by omega), nI_l (by omega)]
        refine ⟨by omega, k_item_z hd8 r _ _ _ _ (fun I3 J3 r3 f3 => ?_)⟩
        rw [show itemF S' 2 0 (nI n) (lN (celN_z I 11 / 2 ^ (3 * n) % 8 % (V0.B.dp n + 1))) = _ from itemF_1_z (x := 2) (y := 0) (by decide) (by decide) hS (show n < 9 by omega) (by decide), narL_small _ hv] at r3 ⊢
        refine ⟨fun _ => ?_, fun q => absurd rfl q⟩
        rw [n_inc]
        refine ih (n + 1) (updS S' 2 (some (0, 9, vp_updL g n (lN (celN_z I 11 / 2 ^ (3 * n) % 8 % (V0.B.dp n + 1)))))) I3 J3 (vp_updL g n (lN (celN_z I 11 / 2 ^ (3 * n) % 8 % (V0.B.dp n + 1)))) (by omega) r3 (f.tr f3) updS_s_z (fun q hq => ?_)
        by_cases e : q = n
        · rw [e, pk_uLs]
        · rw [pk_uLn e]; exact hg q (by omega)
      · rw [(hw.f f).1] at q; exact absurd ((n_lt (by omega) (by omega)).mpr (by omega)) q
  refine CI.of (by omega) rfl (v_Lw_went_0_100_57_0 (k_sheet_z hd8 hR _ _ _ (fun I1 J1 r1 f1 => ?_)))
  rw [show sheetF S 2 0 9 = _ from sheetF_1_z (x := 2) (y := 0) (n := 9) (by decide) (by decide) (by decide)] at r1 ⊢
  exact ⟨fun _ => l23 V0.B.pn 0 (updS S 2 (some (0, 9, fun _ => 0))) I1 J1 (fun _ => 0) (Nat.zero_add _) r1 f1 updS_s_z (fun q hq => absurd hq (Nat.not_lt_zero q)), fun q => absurd rfl q⟩
end WNT
