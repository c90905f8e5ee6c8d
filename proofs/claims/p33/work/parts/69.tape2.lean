/-! the tape: the class reads a box -/
def DrC (B : Bx) (lid : Option Nat) (I : I2) : Prop := BoxI 21 B I ∧ I 21 8 = nI (lidN lid) ∧ I 21 9 = 0 ∧ I 21 10 = 0 ∧ I 21 15 = 0 ∧ I 21 16 = 0
def FrP (I I' : I2) : Prop := (∀ a, (a < 21 ∨ 31 < a) → I' a = I a) ∧ ∀ k, k ≠ 2 → I' 31 k = I 31 k
theorem FrP.rf {I : I2} : FrP I I := ⟨fun _ _ => rfl, fun _ _ => rfl⟩
theorem FrP.tr {I0 I1 I2 : I2} (h1 : FrP I0 I1) (h2 : FrP I1 I2) : FrP I0 I2 := ⟨fun a x => (h2.1 a x).trans (h1.1 a x), fun k x => (h2.2 k x).trans (h1.2 k x)⟩
theorem FrT.p {I I' : I2} (h : FrT I I') : FrP I I' := ⟨fun a x => h.1 a (by omega), h.2⟩
theorem FrP.tpc {t : Tpe} {I I' : I2} (h : FrP I I') (hT : TpC t I) : TpC t I' := ⟨by rw [h.2 1 (by decide)]; exact hT.1, fun k hk => by rw [h.1 32 (by decide)]; exact hT.2 k hk⟩
theorem DrC_t {B : Bx} {lid : Option Nat} {I I' : I2} (h : DrC B lid I) (hF : FrT I I') : DrC B lid I' := by
  obtain ⟨⟨b1, b2, b3, b4⟩, c8, c9, c10, c15, c16⟩ := h
  have e : ∀ a, a ≠ 31 → I' a = I a := hF.1
  refine ⟨⟨by rw [e 21 (by decide)]; exact b1, by rw [e 21 (by decide)]; exact b2, fun q hq => ?_, fun q hq => ?_⟩, by rw [e 21 (by decide)]; exact c8, by rw [e 21 (by decide)]; exact c9, by rw [e 21 (by decide)]; exact c10, by rw [e 21 (by decide)]; exact c15, by rw [e 21 (by decide)]; exact c16⟩
  · rw [e (21 + 1) (by decide), e (21 + 2) (by decide)]; exact b3 q hq
  · rw [e (21 + 3) (by decide), e (21 + 4) (by decide), e (21 + 5) (by decide), e (21 + 6) (by decide)]; exact b4 q hq
theorem sub_eq {a b c : Nat} (ha : a < 2 ^ 30) (hb : b < 2 ^ 30) (hc : c < 2 ^ 30) : nI a - nI b = nI c ↔ a = b + c := by
  by_cases h : b ≤ a
  · rw [n_sub h, n_eq (by omega) (by omega)]; omega
  · have e : nI a - nI b = -nI (b - a) := by
      rw [← n_sub (a := b) (b := a) (by omega), Int32.neg_sub]
    have e2 : ¬ nI a - nI b = nI c := by
      intro q
      have := congrArg Int32.toInt q
      rw [e, sb_negT (by omega), nI_toInt (by omega)] at this; omega
    exact ⟨fun q => absurd q e2, fun q => by omega⟩
section TAPE2
variable {d p : Nat} {t : Tpe} {B : Bx} {lid : Option Nat} {I : I2} {J : J2} {G : I2 → J2 → Prop} {F : Int32 → I2 → J2 → Prop}
theorem c_Bx_addPanel_21 {k dp : Nat} (hd : 1 ≤ d) (hD : DrC B lid I) (h5 : B.pn < 5) (h : ∀ I', DrC (B.addP k dp) lid I' → FrP I I' → I' 31 = I 31 → F (nI B.pn) I' J) : CI d Bx_addPanel [.ref 21, .int (nI k), .int (nI dp)] I J F := by
  obtain ⟨⟨b1, b2, b3, b4⟩, c8, c9, c10, c15, c16⟩ := hD
  refine CI.of hd rfl (v_Bx_addPanel_21_0 ⟨fun _ => ?_, fun q => absurd ?_ q⟩)
  · rw [b1, n_tN (by omega)]
    have hv := n_vp (a := B.pn) (n := 5) h5 (by decide)
    refine ⟨hv, hv, QI_i.mpr (h _ ⟨⟨?_, ?_, fun q hq => ?_, fun q hq => ?_⟩, ?_, ?_, ?_, ?_, ?_⟩ ⟨fun a ha => ?_, fun q _ => ?_⟩ ?_)⟩
    · simp [up2, upd]; rw [n_inc]; rfl
    · simp [up2, upd]; exact b2
    · have hq : q < B.pn + 1 := hq
      show _ = nI (updN B.kd B.pn k q) ∧ _ = nI (updN B.dp B.pn dp q)
      by_cases e : q = B.pn
      · simp [up2, upd, updN, e]
      · simp only [updN, if_neg e]
        simp [up2, upd, e]
        exact b3 q (by omega)
    · simp [up2]; exact b4 q hq
    · simp [up2, upd]; exact c8
    · simp [up2, upd]; exact c9
    · simp [up2, upd]; exact c10
    · simp [up2, upd]; exact c15
    · simp [up2, upd]; exact c16
    · have z1 : a ≠ 21 := by omega
      have z2 : a ≠ 22 := by omega
      have z3 : a ≠ 23 := by omega
      simp [up2, z1, z2, z3]
    · simp [up2]
    · simp [up2]
  · rw [b1]; exact (n_lt (b := 5) (by omega) (by decide)).mpr h5
theorem c_Bx_addLock_21 {a w o ps : Nat} (hd : 1 ≤ d) (hD : DrC B lid I) (h6 : B.ln < 6) (h : ∀ I', DrC (B.addL a w o ps) lid I' → FrP I I' → I' 31 = I 31 → F (nI B.ln) I' J) : CI d Bx_addLock [.ref 21, .int (nI a), .int (nI w), .int (nI o), .int (nI ps)] I J F := by
  obtain ⟨⟨b1, b2, b3, b4⟩, c8, c9, c10, c15, c16⟩ := hD
  refine CI.of hd rfl (v_Bx_addLock_21_0 ⟨fun _ => ?_, fun q => absurd ?_ q⟩)
  · rw [b2, n_tN (by omega)]
    have hv := n_vp (a := B.ln) (n := 6) h6 (by decide)
    refine ⟨hv, hv, hv, hv, QI_i.mpr (h _ ⟨⟨?_, ?_, fun q hq => ?_, fun q hq => ?_⟩, ?_, ?_, ?_, ?_, ?_⟩ ⟨fun a ha => ?_, fun q _ => ?_⟩ ?_)⟩
    · simp [up2, upd]; exact b1
    · simp [up2, upd]; rw [n_inc]; rfl
    · simp [up2]; exact b3 q hq
    · have hq : q < B.ln + 1 := hq
      show _ = nI (updN B.ow B.ln a q) ∧ _ = nI (updN B.wy B.ln w q) ∧ _ = nI (updN B.ot B.ln o q) ∧ _ = nI (updN B.ps B.ln ps q)
      by_cases e : q = B.ln
      · simp [up2, upd, updN, e]
      · simp only [updN, if_neg e]
        simp [up2, upd, e]
        exact b4 q (by omega)
    · simp [up2, upd]; exact c8
    · simp [up2, upd]; exact c9
    · simp [up2, upd]; exact c10
    · simp [up2, upd]; exact c15
    · simp [up2, upd]; exact c16
    · have z1 : a ≠ 21 := by omega
      have z2 : a ≠ 24 := by omega
      have z3 : a ≠ 25 := by omega
      have z4 : a ≠ 26 := by omega
      have z5 : a ≠ 27 := by omega
      simp [up2, z1, z2, z3, z4, z5]
    · simp [up2]
    · simp [up2]
  · rw [b2]; exact (n_lt (b := 6) (by omega) (by decide)).mpr h6
theorem pDig_le {lo hi q : Nat} {o : Option Nat} (hp : p ≤ t.1) (h : pDig t lo hi p = (q, o)) : q ≤ t.1 := by
  unfold pDig at h
  split at h
  · cases h
    have := hr_lt (t := t) (p := p) (by omega)
    omega
  · cases h; exact sk_le hp
theorem c_Tp_readPlaces {dp : Nat} (hd : 3 ≤ d) (hW : WFT t) (hT : TpC t I) (hp : p ≤ t.1) (h2 : I 31 2 = nI p) (hdp : dp ≤ 3) (h : ∀ q a I', pPl t dp (dp + 1) 0 0 p = (q, a) → q ≤ t.1 → FrT I I' → I' 31 2 = nI q → F (nI a) I' J) : CI d Tp_readPlaces [.ref 31, .int (nI dp)] I J F := by
  have loop : ∀ r turn lo a p I1, turn + r = dp + 1 → lo ≤ 4 → p ≤ t.1 → FrT I I1 → I1 31 2 = nI p → (∀ q a' I', pPl t dp r lo a p = (q, a') → q ≤ t.1 → FrT I I' → I' 31 2 = nI q → F (nI a') I' J) → Wp (d - 1) Tp_readPlaces (QI F) 7 [some (.ref 31), some (.int (nI dp)), some (.int (nI a)), some (.int (nI lo)), some (.int (nI turn)), none] [] I1 J := by
    intro r
    induction r with
    | zero =>
      intro turn lo a p I1 ht hlo hp hF hI hh
      exact v_Tp_readPlaces_31_7 ⟨fun _ => QI_i.mpr (hh p a I1 rfl hp hF hI), fun q => absurd ((n_lt (by omega) (by omega)).mpr (by omega)) q⟩
    | succ r ih =>
      intro turn lo a p I1 ht hlo hp hF hI hh
      refine v_Tp_readPlaces_31_7 ⟨fun q => absurd ((n_lt (by omega) (by omega)).mp q) (by omega), fun _ => c_Tp_digit (by omega) hW (hF.tpc hT) (AtC_of hp hI) (by omega) (by omega) (fun q I' e k1 k2 k3 => ⟨fun _ => QI_i.mpr (hh q a I' ?_ k1 (hF.tr k2) k3), fun z => absurd (by decide) z⟩) (fun q v I' e k1 k2 k3 k4 k5 => ⟨fun z => absurd z (nI_pos (by omega)), fun _ => ?_⟩)⟩
      · simp only [pPl]; rw [e]
      · rw [n_one (by omega), n_or, n_inc, n_inc]
        refine ih (turn + 1) (v + 1) _ q I' (by omega) (by omega) k1 (hF.tr k4) k5 (fun q' a' I2 e2 => hh q' a' I2 ?_)
        simp only [pPl]; rw [e]; exact e2
  exact CI.of (by omega) rfl (v_Tp_readPlaces_31_0 (loop (dp + 1) 0 0 0 p I (Nat.zero_add _) (by decide) hp FrT.rf h2 h))
theorem pPl_lt {dp : Nat} : ∀ r lo a p, a < 2 ^ lo → lo ≤ dp + 1 → (pPl t dp r lo a p).2 < 2 ^ (dp + 1) := by
  intro r
  induction r with
  | zero => intro lo a p ha hlo; exact Nat.lt_of_lt_of_le ha (Nat.pow_le_pow_right (by decide) hlo)
  | succ r ih =>
    intro lo a p ha hlo
    simp only [pPl]
    split
    · exact Nat.lt_of_lt_of_le ha (Nat.pow_le_pow_right (by decide) hlo)
    · next q v e =>
      have hv : lo ≤ v ∧ v ≤ dp := by
        unfold pDig at e
        split at e
        · cases e; omega
        · cases e
      refine ih (v + 1) _ q (Nat.or_lt_two_pow ?_ ?_) (by omega)
      · exact Nat.lt_of_lt_of_le ha (Nat.pow_le_pow_right (by decide) (by omega))
      · exact Nat.pow_lt_pow_right (by decide) (by omega)
theorem pPl_pos {dp : Nat} : ∀ r lo a p, 0 < a → 0 < (pPl t dp r lo a p).2 := by
  intro r
  induction r with
  | zero => intro lo a p ha; exact ha
  | succ r ih =>
    intro lo a p ha
    simp only [pPl]
    split
    · exact ha
    · next q v e =>
      refine ih (v + 1) _ q ?_
      have : a ≤ a ||| 2 ^ v := Nat.left_le_or
      omega
theorem pPl_0 {dp lo : Nat} (hp : p ≤ t.1) (h : (pPl t dp (dp + 1) lo 0 p).2 = 0) : pDig t lo dp p = (skT t p, none) ∧ (pPl t dp (dp + 1) lo 0 p).1 = skT t p := by
  simp only [pPl] at h ⊢
  unfold pDig at h ⊢
  split at h
  · next q e =>
    split at e
    · cases e
    · next hn =>
      cases e
      exact ⟨if_neg hn, rfl⟩
  · next q v e =>
    have := pPl_pos (t := t) (dp := dp) dp (v + 1) (0 ||| 2 ^ v) q (by rw [Nat.zero_or]; exact Nat.pow_pos (by decide))
    omega
theorem c_Tp_readLock (hd : 4 ≤ d) (hW : WFT t) (hT : TpC t I) (hp : AtC t p I) (hp0 : p ≤ t.1) (hB : WFB B) (h1p : 1 ≤ B.pn) (h6 : B.ln < 6) (hD : DrC B lid I) (h0 : ∀ q I', pLk1 t B p = (q, none) → FrP I I' → I' 31 2 = nI q → F 0 I' J) (h1 : ∀ q x I', pLk1 t B p = (q, some x) → q ≤ t.1 → x.1 < B.pn → x.2.1 ≤ 2 → x.2.2.1 < B.pn → 1 ≤ x.2.2.2 → x.2.2.2 ≤ 15 → FrP I I' → I' 31 2 = nI q → DrC (B.addL x.1 x.2.1 x.2.2.1 x.2.2.2) lid I' → F 1 I' J) : CI d Tp_readLock [.ref 31, .ref 21] I J F := by
  have hp5 := hB.1
  refine CI.of (by omega) rfl (v_Tp_readLock_31_21_0 ?_)
  rw [hD.1.1, n_dec (by omega)]
  refine c_Tp_digit (lo := 0) (by omega) hW hT hp (by decide) (by omega) (fun q I' e k1 k2 k3 => ⟨fun _ => QI_i.mpr (h0 q I' (by unfold pLk1; rw [e]) k2.p k3), fun z => absurd (by decide) z⟩) (fun q a I1 e k1 k2 k3 k4 k5 => ⟨fun z => absurd z (nI_pos (by omega)), fun _ => ?_⟩)
  refine c_Tp_oneOfW (by omega) hW (k4.tpc hT) (AtC_of k1 k5) (fun ew I2 l1 l2 => ⟨fun _ => QI_i.mpr (h0 _ I2 (by unfold pLk1; rw [e]; dsimp only; rw [ew]) (k4.tr l1).p l2), fun z => absurd (by decide) z⟩) (fun w ew l0 lq I2 l1 l2 => ⟨fun z => absurd z (nI_pos (by omega)), fun _ => ?_⟩)
  refine c_Tp_peek (by omega) hW ((k4.tr l1).tpc hT) (AtC_of lq l2) (fun I3 m1 m2 => ?_)
  have hb := hr_bd (p := skT t q + 1) hW
  rw [show (48 : Int32) = nI 48 from rfl, sub_eq (by omega) (by decide) (by omega)]
  refine ⟨fun ea => QI_i.mpr (h0 _ I3 (by unfold pLk1; rw [e]; dsimp only; rw [ew]; dsimp only; rw [if_pos ea]) ((k4.tr l1).tr m1).p m2), fun ea => ?_⟩
  have hD3 := DrC_t hD ((k4.tr l1).tr m1)
  have F3 := (k4.tr l1).tr m1
  rw [hD3.1.1, n_dec (by omega)]
  have sl : skT t (skT t q + 1) ≤ t.1 := sk_le lq
  have hat : AtC t (skT t q + 1) I3 := ⟨_, sl, sk_sk lq, m2⟩
  refine c_Tp_digit (lo := 0) (by omega) hW (F3.tpc hT) hat (by decide) (by omega) (fun q2 I4 e2 n1 n2 n3 => ?_) (fun q2 o I4 e2 n1 n2 n3 n4 n5 => ?_)
  · have hD4 := DrC_t hD3 n2
    refine c_Bx_hasPanel_21 (by omega) hD4.1 ⟨fun _ => QI_i.mpr (h0 q2 I4 ?_ (F3.tr n2).p n3), fun z => absurd ?_ z⟩
    · unfold pLk1; rw [e]; dsimp only; rw [ew]; dsimp only; rw [if_neg ea, e2]
    · rw [decide_eq_false (by decide : ¬ ¬ (-1 : Int32) < 0)]; rfl
  · have hD4 := DrC_t hD3 n4
    have ho : o < B.pn := by omega
    have hdp := (hB.2.2.1 o ho).2.2
    have eh : (decide (¬ nI o < 0) && decide (nI o < nI B.pn)) = true := by
      rw [decide_eq_true (nI_pos (by omega)), decide_eq_true ((n_lt (by omega) (by omega)).mpr ho)]; rfl
    refine c_Bx_hasPanel_21 (by omega) hD4.1 ?_
    rw [eh, n_tN (by omega), show I4 23 o = nI (B.dp o) from (hD4.1.2.2.1 o ho).2]
    refine ⟨fun z => absurd z (by decide), fun _ => ⟨n_vp (by omega) (by decide), c_Tp_readPlaces (by omega) hW ((F3.tr n4).tpc hT) n1 n5 hdp (fun q3 ps I5 e3 o1 o2 o3 => ?_)⟩⟩
    have hlt := pPl_lt (t := t) (dp := B.dp o) (B.dp o + 1) 0 0 q2 (by decide) (by omega)
    have hlt2 : 2 ^ (B.dp o + 1) ≤ 2 ^ 4 := Nat.pow_le_pow_right (by decide) (by omega)
    rw [e3] at hlt
    dsimp only at hlt
    have ek : pLk1 t B p = if (pPl t (B.dp o) (B.dp o + 1) 0 0 q2).2 = 0 then (skT t (pPl t (B.dp o) (B.dp o + 1) 0 0 q2).1, none) else ((pPl t (B.dp o) (B.dp o + 1) 0 0 q2).1, some (a, w, o, (pPl t (B.dp o) (B.dp o + 1) 0 0 q2).2)) := by
      unfold pLk1; rw [e]; dsimp only; rw [ew]; dsimp only; rw [if_neg ea, e2]
    rw [n_e0 (by omega)]
    refine ⟨fun z => ?_, fun z => ?_⟩
    · have z0 := pPl_0 (t := t) (dp := B.dp o) (lo := 0) n1 (by rw [e3]; exact z)
      have eq3 : q3 = skT t q2 := by rw [← z0.2, e3]
      rw [e3] at ek
      rw [if_pos z] at ek
      dsimp only at ek
      rw [eq3, sk_sk n1] at ek
      rw [eq3] at o3
      exact QI_i.mpr (h0 _ I5 ek ((F3.tr n4).tr o2).p o3)
    · rw [e3] at ek
      rw [if_neg z] at ek
      dsimp only at ek
      refine c_Bx_addLock_21 (by omega) (DrC_t hD4 o2) h6 (fun I6 r1 r2 r3 => QI_i.mpr (h1 q3 _ I6 ek o1 (show a < B.pn by omega) l0 ho (show 1 ≤ ps by omega) (show ps ≤ 15 by omega) (((F3.tr n4).tr o2).p.tr r2) ?_ r1))
      rw [r3]; exact o3
end TAPE2
