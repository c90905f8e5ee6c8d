/-! the tape: the model's small readers -/
def TpM (t : Tpe) (I : I2) : Prop := I 57 2 = nI t.1 ∧ ∀ k, k < t.1 → I 59 k = nI (t.2 k)
def AtM (t : Tpe) (p : Nat) (I : I2) : Prop := ∃ p', p' ≤ t.1 ∧ skT t p' = skT t p ∧ I 57 3 = nI p'
/-- what reading leaves alone: the model -/
def FrB (I I' : I2) : Prop := (∀ a, a ≠ 57 → a ≠ 60 → a ≠ 61 → I' a = I a) ∧ ∀ k, k ≠ 3 → k ≠ 4 → k ≠ 6 → I' 57 k = I 57 k
/-- the place and whether there is a fault alone -/
def FrU (I I' : I2) : Prop := (∀ a, a ≠ 57 → I' a = I a) ∧ ∀ k, k ≠ 3 → k ≠ 4 → I' 57 k = I 57 k
theorem FrB.rf {I : I2} : FrB I I := ⟨fun _ _ _ _ => rfl, fun _ _ _ _ => rfl⟩
theorem FrB.tr {I0 I1 I2 : I2} (h1 : FrB I0 I1) (h2 : FrB I1 I2) : FrB I0 I2 := ⟨fun a x y z => (h2.1 a x y z).trans (h1.1 a x y z), fun k x y z => (h2.2 k x y z).trans (h1.2 k x y z)⟩
theorem FrU.rf {I : I2} : FrU I I := ⟨fun _ _ => rfl, fun _ _ _ => rfl⟩
theorem FrU.tr {I0 I1 I2 : I2} (h1 : FrU I0 I1) (h2 : FrU I1 I2) : FrU I0 I2 := ⟨fun a x => (h2.1 a x).trans (h1.1 a x), fun k x y => (h2.2 k x y).trans (h1.2 k x y)⟩
theorem FrU.b {I I' : I2} (h : FrU I I') : FrB I I' := ⟨fun a x _ _ => h.1 a x, fun k x y _ => h.2 k x y⟩
theorem FrU_3 {I : I2} {x : Int32} : FrU I (up2 I 57 3 x) := ⟨fun a h => by simp [up2, h], fun k h _ => by simp [up2, upd, h]⟩
theorem FrU_4 {I : I2} {x : Int32} : FrU I (up2 I 57 4 x) := ⟨fun a h => by simp [up2, h], fun k _ h => by simp [up2, upd, h]⟩
theorem FrB.tpm {t : Tpe} {I I' : I2} (h : FrB I I') (hT : TpM t I) : TpM t I' := ⟨by rw [h.2 2 (by decide) (by decide) (by decide)]; exact hT.1, fun k hk => by rw [h.1 59 (by decide) (by decide) (by decide)]; exact hT.2 k hk⟩
theorem AtM_of {t : Tpe} {q : Nat} {I : I2} (hq : q ≤ t.1) (h : I 57 3 = nI q) : AtM t q I := ⟨q, hq, rfl, h⟩
theorem AtM.le {t : Tpe} {p : Nat} {I : I2} (h : AtM t p I) : skT t p ≤ t.1 := by
  obtain ⟨p', h1, h2, _⟩ := h
  rw [← h2]; exact sk_le h1
theorem AtM.ss {t : Tpe} {p : Nat} {I : I2} (h : AtM t p I) : skT t (skT t p) = skT t p := by
  obtain ⟨p', h1, h2, _⟩ := h
  rw [← h2]; exact sk_sk h1
theorem AtM.sk {t : Tpe} {p : Nat} {I I' : I2} (h : AtM t p I) (h2 : I' 57 3 = nI (skT t p)) : AtM t p I' := ⟨skT t p, h.le, h.ss, h2⟩
section TAPE5
variable {d p : Nat} {t : Tpe} {I : I2} {J : J2} {G : I2 → J2 → Prop} {F : Int32 → I2 → J2 → Prop}
/-- where it is read alone -/
def FrH (I I' : I2) : Prop := (∀ a, a ≠ 57 → I' a = I a) ∧ ∀ k, k ≠ 3 → I' 57 k = I 57 k
theorem FrH.u {I I' : I2} (h : FrH I I') : FrU I I' := ⟨h.1, fun k x _ => h.2 k x⟩
theorem FrH.tr {I0 I1 I2 : I2} (h1 : FrH I0 I1) (h2 : FrH I1 I2) : FrH I0 I2 := ⟨fun a x => (h2.1 a x).trans (h1.1 a x), fun k x => (h2.2 k x).trans (h1.2 k x)⟩
theorem FrH_3 {I : I2} {x : Int32} : FrH I (up2 I 57 3 x) := ⟨fun a h => by simp [up2, h], fun k h => by simp [up2, upd, h]⟩
theorem l_Md_here (hW : WFT t) : ∀ k p I, p + k = t.1 → TpM t I → I 57 3 = nI p → (∀ I', FrH I I' → I' 57 3 = nI (skT t p) → F (nI (hrT t p)) I' J) → Wp d Md_here (QI F) 0 [some (.ref 57)] [] I J := by
  have h90 := hW.1
  intro k
  induction k with
  | zero =>
    intro p I hp hT h2 h
    have e : skT t p = p := sk_stop (fun q => by omega)
    refine v_Md_here_57_0 ⟨fun q => ?_, fun _ => QI_i.mpr ?_⟩
    · rw [h2, hT.1] at q; exact absurd ((n_lt (by omega) (by omega)).mp q) (by omega)
    · have h := h I ⟨fun _ _ => rfl, fun _ _ => rfl⟩ (by rw [e]; exact h2)
      rw [show hrT t p = 0 from if_neg (by rw [e]; omega)] at h
      exact h
  | succ k ih =>
    intro p I hp hT h2 h
    have hlt : p < t.1 := by omega
    have hc := hW.2 p hlt
    refine v_Md_here_57_0 ⟨fun _ => ?_, fun q => ?_⟩
    · rw [h2, n_tN (by omega), hT.2 p hlt, show (nI (t.2 p) = 32) = (nI (t.2 p) = nI 32) from rfl, n_eq (by omega) (by decide), n_inc]
      refine ⟨n_vp (by omega) (by decide), fun e => ?_, fun e => ⟨n_vp (by omega) (by decide), QI_i.mpr ?_⟩⟩
      · refine ih (p + 1) _ (by omega) (FrH_3.u.b.tpm hT) (by simp [up2, upd]) (fun I' k1 k2 => ?_)
        rw [← sk_step hlt e] at k2
        have := h I' (FrH_3.tr k1) k2
        rw [hr_same (sk_step hlt e)] at this; exact this
      · have e2 : skT t p = p := sk_stop (fun q => e q.2)
        have h := h I ⟨fun _ _ => rfl, fun _ _ => rfl⟩ (by rw [e2]; exact h2)
        rw [show hrT t p = t.2 p from (if_pos (by rw [e2]; exact hlt)).trans (by rw [e2])] at h
        exact h
    · rw [h2, hT.1] at q; exact absurd ((n_lt (by omega) (by omega)).mpr hlt) q
theorem c_Md_here (hd : 1 ≤ d) (hW : WFT t) (hT : TpM t I) (hp : AtM t p I) (h : ∀ I', FrH I I' → I' 57 3 = nI (skT t p) → F (nI (hrT t p)) I' J) : CI d Md_here [.ref 57] I J F := by
  obtain ⟨p', h1, h2, h3⟩ := hp
  refine CI.of hd rfl (l_Md_here hW (t.1 - p') p' I (by omega) hT h3 (fun I' k1 k2 => ?_))
  rw [h2] at k2
  rw [hr_same h2]
  exact h I' k1 k2
theorem c_Md_must0 (hd : 1 ≤ d) (h4 : I 57 4 = 0) (h : ∀ I', FrU I I' → I' 57 4 = 1 → I' 57 3 = I 57 3 → G I' J) : CV d Md_must [.ref 57, .int 0] I J G := by
  refine CV.of hd rfl (v_Md_must_57_0 ⟨fun _ => ⟨fun _ => ⟨fun q => absurd q (by decide), fun _ => QV_i.mpr (h _ (FrU_4.tr FrU_3) (by simp [up2, upd]) (by simp [up2, upd]))⟩, fun q => absurd rfl q⟩, fun q => absurd h4 q⟩)
theorem c_Md_must1 (hd : 1 ≤ d) (h4 : I 57 4 = 0) (h : ∀ I', FrU I I' → I' 57 4 = 0 → I' 57 3 = I 57 3 + 1 → G I' J) : CV d Md_must [.ref 57, .int 1] I J G := by
  refine CV.of hd rfl (v_Md_must_57_0 ⟨fun _ => ⟨fun q => absurd q (by decide), fun _ => ⟨fun _ => QV_i.mpr (h _ (FrU_4.tr FrU_3) (by simp [up2, upd]) (by simp [up2, upd])), fun q => absurd rfl q⟩⟩, fun q => absurd h4 q⟩)
theorem c_Md_mustF {x : Int32} (hd : 1 ≤ d) (h4 : I 57 4 = 1) (h : ∀ I', FrU I I' → I' 57 4 = 1 → I' 57 3 = I 57 3 → G I' J) : CV d Md_must [.ref 57, .int x] I J G := by
  refine CV.of hd rfl (v_Md_must_57_0 ⟨fun q => absurd (h4.symm.trans q) (by decide), fun _ => ⟨fun q => absurd q (by decide), fun _ => QV_i.mpr (h _ (FrU_4.tr FrU_3) (by simp [up2, upd]) (by simp [up2, upd]))⟩⟩)
theorem c_Md_digitF {lo hi : Int32} (hd : 2 ≤ d) (h4 : I 57 4 = 1) (h : ∀ I', FrU I I' → I' 57 4 = 1 → I' 57 3 = I 57 3 → F (-1) I' J) : CI d Md_digit [.ref 57, .int lo, .int hi] I J F := by
  refine CI.of (by omega) rfl (v_Md_digit_57_0 ⟨fun q => absurd (h4.symm.trans q) (by decide), fun _ => c_Md_in (by omega) (c_Md_mustF (by omega) h4 (fun I' z1 z2 z3 => QI_i.mpr (h I' z1 z2 z3)))⟩)
theorem in_m48 {h lo hi : Nat} (hh : h < 200) (hlo : lo < 200) (hhi : hi < 200) : bI (decide (¬ (nI h - 48).toInt64 < (nI lo).toInt64) && decide (¬ (nI hi).toInt64 < (nI h - 48).toInt64)) = bI (decide (48 + lo ≤ h ∧ h ≤ 48 + hi)) := by
  have e := in_rng (x := nI h - 48) (lo := nI lo) (hi := nI hi) rfl rfl
  rw [show (48 : Int32) = nI 48 from rfl] at e ⊢
  rw [sub_lt (by omega) (by omega) (by omega), sub_gt (by omega) (by omega) (by omega), bI_0] at e
  congr 1
  by_cases c : 48 + lo ≤ h ∧ h ≤ 48 + hi
  · rw [decide_eq_true c]
    cases z : (decide (¬ (nI h - nI 48).toInt64 < (nI lo).toInt64) && decide (¬ (nI hi).toInt64 < (nI h - nI 48).toInt64)) with
    | true => rfl
    | false => have := e.mp z; omega
  · rw [decide_eq_false c]
    exact e.mpr (by omega)
theorem c_Md_digit {lo hi : Nat} (hd : 2 ≤ d) (hW : WFT t) (hT : TpM t I) (hp : AtM t p I) (h4 : I 57 4 = 0) (hlo : lo < 200) (hhi : hi < 200) (h0 : ∀ q v I', pDig t lo hi p = (q, none) → q ≤ t.1 → FrU I I' → I' 57 4 = 1 → I' 57 3 = nI q → F v I' J) (h1 : ∀ q v I', pDig t lo hi p = (q, some v) → q ≤ t.1 → lo ≤ v → v ≤ hi → FrU I I' → I' 57 4 = 0 → I' 57 3 = nI q → F (nI v) I' J) : CI d Md_digit [.ref 57, .int (nI lo), .int (nI hi)] I J F := by
  have hb := hr_bd (p := p) hW
  unfold pDig at h0 h1
  refine CI.of (by omega) rfl (v_Md_digit_57_0 ⟨fun _ => c_Md_here (by omega) hW hT hp (fun I1 k1 k2 => c_Md_in (by omega) ?_), fun q => absurd h4 q⟩)
  have h41 : I1 57 4 = 0 := by rw [k1.2 4 (by decide)]; exact h4
  rw [in_m48 (by omega) hlo hhi]
  by_cases c : 48 + lo ≤ hrT t p ∧ hrT t p ≤ 48 + hi
  · rw [decide_eq_true c]
    rw [if_pos c] at h1
    have hl := hr_lt (t := t) (p := p) (by omega)
    rw [show (48 : Int32) = nI 48 from rfl, n_sub (by omega)]
    exact c_Md_must1 (by omega) h41 (fun I2 z1 z2 z3 => QI_i.mpr (h1 _ _ I2 rfl hl (by omega) (by omega) (k1.u.tr z1) z2 (by rw [z3, k2, n_inc])))
  · rw [decide_eq_false c]
    rw [if_neg c] at h0
    exact c_Md_must0 (by omega) h41 (fun I2 z1 z2 z3 => QI_i.mpr (h0 _ _ I2 rfl hp.le (k1.u.tr z1) z2 (by rw [z3, k2])))
theorem c_Md_placesF {x : Int32} (hd : 1 ≤ d) (h4 : I 57 4 = 1) (h : ∀ I', FrU I I' → I' 57 4 = 1 → I' 57 3 = I 57 3 → F 0 I' J) : CI d Md_placesRead [.ref 57, .int x] I J F := by
  refine CI.of (by omega) rfl (v_Md_placesRead_57_0 ⟨fun q => absurd (h4.symm.trans q) (by decide), fun _ => v_Md_placesRead_57_48 ⟨fun q => absurd q (by simp [up2, upd]), fun _ => QI_i.mpr (h _ FrU_4 (by simp [up2, upd]) (by simp [up2, upd]))⟩⟩)
theorem c_Md_placesRead {dp : Nat} (hd : 2 ≤ d) (hW : WFT t) (hT : TpM t I) (hp : AtM t p I) (h4 : I 57 4 = 0) (hdp : dp ≤ 3) (h0 : pDig t 0 dp p = (skT t p, none) → ∀ v I', FrU I I' → I' 57 4 = 1 → I' 57 3 = nI (skT t p) → F v I' J) (h1 : ∀ q a I', pPl t dp (dp + 1) 0 0 p = (q, a) → a ≠ 0 → FrU I I' → I' 57 4 = 0 → AtM t q I' → F (nI a) I' J) : CI d Md_placesRead [.ref 57, .int (nI dp)] I J F := by
  have hb := hr_bd (p := p) hW
  have loop : ∀ r lo a p I1, dp + 1 ≤ r + lo → lo ≤ 4 → a < 2 ^ lo → (0 < lo → 2 ^ (lo - 1) ≤ a) → FrU I I1 → I1 57 4 = 0 → I1 57 3 = nI (skT t p) → AtM t p I1 → (∀ q a' I', pPl t dp r lo a p = (q, a') → FrU I I' → I' 57 4 = 0 → AtM t q I' → F (nI a') I' J) → Wp (d - 1) Md_placesRead (QI F) 48 [some (.ref 57), some (.int (nI dp)), some (.int (nI (hrT t p) - 48)), some (.int (nI a))] [] I1 J := by
    intro r
    induction r with
    | zero =>
      intro lo a p I1 hr hlo ha ha2 hF h4 h3 hat k
      have hb := hr_bd (p := p) hW
      refine v_Md_placesRead_57_48 ⟨fun _ => c_Md_in (by omega) ?_, fun q => absurd h4 q⟩
      rw [show (0 : Int64) = (nI 0).toInt64 from by decide, in_m48 (by omega) (by decide) (by omega), bI_0, decide_eq_false_iff_not]
      refine ⟨fun _ => QI_i.mpr (k p a I1 rfl hF h4 hat), fun e => ⟨fun q => ?_, fun _ => QI_i.mpr (k p a I1 rfl hF h4 hat)⟩⟩
      have e := Classical.not_not.mp e
      rw [show (48 : Int32) = nI 48 from rfl, n_sub (by omega), n_one (by omega), n_lt (by have := Nat.pow_le_pow_right (n := 2) (by decide) hlo; omega) (by have := Nat.pow_le_pow_right (n := 2) (i := hrT t p - 48) (j := 4) (by decide) (by omega); omega)] at q
      have := ha2 (by omega)
      have := Nat.pow_le_pow_right (n := 2) (i := hrT t p - 48) (j := lo - 1) (by decide) (by omega)
      omega
    | succ r ih =>
      intro lo a p I1 hr hlo ha ha2 hF h4 h3 hat k
      have hb := hr_bd (p := p) hW
      have p24 := Nat.pow_le_pow_right (n := 2) (by decide) hlo
      have stop : ¬ (48 + lo ≤ hrT t p ∧ hrT t p ≤ 48 + dp) → QI F (some (.int (nI a))) I1 J := by
        intro c
        refine QI_i.mpr (k (skT t p) a I1 ?_ hF h4 ⟨skT t p, hat.le, rfl, h3⟩)
        simp only [pPl]
        rw [show pDig t lo dp p = (skT t p, none) from if_neg c]
      refine v_Md_placesRead_57_48 ⟨fun _ => c_Md_in (by omega) ?_, fun q => absurd h4 q⟩
      rw [show (0 : Int64) = (nI 0).toInt64 from by decide, in_m48 (by omega) (by decide) (by omega), bI_0, decide_eq_false_iff_not]
      refine ⟨fun e => stop (fun c => e ⟨by omega, c.2⟩), fun e => ?_⟩
      have e := Classical.not_not.mp e
      have pv := Nat.pow_le_pow_right (n := 2) (i := hrT t p - 48) (j := 4) (by decide) (by omega)
      rw [show (48 : Int32) = nI 48 from rfl, n_sub (by omega), n_one (by omega), n_lt (by omega) (by omega), n_or, h3, n_inc]
      refine ⟨fun q => ?_, fun q => stop (fun c => q ?_)⟩
      · have hl := hr_lt (t := t) (p := p) (by omega)
        have hv : lo ≤ hrT t p - 48 := by
          rcases Nat.lt_or_ge (hrT t p - 48) lo with z | z
          · have := ha2 (by omega)
            have := Nat.pow_le_pow_right (n := 2) (i := hrT t p - 48) (j := lo - 1) (by decide) (by omega)
            omega
          · exact z
        have ed : pDig t lo dp p = (skT t p + 1, some (hrT t p - 48)) := if_pos ⟨by omega, e.2⟩
        have F2 : FrU I (up2 I1 57 3 (nI (skT t p + 1))) := hF.tr FrU_3
        refine c_Md_here (p := skT t p + 1) (by omega) hW (F2.b.tpm hT) (AtM_of hl (by simp [up2, upd])) (fun I2 z1 z2 => ?_)
        have := ih (hrT t p - 48 + 1) (a ||| 2 ^ (hrT t p - 48)) (skT t p + 1) I2 (by omega) (by omega) (Nat.or_lt_two_pow (Nat.lt_of_lt_of_le ha (Nat.pow_le_pow_right (by decide) (by omega))) (Nat.pow_lt_pow_right (by decide) (by omega))) (fun _ => by rw [Nat.add_sub_cancel]; exact Nat.right_le_or) (F2.tr z1.u) (by rw [z1.2 4 (by decide)]; simp [up2, upd]; exact h4) z2 ⟨skT t (skT t p + 1), sk_le hl, sk_sk hl, z2⟩ (fun q' a' I' e' => k q' a' I' (by simp only [pPl]; rw [ed]; exact e'))
        exact this
      · exact Nat.lt_of_lt_of_le ha (Nat.pow_le_pow_right (by decide) (by omega))
  refine CI.of (by omega) rfl (v_Md_placesRead_57_0 ⟨fun _ => c_Md_here (by omega) hW hT hp (fun I1 k1 k2 => ?_), fun q => absurd h4 q⟩)
  have h41 : I1 57 4 = 0 := by rw [k1.2 4 (by decide)]; exact h4
  refine ⟨fun _ => c_Md_in (by omega) ?_, fun q => absurd h41 q⟩
  rw [show (0 : Int64) = (nI 0).toInt64 from by decide, in_m48 (by omega) (by decide) (by omega), bI_0, decide_eq_false_iff_not]
  refine ⟨fun e => ?_, fun e => ?_⟩
  · have ed : pDig t 0 dp p = (skT t p, none) := if_neg e
    exact v_Md_placesRead_57_48 ⟨fun q => absurd q (by simp [up2, upd]), fun _ => QI_i.mpr (h0 ed _ _ (k1.u.tr FrU_4) (by simp [up2, upd]) (by simp [up2, upd]; exact k2))⟩
  · have e := Classical.not_not.mp e
    refine loop (dp + 1) 0 0 p _ (by omega) (by decide) (by decide) (fun q => absurd q (Nat.lt_irrefl _)) (k1.u.tr FrU_4) (by simp [up2, upd]) (by simp [up2, upd]; exact k2) (hp.sk (by simp [up2, upd]; exact k2)) (fun q a I' ep z1 z2 z3 => h1 q a I' ep ?_ z1 z2 z3)
    intro a0
    have : (pPl t dp (dp + 1) 0 0 p).2 = 0 := by rw [ep]; exact a0
    obtain ⟨p', y1, y2, _⟩ := hp
    simp only [pPl] at this
    rw [show pDig t 0 dp p = (skT t p + 1, some (hrT t p - 48)) from if_pos ⟨e.1, e.2⟩] at this
    have z := pPl_pos (t := t) (dp := dp) dp (hrT t p - 48 + 1) (0 ||| 2 ^ (hrT t p - 48)) (skT t p + 1) (by rw [Nat.zero_or]; exact Nat.pow_pos (by decide))
    dsimp only at this
    omega
end TAPE5
