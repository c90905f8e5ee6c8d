/-! THE LAW: what of, at, count answer; hash, stands, acts -/
section RD
variable {V : Bv} {p l : Nat}
theorem of_if_z (hw : WFV V) (hp : p < V.B.pn) (y : Int32) : ofS V (nI p) y = if y = 0 then nI (V.B.kd p) else if y = 1 then nI (V.B.dp p) else if y = 2 then nI (pl V.s p) else if y = 3 then bI (mayB V.B V.s V.f p 0) else if y = 4 then bI (mayB V.B V.s V.f p 1) else -1 := by
  have hp5 := hw.1.1
  unfold ofS
  rw [if_neg (fun q => q (in_nI hp (by omega))), n_tN (by omega)]
theorem of_0_z (hw : WFV V) (hp : p < V.B.pn) : ofS V (nI p) 0 = nI (V.B.kd p) := by rw [of_if_z hw hp]; rfl
theorem of_1_z (hw : WFV V) (hp : p < V.B.pn) : ofS V (nI p) 1 = nI (V.B.dp p) := by rw [of_if_z hw hp]; rfl
theorem of_2_z (hw : WFV V) (hp : p < V.B.pn) : ofS V (nI p) 2 = nI (pl V.s p) := by rw [of_if_z hw hp]; rfl
theorem of_3_z (hw : WFV V) (hp : p < V.B.pn) : ofS V (nI p) 3 = bI (mayB V.B V.s V.f p 0) := by rw [of_if_z hw hp]; rfl
theorem of_4_z (hw : WFV V) (hp : p < V.B.pn) : ofS V (nI p) 4 = bI (mayB V.B V.s V.f p 1) := by rw [of_if_z hw hp]; rfl
theorem at_if_z (hw : WFV V) (hl : l < V.B.ln) (y : Int32) : atS V (nI l) y = if y = 0 then nI (V.B.ow l) else if y = 1 then nI (V.B.wy l) else if y = 2 then nI (V.B.ot l) else if y = 3 then nI (V.B.ps l) else if y = 4 then bI (V.f.testBit l) else if y = 5 then bI (met V.B l V.s) else -1 := by
  have hl6 := hw.1.2.1
  unfold atS
  rw [if_neg (fun q => q (in_nI hl (by omega))), n_tN (by omega)]
theorem at_0_z (hw : WFV V) (hl : l < V.B.ln) : atS V (nI l) 0 = nI (V.B.ow l) := by rw [at_if_z hw hl]; rfl
theorem at_1_z (hw : WFV V) (hl : l < V.B.ln) : atS V (nI l) 1 = nI (V.B.wy l) := by rw [at_if_z hw hl]; rfl
theorem at_2_z (hw : WFV V) (hl : l < V.B.ln) : atS V (nI l) 2 = nI (V.B.ot l) := by rw [at_if_z hw hl]; rfl
theorem at_3_z (hw : WFV V) (hl : l < V.B.ln) : atS V (nI l) 3 = nI (V.B.ps l) := by rw [at_if_z hw hl]; rfl
theorem at_4_z (hw : WFV V) (hl : l < V.B.ln) : atS V (nI l) 4 = bI (V.f.testBit l) := by rw [at_if_z hw hl]; rfl
theorem at_5_z (hw : WFV V) (hl : l < V.B.ln) : atS V (nI l) 5 = bI (met V.B l V.s) := by rw [at_if_z hw hl]; rfl
theorem cnt_2_z : countS V 2 = nI V.lid := rfl
theorem cnt_3_z : countS V 3 = bI (openB V.B V.lid V.s) := rfl
theorem cnt_4_z : countS V 4 = nI (outN V.s V.B.pn) := rfl
theorem cnt_5_z : countS V 5 = nI V.f := rfl
theorem cnt_6_z : countS V 6 = nI (cntM V.B V.s V.f (2 * V.B.pn)) := rfl
theorem cnt_7_z : countS V 7 = nI V.s := rfl
theorem cnt_8_z : countS V 8 = nI V.past.length := rfl
theorem bI_n_z (b : Bool) : bI b = nI b.toNat := by cases b <;> rfl
theorem bI_1'_z {b : Bool} : bI b = 1 ↔ b = true := bI_1
end RD
/-! hash: of what of and count tell, nothing else -/
def hs0_z (V : Bv) : Nat → Int64
  | 0 => 3
  | n + 1 => (31 * hs0_z V n) + (Int32.toInt64 (countS V (nI n)))
def hs1_z (V : Bv) : Nat → Int64
  | 0 => hs0_z V 8
  | n + 1 => (31 * ((31 * hs1_z V n) + (Int32.toInt64 (ofS V (nI n) 3)))) + (Int32.toInt64 (ofS V (nI n) 4))
def hsV_z (V : Bv) : Int64 := hs1_z V V.B.pn
/-- alike, but for the draw and what may be undone -/
def Alk_z (V V' : Bv) : Prop := V'.B = V.B ∧ V'.lid = V.lid ∧ V'.s = V.s ∧ V'.f = V.f
theorem Alk_z.count {V V' : Bv} (h : Alk_z V V') {n : Nat} (hn : n < 8) : countS V' (nI n) = countS V (nI n) := by
  obtain ⟨h1, h2, h3, h4⟩ := h
  match n, hn with
  | 0, _ => show nI V'.B.pn = nI V.B.pn; rw [h1]
  | 1, _ => show nI V'.B.ln = nI V.B.ln; rw [h1]
  | 2, _ => show nI V'.lid = nI V.lid; rw [h2]
  | 3, _ => show bI (openB V'.B V'.lid V'.s) = bI (openB V.B V.lid V.s); rw [h1, h2, h3]
  | 4, _ => show nI (outN V'.s V'.B.pn) = nI (outN V.s V.B.pn); rw [h1, h3]
  | 5, _ => show nI V'.f = nI V.f; rw [h4]
  | 6, _ => show nI (cntM V'.B V'.s V'.f (2 * V'.B.pn)) = nI (cntM V.B V.s V.f (2 * V.B.pn)); rw [h1, h3, h4]
  | 7, _ => show nI V'.s = nI V.s; rw [h3]
theorem Alk_z.of {V V' : Bv} (h : Alk_z V V') (x y : Int32) : ofS V' x y = ofS V x y := by
  obtain ⟨h1, h2, h3, h4⟩ := h
  unfold ofS; rw [h1, h3, h4]
theorem Alk_z.hs {V V' : Bv} (h : Alk_z V V') : hsV_z V' = hsV_z V := by
  have e0 : ∀ n, n ≤ 8 → hs0_z V' n = hs0_z V n := by
    intro n
    induction n with
    | zero => intro _; rfl
    | succ n ih => intro hn; simp only [hs0_z]; rw [ih (by omega), h.count (by omega)]
  have e1 : ∀ n, hs1_z V' n = hs1_z V n := by
    intro n
    induction n with
    | zero => exact e0 8 (by decide)
    | succ n ih => simp only [hs1_z]; rw [ih, h.of, h.of]
  unfold hsV_z
  rw [e1, h.1]
/-- how many panels, locks, as the law keeps them -/
def W2_z (B : Bx) (I : I2) : Prop := I 57 0 = nI B.pn ∧ I 57 1 = nI B.ln
theorem W2_z.f {B : Bx} {I I' : I2} (h : W2_z B I) (f : F57_z I I') : W2_z B I' := by unfold W2_z; rw [f 57 (by decide)]; exact h
section LWS
variable {d : Nat} {V : Bv} {K : Option Bv} {t : Tpe} {S : Nat → Shv} {I : I2} {J : J2} {F : Int32 → I2 → J2 → Prop}
theorem c_hash_z {G : Int64 → I2 → J2 → Prop} (hd : 9 ≤ d) (hR : RS_z V K t S I J) (hw0 : I 57 0 = nI V.B.pn) (h : G (hsV_z V) I J) : CL d Lw_hash [.ref 0, .ref 57] I J G := by
  have hp5 := hR.1.1.1.1
  have loop2 : ∀ k n, n + k = V.B.pn → Wp (d - 1) Lw_hash (QL G) 37 [some (.ref 0), some (.ref 57), some (.long (hs1_z V n)), none, some (.int (nI n))] [] I J := by
    intro k
    induction k with
    | zero =>
      intro n hn
      refine v_Lw_hash_0_57_37 ⟨fun q => ?_, fun _ => QL_i.mpr ?_⟩
      · rw [hw0] at q; have := (n_lt (by omega) (by omega)).mp q; omega
      · rw [show n = V.B.pn by omega]; exact h
    | succ k ih =>
      intro n hn
      refine v_Lw_hash_0_57_37 ⟨fun _ => k_of_z (by omega) hR _ _ (k_of_z (by omega) hR _ _ ?_), fun q => ?_⟩
      · rw [n_inc]; exact ih (n + 1) (by omega)
      · rw [hw0] at q; exact absurd ((n_lt (by omega) (by omega)).mpr (by omega)) q
  have loop1 : ∀ k n, n + k = 8 → Wp (d - 1) Lw_hash (QL G) 7 [some (.ref 0), some (.ref 57), some (.long (hs0_z V n)), none, some (.int (nI n))] [] I J := by
    intro k
    induction k with
    | zero =>
      intro n hn
      refine v_Lw_hash_0_57_7 ⟨fun q => ?_, fun _ => ?_⟩
      · have := (n_lt (b := 8) (by omega) (by decide)).mp q; omega
      · rw [show n = 8 by omega]; exact loop2 V.B.pn 0 (Nat.zero_add _)
    | succ k ih =>
      intro n hn
      refine v_Lw_hash_0_57_7 ⟨fun _ => k_count_z (by omega) hR _ ?_, fun q => ?_⟩
      · rw [n_inc]; exact ih (n + 1) (by omega)
      · exact absurd ((n_lt (b := 8) (by omega) (by decide)).mpr (by omega)) q
  exact CL.of (by omega) rfl (v_Lw_hash_0_57_0 (loop1 8 0 rfl))
theorem cntM_2_z {B : Bx} {s f n : Nat} : cntM B s f (2 * (n + 1)) = cntM B s f (2 * n) + ((mayB B s f n 0).toNat + (mayB B s f n 1).toNat) := by
  rw [show 2 * (n + 1) = (2 * n + 1) + 1 by omega]
  simp only [cntM]
  rw [show (2 * n + 1) / 2 = n by omega, show (2 * n + 1) % 2 = 1 by omega, show (2 * n) / 2 = n by omega, show (2 * n) % 2 = 0 by omega, Nat.add_assoc]
  cases mayB B s f n 0 <;> cases mayB B s f n 1 <;> rfl
theorem may_low_z {B : Bx} {s f p : Nat} (h : pl s p = 0) : mayB B s f p 0 = false := by
  cases e : mayB B s f p 0 with
  | false => rfl
  | true => have := (may_place e).1 rfl; omega
theorem may_high_z {B : Bx} {s f p : Nat} (h : ¬ pl s p < B.dp p) : mayB B s f p 1 = false := by
  cases e : mayB B s f p 1 with
  | false => rfl
  | true => have := (may_place e).2 (by decide); omega
theorem may_bar_z {B : Bx} {s f p w l : Nat} (hl : l < B.ln) (h1 : con B l p w = true) (h2 : met B l s = false) (h3 : f.testBit l = false) : mayB B s f p w = false := by
  cases e : mayB B s f p w with
  | false => rfl
  | true =>
    simp only [mayB, Bool.and_eq_true, decide_eq_true_eq] at e
    rw [e.2 l hl h1 h2] at h3; cases h3
set_option maxHeartbeats 1000000 in
theorem l_stands_268_z (hd : 8 ≤ d) (hR : RS_z V K t S I J) (hw : W2_z V.B I) {Q : Post} {x2 x3 x4 x6 : Int32} {l : Nat} (hl : l < V.B.ln) (h : Wp d Lw_stands Q 156 [some (.ref 0), some (.ref 57), some (.int x2), some (.int x3), some (.int x4), some (.int 1), some (.int x6), some (.int (nI (l + 1)))] [] I J) : Wp d Lw_stands Q 268 [some (.ref 0), some (.ref 57), some (.int x2), some (.int x3), some (.int x4), some (.int 1), some (.int x6), some (.int (nI l))] [] I J := by
  have hW := hR.1.1
  have hp5 := hW.1.1
  obtain ⟨c1, c2, c3, c4, c5⟩ := hW.1.2.2.2 l hl
  refine v_Lw_stands_0_57_268 (k_at_z hd hR _ _ ?_)
  rw [at_4_z hW hl, n_inc, bI_1]
  refine ⟨fun _ => h, fun e1 => k_at_z hd hR _ _ ?_⟩
  rw [at_5_z hW hl, bI_1]
  refine ⟨fun _ => h, fun e2 => k_at_z hd hR _ _ ?_⟩
  rw [at_1_z hW hl, show (nI (V.B.wy l) = 1) = (V.B.wy l = 1) from propext (n_eq (b := 1) (by omega) (by decide))]
  refine ⟨fun _ => h, fun e3 => k_at_z hd hR _ _ ?_⟩
  rw [at_0_z hW hl]
  refine k_of_z hd hR _ _ ?_
  rw [of_3_z hW c1, bI_0]
  refine ⟨fun _ => h, fun e4 => absurd (may_bar_z hl ?_ (by simpa using e2) (by simpa using e1)) e4⟩
  simp only [con, Bool.and_eq_true, Bool.or_eq_true, decide_eq_true_eq, true_and]; omega
set_option maxHeartbeats 2000000 in
theorem l_stands_156_z (hd : 8 ≤ d) (hR : RS_z V K t S I J) (hw : W2_z V.B I) (h0 : 0 < V.B.pn) (h : F 1 I J) : ∀ k l, l + k = V.B.ln → Wp d Lw_stands (QI F) 156 [some (.ref 0), some (.ref 57), some (.int (nI (cntM V.B V.s V.f (2 * V.B.pn)))), some (.int (nI (outN V.s V.B.pn))), some (.int (nI V.s)), some (.int 1), some (.int (nI V.lid)), some (.int (nI l))] [] I J := by
  have hW := hR.1.1
  have hp5 := hW.1.1
  have hl6 := hW.1.2.1
  have hs2 := s31 hW.1 hW.2.2.1.1
  have hf := f64 hW.1 hW.2.2.2.1
  have hlid : V.lid < V.B.pn := by rcases hW.2.1 with q | q <;> omega
  intro k
  induction k with
  | zero =>
    intro l hl
    refine v_Lw_stands_0_57_156 ⟨fun q => ?_, fun _ => ⟨fun q => absurd q (by decide), fun _ => k_count_z hd hR _ ⟨fun _ => k_count_z hd hR _ ⟨fun _ => k_count_z hd hR _ ⟨fun _ => k_count_z hd hR _ (k_of_z hd hR _ _ (k_of_z hd hR _ _ ?_)), fun q => absurd rfl q⟩, fun q => absurd rfl q⟩, fun q => absurd rfl q⟩⟩⟩
    · rw [hw.2] at q; have := (n_lt (by omega) (by omega)).mp q; omega
    · have hpl := pl_lt V.s V.lid
      have hdp := (hW.1.2.2.1 V.lid hlid).2.2
      rw [of_1_z hW hlid, of_2_z hW hlid, cnt_3_z, n_eq (by omega) (by omega), bI_1, bI_0]
      refine ⟨fun e => ⟨fun _ => QI_i.mpr h, fun q => absurd ?_ q⟩, fun e => ⟨fun _ => QI_i.mpr h, fun q => absurd ?_ q⟩⟩
      · simp [openB, h0, e]
      · simp [openB, e]
  | succ k ih =>
    intro l hl
    have hl2 : l < V.B.ln := by omega
    obtain ⟨c1, c2, c3, c4, c5⟩ := hW.1.2.2.2 l hl2
    have nx268 := l_stands_268_z (Q := QI F) hd hR hw (x2 := nI (cntM V.B V.s V.f (2 * V.B.pn))) (x3 := nI (outN V.s V.B.pn)) (x4 := nI V.s) (x6 := nI V.lid) hl2 (ih (l + 1) (by omega))
    refine v_Lw_stands_0_57_156 ⟨fun _ => ⟨fun q => absurd q (by decide), fun _ => k_count_z hd hR _ (k_at_z hd hR _ _ ?_)⟩, fun q => ?_⟩
    · rw [at_4_z hW hl2, cnt_5_z, n_bI hf (by omega)]
      refine ⟨fun _ => k_at_z hd hR _ _ (k_at_z hd hR _ _ (k_at_z hd hR _ _ ?_)), fun q => absurd rfl q⟩
      rw [at_2_z hW hl2]
      refine k_of_z hd hR _ _ ?_
      rw [of_2_z hW c3, at_5_z hW hl2, at_3_z hW hl2, n_met hW.1 hl2]
      refine ⟨fun _ => k_at_z hd hR _ _ ?_, fun q => absurd rfl q⟩
      rw [at_4_z hW hl2, bI_1]
      refine ⟨fun _ => nx268, fun e1 => k_at_z hd hR _ _ ?_⟩
      rw [at_5_z hW hl2, bI_1]
      refine ⟨fun _ => nx268, fun e2 => k_at_z hd hR _ _ ?_⟩
      rw [at_1_z hW hl2, n_e0 (by omega)]
      refine ⟨fun _ => nx268, fun e3 => k_at_z hd hR _ _ ?_⟩
      rw [at_0_z hW hl2]
      refine k_of_z hd hR _ _ ?_
      rw [of_4_z hW c1, bI_0]
      refine ⟨fun _ => nx268, fun e4 => absurd (may_bar_z hl2 ?_ (by simpa using e2) (by simpa using e1)) e4⟩
      simp only [con, Bool.and_eq_true, Bool.or_eq_true, decide_eq_true_eq, true_and]; omega
    · rw [hw.2] at q; exact absurd ((n_lt (by omega) (by omega)).mpr (by omega)) q
theorem outN_split_z {s : Nat} : ∀ n, outN s n = outN s n := fun _ => rfl
set_option maxHeartbeats 4000000 in
theorem c_stands_z (hd : 9 ≤ d) (hR : RS_z V K t S I J) (hw : W2_z V.B I) (h0 : 0 < V.B.pn) (h : F 1 I J) : CI d Lw_stands [.ref 0, .ref 57] I J F := by
  have hW := hR.1.1
  have hp5 := hW.1.1
  have hs2 := s31 hW.1 hW.2.2.1.1
  have hd8 : 8 ≤ d - 1 := by omega
  have loop : ∀ n, n ≤ V.B.pn → ∀ c o, c + cntM V.B V.s V.f (2 * n) = cntM V.B V.s V.f (2 * V.B.pn) → o ||| outN V.s n = outN V.s V.B.pn → Wp (d - 1) Lw_stands (QI F) 17 [some (.ref 0), some (.ref 57), some (.int (nI c)), some (.int (nI o)), some (.int (nI (V.s / 4 ^ n))), some (.int 1), some (.int (nI n - 1)), none] [] I J := by
    intro n
    induction n with
    | zero =>
      intro _ c o hc ho
      refine v_Lw_stands_0_57_17 ⟨fun _ => k_count_z hd8 hR _ ?_, fun q => absurd i_m1_z q⟩
      rw [cnt_2_z]
      have e1 : c = cntM V.B V.s V.f (2 * V.B.pn) := by simpa [cntM] using hc
      have e2 : o = outN V.s V.B.pn := by simpa [outN] using ho
      rw [e1, e2, Nat.pow_zero, Nat.div_one]
      exact l_stands_156_z hd8 hR hw h0 h V.B.ln 0 (Nat.zero_add _)
    | succ n ih =>
      intro hn c o hc ho
      have hn2 : n < V.B.pn := by omega
      have hpl := pl_lt V.s n
      have hle := hW.2.2.1.2 n hn2
      obtain ⟨c1, c2, c3⟩ := hW.1.2.2.1 n hn2
      rw [nI_pred]
      -- what is put together, behind the checks
      have leafC : ∀ o', o' ||| outN V.s n = outN V.s V.B.pn → Wp (d - 1) Lw_stands (QI F) 17 [some (.ref 0), some (.ref 57), some (.int (nI c + (bI (mayB V.B V.s V.f n 0) + bI (mayB V.B V.s V.f n 1)))), some (.int (nI o')), some (.int (4 * nI (V.s / 4 ^ (n + 1)) + nI (pl V.s n))), some (.int 1), some (.int (nI n + (-1))), none] [] I J := by
        intro o' ho'
        rw [bI_n_z, bI_n_z, nI_add, nI_add, i_4_z, nI_add, ← q4_z, i_sub1_z]
        exact ih (by omega) _ _ (by rw [cntM_2_z] at hc; omega) ho'
      have leafA : 0 < pl V.s n → Wp (d - 1) Lw_stands (QI F) 17 [some (.ref 0), some (.ref 57), some (.int (nI c + (bI (mayB V.B V.s V.f n 0) + bI (mayB V.B V.s V.f n 1)))), some (.int (nI o ||| slI 1 (nI n))), some (.int (4 * nI (V.s / 4 ^ (n + 1)) + nI (pl V.s n))), some (.int 1), some (.int (nI n + (-1))), none] [] I J := by
        intro e
        rw [n_one (by omega), n_or]
        refine leafC _ ?_
        have e2 : outN V.s (n + 1) = outN V.s n ||| (if 0 < pl V.s n then 2 ^ n else 0) := rfl
        rw [e2, if_pos e] at ho
        rw [← ho, Nat.or_assoc, Nat.or_comm (2 ^ n)]
      have leafB : ¬ 0 < pl V.s n → Wp (d - 1) Lw_stands (QI F) 17 [some (.ref 0), some (.ref 57), some (.int (nI c + (bI (mayB V.B V.s V.f n 0) + bI (mayB V.B V.s V.f n 1)))), some (.int (nI o ||| 0)), some (.int (4 * nI (V.s / 4 ^ (n + 1)) + nI (pl V.s n))), some (.int 1), some (.int (nI n + (-1))), none] [] I J := by
        intro e
        rw [n_or0]
        refine leafC _ ?_
        have e2 : outN V.s (n + 1) = outN V.s n ||| (if 0 < pl V.s n then 2 ^ n else 0) := rfl
        rw [e2, if_neg e, Nat.or_zero] at ho
        exact ho
      refine v_Lw_stands_0_57_17 ⟨fun q => absurd q (nI_pos (by omega)), fun _ => ⟨fun q => absurd q (by decide), fun _ => k_of_z hd8 hR _ _ ?_⟩⟩
      rw [of_2_z hW hn2]
      refine ⟨fun q => absurd q (nI_pos (by omega)), fun _ => k_of_z hd8 hR _ _ ?_⟩
      rw [of_1_z hW hn2, n_lt (by omega) (by omega), n_p0 (by omega)]
      refine ⟨fun q => by omega, fun _ => ⟨fun e => k_of_z hd8 hR _ _ ?_, fun e => k_of_z hd8 hR _ _ ?_⟩⟩
      · rw [of_1_z hW hn2, n_lt (by omega) (by omega)]
        refine ⟨fun e2 => k_of_z hd8 hR _ _ (k_of_z hd8 hR _ _ ?_), fun e2 => k_of_z hd8 hR _ _ ?_⟩
        · rw [of_3_z hW hn2, of_4_z hW hn2]; exact leafA e
        · rw [of_4_z hW hn2, bI_0]
          refine ⟨fun _ => k_of_z hd8 hR _ _ (k_of_z hd8 hR _ _ ?_), fun q => absurd (may_high_z e2) q⟩
          rw [of_3_z hW hn2, of_4_z hW hn2]; exact leafA e
      · rw [of_3_z hW hn2, bI_0]
        refine ⟨fun _ => k_of_z hd8 hR _ _ ?_, fun q => absurd (may_low_z (by omega)) q⟩
        rw [of_1_z hW hn2, n_lt (by omega) (by omega)]
        refine ⟨fun e2 => k_of_z hd8 hR _ _ (k_of_z hd8 hR _ _ ?_), fun e2 => by omega⟩
        rw [of_3_z hW hn2, of_4_z hW hn2]; exact leafB e
  refine CI.of (by omega) rfl (v_Lw_stands_0_57_0 ?_)
  rw [hw.1]
  have := loop V.B.pn (Nat.le_refl _) 0 0 (Nat.zero_add _) (Nat.zero_or _)
  rw [Nat.div_eq_of_lt hW.2.2.1.1] at this
  exact this
end LWS
/-! acts -/
section LWA
variable {d : Nat} {V : Bv} {K : Option Bv} {t : Tpe} {S : Nat → Shv} {I : I2} {J : J2} {F : Int32 → I2 → J2 → Prop}
theorem RS_z.w {I' : I2} (hR : RS_z V K t S I J) (h : ∀ a, a ≠ 57 → I' a = I a) : RS_z V K t S I' J := ⟨hR.1, rc_fr hR.2 (fun a ha => ⟨h a (by omega), rfl⟩)⟩
/-- what the law keeps of a box while it acts -/
def WV_z (V : Bv) (I : I2) : Prop := WBx_z V.B I ∧ I 57 3 = nI V.f ∧ I 57 5 = nI V.s
theorem WBx_z.w2 {B : Bx} (h : WBx_z B I) : W2_z B I := ⟨h.1, h.2.1⟩
theorem WBx_z.eq {B : Bx} {I' : I2} (h : WBx_z B I) (e : ∀ k, k ≠ 3 → k ≠ 5 → I' 57 k = I 57 k) : WBx_z B I' := by
  obtain ⟨h1, h2, h3, h4⟩ := h
  refine ⟨by rw [e 0 (by decide) (by decide)]; exact h1, by rw [e 1 (by decide) (by decide)]; exact h2, fun p hp => ?_, fun l hl => ?_⟩
  · rw [e (6 + 2 * p) (by omega) (by omega), e (7 + 2 * p) (by omega) (by omega)]; exact h3 p hp
  · rw [e (16 + 4 * l) (by omega) (by omega), e (16 + 4 * l + 1) (by omega) (by omega), e (16 + 4 * l + 2) (by omega) (by omega), e (16 + 4 * l + 3) (by omega) (by omega)]; exact h4 l hl
theorem outN_0_z {s : Nat} : ∀ n, outN s n = 0 → ∀ q, q < n → pl s q = 0 := by
  intro n
  induction n with
  | zero => intro _ q hq; omega
  | succ n ih =>
    intro h q hq
    have e2 : outN s (n + 1) = outN s n ||| (if 0 < pl s n then 2 ^ n else 0) := rfl
    rw [e2] at h
    have h1 : outN s n = 0 := (Nat.or_eq_zero_iff.mp h).1
    have h2 := (Nat.or_eq_zero_iff.mp h).2
    by_cases e : q = n
    · subst e
      split at h2
      · exact absurd h2 (Nat.pos_iff_ne_zero.mp (Nat.pow_pos (by decide)))
      · omega
    · exact ih h1 q (by omega)
theorem pop_0_z : ∀ a, a < 64 → popN 6 a = 0 → a = 0 := by decide +kernel
theorem or_bit_z {f l : Nat} : f ||| 2 ^ l = f ↔ f.testBit l = true := by
  constructor
  · intro h
    rw [← h, Nat.testBit_or, Nat.testBit_two_pow_self, Bool.or_true]
  · intro h
    apply Nat.eq_of_testBit_eq
    intro i
    rw [Nat.testBit_or, Nat.testBit_two_pow]
    by_cases e : l = i
    · subst e; rw [h]; simp
    · simp [e]
theorem outN_lt'_z {s : Nat} : ∀ n, outN s n < 2 ^ n := by
  intro n
  induction n with
  | zero => exact Nat.one_pos
  | succ n ih =>
    have e2 : outN s (n + 1) = outN s n ||| (if 0 < pl s n then 2 ^ n else 0) := rfl
    rw [e2]
    refine Nat.or_lt_two_pow (by rw [Nat.pow_succ]; omega) ?_
    split
    · exact Nat.pow_lt_pow_right (by decide) (by omega)
    · exact Nat.pow_pos (by decide)
theorem slide_1_z (hw : WFV V) {p w : Nat} (hp : p < V.B.pn) (hw2 : w < 2) : slideS V (nI p) (nI w) = if mayB V.B V.s V.f p w then (nI (behB V.B V.s p w V.B.pn), V.rem.setS (behB V.B V.s p w V.B.pn)) else (-2, V) := by
  have hp5 := hw.1.1
  unfold slideS
  rw [if_neg, n_tN (by omega), n_tN (by omega)]
  rintro (q | q | q)
  · exact q (in_nI hp (by omega))
  · exact nI_pos (by omega) q
  · have := (n_lt (a := 1) (by decide) (show w < 2 ^ 31 by omega)).mp q; omega
theorem file_1_z (hw : WFV V) {l : Nat} (hl : l < V.B.ln) : fileS V (nI l) = if V.f.testBit l then (-2, V) else (nI (V.f ||| 2 ^ l), V.rem.setF (V.f ||| 2 ^ l)) := by
  have hl6 := hw.1.2.1
  unfold fileS
  rw [if_neg (fun q => q (in_nI hl (by omega))), n_tN (by omega)]
set_option maxHeartbeats 4000000 in
theorem c_acts_z {x : Nat} (hd : 9 ≤ d) (hR : RS_z V K t S I J) (hw : WV_z V I) (h0 : 0 < V.B.pn) (hx : x < 4096) (h : ∀ V' I' v, RS_z V' K t S I' J → WV_z V' I' → V'.B = V.B → V'.lid = V.lid → I' 100 = I 100 → I' 101 = I 101 → ¬ v < 0 → F v I' J) : CI d Lw_acts [.ref 0, .ref 57, .int (nI x)] I J F := by
  have hW := hR.1.1
  have hp5 := hW.1.1
  have hl6 := hW.1.2.1
  have hs2 := s31 hW.1 hW.2.2.1.1
  have hf := f64 hW.1 hW.2.2.2.1
  obtain ⟨hB, h3, h5⟩ := hw
  have hd8 : 8 ≤ d - 1 := by omega
  have e7 : nI x &&& 7 = nI (x % 8) := pk_andN (by omega) 3 (by decide +kernel)
  have e3 : srI (nI x) 3 = nI (x / 8) := n_sr (k := 3) (by omega) (by decide)
  have act157 : ∀ (w : Nat) (x4 : Nat), w < 2 → x4 < V.B.pn → ∀ x2 x3 : Int32, Wp (d - 1) Lw_acts (QI F) 157 [some (.ref 0), some (.ref 57), some (.int x2), some (.int x3), some (.int (nI x4)), none, none] [.int (nI w)] I J := by
    intro w p hw2 hp x2 x3
    refine v_Lw_acts_0_57_157 ?_
    rw [h5, h3]
    refine c_slid_z (by omega) hW.1 hB hW.2.2.1 hf hp hw2 ?_
    cases hm : mayB V.B V.s V.f p w with
    | false =>
      rw [if_neg (show ¬ false = true by decide)]
      refine ⟨fun _ => k_slide_z hd8 hR _ _ (fun I' r f => ?_), fun q => absurd (by decide +kernel) q⟩
      rw [slide_1_z hW hp hw2, hm] at r ⊢
      refine ⟨fun _ => QI_i.mpr (h V I' 0 r ⟨?_, ?_, ?_⟩ rfl rfl (f 100 (by decide)) (f 101 (by decide)) (by decide)), fun q => absurd rfl q⟩
      · exact hB.eq (fun k _ _ => by rw [f 57 (by decide)])
      · rw [f 57 (by decide)]; exact h3
      · rw [f 57 (by decide)]; exact h5
    | true =>
      rw [if_pos rfl]
      have hok := okS_beh hW.1 hW.2.2.1 hp hw2 hm
      have hb2 := s31 hW.1 hok.1
      refine ⟨fun q => absurd q (nI_pos (by omega)), fun _ => k_slide_z hd8 (hR.w (fun a ha => up2_ne ha)) _ _ (fun I' r f => ?_)⟩
      rw [slide_1_z hW hp hw2, hm] at r ⊢
      refine ⟨fun _ => QI_i.mpr (h _ I' 1 r ⟨?_, ?_, ?_⟩ rfl rfl ((f 100 (by decide)).trans (up2_ne (by decide))) ((f 101 (by decide)).trans (up2_ne (by decide))) (by decide)), fun q => absurd rfl q⟩
      · exact hB.eq (fun k _ k5 => by rw [f 57 (by decide)]; simp [up2, upd, k5])
      · rw [f 57 (by decide)]; simp [up2, upd]; exact h3
      · rw [f 57 (by decide)]; simp [up2, upd]; rfl
  have slides : ¬ (nI (x % 8) = 1 ∧ 0 < nI V.B.ln) → ¬ nI V.B.pn = 0 ∧ ((nI (x % 8) < 4 → Wp (d - 1) Lw_acts (QI F) 157 [some (.ref 0), some (.ref 57), some (.int (nI x)), some (.int (nI (x / 8))), some (.int (rmI (nI (x / 8)) (nI V.B.pn))), none, none] [.int 0] I J) ∧ (¬ (nI (x % 8) < 4) → Wp (d - 1) Lw_acts (QI F) 157 [some (.ref 0), some (.ref 57), some (.int (nI x)), some (.int (nI (x / 8))), some (.int (rmI (nI (x / 8)) (nI V.B.pn))), none, none] [.int 1] I J)) := by
    intro _
    rw [n_e0 (by omega), n_rm (by omega) h0 (by omega)]
    exact ⟨by omega, fun _ => act157 0 _ (by decide) (Nat.mod_lt _ h0) _ _, fun _ => act157 1 _ (by decide) (Nat.mod_lt _ h0) _ _⟩
  refine CI.of (by omega) rfl (v_Lw_acts_0_57_0 ?_)
  rw [e7, e3, hB.1, hB.2.1]
  refine ⟨fun _ => ?_, fun _ => ⟨fun e1 => ⟨fun el => ?_, fun el => slides (fun q => el q.2)⟩, fun e1 => slides (fun q => e1 q.1)⟩⟩
  · -- shut
    refine c_outs_z (by omega) hW.1 hB.1 h5 (by omega) ?_
    have hlt : outN V.s V.B.pn < 64 := Nat.lt_of_lt_of_le (outN_lt'_z V.B.pn) (Nat.pow_le_pow_right (n := 2) (by decide) (show V.B.pn ≤ 6 by omega))
    refine c_size_z (by omega) hlt (k_shut_z hd8 (hR.w (fun a ha => up2_ne ha)) (fun I' r f => ?_))
    have hle : popN 6 (outN V.s V.B.pn) < 2 ^ 31 := Nat.lt_of_lt_of_le (show popN 6 (outN V.s V.B.pn) < 7 from (by decide +kernel : ∀ a, a < 64 → popN 6 a < 7) _ hlt) (by decide)
    have wB : WBx_z V.B I' := hB.eq (fun k _ k5 => by rw [f 57 (by decide)]; simp [up2, upd, k5])
    have w3 : I' 57 3 = nI V.f := by rw [f 57 (by decide)]; simp [up2, upd]; exact h3
    have w5 : I' 57 5 = 0 := by rw [f 57 (by decide)]; simp [up2, upd]
    rw [n_e0 hle]
    by_cases e : popN 6 (outN V.s V.B.pn) = 0
    · have es : shutS V = (-2, V) := if_pos e
      rw [es] at r ⊢
      have hs0_z : V.s = 0 := by
        have := outN_0_z V.B.pn (pop_0_z _ hlt e)
        have := (all0_z V.s V.B.pn).mpr this
        rw [Nat.mod_eq_of_lt hW.2.2.1.1] at this; exact this
      exact ⟨fun _ => ⟨fun _ => v_Lw_acts_0_57_57 (QI_i.mpr (h V I' 0 r ⟨wB, w3, by rw [w5, hs0_z]; rfl⟩ rfl rfl ((f 100 (by decide)).trans (up2_ne (by decide))) ((f 101 (by decide)).trans (up2_ne (by decide))) (by decide))), fun q => absurd rfl q⟩, fun q => absurd e q⟩
    · have es : shutS V = (nI (popN 6 (outN V.s V.B.pn)), V.rem.setS 0) := if_neg e
      rw [es] at r ⊢
      exact ⟨fun q => absurd q e, fun _ => ⟨fun _ => v_Lw_acts_0_57_57 (QI_i.mpr (h _ I' 1 r ⟨wB, w3, by rw [w5]; rfl⟩ rfl rfl ((f 100 (by decide)).trans (up2_ne (by decide))) ((f 101 (by decide)).trans (up2_ne (by decide))) (by decide))), fun q => absurd rfl q⟩⟩
  · -- file
    have hl0 : 0 < V.B.ln := by rw [n_p0 (by omega)] at el; exact el
    have hl := Nat.mod_lt (x / 8) hl0
    rw [n_e0 (by omega), n_rm (by omega) hl0 (by omega), h3, n_one (by omega), n_or]
    refine ⟨by omega, k_file_z hd8 (hR.w (fun a ha => up2_ne ha)) _ (fun I' r f => ?_)⟩
    have wB : WBx_z V.B I' := hB.eq (fun k k3 _ => by rw [f 57 (by decide)]; simp [up2, upd, k3])
    have w3 : I' 57 3 = nI (V.f ||| 2 ^ (x / 8 % V.B.ln)) := by rw [f 57 (by decide)]; simp [up2, upd]
    have w5 : I' 57 5 = nI V.s := by rw [f 57 (by decide)]; simp [up2, upd]; exact h5
    have hor : V.f ||| 2 ^ (x / 8 % V.B.ln) < 64 := Nat.or_lt_two_pow (n := 6) hf (Nat.lt_of_lt_of_le (Nat.pow_lt_pow_right (a := 2) (by decide) (show x / 8 % V.B.ln < 6 by omega)) (Nat.le_refl _))
    rw [file_1_z hW hl] at r ⊢
    rw [w3, n_eq (by omega) (by omega), eq_comm (a := V.f), or_bit_z]
    cases e : V.f.testBit (x / 8 % V.B.ln) with
    | true =>
      rw [e] at r
      have hE := or_bit_z.mpr e
      exact ⟨fun _ => ⟨fun _ => v_Lw_acts_0_57_136 (QI_i.mpr (h V I' 0 r ⟨wB, by rw [w3, hE], w5⟩ rfl rfl ((f 100 (by decide)).trans (up2_ne (by decide))) ((f 101 (by decide)).trans (up2_ne (by decide))) (by decide))), fun q => absurd rfl q⟩, fun q => absurd rfl q⟩
    | false =>
      rw [e] at r
      exact ⟨fun q => (by cases q), fun _ => ⟨fun _ => v_Lw_acts_0_57_136 (QI_i.mpr (h _ I' 1 r ⟨wB, w3, w5⟩ rfl rfl ((f 100 (by decide)).trans (up2_ne (by decide))) ((f 101 (by decide)).trans (up2_ne (by decide))) (by decide))), fun q => absurd rfl q⟩⟩
end LWA
