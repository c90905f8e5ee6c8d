/-! ONE STEP, AN END, A CALL of the walked machine, on the machine -/
theorem good_w {w : Jvm.Cond} (h : w ∈ lw_good) : w ∈ lw_tbl ∧ goodWord w = true := List.mem_filter.mp h
theorem goodIn_lw {X : List Jvm.Cond} (h : ∀ w ∈ X, w ∈ lw_good) : GoodIn lw_good X := fun w hw => ⟨h w hw, good_of_word (good_w (h w hw)).2⟩
theorem swT_ok (x : Int32) (pc : Nat) (dd : Int) : ∀ (L : List Int) (k : Nat), k + L.length < 2 ^ 31 → (∃ j, j < L.length ∧ x = nI (k + j) ∧ ∃ o, L[j]? = some o ∧ swT x pc dd L k = tg pc o) ∨ ((∀ j, j < L.length → ¬ x = nI (k + j)) ∧ swT x pc dd L k = tg pc dd) := by
  intro L
  induction L with
  | nil => intro k _; exact Or.inr ⟨fun j hj => absurd hj (Nat.not_lt_zero j), rfl⟩
  | cons o t ih =>
    intro k hk
    simp only [List.length_cons] at hk
    by_cases e : x = nI k
    · refine Or.inl ⟨0, by simp, e, o, rfl, ?_⟩
      simp only [swT]
      exact if_pos e
    · have e2 : swT x pc dd (o :: t) k = swT x pc dd t (k + 1) := by simp only [swT]; exact if_neg e
      rcases ih (k + 1) (by omega) with ⟨j, h1, h2, o2, h3, h4⟩ | ⟨h1, h2⟩
      · exact Or.inl ⟨j + 1, by simp; exact h1, by rw [h2]; congr 1; omega, o2, by simpa using h3, by rw [e2, h4]⟩
      · refine Or.inr ⟨fun j hj => ?_, by rw [e2, h2]⟩
        cases j with
        | zero => exact e
        | succ j => have := h1 j (by simpa using hj); rwa [show k + 1 + j = k + (j + 1) by omega] at this
section STP
variable {p : Program} {l : Launch} {e : Env} {R : Room} {s : State} {m : MethodId} {args : Array Value} {below : List Frame} {meth : Method} {c : Code} {H : Heap} {locs : List Loc} {cells slots : Nat} {Q : State → Prop}
variable {cc : ByteArray} {pc n : Nat} {ls : Array Slot} {nW : Nat} {ad : Nat → Nat} {D : va_G} {cA : Nat → ClassId} {A : Nat → Prop}
theorem w_at {a b : Nat} (h : a = b) {st : List Value} (k : W p l e R s m args below meth c H locs cells slots Q (F0 m a ls st)) : W p l e R s m args below meth c H locs cells slots Q (F0 m b ls st) := h ▸ k
set_option maxHeartbeats 4000000 in
/-- jumps -/
theorem opJ_ok (hx : p.tables.exec = Jvm.exec) (hb : c.code = cc) {own : Nat} {i : Instr} {lv lv' : Lv} {st st' : St} {I I' : I2} {J J' : J2} {pc' : Nat} (hi : (∃ k o, i = .ifCond k o) ∨ (∃ k o, i = .if_icmp k o) ∨ (∃ o, i = .goto o) ∨ ∃ a b f g, i = .tableswitch a b f g) (h : exec1 own i pc n lv st I J = some (pc', lv', st', I', J')) (hd : decode cc pc = .ok (i, n)) (ho : okIns pc i n = true) :
    lv' = lv ∧ I' = I ∧ J' = J ∧ (W p l e R s m args below meth c H locs cells slots Q (F0 m pc' ls (st'.map (kv ad))) → W p l e R s m args below meth c H locs cells slots Q (F0 m pc ls (st.map (kv ad)))) := by
  have e1 : ∀ {z : Nat}, Nat.beq n z = true → n = z := fun h => Nat.eq_of_beq_eq_true h
  rcases hi with ⟨k, o, rfl⟩ | ⟨k, o, rfl⟩ | ⟨o, rfl⟩ | ⟨a, b, f, g, rfl⟩
  · simp only [exec1] at h
    split at h
    · next x r =>
      simp only [Option.some.injEq, Prod.mk.injEq] at h
      obtain ⟨rfl, rfl, rfl, rfl, rfl⟩ := h
      refine ⟨rfl, rfl, rfl, fun kk => ?_⟩
      simp only [okIns, Bool.and_eq_true, decide_eq_true_eq] at ho
      have := e1 ho.1; subst this
      have ht := ho.2
      cases k <;> simp only [brI] at kk
      · exact lv_if_eq hx hb hd ht (fun q => w_at (if_pos q) kk) (fun q => w_at (if_neg q) kk)
      · exact lv_if_ne hx hb hd ht (fun q => w_at (if_neg q) kk) (fun q => w_at (if_pos q) kk)
      · exact lv_if_lt hx hb hd ht (fun q => w_at (if_pos q) kk) (fun q => w_at (if_neg q) kk)
      · exact lv_if_ge hx hb hd ht (fun q => w_at (if_neg (Int32.not_lt.mpr q)) kk) (fun q => w_at (if_pos (Int32.not_le.mp q)) kk)
      · exact lv_if_gt hx hb hd ht (fun q => w_at (if_pos q) kk) (fun q => w_at (if_neg q) kk)
      · exact lv_if_le hx hb hd ht (fun q => w_at (if_neg (Int32.not_lt.mpr q)) kk) (fun q => w_at (if_pos (Int32.not_le.mp q)) kk)
    · cases h
  · simp only [exec1] at h
    split at h
    · next y x r =>
      simp only [Option.some.injEq, Prod.mk.injEq] at h
      obtain ⟨rfl, rfl, rfl, rfl, rfl⟩ := h
      refine ⟨rfl, rfl, rfl, fun kk => ?_⟩
      simp only [okIns, Bool.and_eq_true, decide_eq_true_eq] at ho
      have := e1 ho.1; subst this
      have ht := ho.2
      cases k <;> simp only [brC] at kk
      · exact lv_icmp_eq hx hb hd ht (fun q => w_at (if_pos q) kk) (fun q => w_at (if_neg q) kk)
      · exact lv_icmp_ne hx hb hd ht (fun q => w_at (if_neg q) kk) (fun q => w_at (if_pos q) kk)
      · exact lv_icmp_lt hx hb hd ht (fun q => w_at (if_pos q) kk) (fun q => w_at (if_neg q) kk)
      · exact lv_icmp_ge hx hb hd ht (fun q => w_at (if_neg (Int32.not_lt.mpr q)) kk) (fun q => w_at (if_pos (Int32.not_le.mp q)) kk)
      · exact lv_icmp_gt hx hb hd ht (fun q => w_at (if_pos q) kk) (fun q => w_at (if_neg q) kk)
      · exact lv_icmp_le hx hb hd ht (fun q => w_at (if_neg (Int32.not_lt.mpr q)) kk) (fun q => w_at (if_pos (Int32.not_le.mp q)) kk)
    · cases h
  · simp only [exec1, Option.some.injEq, Prod.mk.injEq] at h
    obtain ⟨rfl, rfl, rfl, rfl, rfl⟩ := h
    refine ⟨rfl, rfl, rfl, fun kk => ?_⟩
    simp only [okIns, Bool.and_eq_true, decide_eq_true_eq] at ho
    have := e1 ho.1; subst this
    exact lv_goto hx hb hd ho.2 kk
  · simp only [exec1] at h
    split at h
    · next x r =>
      simp only [Option.some.injEq, Prod.mk.injEq] at h
      obtain ⟨rfl, rfl, rfl, rfl, rfl⟩ := h
      refine ⟨rfl, rfl, rfl, fun kk => ?_⟩
      simp only [okIns, Bool.and_eq_true, decide_eq_true_eq, List.all_eq_true] at ho
      obtain ⟨⟨⟨⟨h0, h1⟩, h2⟩, h3⟩, h4⟩ := ho
      subst h0
      have hlen : g.toList.length = g.size := by simp
      rcases swT_ok x pc a g.toList 0 (by omega) with ⟨j, q1, q2, o, q3, q4⟩ | ⟨q1, q2⟩
      · rw [q4] at kk
        have hjs : j < 2 ^ 31 := by omega
        have hxi : x.toInt = (j : Int) := by rw [q2, Nat.zero_add]; exact nI_toInt hjs
        refine lv_tableIn hx hb hd (by omega) (by omega) (off := o) ?_ (h4 o (List.mem_of_getElem? q3)) kk
        rw [hxi, show ((j : Int) - 0).toNat = j by omega]
        rw [← Array.getElem?_toList]; exact q3
      · rw [q2] at kk
        refine lv_tableOut hx hb hd ?_ h3 kk
        rcases Int.lt_or_le x.toInt 0 with z | z
        · exact Or.inl z
        · refine Or.inr ?_
          rcases Int.lt_or_le f x.toInt with y | y
          · exact y
          · exfalso
            refine q1 x.toInt.toNat (by omega) ?_
            rw [Nat.zero_add]
            apply Int32.toInt_inj.mp
            rw [nI_toInt (by omega)]; omega
    · cases h
/-- a text asked for a letter -/
def IdxOK (p : Program) (l : Launch) (e : Env) (R : Room) (s : State) (m : MethodId) (args : Array Value) (below : List Frame) (meth : Method) (c : Code) (cells slots : Nat) (Q : State → Prop) (ad : Nat → Nat) (A : Nat → Prop) (own : Nat) : Prop :=
  own = 3 → ∀ (a : Nat) (tx : List Int32), (a = 201 ∧ tx = tx1 ∨ a = 202 ∧ tx = tx2) → ∀ (H : Heap) (locs : List Loc) (ls : Array Slot) (pc : Nat) (r : St) (ch : Int32), va_S A s.heap H locs → ls.size = c.maxLocals → decode c.code pc = .ok (.invokevirtual 86, 3) → (r.map fun v => v.category).sum ≤ 8 → (∀ locs', va_S A s.heap H locs' → W p l e R s m args below meth c H locs' cells slots Q (F0 m (pc + 3) ls (.int (txF ch tx 0) :: r))) → W p l e R s m args below meth c H locs cells slots Q (F0 m pc ls (.int ch :: .ref (ad a) :: r))
theorem cat_kv (r : St) : ((r.map (kv ad)).map fun v => v.category) = r.map fun v => v.category := by
  rw [List.map_map]; exact List.map_congr_left (fun v _ => kv_cat)
theorem cp_words : Cond.methodLink "SecretBox$Box" 65 arraycopyName ∈ lw_good ∧ Cond.native arraycopyName ∈ lw_good ∧ Cond.static arraycopyName ∈ lw_good ∧ Cond.initialized "java/lang/System" ∈ lw_good :=
  ⟨good_at (i := 362) (by decide +kernel) rfl, good_at (i := 364) (by decide +kernel) rfl, good_at (i := 363) (by decide +kernel) rfl, good_at (i := 36) (by decide +kernel) rfl⟩
set_option maxHeartbeats 4000000 in
theorem opX_ok (hx : p.tables.exec = Jvm.exec) (hb : c.code = cc) (hml : c.maxLocals = ls.size) {own : Nat} (hown : s.vm.findClass (RNf own) = some m.cls) (hts : ∀ w ∈ lw_good, w.before args s = true) (hK : va_K D vwCl (tysA cA) s) (hW : WDp nW ad A) (hR : 1 ≤ R.frames ∧ 100 ≤ R.locals) {i : Instr} {st st' : St} {I I' : I2} {J J' : J2} (hn : nOK nW own) (hidx : IdxOK p l e R s m args below meth c cells slots Q ad A own) (h : opX own i st I J = some (st', I', J')) (hd : decode cc pc = .ok (i, n)) (ho : okIns pc i n = true) (hP : va_P D vwCl (WS nW ad cA I J) H) (hS : va_S A s.heap H locs)
    (k : ∀ (H' : Heap) (locs' : List Loc), va_P D vwCl (WS nW ad cA I' J') H' → va_S A s.heap H' locs' → FrI I I' → W p l e R s m args below meth c H' locs' cells slots Q (F0 m (pc + n) ls (st'.map (kv ad)))) : W p l e R s m args below meth c H locs cells slots Q (F0 m pc ls (st.map (kv ad))) := by
  have e1 : ∀ {z : Nat}, Nat.beq n z = true → n = z := fun h => Nat.eq_of_beq_eq_true h
  have hD : va_D A (WS nW ad cA I J) := WS_D hW
  cases i
  all_goals first
    | (exfalso; simp [opX] at h; done)
    | skip
  case invokestatic ix =>
    have := e1 (z := 3) ho; subst this
    simp only [opX] at h
    cases hown2 : (Nat.beq own 0 && Nat.beq ix 65) with
    | false => rw [hown2] at h; cases h
    | true =>
      rw [hown2] at h
      simp only [cond_true] at h
      have hlink : Cond.methodLink (RNf own) ix arraycopyName ∈ lw_good := by
        obtain ⟨a1, a2⟩ := beq_and hown2
        rw [Nat.eq_of_beq_eq_true a1, Nat.eq_of_beq_eq_true a2]; exact cp_words.1
      split at h
      · next nn dp a sp b r =>
        cases hr : Nat.ble (r.map fun v => v.category).sum 8 with
        | false => rw [hr] at h; cases h
        | true =>
          rw [hr] at h
          have hr8 : (r.map fun v => v.category).sum ≤ 8 := Nat.le_of_ble_eq_true hr
          simp only [cond_true] at h
          have hroom : ((r.map (kv ad)).map fun v => v.category).sum + (nativeFrameWords "java/lang/System" "arraycopy" 5 + 11) ≤ R.locals := by
            rw [cat_kv]
            have : nativeFrameWords "java/lang/System" "arraycopy" 5 = 7 := by decide +kernel
            omega
          split at h
          · next t x u y ha hb2 =>
            split at h
            · cases h
            · next hin =>
              simp only [not_or] at hin
              obtain ⟨g1, g2, g3, g4, g5⟩ := hin
              cases h1 : (Nat.beq t 1 && Nat.beq u 1) with
              | true =>
                rw [h1] at h
                simp only [cond_true, Option.some.injEq, Prod.mk.injEq] at h
                obtain ⟨rfl, rfl, rfl⟩ := h
                obtain ⟨c1, c2⟩ := beq_and h1
                have et : t = 1 := Nat.eq_of_beq_eq_true c1
                have eu : u = 1 := Nat.eq_of_beq_eq_true c2
                subst et; subst eu
                refine va_copyi hx hb hml hown (hts _ hlink) (hts _ cp_words.2.1) (hts _ cp_words.2.2.1) (hts _ cp_words.2.2.2) hK hP hD hS b a 0 0 (WS_at hn hb2 (CE_1 (SK_ok hn hb2).2)) (WS_at hn ha (CE_1 (SK_ok hn ha).2)) (ty := .int) rfl rfl rfl g1 g2 g3 (by omega) (by omega) (fun _ _ => rfl) hR.1 hroom hd (fun H1 locs1 hP1 hD1 hS1 => ?_)
                refine k H1 locs1 ?_ hS1 (fun b9 hb9 => if_neg (by have := SK_lt ha; omega))
                have e9 := CE_1 (ad := ad) (cA := cA) (I := fun i => if i = a then va_cpy (I b) (I a) sp.toNatClampNeg dp.toNatClampNeg nn.toNatClampNeg else I i) (J := J) (SK_ok hn ha).2
                simp only [↓reduceIte] at e9
                rw [← e9, WS_set (SK_ok hn ha).1 (fun b hb => if_neg hb) (fun b hb => rfl)] at hP1
                exact hP1
              | false =>
                rw [h1] at h
                simp only [cond_false] at h
                cases h3 : (Nat.beq t 3 && Nat.beq u 3) with
                | false => rw [h3] at h; cases h
                | true =>
                  rw [h3] at h
                  simp only [cond_true, Option.some.injEq, Prod.mk.injEq] at h
                  obtain ⟨rfl, rfl, rfl⟩ := h
                  obtain ⟨c1, c2⟩ := beq_and h3
                  have et : t = 3 := Nat.eq_of_beq_eq_true c1
                  have eu : u = 3 := Nat.eq_of_beq_eq_true c2
                  subst et; subst eu
                  refine va_copyl hx hb hml hown (hts _ hlink) (hts _ cp_words.2.1) (hts _ cp_words.2.2.1) (hts _ cp_words.2.2.2) hK hP hD hS b a 2 2 (WS_at hn hb2 (CE_3 (SK_ok hn hb2).2)) (WS_at hn ha (CE_3 (SK_ok hn ha).2)) (ty := .long) rfl rfl rfl g1 g2 g3 (by omega) (by omega) (fun _ _ => rfl) hR.1 hroom hd (fun H1 locs1 hP1 hD1 hS1 => ?_)
                  refine k H1 locs1 ?_ hS1 FrI.rf
                  have e9 := CE_3 (ad := ad) (cA := cA) (I := I) (J := fun i => if i = a then va_cpy (J b) (J a) sp.toNatClampNeg dp.toNatClampNeg nn.toNatClampNeg else J i) (SK_ok hn ha).2
                  simp only [↓reduceIte] at e9
                  rw [← e9, WS_set (SK_ok hn ha).1 (fun b hb => rfl) (fun b hb => if_neg hb)] at hP1
                  exact hP1
          · cases h
      · cases h
  case invokevirtual ix =>
    have := e1 (z := 3) ho; subst this
    simp only [opX] at h
    cases hown2 : (Nat.beq own 3 && Nat.beq ix 86) with
    | false => rw [hown2] at h; cases h
    | true =>
      rw [hown2] at h
      simp only [cond_true] at h
      obtain ⟨c1, c2⟩ := beq_and hown2
      have e3 : ix = 86 := Nat.eq_of_beq_eq_true c2
      subst e3
      subst hb
      split at h
      · next ch a r =>
        cases hr : Nat.ble (r.map fun v => v.category).sum 8 with
        | false => rw [hr] at h; cases h
        | true =>
          rw [hr] at h
          have hr8 : (r.map fun v => v.category).sum ≤ 8 := Nat.le_of_ble_eq_true hr
          simp only [cond_true] at h
          cases h1 : Nat.beq a 201 with
          | true =>
            rw [h1] at h
            simp only [cond_true, Option.some.injEq, Prod.mk.injEq] at h
            obtain ⟨rfl, rfl, rfl⟩ := h
            exact hidx (Nat.eq_of_beq_eq_true c1) a tx1 (Or.inl ⟨Nat.eq_of_beq_eq_true h1, rfl⟩) H locs ls pc (r.map (kv ad)) ch hS hml.symm hd (by rw [cat_kv]; exact hr8) (fun locs' hS' => k H locs' hP hS' FrI.rf)
          | false =>
            rw [h1] at h
            simp only [cond_false] at h
            cases h2 : Nat.beq a 202 with
            | false => rw [h2] at h; cases h
            | true =>
              rw [h2] at h
              simp only [cond_true, Option.some.injEq, Prod.mk.injEq] at h
              obtain ⟨rfl, rfl, rfl⟩ := h
              exact hidx (Nat.eq_of_beq_eq_true c1) a tx2 (Or.inr ⟨Nat.eq_of_beq_eq_true h2, rfl⟩) H locs ls pc (r.map (kv ad)) ch hS hml.symm hd (by rw [cat_kv]; exact hr8) (fun locs' hS' => k H locs' hP hS' FrI.rf)
      · cases h
end STP
