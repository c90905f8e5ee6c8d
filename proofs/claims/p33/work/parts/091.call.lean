/-! THE WALKED MACHINE IS THE MACHINE: every call that it tells, the machine does -/
theorem ScrOK.fr {ad : Nat → Nat} {A : Nat → Prop} {s : State} {I0 I : I2} (h : ScrOK ad A s I0) (hf : FrI I0 I) : ScrOK ad A s I := by
  obtain ⟨L, xs, h1, h2, h3, h4, h5, h6⟩ := h
  exact ⟨L, xs, h1, h2, h3, h4, by rw [hf 100 (by decide)]; exact h5, by rw [hf 101 (by decide)]; exact h6⟩
/-- what is given of the texts: two Strings of the library's form, apart from the world -/
def Exw (ad : Nat → Nat) (A : Nat → Prop) (U : State) : Prop :=
  vk_S 2 [5, 3] [[112, 115, 114, 108, 98], [60, 62, 61]] (fun i => ad (201 + i)) (fun i => ad (211 + i)) A U U.heap ∧ vk_R "SecretBox$Tape" 45 "psrlb" (ad 201) U ∧ vk_R "SecretBox$Tape" 64 "<>=" (ad 202) U ∧ va_Z "java/lang/String" "COMPACT_STRINGS" "Z" (.int 1) A U U.heap ∧ va_Nw (.methodLinkNest "SecretBox$Box" 77 (yM Sb_placeIn) "SecretBox") U
def Wd (nW : Nat) (D : va_G) (ad : Nat → Nat) (cA : Nat → ClassId) (A : Nat → Prop) (I : I2) (J : J2) (U : State) : Prop := va_P D vwCl (WS nW ad cA I J) U.heap ∧ va_K D vwCl (tysA cA) U ∧ Exw ad A U ∧ ScrOK ad A U I
def QW (nW : Nat) (D : va_G) (ad : Nat → Nat) (cA : Nat → ClassId) (A : Nat → Prop) (I0 : I2) (Q : Post) : Array Value → State → Outcome → State → Prop := fun _ st oc t =>
  (∃ (r : Option Value) (I' : I2) (J' : J2), oc = .returned (r.map (kv ad)) ∧ Q r I' J' ∧ FrI I0 I' ∧ va_P D vwCl (WS nW ad cA I' J') t.heap) ∧ va_F A st t
def rmd (d : Nat) : Room := { frames := d + 20, cells := 0, slots := 0, locals := 1000 + 64 * d }
def Wr (p : Program) (l : Launch) (e : Env) (R : Room) (s : State) (m : MethodId) (args : Array Value) (below : List Frame) (meth : Method) (c : Code) (cells slots : Nat) (Q : State → Prop) (nW : Nat) (D : va_G) (ad : Nat → Nat) (cA : Nat → ClassId) (A : Nat → Prop) (I0 : I2) (M : Nat) (pc : Nat) (lv : Lv) (st : St) (I : I2) (J : J2) : Prop :=
  ∀ (H : Heap) (locs : List Loc) (ls : Array Slot), va_P D vwCl (WS nW ad cA I J) H → va_S A s.heap H locs → lv.length = mlM M → lv_has ls (mlM M) (klv ad lv) → FrI I0 I → W p l e R s m args below meth c H locs cells slots Q (F0 m pc ls (st.map (kv ad)))
def okN (own : String) (q : Fe) : Bool := !(Nat.beq q.2.1 2) || (decide (own = "SecretBox$Box") && Nat.beq q.1 77 && Nat.beq q.2.2.1 Sb_placeIn)
theorem kn_all (own : Nat) : (bif Nat.ble own 4 then (bif Nat.ble own 1 then (bif Nat.ble own 0 then (c_0) else (c_1)) else (bif Nat.ble own 2 then (c_2) else (bif Nat.ble own 3 then (c_3) else (c_4)))) else (bif Nat.ble own 6 then (bif Nat.ble own 5 then (c_5) else (c_6)) else (bif Nat.ble own 7 then (c_7) else (bif Nat.ble own 8 then (c_8) else (c_9))))).all (okN (RNf own)) = true := (bif_p2 (P := fun (a : String) (b : List Fe) => b.all (okN a) = true) (bif_p2 (P := fun (a : String) (b : List Fe) => b.all (okN a) = true) (bif_p2 (P := fun (a : String) (b : List Fe) => b.all (okN a) = true) (by decide +kernel) (by decide +kernel)) (bif_p2 (P := fun (a : String) (b : List Fe) => b.all (okN a) = true) (by decide +kernel) (bif_p2 (P := fun (a : String) (b : List Fe) => b.all (okN a) = true) (by decide +kernel) (by decide +kernel)))) (bif_p2 (P := fun (a : String) (b : List Fe) => b.all (okN a) = true) (bif_p2 (P := fun (a : String) (b : List Fe) => b.all (okN a) = true) (by decide +kernel) (by decide +kernel)) (bif_p2 (P := fun (a : String) (b : List Fe) => b.all (okN a) = true) (by decide +kernel) (bif_p2 (P := fun (a : String) (b : List Fe) => b.all (okN a) = true) (by decide +kernel) (by decide +kernel)))))
theorem nest_only {own ix M n : Nat} (h : KTf own ix = some (2, M, n)) : RNf own = "SecretBox$Box" ∧ ix = 77 ∧ M = Sb_placeIn := by
  have h1 := List.all_eq_true.mp (kn_all own) _ (lkF_mem h)
  unfold okN at h1
  simp only [show Nat.beq 2 2 = true from rfl, Bool.not_true, Bool.false_or, Bool.and_eq_true, decide_eq_true_eq] at h1
  exact ⟨h1.1.1, Nat.eq_of_beq_eq_true h1.1.2, Nat.eq_of_beq_eq_true h1.2⟩
theorem vwCl_R : ∀ ci, ci < 6 → ∃ (T : u_T) (N : Nat), vwCl[ci]? = some (RNf ci, T, N) := by
  intro ci h
  match ci, h with
  | 0, _ => exact ⟨_, _, rfl⟩
  | 1, _ => exact ⟨_, _, rfl⟩
  | 2, _ => exact ⟨_, _, rfl⟩
  | 3, _ => exact ⟨_, _, rfl⟩
  | 4, _ => exact ⟨_, _, rfl⟩
  | 5, _ => exact ⟨_, _, rfl⟩
theorem owM_name {M : Nat} (h : calB M = true) : (yM M).cls = RNf (owM M) ∧ Jvm.Cond.code (yM M) (bM M) (mlM M) (rtM M) ∈ lw_good ∧ Jvm.Cond.initialized (yM M).cls ∈ lw_good ∧ plainName (yM M).cls = true ∧ (yM M).cls ≠ "java/lang/invoke/MethodHandle" ∧ (yM M).cls ≠ "java/lang/invoke/VarHandle" := by
  rcases km_all M with q | ⟨pp, hp⟩
  · exact absurd q (calB_of h).1
  · unfold okMr at hp
    simp only [Bool.and_eq_true, decide_eq_true_eq] at hp
    obtain ⟨⟨⟨⟨⟨h1, h2⟩, h3⟩, h4⟩, h5⟩, h6⟩ := hp
    exact ⟨h4, good_at h1 rfl, good_at h2 rfl, h3, h5, h6⟩
theorem ws_in {M : Nat} (h : calB M = true) : ∀ w ∈ wsM M, w ∈ lw_good := by
  intro w hw
  rcases List.mem_cons.mp hw with rfl | h2
  · exact (owM_name h).2.1
  · exact h2
section CLL
variable {p : Program} {l : Launch} {e : Env} {R : Room} {s : State} {m : MethodId} {args : Array Value} {below : List Frame} {meth : Method} {c : Code} {H : Heap} {locs : List Loc} {cells slots : Nat} {Q : State → Prop}
variable {pc : Nat} {ls : Array Slot} {nW : Nat} {ad : Nat → Nat} {D : va_G} {cA : Nat → ClassId} {A : Nat → Prop}
theorem va_callQ {rest st0 : List Value} {a : Array Value} {Q' : Post} {I : I2} (hr : va_Run p l e R s m args below meth c H locs cells slots 0 0 (F0 m pc ls st0) rest (QW nW D ad cA A I Q' a) A) (hS : va_S A s.heap H locs)
    (kk : ∀ (r : Option Value) (I' : I2) (J' : J2) (H1 : Heap) (locs1 : List Loc), Q' r I' J' → FrI I I' → va_P D vwCl (WS nW ad cA I' J') H1 → va_S A s.heap H1 locs1 → W p l e R s m args below meth c H1 locs1 cells slots Q (F0 m (pc + 3) ls ((r.map (kv ad)).toList ++ rest))) : W p l e R s m args below meth c H locs cells slots Q (F0 m pc ls st0) := by
  intro T hT X
  obtain ⟨v, st₀, t, T', L, h0, X', hL, e1, e2, ⟨⟨r, I', J', hv, hq, hf, hp⟩, hz, hk⟩, st⟩ := hr T hT X
  cases hv
  rw [h0] at hz hk
  obtain ⟨t2, a1, b1⟩ := kk r I' J' T'.heap (locs ++ L) hq hf (by rw [e1]; exact hp)
    ⟨Nat.le_trans hS.1 (by rw [e1]; exact hz), fun q h1 h2 => by rw [e1, hk q (Nat.lt_of_lt_of_le h1 hS.1) h2]; exact hS.2.1 q h1 h2, fun q hq => by
      rcases List.mem_append.mp hq with h | h
      · exact hS.2.2 q h
      · exact hL q h⟩ T' rfl X'
  exact ⟨t2, st t2 a1, b1⟩
theorem step_ok {I0 : I2} {M : Nat} (hx : p.tables.exec = Jvm.exec) (hb : c.code = bM M) (hml : c.maxLocals = mlM M) (hown : s.vm.findClass (RNf (owM M)) = some m.cls) (hts : ∀ w ∈ lw_good, w.before args s = true) (hK : va_K D vwCl (tysA cA) s) (hW : WDp nW ad A) (hR : 1 ≤ R.frames ∧ 100 ≤ R.locals) (hn : nOK nW (owM M)) (hscr : ScrOK ad A s I0) (hldc : LdcOK p l e R s m args below meth c cells slots Q ad (owM M)) (hidx : IdxOK p l e R s m args below meth c cells slots Q ad A (owM M)) {pc pc' : Nat} {lv lv' : Lv} {st st' : St} {I I' : I2} {J J' : J2} (h : stepP M (pc, lv, st, I, J) = some (pc', lv', st', I', J')) (k : Wr p l e R s m args below meth c cells slots Q nW D ad cA A I0 M pc' lv' st' I' J') : Wr p l e R s m args below meth c cells slots Q nW D ad cA A I0 M pc lv st I J := by
  intro H locs ls hP hS hlen hl hfr
  simp only [stepP] at h
  split at h
  · next i n hf =>
    obtain ⟨hd, ho⟩ := fetch_ok hf
    have rest : exec1 (owM M) i pc n lv st I J = (match opS i st with
      | some st' => some (pc + n, lv, st', I, J)
      | none => match opL i lv st with
        | some (lv', st') => some (pc + n, lv', st', I, J)
        | none => match opM (owM M) i st I J with
          | some (st', I', J') => some (pc + n, lv, st', I', J')
          | none => match opX (owM M) i st I J with
            | some (st', I', J') => some (pc + n, lv, st', I', J')
            | none => none) → W p l e R s m args below meth c H locs cells slots Q (F0 m pc ls (st.map (kv ad))) := by
      intro e9
      rw [e9] at h
      split at h
      · next s2 h2 =>
        simp only [Option.some.injEq, Prod.mk.injEq] at h
        obtain ⟨rfl, rfl, rfl, rfl, rfl⟩ := h
        exact opS_ok hx hb h2 hd ho (k H locs ls hP hS hlen hl hfr)
      · split at h
        · next l2 s2 h2 =>
          simp only [Option.some.injEq, Prod.mk.injEq] at h
          obtain ⟨rfl, rfl, rfl, rfl, rfl⟩ := h
          exact opL_ok hx hb h2 hd ho hlen hl (fun ls' hl2 hl3 => k H locs ls' hP hS hl2 hl3 hfr)
        · split at h
          · next s2 i2 j2 h2 =>
            simp only [Option.some.injEq, Prod.mk.injEq] at h
            obtain ⟨rfl, rfl, rfl, rfl, rfl⟩ := h
            exact opM_ok hx hb hown hts hK hW hn (hscr.fr hfr) hldc h2 hd ho hP hS (fun H' locs' hP' hS' hf' => k H' locs' ls hP' hS' hlen hl (hfr.tr hf'))
          · split at h
            · next s2 i2 j2 h2 =>
              simp only [Option.some.injEq, Prod.mk.injEq] at h
              obtain ⟨rfl, rfl, rfl, rfl, rfl⟩ := h
              exact opX_ok hx hb (hml.trans hl.1.symm) hown hts hK hW hR hn hidx h2 hd ho hP hS (fun H' locs' hP' hS' hf' => k H' locs' ls hP' hS' hlen hl (hfr.tr hf'))
            · cases h
    have jump : ((∃ k o, i = .ifCond k o) ∨ (∃ k o, i = .if_icmp k o) ∨ (∃ o, i = .goto o) ∨ ∃ a b f g, i = .tableswitch a b f g) → W p l e R s m args below meth c H locs cells slots Q (F0 m pc ls (st.map (kv ad))) := by
      intro hi
      obtain ⟨rfl, rfl, rfl, g⟩ := opJ_ok (p := p) (l := l) (e := e) (R := R) (s := s) (m := m) (args := args) (below := below) (meth := meth) (H := H) (locs := locs) (cells := cells) (slots := slots) (Q := Q) (ls := ls) (ad := ad) hx hb hi h hd ho
      exact g (k H locs ls hP hS hlen hl hfr)
    cases i
    case ifCond a b => exact jump (Or.inl ⟨_, _, rfl⟩)
    case if_icmp a b => exact jump (Or.inr (Or.inl ⟨_, _, rfl⟩))
    case goto a => exact jump (Or.inr (Or.inr (Or.inl ⟨_, rfl⟩)))
    case tableswitch a b f g => exact jump (Or.inr (Or.inr (Or.inr ⟨_, _, _, _, rfl⟩)))
    all_goals exact rest rfl
  · cases h
theorem map_cat {f : Value → Value} : True := trivial
set_option maxHeartbeats 4000000 in
theorem call_ok {I0 : I2} {M d : Nat} (hx : p.tables.exec = Jvm.exec) (hb : c.code = bM M) (hml : c.maxLocals = mlM M) (hown : s.vm.findClass (RNf (owM M)) = some m.cls) (hts : ∀ w ∈ lw_good, w.before args s = true) (hK : va_K D vwCl (tysA cA) s) (hW : WDp nW ad A) (hn : nOK nW (owM M)) (hscr : ScrOK ad A s I0) (hE : Exw ad A s) (hfr1 : (rmd d).frames + 1 ≤ R.frames) (hfr2 : 60 + (rmd d).locals ≤ R.locals) (hcl : cells ≤ R.cells) (hsl : slots ≤ R.slots)
    (IH : ∀ (M' : Nat) (as : List Value) (I : I2) (J : J2) (Q' : Post), calB M' = true → callW d M' as I J Q' → Met l (yM M') (wsM M') (rmd d) (va_Pc (as.map (kv ad)) (Wd nW D ad cA A I J)) (QW nW D ad cA A I Q') 0 0 A)
    {pc : Nat} {lv : Lv} {st : St} {I : I2} {J : J2} {M' : Nat} {as : List Value} {rest : St} (h : callP M pc st = some (M', as, rest)) (k : callW d M' as I J (fun r I' J' => Wr p l e R s m args below meth c cells slots Q nW D ad cA A I0 M (pc + 3) lv (r.toList ++ rest) I' J')) : Wr p l e R s m args below meth c cells slots Q nW D ad cA A I0 M pc lv st I J := by
  intro H locs ls hP hS hlen hl hfr
  have hblind : ∀ as : List Value, FrameBlind (va_Pc (as.map (kv ad)) (Wd nW D ad cA A I J)) := by
    intro as a U g mk q
    obtain ⟨q1, q2, q3, q4, L9, xs9, z1, z2, z3, z4, z5, z6⟩ := q
    refine ⟨q1, q2, va_K.moved (u := U) (U := U.calling g mk a) (Vm.Alike.refl U.vm) q3, ?_, L9, xs9, z1, va_X.moved (u := U) (U := U.calling g mk a) (Vm.Alike.refl U.vm) z2, z3, z4, z5, z6⟩
    exact ⟨vk_S.moved (u := U) (U := U.calling g mk a) (Vm.Alike.refl U.vm) q4.1, vk_R.same (u := U) rfl q4.2.1, vk_R.same (u := U) rfl q4.2.2.1, va_Z.moved (u := U) (U := U.calling g mk a) (Vm.Alike.refl U.vm) q4.2.2.2.1, va_Nw.same rfl (u := U) rfl q4.2.2.2.2⟩
  have hpre : ∀ U : State, U.heap = H → s.WarmedH U.vm → Wd nW D ad cA A I J U := by
    intro U hU hwm
    obtain ⟨L9, xs9, z1, z2, z3, z4, z5, z6⟩ := hscr.fr hfr
    refine ⟨by rw [hU]; exact hP, va_K.moved hwm.alike hK, ?_, L9, xs9, z1, va_X.moved hwm.alike (by rw [hU]; exact va_X.kept z2 (hS.2.1 _ z3 z4)), by rw [hU]; exact Nat.lt_of_lt_of_le z3 hS.1, z4, z5, z6⟩
    refine ⟨?_, vk_R.warm hwm hE.2.1, vk_R.warm hwm hE.2.2.1, ?_, va_Nw.warmM hwm hE.2.2.2.2⟩
    · exact vk_S.moved hwm.alike (by rw [hU]; exact vk_S.kept hE.1 (fun q h1 h2 => hS.2.1 q h1 h2))
    · exact va_Z.moved hwm.alike (by rw [hU]; exact va_Z.kept hE.2.2.2.1 (fun q h1 h2 => hS.2.1 q h1 h2))
  have go : ∀ (stk : List Value), stk = st.map (kv ad) → va_Run p l e R s m args below meth c H locs cells slots 0 0 (F0 m pc ls stk) (rest.map (kv ad)) (QW nW D ad cA A I (fun r I' J' => Wr p l e R s m args below meth c cells slots Q nW D ad cA A I0 M (pc + 3) lv (r.toList ++ rest) I' J') (as.map (kv ad)).toArray) A → W p l e R s m args below meth c H locs cells slots Q (F0 m pc ls (st.map (kv ad))) := by
    intro stk hstk hrun
    subst hstk
    refine va_callQ hrun hS (fun r I' J' H1 locs1 hq hf hp hs1 => ?_)
    have := hq H1 locs1 ls hp hs1 hlen hl (hfr.tr hf)
    rw [List.map_append] at this
    have e8 : (r.toList.map (kv ad)) = (r.map (kv ad)).toList := by cases r <;> rfl
    rw [e8] at this
    exact this
  have hfix : CallFix p m c (bM M) (mlM M) s args lw_good (RNf (owM M)) := ⟨hx, hb, hml, hown, hts⟩
  unfold callP at h
  split at h
  · next ix n hf =>
    obtain ⟨hd, ho⟩ := fetch_ok hf
    have e3 : n = 3 := Nat.eq_of_beq_eq_true (show Nat.beq n 3 = true from ho)
    subst e3
    split at h
    · next kd M2 nn hk =>
      cases hc : (Nat.beq kd 0 && Nat.beq (st.take nn).length nn) with
      | false => rw [hc] at h; cases h
      | true =>
        rw [hc] at h
        simp only [cond_true] at h
        obtain ⟨c1, c2⟩ := beq_and hc
        have ekd : kd = 0 := Nat.eq_of_beq_eq_true c1
        have elen : (st.take nn).length = nn := Nat.eq_of_beq_eq_true c2
        subst ekd
        split at h
        · next b r hdrop =>
          split at h
          · next t cc hsk =>
            cases hc3 : (Nat.beq t 0 && Nat.beq cc (owM M2) && Nat.ble (r.map fun v => v.category).sum 8) with
            | false => rw [hc3] at h; cases h
            | true =>
              rw [hc3] at h
              simp only [cond_true, Option.some.injEq, Prod.mk.injEq] at h
              obtain ⟨rfl, rfl, rfl⟩ := h
              obtain ⟨c4, c5⟩ := beq_and hc3
              obtain ⟨c6, c7⟩ := beq_and c4
              have et : t = 0 := Nat.eq_of_beq_eq_true c6
              have ec : cc = owM M2 := Nat.eq_of_beq_eq_true c7
              have hr8 : (r.map fun v => v.category).sum ≤ 8 := Nat.le_of_ble_eq_true c5
              subst et; subst ec
              obtain ⟨pp, hok⟩ := KT_ok hk
              unfold okK at hok
              simp only [Bool.and_eq_true, decide_eq_true_eq] at hok
              obtain ⟨⟨⟨hM1, hlaw⟩, hdesc⟩, ⟨hw1, hw2⟩, hw3⟩ := hok
              obtain ⟨n1, n2, n3, n4, n5, n6⟩ := owM_name hlaw
              have hM := IH M2 _ I J _ hlaw k
              obtain ⟨hb57, hSKt, hc7⟩ := SKf_obj hsk
              have hbn : b < nW := Nat.lt_of_lt_of_le hb57 (Nat.le_trans (by decide) hn.1)
              obtain ⟨T, N, hcl7⟩ := vwCl_R _ hc7
              have hml2 : mlM M2 ≤ 40 := Nat.le_of_ble_eq_true (ml_all M2)
              have hrecv := va_recv hK hP hcl7 (by rw [WS_get hbn, CE_0 hSKt])
              have hcw : CallW R s args (RNf (owM M)) (yM M2).cls ix (yM M2) (bM M2) (mlM M2) (rtM M2) (wsM M2) (rmd d) 0 0 nn := by
                refine cwV (Ts := lw_good) (ws' := lw_good) nn hts (goodIn_lw ?_) rfl rfl rfl ⟨rfl, n5, n6, hdesc⟩ ⟨hfr1, by omega⟩
                intro w hw
                rcases List.mem_append.mp hw with h1 | h1
                · simp only [List.mem_cons, List.not_mem_nil, or_false] at h1
                  rcases h1 with rfl | rfl | rfl | rfl
                  · exact good_at hw1 rfl
                  · exact good_at hw2 rfl
                  · exact good_at hw3 rfl
                  · exact n3
                · exact ws_in hlaw w h1
              have hrun := va_runV (p := p) (l := l) (e := e) (R := R) (below := below) (meth := meth) (H := H) (locs := locs) (cells := cells) (slots := slots) (As := ((st.take nn).reverse).map (kv ad)) (rest := r.map (kv ad)) (b := ad b) (g := F0 m pc ls (st.map (kv ad))) hfix hM hcw ⟨hblind _, by rw [n1]; exact hrecv, fun U hU hwm => ⟨rfl, hpre U hU hwm⟩⟩ rfl (by rw [List.length_map, List.length_reverse]; exact elen) hl.1 (by
                  show st.map (kv ad) = _
                  rw [← List.map_reverse, List.reverse_reverse]
                  conv => lhs; rw [← List.take_append_drop nn st, hdrop]
                  simp [kv]) (by
                  show 2 * (F0 m pc ls (st.map (kv ad))).monitorRoom + _ ≤ 8
                  have := lv_room (m := m) (pc := pc) (ls := ls) (rest := st.map (kv ad)) (st := r.map (kv ad)) (by rw [cat_kv]; exact hr8)
                  exact this) hd ⟨by omega, by omega⟩
              exact go _ rfl hrun
          · cases h
        · cases h
    · cases h
  · next ix n hf =>
    obtain ⟨hd, ho⟩ := fetch_ok hf
    have e3 : n = 3 := Nat.eq_of_beq_eq_true (show Nat.beq n 3 = true from ho)
    subst e3
    split at h
    · next kd M2 nn hk =>
      cases hc : (!(Nat.beq kd 0) && Nat.beq (st.take nn).length nn && Nat.ble ((st.drop nn).map fun v => v.category).sum 8) with
      | false => rw [hc] at h; cases h
      | true =>
        rw [hc] at h
        simp only [cond_true, Option.some.injEq, Prod.mk.injEq] at h
        obtain ⟨rfl, rfl, rfl⟩ := h
        obtain ⟨c4, c5⟩ := beq_and hc
        obtain ⟨c6, c7⟩ := beq_and c4
        have elen : (st.take nn).length = nn := Nat.eq_of_beq_eq_true c7
        have hr8 : ((st.drop nn).map fun v => v.category).sum ≤ 8 := Nat.le_of_ble_eq_true c5
        obtain ⟨pp, hok⟩ := KT_ok hk
        unfold okK at hok
        simp only [Bool.and_eq_true, decide_eq_true_eq] at hok
        obtain ⟨⟨⟨hM1, hlaw⟩, hdesc⟩, hkind⟩ := hok
        obtain ⟨n1, n2, n3, n4, n5, n6⟩ := owM_name hlaw
        have hM := IH M2 _ I J _ hlaw k
        have hml2 : mlM M2 ≤ 40 := Nat.le_of_ble_eq_true (ml_all M2)
        have hstack : (F0 m pc ls (st.map (kv ad))).stack = ((st.take nn).reverse.map (kv ad)).reverse ++ (st.drop nn).map (kv ad) := by
          show st.map (kv ad) = _
          rw [← List.map_reverse, List.reverse_reverse, ← List.map_append, List.take_append_drop]
        have hroom : 2 * (F0 m pc ls (st.map (kv ad))).monitorRoom + (((st.drop nn).map (kv ad)).map fun v => v.category).sum ≤ 8 := lv_room (by rw [cat_kv]; exact hr8)
        split at hkind
        · cases c6
        · simp only [Bool.and_eq_true, decide_eq_true_eq] at hkind
          obtain ⟨hw1, hw2⟩ := hkind
          have hcw : CallB R s args (RNf (owM M)) ix (yM M2) (bM M2) (mlM M2) (rtM M2) (wsM M2) (rmd d) 0 0 nn ∧ (Cond.static (yM M2)).before args s = true := by
            refine va_cwS (Ts := lw_good) (ws' := lw_good) nn hts (goodIn_lw ?_) rfl rfl rfl ⟨n5, n6, hdesc⟩ ⟨hfr1, by omega⟩
            intro w hw
            rcases List.mem_append.mp hw with h1 | h1
            · simp only [List.mem_cons, List.not_mem_nil, or_false] at h1
              rcases h1 with rfl | rfl | rfl
              · exact good_at hw1 rfl
              · exact good_at hw2 rfl
              · exact n3
            · exact ws_in hlaw w h1
          exact go _ rfl (va_runS (p := p) (l := l) (e := e) (R := R) (below := below) (meth := meth) (H := H) (locs := locs) (cells := cells) (slots := slots) (As := ((st.take nn).reverse).map (kv ad)) (rest := (st.drop nn).map (kv ad)) (g := F0 m pc ls (st.map (kv ad))) hfix hM hcw ⟨hblind _, fun U hU hwm => ⟨rfl, hpre U hU hwm⟩⟩ rfl (by rw [List.length_map, List.length_reverse]; exact elen) hl.1 hstack hroom hd ⟨by omega, by omega⟩)
        · simp only [Bool.and_eq_true, decide_eq_true_eq] at hkind
          obtain ⟨hw1, hw2⟩ := hkind
          have hnest : va_Nw (.methodLinkNest (RNf (owM M)) ix (yM M2) "SecretBox") s := by
            obtain ⟨z1, z2, z3⟩ := nest_only hk
            rw [z1, z2, z3]
            exact hE.2.2.2.2
          have hcw : va_CN R s args (RNf (owM M)) ix (yM M2) "SecretBox" (bM M2) (mlM M2) (rtM M2) (wsM M2) (rmd d) 0 0 nn := by
            refine va_cnB (Ts := lw_good) (ws' := lw_good) nn hts (goodIn_lw (ws_in hlaw)) rfl rfl rfl hnest (hts _ n3) ⟨n5, n6, hdesc⟩ ⟨hfr1, by omega⟩
          exact go _ rfl (va_runSN (p := p) (l := l) (e := e) (R := R) (below := below) (meth := meth) (H := H) (locs := locs) (cells := cells) (slots := slots) (As := ((st.take nn).reverse).map (kv ad)) (rest := (st.drop nn).map (kv ad)) (g := F0 m pc ls (st.map (kv ad))) hfix hM ⟨hcw, hts _ (good_at hw2 rfl), trivial⟩ ⟨hblind _, fun U hU hwm => ⟨rfl, hpre U hU hwm⟩⟩ rfl (by rw [List.length_map, List.length_reverse]; exact elen) hl.1 hstack hroom hd ⟨by omega, by omega⟩)
        · cases hkind
    · cases h
  · cases h
end CLL
