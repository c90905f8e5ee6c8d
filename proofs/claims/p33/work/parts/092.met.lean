/-! EVERY CALL: by the depth -/
theorem ent_at {ad : Nat → Nat} {v : Value} : ∀ (as : List Value) (k i : Nat), (entL as)[i]? = some (some v) → (k + i, kv ad v) ∈ lv_args k (as.map (kv ad)) := by
  intro as
  induction as with
  | nil => intro k i h; simp [entL] at h
  | cons a t ih =>
    intro k i h
    simp only [List.map_cons, lv_args]
    cases h2 : is2 a with
    | true =>
      rw [if_pos (kv_cat2 h2)]
      simp only [entL, h2, cond_true] at h
      match i, h with
      | 0, h => simp at h; subst h; exact List.mem_cons_self
      | 1, h => simp at h
      | i + 2, h =>
        have := ih (k + 2) i (by simpa using h)
        rw [show k + 2 + i = k + (i + 2) by omega] at this
        exact List.mem_cons_of_mem _ this
    | false =>
      rw [if_neg (by rw [kv_cat1 h2]; decide)]
      simp only [entL, h2, cond_false] at h
      match i, h with
      | 0, h => simp at h; subst h; exact List.mem_cons_self
      | i + 1, h =>
        have := ih (k + 1) i (by simpa using h)
        rw [show k + 1 + i = k + (i + 1) by omega] at this
        exact List.mem_cons_of_mem _ this
theorem ent_incl {ad : Nat → Nat} {n : Nat} {as : List Value} : ∀ q ∈ klv ad (entLv n as), q ∈ lv_args 0 (as.map (kv ad)) := by
  rintro ⟨i, w⟩ hq
  obtain ⟨v, hv, rfl⟩ := klv_mem.mp hq
  unfold entLv at hv
  by_cases hi : i < (entL as).length
  · rw [List.getElem?_append_left hi] at hv
    have := ent_at (ad := ad) as 0 i hv
    rwa [Nat.zero_add] at this
  · rw [List.getElem?_append_right (by omega)] at hv
    have := List.eq_of_mem_replicate (List.mem_of_getElem? hv)
    cases this
theorem ent_sl {ad : Nat → Nat} (as : List Value) : (lg_sl (as.map (kv ad))).length = (entL as).length := by
  induction as with
  | nil => rfl
  | cons a t ih =>
    have e1 : lg_sl ((a :: t).map (kv ad)) = (if (kv ad a).category = 2 then [Slot.val (kv ad a), .second] else [.val (kv ad a)]) ++ lg_sl (t.map (kv ad)) := rfl
    rw [e1, List.length_append, ih]
    cases h2 : is2 a with
    | true => rw [if_pos (kv_cat2 h2)]; simp [entL, h2]; omega
    | false => rw [if_neg (by rw [kv_cat1 h2]; decide)]; simp [entL, h2]; omega
theorem entLv_len {n : Nat} {as : List Value} (h : (entL as).length ≤ n) : (entLv n as).length = n := by
  simp [entLv]; omega
theorem forget_ok {p : Program} {l : Launch} {e : Env} {R : Room} {s : State} {m : MethodId} {args : Array Value} {below : List Frame} {meth : Method} {c : Code} {cells slots : Nat} {Q : State → Prop} {nW : Nat} {D : va_G} {ad : Nat → Nat} {cA : Nat → ClassId} {A : Nat → Prop} {I0 : I2} {M pc : Nat} {lv lv' : Lv} {st : St} {I : I2} {J : J2} (h : lvLe lv' lv) (k : Wr p l e R s m args below meth c cells slots Q nW D ad cA A I0 M pc lv' st I J) : Wr p l e R s m args below meth c cells slots Q nW D ad cA A I0 M pc lv st I J := by
  intro H locs ls hP hS hlen hl hfr
  refine k H locs ls hP hS (h.1.trans hlen) (lv_incl hl ?_) hfr
  rintro ⟨i, w⟩ hq
  obtain ⟨v, hv, rfl⟩ := klv_mem.mp hq
  exact klv_mem.mpr ⟨v, h.2 i v hv, rfl⟩
set_option maxHeartbeats 4000000 in
theorem ret_ok {p : Program} {l : Launch} {e : Env} {R : Room} {s : State} {m : MethodId} {args : Array Value} {below : List Frame} {meth : Method} {c : Code} {nW : Nat} {D : va_G} {ad : Nat → Nat} {cA : Nat → ClassId} {A : Nat → Prop} {I0 : I2} {M pc : Nat} {lv : Lv} {st : St} {I : I2} {J : J2} {Q' : Post} {r : Option Value} (hM0 : Nat.beq M 0 = false) (hx : p.tables.exec = Jvm.exec) (hb : c.code = bM M) (hr : meth.sig.returnType = rtM M) (hlocks : meth.locks = false) (h : retP M pc lv st = some r) (hq : Q' r I J) : Wr p l e R s m args below meth c 0 0 (MQ below (QW nW D ad cA A I0 Q') args s 0 0 A) nW D ad cA A I0 M pc lv st I J := by
  intro H locs ls hP hS hlen hl hfr
  unfold retP at h
  rw [hM0] at h
  simp only [cond_false] at h
  unfold retQ at h
  split at h
  · next n hf =>
    obtain ⟨hd, ho⟩ := fetch_ok hf
    have e3 : n = 1 := Nat.eq_of_beq_eq_true (show Nat.beq n 1 = true from ho)
    subst e3
    split at h
    · next hrt =>
      cases h
      exact W.vret hx hb (hr.trans hrt) (fun t ht hW => ⟨⟨none, I, J, rfl, hq, hfr, by rw [ht]; exact hP⟩, hS.F ht⟩) hS.2.2 hd
    · cases h
  · next n hf =>
    obtain ⟨hd, ho⟩ := fetch_ok hf
    have e3 : n = 1 := Nat.eq_of_beq_eq_true (show Nat.beq n 1 = true from ho)
    subst e3
    split at h
    · next x hrt =>
      cases h
      exact W.lret hx hb (hr.trans hrt) (fun t ht hW => ⟨⟨some (.long x), I, J, rfl, hq, hfr, by rw [ht]; exact hP⟩, hS.F ht⟩) hS.2.2 hd
    · cases h
  · next n hf =>
    obtain ⟨hd, ho⟩ := fetch_ok hf
    have e3 : n = 1 := Nat.eq_of_beq_eq_true (show Nat.beq n 1 = true from ho)
    subst e3
    split at h
    · next x hrt =>
      cases h
      exact W.iret hx hb (hr.trans hrt) (fun t ht hW => ⟨⟨some (.int x), I, J, rfl, hq, hfr, by rw [ht]; exact hP⟩, hS.F ht⟩) hS.2.2 hd
    · next x hrt =>
      split at h
      · next h01 =>
        cases h
        exact W.zret hx hb (hr.trans hrt) (narrow_01 h01).1 (fun t ht hW => ⟨⟨some (.int x), I, J, rfl, hq, hfr, by rw [ht]; exact hP⟩, hS.F ht⟩) hS.2.2 hd
      · cases h
    · next x hrt =>
      split at h
      · next hch =>
        cases h
        have hn : narrow .char (.int x) = .int x := by
          have e9 : narrow .char (.int x) = .int (vp_nar .char x) := rfl
          rw [e9, hch]
        exact W.zret hx hb (hr.trans hrt) hn (fun t ht hW => ⟨⟨some (.int x), I, J, rfl, hq, hfr, by rw [ht]; exact hP⟩, hS.F ht⟩) hS.2.2 hd
      · cases h
    · cases h
  · cases h
set_option maxHeartbeats 4000000 in
theorem met_ok {nW : Nat} {D : va_G} {ad : Nat → Nat} {cA : Nat → ClassId} {A : Nat → Prop} (hW : WDp nW ad A) (h58 : 58 ≤ nW) (h59 : nW ≤ 59) (l : Launch) : ∀ (d M : Nat) (as : List Value) (I : I2) (J : J2) (Q' : Post), calB M = true → callW d M as I J Q' → Met l (yM M) (wsM M) (rmd d) (va_Pc (as.map (kv ad)) (Wd nW D ad cA A I J)) (QW nW D ad cA A I Q') 0 0 A := by
  intro d
  induction d with
  | zero => intro M as I J Q' _ h; exact absurd h (fun q => q)
  | succ d ih =>
    intro M as I J Q' hlaw h
    obtain ⟨hle, h⟩ := h
    have hle : (entL as).length ≤ mlM M := Nat.le_of_ble_eq_true hle
    obtain ⟨n1, n2, n3, n4, n5, n6⟩ := owM_name hlaw
    refine Met.ofW (cc := bM M) (maxL := mlM M) (ret := rtM M) n4 rfl ?_
    intro p e s m args below meth c s₁ B hml hv
    obtain ⟨rfl, hP, hK, hE, hscr⟩ := hv
    have hn : nOK nW (owM M) := ⟨h58, h59, fun e => absurd e (calB_of hlaw).2.1⟩
    have hx := B.exec
    have hb := B.bytes
    have hr := B.returns
    have hts := atoms_spec (ws := wsM M) B.pre
    have hts2 : ∀ w ∈ lw_good, w.before (as.map (kv ad)).toArray s = true := fun w hw => hts w (List.mem_cons_of_mem _ hw)
    have hown : s.vm.findClass (RNf (owM M)) = some m.cls := by rw [← n1]; exact findClass_of_methodNamed B.named
    have hlocks := B.notSynchronized
    have hl := lv_entry (as.map (kv ad)) (n := mlM M) (by rw [ent_sl]; exact hle)
    rw [lg_entry_eq]
    generalize (lg_sl (as.map (kv ad)) ++ List.replicate (mlM M - (lg_sl (as.map (kv ad))).length) Slot.unset).toArray = ls at hl ⊢
    have hR : 1 ≤ ((headSpec (wsM M) (rmd (d + 1))).room).frames ∧ 100 ≤ ((headSpec (wsM M) (rmd (d + 1))).room).locals := by
      show 1 ≤ (rmd (d + 1)).frames ∧ 100 ≤ (rmd (d + 1)).locals
      simp only [rmd]; omega
    have hR2 : 12 ≤ ((headSpec (wsM M) (rmd (d + 1))).room).frames ∧ 800 ≤ ((headSpec (wsM M) (rmd (d + 1))).room).locals := by
      show 12 ≤ (rmd (d + 1)).frames ∧ 800 ≤ (rmd (d + 1)).locals
      simp only [rmd]; omega
    have key := h (Wr p l e (headSpec (wsM M) (rmd (d + 1))).room s m (as.map (kv ad)).toArray below meth c 0 0 (MQ below (QW nW D ad cA A I Q') (as.map (kv ad)).toArray s 0 0 A) nW D ad cA A I M) ⟨
      fun pc lv st I1 J1 pc' lv' st' I' J' hs k => step_ok hx hb hml hown hts2 hK hW hR hn hscr (ldc_ok hx hown hE) (idx_ok hx hown hts2 hE hR2 (Nat.zero_le _) (Nat.zero_le _)) hs k,
      fun pc lv st I1 J1 r hr1 hq => ret_ok (calB_of hlaw).2.2 hx hb hr hlocks hr1 hq,
      fun pc lv st I1 J1 M' as1 rest hc k => call_ok hx hb hml hown hts2 hK hW hn hscr hE (by show d + 20 + 1 ≤ d + 1 + 20; omega) (by show 60 + (1000 + 64 * d) ≤ 1000 + 64 * (d + 1); omega) (Nat.zero_le _) (Nat.zero_le _) (fun M2 as2 I2 J2 Q2 hl2 hc2 => ih M2 as2 I2 J2 Q2 hl2 hc2) hc k,
      fun pc lv lv' st I1 J1 hle2 k => forget_ok hle2 k⟩
    exact key s.heap [] ls hP va_S.rf (entLv_len hle) (lv_incl hl ent_incl) FrI.rf
