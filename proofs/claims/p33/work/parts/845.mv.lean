/-! MOVED, from its entry: it makes a row of its own, which is place 58 from then on -/
def adQ (ad : Nat → Nat) (q : Nat) : Nat → Nat := fun a => if a = 58 then q else ad a
def I58 (I : I2) : I2 := fun a => if a = 58 then (fun _ => 0) else I a
theorem adQ_ne {ad : Nat → Nat} {q a : Nat} (h : a ≠ 58) : adQ ad q a = ad a := if_neg h
theorem I58_ne {I : I2} {a : Nat} (h : a ≠ 58) : I58 I a = I a := if_neg h
theorem I58_58 {I : I2} : I58 I 58 = fun _ => 0 := if_pos rfl
theorem lkR_no {v : Nat} : ∀ (L : List (Nat × Nat)), L.all (fun x => !Nat.beq x.2 v) = true → ∀ k, lkR L k ≠ some v := by
  intro L
  induction L with
  | nil => intro _ k h; cases h
  | cons x t ih =>
    intro h k
    simp only [List.all_cons, Bool.and_eq_true] at h
    simp only [lkR]
    cases Nat.beq x.1 k with
    | true =>
      intro q
      have e : x.2 = v := Option.some.inj q
      rw [e, Nat.beq_refl] at h
      exact absurd h.1 (by decide)
    | false => exact ih h.2 k
theorem R0_58a : ∀ a, a < 59 → (R0t a).all (fun x => !Nat.beq x.2 58) = true := by decide +kernel
theorem R0_58 {a : Nat} (h : a < 59) (k : Nat) : R0 a k ≠ some 58 := lkR_no _ (R0_58a a h) k
theorem kvQ {ad : Nat → Nat} {q a : Nat} (h : a < 59) (k : Nat) : kv (adQ ad q) (rfv (R0 a k)) = kv ad (rfv (R0 a k)) := by
  have h9 := R0_58 h k
  cases e : R0 a k with
  | none => rfl
  | some b =>
    rw [e] at h9
    show Value.ref (adQ ad q b) = Value.ref (ad b)
    rw [adQ_ne (fun z => h9 (by rw [z]))]
theorem mapQ {ad : Nat → Nat} {q a : Nat} (h : a < 59) : (fun k => (R0 a k).map (adQ ad q)) = (fun k => (R0 a k).map ad) := by
  funext k
  have h9 := R0_58 h k
  cases e : R0 a k with
  | none => rfl
  | some b =>
    rw [e] at h9
    show some (adQ ad q b) = some (ad b)
    rw [adQ_ne (fun z => h9 (by rw [z]))]
theorem CE_Q {ad : Nat → Nat} {cA : Nat → ClassId} {I : I2} {J : J2} {q a : Nat} (h : a < 59) : CE (adQ ad q) cA I J a = CE ad cA I J a := by
  have e1 : ∀ n, FV (adQ ad q) n a I = FV ad n a I := by
    intro n
    unfold FV
    apply List.map_congr_left
    intro k _
    rw [kvQ h]
  unfold CE CEt
  rw [mapQ h]
  simp only [e1]
theorem WS_lo {ad : Nat → Nat} {cA : Nat → ClassId} {I : I2} {J : J2} {q k : Nat} (h : k < 58) : (WS 59 (adQ ad q) cA I J)[k]? = (WS 58 ad cA I J)[k]? := by
  rw [WS_get (show k < 59 by omega), WS_get h, CE_Q (by omega), adQ_ne (by omega)]
theorem WS_Q {ad : Nat → Nat} {cA : Nat → ClassId} {I : I2} {J : J2} {q : Nat} : WS 58 ad cA I J ++ [(q, .inl (cA 0, 4, .inl (fun _ => 0)))] = WS 59 (adQ ad q) cA (I58 I) J := by
  apply List.ext_getElem?
  intro k
  by_cases hk : k < 58
  · rw [List.getElem?_append_left (by rw [WS_len]; exact hk), WS_lo hk, WS_get hk, WS_get hk]
    have hk2 : k ≠ 58 := by omega
    simp only [CE, CEt, FV, I58_ne hk2]
  · by_cases e : k = 58
    · subst e
      rw [List.getElem?_append_right (by rw [WS_len]; exact Nat.le_refl _), WS_len, WS_get (by decide)]
      have e2 : CE (adQ ad q) cA (I58 I) J 58 = .inl (cA 0, 4, .inl (I58 I 58)) := CE_1 (by decide +kernel)
      rw [e2, I58_58]
      rfl
    · rw [List.getElem?_eq_none (by rw [List.length_append, WS_len]; show 58 + 1 ≤ k; omega), List.getElem?_eq_none (by rw [WS_len]; omega)]
theorem WS_P {D : va_G} {ad : Nat → Nat} {cA : Nat → ClassId} {I : I2} {J : J2} {q : Nat} {H : Heap} (h : va_P D vwCl (WS 59 (adQ ad q) cA I J) H) : va_P D vwCl (WS 58 ad cA I J) H := by
  intro k x hx
  have hk : k < 58 := by
    have := (List.getElem?_eq_some_iff.mp hx).1
    rwa [WS_len] at this
  exact h k x (by rw [WS_lo hk]; exact hx)
theorem Exw_Q {ad : Nat → Nat} {A : Nat → Prop} {U : State} {q : Nat} (h : Exw ad A U) : Exw (adQ ad q) A U := by
  have e1 : (fun i => adQ ad q (201 + i)) = fun i => ad (201 + i) := by funext i; exact adQ_ne (by omega)
  have e2 : (fun i => adQ ad q (211 + i)) = fun i => ad (211 + i) := by funext i; exact adQ_ne (by omega)
  unfold Exw
  rw [e1, e2, adQ_ne (show (201 : Nat) ≠ 58 by decide), adQ_ne (show (202 : Nat) ≠ 58 by decide)]
  exact h
theorem Scr_Q {ad : Nat → Nat} {A : Nat → Prop} {U : State} {I : I2} {q : Nat} (h : ScrOK ad A U I) : ScrOK (adQ ad q) A U (I58 I) := by
  obtain ⟨L, xs, h1, h2, h3, h4, h5, h6⟩ := h
  exact ⟨L, xs, h1, by rw [adQ_ne (by decide)]; exact h2, by rw [adQ_ne (by decide)]; exact h3, by rw [adQ_ne (by decide)]; exact h4, by rw [I58_ne (by decide)]; exact h5, by rw [I58_ne (by decide)]; exact h6⟩
def rmMv (d : Nat) : Room := { frames := d + 21, cells := 1, slots := 4, locals := 1100 + 64 * d }
set_option maxHeartbeats 4000000 in
theorem ret_mv {p : Program} {l : Launch} {e : Env} {R : Room} {s : State} {m : MethodId} {args : Array Value} {below : List Frame} {meth : Method} {c : Code} {D : va_G} {ad : Nat → Nat} {cA : Nat → ClassId} {A : Nat → Prop} {I0 : I2} {q pc : Nat} {lv : Lv} {st : St} {I : I2} {J : J2} {Q' : Post} {r : Option Value} (hx : p.tables.exec = Jvm.exec) (hb : c.code = bM Mv) (hr : meth.sig.returnType = rtM Mv) (hlocks : meth.locks = false) (h : retP Mv pc lv st = some r) (hq : Q' r I J) : Wr p l e R s m args below meth c 1 4 (MQ below (QW 58 D ad cA A I0 Q') args s 1 4 A) 59 D (adQ ad q) cA A (I58 I0) Mv pc lv st I J := by
  intro H locs ls hP hS hlen hl hfr
  have hP := WS_P hP
  have hfr : FrI I0 I := fun a ha => (hfr a ha).trans (I58_ne (by have : (59 : Nat) ≤ a := ha; omega))
  have hM0 : Nat.beq Mv 0 = false := rfl
  unfold retP at h
  rw [hM0] at h
  simp only [cond_false] at h
  unfold retQ at h
  split at h
  · next n hf =>
    split at h
    · next hrt => exact absurd hrt (by decide +kernel)
    · cases h
  · next n hf =>
    split at h
    · next x hrt => exact absurd hrt (by decide +kernel)
    · cases h
  · next n hf =>
    obtain ⟨hd, ho⟩ := fetch_ok hf
    have e3 : n = 1 := Nat.eq_of_beq_eq_true (show Nat.beq n 1 = true from ho)
    subst e3
    split at h
    · next x hrt => exact absurd hrt (by decide +kernel)
    · next x hrt =>
      split at h
      · next h01 =>
        cases h
        exact W.zret hx hb (hr.trans hrt) (narrow_01 h01).1 (fun t ht hW => ⟨⟨some (.int x), I, J, rfl, hq, hfr, by rw [ht]; exact hP⟩, hS.F ht⟩) hS.2.2 hd
      · cases h
    · next x hrt => exact absurd hrt (by decide +kernel)
    · cases h
  · cases h
theorem dL_moved_0 : decode cL_moved 0 = .ok (.iconst 4, 1) := by decide +kernel
theorem dL_moved_1 : decode cL_moved 1 = .ok (.newarray .int, 2) := by decide +kernel
set_option maxHeartbeats 8000000 in
theorem met_mv {D : va_G} {ad : Nat → Nat} {cA : Nat → ClassId} {A : Nat → Prop} (hW : WDp 58 ad A) (hAu : ∀ x y, A x → x ≤ y → A y) (l : Launch) (d : Nat) {y : Int64} {I : I2} {J : J2} {Q' : Post} (h : Wp d Mv Q' 3 [some (.ref 0), some (.ref 57), some (.long y), none, none, none, none, none, none, none, none, none, none, none] [.ref 58] (I58 I) J) : Met l (yM Mv) (wsM Mv) (rmMv d) (va_Pc ([.ref 0, .ref 57, .long y].map (kv ad)) (Wd 58 D ad cA A I J)) (QW 58 D ad cA A I Q') 1 4 A := by
  refine Met.ofW (cc := bM Mv) (maxL := mlM Mv) (ret := rtM Mv) (by decide +kernel) rfl ?_
  intro p e s m args below meth c s₁ B hml hv
  obtain ⟨rfl, hP, hK, hE, hscr⟩ := hv
  have hn : nOK 59 (owM Mv) := ⟨by decide, Nat.le_refl _, fun _ => rfl⟩
  have hx := B.exec
  have hb := B.bytes
  have hr := B.returns
  have hts := atoms_spec (ws := wsM Mv) B.pre
  have hts2 : ∀ w ∈ lw_good, w.before ([.ref 0, .ref 57, .long y].map (kv ad)).toArray s = true := fun w hw => hts w (List.mem_cons_of_mem _ hw)
  have hown : s.vm.findClass (RNf (owM Mv)) = some m.cls := by rw [show RNf (owM Mv) = (yM Mv).cls from by decide +kernel]; exact findClass_of_methodNamed B.named
  have hlocks := B.notSynchronized
  have hA : ∀ q : Nat, s.heap.size ≤ q → A q := fun q hq => hAu _ _ (hW.2 57 (by decide)) (Nat.le_trans (Nat.le_of_lt (hP 57 _ (WS_get (by decide))).lt) hq)
  have hl := lv_entry ([.ref 0, .ref 57, .long y].map (kv ad)) (n := mlM Mv) (Nat.le_of_ble_eq_true rfl)
  rw [lg_entry_eq]
  generalize (lg_sl ([.ref 0, .ref 57, .long y].map (kv ad)) ++ List.replicate (mlM Mv - (lg_sl ([.ref 0, .ref 57, .long y].map (kv ad))).length) Slot.unset).toArray = ls at hl ⊢
  have hR : 1 ≤ ((headSpec (wsM Mv) (rmMv d)).room).frames ∧ 100 ≤ ((headSpec (wsM Mv) (rmMv d)).room).locals := by
    show 1 ≤ (rmMv d).frames ∧ 100 ≤ (rmMv d).locals
    simp only [rmMv]; omega
  have hR2 : 12 ≤ ((headSpec (wsM Mv) (rmMv d)).room).frames ∧ 800 ≤ ((headSpec (wsM Mv) (rmMv d)).room).locals := by
    show 12 ≤ (rmMv d).frames ∧ 800 ≤ (rmMv d).locals
    simp only [rmMv]; omega
  refine lv_iconst (v := 4) hx hb dL_moved_0 (by decide) ?_
  refine my_newa (at9 := .int) (ty := .int) (t := 0) (c0 := cA 0) (n := 4) (N' := 4) (a0 := (4, .inl (fun _ => 0))) hx hb rfl (hts2 _ (good_at (i := 125) (by decide +kernel) rfl)) rfl (fun _ h => h) hK hP (WS_D hW) va_S.rf hA (fun _ => rfl) (by decide +kernel) (by decide +kernel) (Nat.le_of_ble_eq_true rfl) (Nat.le_refl 1) (Nat.le_refl 4) dL_moved_1 (fun q H1 hP1 hD1 hS1 => ?_)
  have hP1 : va_P D vwCl (WS 59 (adQ ad q) cA (I58 I) J) H1 := WS_Q ▸ hP1
  have hD1 : va_D A (WS 59 (adQ ad q) cA (I58 I) J) := WS_Q ▸ hD1
  have hWq : WDp 59 (adQ ad q) A := ⟨fun i j hi hj h => hD1.1 i j _ _ (WS_get hi) (WS_get hj) h, fun i hi => hD1.2 i _ (WS_get hi)⟩
  have hEq := Exw_Q (q := q) hE
  have hsq := Scr_Q (q := q) hscr
  have key := h (Wr p l e (headSpec (wsM Mv) (rmMv d)).room s m ([.ref 0, .ref 57, .long y].map (kv ad)).toArray below meth c 1 4 (MQ below (QW 58 D ad cA A I Q') ([.ref 0, .ref 57, .long y].map (kv ad)).toArray s 1 4 A) 59 D (adQ ad q) cA A (I58 I) Mv) ⟨
    fun pc lv st I1 J1 pc' lv' st' I' J' hs k => step_ok hx hb hml hown hts2 hK hWq hR hn hsq (ldc_ok hx hown hEq) (idx_ok hx hown hts2 hEq hR2 (Nat.le_refl 1) (Nat.le_refl 4)) hs k,
    fun pc lv st I1 J1 r hr1 hq => ret_mv hx hb hr hlocks hr1 hq,
    fun pc lv st I1 J1 M' as1 rest hc k => call_ok (d := d) hx hb hml hown hts2 hK hWq hn hsq hEq (by show d + 20 + 1 ≤ d + 21; omega) (by show 60 + (1000 + 64 * d) ≤ 1100 + 64 * d; omega) (Nat.le_refl 1) (Nat.le_refl 4) (fun M2 as2 I2 J2 Q2 hl2 hc2 => met_ok hWq (by decide) (Nat.le_refl 59) l d M2 as2 I2 J2 Q2 hl2 hc2) hc k,
    fun pc lv lv' st I1 J1 hle2 k => forget_ok hle2 k⟩
  refine key H1 [] ls hP1 hS1 rfl (lv_incl hl ?_) FrI.rf
  rintro ⟨i, w⟩ hq
  obtain ⟨v, hv, rfl⟩ := klv_mem.mp hq
  match i, hv with
  | 0, hv => cases hv; exact List.mem_of_getElem? (i := 0) rfl
  | 1, hv => cases hv; exact List.mem_of_getElem? (i := 1) rfl
  | 2, hv => cases hv; exact List.mem_of_getElem? (i := 2) rfl
  | 3, hv => cases hv
  | 4, hv => cases hv
  | 5, hv => cases hv
  | 6, hv => cases hv
  | 7, hv => cases hv
  | 8, hv => cases hv
  | 9, hv => cases hv
  | 10, hv => cases hv
  | 11, hv => cases hv
  | 12, hv => cases hv
  | 13, hv => cases hv
  | k + 14, hv => simp at hv
