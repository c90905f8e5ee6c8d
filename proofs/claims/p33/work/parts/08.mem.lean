/-! THE WORLD: what stands at each place, and instructions of memory -/
abbrev tysA (cA : Nat → ClassId) : List (ClassId × FieldType) := [(cA 0, .int), (cA 1, .char), (cA 2, .long), (cA 3, .object "SecretBox$Sheet")]
def FV (ad : Nat → Nat) (ci a : Nat) (I : I2) : List Value := (List.range (nFf ci)).map (fun k => bif Nat.beq (kdf ci k) 1 then kv ad (rfv (R0 a k)) else .int (I a k))
def CEt (ad : Nat → Nat) (cA : Nat → ClassId) (I : I2) (J : J2) (a t n : Nat) : va_E := match t with
  | 0 => .inr (n, FV ad n a I)
  | 1 => .inl (cA 0, n, .inl (I a))
  | 2 => .inl (cA 1, n, .inl (I a))
  | 3 => .inl (cA 2, n, .inr (.inl (J a)))
  | _ => .inl (cA 3, n, .inr (.inr (.inr (.inr (fun k => (R0 a k).map ad)))))
def CE (ad : Nat → Nat) (cA : Nat → ClassId) (I : I2) (J : J2) (a : Nat) : va_E := CEt ad cA I J a (SKt a).1 (SKt a).2
def WS (nW : Nat) (ad : Nat → Nat) (cA : Nat → ClassId) (I : I2) (J : J2) : va_W := (List.range nW).map (fun a => (ad a, CE ad cA I J a))
def WDp (nW : Nat) (ad : Nat → Nat) (A : Nat → Prop) : Prop := (∀ i j, i < nW → j < nW → ad i = ad j → i = j) ∧ ∀ i, i < nW → A (ad i)
/-- how many places there are, where a method of that class runs -/
def nOK (nW own : Nat) : Prop := 58 ≤ nW ∧ nW ≤ 59 ∧ (own = 9 → nW = 59)
def FrI (I0 I : I2) : Prop := ∀ a, nID ≤ a → I a = I0 a
theorem FrI.rf {I : I2} : FrI I I := fun _ _ => rfl
theorem FrI.tr {I0 I1 I2 : I2} (h1 : FrI I0 I1) (h2 : FrI I1 I2) : FrI I0 I2 := fun a h => (h2 a h).trans (h1 a h)
theorem WS_get {nW : Nat} {ad : Nat → Nat} {cA : Nat → ClassId} {I : I2} {J : J2} {a : Nat} (h : a < nW) : (WS nW ad cA I J)[a]? = some (ad a, CE ad cA I J a) := by
  simp only [WS, List.getElem?_map, List.getElem?_range h, Option.map_some]
theorem WS_len {nW : Nat} {ad : Nat → Nat} {cA : Nat → ClassId} {I : I2} {J : J2} : (WS nW ad cA I J).length = nW := by simp [WS]
theorem WS_set {nW : Nat} {ad : Nat → Nat} {cA : Nat → ClassId} {I I' : I2} {J J' : J2} {a : Nat} (h : a < nW) (hI : ∀ b, b ≠ a → I' b = I b) (hJ : ∀ b, b ≠ a → J' b = J b) : (WS nW ad cA I J).set a (ad a, CE ad cA I' J' a) = WS nW ad cA I' J' := by
  apply List.ext_getElem?
  intro b
  rw [List.getElem?_set]
  by_cases e : a = b
  · subst e
    rw [if_pos rfl, if_pos (by rw [WS_len]; exact h), WS_get h]
  · rw [if_neg e]
    by_cases hb : b < nW
    · have hb' : b ≠ a := fun q => e q.symm
      rw [WS_get hb, WS_get hb]
      simp only [CE, CEt, FV, hI b hb', hJ b hb']
    · rw [List.getElem?_eq_none (by rw [WS_len]; omega), List.getElem?_eq_none (by rw [WS_len]; omega)]
theorem WS_D {nW : Nat} {ad : Nat → Nat} {cA : Nat → ClassId} {I : I2} {J : J2} {A : Nat → Prop} (h : WDp nW ad A) : va_D A (WS nW ad cA I J) := by
  have hb : ∀ (k : Nat) (q : Nat × va_E), (WS nW ad cA I J)[k]? = some q → k < nW ∧ q.1 = ad k := by
    intro k q hq
    have hk : k < nW := by
      have := (List.getElem?_eq_some_iff.mp hq).1
      rwa [WS_len] at this
    rw [WS_get hk] at hq
    cases hq
    exact ⟨hk, rfl⟩
  refine ⟨fun i j p q hi hj hpq => ?_, fun k q hk => ?_⟩
  · obtain ⟨h1, h2⟩ := hb i p hi
    obtain ⟨h3, h4⟩ := hb j q hj
    exact h.1 i j h1 h3 (by rw [← h2, ← h4, hpq])
  · obtain ⟨h1, h2⟩ := hb k q hk
    rw [h2]
    exact h.2 k h1
theorem SK_obj : ∀ a, a < nID → (SKt a).1 = 0 → a < 57 ∧ (SKt a).2 < 6 := by decide +kernel
theorem SK_ok {nW own a t n : Nat} (hn : nOK nW own) (h : SKo own a = some (t, n)) : a < nW ∧ SKt a = (t, n) := by
  obtain ⟨n1, n2, n3⟩ := hn
  unfold SKo at h
  cases hc : (Nat.beq a 58 && !(Nat.beq own 9)) with
  | true => rw [hc] at h; cases h
  | false =>
    rw [hc] at h
    simp only [cond_false] at h
    unfold SKf at h
    cases hb : Nat.ble nID a with
    | true => rw [hb] at h; cases h
    | false =>
      rw [hb] at h
      refine ⟨?_, Option.some.inj h⟩
      have ha : a < 59 := by
        rcases Nat.lt_or_ge a 59 with q | q
        · exact q
        · rw [Nat.ble_eq_true_of_le (show nID ≤ a from q)] at hb; cases hb
      by_cases e : a = 58
      · subst e
        cases h9 : Nat.beq own 9 with
        | true => have := n3 (Nat.eq_of_beq_eq_true h9); omega
        | false => rw [h9] at hc; exact absurd hc (by decide)
      · omega
theorem SK_lt {own a t n : Nat} (h : SKo own a = some (t, n)) : a < nID := by
  unfold SKo at h
  cases hc : (Nat.beq a 58 && !(Nat.beq own 9)) with
  | true => rw [hc] at h; cases h
  | false =>
    rw [hc] at h
    simp only [cond_false] at h
    unfold SKf at h
    rcases Nat.lt_or_ge a nID with q | q
    · exact q
    · rw [Nat.ble_eq_true_of_le q] at h; cases h
theorem SKf_obj {a c : Nat} (h : SKf a = some (0, c)) : a < 57 ∧ SKt a = (0, c) ∧ c < 6 := by
  unfold SKf at h
  rcases Nat.lt_or_ge a nID with q | q
  · rw [show Nat.ble nID a = false from by
      cases hb : Nat.ble nID a with
      | false => rfl
      | true => exact absurd (Nat.le_of_ble_eq_true hb) (by omega)] at h
    have h := Option.some.inj h
    have := SK_obj a q (by rw [h])
    rw [h] at this
    exact ⟨this.1, h, this.2⟩
  · rw [Nat.ble_eq_true_of_le q] at h; cases h
theorem FV_get {ad : Nat → Nat} {ci a k : Nat} {I : I2} (h : k < nFf ci) : (FV ad ci a I)[k]? = some (bif Nat.beq (kdf ci k) 1 then kv ad (rfv (R0 a k)) else .int (I a k)) := by
  simp only [FV, List.getElem?_map, List.getElem?_range h, Option.map_some]
theorem FV_len {ad : Nat → Nat} {ci a : Nat} {I : I2} : (FV ad ci a I).length = nFf ci := by simp [FV]
theorem FV_set {ad : Nat → Nat} {ci a k : Nat} {I : I2} {x : Int32} (h : k < nFf ci) (hk : Nat.beq (kdf ci k) 1 = false) : (FV ad ci a I).set k (.int x) = FV ad ci a (up2 I a k x) := by
  apply List.ext_getElem?
  intro b
  rw [List.getElem?_set]
  by_cases e : k = b
  · subst e
    rw [if_pos rfl, if_pos (by rw [FV_len]; exact h), FV_get h, hk]
    simp [up2, upd]
  · rw [if_neg e]
    by_cases hb : b < nFf ci
    · rw [FV_get hb, FV_get hb]
      have e' : ¬ b = k := fun q => e q.symm
      simp [up2, upd, e']
    · rw [List.getElem?_eq_none (by rw [FV_len]; omega), List.getElem?_eq_none (by rw [FV_len]; omega)]
theorem up2_ne {I : I2} {a k b : Nat} {x : Int32} (h : b ≠ a) : up2 I a k x b = I b := by simp [up2, h]
theorem up2_eq {I : I2} {a k : Nat} {x : Int32} : up2 I a k x a = upd (I a) k x := by simp [up2]
theorem upJ_ne {J : J2} {a k b : Nat} {x : Int64} (h : b ≠ a) : upJ J a k x b = J b := by simp [upJ, h]
theorem upJ_eq {J : J2} {a k : Nat} {x : Int64} : upJ J a k x a = vp_updL (J a) k x := by simp [upJ]
theorem fr_up {I : I2} {a k : Nat} {x : Int32} (h : a < nID) : FrI I (up2 I a k x) := fun b hb => up2_ne (by omega)
section MEM
variable {p : Program} {l : Launch} {e : Env} {R : Room} {s : State} {m : MethodId} {args : Array Value} {below : List Frame} {meth : Method} {c : Code} {H : Heap} {locs : List Loc} {cells slots : Nat} {Q : State → Prop}
variable {cc : ByteArray} {pc n : Nat} {ls : Array Slot} {nW : Nat} {ad : Nat → Nat} {D : va_G} {cA : Nat → ClassId} {A : Nat → Prop}
/-- the script, where the law walks: its cell, and what is told of it at 100 and 101 -/
def ScrOK (ad : Nat → Nat) (A : Nat → Prop) (s : State) (I : I2) : Prop := ∃ (L : Nat) (xs : Nat → Int32), L < 2 ^ 31 ∧ va_X (ad 100) L xs s s.heap ∧ ad 100 < s.heap.size ∧ ¬ A (ad 100) ∧ I 100 = xs ∧ I 101 0 = Int32.ofNat L
/-- a text is put on the stack -/
def LdcOK (p : Program) (l : Launch) (e : Env) (R : Room) (s : State) (m : MethodId) (args : Array Value) (below : List Frame) (meth : Method) (c : Code) (cells slots : Nat) (Q : State → Prop) (ad : Nat → Nat) (own : Nat) : Prop :=
  own = 3 → ∀ (ix a : Nat), (ix = 45 ∧ a = 201 ∨ ix = 64 ∧ a = 202) → ∀ (H : Heap) (locs : List Loc) (ls : Array Slot) (pc : Nat) (st : St), decode c.code pc = .ok (.ldc ix, 2) → W p l e R s m args below meth c H locs cells slots Q (F0 m (pc + 2) ls (.ref (ad a) :: st)) → W p l e R s m args below meth c H locs cells slots Q (F0 m pc ls st)
theorem beq_and {a b : Bool} (h : (a && b) = true) : a = true ∧ b = true := by simpa using h
theorem inr_of {i : Int32} {n : Nat} (h : ¬ (i < 0 ∨ n ≤ i.toNatClampNeg)) : vp_in i n := h
theorem CE_0 {I : I2} {J : J2} {a n : Nat} (h : SKt a = (0, n)) : CE ad cA I J a = .inr (n, FV ad n a I) := by simp [CE, CEt, h]
theorem CE_1 {I : I2} {J : J2} {a n : Nat} (h : SKt a = (1, n)) : CE ad cA I J a = .inl (cA 0, n, .inl (I a)) := by simp [CE, CEt, h]
theorem CE_2 {I : I2} {J : J2} {a n : Nat} (h : SKt a = (2, n)) : CE ad cA I J a = .inl (cA 1, n, .inl (I a)) := by simp [CE, CEt, h]
theorem CE_3 {I : I2} {J : J2} {a n : Nat} (h : SKt a = (3, n)) : CE ad cA I J a = .inl (cA 2, n, .inr (.inl (J a))) := by simp [CE, CEt, h]
theorem CE_4 {I : I2} {J : J2} {a n : Nat} (h : SKt a = (4, n)) : CE ad cA I J a = .inl (cA 3, n, .inr (.inr (.inr (.inr (fun k => (R0 a k).map ad))))) := by simp [CE, CEt, h]
theorem WS_at {own : Nat} {I : I2} {J : J2} {a t n : Nat} {x : va_E} (hn : nOK nW own) (h : SKo own a = some (t, n)) (hx : CE ad cA I J a = x) : (WS nW ad cA I J)[a]? = some (ad a, x) := by rw [WS_get (SK_ok hn h).1, hx]
theorem narrow_01 {x : Int32} (h : x = 0 ∨ x = 1) : narrow .boolean (.int x) = .int x ∧ fits .boolean (.int x) = true := by
  rcases h with rfl | rfl <;> exact ⟨by decide +kernel, by decide +kernel⟩
theorem kv_rf {r : Option Nat} : va_rf (r.map ad) = kv ad (rfv r) := by cases r <;> rfl
set_option maxHeartbeats 8000000 in
theorem opM_ok (hx : p.tables.exec = Jvm.exec) (hb : c.code = cc) {own : Nat} (hown : s.vm.findClass (RNf own) = some m.cls) (hts : ∀ w ∈ lw_good, w.before args s = true) (hK : va_K D vwCl (tysA cA) s) (hW : WDp nW ad A) {i : Instr} {st st' : St} {I I' : I2} {J J' : J2} (hn : nOK nW own) (hscr : ScrOK ad A s I) (hldc : LdcOK p l e R s m args below meth c cells slots Q ad own) (h : opM own i st I J = some (st', I', J')) (hd : decode cc pc = .ok (i, n)) (ho : okIns pc i n = true) (hP : va_P D vwCl (WS nW ad cA I J) H) (hS : va_S A s.heap H locs)
    (k : ∀ (H' : Heap) (locs' : List Loc), va_P D vwCl (WS nW ad cA I' J') H' → va_S A s.heap H' locs' → FrI I I' → W p l e R s m args below meth c H' locs' cells slots Q (F0 m (pc + n) ls (st'.map (kv ad)))) : W p l e R s m args below meth c H locs cells slots Q (F0 m pc ls (st.map (kv ad))) := by
  have e1 : ∀ {z : Nat}, Nat.beq n z = true → n = z := fun h => Nat.eq_of_beq_eq_true h
  have hD : va_D A (WS nW ad cA I J) := WS_D hW
  cases i
  all_goals first
    | (exfalso; simp [opM] at h; done)
    | skip
  case getfield ix =>
    have := e1 (z := 3) ho; subst this
    simp only [opM] at h
    split at h
    · next a r =>
      split at h
      · next ci kk kd t cq hF hSK =>
        cases hc : (Nat.beq t 0 && Nat.beq cq ci) with
        | false => rw [hc] at h; cases h
        | true =>
          rw [hc] at h
          obtain ⟨c1, c2⟩ := beq_and hc
          have et : t = 0 := Nat.eq_of_beq_eq_true c1
          have ec : cq = ci := Nat.eq_of_beq_eq_true c2
          subst et; subst ec
          simp only [cond_true, Option.some.injEq, Prod.mk.injEq] at h
          obtain ⟨rfl, rfl, rfl⟩ := h
          obtain ⟨pp, hp⟩ := FT_ok hF
          unfold okF at hp
          split at hp
          · next C T N hcl =>
            simp only [Bool.and_eq_true, decide_eq_true_eq] at hp
            obtain ⟨⟨⟨⟨⟨hw1, hk1⟩, hN⟩, hkd⟩, -⟩, -⟩ := hp
            have hN : N = nFf cq := Nat.eq_of_beq_eq_true hN
            have hkd : kdf cq kk = kd := Nat.eq_of_beq_eq_true hkd
            have hkN : kk < N := Nat.le_of_ble_eq_true hk1
            have hfv := FV_get (ad := ad) (ci := cq) (a := a) (I := I) (hN ▸ hkN)
            refine va_get hx hb hts (okC_all hcl).1 hown hK hP a (WS_at hn hSK (CE_0 (SK_ok hn hSK).2)) hcl kk hkN (hts _ (good_at hw1 rfl)) (fun _ q => q) (v := kv ad (bif Nat.beq kd 1 then rfv (R0 a kk) else .int (I a kk))) ?_ hd (k H locs hP hS FrI.rf)
            rw [hfv, hkd]
            cases Nat.beq kd 1 <;> rfl
          · cases hp
      · cases h
    · cases h
  case putfield ix =>
    have := e1 (z := 3) ho; subst this
    simp only [opM] at h
    split at h
    · next x a r =>
      split at h
      · next ci kk kd t cq hF hSK =>
        cases hc : (Nat.beq t 0 && Nat.beq cq ci) with
        | false => rw [hc] at h; cases h
        | true =>
          rw [hc] at h
          obtain ⟨c1, c2⟩ := beq_and hc
          have et : t = 0 := Nat.eq_of_beq_eq_true c1
          have ec : cq = ci := Nat.eq_of_beq_eq_true c2
          subst et; subst ec
          obtain ⟨pp, hp⟩ := FT_ok hF
          unfold okF at hp
          split at hp
          · next C T N hcl =>
            simp only [Bool.and_eq_true, decide_eq_true_eq, Bool.or_eq_true, beq_iff_eq] at hp
            obtain ⟨⟨⟨⟨⟨hw1, hk1⟩, hN⟩, hkd⟩, hfin⟩, hty⟩ := hp
            have hN : N = nFf cq := Nat.eq_of_beq_eq_true hN
            have hkd : kdf cq kk = kd := Nat.eq_of_beq_eq_true hkd
            have hkN : kk < N := Nat.le_of_ble_eq_true hk1
            have core : ∀ (ty : FieldType), Nat.beq kd 1 = false → parseFieldDescriptor (T kk).2.2.1 = some ty → narrow ty (.int x) = .int x → fits ty (.int x) = true → I' = up2 I a kk x → J' = J → st' = r → W p l e R s m args below meth c H locs cells slots Q (F0 m pc ls ((Value.int x :: Value.ref a :: r).map (kv ad))) := by
              intro ty hk9 h1 h2 h3 eI eJ eS
              subst eI; subst eJ; subst eS
              obtain ⟨ty0, hty0⟩ := (okC_all hcl).2.1
              have hfin : (T kk).2.2.2 = false := by
                rcases hfin with q | q
                · rw [hk9] at q; cases q
                · exact q
              refine va_put hx hb hts (okC_all hcl).1 ty0 hty0 (okC_all hcl).2.2 hown hK hP hD hS a (WS_at hn hSK (CE_0 (SK_ok hn hSK).2)) hcl kk hkN (hts _ (good_at hw1 rfl)) (fun _ q => q) hfin h1 h2 h3 (by rw [FV_len, ← hN]; exact hkN) hd (fun H1 locs1 hP1 hD1 hS1 => ?_)
              refine k H1 locs1 ?_ hS1 (fr_up (SK_lt hSK))
              rw [show kv ad (Value.int x) = Value.int x from rfl, FV_set (hN ▸ hkN) (by rw [hkd]; exact hk9), ← CE_0 (ad := ad) (cA := cA) (I := up2 I a kk x) (J := J') (SK_ok hn hSK).2, WS_set (SK_ok hn hSK).1 (fun b hb => up2_ne hb) (fun b hb => rfl)] at hP1
              exact hP1
            simp only [cond_true] at h
            cases h0 : Nat.beq kd 0 with
            | true =>
              rw [h0] at h
              simp only [cond_true, Option.some.injEq, Prod.mk.injEq] at h
              obtain ⟨hs1, hi1, hj1⟩ := h
              have ekd : kd = 0 := Nat.eq_of_beq_eq_true h0
              subst ekd
              rcases hty with q | q
              · cases q
              · split at q
                · next hq => exact core .int rfl hq rfl rfl hi1.symm hj1.symm hs1.symm
                · cases q
                · cases q
            | false =>
              rw [h0] at h
              simp only [cond_false] at h
              cases h2 : Nat.beq kd 2 with
              | false => rw [h2] at h; cases h
              | true =>
                rw [h2] at h
                simp only [cond_true] at h
                have ekd : kd = 2 := Nat.eq_of_beq_eq_true h2
                subst ekd
                split at h
                · next hx01 =>
                  simp only [Option.some.injEq, Prod.mk.injEq] at h
                  obtain ⟨hs1, hi1, hj1⟩ := h
                  rcases hty with q | q
                  · cases q
                  · split at q
                    · cases q
                    · next hq => exact core .boolean rfl hq (narrow_01 hx01).1 (narrow_01 hx01).2 hi1.symm hj1.symm hs1.symm
                    · cases q
                · cases h
          · cases hp
      · cases h
    · cases h
  case iaload =>
    have := e1 (z := 1) ho; subst this
    simp only [opM] at h
    split at h
    · next i a r =>
      split at h
      · next t nn hSK =>
        cases hc : Nat.beq t 1 with
        | false => rw [hc] at h; cases h
        | true =>
          rw [hc] at h
          have et : t = 1 := Nat.eq_of_beq_eq_true hc
          subst et
          simp only [cond_true] at h
          split at h
          · cases h
          · next hin =>
            simp only [Option.some.injEq, Prod.mk.injEq] at h
            obtain ⟨rfl, rfl, rfl⟩ := h
            exact va_iald hx hb hK hP a 0 (WS_at hn hSK (CE_1 (SK_ok hn hSK).2)) rfl (inr_of hin) hd (k H locs hP hS FrI.rf)
      · next hSK =>
        cases hc : (Nat.beq a 100 && Nat.beq own 7) with
        | false => rw [hc] at h; cases h
        | true =>
          rw [hc] at h
          obtain ⟨c1, c2⟩ := beq_and hc
          have et : a = 100 := Nat.eq_of_beq_eq_true c1
          have ec : own = 7 := Nat.eq_of_beq_eq_true c2
          subst et
          obtain ⟨L, xs, hL, hX, hlt, hnA, hI0, hI1⟩ := hscr
          simp only [cond_true] at h
          split at h
          · cases h
          · next hin =>
            simp only [Option.some.injEq, Prod.mk.injEq] at h
            obtain ⟨rfl, rfl, rfl⟩ := h
            have eL : (I 101 0).toNatClampNeg = L := by rw [hI1]; exact nI_clamp hL
            rw [eL] at hin
            have := k H locs hP hS FrI.rf
            rw [hI0] at this
            exact va_sld hx hb hX hlt hnA hS (inr_of hin) hd this
    · cases h
  case caload =>
    have := e1 (z := 1) ho; subst this
    simp only [opM] at h
    split at h
    · next i a r =>
      split at h
      · next t nn hSK =>
        cases hc : Nat.beq t 2 with
        | false => rw [hc] at h; cases h
        | true =>
          rw [hc] at h
          have et : t = 2 := Nat.eq_of_beq_eq_true hc
          subst et
          simp only [cond_true] at h
          split at h
          · cases h
          · next hin =>
            simp only [Option.some.injEq, Prod.mk.injEq] at h
            obtain ⟨rfl, rfl, rfl⟩ := h
            exact va_cald hx hb hK hP a 1 (WS_at hn hSK (CE_2 (SK_ok hn hSK).2)) rfl (inr_of hin) hd (k H locs hP hS FrI.rf)
      · cases h
    · cases h
  case laload =>
    have := e1 (z := 1) ho; subst this
    simp only [opM] at h
    split at h
    · next i a r =>
      split at h
      · next t nn hSK =>
        cases hc : Nat.beq t 3 with
        | false => rw [hc] at h; cases h
        | true =>
          rw [hc] at h
          have et : t = 3 := Nat.eq_of_beq_eq_true hc
          subst et
          simp only [cond_true] at h
          split at h
          · cases h
          · next hin =>
            simp only [Option.some.injEq, Prod.mk.injEq] at h
            obtain ⟨rfl, rfl, rfl⟩ := h
            exact va_lald hx hb hK hP a 2 (WS_at hn hSK (CE_3 (SK_ok hn hSK).2)) rfl (inr_of hin) hd (k H locs hP hS FrI.rf)
      · cases h
    · cases h
  case aaload =>
    have := e1 (z := 1) ho; subst this
    simp only [opM] at h
    split at h
    · next i a r =>
      split at h
      · next t nn hSK =>
        cases hc : Nat.beq t 4 with
        | false => rw [hc] at h; cases h
        | true =>
          rw [hc] at h
          have et : t = 4 := Nat.eq_of_beq_eq_true hc
          subst et
          simp only [cond_true] at h
          split at h
          · cases h
          · next hin =>
            simp only [Option.some.injEq, Prod.mk.injEq] at h
            obtain ⟨rfl, rfl, rfl⟩ := h
            have := k H locs hP hS FrI.rf
            refine va_aldq hx hb hK hP a 3 (C := "SecretBox$Sheet") (WS_at hn hSK (CE_4 (SK_ok hn hSK).2)) rfl (inr_of hin) hd ?_
            rw [kv_rf]
            exact this
      · cases h
    · cases h
  case iastore =>
    have := e1 (z := 1) ho; subst this
    simp only [opM] at h
    split at h
    · next x i a r =>
      split at h
      · next t nn hSK =>
        cases hc : Nat.beq t 1 with
        | false => rw [hc] at h; cases h
        | true =>
          rw [hc] at h
          have et : t = 1 := Nat.eq_of_beq_eq_true hc
          subst et
          simp only [cond_true] at h
          split at h
          · cases h
          · next hin =>
            simp only [Option.some.injEq, Prod.mk.injEq] at h
            obtain ⟨rfl, rfl, rfl⟩ := h
            refine va_iast hx hb hK hP hD hS a 0 (WS_at hn hSK (CE_1 (SK_ok hn hSK).2)) rfl (inr_of hin) hd (fun H1 locs1 hP1 hD1 hS1 => ?_)
            refine k H1 locs1 ?_ hS1 (fr_up (SK_lt hSK))
            have e9 := CE_1 (ad := ad) (cA := cA) (I := up2 I a i.toNatClampNeg x) (J := J) (SK_ok hn hSK).2
            rw [up2_eq] at e9
            rw [← e9, WS_set (SK_ok hn hSK).1 (fun b hb => up2_ne hb) (fun b hb => rfl)] at hP1
            exact hP1
      · cases h
    · cases h
  case castore =>
    have := e1 (z := 1) ho; subst this
    simp only [opM] at h
    split at h
    · next x i a r =>
      split at h
      · next t nn hSK =>
        cases hc : Nat.beq t 2 with
        | false => rw [hc] at h; cases h
        | true =>
          rw [hc] at h
          have et : t = 2 := Nat.eq_of_beq_eq_true hc
          subst et
          simp only [cond_true] at h
          split at h
          · cases h
          · next hin =>
            simp only [Option.some.injEq, Prod.mk.injEq] at h
            obtain ⟨rfl, rfl, rfl⟩ := h
            refine va_cast hx hb hK hP hD hS a 1 (WS_at hn hSK (CE_2 (SK_ok hn hSK).2)) rfl (inr_of hin) hd (fun H1 locs1 hP1 hD1 hS1 => ?_)
            refine k H1 locs1 ?_ hS1 (fr_up (SK_lt hSK))
            have e9 := CE_2 (ad := ad) (cA := cA) (I := up2 I a i.toNatClampNeg (vp_nar .char x)) (J := J) (SK_ok hn hSK).2
            rw [up2_eq] at e9
            rw [← e9, WS_set (SK_ok hn hSK).1 (fun b hb => up2_ne hb) (fun b hb => rfl)] at hP1
            exact hP1
      · cases h
    · cases h
  case lastore =>
    have := e1 (z := 1) ho; subst this
    simp only [opM] at h
    split at h
    · next x i a r =>
      split at h
      · next t nn hSK =>
        cases hc : Nat.beq t 3 with
        | false => rw [hc] at h; cases h
        | true =>
          rw [hc] at h
          have et : t = 3 := Nat.eq_of_beq_eq_true hc
          subst et
          simp only [cond_true] at h
          split at h
          · cases h
          · next hin =>
            simp only [Option.some.injEq, Prod.mk.injEq] at h
            obtain ⟨rfl, rfl, rfl⟩ := h
            refine va_last hx hb hK hP hD hS a 2 (WS_at hn hSK (CE_3 (SK_ok hn hSK).2)) rfl (inr_of hin) hd (fun H1 locs1 hP1 hD1 hS1 => ?_)
            refine k H1 locs1 ?_ hS1 FrI.rf
            have e9 := CE_3 (ad := ad) (cA := cA) (I := I) (J := upJ J a i.toNatClampNeg x) (SK_ok hn hSK).2
            rw [upJ_eq] at e9
            rw [← e9, WS_set (SK_ok hn hSK).1 (fun b hb => rfl) (fun b hb => upJ_ne hb)] at hP1
            exact hP1
      · cases h
    · cases h
  case arraylength =>
    have := e1 (z := 1) ho; subst this
    simp only [opM] at h
    split at h
    · next a r =>
      cases hc : (Nat.beq a 100 && Nat.beq own 7) with
      | false => rw [hc] at h; cases h
      | true =>
        rw [hc] at h
        obtain ⟨c1, c2⟩ := beq_and hc
        have et : a = 100 := Nat.eq_of_beq_eq_true c1
        have ec : own = 7 := Nat.eq_of_beq_eq_true c2
        subst et
        obtain ⟨L, xs, hL, hX, hlt, hnA, hI0, hI1⟩ := hscr
        simp only [cond_true, Option.some.injEq, Prod.mk.injEq] at h
        obtain ⟨rfl, rfl, rfl⟩ := h
        have := k H locs hP hS FrI.rf
        rw [hI1] at this
        exact va_slen hx hb hX hlt hnA hS hd this
    · cases h
  case ldc ix =>
    have := e1 (z := 2) ho; subst this
    simp only [opM] at h
    split at h
    · next v hv =>
      simp only [Option.some.injEq, Prod.mk.injEq] at h
      obtain ⟨rfl, rfl, rfl⟩ := h
      exact lv_ldc hx hb hown (hts _ (LC_ok hv)) hd (k H locs hP hS FrI.rf)
    · subst hb
      cases hc : (Nat.beq own 3 && Nat.beq ix 45) with
      | true =>
        rw [hc] at h
        obtain ⟨c1, c2⟩ := beq_and hc
        simp only [cond_true, Option.some.injEq, Prod.mk.injEq] at h
        obtain ⟨rfl, rfl, rfl⟩ := h
        exact hldc (Nat.eq_of_beq_eq_true c1) ix 201 (Or.inl ⟨Nat.eq_of_beq_eq_true c2, rfl⟩) H locs ls pc _ hd (k H locs hP hS FrI.rf)
      | false =>
        rw [hc] at h
        simp only [cond_false] at h
        cases hc2 : (Nat.beq own 3 && Nat.beq ix 64) with
        | false => rw [hc2] at h; cases h
        | true =>
          rw [hc2] at h
          obtain ⟨c1, c2⟩ := beq_and hc2
          simp only [cond_true, Option.some.injEq, Prod.mk.injEq] at h
          obtain ⟨rfl, rfl, rfl⟩ := h
          exact hldc (Nat.eq_of_beq_eq_true c1) ix 202 (Or.inr ⟨Nat.eq_of_beq_eq_true c2, rfl⟩) H locs ls pc _ hd (k H locs hP hS FrI.rf)
  case ldc_w ix =>
    have := e1 (z := 3) ho; subst this
    simp only [opM] at h
    split at h
    · next v hv =>
      simp only [Option.some.injEq, Prod.mk.injEq] at h
      obtain ⟨rfl, rfl, rfl⟩ := h
      exact lv_ldcw hx hb hown (hts _ (LC_ok hv)) hd (k H locs hP hS FrI.rf)
    · cases h
  case ldc2_w ix =>
    have := e1 (z := 3) ho; subst this
    simp only [opM] at h
    split at h
    · next v hv =>
      simp only [Option.some.injEq, Prod.mk.injEq] at h
      obtain ⟨rfl, rfl, rfl⟩ := h
      exact lv_ldc2 hx hb hown (hts _ (LC2_ok hv)) hd (k H locs hP hS FrI.rf)
    · cases h
end MEM
