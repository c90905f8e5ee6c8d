/-! WHAT THE WALKED MACHINE DOES, THE MACHINE DOES: instructions of the stack, of locals -/
def kv (ad : Nat → Nat) : Value → Value
  | .ref a => .ref (ad a)
  | v => v
def klv (ad : Nat → Nat) (lv : Lv) : List (Nat × Value) := (List.range lv.length).filterMap (fun i => match lv[i]? with | some (some v) => some (i, kv ad v) | _ => none)
theorem klv_mem {ad : Nat → Nat} {lv : Lv} {i : Nat} {w : Value} : (i, w) ∈ klv ad lv ↔ ∃ v, lv[i]? = some (some v) ∧ w = kv ad v := by
  simp only [klv, List.mem_filterMap, List.mem_range]
  constructor
  · rintro ⟨j, hj, h⟩
    split at h
    next v hv => cases h; exact ⟨v, hv, rfl⟩
    next => cases h
  · rintro ⟨v, hv, rfl⟩
    exact ⟨i, (List.getElem?_eq_some_iff.mp hv).1, by rw [hv]⟩
theorem lv_incl {ls : Array Slot} {n : Nat} {l l' : List (Nat × Value)} (h : lv_has ls n l) (hl : ∀ q ∈ l', q ∈ l) : lv_has ls n l' := ⟨h.1, h.2.1, fun q hq => h.2.2 q (hl q hq)⟩
theorem lv_rd {ls : Array Slot} {n : Nat} {ad : Nat → Nat} {lv : Lv} (h : lv_has ls n (klv ad lv)) {i : Nat} {v : Value} (hi : lv[i]? = some (some v)) : ls[i]? = some (.val (kv ad v)) := h.2.2 (i, kv ad v) (klv_mem.mpr ⟨v, hi, rfl⟩)
theorem kv_cat1 {ad : Nat → Nat} {v : Value} (h : is2 v = false) : (kv ad v).category = 1 := by cases v <;> first | rfl | (simp [is2] at h; done)
theorem kv_cat2 {ad : Nat → Nat} {v : Value} (h : is2 v = true) : (kv ad v).category = 2 := by cases v <;> first | rfl | (simp [is2] at h; done)
theorem kv_cat {ad : Nat → Nat} {v : Value} : (kv ad v).category = v.category := by cases v <;> rfl
theorem stI_len {lv : Lv} {i : Nat} {v : Value} : (stI lv i v).length = lv.length := by
  cases i with
  | zero => simp [stI]
  | succ k =>
    simp only [stI]
    split
    next o ho => cases is2 o <;> simp
    next => simp
theorem stI_get {lv : Lv} {i j : Nat} {v u : Value} (h : (stI lv i v)[j]? = some (some u)) : (j = i ∧ u = v) ∨ (j ≠ i ∧ lv[j]? = some (some u) ∧ (j + 1 = i → is2 u = false)) := by
  cases i with
  | zero =>
    simp only [stI, List.getElem?_set] at h
    by_cases e : 0 = j
    · subst e
      simp only [↓reduceIte] at h
      split at h
      · cases h; exact Or.inl ⟨rfl, rfl⟩
      · cases h
    · rw [if_neg e] at h
      exact Or.inr ⟨fun q => e q.symm, h, fun q => by omega⟩
  | succ k =>
    simp only [stI] at h
    have key : ∀ (hk : ∀ o, lv[k]? = some (some o) → is2 o = false), (lv.set (k + 1) (some v))[j]? = some (some u) → (j = k + 1 ∧ u = v) ∨ (j ≠ k + 1 ∧ lv[j]? = some (some u) ∧ (j + 1 = k + 1 → is2 u = false)) := by
      intro hk h5
      rw [List.getElem?_set] at h5
      by_cases e : k + 1 = j
      · rw [if_pos e] at h5
        split at h5
        · cases h5; exact Or.inl ⟨e.symm, rfl⟩
        · cases h5
      · rw [if_neg e] at h5
        exact Or.inr ⟨fun q => e q.symm, h5, fun q => by
          have : j = k := by omega
          subst this
          exact hk u h5⟩
    split at h
    next o ho =>
      cases h2 : is2 o with
      | true =>
        rw [h2] at h
        simp only [cond_true] at h
        rw [List.getElem?_set] at h
        by_cases e : k = j
        · rw [if_pos e] at h
          split at h <;> cases h
        · rw [if_neg e] at h
          rw [List.getElem?_set] at h
          by_cases e2 : k + 1 = j
          · rw [if_pos e2] at h
            split at h
            · cases h; exact Or.inl ⟨e2.symm, rfl⟩
            · cases h
          · rw [if_neg e2] at h
            exact Or.inr ⟨fun q => e2 q.symm, h, fun q => by omega⟩
      | false =>
        rw [h2] at h
        simp only [cond_false] at h
        exact key (fun o' ho' => by rw [ho] at ho'; cases ho'; exact h2) h
    next hno => exact key (fun o' ho' => absurd ho' (hno o')) h
theorem st_incl {ad : Nat → Nat} {lv : Lv} {i : Nat} {v : Value} : ∀ q ∈ klv ad (stI lv i v), q ∈ (i, kv ad v) :: (klv ad lv).filter (fun q => !(q.1 == i) && !(q.1 + 1 == i && q.2.category == 2)) := by
  rintro ⟨j, w⟩ hq
  obtain ⟨u, hu, rfl⟩ := klv_mem.mp hq
  rcases stI_get hu with ⟨rfl, rfl⟩ | ⟨h1, h2, h3⟩
  · exact List.mem_cons_self
  · refine List.mem_cons_of_mem _ (List.mem_filter.mpr ⟨klv_mem.mpr ⟨u, h2, rfl⟩, ?_⟩)
    have e1 : (j == i) = false := by simp [h1]
    by_cases e : j + 1 = i
    · simp [e1, kv_cat1 (ad := ad) (h3 e)]
    · simp [e1, e]
theorem st_inclL {ad : Nat → Nat} {lv : Lv} {i : Nat} {v : Value} : ∀ q ∈ klv ad (stL lv i v), q ∈ (i, kv ad v) :: (klv ad lv).filter (fun q => !(q.1 == i) && (!(q.1 == i + 1) && !(q.1 + 1 == i && q.2.category == 2))) := by
  rintro ⟨j, w⟩ hq
  obtain ⟨u, hu, rfl⟩ := klv_mem.mp hq
  simp only [stL, List.getElem?_set] at hu
  by_cases e0 : i + 1 = j
  · rw [if_pos e0] at hu
    split at hu <;> cases hu
  · rw [if_neg e0] at hu
    rcases stI_get hu with ⟨rfl, rfl⟩ | ⟨h1, h2, h3⟩
    · exact List.mem_cons_self
    · refine List.mem_cons_of_mem _ (List.mem_filter.mpr ⟨klv_mem.mpr ⟨u, h2, rfl⟩, ?_⟩)
      have e1 : (j == i) = false := by simp [h1]
      have e2 : (j == i + 1) = false := by simp; omega
      by_cases e : j + 1 = i
      · simp [e1, e2, kv_cat1 (ad := ad) (h3 e)]
      · simp [e1, e2, e]
theorem iK_i {k : Int} : True := trivial
section SND
variable {p : Program} {l : Launch} {e : Env} {R : Room} {s : State} {m : MethodId} {args : Array Value} {below : List Frame} {meth : Method} {c : Code} {H : Heap} {locs : List Loc} {cells slots : Nat} {Q : State → Prop}
variable {cc : ByteArray} {pc n : Nat} {ls : Array Slot} {ad : Nat → Nat}
set_option maxHeartbeats 4000000 in
theorem opS_ok (hx : p.tables.exec = Jvm.exec) (hb : c.code = cc) {i : Instr} {st st' : St} (h : opS i st = some st') (hd : decode cc pc = .ok (i, n)) (ho : okIns pc i n = true) (k : W p l e R s m args below meth c H locs cells slots Q (F0 m (pc + n) ls (st'.map (kv ad)))) : W p l e R s m args below meth c H locs cells slots Q (F0 m pc ls (st.map (kv ad))) := by
  have e1 : ∀ {z : Nat}, Nat.beq n z = true → n = z := fun h => Nat.eq_of_beq_eq_true h
  cases i
  all_goals first
    | (exfalso; simp [opS] at h; done)
    | skip
  case iconst v =>
    simp only [opS, Option.some.injEq] at h; subst h
    simp only [okIns, Bool.and_eq_true, decide_eq_true_eq] at ho
    have := e1 ho.1; subst this
    exact lv_iconst hx hb hd ho.2 k
  case bipush v =>
    simp only [opS, Option.some.injEq] at h; subst h
    simp only [okIns, Bool.and_eq_true, decide_eq_true_eq] at ho
    have := e1 ho.1; subst this
    exact lv_bipush hx hb hd ho.2 k
  case sipush v =>
    simp only [opS, Option.some.injEq] at h; subst h
    simp only [okIns, Bool.and_eq_true, decide_eq_true_eq] at ho
    have := e1 ho.1; subst this
    exact lv_sipush hx hb hd ho.2 k
  case lconst v =>
    simp only [opS, Option.some.injEq] at h; subst h
    have := e1 (z := 1) ho; subst this
    exact lv_lconst hx hb hd rfl k
  case iadd => simp only [opS] at h; split at h <;> cases h; have := e1 (z := 1) ho; subst this; exact lv_iadd hx hb hd k
  case isub => simp only [opS] at h; split at h <;> cases h; have := e1 (z := 1) ho; subst this; exact lv_isub hx hb hd k
  case imul => simp only [opS] at h; split at h <;> cases h; have := e1 (z := 1) ho; subst this; exact lv_imul hx hb hd k
  case iand => simp only [opS] at h; split at h <;> cases h; have := e1 (z := 1) ho; subst this; exact lv_iand hx hb hd k
  case ior => simp only [opS] at h; split at h <;> cases h; have := e1 (z := 1) ho; subst this; exact lv_ior hx hb hd k
  case ixor => simp only [opS] at h; split at h <;> cases h; have := e1 (z := 1) ho; subst this; exact lv_ixor hx hb hd k
  case idiv =>
    simp only [opS] at h
    split at h
    · split at h
      · cases h
      · next hz => cases h; have := e1 (z := 1) ho; subst this; exact lv_idiv hx hb hd hz k
    · cases h
  case irem =>
    simp only [opS] at h
    split at h
    · split at h
      · cases h
      · next hz => cases h; have := e1 (z := 1) ho; subst this; exact lv_irem hx hb hd hz k
    · cases h
  case ineg => simp only [opS] at h; split at h <;> cases h; have := e1 (z := 1) ho; subst this; exact lv_ineg hx hb hd k
  case ishl => simp only [opS] at h; split at h <;> cases h; have := e1 (z := 1) ho; subst this; exact lv_ishl hx hb hd k
  case ishr => simp only [opS] at h; split at h <;> cases h; have := e1 (z := 1) ho; subst this; exact lv_ishr hx hb hd k
  case iushr => simp only [opS] at h; split at h <;> cases h; have := e1 (z := 1) ho; subst this; exact lv_iushr hx hb hd rfl k
  case ladd => simp only [opS] at h; split at h <;> cases h; have := e1 (z := 1) ho; subst this; exact lv_ladd hx hb hd k
  case lsub => simp only [opS] at h; split at h <;> cases h; have := e1 (z := 1) ho; subst this; exact lv_lsub hx hb hd k
  case lmul => simp only [opS] at h; split at h <;> cases h; have := e1 (z := 1) ho; subst this; exact lv_lmul hx hb hd k
  case land => simp only [opS] at h; split at h <;> cases h; have := e1 (z := 1) ho; subst this; exact lv_land hx hb hd k
  case lor => simp only [opS] at h; split at h <;> cases h; have := e1 (z := 1) ho; subst this; exact lv_lor hx hb hd k
  case ldiv =>
    simp only [opS] at h
    split at h
    · split at h
      · cases h
      · next hz => cases h; have := e1 (z := 1) ho; subst this; exact lv_ldiv hx hb hd hz k
    · cases h
  case lrem =>
    simp only [opS] at h
    split at h
    · split at h
      · cases h
      · next hz => cases h; have := e1 (z := 1) ho; subst this; exact lv_lrem hx hb hd hz k
    · cases h
  case lshl => simp only [opS] at h; split at h <;> cases h; have := e1 (z := 1) ho; subst this; exact lv_lshl hx hb hd rfl k
  case lcmp => simp only [opS] at h; split at h <;> cases h; have := e1 (z := 1) ho; subst this; exact W.lcmp hx hb hd k
  case i2l => simp only [opS] at h; split at h <;> cases h; have := e1 (z := 1) ho; subst this; exact lv_i2l hx hb hd rfl k
  case l2i => simp only [opS] at h; split at h <;> cases h; have := e1 (z := 1) ho; subst this; exact lv_l2i hx hb hd rfl k
  case i2b => simp only [opS] at h; split at h <;> cases h; have := e1 (z := 1) ho; subst this; exact lv_i2b hx hb hd rfl k
  case i2s => simp only [opS] at h; split at h <;> cases h; have := e1 (z := 1) ho; subst this; exact lv_i2s hx hb hd rfl k
  case i2c => simp only [opS] at h; split at h <;> cases h; have := e1 (z := 1) ho; subst this; exact lv_i2c hx hb hd rfl k
  case dup =>
    simp only [opS] at h
    split at h
    · next v r =>
      cases hv : is2 v with
      | true => rw [hv] at h; cases h
      | false => rw [hv] at h; cases h; have := e1 (z := 1) ho; subst this; exact lv_dup hx hb hd (kv_cat1 hv) k
    · cases h
  case pop =>
    simp only [opS] at h
    split at h
    · next v r =>
      cases hv : is2 v with
      | true => rw [hv] at h; cases h
      | false => rw [hv] at h; cases h; have := e1 (z := 1) ho; subst this; exact lv_pop hx hb hd (kv_cat1 hv) k
    · cases h
  case dup_x1 =>
    simp only [opS] at h
    split at h
    · next v u r =>
      cases hv : is2 v with
      | true => rw [hv] at h; cases h
      | false =>
        cases hu : is2 u with
        | true => rw [hv, hu] at h; cases h
        | false => rw [hv, hu] at h; cases h; have := e1 (z := 1) ho; subst this; exact lv_dup_x1 hx hb hd (kv_cat1 hv) (kv_cat1 hu) k
    · cases h
  case dup2 =>
    simp only [opS] at h
    split at h
    · next v r =>
      cases hv : is2 v with
      | true => rw [hv] at h; cases h; have := e1 (z := 1) ho; subst this; exact lv_dup2_2 hx hb hd (kv_cat2 hv) k
      | false =>
        rw [hv] at h
        simp only [cond_false] at h
        split at h
        · next u r2 =>
          cases hu : is2 u with
          | true => rw [hu] at h; cases h
          | false => rw [hu] at h; cases h; have := e1 (z := 1) ho; subst this; exact lv_dup2_11 hx hb hd (kv_cat1 hv) (kv_cat1 hu) k
        · cases h
    · cases h
set_option maxHeartbeats 4000000 in
theorem opL_ok (hx : p.tables.exec = Jvm.exec) (hb : c.code = cc) {nL : Nat} {i : Instr} {lv lv' : Lv} {st st' : St} (h : opL i lv st = some (lv', st')) (hd : decode cc pc = .ok (i, n)) (ho : okIns pc i n = true) (hlen : lv.length = nL) (hl : lv_has ls nL (klv ad lv))
    (k : ∀ ls' : Array Slot, lv'.length = nL → lv_has ls' nL (klv ad lv') → W p l e R s m args below meth c H locs cells slots Q (F0 m (pc + n) ls' (st'.map (kv ad)))) : W p l e R s m args below meth c H locs cells slots Q (F0 m pc ls (st.map (kv ad))) := by
  have e1 : ∀ {z : Nat}, Nat.beq n z = true → n = z := fun h => Nat.eq_of_beq_eq_true h
  have e2 : ∀ {a b : Nat}, Nat.blt a b = true → a < b := fun h => Nat.le_of_ble_eq_true h
  cases i
  all_goals first
    | (exfalso; simp [opL] at h; done)
    | skip
  case iload v => simp only [opL] at h; split at h <;> cases h; next x hv => have := e1 (z := 2) ho; subst this; exact lv_iload hx hb hd (lv_rd hl hv) (k ls hlen hl)
  case iload_n v => simp only [opL] at h; split at h <;> cases h; next x hv => have := e1 (z := 1) ho; subst this; exact lv_iload_n hx hb hd rfl (lv_rd hl hv) (k ls hlen hl)
  case lload v => simp only [opL] at h; split at h <;> cases h; next x hv => have := e1 (z := 2) ho; subst this; exact lv_lload hx hb hd (lv_rd hl hv) (k ls hlen hl)
  case lload_n v => simp only [opL] at h; split at h <;> cases h; next x hv => have := e1 (z := 1) ho; subst this; exact lv_lload_n hx hb hd rfl (lv_rd hl hv) (k ls hlen hl)
  case aload v => simp only [opL] at h; split at h <;> cases h; next x hv => have := e1 (z := 2) ho; subst this; exact lv_aload hx hb hd (lv_rd hl hv) (k ls hlen hl)
  case aload_n v => simp only [opL] at h; split at h <;> cases h; next x hv => have := e1 (z := 1) ho; subst this; exact lv_aload_n hx hb hd rfl (lv_rd hl hv) (k ls hlen hl)
  case istore v =>
    simp only [opL] at h
    split at h
    · next x r =>
      cases hv : Nat.blt v lv.length with
      | false => rw [hv] at h; cases h
      | true => rw [hv] at h; cases h; have := e1 (z := 2) ho; subst this; exact lv_istore hx hb hd hl (hlen ▸ e2 hv) rfl (fun ls' h' => k ls' (stI_len.trans hlen) (lv_incl h' st_incl))
    · cases h
  case istore_n v =>
    simp only [opL] at h
    split at h
    · next x r =>
      cases hv : Nat.blt v.val lv.length with
      | false => rw [hv] at h; cases h
      | true => rw [hv] at h; cases h; have := e1 (z := 1) ho; subst this; exact lv_istore_n hx hb hd rfl hl (hlen ▸ e2 hv) rfl (fun ls' h' => k ls' (stI_len.trans hlen) (lv_incl h' st_incl))
    · cases h
  case astore v =>
    simp only [opL] at h
    split at h
    · next x r =>
      cases hv : Nat.blt v lv.length with
      | false => rw [hv] at h; cases h
      | true => rw [hv] at h; cases h; have := e1 (z := 2) ho; subst this; exact lv_astore hx hb hd hl (hlen ▸ e2 hv) rfl (fun ls' h' => k ls' (stI_len.trans hlen) (lv_incl h' st_incl))
    · cases h
  case astore_n v =>
    simp only [opL] at h
    split at h
    · next x r =>
      cases hv : Nat.blt v.val lv.length with
      | false => rw [hv] at h; cases h
      | true => rw [hv] at h; cases h; have := e1 (z := 1) ho; subst this; exact lv_astore_n hx hb hd rfl hl (hlen ▸ e2 hv) rfl (fun ls' h' => k ls' (stI_len.trans hlen) (lv_incl h' st_incl))
    · cases h
  case lstore v =>
    simp only [opL] at h
    split at h
    · next x r =>
      cases hv : Nat.blt (v + 1) lv.length with
      | false => rw [hv] at h; cases h
      | true => rw [hv] at h; cases h; have := e1 (z := 2) ho; subst this; exact lv_lstore hx hb hd hl (hlen ▸ e2 hv) rfl (fun ls' h' => k ls' (by simp [stL, stI_len, hlen]) (lv_incl h' st_inclL))
    · cases h
  case lstore_n v =>
    simp only [opL] at h
    split at h
    · next x r =>
      cases hv : Nat.blt (v.val + 1) lv.length with
      | false => rw [hv] at h; cases h
      | true => rw [hv] at h; cases h; have := e1 (z := 1) ho; subst this; exact lv_lstore_n hx hb hd rfl hl (hlen ▸ e2 hv) rfl (fun ls' h' => k ls' (by simp [stL, stI_len, hlen]) (lv_incl h' st_inclL))
    · cases h
  case iinc v q =>
    simp only [opL] at h
    split at h
    · next x hv =>
      cases h
      simp only [okIns, Bool.and_eq_true, decide_eq_true_eq] at ho
      have := e1 (z := 3) ho.1; subst this
      obtain ⟨j, hj⟩ := List.getElem?_of_mem (klv_mem.mpr ⟨_, hv, rfl⟩ : (v, kv ad (.int x)) ∈ klv ad lv)
      exact lv_iinc hx hb hd hl (k := j) hj (by rw [ho.2]) (hlen ▸ (List.getElem?_eq_some_iff.mp hv).1) rfl (fun ls' h' => k ls' (stI_len.trans hlen) (lv_incl h' st_incl))
    · cases h
end SND
