/-! WHAT HOLDS AT THE START: the texts, the classes, the first memory (by wip/whole/gen/mkstart.py) -/
abbrev tmS : Nat → Term := fun i => .string "SecretBox$Tape" (([45, 64] : List Nat).getD i 0)
abbrev bytS : List (List Int32) := [[112, 115, 114, 108, 98], [60, 62, 61]]
set_option maxRecDepth 100000 in
theorem str_start {s : State} {b : Nat} (hgv : (Jvm.Cond.and given_1 narrow_1).before #[Value.ref b] s = true) : ∃ adK adV : Nat → Nat, vk_S 2 [5, 3] bytS adK adV (fun q => s.heap.size ≤ q) s s.heap ∧ ∀ i : Nat, i < 2 → (tmS i).eval #[Value.ref b] s none [] s = some (.ref (adK i)) := by
  have hs := flat_of_before _ hgv
  refine vk_Sof (tm := tmS) (args := #[Value.ref b]) ?_ ?_ ?_ ?_ ?_ ?_ ?_ (fun a h => Nat.not_le.mpr h)
  · intro i hi
    match i, hi with
    | 0, _ => decide
    | 1, _ => decide
  · intro i hi
    match i, hi with
    | 0, _ => exact hs (.exactly (.string "SecretBox$Tape" 45) "java/lang/String") (by decide +kernel)
    | 1, _ => exact hs (.exactly (.string "SecretBox$Tape" 64) "java/lang/String") (by decide +kernel)
  · intro i hi
    match i, hi with
    | 0, _ => exact hs (.eq (.field (.string "SecretBox$Tape" 45) "java/lang/String" "coder" "B") (.int 0)) (by decide +kernel)
    | 1, _ => exact hs (.eq (.field (.string "SecretBox$Tape" 64) "java/lang/String" "coder" "B") (.int 0)) (by decide +kernel)
  · intro i hi
    match i, hi with
    | 0, _ => exact hs (.arrayOf (.field (.string "SecretBox$Tape" 45) "java/lang/String" "value" "[B") .byte) (by decide +kernel)
    | 1, _ => exact hs (.arrayOf (.field (.string "SecretBox$Tape" 64) "java/lang/String" "value" "[B") .byte) (by decide +kernel)
  · intro i hi
    match i, hi with
    | 0, _ => exact hs (.eq (.length (.field (.string "SecretBox$Tape" 45) "java/lang/String" "value" "[B")) (.int 5)) (by decide +kernel)
    | 1, _ => exact hs (.eq (.length (.field (.string "SecretBox$Tape" 64) "java/lang/String" "value" "[B")) (.int 3)) (by decide +kernel)
  · intro i hi j hj
    match i, hi with
    | 0, _ =>
      have hj : j < 5 := hj
      match j, hj with
      | 0, _ => exact hs (.eq (.elem (.field (.string "SecretBox$Tape" 45) "java/lang/String" "value" "[B") (.int 0)) (.int 112)) (by decide +kernel)
      | 1, _ => exact hs (.eq (.elem (.field (.string "SecretBox$Tape" 45) "java/lang/String" "value" "[B") (.int 1)) (.int 115)) (by decide +kernel)
      | 2, _ => exact hs (.eq (.elem (.field (.string "SecretBox$Tape" 45) "java/lang/String" "value" "[B") (.int 2)) (.int 114)) (by decide +kernel)
      | 3, _ => exact hs (.eq (.elem (.field (.string "SecretBox$Tape" 45) "java/lang/String" "value" "[B") (.int 3)) (.int 108)) (by decide +kernel)
      | 4, _ => exact hs (.eq (.elem (.field (.string "SecretBox$Tape" 45) "java/lang/String" "value" "[B") (.int 4)) (.int 98)) (by decide +kernel)
    | 1, _ =>
      have hj : j < 3 := hj
      match j, hj with
      | 0, _ => exact hs (.eq (.elem (.field (.string "SecretBox$Tape" 64) "java/lang/String" "value" "[B") (.int 0)) (.int 60)) (by decide +kernel)
      | 1, _ => exact hs (.eq (.elem (.field (.string "SecretBox$Tape" 64) "java/lang/String" "value" "[B") (.int 1)) (.int 62)) (by decide +kernel)
      | 2, _ => exact hs (.eq (.elem (.field (.string "SecretBox$Tape" 64) "java/lang/String" "value" "[B") (.int 2)) (.int 61)) (by decide +kernel)
  · intro i j hi hj hij
    match i, j, hi, hj with
    | 0, 0, _, _ => exact absurd rfl hij
    | 1, 1, _, _ => exact absurd rfl hij
    | 0, 1, _, _ => exact Or.inl (hs (.not (.eq (.string "SecretBox$Tape" 45) (.string "SecretBox$Tape" 64))) (by decide +kernel))
    | 1, 0, _, _ => exact Or.inr (hs (.not (.eq (.string "SecretBox$Tape" 45) (.string "SecretBox$Tape" 64))) (by decide +kernel))
theorem Nw_start {s : State} {b : Nat} {w : Jvm.Cond} (hw : w.onTables = true) (hts : ∀ w ∈ lw_tbl, w.before #[Value.ref b] s = true) (h : w ∈ lw_tbl) : va_Nw w s := va_Nw.of hw (hts w h)
theorem exw_start {s : State} {b : Nat} {ad : Nat → Nat} {adK adV : Nat → Nat} (hts : ∀ w ∈ lw_tbl, w.before #[Value.ref b] s = true) (hgv : (Jvm.Cond.and given_1 narrow_1).before #[Value.ref b] s = true) (h : vk_S 2 [5, 3] bytS adK adV (fun q => s.heap.size ≤ q) s s.heap) (he : ∀ i : Nat, i < 2 → (tmS i).eval #[Value.ref b] s none [] s = some (.ref (adK i))) (h1 : ad 201 = adK 0) (h2 : ad 202 = adK 1) (h3 : ad 211 = adV 0) (h4 : ad 212 = adV 1) : Exw ad (fun q => s.heap.size ≤ q) s := by
  have hs := flat_of_before _ hgv
  refine ⟨⟨fun i hi => ?_, fun i j hi hj e9 => ?_⟩, ?_, ?_, ?_, Nw_start rfl hts (List.mem_of_getElem? (i := 285) (by decide +kernel))⟩
  · match i, hi with
    | 0, _ => exact (show (fun i => ad (201 + i)) 0 = adK 0 from h1) ▸ (show (fun i => ad (211 + i)) 0 = adV 0 from h3) ▸ h.1 0 (by decide)
    | 1, _ => exact (show (fun i => ad (201 + i)) 1 = adK 1 from h2) ▸ (show (fun i => ad (211 + i)) 1 = adV 1 from h4) ▸ h.1 1 (by decide)
  · refine h.2 i j hi hj ?_
    match i, j, hi, hj with
    | 0, 0, _, _ => rfl
    | 1, 1, _, _ => rfl
    | 0, 1, _, _ => rw [← h1, ← h2]; exact e9
    | 1, 0, _, _ => rw [← h1, ← h2]; exact e9
  · rw [h1]; exact vk_R.of (hts (.stringRef "SecretBox$Tape" 45 "psrlb") (List.mem_of_getElem? (i := 419) (by decide +kernel))) (he 0 (by decide))
  · rw [h2]; exact vk_R.of (hts (.stringRef "SecretBox$Tape" 64 "<>=") (List.mem_of_getElem? (i := 530) (by decide +kernel))) (he 1 (by decide))
  · exact va_Zof (args := #[Value.ref b]) (hts _ (List.mem_of_getElem? (i := 437) (by decide +kernel))) (hts _ (List.mem_of_getElem? (i := 30) (by decide +kernel))) (va_eqt (hs (.eq (.static "java/lang/String" "COMPACT_STRINGS" "Z") (.int 1)) (by decide +kernel))) (fun a h => Nat.not_le.mpr h)
/-- the first memory -/
def Ist (L : Nat) (xs : Nat → Int32) (a k : Nat) : Int32 := bif Nat.beq a 100 then xs k else bif Nat.beq a 101 then nI L else bif (Nat.beq a 1 || Nat.beq a 11 || Nat.beq a 21) && (Nat.beq k 11 || Nat.beq k 17) then 1 else 0
def Jst (_ _ : Nat) : Int64 := 0
def adS (sb w b : Nat) (qs adK adV : Nat → Nat) (a : Nat) : Nat := bif Nat.ble 211 a then adV (a - 211) else bif Nat.ble 201 a then adK (a - 201) else bif Nat.ble 58 a then b else bif Nat.ble 57 a then w else bif Nat.ble 1 a then qs a else sb
def V00 : Bv := (Bx0, (0, 0, 0, 1), [])
theorem ini_start {L : Nat} {xs : Nat → Int32} : RS_z V00 none (0, fun _ => 0) (fun _ => none) (Ist L xs) Jst := by
  have a1 : ∀ k, k ≠ 11 → k ≠ 17 → Ist L xs 1 k = 0 := by
    intro k h1 h2
    have e1 : Nat.beq k 11 = false := by cases h : Nat.beq k 11 with
      | true => exact absurd (Nat.eq_of_beq_eq_true h) h1
      | false => rfl
    have e2 : Nat.beq k 17 = false := by cases h : Nat.beq k 17 with
      | true => exact absurd (Nat.eq_of_beq_eq_true h) h2
      | false => rfl
    show (bif (Nat.beq k 11 || Nat.beq k 17) then (1 : Int32) else 0) = 0
    rw [e1, e2]; rfl
  refine ⟨⟨⟨WFB_0, Or.inl ⟨rfl, rfl⟩, okS_0, by decide, by decide, Nat.zero_le _, fun x hx => (by cases hx)⟩, fun VK q => (by cases q), ⟨Nat.zero_le _, fun k hk => absurd hk (Nat.not_lt_zero k)⟩, fun j _ => WFS_none⟩, ⟨?_, Or.inl rfl, rfl, fun VK q => (by cases q), ⟨rfl, fun k hk => absurd hk (Nat.not_lt_zero k)⟩, fun j hj => ?_⟩⟩
  · exact ⟨⟨a1 2 (by decide) (by decide), a1 7 (by decide) (by decide), fun p hp => absurd hp (Nat.not_lt_zero p), fun p hp => absurd hp (Nat.not_lt_zero p)⟩, a1 8 (by decide) (by decide), a1 9 (by decide) (by decide), a1 10 (by decide) (by decide), rfl, a1 15 (by decide) (by decide), 0, by decide, a1 16 (by decide) (by decide), fun k x hx => (nil_get hx).elim⟩
  · match j, hj with
    | 0, _ => rfl
    | 1, _ => rfl
    | 2, _ => rfl
    | 3, _ => rfl
theorem sh_start {ad : Nat → Nat} : (fun k => (R0 48 k).map ad) = va_up (va_up (va_up (va_up (fun _ => none) 0 (some (ad 49))) 1 (some (ad 51))) 2 (some (ad 53))) 3 (some (ad 55)) := by
  funext k
  match k with
  | 0 => rfl
  | 1 => rfl
  | 2 => rfl
  | 3 => rfl
  | k + 4 =>
    have e1 : R0 48 (k + 4) = none := rfl
    rw [e1]
    rfl
abbrev wRow (cA : Nat → ClassId) (w : Nat) : va_W := [(w, .inl (cA 0, 40, .inl (fun _ => 0)))]
set_option maxHeartbeats 8000000 in
theorem ws_start (cA : Nat → ClassId) (L : Nat) (xs : Nat → Int32) (sb w b : Nat) (qs adK adV : Nat → Nat) : ∀ k, k < 58 → (w_X5 cA sb qs ++ wRow cA w)[k]? = some (adS sb w b qs adK adV k, CE (adS sb w b qs adK adV) cA (Ist L xs) Jst k) := by
  intro k hk
  match k, hk with
  | 0, _ => rfl
  | 1, _ => rfl
  | 2, _ => rfl
  | 3, _ => rfl
  | 4, _ => rfl
  | 5, _ => rfl
  | 6, _ => rfl
  | 7, _ => rfl
  | 8, _ => rfl
  | 9, _ => rfl
  | 10, _ => rfl
  | 11, _ => rfl
  | 12, _ => rfl
  | 13, _ => rfl
  | 14, _ => rfl
  | 15, _ => rfl
  | 16, _ => rfl
  | 17, _ => rfl
  | 18, _ => rfl
  | 19, _ => rfl
  | 20, _ => rfl
  | 21, _ => rfl
  | 22, _ => rfl
  | 23, _ => rfl
  | 24, _ => rfl
  | 25, _ => rfl
  | 26, _ => rfl
  | 27, _ => rfl
  | 28, _ => rfl
  | 29, _ => rfl
  | 30, _ => rfl
  | 31, _ => rfl
  | 32, _ => rfl
  | 33, _ => rfl
  | 34, _ => rfl
  | 35, _ => rfl
  | 36, _ => rfl
  | 37, _ => rfl
  | 38, _ => rfl
  | 39, _ => rfl
  | 40, _ => rfl
  | 41, _ => rfl
  | 42, _ => rfl
  | 43, _ => rfl
  | 44, _ => rfl
  | 45, _ => rfl
  | 46, _ => rfl
  | 47, _ => rfl
  | 48, _ =>
    have e1 : CE (adS sb w b qs adK adV) cA (Ist L xs) Jst 48 = .inl (cA 3, 4, .inr (.inr (.inr (.inr (fun k => (R0 48 k).map (adS sb w b qs adK adV)))))) := rfl
    rw [e1, sh_start]
    rfl
  | 49, _ => rfl
  | 50, _ => rfl
  | 51, _ => rfl
  | 52, _ => rfl
  | 53, _ => rfl
  | 54, _ => rfl
  | 55, _ => rfl
  | 56, _ => rfl
  | 57, _ => rfl
  | k + 58, hk => exact absurd hk (by omega)
theorem wsl_start (cA : Nat → ClassId) (sb w : Nat) (qs : Nat → Nat) : (w_X5 cA sb qs ++ wRow cA w).length = 58 := rfl
theorem k_start {s : State} {b : Nat} (hts : ∀ w ∈ lw_tbl, w.before #[Value.ref b] s = true) : ∃ (D : va_G) (cA : Nat → ClassId), va_K D vwCl (tysA cA) s := by
  have inst : ∀ c : Nat, ∃ z : ClassId × (Nat → Nat), ∀ q : vw_C, vwCl[c]? = some q → u_Kn s q.1 q.2.1 q.2.2 z.1 z.2 := by
    intro c
    cases hc : vwCl[c]? with
    | none => exact ⟨(0, fun _ => 0), fun q h => by cases h⟩
    | some q =>
      obtain ⟨C, T, N⟩ := q
      have hi : ∃ n, (Jvm.Cond.instantiable C n).before #[Value.ref b] s = true := by
        match c, hc with
        | 0, hc => cases hc; exact ⟨_, hts (.instantiable RX0 18) (List.mem_of_getElem? (i := 47) (by decide +kernel))⟩
        | 1, hc => cases hc; exact ⟨_, hts (.instantiable RX1 9) (List.mem_of_getElem? (i := 191) (by decide +kernel))⟩
        | 2, hc => cases hc; exact ⟨_, hts (.instantiable RX2 4) (List.mem_of_getElem? (i := 228) (by decide +kernel))⟩
        | 3, hc => cases hc; exact ⟨_, hts (.instantiable RX3 3) (List.mem_of_getElem? (i := 127) (by decide +kernel))⟩
        | 4, hc => cases hc; exact ⟨_, hts (.instantiable RX4 12) (List.mem_of_getElem? (i := 144) (by decide +kernel))⟩
        | 5, hc => cases hc; exact ⟨_, hts (.instantiable RX5 8) (List.mem_of_getElem? (i := 39) (by decide +kernel))⟩
        | n + 6, hc => simp [vwCl] at hc
      obtain ⟨n, hn⟩ := hi
      obtain ⟨cC, iS, hk⟩ := u_known (C := C) (T := T) (N := N) hts (fun w hw => (good_w ((okC_all hc).1 w hw)).1) hn
      exact ⟨(cC, iS), fun q h => by cases h; exact hk⟩
  obtain ⟨z, hz⟩ := Classical.axiomOfChoice inst
  have ai : (Jvm.Cond.arrayClass .int).before #[Value.ref b] s = true := hts _ (List.mem_of_getElem? (i := 125) (by decide +kernel))
  have ac : (Jvm.Cond.arrayClass .char).before #[Value.ref b] s = true := hts _ (List.mem_of_getElem? (i := 142) (by decide +kernel))
  have al : (Jvm.Cond.arrayClass .long).before #[Value.ref b] s = true := hts _ (List.mem_of_getElem? (i := 247) (by decide +kernel))
  have ao : (Jvm.Cond.arrayOver (.object "SecretBox$Sheet")).before #[Value.ref b] s = true := hts _ (List.mem_of_getElem? (i := 227) (by decide +kernel))
  obtain ⟨c0, k0, p0, a1, a2, a3⟩ := Cond.arrayClass_spec ai
  obtain ⟨c1, k1, p1, b1, b2, b3⟩ := Cond.arrayClass_spec ac
  obtain ⟨c2, k2, p2, d1, d2, d3⟩ := Cond.arrayClass_spec al
  obtain ⟨p3, c3, k3, e1, -, e2, e3, e4⟩ := Cond.arrayOver_spec ao
  refine ⟨(fun c => (z c).1, fun c => (z c).2), fun k => ([c0, c1, c2, c3] : List ClassId).getD k c0, hz, ?_⟩
  intro k q hq
  match k, hq with
  | 0, hq => cases hq; exact ⟨fun n f => ⟨fun k h => (by cases h), k0, a2, p0, a3⟩, a1⟩
  | 1, hq => cases hq; exact ⟨fun n f => ⟨fun k h => (by cases h), k1, b2, p1, b3⟩, b1⟩
  | 2, hq => cases hq; exact ⟨fun n f => ⟨fun k h => (by cases h), k2, d2, p2, d3⟩, d1⟩
  | 3, hq => cases hq; exact ⟨fun n f => ⟨fun k h => (by cases h), k3, e2, p3, e3⟩, k3, p3, e2, e3, e1, e4⟩
  | k + 4, hq => simp at hq
