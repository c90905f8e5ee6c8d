/-! THE LAW FROM ITS ENTRY -/
theorem dL_law_0 : decode cL_law 0 = .ok (.new 7, 3) := by decide +kernel
theorem dL_law_3 : decode cL_law 3 = .ok (.dup, 1) := by decide +kernel
theorem dL_law_4 : decode cL_law 4 = .ok (.invokespecial 9, 3) := by decide +kernel
theorem dL_law_7 : decode cL_law 7 = .ok (.astore_n 1, 1) := by decide +kernel
theorem dL_law_8 : decode cL_law 8 = .ok (.new 10, 3) := by decide +kernel
theorem dL_law_11 : decode cL_law 11 = .ok (.dup, 1) := by decide +kernel
theorem dL_law_12 : decode cL_law 12 = .ok (.invokespecial 12, 3) := by decide +kernel
theorem dL_law_15 : decode cL_law 15 = .ok (.astore_n 2, 1) := by decide +kernel
theorem dL_law_16 : decode cL_law 16 = .ok (.iconst 0, 1) := by decide +kernel
theorem dL_law_17 : decode cL_law 17 = .ok (.istore_n 3, 1) := by decide +kernel
theorem ret_law {p : Program} {l : Launch} {e : Env} {s : State} {m : MethodId} {below : List Frame} {meth : Method} {c : Code} {b : Nat} {D : va_G} {ad : Nat → Nat} {cA : Nat → ClassId} {I0 : Nat → Nat → Int32} (hx : p.tables.exec = Jvm.exec) (hb : c.code = code) (hr : meth.sig.returnType = ret) (hlocks : meth.locks = false) {pc : Nat} {lv : Lv} {st : St} {I : I2} {J : J2} {r : Option Value} (h : retP Law pc st = some r) (hq : QLaw r I J) : Wr p l e room_1 s m #[Value.ref b] below meth c 78 61290 (lw_Z below #[Value.ref b] s) D ad cA (fun q => s.heap.size ≤ q) I0 Law pc lv st I J := by
  intro H locs ls hP hS hlen hl hfr
  refine va_forget hS.2.2 ?_
  refine W.widen (k := 600000) (n := 7302250) (Nat.le_of_ble_eq_true rfl) (Nat.le_of_ble_eq_true rfl) ?_
  have hq1 : r = some (.int 1) := hq
  subst hq1
  unfold retP at h
  split at h
  · split at h
    · cases h
    · cases h
  · split at h
    · cases h
    · cases h
  · next n hf =>
    obtain ⟨hd, ho⟩ := fetch_ok hf
    have e3 : n = 1 := Nat.eq_of_beq_eq_true (show Nat.beq n 1 = true from ho)
    subst e3
    split at h
    · next x hrt => cases h; exact lw_ret hx hb hr hlocks hd
    · next x hrt =>
      split at h
      · cases h; exact lw_ret hx hb hr hlocks hd
      · cases h
    · next x hrt =>
      split at h
      · cases h; exact lw_ret hx hb hr hlocks hd
      · cases h
    · cases h
  · cases h
set_option maxHeartbeats 8000000 in
/-- from the loop on: the walked machine's law -/
theorem law_runs {p : Program} {e : Env} {s : State} {m : MethodId} {below : List Frame} {meth : Method} {c : Code} (l : Launch) {b L : Nat} {xs : Nat → Int32} (hL : L ≤ 3072) (C0 : lw_At p s m meth c b L xs) {D : va_G} {cA : Nat → ClassId} {ad : Nat → Nat} (hK : va_K D vwCl (tysA cA) s) (hE : Exw ad (fun q => s.heap.size ≤ q) s) (hW : WDp ad (fun q => s.heap.size ≤ q)) (h100 : ad 100 = b) : Wr p l e room_1 s m #[Value.ref b] below meth c 78 61290 (lw_Z below #[Value.ref b] s) D ad cA (fun q => s.heap.size ≤ q) (Ist L xs) Law 18 [some (.ref 100), some (.ref 0), some (.ref 57), some (.int 0)] [] (Ist L xs) Jst := by
  obtain ⟨hx, hb, hr, hml, hown, hts0, hX, hbl, hlocks, hgv⟩ := id C0
  have hts : ∀ w ∈ lw_good, w.before #[Value.ref b] s = true := fun w h => hts0 w (good_w h).1
  have hscr : ScrOK (owM Law) ad (fun q => s.heap.size ≤ q) s (Ist L xs) := by
    intro _
    refine ⟨L, xs, by omega, by rw [h100]; exact hX, by rw [h100]; exact hbl, by rw [h100]; exact Nat.not_le.mpr hbl, rfl, rfl⟩
  have hno : ∀ {P : Prop}, owM Law = 3 → P := fun h => absurd h (by decide)
  refine law_all hL ini_start (I := Ist L xs) (J := Jst) rfl _ ⟨
    fun pc lv st I1 J1 pc' lv' st' I' J' hs k => step_ok hx hb hml hown hts hK hW ⟨Nat.le_of_ble_eq_true rfl, Nat.le_of_ble_eq_true rfl⟩ hscr (fun h => hno h) (fun h => hno h) hs k,
    fun pc lv st I1 J1 r hr1 hq => ret_law hx hb hr hlocks hr1 hq,
    fun pc lv st I1 J1 M' as1 rest hc k => call_ok (d := 12) hx hb hml hown hts hK hW hE (Nat.le_of_ble_eq_true rfl) (Nat.le_of_ble_eq_true rfl) (Nat.le_of_ble_eq_true rfl) (Nat.le_of_ble_eq_true rfl) (fun M2 as2 I3 J3 Q2 hl2 hc2 => met_ok hW l 12 M2 as2 I3 J3 Q2 hl2 hc2) hc k,
    fun pc lv lv' st I1 J1 hle2 k => forget_ok hle2 k⟩
set_option maxHeartbeats 8000000 in
set_option maxRecDepth 100000 in
theorem whole_start {p : Program} {e : Env} {s : State} {m : MethodId} {below : List Frame} {meth : Method} {c : Code} (l : Launch) (hflags : l.flags = flags0) {b L : Nat} {xs : Nat → Int32} (hL : L ≤ 3072) (C0 : lw_At p s m meth c b L xs) : W p l e room_1 s m #[Value.ref b] below meth c s.heap [] 0 0 (lw_Z below #[Value.ref b] s) (entryFrame m ([Value.ref b] : List Value).toArray 4) := by
  obtain ⟨hx, hb, hr, hml, hown, hts0, hX, hbl, hlocks, hgv⟩ := id C0
  have hts : ∀ w ∈ lw_good, w.before #[Value.ref b] s = true := fun w h => hts0 w (good_w h).1
  have hA : ∀ q : Nat, s.heap.size ≤ q → (fun q : Nat => s.heap.size ≤ q) q := fun _ h => h
  obtain ⟨adK, adV, hvk, hev⟩ := str_start hgv
  obtain ⟨D, cA, hK⟩ := k_start hts0
  have hEB : EBx s := ⟨Nw_start rfl hts0 (List.mem_of_getElem? (i := 83) (by decide +kernel)), Nw_start rfl hts0 (List.mem_of_getElem? (i := 163) (by decide +kernel)), Nw_start rfl hts0 (List.mem_of_getElem? (i := 264) (by decide +kernel)), va_AO.of (hts0 (.arrayOver (.object "SecretBox$Sheet")) (List.mem_of_getElem? (i := 262) (by decide +kernel)))⟩
  have hS : va_S (fun q : Nat => s.heap.size ≤ q) s.heap s.heap [] := va_S.rf
  have hP : va_P D vwCl [] s.heap := fun k q h => by simp at h
  have hD : va_D (fun q : Nat => s.heap.size ≤ q) [] := ⟨fun i j p q h => by simp at h, fun k q h => by simp at h⟩
  have hl := lv_entry ([.ref b]) (n := 4) (Nat.le_of_ble_eq_true rfl)
  rw [lg_entry_eq]
  generalize (lg_sl ([.ref b]) ++ List.replicate (4 - (lg_sl ([.ref b])).length) Slot.unset).toArray = ls at hl ⊢
  have hl : lv_has ls 4 [(0, .ref b)] := hl
  have hmls : c.maxLocals = ls.size := hml.trans hl.1.symm
  refine st_new (c2 := 5) (C2 := RX5) (T2 := TX5) (N2 := 8) (f2 := z_X5) (own := RL) hx hb hts hown hK hP hD hS hA rfl tyX5 tyX5_ok (good_at (i := 73) (by decide +kernel) rfl) (good_at (i := 74) (by decide +kernel) rfl) (good_at (i := 58) (by decide +kernel) rfl) def_X5 (Nat.le_of_ble_eq_true rfl) (Nat.le_of_ble_eq_true rfl) dL_law_0 dL_law_3 (fun sb H hP hD hS => ?_)
  refine st_call (Cto.run (As := []) (rest := [.ref sb]) (own := RL) (k_X5 l D cA sb) hx hb hmls hown hts hK hP EBx.blind (fun U h => EBx.warm h hEB) (.inr (good_at (i := 75) (by decide +kernel) rfl)) (good_at (i := 76) (by decide +kernel) rfl) (good_at (i := 58) (by decide +kernel) rfl) (good_at (i := 77) (by decide +kernel) rfl) rfl ⟨by decide, by decide, (by decide +kernel : _ = some 0)⟩ rfl ⟨(Nat.le_of_ble_eq_true rfl), (Nat.le_of_ble_eq_true rfl)⟩ (Nat.le_of_ble_eq_true rfl) (Nat.le_of_ble_eq_true rfl) (Nat.le_of_ble_eq_true rfl) dL_law_4) hP hD hS hA (fun qs H locs hP hD hS => ?_)
  refine lv_astore_n hx hb dL_law_7 rfl hl (by decide) rfl (fun ls2 hl2 => ?_)
  have hl2 : lv_has ls2 4 [(1, .ref sb), (0, .ref b)] := hl2
  have hmls2 : c.maxLocals = ls2.size := hml.trans hl2.1.symm
  refine st_new (c2 := 6) (C2 := RX6) (T2 := TX6) (N2 := 28) (f2 := z_X6) (own := RL) hx hb hts hown hK hP hD hS hA rfl tyX6 tyX6_ok (good_at (i := 823) (by decide +kernel) rfl) (good_at (i := 824) (by decide +kernel) rfl) (good_at (i := 64) (by decide +kernel) rfl) def_X6 (Nat.le_of_ble_eq_true rfl) (Nat.le_of_ble_eq_true rfl) dL_law_8 dL_law_11 (fun md H hP hD hS => ?_)
  refine st_call (Cto.run (As := []) (rest := [.ref md]) (own := RL) (k_X6 l D cA md) hx hb hmls2 hown hts hK hP (fun _ _ _ _ h => h) (fun _ _ => trivial) (.inr (good_at (i := 825) (by decide +kernel) rfl)) (good_at (i := 826) (by decide +kernel) rfl) (good_at (i := 64) (by decide +kernel) rfl) (good_at (i := 827) (by decide +kernel) rfl) rfl ⟨by decide, by decide, (by decide +kernel : _ = some 0)⟩ rfl ⟨(Nat.le_of_ble_eq_true rfl), (Nat.le_of_ble_eq_true rfl)⟩ (Nat.le_of_ble_eq_true rfl) (Nat.le_of_ble_eq_true rfl) (Nat.le_of_ble_eq_true rfl) dL_law_12) hP hD hS hA (fun g H locs hP hD hS => ?_)
  refine lv_astore_n hx hb dL_law_15 rfl hl2 (by decide) rfl (fun ls3 hl3 => ?_)
  have hl3 : lv_has ls3 4 [(2, .ref md), (1, .ref sb), (0, .ref b)] := hl3
  refine lv_iconst hx hb dL_law_16 (v := 0) (by decide) ?_
  refine lv_istore_n hx hb dL_law_17 rfl hl3 (by decide) rfl (fun ls4 hl4 => ?_)
  have hl4 : lv_has ls4 4 [(3, .int 0), (2, .ref md), (1, .ref sb), (0, .ref b)] := hl4
  have hP : va_P D vwCl (w_X5 cA sb qs ++ w_X6 cA md g) H := hP
  have hD : va_D (fun q : Nat => s.heap.size ≤ q) (w_X5 cA sb qs ++ w_X6 cA md g) := hD
  have hws : w_X5 cA sb qs ++ w_X6 cA md g = WS (adS sb md b qs g adK adV) cA (Ist L xs) Jst := by
    apply List.ext_getElem?
    intro k
    by_cases hk : k < 78
    · rw [ws_start cA L xs sb md b qs g adK adV k hk, WS_get hk]
    · rw [List.getElem?_eq_none (by rw [wsl_start]; omega), List.getElem?_eq_none (by rw [WS_len]; exact Nat.not_lt.mp hk)]
  rw [hws] at hP hD
  have hW : WDp (adS sb md b qs g adK adV) (fun q => s.heap.size ≤ q) := ⟨fun i j hi hj h => hD.1 i j _ _ (WS_get hi) (WS_get hj) h, fun i hi => hD.2 i _ (WS_get hi)⟩
  have hE : Exw (adS sb md b qs g adK adV) (fun q => s.heap.size ≤ q) s := exw_start hts0 hgv hvk hev rfl rfl rfl rfl
  refine W.widen (k := 78) (n := 61290) (Nat.le_of_ble_eq_true rfl) (Nat.le_of_ble_eq_true rfl) ?_
  refine law_runs l hL C0 hK hE hW rfl H locs ls4 hP hS rfl (lv_incl hl4 ?_) FrI.rf
  rintro ⟨i, w⟩ hq
  obtain ⟨v, hv, rfl⟩ := klv_mem.mp hq
  match i, hv with
  | 0, hv => cases hv; exact List.mem_of_getElem? (i := 3) rfl
  | 1, hv => cases hv; exact List.mem_of_getElem? (i := 2) rfl
  | 2, hv => cases hv; exact List.mem_of_getElem? (i := 1) rfl
  | 3, hv => cases hv; exact List.mem_of_getElem? (i := 0) rfl
  | k + 4, hv => simp at hv
