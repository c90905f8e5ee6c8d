/-! THE LAW FROM ITS ENTRY -/
theorem dL_law_0 : decode cL_law 0 = .ok (.new 10, 3) := by decide +kernel
theorem dL_law_3 : decode cL_law 3 = .ok (.dup, 1) := by decide +kernel
theorem dL_law_4 : decode cL_law 4 = .ok (.invokespecial 69, 3) := by decide +kernel
theorem dL_law_7 : decode cL_law 7 = .ok (.astore_n 1, 1) := by decide +kernel
theorem dL_law_8 : decode cL_law 8 = .ok (.bipush 40, 2) := by decide +kernel
theorem dL_law_10 : decode cL_law 10 = .ok (.newarray .int, 2) := by decide +kernel
theorem dL_law_12 : decode cL_law 12 = .ok (.astore_n 2, 1) := by decide +kernel
theorem dL_law_131 : decode cL_law 131 = .ok (.aload_n 1, 1) := by decide +kernel
theorem dL_law_132 : decode cL_law 132 = .ok (.aload_n 2, 1) := by decide +kernel
theorem dL_law_133 : decode cL_law 133 = .ok (.lload 4, 2) := by decide +kernel
theorem dL_law_135 : decode cL_law 135 = .ok (.invokestatic 89, 3) := by decide +kernel
def QLw : Post := fun r _ _ => r = some (.int 1)
section LWR
variable {p : Program} {l : Launch} {e : Env} {s : State} {m : MethodId} {below : List Frame} {meth : Method} {c : Code} {b L : Nat} {xs : Nat → Int32} {D : va_G} {ad : Nat → Nat} {cA : Nat → ClassId}
theorem ret_lawB {I0 : I2} (hx : p.tables.exec = Jvm.exec) (hb : c.code = code) (hr : meth.sig.returnType = ret) (hlocks : meth.locks = false) {pc : Nat} {lv : Lv} {st : St} {I : I2} {J : J2} {r : Option Value} (h : retP LawB pc lv st = some r) (hq : QLw r I J) : Wr p l e room_1 s m #[Value.ref b] below meth c 59 41470 (lw_Z below #[Value.ref b] s) 58 D ad cA (fun q => s.heap.size ≤ q) I0 LawB pc lv st I J := by
  intro H locs ls hP hS hlen hl hfr
  refine va_forget hS.2.2 ?_
  refine W.widen (k := 600000) (n := 7302250) (Nat.le_of_ble_eq_true rfl) (Nat.le_of_ble_eq_true rfl) ?_
  have hq1 : r = some (.int 1) := hq
  subst hq1
  have hM0 : Nat.beq LawB 0 = false := rfl
  unfold retP at h
  rw [hM0] at h
  simp only [cond_false] at h
  unfold retQ at h
  split at h
  · split at h
    · cases h
    · cases h
  · split at h
    · cases h
    · cases h
  · next n hf =>
    obtain ⟨hd, ho⟩ := fetch_ok hf
    have e3 : n = 1 := Nat.eq_of_beq_eq_true (show Nat.beq n 1 = true from ho)
    subst e3
    split at h
    · next x hrt => cases h; exact lw_ret hx hb hr hlocks hd
    · next x hrt =>
      split at h
      · cases h; exact lw_ret hx hb hr hlocks hd
      · cases h
    · next x hrt =>
      split at h
      · cases h; exact lw_ret hx hb hr hlocks hd
      · cases h
    · cases h
  · cases h
/-- a call that makes cells -/
theorem va_callQ1 {R : Room} {args : Array Value} {H : Heap} {locs : List Loc} {cells slots mc ms : Nat} {Q : State → Prop} {nW pc : Nat} {ls : Array Slot} {A : Nat → Prop} {J : J2} {rest st0 : List Value} {a : Array Value} {Q' : Post} {I : I2} (hr : va_Run p l e R s m args below meth c H locs cells slots mc ms (F0 m pc ls st0) rest (QW nW D ad cA A I Q' a) A) (hS : va_S A s.heap H locs)
    (kk : ∀ (r : Option Value) (I' : I2) (J' : J2) (H1 : Heap) (locs1 : List Loc), Q' r I' J' → FrI I I' → va_P D vwCl (WS nW ad cA I' J') H1 → va_S A s.heap H1 locs1 → W p l e R s m args below meth c H1 locs1 (cells + mc) (slots + ms) Q (F0 m (pc + 3) ls ((r.map (kv ad)).toList ++ rest))) : W p l e R s m args below meth c H locs cells slots Q (F0 m pc ls st0) := by
  intro T hT X
  obtain ⟨v, st₀, t, T', L, h0, X', hL, e1, e2, ⟨⟨r, I', J', hv, hq, hf, hp⟩, hz, hk⟩, st⟩ := hr T hT X
  cases hv
  rw [h0] at hz hk
  obtain ⟨t2, a1, b1⟩ := kk r I' J' T'.heap (locs ++ L) hq hf (by rw [e1]; exact hp)
    ⟨Nat.le_trans hS.1 (by rw [e1]; exact hz), fun q h1 h2 => by rw [e1, hk q (Nat.lt_of_lt_of_le h1 hS.1) h2]; exact hS.2.1 q h1 h2, fun q hq => by
      rcases List.mem_append.mp hq with h | h
      · exact hS.2.2 q h
      · exact hL q h⟩ T' rfl X'
  exact ⟨t2, st t2 a1, b1⟩
/-- the second half of the law, by the walked machine -/
theorem law_B {I0 : I2} {V : Bv} {t : Tpe} {S : Nat → Shv} {I : I2} {J : J2} (C0 : lw_At p s m meth c b L xs) (hK : va_K D vwCl (tysA cA) s) (hE : Exw ad (fun q => s.heap.size ≤ q) s) (hW : WDp 58 ad (fun q => s.heap.size ≤ q)) (hscr : ScrOK ad (fun q => s.heap.size ≤ q) s I0) (hR : RS_z V (some V) t S I J) (hw : W2_z V.B I) (hSc : Scr_z I) (h4 : V.B.pn ≤ 4) (h0 : 0 < V.B.pn) : Wr p l e room_1 s m #[Value.ref b] below meth c 59 41470 (lw_Z below #[Value.ref b] s) 58 D ad cA (fun q => s.heap.size ≤ q) I0 LawB 138 [some (.ref 100), some (.ref 0), some (.ref 57), none, some (.long (hsV_z V)), none, none, none, none, none, none, none] [.int 1] I J := by
  obtain ⟨hx, hb, hr, hml, hown, hts0, hX, hbl, hlocks, hgv⟩ := id C0
  have hts : ∀ w ∈ lw_good, w.before #[Value.ref b] s = true := fun w h => hts0 w (good_w h).1
  have hn : nOK 58 (owM LawB) := ⟨Nat.le_refl _, by decide, fun h => absurd h (by decide)⟩
  exact l_lawB_z (Q := QLw) (d := 11) (Nat.le_refl _) hR hw hSc h4 h0 (fun _ _ => rfl) _ ⟨
    fun pc lv st I1 J1 pc' lv' st' I' J' hs k => step_ok hx hb hml hown hts hK hW ⟨Nat.le_of_ble_eq_true rfl, Nat.le_of_ble_eq_true rfl⟩ hn hscr (ldc_ok hx hown hE) (idx_ok hx hown hts hE ⟨Nat.le_of_ble_eq_true rfl, Nat.le_of_ble_eq_true rfl⟩ (Nat.le_of_ble_eq_true rfl) (Nat.le_of_ble_eq_true rfl)) hs k,
    fun pc lv st I1 J1 r hr1 hq => ret_lawB hx hb hr hlocks hr1 hq,
    fun pc lv st I1 J1 M' as1 rest hc k => call_ok (d := 11) hx hb hml hown hts hK hW hn hscr hE (Nat.le_of_ble_eq_true rfl) (Nat.le_of_ble_eq_true rfl) (Nat.le_of_ble_eq_true rfl) (Nat.le_of_ble_eq_true rfl) (fun M2 as2 I3 J3 Q2 hl2 hc2 => met_ok hW (Nat.le_refl _) (by decide) l 11 M2 as2 I3 J3 Q2 hl2 hc2) hc k,
    fun pc lv lv' st I1 J1 hle2 k => forget_ok hle2 k⟩
theorem exA_of {pc : Nat} {lv : Lv} {st : St} {r : Option Value} (h : retP LawA pc lv st = some r) : pc = 131 ∧ st = [] ∧ ∃ x y t, lv = some (.ref 100) :: some (.ref 0) :: some (.ref 57) :: x :: some (.long y) :: t ∧ r = some (.long y) := by
  have hM0 : Nat.beq LawA 0 = true := rfl
  unfold retP at h
  rw [hM0] at h
  simp only [cond_true] at h
  unfold exA at h
  cases hp : Nat.beq pc PCC with
  | false => rw [hp] at h; cases h
  | true =>
    rw [hp] at h
    simp only [cond_true] at h
    have ep : pc = 131 := Nat.eq_of_beq_eq_true hp
    split at h
    · next a b c x y t =>
      cases hc : (Nat.beq a 100 && (Nat.beq b 0 && Nat.beq c 57)) with
      | false => rw [hc] at h; cases h
      | true =>
        rw [hc] at h
        simp only [cond_true] at h
        simp only [Bool.and_eq_true] at hc
        have e1 : a = 100 := Nat.eq_of_beq_eq_true hc.1
        have e2 : b = 0 := Nat.eq_of_beq_eq_true hc.2.1
        have e3 : c = 57 := Nat.eq_of_beq_eq_true hc.2.2
        subst e1; subst e2; subst e3
        exact ⟨ep, rfl, _, _, _, rfl, (Option.some.inj h).symm⟩
    · cases h
set_option maxHeartbeats 8000000 in
/-- from where the first half ends: moved is called, then the second half -/
theorem law_mid {I0 : I2} (C0 : lw_At p s m meth c b L xs) (hK : va_K D vwCl (tysA cA) s) (hE : Exw ad (fun q => s.heap.size ≤ q) s) (hW : WDp 58 ad (fun q => s.heap.size ≤ q)) (hscr : ScrOK ad (fun q => s.heap.size ≤ q) s I0) (hScr : Scr_z I0) {pc : Nat} {lv : Lv} {st : St} {I : I2} {J : J2} {r : Option Value} (h : retP LawA pc lv st = some r) (hq : EndA_z I0 r I J) : Wr p l e room_1 s m #[Value.ref b] below meth c 58 41466 (lw_Z below #[Value.ref b] s) 58 D ad cA (fun q => s.heap.size ≤ q) I0 LawA pc lv st I J := by
  obtain ⟨hx, hb, hr, hml, hown, hts0, hX, hbl, hlocks, hgv⟩ := id C0
  have hts : ∀ w ∈ lw_good, w.before #[Value.ref b] s = true := fun w h => hts0 w (good_w h).1
  obtain ⟨V, t', S', hR, hw, h0, h4, hSc, er⟩ := hq
  obtain ⟨rfl, rfl, x, y, t, rfl, er2⟩ := exA_of h
  have ey : y = hsV_z V := by rw [er] at er2; cases er2; rfl
  subst ey
  intro H locs ls hP hS hlen hl hfr
  have l1 : ls[1]? = some (.val (.ref (ad 0))) := hl.2.2 (1, .ref (ad 0)) (klv_mem.mpr ⟨.ref 0, rfl, rfl⟩)
  have l2 : ls[2]? = some (.val (.ref (ad 57))) := hl.2.2 (2, .ref (ad 57)) (klv_mem.mpr ⟨.ref 57, rfl, rfl⟩)
  have l4 : ls[4]? = some (.val (.long (hsV_z V))) := hl.2.2 (4, .long (hsV_z V)) (klv_mem.mpr ⟨.long (hsV_z V), rfl, rfl⟩)
  refine lv_aload_n hx hb dL_law_131 rfl l1 ?_
  refine lv_aload_n hx hb dL_law_132 rfl l2 ?_
  refine lv_lload hx hb dL_law_133 l4 ?_
  have hblind : FrameBlind (va_Pc ([.ref 0, .ref 57, .long (hsV_z V)].map (kv ad)) (Wd 58 D ad cA (fun q => s.heap.size ≤ q) I J)) := by
    intro a U g mk q
    obtain ⟨q1, q2, q3, q4, L9, xs9, z1, z2, z3, z4, z5, z6⟩ := q
    refine ⟨q1, q2, va_K.moved (u := U) (U := U.calling g mk a) (Vm.Alike.refl U.vm) q3, ?_, L9, xs9, z1, va_X.moved (u := U) (U := U.calling g mk a) (Vm.Alike.refl U.vm) z2, z3, z4, z5, z6⟩
    exact ⟨vk_S.moved (u := U) (U := U.calling g mk a) (Vm.Alike.refl U.vm) q4.1, vk_R.same (u := U) rfl q4.2.1, vk_R.same (u := U) rfl q4.2.2.1, va_Z.moved (u := U) (U := U.calling g mk a) (Vm.Alike.refl U.vm) q4.2.2.2.1, va_Nw.same rfl (u := U) rfl q4.2.2.2.2⟩
  have hpre : ∀ U : State, U.heap = H → s.WarmedH U.vm → Wd 58 D ad cA (fun q => s.heap.size ≤ q) I J U := by
    intro U hU hwm
    obtain ⟨L9, xs9, z1, z2, z3, z4, z5, z6⟩ := hscr.fr hfr
    refine ⟨by rw [hU]; exact hP, va_K.moved hwm.alike hK, ?_, L9, xs9, z1, va_X.moved hwm.alike (by rw [hU]; exact va_X.kept z2 (hS.2.1 _ z3 z4)), by rw [hU]; exact Nat.lt_of_lt_of_le z3 hS.1, z4, z5, z6⟩
    refine ⟨?_, vk_R.warm hwm hE.2.1, vk_R.warm hwm hE.2.2.1, ?_, va_Nw.warmM hwm hE.2.2.2.2⟩
    · exact vk_S.moved hwm.alike (by rw [hU]; exact vk_S.kept hE.1 (fun q h1 h2 => hS.2.1 q h1 h2))
    · exact va_Z.moved hwm.alike (by rw [hU]; exact va_Z.kept hE.2.2.2.1 (fun q h1 h2 => hS.2.1 q h1 h2))
  have hfix : CallFix p m c (bM LawA) (mlM LawA) s #[Value.ref b] lw_good (RNf (owM LawA)) := ⟨hx, hb, hml, hown, hts⟩
  have hcw : CallB room_1 s #[Value.ref b] (RNf (owM LawA)) 89 (yM Mv) (bM Mv) (mlM Mv) (rtM Mv) (wsM Mv) (rmMv 11) 1 4 3 ∧ (Cond.static (yM Mv)).before #[Value.ref b] s = true := by
    have wc : Jvm.Cond.code (yM Mv) (bM Mv) (mlM Mv) (rtM Mv) ∈ lw_good := good_at (i := 602) (by decide +kernel) rfl
    refine va_cwS (Ts := lw_good) (ws' := lw_good) 3 hts (goodIn_lw ?_) rfl rfl rfl ⟨by decide +kernel, by decide +kernel, by decide +kernel⟩ ⟨Nat.le_of_ble_eq_true rfl, Nat.le_of_ble_eq_true rfl⟩
    intro w hw
    rcases List.mem_append.mp hw with h1 | h1
    · simp only [List.mem_cons, List.not_mem_nil, or_false] at h1
      rcases h1 with rfl | rfl | rfl
      · exact good_at (i := 600) (by decide +kernel) rfl
      · exact good_at (i := 601) (by decide +kernel) rfl
      · exact good_at (i := 23) (by decide +kernel) rfl
    · rcases List.mem_cons.mp h1 with rfl | h2
      · exact wc
      · exact h2
  have hM := met_mv (D := D) (cA := cA) hW (fun a b h1 h2 => Nat.le_trans h1 h2) l 11 (y := hsV_z V) (I := I) (J := J) (Q' := fun r I' J' => r = some (.int 1) ∧ RS_z V (some V) t' S' I' J' ∧ F58_z (I58 I) I') (l_mv_z (by decide) (RS_z.lo hR (fun a ha => I58_ne (by omega))) ⟨by rw [I58_ne (by decide)]; exact hw.1, by rw [I58_ne (by decide)]; exact hw.2⟩ h4 h0 (fun I' r f => ⟨rfl, r, f⟩))
  have hrun := va_runS (p := p) (l := l) (e := e) (R := room_1) (below := below) (meth := meth) (H := H) (locs := locs) (cells := 58) (slots := 41466) (As := [.ref 0, .ref 57, .long (hsV_z V)].map (kv ad)) (rest := []) (g := F0 m 135 ls [.long (hsV_z V), .ref (ad 57), .ref (ad 0)]) hfix hM hcw ⟨hblind, fun U hU hwm => ⟨rfl, hpre U hU hwm⟩⟩ rfl rfl hl.1 rfl (lv_room (m := m) (pc := 135) (ls := ls) (rest := [.long (hsV_z V), .ref (ad 57), .ref (ad 0)]) (st := []) (by decide)) dL_law_135 ⟨Nat.le_of_ble_eq_true rfl, Nat.le_of_ble_eq_true rfl⟩
  refine va_callQ1 (J := J) hrun hS (fun r I' J' H1 locs1 hq hf hp hs1 => ?_)
  obtain ⟨rfl, r3, f3⟩ := hq
  have hw3 : W2_z V.B I' := ⟨by rw [f3 57 (by decide) (by decide), I58_ne (by decide)]; exact hw.1, by rw [f3 57 (by decide) (by decide), I58_ne (by decide)]; exact hw.2⟩
  have hSc3 : Scr_z I' := by
    obtain ⟨L9, k1, k2⟩ := hScr
    exact ⟨L9, k1, by rw [hf 101 (by decide), hSc.2]; exact k2⟩
  refine law_B (I0 := I0) C0 hK hE hW hscr r3 hw3 hSc3 h4 h0 H1 locs1 ls hp hs1 rfl (lv_incl hl ?_) (hfr.tr hf)
  rintro ⟨i, w⟩ hq
  obtain ⟨v, hv, rfl⟩ := klv_mem.mp hq
  refine klv_mem.mpr ⟨v, ?_, rfl⟩
  match i, hv with
  | 0, hv => exact hv
  | 1, hv => exact hv
  | 2, hv => exact hv
  | 3, hv => cases hv
  | 4, hv => exact hv
  | 5, hv => cases hv
  | 6, hv => cases hv
  | 7, hv => cases hv
  | 8, hv => cases hv
  | 9, hv => cases hv
  | 10, hv => cases hv
  | 11, hv => cases hv
  | k + 12, hv => simp at hv
end LWR
set_option maxHeartbeats 8000000 in
/-- from where its objects stand: the first half by the walked machine -/
theorem law_runs {p : Program} {e : Env} {s : State} {m : MethodId} {below : List Frame} {meth : Method} {c : Code} (l : Launch) {b L : Nat} {xs : Nat → Int32} (hL : L ≤ 260) (C0 : lw_At p s m meth c b L xs) {D : va_G} {cA : Nat → ClassId} {ad : Nat → Nat} (hK : va_K D vwCl (tysA cA) s) (hE : Exw ad (fun q => s.heap.size ≤ q) s) (hW : WDp 58 ad (fun q => s.heap.size ≤ q)) (h100 : ad 100 = b) : Wr p l e room_1 s m #[Value.ref b] below meth c 58 41466 (lw_Z below #[Value.ref b] s) 58 D ad cA (fun q => s.heap.size ≤ q) (Ist L xs) LawA 13 [some (.ref 100), some (.ref 0), some (.ref 57), none, none, none, none, none, none, none, none, none] [] (Ist L xs) Jst := by
  obtain ⟨hx, hb, hr, hml, hown, hts0, hX, hbl, hlocks, hgv⟩ := id C0
  have hts : ∀ w ∈ lw_good, w.before #[Value.ref b] s = true := fun w h => hts0 w (good_w h).1
  have hscr : ScrOK ad (fun q => s.heap.size ≤ q) s (Ist L xs) := ⟨L, xs, by omega, by rw [h100]; exact hX, by rw [h100]; exact hbl, by rw [h100]; exact Nat.not_le.mpr hbl, rfl, rfl⟩
  have hScr : Scr_z (Ist L xs) := ⟨L, by omega, rfl⟩
  have hn : nOK 58 (owM LawA) := ⟨Nat.le_refl _, by decide, fun h => absurd h (by decide)⟩
  exact l_lawA_z (Q := EndA_z (Ist L xs)) (d := 11) (Nat.le_refl _) ini_start rfl hScr (fun _ => rfl) (fun _ _ _ h => h) _ ⟨
    fun pc lv st I1 J1 pc' lv' st' I' J' hs k => step_ok hx hb hml hown hts hK hW ⟨Nat.le_of_ble_eq_true rfl, Nat.le_of_ble_eq_true rfl⟩ hn hscr (ldc_ok hx hown hE) (idx_ok hx hown hts hE ⟨Nat.le_of_ble_eq_true rfl, Nat.le_of_ble_eq_true rfl⟩ (Nat.le_of_ble_eq_true rfl) (Nat.le_of_ble_eq_true rfl)) hs k,
    fun pc lv st I1 J1 r hr1 hq => law_mid C0 hK hE hW hscr hScr hr1 hq,
    fun pc lv st I1 J1 M' as1 rest hc k => call_ok (d := 11) hx hb hml hown hts hK hW hn hscr hE (Nat.le_of_ble_eq_true rfl) (Nat.le_of_ble_eq_true rfl) (Nat.le_of_ble_eq_true rfl) (Nat.le_of_ble_eq_true rfl) (fun M2 as2 I3 J3 Q2 hl2 hc2 => met_ok hW (Nat.le_refl _) (by decide) l 11 M2 as2 I3 J3 Q2 hl2 hc2) hc k,
    fun pc lv lv' st I1 J1 hle2 k => forget_ok hle2 k⟩
set_option maxHeartbeats 8000000 in
set_option maxRecDepth 100000 in
theorem whole_start {p : Program} {e : Env} {s : State} {m : MethodId} {below : List Frame} {meth : Method} {c : Code} (l : Launch) (hflags : l.flags = flags0) {b L : Nat} {xs : Nat → Int32} (hL : L ≤ 260) (C0 : lw_At p s m meth c b L xs) : W p l e room_1 s m #[Value.ref b] below meth c s.heap [] 0 0 (lw_Z below #[Value.ref b] s) (entryFrame m ([Value.ref b] : List Value).toArray 12) := by
  obtain ⟨hx, hb, hr, hml, hown, hts0, hX, hbl, hlocks, hgv⟩ := id C0
  have hts : ∀ w ∈ lw_good, w.before #[Value.ref b] s = true := fun w h => hts0 w (good_w h).1
  have hA : ∀ q : Nat, s.heap.size ≤ q → (fun q : Nat => s.heap.size ≤ q) q := fun _ h => h
  obtain ⟨adK, adV, hvk, hev⟩ := str_start hgv
  obtain ⟨D, cA, hK⟩ := k_start hts0
  have hEB : EBx s := ⟨Nw_start rfl hts0 (List.mem_of_getElem? (i := 48) (by decide +kernel)), Nw_start rfl hts0 (List.mem_of_getElem? (i := 128) (by decide +kernel)), Nw_start rfl hts0 (List.mem_of_getElem? (i := 229) (by decide +kernel)), va_AO.of (hts0 (.arrayOver (.object "SecretBox$Sheet")) (List.mem_of_getElem? (i := 227) (by decide +kernel)))⟩
  have hS : va_S (fun q : Nat => s.heap.size ≤ q) s.heap s.heap [] := va_S.rf
  have hP : va_P D vwCl [] s.heap := fun k q h => by simp at h
  have hD : va_D (fun q : Nat => s.heap.size ≤ q) [] := ⟨fun i j p q h => by simp at h, fun k q h => by simp at h⟩
  have hl := lv_entry ([.ref b]) (n := 12) (Nat.le_of_ble_eq_true rfl)
  rw [lg_entry_eq]
  generalize (lg_sl ([.ref b]) ++ List.replicate (12 - (lg_sl ([.ref b])).length) Slot.unset).toArray = ls at hl ⊢
  have hl : lv_has ls 12 [(0, .ref b)] := hl
  have hmls : c.maxLocals = ls.size := hml.trans hl.1.symm
  refine st_new (c2 := 5) (C2 := RX5) (T2 := TX5) (N2 := 8) (f2 := z_X5) (own := RL) hx hb hts hown hK hP hD hS hA rfl tyX5 tyX5_ok (good_at (i := 38) (by decide +kernel) rfl) (good_at (i := 39) (by decide +kernel) rfl) (good_at (i := 24) (by decide +kernel) rfl) def_X5 (Nat.le_of_ble_eq_true rfl) (Nat.le_of_ble_eq_true rfl) dL_law_0 dL_law_3 (fun sb H hP hD hS => ?_)
  refine st_call (Cto.run (As := []) (rest := [.ref sb]) (own := RL) (k_X5 l D cA sb) hx hb hmls hown hts hK hP EBx.blind (fun U h => EBx.warm h hEB) (.inr (good_at (i := 40) (by decide +kernel) rfl)) (good_at (i := 41) (by decide +kernel) rfl) (good_at (i := 24) (by decide +kernel) rfl) (good_at (i := 42) (by decide +kernel) rfl) rfl ⟨by decide, by decide, (by decide +kernel : _ = some 0)⟩ rfl ⟨(Nat.le_of_ble_eq_true rfl), (Nat.le_of_ble_eq_true rfl)⟩ (Nat.le_of_ble_eq_true rfl) (Nat.le_of_ble_eq_true rfl) (Nat.le_of_ble_eq_true rfl) dL_law_4) hP hD hS hA (fun qs H locs hP hD hS => ?_)
  refine lv_astore_n hx hb dL_law_7 rfl hl (by decide) rfl (fun ls2 hl2 => ?_)
  have hl2 : lv_has ls2 12 [(1, .ref sb), (0, .ref b)] := hl2
  refine lv_bipush (v := 40) hx hb dL_law_8 (by decide) ?_
  refine my_newa (at9 := .int) (ty := .int) (t := 0) (c0 := cA 0) (n := 40) (N' := 40) (a0 := (40, .inl (fun _ => 0))) hx hb rfl (hts _ (good_at (i := 125) (by decide +kernel) rfl)) rfl (fun _ h => h) hK hP hD hS hA (fun _ => rfl) (by decide +kernel) (by decide +kernel) (Nat.le_of_ble_eq_true rfl) (Nat.le_of_ble_eq_true rfl) (Nat.le_of_ble_eq_true rfl) dL_law_10 (fun wq H hP hD hS => ?_)
  refine lv_astore_n hx hb dL_law_12 rfl hl2 (by decide) rfl (fun ls3 hl3 => ?_)
  have hl3 : lv_has ls3 12 [(2, .ref wq), (1, .ref sb), (0, .ref b)] := hl3
  have hP : va_P D vwCl (w_X5 cA sb qs ++ wRow cA wq) H := hP
  have hD : va_D (fun q : Nat => s.heap.size ≤ q) (w_X5 cA sb qs ++ wRow cA wq) := hD
  have hws : w_X5 cA sb qs ++ wRow cA wq = WS 58 (adS sb wq b qs adK adV) cA (Ist L xs) Jst := by
    apply List.ext_getElem?
    intro k
    by_cases hk : k < 58
    · rw [ws_start cA L xs sb wq b qs adK adV k hk, WS_get hk]
    · rw [List.getElem?_eq_none (by rw [wsl_start]; omega), List.getElem?_eq_none (by rw [WS_len]; exact Nat.not_lt.mp hk)]
  rw [hws] at hP hD
  have hW : WDp 58 (adS sb wq b qs adK adV) (fun q => s.heap.size ≤ q) := ⟨fun i j hi hj h => hD.1 i j _ _ (WS_get hi) (WS_get hj) h, fun i hi => hD.2 i _ (WS_get hi)⟩
  have hE : Exw (adS sb wq b qs adK adV) (fun q => s.heap.size ≤ q) s := exw_start hts0 hgv hvk hev rfl rfl rfl rfl
  refine W.widen (k := 58) (n := 41466) (Nat.le_of_ble_eq_true rfl) (Nat.le_of_ble_eq_true rfl) ?_
  refine law_runs l hL C0 hK hE hW rfl H locs ls3 hP hS rfl (lv_incl hl3 ?_) FrI.rf
  rintro ⟨i, w⟩ hq
  obtain ⟨v, hv, rfl⟩ := klv_mem.mp hq
  match i, hv with
  | 0, hv => cases hv; exact List.mem_of_getElem? (i := 2) rfl
  | 1, hv => cases hv; exact List.mem_of_getElem? (i := 1) rfl
  | 2, hv => cases hv; exact List.mem_of_getElem? (i := 0) rfl
  | 3, hv => cases hv
  | 4, hv => cases hv
  | 5, hv => cases hv
  | 6, hv => cases hv
  | 7, hv => cases hv
  | 8, hv => cases hv
  | 9, hv => cases hv
  | 10, hv => cases hv
  | 11, hv => cases hv
  | k + 12, hv => simp at hv
