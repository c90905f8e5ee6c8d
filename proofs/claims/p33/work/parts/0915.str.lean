/-! THE TEXTS: ldc, String.indexOf and what it calls in the library -/
def y_len : MethodName := ⟨"java/lang/String", "length", "()I"⟩
theorem d_len_0 : decode prog_12_method_54_code 0 = .ok (.aload_n 0, 1) := by decide +kernel
theorem d_len_1 : decode prog_12_method_54_code 1 = .ok (.getfield 9, 3) := by decide +kernel
theorem d_len_4 : decode prog_12_method_54_code 4 = .ok (.arraylength, 1) := by decide +kernel
theorem d_len_5 : decode prog_12_method_54_code 5 = .ok (.aload_n 0, 1) := by decide +kernel
theorem d_len_6 : decode prog_12_method_54_code 6 = .ok (.invokevirtual 335, 3) := by decide +kernel
theorem d_len_9 : decode prog_12_method_54_code 9 = .ok (.ishr, 1) := by decide +kernel
theorem d_len_10 : decode prog_12_method_54_code 10 = .ok (.ireturn, 1) := by decide +kernel
def y_ix1 : MethodName := ⟨"java/lang/String", "indexOf", "(I)I"⟩
theorem d_ix1_0 : decode prog_12_method_79_code 0 = .ok (.aload_n 0, 1) := by decide +kernel
theorem d_ix1_1 : decode prog_12_method_79_code 1 = .ok (.iload_n 1, 1) := by decide +kernel
theorem d_ix1_2 : decode prog_12_method_79_code 2 = .ok (.iconst 0, 1) := by decide +kernel
theorem d_ix1_3 : decode prog_12_method_79_code 3 = .ok (.invokevirtual 633, 3) := by decide +kernel
theorem d_ix1_6 : decode prog_12_method_79_code 6 = .ok (.ireturn, 1) := by decide +kernel
def y_ix2 : MethodName := ⟨"java/lang/String", "indexOf", "(II)I"⟩
theorem d_ix2_0 : decode prog_12_method_80_code 0 = .ok (.aload_n 0, 1) := by decide +kernel
theorem d_ix2_1 : decode prog_12_method_80_code 1 = .ok (.invokevirtual 492, 3) := by decide +kernel
theorem d_ix2_4 : decode prog_12_method_80_code 4 = .ok (.ifCond .eq 19, 3) := by decide +kernel
theorem d_ix2_7 : decode prog_12_method_80_code 7 = .ok (.aload_n 0, 1) := by decide +kernel
theorem d_ix2_8 : decode prog_12_method_80_code 8 = .ok (.getfield 9, 3) := by decide +kernel
theorem d_ix2_11 : decode prog_12_method_80_code 11 = .ok (.iload_n 1, 1) := by decide +kernel
theorem d_ix2_12 : decode prog_12_method_80_code 12 = .ok (.iload_n 2, 1) := by decide +kernel
theorem d_ix2_13 : decode prog_12_method_80_code 13 = .ok (.aload_n 0, 1) := by decide +kernel
theorem d_ix2_14 : decode prog_12_method_80_code 14 = .ok (.invokevirtual 505, 3) := by decide +kernel
theorem d_ix2_17 : decode prog_12_method_80_code 17 = .ok (.invokestatic 637, 3) := by decide +kernel
theorem d_ix2_20 : decode prog_12_method_80_code 20 = .ok (.goto 16, 3) := by decide +kernel
theorem d_ix2_23 : decode prog_12_method_80_code 23 = .ok (.aload_n 0, 1) := by decide +kernel
theorem d_ix2_24 : decode prog_12_method_80_code 24 = .ok (.getfield 9, 3) := by decide +kernel
theorem d_ix2_27 : decode prog_12_method_80_code 27 = .ok (.iload_n 1, 1) := by decide +kernel
theorem d_ix2_28 : decode prog_12_method_80_code 28 = .ok (.iload_n 2, 1) := by decide +kernel
theorem d_ix2_29 : decode prog_12_method_80_code 29 = .ok (.aload_n 0, 1) := by decide +kernel
theorem d_ix2_30 : decode prog_12_method_80_code 30 = .ok (.invokevirtual 505, 3) := by decide +kernel
theorem d_ix2_33 : decode prog_12_method_80_code 33 = .ok (.invokestatic 640, 3) := by decide +kernel
theorem d_ix2_36 : decode prog_12_method_80_code 36 = .ok (.ireturn, 1) := by decide +kernel
def y_cod : MethodName := ⟨"java/lang/String", "coder", "()B"⟩
theorem d_cod_0 : decode prog_12_method_152_code 0 = .ok (.getstatic 38, 3) := by decide +kernel
theorem d_cod_3 : decode prog_12_method_152_code 3 = .ok (.ifCond .eq 10, 3) := by decide +kernel
theorem d_cod_6 : decode prog_12_method_152_code 6 = .ok (.aload_n 0, 1) := by decide +kernel
theorem d_cod_7 : decode prog_12_method_152_code 7 = .ok (.getfield 15, 3) := by decide +kernel
theorem d_cod_10 : decode prog_12_method_152_code 10 = .ok (.goto 4, 3) := by decide +kernel
theorem d_cod_13 : decode prog_12_method_152_code 13 = .ok (.iconst 1, 1) := by decide +kernel
theorem d_cod_14 : decode prog_12_method_152_code 14 = .ok (.ireturn, 1) := by decide +kernel
def y_lat : MethodName := ⟨"java/lang/String", "isLatin1", "()Z"⟩
theorem d_lat_0 : decode prog_12_method_154_code 0 = .ok (.getstatic 38, 3) := by decide +kernel
theorem d_lat_3 : decode prog_12_method_154_code 3 = .ok (.ifCond .eq 14, 3) := by decide +kernel
theorem d_lat_6 : decode prog_12_method_154_code 6 = .ok (.aload_n 0, 1) := by decide +kernel
theorem d_lat_7 : decode prog_12_method_154_code 7 = .ok (.getfield 15, 3) := by decide +kernel
theorem d_lat_10 : decode prog_12_method_154_code 10 = .ok (.ifCond .ne 7, 3) := by decide +kernel
theorem d_lat_13 : decode prog_12_method_154_code 13 = .ok (.iconst 1, 1) := by decide +kernel
theorem d_lat_14 : decode prog_12_method_154_code 14 = .ok (.goto 4, 3) := by decide +kernel
theorem d_lat_17 : decode prog_12_method_154_code 17 = .ok (.iconst 0, 1) := by decide +kernel
theorem d_lat_18 : decode prog_12_method_154_code 18 = .ok (.ireturn, 1) := by decide +kernel
def y_can : MethodName := ⟨"java/lang/StringLatin1", "canEncode", "(I)Z"⟩
theorem d_can_0 : decode prog_13_method_4_code 0 = .ok (.iload_n 0, 1) := by decide +kernel
theorem d_can_1 : decode prog_13_method_4_code 1 = .ok (.ifCond .lt 14, 3) := by decide +kernel
theorem d_can_4 : decode prog_13_method_4_code 4 = .ok (.iload_n 0, 1) := by decide +kernel
theorem d_can_5 : decode prog_13_method_4_code 5 = .ok (.sipush 255, 3) := by decide +kernel
theorem d_can_8 : decode prog_13_method_4_code 8 = .ok (.if_icmp .gt 7, 3) := by decide +kernel
theorem d_can_11 : decode prog_13_method_4_code 11 = .ok (.iconst 1, 1) := by decide +kernel
theorem d_can_12 : decode prog_13_method_4_code 12 = .ok (.goto 4, 3) := by decide +kernel
theorem d_can_15 : decode prog_13_method_4_code 15 = .ok (.iconst 0, 1) := by decide +kernel
theorem d_can_16 : decode prog_13_method_4_code 16 = .ok (.ireturn, 1) := by decide +kernel
def y_ixL : MethodName := ⟨"java/lang/StringLatin1", "indexOf", "([BIII)I"⟩
theorem d_ixL_0 : decode prog_13_method_22_code 0 = .ok (.iload_n 1, 1) := by decide +kernel
theorem d_ixL_1 : decode prog_13_method_22_code 1 = .ok (.invokestatic 88, 3) := by decide +kernel
theorem d_ixL_4 : decode prog_13_method_22_code 4 = .ok (.ifCond .ne 5, 3) := by decide +kernel
theorem d_ixL_7 : decode prog_13_method_22_code 7 = .ok (.iconst (-1), 1) := by decide +kernel
theorem d_ixL_8 : decode prog_13_method_22_code 8 = .ok (.ireturn, 1) := by decide +kernel
theorem d_ixL_9 : decode prog_13_method_22_code 9 = .ok (.iload_n 2, 1) := by decide +kernel
theorem d_ixL_10 : decode prog_13_method_22_code 10 = .ok (.iconst 0, 1) := by decide +kernel
theorem d_ixL_11 : decode prog_13_method_22_code 11 = .ok (.invokestatic 92, 3) := by decide +kernel
theorem d_ixL_14 : decode prog_13_method_22_code 14 = .ok (.istore_n 2, 1) := by decide +kernel
theorem d_ixL_15 : decode prog_13_method_22_code 15 = .ok (.iload_n 3, 1) := by decide +kernel
theorem d_ixL_16 : decode prog_13_method_22_code 16 = .ok (.aload_n 0, 1) := by decide +kernel
theorem d_ixL_17 : decode prog_13_method_22_code 17 = .ok (.arraylength, 1) := by decide +kernel
theorem d_ixL_18 : decode prog_13_method_22_code 18 = .ok (.invokestatic 38, 3) := by decide +kernel
theorem d_ixL_21 : decode prog_13_method_22_code 21 = .ok (.istore_n 3, 1) := by decide +kernel
theorem d_ixL_22 : decode prog_13_method_22_code 22 = .ok (.iload_n 2, 1) := by decide +kernel
theorem d_ixL_23 : decode prog_13_method_22_code 23 = .ok (.iload_n 3, 1) := by decide +kernel
theorem d_ixL_24 : decode prog_13_method_22_code 24 = .ok (.if_icmp .lt 5, 3) := by decide +kernel
theorem d_ixL_27 : decode prog_13_method_22_code 27 = .ok (.iconst (-1), 1) := by decide +kernel
theorem d_ixL_28 : decode prog_13_method_22_code 28 = .ok (.ireturn, 1) := by decide +kernel
theorem d_ixL_29 : decode prog_13_method_22_code 29 = .ok (.aload_n 0, 1) := by decide +kernel
theorem d_ixL_30 : decode prog_13_method_22_code 30 = .ok (.iload_n 1, 1) := by decide +kernel
theorem d_ixL_31 : decode prog_13_method_22_code 31 = .ok (.iload_n 2, 1) := by decide +kernel
theorem d_ixL_32 : decode prog_13_method_22_code 32 = .ok (.iload_n 3, 1) := by decide +kernel
theorem d_ixL_33 : decode prog_13_method_22_code 33 = .ok (.invokestatic 95, 3) := by decide +kernel
theorem d_ixL_36 : decode prog_13_method_22_code 36 = .ok (.ireturn, 1) := by decide +kernel
def y_ixC : MethodName := ⟨"java/lang/StringLatin1", "indexOfChar", "([BIII)I"⟩
theorem d_ixC_0 : decode prog_13_method_23_code 0 = .ok (.iload_n 1, 1) := by decide +kernel
theorem d_ixC_1 : decode prog_13_method_23_code 1 = .ok (.i2b, 1) := by decide +kernel
theorem d_ixC_2 : decode prog_13_method_23_code 2 = .ok (.istore 4, 2) := by decide +kernel
theorem d_ixC_4 : decode prog_13_method_23_code 4 = .ok (.iload_n 2, 1) := by decide +kernel
theorem d_ixC_5 : decode prog_13_method_23_code 5 = .ok (.istore 5, 2) := by decide +kernel
theorem d_ixC_7 : decode prog_13_method_23_code 7 = .ok (.iload 5, 2) := by decide +kernel
theorem d_ixC_9 : decode prog_13_method_23_code 9 = .ok (.iload_n 3, 1) := by decide +kernel
theorem d_ixC_10 : decode prog_13_method_23_code 10 = .ok (.if_icmp .ge 21, 3) := by decide +kernel
theorem d_ixC_13 : decode prog_13_method_23_code 13 = .ok (.aload_n 0, 1) := by decide +kernel
theorem d_ixC_14 : decode prog_13_method_23_code 14 = .ok (.iload 5, 2) := by decide +kernel
theorem d_ixC_16 : decode prog_13_method_23_code 16 = .ok (.baload, 1) := by decide +kernel
theorem d_ixC_17 : decode prog_13_method_23_code 17 = .ok (.iload 4, 2) := by decide +kernel
theorem d_ixC_19 : decode prog_13_method_23_code 19 = .ok (.if_icmp .ne 6, 3) := by decide +kernel
theorem d_ixC_22 : decode prog_13_method_23_code 22 = .ok (.iload 5, 2) := by decide +kernel
theorem d_ixC_24 : decode prog_13_method_23_code 24 = .ok (.ireturn, 1) := by decide +kernel
theorem d_ixC_25 : decode prog_13_method_23_code 25 = .ok (.iinc 5 1, 3) := by decide +kernel
theorem d_ixC_28 : decode prog_13_method_23_code 28 = .ok (.goto (-21), 3) := by decide +kernel
theorem d_ixC_31 : decode prog_13_method_23_code 31 = .ok (.iconst (-1), 1) := by decide +kernel
theorem d_ixC_32 : decode prog_13_method_23_code 32 = .ok (.ireturn, 1) := by decide +kernel
def rmS (d : Nat) : Room := { frames := d, cells := 0, slots := 0, locals := 30 * d }
def wsS2 (y : MethodName) (b : ByteArray) (ml : Nat) (rt : Option FieldType) : List Jvm.Cond := Jvm.Cond.code y b ml rt :: lw_good
/-- an answer, and nothing changed -/
def QJs (r : Int32) : Array Value → State → Outcome → State → Prop := fun _ st oc t => oc = .returned (some (.int r)) ∧ t.heap = st.heap
def MJs (l : Launch) (ad : Nat → Nat) (A : Nat → Prop) (y : MethodName) (b : ByteArray) (ml : Nat) (rt : Option FieldType) (d : Nat) (as : List Value) (r : Int32) : Prop := Met l y (wsS2 y b ml rt) (rmS d) (va_Pc as (Exw ad A)) (QJs r) 0 0 A
theorem Exw.blind {ad : Nat → Nat} {A : Nat → Prop} (as : List Value) : FrameBlind (va_Pc as (Exw ad A)) := by
  intro a U g mk q
  obtain ⟨q1, q4⟩ := q
  refine ⟨q1, ?_⟩
  exact ⟨vk_S.moved (u := U) (U := U.calling g mk a) (Vm.Alike.refl U.vm) q4.1, vk_R.same (u := U) rfl q4.2.1, vk_R.same (u := U) rfl q4.2.2.1, va_Z.moved (u := U) (U := U.calling g mk a) (Vm.Alike.refl U.vm) q4.2.2.2.1, va_Nw.same rfl (u := U) rfl q4.2.2.2.2⟩
theorem Exw.warm {ad : Nat → Nat} {A : Nat → Prop} {s U : State} {H : Heap} {locs : List Loc} (hE : Exw ad A s) (hS : va_S A s.heap H locs) (hU : U.heap = H) (hwm : s.WarmedH U.vm) : Exw ad A U := by
  refine ⟨?_, vk_R.warm hwm hE.2.1, vk_R.warm hwm hE.2.2.1, ?_, va_Nw.warmM hwm hE.2.2.2.2⟩
  · exact vk_S.moved hwm.alike (by rw [hU]; exact vk_S.kept hE.1 (fun q h1 h2 => hS.2.1 q h1 h2))
  · exact va_Z.moved hwm.alike (by rw [hU]; exact va_Z.kept hE.2.2.2.1 (fun q h1 h2 => hS.2.1 q h1 h2))
section STRB
variable {p : Program} {l : Launch} {e : Env} {R : Room} {s : State} {m : MethodId} {args : Array Value} {below : List Frame} {meth : Method} {c : Code} {H : Heap} {locs : List Loc} {cells slots : Nat} {Q : State → Prop}
variable {cc : ByteArray} {pc : Nat} {ls : Array Slot} {ad : Nat → Nat} {A : Nat → Prop} {y : MethodName} {b : ByteArray} {ml d ix n q : Nat} {rt : Option FieldType} {As rest : List Value} {r : Int32} {own : String}
theorem ci_go {a : Array Value} {st0 : List Value} (hrun : va_Run p l e R s m args below meth c H locs cells slots 0 0 (F0 m pc ls st0) rest (QJs r a) A) (hS : va_S A s.heap H locs)
    (kk : ∀ locs', va_S A s.heap H locs' → W p l e R s m args below meth c H locs' cells slots Q (F0 m (pc + 3) ls (.int r :: rest))) : W p l e R s m args below meth c H locs cells slots Q (F0 m pc ls st0) := by
  intro T hT X
  obtain ⟨v, st₀, t, T', L, h0, X', hL, e1, e2, ⟨hv, hh⟩, st⟩ := hrun T hT X
  cases hv
  have hT' : T'.heap = H := by rw [e1, hh, h0]
  obtain ⟨t2, a1, b1⟩ := kk (locs ++ L) ⟨hS.1, hS.2.1, fun q hq => by
      rcases List.mem_append.mp hq with h | h
      · exact hS.2.2 q h
      · exact hL q h⟩ T' hT' X'
  exact ⟨t2, st t2 a1, b1⟩
theorem ci_V (hx : p.tables.exec = Jvm.exec) (hb : c.code = cc) (hml : c.maxLocals = ls.size) (hown : s.vm.findClass own = some m.cls) (hts : ∀ w ∈ lw_good, w.before args s = true) (hE : Exw ad A s) (hS : va_S A s.heap H locs) (hM : MJs l ad A y b ml rt d (.ref q :: As) r) (hrecv : ∃ cell : Cell, H[q]? = some cell ∧ cell.vm.isStatics = false ∧ s.vm.findClass y.cls = some cell.cls)
    (hw : Jvm.Cond.methodLink own ix y ∈ lw_good ∧ Jvm.Cond.instanceMethod y ∈ lw_good ∧ Jvm.Cond.selects y.cls y y ∈ lw_good ∧ Jvm.Cond.initialized y.cls ∈ lw_good ∧ Jvm.Cond.code y b ml rt ∈ lw_good) (hd : y.cls ≠ "java/lang/invoke/MethodHandle" ∧ y.cls ≠ "java/lang/invoke/VarHandle" ∧ (parseMethodDescriptor y.desc).map (fun d => d.parameters.length) = some n) (hn : As.length = n)
    (hR : d + 1 ≤ R.frames ∧ 19 + ml + 30 * d ≤ R.locals) (hcl : cells ≤ R.cells) (hsl : slots ≤ R.slots) (hr8 : (rest.map fun v => v.category).sum ≤ 8) (hdg : decode cc pc = .ok (.invokevirtual ix, 3))
    (kk : ∀ locs', va_S A s.heap H locs' → W p l e R s m args below meth c H locs' cells slots Q (F0 m (pc + 3) ls (.int r :: rest))) : W p l e R s m args below meth c H locs cells slots Q (F0 m pc ls (As.reverse ++ .ref q :: rest)) := by
  have hfix : CallFix p m c cc ls.size s args lw_good own := ⟨hx, hb, hml, hown, hts⟩
  have hcw : CallW R s args own y.cls ix y b ml rt (wsS2 y b ml rt) (rmS d) 0 0 n := by
    refine cwV (Ts := lw_good) (ws' := lw_good) n hts (goodIn_lw ?_) rfl rfl rfl ⟨rfl, hd⟩ ⟨hR.1, by show 8 + (ml + 11) + 30 * d ≤ _; omega⟩
    intro w h
    rcases List.mem_append.mp h with h1 | h1
    · simp only [List.mem_cons, List.not_mem_nil, or_false] at h1
      rcases h1 with rfl | rfl | rfl | rfl
      · exact hw.1
      · exact hw.2.1
      · exact hw.2.2.1
      · exact hw.2.2.2.1
    · rcases List.mem_cons.mp h1 with rfl | h2
      · exact hw.2.2.2.2
      · exact h2
  have hrun := va_runV (p := p) (l := l) (e := e) (R := R) (below := below) (meth := meth) (H := H) (locs := locs) (cells := cells) (slots := slots) (As := As) (rest := rest) (b := q) (g := F0 m pc ls (As.reverse ++ .ref q :: rest)) hfix hM hcw ⟨Exw.blind _, hrecv, fun U hU hwm => ⟨rfl, hE.warm hS hU hwm⟩⟩ rfl hn rfl rfl (lv_room (m := m) (pc := pc) (ls := ls) (rest := As.reverse ++ .ref q :: rest) hr8) hdg ⟨by omega, by omega⟩
  exact ci_go hrun hS kk
theorem ci_S (hx : p.tables.exec = Jvm.exec) (hb : c.code = cc) (hml : c.maxLocals = ls.size) (hown : s.vm.findClass own = some m.cls) (hts : ∀ w ∈ lw_good, w.before args s = true) (hE : Exw ad A s) (hS : va_S A s.heap H locs) (hM : MJs l ad A y b ml rt d As r)
    (hw : Jvm.Cond.methodLink own ix y ∈ lw_good ∧ Jvm.Cond.static y ∈ lw_good ∧ Jvm.Cond.initialized y.cls ∈ lw_good ∧ Jvm.Cond.code y b ml rt ∈ lw_good) (hd : y.cls ≠ "java/lang/invoke/MethodHandle" ∧ y.cls ≠ "java/lang/invoke/VarHandle" ∧ (parseMethodDescriptor y.desc).map (fun d => d.parameters.length) = some n) (hn : As.length = n)
    (hR : d + 1 ≤ R.frames ∧ 19 + ml + 30 * d ≤ R.locals) (hcl : cells ≤ R.cells) (hsl : slots ≤ R.slots) (hr8 : (rest.map fun v => v.category).sum ≤ 8) (hdg : decode cc pc = .ok (.invokestatic ix, 3))
    (kk : ∀ locs', va_S A s.heap H locs' → W p l e R s m args below meth c H locs' cells slots Q (F0 m (pc + 3) ls (.int r :: rest))) : W p l e R s m args below meth c H locs cells slots Q (F0 m pc ls (As.reverse ++ rest)) := by
  have hfix : CallFix p m c cc ls.size s args lw_good own := ⟨hx, hb, hml, hown, hts⟩
  have hcw : CallB R s args own ix y b ml rt (wsS2 y b ml rt) (rmS d) 0 0 n ∧ (Cond.static y).before args s = true := by
    refine va_cwS (Ts := lw_good) (ws' := lw_good) n hts (goodIn_lw ?_) rfl rfl rfl hd ⟨hR.1, by show 8 + (ml + 11) + 30 * d ≤ _; omega⟩
    intro w h
    rcases List.mem_append.mp h with h1 | h1
    · simp only [List.mem_cons, List.not_mem_nil, or_false] at h1
      rcases h1 with rfl | rfl | rfl
      · exact hw.1
      · exact hw.2.1
      · exact hw.2.2.1
    · rcases List.mem_cons.mp h1 with rfl | h2
      · exact hw.2.2.2
      · exact h2
  have hrun := va_runS (p := p) (l := l) (e := e) (R := R) (below := below) (meth := meth) (H := H) (locs := locs) (cells := cells) (slots := slots) (As := As) (rest := rest) (g := F0 m pc ls (As.reverse ++ rest)) hfix hM hcw ⟨Exw.blind _, fun U hU hwm => ⟨rfl, hE.warm hS hU hwm⟩⟩ rfl hn rfl rfl (lv_room (m := m) (pc := pc) (ls := ls) (rest := As.reverse ++ rest) hr8) hdg ⟨by omega, by omega⟩
  exact ci_go hrun hS kk
end STRB
theorem MJs_of {l : Launch} {ad : Nat → Nat} {A : Nat → Prop} {y : MethodName} {b : ByteArray} {ml : Nat} {rt : Option FieldType} {d : Nat} {as : List Value} {r : Int32} (hy : plainName y.cls = true) (hlen : (lg_sl as).length ≤ ml)
    (body : ∀ (p : Program) (e : Env) (R : Room) (s : State) (m : MethodId) (args : Array Value) (below : List Frame) (meth : Method) (c : Code) (ls : Array Slot), p.tables.exec = Jvm.exec → c.code = b → c.maxLocals = ls.size → meth.sig.returnType = rt → meth.locks = false → s.vm.findClass y.cls = some m.cls → (∀ w ∈ lw_good, w.before args s = true) → Exw ad A s → d ≤ R.frames → 30 * d ≤ R.locals → lv_has ls ml (lv_args 0 as) → W p l e R s m args below meth c s.heap [] 0 0 (MQ below (QJs r) args s 0 0 A) (F0 m 0 ls [])) : MJs l ad A y b ml rt d as r := by
  refine Met.ofW (cc := b) (maxL := ml) (ret := rt) hy rfl ?_
  intro p e s m args below meth c s₁ B hml hv
  obtain ⟨rfl, hE⟩ := hv
  have hts := atoms_spec (ws := wsS2 y b ml rt) B.pre
  have hl := lv_entry as (n := ml) hlen
  rw [lg_entry_eq]
  generalize (lg_sl as ++ List.replicate (ml - (lg_sl as).length) Slot.unset).toArray = ls at hl ⊢
  exact body p e _ s m _ below meth c ls B.exec B.bytes (hml.trans hl.1.symm) B.returns B.notSynchronized (findClass_of_methodNamed B.named) (fun w hw => hts w (List.mem_cons_of_mem _ hw)) hE (Nat.le_refl d) (Nat.le_refl (30 * d)) hl
def t_len (i : Nat) : Nat := [5, 3].getD i 0
def t_byt (i : Nat) : List Int32 := [[112, 115, 114, 108, 98], [60, 62, 61]].getD i []
theorem z_get {C : String} {x : ClassId × Class × Nat × Field} (P : Prop) (h : P) : P := h
theorem m_cod {l : Launch} {ad : Nat → Nat} {A : Nat → Prop} {i : Nat} (hi : i < 2) : MJs l ad A y_cod prog_12_method_152_code 1 (some .byte) 0 [.ref (ad (201 + i))] 0 := by
  refine MJs_of (by decide +kernel) (show (1:Nat) ≤ 1 from Nat.le_refl 1) ?_
  intro p e R s m args below meth c ls hx hb hml hr hlk hown hts hE hR1 hR2 hl
  refine va_gets (own := "java/lang/String") hx hb hE.2.2.2.1 va_S.rf hown (hts _ (good_at (i := 436) (by decide +kernel) rfl)) (fun _ q => q) d_cod_0 ?_
  refine lv_if_eq hx hb d_cod_3 (tgt := 13) (by decide) (fun h => absurd h (by decide)) (fun _ => ?_)
  refine lv_aload_n hx hb d_cod_6 rfl (lv_at hl 0 rfl) ?_
  refine vk_getf (own := "java/lang/String") hx hb (hE.1.1 i hi).2.1 va_S.rf hown (hts _ (good_at (i := 823) (by decide +kernel) rfl)) (fun _ q => q) d_cod_7 ?_
  refine lv_goto hx hb d_cod_10 (tgt := 14) (by decide) ?_
  exact W.zret hx hb hr (by decide +kernel) (fun t ht _ => ⟨rfl, ht⟩) (fun q hq => by cases hq) d_cod_14
theorem m_lat {l : Launch} {ad : Nat → Nat} {A : Nat → Prop} {i : Nat} (hi : i < 2) : MJs l ad A y_lat prog_12_method_154_code 1 (some .boolean) 0 [.ref (ad (201 + i))] 1 := by
  refine MJs_of (by decide +kernel) (show (1:Nat) ≤ 1 from Nat.le_refl 1) ?_
  intro p e R s m args below meth c ls hx hb hml hr hlk hown hts hE hR1 hR2 hl
  refine va_gets (own := "java/lang/String") hx hb hE.2.2.2.1 va_S.rf hown (hts _ (good_at (i := 436) (by decide +kernel) rfl)) (fun _ q => q) d_lat_0 ?_
  refine lv_if_eq hx hb d_lat_3 (tgt := 17) (by decide) (fun h => absurd h (by decide)) (fun _ => ?_)
  refine lv_aload_n hx hb d_lat_6 rfl (lv_at hl 0 rfl) ?_
  refine vk_getf (own := "java/lang/String") hx hb (hE.1.1 i hi).2.1 va_S.rf hown (hts _ (good_at (i := 823) (by decide +kernel) rfl)) (fun _ q => q) d_lat_7 ?_
  refine lv_if_ne hx hb d_lat_10 (tgt := 17) (by decide) (fun h => absurd rfl h) (fun _ => ?_)
  refine lv_iconst hx hb d_lat_13 (v := 1) (by decide) ?_
  refine lv_goto hx hb d_lat_14 (tgt := 18) (by decide) ?_
  exact W.zret hx hb hr (by decide +kernel) (fun t ht _ => ⟨rfl, ht⟩) (fun q hq => by cases hq) d_lat_18
theorem m_len {l : Launch} {ad : Nat → Nat} {A : Nat → Prop} {i : Nat} (hi : i < 2) : MJs l ad A y_len prog_12_method_54_code 1 (some .int) 1 [.ref (ad (201 + i))] (nI (t_len i)) := by
  refine MJs_of (by decide +kernel) (show (1:Nat) ≤ 1 from Nat.le_refl 1) ?_
  intro p e R s m args below meth c ls hx hb hml hr hlk hown hts hE hR1 hR2 hl
  refine lv_aload_n hx hb d_len_0 rfl (lv_at hl 0 rfl) ?_
  refine vk_getf (own := "java/lang/String") hx hb (hE.1.1 i hi).2.2.1 va_S.rf hown (hts _ (good_at (i := 824) (by decide +kernel) rfl)) (fun _ q => q) d_len_1 ?_
  refine va_tlen hx hb (hE.1.1 i hi).2.2.2 va_S.rf (v := nI (t_len i)) rfl d_len_4 ?_
  refine lv_aload_n hx hb d_len_5 rfl (lv_at hl 0 rfl) ?_
  refine ci_V (own := "java/lang/String") (As := []) hx hb hml hown hts hE va_S.rf (m_cod hi) (vk_recv (i := i) hE.1 hi va_S.rf) ⟨good_at (i := 442) (by decide +kernel) rfl, good_at (i := 443) (by decide +kernel) rfl, good_at (i := 444) (by decide +kernel) rfl, good_at (i := 30) (by decide +kernel) rfl, good_at (i := 445) (by decide +kernel) rfl⟩ ⟨by decide, by decide, (by decide +kernel : _ = some 0)⟩ rfl ⟨by omega, by omega⟩ (Nat.zero_le _) (Nat.zero_le _) (by show 1 ≤ 8; decide) d_len_6 (fun locs hS => ?_)
  refine lv_ishr hx hb d_len_9 ?_
  have e1 : nI (t_len i) >>> ((0 : Int32) &&& 31) = nI (t_len i) := by
    match i, hi with
    | 0, _ => decide
    | 1, _ => decide
  rw [e1]
  exact W.iret hx hb hr (fun t ht _ => ⟨rfl, ht⟩) hS.2.2 d_len_10
def canE (c : Int32) : Int32 := if c < 0 then 0 else if c ≤ 255 then 1 else 0
theorem m_can {l : Launch} {ad : Nat → Nat} {A : Nat → Prop} {c0 : Int32} : MJs l ad A y_can prog_13_method_4_code 1 (some .boolean) 0 [.int c0] (canE c0) := by
  refine MJs_of (by decide +kernel) (show (1:Nat) ≤ 1 from Nat.le_refl 1) ?_
  intro p e R s m args below meth c ls hx hb hml hr hlk hown hts hE hR1 hR2 hl
  refine lv_iload_n hx hb d_can_0 rfl (lv_at hl 0 rfl) ?_
  refine lv_if_lt hx hb d_can_1 (tgt := 15) (by decide) (fun h => ?_) (fun h => ?_)
  · refine lv_iconst hx hb d_can_15 (v := 0) (by decide) ?_
    rw [show canE c0 = 0 by simp only [canE, if_pos h]]
    exact W.zret hx hb hr (by decide +kernel) (fun t ht _ => ⟨rfl, ht⟩) (fun q hq => by cases hq) d_can_16
  refine lv_iload_n hx hb d_can_4 rfl (lv_at hl 0 rfl) ?_
  refine lv_sipush hx hb d_can_5 (v := 255) (by decide) ?_
  refine lv_icmp_gt hx hb d_can_8 (tgt := 15) (by decide) (fun h2 => ?_) (fun h2 => ?_)
  · refine lv_iconst hx hb d_can_15 (v := 0) (by decide) ?_
    rw [show canE c0 = 0 by simp only [canE, if_neg h, if_neg (Int32.not_le.mpr h2)]]
    exact W.zret hx hb hr (by decide +kernel) (fun t ht _ => ⟨rfl, ht⟩) (fun q hq => by cases hq) d_can_16
  · refine lv_iconst hx hb d_can_11 (v := 1) (by decide) ?_
    refine lv_goto hx hb d_can_12 (tgt := 16) (by decide) ?_
    rw [show canE c0 = 1 by simp only [canE, if_neg h]; exact if_pos (by first | exact h2 | exact Int32.not_lt.mp h2)]
    exact W.zret hx hb hr (by decide +kernel) (fun t ht _ => ⟨rfl, ht⟩) (fun q hq => by cases hq) d_can_16
theorem b_cmp : ∀ k, k < 256 → ∀ b ∈ ([112, 115, 114, 108, 98, 60, 62, 61] : List Int32), ((b = (nI k).toInt8.toInt32) ↔ (nI k = b)) := by decide +kernel
theorem nI_one : ∀ k, k < 8 → nI k + 1 = nI (k + 1) := by decide +kernel
theorem b_out : ∀ b ∈ ([112, 115, 114, 108, 98, 60, 62, 61] : List Int32), 0 ≤ b ∧ b ≤ 255 := by decide +kernel
theorem t_in {i : Nat} (hi : i < 2) : ∀ b ∈ t_byt i, b ∈ ([112, 115, 114, 108, 98, 60, 62, 61] : List Int32) := by
  match i, hi with
  | 0, _ => decide
  | 1, _ => decide
theorem t_length {i : Nat} (hi : i < 2) : (t_byt i).length = t_len i ∧ 0 < t_len i ∧ t_len i ≤ 5 := by
  match i, hi with
  | 0, _ => decide
  | 1, _ => decide
theorem txF_none {c0 : Int32} : ∀ (t : List Int32) (k : Int32), (∀ b ∈ t, c0 ≠ b) → txF c0 t k = -1 := by
  intro t
  induction t with
  | nil => intro k _; rfl
  | cons b t ih => intro k h; rw [txF, if_neg (h b List.mem_cons_self)]; exact ih _ (fun b' hb => h b' (List.mem_cons_of_mem _ hb))
theorem can_of {c0 : Int32} (h : canE c0 = 1) : ∃ k, k < 256 ∧ c0 = nI k := by
  unfold canE at h
  split at h
  · cases h
  · next h0 =>
    split at h
    · next h1 =>
      have a1 : (0 : Int) ≤ c0.toInt := by have := Int32.le_iff_toInt_le.mp (Int32.not_lt.mp h0); simpa using this
      have a2 : c0.toInt ≤ 255 := by have := Int32.le_iff_toInt_le.mp h1; simpa using this
      refine ⟨c0.toInt.toNat, by omega, ?_⟩
      apply Int32.toInt_inj.mp
      rw [nI_toInt (by omega)]; omega
    · cases h
theorem can_not {c0 : Int32} {i : Nat} (hi : i < 2) (h : ¬ canE c0 = 1) : txF c0 (t_byt i) 0 = -1 := by
  apply txF_none
  intro b hb e
  obtain ⟨h1, h2⟩ := b_out b (t_in hi b hb)
  apply h
  subst e
  unfold canE
  rw [if_neg (Int32.not_lt.mpr h1), if_pos h2]
section STRL
variable {p : Program} {l : Launch} {e : Env} {R : Room} {s : State} {m : MethodId} {args : Array Value} {below : List Frame} {meth : Method} {c : Code} {ad : Nat → Nat} {A : Nat → Prop}
theorem ixC_loop (hx : p.tables.exec = Jvm.exec) (hb : c.code = prog_13_method_23_code) (hr : meth.sig.returnType = some .int) (hlk : meth.locks = false) (hE : Exw ad A s) {i : Nat} (hi : i < 2) {n : Nat} (hn : n < 256) {r : Int32} : ∀ (t : List Int32) (k : Nat) (ls : Array Slot), (t_byt i).drop k = t → k ≤ t_len i → r = txF (nI n) t (nI k) → lv_has ls 6 [(5, .int (nI k)), (4, .int (nI n).toInt8.toInt32), (0, .ref (ad (211 + i))), (3, .int (nI (t_len i)))] → W p l e R s m args below meth c s.heap [] 0 0 (MQ below (QJs r) args s 0 0 A) (F0 m 7 ls []) := by
  obtain ⟨ht1, ht2, ht3⟩ := t_length hi
  intro t
  induction t with
  | nil =>
    intro k ls hd hk hr2 hl
    have q : (t_byt i).length ≤ k := List.drop_eq_nil_iff.mp hd
    have hk2 : k = t_len i := by omega
    refine lv_iload hx hb d_ixC_7 (lv_at hl 0 rfl) ?_
    refine lv_iload_n hx hb d_ixC_9 rfl (lv_at hl 3 rfl) ?_
    refine lv_icmp_ge hx hb d_ixC_10 (tgt := 31) (by decide) (fun _ => ?_) (fun h => ?_)
    · refine lv_iconst hx hb d_ixC_31 (v := -1) (by decide) ?_
      rw [hr2]
      exact W.iret hx hb hr (fun t ht _ => ⟨rfl, ht⟩) (fun q hq => by cases hq) d_ixC_32
    · exfalso
      rw [hk2] at h
      exact Int32.lt_irrefl (by first | exact h | exact Int32.not_le.mp h)
  | cons b t ih =>
    intro k ls hd hk hr2 hl
    have hk1 : k < (t_byt i).length := by
      rcases Nat.lt_or_ge k (t_byt i).length with h | h
      · exact h
      · rw [List.drop_eq_nil_of_le h] at hd; cases hd
    have hdc := List.drop_eq_getElem_cons hk1
    rw [hd] at hdc
    injection hdc with e1 e2
    have hget : (t_byt i).getD k 0 = b := by rw [List.getD_eq_getElem?_getD, List.getElem?_eq_getElem hk1]; exact e1.symm
    have hbm : b ∈ t_byt i := by rw [e1]; exact List.getElem_mem hk1
    refine lv_iload hx hb d_ixC_7 (lv_at hl 0 rfl) ?_
    refine lv_iload_n hx hb d_ixC_9 rfl (lv_at hl 3 rfl) ?_
    refine lv_icmp_ge hx hb d_ixC_10 (tgt := 31) (by decide) (fun h => ?_) (fun _ => ?_)
    · exfalso
      have h2 := Int32.le_iff_toInt_le.mp (show nI (t_len i) ≤ nI k by first | exact h | exact Int32.not_lt.mp h)
      rw [nI_toInt (by omega), nI_toInt (by omega)] at h2
      omega
    refine lv_aload_n hx hb d_ixC_13 rfl (lv_at hl 2 rfl) ?_
    refine lv_iload hx hb d_ixC_14 (lv_at hl 0 rfl) ?_
    have hkc : (nI k).toNatClampNeg = k := by
      show (nI k).toInt.toNat = k
      rw [nI_toInt (by omega)]; omega
    refine va_tb hx hb (hE.1.1 i hi).2.2.2 va_S.rf (i := nI k) ?_ (v := .int b) ?_ d_ixC_16 ?_
    · rintro (h | h)
      · have h2 := Int32.lt_iff_toInt_lt.mp h
        rw [nI_toInt (by omega)] at h2
        simp at h2; omega
      · rw [hkc] at h
        have : t_len i ≤ k := h
        omega
    · rw [hkc]; exact congrArg Value.int hget
    refine lv_iload hx hb d_ixC_17 (lv_at hl 1 rfl) ?_
    refine lv_icmp_ne hx hb d_ixC_19 (tgt := 25) (by decide) (fun h => ?_) (fun h => ?_)
    · refine lv_iinc hx hb d_ixC_25 hl (k := 0) rfl (v := nI (k + 1)) ?_ (by decide) rfl (fun ls2 hl2 => ?_)
      · exact nI_one k (by omega)
      refine lv_goto hx hb d_ixC_28 (tgt := 7) (by decide) ?_
      refine ih (k + 1) ls2 e2.symm (by omega) ?_ hl2
      rw [hr2, txF, if_neg (fun q => h ((b_cmp n hn b (t_in hi b hbm)).mpr q))]
      exact congrArg (txF (nI n) t) (nI_one k (by omega))
    · refine lv_iload hx hb d_ixC_22 (lv_at hl 0 rfl) ?_
      have e9 : r = nI k := by rw [hr2, txF, if_pos ((b_cmp n hn b (t_in hi b hbm)).mp h)]
      rw [e9]
      exact W.iret hx hb hr (fun t ht _ => ⟨rfl, ht⟩) (fun q hq => by cases hq) d_ixC_24
end STRL
theorem m_ixC {l : Launch} {ad : Nat → Nat} {A : Nat → Prop} {i : Nat} (hi : i < 2) {n : Nat} (hn : n < 256) : MJs l ad A y_ixC prog_13_method_23_code 6 (some .int) 0 [.ref (ad (211 + i)), .int (nI n), .int 0, .int (nI (t_len i))] (txF (nI n) (t_byt i) 0) := by
  refine MJs_of (by decide +kernel) (show (4:Nat) ≤ 6 by decide) ?_
  intro p e R s m args below meth c ls hx hb hml hr hlk hown hts hE hR1 hR2 hl
  refine lv_iload_n hx hb d_ixC_0 rfl (lv_at hl 1 rfl) ?_
  refine lv_i2b hx hb d_ixC_1 rfl ?_
  refine lv_istore hx hb d_ixC_2 hl (by decide) rfl (fun ls2 hl2 => ?_)
  refine lv_iload_n hx hb d_ixC_4 rfl (lv_at hl2 3 rfl) ?_
  refine lv_istore hx hb d_ixC_5 hl2 (by decide) rfl (fun ls3 hl3 => ?_)
  exact ixC_loop hx hb hr hlk hE hi hn (t_byt i) 0 ls3 rfl (Nat.zero_le _) rfl (lv_sub hl3 [0, 1, 2, 5] rfl)
theorem m_ixL {l : Launch} {ad : Nat → Nat} {A : Nat → Prop} {i : Nat} (hi : i < 2) {c0 : Int32} : MJs l ad A y_ixL prog_13_method_22_code 4 (some .int) 2 [.ref (ad (211 + i)), .int c0, .int 0, .int (nI (t_len i))] (txF c0 (t_byt i) 0) := by
  obtain ⟨ht1, ht2, ht3⟩ := t_length hi
  refine MJs_of (by decide +kernel) (show (4:Nat) ≤ 4 by decide) ?_
  intro p e R s m args below meth c ls hx hb hml hr hlk hown hts hE hR1 hR2 hl
  refine lv_iload_n hx hb d_ixL_0 rfl (lv_at hl 1 rfl) ?_
  refine ci_S (own := "java/lang/StringLatin1") (As := [.int c0]) (rest := []) hx hb hml hown hts hE va_S.rf m_can ⟨good_at (i := 449) (by decide +kernel) rfl, good_at (i := 450) (by decide +kernel) rfl, good_at (i := 31) (by decide +kernel) rfl, good_at (i := 451) (by decide +kernel) rfl⟩ ⟨by decide, by decide, (by decide +kernel : _ = some 1)⟩ rfl ⟨by omega, by omega⟩ (Nat.zero_le _) (Nat.zero_le _) (by decide) d_ixL_1 (fun locs hS => ?_)
  refine lv_if_ne hx hb d_ixL_4 (tgt := 9) (by decide) (fun h => ?_) (fun h => ?_)
  case refine_2 =>
    refine lv_iconst hx hb d_ixL_7 (v := -1) (by decide) ?_
    rw [can_not hi (by rw [h]; decide)]
    exact W.iret hx hb hr (fun t ht _ => ⟨rfl, ht⟩) hS.2.2 d_ixL_8
  have h1 : canE c0 = 1 := by
    unfold canE at h ⊢
    split
    · next q => rw [if_pos q] at h; exact absurd rfl h
    · next q =>
      split
      · rfl
      · next q2 => rw [if_neg q, if_neg q2] at h; exact absurd rfl h
  obtain ⟨n, hn, rfl⟩ := can_of h1
  refine lv_iload_n hx hb d_ixL_9 rfl (lv_at hl 2 rfl) ?_
  refine lv_iconst hx hb d_ixL_10 (v := 0) (by decide) ?_
  refine va_mmax (own := "java/lang/StringLatin1") hx hb hml hown (hts _ (good_at (i := 452) (by decide +kernel) rfl)) (hts _ (good_at (i := 453) (by decide +kernel) rfl)) (hts _ (good_at (i := 32) (by decide +kernel) rfl)) (hts _ (good_at (i := 454) (by decide +kernel) rfl)) (by omega) (by show 0 + 13 ≤ _; omega) (Nat.zero_le _) (Nat.zero_le _) d_ixL_11 ?_
  rw [if_neg (show ¬ (0 : Int32) < 0 by decide)]
  refine lv_istore_n hx hb d_ixL_14 rfl hl (by decide) rfl (fun ls2 hl2 => ?_)
  have hml2 : c.maxLocals = ls2.size := by rw [hl2.1, hml, hl.1]
  refine lv_iload_n hx hb d_ixL_15 rfl (lv_at hl2 3 rfl) ?_
  refine lv_aload_n hx hb d_ixL_16 rfl (lv_at hl2 1 rfl) ?_
  refine va_tlen hx hb (hE.1.1 i hi).2.2.2 hS (v := nI (t_len i)) rfl d_ixL_17 ?_
  refine va_mmin (own := "java/lang/StringLatin1") hx hb hml2 hown (hts _ (good_at (i := 455) (by decide +kernel) rfl)) (hts _ (good_at (i := 456) (by decide +kernel) rfl)) (hts _ (good_at (i := 32) (by decide +kernel) rfl)) (hts _ (good_at (i := 457) (by decide +kernel) rfl)) (by omega) (by show 0 + 13 ≤ _; omega) (Nat.zero_le _) (Nat.zero_le _) d_ixL_18 ?_
  rw [ite_self]
  refine lv_istore_n hx hb d_ixL_21 rfl hl2 (by decide) rfl (fun ls3 hl3 => ?_)
  have hml3 : c.maxLocals = ls3.size := by rw [hl3.1, hml2, hl2.1]
  refine lv_iload_n hx hb d_ixL_22 rfl (lv_at hl3 1 rfl) ?_
  refine lv_iload_n hx hb d_ixL_23 rfl (lv_at hl3 0 rfl) ?_
  refine lv_icmp_lt hx hb d_ixL_24 (tgt := 29) (by decide) (fun h => ?_) (fun h => ?_)
  case refine_2 =>
    exfalso
    apply h
    apply Int32.lt_iff_toInt_lt.mpr
    rw [nI_toInt (by omega)]
    simp; omega
  refine lv_aload_n hx hb d_ixL_29 rfl (lv_at hl3 2 rfl) ?_
  refine lv_iload_n hx hb d_ixL_30 rfl (lv_at hl3 3 rfl) ?_
  refine lv_iload_n hx hb d_ixL_31 rfl (lv_at hl3 1 rfl) ?_
  refine lv_iload_n hx hb d_ixL_32 rfl (lv_at hl3 0 rfl) ?_
  refine ci_S (own := "java/lang/StringLatin1") (As := [.ref (ad (211 + i)), .int (nI n), .int 0, .int (nI (t_len i))]) (rest := []) hx hb hml3 hown hts hE hS (m_ixC hi hn) ⟨good_at (i := 458) (by decide +kernel) rfl, good_at (i := 459) (by decide +kernel) rfl, good_at (i := 31) (by decide +kernel) rfl, good_at (i := 460) (by decide +kernel) rfl⟩ ⟨by decide, by decide, (by decide +kernel : _ = some 4)⟩ rfl ⟨by omega, by omega⟩ (Nat.zero_le _) (Nat.zero_le _) (by decide) d_ixL_33 (fun locs2 hS2 => ?_)
  exact W.iret hx hb hr (fun t ht _ => ⟨rfl, ht⟩) hS2.2.2 d_ixL_36
theorem m_ix2 {l : Launch} {ad : Nat → Nat} {A : Nat → Prop} {i : Nat} (hi : i < 2) {c0 : Int32} : MJs l ad A y_ix2 prog_12_method_80_code 3 (some .int) 4 [.ref (ad (201 + i)), .int c0, .int 0] (txF c0 (t_byt i) 0) := by
  refine MJs_of (by decide +kernel) (show (3:Nat) ≤ 3 by decide) ?_
  intro p e R s m args below meth c ls hx hb hml hr hlk hown hts hE hR1 hR2 hl
  refine lv_aload_n hx hb d_ix2_0 rfl (lv_at hl 0 rfl) ?_
  refine ci_V (own := "java/lang/String") (As := []) hx hb hml hown hts hE va_S.rf (m_lat hi) (vk_recv (i := i) hE.1 hi va_S.rf) ⟨good_at (i := 432) (by decide +kernel) rfl, good_at (i := 433) (by decide +kernel) rfl, good_at (i := 434) (by decide +kernel) rfl, good_at (i := 30) (by decide +kernel) rfl, good_at (i := 435) (by decide +kernel) rfl⟩ ⟨by decide, by decide, (by decide +kernel : _ = some 0)⟩ rfl ⟨by omega, by omega⟩ (Nat.zero_le _) (Nat.zero_le _) (by decide) d_ix2_1 (fun locs hS => ?_)
  refine lv_if_eq hx hb d_ix2_4 (tgt := 23) (by decide) (fun h => absurd h (by decide)) (fun _ => ?_)
  refine lv_aload_n hx hb d_ix2_7 rfl (lv_at hl 0 rfl) ?_
  refine vk_getf (own := "java/lang/String") hx hb (hE.1.1 i hi).2.2.1 hS hown (hts _ (good_at (i := 824) (by decide +kernel) rfl)) (fun _ q => q) d_ix2_8 ?_
  refine lv_iload_n hx hb d_ix2_11 rfl (lv_at hl 1 rfl) ?_
  refine lv_iload_n hx hb d_ix2_12 rfl (lv_at hl 2 rfl) ?_
  refine lv_aload_n hx hb d_ix2_13 rfl (lv_at hl 0 rfl) ?_
  refine ci_V (own := "java/lang/String") (As := []) hx hb hml hown hts hE hS (m_len hi) (vk_recv (i := i) hE.1 hi hS) ⟨good_at (i := 438) (by decide +kernel) rfl, good_at (i := 439) (by decide +kernel) rfl, good_at (i := 440) (by decide +kernel) rfl, good_at (i := 30) (by decide +kernel) rfl, good_at (i := 441) (by decide +kernel) rfl⟩ ⟨by decide, by decide, (by decide +kernel : _ = some 0)⟩ rfl ⟨by omega, by omega⟩ (Nat.zero_le _) (Nat.zero_le _) (by show 3 ≤ 8; decide) d_ix2_14 (fun locs2 hS2 => ?_)
  refine ci_S (own := "java/lang/String") (As := [.ref (ad (211 + i)), .int c0, .int 0, .int (nI (t_len i))]) (rest := []) hx hb hml hown hts hE hS2 (m_ixL hi) ⟨good_at (i := 446) (by decide +kernel) rfl, good_at (i := 447) (by decide +kernel) rfl, good_at (i := 31) (by decide +kernel) rfl, good_at (i := 448) (by decide +kernel) rfl⟩ ⟨by decide, by decide, (by decide +kernel : _ = some 4)⟩ rfl ⟨by omega, by omega⟩ (Nat.zero_le _) (Nat.zero_le _) (by decide) d_ix2_17 (fun locs3 hS3 => ?_)
  refine lv_goto hx hb d_ix2_20 (tgt := 36) (by decide) ?_
  exact W.iret hx hb hr (fun t ht _ => ⟨rfl, ht⟩) hS3.2.2 d_ix2_36
theorem m_ix1 {l : Launch} {ad : Nat → Nat} {A : Nat → Prop} {i : Nat} (hi : i < 2) {c0 : Int32} : MJs l ad A y_ix1 prog_12_method_79_code 2 (some .int) 5 [.ref (ad (201 + i)), .int c0] (txF c0 (t_byt i) 0) := by
  refine MJs_of (by decide +kernel) (show (2:Nat) ≤ 2 by decide) ?_
  intro p e R s m args below meth c ls hx hb hml hr hlk hown hts hE hR1 hR2 hl
  refine lv_aload_n hx hb d_ix1_0 rfl (lv_at hl 0 rfl) ?_
  refine lv_iload_n hx hb d_ix1_1 rfl (lv_at hl 1 rfl) ?_
  refine lv_iconst hx hb d_ix1_2 (v := 0) (by decide) ?_
  refine ci_V (own := "java/lang/String") (As := [.int c0, .int 0]) (rest := []) hx hb hml hown hts hE va_S.rf (m_ix2 hi) (vk_recv (i := i) hE.1 hi va_S.rf) ⟨good_at (i := 428) (by decide +kernel) rfl, good_at (i := 429) (by decide +kernel) rfl, good_at (i := 430) (by decide +kernel) rfl, good_at (i := 30) (by decide +kernel) rfl, good_at (i := 431) (by decide +kernel) rfl⟩ ⟨by decide, by decide, (by decide +kernel : _ = some 2)⟩ rfl ⟨by omega, by omega⟩ (Nat.zero_le _) (Nat.zero_le _) (by decide) d_ix1_3 (fun locs hS => ?_)
  exact W.iret hx hb hr (fun t ht _ => ⟨rfl, ht⟩) hS.2.2 d_ix1_6
section STRS
variable {p : Program} {l : Launch} {e : Env} {R : Room} {s : State} {m : MethodId} {args : Array Value} {below : List Frame} {meth : Method} {c : Code} {cells slots : Nat} {Q : State → Prop}
variable {ad : Nat → Nat} {A : Nat → Prop} {own : Nat}
theorem ldc_ok (hx : p.tables.exec = Jvm.exec) (hown : s.vm.findClass (RNf own) = some m.cls) (hE : Exw ad A s) : LdcOK p l e R s m args below meth c cells slots Q ad own := by
  intro ho ix a h H locs ls pc st hd k
  subst ho
  rcases h with ⟨rfl, rfl⟩ | ⟨rfl, rfl⟩
  · exact va_ldcS hx rfl (own := "SecretBox$Tape") hown hE.2.1 hd k
  · exact va_ldcS hx rfl (own := "SecretBox$Tape") hown hE.2.2.1 hd k
theorem idx_ok (hx : p.tables.exec = Jvm.exec) (hown : s.vm.findClass (RNf own) = some m.cls) (hts : ∀ w ∈ lw_good, w.before args s = true) (hE : Exw ad A s) (hR : 12 ≤ R.frames ∧ 800 ≤ R.locals) (hcl : cells ≤ R.cells) (hsl : slots ≤ R.slots) : IdxOK p l e R s m args below meth c cells slots Q ad A own := by
  intro ho a tx h H locs ls pc r ch hS hls hd hr8 k
  subst ho
  obtain ⟨i, hi, rfl, rfl⟩ : ∃ i, i < 2 ∧ a = 201 + i ∧ tx = t_byt i := by
    rcases h with ⟨rfl, rfl⟩ | ⟨rfl, rfl⟩
    · exact ⟨0, by decide, rfl, rfl⟩
    · exact ⟨1, by decide, rfl, rfl⟩
  exact ci_V (own := "SecretBox$Tape") (As := [.int ch]) (rest := r) hx rfl hls.symm hown hts hE hS (m_ix1 hi) (vk_recv (i := i) hE.1 hi hS) ⟨good_at (i := 424) (by decide +kernel) rfl, good_at (i := 425) (by decide +kernel) rfl, good_at (i := 426) (by decide +kernel) rfl, good_at (i := 30) (by decide +kernel) rfl, good_at (i := 427) (by decide +kernel) rfl⟩ ⟨by decide, by decide, (by decide +kernel : _ = some 1)⟩ rfl ⟨by omega, by omega⟩ hcl hsl hr8 hd k
end STRS
