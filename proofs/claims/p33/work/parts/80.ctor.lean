/-! THE CONSTRUCTORS: each makes its arrays; general rows -/
def rmC (fr mc ms : Nat) : Room := { frames := fr, cells := mc, slots := ms, locals := 40 * fr }
def CtP (D : va_G) (cA : Nat → ClassId) (wIn : va_W) (sz : Nat) (E : State → Prop) : State → Prop := fun U => U.heap.size = sz ∧ va_P D vwCl wIn U.heap ∧ va_D (fun _ => True) wIn ∧ va_K D vwCl (tysA cA) U ∧ E U
def CtQ (D : va_G) (wOut : (Nat → Nat) → va_W) (A : Nat → Prop) : Array Value → State → Outcome → State → Prop := fun _ st oc t => (∃ qs : Nat → Nat, oc = .returned none ∧ va_P D vwCl (wOut qs) t.heap ∧ va_D A (wOut qs)) ∧ va_F A st t
def Cto (l : Launch) (D : va_G) (cA : Nat → ClassId) (y : MethodName) (b : ByteArray) (ml fr mc ms : Nat) (as : List Value) (wIn : va_W) (E : State → Prop) (wOut : (Nat → Nat) → va_W) : Prop :=
  ∀ sz, Met l y (wsS2 y b ml none) (rmC fr mc ms) (va_Pc as (CtP D cA wIn sz E)) (CtQ D wOut (va_A wIn sz)) mc ms (va_A wIn sz)
theorem Cto_of {l : Launch} {D : va_G} {cA : Nat → ClassId} {y : MethodName} {b : ByteArray} {ml fr mc ms : Nat} {as : List Value} {wIn : va_W} {E : State → Prop} {wOut : (Nat → Nat) → va_W} (hy : plainName y.cls = true) (hnm : y.name = "<init>") (hlen : (lg_sl as).length ≤ ml)
    (body : ∀ (p : Program) (e : Env) (R : Room) (s : State) (m : MethodId) (args : Array Value) (below : List Frame) (meth : Method) (c : Code) (ls : Array Slot) (A : Nat → Prop), p.tables.exec = Jvm.exec → c.code = b → c.maxLocals = ls.size → meth.sig.returnType = none → meth.locks = false → meth.name = "<init>" → s.vm.findClass y.cls = some m.cls → (∀ w ∈ lw_good, w.before args s = true) → va_K D vwCl (tysA cA) s → E s → R = rmC fr mc ms → lv_has ls ml (lv_args 0 as) → (∀ q, s.heap.size ≤ q → A q) → va_P D vwCl wIn s.heap → va_D A wIn → W p l e R s m args below meth c s.heap [] 0 0 (MQ below (CtQ D wOut A) args s mc ms A) (F0 m 0 ls [])) : Cto l D cA y b ml fr mc ms as wIn E wOut := by
  intro sz
  refine Met.ofW (cc := b) (maxL := ml) (ret := none) hy rfl ?_
  intro p e s m args below meth c s₁ B hml hv
  obtain ⟨rfl, hsz, hP, hD0, hK, hE⟩ := hv
  have hts := atoms_spec (ws := wsS2 y b ml none) B.pre
  have hl := lv_entry as (n := ml) hlen
  rw [lg_entry_eq]
  generalize (lg_sl as ++ List.replicate (ml - (lg_sl as).length) Slot.unset).toArray = ls at hl ⊢
  subst hsz
  exact body p e _ s m _ below meth c ls (va_A wIn s.heap.size) B.exec B.bytes (hml.trans hl.1.symm) B.returns B.notSynchronized ((name_of_methodNamed B.named B.method).1.trans hnm) (findClass_of_methodNamed B.named) (fun w hw => hts w (List.mem_cons_of_mem _ hw)) hK hE rfl hl (fun q h => Or.inr h) hP (hD0.self (sz := s.heap.size))
section CTR
variable {p : Program} {l : Launch} {e : Env} {R : Room} {s : State} {m : MethodId} {args : Array Value} {below : List Frame} {meth : Method} {c : Code} {H : Heap} {locs : List Loc} {cells slots : Nat} {Q : State → Prop}
variable {cc : ByteArray} {pc : Nat} {ls : Array Slot} {rest : List Value} {D : va_G} {A : Nat → Prop} {cA : Nat → ClassId} {h0 ci : Nat} {fs : List Value} {tl ws : va_W} {C : String} {T : u_T} {N : Nat}
theorem st_put (hx : p.tables.exec = Jvm.exec) (hb : c.code = cc) (hts : ∀ w ∈ lw_good, w.before args s = true) (hown : s.vm.findClass C = some m.cls) (hin : meth.name = "<init>") (hK : va_K D vwCl (tysA cA) s) (hP : va_P D vwCl ((h0, .inr (ci, fs)) :: tl) H) (hD : va_D A ((h0, .inr (ci, fs)) :: tl)) (hS : va_S A s.heap H locs) (hc : vwCl[ci]? = some (C, T, N)) (k : Nat) (hk : k < N) {ix : Nat} (hlw : Jvm.Cond.fieldLink C ix (T k).1 (T k).2.1 (T k).2.2.1 ∈ lw_good) (hdecl : (T k).1 = C) {ty : FieldType} {v : Value} (hd : parseFieldDescriptor (T k).2.2.1 = some ty) (hn : narrow ty v = v) (hfit : fits ty v = true) (hl : k < fs.length)
    (hdg : decode cc pc = .ok (.putfield ix, 3)) (kk : ∀ (H1 : Heap) (locs1 : List Loc), va_P D vwCl ((h0, .inr (ci, fs.set k v)) :: tl) H1 → va_D A ((h0, .inr (ci, fs.set k v)) :: tl) → va_S A s.heap H1 locs1 → W p l e R s m args below meth c H1 locs1 cells slots Q (F0 m (pc + 3) ls rest)) : W p l e R s m args below meth c H locs cells slots Q (F0 m pc ls (v :: .ref h0 :: rest)) := by
  obtain ⟨o1, ⟨ty0, o2⟩, o3⟩ := okC_all hc
  cases hfin : (T k).2.2.2 with
  | true => exact va_putF hx hb hts o1 ty0 o2 o3 hown hK hP hD hS 0 rfl hc k hk (hts _ hlw) (fun _ q => q) hfin hin hdecl hd hn hfit hl hdg kk
  | false => exact va_put hx hb hts o1 ty0 o2 o3 hown hK hP hD hS 0 rfl hc k hk (hts _ hlw) (fun _ q => q) hfin hd hn hfit hl hdg kk
theorem st_get (hx : p.tables.exec = Jvm.exec) (hb : c.code = cc) (hts : ∀ w ∈ lw_good, w.before args s = true) (hown : s.vm.findClass C = some m.cls) (hK : va_K D vwCl (tysA cA) s) (hP : va_P D vwCl ((h0, .inr (ci, fs)) :: tl) H) (hc : vwCl[ci]? = some (C, T, N)) (k : Nat) (hk : k < N) {ix : Nat} (hlw : Jvm.Cond.fieldLink C ix (T k).1 (T k).2.1 (T k).2.2.1 ∈ lw_good) {v : Value} (hv : fs[k]? = some v) (hdg : decode cc pc = .ok (.getfield ix, 3))
    (kk : W p l e R s m args below meth c H locs cells slots Q (F0 m (pc + 3) ls (v :: rest))) : W p l e R s m args below meth c H locs cells slots Q (F0 m pc ls (.ref h0 :: rest)) :=
  va_get hx hb hts (okC_all hc).1 hown hK hP 0 rfl hc k hk (hts _ hlw) (fun _ q => q) hv hdg kk
theorem my_newa (hx : p.tables.exec = Jvm.exec) (hb : c.code = cc) {at9 : ArrayType} {ty : FieldType} (hty : newarray.typeOf at9 = ty) (harr : (Jvm.Cond.arrayClass (newarray.typeOf at9)).before args s = true) {t : Nat} {c0 : ClassId} (ht : (tysA cA)[t]? = some (c0, ty)) (hra : ∀ x, va_RA s x ty → s.vm.findClass ("[" ++ ty.toString) = some x) (hK : va_K D vwCl (tysA cA) s) (hP : va_P D vwCl ws H) (hD : va_D A ws) (hS : va_S A s.heap H locs) (hA : ∀ q, s.heap.size ≤ q → A q)
    {n : Int32} {N' : Nat} {a0 : vp_A} (ha : ∀ x : ClassId, vp_cell x a0 = arrV x N' (fun _ => defaultValue ty)) (hn : ¬ n < 0) (hN : n.toNatClampNeg = N') (hbytes : N' * componentBytes ty ≤ 536870912) (hcells : cells + 1 ≤ R.cells) (hslots : slots + N' ≤ R.slots) (hdg : decode cc pc = .ok (.newarray at9, 2))
    (kk : ∀ (q : Nat) (H1 : Heap), va_P D vwCl (ws ++ [(q, .inl (c0, a0))]) H1 → va_D A (ws ++ [(q, .inl (c0, a0))]) → va_S A s.heap H1 locs → W p l e R s m args below meth c H1 locs (cells + 1) (slots + N') Q (F0 m (pc + 2) ls (.ref q :: rest))) : W p l e R s m args below meth c H locs cells slots Q (F0 m pc ls (.int n :: rest)) := by
  refine va_newa (atype := at9) hx hb harr hty hK hP hD hS hA ha hn hN hbytes hcells hslots hdg (fun q c1 H1 hK1 hP1 hD1 hS1 => ?_)
  have e1 := hra _ (hK1.2 (tysA cA).length (c1, ty) (by simp)).2
  have e2 := hra _ (hK.2 t _ ht).2
  have e3 : c1 = c0 := Option.some.inj (e1.symm.trans e2)
  subst e3
  exact kk q H1 hP1 hD1 hS1
/-- this.f = new t[n] -/
theorem st_na (hx : p.tables.exec = Jvm.exec) (hb : c.code = cc) (hts : ∀ w ∈ lw_good, w.before args s = true) (hown : s.vm.findClass C = some m.cls) (hin : meth.name = "<init>") (hK : va_K D vwCl (tysA cA) s) (hP : va_P D vwCl ((h0, .inr (ci, fs)) :: tl) H) (hD : va_D A ((h0, .inr (ci, fs)) :: tl)) (hS : va_S A s.heap H locs) (hA : ∀ q, s.heap.size ≤ q → A q) (hl0 : ls[0]? = some (.val (.ref h0))) (hc : vwCl[ci]? = some (C, T, N))
    {at9 : ArrayType} {ty : FieldType} (hty : newarray.typeOf at9 = ty) (harr : Jvm.Cond.arrayClass (newarray.typeOf at9) ∈ lw_good) {t : Nat} {c0 : ClassId} (ht : (tysA cA)[t]? = some (c0, ty)) (hra : ∀ x, va_RA s x ty → s.vm.findClass ("[" ++ ty.toString) = some x) {n : Int32} {N' : Nat} {a0 : vp_A} (ha : ∀ x : ClassId, vp_cell x a0 = arrV x N' (fun _ => defaultValue ty)) (hn : ¬ n < 0) (hN : n.toNatClampNeg = N') (hbytes : N' * componentBytes ty ≤ 536870912) (hcells : cells + 1 ≤ R.cells) (hslots : slots + N' ≤ R.slots)
    (k : Nat) (hk : k < N) {ix : Nat} (hlw : Jvm.Cond.fieldLink C ix (T k).1 (T k).2.1 (T k).2.2.1 ∈ lw_good) (hdecl : (T k).1 = C) {ty2 : FieldType} (hd : parseFieldDescriptor (T k).2.2.1 = some ty2) (hn2 : ∀ q, narrow ty2 (.ref q) = .ref q) (hfit : ∀ q, fits ty2 (.ref q) = true) (hl : k < fs.length)
    {pc2 : Nat} (d0 : decode cc pc = .ok (.aload_n 0, 1)) (hpush : ∀ st, W p l e R s m args below meth c H locs cells slots Q (F0 m pc2 ls (.int n :: st)) → W p l e R s m args below meth c H locs cells slots Q (F0 m (pc + 1) ls st)) (d2 : decode cc pc2 = .ok (.newarray at9, 2)) (d3 : decode cc (pc2 + 2) = .ok (.putfield ix, 3))
    (kk : ∀ (q : Nat) (H1 : Heap) (locs1 : List Loc), va_P D vwCl ((h0, .inr (ci, fs.set k (.ref q))) :: (tl ++ [(q, .inl (c0, a0))])) H1 → va_D A ((h0, .inr (ci, fs.set k (.ref q))) :: (tl ++ [(q, .inl (c0, a0))])) → va_S A s.heap H1 locs1 → W p l e R s m args below meth c H1 locs1 (cells + 1) (slots + N') Q (F0 m (pc2 + 5) ls [])) : W p l e R s m args below meth c H locs cells slots Q (F0 m pc ls []) := by
  refine lv_aload_n hx hb d0 rfl hl0 ?_
  refine hpush _ ?_
  refine my_newa hx hb hty (hts _ harr) ht hra hK hP hD hS hA ha hn hN hbytes hcells hslots d2 (fun q H1 hP1 hD1 hS1 => ?_)
  have hP1 : va_P D vwCl ((h0, .inr (ci, fs)) :: (tl ++ [(q, .inl (c0, a0))])) H1 := hP1
  have hD1 : va_D A ((h0, .inr (ci, fs)) :: (tl ++ [(q, .inl (c0, a0))])) := hD1
  exact st_put hx hb hts hown hin hK hP1 hD1 hS1 hc k hk hlw hdecl hd (hn2 q) (hfit q) hl d3 (fun H2 locs2 hP2 hD2 hS2 => kk q H2 locs2 hP2 hD2 hS2)
theorem st_new {c2 : Nat} {C2 : String} {T2 : u_T} {N2 : Nat} (hx : p.tables.exec = Jvm.exec) (hb : c.code = cc) (hts : ∀ w ∈ lw_good, w.before args s = true) {own : String} (hown : s.vm.findClass own = some m.cls) (hK : va_K D vwCl (tysA cA) s) (hP : va_P D vwCl ws H) (hD : va_D A ws) (hS : va_S A s.heap H locs) (hA : ∀ q, s.heap.size ≤ q → A q) (hc : vwCl[c2]? = some (C2, T2, N2)) (ty : Nat → FieldType) (hty : ∀ k, k < N2 → parseFieldDescriptor (T2 k).2.2.1 = some (ty k)) {ix : Nat} (w1 : Jvm.Cond.classLink own ix C2 ∈ lw_good) (w2 : Jvm.Cond.instantiable C2 N2 ∈ lw_good) (w3 : Jvm.Cond.initialized C2 ∈ lw_good) {f2 : List Value} (hfs : ∀ j, j < N2 → defaultValue (ty j) = vp_V f2 j) (hcells : cells + 1 ≤ R.cells) (hslots : slots + N2 ≤ R.slots)
    (d0 : decode cc pc = .ok (.new ix, 3)) (d1 : decode cc (pc + 3) = .ok (.dup, 1))
    (kk : ∀ (q : Nat) (H1 : Heap), va_P D vwCl (ws ++ [(q, .inr (c2, f2))]) H1 → va_D A (ws ++ [(q, .inr (c2, f2))]) → va_S A s.heap H1 locs → W p l e R s m args below meth c H1 locs (cells + 1) (slots + N2) Q (F0 m (pc + 4) ls (.ref q :: .ref q :: rest))) : W p l e R s m args below meth c H locs cells slots Q (F0 m pc ls rest) := by
  refine va_new hx hb hts (okC_all hc).1 ty hty hown (hts _ w1) (hts _ w2) (hts _ w3) hK hP hD hS hA hc hfs hcells hslots d0 (fun q H1 hP1 hD1 hS1 => ?_)
  exact lv_dup hx hb d1 rfl (kk q H1 hP1 hD1 hS1)
theorem st_call {q mc ms : Nat} {e0 : va_E} {wOut : (Nat → Nat) → va_W} {a : Array Value} {st0 : List Value} (hrun : va_Run p l e R s m args below meth c H locs cells slots mc ms (F0 m pc ls st0) rest (CtQ D wOut (va_A [(q, e0)] H.size) a) (va_A [(q, e0)] H.size)) (hP : va_P D vwCl (ws ++ [(q, e0)]) H) (hD : va_D A (ws ++ [(q, e0)])) (hS : va_S A s.heap H locs) (hA : ∀ q, s.heap.size ≤ q → A q)
    (kk : ∀ (qs : Nat → Nat) (H1 : Heap) (locs1 : List Loc), va_P D vwCl (ws ++ wOut qs) H1 → va_D A (ws ++ wOut qs) → va_S A s.heap H1 locs1 → W p l e R s m args below meth c H1 locs1 (cells + mc) (slots + ms) Q (F0 m (pc + 3) ls rest)) : W p l e R s m args below meth c H locs cells slots Q (F0 m pc ls st0) := by
  have hq : (ws ++ [(q, e0)])[ws.length]? = some (q, e0) := by simp
  have left : ∀ {k : Nat} {x : Nat × va_E}, ws[k]? = some x → (ws ++ [(q, e0)])[k]? = some x ∧ k < ws.length := by
    intro k x hx
    have hlt := (List.getElem?_eq_some_iff.mp hx).1
    exact ⟨by rw [List.getElem?_append_left hlt]; exact hx, hlt⟩
  have hF : ∀ x, va_A [(q, e0)] H.size x → A x := by
    rintro x (⟨k, e9, h⟩ | h)
    · match k, h with
      | 0, h => cases h; exact hD.2 _ _ hq
      | k + 1, h => simp at h
    · exact hA x (Nat.le_trans hS.1 h)
  have apart : ∀ (k : Nat) (x : Nat × va_E), ws[k]? = some x → x.1 < H.size ∧ ¬ va_A [(q, e0)] H.size x.1 := by
    intro k x hx
    have hlt := (hP k x (left hx).1).lt
    refine ⟨hlt, ?_⟩
    rintro (⟨k2, e9, h⟩ | h)
    · match k2, h with
      | 0, h =>
        have e1 : q = x.1 := congrArg Prod.fst (Option.some.inj h)
        have := hD.1 _ _ _ _ (left hx).1 hq e1.symm
        have := (left hx).2
        omega
      | k2 + 1, h => simp at h
    · omega
  intro T9 hT X
  obtain ⟨v, st₀, t, T', L, h0, X', hL, e1, e2, ⟨⟨qs, hv, hP1, hD1⟩, hz, hk⟩, st⟩ := hrun T9 hT X
  cases hv
  rw [h0] at hz hk
  have hP2 : va_P D vwCl (ws ++ wOut qs) T'.heap := by
    refine va_P.app (fun k x hx => ?_) (by rw [e1]; exact hP1)
    exact (hP k x (left hx).1).kept (by rw [e1]; exact hk x.1 (apart k x hx).1 (apart k x hx).2)
  have hD2 : va_D A (ws ++ wOut qs) := by
    refine va_D.app ⟨fun i j p q hi hj h => hD.1 i j p q (left hi).1 (left hj).1 h, fun k q h => hD.2 k q (left h).1⟩ (hD1.weaken (fun k x _ h => hF _ h)) (fun i j x y hx hy hxy => ?_)
    exact (apart i x hx).2 (by rw [hxy]; exact hD1.2 j y hy)
  obtain ⟨t2, a1, b1⟩ := kk qs T'.heap (locs ++ L) hP2 hD2 ⟨Nat.le_trans hS.1 (by rw [e1]; exact hz), fun x h1 h2 => by
      rw [e1, hk x (Nat.lt_of_lt_of_le h1 hS.1) (fun z => h2 (hF x z))]; exact hS.2.1 x h1 h2, fun x hx => by
      rcases List.mem_append.mp hx with h | h
      · exact hS.2.2 x h
      · exact hF _ (hL x h)⟩ T' rfl X'
  exact ⟨t2, st t2 a1, b1⟩
theorem Cto.run {q mc ms ml fr n ix : Nat} {y : MethodName} {b : ByteArray} {As : List Value} {e0 : va_E} {wOut : (Nat → Nat) → va_W} {E : State → Prop} {own : String} (hC : Cto l D cA y b ml fr mc ms (.ref q :: As) [(q, e0)] E wOut) (hx : p.tables.exec = Jvm.exec) (hb : c.code = cc) (hml : c.maxLocals = ls.size) (hown : s.vm.findClass own = some m.cls) (hts : ∀ w ∈ lw_good, w.before args s = true) (hK : va_K D vwCl (tysA cA) s) (hP : va_P D vwCl (ws ++ [(q, e0)]) H)
    (hEb : ∀ (U : State) (g : JFrame) (mk : MethodId) (a : Array Value), E U → E (U.calling g mk a)) (hEw : ∀ U : State, s.WarmedH U.vm → E U)
    (hlink : va_Nw (.methodLinkNest own ix y "SecretBox") s ∨ Jvm.Cond.methodLink own ix y ∈ lw_good) (w2 : Jvm.Cond.instanceMethod y ∈ lw_good) (w3 : Jvm.Cond.initialized y.cls ∈ lw_good) (w4 : Jvm.Cond.code y b ml none ∈ lw_good) (hy : y.name = "<init>") (hd : y.cls ≠ "java/lang/invoke/MethodHandle" ∧ y.cls ≠ "java/lang/invoke/VarHandle" ∧ (parseMethodDescriptor y.desc).map (fun d => d.parameters.length) = some n) (hn : As.length = n)
    (hR : fr + 1 ≤ R.frames ∧ 19 + ml + 40 * fr ≤ R.locals) (hcl : cells + mc ≤ R.cells) (hsl : slots + ms ≤ R.slots) (hr8 : (rest.map fun v => v.category).sum ≤ 8) (hdg : decode cc pc = .ok (.invokespecial ix, 3)) : va_Run p l e R s m args below meth c H locs cells slots mc ms (F0 m pc ls (As.reverse ++ .ref q :: rest)) rest (CtQ D wOut (va_A [(q, e0)] H.size) (Value.ref q :: As).toArray) (va_A [(q, e0)] H.size) := by
  have hfix : CallFix p m c cc ls.size s args lw_good own := ⟨hx, hb, hml, hown, hts⟩
  have hP0 : va_P D vwCl [(q, e0)] H := by
    intro k x hx
    match k, hx with
    | 0, hx => cases hx; exact hP ws.length _ (by simp)
    | k + 1, hx => simp at hx
  have hD0 : va_D (fun _ => True) [(q, e0)] := by
    refine ⟨fun i j x y hi hj _ => ?_, fun _ _ _ => trivial⟩
    match i, j, hi, hj with
    | 0, 0, _, _ => rfl
    | i + 1, _, hi, _ => simp at hi
    | 0, j + 1, _, hj => simp at hj
  have hpre : PreS s H (va_Pc (.ref q :: As) (CtP D cA [(q, e0)] H.size E)) (.ref q :: As) := by
    refine ⟨fun a U g mk z => ?_, fun U hU hwm => ⟨rfl, by rw [hU], by rw [hU]; exact hP0, hD0, va_K.moved hwm.alike hK, hEw U hwm⟩⟩
    obtain ⟨z0, z1, z2, z3, z4, z5⟩ := z
    exact ⟨z0, z1, z2, z3, va_K.moved (u := U) (U := U.calling g mk a) (Vm.Alike.refl U.vm) z4, hEb U g mk a z5⟩
  have hG : GoodIn lw_good (wsS2 y b ml none) := by
    refine goodIn_lw (fun w h => ?_)
    rcases List.mem_cons.mp h with rfl | h2
    · exact w4
    · exact h2
  have hRR : (rmC fr mc ms).frames + 1 ≤ R.frames ∧ 8 + (ml + 11) + (rmC fr mc ms).locals ≤ R.locals := ⟨hR.1, by show 8 + (ml + 11) + 40 * fr ≤ _; omega⟩
  rcases hlink with h1 | h1
  · exact va_runIN (host := "SecretBox") hfix (hC H.size) ⟨va_cnB n hts hG rfl rfl rfl h1 (hts _ w3) hd hRR, hy, hts _ w2⟩ hpre rfl hn rfl rfl (lv_room (m := m) (pc := pc) (ls := ls) (rest := As.reverse ++ .ref q :: rest) hr8) hdg ⟨hcl, hsl⟩
  · exact va_runI hfix (hC H.size) (cwI n hts hG rfl rfl rfl (hts _ w3) (hts _ h1) (hts _ w2) hy hd hRR) hpre rfl hn rfl rfl (lv_room (m := m) (pc := pc) (ls := ls) (rest := As.reverse ++ .ref q :: rest) hr8) hdg ⟨hcl, hsl⟩
theorem st_ret {mc ms : Nat} {wOut : (Nat → Nat) → va_W} {qs : Nat → Nat} (hx : p.tables.exec = Jvm.exec) (hb : c.code = cc) (hr : meth.sig.returnType = none) (hlocks : meth.locks = false) (hP : va_P D vwCl (wOut qs) H) (hD : va_D A (wOut qs)) (hS : va_S A s.heap H locs) (h1 : cells ≤ mc) (h2 : slots ≤ ms) (hdg : decode cc pc = .ok (.return_, 1)) : W p l e R s m args below meth c H locs cells slots (MQ below (CtQ D wOut A) args s mc ms A) (F0 m pc ls []) :=
  W.widen h1 h2 (W.vret hx hb hr (fun t ht _ => ⟨⟨qs, rfl, by rw [ht]; exact hP, hD⟩, hS.F ht⟩) hS.2.2 hdg)
theorem st_obj {own : String} {ix : Nat} (hx : p.tables.exec = Jvm.exec) (hb : c.code = cc) (hml : c.maxLocals = ls.size) (hown : s.vm.findClass own = some m.cls) (hts : ∀ w ∈ lw_good, w.before args s = true) (hl0 : ls[0]? = some (.val (.ref h0))) (w1 : Jvm.Cond.methodLink own ix objectInit ∈ lw_good) (hR : 1 ≤ R.frames ∧ 12 ≤ R.locals) (d0 : decode cc 0 = .ok (.aload_n 0, 1)) (d1 : decode cc 1 = .ok (.invokespecial ix, 3)) (kk : W p l e R s m args below meth c H locs cells slots Q (F0 m 4 ls [])) : W p l e R s m args below meth c H locs cells slots Q (F0 m 0 ls []) := by
  refine lv_aload_n hx hb d0 rfl hl0 ?_
  refine W.objInit hx hb hown (hts _ w1) (hts _ (good_at (i := 44) (by decide +kernel) rfl)) (hts _ (good_at (i := 45) (by decide +kernel) rfl)) rfl hml.symm rfl d1 hR.1 (by show 2 * 0 + 0 + 12 ≤ _; omega) ?_
  exact W.eq (g2 := F0 m 4 ls []) rfl kk
end CTR
