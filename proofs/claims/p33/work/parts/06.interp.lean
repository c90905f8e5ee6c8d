/-! THE WALKED MACHINE: what a method does to its locals, its stack and the memory (whole numbers: I place slot, longs: J place slot), without heaps and frames. References are places (SKf); 100 is the script of the law, 101 its length, 201, 202 are the two texts. -/
abbrev Lv : Type := List (Option Value)
abbrev St : Type := List Value
abbrev I2 : Type := Nat → Nat → Int32
abbrev J2 : Type := Nat → Nat → Int64
abbrev Post : Type := Option Value → I2 → J2 → Prop
def rfv : Option Nat → Value
  | some a => .ref a
  | none => .null
def is2 : Value → Bool
  | .long _ => true
  | .double _ => true
  | _ => false
/-- a store: what overlapped it is gone -/
def stI (lv : Lv) (i : Nat) (v : Value) : Lv := match i with
  | 0 => lv.set 0 (some v)
  | k + 1 => match lv[k]? with
    | some (some o) => bif is2 o then (lv.set (k + 1) (some v)).set k none else lv.set (k + 1) (some v)
    | _ => lv.set (k + 1) (some v)
def stL (lv : Lv) (i : Nat) (v : Value) : Lv := (stI lv i v).set (i + 1) none
def up2 (I : I2) (a k : Nat) (x : Int32) : I2 := fun i => if i = a then upd (I i) k x else I i
def upJ (J : J2) (a k : Nat) (x : Int64) : J2 := fun i => if i = a then vp_updL (J i) k x else J i
def brI {α : Type} (c : Jvm.ClassFile.Cond) (x : Int32) (a b : α) : α := match c with
  | .eq => if x = 0 then a else b
  | .ne => if x = 0 then b else a
  | .lt => if x < 0 then a else b
  | .ge => if x < 0 then b else a
  | .gt => if 0 < x then a else b
  | .le => if 0 < x then b else a
def brC {α : Type} (c : Jvm.ClassFile.Cond) (x y : Int32) (a b : α) : α := match c with
  | .eq => if x = y then a else b
  | .ne => if x = y then b else a
  | .lt => if x < y then a else b
  | .ge => if x < y then b else a
  | .gt => if y < x then a else b
  | .le => if y < x then b else a
def swT (x : Int32) (pc : Nat) (d : Int) : List Int → Nat → Nat
  | [], _ => tg pc d
  | o :: t, k => if x = OfNat.ofNat k then tg pc o else swT x pc d t (k + 1)
/-- instructions of the stack alone -/
def opS (i : Instr) (st : St) : Option St := match i with
  | .iconst k => some (.int (iK k) :: st)
  | .bipush k => some (.int (iK k) :: st)
  | .sipush k => some (.int (iK k) :: st)
  | .lconst k => some (.long (lK k.val) :: st)
  | .iadd => match st with | .int y :: .int x :: r => some (.int (x + y) :: r) | _ => none
  | .isub => match st with | .int y :: .int x :: r => some (.int (x - y) :: r) | _ => none
  | .imul => match st with | .int y :: .int x :: r => some (.int (x * y) :: r) | _ => none
  | .iand => match st with | .int y :: .int x :: r => some (.int (x &&& y) :: r) | _ => none
  | .ior => match st with | .int y :: .int x :: r => some (.int (x ||| y) :: r) | _ => none
  | .ixor => match st with | .int y :: .int x :: r => some (.int (x ^^^ y) :: r) | _ => none
  | .idiv => match st with | .int y :: .int x :: r => if y = 0 then none else some (.int (x / y) :: r) | _ => none
  | .irem => match st with | .int y :: .int x :: r => if y = 0 then none else some (.int (x - x / y * y) :: r) | _ => none
  | .ineg => match st with | .int x :: r => some (.int (-x) :: r) | _ => none
  | .ishl => match st with | .int y :: .int x :: r => some (.int (x <<< (y &&& 31)) :: r) | _ => none
  | .ishr => match st with | .int y :: .int x :: r => some (.int (x >>> (y &&& 31)) :: r) | _ => none
  | .iushr => match st with | .int y :: .int x :: r => some (.int ((x.toUInt32 >>> (y.toUInt32 &&& Int32.toUInt32 31)).toInt32) :: r) | _ => none
  | .ladd => match st with | .long y :: .long x :: r => some (.long (x + y) :: r) | _ => none
  | .lsub => match st with | .long y :: .long x :: r => some (.long (x - y) :: r) | _ => none
  | .lmul => match st with | .long y :: .long x :: r => some (.long (x * y) :: r) | _ => none
  | .land => match st with | .long y :: .long x :: r => some (.long (x &&& y) :: r) | _ => none
  | .lor => match st with | .long y :: .long x :: r => some (.long (x ||| y) :: r) | _ => none
  | .ldiv => match st with | .long y :: .long x :: r => if y = 0 then none else some (.long (x / y) :: r) | _ => none
  | .lrem => match st with | .long y :: .long x :: r => if y = 0 then none else some (.long (x - x / y * y) :: r) | _ => none
  | .lshl => match st with | .int y :: .long x :: r => some (.long (x <<< (y.toInt64 &&& 63)) :: r) | _ => none
  | .lcmp => match st with | .long y :: .long x :: r => some (.int (lg_cmp x y) :: r) | _ => none
  | .i2l => match st with | .int x :: r => some (.long x.toInt64 :: r) | _ => none
  | .l2i => match st with | .long x :: r => some (.int x.toInt32 :: r) | _ => none
  | .i2b => match st with | .int x :: r => some (.int x.toInt8.toInt32 :: r) | _ => none
  | .i2s => match st with | .int x :: r => some (.int x.toInt16.toInt32 :: r) | _ => none
  | .i2c => match st with | .int x :: r => some (.int (x.toUInt32 % 65536).toInt32 :: r) | _ => none
  | .dup => match st with | v :: r => bif is2 v then none else some (v :: v :: r) | _ => none
  | .pop => match st with | v :: r => bif is2 v then none else some r | _ => none
  | .dup_x1 => match st with | v :: u :: r => bif is2 v || is2 u then none else some (v :: u :: v :: r) | _ => none
  | .dup2 => match st with
    | v :: r => bif is2 v then some (v :: v :: r) else match r with
      | u :: r2 => bif is2 u then none else some (v :: u :: v :: u :: r2)
      | _ => none
    | _ => none
  | _ => none
/-- instructions of locals: which are read, which are written -/
def opL (i : Instr) (lv : Lv) (st : St) : Option (Lv × St) := match i with
  | .iload k => match lv[k]? with | some (some (.int x)) => some (lv, .int x :: st) | _ => none
  | .iload_n k => match lv[k.val]? with | some (some (.int x)) => some (lv, .int x :: st) | _ => none
  | .lload k => match lv[k]? with | some (some (.long x)) => some (lv, .long x :: st) | _ => none
  | .lload_n k => match lv[k.val]? with | some (some (.long x)) => some (lv, .long x :: st) | _ => none
  | .aload k => match lv[k]? with | some (some (.ref x)) => some (lv, .ref x :: st) | _ => none
  | .aload_n k => match lv[k.val]? with | some (some (.ref x)) => some (lv, .ref x :: st) | _ => none
  | .istore k => match st with | .int x :: r => bif Nat.blt k lv.length then some (stI lv k (.int x), r) else none | _ => none
  | .istore_n k => match st with | .int x :: r => bif Nat.blt k.val lv.length then some (stI lv k.val (.int x), r) else none | _ => none
  | .astore k => match st with | .ref x :: r => bif Nat.blt k lv.length then some (stI lv k (.ref x), r) else none | _ => none
  | .astore_n k => match st with | .ref x :: r => bif Nat.blt k.val lv.length then some (stI lv k.val (.ref x), r) else none | _ => none
  | .lstore k => match st with | .long x :: r => bif Nat.blt (k + 1) lv.length then some (stL lv k (.long x), r) else none | _ => none
  | .lstore_n k => match st with | .long x :: r => bif Nat.blt (k.val + 1) lv.length then some (stL lv k.val (.long x), r) else none | _ => none
  | .iinc k c => match lv[k]? with | some (some (.int x)) => some (stI lv k (.int (x + iK c)), st) | _ => none
  | _ => none
/-- what a method may reach: place 58 is that of the row that moved makes -/
def SKo (own a : Nat) : Option (Nat × Nat) := bif Nat.beq a 58 && !(Nat.beq own 9) then none else SKf a
/-- instructions of memory -/
def opM (own : Nat) (i : Instr) (st : St) (I : I2) (J : J2) : Option (St × I2 × J2) := match i with
  | .getfield ix => match st with
    | .ref a :: r => match FTf own ix, SKo own a with
      | some (ci, k, kd), some (t, c) => bif Nat.beq t 0 && Nat.beq c ci then some ((bif Nat.beq kd 1 then rfv (R0 a k) else .int (I a k)) :: r, I, J) else none
      | _, _ => none
    | _ => none
  | .putfield ix => match st with
    | .int x :: .ref a :: r => match FTf own ix, SKo own a with
      | some (ci, k, kd), some (t, c) => bif Nat.beq t 0 && Nat.beq c ci then (bif Nat.beq kd 0 then some (r, up2 I a k x, J) else bif Nat.beq kd 2 then (if x = 0 ∨ x = 1 then some (r, up2 I a k x, J) else none) else none) else none
      | _, _ => none
    | _ => none
  | .iaload => match st with
    | .int i :: .ref a :: r => match SKo own a with
      | some (t, n) => bif Nat.beq t 1 then (if i < 0 ∨ n ≤ i.toNatClampNeg then none else some (.int (I a i.toNatClampNeg) :: r, I, J)) else none
      | none => bif Nat.beq a 100 && Nat.beq own 7 then (if i < 0 ∨ (I 101 0).toNatClampNeg ≤ i.toNatClampNeg then none else some (.int (I 100 i.toNatClampNeg) :: r, I, J)) else none
    | _ => none
  | .caload => match st with
    | .int i :: .ref a :: r => match SKo own a with
      | some (t, n) => bif Nat.beq t 2 then (if i < 0 ∨ n ≤ i.toNatClampNeg then none else some (.int (I a i.toNatClampNeg) :: r, I, J)) else none
      | none => none
    | _ => none
  | .laload => match st with
    | .int i :: .ref a :: r => match SKo own a with
      | some (t, n) => bif Nat.beq t 3 then (if i < 0 ∨ n ≤ i.toNatClampNeg then none else some (.long (J a i.toNatClampNeg) :: r, I, J)) else none
      | none => none
    | _ => none
  | .aaload => match st with
    | .int i :: .ref a :: r => match SKo own a with
      | some (t, n) => bif Nat.beq t 4 then (if i < 0 ∨ n ≤ i.toNatClampNeg then none else some (rfv (R0 a i.toNatClampNeg) :: r, I, J)) else none
      | none => none
    | _ => none
  | .iastore => match st with
    | .int x :: .int i :: .ref a :: r => match SKo own a with
      | some (t, n) => bif Nat.beq t 1 then (if i < 0 ∨ n ≤ i.toNatClampNeg then none else some (r, up2 I a i.toNatClampNeg x, J)) else none
      | none => none
    | _ => none
  | .castore => match st with
    | .int x :: .int i :: .ref a :: r => match SKo own a with
      | some (t, n) => bif Nat.beq t 2 then (if i < 0 ∨ n ≤ i.toNatClampNeg then none else some (r, up2 I a i.toNatClampNeg (vp_nar .char x), J)) else none
      | none => none
    | _ => none
  | .lastore => match st with
    | .long x :: .int i :: .ref a :: r => match SKo own a with
      | some (t, n) => bif Nat.beq t 3 then (if i < 0 ∨ n ≤ i.toNatClampNeg then none else some (r, I, upJ J a i.toNatClampNeg x)) else none
      | none => none
    | _ => none
  | .arraylength => match st with
    | .ref a :: r => bif Nat.beq a 100 && Nat.beq own 7 then some (.int (I 101 0) :: r, I, J) else none
    | _ => none
  | .ldc ix => match LCf own ix with
    | some v => some (.int v :: st, I, J)
    | none => bif Nat.beq own 3 && Nat.beq ix 45 then some (.ref 201 :: st, I, J) else bif Nat.beq own 3 && Nat.beq ix 64 then some (.ref 202 :: st, I, J) else none
  | .ldc_w ix => match LCf own ix with | some v => some (.int v :: st, I, J) | none => none
  | .ldc2_w ix => match LC2f own ix with | some v => some (.long v :: st, I, J) | none => none
  | _ => none
/-- the letters of the two texts, by place: the first that is so, or -1 -/
def txF (c : Int32) : List Int32 → Int32 → Int32
  | [], _ => -1
  | b :: t, k => if c = b then k else txF c t (k + 1)
def tx1 : List Int32 := [112, 115, 114, 108, 98]
def tx2 : List Int32 := [60, 62, 61]
/-- what is left to the library: System.arraycopy, String.indexOf of the two texts -/
def opX (own : Nat) (i : Instr) (st : St) (I : I2) (J : J2) : Option (St × I2 × J2) := match i with
  | .invokestatic ix => bif Nat.beq own 0 && Nat.beq ix 65 then (match st with
    | .int n :: .int dp :: .ref a :: .int sp :: .ref b :: r => bif Nat.ble (r.map fun v => v.category).sum 8 then (match SKo own a, SKo own b with
      | some (t, x), some (u, y) => if sp < 0 ∨ dp < 0 ∨ n < 0 ∨ y < sp.toNatClampNeg + n.toNatClampNeg ∨ x < dp.toNatClampNeg + n.toNatClampNeg then none else
          bif Nat.beq t 1 && Nat.beq u 1 then some (r, (fun i => if i = a then va_cpy (I b) (I a) sp.toNatClampNeg dp.toNatClampNeg n.toNatClampNeg else I i), J) else
          bif Nat.beq t 3 && Nat.beq u 3 then some (r, I, (fun i => if i = a then va_cpy (J b) (J a) sp.toNatClampNeg dp.toNatClampNeg n.toNatClampNeg else J i)) else none
      | _, _ => none) else none
    | _ => none) else none
  | .invokevirtual ix => bif Nat.beq own 3 && Nat.beq ix 86 then (match st with
    | .int c :: .ref a :: r => bif Nat.ble (r.map fun v => v.category).sum 8 then (bif Nat.beq a 201 then some (.int (txF c tx1 0) :: r, I, J) else bif Nat.beq a 202 then some (.int (txF c tx2 0) :: r, I, J) else none) else none
    | _ => none) else none
  | _ => none
abbrev Sg : Type := Nat × Lv × St × I2 × J2
/-- one step -/
def exec1 (own : Nat) (i : Instr) (pc n : Nat) (lv : Lv) (st : St) (I : I2) (J : J2) : Option Sg := match i with
  | .ifCond c off => match st with | .int x :: r => some (brI c x (tg pc off) (pc + n), lv, r, I, J) | _ => none
  | .if_icmp c off => match st with | .int y :: .int x :: r => some (brC c x y (tg pc off) (pc + n), lv, r, I, J) | _ => none
  | .goto off => some (tg pc off, lv, st, I, J)
  | .tableswitch d _ _ offs => match st with | .int x :: r => some (swT x pc d offs.toList 0, lv, r, I, J) | _ => none
  | i => match opS i st with
    | some st' => some (pc + n, lv, st', I, J)
    | none => match opL i lv st with
      | some (lv', st') => some (pc + n, lv', st', I, J)
      | none => match opM own i st I J with
        | some (st', I', J') => some (pc + n, lv, st', I', J')
        | none => match opX own i st I J with
          | some (st', I', J') => some (pc + n, lv, st', I', J')
          | none => none
def stepP (M : Nat) : Sg → Option Sg := fun (pc, lv, st, I, J) => match fetch M pc with
  | some (i, n) => exec1 (owM M) i pc n lv st I J
  | none => none
def stepsP (M : Nat) : Nat → Sg → Option Sg
  | 0, s => some s
  | k + 1, s => match stepP M s with
    | some s' => stepsP M k s'
    | none => none
/-- the end of a method -/
def retQ (M pc : Nat) (st : St) : Option (Option Value) := match fetch M pc with
  | some (.return_, _) => match rtM M, st with | none, [] => some none | _, _ => none
  | some (.lreturn, _) => match rtM M, st with | some .long, [.long x] => some (some (.long x)) | _, _ => none
  | some (.ireturn, _) => match rtM M, st with
    | some .int, [.int x] => some (some (.int x))
    | some .boolean, [.int x] => if x = 0 ∨ x = 1 then some (some (.int x)) else none
    | some .char, [.int x] => if vp_nar .char x = x then some (some (.int x)) else none
    | _, _ => none
  | _ => none
def PCC : Nat := 131
/-- the law's first part ends ahead of its call of moved -/
def exA (pc : Nat) (lv : Lv) (st : St) : Option (Option Value) := bif Nat.beq pc PCC then (match lv, st with
  | some (.ref a) :: some (.ref b) :: some (.ref c) :: _ :: some (.long y) :: _, [] => bif Nat.beq a 100 && (Nat.beq b 0 && Nat.beq c 57) then some (some (.long y)) else none
  | _, _ => none) else none
def retP (M pc : Nat) (lv : Lv) (st : St) : Option (Option Value) := bif Nat.beq M 0 then exA pc lv st else retQ M pc st
/-- a call: of which method, with what, what stays on the stack -/
def callP (M pc : Nat) (st : St) : Option (Nat × List Value × St) := match fetch M pc with
  | some (.invokevirtual ix, _) => match KTf (owM M) ix with
    | some (kd, M', n) => bif Nat.beq kd 0 && Nat.beq (st.take n).length n then (match st.drop n with
      | .ref b :: r => match SKf b with
        | some (t, c) => bif Nat.beq t 0 && Nat.beq c (owM M') && Nat.ble (r.map fun v => v.category).sum 8 then some (M', .ref b :: (st.take n).reverse, r) else none
        | none => none
      | _ => none) else none
    | none => none
  | some (.invokestatic ix, _) => match KTf (owM M) ix with
    | some (kd, M', n) => bif !(Nat.beq kd 0) && Nat.beq (st.take n).length n && Nat.ble ((st.drop n).map fun v => v.category).sum 8 then some (M', (st.take n).reverse, st.drop n) else none
    | none => none
  | _ => none
def lvLe (a b : Lv) : Prop := a.length = b.length ∧ ∀ (i : Nat) (v : Value), a[i]? = some (some v) → b[i]? = some (some v)
def entL : List Value → Lv
  | [] => []
  | v :: t => bif is2 v then some v :: none :: entL t else some v :: entL t
def entLv (n : Nat) (as : List Value) : Lv := entL as ++ List.replicate (n - (entL as).length) none
abbrev Cw : Type := Nat → List Value → I2 → J2 → Post → Prop
/-- what is closed under the steps of a method, from its ends back -/
def Rules (cw : Cw) (M : Nat) (Q : Post) (X : Nat → Lv → St → I2 → J2 → Prop) : Prop :=
  (∀ pc lv st I J pc' lv' st' I' J', stepP M (pc, lv, st, I, J) = some (pc', lv', st', I', J') → X pc' lv' st' I' J' → X pc lv st I J) ∧
  (∀ pc lv st I J r, retP M pc lv st = some r → Q r I J → X pc lv st I J) ∧
  (∀ pc lv st I J M' as rest, callP M pc st = some (M', as, rest) → cw M' as I J (fun r I' J' => X (pc + 3) lv (r.toList ++ rest) I' J') → X pc lv st I J) ∧
  (∀ pc lv lv' st I J, lvLe lv' lv → X pc lv' st I J → X pc lv st I J)
def callW : Nat → Cw
  | 0, _, _, _, _, _ => False
  | d + 1, M, as, I, J, Q => Nat.ble (entL as).length (mlM M) = true ∧ ∀ X, Rules (callW d) M Q X → X 0 (entLv (mlM M) as) [] I J
def Wp (d M : Nat) (Q : Post) (pc : Nat) (lv : Lv) (st : St) (I : I2) (J : J2) : Prop := ∀ X, Rules (callW d) M Q X → X pc lv st I J
theorem callW_mono {d M : Nat} {as : List Value} {I : I2} {J : J2} {Q Q' : Post} (h : callW d M as I J Q) (hQ : ∀ r I' J', Q r I' J' → Q' r I' J') : callW d M as I J Q' := by
  cases d with
  | zero => exact h
  | succ d => exact ⟨h.1, fun X hX => h.2 X ⟨hX.1, fun pc lv st I J r hr hq => hX.2.1 pc lv st I J r hr (hQ _ _ _ hq), hX.2.2.1, hX.2.2.2⟩⟩
theorem callW.of {d M : Nat} {as : List Value} {I : I2} {J : J2} {Q : Post} (hl : Nat.ble (entL as).length (mlM M) = true) (h : Wp d M Q 0 (entLv (mlM M) as) [] I J) : callW (d + 1) M as I J Q := ⟨hl, h⟩
theorem Wp.step {d M : Nat} {Q : Post} {pc pc' : Nat} {lv lv' : Lv} {st st' : St} {I I' : I2} {J J' : J2} (h : stepP M (pc, lv, st, I, J) = some (pc', lv', st', I', J')) (k : Wp d M Q pc' lv' st' I' J') : Wp d M Q pc lv st I J :=
  fun X hX => hX.1 _ _ _ _ _ _ _ _ _ _ h (k X hX)
theorem Wp.steps {d M : Nat} {Q : Post} (n : Nat) {pc pc' : Nat} {lv lv' : Lv} {st st' : St} {I I' : I2} {J J' : J2} (h : stepsP M n (pc, lv, st, I, J) = some (pc', lv', st', I', J')) (k : Wp d M Q pc' lv' st' I' J') : Wp d M Q pc lv st I J := by
  induction n generalizing pc lv st I J with
  | zero =>
    simp only [stepsP, Option.some.injEq, Prod.mk.injEq] at h
    obtain ⟨rfl, rfl, rfl, rfl, rfl⟩ := h
    exact k
  | succ n ih =>
    simp only [stepsP] at h
    split at h
    next s' hs =>
      obtain ⟨p2, l2, t2, I2', J2'⟩ := s'
      exact Wp.step hs (ih h)
    next => cases h
theorem Wp.ret {d M : Nat} {Q : Post} {pc : Nat} {lv : Lv} {st : St} {I : I2} {J : J2} {r : Option Value} (h : retP M pc lv st = some r) (k : Q r I J) : Wp d M Q pc lv st I J :=
  fun _ hX => hX.2.1 _ _ _ _ _ _ h k
theorem Wp.call {d M : Nat} {Q : Post} {pc : Nat} {lv : Lv} {st : St} {I : I2} {J : J2} {M' : Nat} {as : List Value} {rest : St} (h : callP M pc st = some (M', as, rest)) (k : callW d M' as I J (fun r I' J' => Wp d M Q (pc + 3) lv (r.toList ++ rest) I' J')) : Wp d M Q pc lv st I J :=
  fun X hX => hX.2.2.1 _ _ _ _ _ _ _ _ h (callW_mono k fun _ _ _ q => q X hX)
theorem Wp.forget {d M : Nat} {Q : Post} {pc : Nat} {lv : Lv} {st : St} {I : I2} {J : J2} (lv' : Lv) (h : lvLe lv' lv) (k : Wp d M Q pc lv' st I J) : Wp d M Q pc lv st I J :=
  fun X hX => hX.2.2.2 _ _ _ _ _ _ h (k X hX)
theorem Wp.mono {d M : Nat} {Q Q' : Post} {pc : Nat} {lv : Lv} {st : St} {I : I2} {J : J2} (h : Wp d M Q pc lv st I J) (hQ : ∀ r I' J', Q r I' J' → Q' r I' J') : Wp d M Q' pc lv st I J :=
  fun X hX => h X ⟨hX.1, fun pc lv st I J r hr hq => hX.2.1 pc lv st I J r hr (hQ _ _ _ hq), hX.2.2.1, hX.2.2.2⟩
theorem Wp.ite {d M : Nat} {Q : Post} {c : Prop} {dc : Decidable c} {a b : Nat} {lv : Lv} {st : St} {I : I2} {J : J2} (ht : c → Wp d M Q a lv st I J) (hf : ¬ c → Wp d M Q b lv st I J) : Wp d M Q (if c then a else b) lv st I J := by
  by_cases h : c
  · rw [if_pos h]; exact ht h
  · rw [if_neg h]; exact hf h
