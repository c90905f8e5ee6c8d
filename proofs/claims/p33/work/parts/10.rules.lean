/-! RULES for what asks something, and calls by what they answer -/
abbrev tN (x : Int32) : Nat := x.toNatClampNeg
def rmI (x y : Int32) : Int32 := x - x / y * y
def rmL (x y : Int64) : Int64 := x - x / y * y
def slI (x y : Int32) : Int32 := x <<< (y &&& 31)
def srI (x y : Int32) : Int32 := x >>> (y &&& 31)
def urI (x y : Int32) : Int32 := (x.toUInt32 >>> (y.toUInt32 &&& Int32.toUInt32 31)).toInt32
def slL (x : Int64) (y : Int32) : Int64 := x <<< (y.toInt64 &&& 63)
def i2b (x : Int32) : Int32 := x.toInt8.toInt32
def i2s (x : Int32) : Int32 := x.toInt16.toInt32
def i2c (x : Int32) : Int32 := (x.toUInt32 % 65536).toInt32
def cpI (I : I2) (a b sp dp n : Nat) : I2 := fun i => if i = a then va_cpy (I b) (I a) sp dp n else I i
def cpJ (J : J2) (a b sp dp n : Nat) : J2 := fun i => if i = a then va_cpy (J b) (J a) sp dp n else J i
def CI (d M : Nat) (as : List Value) (I : I2) (J : J2) (F : Int32 → I2 → J2 → Prop) : Prop := callW d M as I J (fun r I' J' => ∃ v, r = some (.int v) ∧ F v I' J')
def CL (d M : Nat) (as : List Value) (I : I2) (J : J2) (F : Int64 → I2 → J2 → Prop) : Prop := callW d M as I J (fun r I' J' => ∃ v, r = some (.long v) ∧ F v I' J')
def CV (d M : Nat) (as : List Value) (I : I2) (J : J2) (F : I2 → J2 → Prop) : Prop := callW d M as I J (fun r I' J' => r = none ∧ F I' J')
theorem CI.use {d M : Nat} {as : List Value} {I : I2} {J : J2} {F : Int32 → I2 → J2 → Prop} {G : Post} (h : CI d M as I J F) (k : ∀ v I' J', F v I' J' → G (some (.int v)) I' J') : callW d M as I J G :=
  callW_mono h (fun r I' J' ⟨v, e, f⟩ => e ▸ k v I' J' f)
theorem CL.use {d M : Nat} {as : List Value} {I : I2} {J : J2} {F : Int64 → I2 → J2 → Prop} {G : Post} (h : CL d M as I J F) (k : ∀ v I' J', F v I' J' → G (some (.long v)) I' J') : callW d M as I J G :=
  callW_mono h (fun r I' J' ⟨v, e, f⟩ => e ▸ k v I' J' f)
theorem CV.use {d M : Nat} {as : List Value} {I : I2} {J : J2} {F : I2 → J2 → Prop} {G : Post} (h : CV d M as I J F) (k : ∀ I' J', F I' J' → G none I' J') : callW d M as I J G :=
  callW_mono h (fun r I' J' ⟨e, f⟩ => e ▸ k I' J' f)
theorem CI.mono {d M : Nat} {as : List Value} {I : I2} {J : J2} {F G : Int32 → I2 → J2 → Prop} (h : CI d M as I J F) (k : ∀ v I' J', F v I' J' → G v I' J') : CI d M as I J G :=
  callW_mono h (fun r I' J' ⟨v, e, f⟩ => ⟨v, e, k v I' J' f⟩)
theorem CL.mono {d M : Nat} {as : List Value} {I : I2} {J : J2} {F G : Int64 → I2 → J2 → Prop} (h : CL d M as I J F) (k : ∀ v I' J', F v I' J' → G v I' J') : CL d M as I J G :=
  callW_mono h (fun r I' J' ⟨v, e, f⟩ => ⟨v, e, k v I' J' f⟩)
theorem CV.mono {d M : Nat} {as : List Value} {I : I2} {J : J2} {F G : I2 → J2 → Prop} (h : CV d M as I J F) (k : ∀ I' J', F I' J' → G I' J') : CV d M as I J G :=
  callW_mono h (fun r I' J' ⟨e, f⟩ => ⟨e, k I' J' f⟩)
def dropL : List Nat → Lv → Lv
  | [], lv => lv
  | k :: t, lv => dropL t (lv.set k none)
theorem lvLe_drop : ∀ (ks : List Nat) (lv : Lv), lvLe (dropL ks lv) lv := by
  intro ks
  induction ks with
  | nil => intro lv; exact ⟨rfl, fun _ _ h => h⟩
  | cons k t ih =>
    intro lv
    obtain ⟨h1, h2⟩ := ih (lv.set k none)
    refine ⟨h1.trans (by simp), fun i v hi => ?_⟩
    have h3 := h2 i v hi
    rw [List.getElem?_set] at h3
    split at h3
    · split at h3 <;> cases h3
    · exact h3
theorem Wp.drop {d M : Nat} {Q : Post} {pc : Nat} {lv lv' : Lv} {st : St} {I : I2} {J : J2} (ks : List Nat) (h : dropL ks lv = lv') (k : Wp d M Q pc lv' st I J) : Wp d M Q pc lv st I J := by
  subst h; exact Wp.forget _ (lvLe_drop ks lv) k
theorem vp_4 {i : Int32} (h : vp_in i 4) : i = 0 ∨ i = 1 ∨ i = 2 ∨ i = 3 := by
  obtain ⟨j, hj, rfl⟩ := vp_in_of h (by decide)
  match j, hj with
  | 0, _ => exact Or.inl rfl
  | 1, _ => exact Or.inr (Or.inl rfl)
  | 2, _ => exact Or.inr (Or.inr (Or.inl rfl))
  | 3, _ => exact Or.inr (Or.inr (Or.inr rfl))
section RU
variable {d M : Nat} {Q : Post} {pc n a : Nat} {lv : Lv} {r : St} {I : I2} {J : J2}
theorem Wp.iald {i : Int32} (hf : fetch M pc = some (.iaload, 1)) (hs : SKo (owM M) a = some (1, n)) (hin : vp_in i n) (k : Wp d M Q (pc + 1) lv (.int (I a i.toNatClampNeg) :: r) I J) : Wp d M Q pc lv (.int i :: .ref a :: r) I J := by
  refine Wp.step (pc' := pc + 1) (lv' := lv) (st' := .int (I a i.toNatClampNeg) :: r) (I' := I) (J' := J) ?_ k
  simp only [stepP, hf, exec1, opS, opL, opM, hs]
  simp only [show Nat.beq 1 1 = true from rfl, cond_true, if_neg hin]
theorem Wp.isld {i : Int32} (hf : fetch M pc = some (.iaload, 1)) (ho : owM M = 7) (hin : vp_in i (I 101 0).toNatClampNeg) (k : Wp d M Q (pc + 1) lv (.int (I 100 i.toNatClampNeg) :: r) I J) : Wp d M Q pc lv (.int i :: .ref 100 :: r) I J := by
  refine Wp.step (pc' := pc + 1) (lv' := lv) (st' := .int (I 100 i.toNatClampNeg) :: r) (I' := I) (J' := J) ?_ k
  simp only [stepP, hf, exec1, opS, opL, opM, ho, show SKo 7 100 = none from rfl]
  simp only [show (Nat.beq 100 100 && Nat.beq 7 7) = true from rfl, cond_true, if_neg hin]
theorem Wp.cald {i : Int32} (hf : fetch M pc = some (.caload, 1)) (hs : SKo (owM M) a = some (2, n)) (hin : vp_in i n) (k : Wp d M Q (pc + 1) lv (.int (I a i.toNatClampNeg) :: r) I J) : Wp d M Q pc lv (.int i :: .ref a :: r) I J := by
  refine Wp.step (pc' := pc + 1) (lv' := lv) (st' := .int (I a i.toNatClampNeg) :: r) (I' := I) (J' := J) ?_ k
  simp only [stepP, hf, exec1, opS, opL, opM, hs]
  simp only [show Nat.beq 2 2 = true from rfl, cond_true, if_neg hin]
theorem Wp.lald {i : Int32} (hf : fetch M pc = some (.laload, 1)) (hs : SKo (owM M) a = some (3, n)) (hin : vp_in i n) (k : Wp d M Q (pc + 1) lv (.long (J a i.toNatClampNeg) :: r) I J) : Wp d M Q pc lv (.int i :: .ref a :: r) I J := by
  refine Wp.step (pc' := pc + 1) (lv' := lv) (st' := .long (J a i.toNatClampNeg) :: r) (I' := I) (J' := J) ?_ k
  simp only [stepP, hf, exec1, opS, opL, opM, hs]
  simp only [show Nat.beq 3 3 = true from rfl, cond_true, if_neg hin]
theorem Wp.iast {i x : Int32} (hf : fetch M pc = some (.iastore, 1)) (hs : SKo (owM M) a = some (1, n)) (hin : vp_in i n) (k : Wp d M Q (pc + 1) lv r (up2 I a i.toNatClampNeg x) J) : Wp d M Q pc lv (.int x :: .int i :: .ref a :: r) I J := by
  refine Wp.step (pc' := pc + 1) (lv' := lv) (st' := r) (I' := up2 I a i.toNatClampNeg x) (J' := J) ?_ k
  simp only [stepP, hf, exec1, opS, opL, opM, hs]
  simp only [show Nat.beq 1 1 = true from rfl, cond_true, if_neg hin]
theorem Wp.cast {i x : Int32} (hf : fetch M pc = some (.castore, 1)) (hs : SKo (owM M) a = some (2, n)) (hin : vp_in i n) (k : Wp d M Q (pc + 1) lv r (up2 I a i.toNatClampNeg (vp_nar .char x)) J) : Wp d M Q pc lv (.int x :: .int i :: .ref a :: r) I J := by
  refine Wp.step (pc' := pc + 1) (lv' := lv) (st' := r) (I' := up2 I a i.toNatClampNeg (vp_nar .char x)) (J' := J) ?_ k
  simp only [stepP, hf, exec1, opS, opL, opM, hs]
  simp only [show Nat.beq 2 2 = true from rfl, cond_true, if_neg hin]
theorem Wp.last {i : Int32} {x : Int64} (hf : fetch M pc = some (.lastore, 1)) (hs : SKo (owM M) a = some (3, n)) (hin : vp_in i n) (k : Wp d M Q (pc + 1) lv r I (upJ J a i.toNatClampNeg x)) : Wp d M Q pc lv (.long x :: .int i :: .ref a :: r) I J := by
  refine Wp.step (pc' := pc + 1) (lv' := lv) (st' := r) (I' := I) (J' := upJ J a i.toNatClampNeg x) ?_ k
  simp only [stepP, hf, exec1, opS, opL, opM, hs]
  simp only [show Nat.beq 3 3 = true from rfl, cond_true, if_neg hin]
theorem Wp.idiv {x y : Int32} (hf : fetch M pc = some (.idiv, 1)) (hin : ¬ y = 0) (k : Wp d M Q (pc + 1) lv (.int (x / y) :: r) I J) : Wp d M Q pc lv (.int y :: .int x :: r) I J := by
  refine Wp.step (pc' := pc + 1) (lv' := lv) (st' := .int (x / y) :: r) (I' := I) (J' := J) ?_ k
  simp only [stepP, hf, exec1, opS, if_neg hin]
theorem Wp.irem {x y : Int32} (hf : fetch M pc = some (.irem, 1)) (hin : ¬ y = 0) (k : Wp d M Q (pc + 1) lv (.int (rmI x y) :: r) I J) : Wp d M Q pc lv (.int y :: .int x :: r) I J := by
  refine Wp.step (pc' := pc + 1) (lv' := lv) (st' := .int (rmI x y) :: r) (I' := I) (J' := J) ?_ k
  simp only [stepP, hf, exec1, opS, if_neg hin, rmI]
theorem Wp.ldiv {x y : Int64} (hf : fetch M pc = some (.ldiv, 1)) (hin : ¬ y = 0) (k : Wp d M Q (pc + 1) lv (.long (x / y) :: r) I J) : Wp d M Q pc lv (.long y :: .long x :: r) I J := by
  refine Wp.step (pc' := pc + 1) (lv' := lv) (st' := .long (x / y) :: r) (I' := I) (J' := J) ?_ k
  simp only [stepP, hf, exec1, opS, if_neg hin]
theorem Wp.lrem {x y : Int64} (hf : fetch M pc = some (.lrem, 1)) (hin : ¬ y = 0) (k : Wp d M Q (pc + 1) lv (.long (rmL x y) :: r) I J) : Wp d M Q pc lv (.long y :: .long x :: r) I J := by
  refine Wp.step (pc' := pc + 1) (lv' := lv) (st' := .long (rmL x y) :: r) (I' := I) (J' := J) ?_ k
  simp only [stepP, hf, exec1, opS, if_neg hin, rmL]
theorem Wp.putz {x : Int32} {ix ci kk : Nat} (hf : fetch M pc = some (.putfield ix, 3)) (hF : FTf (owM M) ix = some (ci, kk, 2)) (hs : SKo (owM M) a = some (0, ci)) (hin : x = 0 ∨ x = 1) (k : Wp d M Q (pc + 3) lv r (up2 I a kk x) J) : Wp d M Q pc lv (.int x :: .ref a :: r) I J := by
  refine Wp.step (pc' := pc + 3) (lv' := lv) (st' := r) (I' := up2 I a kk x) (J' := J) ?_ k
  simp only [stepP, hf, exec1, opS, opL, opM, hF, hs]
  have e : Nat.beq ci ci = true := Nat.beq_refl ci
  simp only [show Nat.beq 0 0 = true from rfl, show Nat.beq 2 0 = false from rfl, show Nat.beq 2 2 = true from rfl, e, Bool.and_self, cond_true, cond_false, if_pos hin]
theorem Wp.retZ {x : Int32} (hM : Nat.beq M 0 = false) (hf : fetch M pc = some (.ireturn, 1)) (hr : rtM M = some .boolean) (h : x = 0 ∨ x = 1) (k : Q (some (.int x)) I J) : Wp d M Q pc lv [.int x] I J := by
  refine Wp.ret (r := some (.int x)) ?_ k
  simp only [retP, retQ, hM, cond_false, hf, hr, if_pos h]
theorem Wp.retC {x : Int32} (hM : Nat.beq M 0 = false) (hf : fetch M pc = some (.ireturn, 1)) (hr : rtM M = some .char) (h : vp_nar .char x = x) (k : Q (some (.int x)) I J) : Wp d M Q pc lv [.int x] I J := by
  refine Wp.ret (r := some (.int x)) ?_ k
  simp only [retP, retQ, hM, cond_false, hf, hr, if_pos h]
end RU
theorem Wp.eqs {d M : Nat} {Q : Post} {pc pc' : Nat} {lv : Lv} {st st' : St} {I : I2} {J : J2} (h1 : pc = pc') (h2 : st = st') (k : Wp d M Q pc' lv st' I J) : Wp d M Q pc lv st I J := by
  subst h1; subst h2; exact k
