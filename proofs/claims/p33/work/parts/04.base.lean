/-! numbers as written, rows of instructions -/
def owM (M : Nat) : Nat := (MRT M).1
def yM (M : Nat) : MethodName := (MRT M).2.1
def bM (M : Nat) : ByteArray := (MRT M).2.2.1
def mlM (M : Nat) : Nat := (MRT M).2.2.2.1
def rtM (M : Nat) : Option FieldType := (MRT M).2.2.2.2.1
def lkI : Cl → Nat → Option (Instr × Nat)
  | [], _ => none
  | q :: t, pc => bif Nat.beq q.1 pc then some q.2 else lkI t pc
def nthC : Ct → Nat → Cl
  | [], _ => []
  | c :: _, 0 => c
  | _ :: t, n + 1 => nthC t n
def fetch (M pc : Nat) : Option (Instr × Nat) := lkI (nthC (MRT M).2.2.2.2.2 (pc / 32)) pc
/-- a written number -/
def iK (k : Int) : Int32 := match k with
  | .ofNat n => OfNat.ofNat n
  | .negSucc n => -(OfNat.ofNat (n + 1))
def lK (n : Nat) : Int64 := OfNat.ofNat n
def tg (pc : Nat) (off : Int) : Nat := ((pc : Int) + off).toNat
def ilen (i : Instr) : Nat := match i with
  | .bipush _ => 2 | .iload _ => 2 | .istore _ => 2 | .lload _ => 2 | .lstore _ => 2 | .aload _ => 2 | .astore _ => 2 | .ldc _ => 2
  | .sipush _ => 3 | .iinc _ _ => 3 | .getfield _ => 3 | .putfield _ => 3 | .invokevirtual _ => 3 | .invokestatic _ => 3 | .invokespecial _ => 3 | .ldc_w _ => 3 | .ldc2_w _ => 3 | .goto _ => 3 | .ifCond _ _ => 3 | .if_icmp _ _ => 3 | .new _ => 3 | .anewarray _ => 3
  | .newarray _ => 2
  | _ => 1
/-- what is asked of a row of the tables of instructions -/
def okIns (pc : Nat) (i : Instr) (n : Nat) : Bool := match i with
  | .iconst k => Nat.beq n 1 && decide (Int32.ofInt k = iK k)
  | .bipush k => Nat.beq n 2 && decide ((Int8.ofInt k).toInt32 = iK k)
  | .sipush k => Nat.beq n 3 && decide ((Int16.ofInt k).toInt32 = iK k)
  | .iinc _ k => Nat.beq n 3 && decide (Int32.ofInt k = iK k)
  | .ifCond _ off => Nat.beq n 3 && decide ((pc : Int) + off = (tg pc off : Int))
  | .if_icmp _ off => Nat.beq n 3 && decide ((pc : Int) + off = (tg pc off : Int))
  | .goto off => Nat.beq n 3 && decide ((pc : Int) + off = (tg pc off : Int))
  | .tableswitch d lo hi offs => decide (lo = 0) && decide (hi + 1 = offs.size) && decide (offs.size < 1000) && decide ((pc : Int) + d = (tg pc d : Int)) && offs.toList.all (fun off => decide ((pc : Int) + off = (tg pc off : Int)))
  | i => Nat.beq n (ilen i)
/-- what may be called -/
def calB (M : Nat) : Bool := decide (yM M ≠ yL_law) && !(Nat.beq (owM M) 9) && !(Nat.beq M 0)
theorem calB_of {M : Nat} (h : calB M = true) : yM M ≠ yL_law ∧ owM M ≠ 9 ∧ Nat.beq M 0 = false := by
  unfold calB at h
  simp only [Bool.and_eq_true, decide_eq_true_eq, Bool.not_eq_true'] at h
  exact ⟨h.1.1, fun e => by rw [e] at h; exact absurd h.1.2 (by decide), h.2⟩
