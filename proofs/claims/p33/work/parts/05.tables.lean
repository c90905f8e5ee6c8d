def lw_good : List Jvm.Cond := lw_tbl.filter goodWord
def wsM (M : Nat) : List Jvm.Cond := Jvm.Cond.code (yM M) (bM M) (mlM M) (rtM M) :: lw_good
theorem good_at {i : Nat} {w : Jvm.Cond} (h : lw_tbl[i]? = some w) (hg : goodWord w = true) : w ∈ lw_good := List.mem_filter.mpr ⟨List.mem_of_getElem? h, hg⟩
theorem bif_p {α : Sort _} {P : α → Prop} {b : Bool} {x y : α} (hx : P x) (hy : P y) : P (bif b then x else y) := by cases b <;> assumption
theorem bif_p2 {α β : Sort _} {P : α → β → Prop} {b : Bool} {x y : α} {z w : β} (hx : P x z) (hy : P y w) : P (bif b then x else y) (bif b then z else w) := by cases b <;> assumption
def zAll {α β : Type} (f : α → β → Bool) : List α → List β → Bool
  | [], _ => true
  | a :: t, b :: u => f a b && zAll f t u
  | _ :: _, [] => false
theorem zAll_mem {α β : Type} {f : α → β → Bool} {l : List α} {m : List β} (h : zAll f l m = true) {a : α} (ha : a ∈ l) : ∃ b, f a b = true := by
  induction l generalizing m with
  | nil => cases ha
  | cons x t ih =>
    cases m with
    | nil => simp [zAll] at h
    | cons y u =>
      simp only [zAll, Bool.and_eq_true] at h
      rcases List.mem_cons.mp ha with rfl | hm
      · exact ⟨y, h.1⟩
      · exact ih h.2 hm
theorem lkF_mem {l : List Fe} {i : Nat} {x : Nat × Nat × Nat} (h : lkF l i = some x) : (i, x) ∈ l := by
  induction l with
  | nil => cases h
  | cons q t ih =>
    simp only [lkF] at h
    cases hb : Nat.beq q.1 i with
    | true =>
      rw [hb] at h
      have e1 : q.1 = i := Nat.eq_of_beq_eq_true hb
      have e2 : q.2 = x := Option.some.inj h
      rw [← e1, ← e2]
      exact List.mem_cons_self
    | false =>
      rw [hb] at h
      exact List.mem_cons_of_mem _ (ih h)
theorem lkV_mem {α : Type} {l : List (Nat × α)} {i : Nat} {x : α} (h : lkV l i = some x) : (i, x) ∈ l := by
  induction l with
  | nil => cases h
  | cons q t ih =>
    simp only [lkV] at h
    cases hb : Nat.beq q.1 i with
    | true =>
      rw [hb] at h
      have e1 : q.1 = i := Nat.eq_of_beq_eq_true hb
      have e2 : q.2 = x := Option.some.inj h
      rw [← e1, ← e2]
      exact List.mem_cons_self
    | false =>
      rw [hb] at h
      exact List.mem_cons_of_mem _ (ih h)
theorem lkI_mem {l : Cl} {i : Nat} {x : Instr × Nat} (h : lkI l i = some x) : (i, x) ∈ l := by
  induction l with
  | nil => cases h
  | cons q t ih =>
    simp only [lkI] at h
    cases hb : Nat.beq q.1 i with
    | true =>
      rw [hb] at h
      have e1 : q.1 = i := Nat.eq_of_beq_eq_true hb
      have e2 : q.2 = x := Option.some.inj h
      rw [← e1, ← e2]
      exact List.mem_cons_self
    | false =>
      rw [hb] at h
      exact List.mem_cons_of_mem _ (ih h)
theorem nthC_mem {ct : Ct} {n : Nat} {q : Nat × Instr × Nat} (h : q ∈ nthC ct n) : ∃ cl ∈ ct, q ∈ cl := by
  induction ct generalizing n with
  | nil => cases h
  | cons c t ih =>
    cases n with
    | zero => exact ⟨c, List.mem_cons_self, h⟩
    | succ n =>
      obtain ⟨cl, h1, h2⟩ := ih (n := n) h
      exact ⟨cl, List.mem_cons_of_mem _ h1, h2⟩
/-- the rows of instructions -/
def okCl (b : ByteArray) (cl : Cl) : Bool := cl.all (fun q => decide (decode b q.1 = .ok q.2) && okIns q.1 q.2.1 q.2.2)
def okCd (r : MR) : Bool := r.2.2.2.2.2.all (fun cl => okCl r.2.2.1 cl)
/-- the words of a method -/
def okMr (r : MR) (p : Nat × Nat) : Bool := decide (lw_tbl[p.1]? = some (.code r.2.1 r.2.2.1 r.2.2.2.1 r.2.2.2.2.1)) && decide (lw_tbl[p.2]? = some (.initialized r.2.1.cls)) && plainName r.2.1.cls && decide (r.2.1.cls = RNf r.1) && decide (r.2.1.cls ≠ "java/lang/invoke/MethodHandle") && decide (r.2.1.cls ≠ "java/lang/invoke/VarHandle")
theorem kc_0_0 : okCl cL_law k_0_0 = true := by decide +kernel
theorem kc_0_1 : okCl cL_law k_0_1 = true := by decide +kernel
theorem kc_0_2 : okCl cL_law k_0_2 = true := by decide +kernel
theorem kc_0_3 : okCl cL_law k_0_3 = true := by decide +kernel
theorem kc_0_4 : okCl cL_law k_0_4 = true := by decide +kernel
theorem kc_0_5 : okCl cL_law k_0_5 = true := by decide +kernel
theorem kc_0_6 : okCl cL_law k_0_6 = true := by decide +kernel
theorem kc_0_7 : okCl cL_law k_0_7 = true := by decide +kernel
theorem kc_0_8 : okCl cL_law k_0_8 = true := by decide +kernel
theorem kc_0_9 : okCl cL_law k_0_9 = true := by decide +kernel
theorem kc_0_10 : okCl cL_law k_0_10 = true := by decide +kernel
theorem kc_0_11 : okCl cL_law k_0_11 = true := by decide +kernel
theorem kc_0_12 : okCl cL_law k_0_12 = true := by decide +kernel
theorem kc_0_13 : okCl cL_law k_0_13 = true := by decide +kernel
theorem kc_0 : okCd r_0 = true := List.all_eq_true.mpr (List.forall_mem_cons.mpr ⟨kc_0_0, List.forall_mem_cons.mpr ⟨kc_0_1, List.forall_mem_cons.mpr ⟨kc_0_2, List.forall_mem_cons.mpr ⟨kc_0_3, List.forall_mem_cons.mpr ⟨kc_0_4, List.forall_mem_cons.mpr ⟨kc_0_5, List.forall_mem_cons.mpr ⟨kc_0_6, List.forall_mem_cons.mpr ⟨kc_0_7, List.forall_mem_cons.mpr ⟨kc_0_8, List.forall_mem_cons.mpr ⟨kc_0_9, List.forall_mem_cons.mpr ⟨kc_0_10, List.forall_mem_cons.mpr ⟨kc_0_11, List.forall_mem_cons.mpr ⟨kc_0_12, List.forall_mem_cons.mpr ⟨kc_0_13, fun _ h => absurd h List.not_mem_nil⟩⟩⟩⟩⟩⟩⟩⟩⟩⟩⟩⟩⟩⟩)
theorem kc_1_0 : okCl cL_law k_1_0 = true := by decide +kernel
theorem kc_1_1 : okCl cL_law k_1_1 = true := by decide +kernel
theorem kc_1_2 : okCl cL_law k_1_2 = true := by decide +kernel
theorem kc_1_3 : okCl cL_law k_1_3 = true := by decide +kernel
theorem kc_1_4 : okCl cL_law k_1_4 = true := by decide +kernel
theorem kc_1_5 : okCl cL_law k_1_5 = true := by decide +kernel
theorem kc_1_6 : okCl cL_law k_1_6 = true := by decide +kernel
theorem kc_1_7 : okCl cL_law k_1_7 = true := by decide +kernel
theorem kc_1_8 : okCl cL_law k_1_8 = true := by decide +kernel
theorem kc_1_9 : okCl cL_law k_1_9 = true := by decide +kernel
theorem kc_1_10 : okCl cL_law k_1_10 = true := by decide +kernel
theorem kc_1_11 : okCl cL_law k_1_11 = true := by decide +kernel
theorem kc_1_12 : okCl cL_law k_1_12 = true := by decide +kernel
theorem kc_1_13 : okCl cL_law k_1_13 = true := by decide +kernel
theorem kc_1 : okCd r_1 = true := List.all_eq_true.mpr (List.forall_mem_cons.mpr ⟨kc_1_0, List.forall_mem_cons.mpr ⟨kc_1_1, List.forall_mem_cons.mpr ⟨kc_1_2, List.forall_mem_cons.mpr ⟨kc_1_3, List.forall_mem_cons.mpr ⟨kc_1_4, List.forall_mem_cons.mpr ⟨kc_1_5, List.forall_mem_cons.mpr ⟨kc_1_6, List.forall_mem_cons.mpr ⟨kc_1_7, List.forall_mem_cons.mpr ⟨kc_1_8, List.forall_mem_cons.mpr ⟨kc_1_9, List.forall_mem_cons.mpr ⟨kc_1_10, List.forall_mem_cons.mpr ⟨kc_1_11, List.forall_mem_cons.mpr ⟨kc_1_12, List.forall_mem_cons.mpr ⟨kc_1_13, fun _ h => absurd h List.not_mem_nil⟩⟩⟩⟩⟩⟩⟩⟩⟩⟩⟩⟩⟩⟩)
theorem kc_2_0 : okCl cL_moved k_2_0 = true := by decide +kernel
theorem kc_2_1 : okCl cL_moved k_2_1 = true := by decide +kernel
theorem kc_2_2 : okCl cL_moved k_2_2 = true := by decide +kernel
theorem kc_2_3 : okCl cL_moved k_2_3 = true := by decide +kernel
theorem kc_2_4 : okCl cL_moved k_2_4 = true := by decide +kernel
theorem kc_2_5 : okCl cL_moved k_2_5 = true := by decide +kernel
theorem kc_2_6 : okCl cL_moved k_2_6 = true := by decide +kernel
theorem kc_2_7 : okCl cL_moved k_2_7 = true := by decide +kernel
theorem kc_2_8 : okCl cL_moved k_2_8 = true := by decide +kernel
theorem kc_2_9 : okCl cL_moved k_2_9 = true := by decide +kernel
theorem kc_2_10 : okCl cL_moved k_2_10 = true := by decide +kernel
theorem kc_2 : okCd r_2 = true := List.all_eq_true.mpr (List.forall_mem_cons.mpr ⟨kc_2_0, List.forall_mem_cons.mpr ⟨kc_2_1, List.forall_mem_cons.mpr ⟨kc_2_2, List.forall_mem_cons.mpr ⟨kc_2_3, List.forall_mem_cons.mpr ⟨kc_2_4, List.forall_mem_cons.mpr ⟨kc_2_5, List.forall_mem_cons.mpr ⟨kc_2_6, List.forall_mem_cons.mpr ⟨kc_2_7, List.forall_mem_cons.mpr ⟨kc_2_8, List.forall_mem_cons.mpr ⟨kc_2_9, List.forall_mem_cons.mpr ⟨kc_2_10, fun _ h => absurd h List.not_mem_nil⟩⟩⟩⟩⟩⟩⟩⟩⟩⟩⟩)
theorem kc_3 : okCd r_3 = true := by decide +kernel
theorem kc_4 : okCd r_4 = true := by decide +kernel
theorem kc_5 : okCd r_5 = true := by decide +kernel
theorem kc_6_0 : okCl cL_lays k_6_0 = true := by decide +kernel
theorem kc_6_1 : okCl cL_lays k_6_1 = true := by decide +kernel
theorem kc_6_2 : okCl cL_lays k_6_2 = true := by decide +kernel
theorem kc_6_3 : okCl cL_lays k_6_3 = true := by decide +kernel
theorem kc_6_4 : okCl cL_lays k_6_4 = true := by decide +kernel
theorem kc_6_5 : okCl cL_lays k_6_5 = true := by decide +kernel
theorem kc_6_6 : okCl cL_lays k_6_6 = true := by decide +kernel
theorem kc_6_7 : okCl cL_lays k_6_7 = true := by decide +kernel
theorem kc_6_8 : okCl cL_lays k_6_8 = true := by decide +kernel
theorem kc_6_9 : okCl cL_lays k_6_9 = true := by decide +kernel
theorem kc_6_10 : okCl cL_lays k_6_10 = true := by decide +kernel
theorem kc_6_11 : okCl cL_lays k_6_11 = true := by decide +kernel
theorem kc_6_12 : okCl cL_lays k_6_12 = true := by decide +kernel
theorem kc_6_13 : okCl cL_lays k_6_13 = true := by decide +kernel
theorem kc_6_14 : okCl cL_lays k_6_14 = true := by decide +kernel
theorem kc_6_15 : okCl cL_lays k_6_15 = true := by decide +kernel
theorem kc_6 : okCd r_6 = true := List.all_eq_true.mpr (List.forall_mem_cons.mpr ⟨kc_6_0, List.forall_mem_cons.mpr ⟨kc_6_1, List.forall_mem_cons.mpr ⟨kc_6_2, List.forall_mem_cons.mpr ⟨kc_6_3, List.forall_mem_cons.mpr ⟨kc_6_4, List.forall_mem_cons.mpr ⟨kc_6_5, List.forall_mem_cons.mpr ⟨kc_6_6, List.forall_mem_cons.mpr ⟨kc_6_7, List.forall_mem_cons.mpr ⟨kc_6_8, List.forall_mem_cons.mpr ⟨kc_6_9, List.forall_mem_cons.mpr ⟨kc_6_10, List.forall_mem_cons.mpr ⟨kc_6_11, List.forall_mem_cons.mpr ⟨kc_6_12, List.forall_mem_cons.mpr ⟨kc_6_13, List.forall_mem_cons.mpr ⟨kc_6_14, List.forall_mem_cons.mpr ⟨kc_6_15, fun _ h => absurd h List.not_mem_nil⟩⟩⟩⟩⟩⟩⟩⟩⟩⟩⟩⟩⟩⟩⟩⟩)
theorem kc_7 : okCd r_7 = true := by decide +kernel
theorem kc_8_0 : okCl cL_slid k_8_0 = true := by decide +kernel
theorem kc_8_1 : okCl cL_slid k_8_1 = true := by decide +kernel
theorem kc_8_2 : okCl cL_slid k_8_2 = true := by decide +kernel
theorem kc_8_3 : okCl cL_slid k_8_3 = true := by decide +kernel
theorem kc_8_4 : okCl cL_slid k_8_4 = true := by decide +kernel
theorem kc_8_5 : okCl cL_slid k_8_5 = true := by decide +kernel
theorem kc_8_6 : okCl cL_slid k_8_6 = true := by decide +kernel
theorem kc_8_7 : okCl cL_slid k_8_7 = true := by decide +kernel
theorem kc_8_8 : okCl cL_slid k_8_8 = true := by decide +kernel
theorem kc_8_9 : okCl cL_slid k_8_9 = true := by decide +kernel
theorem kc_8_10 : okCl cL_slid k_8_10 = true := by decide +kernel
theorem kc_8_11 : okCl cL_slid k_8_11 = true := by decide +kernel
theorem kc_8 : okCd r_8 = true := List.all_eq_true.mpr (List.forall_mem_cons.mpr ⟨kc_8_0, List.forall_mem_cons.mpr ⟨kc_8_1, List.forall_mem_cons.mpr ⟨kc_8_2, List.forall_mem_cons.mpr ⟨kc_8_3, List.forall_mem_cons.mpr ⟨kc_8_4, List.forall_mem_cons.mpr ⟨kc_8_5, List.forall_mem_cons.mpr ⟨kc_8_6, List.forall_mem_cons.mpr ⟨kc_8_7, List.forall_mem_cons.mpr ⟨kc_8_8, List.forall_mem_cons.mpr ⟨kc_8_9, List.forall_mem_cons.mpr ⟨kc_8_10, List.forall_mem_cons.mpr ⟨kc_8_11, fun _ h => absurd h List.not_mem_nil⟩⟩⟩⟩⟩⟩⟩⟩⟩⟩⟩⟩)
theorem kc_9 : okCd r_9 = true := by decide +kernel
theorem kc_10 : okCd r_10 = true := by decide +kernel
theorem kc_11_0 : okCl cL_acts k_11_0 = true := by decide +kernel
theorem kc_11_1 : okCl cL_acts k_11_1 = true := by decide +kernel
theorem kc_11_2 : okCl cL_acts k_11_2 = true := by decide +kernel
theorem kc_11_3 : okCl cL_acts k_11_3 = true := by decide +kernel
theorem kc_11_4 : okCl cL_acts k_11_4 = true := by decide +kernel
theorem kc_11_5 : okCl cL_acts k_11_5 = true := by decide +kernel
theorem kc_11_6 : okCl cL_acts k_11_6 = true := by decide +kernel
theorem kc_11 : okCd r_11 = true := List.all_eq_true.mpr (List.forall_mem_cons.mpr ⟨kc_11_0, List.forall_mem_cons.mpr ⟨kc_11_1, List.forall_mem_cons.mpr ⟨kc_11_2, List.forall_mem_cons.mpr ⟨kc_11_3, List.forall_mem_cons.mpr ⟨kc_11_4, List.forall_mem_cons.mpr ⟨kc_11_5, List.forall_mem_cons.mpr ⟨kc_11_6, fun _ h => absurd h List.not_mem_nil⟩⟩⟩⟩⟩⟩⟩)
theorem kc_12 : okCd r_12 = true := by decide +kernel
theorem kc_13_0 : okCl cL_stands k_13_0 = true := by decide +kernel
theorem kc_13_1 : okCl cL_stands k_13_1 = true := by decide +kernel
theorem kc_13_2 : okCl cL_stands k_13_2 = true := by decide +kernel
theorem kc_13_3 : okCl cL_stands k_13_3 = true := by decide +kernel
theorem kc_13_4 : okCl cL_stands k_13_4 = true := by decide +kernel
theorem kc_13_5 : okCl cL_stands k_13_5 = true := by decide +kernel
theorem kc_13_6 : okCl cL_stands k_13_6 = true := by decide +kernel
theorem kc_13_7 : okCl cL_stands k_13_7 = true := by decide +kernel
theorem kc_13_8 : okCl cL_stands k_13_8 = true := by decide +kernel
theorem kc_13_9 : okCl cL_stands k_13_9 = true := by decide +kernel
theorem kc_13_10 : okCl cL_stands k_13_10 = true := by decide +kernel
theorem kc_13_11 : okCl cL_stands k_13_11 = true := by decide +kernel
theorem kc_13_12 : okCl cL_stands k_13_12 = true := by decide +kernel
theorem kc_13 : okCd r_13 = true := List.all_eq_true.mpr (List.forall_mem_cons.mpr ⟨kc_13_0, List.forall_mem_cons.mpr ⟨kc_13_1, List.forall_mem_cons.mpr ⟨kc_13_2, List.forall_mem_cons.mpr ⟨kc_13_3, List.forall_mem_cons.mpr ⟨kc_13_4, List.forall_mem_cons.mpr ⟨kc_13_5, List.forall_mem_cons.mpr ⟨kc_13_6, List.forall_mem_cons.mpr ⟨kc_13_7, List.forall_mem_cons.mpr ⟨kc_13_8, List.forall_mem_cons.mpr ⟨kc_13_9, List.forall_mem_cons.mpr ⟨kc_13_10, List.forall_mem_cons.mpr ⟨kc_13_11, List.forall_mem_cons.mpr ⟨kc_13_12, fun _ h => absurd h List.not_mem_nil⟩⟩⟩⟩⟩⟩⟩⟩⟩⟩⟩⟩⟩)
theorem kc_14_0 : okCl cL_opened k_14_0 = true := by decide +kernel
theorem kc_14_1 : okCl cL_opened k_14_1 = true := by decide +kernel
theorem kc_14_2 : okCl cL_opened k_14_2 = true := by decide +kernel
theorem kc_14_3 : okCl cL_opened k_14_3 = true := by decide +kernel
theorem kc_14_4 : okCl cL_opened k_14_4 = true := by decide +kernel
theorem kc_14_5 : okCl cL_opened k_14_5 = true := by decide +kernel
theorem kc_14_6 : okCl cL_opened k_14_6 = true := by decide +kernel
theorem kc_14_7 : okCl cL_opened k_14_7 = true := by decide +kernel
theorem kc_14_8 : okCl cL_opened k_14_8 = true := by decide +kernel
theorem kc_14_9 : okCl cL_opened k_14_9 = true := by decide +kernel
theorem kc_14_10 : okCl cL_opened k_14_10 = true := by decide +kernel
theorem kc_14_11 : okCl cL_opened k_14_11 = true := by decide +kernel
theorem kc_14_12 : okCl cL_opened k_14_12 = true := by decide +kernel
theorem kc_14 : okCd r_14 = true := List.all_eq_true.mpr (List.forall_mem_cons.mpr ⟨kc_14_0, List.forall_mem_cons.mpr ⟨kc_14_1, List.forall_mem_cons.mpr ⟨kc_14_2, List.forall_mem_cons.mpr ⟨kc_14_3, List.forall_mem_cons.mpr ⟨kc_14_4, List.forall_mem_cons.mpr ⟨kc_14_5, List.forall_mem_cons.mpr ⟨kc_14_6, List.forall_mem_cons.mpr ⟨kc_14_7, List.forall_mem_cons.mpr ⟨kc_14_8, List.forall_mem_cons.mpr ⟨kc_14_9, List.forall_mem_cons.mpr ⟨kc_14_10, List.forall_mem_cons.mpr ⟨kc_14_11, List.forall_mem_cons.mpr ⟨kc_14_12, fun _ h => absurd h List.not_mem_nil⟩⟩⟩⟩⟩⟩⟩⟩⟩⟩⟩⟩⟩)
theorem kc_15_0 : okCl cL_went k_15_0 = true := by decide +kernel
theorem kc_15_1 : okCl cL_went k_15_1 = true := by decide +kernel
theorem kc_15_2 : okCl cL_went k_15_2 = true := by decide +kernel
theorem kc_15_3 : okCl cL_went k_15_3 = true := by decide +kernel
theorem kc_15_4 : okCl cL_went k_15_4 = true := by decide +kernel
theorem kc_15_5 : okCl cL_went k_15_5 = true := by decide +kernel
theorem kc_15_6 : okCl cL_went k_15_6 = true := by decide +kernel
theorem kc_15_7 : okCl cL_went k_15_7 = true := by decide +kernel
theorem kc_15_8 : okCl cL_went k_15_8 = true := by decide +kernel
theorem kc_15_9 : okCl cL_went k_15_9 = true := by decide +kernel
theorem kc_15 : okCd r_15 = true := List.all_eq_true.mpr (List.forall_mem_cons.mpr ⟨kc_15_0, List.forall_mem_cons.mpr ⟨kc_15_1, List.forall_mem_cons.mpr ⟨kc_15_2, List.forall_mem_cons.mpr ⟨kc_15_3, List.forall_mem_cons.mpr ⟨kc_15_4, List.forall_mem_cons.mpr ⟨kc_15_5, List.forall_mem_cons.mpr ⟨kc_15_6, List.forall_mem_cons.mpr ⟨kc_15_7, List.forall_mem_cons.mpr ⟨kc_15_8, List.forall_mem_cons.mpr ⟨kc_15_9, fun _ h => absurd h List.not_mem_nil⟩⟩⟩⟩⟩⟩⟩⟩⟩⟩)
theorem kc_16_0 : okCl cL_filed k_16_0 = true := by decide +kernel
theorem kc_16_1 : okCl cL_filed k_16_1 = true := by decide +kernel
theorem kc_16_2 : okCl cL_filed k_16_2 = true := by decide +kernel
theorem kc_16_3 : okCl cL_filed k_16_3 = true := by decide +kernel
theorem kc_16_4 : okCl cL_filed k_16_4 = true := by decide +kernel
theorem kc_16_5 : okCl cL_filed k_16_5 = true := by decide +kernel
theorem kc_16_6 : okCl cL_filed k_16_6 = true := by decide +kernel
theorem kc_16_7 : okCl cL_filed k_16_7 = true := by decide +kernel
theorem kc_16_8 : okCl cL_filed k_16_8 = true := by decide +kernel
theorem kc_16_9 : okCl cL_filed k_16_9 = true := by decide +kernel
theorem kc_16_10 : okCl cL_filed k_16_10 = true := by decide +kernel
theorem kc_16_11 : okCl cL_filed k_16_11 = true := by decide +kernel
theorem kc_16_12 : okCl cL_filed k_16_12 = true := by decide +kernel
theorem kc_16_13 : okCl cL_filed k_16_13 = true := by decide +kernel
theorem kc_16_14 : okCl cL_filed k_16_14 = true := by decide +kernel
theorem kc_16 : okCd r_16 = true := List.all_eq_true.mpr (List.forall_mem_cons.mpr ⟨kc_16_0, List.forall_mem_cons.mpr ⟨kc_16_1, List.forall_mem_cons.mpr ⟨kc_16_2, List.forall_mem_cons.mpr ⟨kc_16_3, List.forall_mem_cons.mpr ⟨kc_16_4, List.forall_mem_cons.mpr ⟨kc_16_5, List.forall_mem_cons.mpr ⟨kc_16_6, List.forall_mem_cons.mpr ⟨kc_16_7, List.forall_mem_cons.mpr ⟨kc_16_8, List.forall_mem_cons.mpr ⟨kc_16_9, List.forall_mem_cons.mpr ⟨kc_16_10, List.forall_mem_cons.mpr ⟨kc_16_11, List.forall_mem_cons.mpr ⟨kc_16_12, List.forall_mem_cons.mpr ⟨kc_16_13, List.forall_mem_cons.mpr ⟨kc_16_14, fun _ h => absurd h List.not_mem_nil⟩⟩⟩⟩⟩⟩⟩⟩⟩⟩⟩⟩⟩⟩⟩)
theorem kc_17_0 : okCl cL_played k_17_0 = true := by decide +kernel
theorem kc_17_1 : okCl cL_played k_17_1 = true := by decide +kernel
theorem kc_17_2 : okCl cL_played k_17_2 = true := by decide +kernel
theorem kc_17_3 : okCl cL_played k_17_3 = true := by decide +kernel
theorem kc_17_4 : okCl cL_played k_17_4 = true := by decide +kernel
theorem kc_17_5 : okCl cL_played k_17_5 = true := by decide +kernel
theorem kc_17_6 : okCl cL_played k_17_6 = true := by decide +kernel
theorem kc_17_7 : okCl cL_played k_17_7 = true := by decide +kernel
theorem kc_17_8 : okCl cL_played k_17_8 = true := by decide +kernel
theorem kc_17_9 : okCl cL_played k_17_9 = true := by decide +kernel
theorem kc_17_10 : okCl cL_played k_17_10 = true := by decide +kernel
theorem kc_17_11 : okCl cL_played k_17_11 = true := by decide +kernel
theorem kc_17_12 : okCl cL_played k_17_12 = true := by decide +kernel
theorem kc_17_13 : okCl cL_played k_17_13 = true := by decide +kernel
theorem kc_17_14 : okCl cL_played k_17_14 = true := by decide +kernel
theorem kc_17_15 : okCl cL_played k_17_15 = true := by decide +kernel
theorem kc_17_16 : okCl cL_played k_17_16 = true := by decide +kernel
theorem kc_17_17 : okCl cL_played k_17_17 = true := by decide +kernel
theorem kc_17 : okCd r_17 = true := List.all_eq_true.mpr (List.forall_mem_cons.mpr ⟨kc_17_0, List.forall_mem_cons.mpr ⟨kc_17_1, List.forall_mem_cons.mpr ⟨kc_17_2, List.forall_mem_cons.mpr ⟨kc_17_3, List.forall_mem_cons.mpr ⟨kc_17_4, List.forall_mem_cons.mpr ⟨kc_17_5, List.forall_mem_cons.mpr ⟨kc_17_6, List.forall_mem_cons.mpr ⟨kc_17_7, List.forall_mem_cons.mpr ⟨kc_17_8, List.forall_mem_cons.mpr ⟨kc_17_9, List.forall_mem_cons.mpr ⟨kc_17_10, List.forall_mem_cons.mpr ⟨kc_17_11, List.forall_mem_cons.mpr ⟨kc_17_12, List.forall_mem_cons.mpr ⟨kc_17_13, List.forall_mem_cons.mpr ⟨kc_17_14, List.forall_mem_cons.mpr ⟨kc_17_15, List.forall_mem_cons.mpr ⟨kc_17_16, List.forall_mem_cons.mpr ⟨kc_17_17, fun _ h => absurd h List.not_mem_nil⟩⟩⟩⟩⟩⟩⟩⟩⟩⟩⟩⟩⟩⟩⟩⟩⟩⟩)
theorem kc_18_0 : okCl cL_clicked k_18_0 = true := by decide +kernel
theorem kc_18_1 : okCl cL_clicked k_18_1 = true := by decide +kernel
theorem kc_18_2 : okCl cL_clicked k_18_2 = true := by decide +kernel
theorem kc_18_3 : okCl cL_clicked k_18_3 = true := by decide +kernel
theorem kc_18_4 : okCl cL_clicked k_18_4 = true := by decide +kernel
theorem kc_18_5 : okCl cL_clicked k_18_5 = true := by decide +kernel
theorem kc_18_6 : okCl cL_clicked k_18_6 = true := by decide +kernel
theorem kc_18_7 : okCl cL_clicked k_18_7 = true := by decide +kernel
theorem kc_18_8 : okCl cL_clicked k_18_8 = true := by decide +kernel
theorem kc_18_9 : okCl cL_clicked k_18_9 = true := by decide +kernel
theorem kc_18_10 : okCl cL_clicked k_18_10 = true := by decide +kernel
theorem kc_18_11 : okCl cL_clicked k_18_11 = true := by decide +kernel
theorem kc_18_12 : okCl cL_clicked k_18_12 = true := by decide +kernel
theorem kc_18 : okCd r_18 = true := List.all_eq_true.mpr (List.forall_mem_cons.mpr ⟨kc_18_0, List.forall_mem_cons.mpr ⟨kc_18_1, List.forall_mem_cons.mpr ⟨kc_18_2, List.forall_mem_cons.mpr ⟨kc_18_3, List.forall_mem_cons.mpr ⟨kc_18_4, List.forall_mem_cons.mpr ⟨kc_18_5, List.forall_mem_cons.mpr ⟨kc_18_6, List.forall_mem_cons.mpr ⟨kc_18_7, List.forall_mem_cons.mpr ⟨kc_18_8, List.forall_mem_cons.mpr ⟨kc_18_9, List.forall_mem_cons.mpr ⟨kc_18_10, List.forall_mem_cons.mpr ⟨kc_18_11, List.forall_mem_cons.mpr ⟨kc_18_12, fun _ h => absurd h List.not_mem_nil⟩⟩⟩⟩⟩⟩⟩⟩⟩⟩⟩⟩⟩)
theorem kc_19 : okCd r_19 = true := by decide +kernel
theorem kc_20 : okCd r_20 = true := by decide +kernel
theorem kc_21_0 : okCl cX0_becomes k_21_0 = true := by decide +kernel
theorem kc_21_1 : okCl cX0_becomes k_21_1 = true := by decide +kernel
theorem kc_21_2 : okCl cX0_becomes k_21_2 = true := by decide +kernel
theorem kc_21_3 : okCl cX0_becomes k_21_3 = true := by decide +kernel
theorem kc_21_4 : okCl cX0_becomes k_21_4 = true := by decide +kernel
theorem kc_21_5 : okCl cX0_becomes k_21_5 = true := by decide +kernel
theorem kc_21_6 : okCl cX0_becomes k_21_6 = true := by decide +kernel
theorem kc_21 : okCd r_21 = true := List.all_eq_true.mpr (List.forall_mem_cons.mpr ⟨kc_21_0, List.forall_mem_cons.mpr ⟨kc_21_1, List.forall_mem_cons.mpr ⟨kc_21_2, List.forall_mem_cons.mpr ⟨kc_21_3, List.forall_mem_cons.mpr ⟨kc_21_4, List.forall_mem_cons.mpr ⟨kc_21_5, List.forall_mem_cons.mpr ⟨kc_21_6, fun _ h => absurd h List.not_mem_nil⟩⟩⟩⟩⟩⟩⟩)
theorem kc_22 : okCd r_22 = true := by decide +kernel
theorem kc_23 : okCd r_23 = true := by decide +kernel
theorem kc_24 : okCd r_24 = true := by decide +kernel
theorem kc_25 : okCd r_25 = true := by decide +kernel
theorem kc_26 : okCd r_26 = true := by decide +kernel
theorem kc_27 : okCd r_27 = true := by decide +kernel
theorem kc_28 : okCd r_28 = true := by decide +kernel
theorem kc_29 : okCd r_29 = true := by decide +kernel
theorem kc_30 : okCd r_30 = true := by decide +kernel
theorem kc_31 : okCd r_31 = true := by decide +kernel
theorem kc_32 : okCd r_32 = true := by decide +kernel
theorem kc_33 : okCd r_33 = true := by decide +kernel
theorem kc_34 : okCd r_34 = true := by decide +kernel
theorem kc_35 : okCd r_35 = true := by decide +kernel
theorem kc_36 : okCd r_36 = true := by decide +kernel
theorem kc_37 : okCd r_37 = true := by decide +kernel
theorem kc_38 : okCd r_38 = true := by decide +kernel
theorem kc_39 : okCd r_39 = true := by decide +kernel
theorem kc_40 : okCd r_40 = true := by decide +kernel
theorem kc_41 : okCd r_41 = true := by decide +kernel
theorem kc_42 : okCd r_42 = true := by decide +kernel
theorem kc_43 : okCd r_43 = true := by decide +kernel
theorem kc_44 : okCd r_44 = true := by decide +kernel
theorem kc_45 : okCd r_45 = true := by decide +kernel
theorem kc_46 : okCd r_46 = true := by decide +kernel
theorem kc_47 : okCd r_47 = true := by decide +kernel
theorem kc_48 : okCd r_48 = true := by decide +kernel
theorem kc_49 : okCd r_49 = true := by decide +kernel
theorem kc_50 : okCd r_50 = true := by decide +kernel
theorem kc_51 : okCd r_51 = true := by decide +kernel
theorem kc_52 : okCd r_52 = true := by decide +kernel
theorem kc_53 : okCd r_53 = true := by decide +kernel
theorem kc_54 : okCd r_54 = true := by decide +kernel
theorem kc_55 : okCd r_55 = true := by decide +kernel
theorem kc_56 : okCd r_56 = true := by decide +kernel
theorem kc_57 : okCd r_57 = true := by decide +kernel
theorem kc_58 : okCd r_58 = true := by decide +kernel
theorem kc_59 : okCd r_59 = true := by decide +kernel
theorem kc_60 : okCd r_60 = true := by decide +kernel
theorem kc_61 : okCd r_61 = true := by decide +kernel
theorem kc_62 : okCd r_62 = true := by decide +kernel
theorem kc_63 : okCd r_63 = true := by decide +kernel
theorem kc_64 : okCd r_64 = true := by decide +kernel
theorem kc_65 : okCd r_65 = true := by decide +kernel
theorem kc_66 : okCd r_66 = true := by decide +kernel
theorem kc_67 : okCd r_67 = true := by decide +kernel
theorem kc_68 : okCd r_68 = true := by decide +kernel
theorem kc_69 : okCd r_69 = true := by decide +kernel
theorem kc_70 : okCd r_70 = true := by decide +kernel
theorem kc_71 : okCd r_71 = true := by decide +kernel
theorem kc_72 : okCd r_72 = true := by decide +kernel
theorem kc_73 : okCd r_73 = true := by decide +kernel
theorem kc_74 : okCd r_74 = true := by decide +kernel
theorem kc_75 : okCd r_75 = true := by decide +kernel
theorem kc_76 : okCd r_76 = true := by decide +kernel
theorem kc_77 : okCd r_77 = true := by decide +kernel
theorem kc_78 : okCd r_78 = true := by decide +kernel
theorem kc_79 : okCd r_79 = true := by decide +kernel
theorem kc_80 : okCd r_80 = true := by decide +kernel
theorem kc_81 : okCd r_81 = true := by decide +kernel
theorem kc_82 : okCd r_82 = true := by decide +kernel
theorem kc_83 : okCd r_83 = true := by decide +kernel
theorem kc_84 : okCd r_84 = true := by decide +kernel
theorem kc_85 : okCd r_85 = true := by decide +kernel
theorem kc_86 : okCd r_86 = true := by decide +kernel
theorem kc_87 : okCd r_87 = true := by decide +kernel
theorem kc_88 : okCd r_88 = true := by decide +kernel
theorem kc_89 : okCd r_89 = true := by decide +kernel
theorem kc_90 : okCd r_90 = true := by decide +kernel
theorem kc_91 : okCd r_91 = true := by decide +kernel
theorem kc_92 : okCd r_92 = true := by decide +kernel
theorem kc_93 : okCd r_93 = true := by decide +kernel
theorem kc_94 : okCd r_94 = true := by decide +kernel
theorem kc_95 : okCd r_95 = true := by decide +kernel
theorem kc_96 : okCd r_96 = true := by decide +kernel
theorem kc_97 : okCd r_97 = true := by decide +kernel
theorem kc_98 : okCd r_98 = true := by decide +kernel
theorem kc_99 : okCd r_99 = true := by decide +kernel
theorem kc_100 : okCd r_100 = true := by decide +kernel
theorem kc_101 : okCd r_101 = true := by decide +kernel
theorem kc_102 : okCd r_102 = true := by decide +kernel
theorem kc_103 : okCd r_103 = true := by decide +kernel
theorem kc_104 : okCd r_104 = true := by decide +kernel
theorem kc_105 : okCd r_105 = true := by decide +kernel
theorem kc_106 : okCd r_106 = true := by decide +kernel
theorem kc_107 : okCd r_107 = true := by decide +kernel
theorem kc_108 : okCd r_108 = true := by decide +kernel
theorem kc_109 : okCd r_109 = true := by decide +kernel
theorem kc_110 : okCd r_110 = true := by decide +kernel
theorem kc_111 : okCd r_111 = true := by decide +kernel
theorem kc_112 : okCd r_112 = true := by decide +kernel
theorem kc_113 : okCd r_113 = true := by decide +kernel
theorem kc_114 : okCd r_114 = true := by decide +kernel
theorem kc_115 : okCd r_115 = true := by decide +kernel
theorem kc_all (M : Nat) : okCd (MRT M) = true := (bif_p (P := fun r => okCd r = true) (bif_p (P := fun r => okCd r = true) (bif_p (P := fun r => okCd r = true) (bif_p (P := fun r => okCd r = true) (bif_p (P := fun r => okCd r = true) (bif_p (P := fun r => okCd r = true) kc_0 (bif_p (P := fun r => okCd r = true) kc_1 kc_2)) (bif_p (P := fun r => okCd r = true) (bif_p (P := fun r => okCd r = true) kc_3 kc_4) (bif_p (P := fun r => okCd r = true) kc_5 kc_6))) (bif_p (P := fun r => okCd r = true) (bif_p (P := fun r => okCd r = true) kc_7 (bif_p (P := fun r => okCd r = true) kc_8 kc_9)) (bif_p (P := fun r => okCd r = true) (bif_p (P := fun r => okCd r = true) kc_10 kc_11) (bif_p (P := fun r => okCd r = true) kc_12 kc_13)))) (bif_p (P := fun r => okCd r = true) (bif_p (P := fun r => okCd r = true) (bif_p (P := fun r => okCd r = true) kc_14 (bif_p (P := fun r => okCd r = true) kc_15 kc_16)) (bif_p (P := fun r => okCd r = true) (bif_p (P := fun r => okCd r = true) kc_17 kc_18) (bif_p (P := fun r => okCd r = true) kc_19 kc_20))) (bif_p (P := fun r => okCd r = true) (bif_p (P := fun r => okCd r = true) (bif_p (P := fun r => okCd r = true) kc_21 kc_22) (bif_p (P := fun r => okCd r = true) kc_23 kc_24)) (bif_p (P := fun r => okCd r = true) (bif_p (P := fun r => okCd r = true) kc_25 kc_26) (bif_p (P := fun r => okCd r = true) kc_27 kc_28))))) (bif_p (P := fun r => okCd r = true) (bif_p (P := fun r => okCd r = true) (bif_p (P := fun r => okCd r = true) (bif_p (P := fun r => okCd r = true) kc_29 (bif_p (P := fun r => okCd r = true) kc_30 kc_31)) (bif_p (P := fun r => okCd r = true) (bif_p (P := fun r => okCd r = true) kc_32 kc_33) (bif_p (P := fun r => okCd r = true) kc_34 kc_35))) (bif_p (P := fun r => okCd r = true) (bif_p (P := fun r => okCd r = true) kc_36 (bif_p (P := fun r => okCd r = true) kc_37 kc_38)) (bif_p (P := fun r => okCd r = true) (bif_p (P := fun r => okCd r = true) kc_39 kc_40) (bif_p (P := fun r => okCd r = true) kc_41 kc_42)))) (bif_p (P := fun r => okCd r = true) (bif_p (P := fun r => okCd r = true) (bif_p (P := fun r => okCd r = true) kc_43 (bif_p (P := fun r => okCd r = true) kc_44 kc_45)) (bif_p (P := fun r => okCd r = true) (bif_p (P := fun r => okCd r = true) kc_46 kc_47) (bif_p (P := fun r => okCd r = true) kc_48 kc_49))) (bif_p (P := fun r => okCd r = true) (bif_p (P := fun r => okCd r = true) (bif_p (P := fun r => okCd r = true) kc_50 kc_51) (bif_p (P := fun r => okCd r = true) kc_52 kc_53)) (bif_p (P := fun r => okCd r = true) (bif_p (P := fun r => okCd r = true) kc_54 kc_55) (bif_p (P := fun r => okCd r = true) kc_56 kc_57)))))) (bif_p (P := fun r => okCd r = true) (bif_p (P := fun r => okCd r = true) (bif_p (P := fun r => okCd r = true) (bif_p (P := fun r => okCd r = true) (bif_p (P := fun r => okCd r = true) kc_58 (bif_p (P := fun r => okCd r = true) kc_59 kc_60)) (bif_p (P := fun r => okCd r = true) (bif_p (P := fun r => okCd r = true) kc_61 kc_62) (bif_p (P := fun r => okCd r = true) kc_63 kc_64))) (bif_p (P := fun r => okCd r = true) (bif_p (P := fun r => okCd r = true) kc_65 (bif_p (P := fun r => okCd r = true) kc_66 kc_67)) (bif_p (P := fun r => okCd r = true) (bif_p (P := fun r => okCd r = true) kc_68 kc_69) (bif_p (P := fun r => okCd r = true) kc_70 kc_71)))) (bif_p (P := fun r => okCd r = true) (bif_p (P := fun r => okCd r = true) (bif_p (P := fun r => okCd r = true) kc_72 (bif_p (P := fun r => okCd r = true) kc_73 kc_74)) (bif_p (P := fun r => okCd r = true) (bif_p (P := fun r => okCd r = true) kc_75 kc_76) (bif_p (P := fun r => okCd r = true) kc_77 kc_78))) (bif_p (P := fun r => okCd r = true) (bif_p (P := fun r => okCd r = true) (bif_p (P := fun r => okCd r = true) kc_79 kc_80) (bif_p (P := fun r => okCd r = true) kc_81 kc_82)) (bif_p (P := fun r => okCd r = true) (bif_p (P := fun r => okCd r = true) kc_83 kc_84) (bif_p (P := fun r => okCd r = true) kc_85 kc_86))))) (bif_p (P := fun r => okCd r = true) (bif_p (P := fun r => okCd r = true) (bif_p (P := fun r => okCd r = true) (bif_p (P := fun r => okCd r = true) kc_87 (bif_p (P := fun r => okCd r = true) kc_88 kc_89)) (bif_p (P := fun r => okCd r = true) (bif_p (P := fun r => okCd r = true) kc_90 kc_91) (bif_p (P := fun r => okCd r = true) kc_92 kc_93))) (bif_p (P := fun r => okCd r = true) (bif_p (P := fun r => okCd r = true) kc_94 (bif_p (P := fun r => okCd r = true) kc_95 kc_96)) (bif_p (P := fun r => okCd r = true) (bif_p (P := fun r => okCd r = true) kc_97 kc_98) (bif_p (P := fun r => okCd r = true) kc_99 kc_100)))) (bif_p (P := fun r => okCd r = true) (bif_p (P := fun r => okCd r = true) (bif_p (P := fun r => okCd r = true) kc_101 (bif_p (P := fun r => okCd r = true) kc_102 kc_103)) (bif_p (P := fun r => okCd r = true) (bif_p (P := fun r => okCd r = true) kc_104 kc_105) (bif_p (P := fun r => okCd r = true) kc_106 kc_107))) (bif_p (P := fun r => okCd r = true) (bif_p (P := fun r => okCd r = true) (bif_p (P := fun r => okCd r = true) kc_108 kc_109) (bif_p (P := fun r => okCd r = true) kc_110 kc_111)) (bif_p (P := fun r => okCd r = true) (bif_p (P := fun r => okCd r = true) kc_112 kc_113) (bif_p (P := fun r => okCd r = true) kc_114 kc_115)))))))
theorem km_2 : okMr r_2 (602, 23) = true := by decide +kernel
theorem km_3 : okMr r_3 (371, 23) = true := by decide +kernel
theorem km_4 : okMr r_4 (387, 23) = true := by decide +kernel
theorem km_5 : okMr r_5 (390, 23) = true := by decide +kernel
theorem km_6 : okMr r_6 (376, 23) = true := by decide +kernel
theorem km_7 : okMr r_7 (549, 23) = true := by decide +kernel
theorem km_8 : okMr r_8 (574, 23) = true := by decide +kernel
theorem km_9 : okMr r_9 (552, 23) = true := by decide +kernel
theorem km_10 : okMr r_10 (546, 23) = true := by decide +kernel
theorem km_11 : okMr r_11 (543, 23) = true := by decide +kernel
theorem km_12 : okMr r_12 (584, 23) = true := by decide +kernel
theorem km_13 : okMr r_13 (594, 23) = true := by decide +kernel
theorem km_14 : okMr r_14 (605, 23) = true := by decide +kernel
theorem km_15 : okMr r_15 (687, 23) = true := by decide +kernel
theorem km_16 : okMr r_16 (744, 23) = true := by decide +kernel
theorem km_17 : okMr r_17 (759, 23) = true := by decide +kernel
theorem km_18 : okMr r_18 (798, 23) = true := by decide +kernel
theorem km_19 : okMr r_19 (822, 23) = true := by decide +kernel
theorem km_20 : okMr r_20 (402, 25) = true := by decide +kernel
theorem km_21 : okMr r_21 (361, 25) = true := by decide +kernel
theorem km_22 : okMr r_22 (284, 25) = true := by decide +kernel
theorem km_23 : okMr r_23 (571, 25) = true := by decide +kernel
theorem km_24 : okMr r_24 (517, 25) = true := by decide +kernel
theorem km_25 : okMr r_25 (539, 25) = true := by decide +kernel
theorem km_26 : okMr r_26 (318, 25) = true := by decide +kernel
theorem km_27 : okMr r_27 (280, 25) = true := by decide +kernel
theorem km_28 : okMr r_28 (294, 25) = true := by decide +kernel
theorem km_29 : okMr r_29 (298, 25) = true := by decide +kernel
theorem km_30 : okMr r_30 (302, 25) = true := by decide +kernel
theorem km_31 : okMr r_31 (306, 25) = true := by decide +kernel
theorem km_32 : okMr r_32 (310, 25) = true := by decide +kernel
theorem km_33 : okMr r_33 (314, 25) = true := by decide +kernel
theorem km_34 : okMr r_34 (337, 25) = true := by decide +kernel
theorem km_35 : okMr r_35 (341, 25) = true := by decide +kernel
theorem km_36 : okMr r_36 (326, 25) = true := by decide +kernel
theorem km_37 : okMr r_37 (406, 25) = true := by decide +kernel
theorem km_38 : okMr r_38 (330, 25) = true := by decide +kernel
theorem km_39 : okMr r_39 (349, 25) = true := by decide +kernel
theorem km_40 : okMr r_40 (725, 25) = true := by decide +kernel
theorem km_41 : okMr r_41 (621, 25) = true := by decide +kernel
theorem km_42 : okMr r_42 (674, 28) = true := by decide +kernel
theorem km_43 : okMr r_43 (678, 28) = true := by decide +kernel
theorem km_44 : okMr r_44 (684, 28) = true := by decide +kernel
theorem km_45 : okMr r_45 (670, 28) = true := by decide +kernel
theorem km_46 : okMr r_46 (767, 28) = true := by decide +kernel
theorem km_47 : okMr r_47 (771, 28) = true := by decide +kernel
theorem km_48 : okMr r_48 (775, 28) = true := by decide +kernel
theorem km_49 : okMr r_49 (779, 28) = true := by decide +kernel
theorem km_50 : okMr r_50 (701, 29) = true := by decide +kernel
theorem km_51 : okMr r_51 (741, 29) = true := by decide +kernel
theorem km_52 : okMr r_52 (713, 29) = true := by decide +kernel
theorem km_53 : okMr r_53 (709, 29) = true := by decide +kernel
theorem km_54 : okMr r_54 (729, 29) = true := by decide +kernel
theorem km_55 : okMr r_55 (717, 29) = true := by decide +kernel
theorem km_56 : okMr r_56 (384, 26) = true := by decide +kernel
theorem km_57 : okMr r_57 (398, 26) = true := by decide +kernel
theorem km_58 : okMr r_58 (410, 26) = true := by decide +kernel
theorem km_59 : okMr r_59 (525, 26) = true := by decide +kernel
theorem km_60 : okMr r_60 (529, 26) = true := by decide +kernel
theorem km_61 : okMr r_61 (535, 26) = true := by decide +kernel
theorem km_62 : okMr r_62 (418, 26) = true := by decide +kernel
theorem km_63 : okMr r_63 (521, 26) = true := by decide +kernel
theorem km_64 : okMr r_64 (414, 26) = true := by decide +kernel
theorem km_65 : okMr r_65 (423, 26) = true := by decide +kernel
theorem km_66 : okMr r_66 (513, 26) = true := by decide +kernel
theorem km_67 : okMr r_67 (613, 27) = true := by decide +kernel
theorem km_68 : okMr r_68 (617, 27) = true := by decide +kernel
theorem km_69 : okMr r_69 (625, 27) = true := by decide +kernel
theorem km_70 : okMr r_70 (632, 27) = true := by decide +kernel
theorem km_71 : okMr r_71 (636, 27) = true := by decide +kernel
theorem km_72 : okMr r_72 (649, 27) = true := by decide +kernel
theorem km_73 : okMr r_73 (641, 27) = true := by decide +kernel
theorem km_74 : okMr r_74 (666, 27) = true := by decide +kernel
theorem km_75 : okMr r_75 (646, 27) = true := by decide +kernel
theorem km_76 : okMr r_76 (657, 27) = true := by decide +kernel
theorem km_77 : okMr r_77 (590, 24) = true := by decide +kernel
theorem km_78 : okMr r_78 (598, 24) = true := by decide +kernel
theorem km_79 : okMr r_79 (380, 24) = true := by decide +kernel
theorem km_80 : okMr r_80 (394, 24) = true := by decide +kernel
theorem km_81 : okMr r_81 (276, 24) = true := by decide +kernel
theorem km_82 : okMr r_82 (578, 24) = true := by decide +kernel
theorem km_83 : okMr r_83 (556, 24) = true := by decide +kernel
theorem km_84 : okMr r_84 (567, 24) = true := by decide +kernel
theorem km_85 : okMr r_85 (322, 24) = true := by decide +kernel
theorem km_86 : okMr r_86 (345, 24) = true := by decide +kernel
theorem km_87 : okMr r_87 (353, 24) = true := by decide +kernel
theorem km_88 : okMr r_88 (609, 24) = true := by decide +kernel
theorem km_89 : okMr r_89 (653, 24) = true := by decide +kernel
theorem km_90 : okMr r_90 (662, 24) = true := by decide +kernel
theorem km_91 : okMr r_91 (748, 24) = true := by decide +kernel
theorem km_92 : okMr r_92 (756, 24) = true := by decide +kernel
theorem km_93 : okMr r_93 (763, 24) = true := by decide +kernel
theorem km_94 : okMr r_94 (784, 24) = true := by decide +kernel
theorem km_95 : okMr r_95 (357, 24) = true := by decide +kernel
theorem km_96 : okMr r_96 (368, 24) = true := by decide +kernel
theorem km_97 : okMr r_97 (721, 24) = true := by decide +kernel
theorem km_98 : okMr r_98 (802, 24) = true := by decide +kernel
theorem km_99 : okMr r_99 (733, 24) = true := by decide +kernel
theorem km_100 : okMr r_100 (691, 24) = true := by decide +kernel
theorem km_101 : okMr r_101 (737, 24) = true := by decide +kernel
theorem km_102 : okMr r_102 (705, 24) = true := by decide +kernel
theorem km_103 : okMr r_103 (290, 24) = true := by decide +kernel
theorem km_104 : okMr r_104 (287, 24) = true := by decide +kernel
theorem km_105 : okMr r_105 (694, 24) = true := by decide +kernel
theorem km_106 : okMr r_106 (697, 24) = true := by decide +kernel
theorem km_107 : okMr r_107 (752, 24) = true := by decide +kernel
theorem km_108 : okMr r_108 (791, 24) = true := by decide +kernel
theorem km_109 : okMr r_109 (788, 24) = true := by decide +kernel
theorem km_110 : okMr r_110 (795, 24) = true := by decide +kernel
theorem km_111 : okMr r_111 (806, 24) = true := by decide +kernel
theorem km_112 : okMr r_112 (815, 24) = true := by decide +kernel
theorem km_113 : okMr r_113 (819, 24) = true := by decide +kernel
theorem km_114 : okMr r_114 (812, 24) = true := by decide +kernel
theorem km_115 : okMr r_115 (559, 37) = true := by decide +kernel
def isM (r : MR) : Prop := r.2.1 = yL_law ∨ ∃ p, okMr r p = true
theorem km_all (M : Nat) : isM (MRT M) := (bif_p (P := isM) (bif_p (P := isM) (bif_p (P := isM) (bif_p (P := isM) (bif_p (P := isM) (bif_p (P := isM) (Or.inl rfl) (bif_p (P := isM) (Or.inl rfl) (Or.inr ⟨_, km_2⟩))) (bif_p (P := isM) (bif_p (P := isM) (Or.inr ⟨_, km_3⟩) (Or.inr ⟨_, km_4⟩)) (bif_p (P := isM) (Or.inr ⟨_, km_5⟩) (Or.inr ⟨_, km_6⟩)))) (bif_p (P := isM) (bif_p (P := isM) (Or.inr ⟨_, km_7⟩) (bif_p (P := isM) (Or.inr ⟨_, km_8⟩) (Or.inr ⟨_, km_9⟩))) (bif_p (P := isM) (bif_p (P := isM) (Or.inr ⟨_, km_10⟩) (Or.inr ⟨_, km_11⟩)) (bif_p (P := isM) (Or.inr ⟨_, km_12⟩) (Or.inr ⟨_, km_13⟩))))) (bif_p (P := isM) (bif_p (P := isM) (bif_p (P := isM) (Or.inr ⟨_, km_14⟩) (bif_p (P := isM) (Or.inr ⟨_, km_15⟩) (Or.inr ⟨_, km_16⟩))) (bif_p (P := isM) (bif_p (P := isM) (Or.inr ⟨_, km_17⟩) (Or.inr ⟨_, km_18⟩)) (bif_p (P := isM) (Or.inr ⟨_, km_19⟩) (Or.inr ⟨_, km_20⟩)))) (bif_p (P := isM) (bif_p (P := isM) (bif_p (P := isM) (Or.inr ⟨_, km_21⟩) (Or.inr ⟨_, km_22⟩)) (bif_p (P := isM) (Or.inr ⟨_, km_23⟩) (Or.inr ⟨_, km_24⟩))) (bif_p (P := isM) (bif_p (P := isM) (Or.inr ⟨_, km_25⟩) (Or.inr ⟨_, km_26⟩)) (bif_p (P := isM) (Or.inr ⟨_, km_27⟩) (Or.inr ⟨_, km_28⟩)))))) (bif_p (P := isM) (bif_p (P := isM) (bif_p (P := isM) (bif_p (P := isM) (Or.inr ⟨_, km_29⟩) (bif_p (P := isM) (Or.inr ⟨_, km_30⟩) (Or.inr ⟨_, km_31⟩))) (bif_p (P := isM) (bif_p (P := isM) (Or.inr ⟨_, km_32⟩) (Or.inr ⟨_, km_33⟩)) (bif_p (P := isM) (Or.inr ⟨_, km_34⟩) (Or.inr ⟨_, km_35⟩)))) (bif_p (P := isM) (bif_p (P := isM) (Or.inr ⟨_, km_36⟩) (bif_p (P := isM) (Or.inr ⟨_, km_37⟩) (Or.inr ⟨_, km_38⟩))) (bif_p (P := isM) (bif_p (P := isM) (Or.inr ⟨_, km_39⟩) (Or.inr ⟨_, km_40⟩)) (bif_p (P := isM) (Or.inr ⟨_, km_41⟩) (Or.inr ⟨_, km_42⟩))))) (bif_p (P := isM) (bif_p (P := isM) (bif_p (P := isM) (Or.inr ⟨_, km_43⟩) (bif_p (P := isM) (Or.inr ⟨_, km_44⟩) (Or.inr ⟨_, km_45⟩))) (bif_p (P := isM) (bif_p (P := isM) (Or.inr ⟨_, km_46⟩) (Or.inr ⟨_, km_47⟩)) (bif_p (P := isM) (Or.inr ⟨_, km_48⟩) (Or.inr ⟨_, km_49⟩)))) (bif_p (P := isM) (bif_p (P := isM) (bif_p (P := isM) (Or.inr ⟨_, km_50⟩) (Or.inr ⟨_, km_51⟩)) (bif_p (P := isM) (Or.inr ⟨_, km_52⟩) (Or.inr ⟨_, km_53⟩))) (bif_p (P := isM) (bif_p (P := isM) (Or.inr ⟨_, km_54⟩) (Or.inr ⟨_, km_55⟩)) (bif_p (P := isM) (Or.inr ⟨_, km_56⟩) (Or.inr ⟨_, km_57⟩))))))) (bif_p (P := isM) (bif_p (P := isM) (bif_p (P := isM) (bif_p (P := isM) (bif_p (P := isM) (Or.inr ⟨_, km_58⟩) (bif_p (P := isM) (Or.inr ⟨_, km_59⟩) (Or.inr ⟨_, km_60⟩))) (bif_p (P := isM) (bif_p (P := isM) (Or.inr ⟨_, km_61⟩) (Or.inr ⟨_, km_62⟩)) (bif_p (P := isM) (Or.inr ⟨_, km_63⟩) (Or.inr ⟨_, km_64⟩)))) (bif_p (P := isM) (bif_p (P := isM) (Or.inr ⟨_, km_65⟩) (bif_p (P := isM) (Or.inr ⟨_, km_66⟩) (Or.inr ⟨_, km_67⟩))) (bif_p (P := isM) (bif_p (P := isM) (Or.inr ⟨_, km_68⟩) (Or.inr ⟨_, km_69⟩)) (bif_p (P := isM) (Or.inr ⟨_, km_70⟩) (Or.inr ⟨_, km_71⟩))))) (bif_p (P := isM) (bif_p (P := isM) (bif_p (P := isM) (Or.inr ⟨_, km_72⟩) (bif_p (P := isM) (Or.inr ⟨_, km_73⟩) (Or.inr ⟨_, km_74⟩))) (bif_p (P := isM) (bif_p (P := isM) (Or.inr ⟨_, km_75⟩) (Or.inr ⟨_, km_76⟩)) (bif_p (P := isM) (Or.inr ⟨_, km_77⟩) (Or.inr ⟨_, km_78⟩)))) (bif_p (P := isM) (bif_p (P := isM) (bif_p (P := isM) (Or.inr ⟨_, km_79⟩) (Or.inr ⟨_, km_80⟩)) (bif_p (P := isM) (Or.inr ⟨_, km_81⟩) (Or.inr ⟨_, km_82⟩))) (bif_p (P := isM) (bif_p (P := isM) (Or.inr ⟨_, km_83⟩) (Or.inr ⟨_, km_84⟩)) (bif_p (P := isM) (Or.inr ⟨_, km_85⟩) (Or.inr ⟨_, km_86⟩)))))) (bif_p (P := isM) (bif_p (P := isM) (bif_p (P := isM) (bif_p (P := isM) (Or.inr ⟨_, km_87⟩) (bif_p (P := isM) (Or.inr ⟨_, km_88⟩) (Or.inr ⟨_, km_89⟩))) (bif_p (P := isM) (bif_p (P := isM) (Or.inr ⟨_, km_90⟩) (Or.inr ⟨_, km_91⟩)) (bif_p (P := isM) (Or.inr ⟨_, km_92⟩) (Or.inr ⟨_, km_93⟩)))) (bif_p (P := isM) (bif_p (P := isM) (Or.inr ⟨_, km_94⟩) (bif_p (P := isM) (Or.inr ⟨_, km_95⟩) (Or.inr ⟨_, km_96⟩))) (bif_p (P := isM) (bif_p (P := isM) (Or.inr ⟨_, km_97⟩) (Or.inr ⟨_, km_98⟩)) (bif_p (P := isM) (Or.inr ⟨_, km_99⟩) (Or.inr ⟨_, km_100⟩))))) (bif_p (P := isM) (bif_p (P := isM) (bif_p (P := isM) (Or.inr ⟨_, km_101⟩) (bif_p (P := isM) (Or.inr ⟨_, km_102⟩) (Or.inr ⟨_, km_103⟩))) (bif_p (P := isM) (bif_p (P := isM) (Or.inr ⟨_, km_104⟩) (Or.inr ⟨_, km_105⟩)) (bif_p (P := isM) (Or.inr ⟨_, km_106⟩) (Or.inr ⟨_, km_107⟩)))) (bif_p (P := isM) (bif_p (P := isM) (bif_p (P := isM) (Or.inr ⟨_, km_108⟩) (Or.inr ⟨_, km_109⟩)) (bif_p (P := isM) (Or.inr ⟨_, km_110⟩) (Or.inr ⟨_, km_111⟩))) (bif_p (P := isM) (bif_p (P := isM) (Or.inr ⟨_, km_112⟩) (Or.inr ⟨_, km_113⟩)) (bif_p (P := isM) (Or.inr ⟨_, km_114⟩) (Or.inr ⟨_, km_115⟩))))))))
theorem ml_all (M : Nat) : Nat.ble (MRT M).2.2.2.1 40 = true := (bif_p (P := fun r : MR => Nat.ble r.2.2.2.1 40 = true) (bif_p (P := fun r : MR => Nat.ble r.2.2.2.1 40 = true) (bif_p (P := fun r : MR => Nat.ble r.2.2.2.1 40 = true) (bif_p (P := fun r : MR => Nat.ble r.2.2.2.1 40 = true) (bif_p (P := fun r : MR => Nat.ble r.2.2.2.1 40 = true) (bif_p (P := fun r : MR => Nat.ble r.2.2.2.1 40 = true) rfl (bif_p (P := fun r : MR => Nat.ble r.2.2.2.1 40 = true) rfl rfl)) (bif_p (P := fun r : MR => Nat.ble r.2.2.2.1 40 = true) (bif_p (P := fun r : MR => Nat.ble r.2.2.2.1 40 = true) rfl rfl) (bif_p (P := fun r : MR => Nat.ble r.2.2.2.1 40 = true) rfl rfl))) (bif_p (P := fun r : MR => Nat.ble r.2.2.2.1 40 = true) (bif_p (P := fun r : MR => Nat.ble r.2.2.2.1 40 = true) rfl (bif_p (P := fun r : MR => Nat.ble r.2.2.2.1 40 = true) rfl rfl)) (bif_p (P := fun r : MR => Nat.ble r.2.2.2.1 40 = true) (bif_p (P := fun r : MR => Nat.ble r.2.2.2.1 40 = true) rfl rfl) (bif_p (P := fun r : MR => Nat.ble r.2.2.2.1 40 = true) rfl rfl)))) (bif_p (P := fun r : MR => Nat.ble r.2.2.2.1 40 = true) (bif_p (P := fun r : MR => Nat.ble r.2.2.2.1 40 = true) (bif_p (P := fun r : MR => Nat.ble r.2.2.2.1 40 = true) rfl (bif_p (P := fun r : MR => Nat.ble r.2.2.2.1 40 = true) rfl rfl)) (bif_p (P := fun r : MR => Nat.ble r.2.2.2.1 40 = true) (bif_p (P := fun r : MR => Nat.ble r.2.2.2.1 40 = true) rfl rfl) (bif_p (P := fun r : MR => Nat.ble r.2.2.2.1 40 = true) rfl rfl))) (bif_p (P := fun r : MR => Nat.ble r.2.2.2.1 40 = true) (bif_p (P := fun r : MR => Nat.ble r.2.2.2.1 40 = true) (bif_p (P := fun r : MR => Nat.ble r.2.2.2.1 40 = true) rfl rfl) (bif_p (P := fun r : MR => Nat.ble r.2.2.2.1 40 = true) rfl rfl)) (bif_p (P := fun r : MR => Nat.ble r.2.2.2.1 40 = true) (bif_p (P := fun r : MR => Nat.ble r.2.2.2.1 40 = true) rfl rfl) (bif_p (P := fun r : MR => Nat.ble r.2.2.2.1 40 = true) rfl rfl))))) (bif_p (P := fun r : MR => Nat.ble r.2.2.2.1 40 = true) (bif_p (P := fun r : MR => Nat.ble r.2.2.2.1 40 = true) (bif_p (P := fun r : MR => Nat.ble r.2.2.2.1 40 = true) (bif_p (P := fun r : MR => Nat.ble r.2.2.2.1 40 = true) rfl (bif_p (P := fun r : MR => Nat.ble r.2.2.2.1 40 = true) rfl rfl)) (bif_p (P := fun r : MR => Nat.ble r.2.2.2.1 40 = true) (bif_p (P := fun r : MR => Nat.ble r.2.2.2.1 40 = true) rfl rfl) (bif_p (P := fun r : MR => Nat.ble r.2.2.2.1 40 = true) rfl rfl))) (bif_p (P := fun r : MR => Nat.ble r.2.2.2.1 40 = true) (bif_p (P := fun r : MR => Nat.ble r.2.2.2.1 40 = true) rfl (bif_p (P := fun r : MR => Nat.ble r.2.2.2.1 40 = true) rfl rfl)) (bif_p (P := fun r : MR => Nat.ble r.2.2.2.1 40 = true) (bif_p (P := fun r : MR => Nat.ble r.2.2.2.1 40 = true) rfl rfl) (bif_p (P := fun r : MR => Nat.ble r.2.2.2.1 40 = true) rfl rfl)))) (bif_p (P := fun r : MR => Nat.ble r.2.2.2.1 40 = true) (bif_p (P := fun r : MR => Nat.ble r.2.2.2.1 40 = true) (bif_p (P := fun r : MR => Nat.ble r.2.2.2.1 40 = true) rfl (bif_p (P := fun r : MR => Nat.ble r.2.2.2.1 40 = true) rfl rfl)) (bif_p (P := fun r : MR => Nat.ble r.2.2.2.1 40 = true) (bif_p (P := fun r : MR => Nat.ble r.2.2.2.1 40 = true) rfl rfl) (bif_p (P := fun r : MR => Nat.ble r.2.2.2.1 40 = true) rfl rfl))) (bif_p (P := fun r : MR => Nat.ble r.2.2.2.1 40 = true) (bif_p (P := fun r : MR => Nat.ble r.2.2.2.1 40 = true) (bif_p (P := fun r : MR => Nat.ble r.2.2.2.1 40 = true) rfl rfl) (bif_p (P := fun r : MR => Nat.ble r.2.2.2.1 40 = true) rfl rfl)) (bif_p (P := fun r : MR => Nat.ble r.2.2.2.1 40 = true) (bif_p (P := fun r : MR => Nat.ble r.2.2.2.1 40 = true) rfl rfl) (bif_p (P := fun r : MR => Nat.ble r.2.2.2.1 40 = true) rfl rfl)))))) (bif_p (P := fun r : MR => Nat.ble r.2.2.2.1 40 = true) (bif_p (P := fun r : MR => Nat.ble r.2.2.2.1 40 = true) (bif_p (P := fun r : MR => Nat.ble r.2.2.2.1 40 = true) (bif_p (P := fun r : MR => Nat.ble r.2.2.2.1 40 = true) (bif_p (P := fun r : MR => Nat.ble r.2.2.2.1 40 = true) rfl (bif_p (P := fun r : MR => Nat.ble r.2.2.2.1 40 = true) rfl rfl)) (bif_p (P := fun r : MR => Nat.ble r.2.2.2.1 40 = true) (bif_p (P := fun r : MR => Nat.ble r.2.2.2.1 40 = true) rfl rfl) (bif_p (P := fun r : MR => Nat.ble r.2.2.2.1 40 = true) rfl rfl))) (bif_p (P := fun r : MR => Nat.ble r.2.2.2.1 40 = true) (bif_p (P := fun r : MR => Nat.ble r.2.2.2.1 40 = true) rfl (bif_p (P := fun r : MR => Nat.ble r.2.2.2.1 40 = true) rfl rfl)) (bif_p (P := fun r : MR => Nat.ble r.2.2.2.1 40 = true) (bif_p (P := fun r : MR => Nat.ble r.2.2.2.1 40 = true) rfl rfl) (bif_p (P := fun r : MR => Nat.ble r.2.2.2.1 40 = true) rfl rfl)))) (bif_p (P := fun r : MR => Nat.ble r.2.2.2.1 40 = true) (bif_p (P := fun r : MR => Nat.ble r.2.2.2.1 40 = true) (bif_p (P := fun r : MR => Nat.ble r.2.2.2.1 40 = true) rfl (bif_p (P := fun r : MR => Nat.ble r.2.2.2.1 40 = true) rfl rfl)) (bif_p (P := fun r : MR => Nat.ble r.2.2.2.1 40 = true) (bif_p (P := fun r : MR => Nat.ble r.2.2.2.1 40 = true) rfl rfl) (bif_p (P := fun r : MR => Nat.ble r.2.2.2.1 40 = true) rfl rfl))) (bif_p (P := fun r : MR => Nat.ble r.2.2.2.1 40 = true) (bif_p (P := fun r : MR => Nat.ble r.2.2.2.1 40 = true) (bif_p (P := fun r : MR => Nat.ble r.2.2.2.1 40 = true) rfl rfl) (bif_p (P := fun r : MR => Nat.ble r.2.2.2.1 40 = true) rfl rfl)) (bif_p (P := fun r : MR => Nat.ble r.2.2.2.1 40 = true) (bif_p (P := fun r : MR => Nat.ble r.2.2.2.1 40 = true) rfl rfl) (bif_p (P := fun r : MR => Nat.ble r.2.2.2.1 40 = true) rfl rfl))))) (bif_p (P := fun r : MR => Nat.ble r.2.2.2.1 40 = true) (bif_p (P := fun r : MR => Nat.ble r.2.2.2.1 40 = true) (bif_p (P := fun r : MR => Nat.ble r.2.2.2.1 40 = true) (bif_p (P := fun r : MR => Nat.ble r.2.2.2.1 40 = true) rfl (bif_p (P := fun r : MR => Nat.ble r.2.2.2.1 40 = true) rfl rfl)) (bif_p (P := fun r : MR => Nat.ble r.2.2.2.1 40 = true) (bif_p (P := fun r : MR => Nat.ble r.2.2.2.1 40 = true) rfl rfl) (bif_p (P := fun r : MR => Nat.ble r.2.2.2.1 40 = true) rfl rfl))) (bif_p (P := fun r : MR => Nat.ble r.2.2.2.1 40 = true) (bif_p (P := fun r : MR => Nat.ble r.2.2.2.1 40 = true) rfl (bif_p (P := fun r : MR => Nat.ble r.2.2.2.1 40 = true) rfl rfl)) (bif_p (P := fun r : MR => Nat.ble r.2.2.2.1 40 = true) (bif_p (P := fun r : MR => Nat.ble r.2.2.2.1 40 = true) rfl rfl) (bif_p (P := fun r : MR => Nat.ble r.2.2.2.1 40 = true) rfl rfl)))) (bif_p (P := fun r : MR => Nat.ble r.2.2.2.1 40 = true) (bif_p (P := fun r : MR => Nat.ble r.2.2.2.1 40 = true) (bif_p (P := fun r : MR => Nat.ble r.2.2.2.1 40 = true) rfl (bif_p (P := fun r : MR => Nat.ble r.2.2.2.1 40 = true) rfl rfl)) (bif_p (P := fun r : MR => Nat.ble r.2.2.2.1 40 = true) (bif_p (P := fun r : MR => Nat.ble r.2.2.2.1 40 = true) rfl rfl) (bif_p (P := fun r : MR => Nat.ble r.2.2.2.1 40 = true) rfl rfl))) (bif_p (P := fun r : MR => Nat.ble r.2.2.2.1 40 = true) (bif_p (P := fun r : MR => Nat.ble r.2.2.2.1 40 = true) (bif_p (P := fun r : MR => Nat.ble r.2.2.2.1 40 = true) rfl rfl) (bif_p (P := fun r : MR => Nat.ble r.2.2.2.1 40 = true) rfl rfl)) (bif_p (P := fun r : MR => Nat.ble r.2.2.2.1 40 = true) (bif_p (P := fun r : MR => Nat.ble r.2.2.2.1 40 = true) rfl rfl) (bif_p (P := fun r : MR => Nat.ble r.2.2.2.1 40 = true) rfl rfl)))))))
theorem fetch_ok {M pc : Nat} {i : Instr} {n : Nat} (h : fetch M pc = some (i, n)) : decode (bM M) pc = .ok (i, n) ∧ okIns pc i n = true := by
  obtain ⟨cl, h1, h2⟩ := nthC_mem (lkI_mem h)
  have h3 := List.all_eq_true.mp (show okCl (bM M) cl = true from List.all_eq_true.mp (kc_all M) cl h1) _ h2
  simp only [Bool.and_eq_true, decide_eq_true_eq] at h3
  exact h3
def okF (own : String) (q : Fe) (p : Nat) : Bool := match vwCl[q.2.1]? with
  | some (_, T, N) => decide (lw_tbl[p]? = some (.fieldLink own q.1 (T q.2.2.1).1 (T q.2.2.1).2.1 (T q.2.2.1).2.2.1)) && Nat.blt q.2.2.1 N && Nat.beq N (nFf q.2.1) && Nat.beq (kdf q.2.1 q.2.2.1) q.2.2.2 && (Nat.beq q.2.2.2 1 || ((T q.2.2.1).2.2.2 == false)) && (Nat.beq q.2.2.2 1 || (match parseFieldDescriptor (T q.2.2.1).2.2.1 with | some .int => Nat.beq q.2.2.2 0 | some .boolean => Nat.beq q.2.2.2 2 | _ => false))
  | none => false
theorem kf_0 : zAll (okF RX0) f_0 [52, 54, 61, 63, 65, 67, 78, 80, 81, 82, 86, 57, 69, 71, 74, 76, 83, 85] = true := by decide +kernel
theorem kf_1 : zAll (okF RX1) f_1 [198, 199, 200, 201, 203, 205, 196, 197, 160, 153, 202, 158] = true := by decide +kernel
theorem kf_2 : zAll (okF RX2) f_2 [237, 233, 235, 236] = true := by decide +kernel
theorem kf_3 : zAll (okF RX3) f_3 [132, 133, 134, 59, 72, 56] = true := by decide +kernel
theorem kf_4 : zAll (okF RX4) f_4 [150, 151, 152, 154, 155, 156, 157, 149, 87, 163, 164, 161, 58, 159] = true := by decide +kernel
theorem kf_5 : zAll (okF RX5) f_5 [248, 249, 250, 252, 253, 254, 255, 60, 70, 73, 53, 55, 75, 77, 62, 64, 66, 68, 79, 84, 162, 204, 206, 251, 234] = true := by decide +kernel
theorem kf_6 : zAll (okF RX6) f_6 [] = true := by decide +kernel
theorem kf_7 : zAll (okF RL) f_7 [] = true := by decide +kernel
theorem kf_8 : zAll (okF RJ6) f_8 [] = true := by decide +kernel
theorem kf_9 : zAll (okF RL) f_9 [] = true := by decide +kernel
theorem kf_all (own : Nat) : ∃ m, zAll (okF (RNf own)) (bif Nat.ble own 4 then (bif Nat.ble own 1 then (bif Nat.ble own 0 then (f_0) else (f_1)) else (bif Nat.ble own 2 then (f_2) else (bif Nat.ble own 3 then (f_3) else (f_4)))) else (bif Nat.ble own 6 then (bif Nat.ble own 5 then (f_5) else (f_6)) else (bif Nat.ble own 7 then (f_7) else (bif Nat.ble own 8 then (f_8) else (f_9))))) m = true := (bif_p2 (P := fun (a : String) (b : List Fe) => ∃ m, zAll (okF a) b m = true) (bif_p2 (P := fun (a : String) (b : List Fe) => ∃ m, zAll (okF a) b m = true) (bif_p2 (P := fun (a : String) (b : List Fe) => ∃ m, zAll (okF a) b m = true) ⟨_, kf_0⟩ ⟨_, kf_1⟩) (bif_p2 (P := fun (a : String) (b : List Fe) => ∃ m, zAll (okF a) b m = true) ⟨_, kf_2⟩ (bif_p2 (P := fun (a : String) (b : List Fe) => ∃ m, zAll (okF a) b m = true) ⟨_, kf_3⟩ ⟨_, kf_4⟩))) (bif_p2 (P := fun (a : String) (b : List Fe) => ∃ m, zAll (okF a) b m = true) (bif_p2 (P := fun (a : String) (b : List Fe) => ∃ m, zAll (okF a) b m = true) ⟨_, kf_5⟩ ⟨_, kf_6⟩) (bif_p2 (P := fun (a : String) (b : List Fe) => ∃ m, zAll (okF a) b m = true) ⟨_, kf_7⟩ (bif_p2 (P := fun (a : String) (b : List Fe) => ∃ m, zAll (okF a) b m = true) ⟨_, kf_8⟩ ⟨_, kf_9⟩))))
theorem FT_ok {own ix ci k kd : Nat} (h : FTf own ix = some (ci, k, kd)) : ∃ p, okF (RNf own) (ix, ci, k, kd) p = true := by
  obtain ⟨m, hm⟩ := kf_all own
  exact zAll_mem hm (lkF_mem h)
def okL (own : String) (q : Nat × Int32) (p : Nat) : Bool := decide (lw_tbl[p]? = some (.constant own q.1 q.2))
def okL2 (own : String) (q : Nat × Int64) (p : Nat) : Bool := decide (lw_tbl[p]? = some (.constantLong own q.1 q.2))
theorem kl_0 : zAll (okL RX0) l_0 [331, 332, 333] = true := by decide +kernel
theorem kll_0 : zAll (okL2 RX0) ll_0 [] = true := by decide +kernel
theorem kl_1 : zAll (okL RX1) l_1 [] = true := by decide +kernel
theorem kll_1 : zAll (okL2 RX1) ll_1 [] = true := by decide +kernel
theorem kl_2 : zAll (okL RX2) l_2 [] = true := by decide +kernel
theorem kll_2 : zAll (okL2 RX2) ll_2 [] = true := by decide +kernel
theorem kl_3 : zAll (okL RX3) l_3 [] = true := by decide +kernel
theorem kll_3 : zAll (okL2 RX3) ll_3 [] = true := by decide +kernel
theorem kl_4 : zAll (okL RX4) l_4 [637] = true := by decide +kernel
theorem kll_4 : zAll (okL2 RX4) ll_4 [] = true := by decide +kernel
theorem kl_5 : zAll (okL RX5) l_5 [] = true := by decide +kernel
theorem kll_5 : zAll (okL2 RX5) ll_5 [785, 792, 808] = true := by decide +kernel
theorem kl_6 : zAll (okL RX6) l_6 [] = true := by decide +kernel
theorem kll_6 : zAll (okL2 RX6) ll_6 [] = true := by decide +kernel
theorem kl_7 : zAll (okL RL) l_7 [372, 373] = true := by decide +kernel
theorem kll_7 : zAll (okL2 RL) ll_7 [585, 586] = true := by decide +kernel
theorem kl_8 : zAll (okL RJ6) l_8 [560, 561, 562] = true := by decide +kernel
theorem kll_8 : zAll (okL2 RJ6) ll_8 [] = true := by decide +kernel
theorem kl_9 : zAll (okL RL) l_9 [372, 373] = true := by decide +kernel
theorem kll_9 : zAll (okL2 RL) ll_9 [585, 586] = true := by decide +kernel
theorem kl_all (own : Nat) : ∃ m, zAll (okL (RNf own)) (bif Nat.ble own 4 then (bif Nat.ble own 1 then (bif Nat.ble own 0 then (l_0) else (l_1)) else (bif Nat.ble own 2 then (l_2) else (bif Nat.ble own 3 then (l_3) else (l_4)))) else (bif Nat.ble own 6 then (bif Nat.ble own 5 then (l_5) else (l_6)) else (bif Nat.ble own 7 then (l_7) else (bif Nat.ble own 8 then (l_8) else (l_9))))) m = true := (bif_p2 (P := fun (a : String) (b : List (Nat × Int32)) => ∃ m, zAll (okL a) b m = true) (bif_p2 (P := fun (a : String) (b : List (Nat × Int32)) => ∃ m, zAll (okL a) b m = true) (bif_p2 (P := fun (a : String) (b : List (Nat × Int32)) => ∃ m, zAll (okL a) b m = true) ⟨_, kl_0⟩ ⟨_, kl_1⟩) (bif_p2 (P := fun (a : String) (b : List (Nat × Int32)) => ∃ m, zAll (okL a) b m = true) ⟨_, kl_2⟩ (bif_p2 (P := fun (a : String) (b : List (Nat × Int32)) => ∃ m, zAll (okL a) b m = true) ⟨_, kl_3⟩ ⟨_, kl_4⟩))) (bif_p2 (P := fun (a : String) (b : List (Nat × Int32)) => ∃ m, zAll (okL a) b m = true) (bif_p2 (P := fun (a : String) (b : List (Nat × Int32)) => ∃ m, zAll (okL a) b m = true) ⟨_, kl_5⟩ ⟨_, kl_6⟩) (bif_p2 (P := fun (a : String) (b : List (Nat × Int32)) => ∃ m, zAll (okL a) b m = true) ⟨_, kl_7⟩ (bif_p2 (P := fun (a : String) (b : List (Nat × Int32)) => ∃ m, zAll (okL a) b m = true) ⟨_, kl_8⟩ ⟨_, kl_9⟩))))
theorem kll_all (own : Nat) : ∃ m, zAll (okL2 (RNf own)) (bif Nat.ble own 4 then (bif Nat.ble own 1 then (bif Nat.ble own 0 then (ll_0) else (ll_1)) else (bif Nat.ble own 2 then (ll_2) else (bif Nat.ble own 3 then (ll_3) else (ll_4)))) else (bif Nat.ble own 6 then (bif Nat.ble own 5 then (ll_5) else (ll_6)) else (bif Nat.ble own 7 then (ll_7) else (bif Nat.ble own 8 then (ll_8) else (ll_9))))) m = true := (bif_p2 (P := fun (a : String) (b : List (Nat × Int64)) => ∃ m, zAll (okL2 a) b m = true) (bif_p2 (P := fun (a : String) (b : List (Nat × Int64)) => ∃ m, zAll (okL2 a) b m = true) (bif_p2 (P := fun (a : String) (b : List (Nat × Int64)) => ∃ m, zAll (okL2 a) b m = true) ⟨_, kll_0⟩ ⟨_, kll_1⟩) (bif_p2 (P := fun (a : String) (b : List (Nat × Int64)) => ∃ m, zAll (okL2 a) b m = true) ⟨_, kll_2⟩ (bif_p2 (P := fun (a : String) (b : List (Nat × Int64)) => ∃ m, zAll (okL2 a) b m = true) ⟨_, kll_3⟩ ⟨_, kll_4⟩))) (bif_p2 (P := fun (a : String) (b : List (Nat × Int64)) => ∃ m, zAll (okL2 a) b m = true) (bif_p2 (P := fun (a : String) (b : List (Nat × Int64)) => ∃ m, zAll (okL2 a) b m = true) ⟨_, kll_5⟩ ⟨_, kll_6⟩) (bif_p2 (P := fun (a : String) (b : List (Nat × Int64)) => ∃ m, zAll (okL2 a) b m = true) ⟨_, kll_7⟩ (bif_p2 (P := fun (a : String) (b : List (Nat × Int64)) => ∃ m, zAll (okL2 a) b m = true) ⟨_, kll_8⟩ ⟨_, kll_9⟩))))
theorem LC_ok {own ix : Nat} {v : Int32} (h : LCf own ix = some v) : Jvm.Cond.constant (RNf own) ix v ∈ lw_good := by
  obtain ⟨m, hm⟩ := kl_all own
  obtain ⟨p, hp⟩ := zAll_mem hm (lkV_mem h)
  exact good_at (of_decide_eq_true hp) rfl
theorem LC2_ok {own ix : Nat} {v : Int64} (h : LC2f own ix = some v) : Jvm.Cond.constantLong (RNf own) ix v ∈ lw_good := by
  obtain ⟨m, hm⟩ := kll_all own
  obtain ⟨p, hp⟩ := zAll_mem hm (lkV_mem h)
  exact good_at (of_decide_eq_true hp) rfl
def okK (own : String) (q : Fe) (p : Nat × Nat × Nat) : Bool := Nat.ble 3 q.2.2.1 && calB q.2.2.1 && decide ((parseMethodDescriptor (yM q.2.2.1).desc).map (fun d => d.parameters.length) = some q.2.2.2) && (match q.2.1 with
  | 0 => decide (lw_tbl[p.1]? = some (.methodLink own q.1 (yM q.2.2.1))) && decide (lw_tbl[p.2.1]? = some (.instanceMethod (yM q.2.2.1))) && decide (lw_tbl[p.2.2]? = some (.selects (yM q.2.2.1).cls (yM q.2.2.1) (yM q.2.2.1)))
  | 1 => decide (lw_tbl[p.1]? = some (.methodLink own q.1 (yM q.2.2.1))) && decide (lw_tbl[p.2.1]? = some (.static (yM q.2.2.1)))
  | 2 => decide (lw_tbl[p.1]? = some (.methodLinkNest own q.1 (yM q.2.2.1) "SecretBox")) && decide (lw_tbl[p.2.1]? = some (.static (yM q.2.2.1)))
  | _ => false)
theorem kk_0 : zAll (okK RX0) c_0 [(281, 282, 283), (285, 286, 24), (299, 300, 301), (303, 304, 305), (307, 309, 0), (311, 312, 313), (315, 316, 317), (327, 328, 329), (334, 335, 336), (338, 340, 1), (403, 404, 405), (726, 727, 728)] = true := by decide +kernel
theorem kk_1 : zAll (okK RX1) c_1 [(671, 673, 14), (675, 677, 15), (679, 634, 635), (680, 278, 279), (681, 683, 16), (768, 770, 18), (776, 778, 19), (780, 648, 27)] = true := by decide +kernel
theorem kk_2 : zAll (okK RX2) c_2 [(710, 711, 712)] = true := by decide +kernel
theorem kk_3 : zAll (okK RX3) c_3 [(399, 400, 401), (407, 409, 2), (411, 413, 3), (415, 417, 4), (420, 422, 5), (510, 512, 6), (514, 515, 516), (518, 520, 7), (522, 524, 8), (526, 528, 9), (531, 282, 283), (532, 534, 10), (536, 537, 538)] = true := by decide +kernel
theorem kk_4 : zAll (okK RX4) c_4 [(614, 616, 11), (618, 619, 620), (622, 624, 12), (626, 304, 305), (627, 335, 336), (628, 312, 313), (629, 631, 13), (633, 634, 635), (642, 278, 279), (647, 648, 27), (658, 639, 640)] = true := by decide +kernel
theorem kk_5 : zAll (okK RX5) c_5 [(277, 278, 279), (288, 289, 24), (291, 292, 293), (295, 296, 297), (323, 324, 325), (346, 347, 348), (358, 359, 360), (381, 382, 383), (395, 396, 397), (557, 558, 37), (563, 328, 329), (568, 569, 570), (579, 282, 283), (580, 300, 301), (581, 335, 336), (591, 286, 24), (599, 316, 317), (610, 611, 612), (638, 639, 640), (643, 644, 645), (654, 655, 656), (663, 664, 665), (667, 668, 669), (692, 693, 24), (695, 696, 24), (698, 699, 700), (706, 707, 708), (714, 715, 716), (722, 723, 724), (738, 739, 740), (749, 751, 17), (764, 765, 766), (772, 773, 774), (786, 787, 24), (789, 790, 24), (793, 794, 24), (803, 805, 20), (807, 727, 728), (809, 811, 21), (813, 814, 24), (816, 818, 22)] = true := by decide +kernel
theorem kk_6 : zAll (okK RX6) c_6 [] = true := by decide +kernel
theorem kk_7 : zAll (okK RL) c_7 [(273, 274, 275), (319, 320, 321), (342, 343, 344), (350, 351, 352), (354, 355, 356), (365, 366, 367), (369, 370, 23), (374, 375, 23), (377, 378, 379), (385, 386, 23), (388, 389, 23), (391, 392, 393), (541, 542, 23), (544, 545, 23), (547, 548, 23), (550, 551, 23), (553, 554, 555), (564, 565, 566), (572, 573, 23), (575, 576, 577), (582, 583, 23), (587, 588, 589), (592, 593, 23), (595, 596, 597), (603, 604, 23), (606, 607, 608), (650, 651, 652), (659, 660, 661), (685, 686, 23), (688, 689, 690), (702, 703, 704), (718, 719, 720), (730, 731, 732), (734, 735, 736), (742, 743, 23), (745, 746, 747), (753, 754, 755), (757, 758, 23), (760, 761, 762), (781, 782, 783), (796, 797, 23), (799, 800, 801), (820, 821, 23)] = true := by decide +kernel
theorem kk_8 : zAll (okK RJ6) c_8 [] = true := by decide +kernel
theorem kk_9 : zAll (okK RL) c_9 [(273, 274, 275), (319, 320, 321), (342, 343, 344), (350, 351, 352), (354, 355, 356), (365, 366, 367), (369, 370, 23), (374, 375, 23), (377, 378, 379), (385, 386, 23), (388, 389, 23), (391, 392, 393), (541, 542, 23), (544, 545, 23), (547, 548, 23), (550, 551, 23), (553, 554, 555), (564, 565, 566), (572, 573, 23), (575, 576, 577), (582, 583, 23), (587, 588, 589), (592, 593, 23), (595, 596, 597), (603, 604, 23), (606, 607, 608), (650, 651, 652), (659, 660, 661), (685, 686, 23), (688, 689, 690), (702, 703, 704), (718, 719, 720), (730, 731, 732), (734, 735, 736), (742, 743, 23), (745, 746, 747), (753, 754, 755), (757, 758, 23), (760, 761, 762), (781, 782, 783), (796, 797, 23), (799, 800, 801), (820, 821, 23)] = true := by decide +kernel
theorem kk_all (own : Nat) : ∃ m, zAll (okK (RNf own)) (bif Nat.ble own 4 then (bif Nat.ble own 1 then (bif Nat.ble own 0 then (c_0) else (c_1)) else (bif Nat.ble own 2 then (c_2) else (bif Nat.ble own 3 then (c_3) else (c_4)))) else (bif Nat.ble own 6 then (bif Nat.ble own 5 then (c_5) else (c_6)) else (bif Nat.ble own 7 then (c_7) else (bif Nat.ble own 8 then (c_8) else (c_9))))) m = true := (bif_p2 (P := fun (a : String) (b : List Fe) => ∃ m, zAll (okK a) b m = true) (bif_p2 (P := fun (a : String) (b : List Fe) => ∃ m, zAll (okK a) b m = true) (bif_p2 (P := fun (a : String) (b : List Fe) => ∃ m, zAll (okK a) b m = true) ⟨_, kk_0⟩ ⟨_, kk_1⟩) (bif_p2 (P := fun (a : String) (b : List Fe) => ∃ m, zAll (okK a) b m = true) ⟨_, kk_2⟩ (bif_p2 (P := fun (a : String) (b : List Fe) => ∃ m, zAll (okK a) b m = true) ⟨_, kk_3⟩ ⟨_, kk_4⟩))) (bif_p2 (P := fun (a : String) (b : List Fe) => ∃ m, zAll (okK a) b m = true) (bif_p2 (P := fun (a : String) (b : List Fe) => ∃ m, zAll (okK a) b m = true) ⟨_, kk_5⟩ ⟨_, kk_6⟩) (bif_p2 (P := fun (a : String) (b : List Fe) => ∃ m, zAll (okK a) b m = true) ⟨_, kk_7⟩ (bif_p2 (P := fun (a : String) (b : List Fe) => ∃ m, zAll (okK a) b m = true) ⟨_, kk_8⟩ ⟨_, kk_9⟩))))
theorem KT_ok {own ix kd M n : Nat} (h : KTf own ix = some (kd, M, n)) : ∃ p, okK (RNf own) (ix, kd, M, n) p = true := by
  obtain ⟨m, hm⟩ := kk_all own
  exact zAll_mem hm (lkF_mem h)
theorem wi_0 : (wsX00.all fun w => decide (w ∈ lw_tbl) && goodWord w) = true := by decide +kernel
theorem wi_1 : (wsX10.all fun w => decide (w ∈ lw_tbl) && goodWord w) = true := by decide +kernel
theorem wi_2 : (wsX20.all fun w => decide (w ∈ lw_tbl) && goodWord w) = true := by decide +kernel
theorem wi_3 : (wsX30.all fun w => decide (w ∈ lw_tbl) && goodWord w) = true := by decide +kernel
theorem wi_4 : (wsX40.all fun w => decide (w ∈ lw_tbl) && goodWord w) = true := by decide +kernel
theorem wi_5 : (wsX50.all fun w => decide (w ∈ lw_tbl) && goodWord w) = true := by decide +kernel
/-- what the kit asks of the fields of what stands in the world -/
def okC (C : String) (T : u_T) (N : Nat) : Prop := (∀ w ∈ u_ws C T N, w ∈ lw_good) ∧ (∃ ty0 : Nat → FieldType, ∀ k, k < N → parseFieldDescriptor (T k).2.2.1 = some (ty0 k)) ∧ ∀ a, a < N → ∀ b, b < N → a ≠ b → (T a).2.1 ≠ (T b).2.1
theorem okC_of {C : String} {T : u_T} {N : Nat} (h : ((u_ws C T N).all fun w => decide (w ∈ lw_tbl) && goodWord w) = true) {ty0 : Nat → FieldType} (h2 : ∀ k, k < N → parseFieldDescriptor (T k).2.2.1 = some (ty0 k)) (h3 : ∀ a, a < N → ∀ b, b < N → a ≠ b → (T a).2.1 ≠ (T b).2.1) : okC C T N := by
  refine ⟨fun w hw => ?_, ⟨ty0, h2⟩, h3⟩
  have h4 := List.all_eq_true.mp h w hw
  simp only [Bool.and_eq_true, decide_eq_true_eq] at h4
  exact List.mem_filter.mpr h4
theorem okC_all {ci : Nat} {C : String} {T : u_T} {N : Nat} (h : vwCl[ci]? = some (C, T, N)) : okC C T N := by
  match ci, h with
  | 0, h => cases h; exact okC_of wi_0 tyX0_ok nmX0
  | 1, h => cases h; exact okC_of wi_1 tyX1_ok nmX1
  | 2, h => cases h; exact okC_of wi_2 tyX2_ok nmX2
  | 3, h => cases h; exact okC_of wi_3 tyX3_ok nmX3
  | 4, h => cases h; exact okC_of wi_4 tyX4_ok nmX4
  | 5, h => cases h; exact okC_of wi_5 tyX5_ok nmX5
  | n + 6, h => simp [vwCl] at h
