def lw_good : List Jvm.Cond := lw_tbl.filter goodWord
def wsM (M : Nat) : List Jvm.Cond := Jvm.Cond.code (yM M) (bM M) (mlM M) (rtM M) :: lw_good
theorem good_at {i : Nat} {w : Jvm.Cond} (h : lw_tbl[i]? = some w) (hg : goodWord w = true) : w ∈ lw_good := List.mem_filter.mpr ⟨List.mem_of_getElem? h, hg⟩
theorem bif_p {α : Sort _} {P : α → Prop} {b : Bool} {x y : α} (hx : P x) (hy : P y) : P (bif b then x else y) := by cases b <;> assumption
theorem bif_p2 {α β : Sort _} {P : α → β → Prop} {b : Bool} {x y : α} {z w : β} (hx : P x z) (hy : P y w) : P (bif b then x else y) (bif b then z else w) := by cases b <;> assumption
def zAll {α β : Type} (f : α → β → Bool) : List α → List β → Bool
  | [], _ => true
  | a :: t, b :: u => f a b && zAll f t u
  | _ :: _, [] => false
theorem zAll_mem {α β : Type} {f : α → β → Bool} {l : List α} {m : List β} (h : zAll f l m = true) {a : α} (ha : a ∈ l) : ∃ b, f a b = true := by
  induction l generalizing m with
  | nil => cases ha
  | cons x t ih =>
    cases m with
    | nil => simp [zAll] at h
    | cons y u =>
      simp only [zAll, Bool.and_eq_true] at h
      rcases List.mem_cons.mp ha with rfl | hm
      · exact ⟨y, h.1⟩
      · exact ih h.2 hm
theorem lkF_mem {l : List Fe} {i : Nat} {x : Nat × Nat × Nat} (h : lkF l i = some x) : (i, x) ∈ l := by
  induction l with
  | nil => cases h
  | cons q t ih =>
    simp only [lkF] at h
    cases hb : Nat.beq q.1 i with
    | true =>
      rw [hb] at h
      have e1 : q.1 = i := Nat.eq_of_beq_eq_true hb
      have e2 : q.2 = x := Option.some.inj h
      rw [← e1, ← e2]
      exact List.mem_cons_self
    | false =>
      rw [hb] at h
      exact List.mem_cons_of_mem _ (ih h)
theorem lkV_mem {α : Type} {l : List (Nat × α)} {i : Nat} {x : α} (h : lkV l i = some x) : (i, x) ∈ l := by
  induction l with
  | nil => cases h
  | cons q t ih =>
    simp only [lkV] at h
    cases hb : Nat.beq q.1 i with
    | true =>
      rw [hb] at h
      have e1 : q.1 = i := Nat.eq_of_beq_eq_true hb
      have e2 : q.2 = x := Option.some.inj h
      rw [← e1, ← e2]
      exact List.mem_cons_self
    | false =>
      rw [hb] at h
      exact List.mem_cons_of_mem _ (ih h)
theorem lkI_mem {l : Cl} {i : Nat} {x : Instr × Nat} (h : lkI l i = some x) : (i, x) ∈ l := by
  induction l with
  | nil => cases h
  | cons q t ih =>
    simp only [lkI] at h
    cases hb : Nat.beq q.1 i with
    | true =>
      rw [hb] at h
      have e1 : q.1 = i := Nat.eq_of_beq_eq_true hb
      have e2 : q.2 = x := Option.some.inj h
      rw [← e1, ← e2]
      exact List.mem_cons_self
    | false =>
      rw [hb] at h
      exact List.mem_cons_of_mem _ (ih h)
theorem nthC_mem {ct : Ct} {n : Nat} {q : Nat × Instr × Nat} (h : q ∈ nthC ct n) : ∃ cl ∈ ct, q ∈ cl := by
  induction ct generalizing n with
  | nil => cases h
  | cons c t ih =>
    cases n with
    | zero => exact ⟨c, List.mem_cons_self, h⟩
    | succ n =>
      obtain ⟨cl, h1, h2⟩ := ih (n := n) h
      exact ⟨cl, List.mem_cons_of_mem _ h1, h2⟩
/-- the rows of instructions -/
def okCl (b : ByteArray) (cl : Cl) : Bool := cl.all (fun q => decide (decode b q.1 = .ok q.2) && okIns q.1 q.2.1 q.2.2)
def okCd (r : MR) : Bool := r.2.2.2.2.2.all (fun cl => okCl r.2.2.1 cl)
/-- the words of a method -/
def okMr (r : MR) (p : Nat × Nat) : Bool := decide (lw_tbl[p.1]? = some (.code r.2.1 r.2.2.1 r.2.2.2.1 r.2.2.2.2.1)) && decide (lw_tbl[p.2]? = some (.initialized r.2.1.cls)) && plainName r.2.1.cls && decide (r.2.1.cls = RNf r.1) && decide (r.2.1.cls ≠ "java/lang/invoke/MethodHandle") && decide (r.2.1.cls ≠ "java/lang/invoke/VarHandle")
theorem kc_0_0 : okCl cL_law k_0_0 = true := by decide +kernel
theorem kc_0_1 : okCl cL_law k_0_1 = true := by decide +kernel
theorem kc_0_2 : okCl cL_law k_0_2 = true := by decide +kernel
theorem kc_0_3 : okCl cL_law k_0_3 = true := by decide +kernel
theorem kc_0_4 : okCl cL_law k_0_4 = true := by decide +kernel
theorem kc_0_5 : okCl cL_law k_0_5 = true := by decide +kernel
theorem kc_0_6 : okCl cL_law k_0_6 = true := by decide +kernel
theorem kc_0_7 : okCl cL_law k_0_7 = true := by decide +kernel
theorem kc_0_8 : okCl cL_law k_0_8 = true := by decide +kernel
theorem kc_0_9 : okCl cL_law k_0_9 = true := by decide +kernel
theorem kc_0_10 : okCl cL_law k_0_10 = true := by decide +kernel
theorem kc_0_11 : okCl cL_law k_0_11 = true := by decide +kernel
theorem kc_0_12 : okCl cL_law k_0_12 = true := by decide +kernel
theorem kc_0_13 : okCl cL_law k_0_13 = true := by decide +kernel
theorem kc_0_14 : okCl cL_law k_0_14 = true := by decide +kernel
theorem kc_0_15 : okCl cL_law k_0_15 = true := by decide +kernel
theorem kc_0_16 : okCl cL_law k_0_16 = true := by decide +kernel
theorem kc_0_17 : okCl cL_law k_0_17 = true := by decide +kernel
theorem kc_0_18 : okCl cL_law k_0_18 = true := by decide +kernel
theorem kc_0_19 : okCl cL_law k_0_19 = true := by decide +kernel
theorem kc_0_20 : okCl cL_law k_0_20 = true := by decide +kernel
theorem kc_0_21 : okCl cL_law k_0_21 = true := by decide +kernel
theorem kc_0_22 : okCl cL_law k_0_22 = true := by decide +kernel
theorem kc_0_23 : okCl cL_law k_0_23 = true := by decide +kernel
theorem kc_0_24 : okCl cL_law k_0_24 = true := by decide +kernel
theorem kc_0_25 : okCl cL_law k_0_25 = true := by decide +kernel
theorem kc_0_26 : okCl cL_law k_0_26 = true := by decide +kernel
theorem kc_0_27 : okCl cL_law k_0_27 = true := by decide +kernel
theorem kc_0_28 : okCl cL_law k_0_28 = true := by decide +kernel
theorem kc_0_29 : okCl cL_law k_0_29 = true := by decide +kernel
theorem kc_0_30 : okCl cL_law k_0_30 = true := by decide +kernel
theorem kc_0_31 : okCl cL_law k_0_31 = true := by decide +kernel
theorem kc_0_32 : okCl cL_law k_0_32 = true := by decide +kernel
theorem kc_0_33 : okCl cL_law k_0_33 = true := by decide +kernel
theorem kc_0_34 : okCl cL_law k_0_34 = true := by decide +kernel
theorem kc_0 : okCd r_0 = true := List.all_eq_true.mpr (List.forall_mem_cons.mpr ⟨kc_0_0, List.forall_mem_cons.mpr ⟨kc_0_1, List.forall_mem_cons.mpr ⟨kc_0_2, List.forall_mem_cons.mpr ⟨kc_0_3, List.forall_mem_cons.mpr ⟨kc_0_4, List.forall_mem_cons.mpr ⟨kc_0_5, List.forall_mem_cons.mpr ⟨kc_0_6, List.forall_mem_cons.mpr ⟨kc_0_7, List.forall_mem_cons.mpr ⟨kc_0_8, List.forall_mem_cons.mpr ⟨kc_0_9, List.forall_mem_cons.mpr ⟨kc_0_10, List.forall_mem_cons.mpr ⟨kc_0_11, List.forall_mem_cons.mpr ⟨kc_0_12, List.forall_mem_cons.mpr ⟨kc_0_13, List.forall_mem_cons.mpr ⟨kc_0_14, List.forall_mem_cons.mpr ⟨kc_0_15, List.forall_mem_cons.mpr ⟨kc_0_16, List.forall_mem_cons.mpr ⟨kc_0_17, List.forall_mem_cons.mpr ⟨kc_0_18, List.forall_mem_cons.mpr ⟨kc_0_19, List.forall_mem_cons.mpr ⟨kc_0_20, List.forall_mem_cons.mpr ⟨kc_0_21, List.forall_mem_cons.mpr ⟨kc_0_22, List.forall_mem_cons.mpr ⟨kc_0_23, List.forall_mem_cons.mpr ⟨kc_0_24, List.forall_mem_cons.mpr ⟨kc_0_25, List.forall_mem_cons.mpr ⟨kc_0_26, List.forall_mem_cons.mpr ⟨kc_0_27, List.forall_mem_cons.mpr ⟨kc_0_28, List.forall_mem_cons.mpr ⟨kc_0_29, List.forall_mem_cons.mpr ⟨kc_0_30, List.forall_mem_cons.mpr ⟨kc_0_31, List.forall_mem_cons.mpr ⟨kc_0_32, List.forall_mem_cons.mpr ⟨kc_0_33, List.forall_mem_cons.mpr ⟨kc_0_34, fun _ h => absurd h List.not_mem_nil⟩⟩⟩⟩⟩⟩⟩⟩⟩⟩⟩⟩⟩⟩⟩⟩⟩⟩⟩⟩⟩⟩⟩⟩⟩⟩⟩⟩⟩⟩⟩⟩⟩⟩⟩)
theorem kc_1 : okCd r_1 = true := by decide +kernel
theorem kc_2_0 : okCl cX0_becomes k_2_0 = true := by decide +kernel
theorem kc_2_1 : okCl cX0_becomes k_2_1 = true := by decide +kernel
theorem kc_2_2 : okCl cX0_becomes k_2_2 = true := by decide +kernel
theorem kc_2_3 : okCl cX0_becomes k_2_3 = true := by decide +kernel
theorem kc_2_4 : okCl cX0_becomes k_2_4 = true := by decide +kernel
theorem kc_2_5 : okCl cX0_becomes k_2_5 = true := by decide +kernel
theorem kc_2_6 : okCl cX0_becomes k_2_6 = true := by decide +kernel
theorem kc_2 : okCd r_2 = true := List.all_eq_true.mpr (List.forall_mem_cons.mpr ⟨kc_2_0, List.forall_mem_cons.mpr ⟨kc_2_1, List.forall_mem_cons.mpr ⟨kc_2_2, List.forall_mem_cons.mpr ⟨kc_2_3, List.forall_mem_cons.mpr ⟨kc_2_4, List.forall_mem_cons.mpr ⟨kc_2_5, List.forall_mem_cons.mpr ⟨kc_2_6, fun _ h => absurd h List.not_mem_nil⟩⟩⟩⟩⟩⟩⟩)
theorem kc_3 : okCd r_3 = true := by decide +kernel
theorem kc_4 : okCd r_4 = true := by decide +kernel
theorem kc_5 : okCd r_5 = true := by decide +kernel
theorem kc_6 : okCd r_6 = true := by decide +kernel
theorem kc_7 : okCd r_7 = true := by decide +kernel
theorem kc_8 : okCd r_8 = true := by decide +kernel
theorem kc_9 : okCd r_9 = true := by decide +kernel
theorem kc_10 : okCd r_10 = true := by decide +kernel
theorem kc_11 : okCd r_11 = true := by decide +kernel
theorem kc_12 : okCd r_12 = true := by decide +kernel
theorem kc_13 : okCd r_13 = true := by decide +kernel
theorem kc_14 : okCd r_14 = true := by decide +kernel
theorem kc_15 : okCd r_15 = true := by decide +kernel
theorem kc_16 : okCd r_16 = true := by decide +kernel
theorem kc_17 : okCd r_17 = true := by decide +kernel
theorem kc_18 : okCd r_18 = true := by decide +kernel
theorem kc_19 : okCd r_19 = true := by decide +kernel
theorem kc_20 : okCd r_20 = true := by decide +kernel
theorem kc_21 : okCd r_21 = true := by decide +kernel
theorem kc_22 : okCd r_22 = true := by decide +kernel
theorem kc_23 : okCd r_23 = true := by decide +kernel
theorem kc_24 : okCd r_24 = true := by decide +kernel
theorem kc_25 : okCd r_25 = true := by decide +kernel
theorem kc_26 : okCd r_26 = true := by decide +kernel
theorem kc_27 : okCd r_27 = true := by decide +kernel
theorem kc_28 : okCd r_28 = true := by decide +kernel
theorem kc_29 : okCd r_29 = true := by decide +kernel
theorem kc_30 : okCd r_30 = true := by decide +kernel
theorem kc_31 : okCd r_31 = true := by decide +kernel
theorem kc_32 : okCd r_32 = true := by decide +kernel
theorem kc_33 : okCd r_33 = true := by decide +kernel
theorem kc_34 : okCd r_34 = true := by decide +kernel
theorem kc_35 : okCd r_35 = true := by decide +kernel
theorem kc_36 : okCd r_36 = true := by decide +kernel
theorem kc_37 : okCd r_37 = true := by decide +kernel
theorem kc_38 : okCd r_38 = true := by decide +kernel
theorem kc_39 : okCd r_39 = true := by decide +kernel
theorem kc_40 : okCd r_40 = true := by decide +kernel
theorem kc_41 : okCd r_41 = true := by decide +kernel
theorem kc_42 : okCd r_42 = true := by decide +kernel
theorem kc_43 : okCd r_43 = true := by decide +kernel
theorem kc_44 : okCd r_44 = true := by decide +kernel
theorem kc_45 : okCd r_45 = true := by decide +kernel
theorem kc_46 : okCd r_46 = true := by decide +kernel
theorem kc_47 : okCd r_47 = true := by decide +kernel
theorem kc_48 : okCd r_48 = true := by decide +kernel
theorem kc_49 : okCd r_49 = true := by decide +kernel
theorem kc_50 : okCd r_50 = true := by decide +kernel
theorem kc_51 : okCd r_51 = true := by decide +kernel
theorem kc_52 : okCd r_52 = true := by decide +kernel
theorem kc_53 : okCd r_53 = true := by decide +kernel
theorem kc_54 : okCd r_54 = true := by decide +kernel
theorem kc_55 : okCd r_55 = true := by decide +kernel
theorem kc_56 : okCd r_56 = true := by decide +kernel
theorem kc_57 : okCd r_57 = true := by decide +kernel
theorem kc_58 : okCd r_58 = true := by decide +kernel
theorem kc_59 : okCd r_59 = true := by decide +kernel
theorem kc_60 : okCd r_60 = true := by decide +kernel
theorem kc_61 : okCd r_61 = true := by decide +kernel
theorem kc_62 : okCd r_62 = true := by decide +kernel
theorem kc_63 : okCd r_63 = true := by decide +kernel
theorem kc_64 : okCd r_64 = true := by decide +kernel
theorem kc_65 : okCd r_65 = true := by decide +kernel
theorem kc_66 : okCd r_66 = true := by decide +kernel
theorem kc_67 : okCd r_67 = true := by decide +kernel
theorem kc_68 : okCd r_68 = true := by decide +kernel
theorem kc_69 : okCd r_69 = true := by decide +kernel
theorem kc_70 : okCd r_70 = true := by decide +kernel
theorem kc_71 : okCd r_71 = true := by decide +kernel
theorem kc_72 : okCd r_72 = true := by decide +kernel
theorem kc_73 : okCd r_73 = true := by decide +kernel
theorem kc_74 : okCd r_74 = true := by decide +kernel
theorem kc_75 : okCd r_75 = true := by decide +kernel
theorem kc_76 : okCd r_76 = true := by decide +kernel
theorem kc_77 : okCd r_77 = true := by decide +kernel
theorem kc_78 : okCd r_78 = true := by decide +kernel
theorem kc_79 : okCd r_79 = true := by decide +kernel
theorem kc_80 : okCd r_80 = true := by decide +kernel
theorem kc_81 : okCd r_81 = true := by decide +kernel
theorem kc_82 : okCd r_82 = true := by decide +kernel
theorem kc_83 : okCd r_83 = true := by decide +kernel
theorem kc_84 : okCd r_84 = true := by decide +kernel
theorem kc_85 : okCd r_85 = true := by decide +kernel
theorem kc_86 : okCd r_86 = true := by decide +kernel
theorem kc_87 : okCd r_87 = true := by decide +kernel
theorem kc_88 : okCd r_88 = true := by decide +kernel
theorem kc_89 : okCd r_89 = true := by decide +kernel
theorem kc_90 : okCd r_90 = true := by decide +kernel
theorem kc_91 : okCd r_91 = true := by decide +kernel
theorem kc_92 : okCd r_92 = true := by decide +kernel
theorem kc_93 : okCd r_93 = true := by decide +kernel
theorem kc_94 : okCd r_94 = true := by decide +kernel
theorem kc_95 : okCd r_95 = true := by decide +kernel
theorem kc_96 : okCd r_96 = true := by decide +kernel
theorem kc_97 : okCd r_97 = true := by decide +kernel
theorem kc_98 : okCd r_98 = true := by decide +kernel
theorem kc_99 : okCd r_99 = true := by decide +kernel
theorem kc_100 : okCd r_100 = true := by decide +kernel
theorem kc_101 : okCd r_101 = true := by decide +kernel
theorem kc_102 : okCd r_102 = true := by decide +kernel
theorem kc_103 : okCd r_103 = true := by decide +kernel
theorem kc_104 : okCd r_104 = true := by decide +kernel
theorem kc_105 : okCd r_105 = true := by decide +kernel
theorem kc_106 : okCd r_106 = true := by decide +kernel
theorem kc_107 : okCd r_107 = true := by decide +kernel
theorem kc_108 : okCd r_108 = true := by decide +kernel
theorem kc_109 : okCd r_109 = true := by decide +kernel
theorem kc_110 : okCd r_110 = true := by decide +kernel
theorem kc_111 : okCd r_111 = true := by decide +kernel
theorem kc_112 : okCd r_112 = true := by decide +kernel
theorem kc_113 : okCd r_113 = true := by decide +kernel
theorem kc_114 : okCd r_114 = true := by decide +kernel
theorem kc_115 : okCd r_115 = true := by decide +kernel
theorem kc_116 : okCd r_116 = true := by decide +kernel
theorem kc_117 : okCd r_117 = true := by decide +kernel
theorem kc_118 : okCd r_118 = true := by decide +kernel
theorem kc_119 : okCd r_119 = true := by decide +kernel
theorem kc_120 : okCd r_120 = true := by decide +kernel
theorem kc_121 : okCd r_121 = true := by decide +kernel
theorem kc_122 : okCd r_122 = true := by decide +kernel
theorem kc_123 : okCd r_123 = true := by decide +kernel
theorem kc_124 : okCd r_124 = true := by decide +kernel
theorem kc_125 : okCd r_125 = true := by decide +kernel
theorem kc_126 : okCd r_126 = true := by decide +kernel
theorem kc_127 : okCd r_127 = true := by decide +kernel
theorem kc_128_0 : okCl cX6_panelsRead k_128_0 = true := by decide +kernel
theorem kc_128_1 : okCl cX6_panelsRead k_128_1 = true := by decide +kernel
theorem kc_128_2 : okCl cX6_panelsRead k_128_2 = true := by decide +kernel
theorem kc_128_3 : okCl cX6_panelsRead k_128_3 = true := by decide +kernel
theorem kc_128_4 : okCl cX6_panelsRead k_128_4 = true := by decide +kernel
theorem kc_128_5 : okCl cX6_panelsRead k_128_5 = true := by decide +kernel
theorem kc_128_6 : okCl cX6_panelsRead k_128_6 = true := by decide +kernel
theorem kc_128 : okCd r_128 = true := List.all_eq_true.mpr (List.forall_mem_cons.mpr ⟨kc_128_0, List.forall_mem_cons.mpr ⟨kc_128_1, List.forall_mem_cons.mpr ⟨kc_128_2, List.forall_mem_cons.mpr ⟨kc_128_3, List.forall_mem_cons.mpr ⟨kc_128_4, List.forall_mem_cons.mpr ⟨kc_128_5, List.forall_mem_cons.mpr ⟨kc_128_6, fun _ h => absurd h List.not_mem_nil⟩⟩⟩⟩⟩⟩⟩)
theorem kc_129 : okCd r_129 = true := by decide +kernel
theorem kc_130_0 : okCl cX6_locksRead k_130_0 = true := by decide +kernel
theorem kc_130_1 : okCl cX6_locksRead k_130_1 = true := by decide +kernel
theorem kc_130_2 : okCl cX6_locksRead k_130_2 = true := by decide +kernel
theorem kc_130_3 : okCl cX6_locksRead k_130_3 = true := by decide +kernel
theorem kc_130_4 : okCl cX6_locksRead k_130_4 = true := by decide +kernel
theorem kc_130_5 : okCl cX6_locksRead k_130_5 = true := by decide +kernel
theorem kc_130_6 : okCl cX6_locksRead k_130_6 = true := by decide +kernel
theorem kc_130_7 : okCl cX6_locksRead k_130_7 = true := by decide +kernel
theorem kc_130 : okCd r_130 = true := List.all_eq_true.mpr (List.forall_mem_cons.mpr ⟨kc_130_0, List.forall_mem_cons.mpr ⟨kc_130_1, List.forall_mem_cons.mpr ⟨kc_130_2, List.forall_mem_cons.mpr ⟨kc_130_3, List.forall_mem_cons.mpr ⟨kc_130_4, List.forall_mem_cons.mpr ⟨kc_130_5, List.forall_mem_cons.mpr ⟨kc_130_6, List.forall_mem_cons.mpr ⟨kc_130_7, fun _ h => absurd h List.not_mem_nil⟩⟩⟩⟩⟩⟩⟩⟩)
theorem kc_131_0 : okCl cX6_box k_131_0 = true := by decide +kernel
theorem kc_131_1 : okCl cX6_box k_131_1 = true := by decide +kernel
theorem kc_131_2 : okCl cX6_box k_131_2 = true := by decide +kernel
theorem kc_131_3 : okCl cX6_box k_131_3 = true := by decide +kernel
theorem kc_131_4 : okCl cX6_box k_131_4 = true := by decide +kernel
theorem kc_131_5 : okCl cX6_box k_131_5 = true := by decide +kernel
theorem kc_131_6 : okCl cX6_box k_131_6 = true := by decide +kernel
theorem kc_131_7 : okCl cX6_box k_131_7 = true := by decide +kernel
theorem kc_131 : okCd r_131 = true := List.all_eq_true.mpr (List.forall_mem_cons.mpr ⟨kc_131_0, List.forall_mem_cons.mpr ⟨kc_131_1, List.forall_mem_cons.mpr ⟨kc_131_2, List.forall_mem_cons.mpr ⟨kc_131_3, List.forall_mem_cons.mpr ⟨kc_131_4, List.forall_mem_cons.mpr ⟨kc_131_5, List.forall_mem_cons.mpr ⟨kc_131_6, List.forall_mem_cons.mpr ⟨kc_131_7, fun _ h => absurd h List.not_mem_nil⟩⟩⟩⟩⟩⟩⟩⟩)
theorem kc_132 : okCd r_132 = true := by decide +kernel
theorem kc_133 : okCd r_133 = true := by decide +kernel
theorem kc_134 : okCd r_134 = true := by decide +kernel
theorem kc_135 : okCd r_135 = true := by decide +kernel
theorem kc_136 : okCd r_136 = true := by decide +kernel
theorem kc_137 : okCd r_137 = true := by decide +kernel
theorem kc_138 : okCd r_138 = true := by decide +kernel
theorem kc_139 : okCd r_139 = true := by decide +kernel
theorem kc_140_0 : okCl cX6_goesThrough k_140_0 = true := by decide +kernel
theorem kc_140_1 : okCl cX6_goesThrough k_140_1 = true := by decide +kernel
theorem kc_140_2 : okCl cX6_goesThrough k_140_2 = true := by decide +kernel
theorem kc_140_3 : okCl cX6_goesThrough k_140_3 = true := by decide +kernel
theorem kc_140_4 : okCl cX6_goesThrough k_140_4 = true := by decide +kernel
theorem kc_140_5 : okCl cX6_goesThrough k_140_5 = true := by decide +kernel
theorem kc_140 : okCd r_140 = true := List.all_eq_true.mpr (List.forall_mem_cons.mpr ⟨kc_140_0, List.forall_mem_cons.mpr ⟨kc_140_1, List.forall_mem_cons.mpr ⟨kc_140_2, List.forall_mem_cons.mpr ⟨kc_140_3, List.forall_mem_cons.mpr ⟨kc_140_4, List.forall_mem_cons.mpr ⟨kc_140_5, fun _ h => absurd h List.not_mem_nil⟩⟩⟩⟩⟩⟩)
theorem kc_141 : okCd r_141 = true := by decide +kernel
theorem kc_142 : okCd r_142 = true := by decide +kernel
theorem kc_143 : okCd r_143 = true := by decide +kernel
theorem kc_144 : okCd r_144 = true := by decide +kernel
theorem kc_145 : okCd r_145 = true := by decide +kernel
theorem kc_146 : okCd r_146 = true := by decide +kernel
theorem kc_147 : okCd r_147 = true := by decide +kernel
theorem kc_148 : okCd r_148 = true := by decide +kernel
theorem kc_149 : okCd r_149 = true := by decide +kernel
theorem kc_150 : okCd r_150 = true := by decide +kernel
theorem kc_151 : okCd r_151 = true := by decide +kernel
theorem kc_152_0 : okCl cX6_solves k_152_0 = true := by decide +kernel
theorem kc_152_1 : okCl cX6_solves k_152_1 = true := by decide +kernel
theorem kc_152_2 : okCl cX6_solves k_152_2 = true := by decide +kernel
theorem kc_152_3 : okCl cX6_solves k_152_3 = true := by decide +kernel
theorem kc_152_4 : okCl cX6_solves k_152_4 = true := by decide +kernel
theorem kc_152_5 : okCl cX6_solves k_152_5 = true := by decide +kernel
theorem kc_152_6 : okCl cX6_solves k_152_6 = true := by decide +kernel
theorem kc_152_7 : okCl cX6_solves k_152_7 = true := by decide +kernel
theorem kc_152 : okCd r_152 = true := List.all_eq_true.mpr (List.forall_mem_cons.mpr ⟨kc_152_0, List.forall_mem_cons.mpr ⟨kc_152_1, List.forall_mem_cons.mpr ⟨kc_152_2, List.forall_mem_cons.mpr ⟨kc_152_3, List.forall_mem_cons.mpr ⟨kc_152_4, List.forall_mem_cons.mpr ⟨kc_152_5, List.forall_mem_cons.mpr ⟨kc_152_6, List.forall_mem_cons.mpr ⟨kc_152_7, fun _ h => absurd h List.not_mem_nil⟩⟩⟩⟩⟩⟩⟩⟩)
theorem kc_153_0 : okCl cX6_game k_153_0 = true := by decide +kernel
theorem kc_153_1 : okCl cX6_game k_153_1 = true := by decide +kernel
theorem kc_153_2 : okCl cX6_game k_153_2 = true := by decide +kernel
theorem kc_153_3 : okCl cX6_game k_153_3 = true := by decide +kernel
theorem kc_153_4 : okCl cX6_game k_153_4 = true := by decide +kernel
theorem kc_153 : okCd r_153 = true := List.all_eq_true.mpr (List.forall_mem_cons.mpr ⟨kc_153_0, List.forall_mem_cons.mpr ⟨kc_153_1, List.forall_mem_cons.mpr ⟨kc_153_2, List.forall_mem_cons.mpr ⟨kc_153_3, List.forall_mem_cons.mpr ⟨kc_153_4, fun _ h => absurd h List.not_mem_nil⟩⟩⟩⟩⟩)
theorem kc_154_0 : okCl cX6_fumbles k_154_0 = true := by decide +kernel
theorem kc_154_1 : okCl cX6_fumbles k_154_1 = true := by decide +kernel
theorem kc_154_2 : okCl cX6_fumbles k_154_2 = true := by decide +kernel
theorem kc_154_3 : okCl cX6_fumbles k_154_3 = true := by decide +kernel
theorem kc_154_4 : okCl cX6_fumbles k_154_4 = true := by decide +kernel
theorem kc_154_5 : okCl cX6_fumbles k_154_5 = true := by decide +kernel
theorem kc_154_6 : okCl cX6_fumbles k_154_6 = true := by decide +kernel
theorem kc_154_7 : okCl cX6_fumbles k_154_7 = true := by decide +kernel
theorem kc_154 : okCd r_154 = true := List.all_eq_true.mpr (List.forall_mem_cons.mpr ⟨kc_154_0, List.forall_mem_cons.mpr ⟨kc_154_1, List.forall_mem_cons.mpr ⟨kc_154_2, List.forall_mem_cons.mpr ⟨kc_154_3, List.forall_mem_cons.mpr ⟨kc_154_4, List.forall_mem_cons.mpr ⟨kc_154_5, List.forall_mem_cons.mpr ⟨kc_154_6, List.forall_mem_cons.mpr ⟨kc_154_7, fun _ h => absurd h List.not_mem_nil⟩⟩⟩⟩⟩⟩⟩⟩)
theorem kc_155_0 : okCl cX6_fumble k_155_0 = true := by decide +kernel
theorem kc_155_1 : okCl cX6_fumble k_155_1 = true := by decide +kernel
theorem kc_155_2 : okCl cX6_fumble k_155_2 = true := by decide +kernel
theorem kc_155_3 : okCl cX6_fumble k_155_3 = true := by decide +kernel
theorem kc_155_4 : okCl cX6_fumble k_155_4 = true := by decide +kernel
theorem kc_155_5 : okCl cX6_fumble k_155_5 = true := by decide +kernel
theorem kc_155_6 : okCl cX6_fumble k_155_6 = true := by decide +kernel
theorem kc_155 : okCd r_155 = true := List.all_eq_true.mpr (List.forall_mem_cons.mpr ⟨kc_155_0, List.forall_mem_cons.mpr ⟨kc_155_1, List.forall_mem_cons.mpr ⟨kc_155_2, List.forall_mem_cons.mpr ⟨kc_155_3, List.forall_mem_cons.mpr ⟨kc_155_4, List.forall_mem_cons.mpr ⟨kc_155_5, List.forall_mem_cons.mpr ⟨kc_155_6, fun _ h => absurd h List.not_mem_nil⟩⟩⟩⟩⟩⟩⟩)
theorem kc_156 : okCd r_156 = true := by decide +kernel
theorem kc_157 : okCd r_157 = true := by decide +kernel
theorem kc_158 : okCd r_158 = true := by decide +kernel
theorem kc_159 : okCd r_159 = true := by decide +kernel
theorem kc_160 : okCd r_160 = true := by decide +kernel
theorem kc_161 : okCd r_161 = true := by decide +kernel
theorem kc_162 : okCd r_162 = true := by decide +kernel
theorem kc_163 : okCd r_163 = true := by decide +kernel
theorem kc_164_0 : okCl cX6_clicks k_164_0 = true := by decide +kernel
theorem kc_164_1 : okCl cX6_clicks k_164_1 = true := by decide +kernel
theorem kc_164_2 : okCl cX6_clicks k_164_2 = true := by decide +kernel
theorem kc_164_3 : okCl cX6_clicks k_164_3 = true := by decide +kernel
theorem kc_164_4 : okCl cX6_clicks k_164_4 = true := by decide +kernel
theorem kc_164_5 : okCl cX6_clicks k_164_5 = true := by decide +kernel
theorem kc_164_6 : okCl cX6_clicks k_164_6 = true := by decide +kernel
theorem kc_164_7 : okCl cX6_clicks k_164_7 = true := by decide +kernel
theorem kc_164_8 : okCl cX6_clicks k_164_8 = true := by decide +kernel
theorem kc_164 : okCd r_164 = true := List.all_eq_true.mpr (List.forall_mem_cons.mpr ⟨kc_164_0, List.forall_mem_cons.mpr ⟨kc_164_1, List.forall_mem_cons.mpr ⟨kc_164_2, List.forall_mem_cons.mpr ⟨kc_164_3, List.forall_mem_cons.mpr ⟨kc_164_4, List.forall_mem_cons.mpr ⟨kc_164_5, List.forall_mem_cons.mpr ⟨kc_164_6, List.forall_mem_cons.mpr ⟨kc_164_7, List.forall_mem_cons.mpr ⟨kc_164_8, fun _ h => absurd h List.not_mem_nil⟩⟩⟩⟩⟩⟩⟩⟩⟩)
theorem kc_165 : okCd r_165 = true := by decide +kernel
theorem kc_166 : okCd r_166 = true := by decide +kernel
theorem kc_167 : okCd r_167 = true := by decide +kernel
theorem kc_168 : okCd r_168 = true := by decide +kernel
theorem kc_169_0 : okCl cX6_copy k_169_0 = true := by decide +kernel
theorem kc_169_1 : okCl cX6_copy k_169_1 = true := by decide +kernel
theorem kc_169_2 : okCl cX6_copy k_169_2 = true := by decide +kernel
theorem kc_169_3 : okCl cX6_copy k_169_3 = true := by decide +kernel
theorem kc_169_4 : okCl cX6_copy k_169_4 = true := by decide +kernel
theorem kc_169_5 : okCl cX6_copy k_169_5 = true := by decide +kernel
theorem kc_169 : okCd r_169 = true := List.all_eq_true.mpr (List.forall_mem_cons.mpr ⟨kc_169_0, List.forall_mem_cons.mpr ⟨kc_169_1, List.forall_mem_cons.mpr ⟨kc_169_2, List.forall_mem_cons.mpr ⟨kc_169_3, List.forall_mem_cons.mpr ⟨kc_169_4, List.forall_mem_cons.mpr ⟨kc_169_5, fun _ h => absurd h List.not_mem_nil⟩⟩⟩⟩⟩⟩)
theorem kc_170 : okCd r_170 = true := by decide +kernel
theorem kc_all (M : Nat) : okCd (MRT M) = true := (bif_p (P := fun r => okCd r = true) (bif_p (P := fun r => okCd r = true) (bif_p (P := fun r => okCd r = true) (bif_p (P := fun r => okCd r = true) (bif_p (P := fun r => okCd r = true) (bif_p (P := fun r => okCd r = true) (bif_p (P := fun r => okCd r = true) kc_0 kc_1) (bif_p (P := fun r => okCd r = true) kc_2 (bif_p (P := fun r => okCd r = true) kc_3 kc_4))) (bif_p (P := fun r => okCd r = true) (bif_p (P := fun r => okCd r = true) kc_5 kc_6) (bif_p (P := fun r => okCd r = true) kc_7 (bif_p (P := fun r => okCd r = true) kc_8 kc_9)))) (bif_p (P := fun r => okCd r = true) (bif_p (P := fun r => okCd r = true) (bif_p (P := fun r => okCd r = true) kc_10 kc_11) (bif_p (P := fun r => okCd r = true) kc_12 (bif_p (P := fun r => okCd r = true) kc_13 kc_14))) (bif_p (P := fun r => okCd r = true) (bif_p (P := fun r => okCd r = true) kc_15 (bif_p (P := fun r => okCd r = true) kc_16 kc_17)) (bif_p (P := fun r => okCd r = true) kc_18 (bif_p (P := fun r => okCd r = true) kc_19 kc_20))))) (bif_p (P := fun r => okCd r = true) (bif_p (P := fun r => okCd r = true) (bif_p (P := fun r => okCd r = true) (bif_p (P := fun r => okCd r = true) kc_21 kc_22) (bif_p (P := fun r => okCd r = true) kc_23 (bif_p (P := fun r => okCd r = true) kc_24 kc_25))) (bif_p (P := fun r => okCd r = true) (bif_p (P := fun r => okCd r = true) kc_26 kc_27) (bif_p (P := fun r => okCd r = true) kc_28 (bif_p (P := fun r => okCd r = true) kc_29 kc_30)))) (bif_p (P := fun r => okCd r = true) (bif_p (P := fun r => okCd r = true) (bif_p (P := fun r => okCd r = true) kc_31 kc_32) (bif_p (P := fun r => okCd r = true) kc_33 (bif_p (P := fun r => okCd r = true) kc_34 kc_35))) (bif_p (P := fun r => okCd r = true) (bif_p (P := fun r => okCd r = true) kc_36 (bif_p (P := fun r => okCd r = true) kc_37 kc_38)) (bif_p (P := fun r => okCd r = true) kc_39 (bif_p (P := fun r => okCd r = true) kc_40 kc_41)))))) (bif_p (P := fun r => okCd r = true) (bif_p (P := fun r => okCd r = true) (bif_p (P := fun r => okCd r = true) (bif_p (P := fun r => okCd r = true) (bif_p (P := fun r => okCd r = true) kc_42 kc_43) (bif_p (P := fun r => okCd r = true) kc_44 (bif_p (P := fun r => okCd r = true) kc_45 kc_46))) (bif_p (P := fun r => okCd r = true) (bif_p (P := fun r => okCd r = true) kc_47 kc_48) (bif_p (P := fun r => okCd r = true) kc_49 (bif_p (P := fun r => okCd r = true) kc_50 kc_51)))) (bif_p (P := fun r => okCd r = true) (bif_p (P := fun r => okCd r = true) (bif_p (P := fun r => okCd r = true) kc_52 kc_53) (bif_p (P := fun r => okCd r = true) kc_54 (bif_p (P := fun r => okCd r = true) kc_55 kc_56))) (bif_p (P := fun r => okCd r = true) (bif_p (P := fun r => okCd r = true) kc_57 (bif_p (P := fun r => okCd r = true) kc_58 kc_59)) (bif_p (P := fun r => okCd r = true) kc_60 (bif_p (P := fun r => okCd r = true) kc_61 kc_62))))) (bif_p (P := fun r => okCd r = true) (bif_p (P := fun r => okCd r = true) (bif_p (P := fun r => okCd r = true) (bif_p (P := fun r => okCd r = true) kc_63 kc_64) (bif_p (P := fun r => okCd r = true) kc_65 (bif_p (P := fun r => okCd r = true) kc_66 kc_67))) (bif_p (P := fun r => okCd r = true) (bif_p (P := fun r => okCd r = true) kc_68 (bif_p (P := fun r => okCd r = true) kc_69 kc_70)) (bif_p (P := fun r => okCd r = true) kc_71 (bif_p (P := fun r => okCd r = true) kc_72 kc_73)))) (bif_p (P := fun r => okCd r = true) (bif_p (P := fun r => okCd r = true) (bif_p (P := fun r => okCd r = true) kc_74 kc_75) (bif_p (P := fun r => okCd r = true) kc_76 (bif_p (P := fun r => okCd r = true) kc_77 kc_78))) (bif_p (P := fun r => okCd r = true) (bif_p (P := fun r => okCd r = true) kc_79 (bif_p (P := fun r => okCd r = true) kc_80 kc_81)) (bif_p (P := fun r => okCd r = true) kc_82 (bif_p (P := fun r => okCd r = true) kc_83 kc_84))))))) (bif_p (P := fun r => okCd r = true) (bif_p (P := fun r => okCd r = true) (bif_p (P := fun r => okCd r = true) (bif_p (P := fun r => okCd r = true) (bif_p (P := fun r => okCd r = true) (bif_p (P := fun r => okCd r = true) kc_85 kc_86) (bif_p (P := fun r => okCd r = true) kc_87 (bif_p (P := fun r => okCd r = true) kc_88 kc_89))) (bif_p (P := fun r => okCd r = true) (bif_p (P := fun r => okCd r = true) kc_90 kc_91) (bif_p (P := fun r => okCd r = true) kc_92 (bif_p (P := fun r => okCd r = true) kc_93 kc_94)))) (bif_p (P := fun r => okCd r = true) (bif_p (P := fun r => okCd r = true) (bif_p (P := fun r => okCd r = true) kc_95 kc_96) (bif_p (P := fun r => okCd r = true) kc_97 (bif_p (P := fun r => okCd r = true) kc_98 kc_99))) (bif_p (P := fun r => okCd r = true) (bif_p (P := fun r => okCd r = true) kc_100 (bif_p (P := fun r => okCd r = true) kc_101 kc_102)) (bif_p (P := fun r => okCd r = true) kc_103 (bif_p (P := fun r => okCd r = true) kc_104 kc_105))))) (bif_p (P := fun r => okCd r = true) (bif_p (P := fun r => okCd r = true) (bif_p (P := fun r => okCd r = true) (bif_p (P := fun r => okCd r = true) kc_106 kc_107) (bif_p (P := fun r => okCd r = true) kc_108 (bif_p (P := fun r => okCd r = true) kc_109 kc_110))) (bif_p (P := fun r => okCd r = true) (bif_p (P := fun r => okCd r = true) kc_111 (bif_p (P := fun r => okCd r = true) kc_112 kc_113)) (bif_p (P := fun r => okCd r = true) kc_114 (bif_p (P := fun r => okCd r = true) kc_115 kc_116)))) (bif_p (P := fun r => okCd r = true) (bif_p (P := fun r => okCd r = true) (bif_p (P := fun r => okCd r = true) kc_117 kc_118) (bif_p (P := fun r => okCd r = true) kc_119 (bif_p (P := fun r => okCd r = true) kc_120 kc_121))) (bif_p (P := fun r => okCd r = true) (bif_p (P := fun r => okCd r = true) kc_122 (bif_p (P := fun r => okCd r = true) kc_123 kc_124)) (bif_p (P := fun r => okCd r = true) kc_125 (bif_p (P := fun r => okCd r = true) kc_126 kc_127)))))) (bif_p (P := fun r => okCd r = true) (bif_p (P := fun r => okCd r = true) (bif_p (P := fun r => okCd r = true) (bif_p (P := fun r => okCd r = true) (bif_p (P := fun r => okCd r = true) kc_128 kc_129) (bif_p (P := fun r => okCd r = true) kc_130 (bif_p (P := fun r => okCd r = true) kc_131 kc_132))) (bif_p (P := fun r => okCd r = true) (bif_p (P := fun r => okCd r = true) kc_133 kc_134) (bif_p (P := fun r => okCd r = true) kc_135 (bif_p (P := fun r => okCd r = true) kc_136 kc_137)))) (bif_p (P := fun r => okCd r = true) (bif_p (P := fun r => okCd r = true) (bif_p (P := fun r => okCd r = true) kc_138 kc_139) (bif_p (P := fun r => okCd r = true) kc_140 (bif_p (P := fun r => okCd r = true) kc_141 kc_142))) (bif_p (P := fun r => okCd r = true) (bif_p (P := fun r => okCd r = true) kc_143 (bif_p (P := fun r => okCd r = true) kc_144 kc_145)) (bif_p (P := fun r => okCd r = true) kc_146 (bif_p (P := fun r => okCd r = true) kc_147 kc_148))))) (bif_p (P := fun r => okCd r = true) (bif_p (P := fun r => okCd r = true) (bif_p (P := fun r => okCd r = true) (bif_p (P := fun r => okCd r = true) kc_149 kc_150) (bif_p (P := fun r => okCd r = true) kc_151 (bif_p (P := fun r => okCd r = true) kc_152 kc_153))) (bif_p (P := fun r => okCd r = true) (bif_p (P := fun r => okCd r = true) kc_154 (bif_p (P := fun r => okCd r = true) kc_155 kc_156)) (bif_p (P := fun r => okCd r = true) kc_157 (bif_p (P := fun r => okCd r = true) kc_158 kc_159)))) (bif_p (P := fun r => okCd r = true) (bif_p (P := fun r => okCd r = true) (bif_p (P := fun r => okCd r = true) kc_160 kc_161) (bif_p (P := fun r => okCd r = true) kc_162 (bif_p (P := fun r => okCd r = true) kc_163 kc_164))) (bif_p (P := fun r => okCd r = true) (bif_p (P := fun r => okCd r = true) kc_165 (bif_p (P := fun r => okCd r = true) kc_166 kc_167)) (bif_p (P := fun r => okCd r = true) kc_168 (bif_p (P := fun r => okCd r = true) kc_169 kc_170))))))))
theorem km_1 : okMr r_1 (398, 59) = true := by decide +kernel
theorem km_2 : okMr r_2 (530, 59) = true := by decide +kernel
theorem km_3 : okMr r_3 (329, 59) = true := by decide +kernel
theorem km_4 : okMr r_4 (377, 59) = true := by decide +kernel
theorem km_5 : okMr r_5 (321, 59) = true := by decide +kernel
theorem km_6 : okMr r_6 (333, 59) = true := by decide +kernel
theorem km_7 : okMr r_7 (366, 59) = true := by decide +kernel
theorem km_8 : okMr r_8 (542, 59) = true := by decide +kernel
theorem km_9 : okMr r_9 (546, 59) = true := by decide +kernel
theorem km_10 : okMr r_10 (550, 59) = true := by decide +kernel
theorem km_11 : okMr r_11 (348, 59) = true := by decide +kernel
theorem km_12 : okMr r_12 (352, 59) = true := by decide +kernel
theorem km_13 : okMr r_13 (358, 59) = true := by decide +kernel
theorem km_14 : okMr r_14 (362, 59) = true := by decide +kernel
theorem km_15 : okMr r_15 (563, 59) = true := by decide +kernel
theorem km_16 : okMr r_16 (567, 59) = true := by decide +kernel
theorem km_17 : okMr r_17 (589, 59) = true := by decide +kernel
theorem km_18 : okMr r_18 (317, 59) = true := by decide +kernel
theorem km_19 : okMr r_19 (559, 59) = true := by decide +kernel
theorem km_20 : okMr r_20 (602, 59) = true := by decide +kernel
theorem km_21 : okMr r_21 (763, 59) = true := by decide +kernel
theorem km_22 : okMr r_22 (622, 59) = true := by decide +kernel
theorem km_23 : okMr r_23 (675, 62) = true := by decide +kernel
theorem km_24 : okMr r_24 (679, 62) = true := by decide +kernel
theorem km_25 : okMr r_25 (685, 62) = true := by decide +kernel
theorem km_26 : okMr r_26 (671, 62) = true := by decide +kernel
theorem km_27 : okMr r_27 (705, 62) = true := by decide +kernel
theorem km_28 : okMr r_28 (709, 62) = true := by decide +kernel
theorem km_29 : okMr r_29 (713, 62) = true := by decide +kernel
theorem km_30 : okMr r_30 (717, 62) = true := by decide +kernel
theorem km_31 : okMr r_31 (804, 63) = true := by decide +kernel
theorem km_32 : okMr r_32 (812, 63) = true := by decide +kernel
theorem km_33 : okMr r_33 (759, 63) = true := by decide +kernel
theorem km_34 : okMr r_34 (755, 63) = true := by decide +kernel
theorem km_35 : okMr r_35 (767, 63) = true := by decide +kernel
theorem km_36 : okMr r_36 (796, 63) = true := by decide +kernel
theorem km_37 : okMr r_37 (386, 60) = true := by decide +kernel
theorem km_38 : okMr r_38 (394, 60) = true := by decide +kernel
theorem km_39 : okMr r_39 (403, 60) = true := by decide +kernel
theorem km_40 : okMr r_40 (515, 60) = true := by decide +kernel
theorem km_41 : okMr r_41 (519, 60) = true := by decide +kernel
theorem km_42 : okMr r_42 (525, 60) = true := by decide +kernel
theorem km_43 : okMr r_43 (411, 60) = true := by decide +kernel
theorem km_44 : okMr r_44 (511, 60) = true := by decide +kernel
theorem km_45 : okMr r_45 (407, 60) = true := by decide +kernel
theorem km_46 : okMr r_46 (416, 60) = true := by decide +kernel
theorem km_47 : okMr r_47 (506, 60) = true := by decide +kernel
theorem km_48 : okMr r_48 (614, 61) = true := by decide +kernel
theorem km_49 : okMr r_49 (618, 61) = true := by decide +kernel
theorem km_50 : okMr r_50 (626, 61) = true := by decide +kernel
theorem km_51 : okMr r_51 (633, 61) = true := by decide +kernel
theorem km_52 : okMr r_52 (637, 61) = true := by decide +kernel
theorem km_53 : okMr r_53 (650, 61) = true := by decide +kernel
theorem km_54 : okMr r_54 (642, 61) = true := by decide +kernel
theorem km_55 : okMr r_55 (667, 61) = true := by decide +kernel
theorem km_56 : okMr r_56 (647, 61) = true := by decide +kernel
theorem km_57 : okMr r_57 (658, 61) = true := by decide +kernel
theorem km_58 : okMr r_58 (313, 58) = true := by decide +kernel
theorem km_59 : okMr r_59 (325, 58) = true := by decide +kernel
theorem km_60 : okMr r_60 (337, 58) = true := by decide +kernel
theorem km_61 : okMr r_61 (341, 58) = true := by decide +kernel
theorem km_62 : okMr r_62 (373, 58) = true := by decide +kernel
theorem km_63 : okMr r_63 (382, 58) = true := by decide +kernel
theorem km_64 : okMr r_64 (390, 58) = true := by decide +kernel
theorem km_65 : okMr r_65 (538, 58) = true := by decide +kernel
theorem km_66 : okMr r_66 (555, 58) = true := by decide +kernel
theorem km_67 : okMr r_67 (571, 58) = true := by decide +kernel
theorem km_68 : okMr r_68 (581, 58) = true := by decide +kernel
theorem km_69 : okMr r_69 (585, 58) = true := by decide +kernel
theorem km_70 : okMr r_70 (598, 58) = true := by decide +kernel
theorem km_71 : okMr r_71 (606, 58) = true := by decide +kernel
theorem km_72 : okMr r_72 (610, 58) = true := by decide +kernel
theorem km_73 : okMr r_73 (654, 58) = true := by decide +kernel
theorem km_74 : okMr r_74 (663, 58) = true := by decide +kernel
theorem km_75 : okMr r_75 (689, 58) = true := by decide +kernel
theorem km_76 : okMr r_76 (697, 58) = true := by decide +kernel
theorem km_77 : okMr r_77 (701, 58) = true := by decide +kernel
theorem km_78 : okMr r_78 (722, 58) = true := by decide +kernel
theorem km_79 : okMr r_79 (737, 58) = true := by decide +kernel
theorem km_80 : okMr r_80 (741, 58) = true := by decide +kernel
theorem km_81 : okMr r_81 (745, 58) = true := by decide +kernel
theorem km_82 : okMr r_82 (771, 58) = true := by decide +kernel
theorem km_83 : okMr r_83 (792, 58) = true := by decide +kernel
theorem km_84 : okMr r_84 (800, 58) = true := by decide +kernel
theorem km_85 : okMr r_85 (808, 58) = true := by decide +kernel
theorem km_86 : okMr r_86 (816, 58) = true := by decide +kernel
theorem km_87 : okMr r_87 (820, 58) = true := by decide +kernel
theorem km_88 : okMr r_88 (369, 58) = true := by decide +kernel
theorem km_89 : okMr r_89 (344, 58) = true := by decide +kernel
theorem km_90 : okMr r_90 (748, 58) = true := by decide +kernel
theorem km_91 : okMr r_91 (751, 58) = true := by decide +kernel
theorem km_92 : okMr r_92 (693, 58) = true := by decide +kernel
theorem km_93 : okMr r_93 (729, 58) = true := by decide +kernel
theorem km_94 : okMr r_94 (726, 58) = true := by decide +kernel
theorem km_95 : okMr r_95 (733, 58) = true := by decide +kernel
theorem km_96 : okMr r_96 (775, 58) = true := by decide +kernel
theorem km_97 : okMr r_97 (784, 58) = true := by decide +kernel
theorem km_98 : okMr r_98 (788, 58) = true := by decide +kernel
theorem km_99 : okMr r_99 (781, 58) = true := by decide +kernel
theorem km_100 : okMr r_100 (921, 64) = true := by decide +kernel
theorem km_101 : okMr r_101 (934, 64) = true := by decide +kernel
theorem km_102 : okMr r_102 (986, 64) = true := by decide +kernel
theorem km_103 : okMr r_103 (952, 64) = true := by decide +kernel
theorem km_104 : okMr r_104 (956, 64) = true := by decide +kernel
theorem km_105 : okMr r_105 (975, 64) = true := by decide +kernel
theorem km_106 : okMr r_106 (959, 64) = true := by decide +kernel
theorem km_107 : okMr r_107 (995, 64) = true := by decide +kernel
theorem km_108 : okMr r_108 (978, 64) = true := by decide +kernel
theorem km_109 : okMr r_109 (971, 64) = true := by decide +kernel
theorem km_110 : okMr r_110 (967, 64) = true := by decide +kernel
theorem km_111 : okMr r_111 (1049, 64) = true := by decide +kernel
theorem km_112 : okMr r_112 (1056, 64) = true := by decide +kernel
theorem km_113 : okMr r_113 (926, 64) = true := by decide +kernel
theorem km_114 : okMr r_114 (940, 64) = true := by decide +kernel
theorem km_115 : okMr r_115 (917, 64) = true := by decide +kernel
theorem km_116 : okMr r_116 (930, 64) = true := by decide +kernel
theorem km_117 : okMr r_117 (944, 64) = true := by decide +kernel
theorem km_118 : okMr r_118 (963, 64) = true := by decide +kernel
theorem km_119 : okMr r_119 (948, 64) = true := by decide +kernel
theorem km_120 : okMr r_120 (982, 64) = true := by decide +kernel
theorem km_121 : okMr r_121 (999, 64) = true := by decide +kernel
theorem km_122 : okMr r_122 (1003, 64) = true := by decide +kernel
theorem km_123 : okMr r_123 (991, 64) = true := by decide +kernel
theorem km_124 : okMr r_124 (1007, 64) = true := by decide +kernel
theorem km_125 : okMr r_125 (1021, 64) = true := by decide +kernel
theorem km_126 : okMr r_126 (1025, 64) = true := by decide +kernel
theorem km_127 : okMr r_127 (1029, 64) = true := by decide +kernel
theorem km_128 : okMr r_128 (1017, 64) = true := by decide +kernel
theorem km_129 : okMr r_129 (1037, 64) = true := by decide +kernel
theorem km_130 : okMr r_130 (1033, 64) = true := by decide +kernel
theorem km_131 : okMr r_131 (1013, 64) = true := by decide +kernel
theorem km_132 : okMr r_132 (1045, 64) = true := by decide +kernel
theorem km_133 : okMr r_133 (1041, 64) = true := by decide +kernel
theorem km_134 : okMr r_134 (1053, 64) = true := by decide +kernel
theorem km_135 : okMr r_135 (1060, 64) = true := by decide +kernel
theorem km_136 : okMr r_136 (1064, 64) = true := by decide +kernel
theorem km_137 : okMr r_137 (1073, 64) = true := by decide +kernel
theorem km_138 : okMr r_138 (1077, 64) = true := by decide +kernel
theorem km_139 : okMr r_139 (1089, 64) = true := by decide +kernel
theorem km_140 : okMr r_140 (1085, 64) = true := by decide +kernel
theorem km_141 : okMr r_141 (1094, 64) = true := by decide +kernel
theorem km_142 : okMr r_142 (1098, 64) = true := by decide +kernel
theorem km_143 : okMr r_143 (1081, 64) = true := by decide +kernel
theorem km_144 : okMr r_144 (1102, 64) = true := by decide +kernel
theorem km_145 : okMr r_145 (1114, 64) = true := by decide +kernel
theorem km_146 : okMr r_146 (1110, 64) = true := by decide +kernel
theorem km_147 : okMr r_147 (1106, 64) = true := by decide +kernel
theorem km_148 : okMr r_148 (1118, 64) = true := by decide +kernel
theorem km_149 : okMr r_149 (1122, 64) = true := by decide +kernel
theorem km_150 : okMr r_150 (1139, 64) = true := by decide +kernel
theorem km_151 : okMr r_151 (1135, 64) = true := by decide +kernel
theorem km_152 : okMr r_152 (1131, 64) = true := by decide +kernel
theorem km_153 : okMr r_153 (1127, 64) = true := by decide +kernel
theorem km_154 : okMr r_154 (1148, 64) = true := by decide +kernel
theorem km_155 : okMr r_155 (1143, 64) = true := by decide +kernel
theorem km_156 : okMr r_156 (1153, 64) = true := by decide +kernel
theorem km_157 : okMr r_157 (1157, 64) = true := by decide +kernel
theorem km_158 : okMr r_158 (1164, 64) = true := by decide +kernel
theorem km_159 : okMr r_159 (1167, 64) = true := by decide +kernel
theorem km_160 : okMr r_160 (1171, 64) = true := by decide +kernel
theorem km_161 : okMr r_161 (1161, 64) = true := by decide +kernel
theorem km_162 : okMr r_162 (1185, 64) = true := by decide +kernel
theorem km_163 : okMr r_163 (1181, 64) = true := by decide +kernel
theorem km_164 : okMr r_164 (1175, 64) = true := by decide +kernel
theorem km_165 : okMr r_165 (1189, 64) = true := by decide +kernel
theorem km_166 : okMr r_166 (1193, 64) = true := by decide +kernel
theorem km_167 : okMr r_167 (1197, 64) = true := by decide +kernel
theorem km_168 : okMr r_168 (1201, 64) = true := by decide +kernel
theorem km_169 : okMr r_169 (1205, 64) = true := by decide +kernel
theorem km_170 : okMr r_170 (574, 72) = true := by decide +kernel
def isM (r : MR) : Prop := r.2.1.cls = "SecretBoxLaw" ∨ ∃ p, okMr r p = true
theorem km_all (M : Nat) : isM (MRT M) := (bif_p (P := isM) (bif_p (P := isM) (bif_p (P := isM) (bif_p (P := isM) (bif_p (P := isM) (bif_p (P := isM) (bif_p (P := isM) (Or.inl rfl) (Or.inr ⟨_, km_1⟩)) (bif_p (P := isM) (Or.inr ⟨_, km_2⟩) (bif_p (P := isM) (Or.inr ⟨_, km_3⟩) (Or.inr ⟨_, km_4⟩)))) (bif_p (P := isM) (bif_p (P := isM) (Or.inr ⟨_, km_5⟩) (Or.inr ⟨_, km_6⟩)) (bif_p (P := isM) (Or.inr ⟨_, km_7⟩) (bif_p (P := isM) (Or.inr ⟨_, km_8⟩) (Or.inr ⟨_, km_9⟩))))) (bif_p (P := isM) (bif_p (P := isM) (bif_p (P := isM) (Or.inr ⟨_, km_10⟩) (Or.inr ⟨_, km_11⟩)) (bif_p (P := isM) (Or.inr ⟨_, km_12⟩) (bif_p (P := isM) (Or.inr ⟨_, km_13⟩) (Or.inr ⟨_, km_14⟩)))) (bif_p (P := isM) (bif_p (P := isM) (Or.inr ⟨_, km_15⟩) (bif_p (P := isM) (Or.inr ⟨_, km_16⟩) (Or.inr ⟨_, km_17⟩))) (bif_p (P := isM) (Or.inr ⟨_, km_18⟩) (bif_p (P := isM) (Or.inr ⟨_, km_19⟩) (Or.inr ⟨_, km_20⟩)))))) (bif_p (P := isM) (bif_p (P := isM) (bif_p (P := isM) (bif_p (P := isM) (Or.inr ⟨_, km_21⟩) (Or.inr ⟨_, km_22⟩)) (bif_p (P := isM) (Or.inr ⟨_, km_23⟩) (bif_p (P := isM) (Or.inr ⟨_, km_24⟩) (Or.inr ⟨_, km_25⟩)))) (bif_p (P := isM) (bif_p (P := isM) (Or.inr ⟨_, km_26⟩) (Or.inr ⟨_, km_27⟩)) (bif_p (P := isM) (Or.inr ⟨_, km_28⟩) (bif_p (P := isM) (Or.inr ⟨_, km_29⟩) (Or.inr ⟨_, km_30⟩))))) (bif_p (P := isM) (bif_p (P := isM) (bif_p (P := isM) (Or.inr ⟨_, km_31⟩) (Or.inr ⟨_, km_32⟩)) (bif_p (P := isM) (Or.inr ⟨_, km_33⟩) (bif_p (P := isM) (Or.inr ⟨_, km_34⟩) (Or.inr ⟨_, km_35⟩)))) (bif_p (P := isM) (bif_p (P := isM) (Or.inr ⟨_, km_36⟩) (bif_p (P := isM) (Or.inr ⟨_, km_37⟩) (Or.inr ⟨_, km_38⟩))) (bif_p (P := isM) (Or.inr ⟨_, km_39⟩) (bif_p (P := isM) (Or.inr ⟨_, km_40⟩) (Or.inr ⟨_, km_41⟩))))))) (bif_p (P := isM) (bif_p (P := isM) (bif_p (P := isM) (bif_p (P := isM) (bif_p (P := isM) (Or.inr ⟨_, km_42⟩) (Or.inr ⟨_, km_43⟩)) (bif_p (P := isM) (Or.inr ⟨_, km_44⟩) (bif_p (P := isM) (Or.inr ⟨_, km_45⟩) (Or.inr ⟨_, km_46⟩)))) (bif_p (P := isM) (bif_p (P := isM) (Or.inr ⟨_, km_47⟩) (Or.inr ⟨_, km_48⟩)) (bif_p (P := isM) (Or.inr ⟨_, km_49⟩) (bif_p (P := isM) (Or.inr ⟨_, km_50⟩) (Or.inr ⟨_, km_51⟩))))) (bif_p (P := isM) (bif_p (P := isM) (bif_p (P := isM) (Or.inr ⟨_, km_52⟩) (Or.inr ⟨_, km_53⟩)) (bif_p (P := isM) (Or.inr ⟨_, km_54⟩) (bif_p (P := isM) (Or.inr ⟨_, km_55⟩) (Or.inr ⟨_, km_56⟩)))) (bif_p (P := isM) (bif_p (P := isM) (Or.inr ⟨_, km_57⟩) (bif_p (P := isM) (Or.inr ⟨_, km_58⟩) (Or.inr ⟨_, km_59⟩))) (bif_p (P := isM) (Or.inr ⟨_, km_60⟩) (bif_p (P := isM) (Or.inr ⟨_, km_61⟩) (Or.inr ⟨_, km_62⟩)))))) (bif_p (P := isM) (bif_p (P := isM) (bif_p (P := isM) (bif_p (P := isM) (Or.inr ⟨_, km_63⟩) (Or.inr ⟨_, km_64⟩)) (bif_p (P := isM) (Or.inr ⟨_, km_65⟩) (bif_p (P := isM) (Or.inr ⟨_, km_66⟩) (Or.inr ⟨_, km_67⟩)))) (bif_p (P := isM) (bif_p (P := isM) (Or.inr ⟨_, km_68⟩) (bif_p (P := isM) (Or.inr ⟨_, km_69⟩) (Or.inr ⟨_, km_70⟩))) (bif_p (P := isM) (Or.inr ⟨_, km_71⟩) (bif_p (P := isM) (Or.inr ⟨_, km_72⟩) (Or.inr ⟨_, km_73⟩))))) (bif_p (P := isM) (bif_p (P := isM) (bif_p (P := isM) (Or.inr ⟨_, km_74⟩) (Or.inr ⟨_, km_75⟩)) (bif_p (P := isM) (Or.inr ⟨_, km_76⟩) (bif_p (P := isM) (Or.inr ⟨_, km_77⟩) (Or.inr ⟨_, km_78⟩)))) (bif_p (P := isM) (bif_p (P := isM) (Or.inr ⟨_, km_79⟩) (bif_p (P := isM) (Or.inr ⟨_, km_80⟩) (Or.inr ⟨_, km_81⟩))) (bif_p (P := isM) (Or.inr ⟨_, km_82⟩) (bif_p (P := isM) (Or.inr ⟨_, km_83⟩) (Or.inr ⟨_, km_84⟩)))))))) (bif_p (P := isM) (bif_p (P := isM) (bif_p (P := isM) (bif_p (P := isM) (bif_p (P := isM) (bif_p (P := isM) (Or.inr ⟨_, km_85⟩) (Or.inr ⟨_, km_86⟩)) (bif_p (P := isM) (Or.inr ⟨_, km_87⟩) (bif_p (P := isM) (Or.inr ⟨_, km_88⟩) (Or.inr ⟨_, km_89⟩)))) (bif_p (P := isM) (bif_p (P := isM) (Or.inr ⟨_, km_90⟩) (Or.inr ⟨_, km_91⟩)) (bif_p (P := isM) (Or.inr ⟨_, km_92⟩) (bif_p (P := isM) (Or.inr ⟨_, km_93⟩) (Or.inr ⟨_, km_94⟩))))) (bif_p (P := isM) (bif_p (P := isM) (bif_p (P := isM) (Or.inr ⟨_, km_95⟩) (Or.inr ⟨_, km_96⟩)) (bif_p (P := isM) (Or.inr ⟨_, km_97⟩) (bif_p (P := isM) (Or.inr ⟨_, km_98⟩) (Or.inr ⟨_, km_99⟩)))) (bif_p (P := isM) (bif_p (P := isM) (Or.inr ⟨_, km_100⟩) (bif_p (P := isM) (Or.inr ⟨_, km_101⟩) (Or.inr ⟨_, km_102⟩))) (bif_p (P := isM) (Or.inr ⟨_, km_103⟩) (bif_p (P := isM) (Or.inr ⟨_, km_104⟩) (Or.inr ⟨_, km_105⟩)))))) (bif_p (P := isM) (bif_p (P := isM) (bif_p (P := isM) (bif_p (P := isM) (Or.inr ⟨_, km_106⟩) (Or.inr ⟨_, km_107⟩)) (bif_p (P := isM) (Or.inr ⟨_, km_108⟩) (bif_p (P := isM) (Or.inr ⟨_, km_109⟩) (Or.inr ⟨_, km_110⟩)))) (bif_p (P := isM) (bif_p (P := isM) (Or.inr ⟨_, km_111⟩) (bif_p (P := isM) (Or.inr ⟨_, km_112⟩) (Or.inr ⟨_, km_113⟩))) (bif_p (P := isM) (Or.inr ⟨_, km_114⟩) (bif_p (P := isM) (Or.inr ⟨_, km_115⟩) (Or.inr ⟨_, km_116⟩))))) (bif_p (P := isM) (bif_p (P := isM) (bif_p (P := isM) (Or.inr ⟨_, km_117⟩) (Or.inr ⟨_, km_118⟩)) (bif_p (P := isM) (Or.inr ⟨_, km_119⟩) (bif_p (P := isM) (Or.inr ⟨_, km_120⟩) (Or.inr ⟨_, km_121⟩)))) (bif_p (P := isM) (bif_p (P := isM) (Or.inr ⟨_, km_122⟩) (bif_p (P := isM) (Or.inr ⟨_, km_123⟩) (Or.inr ⟨_, km_124⟩))) (bif_p (P := isM) (Or.inr ⟨_, km_125⟩) (bif_p (P := isM) (Or.inr ⟨_, km_126⟩) (Or.inr ⟨_, km_127⟩))))))) (bif_p (P := isM) (bif_p (P := isM) (bif_p (P := isM) (bif_p (P := isM) (bif_p (P := isM) (Or.inr ⟨_, km_128⟩) (Or.inr ⟨_, km_129⟩)) (bif_p (P := isM) (Or.inr ⟨_, km_130⟩) (bif_p (P := isM) (Or.inr ⟨_, km_131⟩) (Or.inr ⟨_, km_132⟩)))) (bif_p (P := isM) (bif_p (P := isM) (Or.inr ⟨_, km_133⟩) (Or.inr ⟨_, km_134⟩)) (bif_p (P := isM) (Or.inr ⟨_, km_135⟩) (bif_p (P := isM) (Or.inr ⟨_, km_136⟩) (Or.inr ⟨_, km_137⟩))))) (bif_p (P := isM) (bif_p (P := isM) (bif_p (P := isM) (Or.inr ⟨_, km_138⟩) (Or.inr ⟨_, km_139⟩)) (bif_p (P := isM) (Or.inr ⟨_, km_140⟩) (bif_p (P := isM) (Or.inr ⟨_, km_141⟩) (Or.inr ⟨_, km_142⟩)))) (bif_p (P := isM) (bif_p (P := isM) (Or.inr ⟨_, km_143⟩) (bif_p (P := isM) (Or.inr ⟨_, km_144⟩) (Or.inr ⟨_, km_145⟩))) (bif_p (P := isM) (Or.inr ⟨_, km_146⟩) (bif_p (P := isM) (Or.inr ⟨_, km_147⟩) (Or.inr ⟨_, km_148⟩)))))) (bif_p (P := isM) (bif_p (P := isM) (bif_p (P := isM) (bif_p (P := isM) (Or.inr ⟨_, km_149⟩) (Or.inr ⟨_, km_150⟩)) (bif_p (P := isM) (Or.inr ⟨_, km_151⟩) (bif_p (P := isM) (Or.inr ⟨_, km_152⟩) (Or.inr ⟨_, km_153⟩)))) (bif_p (P := isM) (bif_p (P := isM) (Or.inr ⟨_, km_154⟩) (bif_p (P := isM) (Or.inr ⟨_, km_155⟩) (Or.inr ⟨_, km_156⟩))) (bif_p (P := isM) (Or.inr ⟨_, km_157⟩) (bif_p (P := isM) (Or.inr ⟨_, km_158⟩) (Or.inr ⟨_, km_159⟩))))) (bif_p (P := isM) (bif_p (P := isM) (bif_p (P := isM) (Or.inr ⟨_, km_160⟩) (Or.inr ⟨_, km_161⟩)) (bif_p (P := isM) (Or.inr ⟨_, km_162⟩) (bif_p (P := isM) (Or.inr ⟨_, km_163⟩) (Or.inr ⟨_, km_164⟩)))) (bif_p (P := isM) (bif_p (P := isM) (Or.inr ⟨_, km_165⟩) (bif_p (P := isM) (Or.inr ⟨_, km_166⟩) (Or.inr ⟨_, km_167⟩))) (bif_p (P := isM) (Or.inr ⟨_, km_168⟩) (bif_p (P := isM) (Or.inr ⟨_, km_169⟩) (Or.inr ⟨_, km_170⟩)))))))))
theorem ml_all (M : Nat) : Nat.ble (MRT M).2.2.2.1 40 = true := (bif_p (P := fun r : MR => Nat.ble r.2.2.2.1 40 = true) (bif_p (P := fun r : MR => Nat.ble r.2.2.2.1 40 = true) (bif_p (P := fun r : MR => Nat.ble r.2.2.2.1 40 = true) (bif_p (P := fun r : MR => Nat.ble r.2.2.2.1 40 = true) (bif_p (P := fun r : MR => Nat.ble r.2.2.2.1 40 = true) (bif_p (P := fun r : MR => Nat.ble r.2.2.2.1 40 = true) (bif_p (P := fun r : MR => Nat.ble r.2.2.2.1 40 = true) rfl rfl) (bif_p (P := fun r : MR => Nat.ble r.2.2.2.1 40 = true) rfl (bif_p (P := fun r : MR => Nat.ble r.2.2.2.1 40 = true) rfl rfl))) (bif_p (P := fun r : MR => Nat.ble r.2.2.2.1 40 = true) (bif_p (P := fun r : MR => Nat.ble r.2.2.2.1 40 = true) rfl rfl) (bif_p (P := fun r : MR => Nat.ble r.2.2.2.1 40 = true) rfl (bif_p (P := fun r : MR => Nat.ble r.2.2.2.1 40 = true) rfl rfl)))) (bif_p (P := fun r : MR => Nat.ble r.2.2.2.1 40 = true) (bif_p (P := fun r : MR => Nat.ble r.2.2.2.1 40 = true) (bif_p (P := fun r : MR => Nat.ble r.2.2.2.1 40 = true) rfl rfl) (bif_p (P := fun r : MR => Nat.ble r.2.2.2.1 40 = true) rfl (bif_p (P := fun r : MR => Nat.ble r.2.2.2.1 40 = true) rfl rfl))) (bif_p (P := fun r : MR => Nat.ble r.2.2.2.1 40 = true) (bif_p (P := fun r : MR => Nat.ble r.2.2.2.1 40 = true) rfl (bif_p (P := fun r : MR => Nat.ble r.2.2.2.1 40 = true) rfl rfl)) (bif_p (P := fun r : MR => Nat.ble r.2.2.2.1 40 = true) rfl (bif_p (P := fun r : MR => Nat.ble r.2.2.2.1 40 = true) rfl rfl))))) (bif_p (P := fun r : MR => Nat.ble r.2.2.2.1 40 = true) (bif_p (P := fun r : MR => Nat.ble r.2.2.2.1 40 = true) (bif_p (P := fun r : MR => Nat.ble r.2.2.2.1 40 = true) (bif_p (P := fun r : MR => Nat.ble r.2.2.2.1 40 = true) rfl rfl) (bif_p (P := fun r : MR => Nat.ble r.2.2.2.1 40 = true) rfl (bif_p (P := fun r : MR => Nat.ble r.2.2.2.1 40 = true) rfl rfl))) (bif_p (P := fun r : MR => Nat.ble r.2.2.2.1 40 = true) (bif_p (P := fun r : MR => Nat.ble r.2.2.2.1 40 = true) rfl rfl) (bif_p (P := fun r : MR => Nat.ble r.2.2.2.1 40 = true) rfl (bif_p (P := fun r : MR => Nat.ble r.2.2.2.1 40 = true) rfl rfl)))) (bif_p (P := fun r : MR => Nat.ble r.2.2.2.1 40 = true) (bif_p (P := fun r : MR => Nat.ble r.2.2.2.1 40 = true) (bif_p (P := fun r : MR => Nat.ble r.2.2.2.1 40 = true) rfl rfl) (bif_p (P := fun r : MR => Nat.ble r.2.2.2.1 40 = true) rfl (bif_p (P := fun r : MR => Nat.ble r.2.2.2.1 40 = true) rfl rfl))) (bif_p (P := fun r : MR => Nat.ble r.2.2.2.1 40 = true) (bif_p (P := fun r : MR => Nat.ble r.2.2.2.1 40 = true) rfl (bif_p (P := fun r : MR => Nat.ble r.2.2.2.1 40 = true) rfl rfl)) (bif_p (P := fun r : MR => Nat.ble r.2.2.2.1 40 = true) rfl (bif_p (P := fun r : MR => Nat.ble r.2.2.2.1 40 = true) rfl rfl)))))) (bif_p (P := fun r : MR => Nat.ble r.2.2.2.1 40 = true) (bif_p (P := fun r : MR => Nat.ble r.2.2.2.1 40 = true) (bif_p (P := fun r : MR => Nat.ble r.2.2.2.1 40 = true) (bif_p (P := fun r : MR => Nat.ble r.2.2.2.1 40 = true) (bif_p (P := fun r : MR => Nat.ble r.2.2.2.1 40 = true) rfl rfl) (bif_p (P := fun r : MR => Nat.ble r.2.2.2.1 40 = true) rfl (bif_p (P := fun r : MR => Nat.ble r.2.2.2.1 40 = true) rfl rfl))) (bif_p (P := fun r : MR => Nat.ble r.2.2.2.1 40 = true) (bif_p (P := fun r : MR => Nat.ble r.2.2.2.1 40 = true) rfl rfl) (bif_p (P := fun r : MR => Nat.ble r.2.2.2.1 40 = true) rfl (bif_p (P := fun r : MR => Nat.ble r.2.2.2.1 40 = true) rfl rfl)))) (bif_p (P := fun r : MR => Nat.ble r.2.2.2.1 40 = true) (bif_p (P := fun r : MR => Nat.ble r.2.2.2.1 40 = true) (bif_p (P := fun r : MR => Nat.ble r.2.2.2.1 40 = true) rfl rfl) (bif_p (P := fun r : MR => Nat.ble r.2.2.2.1 40 = true) rfl (bif_p (P := fun r : MR => Nat.ble r.2.2.2.1 40 = true) rfl rfl))) (bif_p (P := fun r : MR => Nat.ble r.2.2.2.1 40 = true) (bif_p (P := fun r : MR => Nat.ble r.2.2.2.1 40 = true) rfl (bif_p (P := fun r : MR => Nat.ble r.2.2.2.1 40 = true) rfl rfl)) (bif_p (P := fun r : MR => Nat.ble r.2.2.2.1 40 = true) rfl (bif_p (P := fun r : MR => Nat.ble r.2.2.2.1 40 = true) rfl rfl))))) (bif_p (P := fun r : MR => Nat.ble r.2.2.2.1 40 = true) (bif_p (P := fun r : MR => Nat.ble r.2.2.2.1 40 = true) (bif_p (P := fun r : MR => Nat.ble r.2.2.2.1 40 = true) (bif_p (P := fun r : MR => Nat.ble r.2.2.2.1 40 = true) rfl rfl) (bif_p (P := fun r : MR => Nat.ble r.2.2.2.1 40 = true) rfl (bif_p (P := fun r : MR => Nat.ble r.2.2.2.1 40 = true) rfl rfl))) (bif_p (P := fun r : MR => Nat.ble r.2.2.2.1 40 = true) (bif_p (P := fun r : MR => Nat.ble r.2.2.2.1 40 = true) rfl (bif_p (P := fun r : MR => Nat.ble r.2.2.2.1 40 = true) rfl rfl)) (bif_p (P := fun r : MR => Nat.ble r.2.2.2.1 40 = true) rfl (bif_p (P := fun r : MR => Nat.ble r.2.2.2.1 40 = true) rfl rfl)))) (bif_p (P := fun r : MR => Nat.ble r.2.2.2.1 40 = true) (bif_p (P := fun r : MR => Nat.ble r.2.2.2.1 40 = true) (bif_p (P := fun r : MR => Nat.ble r.2.2.2.1 40 = true) rfl rfl) (bif_p (P := fun r : MR => Nat.ble r.2.2.2.1 40 = true) rfl (bif_p (P := fun r : MR => Nat.ble r.2.2.2.1 40 = true) rfl rfl))) (bif_p (P := fun r : MR => Nat.ble r.2.2.2.1 40 = true) (bif_p (P := fun r : MR => Nat.ble r.2.2.2.1 40 = true) rfl (bif_p (P := fun r : MR => Nat.ble r.2.2.2.1 40 = true) rfl rfl)) (bif_p (P := fun r : MR => Nat.ble r.2.2.2.1 40 = true) rfl (bif_p (P := fun r : MR => Nat.ble r.2.2.2.1 40 = true) rfl rfl))))))) (bif_p (P := fun r : MR => Nat.ble r.2.2.2.1 40 = true) (bif_p (P := fun r : MR => Nat.ble r.2.2.2.1 40 = true) (bif_p (P := fun r : MR => Nat.ble r.2.2.2.1 40 = true) (bif_p (P := fun r : MR => Nat.ble r.2.2.2.1 40 = true) (bif_p (P := fun r : MR => Nat.ble r.2.2.2.1 40 = true) (bif_p (P := fun r : MR => Nat.ble r.2.2.2.1 40 = true) rfl rfl) (bif_p (P := fun r : MR => Nat.ble r.2.2.2.1 40 = true) rfl (bif_p (P := fun r : MR => Nat.ble r.2.2.2.1 40 = true) rfl rfl))) (bif_p (P := fun r : MR => Nat.ble r.2.2.2.1 40 = true) (bif_p (P := fun r : MR => Nat.ble r.2.2.2.1 40 = true) rfl rfl) (bif_p (P := fun r : MR => Nat.ble r.2.2.2.1 40 = true) rfl (bif_p (P := fun r : MR => Nat.ble r.2.2.2.1 40 = true) rfl rfl)))) (bif_p (P := fun r : MR => Nat.ble r.2.2.2.1 40 = true) (bif_p (P := fun r : MR => Nat.ble r.2.2.2.1 40 = true) (bif_p (P := fun r : MR => Nat.ble r.2.2.2.1 40 = true) rfl rfl) (bif_p (P := fun r : MR => Nat.ble r.2.2.2.1 40 = true) rfl (bif_p (P := fun r : MR => Nat.ble r.2.2.2.1 40 = true) rfl rfl))) (bif_p (P := fun r : MR => Nat.ble r.2.2.2.1 40 = true) (bif_p (P := fun r : MR => Nat.ble r.2.2.2.1 40 = true) rfl (bif_p (P := fun r : MR => Nat.ble r.2.2.2.1 40 = true) rfl rfl)) (bif_p (P := fun r : MR => Nat.ble r.2.2.2.1 40 = true) rfl (bif_p (P := fun r : MR => Nat.ble r.2.2.2.1 40 = true) rfl rfl))))) (bif_p (P := fun r : MR => Nat.ble r.2.2.2.1 40 = true) (bif_p (P := fun r : MR => Nat.ble r.2.2.2.1 40 = true) (bif_p (P := fun r : MR => Nat.ble r.2.2.2.1 40 = true) (bif_p (P := fun r : MR => Nat.ble r.2.2.2.1 40 = true) rfl rfl) (bif_p (P := fun r : MR => Nat.ble r.2.2.2.1 40 = true) rfl (bif_p (P := fun r : MR => Nat.ble r.2.2.2.1 40 = true) rfl rfl))) (bif_p (P := fun r : MR => Nat.ble r.2.2.2.1 40 = true) (bif_p (P := fun r : MR => Nat.ble r.2.2.2.1 40 = true) rfl (bif_p (P := fun r : MR => Nat.ble r.2.2.2.1 40 = true) rfl rfl)) (bif_p (P := fun r : MR => Nat.ble r.2.2.2.1 40 = true) rfl (bif_p (P := fun r : MR => Nat.ble r.2.2.2.1 40 = true) rfl rfl)))) (bif_p (P := fun r : MR => Nat.ble r.2.2.2.1 40 = true) (bif_p (P := fun r : MR => Nat.ble r.2.2.2.1 40 = true) (bif_p (P := fun r : MR => Nat.ble r.2.2.2.1 40 = true) rfl rfl) (bif_p (P := fun r : MR => Nat.ble r.2.2.2.1 40 = true) rfl (bif_p (P := fun r : MR => Nat.ble r.2.2.2.1 40 = true) rfl rfl))) (bif_p (P := fun r : MR => Nat.ble r.2.2.2.1 40 = true) (bif_p (P := fun r : MR => Nat.ble r.2.2.2.1 40 = true) rfl (bif_p (P := fun r : MR => Nat.ble r.2.2.2.1 40 = true) rfl rfl)) (bif_p (P := fun r : MR => Nat.ble r.2.2.2.1 40 = true) rfl (bif_p (P := fun r : MR => Nat.ble r.2.2.2.1 40 = true) rfl rfl)))))) (bif_p (P := fun r : MR => Nat.ble r.2.2.2.1 40 = true) (bif_p (P := fun r : MR => Nat.ble r.2.2.2.1 40 = true) (bif_p (P := fun r : MR => Nat.ble r.2.2.2.1 40 = true) (bif_p (P := fun r : MR => Nat.ble r.2.2.2.1 40 = true) (bif_p (P := fun r : MR => Nat.ble r.2.2.2.1 40 = true) rfl rfl) (bif_p (P := fun r : MR => Nat.ble r.2.2.2.1 40 = true) rfl (bif_p (P := fun r : MR => Nat.ble r.2.2.2.1 40 = true) rfl rfl))) (bif_p (P := fun r : MR => Nat.ble r.2.2.2.1 40 = true) (bif_p (P := fun r : MR => Nat.ble r.2.2.2.1 40 = true) rfl rfl) (bif_p (P := fun r : MR => Nat.ble r.2.2.2.1 40 = true) rfl (bif_p (P := fun r : MR => Nat.ble r.2.2.2.1 40 = true) rfl rfl)))) (bif_p (P := fun r : MR => Nat.ble r.2.2.2.1 40 = true) (bif_p (P := fun r : MR => Nat.ble r.2.2.2.1 40 = true) (bif_p (P := fun r : MR => Nat.ble r.2.2.2.1 40 = true) rfl rfl) (bif_p (P := fun r : MR => Nat.ble r.2.2.2.1 40 = true) rfl (bif_p (P := fun r : MR => Nat.ble r.2.2.2.1 40 = true) rfl rfl))) (bif_p (P := fun r : MR => Nat.ble r.2.2.2.1 40 = true) (bif_p (P := fun r : MR => Nat.ble r.2.2.2.1 40 = true) rfl (bif_p (P := fun r : MR => Nat.ble r.2.2.2.1 40 = true) rfl rfl)) (bif_p (P := fun r : MR => Nat.ble r.2.2.2.1 40 = true) rfl (bif_p (P := fun r : MR => Nat.ble r.2.2.2.1 40 = true) rfl rfl))))) (bif_p (P := fun r : MR => Nat.ble r.2.2.2.1 40 = true) (bif_p (P := fun r : MR => Nat.ble r.2.2.2.1 40 = true) (bif_p (P := fun r : MR => Nat.ble r.2.2.2.1 40 = true) (bif_p (P := fun r : MR => Nat.ble r.2.2.2.1 40 = true) rfl rfl) (bif_p (P := fun r : MR => Nat.ble r.2.2.2.1 40 = true) rfl (bif_p (P := fun r : MR => Nat.ble r.2.2.2.1 40 = true) rfl rfl))) (bif_p (P := fun r : MR => Nat.ble r.2.2.2.1 40 = true) (bif_p (P := fun r : MR => Nat.ble r.2.2.2.1 40 = true) rfl (bif_p (P := fun r : MR => Nat.ble r.2.2.2.1 40 = true) rfl rfl)) (bif_p (P := fun r : MR => Nat.ble r.2.2.2.1 40 = true) rfl (bif_p (P := fun r : MR => Nat.ble r.2.2.2.1 40 = true) rfl rfl)))) (bif_p (P := fun r : MR => Nat.ble r.2.2.2.1 40 = true) (bif_p (P := fun r : MR => Nat.ble r.2.2.2.1 40 = true) (bif_p (P := fun r : MR => Nat.ble r.2.2.2.1 40 = true) rfl rfl) (bif_p (P := fun r : MR => Nat.ble r.2.2.2.1 40 = true) rfl (bif_p (P := fun r : MR => Nat.ble r.2.2.2.1 40 = true) rfl rfl))) (bif_p (P := fun r : MR => Nat.ble r.2.2.2.1 40 = true) (bif_p (P := fun r : MR => Nat.ble r.2.2.2.1 40 = true) rfl (bif_p (P := fun r : MR => Nat.ble r.2.2.2.1 40 = true) rfl rfl)) (bif_p (P := fun r : MR => Nat.ble r.2.2.2.1 40 = true) rfl (bif_p (P := fun r : MR => Nat.ble r.2.2.2.1 40 = true) rfl rfl))))))))
theorem fetch_ok {M pc : Nat} {i : Instr} {n : Nat} (h : fetch M pc = some (i, n)) : decode (bM M) pc = .ok (i, n) ∧ okIns pc i n = true := by
  obtain ⟨cl, h1, h2⟩ := nthC_mem (lkI_mem h)
  have h3 := List.all_eq_true.mp (show okCl (bM M) cl = true from List.all_eq_true.mp (kc_all M) cl h1) _ h2
  simp only [Bool.and_eq_true, decide_eq_true_eq] at h3
  exact h3
def okF (own : String) (q : Fe) (p : Nat) : Bool := match vwCl[q.2.1]? with
  | some (_, T, N) => decide (lw_tbl[p]? = some (.fieldLink own q.1 (T q.2.2.1).1 (T q.2.2.1).2.1 (T q.2.2.1).2.2.1)) && Nat.blt q.2.2.1 N && Nat.beq N (nFf q.2.1) && Nat.beq (kdf q.2.1 q.2.2.1) q.2.2.2 && (Nat.beq q.2.2.2 1 || ((T q.2.2.1).2.2.2 == false)) && (Nat.beq q.2.2.2 1 || (match parseFieldDescriptor (T q.2.2.1).2.2.1 with | some .int => Nat.beq q.2.2.2 0 | some .boolean => Nat.beq q.2.2.2 2 | _ => false))
  | none => false
theorem kf_0 : zAll (okF RX0) f_0 [87, 89, 96, 98, 100, 102, 113, 115, 116, 117, 121, 92, 104, 106, 109, 111, 118, 120] = true := by decide +kernel
theorem kf_1 : zAll (okF RX1) f_1 [233, 234, 235, 236, 238, 240, 231, 232, 195, 188, 237, 193] = true := by decide +kernel
theorem kf_2 : zAll (okF RX2) f_2 [273, 268, 270, 272] = true := by decide +kernel
theorem kf_3 : zAll (okF RX3) f_3 [167, 168, 169, 95, 108, 91] = true := by decide +kernel
theorem kf_4 : zAll (okF RX4) f_4 [185, 186, 187, 189, 190, 191, 192, 184, 122, 198, 199, 196, 94, 194] = true := by decide +kernel
theorem kf_5 : zAll (okF RX5) f_5 [285, 286, 287, 289, 290, 291, 292, 93, 105, 107, 88, 90, 110, 112, 97, 99, 101, 103, 114, 119, 197, 239, 241, 288, 269, 271, 274] = true := by decide +kernel
theorem kf_6 : zAll (okF RX6) f_6 [829, 830, 834, 836, 837, 839, 841, 842, 843, 844, 845, 846, 847, 848, 849, 850, 853, 854, 855, 856, 838, 831, 832, 833, 835, 840, 851, 852] = true := by decide +kernel
theorem kf_7 : zAll (okF RL) f_7 [] = true := by decide +kernel
theorem kf_8 : zAll (okF RJ6) f_8 [] = true := by decide +kernel
theorem kf_all (own : Nat) : ∃ m, zAll (okF (RNf own)) (bif Nat.ble own 3 then (bif Nat.ble own 1 then (bif Nat.ble own 0 then (f_0) else (f_1)) else (bif Nat.ble own 2 then (f_2) else (f_3))) else (bif Nat.ble own 5 then (bif Nat.ble own 4 then (f_4) else (f_5)) else (bif Nat.ble own 6 then (f_6) else (bif Nat.ble own 7 then (f_7) else (f_8))))) m = true := (bif_p2 (P := fun (a : String) (b : List Fe) => ∃ m, zAll (okF a) b m = true) (bif_p2 (P := fun (a : String) (b : List Fe) => ∃ m, zAll (okF a) b m = true) (bif_p2 (P := fun (a : String) (b : List Fe) => ∃ m, zAll (okF a) b m = true) ⟨_, kf_0⟩ ⟨_, kf_1⟩) (bif_p2 (P := fun (a : String) (b : List Fe) => ∃ m, zAll (okF a) b m = true) ⟨_, kf_2⟩ ⟨_, kf_3⟩)) (bif_p2 (P := fun (a : String) (b : List Fe) => ∃ m, zAll (okF a) b m = true) (bif_p2 (P := fun (a : String) (b : List Fe) => ∃ m, zAll (okF a) b m = true) ⟨_, kf_4⟩ ⟨_, kf_5⟩) (bif_p2 (P := fun (a : String) (b : List Fe) => ∃ m, zAll (okF a) b m = true) ⟨_, kf_6⟩ (bif_p2 (P := fun (a : String) (b : List Fe) => ∃ m, zAll (okF a) b m = true) ⟨_, kf_7⟩ ⟨_, kf_8⟩))))
theorem FT_ok {own ix ci k kd : Nat} (h : FTf own ix = some (ci, k, kd)) : ∃ p, okF (RNf own) (ix, ci, k, kd) p = true := by
  obtain ⟨m, hm⟩ := kf_all own
  exact zAll_mem hm (lkF_mem h)
def okL (own : String) (q : Nat × Int32) (p : Nat) : Bool := decide (lw_tbl[p]? = some (.constant own q.1 q.2))
def okL2 (own : String) (q : Nat × Int64) (p : Nat) : Bool := decide (lw_tbl[p]? = some (.constantLong own q.1 q.2))
theorem kl_0 : zAll (okL RX0) l_0 [591, 592, 593] = true := by decide +kernel
theorem kll_0 : zAll (okL2 RX0) ll_0 [] = true := by decide +kernel
theorem kl_1 : zAll (okL RX1) l_1 [] = true := by decide +kernel
theorem kll_1 : zAll (okL2 RX1) ll_1 [] = true := by decide +kernel
theorem kl_2 : zAll (okL RX2) l_2 [] = true := by decide +kernel
theorem kll_2 : zAll (okL2 RX2) ll_2 [] = true := by decide +kernel
theorem kl_3 : zAll (okL RX3) l_3 [] = true := by decide +kernel
theorem kll_3 : zAll (okL2 RX3) ll_3 [] = true := by decide +kernel
theorem kl_4 : zAll (okL RX4) l_4 [638] = true := by decide +kernel
theorem kll_4 : zAll (okL2 RX4) ll_4 [] = true := by decide +kernel
theorem kl_5 : zAll (okL RX5) l_5 [] = true := by decide +kernel
theorem kll_5 : zAll (okL2 RX5) ll_5 [723, 730, 777] = true := by decide +kernel
theorem kl_6 : zAll (okL RX6) l_6 [1069, 1090] = true := by decide +kernel
theorem kll_6 : zAll (okL2 RX6) ll_6 [918, 922, 935, 936, 987, 1008, 1009, 1065, 1066, 1067, 1068, 1123, 1144, 1149, 1176, 1177] = true := by decide +kernel
theorem kl_7 : zAll (okL RL) l_7 [] = true := by decide +kernel
theorem kll_7 : zAll (okL2 RL) ll_7 [1206] = true := by decide +kernel
theorem kl_8 : zAll (okL RJ6) l_8 [575, 576, 577] = true := by decide +kernel
theorem kll_8 : zAll (okL2 RJ6) ll_8 [] = true := by decide +kernel
theorem kl_all (own : Nat) : ∃ m, zAll (okL (RNf own)) (bif Nat.ble own 3 then (bif Nat.ble own 1 then (bif Nat.ble own 0 then (l_0) else (l_1)) else (bif Nat.ble own 2 then (l_2) else (l_3))) else (bif Nat.ble own 5 then (bif Nat.ble own 4 then (l_4) else (l_5)) else (bif Nat.ble own 6 then (l_6) else (bif Nat.ble own 7 then (l_7) else (l_8))))) m = true := (bif_p2 (P := fun (a : String) (b : List (Nat × Int32)) => ∃ m, zAll (okL a) b m = true) (bif_p2 (P := fun (a : String) (b : List (Nat × Int32)) => ∃ m, zAll (okL a) b m = true) (bif_p2 (P := fun (a : String) (b : List (Nat × Int32)) => ∃ m, zAll (okL a) b m = true) ⟨_, kl_0⟩ ⟨_, kl_1⟩) (bif_p2 (P := fun (a : String) (b : List (Nat × Int32)) => ∃ m, zAll (okL a) b m = true) ⟨_, kl_2⟩ ⟨_, kl_3⟩)) (bif_p2 (P := fun (a : String) (b : List (Nat × Int32)) => ∃ m, zAll (okL a) b m = true) (bif_p2 (P := fun (a : String) (b : List (Nat × Int32)) => ∃ m, zAll (okL a) b m = true) ⟨_, kl_4⟩ ⟨_, kl_5⟩) (bif_p2 (P := fun (a : String) (b : List (Nat × Int32)) => ∃ m, zAll (okL a) b m = true) ⟨_, kl_6⟩ (bif_p2 (P := fun (a : String) (b : List (Nat × Int32)) => ∃ m, zAll (okL a) b m = true) ⟨_, kl_7⟩ ⟨_, kl_8⟩))))
theorem kll_all (own : Nat) : ∃ m, zAll (okL2 (RNf own)) (bif Nat.ble own 3 then (bif Nat.ble own 1 then (bif Nat.ble own 0 then (ll_0) else (ll_1)) else (bif Nat.ble own 2 then (ll_2) else (ll_3))) else (bif Nat.ble own 5 then (bif Nat.ble own 4 then (ll_4) else (ll_5)) else (bif Nat.ble own 6 then (ll_6) else (bif Nat.ble own 7 then (ll_7) else (ll_8))))) m = true := (bif_p2 (P := fun (a : String) (b : List (Nat × Int64)) => ∃ m, zAll (okL2 a) b m = true) (bif_p2 (P := fun (a : String) (b : List (Nat × Int64)) => ∃ m, zAll (okL2 a) b m = true) (bif_p2 (P := fun (a : String) (b : List (Nat × Int64)) => ∃ m, zAll (okL2 a) b m = true) ⟨_, kll_0⟩ ⟨_, kll_1⟩) (bif_p2 (P := fun (a : String) (b : List (Nat × Int64)) => ∃ m, zAll (okL2 a) b m = true) ⟨_, kll_2⟩ ⟨_, kll_3⟩)) (bif_p2 (P := fun (a : String) (b : List (Nat × Int64)) => ∃ m, zAll (okL2 a) b m = true) (bif_p2 (P := fun (a : String) (b : List (Nat × Int64)) => ∃ m, zAll (okL2 a) b m = true) ⟨_, kll_4⟩ ⟨_, kll_5⟩) (bif_p2 (P := fun (a : String) (b : List (Nat × Int64)) => ∃ m, zAll (okL2 a) b m = true) ⟨_, kll_6⟩ (bif_p2 (P := fun (a : String) (b : List (Nat × Int64)) => ∃ m, zAll (okL2 a) b m = true) ⟨_, kll_7⟩ ⟨_, kll_8⟩))))
theorem LC_ok {own ix : Nat} {v : Int32} (h : LCf own ix = some v) : Jvm.Cond.constant (RNf own) ix v ∈ lw_good := by
  obtain ⟨m, hm⟩ := kl_all own
  obtain ⟨p, hp⟩ := zAll_mem hm (lkV_mem h)
  exact good_at (of_decide_eq_true hp) rfl
theorem LC2_ok {own ix : Nat} {v : Int64} (h : LC2f own ix = some v) : Jvm.Cond.constantLong (RNf own) ix v ∈ lw_good := by
  obtain ⟨m, hm⟩ := kll_all own
  obtain ⟨p, hp⟩ := zAll_mem hm (lkV_mem h)
  exact good_at (of_decide_eq_true hp) rfl
def okK (own : String) (q : Fe) (p : Nat × Nat × Nat) : Bool := Nat.ble 1 q.2.2.1 && decide ((yM q.2.2.1).cls ≠ "SecretBoxLaw") && decide ((parseMethodDescriptor (yM q.2.2.1).desc).map (fun d => d.parameters.length) = some q.2.2.2) && (match q.2.1 with
  | 0 => decide (lw_tbl[p.1]? = some (.methodLink own q.1 (yM q.2.2.1))) && decide (lw_tbl[p.2.1]? = some (.instanceMethod (yM q.2.2.1))) && decide (lw_tbl[p.2.2]? = some (.selects (yM q.2.2.1).cls (yM q.2.2.1) (yM q.2.2.1)))
  | 1 => decide (lw_tbl[p.1]? = some (.methodLink own q.1 (yM q.2.2.1))) && decide (lw_tbl[p.2.1]? = some (.static (yM q.2.2.1)))
  | 2 => decide (lw_tbl[p.1]? = some (.methodLinkNest own q.1 (yM q.2.2.1) "SecretBox")) && decide (lw_tbl[p.2.1]? = some (.static (yM q.2.2.1)))
  | _ => false)
theorem kk_0 : zAll (okK RX0) c_0 [(349, 350, 351), (353, 327, 328), (354, 343, 58), (355, 357, 0), (359, 360, 361), (363, 364, 365), (399, 315, 316), (551, 346, 347), (564, 566, 10), (590, 557, 558), (594, 561, 562), (764, 765, 766)] = true := by decide +kernel
theorem kk_1 : zAll (okK RX1) c_1 [(672, 674, 14), (676, 678, 15), (680, 635, 636), (681, 540, 541), (682, 684, 16), (706, 708, 18), (714, 716, 19), (718, 649, 61)] = true := by decide +kernel
theorem kk_2 : zAll (okK RX2) c_2 [(756, 757, 758)] = true := by decide +kernel
theorem kk_3 : zAll (okK RX3) c_3 [(395, 396, 397), (400, 402, 1), (404, 406, 2), (408, 410, 3), (413, 415, 4), (503, 505, 5), (507, 319, 320), (508, 510, 6), (512, 514, 7), (516, 518, 8), (521, 327, 328), (522, 524, 9), (526, 331, 332)] = true := by decide +kernel
theorem kk_4 : zAll (okK RX4) c_4 [(615, 617, 11), (619, 620, 621), (623, 625, 12), (627, 350, 351), (628, 561, 562), (629, 360, 361), (630, 632, 13), (634, 635, 636), (643, 540, 541), (648, 649, 61), (659, 640, 641)] = true := by decide +kernel
theorem kk_5 : zAll (okK RX5) c_5 [(314, 315, 316), (318, 319, 320), (326, 327, 328), (330, 331, 332), (342, 343, 58), (345, 346, 347), (367, 368, 58), (374, 375, 376), (378, 364, 365), (383, 384, 385), (391, 392, 393), (527, 528, 529), (539, 540, 541), (543, 544, 545), (547, 548, 549), (556, 557, 558), (560, 561, 562), (572, 573, 72), (586, 587, 588), (599, 600, 601), (611, 612, 613), (639, 640, 641), (644, 645, 646), (655, 656, 657), (664, 665, 666), (668, 669, 670), (690, 692, 17), (702, 703, 704), (710, 711, 712), (724, 725, 58), (727, 728, 58), (731, 732, 58), (746, 747, 58), (749, 750, 58), (752, 753, 754), (760, 761, 762), (772, 774, 20), (776, 765, 766), (778, 780, 21), (782, 783, 58), (785, 787, 22), (793, 794, 795), (801, 802, 803), (809, 810, 811), (821, 757, 758)] = true := by decide +kernel
theorem kk_6 : zAll (okK RX6) c_6 [(919, 920, 64), (923, 925, 23), (931, 933, 24), (937, 939, 25), (949, 951, 26), (953, 955, 27), (957, 958, 64), (960, 962, 28), (964, 966, 29), (968, 970, 30), (972, 974, 31), (976, 977, 64), (983, 985, 32), (992, 994, 33), (996, 998, 34), (1000, 1002, 35), (1014, 1016, 36), (1018, 1020, 37), (1022, 1024, 38), (1026, 1028, 39), (1030, 1032, 40), (1034, 1036, 41), (1042, 1044, 42), (1046, 1048, 43), (1054, 1055, 64), (1082, 1084, 44), (1086, 1088, 45), (1091, 1093, 46), (1095, 1097, 47), (1107, 1109, 48), (1111, 1113, 49), (1128, 1130, 50), (1132, 1134, 51), (1136, 1138, 52), (1145, 1147, 53), (1162, 1163, 64), (1165, 1166, 64), (1168, 1170, 54), (1178, 1180, 55), (1182, 1184, 56)] = true := by decide +kernel
theorem kk_7 : zAll (okK RL) c_7 [(310, 311, 312), (322, 323, 324), (334, 335, 336), (338, 339, 340), (370, 371, 372), (379, 380, 381), (387, 388, 389), (535, 536, 537), (552, 553, 554), (568, 569, 570), (578, 579, 580), (582, 583, 584), (595, 596, 597), (603, 604, 605), (607, 608, 609), (651, 652, 653), (660, 661, 662), (686, 687, 688), (694, 695, 696), (698, 699, 700), (719, 720, 721), (734, 735, 736), (738, 739, 740), (742, 743, 744), (768, 769, 770), (789, 790, 791), (797, 798, 799), (805, 806, 807), (813, 814, 815), (817, 818, 819), (914, 915, 916), (927, 928, 929), (941, 942, 943), (945, 946, 947), (979, 980, 981), (988, 989, 990), (1004, 1005, 1006), (1010, 1011, 1012), (1038, 1039, 1040), (1050, 1051, 1052), (1057, 1058, 1059), (1061, 1062, 1063), (1070, 1071, 1072), (1074, 1075, 1076), (1078, 1079, 1080), (1099, 1100, 1101), (1103, 1104, 1105), (1115, 1116, 1117), (1119, 1120, 1121), (1124, 1125, 1126), (1140, 1141, 1142), (1150, 1151, 1152), (1154, 1155, 1156), (1158, 1159, 1160), (1172, 1173, 1174), (1186, 1187, 1188), (1190, 1191, 1192), (1194, 1195, 1196), (1198, 1199, 1200), (1202, 1203, 1204)] = true := by decide +kernel
theorem kk_8 : zAll (okK RJ6) c_8 [] = true := by decide +kernel
theorem kk_all (own : Nat) : ∃ m, zAll (okK (RNf own)) (bif Nat.ble own 3 then (bif Nat.ble own 1 then (bif Nat.ble own 0 then (c_0) else (c_1)) else (bif Nat.ble own 2 then (c_2) else (c_3))) else (bif Nat.ble own 5 then (bif Nat.ble own 4 then (c_4) else (c_5)) else (bif Nat.ble own 6 then (c_6) else (bif Nat.ble own 7 then (c_7) else (c_8))))) m = true := (bif_p2 (P := fun (a : String) (b : List Fe) => ∃ m, zAll (okK a) b m = true) (bif_p2 (P := fun (a : String) (b : List Fe) => ∃ m, zAll (okK a) b m = true) (bif_p2 (P := fun (a : String) (b : List Fe) => ∃ m, zAll (okK a) b m = true) ⟨_, kk_0⟩ ⟨_, kk_1⟩) (bif_p2 (P := fun (a : String) (b : List Fe) => ∃ m, zAll (okK a) b m = true) ⟨_, kk_2⟩ ⟨_, kk_3⟩)) (bif_p2 (P := fun (a : String) (b : List Fe) => ∃ m, zAll (okK a) b m = true) (bif_p2 (P := fun (a : String) (b : List Fe) => ∃ m, zAll (okK a) b m = true) ⟨_, kk_4⟩ ⟨_, kk_5⟩) (bif_p2 (P := fun (a : String) (b : List Fe) => ∃ m, zAll (okK a) b m = true) ⟨_, kk_6⟩ (bif_p2 (P := fun (a : String) (b : List Fe) => ∃ m, zAll (okK a) b m = true) ⟨_, kk_7⟩ ⟨_, kk_8⟩))))
theorem KT_ok {own ix kd M n : Nat} (h : KTf own ix = some (kd, M, n)) : ∃ p, okK (RNf own) (ix, kd, M, n) p = true := by
  obtain ⟨m, hm⟩ := kk_all own
  exact zAll_mem hm (lkF_mem h)
theorem wi_0 : (wsX00.all fun w => decide (w ∈ lw_tbl) && goodWord w) = true := by decide +kernel
theorem wi_1 : (wsX10.all fun w => decide (w ∈ lw_tbl) && goodWord w) = true := by decide +kernel
theorem wi_2 : (wsX20.all fun w => decide (w ∈ lw_tbl) && goodWord w) = true := by decide +kernel
theorem wi_3 : (wsX30.all fun w => decide (w ∈ lw_tbl) && goodWord w) = true := by decide +kernel
theorem wi_4 : (wsX40.all fun w => decide (w ∈ lw_tbl) && goodWord w) = true := by decide +kernel
theorem wi_5 : (wsX50.all fun w => decide (w ∈ lw_tbl) && goodWord w) = true := by decide +kernel
theorem wi_6 : (wsX60.all fun w => decide (w ∈ lw_tbl) && goodWord w) = true := by decide +kernel
/-- what the kit asks of the fields of what stands in the world -/
def okC (C : String) (T : u_T) (N : Nat) : Prop := (∀ w ∈ u_ws C T N, w ∈ lw_good) ∧ (∃ ty0 : Nat → FieldType, ∀ k, k < N → parseFieldDescriptor (T k).2.2.1 = some (ty0 k)) ∧ ∀ a, a < N → ∀ b, b < N → a ≠ b → (T a).2.1 ≠ (T b).2.1
theorem okC_of {C : String} {T : u_T} {N : Nat} (h : ((u_ws C T N).all fun w => decide (w ∈ lw_tbl) && goodWord w) = true) {ty0 : Nat → FieldType} (h2 : ∀ k, k < N → parseFieldDescriptor (T k).2.2.1 = some (ty0 k)) (h3 : ∀ a, a < N → ∀ b, b < N → a ≠ b → (T a).2.1 ≠ (T b).2.1) : okC C T N := by
  refine ⟨fun w hw => ?_, ⟨ty0, h2⟩, h3⟩
  have h4 := List.all_eq_true.mp h w hw
  simp only [Bool.and_eq_true, decide_eq_true_eq] at h4
  exact List.mem_filter.mpr h4
theorem okC_all {ci : Nat} {C : String} {T : u_T} {N : Nat} (h : vwCl[ci]? = some (C, T, N)) : okC C T N := by
  match ci, h with
  | 0, h => cases h; exact okC_of wi_0 tyX0_ok nmX0
  | 1, h => cases h; exact okC_of wi_1 tyX1_ok nmX1
  | 2, h => cases h; exact okC_of wi_2 tyX2_ok nmX2
  | 3, h => cases h; exact okC_of wi_3 tyX3_ok nmX3
  | 4, h => cases h; exact okC_of wi_4 tyX4_ok nmX4
  | 5, h => cases h; exact okC_of wi_5 tyX5_ok nmX5
  | 6, h => cases h; exact okC_of wi_6 tyX6_ok nmX6
  | n + 7, h => simp [vwCl] at h
