section
-- ===== PART A: goes FIRST, ahead of the names: the tables' words, and 'selects' of the private methods out of them =====
/-- a private method of a class that the tables say can be made, by its rows of tables_1 -/
def lw_okq (q : MethodName × Nat) : Prop := (q.1.cls ≠ "java/lang/invoke/MethodHandle" ∧ q.1.cls ≠ "java/lang/invoke/VarHandle") ∧ Cond.instantiable q.1.cls q.2 ∈ tables_1 ∧ Cond.privateMethod q.1 ∈ tables_1 ∧ Cond.instanceMethod q.1 ∈ tables_1
theorem lw_p0 : lw_okq (⟨"SecretBox$Box", "ringLets", "(II)Z"⟩, 18) := ⟨⟨by decide +kernel, by decide +kernel⟩, List.mem_of_getElem? (i := 24) (by decide +kernel), List.mem_of_getElem? (i := 285) (by decide +kernel), List.mem_of_getElem? (i := 286) (by decide +kernel)⟩
theorem lw_p1 : lw_okq (⟨"SecretBox$Box", "slipsBack", "(II)Z"⟩, 18) := ⟨⟨by decide +kernel, by decide +kernel⟩, List.mem_of_getElem? (i := 24) (by decide +kernel), List.mem_of_getElem? (i := 316) (by decide +kernel), List.mem_of_getElem? (i := 317) (by decide +kernel)⟩
theorem lw_p2 : lw_okq (⟨"SecretBox$Tape", "readPanels", "(LSecretBox$Box;)Z"⟩, 3) := ⟨⟨by decide +kernel, by decide +kernel⟩, List.mem_of_getElem? (i := 104) (by decide +kernel), List.mem_of_getElem? (i := 385) (by decide +kernel), List.mem_of_getElem? (i := 386) (by decide +kernel)⟩
theorem lw_p3 : lw_okq (⟨"SecretBox$Tape", "accept", "(C)Z"⟩, 3) := ⟨⟨by decide +kernel, by decide +kernel⟩, List.mem_of_getElem? (i := 104) (by decide +kernel), List.mem_of_getElem? (i := 389) (by decide +kernel), List.mem_of_getElem? (i := 390) (by decide +kernel)⟩
theorem lw_p4 : lw_okq (⟨"SecretBox$Tape", "peek", "()C"⟩, 3) := ⟨⟨by decide +kernel, by decide +kernel⟩, List.mem_of_getElem? (i := 104) (by decide +kernel), List.mem_of_getElem? (i := 393) (by decide +kernel), List.mem_of_getElem? (i := 394) (by decide +kernel)⟩
theorem lw_p5 : lw_okq (⟨"SecretBox$Tape", "oneOf", "(Ljava/lang/String;)I"⟩, 3) := ⟨⟨by decide +kernel, by decide +kernel⟩, List.mem_of_getElem? (i := 104) (by decide +kernel), List.mem_of_getElem? (i := 398) (by decide +kernel), List.mem_of_getElem? (i := 399) (by decide +kernel)⟩
theorem lw_p6 : lw_okq (⟨"SecretBox$Tape", "digit", "(II)I"⟩, 3) := ⟨⟨by decide +kernel, by decide +kernel⟩, List.mem_of_getElem? (i := 104) (by decide +kernel), List.mem_of_getElem? (i := 488) (by decide +kernel), List.mem_of_getElem? (i := 489) (by decide +kernel)⟩
theorem lw_p7 : lw_okq (⟨"SecretBox$Tape", "isEnd", "()Z"⟩, 3) := ⟨⟨by decide +kernel, by decide +kernel⟩, List.mem_of_getElem? (i := 104) (by decide +kernel), List.mem_of_getElem? (i := 496) (by decide +kernel), List.mem_of_getElem? (i := 497) (by decide +kernel)⟩
theorem lw_p8 : lw_okq (⟨"SecretBox$Tape", "readLocks", "(LSecretBox$Box;)Z"⟩, 3) := ⟨⟨by decide +kernel, by decide +kernel⟩, List.mem_of_getElem? (i := 104) (by decide +kernel), List.mem_of_getElem? (i := 500) (by decide +kernel), List.mem_of_getElem? (i := 501) (by decide +kernel)⟩
theorem lw_p9 : lw_okq (⟨"SecretBox$Tape", "readLock", "(LSecretBox$Box;)Z"⟩, 3) := ⟨⟨by decide +kernel, by decide +kernel⟩, List.mem_of_getElem? (i := 104) (by decide +kernel), List.mem_of_getElem? (i := 504) (by decide +kernel), List.mem_of_getElem? (i := 505) (by decide +kernel)⟩
theorem lw_p10 : lw_okq (⟨"SecretBox$Tape", "readPlaces", "(I)I"⟩, 3) := ⟨⟨by decide +kernel, by decide +kernel⟩, List.mem_of_getElem? (i := 104) (by decide +kernel), List.mem_of_getElem? (i := 510) (by decide +kernel), List.mem_of_getElem? (i := 511) (by decide +kernel)⟩
theorem lw_p11 : lw_okq (⟨"SecretBox$Walk", "chart", "()V"⟩, 12) := ⟨⟨by decide +kernel, by decide +kernel⟩, List.mem_of_getElem? (i := 121) (by decide +kernel), List.mem_of_getElem? (i := 592) (by decide +kernel), List.mem_of_getElem? (i := 593) (by decide +kernel)⟩
theorem lw_p12 : lw_okq (⟨"SecretBox$Walk", "chartMove", "(II)V"⟩, 12) := ⟨⟨by decide +kernel, by decide +kernel⟩, List.mem_of_getElem? (i := 121) (by decide +kernel), List.mem_of_getElem? (i := 600) (by decide +kernel), List.mem_of_getElem? (i := 601) (by decide +kernel)⟩
theorem lw_p13 : lw_okq (⟨"SecretBox$Walk", "visit", "(I)V"⟩, 12) := ⟨⟨by decide +kernel, by decide +kernel⟩, List.mem_of_getElem? (i := 121) (by decide +kernel), List.mem_of_getElem? (i := 607) (by decide +kernel), List.mem_of_getElem? (i := 608) (by decide +kernel)⟩
theorem lw_p14 : lw_okq (⟨"SecretBox$Endgame", "begin", "()V"⟩, 9) := ⟨⟨by decide +kernel, by decide +kernel⟩, List.mem_of_getElem? (i := 168) (by decide +kernel), List.mem_of_getElem? (i := 649) (by decide +kernel), List.mem_of_getElem? (i := 650) (by decide +kernel)⟩
theorem lw_p15 : lw_okq (⟨"SecretBox$Endgame", "chain", "(I)V"⟩, 9) := ⟨⟨by decide +kernel, by decide +kernel⟩, List.mem_of_getElem? (i := 168) (by decide +kernel), List.mem_of_getElem? (i := 653) (by decide +kernel), List.mem_of_getElem? (i := 654) (by decide +kernel)⟩
def lw_privs_1 : List (MethodName × Nat) := [(⟨"SecretBox$Box", "ringLets", "(II)Z"⟩, 18), (⟨"SecretBox$Box", "slipsBack", "(II)Z"⟩, 18), (⟨"SecretBox$Tape", "readPanels", "(LSecretBox$Box;)Z"⟩, 3), (⟨"SecretBox$Tape", "accept", "(C)Z"⟩, 3), (⟨"SecretBox$Tape", "peek", "()C"⟩, 3), (⟨"SecretBox$Tape", "oneOf", "(Ljava/lang/String;)I"⟩, 3), (⟨"SecretBox$Tape", "digit", "(II)I"⟩, 3), (⟨"SecretBox$Tape", "isEnd", "()Z"⟩, 3), (⟨"SecretBox$Tape", "readLocks", "(LSecretBox$Box;)Z"⟩, 3), (⟨"SecretBox$Tape", "readLock", "(LSecretBox$Box;)Z"⟩, 3), (⟨"SecretBox$Tape", "readPlaces", "(I)I"⟩, 3), (⟨"SecretBox$Walk", "chart", "()V"⟩, 12), (⟨"SecretBox$Walk", "chartMove", "(II)V"⟩, 12), (⟨"SecretBox$Walk", "visit", "(I)V"⟩, 12), (⟨"SecretBox$Endgame", "begin", "()V"⟩, 9), (⟨"SecretBox$Endgame", "chain", "(I)V"⟩, 9)]
theorem lw_r1 : ∀ q ∈ lw_privs_1, lw_okq q := List.forall_mem_cons.mpr ⟨lw_p0, List.forall_mem_cons.mpr ⟨lw_p1, List.forall_mem_cons.mpr ⟨lw_p2, List.forall_mem_cons.mpr ⟨lw_p3, List.forall_mem_cons.mpr ⟨lw_p4, List.forall_mem_cons.mpr ⟨lw_p5, List.forall_mem_cons.mpr ⟨lw_p6, List.forall_mem_cons.mpr ⟨lw_p7, List.forall_mem_cons.mpr ⟨lw_p8, List.forall_mem_cons.mpr ⟨lw_p9, List.forall_mem_cons.mpr ⟨lw_p10, List.forall_mem_cons.mpr ⟨lw_p11, List.forall_mem_cons.mpr ⟨lw_p12, List.forall_mem_cons.mpr ⟨lw_p13, List.forall_mem_cons.mpr ⟨lw_p14, List.forall_mem_cons.mpr ⟨lw_p15, fun _ h => absurd h List.not_mem_nil⟩⟩⟩⟩⟩⟩⟩⟩⟩⟩⟩⟩⟩⟩⟩⟩
theorem lw_p16 : lw_okq (⟨"SecretBox$Endgame", "settle", "(III)V"⟩, 9) := ⟨⟨by decide +kernel, by decide +kernel⟩, List.mem_of_getElem? (i := 168) (by decide +kernel), List.mem_of_getElem? (i := 659) (by decide +kernel), List.mem_of_getElem? (i := 660) (by decide +kernel)⟩
theorem lw_p17 : lw_okq (⟨"SecretBox", "opensWith", "(I)I"⟩, 8) := ⟨⟨by decide +kernel, by decide +kernel⟩, List.mem_of_getElem? (i := 16) (by decide +kernel), List.mem_of_getElem? (i := 727) (by decide +kernel), List.mem_of_getElem? (i := 728) (by decide +kernel)⟩
theorem lw_p18 : lw_okq (⟨"SecretBox$Endgame", "learn", "(II)V"⟩, 9) := ⟨⟨by decide +kernel, by decide +kernel⟩, List.mem_of_getElem? (i := 168) (by decide +kernel), List.mem_of_getElem? (i := 746) (by decide +kernel), List.mem_of_getElem? (i := 747) (by decide +kernel)⟩
theorem lw_p19 : lw_okq (⟨"SecretBox$Endgame", "leadsTo", "(II)Z"⟩, 9) := ⟨⟨by decide +kernel, by decide +kernel⟩, List.mem_of_getElem? (i := 168) (by decide +kernel), List.mem_of_getElem? (i := 754) (by decide +kernel), List.mem_of_getElem? (i := 755) (by decide +kernel)⟩
theorem lw_p20 : lw_okq (⟨"SecretBox", "areClicks", "(LSecretBox$Sheet;II)Z"⟩, 8) := ⟨⟨by decide +kernel, by decide +kernel⟩, List.mem_of_getElem? (i := 16) (by decide +kernel), List.mem_of_getElem? (i := 781) (by decide +kernel), List.mem_of_getElem? (i := 782) (by decide +kernel)⟩
theorem lw_p21 : lw_okq (⟨"SecretBox", "locksByClicks", "(LSecretBox$Sheet;II)I"⟩, 8) := ⟨⟨by decide +kernel, by decide +kernel⟩, List.mem_of_getElem? (i := 16) (by decide +kernel), List.mem_of_getElem? (i := 787) (by decide +kernel), List.mem_of_getElem? (i := 788) (by decide +kernel)⟩
theorem lw_p22 : lw_okq (⟨"SecretBox", "kindsByClicks", "(ILSecretBox$Sheet;II)I"⟩, 8) := ⟨⟨by decide +kernel, by decide +kernel⟩, List.mem_of_getElem? (i := 16) (by decide +kernel), List.mem_of_getElem? (i := 794) (by decide +kernel), List.mem_of_getElem? (i := 795) (by decide +kernel)⟩
def lw_privs_2 : List (MethodName × Nat) := [(⟨"SecretBox$Endgame", "settle", "(III)V"⟩, 9), (⟨"SecretBox", "opensWith", "(I)I"⟩, 8), (⟨"SecretBox$Endgame", "learn", "(II)V"⟩, 9), (⟨"SecretBox$Endgame", "leadsTo", "(II)Z"⟩, 9), (⟨"SecretBox", "areClicks", "(LSecretBox$Sheet;II)Z"⟩, 8), (⟨"SecretBox", "locksByClicks", "(LSecretBox$Sheet;II)I"⟩, 8), (⟨"SecretBox", "kindsByClicks", "(ILSecretBox$Sheet;II)I"⟩, 8)]
theorem lw_r2 : ∀ q ∈ lw_privs_2, lw_okq q := List.forall_mem_cons.mpr ⟨lw_p16, List.forall_mem_cons.mpr ⟨lw_p17, List.forall_mem_cons.mpr ⟨lw_p18, List.forall_mem_cons.mpr ⟨lw_p19, List.forall_mem_cons.mpr ⟨lw_p20, List.forall_mem_cons.mpr ⟨lw_p21, List.forall_mem_cons.mpr ⟨lw_p22, fun _ h => absurd h List.not_mem_nil⟩⟩⟩⟩⟩⟩⟩
def lw_privs : List (MethodName × Nat) := lw_privs_1 ++ (lw_privs_2)
def lw_tbl : List Cond := k2_sels lw_privs ++ tables_1
theorem lw_privs_ok : ∀ q ∈ lw_privs, lw_okq q := by
  show ∀ q ∈ lw_privs_1 ++ (lw_privs_2), lw_okq q
  exact List.forall_mem_append.mpr ⟨lw_r1, lw_r2⟩
end
section
def RX0 : String := "SecretBox$Box"
def TX0 : u_T := fun k => match k with
  | 0 => ("SecretBox$Box", "kind", "[I", true)
  | 1 => ("SecretBox$Box", "deep", "[I", true)
  | 2 => ("SecretBox$Box", "panels", "I", false)
  | 3 => ("SecretBox$Box", "owner", "[I", true)
  | 4 => ("SecretBox$Box", "way", "[I", true)
  | 5 => ("SecretBox$Box", "other", "[I", true)
  | 6 => ("SecretBox$Box", "places", "[I", true)
  | 7 => ("SecretBox$Box", "locks", "I", false)
  | 8 => ("SecretBox$Box", "lid", "I", false)
  | 9 => ("SecretBox$Box", "state", "I", false)
  | 10 => ("SecretBox$Box", "filed", "I", false)
  | 11 => ("SecretBox$Box", "draw", "I", false)
  | 12 => ("SecretBox$Box", "pastState", "[I", true)
  | 13 => ("SecretBox$Box", "pastFiled", "[I", true)
  | 14 => ("SecretBox$Box", "pastDraw", "[I", true)
  | 15 => ("SecretBox$Box", "known", "I", false)
  | 16 => ("SecretBox$Box", "nextPast", "I", false)
  | _ => ("SecretBox$Box", "isRecast", "Z", false)
def tyX0 : Nat → FieldType := fun k => match k with
  | 0 => .array .int
  | 1 => .array .int
  | 2 => .int
  | 3 => .array .int
  | 4 => .array .int
  | 5 => .array .int
  | 6 => .array .int
  | 7 => .int
  | 8 => .int
  | 9 => .int
  | 10 => .int
  | 11 => .int
  | 12 => .array .int
  | 13 => .array .int
  | 14 => .array .int
  | 15 => .int
  | 16 => .int
  | _ => .boolean
abbrev wsX00 : List Cond := u_ws RX0 TX0 18
theorem nmX0 : ∀ a, a < 18 → ∀ b, b < 18 → a ≠ b → (TX0 a).2.1 ≠ (TX0 b).2.1 := by decide +kernel
theorem tyX0_ok : ∀ k, k < 18 → parseFieldDescriptor (TX0 k).2.2.1 = some (tyX0 k) := by decide +kernel
abbrev cX0_init : ByteArray := prog_2_method_1_code
def yX0_init : MethodName := ⟨RX0, "<init>", "()V"⟩
abbrev cX0_clear : ByteArray := prog_2_method_2_code
def yX0_clear : MethodName := ⟨RX0, "clear", "()V"⟩
abbrev cX0_becomes : ByteArray := prog_2_method_3_code
def yX0_becomes : MethodName := ⟨RX0, "becomes", "(LSecretBox$Box;)V"⟩
abbrev cX0_hasPanel : ByteArray := prog_2_method_4_code
def yX0_hasPanel : MethodName := ⟨RX0, "hasPanel", "(I)Z"⟩
abbrev cX0_hasLock : ByteArray := prog_2_method_5_code
def yX0_hasLock : MethodName := ⟨RX0, "hasLock", "(I)Z"⟩
abbrev cX0_addPanel : ByteArray := prog_2_method_6_code
def yX0_addPanel : MethodName := ⟨RX0, "addPanel", "(II)I"⟩
abbrev cX0_addLock : ByteArray := prog_2_method_7_code
def yX0_addLock : MethodName := ⟨RX0, "addLock", "(IIII)I"⟩
abbrev cX0_isMet : ByteArray := prog_2_method_8_code
def yX0_isMet : MethodName := ⟨RX0, "isMet", "(II)Z"⟩
abbrev cX0_isOpen : ByteArray := prog_2_method_9_code
def yX0_isOpen : MethodName := ⟨RX0, "isOpen", "(I)Z"⟩
abbrev cX0_outSet : ByteArray := prog_2_method_10_code
def yX0_outSet : MethodName := ⟨RX0, "outSet", "()I"⟩
abbrev cX0_slidesThatMay : ByteArray := prog_2_method_11_code
def yX0_slidesThatMay : MethodName := ⟨RX0, "slidesThatMay", "()I"⟩
abbrev cX0_maySlide : ByteArray := prog_2_method_12_code
def yX0_maySlide : MethodName := ⟨RX0, "maySlide", "(IIII)Z"⟩
abbrev cX0_fits : ByteArray := prog_2_method_13_code
def yX0_fits : MethodName := ⟨RX0, "fits", "(III)Z"⟩
abbrev cX0_ringLets : ByteArray := prog_2_method_14_code
def yX0_ringLets : MethodName := ⟨RX0, "ringLets", "(II)Z"⟩
abbrev cX0_holding : ByteArray := prog_2_method_15_code
def yX0_holding : MethodName := ⟨RX0, "holding", "(III)I"⟩
abbrev cX0_behind : ByteArray := prog_2_method_16_code
def yX0_behind : MethodName := ⟨RX0, "behind", "(III)I"⟩
abbrev cX0_slipsBack : ByteArray := prog_2_method_17_code
def yX0_slipsBack : MethodName := ⟨RX0, "slipsBack", "(II)Z"⟩
abbrev cX0_driftOnce : ByteArray := prog_2_method_18_code
def yX0_driftOnce : MethodName := ⟨RX0, "driftOnce", "()V"⟩
abbrev cX0_forget : ByteArray := prog_2_method_19_code
def yX0_forget : MethodName := ⟨RX0, "forget", "()V"⟩
abbrev cX0_remember : ByteArray := prog_2_method_20_code
def yX0_remember : MethodName := ⟨RX0, "remember", "()V"⟩
abbrev cX0_recall : ByteArray := prog_2_method_21_code
def yX0_recall : MethodName := ⟨RX0, "recall", "()I"⟩
abbrev cX0_stateOf : ByteArray := prog_2_method_22_code
def yX0_stateOf : MethodName := ⟨RX0, "stateOf", "(LSecretBox$Sheet;I)I"⟩
abbrev cX0_isState : ByteArray := prog_2_method_23_code
def yX0_isState : MethodName := ⟨RX0, "isState", "(I)Z"⟩
def RX1 : String := "SecretBox$Endgame"
def TX1 : u_T := fun k => match k with
  | 0 => ("SecretBox$Endgame", "box", "LSecretBox$Box;", true)
  | 1 => ("SecretBox$Endgame", "walk", "LSecretBox$Walk;", true)
  | 2 => ("SecretBox$Endgame", "lastInto", "[I", true)
  | 3 => ("SecretBox$Endgame", "earlierInto", "[I", true)
  | 4 => ("SecretBox$Endgame", "hopes", "[I", true)
  | 5 => ("SecretBox$Endgame", "queue", "[I", true)
  | 6 => ("SecretBox$Endgame", "queued", "I", false)
  | 7 => ("SecretBox$Endgame", "outcome", "[I", true)
  | _ => ("SecretBox$Endgame", "slides", "[I", true)
def tyX1 : Nat → FieldType := fun k => match k with
  | 0 => .object "SecretBox$Box"
  | 1 => .object "SecretBox$Walk"
  | 2 => .array .int
  | 3 => .array .int
  | 4 => .array .int
  | 5 => .array .int
  | 6 => .int
  | 7 => .array .int
  | _ => .array .int
abbrev wsX10 : List Cond := u_ws RX1 TX1 9
theorem nmX1 : ∀ a, a < 9 → ∀ b, b < 9 → a ≠ b → (TX1 a).2.1 ≠ (TX1 b).2.1 := by decide +kernel
theorem tyX1_ok : ∀ k, k < 9 → parseFieldDescriptor (TX1 k).2.2.1 = some (tyX1 k) := by decide +kernel
abbrev cX1_init : ByteArray := prog_3_method_1_code
def yX1_init : MethodName := ⟨RX1, "<init>", "(LSecretBox$Box;LSecretBox$Walk;)V"⟩
abbrev cX1_begin : ByteArray := prog_3_method_2_code
def yX1_begin : MethodName := ⟨RX1, "begin", "()V"⟩
abbrev cX1_chain : ByteArray := prog_3_method_3_code
def yX1_chain : MethodName := ⟨RX1, "chain", "(I)V"⟩
abbrev cX1_settle : ByteArray := prog_3_method_4_code
def yX1_settle : MethodName := ⟨RX1, "settle", "(III)V"⟩
abbrev cX1_dead : ByteArray := prog_3_method_5_code
def yX1_dead : MethodName := ⟨RX1, "dead", "()I"⟩
abbrev cX1_solve : ByteArray := prog_3_method_6_code
def yX1_solve : MethodName := ⟨RX1, "solve", "()V"⟩
abbrev cX1_learn : ByteArray := prog_3_method_7_code
def yX1_learn : MethodName := ⟨RX1, "learn", "(II)V"⟩
abbrev cX1_firstSlide : ByteArray := prog_3_method_8_code
def yX1_firstSlide : MethodName := ⟨RX1, "firstSlide", "(I)I"⟩
abbrev cX1_leadsTo : ByteArray := prog_3_method_9_code
def yX1_leadsTo : MethodName := ⟨RX1, "leadsTo", "(II)Z"⟩
def RX2 : String := "SecretBox$Sheet"
def TX2 : u_T := fun k => match k with
  | 0 => ("SecretBox$Sheet", "isHeld", "Z", false)
  | 1 => ("SecretBox$Sheet", "lane", "I", false)
  | 2 => ("SecretBox$Sheet", "size", "I", false)
  | _ => ("SecretBox$Sheet", "items", "[J", true)
def tyX2 : Nat → FieldType := fun k => match k with
  | 0 => .boolean
  | 1 => .int
  | 2 => .int
  | _ => .array .long
abbrev wsX20 : List Cond := u_ws RX2 TX2 4
theorem nmX2 : ∀ a, a < 4 → ∀ b, b < 4 → a ≠ b → (TX2 a).2.1 ≠ (TX2 b).2.1 := by decide +kernel
theorem tyX2_ok : ∀ k, k < 4 → parseFieldDescriptor (TX2 k).2.2.1 = some (tyX2 k) := by decide +kernel
abbrev cX2_init : ByteArray := prog_4_method_1_code
def yX2_init : MethodName := ⟨RX2, "<init>", "()V"⟩
abbrev cX2_begin : ByteArray := prog_4_method_2_code
def yX2_begin : MethodName := ⟨RX2, "begin", "(II)V"⟩
abbrev cX2_end : ByteArray := prog_4_method_3_code
def yX2_end : MethodName := ⟨RX2, "end", "()I"⟩
abbrev cX2_holds : ByteArray := prog_4_method_4_code
def yX2_holds : MethodName := ⟨RX2, "holds", "(II)Z"⟩
abbrev cX2_fault : ByteArray := prog_4_method_5_code
def yX2_fault : MethodName := ⟨RX2, "fault", "(III)I"⟩
abbrev cX2_look : ByteArray := prog_4_method_6_code
def yX2_look : MethodName := ⟨RX2, "look", "(I)J"⟩
abbrev cX2_put : ByteArray := prog_4_method_7_code
def yX2_put : MethodName := ⟨RX2, "put", "(IJ)V"⟩
def RX3 : String := "SecretBox$Tape"
def TX3 : u_T := fun k => match k with
  | 0 => ("SecretBox$Tape", "letters", "[C", true)
  | 1 => ("SecretBox$Tape", "size", "I", false)
  | _ => ("SecretBox$Tape", "spot", "I", false)
def tyX3 : Nat → FieldType := fun k => match k with
  | 0 => .array .char
  | 1 => .int
  | _ => .int
abbrev wsX30 : List Cond := u_ws RX3 TX3 3
theorem nmX3 : ∀ a, a < 3 → ∀ b, b < 3 → a ≠ b → (TX3 a).2.1 ≠ (TX3 b).2.1 := by decide +kernel
theorem tyX3_ok : ∀ k, k < 3 → parseFieldDescriptor (TX3 k).2.2.1 = some (tyX3 k) := by decide +kernel
abbrev cX3_init : ByteArray := prog_5_method_1_code
def yX3_init : MethodName := ⟨RX3, "<init>", "()V"⟩
abbrev cX3_write : ByteArray := prog_5_method_2_code
def yX3_write : MethodName := ⟨RX3, "write", "(C)I"⟩
abbrev cX3_read : ByteArray := prog_5_method_3_code
def yX3_read : MethodName := ⟨RX3, "read", "(LSecretBox$Box;)I"⟩
abbrev cX3_readPanels : ByteArray := prog_5_method_4_code
def yX3_readPanels : MethodName := ⟨RX3, "readPanels", "(LSecretBox$Box;)Z"⟩
abbrev cX3_readLocks : ByteArray := prog_5_method_5_code
def yX3_readLocks : MethodName := ⟨RX3, "readLocks", "(LSecretBox$Box;)Z"⟩
abbrev cX3_readLock : ByteArray := prog_5_method_6_code
def yX3_readLock : MethodName := ⟨RX3, "readLock", "(LSecretBox$Box;)Z"⟩
abbrev cX3_readPlaces : ByteArray := prog_5_method_7_code
def yX3_readPlaces : MethodName := ⟨RX3, "readPlaces", "(I)I"⟩
abbrev cX3_peek : ByteArray := prog_5_method_8_code
def yX3_peek : MethodName := ⟨RX3, "peek", "()C"⟩
abbrev cX3_isEnd : ByteArray := prog_5_method_9_code
def yX3_isEnd : MethodName := ⟨RX3, "isEnd", "()Z"⟩
abbrev cX3_accept : ByteArray := prog_5_method_10_code
def yX3_accept : MethodName := ⟨RX3, "accept", "(C)Z"⟩
abbrev cX3_oneOf : ByteArray := prog_5_method_11_code
def yX3_oneOf : MethodName := ⟨RX3, "oneOf", "(Ljava/lang/String;)I"⟩
abbrev cX3_digit : ByteArray := prog_5_method_12_code
def yX3_digit : MethodName := ⟨RX3, "digit", "(II)I"⟩
def RX4 : String := "SecretBox$Walk"
def TX4 : u_T := fun k => match k with
  | 0 => ("SecretBox$Walk", "box", "LSecretBox$Box;", true)
  | 1 => ("SecretBox$Walk", "then", "[I", true)
  | 2 => ("SecretBox$Walk", "held", "[I", true)
  | 3 => ("SecretBox$Walk", "order", "[I", true)
  | 4 => ("SecretBox$Walk", "far", "[I", true)
  | 5 => ("SecretBox$Walk", "cameFrom", "[I", true)
  | 6 => ("SecretBox$Walk", "cameBy", "[I", true)
  | 7 => ("SecretBox$Walk", "rowsTo", "[I", true)
  | 8 => ("SecretBox$Walk", "moves", "I", false)
  | 9 => ("SecretBox$Walk", "reached", "I", false)
  | 10 => ("SecretBox$Walk", "start", "I", false)
  | _ => ("SecretBox$Walk", "filed", "I", false)
def tyX4 : Nat → FieldType := fun k => match k with
  | 0 => .object "SecretBox$Box"
  | 1 => .array .int
  | 2 => .array .int
  | 3 => .array .int
  | 4 => .array .int
  | 5 => .array .int
  | 6 => .array .int
  | 7 => .array .int
  | 8 => .int
  | 9 => .int
  | 10 => .int
  | _ => .int
abbrev wsX40 : List Cond := u_ws RX4 TX4 12
theorem nmX4 : ∀ a, a < 12 → ∀ b, b < 12 → a ≠ b → (TX4 a).2.1 ≠ (TX4 b).2.1 := by decide +kernel
theorem tyX4_ok : ∀ k, k < 12 → parseFieldDescriptor (TX4 k).2.2.1 = some (tyX4 k) := by decide +kernel
abbrev cX4_init : ByteArray := prog_6_method_1_code
def yX4_init : MethodName := ⟨RX4, "<init>", "(LSecretBox$Box;)V"⟩
abbrev cX4_from : ByteArray := prog_6_method_2_code
def yX4_from : MethodName := ⟨RX4, "from", "(II)V"⟩
abbrev cX4_chart : ByteArray := prog_6_method_3_code
def yX4_chart : MethodName := ⟨RX4, "chart", "()V"⟩
abbrev cX4_chartMove : ByteArray := prog_6_method_4_code
def yX4_chartMove : MethodName := ⟨RX4, "chartMove", "(II)V"⟩
abbrev cX4_visit : ByteArray := prog_6_method_5_code
def yX4_visit : MethodName := ⟨RX4, "visit", "(I)V"⟩
abbrev cX4_next : ByteArray := prog_6_method_6_code
def yX4_next : MethodName := ⟨RX4, "next", "(II)I"⟩
abbrev cX4_slideOf : ByteArray := prog_6_method_7_code
def yX4_slideOf : MethodName := ⟨RX4, "slideOf", "(I)I"⟩
abbrev cX4_firstOpen : ByteArray := prog_6_method_8_code
def yX4_firstOpen : MethodName := ⟨RX4, "firstOpen", "()I"⟩
abbrev cX4_farthest : ByteArray := prog_6_method_9_code
def yX4_farthest : MethodName := ⟨RX4, "farthest", "()I"⟩
abbrev cX4_told : ByteArray := prog_6_method_10_code
def yX4_told : MethodName := ⟨RX4, "told", "(II)I"⟩
abbrev cX4_rowsToOpen : ByteArray := prog_6_method_11_code
def yX4_rowsToOpen : MethodName := ⟨RX4, "rowsToOpen", "()I"⟩
def RX5 : String := "SecretBox"
def TX5 : u_T := fun k => match k with
  | 0 => ("SecretBox", "now", "LSecretBox$Box;", true)
  | 1 => ("SecretBox", "kept", "LSecretBox$Box;", true)
  | 2 => ("SecretBox", "draft", "LSecretBox$Box;", true)
  | 3 => ("SecretBox", "isKept", "Z", false)
  | 4 => ("SecretBox", "tape", "LSecretBox$Tape;", true)
  | 5 => ("SecretBox", "walk", "LSecretBox$Walk;", true)
  | 6 => ("SecretBox", "endgame", "LSecretBox$Endgame;", true)
  | _ => ("SecretBox", "sheets", "[LSecretBox$Sheet;", true)
def tyX5 : Nat → FieldType := fun k => match k with
  | 0 => .object "SecretBox$Box"
  | 1 => .object "SecretBox$Box"
  | 2 => .object "SecretBox$Box"
  | 3 => .boolean
  | 4 => .object "SecretBox$Tape"
  | 5 => .object "SecretBox$Walk"
  | 6 => .object "SecretBox$Endgame"
  | _ => .array (.object "SecretBox$Sheet")
abbrev wsX50 : List Cond := u_ws RX5 TX5 8
theorem nmX5 : ∀ a, a < 8 → ∀ b, b < 8 → a ≠ b → (TX5 a).2.1 ≠ (TX5 b).2.1 := by decide +kernel
theorem tyX5_ok : ∀ k, k < 8 → parseFieldDescriptor (TX5 k).2.2.1 = some (tyX5 k) := by decide +kernel
abbrev cX5_init : ByteArray := prog_1_method_1_code
def yX5_init : MethodName := ⟨RX5, "<init>", "()V"⟩
abbrev cX5_of : ByteArray := prog_1_method_5_code
def yX5_of : MethodName := ⟨RX5, "of", "(II)I"⟩
abbrev cX5_at : ByteArray := prog_1_method_6_code
def yX5_at : MethodName := ⟨RX5, "at", "(II)I"⟩
abbrev cX5_type : ByteArray := prog_1_method_7_code
def yX5_type : MethodName := ⟨RX5, "type", "(I)I"⟩
abbrev cX5_box : ByteArray := prog_1_method_8_code
def yX5_box : MethodName := ⟨RX5, "box", "()I"⟩
abbrev cX5_count : ByteArray := prog_1_method_9_code
def yX5_count : MethodName := ⟨RX5, "count", "(I)I"⟩
abbrev cX5_slide : ByteArray := prog_1_method_10_code
def yX5_slide : MethodName := ⟨RX5, "slide", "(II)I"⟩
abbrev cX5_shut : ByteArray := prog_1_method_11_code
def yX5_shut : MethodName := ⟨RX5, "shut", "()I"⟩
abbrev cX5_file : ByteArray := prog_1_method_12_code
def yX5_file : MethodName := ⟨RX5, "file", "(I)I"⟩
abbrev cX5_drift : ByteArray := prog_1_method_13_code
def yX5_drift : MethodName := ⟨RX5, "drift", "(I)I"⟩
abbrev cX5_undo : ByteArray := prog_1_method_14_code
def yX5_undo : MethodName := ⟨RX5, "undo", "()I"⟩
abbrev cX5_seed : ByteArray := prog_1_method_15_code
def yX5_seed : MethodName := ⟨RX5, "seed", "(I)I"⟩
abbrev cX5_opens : ByteArray := prog_1_method_16_code
def yX5_opens : MethodName := ⟨RX5, "opens", "(I)I"⟩
abbrev cX5_rows : ByteArray := prog_1_method_17_code
def yX5_rows : MethodName := ⟨RX5, "rows", "()I"⟩
abbrev cX5_reach : ByteArray := prog_1_method_18_code
def yX5_reach : MethodName := ⟨RX5, "reach", "(I)I"⟩
abbrev cX5_key : ByteArray := prog_1_method_19_code
def yX5_key : MethodName := ⟨RX5, "key", "(I)I"⟩
abbrev cX5_files : ByteArray := prog_1_method_20_code
def yX5_files : MethodName := ⟨RX5, "files", "(II)I"⟩
abbrev cX5_game : ByteArray := prog_1_method_21_code
def yX5_game : MethodName := ⟨RX5, "game", "(I)I"⟩
abbrev cX5_fumble : ByteArray := prog_1_method_22_code
def yX5_fumble : MethodName := ⟨RX5, "fumble", "(II)J"⟩
abbrev cX5_image : ByteArray := prog_1_method_23_code
def yX5_image : MethodName := ⟨RX5, "image", "()I"⟩
abbrev cX5_restore : ByteArray := prog_1_method_24_code
def yX5_restore : MethodName := ⟨RX5, "restore", "()I"⟩
abbrev cX5_to : ByteArray := prog_1_method_25_code
def yX5_to : MethodName := ⟨RX5, "to", "(IIII)I"⟩
abbrev cX5_clicks : ByteArray := prog_1_method_26_code
def yX5_clicks : MethodName := ⟨RX5, "clicks", "(IIIII)I"⟩
abbrev cX5_film : ByteArray := prog_1_method_27_code
def yX5_film : MethodName := ⟨RX5, "film", "(III)I"⟩
abbrev cX5_sheet : ByteArray := prog_1_method_28_code
def yX5_sheet : MethodName := ⟨RX5, "sheet", "(III)I"⟩
abbrev cX5_drop : ByteArray := prog_1_method_29_code
def yX5_drop : MethodName := ⟨RX5, "drop", "(I)I"⟩
abbrev cX5_item : ByteArray := prog_1_method_30_code
def yX5_item : MethodName := ⟨RX5, "item", "(IIIJ)I"⟩
abbrev cX5_bit : ByteArray := prog_1_method_32_code
def yX5_bit : MethodName := ⟨RX5, "bit", "(Z)I"⟩
abbrev cX5_placeIn : ByteArray := prog_1_method_33_code
def yX5_placeIn : MethodName := ⟨RX5, "placeIn", "(II)I"⟩
abbrev cX5_isSheet : ByteArray := prog_1_method_34_code
def yX5_isSheet : MethodName := ⟨RX5, "isSheet", "(I)Z"⟩
abbrev cX5_isLane : ByteArray := prog_1_method_35_code
def yX5_isLane : MethodName := ⟨RX5, "isLane", "(I)Z"⟩
abbrev cX5_opensWith : ByteArray := prog_1_method_36_code
def yX5_opensWith : MethodName := ⟨RX5, "opensWith", "(I)I"⟩
abbrev cX5_evenShares : ByteArray := prog_1_method_37_code
def yX5_evenShares : MethodName := ⟨RX5, "evenShares", "(I)J"⟩
abbrev cX5_openShares : ByteArray := prog_1_method_38_code
def yX5_openShares : MethodName := ⟨RX5, "openShares", "(LSecretBox$Box;II)J"⟩
abbrev cX5_greatestDivisor : ByteArray := prog_1_method_39_code
def yX5_greatestDivisor : MethodName := ⟨RX5, "greatestDivisor", "(JJ)J"⟩
abbrev cX5_areClicks : ByteArray := prog_1_method_40_code
def yX5_areClicks : MethodName := ⟨RX5, "areClicks", "(LSecretBox$Sheet;II)Z"⟩
abbrev cX5_clicksSo : ByteArray := prog_1_method_41_code
def yX5_clicksSo : MethodName := ⟨RX5, "clicksSo", "(LSecretBox$Box;ILSecretBox$Sheet;II)Z"⟩
abbrev cX5_kindsByClicks : ByteArray := prog_1_method_42_code
def yX5_kindsByClicks : MethodName := ⟨RX5, "kindsByClicks", "(ILSecretBox$Sheet;II)I"⟩
abbrev cX5_locksByClicks : ByteArray := prog_1_method_43_code
def yX5_locksByClicks : MethodName := ⟨RX5, "locksByClicks", "(LSecretBox$Sheet;II)I"⟩
def RX6 : String := "SecretBoxModel"
def TX6 : u_T := fun k => match k with
  | _ => ("", "", "", false)
def tyX6 : Nat → FieldType := fun k => match k with
  | _ => .int
abbrev wsX60 : List Cond := u_ws RX6 TX6 0
theorem nmX6 : ∀ a, a < 0 → ∀ b, b < 0 → a ≠ b → (TX6 a).2.1 ≠ (TX6 b).2.1 := by decide +kernel
theorem tyX6_ok : ∀ k, k < 0 → parseFieldDescriptor (TX6 k).2.2.1 = some (tyX6 k) := by decide +kernel
def RJ6 : String := "java/lang/Integer"
abbrev cJ6_bitCount_0f7a4 : ByteArray := prog_10_method_49_code
def yJ6_bitCount_0f7a4 : MethodName := ⟨RJ6, "bitCount", "(I)I"⟩
def RL : String := "SecretBoxLaw"
abbrev cL_cell : ByteArray := method_2_code
def yL_cell : MethodName := ⟨RL, "cell", "([II)I"⟩
abbrev cL_sort : ByteArray := method_3_code
def yL_sort : MethodName := ⟨RL, "sort", "(I)I"⟩
abbrev cL_digits : ByteArray := method_4_code
def yL_digits : MethodName := ⟨RL, "digits", "(LSecretBox;I)Z"⟩
abbrev cL_lays : ByteArray := method_5_code
def yL_lays : MethodName := ⟨RL, "lays", "(LSecretBox;[I[II)Z"⟩
abbrev cL_place : ByteArray := method_6_code
def yL_place : MethodName := ⟨RL, "place", "(II)I"⟩
abbrev cL_slid : ByteArray := method_8_code
def yL_slid : MethodName := ⟨RL, "slid", "([IIIII)I"⟩
abbrev cL_size : ByteArray := method_9_code
def yL_size : MethodName := ⟨RL, "size", "(I)I"⟩
abbrev cL_outs : ByteArray := method_10_code
def yL_outs : MethodName := ⟨RL, "outs", "([I)I"⟩
abbrev cL_acts : ByteArray := method_12_code
def yL_acts : MethodName := ⟨RL, "acts", "(LSecretBox;[II)I"⟩
abbrev cL_law : ByteArray := code
def yL_law : MethodName := ⟨RL, "law", "([I)Z"⟩
abbrev cL_hash : ByteArray := method_15_code
def yL_hash : MethodName := ⟨RL, "hash", "(LSecretBox;[I)J"⟩
abbrev cL_stands : ByteArray := method_16_code
def yL_stands : MethodName := ⟨RL, "stands", "(LSecretBox;[I)Z"⟩
abbrev cL_moved : ByteArray := method_17_code
def yL_moved : MethodName := ⟨RL, "moved", "(LSecretBox;[IJ)Z"⟩
abbrev cL_opened : ByteArray := method_18_code
def yL_opened : MethodName := ⟨RL, "opened", "(LSecretBox;[IJ)Z"⟩
abbrev cL_went : ByteArray := method_19_code
def yL_went : MethodName := ⟨RL, "went", "(LSecretBox;[I[IJ)Z"⟩
abbrev cL_filed : ByteArray := method_20_code
def yL_filed : MethodName := ⟨RL, "filed", "(LSecretBox;[I[IJ)Z"⟩
abbrev cL_played : ByteArray := method_21_code
def yL_played : MethodName := ⟨RL, "played", "(LSecretBox;[IJ)Z"⟩
abbrev cL_clicked : ByteArray := method_22_code
def yL_clicked : MethodName := ⟨RL, "clicked", "(LSecretBox;[I[IJ)Z"⟩
abbrev cL_flipped : ByteArray := method_23_code
def yL_flipped : MethodName := ⟨RL, "flipped", "(LSecretBox;[I[II)Z"⟩
abbrev vwCl : List vw_C := [(RX0, TX0, 18), (RX1, TX1, 9), (RX2, TX2, 4), (RX3, TX3, 3), (RX4, TX4, 12), (RX5, TX5, 8)]
end
section
/-! THE METHODS THAT ARE WALKED: class, name, bytes, locals, return, instructions (by program out of the printed names) -/
abbrev Cl : Type := List (Nat × Instr × Nat)
abbrev Ct : Type := List Cl
abbrev MR : Type := Nat × MethodName × ByteArray × Nat × Option FieldType × Ct
abbrev LawA : Nat := 0
def k_0_0 : Cl := [(0, .new 10, 3), (3, .dup, 1), (4, .invokespecial 69, 3), (7, .astore_n 1, 1), (8, .bipush 40, 2), (10, .newarray .int, 2), (12, .astore_n 2, 1), (13, .aload_n 1, 1), (14, .aload_n 0, 1), (15, .aload_n 2, 1), (16, .iconst 4, 1), (17, .invokestatic 70, 3), (20, .ifCond .eq 15, 3), (23, .aload_n 1, 1), (24, .aload_n 2, 1), (25, .invokestatic 74, 3), (28, .ifCond .eq 7, 3), (31, .iconst 1, 1)]
def k_0_1 : Cl := [(32, .goto 4, 3), (35, .iconst 0, 1), (36, .istore_n 3, 1), (37, .iconst 0, 1), (38, .istore 4, 2), (40, .iload 4, 2), (42, .iconst 5, 1), (43, .if_icmp .ge 51, 3), (46, .iload_n 3, 1), (47, .ifCond .eq 47, 3), (50, .aload_n 1, 1), (51, .aload_n 2, 1), (52, .aload_n 0, 1), (53, .bipush 6, 2), (55, .iload 4, 2), (57, .iadd, 1), (58, .invokestatic 15, 3), (61, .bipush 9, 2), (63, .ishr, 1)]
def k_0_2 : Cl := [(64, .sipush 4095, 3), (67, .iand, 1), (68, .invokestatic 78, 3), (71, .ifCond .lt 15, 3), (74, .aload_n 1, 1), (75, .aload_n 2, 1), (76, .invokestatic 74, 3), (79, .ifCond .eq 7, 3), (82, .iconst 1, 1), (83, .goto 4, 3), (86, .iconst 0, 1), (87, .istore_n 3, 1), (88, .iinc 4 1, 3), (91, .goto (-51), 3), (94, .iload_n 3, 1), (95, .ifCond .eq 15, 3)]
def k_0_3 : Cl := [(98, .aload_n 1, 1), (99, .invokevirtual 82, 3), (102, .iconst 1, 1), (103, .if_icmp .ne 7, 3), (106, .iconst 1, 1), (107, .goto 4, 3), (110, .iconst 0, 1), (111, .istore_n 3, 1), (112, .iload_n 3, 1), (113, .ifCond .eq 11, 3), (116, .aload_n 1, 1), (117, .aload_n 2, 1), (118, .invokestatic 85, 3), (121, .goto 4, 3), (124, .lconst 0, 1), (125, .lstore 4, 2), (127, .iload_n 3, 1)]
def k_0_4 : Cl := [(128, .ifCond .eq 70, 3), (131, .aload_n 1, 1), (132, .aload_n 2, 1), (133, .lload 4, 2), (135, .invokestatic 89, 3), (138, .ifCond .eq 60, 3), (141, .aload_n 1, 1), (142, .aload_n 2, 1), (143, .lload 4, 2), (145, .invokestatic 93, 3), (148, .ifCond .eq 50, 3), (151, .aload_n 1, 1), (152, .aload_n 0, 1), (153, .aload_n 2, 1), (154, .lload 4, 2), (156, .invokestatic 96, 3), (159, .ifCond .eq 39, 3)]
def k_0_5 : Cl := [(162, .aload_n 1, 1), (163, .aload_n 0, 1), (164, .aload_n 2, 1), (165, .lload 4, 2), (167, .invokestatic 100, 3), (170, .ifCond .eq 28, 3), (173, .aload_n 1, 1), (174, .aload_n 2, 1), (175, .lload 4, 2), (177, .invokestatic 103, 3), (180, .ifCond .eq 18, 3), (183, .aload_n 1, 1), (184, .aload_n 0, 1), (185, .aload_n 2, 1), (186, .lload 4, 2), (188, .invokestatic 106, 3), (191, .ifCond .eq 7, 3)]
def k_0_6 : Cl := [(194, .iconst 1, 1), (195, .goto 4, 3), (198, .iconst 0, 1), (199, .istore_n 3, 1), (200, .aload_n 0, 1), (201, .bipush 14, 2), (203, .invokestatic 15, 3), (206, .istore 6, 2), (208, .iload_n 3, 1), (209, .ifCond .eq 12, 3), (212, .aload_n 1, 1), (213, .bipush 8, 2), (215, .invokevirtual 56, 3), (218, .goto 4, 3), (221, .iconst 0, 1), (222, .istore 7, 2)]
def k_0_7 : Cl := [(224, .iload_n 3, 1), (225, .ifCond .eq 16, 3), (228, .aload_n 1, 1), (229, .iload 6, 2), (231, .invokevirtual 109, 3), (234, .ifCond .lt 7, 3), (237, .iconst 1, 1), (238, .goto 4, 3), (241, .iconst 0, 1), (242, .istore_n 3, 1), (243, .iload_n 3, 1), (244, .ifCond .eq 12, 3), (247, .aload_n 1, 1), (248, .bipush 8, 2), (250, .invokevirtual 112, 3), (253, .goto 4, 3)]
def k_0_8 : Cl := [(256, .iconst 0, 1), (257, .istore 8, 2), (259, .iload_n 3, 1), (260, .ifCond .eq 11, 3), (263, .aload_n 1, 1), (264, .aload_n 2, 1), (265, .invokestatic 85, 3), (268, .goto 4, 3), (271, .lconst 0, 1), (272, .lstore 9, 2), (274, .iload_n 3, 1), (275, .ifCond .eq 26, 3), (278, .iload 8, 2), (280, .aload_n 1, 1), (281, .bipush 7, 2), (283, .invokevirtual 56, 3), (286, .if_icmp .ne 15, 3)]
def k_0_9 : Cl := [(289, .aload_n 1, 1), (290, .aload_n 2, 1), (291, .invokestatic 74, 3), (294, .ifCond .eq 7, 3), (297, .iconst 1, 1), (298, .goto 4, 3), (301, .iconst 0, 1), (302, .istore_n 3, 1), (303, .iconst 0, 1), (304, .istore 11, 2), (306, .iload 11, 2), (308, .bipush 8, 2), (310, .if_icmp .ge 31, 3), (313, .iload_n 3, 1), (314, .ifCond .eq 27, 3), (317, .aload_n 1, 1), (318, .invokevirtual 115, 3)]
def k_0_10 : Cl := [(321, .bipush 7, 2), (323, .iload 11, 2), (325, .isub, 1), (326, .if_icmp .ne 7, 3), (329, .iconst 1, 1), (330, .goto 4, 3), (333, .iconst 0, 1), (334, .istore_n 3, 1), (335, .iinc 11 1, 3), (338, .goto (-32), 3), (341, .iload_n 3, 1), (342, .ifCond .eq 49, 3), (345, .aload_n 1, 1), (346, .aload_n 2, 1), (347, .invokestatic 85, 3), (350, .lload 4, 2)]
def k_0_11 : Cl := [(352, .lcmp, 1), (353, .ifCond .ne 38, 3), (356, .aload_n 1, 1), (357, .invokevirtual 115, 3), (360, .bipush (-4), 2), (362, .if_icmp .ne 29, 3), (365, .aload_n 1, 1), (366, .bipush 8, 2), (368, .invokevirtual 112, 3), (371, .iload 8, 2), (373, .if_icmp .ne 18, 3), (376, .aload_n 1, 1), (377, .aload_n 2, 1), (378, .invokestatic 85, 3), (381, .lload 9, 2), (383, .lcmp, 1)]
def k_0_12 : Cl := [(384, .ifCond .ne 7, 3), (387, .iconst 1, 1), (388, .goto 4, 3), (391, .iconst 0, 1), (392, .istore_n 3, 1), (393, .iload_n 3, 1), (394, .ifCond .eq 37, 3), (397, .aload_n 1, 1), (398, .invokevirtual 118, 3), (401, .iconst 1, 1), (402, .if_icmp .ne 29, 3), (405, .aload_n 1, 1), (406, .bipush 8, 2), (408, .invokevirtual 56, 3), (411, .iload 7, 2), (413, .if_icmp .ne 18, 3)]
def k_0_13 : Cl := [(416, .aload_n 1, 1), (417, .aload_n 2, 1), (418, .invokestatic 85, 3), (421, .lload 4, 2), (423, .lcmp, 1), (424, .ifCond .ne 7, 3), (427, .iconst 1, 1), (428, .goto 4, 3), (431, .iconst 0, 1), (432, .ireturn, 1)]
def r_0 : MR := (7, yL_law, cL_law, 12, (some .boolean), [k_0_0, k_0_1, k_0_2, k_0_3, k_0_4, k_0_5, k_0_6, k_0_7, k_0_8, k_0_9, k_0_10, k_0_11, k_0_12, k_0_13])
abbrev LawB : Nat := 1
def k_1_0 : Cl := [(0, .new 10, 3), (3, .dup, 1), (4, .invokespecial 69, 3), (7, .astore_n 1, 1), (8, .bipush 40, 2), (10, .newarray .int, 2), (12, .astore_n 2, 1), (13, .aload_n 1, 1), (14, .aload_n 0, 1), (15, .aload_n 2, 1), (16, .iconst 4, 1), (17, .invokestatic 70, 3), (20, .ifCond .eq 15, 3), (23, .aload_n 1, 1), (24, .aload_n 2, 1), (25, .invokestatic 74, 3), (28, .ifCond .eq 7, 3), (31, .iconst 1, 1)]
def k_1_1 : Cl := [(32, .goto 4, 3), (35, .iconst 0, 1), (36, .istore_n 3, 1), (37, .iconst 0, 1), (38, .istore 4, 2), (40, .iload 4, 2), (42, .iconst 5, 1), (43, .if_icmp .ge 51, 3), (46, .iload_n 3, 1), (47, .ifCond .eq 47, 3), (50, .aload_n 1, 1), (51, .aload_n 2, 1), (52, .aload_n 0, 1), (53, .bipush 6, 2), (55, .iload 4, 2), (57, .iadd, 1), (58, .invokestatic 15, 3), (61, .bipush 9, 2), (63, .ishr, 1)]
def k_1_2 : Cl := [(64, .sipush 4095, 3), (67, .iand, 1), (68, .invokestatic 78, 3), (71, .ifCond .lt 15, 3), (74, .aload_n 1, 1), (75, .aload_n 2, 1), (76, .invokestatic 74, 3), (79, .ifCond .eq 7, 3), (82, .iconst 1, 1), (83, .goto 4, 3), (86, .iconst 0, 1), (87, .istore_n 3, 1), (88, .iinc 4 1, 3), (91, .goto (-51), 3), (94, .iload_n 3, 1), (95, .ifCond .eq 15, 3)]
def k_1_3 : Cl := [(98, .aload_n 1, 1), (99, .invokevirtual 82, 3), (102, .iconst 1, 1), (103, .if_icmp .ne 7, 3), (106, .iconst 1, 1), (107, .goto 4, 3), (110, .iconst 0, 1), (111, .istore_n 3, 1), (112, .iload_n 3, 1), (113, .ifCond .eq 11, 3), (116, .aload_n 1, 1), (117, .aload_n 2, 1), (118, .invokestatic 85, 3), (121, .goto 4, 3), (124, .lconst 0, 1), (125, .lstore 4, 2), (127, .iload_n 3, 1)]
def k_1_4 : Cl := [(128, .ifCond .eq 70, 3), (131, .aload_n 1, 1), (132, .aload_n 2, 1), (133, .lload 4, 2), (135, .invokestatic 89, 3), (138, .ifCond .eq 60, 3), (141, .aload_n 1, 1), (142, .aload_n 2, 1), (143, .lload 4, 2), (145, .invokestatic 93, 3), (148, .ifCond .eq 50, 3), (151, .aload_n 1, 1), (152, .aload_n 0, 1), (153, .aload_n 2, 1), (154, .lload 4, 2), (156, .invokestatic 96, 3), (159, .ifCond .eq 39, 3)]
def k_1_5 : Cl := [(162, .aload_n 1, 1), (163, .aload_n 0, 1), (164, .aload_n 2, 1), (165, .lload 4, 2), (167, .invokestatic 100, 3), (170, .ifCond .eq 28, 3), (173, .aload_n 1, 1), (174, .aload_n 2, 1), (175, .lload 4, 2), (177, .invokestatic 103, 3), (180, .ifCond .eq 18, 3), (183, .aload_n 1, 1), (184, .aload_n 0, 1), (185, .aload_n 2, 1), (186, .lload 4, 2), (188, .invokestatic 106, 3), (191, .ifCond .eq 7, 3)]
def k_1_6 : Cl := [(194, .iconst 1, 1), (195, .goto 4, 3), (198, .iconst 0, 1), (199, .istore_n 3, 1), (200, .aload_n 0, 1), (201, .bipush 14, 2), (203, .invokestatic 15, 3), (206, .istore 6, 2), (208, .iload_n 3, 1), (209, .ifCond .eq 12, 3), (212, .aload_n 1, 1), (213, .bipush 8, 2), (215, .invokevirtual 56, 3), (218, .goto 4, 3), (221, .iconst 0, 1), (222, .istore 7, 2)]
def k_1_7 : Cl := [(224, .iload_n 3, 1), (225, .ifCond .eq 16, 3), (228, .aload_n 1, 1), (229, .iload 6, 2), (231, .invokevirtual 109, 3), (234, .ifCond .lt 7, 3), (237, .iconst 1, 1), (238, .goto 4, 3), (241, .iconst 0, 1), (242, .istore_n 3, 1), (243, .iload_n 3, 1), (244, .ifCond .eq 12, 3), (247, .aload_n 1, 1), (248, .bipush 8, 2), (250, .invokevirtual 112, 3), (253, .goto 4, 3)]
def k_1_8 : Cl := [(256, .iconst 0, 1), (257, .istore 8, 2), (259, .iload_n 3, 1), (260, .ifCond .eq 11, 3), (263, .aload_n 1, 1), (264, .aload_n 2, 1), (265, .invokestatic 85, 3), (268, .goto 4, 3), (271, .lconst 0, 1), (272, .lstore 9, 2), (274, .iload_n 3, 1), (275, .ifCond .eq 26, 3), (278, .iload 8, 2), (280, .aload_n 1, 1), (281, .bipush 7, 2), (283, .invokevirtual 56, 3), (286, .if_icmp .ne 15, 3)]
def k_1_9 : Cl := [(289, .aload_n 1, 1), (290, .aload_n 2, 1), (291, .invokestatic 74, 3), (294, .ifCond .eq 7, 3), (297, .iconst 1, 1), (298, .goto 4, 3), (301, .iconst 0, 1), (302, .istore_n 3, 1), (303, .iconst 0, 1), (304, .istore 11, 2), (306, .iload 11, 2), (308, .bipush 8, 2), (310, .if_icmp .ge 31, 3), (313, .iload_n 3, 1), (314, .ifCond .eq 27, 3), (317, .aload_n 1, 1), (318, .invokevirtual 115, 3)]
def k_1_10 : Cl := [(321, .bipush 7, 2), (323, .iload 11, 2), (325, .isub, 1), (326, .if_icmp .ne 7, 3), (329, .iconst 1, 1), (330, .goto 4, 3), (333, .iconst 0, 1), (334, .istore_n 3, 1), (335, .iinc 11 1, 3), (338, .goto (-32), 3), (341, .iload_n 3, 1), (342, .ifCond .eq 49, 3), (345, .aload_n 1, 1), (346, .aload_n 2, 1), (347, .invokestatic 85, 3), (350, .lload 4, 2)]
def k_1_11 : Cl := [(352, .lcmp, 1), (353, .ifCond .ne 38, 3), (356, .aload_n 1, 1), (357, .invokevirtual 115, 3), (360, .bipush (-4), 2), (362, .if_icmp .ne 29, 3), (365, .aload_n 1, 1), (366, .bipush 8, 2), (368, .invokevirtual 112, 3), (371, .iload 8, 2), (373, .if_icmp .ne 18, 3), (376, .aload_n 1, 1), (377, .aload_n 2, 1), (378, .invokestatic 85, 3), (381, .lload 9, 2), (383, .lcmp, 1)]
def k_1_12 : Cl := [(384, .ifCond .ne 7, 3), (387, .iconst 1, 1), (388, .goto 4, 3), (391, .iconst 0, 1), (392, .istore_n 3, 1), (393, .iload_n 3, 1), (394, .ifCond .eq 37, 3), (397, .aload_n 1, 1), (398, .invokevirtual 118, 3), (401, .iconst 1, 1), (402, .if_icmp .ne 29, 3), (405, .aload_n 1, 1), (406, .bipush 8, 2), (408, .invokevirtual 56, 3), (411, .iload 7, 2), (413, .if_icmp .ne 18, 3)]
def k_1_13 : Cl := [(416, .aload_n 1, 1), (417, .aload_n 2, 1), (418, .invokestatic 85, 3), (421, .lload 4, 2), (423, .lcmp, 1), (424, .ifCond .ne 7, 3), (427, .iconst 1, 1), (428, .goto 4, 3), (431, .iconst 0, 1), (432, .ireturn, 1)]
def r_1 : MR := (7, yL_law, cL_law, 12, (some .boolean), [k_1_0, k_1_1, k_1_2, k_1_3, k_1_4, k_1_5, k_1_6, k_1_7, k_1_8, k_1_9, k_1_10, k_1_11, k_1_12, k_1_13])
abbrev Mv : Nat := 2
def k_2_0 : Cl := [(0, .iconst 4, 1), (1, .newarray .int, 2), (3, .astore 4, 2), (5, .iconst 1, 1), (6, .istore 5, 2), (8, .iconst 0, 1), (9, .istore 6, 2), (11, .iload 6, 2), (13, .aload_n 1, 1), (14, .iconst 0, 1), (15, .iaload, 1), (16, .if_icmp .ge 21, 3), (19, .aload 4, 2), (21, .iload 6, 2), (23, .aload_n 0, 1), (24, .iload 6, 2), (26, .iconst 2, 1), (27, .invokevirtual 63, 3), (30, .iastore, 1), (31, .iinc 6 1, 3)]
def k_2_1 : Cl := [(34, .goto (-23), 3), (37, .iconst 0, 1), (38, .istore 6, 2), (40, .iload 6, 2), (42, .iconst 2, 1), (43, .aload_n 1, 1), (44, .iconst 0, 1), (45, .iaload, 1), (46, .imul, 1), (47, .if_icmp .ge 280, 3), (50, .iload 5, 2), (52, .ifCond .eq 275, 3), (55, .iload 6, 2), (57, .iconst 2, 1), (58, .idiv, 1), (59, .istore 7, 2), (61, .aload_n 0, 1), (62, .iload 7, 2)]
def k_2_2 : Cl := [(64, .iconst 3, 1), (65, .iload 6, 2), (67, .iconst 2, 1), (68, .irem, 1), (69, .iadd, 1), (70, .invokevirtual 63, 3), (73, .iconst 1, 1), (74, .if_icmp .ne 7, 3), (77, .iconst 1, 1), (78, .goto 4, 3), (81, .iconst 0, 1), (82, .istore 8, 2), (84, .aload_n 0, 1), (85, .iload 7, 2), (87, .iload 6, 2), (89, .iconst 2, 1), (90, .irem, 1), (91, .invokevirtual 53, 3), (94, .istore 9, 2)]
def k_2_3 : Cl := [(96, .iload 8, 2), (98, .ifCond .eq 27, 3), (101, .iload 9, 2), (103, .ifCond .lt 18, 3), (106, .iload 9, 2), (108, .aload_n 0, 1), (109, .bipush 7, 2), (111, .invokevirtual 56, 3), (114, .if_icmp .ne 7, 3), (117, .iconst 1, 1), (118, .goto 19, 3), (121, .iconst 0, 1), (122, .goto 15, 3), (125, .iload 9, 2), (127, .bipush (-2), 2)]
def k_2_4 : Cl := [(129, .if_icmp .ne 7, 3), (132, .iconst 1, 1), (133, .goto 4, 3), (136, .iconst 0, 1), (137, .istore 5, 2), (139, .iconst 0, 1), (140, .istore 10, 2), (142, .iload 10, 2), (144, .aload_n 1, 1), (145, .iconst 0, 1), (146, .iaload, 1), (147, .if_icmp .ge 146, 3), (150, .iload 5, 2), (152, .ifCond .eq 141, 3), (155, .iload 8, 2), (157, .ifCond .eq 136, 3)]
def k_2_5 : Cl := [(160, .aload_n 0, 1), (161, .iload 10, 2), (163, .iconst 2, 1), (164, .invokevirtual 63, 3), (167, .istore 11, 2), (169, .aload_n 0, 1), (170, .iload 10, 2), (172, .iconst 0, 1), (173, .invokevirtual 63, 3), (176, .istore 12, 2), (178, .iload 10, 2), (180, .iload 7, 2), (182, .if_icmp .eq 42, 3), (185, .aload 4, 2), (187, .iload 10, 2), (189, .iaload, 1), (190, .ifCond .le 34, 3)]
def k_2_6 : Cl := [(193, .iload 12, 2), (195, .iconst 1, 1), (196, .if_icmp .eq 24, 3), (199, .iload 12, 2), (201, .iconst 3, 1), (202, .if_icmp .ne 22, 3), (205, .aload 4, 2), (207, .iload 10, 2), (209, .iaload, 1), (210, .aload_n 0, 1), (211, .iload 10, 2), (213, .iconst 1, 1), (214, .invokevirtual 63, 3), (217, .if_icmp .ge 7, 3), (220, .iconst 1, 1), (221, .goto 4, 3)]
def k_2_7 : Cl := [(224, .iconst 0, 1), (225, .istore 13, 2), (227, .iload 11, 2), (229, .iload 10, 2), (231, .iload 7, 2), (233, .if_icmp .ne 24, 3), (236, .aload 4, 2), (238, .iload 10, 2), (240, .iaload, 1), (241, .iload 6, 2), (243, .iconst 2, 1), (244, .irem, 1), (245, .ifCond .ne 7, 3), (248, .iconst (-1), 1), (249, .goto 4, 3), (252, .iconst 1, 1), (253, .iadd, 1), (254, .goto 23, 3)]
def k_2_8 : Cl := [(257, .iload 13, 2), (259, .ifCond .eq 13, 3), (262, .aload 4, 2), (264, .iload 10, 2), (266, .iaload, 1), (267, .iconst 1, 1), (268, .isub, 1), (269, .goto 8, 3), (272, .aload 4, 2), (274, .iload 10, 2), (276, .iaload, 1), (277, .if_icmp .ne 7, 3), (280, .iconst 1, 1), (281, .goto 4, 3), (284, .iconst 0, 1), (285, .istore 5, 2), (287, .iinc 10 1, 3)]
def k_2_9 : Cl := [(290, .goto (-148), 3), (293, .iload 5, 2), (295, .ifCond .eq 23, 3), (298, .aload_n 0, 1), (299, .aload_n 1, 1), (300, .invokestatic 74, 3), (303, .ifCond .eq 15, 3), (306, .aload_n 0, 1), (307, .invokevirtual 118, 3), (310, .iconst 1, 1), (311, .if_icmp .ne 7, 3), (314, .iconst 1, 1), (315, .goto 4, 3), (318, .iconst 0, 1), (319, .istore 5, 2)]
def k_2_10 : Cl := [(321, .iinc 6 1, 3), (324, .goto (-284), 3), (327, .iload 5, 2), (329, .ifCond .eq 17, 3), (332, .aload_n 0, 1), (333, .aload_n 1, 1), (334, .invokestatic 85, 3), (337, .lload_n 2, 1), (338, .lcmp, 1), (339, .ifCond .ne 7, 3), (342, .iconst 1, 1), (343, .goto 4, 3), (346, .iconst 0, 1), (347, .ireturn, 1)]
def r_2 : MR := (9, yL_moved, cL_moved, 14, (Option.some FieldType.boolean), [k_2_0, k_2_1, k_2_2, k_2_3, k_2_4, k_2_5, k_2_6, k_2_7, k_2_8, k_2_9, k_2_10])
abbrev Lw_cell : Nat := 3
def k_3_0 : Cl := [(0, .iload_n 1, 1), (1, .aload_n 0, 1), (2, .arraylength, 1), (3, .if_icmp .ge 9, 3), (6, .aload_n 0, 1), (7, .iload_n 1, 1), (8, .iaload, 1), (9, .goto 10, 3), (12, .ldc 7, 2), (14, .iload_n 1, 1), (15, .imul, 1), (16, .bipush 107, 2), (18, .iadd, 1), (19, .ldc 8, 2), (21, .iand, 1), (22, .ireturn, 1)]
def r_3 : MR := (7, yL_cell, cL_cell, 2, (Option.some FieldType.int), [k_3_0])
abbrev Lw_sort : Nat := 4
def k_4_0 : Cl := [(0, .iload_n 0, 1), (1, .ifCond .ne 8, 3), (4, .bipush 112, 2), (6, .goto 35, 3), (9, .iload_n 0, 1), (10, .iconst 1, 1), (11, .if_icmp .ne 8, 3), (14, .bipush 115, 2), (16, .goto 25, 3), (19, .iload_n 0, 1), (20, .iconst 2, 1), (21, .if_icmp .ne 8, 3), (24, .bipush 114, 2), (26, .goto 15, 3), (29, .iload_n 0, 1), (30, .iconst 3, 1), (31, .if_icmp .ne 8, 3)]
def k_4_1 : Cl := [(34, .bipush 108, 2), (36, .goto 5, 3), (39, .bipush 98, 2), (41, .ireturn, 1)]
def r_4 : MR := (7, yL_sort, cL_sort, 1, (Option.some FieldType.int), [k_4_0, k_4_1])
abbrev Lw_digits : Nat := 5
def k_5_0 : Cl := [(0, .iconst 1, 1), (1, .istore_n 2, 1), (2, .iconst 0, 1), (3, .istore_n 3, 1), (4, .iload_n 3, 1), (5, .iconst 4, 1), (6, .if_icmp .ge 38, 3), (9, .iload_n 2, 1), (10, .ifCond .eq 34, 3), (13, .iload_n 1, 1), (14, .iload_n 3, 1), (15, .ishr, 1), (16, .iconst 1, 1), (17, .iand, 1), (18, .ifCond .eq 14, 3), (21, .aload_n 0, 1), (22, .bipush 48, 2), (24, .iload_n 3, 1), (25, .iadd, 1), (26, .invokevirtual 9, 3), (29, .ifCond .le 7, 3)]
def k_5_1 : Cl := [(32, .iconst 1, 1), (33, .goto 4, 3), (36, .iconst 0, 1), (37, .istore_n 2, 1), (38, .iinc 3 1, 3), (41, .goto (-37), 3), (44, .iload_n 2, 1), (45, .ireturn, 1)]
def r_5 : MR := (7, yL_digits, cL_digits, 4, (Option.some FieldType.boolean), [k_5_0, k_5_1])
abbrev Lw_lays : Nat := 6
def k_6_0 : Cl := [(0, .aload_n 1, 1), (1, .iconst 0, 1), (2, .invokestatic 15, 3), (5, .istore 4, 2), (7, .iconst 1, 1), (8, .iload 4, 2), (10, .iload_n 3, 1), (11, .irem, 1), (12, .iadd, 1), (13, .istore 5, 2), (15, .iload 4, 2), (17, .iconst 3, 1), (18, .ishr, 1), (19, .iconst 3, 1), (20, .iand, 1), (21, .ifCond .ne 7, 3), (24, .iconst (-1), 1), (25, .goto 10, 3), (28, .iload 4, 2), (30, .iconst 5, 1), (31, .ishr, 1)]
def k_6_1 : Cl := [(32, .iload 5, 2), (34, .irem, 1), (35, .istore 6, 2), (37, .iconst 1, 1), (38, .istore 7, 2), (40, .iconst 0, 1), (41, .istore 8, 2), (43, .iload 8, 2), (45, .iload 5, 2), (47, .if_icmp .ge 157, 3), (50, .iload 7, 2), (52, .ifCond .eq 152, 3), (55, .aload_n 1, 1), (56, .iconst 1, 1), (57, .invokestatic 15, 3), (60, .iconst 5, 1), (61, .iload 8, 2), (63, .imul, 1)]
def k_6_2 : Cl := [(64, .ishr, 1), (65, .istore 9, 2), (67, .aload_n 2, 1), (68, .bipush 6, 2), (70, .iconst 2, 1), (71, .iload 8, 2), (73, .imul, 1), (74, .iadd, 1), (75, .iload 4, 2), (77, .bipush 8, 2), (79, .ishr, 1), (80, .iconst 1, 1), (81, .iand, 1), (82, .ifCond .ne 7, 3), (85, .iconst 0, 1), (86, .goto 10, 3), (89, .iload 9, 2), (91, .bipush 7, 2), (93, .iand, 1), (94, .iconst 5, 1), (95, .irem, 1)]
def k_6_3 : Cl := [(96, .iastore, 1), (97, .aload_n 2, 1), (98, .bipush 7, 2), (100, .iconst 2, 1), (101, .iload 8, 2), (103, .imul, 1), (104, .iadd, 1), (105, .iconst 1, 1), (106, .iload 9, 2), (108, .iconst 3, 1), (109, .ishr, 1), (110, .iconst 3, 1), (111, .iand, 1), (112, .iconst 3, 1), (113, .irem, 1), (114, .iadd, 1), (115, .iastore, 1), (116, .iload 8, 2), (118, .ifCond .eq 12, 3), (121, .aload_n 0, 1), (122, .bipush 44, 2), (124, .invokevirtual 9, 3), (127, .ifCond .le 61, 3)]
def k_6_4 : Cl := [(130, .aload_n 0, 1), (131, .aload_n 2, 1), (132, .bipush 6, 2), (134, .iconst 2, 1), (135, .iload 8, 2), (137, .imul, 1), (138, .iadd, 1), (139, .iaload, 1), (140, .invokestatic 21, 3), (143, .invokevirtual 9, 3), (146, .ifCond .le 42, 3), (149, .aload_n 0, 1), (150, .bipush 48, 2), (152, .aload_n 2, 1), (153, .bipush 7, 2), (155, .iconst 2, 1), (156, .iload 8, 2), (158, .imul, 1), (159, .iadd, 1)]
def k_6_5 : Cl := [(160, .iaload, 1), (161, .iadd, 1), (162, .invokevirtual 9, 3), (165, .ifCond .le 23, 3), (168, .iload 8, 2), (170, .iload 6, 2), (172, .if_icmp .ne 12, 3), (175, .aload_n 0, 1), (176, .bipush 33, 2), (178, .invokevirtual 9, 3), (181, .ifCond .le 7, 3), (184, .iconst 1, 1), (185, .goto 4, 3), (188, .iconst 0, 1), (189, .istore 7, 2), (191, .aload_n 2, 1)]
def k_6_6 : Cl := [(192, .iconst 0, 1), (193, .dup2, 1), (194, .iaload, 1), (195, .iconst 1, 1), (196, .iadd, 1), (197, .iastore, 1), (198, .iinc 8 1, 3), (201, .goto (-158), 3), (204, .aload_n 2, 1), (205, .iconst 2, 1), (206, .iload 6, 2), (208, .ifCond .ge 7, 3), (211, .iconst 0, 1), (212, .goto 5, 3), (215, .iload 6, 2), (217, .iastore, 1), (218, .iload 5, 2), (220, .iconst 1, 1), (221, .if_icmp .ne 7, 3)]
def k_6_7 : Cl := [(224, .iconst 0, 1), (225, .goto 11, 3), (228, .iload 4, 2), (230, .bipush 9, 2), (232, .ishr, 1), (233, .bipush 6, 2), (235, .irem, 1), (236, .istore 8, 2), (238, .iconst 0, 1), (239, .istore 9, 2), (241, .iload 9, 2), (243, .iload 8, 2), (245, .if_icmp .ge 241, 3), (248, .iload 7, 2), (250, .ifCond .eq 236, 3), (253, .aload_n 1, 1), (254, .iconst 2, 1), (255, .iload 9, 2)]
def k_6_8 : Cl := [(257, .iconst 2, 1), (258, .idiv, 1), (259, .iadd, 1), (260, .invokestatic 15, 3), (263, .bipush 15, 2), (265, .iload 9, 2), (267, .iconst 2, 1), (268, .irem, 1), (269, .imul, 1), (270, .ishr, 1), (271, .istore 10, 2), (273, .bipush 16, 2), (275, .iconst 4, 1), (276, .iload 9, 2), (278, .imul, 1), (279, .iadd, 1), (280, .istore 11, 2), (282, .aload_n 2, 1), (283, .iload 11, 2), (285, .iload 10, 2), (287, .iload 5, 2)]
def k_6_9 : Cl := [(289, .irem, 1), (290, .iastore, 1), (291, .aload_n 2, 1), (292, .iload 11, 2), (294, .iconst 1, 1), (295, .iadd, 1), (296, .iload 10, 2), (298, .iconst 3, 1), (299, .ishr, 1), (300, .iconst 3, 1), (301, .irem, 1), (302, .iastore, 1), (303, .aload_n 2, 1), (304, .iload 11, 2), (306, .iconst 2, 1), (307, .iadd, 1), (308, .aload_n 2, 1), (309, .iload 11, 2), (311, .iaload, 1), (312, .iconst 1, 1), (313, .iadd, 1), (314, .iload 10, 2), (316, .iconst 5, 1), (317, .ishr, 1), (318, .iload 5, 2)]
def k_6_10 : Cl := [(320, .iconst 1, 1), (321, .isub, 1), (322, .irem, 1), (323, .iadd, 1), (324, .iload 5, 2), (326, .irem, 1), (327, .iastore, 1), (328, .aload_n 2, 1), (329, .bipush 7, 2), (331, .iconst 2, 1), (332, .aload_n 2, 1), (333, .iload 11, 2), (335, .iconst 2, 1), (336, .iadd, 1), (337, .iaload, 1), (338, .imul, 1), (339, .iadd, 1), (340, .iaload, 1), (341, .istore 12, 2), (343, .aload_n 2, 1), (344, .iload 11, 2), (346, .iconst 3, 1), (347, .iadd, 1), (348, .iconst 1, 1), (349, .iload 10, 2), (351, .bipush 8, 2)]
def k_6_11 : Cl := [(353, .ishr, 1), (354, .bipush 15, 2), (356, .iand, 1), (357, .iconst 2, 1), (358, .iload 12, 2), (360, .ishl, 1), (361, .iconst 1, 1), (362, .isub, 1), (363, .irem, 1), (364, .iadd, 1), (365, .iastore, 1), (366, .aload_n 0, 1), (367, .iload 9, 2), (369, .ifCond .ne 8, 3), (372, .bipush 59, 2), (374, .goto 5, 3), (377, .bipush 44, 2), (379, .invokevirtual 9, 3), (382, .ifCond .le 88, 3)]
def k_6_12 : Cl := [(385, .aload_n 0, 1), (386, .bipush 48, 2), (388, .aload_n 2, 1), (389, .iload 11, 2), (391, .iaload, 1), (392, .iadd, 1), (393, .invokevirtual 9, 3), (396, .ifCond .le 74, 3), (399, .aload_n 0, 1), (400, .aload_n 2, 1), (401, .iload 11, 2), (403, .iconst 1, 1), (404, .iadd, 1), (405, .iaload, 1), (406, .ifCond .ne 8, 3), (409, .bipush 60, 2), (411, .goto 20, 3), (414, .aload_n 2, 1), (415, .iload 11, 2)]
def k_6_13 : Cl := [(417, .iconst 1, 1), (418, .iadd, 1), (419, .iaload, 1), (420, .iconst 1, 1), (421, .if_icmp .ne 8, 3), (424, .bipush 62, 2), (426, .goto 5, 3), (429, .bipush 61, 2), (431, .invokevirtual 9, 3), (434, .ifCond .le 36, 3), (437, .aload_n 0, 1), (438, .bipush 48, 2), (440, .aload_n 2, 1), (441, .iload 11, 2), (443, .iconst 2, 1), (444, .iadd, 1), (445, .iaload, 1), (446, .iadd, 1), (447, .invokevirtual 9, 3)]
def k_6_14 : Cl := [(450, .ifCond .le 20, 3), (453, .aload_n 0, 1), (454, .aload_n 2, 1), (455, .iload 11, 2), (457, .iconst 3, 1), (458, .iadd, 1), (459, .iaload, 1), (460, .invokestatic 24, 3), (463, .ifCond .eq 7, 3), (466, .iconst 1, 1), (467, .goto 4, 3), (470, .iconst 0, 1), (471, .istore 7, 2), (473, .aload_n 2, 1), (474, .iconst 1, 1), (475, .dup2, 1), (476, .iaload, 1), (477, .iconst 1, 1), (478, .iadd, 1), (479, .iastore, 1)]
def k_6_15 : Cl := [(480, .iinc 9 1, 3), (483, .goto (-242), 3), (486, .aload_n 2, 1), (487, .iconst 4, 1), (488, .iconst 1, 1), (489, .iastore, 1), (490, .iload 7, 2), (492, .ifCond .eq 16, 3), (495, .aload_n 0, 1), (496, .invokevirtual 28, 3), (499, .iload 5, 2), (501, .if_icmp .ne 7, 3), (504, .iconst 1, 1), (505, .goto 4, 3), (508, .iconst 0, 1), (509, .ireturn, 1)]
def r_6 : MR := (7, yL_lays, cL_lays, 13, (Option.some FieldType.boolean), [k_6_0, k_6_1, k_6_2, k_6_3, k_6_4, k_6_5, k_6_6, k_6_7, k_6_8, k_6_9, k_6_10, k_6_11, k_6_12, k_6_13, k_6_14, k_6_15])
abbrev Lw_place : Nat := 7
def k_7_0 : Cl := [(0, .iload_n 0, 1), (1, .iload_n 1, 1), (2, .iload_n 1, 1), (3, .iadd, 1), (4, .ishr, 1), (5, .iconst 3, 1), (6, .iand, 1), (7, .ireturn, 1)]
def r_7 : MR := (7, yL_place, cL_place, 2, (Option.some FieldType.int), [k_7_0])
abbrev Lw_slid : Nat := 8
def k_8_0 : Cl := [(0, .iload_n 1, 1), (1, .iload_n 2, 1), (2, .invokestatic 32, 3), (5, .iconst 2, 1), (6, .iload_n 3, 1), (7, .imul, 1), (8, .iadd, 1), (9, .iconst 1, 1), (10, .isub, 1), (11, .istore 5, 2), (13, .aload_n 0, 1), (14, .bipush 6, 2), (16, .iconst 2, 1), (17, .iload_n 2, 1), (18, .imul, 1), (19, .iadd, 1), (20, .iaload, 1), (21, .istore 6, 2), (23, .iload 5, 2), (25, .ifCond .lt 20, 3), (28, .iload 5, 2), (30, .aload_n 0, 1), (31, .bipush 7, 2)]
def k_8_1 : Cl := [(33, .iconst 2, 1), (34, .iload_n 2, 1), (35, .imul, 1), (36, .iadd, 1), (37, .iaload, 1), (38, .if_icmp .gt 7, 3), (41, .iconst 1, 1), (42, .goto 4, 3), (45, .iconst 0, 1), (46, .istore 7, 2), (48, .iconst 0, 1), (49, .istore 8, 2), (51, .iload 8, 2), (53, .aload_n 0, 1), (54, .iconst 1, 1), (55, .iaload, 1), (56, .if_icmp .ge 94, 3), (59, .bipush 16, 2), (61, .iconst 4, 1), (62, .iload 8, 2)]
def k_8_2 : Cl := [(64, .imul, 1), (65, .iadd, 1), (66, .istore 9, 2), (68, .iload 4, 2), (70, .iload 8, 2), (72, .ishr, 1), (73, .iconst 1, 1), (74, .iand, 1), (75, .ifCond .ne 49, 3), (78, .aload_n 0, 1), (79, .iload 9, 2), (81, .iaload, 1), (82, .iload_n 2, 1), (83, .if_icmp .ne 41, 3), (86, .aload_n 0, 1), (87, .iload 9, 2), (89, .iconst 1, 1), (90, .iadd, 1), (91, .iaload, 1), (92, .iconst 1, 1), (93, .iload_n 3, 1), (94, .isub, 1), (95, .if_icmp .eq 29, 3)]
def k_8_3 : Cl := [(98, .aload_n 0, 1), (99, .iload 9, 2), (101, .iconst 3, 1), (102, .iadd, 1), (103, .iaload, 1), (104, .iload_n 1, 1), (105, .aload_n 0, 1), (106, .iload 9, 2), (108, .iconst 2, 1), (109, .iadd, 1), (110, .iaload, 1), (111, .invokestatic 32, 3), (114, .ishr, 1), (115, .iconst 1, 1), (116, .iand, 1), (117, .ifCond .ne 7, 3), (120, .iconst 1, 1), (121, .goto 4, 3), (124, .iconst 0, 1), (125, .istore 10, 2), (127, .iload 7, 2)]
def k_8_4 : Cl := [(129, .ifCond .eq 12, 3), (132, .iload 10, 2), (134, .ifCond .ne 7, 3), (137, .iconst 1, 1), (138, .goto 4, 3), (141, .iconst 0, 1), (142, .istore 7, 2), (144, .iinc 8 1, 3), (147, .goto (-96), 3), (150, .iload_n 2, 1), (151, .ifCond .le 80, 3), (154, .iload 6, 2), (156, .iconst 2, 1), (157, .if_icmp .eq 14, 3)]
def k_8_5 : Cl := [(160, .iload 6, 2), (162, .iconst 4, 1), (163, .if_icmp .ne 68, 3), (166, .iload_n 3, 1), (167, .iconst 1, 1), (168, .if_icmp .ne 63, 3), (171, .iload 7, 2), (173, .ifCond .eq 17, 3), (176, .iload_n 1, 1), (177, .iload_n 2, 1), (178, .iconst 1, 1), (179, .isub, 1), (180, .invokestatic 32, 3), (183, .ifCond .le 7, 3), (186, .iconst 1, 1), (187, .goto 4, 3), (190, .iconst 0, 1), (191, .istore 7, 2)]
def k_8_6 : Cl := [(193, .iconst 0, 1), (194, .istore 8, 2), (196, .iload 8, 2), (198, .iload_n 2, 1), (199, .iconst 1, 1), (200, .isub, 1), (201, .if_icmp .ge 30, 3), (204, .iload 7, 2), (206, .ifCond .eq 16, 3), (209, .iload_n 1, 1), (210, .iload 8, 2), (212, .invokestatic 32, 3), (215, .ifCond .ne 7, 3), (218, .iconst 1, 1), (219, .goto 4, 3), (222, .iconst 0, 1), (223, .istore 7, 2)]
def k_8_7 : Cl := [(225, .iinc 8 1, 3), (228, .goto (-32), 3), (231, .iconst 0, 1), (232, .istore 8, 2), (234, .aload_n 0, 1), (235, .iconst 0, 1), (236, .iaload, 1), (237, .iconst 1, 1), (238, .isub, 1), (239, .istore 9, 2), (241, .iload 9, 2), (243, .ifCond .lt 104, 3), (246, .iload_n 1, 1), (247, .iload 9, 2), (249, .invokestatic 32, 3), (252, .istore 10, 2), (254, .aload_n 0, 1), (255, .bipush 6, 2)]
def k_8_8 : Cl := [(257, .iconst 2, 1), (258, .iload 9, 2), (260, .imul, 1), (261, .iadd, 1), (262, .iaload, 1), (263, .istore 11, 2), (265, .iload 9, 2), (267, .iload_n 2, 1), (268, .if_icmp .eq 38, 3), (271, .iload 10, 2), (273, .ifCond .le 33, 3), (276, .iload 11, 2), (278, .iconst 1, 1), (279, .if_icmp .eq 23, 3), (282, .iload 11, 2), (284, .iconst 3, 1), (285, .if_icmp .ne 21, 3)]
def k_8_9 : Cl := [(288, .iload 10, 2), (290, .aload_n 0, 1), (291, .bipush 7, 2), (293, .iconst 2, 1), (294, .iload 9, 2), (296, .imul, 1), (297, .iadd, 1), (298, .iaload, 1), (299, .if_icmp .ge 7, 3), (302, .iconst 1, 1), (303, .goto 4, 3), (306, .iconst 0, 1), (307, .istore 12, 2), (309, .iconst 4, 1), (310, .iload 8, 2), (312, .imul, 1), (313, .iload 9, 2), (315, .iload_n 2, 1), (316, .if_icmp .ne 8, 3), (319, .iload 5, 2)]
def k_8_10 : Cl := [(321, .goto 17, 3), (324, .iload 12, 2), (326, .ifCond .eq 10, 3), (329, .iload 10, 2), (331, .iconst 1, 1), (332, .isub, 1), (333, .goto 5, 3), (336, .iload 10, 2), (338, .iadd, 1), (339, .istore 8, 2), (341, .iinc 9 (-1), 3), (344, .goto (-103), 3), (347, .iload 7, 2), (349, .ifCond .eq 8, 3)]
def k_8_11 : Cl := [(352, .iload 8, 2), (354, .goto 4, 3), (357, .iconst (-1), 1), (358, .ireturn, 1)]
def r_8 : MR := (7, yL_slid, cL_slid, 13, (Option.some FieldType.int), [k_8_0, k_8_1, k_8_2, k_8_3, k_8_4, k_8_5, k_8_6, k_8_7, k_8_8, k_8_9, k_8_10, k_8_11])
abbrev Lw_size : Nat := 9
def k_9_0 : Cl := [(0, .iconst 0, 1), (1, .istore_n 1, 1), (2, .iconst 0, 1), (3, .istore_n 2, 1), (4, .iload_n 2, 1), (5, .bipush 6, 2), (7, .if_icmp .ge 17, 3), (10, .iload_n 1, 1), (11, .iload_n 0, 1), (12, .iload_n 2, 1), (13, .ishr, 1), (14, .iconst 1, 1), (15, .iand, 1), (16, .iadd, 1), (17, .istore_n 1, 1), (18, .iinc 2 1, 3), (21, .goto (-17), 3), (24, .iload_n 1, 1), (25, .ireturn, 1)]
def r_9 : MR := (7, yL_size, cL_size, 3, (Option.some FieldType.int), [k_9_0])
abbrev Lw_outs : Nat := 10
def k_10_0 : Cl := [(0, .iconst 0, 1), (1, .istore_n 1, 1), (2, .iconst 0, 1), (3, .istore_n 2, 1), (4, .iload_n 2, 1), (5, .aload_n 0, 1), (6, .iconst 0, 1), (7, .iaload, 1), (8, .if_icmp .ge 29, 3), (11, .iload_n 1, 1), (12, .aload_n 0, 1), (13, .iconst 5, 1), (14, .iaload, 1), (15, .iload_n 2, 1), (16, .invokestatic 32, 3), (19, .ifCond .le 9, 3), (22, .iconst 1, 1), (23, .iload_n 2, 1), (24, .ishl, 1), (25, .goto 4, 3), (28, .iconst 0, 1), (29, .ior, 1), (30, .istore_n 1, 1), (31, .iinc 2 1, 3)]
def k_10_1 : Cl := [(34, .goto (-30), 3), (37, .iload_n 1, 1), (38, .ireturn, 1)]
def r_10 : MR := (7, yL_outs, cL_outs, 3, (Option.some FieldType.int), [k_10_0, k_10_1])
abbrev Lw_acts : Nat := 11
def k_11_0 : Cl := [(0, .iload_n 2, 1), (1, .iconst 3, 1), (2, .ishr, 1), (3, .istore_n 3, 1), (4, .iload_n 2, 1), (5, .bipush 7, 2), (7, .iand, 1), (8, .ifCond .ne 50, 3), (11, .aload_n 1, 1), (12, .invokestatic 36, 3), (15, .invokestatic 40, 3), (18, .istore 4, 2), (20, .aload_n 1, 1), (21, .iconst 5, 1), (22, .iconst 0, 1), (23, .iastore, 1), (24, .aload_n 0, 1), (25, .invokevirtual 43, 3), (28, .iload 4, 2), (30, .ifCond .ne 8, 3)]
def k_11_1 : Cl := [(33, .bipush (-2), 2), (35, .goto 5, 3), (38, .iload 4, 2), (40, .if_icmp .ne 16, 3), (43, .iload 4, 2), (45, .ifCond .ne 7, 3), (48, .iconst 0, 1), (49, .goto 8, 3), (52, .iconst 1, 1), (53, .goto 4, 3), (56, .iconst (-1), 1), (57, .ireturn, 1), (58, .iload_n 2, 1), (59, .bipush 7, 2), (61, .iand, 1), (62, .iconst 1, 1), (63, .if_icmp .ne 74, 3)]
def k_11_2 : Cl := [(66, .aload_n 1, 1), (67, .iconst 1, 1), (68, .iaload, 1), (69, .ifCond .le 68, 3), (72, .iload_n 3, 1), (73, .aload_n 1, 1), (74, .iconst 1, 1), (75, .iaload, 1), (76, .irem, 1), (77, .istore 4, 2), (79, .aload_n 1, 1), (80, .iconst 3, 1), (81, .iaload, 1), (82, .istore 5, 2), (84, .aload_n 1, 1), (85, .iconst 3, 1), (86, .dup2, 1), (87, .iaload, 1), (88, .iconst 1, 1), (89, .iload 4, 2), (91, .ishl, 1), (92, .ior, 1), (93, .iastore, 1), (94, .aload_n 0, 1), (95, .iload 4, 2)]
def k_11_3 : Cl := [(97, .invokevirtual 46, 3), (100, .iload 5, 2), (102, .aload_n 1, 1), (103, .iconst 3, 1), (104, .iaload, 1), (105, .if_icmp .ne 8, 3), (108, .bipush (-2), 2), (110, .goto 6, 3), (113, .aload_n 1, 1), (114, .iconst 3, 1), (115, .iaload, 1), (116, .if_icmp .ne 19, 3), (119, .iload 5, 2), (121, .aload_n 1, 1), (122, .iconst 3, 1), (123, .iaload, 1), (124, .if_icmp .ne 7, 3), (127, .iconst 0, 1)]
def k_11_4 : Cl := [(128, .goto 8, 3), (131, .iconst 1, 1), (132, .goto 4, 3), (135, .iconst (-1), 1), (136, .ireturn, 1), (137, .iload_n 3, 1), (138, .aload_n 1, 1), (139, .iconst 0, 1), (140, .iaload, 1), (141, .irem, 1), (142, .istore 4, 2), (144, .iload_n 2, 1), (145, .bipush 7, 2), (147, .iand, 1), (148, .iconst 4, 1), (149, .if_icmp .ge 7, 3), (152, .iconst 0, 1), (153, .goto 4, 3), (156, .iconst 1, 1), (157, .istore 5, 2), (159, .aload_n 1, 1)]
def k_11_5 : Cl := [(160, .aload_n 1, 1), (161, .iconst 5, 1), (162, .iaload, 1), (163, .iload 4, 2), (165, .iload 5, 2), (167, .aload_n 1, 1), (168, .iconst 3, 1), (169, .iaload, 1), (170, .invokestatic 49, 3), (173, .istore 6, 2), (175, .iload 6, 2), (177, .ifCond .ge 22, 3), (180, .aload_n 0, 1), (181, .iload 4, 2), (183, .iload 5, 2), (185, .invokevirtual 53, 3), (188, .bipush (-2), 2), (190, .if_icmp .ne 7, 3)]
def k_11_6 : Cl := [(193, .iconst 0, 1), (194, .goto 4, 3), (197, .iconst (-1), 1), (198, .ireturn, 1), (199, .aload_n 1, 1), (200, .iconst 5, 1), (201, .iload 6, 2), (203, .iastore, 1), (204, .aload_n 0, 1), (205, .iload 4, 2), (207, .iload 5, 2), (209, .invokevirtual 53, 3), (212, .iload 6, 2), (214, .if_icmp .ne 7, 3), (217, .iconst 1, 1), (218, .goto 4, 3), (221, .iconst (-1), 1), (222, .ireturn, 1)]
def r_11 : MR := (7, yL_acts, cL_acts, 7, (Option.some FieldType.int), [k_11_0, k_11_1, k_11_2, k_11_3, k_11_4, k_11_5, k_11_6])
abbrev Lw_hash : Nat := 12
def k_12_0 : Cl := [(0, .ldc2_w 121, 3), (3, .lstore_n 2, 1), (4, .iconst 0, 1), (5, .istore 4, 2), (7, .iload 4, 2), (9, .bipush 8, 2), (11, .if_icmp .ge 23, 3), (14, .ldc2_w 123, 3), (17, .lload_n 2, 1), (18, .lmul, 1), (19, .aload_n 0, 1), (20, .iload 4, 2), (22, .invokevirtual 56, 3), (25, .i2l, 1), (26, .ladd, 1), (27, .lstore_n 2, 1), (28, .iinc 4 1, 3), (31, .goto (-24), 3)]
def k_12_1 : Cl := [(34, .iconst 0, 1), (35, .istore 4, 2), (37, .iload 4, 2), (39, .aload_n 1, 1), (40, .iconst 0, 1), (41, .iaload, 1), (42, .if_icmp .ge 37, 3), (45, .ldc2_w 123, 3), (48, .ldc2_w 123, 3), (51, .lload_n 2, 1), (52, .lmul, 1), (53, .aload_n 0, 1), (54, .iload 4, 2), (56, .iconst 3, 1), (57, .invokevirtual 63, 3), (60, .i2l, 1), (61, .ladd, 1), (62, .lmul, 1), (63, .aload_n 0, 1)]
def k_12_2 : Cl := [(64, .iload 4, 2), (66, .iconst 4, 1), (67, .invokevirtual 63, 3), (70, .i2l, 1), (71, .ladd, 1), (72, .lstore_n 2, 1), (73, .iinc 4 1, 3), (76, .goto (-39), 3), (79, .lload_n 2, 1), (80, .lreturn, 1)]
def r_12 : MR := (7, yL_hash, cL_hash, 5, (Option.some FieldType.long), [k_12_0, k_12_1, k_12_2])
abbrev Lw_stands : Nat := 13
def k_13_0 : Cl := [(0, .iconst 0, 1), (1, .istore_n 2, 1), (2, .iconst 0, 1), (3, .istore_n 3, 1), (4, .iconst 0, 1), (5, .istore 4, 2), (7, .iconst 1, 1), (8, .istore 5, 2), (10, .aload_n 1, 1), (11, .iconst 0, 1), (12, .iaload, 1), (13, .iconst 1, 1), (14, .isub, 1), (15, .istore 6, 2), (17, .iload 6, 2), (19, .ifCond .lt 127, 3), (22, .iload 5, 2), (24, .ifCond .eq 122, 3), (27, .aload_n 0, 1), (28, .iload 6, 2), (30, .iconst 2, 1), (31, .invokevirtual 63, 3)]
def k_13_1 : Cl := [(34, .istore 7, 2), (36, .iload 7, 2), (38, .ifCond .lt 56, 3), (41, .iload 7, 2), (43, .aload_n 0, 1), (44, .iload 6, 2), (46, .iconst 1, 1), (47, .invokevirtual 63, 3), (50, .if_icmp .gt 44, 3), (53, .iload 7, 2), (55, .ifCond .gt 13, 3), (58, .aload_n 0, 1), (59, .iload 6, 2), (61, .iconst 3, 1), (62, .invokevirtual 63, 3)]
def k_13_2 : Cl := [(65, .ifCond .ne 29, 3), (68, .iload 7, 2), (70, .aload_n 0, 1), (71, .iload 6, 2), (73, .iconst 1, 1), (74, .invokevirtual 63, 3), (77, .if_icmp .lt 13, 3), (80, .aload_n 0, 1), (81, .iload 6, 2), (83, .iconst 4, 1), (84, .invokevirtual 63, 3), (87, .ifCond .ne 7, 3), (90, .iconst 1, 1), (91, .goto 4, 3), (94, .iconst 0, 1), (95, .istore 5, 2)]
def k_13_3 : Cl := [(97, .iload_n 2, 1), (98, .aload_n 0, 1), (99, .iload 6, 2), (101, .iconst 3, 1), (102, .invokevirtual 63, 3), (105, .aload_n 0, 1), (106, .iload 6, 2), (108, .iconst 4, 1), (109, .invokevirtual 63, 3), (112, .iadd, 1), (113, .iadd, 1), (114, .istore_n 2, 1), (115, .iload_n 3, 1), (116, .iload 7, 2), (118, .ifCond .le 10, 3), (121, .iconst 1, 1), (122, .iload 6, 2), (124, .ishl, 1), (125, .goto 4, 3)]
def k_13_4 : Cl := [(128, .iconst 0, 1), (129, .ior, 1), (130, .istore_n 3, 1), (131, .iconst 4, 1), (132, .iload 4, 2), (134, .imul, 1), (135, .iload 7, 2), (137, .iadd, 1), (138, .istore 4, 2), (140, .iinc 6 (-1), 3), (143, .goto (-126), 3), (146, .aload_n 0, 1), (147, .iconst 2, 1), (148, .invokevirtual 56, 3), (151, .istore 6, 2), (153, .iconst 0, 1), (154, .istore 7, 2), (156, .iload 7, 2), (158, .aload_n 1, 1), (159, .iconst 1, 1)]
def k_13_5 : Cl := [(160, .iaload, 1), (161, .if_icmp .ge 168, 3), (164, .iload 5, 2), (166, .ifCond .eq 163, 3), (169, .aload_n 0, 1), (170, .iconst 5, 1), (171, .invokevirtual 56, 3), (174, .iload 7, 2), (176, .ishr, 1), (177, .iconst 1, 1), (178, .iand, 1), (179, .aload_n 0, 1), (180, .iload 7, 2), (182, .iconst 4, 1), (183, .invokevirtual 66, 3), (186, .if_icmp .ne 134, 3), (189, .aload_n 0, 1), (190, .iload 7, 2)]
def k_13_6 : Cl := [(192, .iconst 5, 1), (193, .invokevirtual 66, 3), (196, .aload_n 0, 1), (197, .iload 7, 2), (199, .iconst 3, 1), (200, .invokevirtual 66, 3), (203, .aload_n 0, 1), (204, .aload_n 0, 1), (205, .iload 7, 2), (207, .iconst 2, 1), (208, .invokevirtual 66, 3), (211, .iconst 2, 1), (212, .invokevirtual 63, 3), (215, .ishr, 1), (216, .iconst 1, 1), (217, .iand, 1), (218, .if_icmp .ne 102, 3), (221, .aload_n 0, 1), (222, .iload 7, 2)]
def k_13_7 : Cl := [(224, .iconst 4, 1), (225, .invokevirtual 66, 3), (228, .iconst 1, 1), (229, .if_icmp .eq 39, 3), (232, .aload_n 0, 1), (233, .iload 7, 2), (235, .iconst 5, 1), (236, .invokevirtual 66, 3), (239, .iconst 1, 1), (240, .if_icmp .eq 28, 3), (243, .aload_n 0, 1), (244, .iload 7, 2), (246, .iconst 1, 1), (247, .invokevirtual 66, 3), (250, .ifCond .eq 18, 3), (253, .aload_n 0, 1), (254, .aload_n 0, 1), (255, .iload 7, 2)]
def k_13_8 : Cl := [(257, .iconst 0, 1), (258, .invokevirtual 66, 3), (261, .iconst 4, 1), (262, .invokevirtual 63, 3), (265, .ifCond .ne 55, 3), (268, .aload_n 0, 1), (269, .iload 7, 2), (271, .iconst 4, 1), (272, .invokevirtual 66, 3), (275, .iconst 1, 1), (276, .if_icmp .eq 40, 3), (279, .aload_n 0, 1), (280, .iload 7, 2), (282, .iconst 5, 1), (283, .invokevirtual 66, 3), (286, .iconst 1, 1), (287, .if_icmp .eq 29, 3)]
def k_13_9 : Cl := [(290, .aload_n 0, 1), (291, .iload 7, 2), (293, .iconst 1, 1), (294, .invokevirtual 66, 3), (297, .iconst 1, 1), (298, .if_icmp .eq 18, 3), (301, .aload_n 0, 1), (302, .aload_n 0, 1), (303, .iload 7, 2), (305, .iconst 0, 1), (306, .invokevirtual 66, 3), (309, .iconst 3, 1), (310, .invokevirtual 63, 3), (313, .ifCond .ne 7, 3), (316, .iconst 1, 1), (317, .goto 4, 3)]
def k_13_10 : Cl := [(320, .iconst 0, 1), (321, .istore 5, 2), (323, .iinc 7 1, 3), (326, .goto (-170), 3), (329, .iload 5, 2), (331, .ifCond .eq 67, 3), (334, .iload_n 2, 1), (335, .aload_n 0, 1), (336, .bipush 6, 2), (338, .invokevirtual 56, 3), (341, .if_icmp .ne 57, 3), (344, .iload_n 3, 1), (345, .aload_n 0, 1), (346, .iconst 4, 1), (347, .invokevirtual 56, 3), (350, .if_icmp .ne 48, 3)]
def k_13_11 : Cl := [(353, .iload 4, 2), (355, .aload_n 0, 1), (356, .bipush 7, 2), (358, .invokevirtual 56, 3), (361, .if_icmp .ne 37, 3), (364, .aload_n 0, 1), (365, .iconst 3, 1), (366, .invokevirtual 56, 3), (369, .aload_n 0, 1), (370, .iload 6, 2), (372, .iconst 2, 1), (373, .invokevirtual 63, 3), (376, .aload_n 0, 1), (377, .iload 6, 2), (379, .iconst 1, 1), (380, .invokevirtual 63, 3), (383, .if_icmp .ne 7, 3)]
def k_13_12 : Cl := [(386, .iconst 1, 1), (387, .goto 4, 3), (390, .iconst 0, 1), (391, .if_icmp .ne 7, 3), (394, .iconst 1, 1), (395, .goto 4, 3), (398, .iconst 0, 1), (399, .ireturn, 1)]
def r_13 : MR := (7, yL_stands, cL_stands, 8, (Option.some FieldType.boolean), [k_13_0, k_13_1, k_13_2, k_13_3, k_13_4, k_13_5, k_13_6, k_13_7, k_13_8, k_13_9, k_13_10, k_13_11, k_13_12])
abbrev Lw_opened : Nat := 14
def k_14_0 : Cl := [(0, .aload_n 0, 1), (1, .iconst (-1), 1), (2, .invokevirtual 125, 3), (5, .istore 4, 2), (7, .aload_n 0, 1), (8, .invokevirtual 128, 3), (11, .istore 5, 2), (13, .aload_n 0, 1), (14, .iconst 0, 1), (15, .invokevirtual 131, 3), (18, .istore 6, 2), (20, .aload_n 0, 1), (21, .iconst 1, 1), (22, .invokevirtual 131, 3), (25, .istore 7, 2), (27, .aload_n 0, 1), (28, .iconst 2, 1), (29, .invokevirtual 131, 3)]
def k_14_1 : Cl := [(32, .istore 8, 2), (34, .iload 6, 2), (36, .ifCond .le 136, 3), (39, .iload 6, 2), (41, .sipush 256, 3), (44, .if_icmp .gt 128, 3), (47, .iload 7, 2), (49, .ifCond .lt 123, 3), (52, .iload 7, 2), (54, .iload 6, 2), (56, .if_icmp .ge 116, 3), (59, .iload 8, 2), (61, .ifCond .lt 111, 3)]
def k_14_2 : Cl := [(64, .iload 8, 2), (66, .iload 6, 2), (68, .if_icmp .gt 104, 3), (71, .iload 4, 2), (73, .bipush (-4), 2), (75, .if_icmp .ne 7, 3), (78, .iconst 1, 1), (79, .goto 4, 3), (82, .iconst 0, 1), (83, .iload 8, 2), (85, .iload 6, 2), (87, .if_icmp .ne 7, 3), (90, .iconst 1, 1), (91, .goto 4, 3), (94, .iconst 0, 1), (95, .if_icmp .ne 77, 3)]
def k_14_3 : Cl := [(98, .iload 4, 2), (100, .bipush (-4), 2), (102, .if_icmp .ne 11, 3), (105, .iload 5, 2), (107, .ifCond .ne 65, 3), (110, .goto 20, 3), (113, .iload 4, 2), (115, .ifCond .lt 57, 3), (118, .iload 4, 2), (120, .iload 7, 2), (122, .if_icmp .gt 50, 3), (125, .iload 5, 2), (127, .ifCond .lt 45, 3)]
def k_14_4 : Cl := [(130, .iload 4, 2), (132, .ifCond .ne 7, 3), (135, .iconst 1, 1), (136, .goto 4, 3), (139, .iconst 0, 1), (140, .aload_n 0, 1), (141, .iconst 3, 1), (142, .invokevirtual 56, 3), (145, .iconst 1, 1), (146, .if_icmp .ne 7, 3), (149, .iconst 1, 1), (150, .goto 4, 3), (153, .iconst 0, 1), (154, .if_icmp .ne 18, 3), (157, .iload 4, 2), (159, .ifCond .ne 9, 3)]
def k_14_5 : Cl := [(162, .iload 5, 2), (164, .iconst 1, 1), (165, .if_icmp .ne 7, 3), (168, .iconst 1, 1), (169, .goto 4, 3), (172, .iconst 0, 1), (173, .istore 9, 2), (175, .iconst 0, 1), (176, .istore 10, 2), (178, .iload 10, 2), (180, .iload 4, 2), (182, .if_icmp .ge 175, 3), (185, .iload 9, 2), (187, .ifCond .eq 170, 3), (190, .aload_n 0, 1), (191, .iconst 0, 1)]
def k_14_6 : Cl := [(192, .invokevirtual 125, 3), (195, .istore 11, 2), (197, .iconst 0, 1), (198, .istore 12, 2), (200, .iload 12, 2), (202, .iconst 2, 1), (203, .iload 11, 2), (205, .bipush 10, 2), (207, .idiv, 1), (208, .imul, 1), (209, .iload 11, 2), (211, .bipush 10, 2), (213, .irem, 1), (214, .iadd, 1), (215, .if_icmp .ge 84, 3), (218, .iload 9, 2), (220, .ifCond .eq 79, 3), (223, .aload_n 0, 1)]
def k_14_7 : Cl := [(224, .iload 12, 2), (226, .iconst 2, 1), (227, .idiv, 1), (228, .iconst 3, 1), (229, .iload 12, 2), (231, .iconst 2, 1), (232, .irem, 1), (233, .iadd, 1), (234, .invokevirtual 63, 3), (237, .iconst 1, 1), (238, .if_icmp .ne 55, 3), (241, .aload_n 0, 1), (242, .iload 12, 2), (244, .iconst 2, 1), (245, .idiv, 1), (246, .iload 12, 2), (248, .iconst 2, 1), (249, .irem, 1), (250, .invokevirtual 53, 3), (253, .ifCond .lt 37, 3)]
def k_14_8 : Cl := [(256, .aload_n 0, 1), (257, .iconst (-1), 1), (258, .invokevirtual 125, 3), (261, .bipush (-4), 2), (263, .if_icmp .eq 16, 3), (266, .aload_n 0, 1), (267, .iconst (-1), 1), (268, .invokevirtual 125, 3), (271, .iload 4, 2), (273, .iload 10, 2), (275, .isub, 1), (276, .if_icmp .lt 14, 3), (279, .aload_n 0, 1), (280, .invokevirtual 115, 3), (283, .ifCond .lt 7, 3), (286, .iconst 1, 1), (287, .goto 4, 3)]
def k_14_9 : Cl := [(290, .iconst 0, 1), (291, .istore 9, 2), (293, .iinc 12 1, 3), (296, .goto (-96), 3), (299, .iload 9, 2), (301, .ifCond .eq 47, 3), (304, .aload_n 0, 1), (305, .iconst 3, 1), (306, .invokevirtual 56, 3), (309, .ifCond .ne 39, 3), (312, .aload_n 0, 1), (313, .iload 11, 2), (315, .bipush 10, 2), (317, .idiv, 1), (318, .iload 11, 2)]
def k_14_10 : Cl := [(320, .bipush 10, 2), (322, .irem, 1), (323, .invokevirtual 53, 3), (326, .ifCond .lt 22, 3), (329, .aload_n 0, 1), (330, .iconst (-1), 1), (331, .invokevirtual 125, 3), (334, .iload 4, 2), (336, .iconst 1, 1), (337, .isub, 1), (338, .iload 10, 2), (340, .isub, 1), (341, .if_icmp .ne 7, 3), (344, .iconst 1, 1), (345, .goto 4, 3), (348, .iconst 0, 1), (349, .istore 9, 2), (351, .iinc 10 1, 3)]
def k_14_11 : Cl := [(354, .goto (-176), 3), (357, .iload 9, 2), (359, .ifCond .eq 49, 3), (362, .iload 4, 2), (364, .ifCond .lt 22, 3), (367, .aload_n 0, 1), (368, .iconst 3, 1), (369, .invokevirtual 56, 3), (372, .iconst 1, 1), (373, .if_icmp .ne 35, 3), (376, .aload_n 0, 1), (377, .iconst 0, 1), (378, .invokevirtual 125, 3), (381, .bipush (-4), 2), (383, .if_icmp .ne 25, 3)]
def k_14_12 : Cl := [(386, .aload_n 0, 1), (387, .invokevirtual 118, 3), (390, .iconst 1, 1), (391, .if_icmp .ne 17, 3), (394, .aload_n 0, 1), (395, .aload_n 1, 1), (396, .invokestatic 85, 3), (399, .lload_n 2, 1), (400, .lcmp, 1), (401, .ifCond .ne 7, 3), (404, .iconst 1, 1), (405, .goto 4, 3), (408, .iconst 0, 1), (409, .ireturn, 1)]
def r_14 : MR := (7, yL_opened, cL_opened, 13, (Option.some FieldType.boolean), [k_14_0, k_14_1, k_14_2, k_14_3, k_14_4, k_14_5, k_14_6, k_14_7, k_14_8, k_14_9, k_14_10, k_14_11, k_14_12])
abbrev Lw_went : Nat := 15
def k_15_0 : Cl := [(0, .aload_n 0, 1), (1, .iconst 2, 1), (2, .iconst 0, 1), (3, .bipush 9, 2), (5, .invokevirtual 134, 3), (8, .bipush 9, 2), (10, .if_icmp .ne 7, 3), (13, .iconst 1, 1), (14, .goto 4, 3), (17, .iconst 0, 1), (18, .istore 5, 2), (20, .iconst 0, 1), (21, .istore 6, 2), (23, .iload 6, 2), (25, .aload_n 2, 1), (26, .iconst 0, 1), (27, .iaload, 1), (28, .if_icmp .ge 58, 3), (31, .iload 5, 2)]
def k_15_1 : Cl := [(33, .ifCond .eq 53, 3), (36, .aload_n 0, 1), (37, .iconst 2, 1), (38, .iconst 0, 1), (39, .iload 6, 2), (41, .aload_n 1, 1), (42, .bipush 11, 2), (44, .invokestatic 15, 3), (47, .iconst 3, 1), (48, .iload 6, 2), (50, .imul, 1), (51, .ishr, 1), (52, .bipush 7, 2), (54, .iand, 1), (55, .aload_n 0, 1), (56, .iload 6, 2), (58, .iconst 1, 1), (59, .invokevirtual 63, 3), (62, .iconst 1, 1), (63, .iadd, 1)]
def k_15_2 : Cl := [(64, .irem, 1), (65, .i2l, 1), (66, .invokevirtual 138, 3), (69, .iconst 1, 1), (70, .if_icmp .ne 7, 3), (73, .iconst 1, 1), (74, .goto 4, 3), (77, .iconst 0, 1), (78, .istore 5, 2), (80, .iinc 6 1, 3), (83, .goto (-60), 3), (86, .iload 5, 2), (88, .ifCond .eq 14, 3), (91, .aload_n 0, 1), (92, .iconst 2, 1), (93, .iconst 0, 1), (94, .iconst 0, 1), (95, .iconst (-1), 1)]
def k_15_3 : Cl := [(96, .invokevirtual 142, 3), (99, .goto 4, 3), (102, .iconst 0, 1), (103, .istore 6, 2), (105, .iload 5, 2), (107, .ifCond .eq 24, 3), (110, .iload 6, 2), (112, .bipush (-4), 2), (114, .if_icmp .lt 17, 3), (117, .iload 6, 2), (119, .aload_n 0, 1), (120, .iconst 1, 1), (121, .invokevirtual 131, 3), (124, .if_icmp .gt 7, 3), (127, .iconst 1, 1)]
def k_15_4 : Cl := [(128, .goto 4, 3), (131, .iconst 0, 1), (132, .istore 5, 2), (134, .iconst 0, 1), (135, .istore 7, 2), (137, .iload 7, 2), (139, .iload 6, 2), (141, .if_icmp .ge 71, 3), (144, .iload 5, 2), (146, .ifCond .eq 66, 3), (149, .aload_n 0, 1), (150, .iconst 2, 1), (151, .iconst 0, 1), (152, .iconst 0, 1), (153, .iconst 0, 1), (154, .invokevirtual 142, 3), (157, .istore 8, 2), (159, .iload 8, 2)]
def k_15_5 : Cl := [(161, .ifCond .lt 42, 3), (164, .aload_n 0, 1), (165, .iload 8, 2), (167, .bipush 10, 2), (169, .idiv, 1), (170, .iload 8, 2), (172, .bipush 10, 2), (174, .irem, 1), (175, .invokevirtual 53, 3), (178, .ifCond .lt 25, 3), (181, .aload_n 0, 1), (182, .iconst 2, 1), (183, .iconst 0, 1), (184, .iconst 0, 1), (185, .iconst (-1), 1), (186, .invokevirtual 142, 3), (189, .iload 6, 2), (191, .iconst 1, 1)]
def k_15_6 : Cl := [(192, .isub, 1), (193, .iload 7, 2), (195, .isub, 1), (196, .if_icmp .ne 7, 3), (199, .iconst 1, 1), (200, .goto 4, 3), (203, .iconst 0, 1), (204, .istore 5, 2), (206, .iinc 7 1, 3), (209, .goto (-72), 3), (212, .iload 5, 2), (214, .ifCond .eq 47, 3), (217, .iload 6, 2), (219, .ifCond .lt 38, 3), (222, .aload_n 0, 1), (223, .iconst 2, 1)]
def k_15_7 : Cl := [(224, .iconst 0, 1), (225, .iconst 5, 1), (226, .invokevirtual 146, 3), (229, .aload_n 2, 1), (230, .iconst 0, 1), (231, .iaload, 1), (232, .if_icmp .ne 29, 3), (235, .aload_n 0, 1), (236, .iconst 2, 1), (237, .iconst 0, 1), (238, .iconst 5, 1), (239, .iconst (-1), 1), (240, .invokevirtual 142, 3), (243, .ifCond .ne 18, 3), (246, .aload_n 0, 1), (247, .iconst 2, 1), (248, .iconst 0, 1), (249, .iconst 0, 1), (250, .iconst (-1), 1), (251, .invokevirtual 142, 3), (254, .ifCond .ne 7, 3)]
def k_15_8 : Cl := [(257, .iconst 1, 1), (258, .goto 4, 3), (261, .iconst 0, 1), (262, .istore 5, 2), (264, .iload 5, 2), (266, .ifCond .eq 35, 3), (269, .aload_n 0, 1), (270, .invokevirtual 118, 3), (273, .iconst 1, 1), (274, .if_icmp .ne 27, 3), (277, .aload_n 0, 1), (278, .iconst 2, 1), (279, .invokevirtual 149, 3), (282, .bipush 9, 2), (284, .if_icmp .ne 17, 3), (287, .aload_n 0, 1)]
def k_15_9 : Cl := [(288, .aload_n 2, 1), (289, .invokestatic 85, 3), (292, .lload_n 3, 1), (293, .lcmp, 1), (294, .ifCond .ne 7, 3), (297, .iconst 1, 1), (298, .goto 4, 3), (301, .iconst 0, 1), (302, .ireturn, 1)]
def r_15 : MR := (7, yL_went, cL_went, 9, (Option.some FieldType.boolean), [k_15_0, k_15_1, k_15_2, k_15_3, k_15_4, k_15_5, k_15_6, k_15_7, k_15_8, k_15_9])
abbrev Lw_filed : Nat := 16
def k_16_0 : Cl := [(0, .aload_n 0, 1), (1, .iconst (-1), 1), (2, .invokevirtual 125, 3), (5, .istore 5, 2), (7, .aload_n 0, 1), (8, .iconst 0, 1), (9, .invokevirtual 152, 3), (12, .istore 6, 2), (14, .aload_n 0, 1), (15, .iconst 1, 1), (16, .invokevirtual 152, 3), (19, .istore 7, 2), (21, .iload 6, 2), (23, .bipush (-4), 2), (25, .if_icmp .ne 7, 3), (28, .iconst 1, 1), (29, .goto 4, 3)]
def k_16_1 : Cl := [(32, .iconst 0, 1), (33, .iload 7, 2), (35, .bipush (-4), 2), (37, .if_icmp .ne 7, 3), (40, .iconst 1, 1), (41, .goto 4, 3), (44, .iconst 0, 1), (45, .if_icmp .ne 32, 3), (48, .iload 6, 2), (50, .bipush (-4), 2), (52, .if_icmp .eq 21, 3), (55, .aload_n 0, 1), (56, .iconst 5, 1), (57, .invokevirtual 56, 3), (60, .iload 6, 2), (62, .ishr, 1), (63, .iconst 1, 1)]
def k_16_2 : Cl := [(64, .iand, 1), (65, .ifCond .ne 12, 3), (68, .iload 7, 2), (70, .ifCond .lt 7, 3), (73, .iconst 1, 1), (74, .goto 4, 3), (77, .iconst 0, 1), (78, .istore 8, 2), (80, .iconst 0, 1), (81, .istore 9, 2), (83, .iload 9, 2), (85, .aload_n 2, 1), (86, .iconst 1, 1), (87, .iaload, 1), (88, .if_icmp .ge 150, 3), (91, .iload 8, 2), (93, .ifCond .eq 145, 3)]
def k_16_3 : Cl := [(96, .aload_n 0, 1), (97, .iconst 5, 1), (98, .invokevirtual 56, 3), (101, .iload 9, 2), (103, .ishr, 1), (104, .iconst 1, 1), (105, .iand, 1), (106, .ifCond .ne 126, 3), (109, .aload_n 0, 1), (110, .iload 9, 2), (112, .invokevirtual 46, 3), (115, .ifCond .ge 8, 3), (118, .bipush (-9), 2), (120, .goto 8, 3), (123, .aload_n 0, 1), (124, .iconst (-1), 1), (125, .invokevirtual 125, 3)]
def k_16_4 : Cl := [(128, .istore 10, 2), (130, .iload 9, 2), (132, .iload 6, 2), (134, .if_icmp .ne 18, 3), (137, .iload 10, 2), (139, .iload 7, 2), (141, .if_icmp .ne 7, 3), (144, .iconst 1, 1), (145, .goto 48, 3), (148, .iconst 0, 1), (149, .goto 44, 3), (152, .iload 10, 2), (154, .bipush (-4), 2), (156, .if_icmp .eq 32, 3), (159, .iload 6, 2)]
def k_16_5 : Cl := [(161, .ifCond .lt 31, 3), (164, .iload 9, 2), (166, .iload 6, 2), (168, .if_icmp .ge 13, 3), (171, .iload 10, 2), (173, .iload 7, 2), (175, .if_icmp .le 17, 3), (178, .goto 10, 3), (181, .iload 10, 2), (183, .iload 7, 2), (185, .if_icmp .lt 7, 3), (188, .iconst 1, 1), (189, .goto 4, 3)]
def k_16_6 : Cl := [(192, .iconst 0, 1), (193, .istore 8, 2), (195, .iload 8, 2), (197, .ifCond .eq 32, 3), (200, .iload 5, 2), (202, .ifCond .lt 15, 3), (205, .iload 10, 2), (207, .ifCond .lt 22, 3), (210, .iload 10, 2), (212, .iload 5, 2), (214, .if_icmp .gt 15, 3), (217, .aload_n 0, 1), (218, .invokevirtual 118, 3), (221, .iconst 1, 1), (222, .if_icmp .ne 7, 3)]
def k_16_7 : Cl := [(225, .iconst 1, 1), (226, .goto 4, 3), (229, .iconst 0, 1), (230, .istore 8, 2), (232, .iinc 9 1, 3), (235, .goto (-152), 3), (238, .aload_n 1, 1), (239, .bipush 12, 2), (241, .invokestatic 15, 3), (244, .bipush 61, 2), (246, .irem, 1), (247, .istore 9, 2), (249, .aload_n 0, 1), (250, .iload 9, 2), (252, .iconst 0, 1), (253, .invokevirtual 155, 3)]
def k_16_8 : Cl := [(256, .istore 10, 2), (258, .aload_n 0, 1), (259, .iload 9, 2), (261, .iconst 1, 1), (262, .invokevirtual 155, 3), (265, .istore 11, 2), (267, .iload 8, 2), (269, .ifCond .eq 75, 3), (272, .iload 10, 2), (274, .bipush (-4), 2), (276, .if_icmp .ne 13, 3), (279, .iload 11, 2), (281, .bipush (-4), 2), (283, .if_icmp .ne 61, 3), (286, .goto 54, 3)]
def k_16_9 : Cl := [(289, .iload 10, 2), (291, .iload 11, 2), (293, .invokestatic 40, 3), (296, .if_icmp .ne 48, 3), (299, .iload 11, 2), (301, .aload_n 0, 1), (302, .iconst 5, 1), (303, .invokevirtual 56, 3), (306, .iand, 1), (307, .ifCond .ne 37, 3), (310, .iload 10, 2), (312, .ifCond .ne 7, 3), (315, .iconst 1, 1), (316, .goto 4, 3), (319, .iconst 0, 1)]
def k_16_10 : Cl := [(320, .iload 5, 2), (322, .ifCond .lt 14, 3), (325, .iload 5, 2), (327, .iload 9, 2), (329, .if_icmp .gt 7, 3), (332, .iconst 1, 1), (333, .goto 4, 3), (336, .iconst 0, 1), (337, .if_icmp .ne 7, 3), (340, .iconst 1, 1), (341, .goto 4, 3), (344, .iconst 0, 1), (345, .istore 8, 2), (347, .iconst 0, 1), (348, .istore 12, 2), (350, .iload 12, 2)]
def k_16_11 : Cl := [(352, .aload_n 2, 1), (353, .iconst 1, 1), (354, .iaload, 1), (355, .if_icmp .ge 45, 3), (358, .iload 8, 2), (360, .ifCond .eq 40, 3), (363, .iload 11, 2), (365, .ifCond .le 35, 3), (368, .iload 11, 2), (370, .iload 12, 2), (372, .ishr, 1), (373, .iconst 1, 1), (374, .iand, 1), (375, .ifCond .eq 12, 3), (378, .aload_n 0, 1), (379, .iload 12, 2), (381, .invokevirtual 46, 3)]
def k_16_12 : Cl := [(384, .ifCond .lt 7, 3), (387, .iconst 1, 1), (388, .goto 4, 3), (391, .iconst 0, 1), (392, .istore 8, 2), (394, .iinc 12 1, 3), (397, .goto (-47), 3), (400, .iload 8, 2), (402, .ifCond .eq 40, 3), (405, .iload 11, 2), (407, .ifCond .lt 31, 3), (410, .aload_n 0, 1), (411, .iconst (-1), 1), (412, .invokevirtual 125, 3), (415, .ifCond .lt 27, 3)]
def k_16_13 : Cl := [(418, .aload_n 0, 1), (419, .iconst (-1), 1), (420, .invokevirtual 125, 3), (423, .iload 9, 2), (425, .if_icmp .gt 17, 3), (428, .aload_n 0, 1), (429, .iload 9, 2), (431, .iconst 0, 1), (432, .invokevirtual 155, 3), (435, .ifCond .ne 7, 3), (438, .iconst 1, 1), (439, .goto 4, 3), (442, .iconst 0, 1), (443, .istore 8, 2), (445, .iload 8, 2), (447, .ifCond .eq 25, 3)]
def k_16_14 : Cl := [(450, .aload_n 0, 1), (451, .invokevirtual 118, 3), (454, .iconst 1, 1), (455, .if_icmp .ne 17, 3), (458, .aload_n 0, 1), (459, .aload_n 2, 1), (460, .invokestatic 85, 3), (463, .lload_n 3, 1), (464, .lcmp, 1), (465, .ifCond .ne 7, 3), (468, .iconst 1, 1), (469, .goto 4, 3), (472, .iconst 0, 1), (473, .ireturn, 1)]
def r_16 : MR := (7, yL_filed, cL_filed, 13, (Option.some FieldType.boolean), [k_16_0, k_16_1, k_16_2, k_16_3, k_16_4, k_16_5, k_16_6, k_16_7, k_16_8, k_16_9, k_16_10, k_16_11, k_16_12, k_16_13, k_16_14])
abbrev Lw_played : Nat := 17
def k_17_0 : Cl := [(0, .aload_n 0, 1), (1, .iconst 0, 1), (2, .invokevirtual 158, 3), (5, .istore 4, 2), (7, .aload_n 0, 1), (8, .iconst 1, 1), (9, .invokevirtual 158, 3), (12, .istore 5, 2), (14, .iload 4, 2), (16, .ifCond .lt 61, 3), (19, .iload 4, 2), (21, .iconst 3, 1), (22, .if_icmp .ge 55, 3), (25, .iload 4, 2), (27, .ifCond .gt 8, 3), (30, .iload 5, 2)]
def k_17_1 : Cl := [(32, .ifCond .ne 45, 3), (35, .aload_n 0, 1), (36, .iconst 3, 1), (37, .invokevirtual 56, 3), (40, .ifCond .ne 12, 3), (43, .aload_n 0, 1), (44, .bipush 6, 2), (46, .invokevirtual 56, 3), (49, .ifCond .gt 24, 3), (52, .iload 4, 2), (54, .iconst 2, 1), (55, .if_icmp .ne 22, 3), (58, .iload 5, 2), (60, .ifCond .ne 17, 3), (63, .aload_n 0, 1)]
def k_17_2 : Cl := [(64, .iconst 2, 1), (65, .invokevirtual 158, 3), (68, .bipush (-4), 2), (70, .if_icmp .ne 7, 3), (73, .iconst 1, 1), (74, .goto 4, 3), (77, .iconst 0, 1), (78, .istore 6, 2), (80, .iconst 0, 1), (81, .istore 7, 2), (83, .iload 7, 2), (85, .iconst 2, 1), (86, .aload_n 1, 1), (87, .iconst 0, 1), (88, .iaload, 1), (89, .imul, 1), (90, .if_icmp .ge 150, 3), (93, .iload 6, 2), (95, .ifCond .eq 145, 3)]
def k_17_3 : Cl := [(98, .aload_n 0, 1), (99, .iconst 3, 1), (100, .invokevirtual 56, 3), (103, .ifCond .ne 137, 3), (106, .aload_n 0, 1), (107, .iload 7, 2), (109, .iconst 2, 1), (110, .idiv, 1), (111, .iconst 3, 1), (112, .iload 7, 2), (114, .iconst 2, 1), (115, .irem, 1), (116, .iadd, 1), (117, .invokevirtual 63, 3), (120, .iconst 1, 1), (121, .if_icmp .ne 113, 3), (124, .aload_n 0, 1), (125, .iload 7, 2), (127, .iconst 2, 1)]
def k_17_4 : Cl := [(128, .idiv, 1), (129, .iload 7, 2), (131, .iconst 2, 1), (132, .irem, 1), (133, .invokevirtual 53, 3), (136, .ifCond .lt 7, 3), (139, .iconst 1, 1), (140, .goto 4, 3), (143, .iconst 0, 1), (144, .istore 6, 2), (146, .aload_n 0, 1), (147, .iconst 0, 1), (148, .invokevirtual 158, 3), (151, .istore 8, 2), (153, .aload_n 0, 1), (154, .iconst 1, 1), (155, .invokevirtual 158, 3), (158, .istore 9, 2)]
def k_17_5 : Cl := [(160, .iload 6, 2), (162, .ifCond .eq 69, 3), (165, .iload 4, 2), (167, .iconst 1, 1), (168, .if_icmp .ne 21, 3), (171, .iload 8, 2), (173, .iconst 2, 1), (174, .if_icmp .ne 45, 3), (177, .iload 9, 2), (179, .iload 5, 2), (181, .iconst 1, 1), (182, .isub, 1), (183, .if_icmp .lt 48, 3), (186, .goto 33, 3), (189, .iload 4, 2), (191, .iconst 2, 1)]
def k_17_6 : Cl := [(192, .if_icmp .ne 21, 3), (195, .iload 8, 2), (197, .iconst 1, 1), (198, .if_icmp .ne 33, 3), (201, .iload 9, 2), (203, .iload 5, 2), (205, .iconst 1, 1), (206, .isub, 1), (207, .if_icmp .gt 24, 3), (210, .goto 9, 3), (213, .iload 8, 2), (215, .iconst 2, 1), (216, .if_icmp .eq 15, 3), (219, .aload_n 0, 1), (220, .invokevirtual 118, 3), (223, .iconst 1, 1)]
def k_17_7 : Cl := [(224, .if_icmp .ne 7, 3), (227, .iconst 1, 1), (228, .goto 4, 3), (231, .iconst 0, 1), (232, .istore 6, 2), (234, .iinc 7 1, 3), (237, .goto (-154), 3), (240, .iload 5, 2), (242, .istore 7, 2), (244, .iconst 0, 1), (245, .istore 8, 2), (247, .iload 8, 2), (249, .bipush 20, 2), (251, .if_icmp .ge 108, 3), (254, .iload 6, 2)]
def k_17_8 : Cl := [(256, .ifCond .eq 103, 3), (259, .aload_n 0, 1), (260, .iconst 2, 1), (261, .invokevirtual 158, 3), (264, .ifCond .lt 95, 3), (267, .aload_n 0, 1), (268, .iconst 2, 1), (269, .invokevirtual 158, 3), (272, .istore 9, 2), (274, .aload_n 0, 1), (275, .iload 9, 2), (277, .bipush 10, 2), (279, .idiv, 1), (280, .iload 9, 2), (282, .bipush 10, 2), (284, .irem, 1), (285, .invokevirtual 53, 3)]
def k_17_9 : Cl := [(288, .ifCond .lt 7, 3), (291, .iconst 1, 1), (292, .goto 4, 3), (295, .iconst 0, 1), (296, .istore 6, 2), (298, .iinc 7 (-1), 3), (301, .iload 4, 2), (303, .ifCond .ne 7, 3), (306, .iconst 0, 1), (307, .goto 7, 3), (310, .iconst 3, 1), (311, .iload 4, 2), (313, .isub, 1), (314, .istore 4, 2), (316, .iload 6, 2), (318, .ifCond .eq 32, 3)]
def k_17_10 : Cl := [(321, .aload_n 0, 1), (322, .iconst 0, 1), (323, .invokevirtual 158, 3), (326, .iload 4, 2), (328, .if_icmp .ne 22, 3), (331, .iload 4, 2), (333, .ifCond .eq 13, 3), (336, .aload_n 0, 1), (337, .iconst 1, 1), (338, .invokevirtual 158, 3), (341, .iload 7, 2), (343, .if_icmp .ne 7, 3), (346, .iconst 1, 1), (347, .goto 4, 3), (350, .iconst 0, 1), (351, .istore 6, 2)]
def k_17_11 : Cl := [(353, .iinc 8 1, 3), (356, .goto (-109), 3), (359, .iload 6, 2), (361, .ifCond .eq 15, 3), (364, .aload_n 0, 1), (365, .invokevirtual 118, 3), (368, .iconst 1, 1), (369, .if_icmp .ne 7, 3), (372, .iconst 1, 1), (373, .goto 4, 3), (376, .iconst 0, 1), (377, .istore 6, 2), (379, .lconst 0, 1), (380, .lstore 8, 2), (382, .lconst 1, 1), (383, .lstore 10, 2)]
def k_17_12 : Cl := [(385, .iconst 0, 1), (386, .istore 12, 2), (388, .iload 12, 2), (390, .iconst 4, 1), (391, .if_icmp .ge 138, 3), (394, .iload 6, 2), (396, .ifCond .eq 133, 3), (399, .aload_n 0, 1), (400, .iload 12, 2), (402, .iconst 0, 1), (403, .invokevirtual 161, 3), (406, .lstore 13, 2), (408, .aload_n 0, 1), (409, .iload 12, 2), (411, .iconst 1, 1), (412, .invokevirtual 161, 3), (415, .lstore 15, 2)]
def k_17_13 : Cl := [(417, .lload 13, 2), (419, .lconst 0, 1), (420, .lcmp, 1), (421, .ifCond .lt 91, 3), (424, .lload 15, 2), (426, .lconst 0, 1), (427, .lcmp, 1), (428, .ifCond .le 84, 3), (431, .lload 13, 2), (433, .lload 15, 2), (435, .lcmp, 1), (436, .ifCond .gt 76, 3), (439, .lload 13, 2), (441, .lload 10, 2), (443, .lmul, 1), (444, .lload 8, 2), (446, .lload 15, 2)]
def k_17_14 : Cl := [(448, .lmul, 1), (449, .lcmp, 1), (450, .ifCond .lt 62, 3), (453, .iload 12, 2), (455, .ifCond .gt 15, 3), (458, .lload 13, 2), (460, .aload_n 0, 1), (461, .iconst 3, 1), (462, .invokevirtual 56, 3), (465, .i2l, 1), (466, .lcmp, 1), (467, .ifCond .ne 45, 3), (470, .lload 13, 2), (472, .lconst 0, 1), (473, .lcmp, 1), (474, .ifCond .ne 7, 3), (477, .iconst 1, 1), (478, .goto 4, 3)]
def k_17_15 : Cl := [(481, .iconst 0, 1), (482, .aload_n 0, 1), (483, .iconst (-1), 1), (484, .invokevirtual 125, 3), (487, .ifCond .lt 13, 3), (490, .aload_n 0, 1), (491, .iconst (-1), 1), (492, .invokevirtual 125, 3), (495, .iload 12, 2), (497, .if_icmp .le 7, 3), (500, .iconst 1, 1), (501, .goto 4, 3), (504, .iconst 0, 1), (505, .if_icmp .ne 7, 3), (508, .iconst 1, 1), (509, .goto 4, 3)]
def k_17_16 : Cl := [(512, .iconst 0, 1), (513, .istore 6, 2), (515, .lload 13, 2), (517, .lstore 8, 2), (519, .lload 15, 2), (521, .lstore 10, 2), (523, .iinc 12 1, 3), (526, .goto (-138), 3), (529, .iload 6, 2), (531, .ifCond .eq 17, 3), (534, .aload_n 0, 1), (535, .aload_n 1, 1), (536, .invokestatic 85, 3), (539, .lload_n 2, 1), (540, .lcmp, 1), (541, .ifCond .ne 7, 3)]
def k_17_17 : Cl := [(544, .iconst 1, 1), (545, .goto 4, 3), (548, .iconst 0, 1), (549, .ireturn, 1)]
def r_17 : MR := (7, yL_played, cL_played, 17, (Option.some FieldType.boolean), [k_17_0, k_17_1, k_17_2, k_17_3, k_17_4, k_17_5, k_17_6, k_17_7, k_17_8, k_17_9, k_17_10, k_17_11, k_17_12, k_17_13, k_17_14, k_17_15, k_17_16, k_17_17])
abbrev Lw_clicked : Nat := 18
def k_18_0 : Cl := [(0, .iconst 1, 1), (1, .aload_n 1, 1), (2, .bipush 13, 2), (4, .invokestatic 15, 3), (7, .bipush 8, 2), (9, .irem, 1), (10, .iadd, 1), (11, .istore 5, 2), (13, .aload_n 0, 1), (14, .iconst 3, 1), (15, .iconst 1, 1), (16, .bipush 16, 2), (18, .invokevirtual 134, 3), (21, .bipush 16, 2), (23, .if_icmp .ne 7, 3), (26, .iconst 1, 1), (27, .goto 4, 3), (30, .iconst 0, 1), (31, .istore 6, 2)]
def k_18_1 : Cl := [(33, .iconst 0, 1), (34, .istore 7, 2), (36, .iload 7, 2), (38, .iload 5, 2), (40, .if_icmp .ge 112, 3), (43, .iload 6, 2), (45, .ifCond .eq 107, 3), (48, .aload_n 1, 1), (49, .bipush 13, 2), (51, .invokestatic 15, 3), (54, .iconst 3, 1), (55, .iconst 2, 1), (56, .iload 7, 2), (58, .imul, 1), (59, .iadd, 1), (60, .ishr, 1), (61, .bipush 15, 2), (63, .iand, 1)]
def k_18_2 : Cl := [(64, .iconst 2, 1), (65, .aload_n 2, 1), (66, .iconst 0, 1), (67, .iaload, 1), (68, .imul, 1), (69, .irem, 1), (70, .istore 8, 2), (72, .aload_n 0, 1), (73, .iload 8, 2), (75, .iconst 2, 1), (76, .idiv, 1), (77, .iload 8, 2), (79, .iconst 2, 1), (80, .irem, 1), (81, .invokevirtual 53, 3), (84, .istore 9, 2), (86, .aload_n 0, 1), (87, .iconst 3, 1), (88, .iconst 1, 1), (89, .iconst 2, 1), (90, .iload 7, 2), (92, .imul, 1), (93, .bipush 10, 2), (95, .iload 8, 2)]
def k_18_3 : Cl := [(97, .iconst 2, 1), (98, .idiv, 1), (99, .imul, 1), (100, .iload 8, 2), (102, .iconst 2, 1), (103, .irem, 1), (104, .iadd, 1), (105, .i2l, 1), (106, .invokevirtual 138, 3), (109, .iconst 1, 1), (110, .if_icmp .ne 33, 3), (113, .aload_n 0, 1), (114, .iconst 3, 1), (115, .iconst 1, 1), (116, .iconst 2, 1), (117, .iload 7, 2), (119, .imul, 1), (120, .iconst 1, 1), (121, .iadd, 1), (122, .iload 9, 2), (124, .ifCond .lt 7, 3), (127, .lconst 1, 1)]
def k_18_4 : Cl := [(128, .goto 4, 3), (131, .lconst 0, 1), (132, .invokevirtual 138, 3), (135, .iconst 1, 1), (136, .if_icmp .ne 7, 3), (139, .iconst 1, 1), (140, .goto 4, 3), (143, .iconst 0, 1), (144, .istore 6, 2), (146, .iinc 7 1, 3), (149, .goto (-113), 3), (152, .iload 6, 2), (154, .ifCond .eq 56, 3), (157, .aload_n 0, 1), (158, .invokevirtual 118, 3)]
def k_18_5 : Cl := [(161, .iconst 1, 1), (162, .if_icmp .ne 48, 3), (165, .aload_n 0, 1), (166, .bipush (-4), 2), (168, .iconst 3, 1), (169, .iconst 1, 1), (170, .iconst 0, 1), (171, .iload 5, 2), (173, .invokevirtual 165, 3), (176, .bipush 64, 2), (178, .iand, 1), (179, .bipush 64, 2), (181, .if_icmp .ne 29, 3), (184, .aload_n 0, 1), (185, .bipush (-4), 2), (187, .iconst 3, 1), (188, .iconst 1, 1), (189, .iconst 0, 1), (190, .iload 5, 2)]
def k_18_6 : Cl := [(192, .invokevirtual 165, 3), (195, .bipush 64, 2), (197, .iconst 1, 1), (198, .aload_n 2, 1), (199, .iconst 1, 1), (200, .iaload, 1), (201, .ishl, 1), (202, .iadd, 1), (203, .if_icmp .ge 7, 3), (206, .iconst 1, 1), (207, .goto 4, 3), (210, .iconst 0, 1), (211, .istore 6, 2), (213, .iconst 0, 1), (214, .istore 7, 2), (216, .iload 7, 2), (218, .aload_n 2, 1), (219, .iconst 0, 1), (220, .iaload, 1), (221, .if_icmp .ge 84, 3)]
def k_18_7 : Cl := [(224, .iload 6, 2), (226, .ifCond .eq 79, 3), (229, .aload_n 0, 1), (230, .iload 7, 2), (232, .iconst 3, 1), (233, .iconst 1, 1), (234, .iconst 0, 1), (235, .iload 5, 2), (237, .invokevirtual 165, 3), (240, .istore 8, 2), (242, .iload 8, 2), (244, .aload_n 0, 1), (245, .iload 7, 2), (247, .iconst 0, 1), (248, .invokevirtual 63, 3), (251, .ishr, 1), (252, .iconst 1, 1), (253, .iand, 1), (254, .iconst 1, 1), (255, .if_icmp .ne 41, 3)]
def k_18_8 : Cl := [(258, .iload 8, 2), (260, .bipush 32, 2), (262, .if_icmp .ge 34, 3), (265, .iload 5, 2), (267, .iconst 1, 1), (268, .if_icmp .eq 24, 3), (271, .aload_n 0, 1), (272, .iload 7, 2), (274, .iconst 3, 1), (275, .iconst 1, 1), (276, .iconst 0, 1), (277, .iload 5, 2), (279, .iconst 1, 1), (280, .isub, 1), (281, .invokevirtual 165, 3), (284, .iload 8, 2), (286, .iand, 1), (287, .iload 8, 2)]
def k_18_9 : Cl := [(289, .if_icmp .ne 7, 3), (292, .iconst 1, 1), (293, .goto 4, 3), (296, .iconst 0, 1), (297, .istore 6, 2), (299, .iinc 7 1, 3), (302, .goto (-86), 3), (305, .aload_n 1, 1), (306, .bipush 15, 2), (308, .invokestatic 15, 3), (311, .bipush 7, 2), (313, .iand, 1), (314, .iload 5, 2), (316, .irem, 1), (317, .istore 7, 2), (319, .iload 6, 2)]
def k_18_10 : Cl := [(321, .ifCond .eq 35, 3), (324, .aload_n 0, 1), (325, .aload_n 1, 1), (326, .aload_n 2, 1), (327, .iload 7, 2), (329, .invokestatic 169, 3), (332, .ifCond .eq 24, 3), (335, .aload_n 0, 1), (336, .bipush (-4), 2), (338, .iconst 3, 1), (339, .iconst 1, 1), (340, .iconst 0, 1), (341, .iload 5, 2), (343, .invokevirtual 165, 3), (346, .bipush 64, 2), (348, .iand, 1), (349, .ifCond .ne 7, 3)]
def k_18_11 : Cl := [(352, .iconst 1, 1), (353, .goto 4, 3), (356, .iconst 0, 1), (357, .istore 6, 2), (359, .iload 6, 2), (361, .ifCond .eq 27, 3), (364, .aload_n 0, 1), (365, .iconst 3, 1), (366, .invokevirtual 149, 3), (369, .bipush 16, 2), (371, .if_icmp .ne 17, 3), (374, .aload_n 0, 1), (375, .aload_n 2, 1), (376, .invokestatic 85, 3), (379, .lload_n 3, 1), (380, .lcmp, 1), (381, .ifCond .ne 7, 3)]
def k_18_12 : Cl := [(384, .iconst 1, 1), (385, .goto 4, 3), (388, .iconst 0, 1), (389, .ireturn, 1)]
def r_18 : MR := (7, yL_clicked, cL_clicked, 10, (Option.some FieldType.boolean), [k_18_0, k_18_1, k_18_2, k_18_3, k_18_4, k_18_5, k_18_6, k_18_7, k_18_8, k_18_9, k_18_10, k_18_11, k_18_12])
abbrev Lw_flipped : Nat := 19
def k_19_0 : Cl := [(0, .iconst 1, 1), (1, .istore 4, 2), (3, .iconst 1, 1), (4, .aload_n 1, 1), (5, .bipush 13, 2), (7, .invokestatic 15, 3), (10, .bipush 8, 2), (12, .irem, 1), (13, .iadd, 1), (14, .istore 5, 2), (16, .iconst 0, 1), (17, .istore 6, 2), (19, .iconst 0, 1), (20, .istore 7, 2), (22, .iload 7, 2), (24, .iload 5, 2), (26, .if_icmp .ge 75, 3), (29, .iload 4, 2), (31, .ifCond .eq 70, 3)]
def k_19_1 : Cl := [(34, .aload_n 1, 1), (35, .bipush 13, 2), (37, .invokestatic 15, 3), (40, .iconst 3, 1), (41, .iconst 2, 1), (42, .iload 7, 2), (44, .imul, 1), (45, .iadd, 1), (46, .ishr, 1), (47, .bipush 15, 2), (49, .iand, 1), (50, .iconst 2, 1), (51, .aload_n 2, 1), (52, .iconst 0, 1), (53, .iaload, 1), (54, .imul, 1), (55, .irem, 1), (56, .istore 8, 2), (58, .aload_n 0, 1), (59, .iload 8, 2), (61, .iconst 2, 1), (62, .idiv, 1), (63, .iload 8, 2)]
def k_19_2 : Cl := [(65, .iconst 2, 1), (66, .irem, 1), (67, .invokevirtual 53, 3), (70, .istore 9, 2), (72, .iload 7, 2), (74, .iload_n 3, 1), (75, .if_icmp .ne 16, 3), (78, .iload 9, 2), (80, .ifCond .lt 7, 3), (83, .iconst 1, 1), (84, .goto 9, 3), (87, .iconst 0, 1), (88, .goto 5, 3), (91, .iload 6, 2), (93, .istore 6, 2), (95, .iinc 7 1, 3)]
def k_19_3 : Cl := [(98, .goto (-76), 3), (101, .aload_n 0, 1), (102, .invokevirtual 118, 3), (105, .iconst 1, 1), (106, .if_icmp .ne 27, 3), (109, .aload_n 0, 1), (110, .iconst 3, 1), (111, .iconst 1, 1), (112, .iconst 2, 1), (113, .iload_n 3, 1), (114, .imul, 1), (115, .iconst 1, 1), (116, .iadd, 1), (117, .iconst 1, 1), (118, .iload 6, 2), (120, .isub, 1), (121, .i2l, 1), (122, .invokevirtual 138, 3), (125, .iconst 1, 1), (126, .if_icmp .ne 7, 3)]
def k_19_4 : Cl := [(129, .iconst 1, 1), (130, .goto 4, 3), (133, .iconst 0, 1), (134, .ireturn, 1)]
def r_19 : MR := (7, yL_flipped, cL_flipped, 10, (Option.some FieldType.boolean), [k_19_0, k_19_1, k_19_2, k_19_3, k_19_4])
abbrev Bx_clear : Nat := 20
def k_20_0 : Cl := [(0, .aload_n 0, 1), (1, .iconst 0, 1), (2, .putfield 47, 3), (5, .aload_n 0, 1), (6, .iconst 0, 1), (7, .putfield 50, 3), (10, .aload_n 0, 1), (11, .iconst 0, 1), (12, .putfield 53, 3), (15, .aload_n 0, 1), (16, .iconst 0, 1), (17, .putfield 56, 3), (20, .aload_n 0, 1), (21, .iconst 0, 1), (22, .putfield 59, 3), (25, .aload_n 0, 1), (26, .invokevirtual 62, 3), (29, .aload_n 0, 1), (30, .iconst 1, 1), (31, .putfield 43, 3)]
def k_20_1 : Cl := [(34, .return_, 1)]
def r_20 : MR := (0, yX0_clear, cX0_clear, 1, (Option.none : Option FieldType), [k_20_0, k_20_1])
abbrev Bx_becomes : Nat := 21
def k_21_0 : Cl := [(0, .aload_n 1, 1), (1, .getfield 9, 3), (4, .iconst 0, 1), (5, .aload_n 0, 1), (6, .getfield 9, 3), (9, .iconst 0, 1), (10, .iconst 5, 1), (11, .invokestatic 65, 3), (14, .aload_n 1, 1), (15, .getfield 15, 3), (18, .iconst 0, 1), (19, .aload_n 0, 1), (20, .getfield 15, 3), (23, .iconst 0, 1), (24, .iconst 5, 1), (25, .invokestatic 65, 3), (28, .aload_n 0, 1), (29, .aload_n 1, 1), (30, .getfield 47, 3)]
def k_21_1 : Cl := [(33, .putfield 47, 3), (36, .aload_n 1, 1), (37, .getfield 18, 3), (40, .iconst 0, 1), (41, .aload_n 0, 1), (42, .getfield 18, 3), (45, .iconst 0, 1), (46, .bipush 6, 2), (48, .invokestatic 65, 3), (51, .aload_n 1, 1), (52, .getfield 21, 3), (55, .iconst 0, 1), (56, .aload_n 0, 1), (57, .getfield 21, 3), (60, .iconst 0, 1), (61, .bipush 6, 2), (63, .invokestatic 65, 3)]
def k_21_2 : Cl := [(66, .aload_n 1, 1), (67, .getfield 24, 3), (70, .iconst 0, 1), (71, .aload_n 0, 1), (72, .getfield 24, 3), (75, .iconst 0, 1), (76, .bipush 6, 2), (78, .invokestatic 65, 3), (81, .aload_n 1, 1), (82, .getfield 27, 3), (85, .iconst 0, 1), (86, .aload_n 0, 1), (87, .getfield 27, 3), (90, .iconst 0, 1), (91, .bipush 6, 2), (93, .invokestatic 65, 3)]
def k_21_3 : Cl := [(96, .aload_n 0, 1), (97, .aload_n 1, 1), (98, .getfield 50, 3), (101, .putfield 50, 3), (104, .aload_n 0, 1), (105, .aload_n 1, 1), (106, .getfield 53, 3), (109, .putfield 53, 3), (112, .aload_n 0, 1), (113, .aload_n 1, 1), (114, .getfield 56, 3), (117, .putfield 56, 3), (120, .aload_n 0, 1), (121, .aload_n 1, 1), (122, .getfield 59, 3), (125, .putfield 59, 3)]
def k_21_4 : Cl := [(128, .aload_n 0, 1), (129, .aload_n 1, 1), (130, .getfield 30, 3), (133, .putfield 30, 3), (136, .aload_n 1, 1), (137, .getfield 34, 3), (140, .iconst 0, 1), (141, .aload_n 0, 1), (142, .getfield 34, 3), (145, .iconst 0, 1), (146, .bipush 8, 2), (148, .invokestatic 65, 3), (151, .aload_n 1, 1), (152, .getfield 37, 3), (155, .iconst 0, 1), (156, .aload_n 0, 1), (157, .getfield 37, 3)]
def k_21_5 : Cl := [(160, .iconst 0, 1), (161, .bipush 8, 2), (163, .invokestatic 65, 3), (166, .aload_n 1, 1), (167, .getfield 40, 3), (170, .iconst 0, 1), (171, .aload_n 0, 1), (172, .getfield 40, 3), (175, .iconst 0, 1), (176, .bipush 8, 2), (178, .invokestatic 65, 3), (181, .aload_n 0, 1), (182, .aload_n 1, 1), (183, .getfield 71, 3), (186, .putfield 71, 3), (189, .aload_n 0, 1), (190, .aload_n 1, 1), (191, .getfield 74, 3)]
def k_21_6 : Cl := [(194, .putfield 74, 3), (197, .aload_n 0, 1), (198, .iconst 1, 1), (199, .putfield 43, 3), (202, .return_, 1)]
def r_21 : MR := (0, yX0_becomes, cX0_becomes, 2, (Option.none : Option FieldType), [k_21_0, k_21_1, k_21_2, k_21_3, k_21_4, k_21_5, k_21_6])
abbrev Bx_hasPanel : Nat := 22
def k_22_0 : Cl := [(0, .iload_n 1, 1), (1, .ifCond .lt 15, 3), (4, .iload_n 1, 1), (5, .aload_n 0, 1), (6, .getfield 47, 3), (9, .if_icmp .ge 7, 3), (12, .iconst 1, 1), (13, .goto 4, 3), (16, .iconst 0, 1), (17, .ireturn, 1)]
def r_22 : MR := (0, yX0_hasPanel, cX0_hasPanel, 2, (Option.some FieldType.boolean), [k_22_0])
abbrev Bx_hasLock : Nat := 23
def k_23_0 : Cl := [(0, .iload_n 1, 1), (1, .ifCond .lt 15, 3), (4, .iload_n 1, 1), (5, .aload_n 0, 1), (6, .getfield 50, 3), (9, .if_icmp .ge 7, 3), (12, .iconst 1, 1), (13, .goto 4, 3), (16, .iconst 0, 1), (17, .ireturn, 1)]
def r_23 : MR := (0, yX0_hasLock, cX0_hasLock, 2, (Option.some FieldType.boolean), [k_23_0])
abbrev Bx_addPanel : Nat := 24
def k_24_0 : Cl := [(0, .aload_n 0, 1), (1, .getfield 47, 3), (4, .iconst 5, 1), (5, .if_icmp .lt 6, 3), (8, .bipush (-3), 2), (10, .ireturn, 1), (11, .aload_n 0, 1), (12, .getfield 9, 3), (15, .aload_n 0, 1), (16, .getfield 47, 3), (19, .iload_n 1, 1), (20, .iastore, 1), (21, .aload_n 0, 1), (22, .getfield 15, 3), (25, .aload_n 0, 1), (26, .getfield 47, 3), (29, .iload_n 2, 1), (30, .iastore, 1), (31, .aload_n 0, 1)]
def k_24_1 : Cl := [(32, .iconst 1, 1), (33, .putfield 43, 3), (36, .aload_n 0, 1), (37, .dup, 1), (38, .getfield 47, 3), (41, .dup_x1, 1), (42, .iconst 1, 1), (43, .iadd, 1), (44, .putfield 47, 3), (47, .ireturn, 1)]
def r_24 : MR := (0, yX0_addPanel, cX0_addPanel, 3, (Option.some FieldType.int), [k_24_0, k_24_1])
abbrev Bx_addLock : Nat := 25
def k_25_0 : Cl := [(0, .aload_n 0, 1), (1, .getfield 50, 3), (4, .bipush 6, 2), (6, .if_icmp .lt 6, 3), (9, .bipush (-3), 2), (11, .ireturn, 1), (12, .aload_n 0, 1), (13, .getfield 18, 3), (16, .aload_n 0, 1), (17, .getfield 50, 3), (20, .iload_n 1, 1), (21, .iastore, 1), (22, .aload_n 0, 1), (23, .getfield 21, 3), (26, .aload_n 0, 1), (27, .getfield 50, 3), (30, .iload_n 2, 1), (31, .iastore, 1)]
def k_25_1 : Cl := [(32, .aload_n 0, 1), (33, .getfield 24, 3), (36, .aload_n 0, 1), (37, .getfield 50, 3), (40, .iload_n 3, 1), (41, .iastore, 1), (42, .aload_n 0, 1), (43, .getfield 27, 3), (46, .aload_n 0, 1), (47, .getfield 50, 3), (50, .iload 4, 2), (52, .iastore, 1), (53, .aload_n 0, 1), (54, .iconst 1, 1), (55, .putfield 43, 3), (58, .aload_n 0, 1), (59, .dup, 1), (60, .getfield 50, 3), (63, .dup_x1, 1)]
def k_25_2 : Cl := [(64, .iconst 1, 1), (65, .iadd, 1), (66, .putfield 50, 3), (69, .ireturn, 1)]
def r_25 : MR := (0, yX0_addLock, cX0_addLock, 5, (Option.some FieldType.int), [k_25_0, k_25_1, k_25_2])
abbrev Bx_isMet : Nat := 26
def k_26_0 : Cl := [(0, .aload_n 0, 1), (1, .getfield 27, 3), (4, .iload_n 1, 1), (5, .iaload, 1), (6, .iload_n 2, 1), (7, .aload_n 0, 1), (8, .getfield 24, 3), (11, .iload_n 1, 1), (12, .iaload, 1), (13, .invokestatic 77, 3), (16, .ishr, 1), (17, .iconst 1, 1), (18, .iand, 1), (19, .ifCond .eq 7, 3), (22, .iconst 1, 1), (23, .goto 4, 3), (26, .iconst 0, 1), (27, .ireturn, 1)]
def r_26 : MR := (0, yX0_isMet, cX0_isMet, 3, (Option.some FieldType.boolean), [k_26_0])
abbrev Bx_isOpen : Nat := 27
def k_27_0 : Cl := [(0, .aload_n 0, 1), (1, .aload_n 0, 1), (2, .getfield 53, 3), (5, .invokevirtual 81, 3), (8, .ifCond .eq 27, 3), (11, .iload_n 1, 1), (12, .aload_n 0, 1), (13, .getfield 53, 3), (16, .invokestatic 77, 3), (19, .aload_n 0, 1), (20, .getfield 15, 3), (23, .aload_n 0, 1), (24, .getfield 53, 3), (27, .iaload, 1), (28, .if_icmp .ne 7, 3), (31, .iconst 1, 1)]
def k_27_1 : Cl := [(32, .goto 4, 3), (35, .iconst 0, 1), (36, .ireturn, 1)]
def r_27 : MR := (0, yX0_isOpen, cX0_isOpen, 2, (Option.some FieldType.boolean), [k_27_0, k_27_1])
abbrev Bx_outSet : Nat := 28
def k_28_0 : Cl := [(0, .iconst 0, 1), (1, .istore_n 1, 1), (2, .iconst 0, 1), (3, .istore_n 2, 1), (4, .iload_n 2, 1), (5, .aload_n 0, 1), (6, .getfield 47, 3), (9, .if_icmp .ge 26, 3), (12, .aload_n 0, 1), (13, .getfield 56, 3), (16, .iload_n 2, 1), (17, .invokestatic 77, 3), (20, .ifCond .le 9, 3), (23, .iload_n 1, 1), (24, .iconst 1, 1), (25, .iload_n 2, 1), (26, .ishl, 1), (27, .ior, 1), (28, .istore_n 1, 1), (29, .iinc 2 1, 3)]
def k_28_1 : Cl := [(32, .goto (-28), 3), (35, .iload_n 1, 1), (36, .ireturn, 1)]
def r_28 : MR := (0, yX0_outSet, cX0_outSet, 3, (Option.some FieldType.int), [k_28_0, k_28_1])
abbrev Bx_slidesThatMay : Nat := 29
def k_29_0 : Cl := [(0, .iconst 0, 1), (1, .istore_n 1, 1), (2, .iconst 0, 1), (3, .istore_n 2, 1), (4, .iload_n 2, 1), (5, .iconst 2, 1), (6, .aload_n 0, 1), (7, .getfield 47, 3), (10, .imul, 1), (11, .if_icmp .ge 33, 3), (14, .aload_n 0, 1), (15, .aload_n 0, 1), (16, .getfield 56, 3), (19, .aload_n 0, 1), (20, .getfield 59, 3), (23, .iload_n 2, 1), (24, .iconst 1, 1), (25, .ishr, 1), (26, .iload_n 2, 1), (27, .iconst 1, 1), (28, .iand, 1), (29, .invokevirtual 85, 3)]
def k_29_1 : Cl := [(32, .ifCond .eq 6, 3), (35, .iinc 1 1, 3), (38, .iinc 2 1, 3), (41, .goto (-37), 3), (44, .iload_n 1, 1), (45, .ireturn, 1)]
def r_29 : MR := (0, yX0_slidesThatMay, cX0_slidesThatMay, 3, (Option.some FieldType.int), [k_29_0, k_29_1])
abbrev Bx_maySlide : Nat := 30
def k_30_0 : Cl := [(0, .aload_n 0, 1), (1, .iload_n 1, 1), (2, .iload_n 3, 1), (3, .iload 4, 2), (5, .invokevirtual 89, 3), (8, .ifCond .eq 22, 3), (11, .aload_n 0, 1), (12, .iload_n 1, 1), (13, .iload_n 3, 1), (14, .iload 4, 2), (16, .invokevirtual 93, 3), (19, .iload_n 2, 1), (20, .iconst (-1), 1), (21, .ixor, 1), (22, .iand, 1), (23, .ifCond .ne 7, 3), (26, .iconst 1, 1), (27, .goto 4, 3), (30, .iconst 0, 1), (31, .ireturn, 1)]
def r_30 : MR := (0, yX0_maySlide, cX0_maySlide, 5, (Option.some FieldType.boolean), [k_30_0])
abbrev Bx_fits : Nat := 31
def k_31_0 : Cl := [(0, .aload_n 0, 1), (1, .iload_n 2, 1), (2, .invokevirtual 81, 3), (5, .ifCond .ne 5, 3), (8, .iconst 0, 1), (9, .ireturn, 1), (10, .iload_n 1, 1), (11, .iload_n 2, 1), (12, .invokestatic 77, 3), (15, .istore 4, 2), (17, .iload_n 3, 1), (18, .ifCond .ne 11, 3), (21, .iload 4, 2), (23, .ifCond .ne 19, 3), (26, .goto 14, 3), (29, .iload 4, 2), (31, .aload_n 0, 1)]
def k_31_1 : Cl := [(32, .getfield 15, 3), (35, .iload_n 2, 1), (36, .iaload, 1), (37, .if_icmp .lt 5, 3), (40, .iconst 0, 1), (41, .ireturn, 1), (42, .aload_n 0, 1), (43, .getfield 9, 3), (46, .iload_n 2, 1), (47, .iaload, 1), (48, .iconst 2, 1), (49, .if_icmp .eq 18, 3), (52, .aload_n 0, 1), (53, .getfield 9, 3), (56, .iload_n 2, 1), (57, .iaload, 1), (58, .iconst 4, 1), (59, .if_icmp .ne 12, 3), (62, .iload_n 3, 1), (63, .iconst 1, 1)]
def k_31_2 : Cl := [(64, .if_icmp .ne 7, 3), (67, .iconst 1, 1), (68, .goto 4, 3), (71, .iconst 0, 1), (72, .istore 5, 2), (74, .iload 5, 2), (76, .ifCond .eq 12, 3), (79, .aload_n 0, 1), (80, .iload_n 1, 1), (81, .iload_n 2, 1), (82, .invokevirtual 97, 3), (85, .ifCond .eq 7, 3), (88, .iconst 1, 1), (89, .goto 4, 3), (92, .iconst 0, 1), (93, .ireturn, 1)]
def r_31 : MR := (0, yX0_fits, cX0_fits, 6, (Option.some FieldType.boolean), [k_31_0, k_31_1, k_31_2])
abbrev Bx_ringLets : Nat := 32
def k_32_0 : Cl := [(0, .iload_n 2, 1), (1, .ifCond .ne 5, 3), (4, .iconst 1, 1), (5, .ireturn, 1), (6, .iload_n 2, 1), (7, .iconst 1, 1), (8, .isub, 1), (9, .istore_n 3, 1), (10, .iload_n 1, 1), (11, .iconst 1, 1), (12, .iconst 2, 1), (13, .iload_n 3, 1), (14, .imul, 1), (15, .ishl, 1), (16, .iconst 1, 1), (17, .isub, 1), (18, .iand, 1), (19, .istore 4, 2), (21, .iload_n 1, 1), (22, .iload_n 3, 1), (23, .invokestatic 77, 3), (26, .ifCond .le 12, 3), (29, .iload 4, 2), (31, .ifCond .ne 7, 3)]
def k_32_1 : Cl := [(34, .iconst 1, 1), (35, .goto 4, 3), (38, .iconst 0, 1), (39, .ireturn, 1)]
def r_32 : MR := (0, yX0_ringLets, cX0_ringLets, 5, (Option.some FieldType.boolean), [k_32_0, k_32_1])
abbrev Bx_holding : Nat := 33
def k_33_0 : Cl := [(0, .iconst 0, 1), (1, .istore 4, 2), (3, .iconst 0, 1), (4, .istore 5, 2), (6, .iload 5, 2), (8, .aload_n 0, 1), (9, .getfield 50, 3), (12, .if_icmp .ge 64, 3), (15, .aload_n 0, 1), (16, .getfield 18, 3), (19, .iload 5, 2), (21, .iaload, 1), (22, .iload_n 2, 1), (23, .if_icmp .ne 47, 3), (26, .aload_n 0, 1), (27, .getfield 21, 3), (30, .iload 5, 2)]
def k_33_1 : Cl := [(32, .iaload, 1), (33, .iconst 2, 1), (34, .if_icmp .eq 17, 3), (37, .aload_n 0, 1), (38, .getfield 21, 3), (41, .iload 5, 2), (43, .iaload, 1), (44, .iload_n 3, 1), (45, .if_icmp .eq 6, 3), (48, .goto 22, 3), (51, .aload_n 0, 1), (52, .iload 5, 2), (54, .iload_n 1, 1), (55, .invokevirtual 101, 3), (58, .ifCond .ne 12, 3), (61, .iload 4, 2), (63, .iconst 1, 1)]
def k_33_2 : Cl := [(64, .iload 5, 2), (66, .ishl, 1), (67, .ior, 1), (68, .istore 4, 2), (70, .iinc 5 1, 3), (73, .goto (-67), 3), (76, .iload 4, 2), (78, .ireturn, 1)]
def r_33 : MR := (0, yX0_holding, cX0_holding, 6, (Option.some FieldType.int), [k_33_0, k_33_1, k_33_2])
abbrev Bx_behind : Nat := 34
def k_34_0 : Cl := [(0, .iconst 0, 1), (1, .istore 4, 2), (3, .iconst 0, 1), (4, .istore 5, 2), (6, .iload 5, 2), (8, .aload_n 0, 1), (9, .getfield 47, 3), (12, .if_icmp .ge 67, 3), (15, .iload_n 1, 1), (16, .iload 5, 2), (18, .invokestatic 77, 3), (21, .istore 6, 2), (23, .iload 5, 2), (25, .iload_n 2, 1), (26, .if_icmp .ne 21, 3), (29, .iload 6, 2), (31, .iload_n 3, 1)]
def k_34_1 : Cl := [(32, .iconst 1, 1), (33, .if_icmp .ne 7, 3), (36, .iconst 1, 1), (37, .goto 4, 3), (40, .iconst (-1), 1), (41, .iadd, 1), (42, .istore 6, 2), (44, .goto 17, 3), (47, .aload_n 0, 1), (48, .iload 5, 2), (50, .iload 6, 2), (52, .invokevirtual 104, 3), (55, .ifCond .eq 6, 3), (58, .iinc 6 (-1), 3), (61, .iload 4, 2), (63, .iload 6, 2)]
def k_34_2 : Cl := [(65, .iconst 2, 1), (66, .iload 5, 2), (68, .imul, 1), (69, .ishl, 1), (70, .ior, 1), (71, .istore 4, 2), (73, .iinc 5 1, 3), (76, .goto (-70), 3), (79, .iload 4, 2), (81, .ireturn, 1)]
def r_34 : MR := (0, yX0_behind, cX0_behind, 7, (Option.some FieldType.int), [k_34_0, k_34_1, k_34_2])
abbrev Bx_slipsBack : Nat := 35
def k_35_0 : Cl := [(0, .iload_n 2, 1), (1, .ifCond .ne 5, 3), (4, .iconst 0, 1), (5, .ireturn, 1), (6, .aload_n 0, 1), (7, .getfield 9, 3), (10, .iload_n 1, 1), (11, .iaload, 1), (12, .iconst 1, 1), (13, .if_icmp .eq 23, 3), (16, .aload_n 0, 1), (17, .getfield 9, 3), (20, .iload_n 1, 1), (21, .iaload, 1), (22, .iconst 3, 1), (23, .if_icmp .ne 17, 3), (26, .iload_n 2, 1), (27, .aload_n 0, 1), (28, .getfield 15, 3), (31, .iload_n 1, 1)]
def k_35_1 : Cl := [(32, .iaload, 1), (33, .if_icmp .ge 7, 3), (36, .iconst 1, 1), (37, .goto 4, 3), (40, .iconst 0, 1), (41, .ireturn, 1)]
def r_35 : MR := (0, yX0_slipsBack, cX0_slipsBack, 3, (Option.some FieldType.boolean), [k_35_0, k_35_1])
abbrev Bx_driftOnce : Nat := 36
def k_36_0 : Cl := [(0, .aload_n 0, 1), (1, .invokevirtual 107, 3), (4, .aload_n 0, 1), (5, .aload_n 0, 1), (6, .getfield 30, 3), (9, .ldc 110, 2), (11, .imul, 1), (12, .sipush 12345, 3), (15, .iadd, 1), (16, .ldc 111, 2), (18, .iand, 1), (19, .putfield 30, 3), (22, .aload_n 0, 1), (23, .getfield 47, 3), (26, .ifCond .ne 4, 3), (29, .return_, 1), (30, .aload_n 0, 1), (31, .getfield 30, 3)]
def k_36_1 : Cl := [(34, .ldc 112, 2), (36, .idiv, 1), (37, .aload_n 0, 1), (38, .getfield 47, 3), (41, .irem, 1), (42, .istore_n 1, 1), (43, .aload_n 0, 1), (44, .getfield 30, 3), (47, .sipush 128, 3), (50, .idiv, 1), (51, .iconst 2, 1), (52, .irem, 1), (53, .istore_n 2, 1), (54, .aload_n 0, 1), (55, .aload_n 0, 1), (56, .getfield 56, 3), (59, .aload_n 0, 1), (60, .getfield 59, 3), (63, .iload_n 1, 1)]
def k_36_2 : Cl := [(64, .iload_n 2, 1), (65, .invokevirtual 85, 3), (68, .ifCond .eq 17, 3), (71, .aload_n 0, 1), (72, .aload_n 0, 1), (73, .aload_n 0, 1), (74, .getfield 56, 3), (77, .iload_n 1, 1), (78, .iload_n 2, 1), (79, .invokevirtual 113, 3), (82, .putfield 56, 3), (85, .return_, 1)]
def r_36 : MR := (0, yX0_driftOnce, cX0_driftOnce, 3, (Option.none : Option FieldType), [k_36_0, k_36_1, k_36_2])
abbrev Bx_forget : Nat := 37
def k_37_0 : Cl := [(0, .aload_n 0, 1), (1, .iconst 0, 1), (2, .putfield 71, 3), (5, .aload_n 0, 1), (6, .iconst 0, 1), (7, .putfield 74, 3), (10, .return_, 1)]
def r_37 : MR := (0, yX0_forget, cX0_forget, 1, (Option.none : Option FieldType), [k_37_0])
abbrev Bx_remember : Nat := 38
def k_38_0 : Cl := [(0, .aload_n 0, 1), (1, .getfield 34, 3), (4, .aload_n 0, 1), (5, .getfield 74, 3), (8, .aload_n 0, 1), (9, .getfield 56, 3), (12, .iastore, 1), (13, .aload_n 0, 1), (14, .getfield 37, 3), (17, .aload_n 0, 1), (18, .getfield 74, 3), (21, .aload_n 0, 1), (22, .getfield 59, 3), (25, .iastore, 1), (26, .aload_n 0, 1), (27, .getfield 40, 3), (30, .aload_n 0, 1), (31, .getfield 74, 3)]
def k_38_1 : Cl := [(34, .aload_n 0, 1), (35, .getfield 30, 3), (38, .iastore, 1), (39, .aload_n 0, 1), (40, .aload_n 0, 1), (41, .getfield 74, 3), (44, .iconst 1, 1), (45, .iadd, 1), (46, .bipush 8, 2), (48, .irem, 1), (49, .putfield 74, 3), (52, .aload_n 0, 1), (53, .getfield 71, 3), (56, .bipush 8, 2), (58, .if_icmp .ge 13, 3), (61, .aload_n 0, 1), (62, .dup, 1), (63, .getfield 71, 3)]
def k_38_2 : Cl := [(66, .iconst 1, 1), (67, .iadd, 1), (68, .putfield 71, 3), (71, .return_, 1)]
def r_38 : MR := (0, yX0_remember, cX0_remember, 1, (Option.none : Option FieldType), [k_38_0, k_38_1, k_38_2])
abbrev Bx_recall : Nat := 39
def k_39_0 : Cl := [(0, .aload_n 0, 1), (1, .getfield 71, 3), (4, .ifCond .ne 6, 3), (7, .bipush (-4), 2), (9, .ireturn, 1), (10, .aload_n 0, 1), (11, .aload_n 0, 1), (12, .getfield 74, 3), (15, .bipush 8, 2), (17, .iadd, 1), (18, .iconst 1, 1), (19, .isub, 1), (20, .bipush 8, 2), (22, .irem, 1), (23, .putfield 74, 3), (26, .aload_n 0, 1), (27, .aload_n 0, 1), (28, .getfield 34, 3), (31, .aload_n 0, 1)]
def k_39_1 : Cl := [(32, .getfield 74, 3), (35, .iaload, 1), (36, .putfield 56, 3), (39, .aload_n 0, 1), (40, .aload_n 0, 1), (41, .getfield 37, 3), (44, .aload_n 0, 1), (45, .getfield 74, 3), (48, .iaload, 1), (49, .putfield 59, 3), (52, .aload_n 0, 1), (53, .aload_n 0, 1), (54, .getfield 40, 3), (57, .aload_n 0, 1), (58, .getfield 74, 3), (61, .iaload, 1), (62, .putfield 30, 3)]
def k_39_2 : Cl := [(65, .aload_n 0, 1), (66, .dup, 1), (67, .getfield 71, 3), (70, .iconst 1, 1), (71, .isub, 1), (72, .putfield 71, 3), (75, .aload_n 0, 1), (76, .getfield 71, 3), (79, .ireturn, 1)]
def r_39 : MR := (0, yX0_recall, cX0_recall, 1, (Option.some FieldType.int), [k_39_0, k_39_1, k_39_2])
abbrev Bx_stateOf : Nat := 40
def k_40_0 : Cl := [(0, .iconst 0, 1), (1, .istore_n 3, 1), (2, .iconst 0, 1), (3, .istore 4, 2), (5, .iload 4, 2), (7, .aload_n 0, 1), (8, .getfield 47, 3), (11, .if_icmp .ge 54, 3), (14, .aload_n 1, 1), (15, .iload_n 2, 1), (16, .iload 4, 2), (18, .iadd, 1), (19, .invokevirtual 116, 3), (22, .lstore 5, 2), (24, .lload 5, 2), (26, .lconst 0, 1), (27, .lcmp, 1), (28, .ifCond .lt 17, 3), (31, .lload 5, 2)]
def k_40_1 : Cl := [(33, .aload_n 0, 1), (34, .getfield 15, 3), (37, .iload 4, 2), (39, .iaload, 1), (40, .i2l, 1), (41, .lcmp, 1), (42, .ifCond .le 6, 3), (45, .bipush (-2), 2), (47, .ireturn, 1), (48, .iload_n 3, 1), (49, .lload 5, 2), (51, .l2i, 1), (52, .iconst 2, 1), (53, .iload 4, 2), (55, .imul, 1), (56, .ishl, 1), (57, .ior, 1), (58, .istore_n 3, 1), (59, .iinc 4 1, 3), (62, .goto (-57), 3)]
def k_40_2 : Cl := [(65, .iload_n 3, 1), (66, .ireturn, 1)]
def r_40 : MR := (0, yX0_stateOf, cX0_stateOf, 7, (Option.some FieldType.int), [k_40_0, k_40_1, k_40_2])
abbrev Bx_isState : Nat := 41
def k_41_0 : Cl := [(0, .iconst 0, 1), (1, .istore_n 2, 1), (2, .iload_n 2, 1), (3, .aload_n 0, 1), (4, .getfield 47, 3), (7, .if_icmp .ge 25, 3), (10, .iload_n 1, 1), (11, .iload_n 2, 1), (12, .invokestatic 77, 3), (15, .aload_n 0, 1), (16, .getfield 15, 3), (19, .iload_n 2, 1), (20, .iaload, 1), (21, .if_icmp .le 5, 3), (24, .iconst 0, 1), (25, .ireturn, 1), (26, .iinc 2 1, 3), (29, .goto (-27), 3)]
def k_41_1 : Cl := [(32, .iconst 1, 1), (33, .ireturn, 1)]
def r_41 : MR := (0, yX0_isState, cX0_isState, 3, (Option.some FieldType.boolean), [k_41_0, k_41_1])
abbrev Eg_begin : Nat := 42
def k_42_0 : Cl := [(0, .iconst 0, 1), (1, .istore_n 1, 1), (2, .iload_n 1, 1), (3, .aload_n 0, 1), (4, .getfield 34, 3), (7, .getfield 38, 3), (10, .if_icmp .ge 47, 3), (13, .aload_n 0, 1), (14, .getfield 34, 3), (17, .getfield 44, 3), (20, .iload_n 1, 1), (21, .iaload, 1), (22, .istore_n 2, 1), (23, .aload_n 0, 1), (24, .getfield 9, 3), (27, .iload_n 2, 1), (28, .iconst (-1), 1), (29, .iastore, 1), (30, .aload_n 0, 1), (31, .getfield 18, 3)]
def k_42_1 : Cl := [(34, .iload_n 2, 1), (35, .iconst 0, 1), (36, .iastore, 1), (37, .aload_n 0, 1), (38, .getfield 24, 3), (41, .iload_n 2, 1), (42, .iconst 0, 1), (43, .iastore, 1), (44, .aload_n 0, 1), (45, .getfield 27, 3), (48, .iload_n 2, 1), (49, .iconst 0, 1), (50, .iastore, 1), (51, .iinc 1 1, 3), (54, .goto (-52), 3), (57, .iconst 0, 1), (58, .istore_n 1, 1), (59, .iload_n 1, 1), (60, .aload_n 0, 1), (61, .getfield 34, 3)]
def k_42_2 : Cl := [(64, .getfield 38, 3), (67, .if_icmp .ge 22, 3), (70, .aload_n 0, 1), (71, .aload_n 0, 1), (72, .getfield 34, 3), (75, .getfield 44, 3), (78, .iload_n 1, 1), (79, .iaload, 1), (80, .invokevirtual 47, 3), (83, .iinc 1 1, 3), (86, .goto (-27), 3), (89, .aload_n 0, 1), (90, .iconst 0, 1), (91, .putfield 51, 3), (94, .return_, 1)]
def r_42 : MR := (1, yX1_begin, cX1_begin, 3, (Option.none : Option FieldType), [k_42_0, k_42_1, k_42_2])
abbrev Eg_chain : Nat := 43
def k_43_0 : Cl := [(0, .iconst 0, 1), (1, .istore_n 2, 1), (2, .iload_n 2, 1), (3, .aload_n 0, 1), (4, .getfield 34, 3), (7, .getfield 54, 3), (10, .if_icmp .ge 65, 3), (13, .aload_n 0, 1), (14, .getfield 34, 3), (17, .iload_n 1, 1), (18, .iload_n 2, 1), (19, .invokevirtual 57, 3), (22, .istore_n 3, 1), (23, .iload_n 3, 1), (24, .ifCond .ge 6, 3), (27, .goto 42, 3), (30, .aload_n 0, 1), (31, .getfield 18, 3)]
def k_43_1 : Cl := [(34, .iload_n 1, 1), (35, .dup2, 1), (36, .iaload, 1), (37, .iconst 1, 1), (38, .iadd, 1), (39, .iastore, 1), (40, .bipush 10, 2), (42, .iload_n 1, 1), (43, .imul, 1), (44, .iload_n 2, 1), (45, .iadd, 1), (46, .istore 4, 2), (48, .aload_n 0, 1), (49, .getfield 15, 3), (52, .iload 4, 2), (54, .aload_n 0, 1), (55, .getfield 9, 3), (58, .iload_n 3, 1), (59, .iaload, 1), (60, .iastore, 1), (61, .aload_n 0, 1), (62, .getfield 9, 3)]
def k_43_2 : Cl := [(65, .iload_n 3, 1), (66, .iload 4, 2), (68, .iastore, 1), (69, .iinc 2 1, 3), (72, .goto (-70), 3), (75, .return_, 1)]
def r_43 : MR := (1, yX1_chain, cX1_chain, 5, (Option.none : Option FieldType), [k_43_0, k_43_1, k_43_2])
abbrev Eg_settle : Nat := 44
def k_44_0 : Cl := [(0, .aload_n 0, 1), (1, .getfield 51, 3), (4, .sipush 1024, 3), (7, .if_icmp .lt 4, 3), (10, .return_, 1), (11, .aload_n 0, 1), (12, .getfield 24, 3), (15, .iload_n 1, 1), (16, .iload_n 2, 1), (17, .iastore, 1), (18, .aload_n 0, 1), (19, .getfield 27, 3), (22, .iload_n 1, 1), (23, .iload_n 3, 1), (24, .iastore, 1), (25, .aload_n 0, 1), (26, .getfield 21, 3), (29, .aload_n 0, 1), (30, .getfield 51, 3)]
def k_44_1 : Cl := [(33, .iload_n 1, 1), (34, .iastore, 1), (35, .aload_n 0, 1), (36, .dup, 1), (37, .getfield 51, 3), (40, .iconst 1, 1), (41, .iadd, 1), (42, .putfield 51, 3), (45, .return_, 1)]
def r_44 : MR := (1, yX1_settle, cX1_settle, 4, (Option.none : Option FieldType), [k_44_0, k_44_1])
abbrev Eg_dead : Nat := 45
def k_45_0 : Cl := [(0, .aload_n 0, 1), (1, .invokevirtual 61, 3), (4, .iconst 0, 1), (5, .istore_n 1, 1), (6, .iload_n 1, 1), (7, .aload_n 0, 1), (8, .getfield 34, 3), (11, .getfield 38, 3), (14, .if_icmp .ge 43, 3), (17, .aload_n 0, 1), (18, .getfield 30, 3), (21, .aload_n 0, 1), (22, .getfield 34, 3), (25, .getfield 44, 3), (28, .iload_n 1, 1), (29, .iaload, 1), (30, .invokevirtual 64, 3)]
def k_45_1 : Cl := [(33, .ifCond .eq 18, 3), (36, .aload_n 0, 1), (37, .aload_n 0, 1), (38, .getfield 34, 3), (41, .getfield 44, 3), (44, .iload_n 1, 1), (45, .iaload, 1), (46, .iconst 1, 1), (47, .iconst 0, 1), (48, .invokevirtual 70, 3), (51, .iinc 1 1, 3), (54, .goto (-48), 3), (57, .iconst 0, 1), (58, .istore_n 1, 1), (59, .iload_n 1, 1), (60, .aload_n 0, 1), (61, .getfield 51, 3)]
def k_45_2 : Cl := [(64, .if_icmp .ge 78, 3), (67, .iload_n 1, 1), (68, .sipush 1024, 3), (71, .if_icmp .ge 71, 3), (74, .aload_n 0, 1), (75, .getfield 9, 3), (78, .aload_n 0, 1), (79, .getfield 21, 3), (82, .iload_n 1, 1), (83, .iaload, 1), (84, .iaload, 1), (85, .istore_n 2, 1), (86, .iconst 0, 1), (87, .istore_n 3, 1), (88, .iload_n 3, 1), (89, .sipush 10240, 3), (92, .if_icmp .ge 44, 3), (95, .iload_n 2, 1)]
def k_45_3 : Cl := [(96, .ifCond .lt 40, 3), (99, .iload_n 2, 1), (100, .bipush 10, 2), (102, .idiv, 1), (103, .istore 4, 2), (105, .aload_n 0, 1), (106, .getfield 24, 3), (109, .iload 4, 2), (111, .iaload, 1), (112, .ifCond .ne 11, 3), (115, .aload_n 0, 1), (116, .iload 4, 2), (118, .iconst 1, 1), (119, .iconst 0, 1), (120, .invokevirtual 70, 3), (123, .aload_n 0, 1), (124, .getfield 15, 3), (127, .iload_n 2, 1)]
def k_45_4 : Cl := [(128, .iaload, 1), (129, .istore_n 2, 1), (130, .iinc 3 1, 3), (133, .goto (-45), 3), (136, .iinc 1 1, 3), (139, .goto (-80), 3), (142, .aload_n 0, 1), (143, .getfield 34, 3), (146, .getfield 38, 3), (149, .aload_n 0, 1), (150, .getfield 51, 3), (153, .isub, 1), (154, .ireturn, 1)]
def r_45 : MR := (1, yX1_dead, cX1_dead, 5, (Option.some FieldType.int), [k_45_0, k_45_1, k_45_2, k_45_3, k_45_4])
abbrev Eg_solve : Nat := 46
def k_46_0 : Cl := [(0, .aload_n 0, 1), (1, .invokevirtual 61, 3), (4, .iconst 0, 1), (5, .istore_n 1, 1), (6, .iload_n 1, 1), (7, .aload_n 0, 1), (8, .getfield 34, 3), (11, .getfield 38, 3), (14, .if_icmp .ge 46, 3), (17, .aload_n 0, 1), (18, .getfield 34, 3), (21, .getfield 44, 3), (24, .iload_n 1, 1), (25, .iaload, 1), (26, .istore_n 2, 1), (27, .aload_n 0, 1), (28, .getfield 30, 3), (31, .iload_n 2, 1)]
def k_46_1 : Cl := [(32, .invokevirtual 64, 3), (35, .ifCond .ne 12, 3), (38, .aload_n 0, 1), (39, .getfield 18, 3), (42, .iload_n 2, 1), (43, .iaload, 1), (44, .ifCond .ne 10, 3), (47, .aload_n 0, 1), (48, .iload_n 2, 1), (49, .iconst 2, 1), (50, .iconst 0, 1), (51, .invokevirtual 70, 3), (54, .iinc 1 1, 3), (57, .goto (-51), 3), (60, .iconst 0, 1), (61, .istore_n 1, 1), (62, .iload_n 1, 1), (63, .aload_n 0, 1)]
def k_46_2 : Cl := [(64, .getfield 51, 3), (67, .if_icmp .ge 68, 3), (70, .iload_n 1, 1), (71, .sipush 1024, 3), (74, .if_icmp .ge 61, 3), (77, .aload_n 0, 1), (78, .getfield 9, 3), (81, .aload_n 0, 1), (82, .getfield 21, 3), (85, .iload_n 1, 1), (86, .iaload, 1), (87, .iaload, 1), (88, .istore_n 2, 1), (89, .iconst 0, 1), (90, .istore_n 3, 1), (91, .iload_n 3, 1), (92, .sipush 10240, 3), (95, .if_icmp .ge 34, 3)]
def k_46_3 : Cl := [(98, .iload_n 2, 1), (99, .ifCond .lt 30, 3), (102, .aload_n 0, 1), (103, .iload_n 2, 1), (104, .bipush 10, 2), (106, .idiv, 1), (107, .aload_n 0, 1), (108, .getfield 21, 3), (111, .iload_n 1, 1), (112, .iaload, 1), (113, .invokevirtual 74, 3), (116, .aload_n 0, 1), (117, .getfield 15, 3), (120, .iload_n 2, 1), (121, .iaload, 1), (122, .istore_n 2, 1), (123, .iinc 3 1, 3), (126, .goto (-35), 3)]
def k_46_4 : Cl := [(129, .iinc 1 1, 3), (132, .goto (-70), 3), (135, .return_, 1)]
def r_46 : MR := (1, yX1_solve, cX1_solve, 4, (Option.none : Option FieldType), [k_46_0, k_46_1, k_46_2, k_46_3, k_46_4])
abbrev Eg_learn : Nat := 47
def k_47_0 : Cl := [(0, .aload_n 0, 1), (1, .getfield 24, 3), (4, .iload_n 1, 1), (5, .iaload, 1), (6, .ifCond .eq 4, 3), (9, .return_, 1), (10, .aload_n 0, 1), (11, .getfield 24, 3), (14, .iload_n 2, 1), (15, .iaload, 1), (16, .iconst 2, 1), (17, .if_icmp .ne 18, 3), (20, .aload_n 0, 1), (21, .iload_n 1, 1), (22, .iconst 1, 1), (23, .aload_n 0, 1), (24, .getfield 27, 3), (27, .iload_n 2, 1), (28, .iaload, 1), (29, .iconst 1, 1), (30, .iadd, 1), (31, .invokevirtual 70, 3)]
def k_47_1 : Cl := [(34, .return_, 1), (35, .aload_n 0, 1), (36, .getfield 18, 3), (39, .iload_n 1, 1), (40, .dup2, 1), (41, .iaload, 1), (42, .iconst 1, 1), (43, .isub, 1), (44, .iastore, 1), (45, .aload_n 0, 1), (46, .getfield 18, 3), (49, .iload_n 1, 1), (50, .iaload, 1), (51, .ifCond .ne 17, 3), (54, .aload_n 0, 1), (55, .iload_n 1, 1), (56, .iconst 2, 1), (57, .aload_n 0, 1), (58, .getfield 27, 3), (61, .iload_n 2, 1), (62, .iaload, 1), (63, .iconst 1, 1)]
def k_47_2 : Cl := [(64, .iadd, 1), (65, .invokevirtual 70, 3), (68, .return_, 1)]
def r_47 : MR := (1, yX1_learn, cX1_learn, 3, (Option.none : Option FieldType), [k_47_0, k_47_1, k_47_2])
abbrev Eg_firstSlide : Nat := 48
def k_48_0 : Cl := [(0, .aload_n 0, 1), (1, .getfield 30, 3), (4, .iload_n 1, 1), (5, .invokevirtual 64, 3), (8, .ifCond .eq 6, 3), (11, .bipush (-4), 2), (13, .ireturn, 1), (14, .iconst 0, 1), (15, .istore_n 2, 1), (16, .iload_n 2, 1), (17, .aload_n 0, 1), (18, .getfield 34, 3), (21, .getfield 54, 3), (24, .if_icmp .ge 37, 3), (27, .aload_n 0, 1), (28, .getfield 34, 3), (31, .iload_n 1, 1)]
def k_48_1 : Cl := [(32, .iload_n 2, 1), (33, .invokevirtual 57, 3), (36, .istore_n 3, 1), (37, .iload_n 3, 1), (38, .ifCond .lt 17, 3), (41, .aload_n 0, 1), (42, .iload_n 1, 1), (43, .iload_n 3, 1), (44, .invokevirtual 78, 3), (47, .ifCond .eq 8, 3), (50, .iload_n 2, 1), (51, .invokestatic 82, 3), (54, .ireturn, 1), (55, .iinc 2 1, 3), (58, .goto (-42), 3), (61, .bipush (-4), 2), (63, .ireturn, 1)]
def r_48 : MR := (1, yX1_firstSlide, cX1_firstSlide, 4, (Option.some FieldType.int), [k_48_0, k_48_1])
abbrev Eg_leadsTo : Nat := 49
def k_49_0 : Cl := [(0, .aload_n 0, 1), (1, .getfield 24, 3), (4, .iload_n 1, 1), (5, .iaload, 1), (6, .ifCond .ne 18, 3), (9, .aload_n 0, 1), (10, .getfield 24, 3), (13, .iload_n 2, 1), (14, .iaload, 1), (15, .ifCond .ne 7, 3), (18, .iconst 1, 1), (19, .goto 4, 3), (22, .iconst 0, 1), (23, .ireturn, 1), (24, .aload_n 0, 1), (25, .getfield 24, 3), (28, .iload_n 2, 1), (29, .iaload, 1), (30, .ifCond .eq 39, 3)]
def k_49_1 : Cl := [(33, .aload_n 0, 1), (34, .getfield 24, 3), (37, .iload_n 2, 1), (38, .iaload, 1), (39, .aload_n 0, 1), (40, .getfield 24, 3), (43, .iload_n 1, 1), (44, .iaload, 1), (45, .if_icmp .eq 24, 3), (48, .aload_n 0, 1), (49, .getfield 27, 3), (52, .iload_n 2, 1), (53, .iaload, 1), (54, .iconst 1, 1), (55, .iadd, 1), (56, .aload_n 0, 1), (57, .getfield 27, 3), (60, .iload_n 1, 1), (61, .iaload, 1), (62, .if_icmp .ne 7, 3)]
def k_49_2 : Cl := [(65, .iconst 1, 1), (66, .goto 4, 3), (69, .iconst 0, 1), (70, .ireturn, 1)]
def r_49 : MR := (1, yX1_leadsTo, cX1_leadsTo, 3, (Option.some FieldType.boolean), [k_49_0, k_49_1, k_49_2])
abbrev Sh_begin : Nat := 50
def k_50_0 : Cl := [(0, .aload_n 0, 1), (1, .iconst 1, 1), (2, .putfield 15, 3), (5, .aload_n 0, 1), (6, .iload_n 1, 1), (7, .putfield 19, 3), (10, .aload_n 0, 1), (11, .iload_n 2, 1), (12, .putfield 23, 3), (15, .iconst 0, 1), (16, .istore_n 3, 1), (17, .iload_n 3, 1), (18, .bipush 24, 2), (20, .if_icmp .ge 16, 3), (23, .aload_n 0, 1), (24, .getfield 9, 3), (27, .iload_n 3, 1), (28, .lconst 0, 1), (29, .lastore, 1), (30, .iinc 3 1, 3)]
def k_50_1 : Cl := [(33, .goto (-16), 3), (36, .return_, 1)]
def r_50 : MR := (2, yX2_begin, cX2_begin, 4, (Option.none : Option FieldType), [k_50_0, k_50_1])
abbrev Sh_end : Nat := 51
def k_51_0 : Cl := [(0, .aload_n 0, 1), (1, .iconst 0, 1), (2, .putfield 15, 3), (5, .aload_n 0, 1), (6, .getfield 23, 3), (9, .ireturn, 1)]
def r_51 : MR := (2, yX2_end, cX2_end, 1, (Option.some FieldType.int), [k_51_0])
abbrev Sh_holds : Nat := 52
def k_52_0 : Cl := [(0, .iload_n 2, 1), (1, .ifCond .lt 21, 3), (4, .iload_n 1, 1), (5, .ifCond .lt 17, 3), (8, .iload_n 1, 1), (9, .aload_n 0, 1), (10, .getfield 23, 3), (13, .iload_n 2, 1), (14, .isub, 1), (15, .if_icmp .gt 7, 3), (18, .iconst 1, 1), (19, .goto 4, 3), (22, .iconst 0, 1), (23, .ireturn, 1)]
def r_52 : MR := (2, yX2_holds, cX2_holds, 3, (Option.some FieldType.boolean), [k_52_0])
abbrev Sh_fault : Nat := 53
def k_53_0 : Cl := [(0, .aload_n 0, 1), (1, .getfield 15, 3), (4, .ifCond .ne 6, 3), (7, .bipush (-11), 2), (9, .ireturn, 1), (10, .aload_n 0, 1), (11, .getfield 19, 3), (14, .iload_n 1, 1), (15, .if_icmp .eq 6, 3), (18, .bipush (-12), 2), (20, .ireturn, 1), (21, .aload_n 0, 1), (22, .iload_n 2, 1), (23, .iload_n 3, 1), (24, .invokevirtual 26, 3), (27, .ifCond .eq 7, 3), (30, .iconst 0, 1), (31, .goto 5, 3)]
def k_53_1 : Cl := [(34, .bipush (-13), 2), (36, .ireturn, 1)]
def r_53 : MR := (2, yX2_fault, cX2_fault, 4, (Option.some FieldType.int), [k_53_0, k_53_1])
abbrev Sh_look : Nat := 54
def k_54_0 : Cl := [(0, .aload_n 0, 1), (1, .iload_n 1, 1), (2, .iconst 1, 1), (3, .invokevirtual 26, 3), (6, .ifCond .eq 12, 3), (9, .aload_n 0, 1), (10, .getfield 9, 3), (13, .iload_n 1, 1), (14, .laload, 1), (15, .goto 4, 3), (18, .lconst 0, 1), (19, .lreturn, 1)]
def r_54 : MR := (2, yX2_look, cX2_look, 2, (Option.some FieldType.long), [k_54_0])
abbrev Sh_put : Nat := 55
def k_55_0 : Cl := [(0, .aload_n 0, 1), (1, .iload_n 1, 1), (2, .iconst 1, 1), (3, .invokevirtual 26, 3), (6, .ifCond .ne 4, 3), (9, .return_, 1), (10, .aload_n 0, 1), (11, .getfield 19, 3), (14, .ifCond .ne 16, 3), (17, .aload_n 0, 1), (18, .getfield 9, 3), (21, .iload_n 1, 1), (22, .lload_n 2, 1), (23, .l2i, 1), (24, .i2b, 1), (25, .i2l, 1), (26, .lastore, 1), (27, .goto 51, 3), (30, .aload_n 0, 1), (31, .getfield 19, 3)]
def k_55_1 : Cl := [(34, .iconst 1, 1), (35, .if_icmp .ne 16, 3), (38, .aload_n 0, 1), (39, .getfield 9, 3), (42, .iload_n 1, 1), (43, .lload_n 2, 1), (44, .l2i, 1), (45, .i2s, 1), (46, .i2l, 1), (47, .lastore, 1), (48, .goto 30, 3), (51, .aload_n 0, 1), (52, .getfield 19, 3), (55, .iconst 2, 1), (56, .if_icmp .ne 15, 3), (59, .aload_n 0, 1), (60, .getfield 9, 3), (63, .iload_n 1, 1)]
def k_55_2 : Cl := [(64, .lload_n 2, 1), (65, .l2i, 1), (66, .i2l, 1), (67, .lastore, 1), (68, .goto 10, 3), (71, .aload_n 0, 1), (72, .getfield 9, 3), (75, .iload_n 1, 1), (76, .lload_n 2, 1), (77, .lastore, 1), (78, .return_, 1)]
def r_55 : MR := (2, yX2_put, cX2_put, 4, (Option.none : Option FieldType), [k_55_0, k_55_1, k_55_2])
abbrev Tp_write : Nat := 56
def k_56_0 : Cl := [(0, .aload_n 0, 1), (1, .getfield 15, 3), (4, .bipush 90, 2), (6, .if_icmp .lt 6, 3), (9, .bipush (-3), 2), (11, .ireturn, 1), (12, .aload_n 0, 1), (13, .getfield 9, 3), (16, .aload_n 0, 1), (17, .getfield 15, 3), (20, .iload_n 1, 1), (21, .castore, 1), (22, .aload_n 0, 1), (23, .dup, 1), (24, .getfield 15, 3), (27, .iconst 1, 1), (28, .iadd, 1), (29, .putfield 15, 3)]
def k_56_1 : Cl := [(32, .aload_n 0, 1), (33, .getfield 15, 3), (36, .ireturn, 1)]
def r_56 : MR := (3, yX3_write, cX3_write, 2, (Option.some FieldType.int), [k_56_0, k_56_1])
abbrev Tp_read : Nat := 57
def k_57_0 : Cl := [(0, .aload_n 0, 1), (1, .iconst 0, 1), (2, .putfield 19, 3), (5, .aload_n 1, 1), (6, .invokevirtual 22, 3), (9, .aload_n 0, 1), (10, .aload_n 1, 1), (11, .invokevirtual 27, 3), (14, .ifCond .eq 31, 3), (17, .aload_n 0, 1), (18, .invokevirtual 31, 3), (21, .ifCond .ne 20, 3), (24, .aload_n 0, 1), (25, .bipush 59, 2), (27, .invokevirtual 35, 3), (30, .ifCond .eq 15, 3)]
def k_57_1 : Cl := [(33, .aload_n 0, 1), (34, .aload_n 1, 1), (35, .invokevirtual 39, 3), (38, .ifCond .eq 7, 3), (41, .iconst 1, 1), (42, .goto 4, 3), (45, .iconst 0, 1), (46, .istore_n 2, 1), (47, .aload_n 0, 1), (48, .iconst 0, 1), (49, .putfield 15, 3), (52, .iload_n 2, 1), (53, .ifCond .eq 10, 3), (56, .aload_n 1, 1), (57, .getfield 42, 3), (60, .goto 10, 3), (63, .bipush (-20), 2)]
def k_57_2 : Cl := [(65, .aload_n 0, 1), (66, .getfield 19, 3), (69, .isub, 1), (70, .ireturn, 1)]
def r_57 : MR := (3, yX3_read, cX3_read, 3, (Option.some FieldType.int), [k_57_0, k_57_1, k_57_2])
abbrev Tp_readPanels : Nat := 58
def k_58_0 : Cl := [(0, .iconst 0, 1), (1, .istore_n 2, 1), (2, .iconst 0, 1), (3, .istore_n 3, 1), (4, .iload_n 3, 1), (5, .iconst 5, 1), (6, .if_icmp .ge 83, 3), (9, .iload_n 3, 1), (10, .ifCond .le 14, 3), (13, .aload_n 0, 1), (14, .bipush 44, 2), (16, .invokevirtual 35, 3), (19, .ifCond .ne 5, 3), (22, .iconst 1, 1), (23, .ireturn, 1), (24, .aload_n 0, 1), (25, .ldc 45, 2), (27, .invokevirtual 47, 3), (30, .istore 4, 2)]
def k_58_1 : Cl := [(32, .iload 4, 2), (34, .ifCond .ge 5, 3), (37, .iconst 0, 1), (38, .ireturn, 1), (39, .aload_n 0, 1), (40, .iconst 1, 1), (41, .iconst 3, 1), (42, .invokevirtual 51, 3), (45, .istore 5, 2), (47, .iload 5, 2), (49, .ifCond .ge 5, 3), (52, .iconst 0, 1), (53, .ireturn, 1), (54, .aload_n 1, 1), (55, .iload 4, 2), (57, .iload 5, 2), (59, .invokevirtual 55, 3), (62, .pop, 1), (63, .iload_n 2, 1)]
def k_58_2 : Cl := [(64, .ifCond .ne 19, 3), (67, .aload_n 0, 1), (68, .bipush 33, 2), (70, .invokevirtual 35, 3), (73, .ifCond .eq 10, 3), (76, .iconst 1, 1), (77, .istore_n 2, 1), (78, .aload_n 1, 1), (79, .iload_n 3, 1), (80, .putfield 58, 3), (83, .iinc 3 1, 3), (86, .goto (-82), 3), (89, .iconst 1, 1), (90, .ireturn, 1)]
def r_58 : MR := (3, yX3_readPanels, cX3_readPanels, 6, (Option.some FieldType.boolean), [k_58_0, k_58_1, k_58_2])
abbrev Tp_readLocks : Nat := 59
def k_59_0 : Cl := [(0, .iconst 0, 1), (1, .istore_n 2, 1), (2, .iload_n 2, 1), (3, .bipush 6, 2), (5, .if_icmp .ge 37, 3), (8, .iload_n 2, 1), (9, .ifCond .le 17, 3), (12, .aload_n 0, 1), (13, .bipush 44, 2), (15, .invokevirtual 35, 3), (18, .ifCond .ne 8, 3), (21, .aload_n 0, 1), (22, .invokevirtual 31, 3), (25, .ireturn, 1), (26, .aload_n 0, 1), (27, .aload_n 1, 1), (28, .invokevirtual 61, 3), (31, .ifCond .ne 5, 3)]
def k_59_1 : Cl := [(34, .iconst 0, 1), (35, .ireturn, 1), (36, .iinc 2 1, 3), (39, .goto (-37), 3), (42, .aload_n 0, 1), (43, .invokevirtual 31, 3), (46, .ireturn, 1)]
def r_59 : MR := (3, yX3_readLocks, cX3_readLocks, 3, (Option.some FieldType.boolean), [k_59_0, k_59_1])
abbrev Tp_readLock : Nat := 60
def k_60_0 : Cl := [(0, .aload_n 0, 1), (1, .iconst 0, 1), (2, .aload_n 1, 1), (3, .getfield 42, 3), (6, .iconst 1, 1), (7, .isub, 1), (8, .invokevirtual 51, 3), (11, .istore_n 2, 1), (12, .iload_n 2, 1), (13, .ifCond .ge 5, 3), (16, .iconst 0, 1), (17, .ireturn, 1), (18, .aload_n 0, 1), (19, .ldc 64, 2), (21, .invokevirtual 47, 3), (24, .istore_n 3, 1), (25, .iload_n 3, 1), (26, .ifCond .lt 14, 3), (29, .aload_n 0, 1), (30, .invokevirtual 66, 3)]
def k_60_1 : Cl := [(33, .bipush 48, 2), (35, .isub, 1), (36, .iload_n 2, 1), (37, .if_icmp .ne 5, 3), (40, .iconst 0, 1), (41, .ireturn, 1), (42, .aload_n 0, 1), (43, .iconst 0, 1), (44, .aload_n 1, 1), (45, .getfield 42, 3), (48, .iconst 1, 1), (49, .isub, 1), (50, .invokevirtual 51, 3), (53, .istore 4, 2), (55, .aload_n 1, 1), (56, .iload 4, 2), (58, .invokevirtual 70, 3), (61, .ifCond .ne 5, 3)]
def k_60_2 : Cl := [(64, .iconst 0, 1), (65, .ireturn, 1), (66, .aload_n 0, 1), (67, .aload_n 1, 1), (68, .getfield 74, 3), (71, .iload 4, 2), (73, .iaload, 1), (74, .invokevirtual 78, 3), (77, .istore 5, 2), (79, .iload 5, 2), (81, .ifCond .ne 5, 3), (84, .iconst 0, 1), (85, .ireturn, 1), (86, .aload_n 1, 1), (87, .iload_n 2, 1), (88, .iload_n 3, 1), (89, .iload 4, 2), (91, .iload 5, 2), (93, .invokevirtual 82, 3)]
def k_60_3 : Cl := [(96, .pop, 1), (97, .iconst 1, 1), (98, .ireturn, 1)]
def r_60 : MR := (3, yX3_readLock, cX3_readLock, 6, (Option.some FieldType.boolean), [k_60_0, k_60_1, k_60_2, k_60_3])
abbrev Tp_readPlaces : Nat := 61
def k_61_0 : Cl := [(0, .iconst 0, 1), (1, .istore_n 2, 1), (2, .iconst 0, 1), (3, .istore_n 3, 1), (4, .iconst 0, 1), (5, .istore 4, 2), (7, .iload 4, 2), (9, .iload_n 1, 1), (10, .if_icmp .gt 36, 3), (13, .aload_n 0, 1), (14, .iload_n 3, 1), (15, .iload_n 1, 1), (16, .invokevirtual 51, 3), (19, .istore 5, 2), (21, .iload 5, 2), (23, .ifCond .ge 5, 3), (26, .iload_n 2, 1), (27, .ireturn, 1), (28, .iload_n 2, 1), (29, .iconst 1, 1), (30, .iload 5, 2)]
def k_61_1 : Cl := [(32, .ishl, 1), (33, .ior, 1), (34, .istore_n 2, 1), (35, .iload 5, 2), (37, .iconst 1, 1), (38, .iadd, 1), (39, .istore_n 3, 1), (40, .iinc 4 1, 3), (43, .goto (-36), 3), (46, .iload_n 2, 1), (47, .ireturn, 1)]
def r_61 : MR := (3, yX3_readPlaces, cX3_readPlaces, 6, (Option.some FieldType.int), [k_61_0, k_61_1])
abbrev Tp_peek : Nat := 62
def k_62_0 : Cl := [(0, .aload_n 0, 1), (1, .getfield 19, 3), (4, .aload_n 0, 1), (5, .getfield 15, 3), (8, .if_icmp .ge 39, 3), (11, .aload_n 0, 1), (12, .getfield 19, 3), (15, .bipush 90, 2), (17, .if_icmp .ge 30, 3), (20, .aload_n 0, 1), (21, .getfield 9, 3), (24, .aload_n 0, 1), (25, .getfield 19, 3), (28, .caload, 1), (29, .bipush 32, 2), (31, .if_icmp .ne 16, 3)]
def k_62_1 : Cl := [(34, .aload_n 0, 1), (35, .dup, 1), (36, .getfield 19, 3), (39, .iconst 1, 1), (40, .iadd, 1), (41, .putfield 19, 3), (44, .goto (-44), 3), (47, .aload_n 0, 1), (48, .getfield 19, 3), (51, .aload_n 0, 1), (52, .getfield 15, 3), (55, .if_icmp .ge 24, 3), (58, .aload_n 0, 1), (59, .getfield 19, 3), (62, .bipush 90, 2)]
def k_62_2 : Cl := [(64, .if_icmp .ge 15, 3), (67, .aload_n 0, 1), (68, .getfield 9, 3), (71, .aload_n 0, 1), (72, .getfield 19, 3), (75, .caload, 1), (76, .goto 4, 3), (79, .iconst 0, 1), (80, .ireturn, 1)]
def r_62 : MR := (3, yX3_peek, cX3_peek, 1, (Option.some FieldType.char), [k_62_0, k_62_1, k_62_2])
abbrev Tp_isEnd : Nat := 63
def k_63_0 : Cl := [(0, .aload_n 0, 1), (1, .invokevirtual 66, 3), (4, .ifCond .ne 7, 3), (7, .iconst 1, 1), (8, .goto 4, 3), (11, .iconst 0, 1), (12, .ireturn, 1)]
def r_63 : MR := (3, yX3_isEnd, cX3_isEnd, 1, (Option.some FieldType.boolean), [k_63_0])
abbrev Tp_accept : Nat := 64
def k_64_0 : Cl := [(0, .aload_n 0, 1), (1, .invokevirtual 66, 3), (4, .iload_n 1, 1), (5, .if_icmp .eq 5, 3), (8, .iconst 0, 1), (9, .ireturn, 1), (10, .aload_n 0, 1), (11, .dup, 1), (12, .getfield 19, 3), (15, .iconst 1, 1), (16, .iadd, 1), (17, .putfield 19, 3), (20, .iconst 1, 1), (21, .ireturn, 1)]
def r_64 : MR := (3, yX3_accept, cX3_accept, 2, (Option.some FieldType.boolean), [k_64_0])
abbrev Tp_oneOf : Nat := 65
def k_65_0 : Cl := [(0, .aload_n 1, 1), (1, .aload_n 0, 1), (2, .invokevirtual 66, 3), (5, .invokevirtual 86, 3), (8, .istore_n 2, 1), (9, .iload_n 2, 1), (10, .ifCond .lt 13, 3), (13, .aload_n 0, 1), (14, .dup, 1), (15, .getfield 19, 3), (18, .iconst 1, 1), (19, .iadd, 1), (20, .putfield 19, 3), (23, .iload_n 2, 1), (24, .ireturn, 1)]
def r_65 : MR := (3, yX3_oneOf, cX3_oneOf, 3, (Option.some FieldType.int), [k_65_0])
abbrev Tp_digit : Nat := 66
def k_66_0 : Cl := [(0, .aload_n 0, 1), (1, .invokevirtual 66, 3), (4, .bipush 48, 2), (6, .isub, 1), (7, .istore_n 3, 1), (8, .iload_n 3, 1), (9, .iload_n 1, 1), (10, .if_icmp .lt 8, 3), (13, .iload_n 3, 1), (14, .iload_n 2, 1), (15, .if_icmp .le 5, 3), (18, .iconst (-1), 1), (19, .ireturn, 1), (20, .aload_n 0, 1), (21, .dup, 1), (22, .getfield 19, 3), (25, .iconst 1, 1), (26, .iadd, 1), (27, .putfield 19, 3), (30, .iload_n 3, 1), (31, .ireturn, 1)]
def r_66 : MR := (3, yX3_digit, cX3_digit, 4, (Option.some FieldType.int), [k_66_0])
abbrev Wk_from : Nat := 67
def k_67_0 : Cl := [(0, .iload_n 1, 1), (1, .ifCond .lt 10, 3), (4, .iload_n 1, 1), (5, .sipush 1024, 3), (8, .if_icmp .lt 4, 3), (11, .return_, 1), (12, .aload_n 0, 1), (13, .getfield 33, 3), (16, .getfield 37, 3), (19, .ifCond .ne 23, 3), (22, .aload_n 0, 1), (23, .getfield 43, 3), (26, .iload_n 1, 1), (27, .if_icmp .ne 15, 3), (30, .aload_n 0, 1), (31, .getfield 47, 3)]
def k_67_1 : Cl := [(34, .iload_n 2, 1), (35, .if_icmp .ne 7, 3), (38, .iconst 1, 1), (39, .goto 4, 3), (42, .iconst 0, 1), (43, .istore_n 3, 1), (44, .iload_n 3, 1), (45, .ifCond .eq 4, 3), (48, .return_, 1), (49, .aload_n 0, 1), (50, .getfield 33, 3), (53, .getfield 37, 3), (56, .ifCond .eq 7, 3), (59, .aload_n 0, 1), (60, .invokevirtual 50, 3), (63, .aload_n 0, 1)]
def k_67_2 : Cl := [(64, .iload_n 1, 1), (65, .putfield 43, 3), (68, .aload_n 0, 1), (69, .iload_n 2, 1), (70, .putfield 47, 3), (73, .iconst 0, 1), (74, .istore 4, 2), (76, .iload 4, 2), (78, .sipush 1024, 3), (81, .if_icmp .ge 17, 3), (84, .aload_n 0, 1), (85, .getfield 21, 3), (88, .iload 4, 2), (90, .iconst (-1), 1), (91, .iastore, 1), (92, .iinc 4 1, 3), (95, .goto (-19), 3)]
def k_67_3 : Cl := [(98, .aload_n 0, 1), (99, .getfield 21, 3), (102, .iload_n 1, 1), (103, .iconst 0, 1), (104, .iastore, 1), (105, .aload_n 0, 1), (106, .getfield 30, 3), (109, .iload_n 1, 1), (110, .iconst 1, 1), (111, .iastore, 1), (112, .aload_n 0, 1), (113, .getfield 18, 3), (116, .iconst 0, 1), (117, .iload_n 1, 1), (118, .iastore, 1), (119, .aload_n 0, 1), (120, .iconst 1, 1), (121, .putfield 53, 3), (124, .iconst 0, 1), (125, .istore 4, 2), (127, .iload 4, 2)]
def k_67_4 : Cl := [(129, .aload_n 0, 1), (130, .getfield 53, 3), (133, .if_icmp .ge 28, 3), (136, .iload 4, 2), (138, .sipush 1024, 3), (141, .if_icmp .ge 20, 3), (144, .aload_n 0, 1), (145, .aload_n 0, 1), (146, .getfield 18, 3), (149, .iload 4, 2), (151, .iaload, 1), (152, .invokevirtual 56, 3), (155, .iinc 4 1, 3), (158, .goto (-31), 3)]
def k_67_5 : Cl := [(161, .return_, 1)]
def r_67 : MR := (4, yX4_from, cX4_from, 5, (Option.none : Option FieldType), [k_67_0, k_67_1, k_67_2, k_67_3, k_67_4, k_67_5])
abbrev Wk_chart : Nat := 68
def k_68_0 : Cl := [(0, .aload_n 0, 1), (1, .iconst 2, 1), (2, .aload_n 0, 1), (3, .getfield 33, 3), (6, .getfield 60, 3), (9, .imul, 1), (10, .putfield 63, 3), (13, .iconst 0, 1), (14, .istore_n 1, 1), (15, .iload_n 1, 1), (16, .iconst 1, 1), (17, .aload_n 0, 1), (18, .getfield 63, 3), (21, .ishl, 1), (22, .if_icmp .ge 52, 3), (25, .iload_n 1, 1), (26, .sipush 1024, 3), (29, .if_icmp .ge 45, 3)]
def k_68_1 : Cl := [(32, .aload_n 0, 1), (33, .getfield 33, 3), (36, .iload_n 1, 1), (37, .invokevirtual 66, 3), (40, .ifCond .ne 6, 3), (43, .goto 25, 3), (46, .iconst 0, 1), (47, .istore_n 2, 1), (48, .iload_n 2, 1), (49, .aload_n 0, 1), (50, .getfield 63, 3), (53, .if_icmp .ge 15, 3), (56, .aload_n 0, 1), (57, .iload_n 1, 1), (58, .iload_n 2, 1), (59, .invokevirtual 70, 3), (62, .iinc 2 1, 3)]
def k_68_2 : Cl := [(65, .goto (-17), 3), (68, .iinc 1 1, 3), (71, .goto (-56), 3), (74, .aload_n 0, 1), (75, .getfield 33, 3), (78, .iconst 0, 1), (79, .putfield 37, 3), (82, .return_, 1)]
def r_68 : MR := (4, yX4_chart, cX4_chart, 3, (Option.none : Option FieldType), [k_68_0, k_68_1, k_68_2])
abbrev Wk_chartMove : Nat := 69
def k_69_0 : Cl := [(0, .iload_n 2, 1), (1, .iconst 1, 1), (2, .ishr, 1), (3, .istore_n 3, 1), (4, .iload_n 2, 1), (5, .iconst 1, 1), (6, .iand, 1), (7, .istore 4, 2), (9, .bipush 10, 2), (11, .iload_n 1, 1), (12, .imul, 1), (13, .iload_n 2, 1), (14, .iadd, 1), (15, .istore 5, 2), (17, .aload_n 0, 1), (18, .getfield 9, 3), (21, .iload 5, 2), (23, .aload_n 0, 1), (24, .getfield 33, 3), (27, .iload_n 1, 1), (28, .iload_n 3, 1), (29, .iload 4, 2), (31, .invokevirtual 74, 3)]
def k_69_1 : Cl := [(34, .ifCond .eq 17, 3), (37, .aload_n 0, 1), (38, .getfield 33, 3), (41, .iload_n 1, 1), (42, .iload_n 3, 1), (43, .iload 4, 2), (45, .invokevirtual 78, 3), (48, .goto 4, 3), (51, .iconst (-1), 1), (52, .iastore, 1), (53, .aload_n 0, 1), (54, .getfield 15, 3), (57, .iload 5, 2), (59, .aload_n 0, 1), (60, .getfield 33, 3), (63, .iload_n 1, 1)]
def k_69_2 : Cl := [(64, .iload_n 3, 1), (65, .iload 4, 2), (67, .invokevirtual 82, 3), (70, .iastore, 1), (71, .return_, 1)]
def r_69 : MR := (4, yX4_chartMove, cX4_chartMove, 6, (Option.none : Option FieldType), [k_69_0, k_69_1, k_69_2])
abbrev Wk_visit : Nat := 70
def k_70_0 : Cl := [(0, .iconst 0, 1), (1, .istore_n 2, 1), (2, .iload_n 2, 1), (3, .aload_n 0, 1), (4, .getfield 63, 3), (7, .if_icmp .ge 136, 3), (10, .aload_n 0, 1), (11, .iload_n 1, 1), (12, .iload_n 2, 1), (13, .invokevirtual 85, 3), (16, .istore_n 3, 1), (17, .iload_n 3, 1), (18, .ifCond .ge 6, 3), (21, .goto 116, 3), (24, .aload_n 0, 1), (25, .getfield 21, 3), (28, .iload_n 3, 1), (29, .iaload, 1), (30, .ifCond .ge 68, 3)]
def k_70_1 : Cl := [(33, .aload_n 0, 1), (34, .getfield 53, 3), (37, .sipush 1024, 3), (40, .if_icmp .ge 58, 3), (43, .aload_n 0, 1), (44, .getfield 21, 3), (47, .iload_n 3, 1), (48, .aload_n 0, 1), (49, .getfield 21, 3), (52, .iload_n 1, 1), (53, .iaload, 1), (54, .iconst 1, 1), (55, .iadd, 1), (56, .iastore, 1), (57, .aload_n 0, 1), (58, .getfield 24, 3), (61, .iload_n 3, 1), (62, .iload_n 1, 1), (63, .iastore, 1)]
def k_70_2 : Cl := [(64, .aload_n 0, 1), (65, .getfield 27, 3), (68, .iload_n 3, 1), (69, .iload_n 2, 1), (70, .iastore, 1), (71, .aload_n 0, 1), (72, .getfield 30, 3), (75, .iload_n 3, 1), (76, .iconst 0, 1), (77, .iastore, 1), (78, .aload_n 0, 1), (79, .getfield 18, 3), (82, .aload_n 0, 1), (83, .getfield 53, 3), (86, .iload_n 3, 1), (87, .iastore, 1), (88, .aload_n 0, 1), (89, .dup, 1), (90, .getfield 53, 3), (93, .iconst 1, 1), (94, .iadd, 1), (95, .putfield 53, 3)]
def k_70_3 : Cl := [(98, .aload_n 0, 1), (99, .getfield 21, 3), (102, .iload_n 3, 1), (103, .iaload, 1), (104, .aload_n 0, 1), (105, .getfield 21, 3), (108, .iload_n 1, 1), (109, .iaload, 1), (110, .iconst 1, 1), (111, .iadd, 1), (112, .if_icmp .ne 25, 3), (115, .aload_n 0, 1), (116, .getfield 30, 3), (119, .iload_n 3, 1), (120, .aload_n 0, 1), (121, .getfield 30, 3), (124, .iload_n 3, 1), (125, .iaload, 1), (126, .aload_n 0, 1), (127, .getfield 30, 3)]
def k_70_4 : Cl := [(130, .iload_n 1, 1), (131, .iaload, 1), (132, .iadd, 1), (133, .ldc 89, 2), (135, .irem, 1), (136, .iastore, 1), (137, .iinc 2 1, 3), (140, .goto (-138), 3), (143, .return_, 1)]
def r_70 : MR := (4, yX4_visit, cX4_visit, 4, (Option.none : Option FieldType), [k_70_0, k_70_1, k_70_2, k_70_3, k_70_4])
abbrev Wk_next : Nat := 71
def k_71_0 : Cl := [(0, .bipush 10, 2), (2, .iload_n 1, 1), (3, .imul, 1), (4, .iload_n 2, 1), (5, .iadd, 1), (6, .istore_n 3, 1), (7, .aload_n 0, 1), (8, .getfield 15, 3), (11, .iload_n 3, 1), (12, .iaload, 1), (13, .aload_n 0, 1), (14, .getfield 47, 3), (17, .iconst (-1), 1), (18, .ixor, 1), (19, .iand, 1), (20, .ifCond .ne 12, 3), (23, .aload_n 0, 1), (24, .getfield 9, 3), (27, .iload_n 3, 1), (28, .iaload, 1), (29, .goto 4, 3)]
def k_71_1 : Cl := [(32, .iconst (-1), 1), (33, .ireturn, 1)]
def r_71 : MR := (4, yX4_next, cX4_next, 4, (Option.some FieldType.int), [k_71_0, k_71_1])
abbrev Wk_slideOf : Nat := 72
def k_72_0 : Cl := [(0, .bipush 10, 2), (2, .iload_n 0, 1), (3, .iconst 1, 1), (4, .ishr, 1), (5, .imul, 1), (6, .iload_n 0, 1), (7, .iconst 1, 1), (8, .iand, 1), (9, .iadd, 1), (10, .ireturn, 1)]
def r_72 : MR := (4, yX4_slideOf, cX4_slideOf, 1, (Option.some FieldType.int), [k_72_0])
abbrev Wk_firstOpen : Nat := 73
def k_73_0 : Cl := [(0, .iconst 0, 1), (1, .istore_n 1, 1), (2, .iload_n 1, 1), (3, .aload_n 0, 1), (4, .getfield 53, 3), (7, .if_icmp .ge 32, 3), (10, .aload_n 0, 1), (11, .getfield 33, 3), (14, .aload_n 0, 1), (15, .getfield 18, 3), (18, .iload_n 1, 1), (19, .iaload, 1), (20, .invokevirtual 90, 3), (23, .ifCond .eq 10, 3), (26, .aload_n 0, 1), (27, .getfield 18, 3), (30, .iload_n 1, 1), (31, .iaload, 1)]
def k_73_1 : Cl := [(32, .ireturn, 1), (33, .iinc 1 1, 3), (36, .goto (-34), 3), (39, .bipush (-4), 2), (41, .ireturn, 1)]
def r_73 : MR := (4, yX4_firstOpen, cX4_firstOpen, 2, (Option.some FieldType.int), [k_73_0, k_73_1])
abbrev Wk_farthest : Nat := 74
def k_74_0 : Cl := [(0, .aload_n 0, 1), (1, .getfield 53, 3), (4, .ifCond .ne 7, 3), (7, .iconst 0, 1), (8, .goto 19, 3), (11, .aload_n 0, 1), (12, .getfield 21, 3), (15, .aload_n 0, 1), (16, .getfield 18, 3), (19, .aload_n 0, 1), (20, .getfield 53, 3), (23, .iconst 1, 1), (24, .isub, 1), (25, .iaload, 1), (26, .iaload, 1), (27, .ireturn, 1)]
def r_74 : MR := (4, yX4_farthest, cX4_farthest, 1, (Option.some FieldType.int), [k_74_0])
abbrev Wk_told : Nat := 75
def k_75_0 : Cl := [(0, .iload_n 1, 1), (1, .ifCond .lt 19, 3), (4, .iload_n 1, 1), (5, .sipush 1024, 3), (8, .if_icmp .ge 12, 3), (11, .aload_n 0, 1), (12, .getfield 21, 3), (15, .iload_n 1, 1), (16, .iaload, 1), (17, .ifCond .ge 6, 3), (20, .bipush (-4), 2), (22, .ireturn, 1), (23, .iload_n 2, 1), (24, .ifCond .ge 10, 3), (27, .aload_n 0, 1), (28, .getfield 21, 3), (31, .iload_n 1, 1)]
def k_75_1 : Cl := [(32, .iaload, 1), (33, .ireturn, 1), (34, .iload_n 2, 1), (35, .aload_n 0, 1), (36, .getfield 21, 3), (39, .iload_n 1, 1), (40, .iaload, 1), (41, .if_icmp .lt 6, 3), (44, .bipush (-4), 2), (46, .ireturn, 1), (47, .iload_n 1, 1), (48, .istore_n 3, 1), (49, .aload_n 0, 1), (50, .getfield 21, 3), (53, .iload_n 1, 1), (54, .iaload, 1), (55, .istore 4, 2), (57, .iload 4, 2), (59, .iload_n 2, 1), (60, .iconst 1, 1), (61, .iadd, 1), (62, .if_icmp .le 16, 3)]
def k_75_2 : Cl := [(65, .aload_n 0, 1), (66, .getfield 24, 3), (69, .iload_n 3, 1), (70, .iaload, 1), (71, .istore_n 3, 1), (72, .iinc 4 (-1), 3), (75, .goto (-18), 3), (78, .aload_n 0, 1), (79, .getfield 27, 3), (82, .iload_n 3, 1), (83, .iaload, 1), (84, .invokestatic 93, 3), (87, .ireturn, 1)]
def r_75 : MR := (4, yX4_told, cX4_told, 5, (Option.some FieldType.int), [k_75_0, k_75_1, k_75_2])
abbrev Wk_rowsToOpen : Nat := 76
def k_76_0 : Cl := [(0, .aload_n 0, 1), (1, .invokevirtual 97, 3), (4, .istore_n 1, 1), (5, .iload_n 1, 1), (6, .ifCond .ge 5, 3), (9, .iconst 0, 1), (10, .ireturn, 1), (11, .iconst 0, 1), (12, .istore_n 2, 1), (13, .iconst 0, 1), (14, .istore_n 3, 1), (15, .iload_n 3, 1), (16, .aload_n 0, 1), (17, .getfield 53, 3), (20, .if_icmp .ge 58, 3), (23, .aload_n 0, 1), (24, .getfield 18, 3), (27, .iload_n 3, 1), (28, .iaload, 1), (29, .istore 4, 2), (31, .aload_n 0, 1)]
def k_76_1 : Cl := [(32, .getfield 21, 3), (35, .iload 4, 2), (37, .iaload, 1), (38, .aload_n 0, 1), (39, .getfield 21, 3), (42, .iload_n 1, 1), (43, .iaload, 1), (44, .if_icmp .ne 28, 3), (47, .aload_n 0, 1), (48, .getfield 33, 3), (51, .iload 4, 2), (53, .invokevirtual 90, 3), (56, .ifCond .eq 16, 3), (59, .iload_n 2, 1), (60, .aload_n 0, 1), (61, .getfield 30, 3)]
def k_76_2 : Cl := [(64, .iload 4, 2), (66, .iaload, 1), (67, .iadd, 1), (68, .ldc 89, 2), (70, .irem, 1), (71, .istore_n 2, 1), (72, .iinc 3 1, 3), (75, .goto (-60), 3), (78, .iload_n 2, 1), (79, .ireturn, 1)]
def r_76 : MR := (4, yX4_rowsToOpen, cX4_rowsToOpen, 5, (Option.some FieldType.int), [k_76_0, k_76_1, k_76_2])
abbrev Sb_of : Nat := 77
def k_77_0 : Cl := [(0, .aload_n 0, 1), (1, .getfield 10, 3), (4, .iload_n 1, 1), (5, .invokevirtual 65, 3), (8, .ifCond .ne 5, 3), (11, .iconst (-1), 1), (12, .ireturn, 1), (13, .iload_n 2, 1), (14, .tableswitch 120 0 4 #[34, 44, 54, 66, 93], 34)]
def k_77_1 : Cl := [(48, .aload_n 0, 1), (49, .getfield 10, 3), (52, .getfield 79, 3), (55, .iload_n 1, 1), (56, .iaload, 1), (57, .ireturn, 1), (58, .aload_n 0, 1), (59, .getfield 10, 3), (62, .getfield 83, 3)]
def k_77_2 : Cl := [(65, .iload_n 1, 1), (66, .iaload, 1), (67, .ireturn, 1), (68, .aload_n 0, 1), (69, .getfield 10, 3), (72, .getfield 86, 3), (75, .iload_n 1, 1), (76, .invokestatic 89, 3), (79, .ireturn, 1), (80, .aload_n 0, 1), (81, .getfield 10, 3), (84, .aload_n 0, 1), (85, .getfield 10, 3), (88, .getfield 86, 3), (91, .aload_n 0, 1), (92, .getfield 10, 3), (95, .getfield 92, 3)]
def k_77_3 : Cl := [(98, .iload_n 1, 1), (99, .iconst 0, 1), (100, .invokevirtual 95, 3), (103, .invokestatic 99, 3), (106, .ireturn, 1), (107, .aload_n 0, 1), (108, .getfield 10, 3), (111, .aload_n 0, 1), (112, .getfield 10, 3), (115, .getfield 86, 3), (118, .aload_n 0, 1), (119, .getfield 10, 3), (122, .getfield 92, 3), (125, .iload_n 1, 1), (126, .iconst 1, 1), (127, .invokevirtual 95, 3)]
def k_77_4 : Cl := [(130, .invokestatic 99, 3), (133, .ireturn, 1), (134, .iconst (-1), 1), (135, .ireturn, 1)]
def r_77 : MR := (5, yX5_of, cX5_of, 3, (Option.some FieldType.int), [k_77_0, k_77_1, k_77_2, k_77_3, k_77_4])
abbrev Sb_at : Nat := 78
def k_78_0 : Cl := [(0, .aload_n 0, 1), (1, .getfield 10, 3), (4, .iload_n 1, 1), (5, .invokevirtual 103, 3), (8, .ifCond .ne 5, 3), (11, .iconst (-1), 1), (12, .ireturn, 1), (13, .iload_n 2, 1), (14, .tableswitch 109 0 5 #[38, 48, 58, 68, 78, 90], 38)]
def k_78_1 : Cl := [(52, .aload_n 0, 1), (53, .getfield 10, 3), (56, .getfield 106, 3), (59, .iload_n 1, 1), (60, .iaload, 1), (61, .ireturn, 1), (62, .aload_n 0, 1), (63, .getfield 10, 3)]
def k_78_2 : Cl := [(66, .getfield 109, 3), (69, .iload_n 1, 1), (70, .iaload, 1), (71, .ireturn, 1), (72, .aload_n 0, 1), (73, .getfield 10, 3), (76, .getfield 112, 3), (79, .iload_n 1, 1), (80, .iaload, 1), (81, .ireturn, 1), (82, .aload_n 0, 1), (83, .getfield 10, 3), (86, .getfield 115, 3), (89, .iload_n 1, 1), (90, .iaload, 1), (91, .ireturn, 1), (92, .aload_n 0, 1), (93, .getfield 10, 3)]
def k_78_3 : Cl := [(96, .getfield 92, 3), (99, .iload_n 1, 1), (100, .ishr, 1), (101, .iconst 1, 1), (102, .iand, 1), (103, .ireturn, 1), (104, .aload_n 0, 1), (105, .getfield 10, 3), (108, .iload_n 1, 1), (109, .aload_n 0, 1), (110, .getfield 10, 3), (113, .getfield 86, 3), (116, .invokevirtual 118, 3), (119, .invokestatic 99, 3), (122, .ireturn, 1), (123, .iconst (-1), 1), (124, .ireturn, 1)]
def r_78 : MR := (5, yX5_at, cX5_at, 3, (Option.some FieldType.int), [k_78_0, k_78_1, k_78_2, k_78_3])
abbrev Sb_type : Nat := 79
def k_79_0 : Cl := [(0, .iload_n 1, 1), (1, .bipush 32, 2), (3, .if_icmp .lt 9, 3), (6, .iload_n 1, 1), (7, .bipush 126, 2), (9, .if_icmp .le 5, 3), (12, .iconst (-1), 1), (13, .ireturn, 1), (14, .aload_n 0, 1), (15, .getfield 25, 3), (18, .iload_n 1, 1), (19, .i2c, 1), (20, .invokevirtual 122, 3), (23, .ireturn, 1)]
def r_79 : MR := (5, yX5_type, cX5_type, 2, (Option.some FieldType.int), [k_79_0])
abbrev Sb_box : Nat := 80
def k_80_0 : Cl := [(0, .aload_n 0, 1), (1, .getfield 25, 3), (4, .aload_n 0, 1), (5, .getfield 19, 3), (8, .invokevirtual 126, 3), (11, .istore_n 1, 1), (12, .iload_n 1, 1), (13, .ifCond .ge 5, 3), (16, .iload_n 1, 1), (17, .ireturn, 1), (18, .aload_n 0, 1), (19, .getfield 19, 3), (22, .aload_n 0, 1), (23, .getfield 10, 3), (26, .getfield 130, 3), (29, .putfield 130, 3)]
def k_80_1 : Cl := [(32, .aload_n 0, 1), (33, .getfield 10, 3), (36, .aload_n 0, 1), (37, .getfield 19, 3), (40, .invokevirtual 133, 3), (43, .iload_n 1, 1), (44, .ireturn, 1)]
def r_80 : MR := (5, yX5_box, cX5_box, 2, (Option.some FieldType.int), [k_80_0, k_80_1])
abbrev Sb_count : Nat := 81
def k_81_0 : Cl := [(0, .iload_n 1, 1), (1, .tableswitch 133 0 8 #[51, 59, 67, 75, 93, 101, 109, 117, 125], 51)]
def k_81_1 : Cl := [(52, .aload_n 0, 1), (53, .getfield 10, 3), (56, .getfield 54, 3), (59, .ireturn, 1), (60, .aload_n 0, 1), (61, .getfield 10, 3)]
def k_81_2 : Cl := [(64, .getfield 69, 3), (67, .ireturn, 1), (68, .aload_n 0, 1), (69, .getfield 10, 3), (72, .getfield 76, 3), (75, .ireturn, 1), (76, .aload_n 0, 1), (77, .getfield 10, 3), (80, .aload_n 0, 1), (81, .getfield 10, 3), (84, .getfield 86, 3), (87, .invokevirtual 136, 3), (90, .invokestatic 99, 3), (93, .ireturn, 1), (94, .aload_n 0, 1), (95, .getfield 10, 3)]
def k_81_3 : Cl := [(98, .invokevirtual 139, 3), (101, .ireturn, 1), (102, .aload_n 0, 1), (103, .getfield 10, 3), (106, .getfield 92, 3), (109, .ireturn, 1), (110, .aload_n 0, 1), (111, .getfield 10, 3), (114, .invokevirtual 143, 3), (117, .ireturn, 1), (118, .aload_n 0, 1), (119, .getfield 10, 3), (122, .getfield 86, 3), (125, .ireturn, 1), (126, .aload_n 0, 1), (127, .getfield 10, 3)]
def k_81_4 : Cl := [(130, .getfield 146, 3), (133, .ireturn, 1), (134, .iconst (-1), 1), (135, .ireturn, 1)]
def r_81 : MR := (5, yX5_count, cX5_count, 2, (Option.some FieldType.int), [k_81_0, k_81_1, k_81_2, k_81_3, k_81_4])
abbrev Sb_slide : Nat := 82
def k_82_0 : Cl := [(0, .aload_n 0, 1), (1, .getfield 10, 3), (4, .iload_n 1, 1), (5, .invokevirtual 65, 3), (8, .ifCond .eq 12, 3), (11, .iload_n 2, 1), (12, .ifCond .lt 8, 3), (15, .iload_n 2, 1), (16, .iconst 1, 1), (17, .if_icmp .le 5, 3), (20, .iconst (-1), 1), (21, .ireturn, 1), (22, .aload_n 0, 1), (23, .getfield 10, 3), (26, .aload_n 0, 1), (27, .getfield 10, 3), (30, .getfield 86, 3)]
def k_82_1 : Cl := [(33, .aload_n 0, 1), (34, .getfield 10, 3), (37, .getfield 92, 3), (40, .iload_n 1, 1), (41, .iload_n 2, 1), (42, .invokevirtual 95, 3), (45, .ifCond .ne 6, 3), (48, .bipush (-2), 2), (50, .ireturn, 1), (51, .aload_n 0, 1), (52, .getfield 10, 3), (55, .invokevirtual 149, 3), (58, .aload_n 0, 1), (59, .getfield 10, 3), (62, .aload_n 0, 1), (63, .getfield 10, 3)]
def k_82_2 : Cl := [(66, .aload_n 0, 1), (67, .getfield 10, 3), (70, .getfield 86, 3), (73, .iload_n 1, 1), (74, .iload_n 2, 1), (75, .invokevirtual 152, 3), (78, .putfield 86, 3), (81, .aload_n 0, 1), (82, .getfield 10, 3), (85, .getfield 86, 3), (88, .ireturn, 1)]
def r_82 : MR := (5, yX5_slide, cX5_slide, 3, (Option.some FieldType.int), [k_82_0, k_82_1, k_82_2])
abbrev Sb_shut : Nat := 83
def k_83_0 : Cl := [(0, .aload_n 0, 1), (1, .getfield 10, 3), (4, .invokevirtual 139, 3), (7, .invokestatic 156, 3), (10, .istore_n 1, 1), (11, .iload_n 1, 1), (12, .ifCond .ne 6, 3), (15, .bipush (-2), 2), (17, .ireturn, 1), (18, .aload_n 0, 1), (19, .getfield 10, 3), (22, .invokevirtual 149, 3), (25, .aload_n 0, 1), (26, .getfield 10, 3), (29, .iconst 0, 1), (30, .putfield 86, 3)]
def k_83_1 : Cl := [(33, .iload_n 1, 1), (34, .ireturn, 1)]
def r_83 : MR := (5, yX5_shut, cX5_shut, 2, (Option.some FieldType.int), [k_83_0, k_83_1])
abbrev Sb_file : Nat := 84
def k_84_0 : Cl := [(0, .aload_n 0, 1), (1, .getfield 10, 3), (4, .iload_n 1, 1), (5, .invokevirtual 103, 3), (8, .ifCond .ne 5, 3), (11, .iconst (-1), 1), (12, .ireturn, 1), (13, .aload_n 0, 1), (14, .getfield 10, 3), (17, .getfield 92, 3), (20, .iload_n 1, 1), (21, .ishr, 1), (22, .iconst 1, 1), (23, .iand, 1), (24, .ifCond .eq 6, 3), (27, .bipush (-2), 2), (29, .ireturn, 1), (30, .aload_n 0, 1), (31, .getfield 10, 3)]
def k_84_1 : Cl := [(34, .invokevirtual 149, 3), (37, .aload_n 0, 1), (38, .getfield 10, 3), (41, .dup, 1), (42, .getfield 92, 3), (45, .iconst 1, 1), (46, .iload_n 1, 1), (47, .ishl, 1), (48, .ior, 1), (49, .putfield 92, 3), (52, .aload_n 0, 1), (53, .getfield 10, 3), (56, .getfield 92, 3), (59, .ireturn, 1)]
def r_84 : MR := (5, yX5_file, cX5_file, 2, (Option.some FieldType.int), [k_84_0, k_84_1])
abbrev Sb_drift : Nat := 85
def k_85_0 : Cl := [(0, .iload_n 1, 1), (1, .iconst 1, 1), (2, .if_icmp .lt 9, 3), (5, .iload_n 1, 1), (6, .bipush 40, 2), (8, .if_icmp .le 5, 3), (11, .iconst (-1), 1), (12, .ireturn, 1), (13, .iconst 0, 1), (14, .istore_n 2, 1), (15, .iload_n 2, 1), (16, .iload_n 1, 1), (17, .if_icmp .ge 16, 3), (20, .aload_n 0, 1), (21, .getfield 10, 3), (24, .invokevirtual 162, 3), (27, .iinc 2 1, 3), (30, .goto (-15), 3)]
def k_85_1 : Cl := [(33, .aload_n 0, 1), (34, .getfield 10, 3), (37, .getfield 86, 3), (40, .ireturn, 1)]
def r_85 : MR := (5, yX5_drift, cX5_drift, 3, (Option.some FieldType.int), [k_85_0, k_85_1])
abbrev Sb_undo : Nat := 86
def k_86_0 : Cl := [(0, .aload_n 0, 1), (1, .getfield 10, 3), (4, .getfield 146, 3), (7, .ifCond .ne 8, 3), (10, .bipush (-4), 2), (12, .goto 10, 3), (15, .aload_n 0, 1), (16, .getfield 10, 3), (19, .invokevirtual 165, 3), (22, .ireturn, 1)]
def r_86 : MR := (5, yX5_undo, cX5_undo, 1, (Option.some FieldType.int), [k_86_0])
abbrev Sb_seed : Nat := 87
def k_87_0 : Cl := [(0, .iload_n 1, 1), (1, .ifCond .ge 5, 3), (4, .iconst (-1), 1), (5, .ireturn, 1), (6, .aload_n 0, 1), (7, .getfield 10, 3), (10, .getfield 130, 3), (13, .istore_n 2, 1), (14, .aload_n 0, 1), (15, .getfield 10, 3), (18, .iload_n 1, 1), (19, .putfield 130, 3), (22, .iload_n 2, 1), (23, .ireturn, 1)]
def r_87 : MR := (5, yX5_seed, cX5_seed, 3, (Option.some FieldType.int), [k_87_0])
abbrev Sb_opens : Nat := 88
def k_88_0 : Cl := [(0, .iload_n 1, 1), (1, .iconst (-1), 1), (2, .if_icmp .ge 5, 3), (5, .iconst (-1), 1), (6, .ireturn, 1), (7, .aload_n 0, 1), (8, .getfield 10, 3), (11, .getfield 54, 3), (14, .ifCond .ne 6, 3), (17, .bipush (-4), 2), (19, .ireturn, 1), (20, .aload_n 0, 1), (21, .getfield 34, 3), (24, .aload_n 0, 1), (25, .getfield 10, 3), (28, .getfield 86, 3), (31, .aload_n 0, 1)]
def k_88_1 : Cl := [(32, .getfield 10, 3), (35, .getfield 92, 3), (38, .invokevirtual 168, 3), (41, .aload_n 0, 1), (42, .getfield 34, 3), (45, .aload_n 0, 1), (46, .getfield 34, 3), (49, .invokevirtual 172, 3), (52, .iload_n 1, 1), (53, .invokevirtual 175, 3), (56, .ireturn, 1)]
def r_88 : MR := (5, yX5_opens, cX5_opens, 2, (Option.some FieldType.int), [k_88_0, k_88_1])
abbrev Sb_rows : Nat := 89
def k_89_0 : Cl := [(0, .aload_n 0, 1), (1, .getfield 10, 3), (4, .getfield 54, 3), (7, .ifCond .ne 5, 3), (10, .iconst 0, 1), (11, .ireturn, 1), (12, .aload_n 0, 1), (13, .getfield 34, 3), (16, .aload_n 0, 1), (17, .getfield 10, 3), (20, .getfield 86, 3), (23, .aload_n 0, 1), (24, .getfield 10, 3), (27, .getfield 92, 3), (30, .invokevirtual 168, 3)]
def k_89_1 : Cl := [(33, .aload_n 0, 1), (34, .getfield 34, 3), (37, .invokevirtual 178, 3), (40, .ireturn, 1)]
def r_89 : MR := (5, yX5_rows, cX5_rows, 1, (Option.some FieldType.int), [k_89_0, k_89_1])
abbrev Sb_reach : Nat := 90
def k_90_0 : Cl := [(0, .iload_n 1, 1), (1, .ifCond .lt 8, 3), (4, .iload_n 1, 1), (5, .iconst 2, 1), (6, .if_icmp .le 5, 3), (9, .iconst (-1), 1), (10, .ireturn, 1), (11, .aload_n 0, 1), (12, .getfield 10, 3), (15, .getfield 54, 3), (18, .ifCond .ne 14, 3), (21, .iload_n 1, 1), (22, .iconst 1, 1), (23, .if_icmp .ne 7, 3), (26, .iconst 0, 1), (27, .goto 4, 3), (30, .iconst 1, 1), (31, .ireturn, 1)]
def k_90_1 : Cl := [(32, .aload_n 0, 1), (33, .getfield 34, 3), (36, .aload_n 0, 1), (37, .getfield 10, 3), (40, .getfield 86, 3), (43, .aload_n 0, 1), (44, .getfield 10, 3), (47, .getfield 92, 3), (50, .invokevirtual 168, 3), (53, .iload_n 1, 1), (54, .ifCond .ne 11, 3), (57, .aload_n 0, 1), (58, .getfield 34, 3), (61, .getfield 181, 3)]
def k_90_2 : Cl := [(64, .ireturn, 1), (65, .iload_n 1, 1), (66, .iconst 1, 1), (67, .if_icmp .ne 13, 3), (70, .aload_n 0, 1), (71, .getfield 34, 3), (74, .invokevirtual 184, 3), (77, .goto 10, 3), (80, .aload_n 0, 1), (81, .getfield 43, 3), (84, .invokevirtual 187, 3), (87, .ireturn, 1)]
def r_90 : MR := (5, yX5_reach, cX5_reach, 2, (Option.some FieldType.int), [k_90_0, k_90_1, k_90_2])
abbrev Sb_key : Nat := 91
def k_91_0 : Cl := [(0, .iload_n 1, 1), (1, .ifCond .lt 8, 3), (4, .iload_n 1, 1), (5, .iconst 1, 1), (6, .if_icmp .le 5, 3), (9, .iconst (-1), 1), (10, .ireturn, 1), (11, .bipush (-4), 2), (13, .istore_n 2, 1), (14, .bipush (-4), 2), (16, .istore_n 3, 1), (17, .iconst 0, 1), (18, .istore 4, 2), (20, .iload 4, 2), (22, .aload_n 0, 1), (23, .getfield 10, 3), (26, .getfield 69, 3), (29, .if_icmp .ge 66, 3)]
def k_91_1 : Cl := [(32, .aload_n 0, 1), (33, .getfield 10, 3), (36, .getfield 92, 3), (39, .iload 4, 2), (41, .ishr, 1), (42, .iconst 1, 1), (43, .iand, 1), (44, .ifCond .eq 6, 3), (47, .goto 42, 3), (50, .aload_n 0, 1), (51, .aload_n 0, 1), (52, .getfield 10, 3), (55, .getfield 92, 3), (58, .iconst 1, 1), (59, .iload 4, 2), (61, .ishl, 1), (62, .ior, 1), (63, .invokevirtual 190, 3)]
def k_91_2 : Cl := [(66, .istore 5, 2), (68, .iload 5, 2), (70, .ifCond .lt 19, 3), (73, .iload_n 2, 1), (74, .ifCond .lt 9, 3), (77, .iload 5, 2), (79, .iload_n 3, 1), (80, .if_icmp .ge 9, 3), (83, .iload 4, 2), (85, .istore_n 2, 1), (86, .iload 5, 2), (88, .istore_n 3, 1), (89, .iinc 4 1, 3), (92, .goto (-72), 3), (95, .iload_n 1, 1)]
def k_91_3 : Cl := [(96, .ifCond .ne 7, 3), (99, .iload_n 2, 1), (100, .goto 4, 3), (103, .iload_n 3, 1), (104, .ireturn, 1)]
def r_91 : MR := (5, yX5_key, cX5_key, 6, (Option.some FieldType.int), [k_91_0, k_91_1, k_91_2, k_91_3])
abbrev Sb_files : Nat := 92
def k_92_0 : Cl := [(0, .iload_n 1, 1), (1, .ifCond .lt 18, 3), (4, .iload_n 1, 1), (5, .bipush 60, 2), (7, .if_icmp .gt 12, 3), (10, .iload_n 2, 1), (11, .ifCond .lt 8, 3), (14, .iload_n 2, 1), (15, .iconst 1, 1), (16, .if_icmp .le 5, 3), (19, .iconst (-1), 1), (20, .ireturn, 1), (21, .aload_n 0, 1), (22, .getfield 10, 3), (25, .getfield 54, 3), (28, .ifCond .ne 6, 3), (31, .bipush (-4), 2)]
def k_92_1 : Cl := [(33, .ireturn, 1), (34, .bipush (-4), 2), (36, .istore_n 3, 1), (37, .iconst 0, 1), (38, .istore 4, 2), (40, .iload 4, 2), (42, .iconst 1, 1), (43, .aload_n 0, 1), (44, .getfield 10, 3), (47, .getfield 69, 3), (50, .ishl, 1), (51, .if_icmp .ge 74, 3), (54, .iload 4, 2), (56, .aload_n 0, 1), (57, .getfield 10, 3), (60, .getfield 92, 3), (63, .iand, 1)]
def k_92_2 : Cl := [(64, .ifCond .eq 6, 3), (67, .goto 52, 3), (70, .iload_n 3, 1), (71, .ifCond .lt 18, 3), (74, .iload 4, 2), (76, .invokestatic 156, 3), (79, .iload_n 3, 1), (80, .invokestatic 156, 3), (83, .if_icmp .lt 6, 3), (86, .goto 33, 3), (89, .aload_n 0, 1), (90, .aload_n 0, 1), (91, .getfield 10, 3), (94, .getfield 92, 3)]
def k_92_3 : Cl := [(97, .iload 4, 2), (99, .ior, 1), (100, .invokevirtual 190, 3), (103, .istore 5, 2), (105, .iload 5, 2), (107, .ifCond .lt 12, 3), (110, .iload 5, 2), (112, .iload_n 1, 1), (113, .if_icmp .gt 6, 3), (116, .iload 4, 2), (118, .istore_n 3, 1), (119, .iinc 4 1, 3), (122, .goto (-82), 3), (125, .iload_n 3, 1), (126, .ifCond .ge 6, 3)]
def k_92_4 : Cl := [(129, .bipush (-4), 2), (131, .ireturn, 1), (132, .iload_n 2, 1), (133, .ifCond .ne 10, 3), (136, .iload_n 3, 1), (137, .invokestatic 156, 3), (140, .goto 4, 3), (143, .iload_n 3, 1), (144, .ireturn, 1)]
def r_92 : MR := (5, yX5_files, cX5_files, 6, (Option.some FieldType.int), [k_92_0, k_92_1, k_92_2, k_92_3, k_92_4])
abbrev Sb_game : Nat := 93
def k_93_0 : Cl := [(0, .iload_n 1, 1), (1, .ifCond .lt 8, 3), (4, .iload_n 1, 1), (5, .iconst 2, 1), (6, .if_icmp .le 5, 3), (9, .iconst (-1), 1), (10, .ireturn, 1), (11, .aload_n 0, 1), (12, .getfield 10, 3), (15, .getfield 54, 3), (18, .ifCond .ne 6, 3), (21, .bipush (-4), 2), (23, .ireturn, 1), (24, .aload_n 0, 1), (25, .getfield 34, 3), (28, .aload_n 0, 1), (29, .getfield 10, 3)]
def k_93_1 : Cl := [(32, .getfield 86, 3), (35, .aload_n 0, 1), (36, .getfield 10, 3), (39, .getfield 92, 3), (42, .invokevirtual 168, 3), (45, .aload_n 0, 1), (46, .getfield 43, 3), (49, .invokevirtual 193, 3), (52, .iload_n 1, 1), (53, .ifCond .ne 19, 3), (56, .aload_n 0, 1), (57, .getfield 43, 3), (60, .getfield 196, 3), (63, .aload_n 0, 1)]
def k_93_2 : Cl := [(64, .getfield 10, 3), (67, .getfield 86, 3), (70, .iaload, 1), (71, .ireturn, 1), (72, .iload_n 1, 1), (73, .iconst 1, 1), (74, .if_icmp .ne 21, 3), (77, .aload_n 0, 1), (78, .getfield 43, 3), (81, .getfield 199, 3), (84, .aload_n 0, 1), (85, .getfield 10, 3), (88, .getfield 86, 3), (91, .iaload, 1), (92, .goto 17, 3), (95, .aload_n 0, 1)]
def k_93_3 : Cl := [(96, .getfield 43, 3), (99, .aload_n 0, 1), (100, .getfield 10, 3), (103, .getfield 86, 3), (106, .invokevirtual 202, 3), (109, .ireturn, 1)]
def r_93 : MR := (5, yX5_game, cX5_game, 2, (Option.some FieldType.int), [k_93_0, k_93_1, k_93_2, k_93_3])
abbrev Sb_fumble : Nat := 94
def k_94_0 : Cl := [(0, .iload_n 1, 1), (1, .ifCond .lt 17, 3), (4, .iload_n 1, 1), (5, .iconst 3, 1), (6, .if_icmp .gt 12, 3), (9, .iload_n 2, 1), (10, .ifCond .lt 8, 3), (13, .iload_n 2, 1), (14, .iconst 1, 1), (15, .if_icmp .le 7, 3), (18, .ldc2_w 205, 3), (21, .lreturn, 1), (22, .aload_n 0, 1), (23, .getfield 10, 3), (26, .aload_n 0, 1), (27, .getfield 10, 3), (30, .getfield 86, 3)]
def k_94_1 : Cl := [(33, .iload_n 1, 1), (34, .invokestatic 207, 3), (37, .lstore_n 3, 1), (38, .iload_n 1, 1), (39, .invokestatic 211, 3), (42, .lstore 5, 2), (44, .lload_n 3, 1), (45, .lload 5, 2), (47, .invokestatic 215, 3), (50, .lstore 7, 2), (52, .lload 7, 2), (54, .lconst 0, 1), (55, .lcmp, 1), (56, .ifCond .ne 7, 3), (59, .ldc2_w 205, 3), (62, .lreturn, 1), (63, .iload_n 2, 1)]
def k_94_2 : Cl := [(64, .ifCond .ne 10, 3), (67, .lload_n 3, 1), (68, .lload 7, 2), (70, .ldiv, 1), (71, .goto 8, 3), (74, .lload 5, 2), (76, .lload 7, 2), (78, .ldiv, 1), (79, .lreturn, 1)]
def r_94 : MR := (5, yX5_fumble, cX5_fumble, 9, (Option.some FieldType.long), [k_94_0, k_94_1, k_94_2])
abbrev Sb_image : Nat := 95
def k_95_0 : Cl := [(0, .aload_n 0, 1), (1, .getfield 16, 3), (4, .aload_n 0, 1), (5, .getfield 10, 3), (8, .invokevirtual 133, 3), (11, .aload_n 0, 1), (12, .iconst 1, 1), (13, .putfield 219, 3), (16, .iconst 1, 1), (17, .ireturn, 1)]
def r_95 : MR := (5, yX5_image, cX5_image, 1, (Option.some FieldType.int), [k_95_0])
abbrev Sb_restore : Nat := 96
def k_96_0 : Cl := [(0, .aload_n 0, 1), (1, .getfield 219, 3), (4, .ifCond .ne 6, 3), (7, .bipush (-4), 2), (9, .ireturn, 1), (10, .aload_n 0, 1), (11, .getfield 10, 3), (14, .aload_n 0, 1), (15, .getfield 16, 3), (18, .invokevirtual 133, 3), (21, .iconst 1, 1), (22, .ireturn, 1)]
def r_96 : MR := (5, yX5_restore, cX5_restore, 1, (Option.some FieldType.int), [k_96_0])
abbrev Sb_to : Nat := 97
def k_97_0 : Cl := [(0, .iload 4, 2), (2, .iconst (-1), 1), (3, .if_icmp .lt 27, 3), (6, .aload_n 0, 1), (7, .getfield 10, 3), (10, .getfield 54, 3), (13, .ifCond .eq 17, 3), (16, .iload_n 1, 1), (17, .invokestatic 223, 3), (20, .ifCond .eq 10, 3), (23, .iload_n 2, 1), (24, .invokestatic 226, 3), (27, .ifCond .ne 5, 3), (30, .iconst (-1), 1), (31, .ireturn, 1)]
def k_97_1 : Cl := [(32, .aload_n 0, 1), (33, .getfield 50, 3), (36, .iload_n 1, 1), (37, .aaload, 1), (38, .iload_n 2, 1), (39, .iload_n 3, 1), (40, .aload_n 0, 1), (41, .getfield 10, 3), (44, .getfield 54, 3), (47, .invokevirtual 229, 3), (50, .istore 5, 2), (52, .iload 5, 2), (54, .ifCond .eq 6, 3), (57, .iload 5, 2), (59, .ireturn, 1), (60, .aload_n 0, 1), (61, .getfield 10, 3)]
def k_97_2 : Cl := [(64, .aload_n 0, 1), (65, .getfield 50, 3), (68, .iload_n 1, 1), (69, .aaload, 1), (70, .iload_n 3, 1), (71, .invokevirtual 232, 3), (74, .istore 6, 2), (76, .iload 6, 2), (78, .ifCond .ge 6, 3), (81, .bipush (-2), 2), (83, .ireturn, 1), (84, .aload_n 0, 1), (85, .getfield 34, 3), (88, .aload_n 0, 1), (89, .getfield 10, 3), (92, .getfield 86, 3), (95, .aload_n 0, 1)]
def k_97_3 : Cl := [(96, .getfield 10, 3), (99, .getfield 92, 3), (102, .invokevirtual 168, 3), (105, .aload_n 0, 1), (106, .getfield 34, 3), (109, .iload 6, 2), (111, .iload 4, 2), (113, .invokevirtual 175, 3), (116, .ireturn, 1)]
def r_97 : MR := (5, yX5_to, cX5_to, 7, (Option.some FieldType.int), [k_97_0, k_97_1, k_97_2, k_97_3])
abbrev Sb_clicks : Nat := 98
def k_98_0 : Cl := [(0, .iload_n 1, 1), (1, .bipush (-4), 2), (3, .if_icmp .eq 14, 3), (6, .aload_n 0, 1), (7, .getfield 10, 3), (10, .iload_n 1, 1), (11, .invokevirtual 65, 3), (14, .ifCond .eq 17, 3), (17, .iload_n 2, 1), (18, .invokestatic 223, 3), (21, .ifCond .eq 10, 3), (24, .iload_n 3, 1), (25, .invokestatic 226, 3), (28, .ifCond .ne 5, 3), (31, .iconst (-1), 1)]
def k_98_1 : Cl := [(32, .ireturn, 1), (33, .iload 5, 2), (35, .iconst 1, 1), (36, .if_icmp .lt 10, 3), (39, .iload 5, 2), (41, .bipush 8, 2), (43, .if_icmp .le 5, 3), (46, .iconst (-1), 1), (47, .ireturn, 1), (48, .aload_n 0, 1), (49, .getfield 50, 3), (52, .iload_n 2, 1), (53, .aaload, 1), (54, .iload_n 3, 1), (55, .iload 4, 2), (57, .iconst 2, 1), (58, .iload 5, 2), (60, .imul, 1), (61, .invokevirtual 229, 3)]
def k_98_2 : Cl := [(64, .istore 6, 2), (66, .iload 6, 2), (68, .ifCond .eq 6, 3), (71, .iload 6, 2), (73, .ireturn, 1), (74, .aload_n 0, 1), (75, .aload_n 0, 1), (76, .getfield 50, 3), (79, .iload_n 2, 1), (80, .aaload, 1), (81, .iload 4, 2), (83, .iload 5, 2), (85, .invokevirtual 236, 3), (88, .ifCond .ne 6, 3), (91, .bipush (-2), 2), (93, .ireturn, 1), (94, .iload_n 1, 1), (95, .bipush (-4), 2)]
def k_98_3 : Cl := [(97, .if_icmp .ne 20, 3), (100, .aload_n 0, 1), (101, .aload_n 0, 1), (102, .getfield 50, 3), (105, .iload_n 2, 1), (106, .aaload, 1), (107, .iload 4, 2), (109, .iload 5, 2), (111, .invokevirtual 240, 3), (114, .goto 18, 3), (117, .aload_n 0, 1), (118, .iload_n 1, 1), (119, .aload_n 0, 1), (120, .getfield 50, 3), (123, .iload_n 2, 1), (124, .aaload, 1), (125, .iload 4, 2), (127, .iload 5, 2)]
def k_98_4 : Cl := [(129, .invokevirtual 244, 3), (132, .ireturn, 1)]
def r_98 : MR := (5, yX5_clicks, cX5_clicks, 7, (Option.some FieldType.int), [k_98_0, k_98_1, k_98_2, k_98_3, k_98_4])
abbrev Sb_film : Nat := 99
def k_99_0 : Cl := [(0, .aload_n 0, 1), (1, .getfield 10, 3), (4, .getfield 54, 3), (7, .ifCond .eq 17, 3), (10, .iload_n 1, 1), (11, .invokestatic 223, 3), (14, .ifCond .eq 10, 3), (17, .iload_n 2, 1), (18, .invokestatic 226, 3), (21, .ifCond .ne 5, 3), (24, .iconst (-1), 1), (25, .ireturn, 1), (26, .aload_n 0, 1), (27, .getfield 50, 3), (30, .iload_n 1, 1), (31, .aaload, 1)]
def k_99_1 : Cl := [(32, .iload_n 2, 1), (33, .iload_n 3, 1), (34, .aload_n 0, 1), (35, .getfield 10, 3), (38, .getfield 54, 3), (41, .invokevirtual 229, 3), (44, .istore 4, 2), (46, .iload 4, 2), (48, .ifCond .eq 6, 3), (51, .iload 4, 2), (53, .ireturn, 1), (54, .iconst 0, 1), (55, .istore 5, 2), (57, .iload 5, 2), (59, .aload_n 0, 1), (60, .getfield 10, 3), (63, .getfield 54, 3)]
def k_99_2 : Cl := [(66, .if_icmp .ge 35, 3), (69, .aload_n 0, 1), (70, .getfield 50, 3), (73, .iload_n 1, 1), (74, .aaload, 1), (75, .iload_n 3, 1), (76, .iload 5, 2), (78, .iadd, 1), (79, .aload_n 0, 1), (80, .getfield 10, 3), (83, .getfield 86, 3), (86, .iload 5, 2), (88, .invokestatic 89, 3), (91, .i2l, 1), (92, .invokevirtual 248, 3), (95, .iinc 5 1, 3)]
def k_99_3 : Cl := [(98, .goto (-41), 3), (101, .aload_n 0, 1), (102, .getfield 10, 3), (105, .getfield 54, 3), (108, .ireturn, 1)]
def r_99 : MR := (5, yX5_film, cX5_film, 6, (Option.some FieldType.int), [k_99_0, k_99_1, k_99_2, k_99_3])
abbrev Sb_sheet : Nat := 100
def k_100_0 : Cl := [(0, .iload_n 1, 1), (1, .invokestatic 223, 3), (4, .ifCond .eq 16, 3), (7, .iload_n 2, 1), (8, .invokestatic 226, 3), (11, .ifCond .eq 9, 3), (14, .iload_n 3, 1), (15, .bipush 24, 2), (17, .if_icmp .le 5, 3), (20, .iconst (-1), 1), (21, .ireturn, 1), (22, .iload_n 3, 1), (23, .ifCond .ge 6, 3), (26, .bipush (-14), 2), (28, .ireturn, 1), (29, .aload_n 0, 1), (30, .getfield 50, 3)]
def k_100_1 : Cl := [(33, .iload_n 1, 1), (34, .aaload, 1), (35, .iload_n 2, 1), (36, .iload_n 3, 1), (37, .invokevirtual 252, 3), (40, .iload_n 3, 1), (41, .ireturn, 1)]
def r_100 : MR := (5, yX5_sheet, cX5_sheet, 4, (Option.some FieldType.int), [k_100_0, k_100_1])
abbrev Sb_drop : Nat := 101
def k_101_0 : Cl := [(0, .iload_n 1, 1), (1, .invokestatic 223, 3), (4, .ifCond .ne 5, 3), (7, .iconst (-1), 1), (8, .ireturn, 1), (9, .aload_n 0, 1), (10, .getfield 50, 3), (13, .iload_n 1, 1), (14, .aaload, 1), (15, .getfield 255, 3), (18, .ifCond .eq 15, 3), (21, .aload_n 0, 1), (22, .getfield 50, 3), (25, .iload_n 1, 1), (26, .aaload, 1), (27, .invokevirtual 258, 3), (30, .goto 5, 3)]
def k_101_1 : Cl := [(33, .bipush (-11), 2), (35, .ireturn, 1)]
def r_101 : MR := (5, yX5_drop, cX5_drop, 2, (Option.some FieldType.int), [k_101_0, k_101_1])
abbrev Sb_item : Nat := 102
def k_102_0 : Cl := [(0, .iload_n 1, 1), (1, .invokestatic 223, 3), (4, .ifCond .eq 10, 3), (7, .iload_n 2, 1), (8, .invokestatic 226, 3), (11, .ifCond .ne 5, 3), (14, .iconst (-1), 1), (15, .ireturn, 1), (16, .aload_n 0, 1), (17, .getfield 50, 3), (20, .iload_n 1, 1), (21, .aaload, 1), (22, .iload_n 2, 1), (23, .iload_n 3, 1), (24, .iconst 1, 1), (25, .invokevirtual 229, 3), (28, .istore 6, 2), (30, .iload 6, 2)]
def k_102_1 : Cl := [(32, .ifCond .eq 6, 3), (35, .iload 6, 2), (37, .ireturn, 1), (38, .aload_n 0, 1), (39, .getfield 50, 3), (42, .iload_n 1, 1), (43, .aaload, 1), (44, .iload_n 3, 1), (45, .lload 4, 2), (47, .invokevirtual 248, 3), (50, .iconst 1, 1), (51, .ireturn, 1)]
def r_102 : MR := (5, yX5_item, cX5_item, 7, (Option.some FieldType.int), [k_102_0, k_102_1])
abbrev Sb_bit : Nat := 103
def k_103_0 : Cl := [(0, .iload_n 0, 1), (1, .ifCond .eq 7, 3), (4, .iconst 1, 1), (5, .goto 4, 3), (8, .iconst 0, 1), (9, .ireturn, 1)]
def r_103 : MR := (5, yX5_bit, cX5_bit, 1, (Option.some FieldType.int), [k_103_0])
abbrev Sb_placeIn : Nat := 104
def k_104_0 : Cl := [(0, .iload_n 0, 1), (1, .iconst 2, 1), (2, .iload_n 1, 1), (3, .imul, 1), (4, .ishr, 1), (5, .iconst 3, 1), (6, .iand, 1), (7, .ireturn, 1)]
def r_104 : MR := (5, yX5_placeIn, cX5_placeIn, 2, (Option.some FieldType.int), [k_104_0])
abbrev Sb_isSheet : Nat := 105
def k_105_0 : Cl := [(0, .iload_n 0, 1), (1, .ifCond .lt 12, 3), (4, .iload_n 0, 1), (5, .iconst 4, 1), (6, .if_icmp .ge 7, 3), (9, .iconst 1, 1), (10, .goto 4, 3), (13, .iconst 0, 1), (14, .ireturn, 1)]
def r_105 : MR := (5, yX5_isSheet, cX5_isSheet, 1, (Option.some FieldType.boolean), [k_105_0])
abbrev Sb_isLane : Nat := 106
def k_106_0 : Cl := [(0, .iload_n 0, 1), (1, .ifCond .lt 12, 3), (4, .iload_n 0, 1), (5, .iconst 4, 1), (6, .if_icmp .ge 7, 3), (9, .iconst 1, 1), (10, .goto 4, 3), (13, .iconst 0, 1), (14, .ireturn, 1)]
def r_106 : MR := (5, yX5_isLane, cX5_isLane, 1, (Option.some FieldType.boolean), [k_106_0])
abbrev Sb_opensWith : Nat := 107
def k_107_0 : Cl := [(0, .aload_n 0, 1), (1, .getfield 34, 3), (4, .aload_n 0, 1), (5, .getfield 10, 3), (8, .getfield 86, 3), (11, .iload_n 1, 1), (12, .invokevirtual 168, 3), (15, .aload_n 0, 1), (16, .getfield 34, 3), (19, .aload_n 0, 1), (20, .getfield 34, 3), (23, .invokevirtual 172, 3), (26, .iconst (-1), 1), (27, .invokevirtual 175, 3), (30, .ireturn, 1)]
def r_107 : MR := (5, yX5_opensWith, cX5_opensWith, 2, (Option.some FieldType.int), [k_107_0])
abbrev Sb_evenShares : Nat := 108
def k_108_0 : Cl := [(0, .lconst 1, 1), (1, .lstore_n 1, 1), (2, .iconst 0, 1), (3, .istore_n 3, 1), (4, .iload_n 3, 1), (5, .iload_n 0, 1), (6, .if_icmp .ge 15, 3), (9, .lload_n 1, 1), (10, .ldc2_w 277, 3), (13, .lmul, 1), (14, .lstore_n 1, 1), (15, .iinc 3 1, 3), (18, .goto (-14), 3), (21, .lload_n 1, 1), (22, .lreturn, 1)]
def r_108 : MR := (5, yX5_evenShares, cX5_evenShares, 4, (Option.some FieldType.long), [k_108_0])
abbrev Sb_openShares : Nat := 109
def k_109_0 : Cl := [(0, .aload_n 0, 1), (1, .iload_n 1, 1), (2, .invokevirtual 136, 3), (5, .ifCond .eq 8, 3), (8, .iload_n 2, 1), (9, .invokestatic 211, 3), (12, .lreturn, 1), (13, .iload_n 2, 1), (14, .ifCond .gt 5, 3), (17, .lconst 0, 1), (18, .lreturn, 1), (19, .lconst 0, 1), (20, .lstore_n 3, 1), (21, .iconst 0, 1), (22, .istore 5, 2), (24, .iconst 0, 1), (25, .istore 6, 2), (27, .iload 6, 2), (29, .iconst 2, 1), (30, .aload_n 0, 1), (31, .getfield 54, 3)]
def k_109_1 : Cl := [(34, .imul, 1), (35, .if_icmp .ge 58, 3), (38, .aload_n 0, 1), (39, .iload_n 1, 1), (40, .aload_n 0, 1), (41, .getfield 92, 3), (44, .iload 6, 2), (46, .iconst 1, 1), (47, .ishr, 1), (48, .iload 6, 2), (50, .iconst 1, 1), (51, .iand, 1), (52, .invokevirtual 95, 3), (55, .ifCond .ne 6, 3), (58, .goto 29, 3), (61, .iinc 5 1, 3)]
def k_109_2 : Cl := [(64, .lload_n 3, 1), (65, .aload_n 0, 1), (66, .aload_n 0, 1), (67, .iload_n 1, 1), (68, .iload 6, 2), (70, .iconst 1, 1), (71, .ishr, 1), (72, .iload 6, 2), (74, .iconst 1, 1), (75, .iand, 1), (76, .invokevirtual 152, 3), (79, .iload_n 2, 1), (80, .iconst 1, 1), (81, .isub, 1), (82, .invokestatic 207, 3), (85, .ladd, 1), (86, .lstore_n 3, 1), (87, .iinc 6 1, 3), (90, .goto (-63), 3), (93, .iload 5, 2), (95, .ifCond .ne 7, 3)]
def k_109_3 : Cl := [(98, .lconst 0, 1), (99, .goto 12, 3), (102, .lload_n 3, 1), (103, .ldc2_w 277, 3), (106, .iload 5, 2), (108, .i2l, 1), (109, .ldiv, 1), (110, .lmul, 1), (111, .lreturn, 1)]
def r_109 : MR := (5, yX5_openShares, cX5_openShares, 7, (Option.some FieldType.long), [k_109_0, k_109_1, k_109_2, k_109_3])
abbrev Sb_greatestDivisor : Nat := 110
def k_110_0 : Cl := [(0, .iconst 0, 1), (1, .istore 4, 2), (3, .iload 4, 2), (5, .sipush 128, 3), (8, .if_icmp .ge 25, 3), (11, .lload_n 2, 1), (12, .lconst 0, 1), (13, .lcmp, 1), (14, .ifCond .eq 19, 3), (17, .lload_n 0, 1), (18, .lload_n 2, 1), (19, .lrem, 1), (20, .lstore 5, 2), (22, .lload_n 2, 1), (23, .lstore_n 0, 1), (24, .lload 5, 2), (26, .lstore_n 2, 1), (27, .iinc 4 1, 3), (30, .goto (-27), 3)]
def k_110_1 : Cl := [(33, .lload_n 0, 1), (34, .lreturn, 1)]
def r_110 : MR := (5, yX5_greatestDivisor, cX5_greatestDivisor, 7, (Option.some FieldType.long), [k_110_0, k_110_1])
abbrev Sb_areClicks : Nat := 111
def k_111_0 : Cl := [(0, .iconst 0, 1), (1, .istore 4, 2), (3, .iload 4, 2), (5, .iload_n 3, 1), (6, .if_icmp .ge 89, 3), (9, .aload_n 1, 1), (10, .iload_n 2, 1), (11, .iconst 2, 1), (12, .iload 4, 2), (14, .imul, 1), (15, .iadd, 1), (16, .invokevirtual 279, 3), (19, .lstore 5, 2), (21, .aload_n 1, 1), (22, .iload_n 2, 1), (23, .iconst 2, 1), (24, .iload 4, 2), (26, .imul, 1), (27, .iadd, 1), (28, .iconst 1, 1), (29, .iadd, 1), (30, .invokevirtual 279, 3)]
def k_111_1 : Cl := [(33, .lstore 7, 2), (35, .lload 5, 2), (37, .lconst 0, 1), (38, .lcmp, 1), (39, .ifCond .lt 32, 3), (42, .lload 5, 2), (44, .ldc2_w 282, 3), (47, .ldiv, 1), (48, .aload_n 0, 1), (49, .getfield 10, 3), (52, .getfield 54, 3), (55, .i2l, 1), (56, .lcmp, 1), (57, .ifCond .ge 14, 3), (60, .lload 5, 2), (62, .ldc2_w 282, 3)]
def k_111_2 : Cl := [(65, .lrem, 1), (66, .lconst 1, 1), (67, .lcmp, 1), (68, .ifCond .le 5, 3), (71, .iconst 0, 1), (72, .ireturn, 1), (73, .lload 7, 2), (75, .lconst 0, 1), (76, .lcmp, 1), (77, .ifCond .lt 10, 3), (80, .lload 7, 2), (82, .lconst 1, 1), (83, .lcmp, 1), (84, .ifCond .le 5, 3), (87, .iconst 0, 1), (88, .ireturn, 1), (89, .iinc 4 1, 3), (92, .goto (-89), 3), (95, .iconst 1, 1)]
def k_111_3 : Cl := [(96, .ireturn, 1)]
def r_111 : MR := (5, yX5_areClicks, cX5_areClicks, 9, (Option.some FieldType.boolean), [k_111_0, k_111_1, k_111_2, k_111_3])
abbrev Sb_clicksSo : Nat := 112
def k_112_0 : Cl := [(0, .aload_n 0, 1), (1, .getfield 86, 3), (4, .istore 5, 2), (6, .iconst 0, 1), (7, .istore 6, 2), (9, .iload 6, 2), (11, .iload 4, 2), (13, .if_icmp .ge 93, 3), (16, .aload_n 2, 1), (17, .iload_n 3, 1), (18, .iconst 2, 1), (19, .iload 6, 2), (21, .imul, 1), (22, .iadd, 1), (23, .invokevirtual 279, 3), (26, .l2i, 1), (27, .istore 7, 2), (29, .aload_n 2, 1), (30, .iload_n 3, 1), (31, .iconst 2, 1)]
def k_112_1 : Cl := [(32, .iload 6, 2), (34, .imul, 1), (35, .iadd, 1), (36, .iconst 1, 1), (37, .iadd, 1), (38, .invokevirtual 279, 3), (41, .lconst 1, 1), (42, .lcmp, 1), (43, .ifCond .ne 7, 3), (46, .iconst 1, 1), (47, .goto 4, 3), (50, .iconst 0, 1), (51, .istore 8, 2), (53, .aload_n 0, 1), (54, .iload 5, 2), (56, .iload_n 1, 1), (57, .iload 7, 2), (59, .bipush 10, 2), (61, .idiv, 1), (62, .iload 7, 2)]
def k_112_2 : Cl := [(64, .bipush 10, 2), (66, .irem, 1), (67, .invokevirtual 95, 3), (70, .iload 8, 2), (72, .if_icmp .eq 5, 3), (75, .iconst 0, 1), (76, .ireturn, 1), (77, .iload 8, 2), (79, .ifCond .eq 21, 3), (82, .aload_n 0, 1), (83, .iload 5, 2), (85, .iload 7, 2), (87, .bipush 10, 2), (89, .idiv, 1), (90, .iload 7, 2), (92, .bipush 10, 2), (94, .irem, 1), (95, .invokevirtual 152, 3)]
def k_112_3 : Cl := [(98, .istore 5, 2), (100, .iinc 6 1, 3), (103, .goto (-94), 3), (106, .iconst 1, 1), (107, .ireturn, 1)]
def r_112 : MR := (5, yX5_clicksSo, cX5_clicksSo, 9, (Option.some FieldType.boolean), [k_112_0, k_112_1, k_112_2, k_112_3])
abbrev Sb_kindsByClicks : Nat := 113
def k_113_0 : Cl := [(0, .aload_n 0, 1), (1, .getfield 19, 3), (4, .aload_n 0, 1), (5, .getfield 10, 3), (8, .invokevirtual 133, 3), (11, .iconst 0, 1), (12, .istore 5, 2), (14, .iconst 0, 1), (15, .istore 6, 2), (17, .iload 6, 2), (19, .iconst 4, 1), (20, .if_icmp .gt 50, 3), (23, .aload_n 0, 1), (24, .getfield 19, 3), (27, .getfield 79, 3), (30, .iload_n 1, 1), (31, .iload 6, 2)]
def k_113_1 : Cl := [(33, .iastore, 1), (34, .aload_n 0, 1), (35, .getfield 19, 3), (38, .aload_n 0, 1), (39, .getfield 19, 3), (42, .getfield 92, 3), (45, .aload_n 2, 1), (46, .iload_n 3, 1), (47, .iload 4, 2), (49, .invokestatic 284, 3), (52, .ifCond .eq 12, 3), (55, .iload 5, 2), (57, .iconst 1, 1), (58, .iload 6, 2), (60, .ishl, 1), (61, .ior, 1), (62, .istore 5, 2)]
def k_113_2 : Cl := [(64, .iinc 6 1, 3), (67, .goto (-50), 3), (70, .iload 5, 2), (72, .ireturn, 1)]
def r_113 : MR := (5, yX5_kindsByClicks, cX5_kindsByClicks, 7, (Option.some FieldType.int), [k_113_0, k_113_1, k_113_2])
abbrev Sb_locksByClicks : Nat := 114
def k_114_0 : Cl := [(0, .aload_n 0, 1), (1, .getfield 10, 3), (4, .aload_n 0, 1), (5, .getfield 10, 3), (8, .getfield 92, 3), (11, .aload_n 1, 1), (12, .iload_n 2, 1), (13, .iload_n 3, 1), (14, .invokestatic 284, 3), (17, .ifCond .eq 8, 3), (20, .bipush 64, 2), (22, .goto 4, 3), (25, .iconst 0, 1), (26, .istore 4, 2), (28, .iconst 0, 1), (29, .istore 5, 2), (31, .iload 5, 2)]
def k_114_1 : Cl := [(33, .aload_n 0, 1), (34, .getfield 10, 3), (37, .getfield 69, 3), (40, .if_icmp .ge 43, 3), (43, .aload_n 0, 1), (44, .getfield 10, 3), (47, .aload_n 0, 1), (48, .getfield 10, 3), (51, .getfield 92, 3), (54, .iconst 1, 1), (55, .iload 5, 2), (57, .ishl, 1), (58, .ixor, 1), (59, .aload_n 1, 1), (60, .iload_n 2, 1), (61, .iload_n 3, 1), (62, .invokestatic 284, 3)]
def k_114_2 : Cl := [(65, .ifCond .eq 12, 3), (68, .iload 4, 2), (70, .iconst 1, 1), (71, .iload 5, 2), (73, .ishl, 1), (74, .ior, 1), (75, .istore 4, 2), (77, .iinc 5 1, 3), (80, .goto (-49), 3), (83, .iload 4, 2), (85, .ireturn, 1)]
def r_114 : MR := (5, yX5_locksByClicks, cX5_locksByClicks, 6, (Option.some FieldType.int), [k_114_0, k_114_1, k_114_2])
abbrev Ji_bitCount : Nat := 115
def k_115_0 : Cl := [(0, .iload_n 0, 1), (1, .iload_n 0, 1), (2, .iconst 1, 1), (3, .iushr, 1), (4, .ldc_w 265, 3), (7, .iand, 1), (8, .isub, 1), (9, .istore_n 0, 1), (10, .iload_n 0, 1), (11, .ldc_w 266, 3), (14, .iand, 1), (15, .iload_n 0, 1), (16, .iconst 2, 1), (17, .iushr, 1), (18, .ldc_w 266, 3), (21, .iand, 1), (22, .iadd, 1), (23, .istore_n 0, 1), (24, .iload_n 0, 1), (25, .iload_n 0, 1), (26, .iconst 4, 1), (27, .iushr, 1), (28, .iadd, 1), (29, .ldc_w 267, 3)]
def k_115_1 : Cl := [(32, .iand, 1), (33, .istore_n 0, 1), (34, .iload_n 0, 1), (35, .iload_n 0, 1), (36, .bipush 8, 2), (38, .iushr, 1), (39, .iadd, 1), (40, .istore_n 0, 1), (41, .iload_n 0, 1), (42, .iload_n 0, 1), (43, .bipush 16, 2), (45, .iushr, 1), (46, .iadd, 1), (47, .istore_n 0, 1), (48, .iload_n 0, 1), (49, .bipush 63, 2), (51, .iand, 1), (52, .ireturn, 1)]
def r_115 : MR := (8, yJ6_bitCount_0f7a4, cJ6_bitCount_0f7a4, 1, (Option.some FieldType.int), [k_115_0, k_115_1])
def MRT (M : Nat) : MR := bif Nat.ble M 57 then (bif Nat.ble M 28 then (bif Nat.ble M 13 then (bif Nat.ble M 6 then (bif Nat.ble M 2 then (bif Nat.ble M 0 then (r_0) else (bif Nat.ble M 1 then (r_1) else (r_2))) else (bif Nat.ble M 4 then (bif Nat.ble M 3 then (r_3) else (r_4)) else (bif Nat.ble M 5 then (r_5) else (r_6)))) else (bif Nat.ble M 9 then (bif Nat.ble M 7 then (r_7) else (bif Nat.ble M 8 then (r_8) else (r_9))) else (bif Nat.ble M 11 then (bif Nat.ble M 10 then (r_10) else (r_11)) else (bif Nat.ble M 12 then (r_12) else (r_13))))) else (bif Nat.ble M 20 then (bif Nat.ble M 16 then (bif Nat.ble M 14 then (r_14) else (bif Nat.ble M 15 then (r_15) else (r_16))) else (bif Nat.ble M 18 then (bif Nat.ble M 17 then (r_17) else (r_18)) else (bif Nat.ble M 19 then (r_19) else (r_20)))) else (bif Nat.ble M 24 then (bif Nat.ble M 22 then (bif Nat.ble M 21 then (r_21) else (r_22)) else (bif Nat.ble M 23 then (r_23) else (r_24))) else (bif Nat.ble M 26 then (bif Nat.ble M 25 then (r_25) else (r_26)) else (bif Nat.ble M 27 then (r_27) else (r_28)))))) else (bif Nat.ble M 42 then (bif Nat.ble M 35 then (bif Nat.ble M 31 then (bif Nat.ble M 29 then (r_29) else (bif Nat.ble M 30 then (r_30) else (r_31))) else (bif Nat.ble M 33 then (bif Nat.ble M 32 then (r_32) else (r_33)) else (bif Nat.ble M 34 then (r_34) else (r_35)))) else (bif Nat.ble M 38 then (bif Nat.ble M 36 then (r_36) else (bif Nat.ble M 37 then (r_37) else (r_38))) else (bif Nat.ble M 40 then (bif Nat.ble M 39 then (r_39) else (r_40)) else (bif Nat.ble M 41 then (r_41) else (r_42))))) else (bif Nat.ble M 49 then (bif Nat.ble M 45 then (bif Nat.ble M 43 then (r_43) else (bif Nat.ble M 44 then (r_44) else (r_45))) else (bif Nat.ble M 47 then (bif Nat.ble M 46 then (r_46) else (r_47)) else (bif Nat.ble M 48 then (r_48) else (r_49)))) else (bif Nat.ble M 53 then (bif Nat.ble M 51 then (bif Nat.ble M 50 then (r_50) else (r_51)) else (bif Nat.ble M 52 then (r_52) else (r_53))) else (bif Nat.ble M 55 then (bif Nat.ble M 54 then (r_54) else (r_55)) else (bif Nat.ble M 56 then (r_56) else (r_57))))))) else (bif Nat.ble M 86 then (bif Nat.ble M 71 then (bif Nat.ble M 64 then (bif Nat.ble M 60 then (bif Nat.ble M 58 then (r_58) else (bif Nat.ble M 59 then (r_59) else (r_60))) else (bif Nat.ble M 62 then (bif Nat.ble M 61 then (r_61) else (r_62)) else (bif Nat.ble M 63 then (r_63) else (r_64)))) else (bif Nat.ble M 67 then (bif Nat.ble M 65 then (r_65) else (bif Nat.ble M 66 then (r_66) else (r_67))) else (bif Nat.ble M 69 then (bif Nat.ble M 68 then (r_68) else (r_69)) else (bif Nat.ble M 70 then (r_70) else (r_71))))) else (bif Nat.ble M 78 then (bif Nat.ble M 74 then (bif Nat.ble M 72 then (r_72) else (bif Nat.ble M 73 then (r_73) else (r_74))) else (bif Nat.ble M 76 then (bif Nat.ble M 75 then (r_75) else (r_76)) else (bif Nat.ble M 77 then (r_77) else (r_78)))) else (bif Nat.ble M 82 then (bif Nat.ble M 80 then (bif Nat.ble M 79 then (r_79) else (r_80)) else (bif Nat.ble M 81 then (r_81) else (r_82))) else (bif Nat.ble M 84 then (bif Nat.ble M 83 then (r_83) else (r_84)) else (bif Nat.ble M 85 then (r_85) else (r_86)))))) else (bif Nat.ble M 100 then (bif Nat.ble M 93 then (bif Nat.ble M 89 then (bif Nat.ble M 87 then (r_87) else (bif Nat.ble M 88 then (r_88) else (r_89))) else (bif Nat.ble M 91 then (bif Nat.ble M 90 then (r_90) else (r_91)) else (bif Nat.ble M 92 then (r_92) else (r_93)))) else (bif Nat.ble M 96 then (bif Nat.ble M 94 then (r_94) else (bif Nat.ble M 95 then (r_95) else (r_96))) else (bif Nat.ble M 98 then (bif Nat.ble M 97 then (r_97) else (r_98)) else (bif Nat.ble M 99 then (r_99) else (r_100))))) else (bif Nat.ble M 107 then (bif Nat.ble M 103 then (bif Nat.ble M 101 then (r_101) else (bif Nat.ble M 102 then (r_102) else (r_103))) else (bif Nat.ble M 105 then (bif Nat.ble M 104 then (r_104) else (r_105)) else (bif Nat.ble M 106 then (r_106) else (r_107)))) else (bif Nat.ble M 111 then (bif Nat.ble M 109 then (bif Nat.ble M 108 then (r_108) else (r_109)) else (bif Nat.ble M 110 then (r_110) else (r_111))) else (bif Nat.ble M 113 then (bif Nat.ble M 112 then (r_112) else (r_113)) else (bif Nat.ble M 114 then (r_114) else (r_115)))))))
def nMS : Nat := 116
def RNf (c : Nat) : String := bif Nat.ble c 4 then (bif Nat.ble c 1 then (bif Nat.ble c 0 then (RX0) else (RX1)) else (bif Nat.ble c 2 then (RX2) else (bif Nat.ble c 3 then (RX3) else (RX4)))) else (bif Nat.ble c 6 then (bif Nat.ble c 5 then (RX5) else (RX6)) else (bif Nat.ble c 7 then (RL) else (bif Nat.ble c 8 then (RJ6) else (RL))))
/-- fields: by the class that names them and its entry: class, slot, kind (0 whole number, 1 reference, 2 boolean) -/
abbrev Fe : Type := Nat × Nat × Nat × Nat
def lkF : List Fe → Nat → Option (Nat × Nat × Nat)
  | [], _ => none
  | q :: t, i => bif Nat.beq q.1 i then some q.2 else lkF t i
def f_0 : List Fe := [(9, 0, 0, 1), (15, 0, 1, 1), (18, 0, 3, 1), (21, 0, 4, 1), (24, 0, 5, 1), (27, 0, 6, 1), (30, 0, 11, 0), (34, 0, 12, 1), (37, 0, 13, 1), (40, 0, 14, 1), (43, 0, 17, 2), (47, 0, 2, 0), (50, 0, 7, 0), (53, 0, 8, 0), (56, 0, 9, 0), (59, 0, 10, 0), (71, 0, 15, 0), (74, 0, 16, 0)]
def f_1 : List Fe := [(9, 1, 2, 1), (15, 1, 3, 1), (18, 1, 4, 1), (21, 1, 5, 1), (24, 1, 7, 1), (27, 1, 8, 1), (30, 1, 0, 1), (34, 1, 1, 1), (38, 4, 9, 0), (44, 4, 3, 1), (51, 1, 6, 0), (54, 4, 8, 0)]
def f_2 : List Fe := [(9, 2, 3, 1), (15, 2, 0, 2), (19, 2, 1, 0), (23, 2, 2, 0)]
def f_3 : List Fe := [(9, 3, 0, 1), (15, 3, 1, 0), (19, 3, 2, 0), (42, 0, 2, 0), (58, 0, 8, 0), (74, 0, 1, 1)]
def f_4 : List Fe := [(9, 4, 1, 1), (15, 4, 2, 1), (18, 4, 3, 1), (21, 4, 4, 1), (24, 4, 5, 1), (27, 4, 6, 1), (30, 4, 7, 1), (33, 4, 0, 1), (37, 0, 17, 2), (43, 4, 10, 0), (47, 4, 11, 0), (53, 4, 9, 0), (60, 0, 2, 0), (63, 4, 8, 0)]
def f_5 : List Fe := [(10, 5, 0, 1), (16, 5, 1, 1), (19, 5, 2, 1), (25, 5, 4, 1), (34, 5, 5, 1), (43, 5, 6, 1), (50, 5, 7, 1), (54, 0, 2, 0), (69, 0, 7, 0), (76, 0, 8, 0), (79, 0, 0, 1), (83, 0, 1, 1), (86, 0, 9, 0), (92, 0, 10, 0), (106, 0, 3, 1), (109, 0, 4, 1), (112, 0, 5, 1), (115, 0, 6, 1), (130, 0, 11, 0), (146, 0, 15, 0), (181, 4, 9, 0), (196, 1, 7, 1), (199, 1, 8, 1), (219, 5, 3, 2), (255, 2, 0, 2)]
def f_6 : List Fe := []
def f_7 : List Fe := []
def f_8 : List Fe := []
def f_9 : List Fe := []
def FTf (own i : Nat) : Option (Nat × Nat × Nat) := lkF (bif Nat.ble own 4 then (bif Nat.ble own 1 then (bif Nat.ble own 0 then (f_0) else (f_1)) else (bif Nat.ble own 2 then (f_2) else (bif Nat.ble own 3 then (f_3) else (f_4)))) else (bif Nat.ble own 6 then (bif Nat.ble own 5 then (f_5) else (f_6)) else (bif Nat.ble own 7 then (f_7) else (bif Nat.ble own 8 then (f_8) else (f_9))))) i
def FTL : List (Nat × Nat × Nat × Nat × Nat × Nat) := [(5, 10, 5, 0, 1, 248), (5, 16, 5, 1, 1, 249), (5, 19, 5, 2, 1, 250), (5, 25, 5, 4, 1, 252), (5, 34, 5, 5, 1, 253), (5, 43, 5, 6, 1, 254), (5, 50, 5, 7, 1, 255), (5, 54, 0, 2, 0, 60), (5, 69, 0, 7, 0, 70), (5, 76, 0, 8, 0, 73), (5, 79, 0, 0, 1, 53), (5, 83, 0, 1, 1, 55), (5, 86, 0, 9, 0, 75), (5, 92, 0, 10, 0, 77), (5, 106, 0, 3, 1, 62), (5, 109, 0, 4, 1, 64), (5, 112, 0, 5, 1, 66), (5, 115, 0, 6, 1, 68), (5, 130, 0, 11, 0, 79), (5, 146, 0, 15, 0, 84), (5, 181, 4, 9, 0, 162), (5, 196, 1, 7, 1, 204), (5, 199, 1, 8, 1, 206), (5, 219, 5, 3, 2, 251), (5, 255, 2, 0, 2, 234), (0, 9, 0, 0, 1, 52), (0, 15, 0, 1, 1, 54), (0, 18, 0, 3, 1, 61), (0, 21, 0, 4, 1, 63), (0, 24, 0, 5, 1, 65), (0, 27, 0, 6, 1, 67), (0, 30, 0, 11, 0, 78), (0, 34, 0, 12, 1, 80), (0, 37, 0, 13, 1, 81), (0, 40, 0, 14, 1, 82), (0, 43, 0, 17, 2, 86), (0, 47, 0, 2, 0, 57), (0, 50, 0, 7, 0, 69), (0, 53, 0, 8, 0, 71), (0, 56, 0, 9, 0, 74), (0, 59, 0, 10, 0, 76), (0, 71, 0, 15, 0, 83), (0, 74, 0, 16, 0, 85), (1, 9, 1, 2, 1, 198), (1, 15, 1, 3, 1, 199), (1, 18, 1, 4, 1, 200), (1, 21, 1, 5, 1, 201), (1, 24, 1, 7, 1, 203), (1, 27, 1, 8, 1, 205), (1, 30, 1, 0, 1, 196), (1, 34, 1, 1, 1, 197), (1, 38, 4, 9, 0, 160), (1, 44, 4, 3, 1, 153), (1, 51, 1, 6, 0, 202), (1, 54, 4, 8, 0, 158), (2, 9, 2, 3, 1, 237), (2, 15, 2, 0, 2, 233), (2, 19, 2, 1, 0, 235), (2, 23, 2, 2, 0, 236), (3, 9, 3, 0, 1, 132), (3, 15, 3, 1, 0, 133), (3, 19, 3, 2, 0, 134), (3, 42, 0, 2, 0, 59), (3, 58, 0, 8, 0, 72), (3, 74, 0, 1, 1, 56), (4, 9, 4, 1, 1, 150), (4, 15, 4, 2, 1, 151), (4, 18, 4, 3, 1, 152), (4, 21, 4, 4, 1, 154), (4, 24, 4, 5, 1, 155), (4, 27, 4, 6, 1, 156), (4, 30, 4, 7, 1, 157), (4, 33, 4, 0, 1, 149), (4, 37, 0, 17, 2, 87), (4, 43, 4, 10, 0, 163), (4, 47, 4, 11, 0, 164), (4, 53, 4, 9, 0, 161), (4, 60, 0, 2, 0, 58), (4, 63, 4, 8, 0, 159)]
def lkV {α : Type} : List (Nat × α) → Nat → Option α
  | [], _ => none
  | q :: t, i => bif Nat.beq q.1 i then some q.2 else lkV t i
def l_0 : List (Nat × Int32) := [(110, 1103515245), (111, 2147483647), (112, 65536)]
def ll_0 : List (Nat × Int64) := []
def l_1 : List (Nat × Int32) := []
def ll_1 : List (Nat × Int64) := []
def l_2 : List (Nat × Int32) := []
def ll_2 : List (Nat × Int64) := []
def l_3 : List (Nat × Int32) := []
def ll_3 : List (Nat × Int64) := []
def l_4 : List (Nat × Int32) := [(89, 1000003)]
def ll_4 : List (Nat × Int64) := []
def l_5 : List (Nat × Int32) := []
def ll_5 : List (Nat × Int64) := [(205, -1), (277, 2520), (282, 10)]
def l_6 : List (Nat × Int32) := []
def ll_6 : List (Nat × Int64) := []
def l_7 : List (Nat × Int32) := [(7, 15485957), (8, 2147483647)]
def ll_7 : List (Nat × Int64) := [(121, 3), (123, 31)]
def l_8 : List (Nat × Int32) := [(265, 1431655765), (266, 858993459), (267, 252645135)]
def ll_8 : List (Nat × Int64) := []
def l_9 : List (Nat × Int32) := [(7, 15485957), (8, 2147483647)]
def ll_9 : List (Nat × Int64) := [(121, 3), (123, 31)]
def LCf (own i : Nat) : Option Int32 := lkV (bif Nat.ble own 4 then (bif Nat.ble own 1 then (bif Nat.ble own 0 then (l_0) else (l_1)) else (bif Nat.ble own 2 then (l_2) else (bif Nat.ble own 3 then (l_3) else (l_4)))) else (bif Nat.ble own 6 then (bif Nat.ble own 5 then (l_5) else (l_6)) else (bif Nat.ble own 7 then (l_7) else (bif Nat.ble own 8 then (l_8) else (l_9))))) i
def LC2f (own i : Nat) : Option Int64 := lkV (bif Nat.ble own 4 then (bif Nat.ble own 1 then (bif Nat.ble own 0 then (ll_0) else (ll_1)) else (bif Nat.ble own 2 then (ll_2) else (bif Nat.ble own 3 then (ll_3) else (ll_4)))) else (bif Nat.ble own 6 then (bif Nat.ble own 5 then (ll_5) else (ll_6)) else (bif Nat.ble own 7 then (ll_7) else (bif Nat.ble own 8 then (ll_8) else (ll_9))))) i
def LCL : List (Nat × Nat × Int32 × Nat) := [(0, 110, 1103515245, 331), (0, 111, 2147483647, 332), (0, 112, 65536, 333), (7, 7, 15485957, 372), (9, 7, 15485957, 372), (7, 8, 2147483647, 373), (9, 8, 2147483647, 373), (8, 265, 1431655765, 560), (8, 266, 858993459, 561), (8, 267, 252645135, 562), (4, 89, 1000003, 637)]
def LCL2 : List (Nat × Nat × Int64 × Nat) := [(7, 121, 3, 585), (9, 121, 3, 585), (7, 123, 31, 586), (9, 123, 31, 586), (5, 205, -1, 785), (5, 277, 2520, 792), (5, 282, 10, 808)]
/-- calls: by the class that names them and its entry: kind (0 of an object, 1 static, 2 static of a nest mate), method, arguments -/
def c_0 : List Fe := [(81, 0, 22, 1), (77, 2, 104, 2), (85, 0, 30, 4), (89, 0, 31, 3), (97, 0, 32, 2), (93, 0, 33, 3), (101, 0, 26, 2), (107, 0, 38, 0), (113, 0, 34, 3), (104, 0, 35, 2), (62, 0, 37, 0), (116, 0, 54, 1)]
def c_1 : List Fe := [(61, 0, 42, 0), (47, 0, 43, 1), (57, 0, 71, 2), (64, 0, 27, 1), (70, 0, 44, 3), (74, 0, 47, 2), (78, 0, 49, 2), (82, 1, 72, 1)]
def c_2 : List Fe := [(26, 0, 52, 2)]
def c_3 : List Fe := [(22, 0, 20, 0), (27, 0, 58, 1), (35, 0, 64, 1), (66, 0, 62, 0), (47, 0, 65, 1), (51, 0, 66, 2), (55, 0, 24, 2), (31, 0, 63, 0), (39, 0, 59, 1), (61, 0, 60, 1), (70, 0, 22, 1), (78, 0, 61, 1), (82, 0, 25, 4)]
def c_4 : List Fe := [(50, 0, 68, 0), (66, 0, 41, 1), (70, 0, 69, 2), (74, 0, 31, 3), (78, 0, 34, 3), (82, 0, 33, 3), (56, 0, 70, 1), (85, 0, 71, 2), (90, 0, 27, 1), (93, 1, 72, 1), (97, 0, 73, 0)]
def c_5 : List Fe := [(136, 0, 27, 1), (99, 1, 103, 1), (139, 0, 28, 0), (143, 0, 29, 0), (162, 0, 36, 0), (165, 0, 39, 0), (133, 0, 21, 1), (122, 0, 56, 1), (126, 0, 57, 1), (156, 1, 115, 1), (149, 0, 38, 0), (103, 0, 23, 1), (65, 0, 22, 1), (95, 0, 30, 4), (152, 0, 34, 3), (89, 1, 104, 2), (118, 0, 26, 2), (168, 0, 67, 2), (172, 0, 73, 0), (175, 0, 75, 2), (178, 0, 76, 0), (184, 0, 74, 0), (187, 0, 45, 0), (223, 1, 105, 1), (226, 1, 106, 1), (252, 0, 50, 2), (229, 0, 53, 3), (248, 0, 55, 2), (232, 0, 40, 2), (258, 0, 51, 0), (190, 0, 107, 1), (193, 0, 46, 0), (202, 0, 48, 1), (207, 1, 109, 3), (211, 1, 108, 1), (215, 1, 110, 2), (236, 0, 111, 3), (279, 0, 54, 1), (240, 0, 114, 3), (284, 1, 112, 5), (244, 0, 113, 4)]
def c_6 : List Fe := []
def c_7 : List Fe := [(56, 0, 81, 1), (112, 0, 85, 1), (115, 0, 86, 0), (109, 0, 87, 1), (82, 0, 95, 0), (118, 0, 96, 0), (15, 1, 3, 2), (70, 1, 6, 4), (9, 0, 79, 1), (21, 1, 4, 1), (24, 1, 5, 2), (28, 0, 80, 0), (78, 1, 11, 3), (36, 1, 10, 1), (32, 1, 7, 2), (40, 1, 9, 1), (43, 0, 83, 0), (46, 0, 84, 1), (49, 1, 8, 5), (53, 0, 82, 2), (85, 1, 12, 2), (63, 0, 77, 2), (74, 1, 13, 2), (66, 0, 78, 2), (93, 1, 14, 3), (125, 0, 88, 1), (128, 0, 89, 0), (131, 0, 90, 1), (96, 1, 15, 4), (134, 0, 100, 3), (138, 0, 102, 4), (142, 0, 97, 4), (146, 0, 99, 3), (149, 0, 101, 1), (100, 1, 16, 4), (152, 0, 91, 1), (155, 0, 92, 2), (103, 1, 17, 3), (158, 0, 93, 1), (161, 0, 94, 2), (106, 1, 18, 4), (165, 0, 98, 5), (169, 1, 19, 4)]
def c_8 : List Fe := []
def c_9 : List Fe := [(56, 0, 81, 1), (112, 0, 85, 1), (115, 0, 86, 0), (109, 0, 87, 1), (82, 0, 95, 0), (118, 0, 96, 0), (15, 1, 3, 2), (70, 1, 6, 4), (9, 0, 79, 1), (21, 1, 4, 1), (24, 1, 5, 2), (28, 0, 80, 0), (78, 1, 11, 3), (36, 1, 10, 1), (32, 1, 7, 2), (40, 1, 9, 1), (43, 0, 83, 0), (46, 0, 84, 1), (49, 1, 8, 5), (53, 0, 82, 2), (85, 1, 12, 2), (63, 0, 77, 2), (74, 1, 13, 2), (66, 0, 78, 2), (93, 1, 14, 3), (125, 0, 88, 1), (128, 0, 89, 0), (131, 0, 90, 1), (96, 1, 15, 4), (134, 0, 100, 3), (138, 0, 102, 4), (142, 0, 97, 4), (146, 0, 99, 3), (149, 0, 101, 1), (100, 1, 16, 4), (152, 0, 91, 1), (155, 0, 92, 2), (103, 1, 17, 3), (158, 0, 93, 1), (161, 0, 94, 2), (106, 1, 18, 4), (165, 0, 98, 5), (169, 1, 19, 4)]
def KTf (own i : Nat) : Option (Nat × Nat × Nat) := lkF (bif Nat.ble own 4 then (bif Nat.ble own 1 then (bif Nat.ble own 0 then (c_0) else (c_1)) else (bif Nat.ble own 2 then (c_2) else (bif Nat.ble own 3 then (c_3) else (c_4)))) else (bif Nat.ble own 6 then (bif Nat.ble own 5 then (c_5) else (c_6)) else (bif Nat.ble own 7 then (c_7) else (bif Nat.ble own 8 then (c_8) else (c_9))))) i
def KTL : List (Nat × Nat × Nat × Nat × Nat × Nat × Nat × Nat) := [(7, 56, 0, 81, 1, 273, 274, 275), (9, 56, 0, 81, 1, 273, 274, 275), (5, 136, 0, 27, 1, 277, 278, 279), (0, 81, 0, 22, 1, 281, 282, 283), (0, 77, 2, 104, 2, 285, 286, 24), (5, 99, 1, 103, 1, 288, 289, 24), (5, 139, 0, 28, 0, 291, 292, 293), (5, 143, 0, 29, 0, 295, 296, 297), (0, 85, 0, 30, 4, 299, 300, 301), (0, 89, 0, 31, 3, 303, 304, 305), (0, 97, 0, 32, 2, 307, 309, 0), (0, 93, 0, 33, 3, 311, 312, 313), (0, 101, 0, 26, 2, 315, 316, 317), (7, 112, 0, 85, 1, 319, 320, 321), (9, 112, 0, 85, 1, 319, 320, 321), (5, 162, 0, 36, 0, 323, 324, 325), (0, 107, 0, 38, 0, 327, 328, 329), (0, 113, 0, 34, 3, 334, 335, 336), (0, 104, 0, 35, 2, 338, 340, 1), (7, 115, 0, 86, 0, 342, 343, 344), (9, 115, 0, 86, 0, 342, 343, 344), (5, 165, 0, 39, 0, 346, 347, 348), (7, 109, 0, 87, 1, 350, 351, 352), (9, 109, 0, 87, 1, 350, 351, 352), (7, 82, 0, 95, 0, 354, 355, 356), (9, 82, 0, 95, 0, 354, 355, 356), (5, 133, 0, 21, 1, 358, 359, 360), (7, 118, 0, 96, 0, 365, 366, 367), (9, 118, 0, 96, 0, 365, 366, 367), (7, 15, 1, 3, 2, 369, 370, 23), (9, 15, 1, 3, 2, 369, 370, 23), (7, 70, 1, 6, 4, 374, 375, 23), (9, 70, 1, 6, 4, 374, 375, 23), (7, 9, 0, 79, 1, 377, 378, 379), (9, 9, 0, 79, 1, 377, 378, 379), (5, 122, 0, 56, 1, 381, 382, 383), (7, 21, 1, 4, 1, 385, 386, 23), (9, 21, 1, 4, 1, 385, 386, 23), (7, 24, 1, 5, 2, 388, 389, 23), (9, 24, 1, 5, 2, 388, 389, 23), (7, 28, 0, 80, 0, 391, 392, 393), (9, 28, 0, 80, 0, 391, 392, 393), (5, 126, 0, 57, 1, 395, 396, 397), (3, 22, 0, 20, 0, 399, 400, 401), (0, 62, 0, 37, 0, 403, 404, 405), (3, 27, 0, 58, 1, 407, 409, 2), (3, 35, 0, 64, 1, 411, 413, 3), (3, 66, 0, 62, 0, 415, 417, 4), (3, 47, 0, 65, 1, 420, 422, 5), (3, 51, 0, 66, 2, 510, 512, 6), (3, 55, 0, 24, 2, 514, 515, 516), (3, 31, 0, 63, 0, 518, 520, 7), (3, 39, 0, 59, 1, 522, 524, 8), (3, 61, 0, 60, 1, 526, 528, 9), (3, 70, 0, 22, 1, 531, 282, 283), (3, 78, 0, 61, 1, 532, 534, 10), (3, 82, 0, 25, 4, 536, 537, 538), (7, 78, 1, 11, 3, 541, 542, 23), (9, 78, 1, 11, 3, 541, 542, 23), (7, 36, 1, 10, 1, 544, 545, 23), (9, 36, 1, 10, 1, 544, 545, 23), (7, 32, 1, 7, 2, 547, 548, 23), (9, 32, 1, 7, 2, 547, 548, 23), (7, 40, 1, 9, 1, 550, 551, 23), (9, 40, 1, 9, 1, 550, 551, 23), (7, 43, 0, 83, 0, 553, 554, 555), (9, 43, 0, 83, 0, 553, 554, 555), (5, 156, 1, 115, 1, 557, 558, 37), (5, 149, 0, 38, 0, 563, 328, 329), (7, 46, 0, 84, 1, 564, 565, 566), (9, 46, 0, 84, 1, 564, 565, 566), (5, 103, 0, 23, 1, 568, 569, 570), (7, 49, 1, 8, 5, 572, 573, 23), (9, 49, 1, 8, 5, 572, 573, 23), (7, 53, 0, 82, 2, 575, 576, 577), (9, 53, 0, 82, 2, 575, 576, 577), (5, 65, 0, 22, 1, 579, 282, 283), (5, 95, 0, 30, 4, 580, 300, 301), (5, 152, 0, 34, 3, 581, 335, 336), (7, 85, 1, 12, 2, 582, 583, 23), (9, 85, 1, 12, 2, 582, 583, 23), (7, 63, 0, 77, 2, 587, 588, 589), (9, 63, 0, 77, 2, 587, 588, 589), (5, 89, 1, 104, 2, 591, 286, 24), (7, 74, 1, 13, 2, 592, 593, 23), (9, 74, 1, 13, 2, 592, 593, 23), (7, 66, 0, 78, 2, 595, 596, 597), (9, 66, 0, 78, 2, 595, 596, 597), (5, 118, 0, 26, 2, 599, 316, 317), (7, 93, 1, 14, 3, 603, 604, 23), (9, 93, 1, 14, 3, 603, 604, 23), (7, 125, 0, 88, 1, 606, 607, 608), (9, 125, 0, 88, 1, 606, 607, 608), (5, 168, 0, 67, 2, 610, 611, 612), (4, 50, 0, 68, 0, 614, 616, 11), (4, 66, 0, 41, 1, 618, 619, 620), (4, 70, 0, 69, 2, 622, 624, 12), (4, 74, 0, 31, 3, 626, 304, 305), (4, 78, 0, 34, 3, 627, 335, 336), (4, 82, 0, 33, 3, 628, 312, 313), (4, 56, 0, 70, 1, 629, 631, 13), (4, 85, 0, 71, 2, 633, 634, 635), (5, 172, 0, 73, 0, 638, 639, 640), (4, 90, 0, 27, 1, 642, 278, 279), (5, 175, 0, 75, 2, 643, 644, 645), (4, 93, 1, 72, 1, 647, 648, 27), (7, 128, 0, 89, 0, 650, 651, 652), (9, 128, 0, 89, 0, 650, 651, 652), (5, 178, 0, 76, 0, 654, 655, 656), (4, 97, 0, 73, 0, 658, 639, 640), (7, 131, 0, 90, 1, 659, 660, 661), (9, 131, 0, 90, 1, 659, 660, 661), (5, 184, 0, 74, 0, 663, 664, 665), (5, 187, 0, 45, 0, 667, 668, 669), (1, 61, 0, 42, 0, 671, 673, 14), (1, 47, 0, 43, 1, 675, 677, 15), (1, 57, 0, 71, 2, 679, 634, 635), (1, 64, 0, 27, 1, 680, 278, 279), (1, 70, 0, 44, 3, 681, 683, 16), (7, 96, 1, 15, 4, 685, 686, 23), (9, 96, 1, 15, 4, 685, 686, 23), (7, 134, 0, 100, 3, 688, 689, 690), (9, 134, 0, 100, 3, 688, 689, 690), (5, 223, 1, 105, 1, 692, 693, 24), (5, 226, 1, 106, 1, 695, 696, 24), (5, 252, 0, 50, 2, 698, 699, 700), (7, 138, 0, 102, 4, 702, 703, 704), (9, 138, 0, 102, 4, 702, 703, 704), (5, 229, 0, 53, 3, 706, 707, 708), (2, 26, 0, 52, 2, 710, 711, 712), (5, 248, 0, 55, 2, 714, 715, 716), (7, 142, 0, 97, 4, 718, 719, 720), (9, 142, 0, 97, 4, 718, 719, 720), (5, 232, 0, 40, 2, 722, 723, 724), (0, 116, 0, 54, 1, 726, 727, 728), (7, 146, 0, 99, 3, 730, 731, 732), (9, 146, 0, 99, 3, 730, 731, 732), (7, 149, 0, 101, 1, 734, 735, 736), (9, 149, 0, 101, 1, 734, 735, 736), (5, 258, 0, 51, 0, 738, 739, 740), (7, 100, 1, 16, 4, 742, 743, 23), (9, 100, 1, 16, 4, 742, 743, 23), (7, 152, 0, 91, 1, 745, 746, 747), (9, 152, 0, 91, 1, 745, 746, 747), (5, 190, 0, 107, 1, 749, 751, 17), (7, 155, 0, 92, 2, 753, 754, 755), (9, 155, 0, 92, 2, 753, 754, 755), (7, 103, 1, 17, 3, 757, 758, 23), (9, 103, 1, 17, 3, 757, 758, 23), (7, 158, 0, 93, 1, 760, 761, 762), (9, 158, 0, 93, 1, 760, 761, 762), (5, 193, 0, 46, 0, 764, 765, 766), (1, 74, 0, 47, 2, 768, 770, 18), (5, 202, 0, 48, 1, 772, 773, 774), (1, 78, 0, 49, 2, 776, 778, 19), (1, 82, 1, 72, 1, 780, 648, 27), (7, 161, 0, 94, 2, 781, 782, 783), (9, 161, 0, 94, 2, 781, 782, 783), (5, 207, 1, 109, 3, 786, 787, 24), (5, 211, 1, 108, 1, 789, 790, 24), (5, 215, 1, 110, 2, 793, 794, 24), (7, 106, 1, 18, 4, 796, 797, 23), (9, 106, 1, 18, 4, 796, 797, 23), (7, 165, 0, 98, 5, 799, 800, 801), (9, 165, 0, 98, 5, 799, 800, 801), (5, 236, 0, 111, 3, 803, 805, 20), (5, 279, 0, 54, 1, 807, 727, 728), (5, 240, 0, 114, 3, 809, 811, 21), (5, 284, 1, 112, 5, 813, 814, 24), (5, 244, 0, 113, 4, 816, 818, 22), (7, 169, 1, 19, 4, 820, 821, 23), (9, 169, 1, 19, 4, 820, 821, 23)]
/-- what stands at each place: (0, class) an object, (1, n) ints, (2, n) chars, (3, n) longs, (4, n) sheets -/
def nID : Nat := 59
def SKt (i : Nat) : Nat × Nat := bif Nat.ble i 28 then (bif Nat.ble i 13 then (bif Nat.ble i 6 then (bif Nat.ble i 2 then (bif Nat.ble i 0 then ((0, 5)) else (bif Nat.ble i 1 then ((0, 0)) else ((1, 5)))) else (bif Nat.ble i 4 then (bif Nat.ble i 3 then ((1, 5)) else ((1, 6))) else (bif Nat.ble i 5 then ((1, 6)) else ((1, 6))))) else (bif Nat.ble i 9 then (bif Nat.ble i 7 then ((1, 6)) else (bif Nat.ble i 8 then ((1, 8)) else ((1, 8)))) else (bif Nat.ble i 11 then (bif Nat.ble i 10 then ((1, 8)) else ((0, 0))) else (bif Nat.ble i 12 then ((1, 5)) else ((1, 5)))))) else (bif Nat.ble i 20 then (bif Nat.ble i 16 then (bif Nat.ble i 14 then ((1, 6)) else (bif Nat.ble i 15 then ((1, 6)) else ((1, 6)))) else (bif Nat.ble i 18 then (bif Nat.ble i 17 then ((1, 6)) else ((1, 8))) else (bif Nat.ble i 19 then ((1, 8)) else ((1, 8))))) else (bif Nat.ble i 24 then (bif Nat.ble i 22 then (bif Nat.ble i 21 then ((0, 0)) else ((1, 5))) else (bif Nat.ble i 23 then ((1, 5)) else ((1, 6)))) else (bif Nat.ble i 26 then (bif Nat.ble i 25 then ((1, 6)) else ((1, 6))) else (bif Nat.ble i 27 then ((1, 6)) else ((1, 8))))))) else (bif Nat.ble i 43 then (bif Nat.ble i 35 then (bif Nat.ble i 31 then (bif Nat.ble i 29 then ((1, 8)) else (bif Nat.ble i 30 then ((1, 8)) else ((0, 3)))) else (bif Nat.ble i 33 then (bif Nat.ble i 32 then ((2, 90)) else ((0, 4))) else (bif Nat.ble i 34 then ((1, 10240)) else ((1, 10240))))) else (bif Nat.ble i 39 then (bif Nat.ble i 37 then (bif Nat.ble i 36 then ((1, 1024)) else ((1, 1024))) else (bif Nat.ble i 38 then ((1, 1024)) else ((1, 1024)))) else (bif Nat.ble i 41 then (bif Nat.ble i 40 then ((1, 1024)) else ((0, 1))) else (bif Nat.ble i 42 then ((1, 1024)) else ((1, 10240)))))) else (bif Nat.ble i 50 then (bif Nat.ble i 46 then (bif Nat.ble i 44 then ((1, 1024)) else (bif Nat.ble i 45 then ((1, 1024)) else ((1, 1024)))) else (bif Nat.ble i 48 then (bif Nat.ble i 47 then ((1, 1024)) else ((4, 4))) else (bif Nat.ble i 49 then ((0, 2)) else ((3, 24))))) else (bif Nat.ble i 54 then (bif Nat.ble i 52 then (bif Nat.ble i 51 then ((0, 2)) else ((3, 24))) else (bif Nat.ble i 53 then ((0, 2)) else ((3, 24)))) else (bif Nat.ble i 56 then (bif Nat.ble i 55 then ((0, 2)) else ((3, 24))) else (bif Nat.ble i 57 then ((1, 40)) else ((1, 4)))))))
def SKf (i : Nat) : Option (Nat × Nat) := bif Nat.ble nID i then none else some (SKt i)
def lkR : List (Nat × Nat) → Nat → Option Nat
  | [], _ => none
  | q :: t, i => bif Nat.beq q.1 i then some q.2 else lkR t i
def rr_0 : List (Nat × Nat) := [(0, 1), (1, 11), (2, 21), (4, 31), (5, 33), (6, 41), (7, 48)]
def rr_1 : List (Nat × Nat) := [(0, 2), (1, 3), (3, 4), (4, 5), (5, 6), (6, 7), (12, 8), (13, 9), (14, 10)]
def rr_11 : List (Nat × Nat) := [(0, 12), (1, 13), (3, 14), (4, 15), (5, 16), (6, 17), (12, 18), (13, 19), (14, 20)]
def rr_21 : List (Nat × Nat) := [(0, 22), (1, 23), (3, 24), (4, 25), (5, 26), (6, 27), (12, 28), (13, 29), (14, 30)]
def rr_31 : List (Nat × Nat) := [(0, 32)]
def rr_33 : List (Nat × Nat) := [(0, 1), (1, 34), (2, 35), (3, 36), (4, 37), (5, 38), (6, 39), (7, 40)]
def rr_41 : List (Nat × Nat) := [(0, 1), (1, 33), (2, 42), (3, 43), (4, 44), (5, 45), (7, 46), (8, 47)]
def rr_48 : List (Nat × Nat) := [(0, 49), (1, 51), (2, 53), (3, 55)]
def rr_49 : List (Nat × Nat) := [(3, 50)]
def rr_51 : List (Nat × Nat) := [(3, 52)]
def rr_53 : List (Nat × Nat) := [(3, 54)]
def rr_55 : List (Nat × Nat) := [(3, 56)]
def R0t (i : Nat) : List (Nat × Nat) := bif Nat.ble i 28 then (bif Nat.ble i 13 then (bif Nat.ble i 6 then (bif Nat.ble i 2 then (bif Nat.ble i 0 then (rr_0) else (bif Nat.ble i 1 then (rr_1) else ([]))) else (bif Nat.ble i 4 then (bif Nat.ble i 3 then ([]) else ([])) else (bif Nat.ble i 5 then ([]) else ([])))) else (bif Nat.ble i 9 then (bif Nat.ble i 7 then ([]) else (bif Nat.ble i 8 then ([]) else ([]))) else (bif Nat.ble i 11 then (bif Nat.ble i 10 then ([]) else (rr_11)) else (bif Nat.ble i 12 then ([]) else ([]))))) else (bif Nat.ble i 20 then (bif Nat.ble i 16 then (bif Nat.ble i 14 then ([]) else (bif Nat.ble i 15 then ([]) else ([]))) else (bif Nat.ble i 18 then (bif Nat.ble i 17 then ([]) else ([])) else (bif Nat.ble i 19 then ([]) else ([])))) else (bif Nat.ble i 24 then (bif Nat.ble i 22 then (bif Nat.ble i 21 then (rr_21) else ([])) else (bif Nat.ble i 23 then ([]) else ([]))) else (bif Nat.ble i 26 then (bif Nat.ble i 25 then ([]) else ([])) else (bif Nat.ble i 27 then ([]) else ([])))))) else (bif Nat.ble i 43 then (bif Nat.ble i 35 then (bif Nat.ble i 31 then (bif Nat.ble i 29 then ([]) else (bif Nat.ble i 30 then ([]) else (rr_31))) else (bif Nat.ble i 33 then (bif Nat.ble i 32 then ([]) else (rr_33)) else (bif Nat.ble i 34 then ([]) else ([])))) else (bif Nat.ble i 39 then (bif Nat.ble i 37 then (bif Nat.ble i 36 then ([]) else ([])) else (bif Nat.ble i 38 then ([]) else ([]))) else (bif Nat.ble i 41 then (bif Nat.ble i 40 then ([]) else (rr_41)) else (bif Nat.ble i 42 then ([]) else ([]))))) else (bif Nat.ble i 50 then (bif Nat.ble i 46 then (bif Nat.ble i 44 then ([]) else (bif Nat.ble i 45 then ([]) else ([]))) else (bif Nat.ble i 48 then (bif Nat.ble i 47 then ([]) else (rr_48)) else (bif Nat.ble i 49 then (rr_49) else ([])))) else (bif Nat.ble i 54 then (bif Nat.ble i 52 then (bif Nat.ble i 51 then (rr_51) else ([])) else (bif Nat.ble i 53 then (rr_53) else ([]))) else (bif Nat.ble i 56 then (bif Nat.ble i 55 then (rr_55) else ([])) else (bif Nat.ble i 57 then ([]) else ([]))))))
def R0 (i k : Nat) : Option Nat := lkR (R0t i) k
def nFf (c : Nat) : Nat := bif Nat.ble c 2 then (bif Nat.ble c 0 then (18) else (bif Nat.ble c 1 then (9) else (4))) else (bif Nat.ble c 4 then (bif Nat.ble c 3 then (3) else (12)) else (bif Nat.ble c 5 then (8) else (0)))
def kd_0 (k : Nat) : Nat := bif Nat.ble k 8 then (bif Nat.ble k 3 then (bif Nat.ble k 1 then (bif Nat.ble k 0 then (1) else (1)) else (bif Nat.ble k 2 then (0) else (1))) else (bif Nat.ble k 5 then (bif Nat.ble k 4 then (1) else (1)) else (bif Nat.ble k 6 then (1) else (bif Nat.ble k 7 then (0) else (0))))) else (bif Nat.ble k 13 then (bif Nat.ble k 10 then (bif Nat.ble k 9 then (0) else (0)) else (bif Nat.ble k 11 then (0) else (bif Nat.ble k 12 then (1) else (1)))) else (bif Nat.ble k 15 then (bif Nat.ble k 14 then (1) else (0)) else (bif Nat.ble k 16 then (0) else (bif Nat.ble k 17 then (2) else (0)))))
def kd_1 (k : Nat) : Nat := bif Nat.ble k 4 then (bif Nat.ble k 1 then (bif Nat.ble k 0 then (1) else (1)) else (bif Nat.ble k 2 then (1) else (bif Nat.ble k 3 then (1) else (1)))) else (bif Nat.ble k 6 then (bif Nat.ble k 5 then (1) else (0)) else (bif Nat.ble k 7 then (1) else (bif Nat.ble k 8 then (1) else (0))))
def kd_2 (k : Nat) : Nat := bif Nat.ble k 1 then (bif Nat.ble k 0 then (2) else (0)) else (bif Nat.ble k 2 then (0) else (bif Nat.ble k 3 then (1) else (0)))
def kd_3 (k : Nat) : Nat := bif Nat.ble k 1 then (bif Nat.ble k 0 then (1) else (0)) else (bif Nat.ble k 2 then (0) else (0))
def kd_4 (k : Nat) : Nat := bif Nat.ble k 5 then (bif Nat.ble k 2 then (bif Nat.ble k 0 then (1) else (bif Nat.ble k 1 then (1) else (1))) else (bif Nat.ble k 3 then (1) else (bif Nat.ble k 4 then (1) else (1)))) else (bif Nat.ble k 8 then (bif Nat.ble k 6 then (1) else (bif Nat.ble k 7 then (1) else (0))) else (bif Nat.ble k 10 then (bif Nat.ble k 9 then (0) else (0)) else (bif Nat.ble k 11 then (0) else (0))))
def kd_5 (k : Nat) : Nat := bif Nat.ble k 3 then (bif Nat.ble k 1 then (bif Nat.ble k 0 then (1) else (1)) else (bif Nat.ble k 2 then (1) else (2))) else (bif Nat.ble k 5 then (bif Nat.ble k 4 then (1) else (1)) else (bif Nat.ble k 6 then (1) else (bif Nat.ble k 7 then (1) else (0))))
def kdf (c k : Nat) : Nat := bif Nat.ble c 2 then (bif Nat.ble c 0 then (kd_0 k) else (bif Nat.ble c 1 then (kd_1 k) else (kd_2 k))) else (bif Nat.ble c 4 then (bif Nat.ble c 3 then (kd_3 k) else (kd_4 k)) else (bif Nat.ble c 5 then (kd_5 k) else (0)))
end
section
/-! numbers as written, rows of instructions -/
def owM (M : Nat) : Nat := (MRT M).1
def yM (M : Nat) : MethodName := (MRT M).2.1
def bM (M : Nat) : ByteArray := (MRT M).2.2.1
def mlM (M : Nat) : Nat := (MRT M).2.2.2.1
def rtM (M : Nat) : Option FieldType := (MRT M).2.2.2.2.1
def lkI : Cl → Nat → Option (Instr × Nat)
  | [], _ => none
  | q :: t, pc => bif Nat.beq q.1 pc then some q.2 else lkI t pc
def nthC : Ct → Nat → Cl
  | [], _ => []
  | c :: _, 0 => c
  | _ :: t, n + 1 => nthC t n
def fetch (M pc : Nat) : Option (Instr × Nat) := lkI (nthC (MRT M).2.2.2.2.2 (pc / 32)) pc
/-- a written number -/
def iK (k : Int) : Int32 := match k with
  | .ofNat n => OfNat.ofNat n
  | .negSucc n => -(OfNat.ofNat (n + 1))
def lK (n : Nat) : Int64 := OfNat.ofNat n
def tg (pc : Nat) (off : Int) : Nat := ((pc : Int) + off).toNat
def ilen (i : Instr) : Nat := match i with
  | .bipush _ => 2 | .iload _ => 2 | .istore _ => 2 | .lload _ => 2 | .lstore _ => 2 | .aload _ => 2 | .astore _ => 2 | .ldc _ => 2
  | .sipush _ => 3 | .iinc _ _ => 3 | .getfield _ => 3 | .putfield _ => 3 | .invokevirtual _ => 3 | .invokestatic _ => 3 | .invokespecial _ => 3 | .ldc_w _ => 3 | .ldc2_w _ => 3 | .goto _ => 3 | .ifCond _ _ => 3 | .if_icmp _ _ => 3 | .new _ => 3 | .anewarray _ => 3
  | .newarray _ => 2
  | _ => 1
/-- what is asked of a row of the tables of instructions -/
def okIns (pc : Nat) (i : Instr) (n : Nat) : Bool := match i with
  | .iconst k => Nat.beq n 1 && decide (Int32.ofInt k = iK k)
  | .bipush k => Nat.beq n 2 && decide ((Int8.ofInt k).toInt32 = iK k)
  | .sipush k => Nat.beq n 3 && decide ((Int16.ofInt k).toInt32 = iK k)
  | .iinc _ k => Nat.beq n 3 && decide (Int32.ofInt k = iK k)
  | .ifCond _ off => Nat.beq n 3 && decide ((pc : Int) + off = (tg pc off : Int))
  | .if_icmp _ off => Nat.beq n 3 && decide ((pc : Int) + off = (tg pc off : Int))
  | .goto off => Nat.beq n 3 && decide ((pc : Int) + off = (tg pc off : Int))
  | .tableswitch d lo hi offs => decide (lo = 0) && decide (hi + 1 = offs.size) && decide (offs.size < 1000) && decide ((pc : Int) + d = (tg pc d : Int)) && offs.toList.all (fun off => decide ((pc : Int) + off = (tg pc off : Int)))
  | i => Nat.beq n (ilen i)
/-- what may be called -/
def calB (M : Nat) : Bool := decide (yM M ≠ yL_law) && !(Nat.beq (owM M) 9) && !(Nat.beq M 0)
theorem calB_of {M : Nat} (h : calB M = true) : yM M ≠ yL_law ∧ owM M ≠ 9 ∧ Nat.beq M 0 = false := by
  unfold calB at h
  simp only [Bool.and_eq_true, decide_eq_true_eq, Bool.not_eq_true'] at h
  exact ⟨h.1.1, fun e => by rw [e] at h; exact absurd h.1.2 (by decide), h.2⟩
end
section
def lw_good : List Jvm.Cond := lw_tbl.filter goodWord
def wsM (M : Nat) : List Jvm.Cond := Jvm.Cond.code (yM M) (bM M) (mlM M) (rtM M) :: lw_good
theorem good_at {i : Nat} {w : Jvm.Cond} (h : lw_tbl[i]? = some w) (hg : goodWord w = true) : w ∈ lw_good := List.mem_filter.mpr ⟨List.mem_of_getElem? h, hg⟩
theorem bif_p {α : Sort _} {P : α → Prop} {b : Bool} {x y : α} (hx : P x) (hy : P y) : P (bif b then x else y) := by cases b <;> assumption
theorem bif_p2 {α β : Sort _} {P : α → β → Prop} {b : Bool} {x y : α} {z w : β} (hx : P x z) (hy : P y w) : P (bif b then x else y) (bif b then z else w) := by cases b <;> assumption
def zAll {α β : Type} (f : α → β → Bool) : List α → List β → Bool
  | [], _ => true
  | a :: t, b :: u => f a b && zAll f t u
  | _ :: _, [] => false
theorem zAll_mem {α β : Type} {f : α → β → Bool} {l : List α} {m : List β} (h : zAll f l m = true) {a : α} (ha : a ∈ l) : ∃ b, f a b = true := by
  induction l generalizing m with
  | nil => cases ha
  | cons x t ih =>
    cases m with
    | nil => simp [zAll] at h
    | cons y u =>
      simp only [zAll, Bool.and_eq_true] at h
      rcases List.mem_cons.mp ha with rfl | hm
      · exact ⟨y, h.1⟩
      · exact ih h.2 hm
theorem lkF_mem {l : List Fe} {i : Nat} {x : Nat × Nat × Nat} (h : lkF l i = some x) : (i, x) ∈ l := by
  induction l with
  | nil => cases h
  | cons q t ih =>
    simp only [lkF] at h
    cases hb : Nat.beq q.1 i with
    | true =>
      rw [hb] at h
      have e1 : q.1 = i := Nat.eq_of_beq_eq_true hb
      have e2 : q.2 = x := Option.some.inj h
      rw [← e1, ← e2]
      exact List.mem_cons_self
    | false =>
      rw [hb] at h
      exact List.mem_cons_of_mem _ (ih h)
theorem lkV_mem {α : Type} {l : List (Nat × α)} {i : Nat} {x : α} (h : lkV l i = some x) : (i, x) ∈ l := by
  induction l with
  | nil => cases h
  | cons q t ih =>
    simp only [lkV] at h
    cases hb : Nat.beq q.1 i with
    | true =>
      rw [hb] at h
      have e1 : q.1 = i := Nat.eq_of_beq_eq_true hb
      have e2 : q.2 = x := Option.some.inj h
      rw [← e1, ← e2]
      exact List.mem_cons_self
    | false =>
      rw [hb] at h
      exact List.mem_cons_of_mem _ (ih h)
theorem lkI_mem {l : Cl} {i : Nat} {x : Instr × Nat} (h : lkI l i = some x) : (i, x) ∈ l := by
  induction l with
  | nil => cases h
  | cons q t ih =>
    simp only [lkI] at h
    cases hb : Nat.beq q.1 i with
    | true =>
      rw [hb] at h
      have e1 : q.1 = i := Nat.eq_of_beq_eq_true hb
      have e2 : q.2 = x := Option.some.inj h
      rw [← e1, ← e2]
      exact List.mem_cons_self
    | false =>
      rw [hb] at h
      exact List.mem_cons_of_mem _ (ih h)
theorem nthC_mem {ct : Ct} {n : Nat} {q : Nat × Instr × Nat} (h : q ∈ nthC ct n) : ∃ cl ∈ ct, q ∈ cl := by
  induction ct generalizing n with
  | nil => cases h
  | cons c t ih =>
    cases n with
    | zero => exact ⟨c, List.mem_cons_self, h⟩
    | succ n =>
      obtain ⟨cl, h1, h2⟩ := ih (n := n) h
      exact ⟨cl, List.mem_cons_of_mem _ h1, h2⟩
/-- the rows of instructions -/
def okCl (b : ByteArray) (cl : Cl) : Bool := cl.all (fun q => decide (decode b q.1 = .ok q.2) && okIns q.1 q.2.1 q.2.2)
def okCd (r : MR) : Bool := r.2.2.2.2.2.all (fun cl => okCl r.2.2.1 cl)
/-- the words of a method -/
def okMr (r : MR) (p : Nat × Nat) : Bool := decide (lw_tbl[p.1]? = some (.code r.2.1 r.2.2.1 r.2.2.2.1 r.2.2.2.2.1)) && decide (lw_tbl[p.2]? = some (.initialized r.2.1.cls)) && plainName r.2.1.cls && decide (r.2.1.cls = RNf r.1) && decide (r.2.1.cls ≠ "java/lang/invoke/MethodHandle") && decide (r.2.1.cls ≠ "java/lang/invoke/VarHandle")
theorem kc_0_0 : okCl cL_law k_0_0 = true := by decide +kernel
theorem kc_0_1 : okCl cL_law k_0_1 = true := by decide +kernel
theorem kc_0_2 : okCl cL_law k_0_2 = true := by decide +kernel
theorem kc_0_3 : okCl cL_law k_0_3 = true := by decide +kernel
theorem kc_0_4 : okCl cL_law k_0_4 = true := by decide +kernel
theorem kc_0_5 : okCl cL_law k_0_5 = true := by decide +kernel
theorem kc_0_6 : okCl cL_law k_0_6 = true := by decide +kernel
theorem kc_0_7 : okCl cL_law k_0_7 = true := by decide +kernel
theorem kc_0_8 : okCl cL_law k_0_8 = true := by decide +kernel
theorem kc_0_9 : okCl cL_law k_0_9 = true := by decide +kernel
theorem kc_0_10 : okCl cL_law k_0_10 = true := by decide +kernel
theorem kc_0_11 : okCl cL_law k_0_11 = true := by decide +kernel
theorem kc_0_12 : okCl cL_law k_0_12 = true := by decide +kernel
theorem kc_0_13 : okCl cL_law k_0_13 = true := by decide +kernel
theorem kc_0 : okCd r_0 = true := List.all_eq_true.mpr (List.forall_mem_cons.mpr ⟨kc_0_0, List.forall_mem_cons.mpr ⟨kc_0_1, List.forall_mem_cons.mpr ⟨kc_0_2, List.forall_mem_cons.mpr ⟨kc_0_3, List.forall_mem_cons.mpr ⟨kc_0_4, List.forall_mem_cons.mpr ⟨kc_0_5, List.forall_mem_cons.mpr ⟨kc_0_6, List.forall_mem_cons.mpr ⟨kc_0_7, List.forall_mem_cons.mpr ⟨kc_0_8, List.forall_mem_cons.mpr ⟨kc_0_9, List.forall_mem_cons.mpr ⟨kc_0_10, List.forall_mem_cons.mpr ⟨kc_0_11, List.forall_mem_cons.mpr ⟨kc_0_12, List.forall_mem_cons.mpr ⟨kc_0_13, fun _ h => absurd h List.not_mem_nil⟩⟩⟩⟩⟩⟩⟩⟩⟩⟩⟩⟩⟩⟩)
theorem kc_1_0 : okCl cL_law k_1_0 = true := by decide +kernel
theorem kc_1_1 : okCl cL_law k_1_1 = true := by decide +kernel
theorem kc_1_2 : okCl cL_law k_1_2 = true := by decide +kernel
theorem kc_1_3 : okCl cL_law k_1_3 = true := by decide +kernel
theorem kc_1_4 : okCl cL_law k_1_4 = true := by decide +kernel
theorem kc_1_5 : okCl cL_law k_1_5 = true := by decide +kernel
theorem kc_1_6 : okCl cL_law k_1_6 = true := by decide +kernel
theorem kc_1_7 : okCl cL_law k_1_7 = true := by decide +kernel
theorem kc_1_8 : okCl cL_law k_1_8 = true := by decide +kernel
theorem kc_1_9 : okCl cL_law k_1_9 = true := by decide +kernel
theorem kc_1_10 : okCl cL_law k_1_10 = true := by decide +kernel
theorem kc_1_11 : okCl cL_law k_1_11 = true := by decide +kernel
theorem kc_1_12 : okCl cL_law k_1_12 = true := by decide +kernel
theorem kc_1_13 : okCl cL_law k_1_13 = true := by decide +kernel
theorem kc_1 : okCd r_1 = true := List.all_eq_true.mpr (List.forall_mem_cons.mpr ⟨kc_1_0, List.forall_mem_cons.mpr ⟨kc_1_1, List.forall_mem_cons.mpr ⟨kc_1_2, List.forall_mem_cons.mpr ⟨kc_1_3, List.forall_mem_cons.mpr ⟨kc_1_4, List.forall_mem_cons.mpr ⟨kc_1_5, List.forall_mem_cons.mpr ⟨kc_1_6, List.forall_mem_cons.mpr ⟨kc_1_7, List.forall_mem_cons.mpr ⟨kc_1_8, List.forall_mem_cons.mpr ⟨kc_1_9, List.forall_mem_cons.mpr ⟨kc_1_10, List.forall_mem_cons.mpr ⟨kc_1_11, List.forall_mem_cons.mpr ⟨kc_1_12, List.forall_mem_cons.mpr ⟨kc_1_13, fun _ h => absurd h List.not_mem_nil⟩⟩⟩⟩⟩⟩⟩⟩⟩⟩⟩⟩⟩⟩)
theorem kc_2_0 : okCl cL_moved k_2_0 = true := by decide +kernel
theorem kc_2_1 : okCl cL_moved k_2_1 = true := by decide +kernel
theorem kc_2_2 : okCl cL_moved k_2_2 = true := by decide +kernel
theorem kc_2_3 : okCl cL_moved k_2_3 = true := by decide +kernel
theorem kc_2_4 : okCl cL_moved k_2_4 = true := by decide +kernel
theorem kc_2_5 : okCl cL_moved k_2_5 = true := by decide +kernel
theorem kc_2_6 : okCl cL_moved k_2_6 = true := by decide +kernel
theorem kc_2_7 : okCl cL_moved k_2_7 = true := by decide +kernel
theorem kc_2_8 : okCl cL_moved k_2_8 = true := by decide +kernel
theorem kc_2_9 : okCl cL_moved k_2_9 = true := by decide +kernel
theorem kc_2_10 : okCl cL_moved k_2_10 = true := by decide +kernel
theorem kc_2 : okCd r_2 = true := List.all_eq_true.mpr (List.forall_mem_cons.mpr ⟨kc_2_0, List.forall_mem_cons.mpr ⟨kc_2_1, List.forall_mem_cons.mpr ⟨kc_2_2, List.forall_mem_cons.mpr ⟨kc_2_3, List.forall_mem_cons.mpr ⟨kc_2_4, List.forall_mem_cons.mpr ⟨kc_2_5, List.forall_mem_cons.mpr ⟨kc_2_6, List.forall_mem_cons.mpr ⟨kc_2_7, List.forall_mem_cons.mpr ⟨kc_2_8, List.forall_mem_cons.mpr ⟨kc_2_9, List.forall_mem_cons.mpr ⟨kc_2_10, fun _ h => absurd h List.not_mem_nil⟩⟩⟩⟩⟩⟩⟩⟩⟩⟩⟩)
theorem kc_3 : okCd r_3 = true := by decide +kernel
theorem kc_4 : okCd r_4 = true := by decide +kernel
theorem kc_5 : okCd r_5 = true := by decide +kernel
theorem kc_6_0 : okCl cL_lays k_6_0 = true := by decide +kernel
theorem kc_6_1 : okCl cL_lays k_6_1 = true := by decide +kernel
theorem kc_6_2 : okCl cL_lays k_6_2 = true := by decide +kernel
theorem kc_6_3 : okCl cL_lays k_6_3 = true := by decide +kernel
theorem kc_6_4 : okCl cL_lays k_6_4 = true := by decide +kernel
theorem kc_6_5 : okCl cL_lays k_6_5 = true := by decide +kernel
theorem kc_6_6 : okCl cL_lays k_6_6 = true := by decide +kernel
theorem kc_6_7 : okCl cL_lays k_6_7 = true := by decide +kernel
theorem kc_6_8 : okCl cL_lays k_6_8 = true := by decide +kernel
theorem kc_6_9 : okCl cL_lays k_6_9 = true := by decide +kernel
theorem kc_6_10 : okCl cL_lays k_6_10 = true := by decide +kernel
theorem kc_6_11 : okCl cL_lays k_6_11 = true := by decide +kernel
theorem kc_6_12 : okCl cL_lays k_6_12 = true := by decide +kernel
theorem kc_6_13 : okCl cL_lays k_6_13 = true := by decide +kernel
theorem kc_6_14 : okCl cL_lays k_6_14 = true := by decide +kernel
theorem kc_6_15 : okCl cL_lays k_6_15 = true := by decide +kernel
theorem kc_6 : okCd r_6 = true := List.all_eq_true.mpr (List.forall_mem_cons.mpr ⟨kc_6_0, List.forall_mem_cons.mpr ⟨kc_6_1, List.forall_mem_cons.mpr ⟨kc_6_2, List.forall_mem_cons.mpr ⟨kc_6_3, List.forall_mem_cons.mpr ⟨kc_6_4, List.forall_mem_cons.mpr ⟨kc_6_5, List.forall_mem_cons.mpr ⟨kc_6_6, List.forall_mem_cons.mpr ⟨kc_6_7, List.forall_mem_cons.mpr ⟨kc_6_8, List.forall_mem_cons.mpr ⟨kc_6_9, List.forall_mem_cons.mpr ⟨kc_6_10, List.forall_mem_cons.mpr ⟨kc_6_11, List.forall_mem_cons.mpr ⟨kc_6_12, List.forall_mem_cons.mpr ⟨kc_6_13, List.forall_mem_cons.mpr ⟨kc_6_14, List.forall_mem_cons.mpr ⟨kc_6_15, fun _ h => absurd h List.not_mem_nil⟩⟩⟩⟩⟩⟩⟩⟩⟩⟩⟩⟩⟩⟩⟩⟩)
theorem kc_7 : okCd r_7 = true := by decide +kernel
theorem kc_8_0 : okCl cL_slid k_8_0 = true := by decide +kernel
theorem kc_8_1 : okCl cL_slid k_8_1 = true := by decide +kernel
theorem kc_8_2 : okCl cL_slid k_8_2 = true := by decide +kernel
theorem kc_8_3 : okCl cL_slid k_8_3 = true := by decide +kernel
theorem kc_8_4 : okCl cL_slid k_8_4 = true := by decide +kernel
theorem kc_8_5 : okCl cL_slid k_8_5 = true := by decide +kernel
theorem kc_8_6 : okCl cL_slid k_8_6 = true := by decide +kernel
theorem kc_8_7 : okCl cL_slid k_8_7 = true := by decide +kernel
theorem kc_8_8 : okCl cL_slid k_8_8 = true := by decide +kernel
theorem kc_8_9 : okCl cL_slid k_8_9 = true := by decide +kernel
theorem kc_8_10 : okCl cL_slid k_8_10 = true := by decide +kernel
theorem kc_8_11 : okCl cL_slid k_8_11 = true := by decide +kernel
theorem kc_8 : okCd r_8 = true := List.all_eq_true.mpr (List.forall_mem_cons.mpr ⟨kc_8_0, List.forall_mem_cons.mpr ⟨kc_8_1, List.forall_mem_cons.mpr ⟨kc_8_2, List.forall_mem_cons.mpr ⟨kc_8_3, List.forall_mem_cons.mpr ⟨kc_8_4, List.forall_mem_cons.mpr ⟨kc_8_5, List.forall_mem_cons.mpr ⟨kc_8_6, List.forall_mem_cons.mpr ⟨kc_8_7, List.forall_mem_cons.mpr ⟨kc_8_8, List.forall_mem_cons.mpr ⟨kc_8_9, List.forall_mem_cons.mpr ⟨kc_8_10, List.forall_mem_cons.mpr ⟨kc_8_11, fun _ h => absurd h List.not_mem_nil⟩⟩⟩⟩⟩⟩⟩⟩⟩⟩⟩⟩)
theorem kc_9 : okCd r_9 = true := by decide +kernel
theorem kc_10 : okCd r_10 = true := by decide +kernel
theorem kc_11_0 : okCl cL_acts k_11_0 = true := by decide +kernel
theorem kc_11_1 : okCl cL_acts k_11_1 = true := by decide +kernel
theorem kc_11_2 : okCl cL_acts k_11_2 = true := by decide +kernel
theorem kc_11_3 : okCl cL_acts k_11_3 = true := by decide +kernel
theorem kc_11_4 : okCl cL_acts k_11_4 = true := by decide +kernel
theorem kc_11_5 : okCl cL_acts k_11_5 = true := by decide +kernel
theorem kc_11_6 : okCl cL_acts k_11_6 = true := by decide +kernel
theorem kc_11 : okCd r_11 = true := List.all_eq_true.mpr (List.forall_mem_cons.mpr ⟨kc_11_0, List.forall_mem_cons.mpr ⟨kc_11_1, List.forall_mem_cons.mpr ⟨kc_11_2, List.forall_mem_cons.mpr ⟨kc_11_3, List.forall_mem_cons.mpr ⟨kc_11_4, List.forall_mem_cons.mpr ⟨kc_11_5, List.forall_mem_cons.mpr ⟨kc_11_6, fun _ h => absurd h List.not_mem_nil⟩⟩⟩⟩⟩⟩⟩)
theorem kc_12 : okCd r_12 = true := by decide +kernel
theorem kc_13_0 : okCl cL_stands k_13_0 = true := by decide +kernel
theorem kc_13_1 : okCl cL_stands k_13_1 = true := by decide +kernel
theorem kc_13_2 : okCl cL_stands k_13_2 = true := by decide +kernel
theorem kc_13_3 : okCl cL_stands k_13_3 = true := by decide +kernel
theorem kc_13_4 : okCl cL_stands k_13_4 = true := by decide +kernel
theorem kc_13_5 : okCl cL_stands k_13_5 = true := by decide +kernel
theorem kc_13_6 : okCl cL_stands k_13_6 = true := by decide +kernel
theorem kc_13_7 : okCl cL_stands k_13_7 = true := by decide +kernel
theorem kc_13_8 : okCl cL_stands k_13_8 = true := by decide +kernel
theorem kc_13_9 : okCl cL_stands k_13_9 = true := by decide +kernel
theorem kc_13_10 : okCl cL_stands k_13_10 = true := by decide +kernel
theorem kc_13_11 : okCl cL_stands k_13_11 = true := by decide +kernel
theorem kc_13_12 : okCl cL_stands k_13_12 = true := by decide +kernel
theorem kc_13 : okCd r_13 = true := List.all_eq_true.mpr (List.forall_mem_cons.mpr ⟨kc_13_0, List.forall_mem_cons.mpr ⟨kc_13_1, List.forall_mem_cons.mpr ⟨kc_13_2, List.forall_mem_cons.mpr ⟨kc_13_3, List.forall_mem_cons.mpr ⟨kc_13_4, List.forall_mem_cons.mpr ⟨kc_13_5, List.forall_mem_cons.mpr ⟨kc_13_6, List.forall_mem_cons.mpr ⟨kc_13_7, List.forall_mem_cons.mpr ⟨kc_13_8, List.forall_mem_cons.mpr ⟨kc_13_9, List.forall_mem_cons.mpr ⟨kc_13_10, List.forall_mem_cons.mpr ⟨kc_13_11, List.forall_mem_cons.mpr ⟨kc_13_12, fun _ h => absurd h List.not_mem_nil⟩⟩⟩⟩⟩⟩⟩⟩⟩⟩⟩⟩⟩)
theorem kc_14_0 : okCl cL_opened k_14_0 = true := by decide +kernel
theorem kc_14_1 : okCl cL_opened k_14_1 = true := by decide +kernel
theorem kc_14_2 : okCl cL_opened k_14_2 = true := by decide +kernel
theorem kc_14_3 : okCl cL_opened k_14_3 = true := by decide +kernel
theorem kc_14_4 : okCl cL_opened k_14_4 = true := by decide +kernel
theorem kc_14_5 : okCl cL_opened k_14_5 = true := by decide +kernel
theorem kc_14_6 : okCl cL_opened k_14_6 = true := by decide +kernel
theorem kc_14_7 : okCl cL_opened k_14_7 = true := by decide +kernel
theorem kc_14_8 : okCl cL_opened k_14_8 = true := by decide +kernel
theorem kc_14_9 : okCl cL_opened k_14_9 = true := by decide +kernel
theorem kc_14_10 : okCl cL_opened k_14_10 = true := by decide +kernel
theorem kc_14_11 : okCl cL_opened k_14_11 = true := by decide +kernel
theorem kc_14_12 : okCl cL_opened k_14_12 = true := by decide +kernel
theorem kc_14 : okCd r_14 = true := List.all_eq_true.mpr (List.forall_mem_cons.mpr ⟨kc_14_0, List.forall_mem_cons.mpr ⟨kc_14_1, List.forall_mem_cons.mpr ⟨kc_14_2, List.forall_mem_cons.mpr ⟨kc_14_3, List.forall_mem_cons.mpr ⟨kc_14_4, List.forall_mem_cons.mpr ⟨kc_14_5, List.forall_mem_cons.mpr ⟨kc_14_6, List.forall_mem_cons.mpr ⟨kc_14_7, List.forall_mem_cons.mpr ⟨kc_14_8, List.forall_mem_cons.mpr ⟨kc_14_9, List.forall_mem_cons.mpr ⟨kc_14_10, List.forall_mem_cons.mpr ⟨kc_14_11, List.forall_mem_cons.mpr ⟨kc_14_12, fun _ h => absurd h List.not_mem_nil⟩⟩⟩⟩⟩⟩⟩⟩⟩⟩⟩⟩⟩)
theorem kc_15_0 : okCl cL_went k_15_0 = true := by decide +kernel
theorem kc_15_1 : okCl cL_went k_15_1 = true := by decide +kernel
theorem kc_15_2 : okCl cL_went k_15_2 = true := by decide +kernel
theorem kc_15_3 : okCl cL_went k_15_3 = true := by decide +kernel
theorem kc_15_4 : okCl cL_went k_15_4 = true := by decide +kernel
theorem kc_15_5 : okCl cL_went k_15_5 = true := by decide +kernel
theorem kc_15_6 : okCl cL_went k_15_6 = true := by decide +kernel
theorem kc_15_7 : okCl cL_went k_15_7 = true := by decide +kernel
theorem kc_15_8 : okCl cL_went k_15_8 = true := by decide +kernel
theorem kc_15_9 : okCl cL_went k_15_9 = true := by decide +kernel
theorem kc_15 : okCd r_15 = true := List.all_eq_true.mpr (List.forall_mem_cons.mpr ⟨kc_15_0, List.forall_mem_cons.mpr ⟨kc_15_1, List.forall_mem_cons.mpr ⟨kc_15_2, List.forall_mem_cons.mpr ⟨kc_15_3, List.forall_mem_cons.mpr ⟨kc_15_4, List.forall_mem_cons.mpr ⟨kc_15_5, List.forall_mem_cons.mpr ⟨kc_15_6, List.forall_mem_cons.mpr ⟨kc_15_7, List.forall_mem_cons.mpr ⟨kc_15_8, List.forall_mem_cons.mpr ⟨kc_15_9, fun _ h => absurd h List.not_mem_nil⟩⟩⟩⟩⟩⟩⟩⟩⟩⟩)
theorem kc_16_0 : okCl cL_filed k_16_0 = true := by decide +kernel
theorem kc_16_1 : okCl cL_filed k_16_1 = true := by decide +kernel
theorem kc_16_2 : okCl cL_filed k_16_2 = true := by decide +kernel
theorem kc_16_3 : okCl cL_filed k_16_3 = true := by decide +kernel
theorem kc_16_4 : okCl cL_filed k_16_4 = true := by decide +kernel
theorem kc_16_5 : okCl cL_filed k_16_5 = true := by decide +kernel
theorem kc_16_6 : okCl cL_filed k_16_6 = true := by decide +kernel
theorem kc_16_7 : okCl cL_filed k_16_7 = true := by decide +kernel
theorem kc_16_8 : okCl cL_filed k_16_8 = true := by decide +kernel
theorem kc_16_9 : okCl cL_filed k_16_9 = true := by decide +kernel
theorem kc_16_10 : okCl cL_filed k_16_10 = true := by decide +kernel
theorem kc_16_11 : okCl cL_filed k_16_11 = true := by decide +kernel
theorem kc_16_12 : okCl cL_filed k_16_12 = true := by decide +kernel
theorem kc_16_13 : okCl cL_filed k_16_13 = true := by decide +kernel
theorem kc_16_14 : okCl cL_filed k_16_14 = true := by decide +kernel
theorem kc_16 : okCd r_16 = true := List.all_eq_true.mpr (List.forall_mem_cons.mpr ⟨kc_16_0, List.forall_mem_cons.mpr ⟨kc_16_1, List.forall_mem_cons.mpr ⟨kc_16_2, List.forall_mem_cons.mpr ⟨kc_16_3, List.forall_mem_cons.mpr ⟨kc_16_4, List.forall_mem_cons.mpr ⟨kc_16_5, List.forall_mem_cons.mpr ⟨kc_16_6, List.forall_mem_cons.mpr ⟨kc_16_7, List.forall_mem_cons.mpr ⟨kc_16_8, List.forall_mem_cons.mpr ⟨kc_16_9, List.forall_mem_cons.mpr ⟨kc_16_10, List.forall_mem_cons.mpr ⟨kc_16_11, List.forall_mem_cons.mpr ⟨kc_16_12, List.forall_mem_cons.mpr ⟨kc_16_13, List.forall_mem_cons.mpr ⟨kc_16_14, fun _ h => absurd h List.not_mem_nil⟩⟩⟩⟩⟩⟩⟩⟩⟩⟩⟩⟩⟩⟩⟩)
theorem kc_17_0 : okCl cL_played k_17_0 = true := by decide +kernel
theorem kc_17_1 : okCl cL_played k_17_1 = true := by decide +kernel
theorem kc_17_2 : okCl cL_played k_17_2 = true := by decide +kernel
theorem kc_17_3 : okCl cL_played k_17_3 = true := by decide +kernel
theorem kc_17_4 : okCl cL_played k_17_4 = true := by decide +kernel
theorem kc_17_5 : okCl cL_played k_17_5 = true := by decide +kernel
theorem kc_17_6 : okCl cL_played k_17_6 = true := by decide +kernel
theorem kc_17_7 : okCl cL_played k_17_7 = true := by decide +kernel
theorem kc_17_8 : okCl cL_played k_17_8 = true := by decide +kernel
theorem kc_17_9 : okCl cL_played k_17_9 = true := by decide +kernel
theorem kc_17_10 : okCl cL_played k_17_10 = true := by decide +kernel
theorem kc_17_11 : okCl cL_played k_17_11 = true := by decide +kernel
theorem kc_17_12 : okCl cL_played k_17_12 = true := by decide +kernel
theorem kc_17_13 : okCl cL_played k_17_13 = true := by decide +kernel
theorem kc_17_14 : okCl cL_played k_17_14 = true := by decide +kernel
theorem kc_17_15 : okCl cL_played k_17_15 = true := by decide +kernel
theorem kc_17_16 : okCl cL_played k_17_16 = true := by decide +kernel
theorem kc_17_17 : okCl cL_played k_17_17 = true := by decide +kernel
theorem kc_17 : okCd r_17 = true := List.all_eq_true.mpr (List.forall_mem_cons.mpr ⟨kc_17_0, List.forall_mem_cons.mpr ⟨kc_17_1, List.forall_mem_cons.mpr ⟨kc_17_2, List.forall_mem_cons.mpr ⟨kc_17_3, List.forall_mem_cons.mpr ⟨kc_17_4, List.forall_mem_cons.mpr ⟨kc_17_5, List.forall_mem_cons.mpr ⟨kc_17_6, List.forall_mem_cons.mpr ⟨kc_17_7, List.forall_mem_cons.mpr ⟨kc_17_8, List.forall_mem_cons.mpr ⟨kc_17_9, List.forall_mem_cons.mpr ⟨kc_17_10, List.forall_mem_cons.mpr ⟨kc_17_11, List.forall_mem_cons.mpr ⟨kc_17_12, List.forall_mem_cons.mpr ⟨kc_17_13, List.forall_mem_cons.mpr ⟨kc_17_14, List.forall_mem_cons.mpr ⟨kc_17_15, List.forall_mem_cons.mpr ⟨kc_17_16, List.forall_mem_cons.mpr ⟨kc_17_17, fun _ h => absurd h List.not_mem_nil⟩⟩⟩⟩⟩⟩⟩⟩⟩⟩⟩⟩⟩⟩⟩⟩⟩⟩)
theorem kc_18_0 : okCl cL_clicked k_18_0 = true := by decide +kernel
theorem kc_18_1 : okCl cL_clicked k_18_1 = true := by decide +kernel
theorem kc_18_2 : okCl cL_clicked k_18_2 = true := by decide +kernel
theorem kc_18_3 : okCl cL_clicked k_18_3 = true := by decide +kernel
theorem kc_18_4 : okCl cL_clicked k_18_4 = true := by decide +kernel
theorem kc_18_5 : okCl cL_clicked k_18_5 = true := by decide +kernel
theorem kc_18_6 : okCl cL_clicked k_18_6 = true := by decide +kernel
theorem kc_18_7 : okCl cL_clicked k_18_7 = true := by decide +kernel
theorem kc_18_8 : okCl cL_clicked k_18_8 = true := by decide +kernel
theorem kc_18_9 : okCl cL_clicked k_18_9 = true := by decide +kernel
theorem kc_18_10 : okCl cL_clicked k_18_10 = true := by decide +kernel
theorem kc_18_11 : okCl cL_clicked k_18_11 = true := by decide +kernel
theorem kc_18_12 : okCl cL_clicked k_18_12 = true := by decide +kernel
theorem kc_18 : okCd r_18 = true := List.all_eq_true.mpr (List.forall_mem_cons.mpr ⟨kc_18_0, List.forall_mem_cons.mpr ⟨kc_18_1, List.forall_mem_cons.mpr ⟨kc_18_2, List.forall_mem_cons.mpr ⟨kc_18_3, List.forall_mem_cons.mpr ⟨kc_18_4, List.forall_mem_cons.mpr ⟨kc_18_5, List.forall_mem_cons.mpr ⟨kc_18_6, List.forall_mem_cons.mpr ⟨kc_18_7, List.forall_mem_cons.mpr ⟨kc_18_8, List.forall_mem_cons.mpr ⟨kc_18_9, List.forall_mem_cons.mpr ⟨kc_18_10, List.forall_mem_cons.mpr ⟨kc_18_11, List.forall_mem_cons.mpr ⟨kc_18_12, fun _ h => absurd h List.not_mem_nil⟩⟩⟩⟩⟩⟩⟩⟩⟩⟩⟩⟩⟩)
theorem kc_19 : okCd r_19 = true := by decide +kernel
theorem kc_20 : okCd r_20 = true := by decide +kernel
theorem kc_21_0 : okCl cX0_becomes k_21_0 = true := by decide +kernel
theorem kc_21_1 : okCl cX0_becomes k_21_1 = true := by decide +kernel
theorem kc_21_2 : okCl cX0_becomes k_21_2 = true := by decide +kernel
theorem kc_21_3 : okCl cX0_becomes k_21_3 = true := by decide +kernel
theorem kc_21_4 : okCl cX0_becomes k_21_4 = true := by decide +kernel
theorem kc_21_5 : okCl cX0_becomes k_21_5 = true := by decide +kernel
theorem kc_21_6 : okCl cX0_becomes k_21_6 = true := by decide +kernel
theorem kc_21 : okCd r_21 = true := List.all_eq_true.mpr (List.forall_mem_cons.mpr ⟨kc_21_0, List.forall_mem_cons.mpr ⟨kc_21_1, List.forall_mem_cons.mpr ⟨kc_21_2, List.forall_mem_cons.mpr ⟨kc_21_3, List.forall_mem_cons.mpr ⟨kc_21_4, List.forall_mem_cons.mpr ⟨kc_21_5, List.forall_mem_cons.mpr ⟨kc_21_6, fun _ h => absurd h List.not_mem_nil⟩⟩⟩⟩⟩⟩⟩)
theorem kc_22 : okCd r_22 = true := by decide +kernel
theorem kc_23 : okCd r_23 = true := by decide +kernel
theorem kc_24 : okCd r_24 = true := by decide +kernel
theorem kc_25 : okCd r_25 = true := by decide +kernel
theorem kc_26 : okCd r_26 = true := by decide +kernel
theorem kc_27 : okCd r_27 = true := by decide +kernel
theorem kc_28 : okCd r_28 = true := by decide +kernel
theorem kc_29 : okCd r_29 = true := by decide +kernel
theorem kc_30 : okCd r_30 = true := by decide +kernel
theorem kc_31 : okCd r_31 = true := by decide +kernel
theorem kc_32 : okCd r_32 = true := by decide +kernel
theorem kc_33 : okCd r_33 = true := by decide +kernel
theorem kc_34 : okCd r_34 = true := by decide +kernel
theorem kc_35 : okCd r_35 = true := by decide +kernel
theorem kc_36 : okCd r_36 = true := by decide +kernel
theorem kc_37 : okCd r_37 = true := by decide +kernel
theorem kc_38 : okCd r_38 = true := by decide +kernel
theorem kc_39 : okCd r_39 = true := by decide +kernel
theorem kc_40 : okCd r_40 = true := by decide +kernel
theorem kc_41 : okCd r_41 = true := by decide +kernel
theorem kc_42 : okCd r_42 = true := by decide +kernel
theorem kc_43 : okCd r_43 = true := by decide +kernel
theorem kc_44 : okCd r_44 = true := by decide +kernel
theorem kc_45 : okCd r_45 = true := by decide +kernel
theorem kc_46 : okCd r_46 = true := by decide +kernel
theorem kc_47 : okCd r_47 = true := by decide +kernel
theorem kc_48 : okCd r_48 = true := by decide +kernel
theorem kc_49 : okCd r_49 = true := by decide +kernel
theorem kc_50 : okCd r_50 = true := by decide +kernel
theorem kc_51 : okCd r_51 = true := by decide +kernel
theorem kc_52 : okCd r_52 = true := by decide +kernel
theorem kc_53 : okCd r_53 = true := by decide +kernel
theorem kc_54 : okCd r_54 = true := by decide +kernel
theorem kc_55 : okCd r_55 = true := by decide +kernel
theorem kc_56 : okCd r_56 = true := by decide +kernel
theorem kc_57 : okCd r_57 = true := by decide +kernel
theorem kc_58 : okCd r_58 = true := by decide +kernel
theorem kc_59 : okCd r_59 = true := by decide +kernel
theorem kc_60 : okCd r_60 = true := by decide +kernel
theorem kc_61 : okCd r_61 = true := by decide +kernel
theorem kc_62 : okCd r_62 = true := by decide +kernel
theorem kc_63 : okCd r_63 = true := by decide +kernel
theorem kc_64 : okCd r_64 = true := by decide +kernel
theorem kc_65 : okCd r_65 = true := by decide +kernel
theorem kc_66 : okCd r_66 = true := by decide +kernel
theorem kc_67 : okCd r_67 = true := by decide +kernel
theorem kc_68 : okCd r_68 = true := by decide +kernel
theorem kc_69 : okCd r_69 = true := by decide +kernel
theorem kc_70 : okCd r_70 = true := by decide +kernel
theorem kc_71 : okCd r_71 = true := by decide +kernel
theorem kc_72 : okCd r_72 = true := by decide +kernel
theorem kc_73 : okCd r_73 = true := by decide +kernel
theorem kc_74 : okCd r_74 = true := by decide +kernel
theorem kc_75 : okCd r_75 = true := by decide +kernel
theorem kc_76 : okCd r_76 = true := by decide +kernel
theorem kc_77 : okCd r_77 = true := by decide +kernel
theorem kc_78 : okCd r_78 = true := by decide +kernel
theorem kc_79 : okCd r_79 = true := by decide +kernel
theorem kc_80 : okCd r_80 = true := by decide +kernel
theorem kc_81 : okCd r_81 = true := by decide +kernel
theorem kc_82 : okCd r_82 = true := by decide +kernel
theorem kc_83 : okCd r_83 = true := by decide +kernel
theorem kc_84 : okCd r_84 = true := by decide +kernel
theorem kc_85 : okCd r_85 = true := by decide +kernel
theorem kc_86 : okCd r_86 = true := by decide +kernel
theorem kc_87 : okCd r_87 = true := by decide +kernel
theorem kc_88 : okCd r_88 = true := by decide +kernel
theorem kc_89 : okCd r_89 = true := by decide +kernel
theorem kc_90 : okCd r_90 = true := by decide +kernel
theorem kc_91 : okCd r_91 = true := by decide +kernel
theorem kc_92 : okCd r_92 = true := by decide +kernel
theorem kc_93 : okCd r_93 = true := by decide +kernel
theorem kc_94 : okCd r_94 = true := by decide +kernel
theorem kc_95 : okCd r_95 = true := by decide +kernel
theorem kc_96 : okCd r_96 = true := by decide +kernel
theorem kc_97 : okCd r_97 = true := by decide +kernel
theorem kc_98 : okCd r_98 = true := by decide +kernel
theorem kc_99 : okCd r_99 = true := by decide +kernel
theorem kc_100 : okCd r_100 = true := by decide +kernel
theorem kc_101 : okCd r_101 = true := by decide +kernel
theorem kc_102 : okCd r_102 = true := by decide +kernel
theorem kc_103 : okCd r_103 = true := by decide +kernel
theorem kc_104 : okCd r_104 = true := by decide +kernel
theorem kc_105 : okCd r_105 = true := by decide +kernel
theorem kc_106 : okCd r_106 = true := by decide +kernel
theorem kc_107 : okCd r_107 = true := by decide +kernel
theorem kc_108 : okCd r_108 = true := by decide +kernel
theorem kc_109 : okCd r_109 = true := by decide +kernel
theorem kc_110 : okCd r_110 = true := by decide +kernel
theorem kc_111 : okCd r_111 = true := by decide +kernel
theorem kc_112 : okCd r_112 = true := by decide +kernel
theorem kc_113 : okCd r_113 = true := by decide +kernel
theorem kc_114 : okCd r_114 = true := by decide +kernel
theorem kc_115 : okCd r_115 = true := by decide +kernel
theorem kc_all (M : Nat) : okCd (MRT M) = true := (bif_p (P := fun r => okCd r = true) (bif_p (P := fun r => okCd r = true) (bif_p (P := fun r => okCd r = true) (bif_p (P := fun r => okCd r = true) (bif_p (P := fun r => okCd r = true) (bif_p (P := fun r => okCd r = true) kc_0 (bif_p (P := fun r => okCd r = true) kc_1 kc_2)) (bif_p (P := fun r => okCd r = true) (bif_p (P := fun r => okCd r = true) kc_3 kc_4) (bif_p (P := fun r => okCd r = true) kc_5 kc_6))) (bif_p (P := fun r => okCd r = true) (bif_p (P := fun r => okCd r = true) kc_7 (bif_p (P := fun r => okCd r = true) kc_8 kc_9)) (bif_p (P := fun r => okCd r = true) (bif_p (P := fun r => okCd r = true) kc_10 kc_11) (bif_p (P := fun r => okCd r = true) kc_12 kc_13)))) (bif_p (P := fun r => okCd r = true) (bif_p (P := fun r => okCd r = true) (bif_p (P := fun r => okCd r = true) kc_14 (bif_p (P := fun r => okCd r = true) kc_15 kc_16)) (bif_p (P := fun r => okCd r = true) (bif_p (P := fun r => okCd r = true) kc_17 kc_18) (bif_p (P := fun r => okCd r = true) kc_19 kc_20))) (bif_p (P := fun r => okCd r = true) (bif_p (P := fun r => okCd r = true) (bif_p (P := fun r => okCd r = true) kc_21 kc_22) (bif_p (P := fun r => okCd r = true) kc_23 kc_24)) (bif_p (P := fun r => okCd r = true) (bif_p (P := fun r => okCd r = true) kc_25 kc_26) (bif_p (P := fun r => okCd r = true) kc_27 kc_28))))) (bif_p (P := fun r => okCd r = true) (bif_p (P := fun r => okCd r = true) (bif_p (P := fun r => okCd r = true) (bif_p (P := fun r => okCd r = true) kc_29 (bif_p (P := fun r => okCd r = true) kc_30 kc_31)) (bif_p (P := fun r => okCd r = true) (bif_p (P := fun r => okCd r = true) kc_32 kc_33) (bif_p (P := fun r => okCd r = true) kc_34 kc_35))) (bif_p (P := fun r => okCd r = true) (bif_p (P := fun r => okCd r = true) kc_36 (bif_p (P := fun r => okCd r = true) kc_37 kc_38)) (bif_p (P := fun r => okCd r = true) (bif_p (P := fun r => okCd r = true) kc_39 kc_40) (bif_p (P := fun r => okCd r = true) kc_41 kc_42)))) (bif_p (P := fun r => okCd r = true) (bif_p (P := fun r => okCd r = true) (bif_p (P := fun r => okCd r = true) kc_43 (bif_p (P := fun r => okCd r = true) kc_44 kc_45)) (bif_p (P := fun r => okCd r = true) (bif_p (P := fun r => okCd r = true) kc_46 kc_47) (bif_p (P := fun r => okCd r = true) kc_48 kc_49))) (bif_p (P := fun r => okCd r = true) (bif_p (P := fun r => okCd r = true) (bif_p (P := fun r => okCd r = true) kc_50 kc_51) (bif_p (P := fun r => okCd r = true) kc_52 kc_53)) (bif_p (P := fun r => okCd r = true) (bif_p (P := fun r => okCd r = true) kc_54 kc_55) (bif_p (P := fun r => okCd r = true) kc_56 kc_57)))))) (bif_p (P := fun r => okCd r = true) (bif_p (P := fun r => okCd r = true) (bif_p (P := fun r => okCd r = true) (bif_p (P := fun r => okCd r = true) (bif_p (P := fun r => okCd r = true) kc_58 (bif_p (P := fun r => okCd r = true) kc_59 kc_60)) (bif_p (P := fun r => okCd r = true) (bif_p (P := fun r => okCd r = true) kc_61 kc_62) (bif_p (P := fun r => okCd r = true) kc_63 kc_64))) (bif_p (P := fun r => okCd r = true) (bif_p (P := fun r => okCd r = true) kc_65 (bif_p (P := fun r => okCd r = true) kc_66 kc_67)) (bif_p (P := fun r => okCd r = true) (bif_p (P := fun r => okCd r = true) kc_68 kc_69) (bif_p (P := fun r => okCd r = true) kc_70 kc_71)))) (bif_p (P := fun r => okCd r = true) (bif_p (P := fun r => okCd r = true) (bif_p (P := fun r => okCd r = true) kc_72 (bif_p (P := fun r => okCd r = true) kc_73 kc_74)) (bif_p (P := fun r => okCd r = true) (bif_p (P := fun r => okCd r = true) kc_75 kc_76) (bif_p (P := fun r => okCd r = true) kc_77 kc_78))) (bif_p (P := fun r => okCd r = true) (bif_p (P := fun r => okCd r = true) (bif_p (P := fun r => okCd r = true) kc_79 kc_80) (bif_p (P := fun r => okCd r = true) kc_81 kc_82)) (bif_p (P := fun r => okCd r = true) (bif_p (P := fun r => okCd r = true) kc_83 kc_84) (bif_p (P := fun r => okCd r = true) kc_85 kc_86))))) (bif_p (P := fun r => okCd r = true) (bif_p (P := fun r => okCd r = true) (bif_p (P := fun r => okCd r = true) (bif_p (P := fun r => okCd r = true) kc_87 (bif_p (P := fun r => okCd r = true) kc_88 kc_89)) (bif_p (P := fun r => okCd r = true) (bif_p (P := fun r => okCd r = true) kc_90 kc_91) (bif_p (P := fun r => okCd r = true) kc_92 kc_93))) (bif_p (P := fun r => okCd r = true) (bif_p (P := fun r => okCd r = true) kc_94 (bif_p (P := fun r => okCd r = true) kc_95 kc_96)) (bif_p (P := fun r => okCd r = true) (bif_p (P := fun r => okCd r = true) kc_97 kc_98) (bif_p (P := fun r => okCd r = true) kc_99 kc_100)))) (bif_p (P := fun r => okCd r = true) (bif_p (P := fun r => okCd r = true) (bif_p (P := fun r => okCd r = true) kc_101 (bif_p (P := fun r => okCd r = true) kc_102 kc_103)) (bif_p (P := fun r => okCd r = true) (bif_p (P := fun r => okCd r = true) kc_104 kc_105) (bif_p (P := fun r => okCd r = true) kc_106 kc_107))) (bif_p (P := fun r => okCd r = true) (bif_p (P := fun r => okCd r = true) (bif_p (P := fun r => okCd r = true) kc_108 kc_109) (bif_p (P := fun r => okCd r = true) kc_110 kc_111)) (bif_p (P := fun r => okCd r = true) (bif_p (P := fun r => okCd r = true) kc_112 kc_113) (bif_p (P := fun r => okCd r = true) kc_114 kc_115)))))))
theorem km_2 : okMr r_2 (602, 23) = true := by decide +kernel
theorem km_3 : okMr r_3 (371, 23) = true := by decide +kernel
theorem km_4 : okMr r_4 (387, 23) = true := by decide +kernel
theorem km_5 : okMr r_5 (390, 23) = true := by decide +kernel
theorem km_6 : okMr r_6 (376, 23) = true := by decide +kernel
theorem km_7 : okMr r_7 (549, 23) = true := by decide +kernel
theorem km_8 : okMr r_8 (574, 23) = true := by decide +kernel
theorem km_9 : okMr r_9 (552, 23) = true := by decide +kernel
theorem km_10 : okMr r_10 (546, 23) = true := by decide +kernel
theorem km_11 : okMr r_11 (543, 23) = true := by decide +kernel
theorem km_12 : okMr r_12 (584, 23) = true := by decide +kernel
theorem km_13 : okMr r_13 (594, 23) = true := by decide +kernel
theorem km_14 : okMr r_14 (605, 23) = true := by decide +kernel
theorem km_15 : okMr r_15 (687, 23) = true := by decide +kernel
theorem km_16 : okMr r_16 (744, 23) = true := by decide +kernel
theorem km_17 : okMr r_17 (759, 23) = true := by decide +kernel
theorem km_18 : okMr r_18 (798, 23) = true := by decide +kernel
theorem km_19 : okMr r_19 (822, 23) = true := by decide +kernel
theorem km_20 : okMr r_20 (402, 25) = true := by decide +kernel
theorem km_21 : okMr r_21 (361, 25) = true := by decide +kernel
theorem km_22 : okMr r_22 (284, 25) = true := by decide +kernel
theorem km_23 : okMr r_23 (571, 25) = true := by decide +kernel
theorem km_24 : okMr r_24 (517, 25) = true := by decide +kernel
theorem km_25 : okMr r_25 (539, 25) = true := by decide +kernel
theorem km_26 : okMr r_26 (318, 25) = true := by decide +kernel
theorem km_27 : okMr r_27 (280, 25) = true := by decide +kernel
theorem km_28 : okMr r_28 (294, 25) = true := by decide +kernel
theorem km_29 : okMr r_29 (298, 25) = true := by decide +kernel
theorem km_30 : okMr r_30 (302, 25) = true := by decide +kernel
theorem km_31 : okMr r_31 (306, 25) = true := by decide +kernel
theorem km_32 : okMr r_32 (310, 25) = true := by decide +kernel
theorem km_33 : okMr r_33 (314, 25) = true := by decide +kernel
theorem km_34 : okMr r_34 (337, 25) = true := by decide +kernel
theorem km_35 : okMr r_35 (341, 25) = true := by decide +kernel
theorem km_36 : okMr r_36 (326, 25) = true := by decide +kernel
theorem km_37 : okMr r_37 (406, 25) = true := by decide +kernel
theorem km_38 : okMr r_38 (330, 25) = true := by decide +kernel
theorem km_39 : okMr r_39 (349, 25) = true := by decide +kernel
theorem km_40 : okMr r_40 (725, 25) = true := by decide +kernel
theorem km_41 : okMr r_41 (621, 25) = true := by decide +kernel
theorem km_42 : okMr r_42 (674, 28) = true := by decide +kernel
theorem km_43 : okMr r_43 (678, 28) = true := by decide +kernel
theorem km_44 : okMr r_44 (684, 28) = true := by decide +kernel
theorem km_45 : okMr r_45 (670, 28) = true := by decide +kernel
theorem km_46 : okMr r_46 (767, 28) = true := by decide +kernel
theorem km_47 : okMr r_47 (771, 28) = true := by decide +kernel
theorem km_48 : okMr r_48 (775, 28) = true := by decide +kernel
theorem km_49 : okMr r_49 (779, 28) = true := by decide +kernel
theorem km_50 : okMr r_50 (701, 29) = true := by decide +kernel
theorem km_51 : okMr r_51 (741, 29) = true := by decide +kernel
theorem km_52 : okMr r_52 (713, 29) = true := by decide +kernel
theorem km_53 : okMr r_53 (709, 29) = true := by decide +kernel
theorem km_54 : okMr r_54 (729, 29) = true := by decide +kernel
theorem km_55 : okMr r_55 (717, 29) = true := by decide +kernel
theorem km_56 : okMr r_56 (384, 26) = true := by decide +kernel
theorem km_57 : okMr r_57 (398, 26) = true := by decide +kernel
theorem km_58 : okMr r_58 (410, 26) = true := by decide +kernel
theorem km_59 : okMr r_59 (525, 26) = true := by decide +kernel
theorem km_60 : okMr r_60 (529, 26) = true := by decide +kernel
theorem km_61 : okMr r_61 (535, 26) = true := by decide +kernel
theorem km_62 : okMr r_62 (418, 26) = true := by decide +kernel
theorem km_63 : okMr r_63 (521, 26) = true := by decide +kernel
theorem km_64 : okMr r_64 (414, 26) = true := by decide +kernel
theorem km_65 : okMr r_65 (423, 26) = true := by decide +kernel
theorem km_66 : okMr r_66 (513, 26) = true := by decide +kernel
theorem km_67 : okMr r_67 (613, 27) = true := by decide +kernel
theorem km_68 : okMr r_68 (617, 27) = true := by decide +kernel
theorem km_69 : okMr r_69 (625, 27) = true := by decide +kernel
theorem km_70 : okMr r_70 (632, 27) = true := by decide +kernel
theorem km_71 : okMr r_71 (636, 27) = true := by decide +kernel
theorem km_72 : okMr r_72 (649, 27) = true := by decide +kernel
theorem km_73 : okMr r_73 (641, 27) = true := by decide +kernel
theorem km_74 : okMr r_74 (666, 27) = true := by decide +kernel
theorem km_75 : okMr r_75 (646, 27) = true := by decide +kernel
theorem km_76 : okMr r_76 (657, 27) = true := by decide +kernel
theorem km_77 : okMr r_77 (590, 24) = true := by decide +kernel
theorem km_78 : okMr r_78 (598, 24) = true := by decide +kernel
theorem km_79 : okMr r_79 (380, 24) = true := by decide +kernel
theorem km_80 : okMr r_80 (394, 24) = true := by decide +kernel
theorem km_81 : okMr r_81 (276, 24) = true := by decide +kernel
theorem km_82 : okMr r_82 (578, 24) = true := by decide +kernel
theorem km_83 : okMr r_83 (556, 24) = true := by decide +kernel
theorem km_84 : okMr r_84 (567, 24) = true := by decide +kernel
theorem km_85 : okMr r_85 (322, 24) = true := by decide +kernel
theorem km_86 : okMr r_86 (345, 24) = true := by decide +kernel
theorem km_87 : okMr r_87 (353, 24) = true := by decide +kernel
theorem km_88 : okMr r_88 (609, 24) = true := by decide +kernel
theorem km_89 : okMr r_89 (653, 24) = true := by decide +kernel
theorem km_90 : okMr r_90 (662, 24) = true := by decide +kernel
theorem km_91 : okMr r_91 (748, 24) = true := by decide +kernel
theorem km_92 : okMr r_92 (756, 24) = true := by decide +kernel
theorem km_93 : okMr r_93 (763, 24) = true := by decide +kernel
theorem km_94 : okMr r_94 (784, 24) = true := by decide +kernel
theorem km_95 : okMr r_95 (357, 24) = true := by decide +kernel
theorem km_96 : okMr r_96 (368, 24) = true := by decide +kernel
theorem km_97 : okMr r_97 (721, 24) = true := by decide +kernel
theorem km_98 : okMr r_98 (802, 24) = true := by decide +kernel
theorem km_99 : okMr r_99 (733, 24) = true := by decide +kernel
theorem km_100 : okMr r_100 (691, 24) = true := by decide +kernel
theorem km_101 : okMr r_101 (737, 24) = true := by decide +kernel
theorem km_102 : okMr r_102 (705, 24) = true := by decide +kernel
theorem km_103 : okMr r_103 (290, 24) = true := by decide +kernel
theorem km_104 : okMr r_104 (287, 24) = true := by decide +kernel
theorem km_105 : okMr r_105 (694, 24) = true := by decide +kernel
theorem km_106 : okMr r_106 (697, 24) = true := by decide +kernel
theorem km_107 : okMr r_107 (752, 24) = true := by decide +kernel
theorem km_108 : okMr r_108 (791, 24) = true := by decide +kernel
theorem km_109 : okMr r_109 (788, 24) = true := by decide +kernel
theorem km_110 : okMr r_110 (795, 24) = true := by decide +kernel
theorem km_111 : okMr r_111 (806, 24) = true := by decide +kernel
theorem km_112 : okMr r_112 (815, 24) = true := by decide +kernel
theorem km_113 : okMr r_113 (819, 24) = true := by decide +kernel
theorem km_114 : okMr r_114 (812, 24) = true := by decide +kernel
theorem km_115 : okMr r_115 (559, 37) = true := by decide +kernel
def isM (r : MR) : Prop := r.2.1 = yL_law ∨ ∃ p, okMr r p = true
theorem km_all (M : Nat) : isM (MRT M) := (bif_p (P := isM) (bif_p (P := isM) (bif_p (P := isM) (bif_p (P := isM) (bif_p (P := isM) (bif_p (P := isM) (Or.inl rfl) (bif_p (P := isM) (Or.inl rfl) (Or.inr ⟨_, km_2⟩))) (bif_p (P := isM) (bif_p (P := isM) (Or.inr ⟨_, km_3⟩) (Or.inr ⟨_, km_4⟩)) (bif_p (P := isM) (Or.inr ⟨_, km_5⟩) (Or.inr ⟨_, km_6⟩)))) (bif_p (P := isM) (bif_p (P := isM) (Or.inr ⟨_, km_7⟩) (bif_p (P := isM) (Or.inr ⟨_, km_8⟩) (Or.inr ⟨_, km_9⟩))) (bif_p (P := isM) (bif_p (P := isM) (Or.inr ⟨_, km_10⟩) (Or.inr ⟨_, km_11⟩)) (bif_p (P := isM) (Or.inr ⟨_, km_12⟩) (Or.inr ⟨_, km_13⟩))))) (bif_p (P := isM) (bif_p (P := isM) (bif_p (P := isM) (Or.inr ⟨_, km_14⟩) (bif_p (P := isM) (Or.inr ⟨_, km_15⟩) (Or.inr ⟨_, km_16⟩))) (bif_p (P := isM) (bif_p (P := isM) (Or.inr ⟨_, km_17⟩) (Or.inr ⟨_, km_18⟩)) (bif_p (P := isM) (Or.inr ⟨_, km_19⟩) (Or.inr ⟨_, km_20⟩)))) (bif_p (P := isM) (bif_p (P := isM) (bif_p (P := isM) (Or.inr ⟨_, km_21⟩) (Or.inr ⟨_, km_22⟩)) (bif_p (P := isM) (Or.inr ⟨_, km_23⟩) (Or.inr ⟨_, km_24⟩))) (bif_p (P := isM) (bif_p (P := isM) (Or.inr ⟨_, km_25⟩) (Or.inr ⟨_, km_26⟩)) (bif_p (P := isM) (Or.inr ⟨_, km_27⟩) (Or.inr ⟨_, km_28⟩)))))) (bif_p (P := isM) (bif_p (P := isM) (bif_p (P := isM) (bif_p (P := isM) (Or.inr ⟨_, km_29⟩) (bif_p (P := isM) (Or.inr ⟨_, km_30⟩) (Or.inr ⟨_, km_31⟩))) (bif_p (P := isM) (bif_p (P := isM) (Or.inr ⟨_, km_32⟩) (Or.inr ⟨_, km_33⟩)) (bif_p (P := isM) (Or.inr ⟨_, km_34⟩) (Or.inr ⟨_, km_35⟩)))) (bif_p (P := isM) (bif_p (P := isM) (Or.inr ⟨_, km_36⟩) (bif_p (P := isM) (Or.inr ⟨_, km_37⟩) (Or.inr ⟨_, km_38⟩))) (bif_p (P := isM) (bif_p (P := isM) (Or.inr ⟨_, km_39⟩) (Or.inr ⟨_, km_40⟩)) (bif_p (P := isM) (Or.inr ⟨_, km_41⟩) (Or.inr ⟨_, km_42⟩))))) (bif_p (P := isM) (bif_p (P := isM) (bif_p (P := isM) (Or.inr ⟨_, km_43⟩) (bif_p (P := isM) (Or.inr ⟨_, km_44⟩) (Or.inr ⟨_, km_45⟩))) (bif_p (P := isM) (bif_p (P := isM) (Or.inr ⟨_, km_46⟩) (Or.inr ⟨_, km_47⟩)) (bif_p (P := isM) (Or.inr ⟨_, km_48⟩) (Or.inr ⟨_, km_49⟩)))) (bif_p (P := isM) (bif_p (P := isM) (bif_p (P := isM) (Or.inr ⟨_, km_50⟩) (Or.inr ⟨_, km_51⟩)) (bif_p (P := isM) (Or.inr ⟨_, km_52⟩) (Or.inr ⟨_, km_53⟩))) (bif_p (P := isM) (bif_p (P := isM) (Or.inr ⟨_, km_54⟩) (Or.inr ⟨_, km_55⟩)) (bif_p (P := isM) (Or.inr ⟨_, km_56⟩) (Or.inr ⟨_, km_57⟩))))))) (bif_p (P := isM) (bif_p (P := isM) (bif_p (P := isM) (bif_p (P := isM) (bif_p (P := isM) (Or.inr ⟨_, km_58⟩) (bif_p (P := isM) (Or.inr ⟨_, km_59⟩) (Or.inr ⟨_, km_60⟩))) (bif_p (P := isM) (bif_p (P := isM) (Or.inr ⟨_, km_61⟩) (Or.inr ⟨_, km_62⟩)) (bif_p (P := isM) (Or.inr ⟨_, km_63⟩) (Or.inr ⟨_, km_64⟩)))) (bif_p (P := isM) (bif_p (P := isM) (Or.inr ⟨_, km_65⟩) (bif_p (P := isM) (Or.inr ⟨_, km_66⟩) (Or.inr ⟨_, km_67⟩))) (bif_p (P := isM) (bif_p (P := isM) (Or.inr ⟨_, km_68⟩) (Or.inr ⟨_, km_69⟩)) (bif_p (P := isM) (Or.inr ⟨_, km_70⟩) (Or.inr ⟨_, km_71⟩))))) (bif_p (P := isM) (bif_p (P := isM) (bif_p (P := isM) (Or.inr ⟨_, km_72⟩) (bif_p (P := isM) (Or.inr ⟨_, km_73⟩) (Or.inr ⟨_, km_74⟩))) (bif_p (P := isM) (bif_p (P := isM) (Or.inr ⟨_, km_75⟩) (Or.inr ⟨_, km_76⟩)) (bif_p (P := isM) (Or.inr ⟨_, km_77⟩) (Or.inr ⟨_, km_78⟩)))) (bif_p (P := isM) (bif_p (P := isM) (bif_p (P := isM) (Or.inr ⟨_, km_79⟩) (Or.inr ⟨_, km_80⟩)) (bif_p (P := isM) (Or.inr ⟨_, km_81⟩) (Or.inr ⟨_, km_82⟩))) (bif_p (P := isM) (bif_p (P := isM) (Or.inr ⟨_, km_83⟩) (Or.inr ⟨_, km_84⟩)) (bif_p (P := isM) (Or.inr ⟨_, km_85⟩) (Or.inr ⟨_, km_86⟩)))))) (bif_p (P := isM) (bif_p (P := isM) (bif_p (P := isM) (bif_p (P := isM) (Or.inr ⟨_, km_87⟩) (bif_p (P := isM) (Or.inr ⟨_, km_88⟩) (Or.inr ⟨_, km_89⟩))) (bif_p (P := isM) (bif_p (P := isM) (Or.inr ⟨_, km_90⟩) (Or.inr ⟨_, km_91⟩)) (bif_p (P := isM) (Or.inr ⟨_, km_92⟩) (Or.inr ⟨_, km_93⟩)))) (bif_p (P := isM) (bif_p (P := isM) (Or.inr ⟨_, km_94⟩) (bif_p (P := isM) (Or.inr ⟨_, km_95⟩) (Or.inr ⟨_, km_96⟩))) (bif_p (P := isM) (bif_p (P := isM) (Or.inr ⟨_, km_97⟩) (Or.inr ⟨_, km_98⟩)) (bif_p (P := isM) (Or.inr ⟨_, km_99⟩) (Or.inr ⟨_, km_100⟩))))) (bif_p (P := isM) (bif_p (P := isM) (bif_p (P := isM) (Or.inr ⟨_, km_101⟩) (bif_p (P := isM) (Or.inr ⟨_, km_102⟩) (Or.inr ⟨_, km_103⟩))) (bif_p (P := isM) (bif_p (P := isM) (Or.inr ⟨_, km_104⟩) (Or.inr ⟨_, km_105⟩)) (bif_p (P := isM) (Or.inr ⟨_, km_106⟩) (Or.inr ⟨_, km_107⟩)))) (bif_p (P := isM) (bif_p (P := isM) (bif_p (P := isM) (Or.inr ⟨_, km_108⟩) (Or.inr ⟨_, km_109⟩)) (bif_p (P := isM) (Or.inr ⟨_, km_110⟩) (Or.inr ⟨_, km_111⟩))) (bif_p (P := isM) (bif_p (P := isM) (Or.inr ⟨_, km_112⟩) (Or.inr ⟨_, km_113⟩)) (bif_p (P := isM) (Or.inr ⟨_, km_114⟩) (Or.inr ⟨_, km_115⟩))))))))
theorem ml_all (M : Nat) : Nat.ble (MRT M).2.2.2.1 40 = true := (bif_p (P := fun r : MR => Nat.ble r.2.2.2.1 40 = true) (bif_p (P := fun r : MR => Nat.ble r.2.2.2.1 40 = true) (bif_p (P := fun r : MR => Nat.ble r.2.2.2.1 40 = true) (bif_p (P := fun r : MR => Nat.ble r.2.2.2.1 40 = true) (bif_p (P := fun r : MR => Nat.ble r.2.2.2.1 40 = true) (bif_p (P := fun r : MR => Nat.ble r.2.2.2.1 40 = true) rfl (bif_p (P := fun r : MR => Nat.ble r.2.2.2.1 40 = true) rfl rfl)) (bif_p (P := fun r : MR => Nat.ble r.2.2.2.1 40 = true) (bif_p (P := fun r : MR => Nat.ble r.2.2.2.1 40 = true) rfl rfl) (bif_p (P := fun r : MR => Nat.ble r.2.2.2.1 40 = true) rfl rfl))) (bif_p (P := fun r : MR => Nat.ble r.2.2.2.1 40 = true) (bif_p (P := fun r : MR => Nat.ble r.2.2.2.1 40 = true) rfl (bif_p (P := fun r : MR => Nat.ble r.2.2.2.1 40 = true) rfl rfl)) (bif_p (P := fun r : MR => Nat.ble r.2.2.2.1 40 = true) (bif_p (P := fun r : MR => Nat.ble r.2.2.2.1 40 = true) rfl rfl) (bif_p (P := fun r : MR => Nat.ble r.2.2.2.1 40 = true) rfl rfl)))) (bif_p (P := fun r : MR => Nat.ble r.2.2.2.1 40 = true) (bif_p (P := fun r : MR => Nat.ble r.2.2.2.1 40 = true) (bif_p (P := fun r : MR => Nat.ble r.2.2.2.1 40 = true) rfl (bif_p (P := fun r : MR => Nat.ble r.2.2.2.1 40 = true) rfl rfl)) (bif_p (P := fun r : MR => Nat.ble r.2.2.2.1 40 = true) (bif_p (P := fun r : MR => Nat.ble r.2.2.2.1 40 = true) rfl rfl) (bif_p (P := fun r : MR => Nat.ble r.2.2.2.1 40 = true) rfl rfl))) (bif_p (P := fun r : MR => Nat.ble r.2.2.2.1 40 = true) (bif_p (P := fun r : MR => Nat.ble r.2.2.2.1 40 = true) (bif_p (P := fun r : MR => Nat.ble r.2.2.2.1 40 = true) rfl rfl) (bif_p (P := fun r : MR => Nat.ble r.2.2.2.1 40 = true) rfl rfl)) (bif_p (P := fun r : MR => Nat.ble r.2.2.2.1 40 = true) (bif_p (P := fun r : MR => Nat.ble r.2.2.2.1 40 = true) rfl rfl) (bif_p (P := fun r : MR => Nat.ble r.2.2.2.1 40 = true) rfl rfl))))) (bif_p (P := fun r : MR => Nat.ble r.2.2.2.1 40 = true) (bif_p (P := fun r : MR => Nat.ble r.2.2.2.1 40 = true) (bif_p (P := fun r : MR => Nat.ble r.2.2.2.1 40 = true) (bif_p (P := fun r : MR => Nat.ble r.2.2.2.1 40 = true) rfl (bif_p (P := fun r : MR => Nat.ble r.2.2.2.1 40 = true) rfl rfl)) (bif_p (P := fun r : MR => Nat.ble r.2.2.2.1 40 = true) (bif_p (P := fun r : MR => Nat.ble r.2.2.2.1 40 = true) rfl rfl) (bif_p (P := fun r : MR => Nat.ble r.2.2.2.1 40 = true) rfl rfl))) (bif_p (P := fun r : MR => Nat.ble r.2.2.2.1 40 = true) (bif_p (P := fun r : MR => Nat.ble r.2.2.2.1 40 = true) rfl (bif_p (P := fun r : MR => Nat.ble r.2.2.2.1 40 = true) rfl rfl)) (bif_p (P := fun r : MR => Nat.ble r.2.2.2.1 40 = true) (bif_p (P := fun r : MR => Nat.ble r.2.2.2.1 40 = true) rfl rfl) (bif_p (P := fun r : MR => Nat.ble r.2.2.2.1 40 = true) rfl rfl)))) (bif_p (P := fun r : MR => Nat.ble r.2.2.2.1 40 = true) (bif_p (P := fun r : MR => Nat.ble r.2.2.2.1 40 = true) (bif_p (P := fun r : MR => Nat.ble r.2.2.2.1 40 = true) rfl (bif_p (P := fun r : MR => Nat.ble r.2.2.2.1 40 = true) rfl rfl)) (bif_p (P := fun r : MR => Nat.ble r.2.2.2.1 40 = true) (bif_p (P := fun r : MR => Nat.ble r.2.2.2.1 40 = true) rfl rfl) (bif_p (P := fun r : MR => Nat.ble r.2.2.2.1 40 = true) rfl rfl))) (bif_p (P := fun r : MR => Nat.ble r.2.2.2.1 40 = true) (bif_p (P := fun r : MR => Nat.ble r.2.2.2.1 40 = true) (bif_p (P := fun r : MR => Nat.ble r.2.2.2.1 40 = true) rfl rfl) (bif_p (P := fun r : MR => Nat.ble r.2.2.2.1 40 = true) rfl rfl)) (bif_p (P := fun r : MR => Nat.ble r.2.2.2.1 40 = true) (bif_p (P := fun r : MR => Nat.ble r.2.2.2.1 40 = true) rfl rfl) (bif_p (P := fun r : MR => Nat.ble r.2.2.2.1 40 = true) rfl rfl)))))) (bif_p (P := fun r : MR => Nat.ble r.2.2.2.1 40 = true) (bif_p (P := fun r : MR => Nat.ble r.2.2.2.1 40 = true) (bif_p (P := fun r : MR => Nat.ble r.2.2.2.1 40 = true) (bif_p (P := fun r : MR => Nat.ble r.2.2.2.1 40 = true) (bif_p (P := fun r : MR => Nat.ble r.2.2.2.1 40 = true) rfl (bif_p (P := fun r : MR => Nat.ble r.2.2.2.1 40 = true) rfl rfl)) (bif_p (P := fun r : MR => Nat.ble r.2.2.2.1 40 = true) (bif_p (P := fun r : MR => Nat.ble r.2.2.2.1 40 = true) rfl rfl) (bif_p (P := fun r : MR => Nat.ble r.2.2.2.1 40 = true) rfl rfl))) (bif_p (P := fun r : MR => Nat.ble r.2.2.2.1 40 = true) (bif_p (P := fun r : MR => Nat.ble r.2.2.2.1 40 = true) rfl (bif_p (P := fun r : MR => Nat.ble r.2.2.2.1 40 = true) rfl rfl)) (bif_p (P := fun r : MR => Nat.ble r.2.2.2.1 40 = true) (bif_p (P := fun r : MR => Nat.ble r.2.2.2.1 40 = true) rfl rfl) (bif_p (P := fun r : MR => Nat.ble r.2.2.2.1 40 = true) rfl rfl)))) (bif_p (P := fun r : MR => Nat.ble r.2.2.2.1 40 = true) (bif_p (P := fun r : MR => Nat.ble r.2.2.2.1 40 = true) (bif_p (P := fun r : MR => Nat.ble r.2.2.2.1 40 = true) rfl (bif_p (P := fun r : MR => Nat.ble r.2.2.2.1 40 = true) rfl rfl)) (bif_p (P := fun r : MR => Nat.ble r.2.2.2.1 40 = true) (bif_p (P := fun r : MR => Nat.ble r.2.2.2.1 40 = true) rfl rfl) (bif_p (P := fun r : MR => Nat.ble r.2.2.2.1 40 = true) rfl rfl))) (bif_p (P := fun r : MR => Nat.ble r.2.2.2.1 40 = true) (bif_p (P := fun r : MR => Nat.ble r.2.2.2.1 40 = true) (bif_p (P := fun r : MR => Nat.ble r.2.2.2.1 40 = true) rfl rfl) (bif_p (P := fun r : MR => Nat.ble r.2.2.2.1 40 = true) rfl rfl)) (bif_p (P := fun r : MR => Nat.ble r.2.2.2.1 40 = true) (bif_p (P := fun r : MR => Nat.ble r.2.2.2.1 40 = true) rfl rfl) (bif_p (P := fun r : MR => Nat.ble r.2.2.2.1 40 = true) rfl rfl))))) (bif_p (P := fun r : MR => Nat.ble r.2.2.2.1 40 = true) (bif_p (P := fun r : MR => Nat.ble r.2.2.2.1 40 = true) (bif_p (P := fun r : MR => Nat.ble r.2.2.2.1 40 = true) (bif_p (P := fun r : MR => Nat.ble r.2.2.2.1 40 = true) rfl (bif_p (P := fun r : MR => Nat.ble r.2.2.2.1 40 = true) rfl rfl)) (bif_p (P := fun r : MR => Nat.ble r.2.2.2.1 40 = true) (bif_p (P := fun r : MR => Nat.ble r.2.2.2.1 40 = true) rfl rfl) (bif_p (P := fun r : MR => Nat.ble r.2.2.2.1 40 = true) rfl rfl))) (bif_p (P := fun r : MR => Nat.ble r.2.2.2.1 40 = true) (bif_p (P := fun r : MR => Nat.ble r.2.2.2.1 40 = true) rfl (bif_p (P := fun r : MR => Nat.ble r.2.2.2.1 40 = true) rfl rfl)) (bif_p (P := fun r : MR => Nat.ble r.2.2.2.1 40 = true) (bif_p (P := fun r : MR => Nat.ble r.2.2.2.1 40 = true) rfl rfl) (bif_p (P := fun r : MR => Nat.ble r.2.2.2.1 40 = true) rfl rfl)))) (bif_p (P := fun r : MR => Nat.ble r.2.2.2.1 40 = true) (bif_p (P := fun r : MR => Nat.ble r.2.2.2.1 40 = true) (bif_p (P := fun r : MR => Nat.ble r.2.2.2.1 40 = true) rfl (bif_p (P := fun r : MR => Nat.ble r.2.2.2.1 40 = true) rfl rfl)) (bif_p (P := fun r : MR => Nat.ble r.2.2.2.1 40 = true) (bif_p (P := fun r : MR => Nat.ble r.2.2.2.1 40 = true) rfl rfl) (bif_p (P := fun r : MR => Nat.ble r.2.2.2.1 40 = true) rfl rfl))) (bif_p (P := fun r : MR => Nat.ble r.2.2.2.1 40 = true) (bif_p (P := fun r : MR => Nat.ble r.2.2.2.1 40 = true) (bif_p (P := fun r : MR => Nat.ble r.2.2.2.1 40 = true) rfl rfl) (bif_p (P := fun r : MR => Nat.ble r.2.2.2.1 40 = true) rfl rfl)) (bif_p (P := fun r : MR => Nat.ble r.2.2.2.1 40 = true) (bif_p (P := fun r : MR => Nat.ble r.2.2.2.1 40 = true) rfl rfl) (bif_p (P := fun r : MR => Nat.ble r.2.2.2.1 40 = true) rfl rfl)))))))
theorem fetch_ok {M pc : Nat} {i : Instr} {n : Nat} (h : fetch M pc = some (i, n)) : decode (bM M) pc = .ok (i, n) ∧ okIns pc i n = true := by
  obtain ⟨cl, h1, h2⟩ := nthC_mem (lkI_mem h)
  have h3 := List.all_eq_true.mp (show okCl (bM M) cl = true from List.all_eq_true.mp (kc_all M) cl h1) _ h2
  simp only [Bool.and_eq_true, decide_eq_true_eq] at h3
  exact h3
def okF (own : String) (q : Fe) (p : Nat) : Bool := match vwCl[q.2.1]? with
  | some (_, T, N) => decide (lw_tbl[p]? = some (.fieldLink own q.1 (T q.2.2.1).1 (T q.2.2.1).2.1 (T q.2.2.1).2.2.1)) && Nat.blt q.2.2.1 N && Nat.beq N (nFf q.2.1) && Nat.beq (kdf q.2.1 q.2.2.1) q.2.2.2 && (Nat.beq q.2.2.2 1 || ((T q.2.2.1).2.2.2 == false)) && (Nat.beq q.2.2.2 1 || (match parseFieldDescriptor (T q.2.2.1).2.2.1 with | some .int => Nat.beq q.2.2.2 0 | some .boolean => Nat.beq q.2.2.2 2 | _ => false))
  | none => false
theorem kf_0 : zAll (okF RX0) f_0 [52, 54, 61, 63, 65, 67, 78, 80, 81, 82, 86, 57, 69, 71, 74, 76, 83, 85] = true := by decide +kernel
theorem kf_1 : zAll (okF RX1) f_1 [198, 199, 200, 201, 203, 205, 196, 197, 160, 153, 202, 158] = true := by decide +kernel
theorem kf_2 : zAll (okF RX2) f_2 [237, 233, 235, 236] = true := by decide +kernel
theorem kf_3 : zAll (okF RX3) f_3 [132, 133, 134, 59, 72, 56] = true := by decide +kernel
theorem kf_4 : zAll (okF RX4) f_4 [150, 151, 152, 154, 155, 156, 157, 149, 87, 163, 164, 161, 58, 159] = true := by decide +kernel
theorem kf_5 : zAll (okF RX5) f_5 [248, 249, 250, 252, 253, 254, 255, 60, 70, 73, 53, 55, 75, 77, 62, 64, 66, 68, 79, 84, 162, 204, 206, 251, 234] = true := by decide +kernel
theorem kf_6 : zAll (okF RX6) f_6 [] = true := by decide +kernel
theorem kf_7 : zAll (okF RL) f_7 [] = true := by decide +kernel
theorem kf_8 : zAll (okF RJ6) f_8 [] = true := by decide +kernel
theorem kf_9 : zAll (okF RL) f_9 [] = true := by decide +kernel
theorem kf_all (own : Nat) : ∃ m, zAll (okF (RNf own)) (bif Nat.ble own 4 then (bif Nat.ble own 1 then (bif Nat.ble own 0 then (f_0) else (f_1)) else (bif Nat.ble own 2 then (f_2) else (bif Nat.ble own 3 then (f_3) else (f_4)))) else (bif Nat.ble own 6 then (bif Nat.ble own 5 then (f_5) else (f_6)) else (bif Nat.ble own 7 then (f_7) else (bif Nat.ble own 8 then (f_8) else (f_9))))) m = true := (bif_p2 (P := fun (a : String) (b : List Fe) => ∃ m, zAll (okF a) b m = true) (bif_p2 (P := fun (a : String) (b : List Fe) => ∃ m, zAll (okF a) b m = true) (bif_p2 (P := fun (a : String) (b : List Fe) => ∃ m, zAll (okF a) b m = true) ⟨_, kf_0⟩ ⟨_, kf_1⟩) (bif_p2 (P := fun (a : String) (b : List Fe) => ∃ m, zAll (okF a) b m = true) ⟨_, kf_2⟩ (bif_p2 (P := fun (a : String) (b : List Fe) => ∃ m, zAll (okF a) b m = true) ⟨_, kf_3⟩ ⟨_, kf_4⟩))) (bif_p2 (P := fun (a : String) (b : List Fe) => ∃ m, zAll (okF a) b m = true) (bif_p2 (P := fun (a : String) (b : List Fe) => ∃ m, zAll (okF a) b m = true) ⟨_, kf_5⟩ ⟨_, kf_6⟩) (bif_p2 (P := fun (a : String) (b : List Fe) => ∃ m, zAll (okF a) b m = true) ⟨_, kf_7⟩ (bif_p2 (P := fun (a : String) (b : List Fe) => ∃ m, zAll (okF a) b m = true) ⟨_, kf_8⟩ ⟨_, kf_9⟩))))
theorem FT_ok {own ix ci k kd : Nat} (h : FTf own ix = some (ci, k, kd)) : ∃ p, okF (RNf own) (ix, ci, k, kd) p = true := by
  obtain ⟨m, hm⟩ := kf_all own
  exact zAll_mem hm (lkF_mem h)
def okL (own : String) (q : Nat × Int32) (p : Nat) : Bool := decide (lw_tbl[p]? = some (.constant own q.1 q.2))
def okL2 (own : String) (q : Nat × Int64) (p : Nat) : Bool := decide (lw_tbl[p]? = some (.constantLong own q.1 q.2))
theorem kl_0 : zAll (okL RX0) l_0 [331, 332, 333] = true := by decide +kernel
theorem kll_0 : zAll (okL2 RX0) ll_0 [] = true := by decide +kernel
theorem kl_1 : zAll (okL RX1) l_1 [] = true := by decide +kernel
theorem kll_1 : zAll (okL2 RX1) ll_1 [] = true := by decide +kernel
theorem kl_2 : zAll (okL RX2) l_2 [] = true := by decide +kernel
theorem kll_2 : zAll (okL2 RX2) ll_2 [] = true := by decide +kernel
theorem kl_3 : zAll (okL RX3) l_3 [] = true := by decide +kernel
theorem kll_3 : zAll (okL2 RX3) ll_3 [] = true := by decide +kernel
theorem kl_4 : zAll (okL RX4) l_4 [637] = true := by decide +kernel
theorem kll_4 : zAll (okL2 RX4) ll_4 [] = true := by decide +kernel
theorem kl_5 : zAll (okL RX5) l_5 [] = true := by decide +kernel
theorem kll_5 : zAll (okL2 RX5) ll_5 [785, 792, 808] = true := by decide +kernel
theorem kl_6 : zAll (okL RX6) l_6 [] = true := by decide +kernel
theorem kll_6 : zAll (okL2 RX6) ll_6 [] = true := by decide +kernel
theorem kl_7 : zAll (okL RL) l_7 [372, 373] = true := by decide +kernel
theorem kll_7 : zAll (okL2 RL) ll_7 [585, 586] = true := by decide +kernel
theorem kl_8 : zAll (okL RJ6) l_8 [560, 561, 562] = true := by decide +kernel
theorem kll_8 : zAll (okL2 RJ6) ll_8 [] = true := by decide +kernel
theorem kl_9 : zAll (okL RL) l_9 [372, 373] = true := by decide +kernel
theorem kll_9 : zAll (okL2 RL) ll_9 [585, 586] = true := by decide +kernel
theorem kl_all (own : Nat) : ∃ m, zAll (okL (RNf own)) (bif Nat.ble own 4 then (bif Nat.ble own 1 then (bif Nat.ble own 0 then (l_0) else (l_1)) else (bif Nat.ble own 2 then (l_2) else (bif Nat.ble own 3 then (l_3) else (l_4)))) else (bif Nat.ble own 6 then (bif Nat.ble own 5 then (l_5) else (l_6)) else (bif Nat.ble own 7 then (l_7) else (bif Nat.ble own 8 then (l_8) else (l_9))))) m = true := (bif_p2 (P := fun (a : String) (b : List (Nat × Int32)) => ∃ m, zAll (okL a) b m = true) (bif_p2 (P := fun (a : String) (b : List (Nat × Int32)) => ∃ m, zAll (okL a) b m = true) (bif_p2 (P := fun (a : String) (b : List (Nat × Int32)) => ∃ m, zAll (okL a) b m = true) ⟨_, kl_0⟩ ⟨_, kl_1⟩) (bif_p2 (P := fun (a : String) (b : List (Nat × Int32)) => ∃ m, zAll (okL a) b m = true) ⟨_, kl_2⟩ (bif_p2 (P := fun (a : String) (b : List (Nat × Int32)) => ∃ m, zAll (okL a) b m = true) ⟨_, kl_3⟩ ⟨_, kl_4⟩))) (bif_p2 (P := fun (a : String) (b : List (Nat × Int32)) => ∃ m, zAll (okL a) b m = true) (bif_p2 (P := fun (a : String) (b : List (Nat × Int32)) => ∃ m, zAll (okL a) b m = true) ⟨_, kl_5⟩ ⟨_, kl_6⟩) (bif_p2 (P := fun (a : String) (b : List (Nat × Int32)) => ∃ m, zAll (okL a) b m = true) ⟨_, kl_7⟩ (bif_p2 (P := fun (a : String) (b : List (Nat × Int32)) => ∃ m, zAll (okL a) b m = true) ⟨_, kl_8⟩ ⟨_, kl_9⟩))))
theorem kll_all (own : Nat) : ∃ m, zAll (okL2 (RNf own)) (bif Nat.ble own 4 then (bif Nat.ble own 1 then (bif Nat.ble own 0 then (ll_0) else (ll_1)) else (bif Nat.ble own 2 then (ll_2) else (bif Nat.ble own 3 then (ll_3) else (ll_4)))) else (bif Nat.ble own 6 then (bif Nat.ble own 5 then (ll_5) else (ll_6)) else (bif Nat.ble own 7 then (ll_7) else (bif Nat.ble own 8 then (ll_8) else (ll_9))))) m = true := (bif_p2 (P := fun (a : String) (b : List (Nat × Int64)) => ∃ m, zAll (okL2 a) b m = true) (bif_p2 (P := fun (a : String) (b : List (Nat × Int64)) => ∃ m, zAll (okL2 a) b m = true) (bif_p2 (P := fun (a : String) (b : List (Nat × Int64)) => ∃ m, zAll (okL2 a) b m = true) ⟨_, kll_0⟩ ⟨_, kll_1⟩) (bif_p2 (P := fun (a : String) (b : List (Nat × Int64)) => ∃ m, zAll (okL2 a) b m = true) ⟨_, kll_2⟩ (bif_p2 (P := fun (a : String) (b : List (Nat × Int64)) => ∃ m, zAll (okL2 a) b m = true) ⟨_, kll_3⟩ ⟨_, kll_4⟩))) (bif_p2 (P := fun (a : String) (b : List (Nat × Int64)) => ∃ m, zAll (okL2 a) b m = true) (bif_p2 (P := fun (a : String) (b : List (Nat × Int64)) => ∃ m, zAll (okL2 a) b m = true) ⟨_, kll_5⟩ ⟨_, kll_6⟩) (bif_p2 (P := fun (a : String) (b : List (Nat × Int64)) => ∃ m, zAll (okL2 a) b m = true) ⟨_, kll_7⟩ (bif_p2 (P := fun (a : String) (b : List (Nat × Int64)) => ∃ m, zAll (okL2 a) b m = true) ⟨_, kll_8⟩ ⟨_, kll_9⟩))))
theorem LC_ok {own ix : Nat} {v : Int32} (h : LCf own ix = some v) : Jvm.Cond.constant (RNf own) ix v ∈ lw_good := by
  obtain ⟨m, hm⟩ := kl_all own
  obtain ⟨p, hp⟩ := zAll_mem hm (lkV_mem h)
  exact good_at (of_decide_eq_true hp) rfl
theorem LC2_ok {own ix : Nat} {v : Int64} (h : LC2f own ix = some v) : Jvm.Cond.constantLong (RNf own) ix v ∈ lw_good := by
  obtain ⟨m, hm⟩ := kll_all own
  obtain ⟨p, hp⟩ := zAll_mem hm (lkV_mem h)
  exact good_at (of_decide_eq_true hp) rfl
def okK (own : String) (q : Fe) (p : Nat × Nat × Nat) : Bool := Nat.ble 3 q.2.2.1 && calB q.2.2.1 && decide ((parseMethodDescriptor (yM q.2.2.1).desc).map (fun d => d.parameters.length) = some q.2.2.2) && (match q.2.1 with
  | 0 => decide (lw_tbl[p.1]? = some (.methodLink own q.1 (yM q.2.2.1))) && decide (lw_tbl[p.2.1]? = some (.instanceMethod (yM q.2.2.1))) && decide (lw_tbl[p.2.2]? = some (.selects (yM q.2.2.1).cls (yM q.2.2.1) (yM q.2.2.1)))
  | 1 => decide (lw_tbl[p.1]? = some (.methodLink own q.1 (yM q.2.2.1))) && decide (lw_tbl[p.2.1]? = some (.static (yM q.2.2.1)))
  | 2 => decide (lw_tbl[p.1]? = some (.methodLinkNest own q.1 (yM q.2.2.1) "SecretBox")) && decide (lw_tbl[p.2.1]? = some (.static (yM q.2.2.1)))
  | _ => false)
theorem kk_0 : zAll (okK RX0) c_0 [(281, 282, 283), (285, 286, 24), (299, 300, 301), (303, 304, 305), (307, 309, 0), (311, 312, 313), (315, 316, 317), (327, 328, 329), (334, 335, 336), (338, 340, 1), (403, 404, 405), (726, 727, 728)] = true := by decide +kernel
theorem kk_1 : zAll (okK RX1) c_1 [(671, 673, 14), (675, 677, 15), (679, 634, 635), (680, 278, 279), (681, 683, 16), (768, 770, 18), (776, 778, 19), (780, 648, 27)] = true := by decide +kernel
theorem kk_2 : zAll (okK RX2) c_2 [(710, 711, 712)] = true := by decide +kernel
theorem kk_3 : zAll (okK RX3) c_3 [(399, 400, 401), (407, 409, 2), (411, 413, 3), (415, 417, 4), (420, 422, 5), (510, 512, 6), (514, 515, 516), (518, 520, 7), (522, 524, 8), (526, 528, 9), (531, 282, 283), (532, 534, 10), (536, 537, 538)] = true := by decide +kernel
theorem kk_4 : zAll (okK RX4) c_4 [(614, 616, 11), (618, 619, 620), (622, 624, 12), (626, 304, 305), (627, 335, 336), (628, 312, 313), (629, 631, 13), (633, 634, 635), (642, 278, 279), (647, 648, 27), (658, 639, 640)] = true := by decide +kernel
theorem kk_5 : zAll (okK RX5) c_5 [(277, 278, 279), (288, 289, 24), (291, 292, 293), (295, 296, 297), (323, 324, 325), (346, 347, 348), (358, 359, 360), (381, 382, 383), (395, 396, 397), (557, 558, 37), (563, 328, 329), (568, 569, 570), (579, 282, 283), (580, 300, 301), (581, 335, 336), (591, 286, 24), (599, 316, 317), (610, 611, 612), (638, 639, 640), (643, 644, 645), (654, 655, 656), (663, 664, 665), (667, 668, 669), (692, 693, 24), (695, 696, 24), (698, 699, 700), (706, 707, 708), (714, 715, 716), (722, 723, 724), (738, 739, 740), (749, 751, 17), (764, 765, 766), (772, 773, 774), (786, 787, 24), (789, 790, 24), (793, 794, 24), (803, 805, 20), (807, 727, 728), (809, 811, 21), (813, 814, 24), (816, 818, 22)] = true := by decide +kernel
theorem kk_6 : zAll (okK RX6) c_6 [] = true := by decide +kernel
theorem kk_7 : zAll (okK RL) c_7 [(273, 274, 275), (319, 320, 321), (342, 343, 344), (350, 351, 352), (354, 355, 356), (365, 366, 367), (369, 370, 23), (374, 375, 23), (377, 378, 379), (385, 386, 23), (388, 389, 23), (391, 392, 393), (541, 542, 23), (544, 545, 23), (547, 548, 23), (550, 551, 23), (553, 554, 555), (564, 565, 566), (572, 573, 23), (575, 576, 577), (582, 583, 23), (587, 588, 589), (592, 593, 23), (595, 596, 597), (603, 604, 23), (606, 607, 608), (650, 651, 652), (659, 660, 661), (685, 686, 23), (688, 689, 690), (702, 703, 704), (718, 719, 720), (730, 731, 732), (734, 735, 736), (742, 743, 23), (745, 746, 747), (753, 754, 755), (757, 758, 23), (760, 761, 762), (781, 782, 783), (796, 797, 23), (799, 800, 801), (820, 821, 23)] = true := by decide +kernel
theorem kk_8 : zAll (okK RJ6) c_8 [] = true := by decide +kernel
theorem kk_9 : zAll (okK RL) c_9 [(273, 274, 275), (319, 320, 321), (342, 343, 344), (350, 351, 352), (354, 355, 356), (365, 366, 367), (369, 370, 23), (374, 375, 23), (377, 378, 379), (385, 386, 23), (388, 389, 23), (391, 392, 393), (541, 542, 23), (544, 545, 23), (547, 548, 23), (550, 551, 23), (553, 554, 555), (564, 565, 566), (572, 573, 23), (575, 576, 577), (582, 583, 23), (587, 588, 589), (592, 593, 23), (595, 596, 597), (603, 604, 23), (606, 607, 608), (650, 651, 652), (659, 660, 661), (685, 686, 23), (688, 689, 690), (702, 703, 704), (718, 719, 720), (730, 731, 732), (734, 735, 736), (742, 743, 23), (745, 746, 747), (753, 754, 755), (757, 758, 23), (760, 761, 762), (781, 782, 783), (796, 797, 23), (799, 800, 801), (820, 821, 23)] = true := by decide +kernel
theorem kk_all (own : Nat) : ∃ m, zAll (okK (RNf own)) (bif Nat.ble own 4 then (bif Nat.ble own 1 then (bif Nat.ble own 0 then (c_0) else (c_1)) else (bif Nat.ble own 2 then (c_2) else (bif Nat.ble own 3 then (c_3) else (c_4)))) else (bif Nat.ble own 6 then (bif Nat.ble own 5 then (c_5) else (c_6)) else (bif Nat.ble own 7 then (c_7) else (bif Nat.ble own 8 then (c_8) else (c_9))))) m = true := (bif_p2 (P := fun (a : String) (b : List Fe) => ∃ m, zAll (okK a) b m = true) (bif_p2 (P := fun (a : String) (b : List Fe) => ∃ m, zAll (okK a) b m = true) (bif_p2 (P := fun (a : String) (b : List Fe) => ∃ m, zAll (okK a) b m = true) ⟨_, kk_0⟩ ⟨_, kk_1⟩) (bif_p2 (P := fun (a : String) (b : List Fe) => ∃ m, zAll (okK a) b m = true) ⟨_, kk_2⟩ (bif_p2 (P := fun (a : String) (b : List Fe) => ∃ m, zAll (okK a) b m = true) ⟨_, kk_3⟩ ⟨_, kk_4⟩))) (bif_p2 (P := fun (a : String) (b : List Fe) => ∃ m, zAll (okK a) b m = true) (bif_p2 (P := fun (a : String) (b : List Fe) => ∃ m, zAll (okK a) b m = true) ⟨_, kk_5⟩ ⟨_, kk_6⟩) (bif_p2 (P := fun (a : String) (b : List Fe) => ∃ m, zAll (okK a) b m = true) ⟨_, kk_7⟩ (bif_p2 (P := fun (a : String) (b : List Fe) => ∃ m, zAll (okK a) b m = true) ⟨_, kk_8⟩ ⟨_, kk_9⟩))))
theorem KT_ok {own ix kd M n : Nat} (h : KTf own ix = some (kd, M, n)) : ∃ p, okK (RNf own) (ix, kd, M, n) p = true := by
  obtain ⟨m, hm⟩ := kk_all own
  exact zAll_mem hm (lkF_mem h)
theorem wi_0 : (wsX00.all fun w => decide (w ∈ lw_tbl) && goodWord w) = true := by decide +kernel
theorem wi_1 : (wsX10.all fun w => decide (w ∈ lw_tbl) && goodWord w) = true := by decide +kernel
theorem wi_2 : (wsX20.all fun w => decide (w ∈ lw_tbl) && goodWord w) = true := by decide +kernel
theorem wi_3 : (wsX30.all fun w => decide (w ∈ lw_tbl) && goodWord w) = true := by decide +kernel
theorem wi_4 : (wsX40.all fun w => decide (w ∈ lw_tbl) && goodWord w) = true := by decide +kernel
theorem wi_5 : (wsX50.all fun w => decide (w ∈ lw_tbl) && goodWord w) = true := by decide +kernel
/-- what the kit asks of the fields of what stands in the world -/
def okC (C : String) (T : u_T) (N : Nat) : Prop := (∀ w ∈ u_ws C T N, w ∈ lw_good) ∧ (∃ ty0 : Nat → FieldType, ∀ k, k < N → parseFieldDescriptor (T k).2.2.1 = some (ty0 k)) ∧ ∀ a, a < N → ∀ b, b < N → a ≠ b → (T a).2.1 ≠ (T b).2.1
theorem okC_of {C : String} {T : u_T} {N : Nat} (h : ((u_ws C T N).all fun w => decide (w ∈ lw_tbl) && goodWord w) = true) {ty0 : Nat → FieldType} (h2 : ∀ k, k < N → parseFieldDescriptor (T k).2.2.1 = some (ty0 k)) (h3 : ∀ a, a < N → ∀ b, b < N → a ≠ b → (T a).2.1 ≠ (T b).2.1) : okC C T N := by
  refine ⟨fun w hw => ?_, ⟨ty0, h2⟩, h3⟩
  have h4 := List.all_eq_true.mp h w hw
  simp only [Bool.and_eq_true, decide_eq_true_eq] at h4
  exact List.mem_filter.mpr h4
theorem okC_all {ci : Nat} {C : String} {T : u_T} {N : Nat} (h : vwCl[ci]? = some (C, T, N)) : okC C T N := by
  match ci, h with
  | 0, h => cases h; exact okC_of wi_0 tyX0_ok nmX0
  | 1, h => cases h; exact okC_of wi_1 tyX1_ok nmX1
  | 2, h => cases h; exact okC_of wi_2 tyX2_ok nmX2
  | 3, h => cases h; exact okC_of wi_3 tyX3_ok nmX3
  | 4, h => cases h; exact okC_of wi_4 tyX4_ok nmX4
  | 5, h => cases h; exact okC_of wi_5 tyX5_ok nmX5
  | n + 6, h => simp [vwCl] at h
end
section
/-! THE WALKED MACHINE: what a method does to its locals, its stack and the memory (whole numbers: I place slot, longs: J place slot), without heaps and frames. References are places (SKf); 100 is the script of the law, 101 its length, 201, 202 are the two texts. -/
abbrev Lv : Type := List (Option Value)
abbrev St : Type := List Value
abbrev I2 : Type := Nat → Nat → Int32
abbrev J2 : Type := Nat → Nat → Int64
abbrev Post : Type := Option Value → I2 → J2 → Prop
def rfv : Option Nat → Value
  | some a => .ref a
  | none => .null
def is2 : Value → Bool
  | .long _ => true
  | .double _ => true
  | _ => false
/-- a store: what overlapped it is gone -/
def stI (lv : Lv) (i : Nat) (v : Value) : Lv := match i with
  | 0 => lv.set 0 (some v)
  | k + 1 => match lv[k]? with
    | some (some o) => bif is2 o then (lv.set (k + 1) (some v)).set k none else lv.set (k + 1) (some v)
    | _ => lv.set (k + 1) (some v)
def stL (lv : Lv) (i : Nat) (v : Value) : Lv := (stI lv i v).set (i + 1) none
def up2 (I : I2) (a k : Nat) (x : Int32) : I2 := fun i => if i = a then upd (I i) k x else I i
def upJ (J : J2) (a k : Nat) (x : Int64) : J2 := fun i => if i = a then vp_updL (J i) k x else J i
def brI {α : Type} (c : Jvm.ClassFile.Cond) (x : Int32) (a b : α) : α := match c with
  | .eq => if x = 0 then a else b
  | .ne => if x = 0 then b else a
  | .lt => if x < 0 then a else b
  | .ge => if x < 0 then b else a
  | .gt => if 0 < x then a else b
  | .le => if 0 < x then b else a
def brC {α : Type} (c : Jvm.ClassFile.Cond) (x y : Int32) (a b : α) : α := match c with
  | .eq => if x = y then a else b
  | .ne => if x = y then b else a
  | .lt => if x < y then a else b
  | .ge => if x < y then b else a
  | .gt => if y < x then a else b
  | .le => if y < x then b else a
def swT (x : Int32) (pc : Nat) (d : Int) : List Int → Nat → Nat
  | [], _ => tg pc d
  | o :: t, k => if x = OfNat.ofNat k then tg pc o else swT x pc d t (k + 1)
/-- instructions of the stack alone -/
def opS (i : Instr) (st : St) : Option St := match i with
  | .iconst k => some (.int (iK k) :: st)
  | .bipush k => some (.int (iK k) :: st)
  | .sipush k => some (.int (iK k) :: st)
  | .lconst k => some (.long (lK k.val) :: st)
  | .iadd => match st with | .int y :: .int x :: r => some (.int (x + y) :: r) | _ => none
  | .isub => match st with | .int y :: .int x :: r => some (.int (x - y) :: r) | _ => none
  | .imul => match st with | .int y :: .int x :: r => some (.int (x * y) :: r) | _ => none
  | .iand => match st with | .int y :: .int x :: r => some (.int (x &&& y) :: r) | _ => none
  | .ior => match st with | .int y :: .int x :: r => some (.int (x ||| y) :: r) | _ => none
  | .ixor => match st with | .int y :: .int x :: r => some (.int (x ^^^ y) :: r) | _ => none
  | .idiv => match st with | .int y :: .int x :: r => if y = 0 then none else some (.int (x / y) :: r) | _ => none
  | .irem => match st with | .int y :: .int x :: r => if y = 0 then none else some (.int (x - x / y * y) :: r) | _ => none
  | .ineg => match st with | .int x :: r => some (.int (-x) :: r) | _ => none
  | .ishl => match st with | .int y :: .int x :: r => some (.int (x <<< (y &&& 31)) :: r) | _ => none
  | .ishr => match st with | .int y :: .int x :: r => some (.int (x >>> (y &&& 31)) :: r) | _ => none
  | .iushr => match st with | .int y :: .int x :: r => some (.int ((x.toUInt32 >>> (y.toUInt32 &&& Int32.toUInt32 31)).toInt32) :: r) | _ => none
  | .ladd => match st with | .long y :: .long x :: r => some (.long (x + y) :: r) | _ => none
  | .lsub => match st with | .long y :: .long x :: r => some (.long (x - y) :: r) | _ => none
  | .lmul => match st with | .long y :: .long x :: r => some (.long (x * y) :: r) | _ => none
  | .land => match st with | .long y :: .long x :: r => some (.long (x &&& y) :: r) | _ => none
  | .lor => match st with | .long y :: .long x :: r => some (.long (x ||| y) :: r) | _ => none
  | .ldiv => match st with | .long y :: .long x :: r => if y = 0 then none else some (.long (x / y) :: r) | _ => none
  | .lrem => match st with | .long y :: .long x :: r => if y = 0 then none else some (.long (x - x / y * y) :: r) | _ => none
  | .lshl => match st with | .int y :: .long x :: r => some (.long (x <<< (y.toInt64 &&& 63)) :: r) | _ => none
  | .lcmp => match st with | .long y :: .long x :: r => some (.int (lg_cmp x y) :: r) | _ => none
  | .i2l => match st with | .int x :: r => some (.long x.toInt64 :: r) | _ => none
  | .l2i => match st with | .long x :: r => some (.int x.toInt32 :: r) | _ => none
  | .i2b => match st with | .int x :: r => some (.int x.toInt8.toInt32 :: r) | _ => none
  | .i2s => match st with | .int x :: r => some (.int x.toInt16.toInt32 :: r) | _ => none
  | .i2c => match st with | .int x :: r => some (.int (x.toUInt32 % 65536).toInt32 :: r) | _ => none
  | .dup => match st with | v :: r => bif is2 v then none else some (v :: v :: r) | _ => none
  | .pop => match st with | v :: r => bif is2 v then none else some r | _ => none
  | .dup_x1 => match st with | v :: u :: r => bif is2 v || is2 u then none else some (v :: u :: v :: r) | _ => none
  | .dup2 => match st with
    | v :: r => bif is2 v then some (v :: v :: r) else match r with
      | u :: r2 => bif is2 u then none else some (v :: u :: v :: u :: r2)
      | _ => none
    | _ => none
  | _ => none
/-- instructions of locals: which are read, which are written -/
def opL (i : Instr) (lv : Lv) (st : St) : Option (Lv × St) := match i with
  | .iload k => match lv[k]? with | some (some (.int x)) => some (lv, .int x :: st) | _ => none
  | .iload_n k => match lv[k.val]? with | some (some (.int x)) => some (lv, .int x :: st) | _ => none
  | .lload k => match lv[k]? with | some (some (.long x)) => some (lv, .long x :: st) | _ => none
  | .lload_n k => match lv[k.val]? with | some (some (.long x)) => some (lv, .long x :: st) | _ => none
  | .aload k => match lv[k]? with | some (some (.ref x)) => some (lv, .ref x :: st) | _ => none
  | .aload_n k => match lv[k.val]? with | some (some (.ref x)) => some (lv, .ref x :: st) | _ => none
  | .istore k => match st with | .int x :: r => bif Nat.blt k lv.length then some (stI lv k (.int x), r) else none | _ => none
  | .istore_n k => match st with | .int x :: r => bif Nat.blt k.val lv.length then some (stI lv k.val (.int x), r) else none | _ => none
  | .astore k => match st with | .ref x :: r => bif Nat.blt k lv.length then some (stI lv k (.ref x), r) else none | _ => none
  | .astore_n k => match st with | .ref x :: r => bif Nat.blt k.val lv.length then some (stI lv k.val (.ref x), r) else none | _ => none
  | .lstore k => match st with | .long x :: r => bif Nat.blt (k + 1) lv.length then some (stL lv k (.long x), r) else none | _ => none
  | .lstore_n k => match st with | .long x :: r => bif Nat.blt (k.val + 1) lv.length then some (stL lv k.val (.long x), r) else none | _ => none
  | .iinc k c => match lv[k]? with | some (some (.int x)) => some (stI lv k (.int (x + iK c)), st) | _ => none
  | _ => none
/-- what a method may reach: place 58 is that of the row that moved makes -/
def SKo (own a : Nat) : Option (Nat × Nat) := bif Nat.beq a 58 && !(Nat.beq own 9) then none else SKf a
/-- instructions of memory -/
def opM (own : Nat) (i : Instr) (st : St) (I : I2) (J : J2) : Option (St × I2 × J2) := match i with
  | .getfield ix => match st with
    | .ref a :: r => match FTf own ix, SKo own a with
      | some (ci, k, kd), some (t, c) => bif Nat.beq t 0 && Nat.beq c ci then some ((bif Nat.beq kd 1 then rfv (R0 a k) else .int (I a k)) :: r, I, J) else none
      | _, _ => none
    | _ => none
  | .putfield ix => match st with
    | .int x :: .ref a :: r => match FTf own ix, SKo own a with
      | some (ci, k, kd), some (t, c) => bif Nat.beq t 0 && Nat.beq c ci then (bif Nat.beq kd 0 then some (r, up2 I a k x, J) else bif Nat.beq kd 2 then (if x = 0 ∨ x = 1 then some (r, up2 I a k x, J) else none) else none) else none
      | _, _ => none
    | _ => none
  | .iaload => match st with
    | .int i :: .ref a :: r => match SKo own a with
      | some (t, n) => bif Nat.beq t 1 then (if i < 0 ∨ n ≤ i.toNatClampNeg then none else some (.int (I a i.toNatClampNeg) :: r, I, J)) else none
      | none => bif Nat.beq a 100 && Nat.beq own 7 then (if i < 0 ∨ (I 101 0).toNatClampNeg ≤ i.toNatClampNeg then none else some (.int (I 100 i.toNatClampNeg) :: r, I, J)) else none
    | _ => none
  | .caload => match st with
    | .int i :: .ref a :: r => match SKo own a with
      | some (t, n) => bif Nat.beq t 2 then (if i < 0 ∨ n ≤ i.toNatClampNeg then none else some (.int (I a i.toNatClampNeg) :: r, I, J)) else none
      | none => none
    | _ => none
  | .laload => match st with
    | .int i :: .ref a :: r => match SKo own a with
      | some (t, n) => bif Nat.beq t 3 then (if i < 0 ∨ n ≤ i.toNatClampNeg then none else some (.long (J a i.toNatClampNeg) :: r, I, J)) else none
      | none => none
    | _ => none
  | .aaload => match st with
    | .int i :: .ref a :: r => match SKo own a with
      | some (t, n) => bif Nat.beq t 4 then (if i < 0 ∨ n ≤ i.toNatClampNeg then none else some (rfv (R0 a i.toNatClampNeg) :: r, I, J)) else none
      | none => none
    | _ => none
  | .iastore => match st with
    | .int x :: .int i :: .ref a :: r => match SKo own a with
      | some (t, n) => bif Nat.beq t 1 then (if i < 0 ∨ n ≤ i.toNatClampNeg then none else some (r, up2 I a i.toNatClampNeg x, J)) else none
      | none => none
    | _ => none
  | .castore => match st with
    | .int x :: .int i :: .ref a :: r => match SKo own a with
      | some (t, n) => bif Nat.beq t 2 then (if i < 0 ∨ n ≤ i.toNatClampNeg then none else some (r, up2 I a i.toNatClampNeg (vp_nar .char x), J)) else none
      | none => none
    | _ => none
  | .lastore => match st with
    | .long x :: .int i :: .ref a :: r => match SKo own a with
      | some (t, n) => bif Nat.beq t 3 then (if i < 0 ∨ n ≤ i.toNatClampNeg then none else some (r, I, upJ J a i.toNatClampNeg x)) else none
      | none => none
    | _ => none
  | .arraylength => match st with
    | .ref a :: r => bif Nat.beq a 100 && Nat.beq own 7 then some (.int (I 101 0) :: r, I, J) else none
    | _ => none
  | .ldc ix => match LCf own ix with
    | some v => some (.int v :: st, I, J)
    | none => bif Nat.beq own 3 && Nat.beq ix 45 then some (.ref 201 :: st, I, J) else bif Nat.beq own 3 && Nat.beq ix 64 then some (.ref 202 :: st, I, J) else none
  | .ldc_w ix => match LCf own ix with | some v => some (.int v :: st, I, J) | none => none
  | .ldc2_w ix => match LC2f own ix with | some v => some (.long v :: st, I, J) | none => none
  | _ => none
/-- the letters of the two texts, by place: the first that is so, or -1 -/
def txF (c : Int32) : List Int32 → Int32 → Int32
  | [], _ => -1
  | b :: t, k => if c = b then k else txF c t (k + 1)
def tx1 : List Int32 := [112, 115, 114, 108, 98]
def tx2 : List Int32 := [60, 62, 61]
/-- what is left to the library: System.arraycopy, String.indexOf of the two texts -/
def opX (own : Nat) (i : Instr) (st : St) (I : I2) (J : J2) : Option (St × I2 × J2) := match i with
  | .invokestatic ix => bif Nat.beq own 0 && Nat.beq ix 65 then (match st with
    | .int n :: .int dp :: .ref a :: .int sp :: .ref b :: r => bif Nat.ble (r.map fun v => v.category).sum 8 then (match SKo own a, SKo own b with
      | some (t, x), some (u, y) => if sp < 0 ∨ dp < 0 ∨ n < 0 ∨ y < sp.toNatClampNeg + n.toNatClampNeg ∨ x < dp.toNatClampNeg + n.toNatClampNeg then none else
          bif Nat.beq t 1 && Nat.beq u 1 then some (r, (fun i => if i = a then va_cpy (I b) (I a) sp.toNatClampNeg dp.toNatClampNeg n.toNatClampNeg else I i), J) else
          bif Nat.beq t 3 && Nat.beq u 3 then some (r, I, (fun i => if i = a then va_cpy (J b) (J a) sp.toNatClampNeg dp.toNatClampNeg n.toNatClampNeg else J i)) else none
      | _, _ => none) else none
    | _ => none) else none
  | .invokevirtual ix => bif Nat.beq own 3 && Nat.beq ix 86 then (match st with
    | .int c :: .ref a :: r => bif Nat.ble (r.map fun v => v.category).sum 8 then (bif Nat.beq a 201 then some (.int (txF c tx1 0) :: r, I, J) else bif Nat.beq a 202 then some (.int (txF c tx2 0) :: r, I, J) else none) else none
    | _ => none) else none
  | _ => none
abbrev Sg : Type := Nat × Lv × St × I2 × J2
/-- one step -/
def exec1 (own : Nat) (i : Instr) (pc n : Nat) (lv : Lv) (st : St) (I : I2) (J : J2) : Option Sg := match i with
  | .ifCond c off => match st with | .int x :: r => some (brI c x (tg pc off) (pc + n), lv, r, I, J) | _ => none
  | .if_icmp c off => match st with | .int y :: .int x :: r => some (brC c x y (tg pc off) (pc + n), lv, r, I, J) | _ => none
  | .goto off => some (tg pc off, lv, st, I, J)
  | .tableswitch d _ _ offs => match st with | .int x :: r => some (swT x pc d offs.toList 0, lv, r, I, J) | _ => none
  | i => match opS i st with
    | some st' => some (pc + n, lv, st', I, J)
    | none => match opL i lv st with
      | some (lv', st') => some (pc + n, lv', st', I, J)
      | none => match opM own i st I J with
        | some (st', I', J') => some (pc + n, lv, st', I', J')
        | none => match opX own i st I J with
          | some (st', I', J') => some (pc + n, lv, st', I', J')
          | none => none
def stepP (M : Nat) : Sg → Option Sg := fun (pc, lv, st, I, J) => match fetch M pc with
  | some (i, n) => exec1 (owM M) i pc n lv st I J
  | none => none
def stepsP (M : Nat) : Nat → Sg → Option Sg
  | 0, s => some s
  | k + 1, s => match stepP M s with
    | some s' => stepsP M k s'
    | none => none
/-- the end of a method -/
def retQ (M pc : Nat) (st : St) : Option (Option Value) := match fetch M pc with
  | some (.return_, _) => match rtM M, st with | none, [] => some none | _, _ => none
  | some (.lreturn, _) => match rtM M, st with | some .long, [.long x] => some (some (.long x)) | _, _ => none
  | some (.ireturn, _) => match rtM M, st with
    | some .int, [.int x] => some (some (.int x))
    | some .boolean, [.int x] => if x = 0 ∨ x = 1 then some (some (.int x)) else none
    | some .char, [.int x] => if vp_nar .char x = x then some (some (.int x)) else none
    | _, _ => none
  | _ => none
def PCC : Nat := 131
/-- the law's first part ends ahead of its call of moved -/
def exA (pc : Nat) (lv : Lv) (st : St) : Option (Option Value) := bif Nat.beq pc PCC then (match lv, st with
  | some (.ref a) :: some (.ref b) :: some (.ref c) :: _ :: some (.long y) :: _, [] => bif Nat.beq a 100 && (Nat.beq b 0 && Nat.beq c 57) then some (some (.long y)) else none
  | _, _ => none) else none
def retP (M pc : Nat) (lv : Lv) (st : St) : Option (Option Value) := bif Nat.beq M 0 then exA pc lv st else retQ M pc st
/-- a call: of which method, with what, what stays on the stack -/
def callP (M pc : Nat) (st : St) : Option (Nat × List Value × St) := match fetch M pc with
  | some (.invokevirtual ix, _) => match KTf (owM M) ix with
    | some (kd, M', n) => bif Nat.beq kd 0 && Nat.beq (st.take n).length n then (match st.drop n with
      | .ref b :: r => match SKf b with
        | some (t, c) => bif Nat.beq t 0 && Nat.beq c (owM M') && Nat.ble (r.map fun v => v.category).sum 8 then some (M', .ref b :: (st.take n).reverse, r) else none
        | none => none
      | _ => none) else none
    | none => none
  | some (.invokestatic ix, _) => match KTf (owM M) ix with
    | some (kd, M', n) => bif !(Nat.beq kd 0) && Nat.beq (st.take n).length n && Nat.ble ((st.drop n).map fun v => v.category).sum 8 then some (M', (st.take n).reverse, st.drop n) else none
    | none => none
  | _ => none
def lvLe (a b : Lv) : Prop := a.length = b.length ∧ ∀ (i : Nat) (v : Value), a[i]? = some (some v) → b[i]? = some (some v)
def entL : List Value → Lv
  | [] => []
  | v :: t => bif is2 v then some v :: none :: entL t else some v :: entL t
def entLv (n : Nat) (as : List Value) : Lv := entL as ++ List.replicate (n - (entL as).length) none
abbrev Cw : Type := Nat → List Value → I2 → J2 → Post → Prop
/-- what is closed under the steps of a method, from its ends back -/
def Rules (cw : Cw) (M : Nat) (Q : Post) (X : Nat → Lv → St → I2 → J2 → Prop) : Prop :=
  (∀ pc lv st I J pc' lv' st' I' J', stepP M (pc, lv, st, I, J) = some (pc', lv', st', I', J') → X pc' lv' st' I' J' → X pc lv st I J) ∧
  (∀ pc lv st I J r, retP M pc lv st = some r → Q r I J → X pc lv st I J) ∧
  (∀ pc lv st I J M' as rest, callP M pc st = some (M', as, rest) → cw M' as I J (fun r I' J' => X (pc + 3) lv (r.toList ++ rest) I' J') → X pc lv st I J) ∧
  (∀ pc lv lv' st I J, lvLe lv' lv → X pc lv' st I J → X pc lv st I J)
def callW : Nat → Cw
  | 0, _, _, _, _, _ => False
  | d + 1, M, as, I, J, Q => Nat.ble (entL as).length (mlM M) = true ∧ ∀ X, Rules (callW d) M Q X → X 0 (entLv (mlM M) as) [] I J
def Wp (d M : Nat) (Q : Post) (pc : Nat) (lv : Lv) (st : St) (I : I2) (J : J2) : Prop := ∀ X, Rules (callW d) M Q X → X pc lv st I J
theorem callW_mono {d M : Nat} {as : List Value} {I : I2} {J : J2} {Q Q' : Post} (h : callW d M as I J Q) (hQ : ∀ r I' J', Q r I' J' → Q' r I' J') : callW d M as I J Q' := by
  cases d with
  | zero => exact h
  | succ d => exact ⟨h.1, fun X hX => h.2 X ⟨hX.1, fun pc lv st I J r hr hq => hX.2.1 pc lv st I J r hr (hQ _ _ _ hq), hX.2.2.1, hX.2.2.2⟩⟩
theorem callW.of {d M : Nat} {as : List Value} {I : I2} {J : J2} {Q : Post} (hl : Nat.ble (entL as).length (mlM M) = true) (h : Wp d M Q 0 (entLv (mlM M) as) [] I J) : callW (d + 1) M as I J Q := ⟨hl, h⟩
theorem Wp.step {d M : Nat} {Q : Post} {pc pc' : Nat} {lv lv' : Lv} {st st' : St} {I I' : I2} {J J' : J2} (h : stepP M (pc, lv, st, I, J) = some (pc', lv', st', I', J')) (k : Wp d M Q pc' lv' st' I' J') : Wp d M Q pc lv st I J :=
  fun X hX => hX.1 _ _ _ _ _ _ _ _ _ _ h (k X hX)
theorem Wp.steps {d M : Nat} {Q : Post} (n : Nat) {pc pc' : Nat} {lv lv' : Lv} {st st' : St} {I I' : I2} {J J' : J2} (h : stepsP M n (pc, lv, st, I, J) = some (pc', lv', st', I', J')) (k : Wp d M Q pc' lv' st' I' J') : Wp d M Q pc lv st I J := by
  induction n generalizing pc lv st I J with
  | zero =>
    simp only [stepsP, Option.some.injEq, Prod.mk.injEq] at h
    obtain ⟨rfl, rfl, rfl, rfl, rfl⟩ := h
    exact k
  | succ n ih =>
    simp only [stepsP] at h
    split at h
    next s' hs =>
      obtain ⟨p2, l2, t2, I2', J2'⟩ := s'
      exact Wp.step hs (ih h)
    next => cases h
theorem Wp.ret {d M : Nat} {Q : Post} {pc : Nat} {lv : Lv} {st : St} {I : I2} {J : J2} {r : Option Value} (h : retP M pc lv st = some r) (k : Q r I J) : Wp d M Q pc lv st I J :=
  fun _ hX => hX.2.1 _ _ _ _ _ _ h k
theorem Wp.call {d M : Nat} {Q : Post} {pc : Nat} {lv : Lv} {st : St} {I : I2} {J : J2} {M' : Nat} {as : List Value} {rest : St} (h : callP M pc st = some (M', as, rest)) (k : callW d M' as I J (fun r I' J' => Wp d M Q (pc + 3) lv (r.toList ++ rest) I' J')) : Wp d M Q pc lv st I J :=
  fun X hX => hX.2.2.1 _ _ _ _ _ _ _ _ h (callW_mono k fun _ _ _ q => q X hX)
theorem Wp.forget {d M : Nat} {Q : Post} {pc : Nat} {lv : Lv} {st : St} {I : I2} {J : J2} (lv' : Lv) (h : lvLe lv' lv) (k : Wp d M Q pc lv' st I J) : Wp d M Q pc lv st I J :=
  fun X hX => hX.2.2.2 _ _ _ _ _ _ h (k X hX)
theorem Wp.mono {d M : Nat} {Q Q' : Post} {pc : Nat} {lv : Lv} {st : St} {I : I2} {J : J2} (h : Wp d M Q pc lv st I J) (hQ : ∀ r I' J', Q r I' J' → Q' r I' J') : Wp d M Q' pc lv st I J :=
  fun X hX => h X ⟨hX.1, fun pc lv st I J r hr hq => hX.2.1 pc lv st I J r hr (hQ _ _ _ hq), hX.2.2.1, hX.2.2.2⟩
theorem Wp.ite {d M : Nat} {Q : Post} {c : Prop} {dc : Decidable c} {a b : Nat} {lv : Lv} {st : St} {I : I2} {J : J2} (ht : c → Wp d M Q a lv st I J) (hf : ¬ c → Wp d M Q b lv st I J) : Wp d M Q (if c then a else b) lv st I J := by
  by_cases h : c
  · rw [if_pos h]; exact ht h
  · rw [if_neg h]; exact hf h
end
section
/-! WHAT THE WALKED MACHINE DOES, THE MACHINE DOES: instructions of the stack, of locals -/
def kv (ad : Nat → Nat) : Value → Value
  | .ref a => .ref (ad a)
  | v => v
def klv (ad : Nat → Nat) (lv : Lv) : List (Nat × Value) := (List.range lv.length).filterMap (fun i => match lv[i]? with | some (some v) => some (i, kv ad v) | _ => none)
theorem klv_mem {ad : Nat → Nat} {lv : Lv} {i : Nat} {w : Value} : (i, w) ∈ klv ad lv ↔ ∃ v, lv[i]? = some (some v) ∧ w = kv ad v := by
  simp only [klv, List.mem_filterMap, List.mem_range]
  constructor
  · rintro ⟨j, hj, h⟩
    split at h
    next v hv => cases h; exact ⟨v, hv, rfl⟩
    next => cases h
  · rintro ⟨v, hv, rfl⟩
    exact ⟨i, (List.getElem?_eq_some_iff.mp hv).1, by rw [hv]⟩
theorem lv_incl {ls : Array Slot} {n : Nat} {l l' : List (Nat × Value)} (h : lv_has ls n l) (hl : ∀ q ∈ l', q ∈ l) : lv_has ls n l' := ⟨h.1, h.2.1, fun q hq => h.2.2 q (hl q hq)⟩
theorem lv_rd {ls : Array Slot} {n : Nat} {ad : Nat → Nat} {lv : Lv} (h : lv_has ls n (klv ad lv)) {i : Nat} {v : Value} (hi : lv[i]? = some (some v)) : ls[i]? = some (.val (kv ad v)) := h.2.2 (i, kv ad v) (klv_mem.mpr ⟨v, hi, rfl⟩)
theorem kv_cat1 {ad : Nat → Nat} {v : Value} (h : is2 v = false) : (kv ad v).category = 1 := by cases v <;> first | rfl | (simp [is2] at h; done)
theorem kv_cat2 {ad : Nat → Nat} {v : Value} (h : is2 v = true) : (kv ad v).category = 2 := by cases v <;> first | rfl | (simp [is2] at h; done)
theorem kv_cat {ad : Nat → Nat} {v : Value} : (kv ad v).category = v.category := by cases v <;> rfl
theorem stI_len {lv : Lv} {i : Nat} {v : Value} : (stI lv i v).length = lv.length := by
  cases i with
  | zero => simp [stI]
  | succ k =>
    simp only [stI]
    split
    next o ho => cases is2 o <;> simp
    next => simp
theorem stI_get {lv : Lv} {i j : Nat} {v u : Value} (h : (stI lv i v)[j]? = some (some u)) : (j = i ∧ u = v) ∨ (j ≠ i ∧ lv[j]? = some (some u) ∧ (j + 1 = i → is2 u = false)) := by
  cases i with
  | zero =>
    simp only [stI, List.getElem?_set] at h
    by_cases e : 0 = j
    · subst e
      simp only [↓reduceIte] at h
      split at h
      · cases h; exact Or.inl ⟨rfl, rfl⟩
      · cases h
    · rw [if_neg e] at h
      exact Or.inr ⟨fun q => e q.symm, h, fun q => by omega⟩
  | succ k =>
    simp only [stI] at h
    have key : ∀ (hk : ∀ o, lv[k]? = some (some o) → is2 o = false), (lv.set (k + 1) (some v))[j]? = some (some u) → (j = k + 1 ∧ u = v) ∨ (j ≠ k + 1 ∧ lv[j]? = some (some u) ∧ (j + 1 = k + 1 → is2 u = false)) := by
      intro hk h5
      rw [List.getElem?_set] at h5
      by_cases e : k + 1 = j
      · rw [if_pos e] at h5
        split at h5
        · cases h5; exact Or.inl ⟨e.symm, rfl⟩
        · cases h5
      · rw [if_neg e] at h5
        exact Or.inr ⟨fun q => e q.symm, h5, fun q => by
          have : j = k := by omega
          subst this
          exact hk u h5⟩
    split at h
    next o ho =>
      cases h2 : is2 o with
      | true =>
        rw [h2] at h
        simp only [cond_true] at h
        rw [List.getElem?_set] at h
        by_cases e : k = j
        · rw [if_pos e] at h
          split at h <;> cases h
        · rw [if_neg e] at h
          rw [List.getElem?_set] at h
          by_cases e2 : k + 1 = j
          · rw [if_pos e2] at h
            split at h
            · cases h; exact Or.inl ⟨e2.symm, rfl⟩
            · cases h
          · rw [if_neg e2] at h
            exact Or.inr ⟨fun q => e2 q.symm, h, fun q => by omega⟩
      | false =>
        rw [h2] at h
        simp only [cond_false] at h
        exact key (fun o' ho' => by rw [ho] at ho'; cases ho'; exact h2) h
    next hno => exact key (fun o' ho' => absurd ho' (hno o')) h
theorem st_incl {ad : Nat → Nat} {lv : Lv} {i : Nat} {v : Value} : ∀ q ∈ klv ad (stI lv i v), q ∈ (i, kv ad v) :: (klv ad lv).filter (fun q => !(q.1 == i) && !(q.1 + 1 == i && q.2.category == 2)) := by
  rintro ⟨j, w⟩ hq
  obtain ⟨u, hu, rfl⟩ := klv_mem.mp hq
  rcases stI_get hu with ⟨rfl, rfl⟩ | ⟨h1, h2, h3⟩
  · exact List.mem_cons_self
  · refine List.mem_cons_of_mem _ (List.mem_filter.mpr ⟨klv_mem.mpr ⟨u, h2, rfl⟩, ?_⟩)
    have e1 : (j == i) = false := by simp [h1]
    by_cases e : j + 1 = i
    · simp [e1, kv_cat1 (ad := ad) (h3 e)]
    · simp [e1, e]
theorem st_inclL {ad : Nat → Nat} {lv : Lv} {i : Nat} {v : Value} : ∀ q ∈ klv ad (stL lv i v), q ∈ (i, kv ad v) :: (klv ad lv).filter (fun q => !(q.1 == i) && (!(q.1 == i + 1) && !(q.1 + 1 == i && q.2.category == 2))) := by
  rintro ⟨j, w⟩ hq
  obtain ⟨u, hu, rfl⟩ := klv_mem.mp hq
  simp only [stL, List.getElem?_set] at hu
  by_cases e0 : i + 1 = j
  · rw [if_pos e0] at hu
    split at hu <;> cases hu
  · rw [if_neg e0] at hu
    rcases stI_get hu with ⟨rfl, rfl⟩ | ⟨h1, h2, h3⟩
    · exact List.mem_cons_self
    · refine List.mem_cons_of_mem _ (List.mem_filter.mpr ⟨klv_mem.mpr ⟨u, h2, rfl⟩, ?_⟩)
      have e1 : (j == i) = false := by simp [h1]
      have e2 : (j == i + 1) = false := by simp; omega
      by_cases e : j + 1 = i
      · simp [e1, e2, kv_cat1 (ad := ad) (h3 e)]
      · simp [e1, e2, e]
theorem iK_i {k : Int} : True := trivial
section SND
variable {p : Program} {l : Launch} {e : Env} {R : Room} {s : State} {m : MethodId} {args : Array Value} {below : List Frame} {meth : Method} {c : Code} {H : Heap} {locs : List Loc} {cells slots : Nat} {Q : State → Prop}
variable {cc : ByteArray} {pc n : Nat} {ls : Array Slot} {ad : Nat → Nat}
set_option maxHeartbeats 4000000 in
theorem opS_ok (hx : p.tables.exec = Jvm.exec) (hb : c.code = cc) {i : Instr} {st st' : St} (h : opS i st = some st') (hd : decode cc pc = .ok (i, n)) (ho : okIns pc i n = true) (k : W p l e R s m args below meth c H locs cells slots Q (F0 m (pc + n) ls (st'.map (kv ad)))) : W p l e R s m args below meth c H locs cells slots Q (F0 m pc ls (st.map (kv ad))) := by
  have e1 : ∀ {z : Nat}, Nat.beq n z = true → n = z := fun h => Nat.eq_of_beq_eq_true h
  cases i
  all_goals first
    | (exfalso; simp [opS] at h; done)
    | skip
  case iconst v =>
    simp only [opS, Option.some.injEq] at h; subst h
    simp only [okIns, Bool.and_eq_true, decide_eq_true_eq] at ho
    have := e1 ho.1; subst this
    exact lv_iconst hx hb hd ho.2 k
  case bipush v =>
    simp only [opS, Option.some.injEq] at h; subst h
    simp only [okIns, Bool.and_eq_true, decide_eq_true_eq] at ho
    have := e1 ho.1; subst this
    exact lv_bipush hx hb hd ho.2 k
  case sipush v =>
    simp only [opS, Option.some.injEq] at h; subst h
    simp only [okIns, Bool.and_eq_true, decide_eq_true_eq] at ho
    have := e1 ho.1; subst this
    exact lv_sipush hx hb hd ho.2 k
  case lconst v =>
    simp only [opS, Option.some.injEq] at h; subst h
    have := e1 (z := 1) ho; subst this
    exact lv_lconst hx hb hd rfl k
  case iadd => simp only [opS] at h; split at h <;> cases h; have := e1 (z := 1) ho; subst this; exact lv_iadd hx hb hd k
  case isub => simp only [opS] at h; split at h <;> cases h; have := e1 (z := 1) ho; subst this; exact lv_isub hx hb hd k
  case imul => simp only [opS] at h; split at h <;> cases h; have := e1 (z := 1) ho; subst this; exact lv_imul hx hb hd k
  case iand => simp only [opS] at h; split at h <;> cases h; have := e1 (z := 1) ho; subst this; exact lv_iand hx hb hd k
  case ior => simp only [opS] at h; split at h <;> cases h; have := e1 (z := 1) ho; subst this; exact lv_ior hx hb hd k
  case ixor => simp only [opS] at h; split at h <;> cases h; have := e1 (z := 1) ho; subst this; exact lv_ixor hx hb hd k
  case idiv =>
    simp only [opS] at h
    split at h
    · split at h
      · cases h
      · next hz => cases h; have := e1 (z := 1) ho; subst this; exact lv_idiv hx hb hd hz k
    · cases h
  case irem =>
    simp only [opS] at h
    split at h
    · split at h
      · cases h
      · next hz => cases h; have := e1 (z := 1) ho; subst this; exact lv_irem hx hb hd hz k
    · cases h
  case ineg => simp only [opS] at h; split at h <;> cases h; have := e1 (z := 1) ho; subst this; exact lv_ineg hx hb hd k
  case ishl => simp only [opS] at h; split at h <;> cases h; have := e1 (z := 1) ho; subst this; exact lv_ishl hx hb hd k
  case ishr => simp only [opS] at h; split at h <;> cases h; have := e1 (z := 1) ho; subst this; exact lv_ishr hx hb hd k
  case iushr => simp only [opS] at h; split at h <;> cases h; have := e1 (z := 1) ho; subst this; exact lv_iushr hx hb hd rfl k
  case ladd => simp only [opS] at h; split at h <;> cases h; have := e1 (z := 1) ho; subst this; exact lv_ladd hx hb hd k
  case lsub => simp only [opS] at h; split at h <;> cases h; have := e1 (z := 1) ho; subst this; exact lv_lsub hx hb hd k
  case lmul => simp only [opS] at h; split at h <;> cases h; have := e1 (z := 1) ho; subst this; exact lv_lmul hx hb hd k
  case land => simp only [opS] at h; split at h <;> cases h; have := e1 (z := 1) ho; subst this; exact lv_land hx hb hd k
  case lor => simp only [opS] at h; split at h <;> cases h; have := e1 (z := 1) ho; subst this; exact lv_lor hx hb hd k
  case ldiv =>
    simp only [opS] at h
    split at h
    · split at h
      · cases h
      · next hz => cases h; have := e1 (z := 1) ho; subst this; exact lv_ldiv hx hb hd hz k
    · cases h
  case lrem =>
    simp only [opS] at h
    split at h
    · split at h
      · cases h
      · next hz => cases h; have := e1 (z := 1) ho; subst this; exact lv_lrem hx hb hd hz k
    · cases h
  case lshl => simp only [opS] at h; split at h <;> cases h; have := e1 (z := 1) ho; subst this; exact lv_lshl hx hb hd rfl k
  case lcmp => simp only [opS] at h; split at h <;> cases h; have := e1 (z := 1) ho; subst this; exact W.lcmp hx hb hd k
  case i2l => simp only [opS] at h; split at h <;> cases h; have := e1 (z := 1) ho; subst this; exact lv_i2l hx hb hd rfl k
  case l2i => simp only [opS] at h; split at h <;> cases h; have := e1 (z := 1) ho; subst this; exact lv_l2i hx hb hd rfl k
  case i2b => simp only [opS] at h; split at h <;> cases h; have := e1 (z := 1) ho; subst this; exact lv_i2b hx hb hd rfl k
  case i2s => simp only [opS] at h; split at h <;> cases h; have := e1 (z := 1) ho; subst this; exact lv_i2s hx hb hd rfl k
  case i2c => simp only [opS] at h; split at h <;> cases h; have := e1 (z := 1) ho; subst this; exact lv_i2c hx hb hd rfl k
  case dup =>
    simp only [opS] at h
    split at h
    · next v r =>
      cases hv : is2 v with
      | true => rw [hv] at h; cases h
      | false => rw [hv] at h; cases h; have := e1 (z := 1) ho; subst this; exact lv_dup hx hb hd (kv_cat1 hv) k
    · cases h
  case pop =>
    simp only [opS] at h
    split at h
    · next v r =>
      cases hv : is2 v with
      | true => rw [hv] at h; cases h
      | false => rw [hv] at h; cases h; have := e1 (z := 1) ho; subst this; exact lv_pop hx hb hd (kv_cat1 hv) k
    · cases h
  case dup_x1 =>
    simp only [opS] at h
    split at h
    · next v u r =>
      cases hv : is2 v with
      | true => rw [hv] at h; cases h
      | false =>
        cases hu : is2 u with
        | true => rw [hv, hu] at h; cases h
        | false => rw [hv, hu] at h; cases h; have := e1 (z := 1) ho; subst this; exact lv_dup_x1 hx hb hd (kv_cat1 hv) (kv_cat1 hu) k
    · cases h
  case dup2 =>
    simp only [opS] at h
    split at h
    · next v r =>
      cases hv : is2 v with
      | true => rw [hv] at h; cases h; have := e1 (z := 1) ho; subst this; exact lv_dup2_2 hx hb hd (kv_cat2 hv) k
      | false =>
        rw [hv] at h
        simp only [cond_false] at h
        split at h
        · next u r2 =>
          cases hu : is2 u with
          | true => rw [hu] at h; cases h
          | false => rw [hu] at h; cases h; have := e1 (z := 1) ho; subst this; exact lv_dup2_11 hx hb hd (kv_cat1 hv) (kv_cat1 hu) k
        · cases h
    · cases h
set_option maxHeartbeats 4000000 in
theorem opL_ok (hx : p.tables.exec = Jvm.exec) (hb : c.code = cc) {nL : Nat} {i : Instr} {lv lv' : Lv} {st st' : St} (h : opL i lv st = some (lv', st')) (hd : decode cc pc = .ok (i, n)) (ho : okIns pc i n = true) (hlen : lv.length = nL) (hl : lv_has ls nL (klv ad lv))
    (k : ∀ ls' : Array Slot, lv'.length = nL → lv_has ls' nL (klv ad lv') → W p l e R s m args below meth c H locs cells slots Q (F0 m (pc + n) ls' (st'.map (kv ad)))) : W p l e R s m args below meth c H locs cells slots Q (F0 m pc ls (st.map (kv ad))) := by
  have e1 : ∀ {z : Nat}, Nat.beq n z = true → n = z := fun h => Nat.eq_of_beq_eq_true h
  have e2 : ∀ {a b : Nat}, Nat.blt a b = true → a < b := fun h => Nat.le_of_ble_eq_true h
  cases i
  all_goals first
    | (exfalso; simp [opL] at h; done)
    | skip
  case iload v => simp only [opL] at h; split at h <;> cases h; next x hv => have := e1 (z := 2) ho; subst this; exact lv_iload hx hb hd (lv_rd hl hv) (k ls hlen hl)
  case iload_n v => simp only [opL] at h; split at h <;> cases h; next x hv => have := e1 (z := 1) ho; subst this; exact lv_iload_n hx hb hd rfl (lv_rd hl hv) (k ls hlen hl)
  case lload v => simp only [opL] at h; split at h <;> cases h; next x hv => have := e1 (z := 2) ho; subst this; exact lv_lload hx hb hd (lv_rd hl hv) (k ls hlen hl)
  case lload_n v => simp only [opL] at h; split at h <;> cases h; next x hv => have := e1 (z := 1) ho; subst this; exact lv_lload_n hx hb hd rfl (lv_rd hl hv) (k ls hlen hl)
  case aload v => simp only [opL] at h; split at h <;> cases h; next x hv => have := e1 (z := 2) ho; subst this; exact lv_aload hx hb hd (lv_rd hl hv) (k ls hlen hl)
  case aload_n v => simp only [opL] at h; split at h <;> cases h; next x hv => have := e1 (z := 1) ho; subst this; exact lv_aload_n hx hb hd rfl (lv_rd hl hv) (k ls hlen hl)
  case istore v =>
    simp only [opL] at h
    split at h
    · next x r =>
      cases hv : Nat.blt v lv.length with
      | false => rw [hv] at h; cases h
      | true => rw [hv] at h; cases h; have := e1 (z := 2) ho; subst this; exact lv_istore hx hb hd hl (hlen ▸ e2 hv) rfl (fun ls' h' => k ls' (stI_len.trans hlen) (lv_incl h' st_incl))
    · cases h
  case istore_n v =>
    simp only [opL] at h
    split at h
    · next x r =>
      cases hv : Nat.blt v.val lv.length with
      | false => rw [hv] at h; cases h
      | true => rw [hv] at h; cases h; have := e1 (z := 1) ho; subst this; exact lv_istore_n hx hb hd rfl hl (hlen ▸ e2 hv) rfl (fun ls' h' => k ls' (stI_len.trans hlen) (lv_incl h' st_incl))
    · cases h
  case astore v =>
    simp only [opL] at h
    split at h
    · next x r =>
      cases hv : Nat.blt v lv.length with
      | false => rw [hv] at h; cases h
      | true => rw [hv] at h; cases h; have := e1 (z := 2) ho; subst this; exact lv_astore hx hb hd hl (hlen ▸ e2 hv) rfl (fun ls' h' => k ls' (stI_len.trans hlen) (lv_incl h' st_incl))
    · cases h
  case astore_n v =>
    simp only [opL] at h
    split at h
    · next x r =>
      cases hv : Nat.blt v.val lv.length with
      | false => rw [hv] at h; cases h
      | true => rw [hv] at h; cases h; have := e1 (z := 1) ho; subst this; exact lv_astore_n hx hb hd rfl hl (hlen ▸ e2 hv) rfl (fun ls' h' => k ls' (stI_len.trans hlen) (lv_incl h' st_incl))
    · cases h
  case lstore v =>
    simp only [opL] at h
    split at h
    · next x r =>
      cases hv : Nat.blt (v + 1) lv.length with
      | false => rw [hv] at h; cases h
      | true => rw [hv] at h; cases h; have := e1 (z := 2) ho; subst this; exact lv_lstore hx hb hd hl (hlen ▸ e2 hv) rfl (fun ls' h' => k ls' (by simp [stL, stI_len, hlen]) (lv_incl h' st_inclL))
    · cases h
  case lstore_n v =>
    simp only [opL] at h
    split at h
    · next x r =>
      cases hv : Nat.blt (v.val + 1) lv.length with
      | false => rw [hv] at h; cases h
      | true => rw [hv] at h; cases h; have := e1 (z := 1) ho; subst this; exact lv_lstore_n hx hb hd rfl hl (hlen ▸ e2 hv) rfl (fun ls' h' => k ls' (by simp [stL, stI_len, hlen]) (lv_incl h' st_inclL))
    · cases h
  case iinc v q =>
    simp only [opL] at h
    split at h
    · next x hv =>
      cases h
      simp only [okIns, Bool.and_eq_true, decide_eq_true_eq] at ho
      have := e1 (z := 3) ho.1; subst this
      obtain ⟨j, hj⟩ := List.getElem?_of_mem (klv_mem.mpr ⟨_, hv, rfl⟩ : (v, kv ad (.int x)) ∈ klv ad lv)
      exact lv_iinc hx hb hd hl (k := j) hj (by rw [ho.2]) (hlen ▸ (List.getElem?_eq_some_iff.mp hv).1) rfl (fun ls' h' => k ls' (stI_len.trans hlen) (lv_incl h' st_incl))
    · cases h
end SND
end
section
/-! THE WORLD: what stands at each place, and instructions of memory -/
abbrev tysA (cA : Nat → ClassId) : List (ClassId × FieldType) := [(cA 0, .int), (cA 1, .char), (cA 2, .long), (cA 3, .object "SecretBox$Sheet")]
def FV (ad : Nat → Nat) (ci a : Nat) (I : I2) : List Value := (List.range (nFf ci)).map (fun k => bif Nat.beq (kdf ci k) 1 then kv ad (rfv (R0 a k)) else .int (I a k))
def CEt (ad : Nat → Nat) (cA : Nat → ClassId) (I : I2) (J : J2) (a t n : Nat) : va_E := match t with
  | 0 => .inr (n, FV ad n a I)
  | 1 => .inl (cA 0, n, .inl (I a))
  | 2 => .inl (cA 1, n, .inl (I a))
  | 3 => .inl (cA 2, n, .inr (.inl (J a)))
  | _ => .inl (cA 3, n, .inr (.inr (.inr (.inr (fun k => (R0 a k).map ad)))))
def CE (ad : Nat → Nat) (cA : Nat → ClassId) (I : I2) (J : J2) (a : Nat) : va_E := CEt ad cA I J a (SKt a).1 (SKt a).2
def WS (nW : Nat) (ad : Nat → Nat) (cA : Nat → ClassId) (I : I2) (J : J2) : va_W := (List.range nW).map (fun a => (ad a, CE ad cA I J a))
def WDp (nW : Nat) (ad : Nat → Nat) (A : Nat → Prop) : Prop := (∀ i j, i < nW → j < nW → ad i = ad j → i = j) ∧ ∀ i, i < nW → A (ad i)
/-- how many places there are, where a method of that class runs -/
def nOK (nW own : Nat) : Prop := 58 ≤ nW ∧ nW ≤ 59 ∧ (own = 9 → nW = 59)
def FrI (I0 I : I2) : Prop := ∀ a, nID ≤ a → I a = I0 a
theorem FrI.rf {I : I2} : FrI I I := fun _ _ => rfl
theorem FrI.tr {I0 I1 I2 : I2} (h1 : FrI I0 I1) (h2 : FrI I1 I2) : FrI I0 I2 := fun a h => (h2 a h).trans (h1 a h)
theorem WS_get {nW : Nat} {ad : Nat → Nat} {cA : Nat → ClassId} {I : I2} {J : J2} {a : Nat} (h : a < nW) : (WS nW ad cA I J)[a]? = some (ad a, CE ad cA I J a) := by
  simp only [WS, List.getElem?_map, List.getElem?_range h, Option.map_some]
theorem WS_len {nW : Nat} {ad : Nat → Nat} {cA : Nat → ClassId} {I : I2} {J : J2} : (WS nW ad cA I J).length = nW := by simp [WS]
theorem WS_set {nW : Nat} {ad : Nat → Nat} {cA : Nat → ClassId} {I I' : I2} {J J' : J2} {a : Nat} (h : a < nW) (hI : ∀ b, b ≠ a → I' b = I b) (hJ : ∀ b, b ≠ a → J' b = J b) : (WS nW ad cA I J).set a (ad a, CE ad cA I' J' a) = WS nW ad cA I' J' := by
  apply List.ext_getElem?
  intro b
  rw [List.getElem?_set]
  by_cases e : a = b
  · subst e
    rw [if_pos rfl, if_pos (by rw [WS_len]; exact h), WS_get h]
  · rw [if_neg e]
    by_cases hb : b < nW
    · have hb' : b ≠ a := fun q => e q.symm
      rw [WS_get hb, WS_get hb]
      simp only [CE, CEt, FV, hI b hb', hJ b hb']
    · rw [List.getElem?_eq_none (by rw [WS_len]; omega), List.getElem?_eq_none (by rw [WS_len]; omega)]
theorem WS_D {nW : Nat} {ad : Nat → Nat} {cA : Nat → ClassId} {I : I2} {J : J2} {A : Nat → Prop} (h : WDp nW ad A) : va_D A (WS nW ad cA I J) := by
  have hb : ∀ (k : Nat) (q : Nat × va_E), (WS nW ad cA I J)[k]? = some q → k < nW ∧ q.1 = ad k := by
    intro k q hq
    have hk : k < nW := by
      have := (List.getElem?_eq_some_iff.mp hq).1
      rwa [WS_len] at this
    rw [WS_get hk] at hq
    cases hq
    exact ⟨hk, rfl⟩
  refine ⟨fun i j p q hi hj hpq => ?_, fun k q hk => ?_⟩
  · obtain ⟨h1, h2⟩ := hb i p hi
    obtain ⟨h3, h4⟩ := hb j q hj
    exact h.1 i j h1 h3 (by rw [← h2, ← h4, hpq])
  · obtain ⟨h1, h2⟩ := hb k q hk
    rw [h2]
    exact h.2 k h1
theorem SK_obj : ∀ a, a < nID → (SKt a).1 = 0 → a < 57 ∧ (SKt a).2 < 6 := by decide +kernel
theorem SK_ok {nW own a t n : Nat} (hn : nOK nW own) (h : SKo own a = some (t, n)) : a < nW ∧ SKt a = (t, n) := by
  obtain ⟨n1, n2, n3⟩ := hn
  unfold SKo at h
  cases hc : (Nat.beq a 58 && !(Nat.beq own 9)) with
  | true => rw [hc] at h; cases h
  | false =>
    rw [hc] at h
    simp only [cond_false] at h
    unfold SKf at h
    cases hb : Nat.ble nID a with
    | true => rw [hb] at h; cases h
    | false =>
      rw [hb] at h
      refine ⟨?_, Option.some.inj h⟩
      have ha : a < 59 := by
        rcases Nat.lt_or_ge a 59 with q | q
        · exact q
        · rw [Nat.ble_eq_true_of_le (show nID ≤ a from q)] at hb; cases hb
      by_cases e : a = 58
      · subst e
        cases h9 : Nat.beq own 9 with
        | true => have := n3 (Nat.eq_of_beq_eq_true h9); omega
        | false => rw [h9] at hc; exact absurd hc (by decide)
      · omega
theorem SK_lt {own a t n : Nat} (h : SKo own a = some (t, n)) : a < nID := by
  unfold SKo at h
  cases hc : (Nat.beq a 58 && !(Nat.beq own 9)) with
  | true => rw [hc] at h; cases h
  | false =>
    rw [hc] at h
    simp only [cond_false] at h
    unfold SKf at h
    rcases Nat.lt_or_ge a nID with q | q
    · exact q
    · rw [Nat.ble_eq_true_of_le q] at h; cases h
theorem SKf_obj {a c : Nat} (h : SKf a = some (0, c)) : a < 57 ∧ SKt a = (0, c) ∧ c < 6 := by
  unfold SKf at h
  rcases Nat.lt_or_ge a nID with q | q
  · rw [show Nat.ble nID a = false from by
      cases hb : Nat.ble nID a with
      | false => rfl
      | true => exact absurd (Nat.le_of_ble_eq_true hb) (by omega)] at h
    have h := Option.some.inj h
    have := SK_obj a q (by rw [h])
    rw [h] at this
    exact ⟨this.1, h, this.2⟩
  · rw [Nat.ble_eq_true_of_le q] at h; cases h
theorem FV_get {ad : Nat → Nat} {ci a k : Nat} {I : I2} (h : k < nFf ci) : (FV ad ci a I)[k]? = some (bif Nat.beq (kdf ci k) 1 then kv ad (rfv (R0 a k)) else .int (I a k)) := by
  simp only [FV, List.getElem?_map, List.getElem?_range h, Option.map_some]
theorem FV_len {ad : Nat → Nat} {ci a : Nat} {I : I2} : (FV ad ci a I).length = nFf ci := by simp [FV]
theorem FV_set {ad : Nat → Nat} {ci a k : Nat} {I : I2} {x : Int32} (h : k < nFf ci) (hk : Nat.beq (kdf ci k) 1 = false) : (FV ad ci a I).set k (.int x) = FV ad ci a (up2 I a k x) := by
  apply List.ext_getElem?
  intro b
  rw [List.getElem?_set]
  by_cases e : k = b
  · subst e
    rw [if_pos rfl, if_pos (by rw [FV_len]; exact h), FV_get h, hk]
    simp [up2, upd]
  · rw [if_neg e]
    by_cases hb : b < nFf ci
    · rw [FV_get hb, FV_get hb]
      have e' : ¬ b = k := fun q => e q.symm
      simp [up2, upd, e']
    · rw [List.getElem?_eq_none (by rw [FV_len]; omega), List.getElem?_eq_none (by rw [FV_len]; omega)]
theorem up2_ne {I : I2} {a k b : Nat} {x : Int32} (h : b ≠ a) : up2 I a k x b = I b := by simp [up2, h]
theorem up2_eq {I : I2} {a k : Nat} {x : Int32} : up2 I a k x a = upd (I a) k x := by simp [up2]
theorem upJ_ne {J : J2} {a k b : Nat} {x : Int64} (h : b ≠ a) : upJ J a k x b = J b := by simp [upJ, h]
theorem upJ_eq {J : J2} {a k : Nat} {x : Int64} : upJ J a k x a = vp_updL (J a) k x := by simp [upJ]
theorem fr_up {I : I2} {a k : Nat} {x : Int32} (h : a < nID) : FrI I (up2 I a k x) := fun b hb => up2_ne (by omega)
section MEM
variable {p : Program} {l : Launch} {e : Env} {R : Room} {s : State} {m : MethodId} {args : Array Value} {below : List Frame} {meth : Method} {c : Code} {H : Heap} {locs : List Loc} {cells slots : Nat} {Q : State → Prop}
variable {cc : ByteArray} {pc n : Nat} {ls : Array Slot} {nW : Nat} {ad : Nat → Nat} {D : va_G} {cA : Nat → ClassId} {A : Nat → Prop}
/-- the script, where the law walks: its cell, and what is told of it at 100 and 101 -/
def ScrOK (ad : Nat → Nat) (A : Nat → Prop) (s : State) (I : I2) : Prop := ∃ (L : Nat) (xs : Nat → Int32), L < 2 ^ 31 ∧ va_X (ad 100) L xs s s.heap ∧ ad 100 < s.heap.size ∧ ¬ A (ad 100) ∧ I 100 = xs ∧ I 101 0 = Int32.ofNat L
/-- a text is put on the stack -/
def LdcOK (p : Program) (l : Launch) (e : Env) (R : Room) (s : State) (m : MethodId) (args : Array Value) (below : List Frame) (meth : Method) (c : Code) (cells slots : Nat) (Q : State → Prop) (ad : Nat → Nat) (own : Nat) : Prop :=
  own = 3 → ∀ (ix a : Nat), (ix = 45 ∧ a = 201 ∨ ix = 64 ∧ a = 202) → ∀ (H : Heap) (locs : List Loc) (ls : Array Slot) (pc : Nat) (st : St), decode c.code pc = .ok (.ldc ix, 2) → W p l e R s m args below meth c H locs cells slots Q (F0 m (pc + 2) ls (.ref (ad a) :: st)) → W p l e R s m args below meth c H locs cells slots Q (F0 m pc ls st)
theorem beq_and {a b : Bool} (h : (a && b) = true) : a = true ∧ b = true := by simpa using h
theorem inr_of {i : Int32} {n : Nat} (h : ¬ (i < 0 ∨ n ≤ i.toNatClampNeg)) : vp_in i n := h
theorem CE_0 {I : I2} {J : J2} {a n : Nat} (h : SKt a = (0, n)) : CE ad cA I J a = .inr (n, FV ad n a I) := by simp [CE, CEt, h]
theorem CE_1 {I : I2} {J : J2} {a n : Nat} (h : SKt a = (1, n)) : CE ad cA I J a = .inl (cA 0, n, .inl (I a)) := by simp [CE, CEt, h]
theorem CE_2 {I : I2} {J : J2} {a n : Nat} (h : SKt a = (2, n)) : CE ad cA I J a = .inl (cA 1, n, .inl (I a)) := by simp [CE, CEt, h]
theorem CE_3 {I : I2} {J : J2} {a n : Nat} (h : SKt a = (3, n)) : CE ad cA I J a = .inl (cA 2, n, .inr (.inl (J a))) := by simp [CE, CEt, h]
theorem CE_4 {I : I2} {J : J2} {a n : Nat} (h : SKt a = (4, n)) : CE ad cA I J a = .inl (cA 3, n, .inr (.inr (.inr (.inr (fun k => (R0 a k).map ad))))) := by simp [CE, CEt, h]
theorem WS_at {own : Nat} {I : I2} {J : J2} {a t n : Nat} {x : va_E} (hn : nOK nW own) (h : SKo own a = some (t, n)) (hx : CE ad cA I J a = x) : (WS nW ad cA I J)[a]? = some (ad a, x) := by rw [WS_get (SK_ok hn h).1, hx]
theorem narrow_01 {x : Int32} (h : x = 0 ∨ x = 1) : narrow .boolean (.int x) = .int x ∧ fits .boolean (.int x) = true := by
  rcases h with rfl | rfl <;> exact ⟨by decide +kernel, by decide +kernel⟩
theorem kv_rf {r : Option Nat} : va_rf (r.map ad) = kv ad (rfv r) := by cases r <;> rfl
set_option maxHeartbeats 8000000 in
theorem opM_ok (hx : p.tables.exec = Jvm.exec) (hb : c.code = cc) {own : Nat} (hown : s.vm.findClass (RNf own) = some m.cls) (hts : ∀ w ∈ lw_good, w.before args s = true) (hK : va_K D vwCl (tysA cA) s) (hW : WDp nW ad A) {i : Instr} {st st' : St} {I I' : I2} {J J' : J2} (hn : nOK nW own) (hscr : ScrOK ad A s I) (hldc : LdcOK p l e R s m args below meth c cells slots Q ad own) (h : opM own i st I J = some (st', I', J')) (hd : decode cc pc = .ok (i, n)) (ho : okIns pc i n = true) (hP : va_P D vwCl (WS nW ad cA I J) H) (hS : va_S A s.heap H locs)
    (k : ∀ (H' : Heap) (locs' : List Loc), va_P D vwCl (WS nW ad cA I' J') H' → va_S A s.heap H' locs' → FrI I I' → W p l e R s m args below meth c H' locs' cells slots Q (F0 m (pc + n) ls (st'.map (kv ad)))) : W p l e R s m args below meth c H locs cells slots Q (F0 m pc ls (st.map (kv ad))) := by
  have e1 : ∀ {z : Nat}, Nat.beq n z = true → n = z := fun h => Nat.eq_of_beq_eq_true h
  have hD : va_D A (WS nW ad cA I J) := WS_D hW
  cases i
  all_goals first
    | (exfalso; simp [opM] at h; done)
    | skip
  case getfield ix =>
    have := e1 (z := 3) ho; subst this
    simp only [opM] at h
    split at h
    · next a r =>
      split at h
      · next ci kk kd t cq hF hSK =>
        cases hc : (Nat.beq t 0 && Nat.beq cq ci) with
        | false => rw [hc] at h; cases h
        | true =>
          rw [hc] at h
          obtain ⟨c1, c2⟩ := beq_and hc
          have et : t = 0 := Nat.eq_of_beq_eq_true c1
          have ec : cq = ci := Nat.eq_of_beq_eq_true c2
          subst et; subst ec
          simp only [cond_true, Option.some.injEq, Prod.mk.injEq] at h
          obtain ⟨rfl, rfl, rfl⟩ := h
          obtain ⟨pp, hp⟩ := FT_ok hF
          unfold okF at hp
          split at hp
          · next C T N hcl =>
            simp only [Bool.and_eq_true, decide_eq_true_eq] at hp
            obtain ⟨⟨⟨⟨⟨hw1, hk1⟩, hN⟩, hkd⟩, -⟩, -⟩ := hp
            have hN : N = nFf cq := Nat.eq_of_beq_eq_true hN
            have hkd : kdf cq kk = kd := Nat.eq_of_beq_eq_true hkd
            have hkN : kk < N := Nat.le_of_ble_eq_true hk1
            have hfv := FV_get (ad := ad) (ci := cq) (a := a) (I := I) (hN ▸ hkN)
            refine va_get hx hb hts (okC_all hcl).1 hown hK hP a (WS_at hn hSK (CE_0 (SK_ok hn hSK).2)) hcl kk hkN (hts _ (good_at hw1 rfl)) (fun _ q => q) (v := kv ad (bif Nat.beq kd 1 then rfv (R0 a kk) else .int (I a kk))) ?_ hd (k H locs hP hS FrI.rf)
            rw [hfv, hkd]
            cases Nat.beq kd 1 <;> rfl
          · cases hp
      · cases h
    · cases h
  case putfield ix =>
    have := e1 (z := 3) ho; subst this
    simp only [opM] at h
    split at h
    · next x a r =>
      split at h
      · next ci kk kd t cq hF hSK =>
        cases hc : (Nat.beq t 0 && Nat.beq cq ci) with
        | false => rw [hc] at h; cases h
        | true =>
          rw [hc] at h
          obtain ⟨c1, c2⟩ := beq_and hc
          have et : t = 0 := Nat.eq_of_beq_eq_true c1
          have ec : cq = ci := Nat.eq_of_beq_eq_true c2
          subst et; subst ec
          obtain ⟨pp, hp⟩ := FT_ok hF
          unfold okF at hp
          split at hp
          · next C T N hcl =>
            simp only [Bool.and_eq_true, decide_eq_true_eq, Bool.or_eq_true, beq_iff_eq] at hp
            obtain ⟨⟨⟨⟨⟨hw1, hk1⟩, hN⟩, hkd⟩, hfin⟩, hty⟩ := hp
            have hN : N = nFf cq := Nat.eq_of_beq_eq_true hN
            have hkd : kdf cq kk = kd := Nat.eq_of_beq_eq_true hkd
            have hkN : kk < N := Nat.le_of_ble_eq_true hk1
            have core : ∀ (ty : FieldType), Nat.beq kd 1 = false → parseFieldDescriptor (T kk).2.2.1 = some ty → narrow ty (.int x) = .int x → fits ty (.int x) = true → I' = up2 I a kk x → J' = J → st' = r → W p l e R s m args below meth c H locs cells slots Q (F0 m pc ls ((Value.int x :: Value.ref a :: r).map (kv ad))) := by
              intro ty hk9 h1 h2 h3 eI eJ eS
              subst eI; subst eJ; subst eS
              obtain ⟨ty0, hty0⟩ := (okC_all hcl).2.1
              have hfin : (T kk).2.2.2 = false := by
                rcases hfin with q | q
                · rw [hk9] at q; cases q
                · exact q
              refine va_put hx hb hts (okC_all hcl).1 ty0 hty0 (okC_all hcl).2.2 hown hK hP hD hS a (WS_at hn hSK (CE_0 (SK_ok hn hSK).2)) hcl kk hkN (hts _ (good_at hw1 rfl)) (fun _ q => q) hfin h1 h2 h3 (by rw [FV_len, ← hN]; exact hkN) hd (fun H1 locs1 hP1 hD1 hS1 => ?_)
              refine k H1 locs1 ?_ hS1 (fr_up (SK_lt hSK))
              rw [show kv ad (Value.int x) = Value.int x from rfl, FV_set (hN ▸ hkN) (by rw [hkd]; exact hk9), ← CE_0 (ad := ad) (cA := cA) (I := up2 I a kk x) (J := J') (SK_ok hn hSK).2, WS_set (SK_ok hn hSK).1 (fun b hb => up2_ne hb) (fun b hb => rfl)] at hP1
              exact hP1
            simp only [cond_true] at h
            cases h0 : Nat.beq kd 0 with
            | true =>
              rw [h0] at h
              simp only [cond_true, Option.some.injEq, Prod.mk.injEq] at h
              obtain ⟨hs1, hi1, hj1⟩ := h
              have ekd : kd = 0 := Nat.eq_of_beq_eq_true h0
              subst ekd
              rcases hty with q | q
              · cases q
              · split at q
                · next hq => exact core .int rfl hq rfl rfl hi1.symm hj1.symm hs1.symm
                · cases q
                · cases q
            | false =>
              rw [h0] at h
              simp only [cond_false] at h
              cases h2 : Nat.beq kd 2 with
              | false => rw [h2] at h; cases h
              | true =>
                rw [h2] at h
                simp only [cond_true] at h
                have ekd : kd = 2 := Nat.eq_of_beq_eq_true h2
                subst ekd
                split at h
                · next hx01 =>
                  simp only [Option.some.injEq, Prod.mk.injEq] at h
                  obtain ⟨hs1, hi1, hj1⟩ := h
                  rcases hty with q | q
                  · cases q
                  · split at q
                    · cases q
                    · next hq => exact core .boolean rfl hq (narrow_01 hx01).1 (narrow_01 hx01).2 hi1.symm hj1.symm hs1.symm
                    · cases q
                · cases h
          · cases hp
      · cases h
    · cases h
  case iaload =>
    have := e1 (z := 1) ho; subst this
    simp only [opM] at h
    split at h
    · next i a r =>
      split at h
      · next t nn hSK =>
        cases hc : Nat.beq t 1 with
        | false => rw [hc] at h; cases h
        | true =>
          rw [hc] at h
          have et : t = 1 := Nat.eq_of_beq_eq_true hc
          subst et
          simp only [cond_true] at h
          split at h
          · cases h
          · next hin =>
            simp only [Option.some.injEq, Prod.mk.injEq] at h
            obtain ⟨rfl, rfl, rfl⟩ := h
            exact va_iald hx hb hK hP a 0 (WS_at hn hSK (CE_1 (SK_ok hn hSK).2)) rfl (inr_of hin) hd (k H locs hP hS FrI.rf)
      · next hSK =>
        cases hc : (Nat.beq a 100 && Nat.beq own 7) with
        | false => rw [hc] at h; cases h
        | true =>
          rw [hc] at h
          obtain ⟨c1, c2⟩ := beq_and hc
          have et : a = 100 := Nat.eq_of_beq_eq_true c1
          have ec : own = 7 := Nat.eq_of_beq_eq_true c2
          subst et
          obtain ⟨L, xs, hL, hX, hlt, hnA, hI0, hI1⟩ := hscr
          simp only [cond_true] at h
          split at h
          · cases h
          · next hin =>
            simp only [Option.some.injEq, Prod.mk.injEq] at h
            obtain ⟨rfl, rfl, rfl⟩ := h
            have eL : (I 101 0).toNatClampNeg = L := by rw [hI1]; exact nI_clamp hL
            rw [eL] at hin
            have := k H locs hP hS FrI.rf
            rw [hI0] at this
            exact va_sld hx hb hX hlt hnA hS (inr_of hin) hd this
    · cases h
  case caload =>
    have := e1 (z := 1) ho; subst this
    simp only [opM] at h
    split at h
    · next i a r =>
      split at h
      · next t nn hSK =>
        cases hc : Nat.beq t 2 with
        | false => rw [hc] at h; cases h
        | true =>
          rw [hc] at h
          have et : t = 2 := Nat.eq_of_beq_eq_true hc
          subst et
          simp only [cond_true] at h
          split at h
          · cases h
          · next hin =>
            simp only [Option.some.injEq, Prod.mk.injEq] at h
            obtain ⟨rfl, rfl, rfl⟩ := h
            exact va_cald hx hb hK hP a 1 (WS_at hn hSK (CE_2 (SK_ok hn hSK).2)) rfl (inr_of hin) hd (k H locs hP hS FrI.rf)
      · cases h
    · cases h
  case laload =>
    have := e1 (z := 1) ho; subst this
    simp only [opM] at h
    split at h
    · next i a r =>
      split at h
      · next t nn hSK =>
        cases hc : Nat.beq t 3 with
        | false => rw [hc] at h; cases h
        | true =>
          rw [hc] at h
          have et : t = 3 := Nat.eq_of_beq_eq_true hc
          subst et
          simp only [cond_true] at h
          split at h
          · cases h
          · next hin =>
            simp only [Option.some.injEq, Prod.mk.injEq] at h
            obtain ⟨rfl, rfl, rfl⟩ := h
            exact va_lald hx hb hK hP a 2 (WS_at hn hSK (CE_3 (SK_ok hn hSK).2)) rfl (inr_of hin) hd (k H locs hP hS FrI.rf)
      · cases h
    · cases h
  case aaload =>
    have := e1 (z := 1) ho; subst this
    simp only [opM] at h
    split at h
    · next i a r =>
      split at h
      · next t nn hSK =>
        cases hc : Nat.beq t 4 with
        | false => rw [hc] at h; cases h
        | true =>
          rw [hc] at h
          have et : t = 4 := Nat.eq_of_beq_eq_true hc
          subst et
          simp only [cond_true] at h
          split at h
          · cases h
          · next hin =>
            simp only [Option.some.injEq, Prod.mk.injEq] at h
            obtain ⟨rfl, rfl, rfl⟩ := h
            have := k H locs hP hS FrI.rf
            refine va_aldq hx hb hK hP a 3 (C := "SecretBox$Sheet") (WS_at hn hSK (CE_4 (SK_ok hn hSK).2)) rfl (inr_of hin) hd ?_
            rw [kv_rf]
            exact this
      · cases h
    · cases h
  case iastore =>
    have := e1 (z := 1) ho; subst this
    simp only [opM] at h
    split at h
    · next x i a r =>
      split at h
      · next t nn hSK =>
        cases hc : Nat.beq t 1 with
        | false => rw [hc] at h; cases h
        | true =>
          rw [hc] at h
          have et : t = 1 := Nat.eq_of_beq_eq_true hc
          subst et
          simp only [cond_true] at h
          split at h
          · cases h
          · next hin =>
            simp only [Option.some.injEq, Prod.mk.injEq] at h
            obtain ⟨rfl, rfl, rfl⟩ := h
            refine va_iast hx hb hK hP hD hS a 0 (WS_at hn hSK (CE_1 (SK_ok hn hSK).2)) rfl (inr_of hin) hd (fun H1 locs1 hP1 hD1 hS1 => ?_)
            refine k H1 locs1 ?_ hS1 (fr_up (SK_lt hSK))
            have e9 := CE_1 (ad := ad) (cA := cA) (I := up2 I a i.toNatClampNeg x) (J := J) (SK_ok hn hSK).2
            rw [up2_eq] at e9
            rw [← e9, WS_set (SK_ok hn hSK).1 (fun b hb => up2_ne hb) (fun b hb => rfl)] at hP1
            exact hP1
      · cases h
    · cases h
  case castore =>
    have := e1 (z := 1) ho; subst this
    simp only [opM] at h
    split at h
    · next x i a r =>
      split at h
      · next t nn hSK =>
        cases hc : Nat.beq t 2 with
        | false => rw [hc] at h; cases h
        | true =>
          rw [hc] at h
          have et : t = 2 := Nat.eq_of_beq_eq_true hc
          subst et
          simp only [cond_true] at h
          split at h
          · cases h
          · next hin =>
            simp only [Option.some.injEq, Prod.mk.injEq] at h
            obtain ⟨rfl, rfl, rfl⟩ := h
            refine va_cast hx hb hK hP hD hS a 1 (WS_at hn hSK (CE_2 (SK_ok hn hSK).2)) rfl (inr_of hin) hd (fun H1 locs1 hP1 hD1 hS1 => ?_)
            refine k H1 locs1 ?_ hS1 (fr_up (SK_lt hSK))
            have e9 := CE_2 (ad := ad) (cA := cA) (I := up2 I a i.toNatClampNeg (vp_nar .char x)) (J := J) (SK_ok hn hSK).2
            rw [up2_eq] at e9
            rw [← e9, WS_set (SK_ok hn hSK).1 (fun b hb => up2_ne hb) (fun b hb => rfl)] at hP1
            exact hP1
      · cases h
    · cases h
  case lastore =>
    have := e1 (z := 1) ho; subst this
    simp only [opM] at h
    split at h
    · next x i a r =>
      split at h
      · next t nn hSK =>
        cases hc : Nat.beq t 3 with
        | false => rw [hc] at h; cases h
        | true =>
          rw [hc] at h
          have et : t = 3 := Nat.eq_of_beq_eq_true hc
          subst et
          simp only [cond_true] at h
          split at h
          · cases h
          · next hin =>
            simp only [Option.some.injEq, Prod.mk.injEq] at h
            obtain ⟨rfl, rfl, rfl⟩ := h
            refine va_last hx hb hK hP hD hS a 2 (WS_at hn hSK (CE_3 (SK_ok hn hSK).2)) rfl (inr_of hin) hd (fun H1 locs1 hP1 hD1 hS1 => ?_)
            refine k H1 locs1 ?_ hS1 FrI.rf
            have e9 := CE_3 (ad := ad) (cA := cA) (I := I) (J := upJ J a i.toNatClampNeg x) (SK_ok hn hSK).2
            rw [upJ_eq] at e9
            rw [← e9, WS_set (SK_ok hn hSK).1 (fun b hb => rfl) (fun b hb => upJ_ne hb)] at hP1
            exact hP1
      · cases h
    · cases h
  case arraylength =>
    have := e1 (z := 1) ho; subst this
    simp only [opM] at h
    split at h
    · next a r =>
      cases hc : (Nat.beq a 100 && Nat.beq own 7) with
      | false => rw [hc] at h; cases h
      | true =>
        rw [hc] at h
        obtain ⟨c1, c2⟩ := beq_and hc
        have et : a = 100 := Nat.eq_of_beq_eq_true c1
        have ec : own = 7 := Nat.eq_of_beq_eq_true c2
        subst et
        obtain ⟨L, xs, hL, hX, hlt, hnA, hI0, hI1⟩ := hscr
        simp only [cond_true, Option.some.injEq, Prod.mk.injEq] at h
        obtain ⟨rfl, rfl, rfl⟩ := h
        have := k H locs hP hS FrI.rf
        rw [hI1] at this
        exact va_slen hx hb hX hlt hnA hS hd this
    · cases h
  case ldc ix =>
    have := e1 (z := 2) ho; subst this
    simp only [opM] at h
    split at h
    · next v hv =>
      simp only [Option.some.injEq, Prod.mk.injEq] at h
      obtain ⟨rfl, rfl, rfl⟩ := h
      exact lv_ldc hx hb hown (hts _ (LC_ok hv)) hd (k H locs hP hS FrI.rf)
    · subst hb
      cases hc : (Nat.beq own 3 && Nat.beq ix 45) with
      | true =>
        rw [hc] at h
        obtain ⟨c1, c2⟩ := beq_and hc
        simp only [cond_true, Option.some.injEq, Prod.mk.injEq] at h
        obtain ⟨rfl, rfl, rfl⟩ := h
        exact hldc (Nat.eq_of_beq_eq_true c1) ix 201 (Or.inl ⟨Nat.eq_of_beq_eq_true c2, rfl⟩) H locs ls pc _ hd (k H locs hP hS FrI.rf)
      | false =>
        rw [hc] at h
        simp only [cond_false] at h
        cases hc2 : (Nat.beq own 3 && Nat.beq ix 64) with
        | false => rw [hc2] at h; cases h
        | true =>
          rw [hc2] at h
          obtain ⟨c1, c2⟩ := beq_and hc2
          simp only [cond_true, Option.some.injEq, Prod.mk.injEq] at h
          obtain ⟨rfl, rfl, rfl⟩ := h
          exact hldc (Nat.eq_of_beq_eq_true c1) ix 202 (Or.inr ⟨Nat.eq_of_beq_eq_true c2, rfl⟩) H locs ls pc _ hd (k H locs hP hS FrI.rf)
  case ldc_w ix =>
    have := e1 (z := 3) ho; subst this
    simp only [opM] at h
    split at h
    · next v hv =>
      simp only [Option.some.injEq, Prod.mk.injEq] at h
      obtain ⟨rfl, rfl, rfl⟩ := h
      exact lv_ldcw hx hb hown (hts _ (LC_ok hv)) hd (k H locs hP hS FrI.rf)
    · cases h
  case ldc2_w ix =>
    have := e1 (z := 3) ho; subst this
    simp only [opM] at h
    split at h
    · next v hv =>
      simp only [Option.some.injEq, Prod.mk.injEq] at h
      obtain ⟨rfl, rfl, rfl⟩ := h
      exact lv_ldc2 hx hb hown (hts _ (LC2_ok hv)) hd (k H locs hP hS FrI.rf)
    · cases h
end MEM
end
section
/-! ONE STEP, AN END, A CALL of the walked machine, on the machine -/
theorem good_w {w : Jvm.Cond} (h : w ∈ lw_good) : w ∈ lw_tbl ∧ goodWord w = true := List.mem_filter.mp h
theorem goodIn_lw {X : List Jvm.Cond} (h : ∀ w ∈ X, w ∈ lw_good) : GoodIn lw_good X := fun w hw => ⟨h w hw, good_of_word (good_w (h w hw)).2⟩
theorem swT_ok (x : Int32) (pc : Nat) (dd : Int) : ∀ (L : List Int) (k : Nat), k + L.length < 2 ^ 31 → (∃ j, j < L.length ∧ x = nI (k + j) ∧ ∃ o, L[j]? = some o ∧ swT x pc dd L k = tg pc o) ∨ ((∀ j, j < L.length → ¬ x = nI (k + j)) ∧ swT x pc dd L k = tg pc dd) := by
  intro L
  induction L with
  | nil => intro k _; exact Or.inr ⟨fun j hj => absurd hj (Nat.not_lt_zero j), rfl⟩
  | cons o t ih =>
    intro k hk
    simp only [List.length_cons] at hk
    by_cases e : x = nI k
    · refine Or.inl ⟨0, by simp, e, o, rfl, ?_⟩
      simp only [swT]
      exact if_pos e
    · have e2 : swT x pc dd (o :: t) k = swT x pc dd t (k + 1) := by simp only [swT]; exact if_neg e
      rcases ih (k + 1) (by omega) with ⟨j, h1, h2, o2, h3, h4⟩ | ⟨h1, h2⟩
      · exact Or.inl ⟨j + 1, by simp; exact h1, by rw [h2]; congr 1; omega, o2, by simpa using h3, by rw [e2, h4]⟩
      · refine Or.inr ⟨fun j hj => ?_, by rw [e2, h2]⟩
        cases j with
        | zero => exact e
        | succ j => have := h1 j (by simpa using hj); rwa [show k + 1 + j = k + (j + 1) by omega] at this
section STP
variable {p : Program} {l : Launch} {e : Env} {R : Room} {s : State} {m : MethodId} {args : Array Value} {below : List Frame} {meth : Method} {c : Code} {H : Heap} {locs : List Loc} {cells slots : Nat} {Q : State → Prop}
variable {cc : ByteArray} {pc n : Nat} {ls : Array Slot} {nW : Nat} {ad : Nat → Nat} {D : va_G} {cA : Nat → ClassId} {A : Nat → Prop}
theorem w_at {a b : Nat} (h : a = b) {st : List Value} (k : W p l e R s m args below meth c H locs cells slots Q (F0 m a ls st)) : W p l e R s m args below meth c H locs cells slots Q (F0 m b ls st) := h ▸ k
set_option maxHeartbeats 4000000 in
/-- jumps -/
theorem opJ_ok (hx : p.tables.exec = Jvm.exec) (hb : c.code = cc) {own : Nat} {i : Instr} {lv lv' : Lv} {st st' : St} {I I' : I2} {J J' : J2} {pc' : Nat} (hi : (∃ k o, i = .ifCond k o) ∨ (∃ k o, i = .if_icmp k o) ∨ (∃ o, i = .goto o) ∨ ∃ a b f g, i = .tableswitch a b f g) (h : exec1 own i pc n lv st I J = some (pc', lv', st', I', J')) (hd : decode cc pc = .ok (i, n)) (ho : okIns pc i n = true) :
    lv' = lv ∧ I' = I ∧ J' = J ∧ (W p l e R s m args below meth c H locs cells slots Q (F0 m pc' ls (st'.map (kv ad))) → W p l e R s m args below meth c H locs cells slots Q (F0 m pc ls (st.map (kv ad)))) := by
  have e1 : ∀ {z : Nat}, Nat.beq n z = true → n = z := fun h => Nat.eq_of_beq_eq_true h
  rcases hi with ⟨k, o, rfl⟩ | ⟨k, o, rfl⟩ | ⟨o, rfl⟩ | ⟨a, b, f, g, rfl⟩
  · simp only [exec1] at h
    split at h
    · next x r =>
      simp only [Option.some.injEq, Prod.mk.injEq] at h
      obtain ⟨rfl, rfl, rfl, rfl, rfl⟩ := h
      refine ⟨rfl, rfl, rfl, fun kk => ?_⟩
      simp only [okIns, Bool.and_eq_true, decide_eq_true_eq] at ho
      have := e1 ho.1; subst this
      have ht := ho.2
      cases k <;> simp only [brI] at kk
      · exact lv_if_eq hx hb hd ht (fun q => w_at (if_pos q) kk) (fun q => w_at (if_neg q) kk)
      · exact lv_if_ne hx hb hd ht (fun q => w_at (if_neg q) kk) (fun q => w_at (if_pos q) kk)
      · exact lv_if_lt hx hb hd ht (fun q => w_at (if_pos q) kk) (fun q => w_at (if_neg q) kk)
      · exact lv_if_ge hx hb hd ht (fun q => w_at (if_neg (Int32.not_lt.mpr q)) kk) (fun q => w_at (if_pos (Int32.not_le.mp q)) kk)
      · exact lv_if_gt hx hb hd ht (fun q => w_at (if_pos q) kk) (fun q => w_at (if_neg q) kk)
      · exact lv_if_le hx hb hd ht (fun q => w_at (if_neg (Int32.not_lt.mpr q)) kk) (fun q => w_at (if_pos (Int32.not_le.mp q)) kk)
    · cases h
  · simp only [exec1] at h
    split at h
    · next y x r =>
      simp only [Option.some.injEq, Prod.mk.injEq] at h
      obtain ⟨rfl, rfl, rfl, rfl, rfl⟩ := h
      refine ⟨rfl, rfl, rfl, fun kk => ?_⟩
      simp only [okIns, Bool.and_eq_true, decide_eq_true_eq] at ho
      have := e1 ho.1; subst this
      have ht := ho.2
      cases k <;> simp only [brC] at kk
      · exact lv_icmp_eq hx hb hd ht (fun q => w_at (if_pos q) kk) (fun q => w_at (if_neg q) kk)
      · exact lv_icmp_ne hx hb hd ht (fun q => w_at (if_neg q) kk) (fun q => w_at (if_pos q) kk)
      · exact lv_icmp_lt hx hb hd ht (fun q => w_at (if_pos q) kk) (fun q => w_at (if_neg q) kk)
      · exact lv_icmp_ge hx hb hd ht (fun q => w_at (if_neg (Int32.not_lt.mpr q)) kk) (fun q => w_at (if_pos (Int32.not_le.mp q)) kk)
      · exact lv_icmp_gt hx hb hd ht (fun q => w_at (if_pos q) kk) (fun q => w_at (if_neg q) kk)
      · exact lv_icmp_le hx hb hd ht (fun q => w_at (if_neg (Int32.not_lt.mpr q)) kk) (fun q => w_at (if_pos (Int32.not_le.mp q)) kk)
    · cases h
  · simp only [exec1, Option.some.injEq, Prod.mk.injEq] at h
    obtain ⟨rfl, rfl, rfl, rfl, rfl⟩ := h
    refine ⟨rfl, rfl, rfl, fun kk => ?_⟩
    simp only [okIns, Bool.and_eq_true, decide_eq_true_eq] at ho
    have := e1 ho.1; subst this
    exact lv_goto hx hb hd ho.2 kk
  · simp only [exec1] at h
    split at h
    · next x r =>
      simp only [Option.some.injEq, Prod.mk.injEq] at h
      obtain ⟨rfl, rfl, rfl, rfl, rfl⟩ := h
      refine ⟨rfl, rfl, rfl, fun kk => ?_⟩
      simp only [okIns, Bool.and_eq_true, decide_eq_true_eq, List.all_eq_true] at ho
      obtain ⟨⟨⟨⟨h0, h1⟩, h2⟩, h3⟩, h4⟩ := ho
      subst h0
      have hlen : g.toList.length = g.size := by simp
      rcases swT_ok x pc a g.toList 0 (by omega) with ⟨j, q1, q2, o, q3, q4⟩ | ⟨q1, q2⟩
      · rw [q4] at kk
        have hjs : j < 2 ^ 31 := by omega
        have hxi : x.toInt = (j : Int) := by rw [q2, Nat.zero_add]; exact nI_toInt hjs
        refine lv_tableIn hx hb hd (by omega) (by omega) (off := o) ?_ (h4 o (List.mem_of_getElem? q3)) kk
        rw [hxi, show ((j : Int) - 0).toNat = j by omega]
        rw [← Array.getElem?_toList]; exact q3
      · rw [q2] at kk
        refine lv_tableOut hx hb hd ?_ h3 kk
        rcases Int.lt_or_le x.toInt 0 with z | z
        · exact Or.inl z
        · refine Or.inr ?_
          rcases Int.lt_or_le f x.toInt with y | y
          · exact y
          · exfalso
            refine q1 x.toInt.toNat (by omega) ?_
            rw [Nat.zero_add]
            apply Int32.toInt_inj.mp
            rw [nI_toInt (by omega)]; omega
    · cases h
/-- a text asked for a letter -/
def IdxOK (p : Program) (l : Launch) (e : Env) (R : Room) (s : State) (m : MethodId) (args : Array Value) (below : List Frame) (meth : Method) (c : Code) (cells slots : Nat) (Q : State → Prop) (ad : Nat → Nat) (A : Nat → Prop) (own : Nat) : Prop :=
  own = 3 → ∀ (a : Nat) (tx : List Int32), (a = 201 ∧ tx = tx1 ∨ a = 202 ∧ tx = tx2) → ∀ (H : Heap) (locs : List Loc) (ls : Array Slot) (pc : Nat) (r : St) (ch : Int32), va_S A s.heap H locs → ls.size = c.maxLocals → decode c.code pc = .ok (.invokevirtual 86, 3) → (r.map fun v => v.category).sum ≤ 8 → (∀ locs', va_S A s.heap H locs' → W p l e R s m args below meth c H locs' cells slots Q (F0 m (pc + 3) ls (.int (txF ch tx 0) :: r))) → W p l e R s m args below meth c H locs cells slots Q (F0 m pc ls (.int ch :: .ref (ad a) :: r))
theorem cat_kv (r : St) : ((r.map (kv ad)).map fun v => v.category) = r.map fun v => v.category := by
  rw [List.map_map]; exact List.map_congr_left (fun v _ => kv_cat)
theorem cp_words : Cond.methodLink "SecretBox$Box" 65 arraycopyName ∈ lw_good ∧ Cond.native arraycopyName ∈ lw_good ∧ Cond.static arraycopyName ∈ lw_good ∧ Cond.initialized "java/lang/System" ∈ lw_good :=
  ⟨good_at (i := 362) (by decide +kernel) rfl, good_at (i := 364) (by decide +kernel) rfl, good_at (i := 363) (by decide +kernel) rfl, good_at (i := 36) (by decide +kernel) rfl⟩
set_option maxHeartbeats 4000000 in
theorem opX_ok (hx : p.tables.exec = Jvm.exec) (hb : c.code = cc) (hml : c.maxLocals = ls.size) {own : Nat} (hown : s.vm.findClass (RNf own) = some m.cls) (hts : ∀ w ∈ lw_good, w.before args s = true) (hK : va_K D vwCl (tysA cA) s) (hW : WDp nW ad A) (hR : 1 ≤ R.frames ∧ 100 ≤ R.locals) {i : Instr} {st st' : St} {I I' : I2} {J J' : J2} (hn : nOK nW own) (hidx : IdxOK p l e R s m args below meth c cells slots Q ad A own) (h : opX own i st I J = some (st', I', J')) (hd : decode cc pc = .ok (i, n)) (ho : okIns pc i n = true) (hP : va_P D vwCl (WS nW ad cA I J) H) (hS : va_S A s.heap H locs)
    (k : ∀ (H' : Heap) (locs' : List Loc), va_P D vwCl (WS nW ad cA I' J') H' → va_S A s.heap H' locs' → FrI I I' → W p l e R s m args below meth c H' locs' cells slots Q (F0 m (pc + n) ls (st'.map (kv ad)))) : W p l e R s m args below meth c H locs cells slots Q (F0 m pc ls (st.map (kv ad))) := by
  have e1 : ∀ {z : Nat}, Nat.beq n z = true → n = z := fun h => Nat.eq_of_beq_eq_true h
  have hD : va_D A (WS nW ad cA I J) := WS_D hW
  cases i
  all_goals first
    | (exfalso; simp [opX] at h; done)
    | skip
  case invokestatic ix =>
    have := e1 (z := 3) ho; subst this
    simp only [opX] at h
    cases hown2 : (Nat.beq own 0 && Nat.beq ix 65) with
    | false => rw [hown2] at h; cases h
    | true =>
      rw [hown2] at h
      simp only [cond_true] at h
      have hlink : Cond.methodLink (RNf own) ix arraycopyName ∈ lw_good := by
        obtain ⟨a1, a2⟩ := beq_and hown2
        rw [Nat.eq_of_beq_eq_true a1, Nat.eq_of_beq_eq_true a2]; exact cp_words.1
      split at h
      · next nn dp a sp b r =>
        cases hr : Nat.ble (r.map fun v => v.category).sum 8 with
        | false => rw [hr] at h; cases h
        | true =>
          rw [hr] at h
          have hr8 : (r.map fun v => v.category).sum ≤ 8 := Nat.le_of_ble_eq_true hr
          simp only [cond_true] at h
          have hroom : ((r.map (kv ad)).map fun v => v.category).sum + (nativeFrameWords "java/lang/System" "arraycopy" 5 + 11) ≤ R.locals := by
            rw [cat_kv]
            have : nativeFrameWords "java/lang/System" "arraycopy" 5 = 7 := by decide +kernel
            omega
          split at h
          · next t x u y ha hb2 =>
            split at h
            · cases h
            · next hin =>
              simp only [not_or] at hin
              obtain ⟨g1, g2, g3, g4, g5⟩ := hin
              cases h1 : (Nat.beq t 1 && Nat.beq u 1) with
              | true =>
                rw [h1] at h
                simp only [cond_true, Option.some.injEq, Prod.mk.injEq] at h
                obtain ⟨rfl, rfl, rfl⟩ := h
                obtain ⟨c1, c2⟩ := beq_and h1
                have et : t = 1 := Nat.eq_of_beq_eq_true c1
                have eu : u = 1 := Nat.eq_of_beq_eq_true c2
                subst et; subst eu
                refine va_copyi hx hb hml hown (hts _ hlink) (hts _ cp_words.2.1) (hts _ cp_words.2.2.1) (hts _ cp_words.2.2.2) hK hP hD hS b a 0 0 (WS_at hn hb2 (CE_1 (SK_ok hn hb2).2)) (WS_at hn ha (CE_1 (SK_ok hn ha).2)) (ty := .int) rfl rfl rfl g1 g2 g3 (by omega) (by omega) (fun _ _ => rfl) hR.1 hroom hd (fun H1 locs1 hP1 hD1 hS1 => ?_)
                refine k H1 locs1 ?_ hS1 (fun b9 hb9 => if_neg (by have := SK_lt ha; omega))
                have e9 := CE_1 (ad := ad) (cA := cA) (I := fun i => if i = a then va_cpy (I b) (I a) sp.toNatClampNeg dp.toNatClampNeg nn.toNatClampNeg else I i) (J := J) (SK_ok hn ha).2
                simp only [↓reduceIte] at e9
                rw [← e9, WS_set (SK_ok hn ha).1 (fun b hb => if_neg hb) (fun b hb => rfl)] at hP1
                exact hP1
              | false =>
                rw [h1] at h
                simp only [cond_false] at h
                cases h3 : (Nat.beq t 3 && Nat.beq u 3) with
                | false => rw [h3] at h; cases h
                | true =>
                  rw [h3] at h
                  simp only [cond_true, Option.some.injEq, Prod.mk.injEq] at h
                  obtain ⟨rfl, rfl, rfl⟩ := h
                  obtain ⟨c1, c2⟩ := beq_and h3
                  have et : t = 3 := Nat.eq_of_beq_eq_true c1
                  have eu : u = 3 := Nat.eq_of_beq_eq_true c2
                  subst et; subst eu
                  refine va_copyl hx hb hml hown (hts _ hlink) (hts _ cp_words.2.1) (hts _ cp_words.2.2.1) (hts _ cp_words.2.2.2) hK hP hD hS b a 2 2 (WS_at hn hb2 (CE_3 (SK_ok hn hb2).2)) (WS_at hn ha (CE_3 (SK_ok hn ha).2)) (ty := .long) rfl rfl rfl g1 g2 g3 (by omega) (by omega) (fun _ _ => rfl) hR.1 hroom hd (fun H1 locs1 hP1 hD1 hS1 => ?_)
                  refine k H1 locs1 ?_ hS1 FrI.rf
                  have e9 := CE_3 (ad := ad) (cA := cA) (I := I) (J := fun i => if i = a then va_cpy (J b) (J a) sp.toNatClampNeg dp.toNatClampNeg nn.toNatClampNeg else J i) (SK_ok hn ha).2
                  simp only [↓reduceIte] at e9
                  rw [← e9, WS_set (SK_ok hn ha).1 (fun b hb => rfl) (fun b hb => if_neg hb)] at hP1
                  exact hP1
          · cases h
      · cases h
  case invokevirtual ix =>
    have := e1 (z := 3) ho; subst this
    simp only [opX] at h
    cases hown2 : (Nat.beq own 3 && Nat.beq ix 86) with
    | false => rw [hown2] at h; cases h
    | true =>
      rw [hown2] at h
      simp only [cond_true] at h
      obtain ⟨c1, c2⟩ := beq_and hown2
      have e3 : ix = 86 := Nat.eq_of_beq_eq_true c2
      subst e3
      subst hb
      split at h
      · next ch a r =>
        cases hr : Nat.ble (r.map fun v => v.category).sum 8 with
        | false => rw [hr] at h; cases h
        | true =>
          rw [hr] at h
          have hr8 : (r.map fun v => v.category).sum ≤ 8 := Nat.le_of_ble_eq_true hr
          simp only [cond_true] at h
          cases h1 : Nat.beq a 201 with
          | true =>
            rw [h1] at h
            simp only [cond_true, Option.some.injEq, Prod.mk.injEq] at h
            obtain ⟨rfl, rfl, rfl⟩ := h
            exact hidx (Nat.eq_of_beq_eq_true c1) a tx1 (Or.inl ⟨Nat.eq_of_beq_eq_true h1, rfl⟩) H locs ls pc (r.map (kv ad)) ch hS hml.symm hd (by rw [cat_kv]; exact hr8) (fun locs' hS' => k H locs' hP hS' FrI.rf)
          | false =>
            rw [h1] at h
            simp only [cond_false] at h
            cases h2 : Nat.beq a 202 with
            | false => rw [h2] at h; cases h
            | true =>
              rw [h2] at h
              simp only [cond_true, Option.some.injEq, Prod.mk.injEq] at h
              obtain ⟨rfl, rfl, rfl⟩ := h
              exact hidx (Nat.eq_of_beq_eq_true c1) a tx2 (Or.inr ⟨Nat.eq_of_beq_eq_true h2, rfl⟩) H locs ls pc (r.map (kv ad)) ch hS hml.symm hd (by rw [cat_kv]; exact hr8) (fun locs' hS' => k H locs' hP hS' FrI.rf)
      · cases h
end STP
end
section
/-! THE WALKED MACHINE IS THE MACHINE: every call that it tells, the machine does -/
theorem ScrOK.fr {ad : Nat → Nat} {A : Nat → Prop} {s : State} {I0 I : I2} (h : ScrOK ad A s I0) (hf : FrI I0 I) : ScrOK ad A s I := by
  obtain ⟨L, xs, h1, h2, h3, h4, h5, h6⟩ := h
  exact ⟨L, xs, h1, h2, h3, h4, by rw [hf 100 (by decide)]; exact h5, by rw [hf 101 (by decide)]; exact h6⟩
/-- what is given of the texts: two Strings of the library's form, apart from the world -/
def Exw (ad : Nat → Nat) (A : Nat → Prop) (U : State) : Prop :=
  vk_S 2 [5, 3] [[112, 115, 114, 108, 98], [60, 62, 61]] (fun i => ad (201 + i)) (fun i => ad (211 + i)) A U U.heap ∧ vk_R "SecretBox$Tape" 45 "psrlb" (ad 201) U ∧ vk_R "SecretBox$Tape" 64 "<>=" (ad 202) U ∧ va_Z "java/lang/String" "COMPACT_STRINGS" "Z" (.int 1) A U U.heap ∧ va_Nw (.methodLinkNest "SecretBox$Box" 77 (yM Sb_placeIn) "SecretBox") U
def Wd (nW : Nat) (D : va_G) (ad : Nat → Nat) (cA : Nat → ClassId) (A : Nat → Prop) (I : I2) (J : J2) (U : State) : Prop := va_P D vwCl (WS nW ad cA I J) U.heap ∧ va_K D vwCl (tysA cA) U ∧ Exw ad A U ∧ ScrOK ad A U I
def QW (nW : Nat) (D : va_G) (ad : Nat → Nat) (cA : Nat → ClassId) (A : Nat → Prop) (I0 : I2) (Q : Post) : Array Value → State → Outcome → State → Prop := fun _ st oc t =>
  (∃ (r : Option Value) (I' : I2) (J' : J2), oc = .returned (r.map (kv ad)) ∧ Q r I' J' ∧ FrI I0 I' ∧ va_P D vwCl (WS nW ad cA I' J') t.heap) ∧ va_F A st t
def rmd (d : Nat) : Room := { frames := d + 20, cells := 0, slots := 0, locals := 1000 + 64 * d }
def Wr (p : Program) (l : Launch) (e : Env) (R : Room) (s : State) (m : MethodId) (args : Array Value) (below : List Frame) (meth : Method) (c : Code) (cells slots : Nat) (Q : State → Prop) (nW : Nat) (D : va_G) (ad : Nat → Nat) (cA : Nat → ClassId) (A : Nat → Prop) (I0 : I2) (M : Nat) (pc : Nat) (lv : Lv) (st : St) (I : I2) (J : J2) : Prop :=
  ∀ (H : Heap) (locs : List Loc) (ls : Array Slot), va_P D vwCl (WS nW ad cA I J) H → va_S A s.heap H locs → lv.length = mlM M → lv_has ls (mlM M) (klv ad lv) → FrI I0 I → W p l e R s m args below meth c H locs cells slots Q (F0 m pc ls (st.map (kv ad)))
def okN (own : String) (q : Fe) : Bool := !(Nat.beq q.2.1 2) || (decide (own = "SecretBox$Box") && Nat.beq q.1 77 && Nat.beq q.2.2.1 Sb_placeIn)
theorem kn_all (own : Nat) : (bif Nat.ble own 4 then (bif Nat.ble own 1 then (bif Nat.ble own 0 then (c_0) else (c_1)) else (bif Nat.ble own 2 then (c_2) else (bif Nat.ble own 3 then (c_3) else (c_4)))) else (bif Nat.ble own 6 then (bif Nat.ble own 5 then (c_5) else (c_6)) else (bif Nat.ble own 7 then (c_7) else (bif Nat.ble own 8 then (c_8) else (c_9))))).all (okN (RNf own)) = true := (bif_p2 (P := fun (a : String) (b : List Fe) => b.all (okN a) = true) (bif_p2 (P := fun (a : String) (b : List Fe) => b.all (okN a) = true) (bif_p2 (P := fun (a : String) (b : List Fe) => b.all (okN a) = true) (by decide +kernel) (by decide +kernel)) (bif_p2 (P := fun (a : String) (b : List Fe) => b.all (okN a) = true) (by decide +kernel) (bif_p2 (P := fun (a : String) (b : List Fe) => b.all (okN a) = true) (by decide +kernel) (by decide +kernel)))) (bif_p2 (P := fun (a : String) (b : List Fe) => b.all (okN a) = true) (bif_p2 (P := fun (a : String) (b : List Fe) => b.all (okN a) = true) (by decide +kernel) (by decide +kernel)) (bif_p2 (P := fun (a : String) (b : List Fe) => b.all (okN a) = true) (by decide +kernel) (bif_p2 (P := fun (a : String) (b : List Fe) => b.all (okN a) = true) (by decide +kernel) (by decide +kernel)))))
theorem nest_only {own ix M n : Nat} (h : KTf own ix = some (2, M, n)) : RNf own = "SecretBox$Box" ∧ ix = 77 ∧ M = Sb_placeIn := by
  have h1 := List.all_eq_true.mp (kn_all own) _ (lkF_mem h)
  unfold okN at h1
  simp only [show Nat.beq 2 2 = true from rfl, Bool.not_true, Bool.false_or, Bool.and_eq_true, decide_eq_true_eq] at h1
  exact ⟨h1.1.1, Nat.eq_of_beq_eq_true h1.1.2, Nat.eq_of_beq_eq_true h1.2⟩
theorem vwCl_R : ∀ ci, ci < 6 → ∃ (T : u_T) (N : Nat), vwCl[ci]? = some (RNf ci, T, N) := by
  intro ci h
  match ci, h with
  | 0, _ => exact ⟨_, _, rfl⟩
  | 1, _ => exact ⟨_, _, rfl⟩
  | 2, _ => exact ⟨_, _, rfl⟩
  | 3, _ => exact ⟨_, _, rfl⟩
  | 4, _ => exact ⟨_, _, rfl⟩
  | 5, _ => exact ⟨_, _, rfl⟩
theorem owM_name {M : Nat} (h : calB M = true) : (yM M).cls = RNf (owM M) ∧ Jvm.Cond.code (yM M) (bM M) (mlM M) (rtM M) ∈ lw_good ∧ Jvm.Cond.initialized (yM M).cls ∈ lw_good ∧ plainName (yM M).cls = true ∧ (yM M).cls ≠ "java/lang/invoke/MethodHandle" ∧ (yM M).cls ≠ "java/lang/invoke/VarHandle" := by
  rcases km_all M with q | ⟨pp, hp⟩
  · exact absurd q (calB_of h).1
  · unfold okMr at hp
    simp only [Bool.and_eq_true, decide_eq_true_eq] at hp
    obtain ⟨⟨⟨⟨⟨h1, h2⟩, h3⟩, h4⟩, h5⟩, h6⟩ := hp
    exact ⟨h4, good_at h1 rfl, good_at h2 rfl, h3, h5, h6⟩
theorem ws_in {M : Nat} (h : calB M = true) : ∀ w ∈ wsM M, w ∈ lw_good := by
  intro w hw
  rcases List.mem_cons.mp hw with rfl | h2
  · exact (owM_name h).2.1
  · exact h2
section CLL
variable {p : Program} {l : Launch} {e : Env} {R : Room} {s : State} {m : MethodId} {args : Array Value} {below : List Frame} {meth : Method} {c : Code} {H : Heap} {locs : List Loc} {cells slots : Nat} {Q : State → Prop}
variable {pc : Nat} {ls : Array Slot} {nW : Nat} {ad : Nat → Nat} {D : va_G} {cA : Nat → ClassId} {A : Nat → Prop}
theorem va_callQ {rest st0 : List Value} {a : Array Value} {Q' : Post} {I : I2} (hr : va_Run p l e R s m args below meth c H locs cells slots 0 0 (F0 m pc ls st0) rest (QW nW D ad cA A I Q' a) A) (hS : va_S A s.heap H locs)
    (kk : ∀ (r : Option Value) (I' : I2) (J' : J2) (H1 : Heap) (locs1 : List Loc), Q' r I' J' → FrI I I' → va_P D vwCl (WS nW ad cA I' J') H1 → va_S A s.heap H1 locs1 → W p l e R s m args below meth c H1 locs1 cells slots Q (F0 m (pc + 3) ls ((r.map (kv ad)).toList ++ rest))) : W p l e R s m args below meth c H locs cells slots Q (F0 m pc ls st0) := by
  intro T hT X
  obtain ⟨v, st₀, t, T', L, h0, X', hL, e1, e2, ⟨⟨r, I', J', hv, hq, hf, hp⟩, hz, hk⟩, st⟩ := hr T hT X
  cases hv
  rw [h0] at hz hk
  obtain ⟨t2, a1, b1⟩ := kk r I' J' T'.heap (locs ++ L) hq hf (by rw [e1]; exact hp)
    ⟨Nat.le_trans hS.1 (by rw [e1]; exact hz), fun q h1 h2 => by rw [e1, hk q (Nat.lt_of_lt_of_le h1 hS.1) h2]; exact hS.2.1 q h1 h2, fun q hq => by
      rcases List.mem_append.mp hq with h | h
      · exact hS.2.2 q h
      · exact hL q h⟩ T' rfl X'
  exact ⟨t2, st t2 a1, b1⟩
theorem step_ok {I0 : I2} {M : Nat} (hx : p.tables.exec = Jvm.exec) (hb : c.code = bM M) (hml : c.maxLocals = mlM M) (hown : s.vm.findClass (RNf (owM M)) = some m.cls) (hts : ∀ w ∈ lw_good, w.before args s = true) (hK : va_K D vwCl (tysA cA) s) (hW : WDp nW ad A) (hR : 1 ≤ R.frames ∧ 100 ≤ R.locals) (hn : nOK nW (owM M)) (hscr : ScrOK ad A s I0) (hldc : LdcOK p l e R s m args below meth c cells slots Q ad (owM M)) (hidx : IdxOK p l e R s m args below meth c cells slots Q ad A (owM M)) {pc pc' : Nat} {lv lv' : Lv} {st st' : St} {I I' : I2} {J J' : J2} (h : stepP M (pc, lv, st, I, J) = some (pc', lv', st', I', J')) (k : Wr p l e R s m args below meth c cells slots Q nW D ad cA A I0 M pc' lv' st' I' J') : Wr p l e R s m args below meth c cells slots Q nW D ad cA A I0 M pc lv st I J := by
  intro H locs ls hP hS hlen hl hfr
  simp only [stepP] at h
  split at h
  · next i n hf =>
    obtain ⟨hd, ho⟩ := fetch_ok hf
    have rest : exec1 (owM M) i pc n lv st I J = (match opS i st with
      | some st' => some (pc + n, lv, st', I, J)
      | none => match opL i lv st with
        | some (lv', st') => some (pc + n, lv', st', I, J)
        | none => match opM (owM M) i st I J with
          | some (st', I', J') => some (pc + n, lv, st', I', J')
          | none => match opX (owM M) i st I J with
            | some (st', I', J') => some (pc + n, lv, st', I', J')
            | none => none) → W p l e R s m args below meth c H locs cells slots Q (F0 m pc ls (st.map (kv ad))) := by
      intro e9
      rw [e9] at h
      split at h
      · next s2 h2 =>
        simp only [Option.some.injEq, Prod.mk.injEq] at h
        obtain ⟨rfl, rfl, rfl, rfl, rfl⟩ := h
        exact opS_ok hx hb h2 hd ho (k H locs ls hP hS hlen hl hfr)
      · split at h
        · next l2 s2 h2 =>
          simp only [Option.some.injEq, Prod.mk.injEq] at h
          obtain ⟨rfl, rfl, rfl, rfl, rfl⟩ := h
          exact opL_ok hx hb h2 hd ho hlen hl (fun ls' hl2 hl3 => k H locs ls' hP hS hl2 hl3 hfr)
        · split at h
          · next s2 i2 j2 h2 =>
            simp only [Option.some.injEq, Prod.mk.injEq] at h
            obtain ⟨rfl, rfl, rfl, rfl, rfl⟩ := h
            exact opM_ok hx hb hown hts hK hW hn (hscr.fr hfr) hldc h2 hd ho hP hS (fun H' locs' hP' hS' hf' => k H' locs' ls hP' hS' hlen hl (hfr.tr hf'))
          · split at h
            · next s2 i2 j2 h2 =>
              simp only [Option.some.injEq, Prod.mk.injEq] at h
              obtain ⟨rfl, rfl, rfl, rfl, rfl⟩ := h
              exact opX_ok hx hb (hml.trans hl.1.symm) hown hts hK hW hR hn hidx h2 hd ho hP hS (fun H' locs' hP' hS' hf' => k H' locs' ls hP' hS' hlen hl (hfr.tr hf'))
            · cases h
    have jump : ((∃ k o, i = .ifCond k o) ∨ (∃ k o, i = .if_icmp k o) ∨ (∃ o, i = .goto o) ∨ ∃ a b f g, i = .tableswitch a b f g) → W p l e R s m args below meth c H locs cells slots Q (F0 m pc ls (st.map (kv ad))) := by
      intro hi
      obtain ⟨rfl, rfl, rfl, g⟩ := opJ_ok (p := p) (l := l) (e := e) (R := R) (s := s) (m := m) (args := args) (below := below) (meth := meth) (H := H) (locs := locs) (cells := cells) (slots := slots) (Q := Q) (ls := ls) (ad := ad) hx hb hi h hd ho
      exact g (k H locs ls hP hS hlen hl hfr)
    cases i
    case ifCond a b => exact jump (Or.inl ⟨_, _, rfl⟩)
    case if_icmp a b => exact jump (Or.inr (Or.inl ⟨_, _, rfl⟩))
    case goto a => exact jump (Or.inr (Or.inr (Or.inl ⟨_, rfl⟩)))
    case tableswitch a b f g => exact jump (Or.inr (Or.inr (Or.inr ⟨_, _, _, _, rfl⟩)))
    all_goals exact rest rfl
  · cases h
theorem map_cat {f : Value → Value} : True := trivial
set_option maxHeartbeats 4000000 in
theorem call_ok {I0 : I2} {M d : Nat} (hx : p.tables.exec = Jvm.exec) (hb : c.code = bM M) (hml : c.maxLocals = mlM M) (hown : s.vm.findClass (RNf (owM M)) = some m.cls) (hts : ∀ w ∈ lw_good, w.before args s = true) (hK : va_K D vwCl (tysA cA) s) (hW : WDp nW ad A) (hn : nOK nW (owM M)) (hscr : ScrOK ad A s I0) (hE : Exw ad A s) (hfr1 : (rmd d).frames + 1 ≤ R.frames) (hfr2 : 60 + (rmd d).locals ≤ R.locals) (hcl : cells ≤ R.cells) (hsl : slots ≤ R.slots)
    (IH : ∀ (M' : Nat) (as : List Value) (I : I2) (J : J2) (Q' : Post), calB M' = true → callW d M' as I J Q' → Met l (yM M') (wsM M') (rmd d) (va_Pc (as.map (kv ad)) (Wd nW D ad cA A I J)) (QW nW D ad cA A I Q') 0 0 A)
    {pc : Nat} {lv : Lv} {st : St} {I : I2} {J : J2} {M' : Nat} {as : List Value} {rest : St} (h : callP M pc st = some (M', as, rest)) (k : callW d M' as I J (fun r I' J' => Wr p l e R s m args below meth c cells slots Q nW D ad cA A I0 M (pc + 3) lv (r.toList ++ rest) I' J')) : Wr p l e R s m args below meth c cells slots Q nW D ad cA A I0 M pc lv st I J := by
  intro H locs ls hP hS hlen hl hfr
  have hblind : ∀ as : List Value, FrameBlind (va_Pc (as.map (kv ad)) (Wd nW D ad cA A I J)) := by
    intro as a U g mk q
    obtain ⟨q1, q2, q3, q4, L9, xs9, z1, z2, z3, z4, z5, z6⟩ := q
    refine ⟨q1, q2, va_K.moved (u := U) (U := U.calling g mk a) (Vm.Alike.refl U.vm) q3, ?_, L9, xs9, z1, va_X.moved (u := U) (U := U.calling g mk a) (Vm.Alike.refl U.vm) z2, z3, z4, z5, z6⟩
    exact ⟨vk_S.moved (u := U) (U := U.calling g mk a) (Vm.Alike.refl U.vm) q4.1, vk_R.same (u := U) rfl q4.2.1, vk_R.same (u := U) rfl q4.2.2.1, va_Z.moved (u := U) (U := U.calling g mk a) (Vm.Alike.refl U.vm) q4.2.2.2.1, va_Nw.same rfl (u := U) rfl q4.2.2.2.2⟩
  have hpre : ∀ U : State, U.heap = H → s.WarmedH U.vm → Wd nW D ad cA A I J U := by
    intro U hU hwm
    obtain ⟨L9, xs9, z1, z2, z3, z4, z5, z6⟩ := hscr.fr hfr
    refine ⟨by rw [hU]; exact hP, va_K.moved hwm.alike hK, ?_, L9, xs9, z1, va_X.moved hwm.alike (by rw [hU]; exact va_X.kept z2 (hS.2.1 _ z3 z4)), by rw [hU]; exact Nat.lt_of_lt_of_le z3 hS.1, z4, z5, z6⟩
    refine ⟨?_, vk_R.warm hwm hE.2.1, vk_R.warm hwm hE.2.2.1, ?_, va_Nw.warmM hwm hE.2.2.2.2⟩
    · exact vk_S.moved hwm.alike (by rw [hU]; exact vk_S.kept hE.1 (fun q h1 h2 => hS.2.1 q h1 h2))
    · exact va_Z.moved hwm.alike (by rw [hU]; exact va_Z.kept hE.2.2.2.1 (fun q h1 h2 => hS.2.1 q h1 h2))
  have go : ∀ (stk : List Value), stk = st.map (kv ad) → va_Run p l e R s m args below meth c H locs cells slots 0 0 (F0 m pc ls stk) (rest.map (kv ad)) (QW nW D ad cA A I (fun r I' J' => Wr p l e R s m args below meth c cells slots Q nW D ad cA A I0 M (pc + 3) lv (r.toList ++ rest) I' J') (as.map (kv ad)).toArray) A → W p l e R s m args below meth c H locs cells slots Q (F0 m pc ls (st.map (kv ad))) := by
    intro stk hstk hrun
    subst hstk
    refine va_callQ hrun hS (fun r I' J' H1 locs1 hq hf hp hs1 => ?_)
    have := hq H1 locs1 ls hp hs1 hlen hl (hfr.tr hf)
    rw [List.map_append] at this
    have e8 : (r.toList.map (kv ad)) = (r.map (kv ad)).toList := by cases r <;> rfl
    rw [e8] at this
    exact this
  have hfix : CallFix p m c (bM M) (mlM M) s args lw_good (RNf (owM M)) := ⟨hx, hb, hml, hown, hts⟩
  unfold callP at h
  split at h
  · next ix n hf =>
    obtain ⟨hd, ho⟩ := fetch_ok hf
    have e3 : n = 3 := Nat.eq_of_beq_eq_true (show Nat.beq n 3 = true from ho)
    subst e3
    split at h
    · next kd M2 nn hk =>
      cases hc : (Nat.beq kd 0 && Nat.beq (st.take nn).length nn) with
      | false => rw [hc] at h; cases h
      | true =>
        rw [hc] at h
        simp only [cond_true] at h
        obtain ⟨c1, c2⟩ := beq_and hc
        have ekd : kd = 0 := Nat.eq_of_beq_eq_true c1
        have elen : (st.take nn).length = nn := Nat.eq_of_beq_eq_true c2
        subst ekd
        split at h
        · next b r hdrop =>
          split at h
          · next t cc hsk =>
            cases hc3 : (Nat.beq t 0 && Nat.beq cc (owM M2) && Nat.ble (r.map fun v => v.category).sum 8) with
            | false => rw [hc3] at h; cases h
            | true =>
              rw [hc3] at h
              simp only [cond_true, Option.some.injEq, Prod.mk.injEq] at h
              obtain ⟨rfl, rfl, rfl⟩ := h
              obtain ⟨c4, c5⟩ := beq_and hc3
              obtain ⟨c6, c7⟩ := beq_and c4
              have et : t = 0 := Nat.eq_of_beq_eq_true c6
              have ec : cc = owM M2 := Nat.eq_of_beq_eq_true c7
              have hr8 : (r.map fun v => v.category).sum ≤ 8 := Nat.le_of_ble_eq_true c5
              subst et; subst ec
              obtain ⟨pp, hok⟩ := KT_ok hk
              unfold okK at hok
              simp only [Bool.and_eq_true, decide_eq_true_eq] at hok
              obtain ⟨⟨⟨hM1, hlaw⟩, hdesc⟩, ⟨hw1, hw2⟩, hw3⟩ := hok
              obtain ⟨n1, n2, n3, n4, n5, n6⟩ := owM_name hlaw
              have hM := IH M2 _ I J _ hlaw k
              obtain ⟨hb57, hSKt, hc7⟩ := SKf_obj hsk
              have hbn : b < nW := Nat.lt_of_lt_of_le hb57 (Nat.le_trans (by decide) hn.1)
              obtain ⟨T, N, hcl7⟩ := vwCl_R _ hc7
              have hml2 : mlM M2 ≤ 40 := Nat.le_of_ble_eq_true (ml_all M2)
              have hrecv := va_recv hK hP hcl7 (by rw [WS_get hbn, CE_0 hSKt])
              have hcw : CallW R s args (RNf (owM M)) (yM M2).cls ix (yM M2) (bM M2) (mlM M2) (rtM M2) (wsM M2) (rmd d) 0 0 nn := by
                refine cwV (Ts := lw_good) (ws' := lw_good) nn hts (goodIn_lw ?_) rfl rfl rfl ⟨rfl, n5, n6, hdesc⟩ ⟨hfr1, by omega⟩
                intro w hw
                rcases List.mem_append.mp hw with h1 | h1
                · simp only [List.mem_cons, List.not_mem_nil, or_false] at h1
                  rcases h1 with rfl | rfl | rfl | rfl
                  · exact good_at hw1 rfl
                  · exact good_at hw2 rfl
                  · exact good_at hw3 rfl
                  · exact n3
                · exact ws_in hlaw w h1
              have hrun := va_runV (p := p) (l := l) (e := e) (R := R) (below := below) (meth := meth) (H := H) (locs := locs) (cells := cells) (slots := slots) (As := ((st.take nn).reverse).map (kv ad)) (rest := r.map (kv ad)) (b := ad b) (g := F0 m pc ls (st.map (kv ad))) hfix hM hcw ⟨hblind _, by rw [n1]; exact hrecv, fun U hU hwm => ⟨rfl, hpre U hU hwm⟩⟩ rfl (by rw [List.length_map, List.length_reverse]; exact elen) hl.1 (by
                  show st.map (kv ad) = _
                  rw [← List.map_reverse, List.reverse_reverse]
                  conv => lhs; rw [← List.take_append_drop nn st, hdrop]
                  simp [kv]) (by
                  show 2 * (F0 m pc ls (st.map (kv ad))).monitorRoom + _ ≤ 8
                  have := lv_room (m := m) (pc := pc) (ls := ls) (rest := st.map (kv ad)) (st := r.map (kv ad)) (by rw [cat_kv]; exact hr8)
                  exact this) hd ⟨by omega, by omega⟩
              exact go _ rfl hrun
          · cases h
        · cases h
    · cases h
  · next ix n hf =>
    obtain ⟨hd, ho⟩ := fetch_ok hf
    have e3 : n = 3 := Nat.eq_of_beq_eq_true (show Nat.beq n 3 = true from ho)
    subst e3
    split at h
    · next kd M2 nn hk =>
      cases hc : (!(Nat.beq kd 0) && Nat.beq (st.take nn).length nn && Nat.ble ((st.drop nn).map fun v => v.category).sum 8) with
      | false => rw [hc] at h; cases h
      | true =>
        rw [hc] at h
        simp only [cond_true, Option.some.injEq, Prod.mk.injEq] at h
        obtain ⟨rfl, rfl, rfl⟩ := h
        obtain ⟨c4, c5⟩ := beq_and hc
        obtain ⟨c6, c7⟩ := beq_and c4
        have elen : (st.take nn).length = nn := Nat.eq_of_beq_eq_true c7
        have hr8 : ((st.drop nn).map fun v => v.category).sum ≤ 8 := Nat.le_of_ble_eq_true c5
        obtain ⟨pp, hok⟩ := KT_ok hk
        unfold okK at hok
        simp only [Bool.and_eq_true, decide_eq_true_eq] at hok
        obtain ⟨⟨⟨hM1, hlaw⟩, hdesc⟩, hkind⟩ := hok
        obtain ⟨n1, n2, n3, n4, n5, n6⟩ := owM_name hlaw
        have hM := IH M2 _ I J _ hlaw k
        have hml2 : mlM M2 ≤ 40 := Nat.le_of_ble_eq_true (ml_all M2)
        have hstack : (F0 m pc ls (st.map (kv ad))).stack = ((st.take nn).reverse.map (kv ad)).reverse ++ (st.drop nn).map (kv ad) := by
          show st.map (kv ad) = _
          rw [← List.map_reverse, List.reverse_reverse, ← List.map_append, List.take_append_drop]
        have hroom : 2 * (F0 m pc ls (st.map (kv ad))).monitorRoom + (((st.drop nn).map (kv ad)).map fun v => v.category).sum ≤ 8 := lv_room (by rw [cat_kv]; exact hr8)
        split at hkind
        · cases c6
        · simp only [Bool.and_eq_true, decide_eq_true_eq] at hkind
          obtain ⟨hw1, hw2⟩ := hkind
          have hcw : CallB R s args (RNf (owM M)) ix (yM M2) (bM M2) (mlM M2) (rtM M2) (wsM M2) (rmd d) 0 0 nn ∧ (Cond.static (yM M2)).before args s = true := by
            refine va_cwS (Ts := lw_good) (ws' := lw_good) nn hts (goodIn_lw ?_) rfl rfl rfl ⟨n5, n6, hdesc⟩ ⟨hfr1, by omega⟩
            intro w hw
            rcases List.mem_append.mp hw with h1 | h1
            · simp only [List.mem_cons, List.not_mem_nil, or_false] at h1
              rcases h1 with rfl | rfl | rfl
              · exact good_at hw1 rfl
              · exact good_at hw2 rfl
              · exact n3
            · exact ws_in hlaw w h1
          exact go _ rfl (va_runS (p := p) (l := l) (e := e) (R := R) (below := below) (meth := meth) (H := H) (locs := locs) (cells := cells) (slots := slots) (As := ((st.take nn).reverse).map (kv ad)) (rest := (st.drop nn).map (kv ad)) (g := F0 m pc ls (st.map (kv ad))) hfix hM hcw ⟨hblind _, fun U hU hwm => ⟨rfl, hpre U hU hwm⟩⟩ rfl (by rw [List.length_map, List.length_reverse]; exact elen) hl.1 hstack hroom hd ⟨by omega, by omega⟩)
        · simp only [Bool.and_eq_true, decide_eq_true_eq] at hkind
          obtain ⟨hw1, hw2⟩ := hkind
          have hnest : va_Nw (.methodLinkNest (RNf (owM M)) ix (yM M2) "SecretBox") s := by
            obtain ⟨z1, z2, z3⟩ := nest_only hk
            rw [z1, z2, z3]
            exact hE.2.2.2.2
          have hcw : va_CN R s args (RNf (owM M)) ix (yM M2) "SecretBox" (bM M2) (mlM M2) (rtM M2) (wsM M2) (rmd d) 0 0 nn := by
            refine va_cnB (Ts := lw_good) (ws' := lw_good) nn hts (goodIn_lw (ws_in hlaw)) rfl rfl rfl hnest (hts _ n3) ⟨n5, n6, hdesc⟩ ⟨hfr1, by omega⟩
          exact go _ rfl (va_runSN (p := p) (l := l) (e := e) (R := R) (below := below) (meth := meth) (H := H) (locs := locs) (cells := cells) (slots := slots) (As := ((st.take nn).reverse).map (kv ad)) (rest := (st.drop nn).map (kv ad)) (g := F0 m pc ls (st.map (kv ad))) hfix hM ⟨hcw, hts _ (good_at hw2 rfl), trivial⟩ ⟨hblind _, fun U hU hwm => ⟨rfl, hpre U hU hwm⟩⟩ rfl (by rw [List.length_map, List.length_reverse]; exact elen) hl.1 hstack hroom hd ⟨by omega, by omega⟩)
        · cases hkind
    · cases h
  · cases h
end CLL
end
section
/-! THE TEXTS: ldc, String.indexOf and what it calls in the library -/
def y_len : MethodName := ⟨"java/lang/String", "length", "()I"⟩
theorem d_len_0 : decode prog_12_method_54_code 0 = .ok (.aload_n 0, 1) := by decide +kernel
theorem d_len_1 : decode prog_12_method_54_code 1 = .ok (.getfield 9, 3) := by decide +kernel
theorem d_len_4 : decode prog_12_method_54_code 4 = .ok (.arraylength, 1) := by decide +kernel
theorem d_len_5 : decode prog_12_method_54_code 5 = .ok (.aload_n 0, 1) := by decide +kernel
theorem d_len_6 : decode prog_12_method_54_code 6 = .ok (.invokevirtual 335, 3) := by decide +kernel
theorem d_len_9 : decode prog_12_method_54_code 9 = .ok (.ishr, 1) := by decide +kernel
theorem d_len_10 : decode prog_12_method_54_code 10 = .ok (.ireturn, 1) := by decide +kernel
def y_ix1 : MethodName := ⟨"java/lang/String", "indexOf", "(I)I"⟩
theorem d_ix1_0 : decode prog_12_method_79_code 0 = .ok (.aload_n 0, 1) := by decide +kernel
theorem d_ix1_1 : decode prog_12_method_79_code 1 = .ok (.iload_n 1, 1) := by decide +kernel
theorem d_ix1_2 : decode prog_12_method_79_code 2 = .ok (.iconst 0, 1) := by decide +kernel
theorem d_ix1_3 : decode prog_12_method_79_code 3 = .ok (.invokevirtual 633, 3) := by decide +kernel
theorem d_ix1_6 : decode prog_12_method_79_code 6 = .ok (.ireturn, 1) := by decide +kernel
def y_ix2 : MethodName := ⟨"java/lang/String", "indexOf", "(II)I"⟩
theorem d_ix2_0 : decode prog_12_method_80_code 0 = .ok (.aload_n 0, 1) := by decide +kernel
theorem d_ix2_1 : decode prog_12_method_80_code 1 = .ok (.invokevirtual 492, 3) := by decide +kernel
theorem d_ix2_4 : decode prog_12_method_80_code 4 = .ok (.ifCond .eq 19, 3) := by decide +kernel
theorem d_ix2_7 : decode prog_12_method_80_code 7 = .ok (.aload_n 0, 1) := by decide +kernel
theorem d_ix2_8 : decode prog_12_method_80_code 8 = .ok (.getfield 9, 3) := by decide +kernel
theorem d_ix2_11 : decode prog_12_method_80_code 11 = .ok (.iload_n 1, 1) := by decide +kernel
theorem d_ix2_12 : decode prog_12_method_80_code 12 = .ok (.iload_n 2, 1) := by decide +kernel
theorem d_ix2_13 : decode prog_12_method_80_code 13 = .ok (.aload_n 0, 1) := by decide +kernel
theorem d_ix2_14 : decode prog_12_method_80_code 14 = .ok (.invokevirtual 505, 3) := by decide +kernel
theorem d_ix2_17 : decode prog_12_method_80_code 17 = .ok (.invokestatic 637, 3) := by decide +kernel
theorem d_ix2_20 : decode prog_12_method_80_code 20 = .ok (.goto 16, 3) := by decide +kernel
theorem d_ix2_23 : decode prog_12_method_80_code 23 = .ok (.aload_n 0, 1) := by decide +kernel
theorem d_ix2_24 : decode prog_12_method_80_code 24 = .ok (.getfield 9, 3) := by decide +kernel
theorem d_ix2_27 : decode prog_12_method_80_code 27 = .ok (.iload_n 1, 1) := by decide +kernel
theorem d_ix2_28 : decode prog_12_method_80_code 28 = .ok (.iload_n 2, 1) := by decide +kernel
theorem d_ix2_29 : decode prog_12_method_80_code 29 = .ok (.aload_n 0, 1) := by decide +kernel
theorem d_ix2_30 : decode prog_12_method_80_code 30 = .ok (.invokevirtual 505, 3) := by decide +kernel
theorem d_ix2_33 : decode prog_12_method_80_code 33 = .ok (.invokestatic 640, 3) := by decide +kernel
theorem d_ix2_36 : decode prog_12_method_80_code 36 = .ok (.ireturn, 1) := by decide +kernel
def y_cod : MethodName := ⟨"java/lang/String", "coder", "()B"⟩
theorem d_cod_0 : decode prog_12_method_152_code 0 = .ok (.getstatic 38, 3) := by decide +kernel
theorem d_cod_3 : decode prog_12_method_152_code 3 = .ok (.ifCond .eq 10, 3) := by decide +kernel
theorem d_cod_6 : decode prog_12_method_152_code 6 = .ok (.aload_n 0, 1) := by decide +kernel
theorem d_cod_7 : decode prog_12_method_152_code 7 = .ok (.getfield 15, 3) := by decide +kernel
theorem d_cod_10 : decode prog_12_method_152_code 10 = .ok (.goto 4, 3) := by decide +kernel
theorem d_cod_13 : decode prog_12_method_152_code 13 = .ok (.iconst 1, 1) := by decide +kernel
theorem d_cod_14 : decode prog_12_method_152_code 14 = .ok (.ireturn, 1) := by decide +kernel
def y_lat : MethodName := ⟨"java/lang/String", "isLatin1", "()Z"⟩
theorem d_lat_0 : decode prog_12_method_154_code 0 = .ok (.getstatic 38, 3) := by decide +kernel
theorem d_lat_3 : decode prog_12_method_154_code 3 = .ok (.ifCond .eq 14, 3) := by decide +kernel
theorem d_lat_6 : decode prog_12_method_154_code 6 = .ok (.aload_n 0, 1) := by decide +kernel
theorem d_lat_7 : decode prog_12_method_154_code 7 = .ok (.getfield 15, 3) := by decide +kernel
theorem d_lat_10 : decode prog_12_method_154_code 10 = .ok (.ifCond .ne 7, 3) := by decide +kernel
theorem d_lat_13 : decode prog_12_method_154_code 13 = .ok (.iconst 1, 1) := by decide +kernel
theorem d_lat_14 : decode prog_12_method_154_code 14 = .ok (.goto 4, 3) := by decide +kernel
theorem d_lat_17 : decode prog_12_method_154_code 17 = .ok (.iconst 0, 1) := by decide +kernel
theorem d_lat_18 : decode prog_12_method_154_code 18 = .ok (.ireturn, 1) := by decide +kernel
def y_can : MethodName := ⟨"java/lang/StringLatin1", "canEncode", "(I)Z"⟩
theorem d_can_0 : decode prog_13_method_4_code 0 = .ok (.iload_n 0, 1) := by decide +kernel
theorem d_can_1 : decode prog_13_method_4_code 1 = .ok (.ifCond .lt 14, 3) := by decide +kernel
theorem d_can_4 : decode prog_13_method_4_code 4 = .ok (.iload_n 0, 1) := by decide +kernel
theorem d_can_5 : decode prog_13_method_4_code 5 = .ok (.sipush 255, 3) := by decide +kernel
theorem d_can_8 : decode prog_13_method_4_code 8 = .ok (.if_icmp .gt 7, 3) := by decide +kernel
theorem d_can_11 : decode prog_13_method_4_code 11 = .ok (.iconst 1, 1) := by decide +kernel
theorem d_can_12 : decode prog_13_method_4_code 12 = .ok (.goto 4, 3) := by decide +kernel
theorem d_can_15 : decode prog_13_method_4_code 15 = .ok (.iconst 0, 1) := by decide +kernel
theorem d_can_16 : decode prog_13_method_4_code 16 = .ok (.ireturn, 1) := by decide +kernel
def y_ixL : MethodName := ⟨"java/lang/StringLatin1", "indexOf", "([BIII)I"⟩
theorem d_ixL_0 : decode prog_13_method_22_code 0 = .ok (.iload_n 1, 1) := by decide +kernel
theorem d_ixL_1 : decode prog_13_method_22_code 1 = .ok (.invokestatic 88, 3) := by decide +kernel
theorem d_ixL_4 : decode prog_13_method_22_code 4 = .ok (.ifCond .ne 5, 3) := by decide +kernel
theorem d_ixL_7 : decode prog_13_method_22_code 7 = .ok (.iconst (-1), 1) := by decide +kernel
theorem d_ixL_8 : decode prog_13_method_22_code 8 = .ok (.ireturn, 1) := by decide +kernel
theorem d_ixL_9 : decode prog_13_method_22_code 9 = .ok (.iload_n 2, 1) := by decide +kernel
theorem d_ixL_10 : decode prog_13_method_22_code 10 = .ok (.iconst 0, 1) := by decide +kernel
theorem d_ixL_11 : decode prog_13_method_22_code 11 = .ok (.invokestatic 92, 3) := by decide +kernel
theorem d_ixL_14 : decode prog_13_method_22_code 14 = .ok (.istore_n 2, 1) := by decide +kernel
theorem d_ixL_15 : decode prog_13_method_22_code 15 = .ok (.iload_n 3, 1) := by decide +kernel
theorem d_ixL_16 : decode prog_13_method_22_code 16 = .ok (.aload_n 0, 1) := by decide +kernel
theorem d_ixL_17 : decode prog_13_method_22_code 17 = .ok (.arraylength, 1) := by decide +kernel
theorem d_ixL_18 : decode prog_13_method_22_code 18 = .ok (.invokestatic 38, 3) := by decide +kernel
theorem d_ixL_21 : decode prog_13_method_22_code 21 = .ok (.istore_n 3, 1) := by decide +kernel
theorem d_ixL_22 : decode prog_13_method_22_code 22 = .ok (.iload_n 2, 1) := by decide +kernel
theorem d_ixL_23 : decode prog_13_method_22_code 23 = .ok (.iload_n 3, 1) := by decide +kernel
theorem d_ixL_24 : decode prog_13_method_22_code 24 = .ok (.if_icmp .lt 5, 3) := by decide +kernel
theorem d_ixL_27 : decode prog_13_method_22_code 27 = .ok (.iconst (-1), 1) := by decide +kernel
theorem d_ixL_28 : decode prog_13_method_22_code 28 = .ok (.ireturn, 1) := by decide +kernel
theorem d_ixL_29 : decode prog_13_method_22_code 29 = .ok (.aload_n 0, 1) := by decide +kernel
theorem d_ixL_30 : decode prog_13_method_22_code 30 = .ok (.iload_n 1, 1) := by decide +kernel
theorem d_ixL_31 : decode prog_13_method_22_code 31 = .ok (.iload_n 2, 1) := by decide +kernel
theorem d_ixL_32 : decode prog_13_method_22_code 32 = .ok (.iload_n 3, 1) := by decide +kernel
theorem d_ixL_33 : decode prog_13_method_22_code 33 = .ok (.invokestatic 95, 3) := by decide +kernel
theorem d_ixL_36 : decode prog_13_method_22_code 36 = .ok (.ireturn, 1) := by decide +kernel
def y_ixC : MethodName := ⟨"java/lang/StringLatin1", "indexOfChar", "([BIII)I"⟩
theorem d_ixC_0 : decode prog_13_method_23_code 0 = .ok (.iload_n 1, 1) := by decide +kernel
theorem d_ixC_1 : decode prog_13_method_23_code 1 = .ok (.i2b, 1) := by decide +kernel
theorem d_ixC_2 : decode prog_13_method_23_code 2 = .ok (.istore 4, 2) := by decide +kernel
theorem d_ixC_4 : decode prog_13_method_23_code 4 = .ok (.iload_n 2, 1) := by decide +kernel
theorem d_ixC_5 : decode prog_13_method_23_code 5 = .ok (.istore 5, 2) := by decide +kernel
theorem d_ixC_7 : decode prog_13_method_23_code 7 = .ok (.iload 5, 2) := by decide +kernel
theorem d_ixC_9 : decode prog_13_method_23_code 9 = .ok (.iload_n 3, 1) := by decide +kernel
theorem d_ixC_10 : decode prog_13_method_23_code 10 = .ok (.if_icmp .ge 21, 3) := by decide +kernel
theorem d_ixC_13 : decode prog_13_method_23_code 13 = .ok (.aload_n 0, 1) := by decide +kernel
theorem d_ixC_14 : decode prog_13_method_23_code 14 = .ok (.iload 5, 2) := by decide +kernel
theorem d_ixC_16 : decode prog_13_method_23_code 16 = .ok (.baload, 1) := by decide +kernel
theorem d_ixC_17 : decode prog_13_method_23_code 17 = .ok (.iload 4, 2) := by decide +kernel
theorem d_ixC_19 : decode prog_13_method_23_code 19 = .ok (.if_icmp .ne 6, 3) := by decide +kernel
theorem d_ixC_22 : decode prog_13_method_23_code 22 = .ok (.iload 5, 2) := by decide +kernel
theorem d_ixC_24 : decode prog_13_method_23_code 24 = .ok (.ireturn, 1) := by decide +kernel
theorem d_ixC_25 : decode prog_13_method_23_code 25 = .ok (.iinc 5 1, 3) := by decide +kernel
theorem d_ixC_28 : decode prog_13_method_23_code 28 = .ok (.goto (-21), 3) := by decide +kernel
theorem d_ixC_31 : decode prog_13_method_23_code 31 = .ok (.iconst (-1), 1) := by decide +kernel
theorem d_ixC_32 : decode prog_13_method_23_code 32 = .ok (.ireturn, 1) := by decide +kernel
def rmS (d : Nat) : Room := { frames := d, cells := 0, slots := 0, locals := 30 * d }
def wsS2 (y : MethodName) (b : ByteArray) (ml : Nat) (rt : Option FieldType) : List Jvm.Cond := Jvm.Cond.code y b ml rt :: lw_good
/-- an answer, and nothing changed -/
def QJs (r : Int32) : Array Value → State → Outcome → State → Prop := fun _ st oc t => oc = .returned (some (.int r)) ∧ t.heap = st.heap
def MJs (l : Launch) (ad : Nat → Nat) (A : Nat → Prop) (y : MethodName) (b : ByteArray) (ml : Nat) (rt : Option FieldType) (d : Nat) (as : List Value) (r : Int32) : Prop := Met l y (wsS2 y b ml rt) (rmS d) (va_Pc as (Exw ad A)) (QJs r) 0 0 A
theorem Exw.blind {ad : Nat → Nat} {A : Nat → Prop} (as : List Value) : FrameBlind (va_Pc as (Exw ad A)) := by
  intro a U g mk q
  obtain ⟨q1, q4⟩ := q
  refine ⟨q1, ?_⟩
  exact ⟨vk_S.moved (u := U) (U := U.calling g mk a) (Vm.Alike.refl U.vm) q4.1, vk_R.same (u := U) rfl q4.2.1, vk_R.same (u := U) rfl q4.2.2.1, va_Z.moved (u := U) (U := U.calling g mk a) (Vm.Alike.refl U.vm) q4.2.2.2.1, va_Nw.same rfl (u := U) rfl q4.2.2.2.2⟩
theorem Exw.warm {ad : Nat → Nat} {A : Nat → Prop} {s U : State} {H : Heap} {locs : List Loc} (hE : Exw ad A s) (hS : va_S A s.heap H locs) (hU : U.heap = H) (hwm : s.WarmedH U.vm) : Exw ad A U := by
  refine ⟨?_, vk_R.warm hwm hE.2.1, vk_R.warm hwm hE.2.2.1, ?_, va_Nw.warmM hwm hE.2.2.2.2⟩
  · exact vk_S.moved hwm.alike (by rw [hU]; exact vk_S.kept hE.1 (fun q h1 h2 => hS.2.1 q h1 h2))
  · exact va_Z.moved hwm.alike (by rw [hU]; exact va_Z.kept hE.2.2.2.1 (fun q h1 h2 => hS.2.1 q h1 h2))
section STRB
variable {p : Program} {l : Launch} {e : Env} {R : Room} {s : State} {m : MethodId} {args : Array Value} {below : List Frame} {meth : Method} {c : Code} {H : Heap} {locs : List Loc} {cells slots : Nat} {Q : State → Prop}
variable {cc : ByteArray} {pc : Nat} {ls : Array Slot} {ad : Nat → Nat} {A : Nat → Prop} {y : MethodName} {b : ByteArray} {ml d ix n q : Nat} {rt : Option FieldType} {As rest : List Value} {r : Int32} {own : String}
theorem ci_go {a : Array Value} {st0 : List Value} (hrun : va_Run p l e R s m args below meth c H locs cells slots 0 0 (F0 m pc ls st0) rest (QJs r a) A) (hS : va_S A s.heap H locs)
    (kk : ∀ locs', va_S A s.heap H locs' → W p l e R s m args below meth c H locs' cells slots Q (F0 m (pc + 3) ls (.int r :: rest))) : W p l e R s m args below meth c H locs cells slots Q (F0 m pc ls st0) := by
  intro T hT X
  obtain ⟨v, st₀, t, T', L, h0, X', hL, e1, e2, ⟨hv, hh⟩, st⟩ := hrun T hT X
  cases hv
  have hT' : T'.heap = H := by rw [e1, hh, h0]
  obtain ⟨t2, a1, b1⟩ := kk (locs ++ L) ⟨hS.1, hS.2.1, fun q hq => by
      rcases List.mem_append.mp hq with h | h
      · exact hS.2.2 q h
      · exact hL q h⟩ T' hT' X'
  exact ⟨t2, st t2 a1, b1⟩
theorem ci_V (hx : p.tables.exec = Jvm.exec) (hb : c.code = cc) (hml : c.maxLocals = ls.size) (hown : s.vm.findClass own = some m.cls) (hts : ∀ w ∈ lw_good, w.before args s = true) (hE : Exw ad A s) (hS : va_S A s.heap H locs) (hM : MJs l ad A y b ml rt d (.ref q :: As) r) (hrecv : ∃ cell : Cell, H[q]? = some cell ∧ cell.vm.isStatics = false ∧ s.vm.findClass y.cls = some cell.cls)
    (hw : Jvm.Cond.methodLink own ix y ∈ lw_good ∧ Jvm.Cond.instanceMethod y ∈ lw_good ∧ Jvm.Cond.selects y.cls y y ∈ lw_good ∧ Jvm.Cond.initialized y.cls ∈ lw_good ∧ Jvm.Cond.code y b ml rt ∈ lw_good) (hd : y.cls ≠ "java/lang/invoke/MethodHandle" ∧ y.cls ≠ "java/lang/invoke/VarHandle" ∧ (parseMethodDescriptor y.desc).map (fun d => d.parameters.length) = some n) (hn : As.length = n)
    (hR : d + 1 ≤ R.frames ∧ 19 + ml + 30 * d ≤ R.locals) (hcl : cells ≤ R.cells) (hsl : slots ≤ R.slots) (hr8 : (rest.map fun v => v.category).sum ≤ 8) (hdg : decode cc pc = .ok (.invokevirtual ix, 3))
    (kk : ∀ locs', va_S A s.heap H locs' → W p l e R s m args below meth c H locs' cells slots Q (F0 m (pc + 3) ls (.int r :: rest))) : W p l e R s m args below meth c H locs cells slots Q (F0 m pc ls (As.reverse ++ .ref q :: rest)) := by
  have hfix : CallFix p m c cc ls.size s args lw_good own := ⟨hx, hb, hml, hown, hts⟩
  have hcw : CallW R s args own y.cls ix y b ml rt (wsS2 y b ml rt) (rmS d) 0 0 n := by
    refine cwV (Ts := lw_good) (ws' := lw_good) n hts (goodIn_lw ?_) rfl rfl rfl ⟨rfl, hd⟩ ⟨hR.1, by show 8 + (ml + 11) + 30 * d ≤ _; omega⟩
    intro w h
    rcases List.mem_append.mp h with h1 | h1
    · simp only [List.mem_cons, List.not_mem_nil, or_false] at h1
      rcases h1 with rfl | rfl | rfl | rfl
      · exact hw.1
      · exact hw.2.1
      · exact hw.2.2.1
      · exact hw.2.2.2.1
    · rcases List.mem_cons.mp h1 with rfl | h2
      · exact hw.2.2.2.2
      · exact h2
  have hrun := va_runV (p := p) (l := l) (e := e) (R := R) (below := below) (meth := meth) (H := H) (locs := locs) (cells := cells) (slots := slots) (As := As) (rest := rest) (b := q) (g := F0 m pc ls (As.reverse ++ .ref q :: rest)) hfix hM hcw ⟨Exw.blind _, hrecv, fun U hU hwm => ⟨rfl, hE.warm hS hU hwm⟩⟩ rfl hn rfl rfl (lv_room (m := m) (pc := pc) (ls := ls) (rest := As.reverse ++ .ref q :: rest) hr8) hdg ⟨by omega, by omega⟩
  exact ci_go hrun hS kk
theorem ci_S (hx : p.tables.exec = Jvm.exec) (hb : c.code = cc) (hml : c.maxLocals = ls.size) (hown : s.vm.findClass own = some m.cls) (hts : ∀ w ∈ lw_good, w.before args s = true) (hE : Exw ad A s) (hS : va_S A s.heap H locs) (hM : MJs l ad A y b ml rt d As r)
    (hw : Jvm.Cond.methodLink own ix y ∈ lw_good ∧ Jvm.Cond.static y ∈ lw_good ∧ Jvm.Cond.initialized y.cls ∈ lw_good ∧ Jvm.Cond.code y b ml rt ∈ lw_good) (hd : y.cls ≠ "java/lang/invoke/MethodHandle" ∧ y.cls ≠ "java/lang/invoke/VarHandle" ∧ (parseMethodDescriptor y.desc).map (fun d => d.parameters.length) = some n) (hn : As.length = n)
    (hR : d + 1 ≤ R.frames ∧ 19 + ml + 30 * d ≤ R.locals) (hcl : cells ≤ R.cells) (hsl : slots ≤ R.slots) (hr8 : (rest.map fun v => v.category).sum ≤ 8) (hdg : decode cc pc = .ok (.invokestatic ix, 3))
    (kk : ∀ locs', va_S A s.heap H locs' → W p l e R s m args below meth c H locs' cells slots Q (F0 m (pc + 3) ls (.int r :: rest))) : W p l e R s m args below meth c H locs cells slots Q (F0 m pc ls (As.reverse ++ rest)) := by
  have hfix : CallFix p m c cc ls.size s args lw_good own := ⟨hx, hb, hml, hown, hts⟩
  have hcw : CallB R s args own ix y b ml rt (wsS2 y b ml rt) (rmS d) 0 0 n ∧ (Cond.static y).before args s = true := by
    refine va_cwS (Ts := lw_good) (ws' := lw_good) n hts (goodIn_lw ?_) rfl rfl rfl hd ⟨hR.1, by show 8 + (ml + 11) + 30 * d ≤ _; omega⟩
    intro w h
    rcases List.mem_append.mp h with h1 | h1
    · simp only [List.mem_cons, List.not_mem_nil, or_false] at h1
      rcases h1 with rfl | rfl | rfl
      · exact hw.1
      · exact hw.2.1
      · exact hw.2.2.1
    · rcases List.mem_cons.mp h1 with rfl | h2
      · exact hw.2.2.2
      · exact h2
  have hrun := va_runS (p := p) (l := l) (e := e) (R := R) (below := below) (meth := meth) (H := H) (locs := locs) (cells := cells) (slots := slots) (As := As) (rest := rest) (g := F0 m pc ls (As.reverse ++ rest)) hfix hM hcw ⟨Exw.blind _, fun U hU hwm => ⟨rfl, hE.warm hS hU hwm⟩⟩ rfl hn rfl rfl (lv_room (m := m) (pc := pc) (ls := ls) (rest := As.reverse ++ rest) hr8) hdg ⟨by omega, by omega⟩
  exact ci_go hrun hS kk
end STRB
theorem MJs_of {l : Launch} {ad : Nat → Nat} {A : Nat → Prop} {y : MethodName} {b : ByteArray} {ml : Nat} {rt : Option FieldType} {d : Nat} {as : List Value} {r : Int32} (hy : plainName y.cls = true) (hlen : (lg_sl as).length ≤ ml)
    (body : ∀ (p : Program) (e : Env) (R : Room) (s : State) (m : MethodId) (args : Array Value) (below : List Frame) (meth : Method) (c : Code) (ls : Array Slot), p.tables.exec = Jvm.exec → c.code = b → c.maxLocals = ls.size → meth.sig.returnType = rt → meth.locks = false → s.vm.findClass y.cls = some m.cls → (∀ w ∈ lw_good, w.before args s = true) → Exw ad A s → d ≤ R.frames → 30 * d ≤ R.locals → lv_has ls ml (lv_args 0 as) → W p l e R s m args below meth c s.heap [] 0 0 (MQ below (QJs r) args s 0 0 A) (F0 m 0 ls [])) : MJs l ad A y b ml rt d as r := by
  refine Met.ofW (cc := b) (maxL := ml) (ret := rt) hy rfl ?_
  intro p e s m args below meth c s₁ B hml hv
  obtain ⟨rfl, hE⟩ := hv
  have hts := atoms_spec (ws := wsS2 y b ml rt) B.pre
  have hl := lv_entry as (n := ml) hlen
  rw [lg_entry_eq]
  generalize (lg_sl as ++ List.replicate (ml - (lg_sl as).length) Slot.unset).toArray = ls at hl ⊢
  exact body p e _ s m _ below meth c ls B.exec B.bytes (hml.trans hl.1.symm) B.returns B.notSynchronized (findClass_of_methodNamed B.named) (fun w hw => hts w (List.mem_cons_of_mem _ hw)) hE (Nat.le_refl d) (Nat.le_refl (30 * d)) hl
def t_len (i : Nat) : Nat := [5, 3].getD i 0
def t_byt (i : Nat) : List Int32 := [[112, 115, 114, 108, 98], [60, 62, 61]].getD i []
theorem z_get {C : String} {x : ClassId × Class × Nat × Field} (P : Prop) (h : P) : P := h
theorem m_cod {l : Launch} {ad : Nat → Nat} {A : Nat → Prop} {i : Nat} (hi : i < 2) : MJs l ad A y_cod prog_12_method_152_code 1 (some .byte) 0 [.ref (ad (201 + i))] 0 := by
  refine MJs_of (by decide +kernel) (show (1:Nat) ≤ 1 from Nat.le_refl 1) ?_
  intro p e R s m args below meth c ls hx hb hml hr hlk hown hts hE hR1 hR2 hl
  refine va_gets (own := "java/lang/String") hx hb hE.2.2.2.1 va_S.rf hown (hts _ (good_at (i := 436) (by decide +kernel) rfl)) (fun _ q => q) d_cod_0 ?_
  refine lv_if_eq hx hb d_cod_3 (tgt := 13) (by decide) (fun h => absurd h (by decide)) (fun _ => ?_)
  refine lv_aload_n hx hb d_cod_6 rfl (lv_at hl 0 rfl) ?_
  refine vk_getf (own := "java/lang/String") hx hb (hE.1.1 i hi).2.1 va_S.rf hown (hts _ (good_at (i := 823) (by decide +kernel) rfl)) (fun _ q => q) d_cod_7 ?_
  refine lv_goto hx hb d_cod_10 (tgt := 14) (by decide) ?_
  exact W.zret hx hb hr (by decide +kernel) (fun t ht _ => ⟨rfl, ht⟩) (fun q hq => by cases hq) d_cod_14
theorem m_lat {l : Launch} {ad : Nat → Nat} {A : Nat → Prop} {i : Nat} (hi : i < 2) : MJs l ad A y_lat prog_12_method_154_code 1 (some .boolean) 0 [.ref (ad (201 + i))] 1 := by
  refine MJs_of (by decide +kernel) (show (1:Nat) ≤ 1 from Nat.le_refl 1) ?_
  intro p e R s m args below meth c ls hx hb hml hr hlk hown hts hE hR1 hR2 hl
  refine va_gets (own := "java/lang/String") hx hb hE.2.2.2.1 va_S.rf hown (hts _ (good_at (i := 436) (by decide +kernel) rfl)) (fun _ q => q) d_lat_0 ?_
  refine lv_if_eq hx hb d_lat_3 (tgt := 17) (by decide) (fun h => absurd h (by decide)) (fun _ => ?_)
  refine lv_aload_n hx hb d_lat_6 rfl (lv_at hl 0 rfl) ?_
  refine vk_getf (own := "java/lang/String") hx hb (hE.1.1 i hi).2.1 va_S.rf hown (hts _ (good_at (i := 823) (by decide +kernel) rfl)) (fun _ q => q) d_lat_7 ?_
  refine lv_if_ne hx hb d_lat_10 (tgt := 17) (by decide) (fun h => absurd rfl h) (fun _ => ?_)
  refine lv_iconst hx hb d_lat_13 (v := 1) (by decide) ?_
  refine lv_goto hx hb d_lat_14 (tgt := 18) (by decide) ?_
  exact W.zret hx hb hr (by decide +kernel) (fun t ht _ => ⟨rfl, ht⟩) (fun q hq => by cases hq) d_lat_18
theorem m_len {l : Launch} {ad : Nat → Nat} {A : Nat → Prop} {i : Nat} (hi : i < 2) : MJs l ad A y_len prog_12_method_54_code 1 (some .int) 1 [.ref (ad (201 + i))] (nI (t_len i)) := by
  refine MJs_of (by decide +kernel) (show (1:Nat) ≤ 1 from Nat.le_refl 1) ?_
  intro p e R s m args below meth c ls hx hb hml hr hlk hown hts hE hR1 hR2 hl
  refine lv_aload_n hx hb d_len_0 rfl (lv_at hl 0 rfl) ?_
  refine vk_getf (own := "java/lang/String") hx hb (hE.1.1 i hi).2.2.1 va_S.rf hown (hts _ (good_at (i := 824) (by decide +kernel) rfl)) (fun _ q => q) d_len_1 ?_
  refine va_tlen hx hb (hE.1.1 i hi).2.2.2 va_S.rf (v := nI (t_len i)) rfl d_len_4 ?_
  refine lv_aload_n hx hb d_len_5 rfl (lv_at hl 0 rfl) ?_
  refine ci_V (own := "java/lang/String") (As := []) hx hb hml hown hts hE va_S.rf (m_cod hi) (vk_recv (i := i) hE.1 hi va_S.rf) ⟨good_at (i := 442) (by decide +kernel) rfl, good_at (i := 443) (by decide +kernel) rfl, good_at (i := 444) (by decide +kernel) rfl, good_at (i := 30) (by decide +kernel) rfl, good_at (i := 445) (by decide +kernel) rfl⟩ ⟨by decide, by decide, (by decide +kernel : _ = some 0)⟩ rfl ⟨by omega, by omega⟩ (Nat.zero_le _) (Nat.zero_le _) (by show 1 ≤ 8; decide) d_len_6 (fun locs hS => ?_)
  refine lv_ishr hx hb d_len_9 ?_
  have e1 : nI (t_len i) >>> ((0 : Int32) &&& 31) = nI (t_len i) := by
    match i, hi with
    | 0, _ => decide
    | 1, _ => decide
  rw [e1]
  exact W.iret hx hb hr (fun t ht _ => ⟨rfl, ht⟩) hS.2.2 d_len_10
def canE (c : Int32) : Int32 := if c < 0 then 0 else if c ≤ 255 then 1 else 0
theorem m_can {l : Launch} {ad : Nat → Nat} {A : Nat → Prop} {c0 : Int32} : MJs l ad A y_can prog_13_method_4_code 1 (some .boolean) 0 [.int c0] (canE c0) := by
  refine MJs_of (by decide +kernel) (show (1:Nat) ≤ 1 from Nat.le_refl 1) ?_
  intro p e R s m args below meth c ls hx hb hml hr hlk hown hts hE hR1 hR2 hl
  refine lv_iload_n hx hb d_can_0 rfl (lv_at hl 0 rfl) ?_
  refine lv_if_lt hx hb d_can_1 (tgt := 15) (by decide) (fun h => ?_) (fun h => ?_)
  · refine lv_iconst hx hb d_can_15 (v := 0) (by decide) ?_
    rw [show canE c0 = 0 by simp only [canE, if_pos h]]
    exact W.zret hx hb hr (by decide +kernel) (fun t ht _ => ⟨rfl, ht⟩) (fun q hq => by cases hq) d_can_16
  refine lv_iload_n hx hb d_can_4 rfl (lv_at hl 0 rfl) ?_
  refine lv_sipush hx hb d_can_5 (v := 255) (by decide) ?_
  refine lv_icmp_gt hx hb d_can_8 (tgt := 15) (by decide) (fun h2 => ?_) (fun h2 => ?_)
  · refine lv_iconst hx hb d_can_15 (v := 0) (by decide) ?_
    rw [show canE c0 = 0 by simp only [canE, if_neg h, if_neg (Int32.not_le.mpr h2)]]
    exact W.zret hx hb hr (by decide +kernel) (fun t ht _ => ⟨rfl, ht⟩) (fun q hq => by cases hq) d_can_16
  · refine lv_iconst hx hb d_can_11 (v := 1) (by decide) ?_
    refine lv_goto hx hb d_can_12 (tgt := 16) (by decide) ?_
    rw [show canE c0 = 1 by simp only [canE, if_neg h]; exact if_pos (by first | exact h2 | exact Int32.not_lt.mp h2)]
    exact W.zret hx hb hr (by decide +kernel) (fun t ht _ => ⟨rfl, ht⟩) (fun q hq => by cases hq) d_can_16
theorem b_cmp : ∀ k, k < 256 → ∀ b ∈ ([112, 115, 114, 108, 98, 60, 62, 61] : List Int32), ((b = (nI k).toInt8.toInt32) ↔ (nI k = b)) := by decide +kernel
theorem nI_one : ∀ k, k < 8 → nI k + 1 = nI (k + 1) := by decide +kernel
theorem b_out : ∀ b ∈ ([112, 115, 114, 108, 98, 60, 62, 61] : List Int32), 0 ≤ b ∧ b ≤ 255 := by decide +kernel
theorem t_in {i : Nat} (hi : i < 2) : ∀ b ∈ t_byt i, b ∈ ([112, 115, 114, 108, 98, 60, 62, 61] : List Int32) := by
  match i, hi with
  | 0, _ => decide
  | 1, _ => decide
theorem t_length {i : Nat} (hi : i < 2) : (t_byt i).length = t_len i ∧ 0 < t_len i ∧ t_len i ≤ 5 := by
  match i, hi with
  | 0, _ => decide
  | 1, _ => decide
theorem txF_none {c0 : Int32} : ∀ (t : List Int32) (k : Int32), (∀ b ∈ t, c0 ≠ b) → txF c0 t k = -1 := by
  intro t
  induction t with
  | nil => intro k _; rfl
  | cons b t ih => intro k h; rw [txF, if_neg (h b List.mem_cons_self)]; exact ih _ (fun b' hb => h b' (List.mem_cons_of_mem _ hb))
theorem can_of {c0 : Int32} (h : canE c0 = 1) : ∃ k, k < 256 ∧ c0 = nI k := by
  unfold canE at h
  split at h
  · cases h
  · next h0 =>
    split at h
    · next h1 =>
      have a1 : (0 : Int) ≤ c0.toInt := by have := Int32.le_iff_toInt_le.mp (Int32.not_lt.mp h0); simpa using this
      have a2 : c0.toInt ≤ 255 := by have := Int32.le_iff_toInt_le.mp h1; simpa using this
      refine ⟨c0.toInt.toNat, by omega, ?_⟩
      apply Int32.toInt_inj.mp
      rw [nI_toInt (by omega)]; omega
    · cases h
theorem can_not {c0 : Int32} {i : Nat} (hi : i < 2) (h : ¬ canE c0 = 1) : txF c0 (t_byt i) 0 = -1 := by
  apply txF_none
  intro b hb e
  obtain ⟨h1, h2⟩ := b_out b (t_in hi b hb)
  apply h
  subst e
  unfold canE
  rw [if_neg (Int32.not_lt.mpr h1), if_pos h2]
section STRL
variable {p : Program} {l : Launch} {e : Env} {R : Room} {s : State} {m : MethodId} {args : Array Value} {below : List Frame} {meth : Method} {c : Code} {ad : Nat → Nat} {A : Nat → Prop}
theorem ixC_loop (hx : p.tables.exec = Jvm.exec) (hb : c.code = prog_13_method_23_code) (hr : meth.sig.returnType = some .int) (hlk : meth.locks = false) (hE : Exw ad A s) {i : Nat} (hi : i < 2) {n : Nat} (hn : n < 256) {r : Int32} : ∀ (t : List Int32) (k : Nat) (ls : Array Slot), (t_byt i).drop k = t → k ≤ t_len i → r = txF (nI n) t (nI k) → lv_has ls 6 [(5, .int (nI k)), (4, .int (nI n).toInt8.toInt32), (0, .ref (ad (211 + i))), (3, .int (nI (t_len i)))] → W p l e R s m args below meth c s.heap [] 0 0 (MQ below (QJs r) args s 0 0 A) (F0 m 7 ls []) := by
  obtain ⟨ht1, ht2, ht3⟩ := t_length hi
  intro t
  induction t with
  | nil =>
    intro k ls hd hk hr2 hl
    have q : (t_byt i).length ≤ k := List.drop_eq_nil_iff.mp hd
    have hk2 : k = t_len i := by omega
    refine lv_iload hx hb d_ixC_7 (lv_at hl 0 rfl) ?_
    refine lv_iload_n hx hb d_ixC_9 rfl (lv_at hl 3 rfl) ?_
    refine lv_icmp_ge hx hb d_ixC_10 (tgt := 31) (by decide) (fun _ => ?_) (fun h => ?_)
    · refine lv_iconst hx hb d_ixC_31 (v := -1) (by decide) ?_
      rw [hr2]
      exact W.iret hx hb hr (fun t ht _ => ⟨rfl, ht⟩) (fun q hq => by cases hq) d_ixC_32
    · exfalso
      rw [hk2] at h
      exact Int32.lt_irrefl (by first | exact h | exact Int32.not_le.mp h)
  | cons b t ih =>
    intro k ls hd hk hr2 hl
    have hk1 : k < (t_byt i).length := by
      rcases Nat.lt_or_ge k (t_byt i).length with h | h
      · exact h
      · rw [List.drop_eq_nil_of_le h] at hd; cases hd
    have hdc := List.drop_eq_getElem_cons hk1
    rw [hd] at hdc
    injection hdc with e1 e2
    have hget : (t_byt i).getD k 0 = b := by rw [List.getD_eq_getElem?_getD, List.getElem?_eq_getElem hk1]; exact e1.symm
    have hbm : b ∈ t_byt i := by rw [e1]; exact List.getElem_mem hk1
    refine lv_iload hx hb d_ixC_7 (lv_at hl 0 rfl) ?_
    refine lv_iload_n hx hb d_ixC_9 rfl (lv_at hl 3 rfl) ?_
    refine lv_icmp_ge hx hb d_ixC_10 (tgt := 31) (by decide) (fun h => ?_) (fun _ => ?_)
    · exfalso
      have h2 := Int32.le_iff_toInt_le.mp (show nI (t_len i) ≤ nI k by first | exact h | exact Int32.not_lt.mp h)
      rw [nI_toInt (by omega), nI_toInt (by omega)] at h2
      omega
    refine lv_aload_n hx hb d_ixC_13 rfl (lv_at hl 2 rfl) ?_
    refine lv_iload hx hb d_ixC_14 (lv_at hl 0 rfl) ?_
    have hkc : (nI k).toNatClampNeg = k := by
      show (nI k).toInt.toNat = k
      rw [nI_toInt (by omega)]; omega
    refine va_tb hx hb (hE.1.1 i hi).2.2.2 va_S.rf (i := nI k) ?_ (v := .int b) ?_ d_ixC_16 ?_
    · rintro (h | h)
      · have h2 := Int32.lt_iff_toInt_lt.mp h
        rw [nI_toInt (by omega)] at h2
        simp at h2; omega
      · rw [hkc] at h
        have : t_len i ≤ k := h
        omega
    · rw [hkc]; exact congrArg Value.int hget
    refine lv_iload hx hb d_ixC_17 (lv_at hl 1 rfl) ?_
    refine lv_icmp_ne hx hb d_ixC_19 (tgt := 25) (by decide) (fun h => ?_) (fun h => ?_)
    · refine lv_iinc hx hb d_ixC_25 hl (k := 0) rfl (v := nI (k + 1)) ?_ (by decide) rfl (fun ls2 hl2 => ?_)
      · exact nI_one k (by omega)
      refine lv_goto hx hb d_ixC_28 (tgt := 7) (by decide) ?_
      refine ih (k + 1) ls2 e2.symm (by omega) ?_ hl2
      rw [hr2, txF, if_neg (fun q => h ((b_cmp n hn b (t_in hi b hbm)).mpr q))]
      exact congrArg (txF (nI n) t) (nI_one k (by omega))
    · refine lv_iload hx hb d_ixC_22 (lv_at hl 0 rfl) ?_
      have e9 : r = nI k := by rw [hr2, txF, if_pos ((b_cmp n hn b (t_in hi b hbm)).mp h)]
      rw [e9]
      exact W.iret hx hb hr (fun t ht _ => ⟨rfl, ht⟩) (fun q hq => by cases hq) d_ixC_24
end STRL
theorem m_ixC {l : Launch} {ad : Nat → Nat} {A : Nat → Prop} {i : Nat} (hi : i < 2) {n : Nat} (hn : n < 256) : MJs l ad A y_ixC prog_13_method_23_code 6 (some .int) 0 [.ref (ad (211 + i)), .int (nI n), .int 0, .int (nI (t_len i))] (txF (nI n) (t_byt i) 0) := by
  refine MJs_of (by decide +kernel) (show (4:Nat) ≤ 6 by decide) ?_
  intro p e R s m args below meth c ls hx hb hml hr hlk hown hts hE hR1 hR2 hl
  refine lv_iload_n hx hb d_ixC_0 rfl (lv_at hl 1 rfl) ?_
  refine lv_i2b hx hb d_ixC_1 rfl ?_
  refine lv_istore hx hb d_ixC_2 hl (by decide) rfl (fun ls2 hl2 => ?_)
  refine lv_iload_n hx hb d_ixC_4 rfl (lv_at hl2 3 rfl) ?_
  refine lv_istore hx hb d_ixC_5 hl2 (by decide) rfl (fun ls3 hl3 => ?_)
  exact ixC_loop hx hb hr hlk hE hi hn (t_byt i) 0 ls3 rfl (Nat.zero_le _) rfl (lv_sub hl3 [0, 1, 2, 5] rfl)
theorem m_ixL {l : Launch} {ad : Nat → Nat} {A : Nat → Prop} {i : Nat} (hi : i < 2) {c0 : Int32} : MJs l ad A y_ixL prog_13_method_22_code 4 (some .int) 2 [.ref (ad (211 + i)), .int c0, .int 0, .int (nI (t_len i))] (txF c0 (t_byt i) 0) := by
  obtain ⟨ht1, ht2, ht3⟩ := t_length hi
  refine MJs_of (by decide +kernel) (show (4:Nat) ≤ 4 by decide) ?_
  intro p e R s m args below meth c ls hx hb hml hr hlk hown hts hE hR1 hR2 hl
  refine lv_iload_n hx hb d_ixL_0 rfl (lv_at hl 1 rfl) ?_
  refine ci_S (own := "java/lang/StringLatin1") (As := [.int c0]) (rest := []) hx hb hml hown hts hE va_S.rf m_can ⟨good_at (i := 449) (by decide +kernel) rfl, good_at (i := 450) (by decide +kernel) rfl, good_at (i := 31) (by decide +kernel) rfl, good_at (i := 451) (by decide +kernel) rfl⟩ ⟨by decide, by decide, (by decide +kernel : _ = some 1)⟩ rfl ⟨by omega, by omega⟩ (Nat.zero_le _) (Nat.zero_le _) (by decide) d_ixL_1 (fun locs hS => ?_)
  refine lv_if_ne hx hb d_ixL_4 (tgt := 9) (by decide) (fun h => ?_) (fun h => ?_)
  case refine_2 =>
    refine lv_iconst hx hb d_ixL_7 (v := -1) (by decide) ?_
    rw [can_not hi (by rw [h]; decide)]
    exact W.iret hx hb hr (fun t ht _ => ⟨rfl, ht⟩) hS.2.2 d_ixL_8
  have h1 : canE c0 = 1 := by
    unfold canE at h ⊢
    split
    · next q => rw [if_pos q] at h; exact absurd rfl h
    · next q =>
      split
      · rfl
      · next q2 => rw [if_neg q, if_neg q2] at h; exact absurd rfl h
  obtain ⟨n, hn, rfl⟩ := can_of h1
  refine lv_iload_n hx hb d_ixL_9 rfl (lv_at hl 2 rfl) ?_
  refine lv_iconst hx hb d_ixL_10 (v := 0) (by decide) ?_
  refine va_mmax (own := "java/lang/StringLatin1") hx hb hml hown (hts _ (good_at (i := 452) (by decide +kernel) rfl)) (hts _ (good_at (i := 453) (by decide +kernel) rfl)) (hts _ (good_at (i := 32) (by decide +kernel) rfl)) (hts _ (good_at (i := 454) (by decide +kernel) rfl)) (by omega) (by show 0 + 13 ≤ _; omega) (Nat.zero_le _) (Nat.zero_le _) d_ixL_11 ?_
  rw [if_neg (show ¬ (0 : Int32) < 0 by decide)]
  refine lv_istore_n hx hb d_ixL_14 rfl hl (by decide) rfl (fun ls2 hl2 => ?_)
  have hml2 : c.maxLocals = ls2.size := by rw [hl2.1, hml, hl.1]
  refine lv_iload_n hx hb d_ixL_15 rfl (lv_at hl2 3 rfl) ?_
  refine lv_aload_n hx hb d_ixL_16 rfl (lv_at hl2 1 rfl) ?_
  refine va_tlen hx hb (hE.1.1 i hi).2.2.2 hS (v := nI (t_len i)) rfl d_ixL_17 ?_
  refine va_mmin (own := "java/lang/StringLatin1") hx hb hml2 hown (hts _ (good_at (i := 455) (by decide +kernel) rfl)) (hts _ (good_at (i := 456) (by decide +kernel) rfl)) (hts _ (good_at (i := 32) (by decide +kernel) rfl)) (hts _ (good_at (i := 457) (by decide +kernel) rfl)) (by omega) (by show 0 + 13 ≤ _; omega) (Nat.zero_le _) (Nat.zero_le _) d_ixL_18 ?_
  rw [ite_self]
  refine lv_istore_n hx hb d_ixL_21 rfl hl2 (by decide) rfl (fun ls3 hl3 => ?_)
  have hml3 : c.maxLocals = ls3.size := by rw [hl3.1, hml2, hl2.1]
  refine lv_iload_n hx hb d_ixL_22 rfl (lv_at hl3 1 rfl) ?_
  refine lv_iload_n hx hb d_ixL_23 rfl (lv_at hl3 0 rfl) ?_
  refine lv_icmp_lt hx hb d_ixL_24 (tgt := 29) (by decide) (fun h => ?_) (fun h => ?_)
  case refine_2 =>
    exfalso
    apply h
    apply Int32.lt_iff_toInt_lt.mpr
    rw [nI_toInt (by omega)]
    simp; omega
  refine lv_aload_n hx hb d_ixL_29 rfl (lv_at hl3 2 rfl) ?_
  refine lv_iload_n hx hb d_ixL_30 rfl (lv_at hl3 3 rfl) ?_
  refine lv_iload_n hx hb d_ixL_31 rfl (lv_at hl3 1 rfl) ?_
  refine lv_iload_n hx hb d_ixL_32 rfl (lv_at hl3 0 rfl) ?_
  refine ci_S (own := "java/lang/StringLatin1") (As := [.ref (ad (211 + i)), .int (nI n), .int 0, .int (nI (t_len i))]) (rest := []) hx hb hml3 hown hts hE hS (m_ixC hi hn) ⟨good_at (i := 458) (by decide +kernel) rfl, good_at (i := 459) (by decide +kernel) rfl, good_at (i := 31) (by decide +kernel) rfl, good_at (i := 460) (by decide +kernel) rfl⟩ ⟨by decide, by decide, (by decide +kernel : _ = some 4)⟩ rfl ⟨by omega, by omega⟩ (Nat.zero_le _) (Nat.zero_le _) (by decide) d_ixL_33 (fun locs2 hS2 => ?_)
  exact W.iret hx hb hr (fun t ht _ => ⟨rfl, ht⟩) hS2.2.2 d_ixL_36
theorem m_ix2 {l : Launch} {ad : Nat → Nat} {A : Nat → Prop} {i : Nat} (hi : i < 2) {c0 : Int32} : MJs l ad A y_ix2 prog_12_method_80_code 3 (some .int) 4 [.ref (ad (201 + i)), .int c0, .int 0] (txF c0 (t_byt i) 0) := by
  refine MJs_of (by decide +kernel) (show (3:Nat) ≤ 3 by decide) ?_
  intro p e R s m args below meth c ls hx hb hml hr hlk hown hts hE hR1 hR2 hl
  refine lv_aload_n hx hb d_ix2_0 rfl (lv_at hl 0 rfl) ?_
  refine ci_V (own := "java/lang/String") (As := []) hx hb hml hown hts hE va_S.rf (m_lat hi) (vk_recv (i := i) hE.1 hi va_S.rf) ⟨good_at (i := 432) (by decide +kernel) rfl, good_at (i := 433) (by decide +kernel) rfl, good_at (i := 434) (by decide +kernel) rfl, good_at (i := 30) (by decide +kernel) rfl, good_at (i := 435) (by decide +kernel) rfl⟩ ⟨by decide, by decide, (by decide +kernel : _ = some 0)⟩ rfl ⟨by omega, by omega⟩ (Nat.zero_le _) (Nat.zero_le _) (by decide) d_ix2_1 (fun locs hS => ?_)
  refine lv_if_eq hx hb d_ix2_4 (tgt := 23) (by decide) (fun h => absurd h (by decide)) (fun _ => ?_)
  refine lv_aload_n hx hb d_ix2_7 rfl (lv_at hl 0 rfl) ?_
  refine vk_getf (own := "java/lang/String") hx hb (hE.1.1 i hi).2.2.1 hS hown (hts _ (good_at (i := 824) (by decide +kernel) rfl)) (fun _ q => q) d_ix2_8 ?_
  refine lv_iload_n hx hb d_ix2_11 rfl (lv_at hl 1 rfl) ?_
  refine lv_iload_n hx hb d_ix2_12 rfl (lv_at hl 2 rfl) ?_
  refine lv_aload_n hx hb d_ix2_13 rfl (lv_at hl 0 rfl) ?_
  refine ci_V (own := "java/lang/String") (As := []) hx hb hml hown hts hE hS (m_len hi) (vk_recv (i := i) hE.1 hi hS) ⟨good_at (i := 438) (by decide +kernel) rfl, good_at (i := 439) (by decide +kernel) rfl, good_at (i := 440) (by decide +kernel) rfl, good_at (i := 30) (by decide +kernel) rfl, good_at (i := 441) (by decide +kernel) rfl⟩ ⟨by decide, by decide, (by decide +kernel : _ = some 0)⟩ rfl ⟨by omega, by omega⟩ (Nat.zero_le _) (Nat.zero_le _) (by show 3 ≤ 8; decide) d_ix2_14 (fun locs2 hS2 => ?_)
  refine ci_S (own := "java/lang/String") (As := [.ref (ad (211 + i)), .int c0, .int 0, .int (nI (t_len i))]) (rest := []) hx hb hml hown hts hE hS2 (m_ixL hi) ⟨good_at (i := 446) (by decide +kernel) rfl, good_at (i := 447) (by decide +kernel) rfl, good_at (i := 31) (by decide +kernel) rfl, good_at (i := 448) (by decide +kernel) rfl⟩ ⟨by decide, by decide, (by decide +kernel : _ = some 4)⟩ rfl ⟨by omega, by omega⟩ (Nat.zero_le _) (Nat.zero_le _) (by decide) d_ix2_17 (fun locs3 hS3 => ?_)
  refine lv_goto hx hb d_ix2_20 (tgt := 36) (by decide) ?_
  exact W.iret hx hb hr (fun t ht _ => ⟨rfl, ht⟩) hS3.2.2 d_ix2_36
theorem m_ix1 {l : Launch} {ad : Nat → Nat} {A : Nat → Prop} {i : Nat} (hi : i < 2) {c0 : Int32} : MJs l ad A y_ix1 prog_12_method_79_code 2 (some .int) 5 [.ref (ad (201 + i)), .int c0] (txF c0 (t_byt i) 0) := by
  refine MJs_of (by decide +kernel) (show (2:Nat) ≤ 2 by decide) ?_
  intro p e R s m args below meth c ls hx hb hml hr hlk hown hts hE hR1 hR2 hl
  refine lv_aload_n hx hb d_ix1_0 rfl (lv_at hl 0 rfl) ?_
  refine lv_iload_n hx hb d_ix1_1 rfl (lv_at hl 1 rfl) ?_
  refine lv_iconst hx hb d_ix1_2 (v := 0) (by decide) ?_
  refine ci_V (own := "java/lang/String") (As := [.int c0, .int 0]) (rest := []) hx hb hml hown hts hE va_S.rf (m_ix2 hi) (vk_recv (i := i) hE.1 hi va_S.rf) ⟨good_at (i := 428) (by decide +kernel) rfl, good_at (i := 429) (by decide +kernel) rfl, good_at (i := 430) (by decide +kernel) rfl, good_at (i := 30) (by decide +kernel) rfl, good_at (i := 431) (by decide +kernel) rfl⟩ ⟨by decide, by decide, (by decide +kernel : _ = some 2)⟩ rfl ⟨by omega, by omega⟩ (Nat.zero_le _) (Nat.zero_le _) (by decide) d_ix1_3 (fun locs hS => ?_)
  exact W.iret hx hb hr (fun t ht _ => ⟨rfl, ht⟩) hS.2.2 d_ix1_6
section STRS
variable {p : Program} {l : Launch} {e : Env} {R : Room} {s : State} {m : MethodId} {args : Array Value} {below : List Frame} {meth : Method} {c : Code} {cells slots : Nat} {Q : State → Prop}
variable {ad : Nat → Nat} {A : Nat → Prop} {own : Nat}
theorem ldc_ok (hx : p.tables.exec = Jvm.exec) (hown : s.vm.findClass (RNf own) = some m.cls) (hE : Exw ad A s) : LdcOK p l e R s m args below meth c cells slots Q ad own := by
  intro ho ix a h H locs ls pc st hd k
  subst ho
  rcases h with ⟨rfl, rfl⟩ | ⟨rfl, rfl⟩
  · exact va_ldcS hx rfl (own := "SecretBox$Tape") hown hE.2.1 hd k
  · exact va_ldcS hx rfl (own := "SecretBox$Tape") hown hE.2.2.1 hd k
theorem idx_ok (hx : p.tables.exec = Jvm.exec) (hown : s.vm.findClass (RNf own) = some m.cls) (hts : ∀ w ∈ lw_good, w.before args s = true) (hE : Exw ad A s) (hR : 12 ≤ R.frames ∧ 800 ≤ R.locals) (hcl : cells ≤ R.cells) (hsl : slots ≤ R.slots) : IdxOK p l e R s m args below meth c cells slots Q ad A own := by
  intro ho a tx h H locs ls pc r ch hS hls hd hr8 k
  subst ho
  obtain ⟨i, hi, rfl, rfl⟩ : ∃ i, i < 2 ∧ a = 201 + i ∧ tx = t_byt i := by
    rcases h with ⟨rfl, rfl⟩ | ⟨rfl, rfl⟩
    · exact ⟨0, by decide, rfl, rfl⟩
    · exact ⟨1, by decide, rfl, rfl⟩
  exact ci_V (own := "SecretBox$Tape") (As := [.int ch]) (rest := r) hx rfl hls.symm hown hts hE hS (m_ix1 hi) (vk_recv (i := i) hE.1 hi hS) ⟨good_at (i := 424) (by decide +kernel) rfl, good_at (i := 425) (by decide +kernel) rfl, good_at (i := 426) (by decide +kernel) rfl, good_at (i := 30) (by decide +kernel) rfl, good_at (i := 427) (by decide +kernel) rfl⟩ ⟨by decide, by decide, (by decide +kernel : _ = some 1)⟩ rfl ⟨by omega, by omega⟩ hcl hsl hr8 hd k
end STRS
end
section
/-! EVERY CALL: by the depth -/
theorem ent_at {ad : Nat → Nat} {v : Value} : ∀ (as : List Value) (k i : Nat), (entL as)[i]? = some (some v) → (k + i, kv ad v) ∈ lv_args k (as.map (kv ad)) := by
  intro as
  induction as with
  | nil => intro k i h; simp [entL] at h
  | cons a t ih =>
    intro k i h
    simp only [List.map_cons, lv_args]
    cases h2 : is2 a with
    | true =>
      rw [if_pos (kv_cat2 h2)]
      simp only [entL, h2, cond_true] at h
      match i, h with
      | 0, h => simp at h; subst h; exact List.mem_cons_self
      | 1, h => simp at h
      | i + 2, h =>
        have := ih (k + 2) i (by simpa using h)
        rw [show k + 2 + i = k + (i + 2) by omega] at this
        exact List.mem_cons_of_mem _ this
    | false =>
      rw [if_neg (by rw [kv_cat1 h2]; decide)]
      simp only [entL, h2, cond_false] at h
      match i, h with
      | 0, h => simp at h; subst h; exact List.mem_cons_self
      | i + 1, h =>
        have := ih (k + 1) i (by simpa using h)
        rw [show k + 1 + i = k + (i + 1) by omega] at this
        exact List.mem_cons_of_mem _ this
theorem ent_incl {ad : Nat → Nat} {n : Nat} {as : List Value} : ∀ q ∈ klv ad (entLv n as), q ∈ lv_args 0 (as.map (kv ad)) := by
  rintro ⟨i, w⟩ hq
  obtain ⟨v, hv, rfl⟩ := klv_mem.mp hq
  unfold entLv at hv
  by_cases hi : i < (entL as).length
  · rw [List.getElem?_append_left hi] at hv
    have := ent_at (ad := ad) as 0 i hv
    rwa [Nat.zero_add] at this
  · rw [List.getElem?_append_right (by omega)] at hv
    have := List.eq_of_mem_replicate (List.mem_of_getElem? hv)
    cases this
theorem ent_sl {ad : Nat → Nat} (as : List Value) : (lg_sl (as.map (kv ad))).length = (entL as).length := by
  induction as with
  | nil => rfl
  | cons a t ih =>
    have e1 : lg_sl ((a :: t).map (kv ad)) = (if (kv ad a).category = 2 then [Slot.val (kv ad a), .second] else [.val (kv ad a)]) ++ lg_sl (t.map (kv ad)) := rfl
    rw [e1, List.length_append, ih]
    cases h2 : is2 a with
    | true => rw [if_pos (kv_cat2 h2)]; simp [entL, h2]; omega
    | false => rw [if_neg (by rw [kv_cat1 h2]; decide)]; simp [entL, h2]; omega
theorem entLv_len {n : Nat} {as : List Value} (h : (entL as).length ≤ n) : (entLv n as).length = n := by
  simp [entLv]; omega
theorem forget_ok {p : Program} {l : Launch} {e : Env} {R : Room} {s : State} {m : MethodId} {args : Array Value} {below : List Frame} {meth : Method} {c : Code} {cells slots : Nat} {Q : State → Prop} {nW : Nat} {D : va_G} {ad : Nat → Nat} {cA : Nat → ClassId} {A : Nat → Prop} {I0 : I2} {M pc : Nat} {lv lv' : Lv} {st : St} {I : I2} {J : J2} (h : lvLe lv' lv) (k : Wr p l e R s m args below meth c cells slots Q nW D ad cA A I0 M pc lv' st I J) : Wr p l e R s m args below meth c cells slots Q nW D ad cA A I0 M pc lv st I J := by
  intro H locs ls hP hS hlen hl hfr
  refine k H locs ls hP hS (h.1.trans hlen) (lv_incl hl ?_) hfr
  rintro ⟨i, w⟩ hq
  obtain ⟨v, hv, rfl⟩ := klv_mem.mp hq
  exact klv_mem.mpr ⟨v, h.2 i v hv, rfl⟩
set_option maxHeartbeats 4000000 in
theorem ret_ok {p : Program} {l : Launch} {e : Env} {R : Room} {s : State} {m : MethodId} {args : Array Value} {below : List Frame} {meth : Method} {c : Code} {nW : Nat} {D : va_G} {ad : Nat → Nat} {cA : Nat → ClassId} {A : Nat → Prop} {I0 : I2} {M pc : Nat} {lv : Lv} {st : St} {I : I2} {J : J2} {Q' : Post} {r : Option Value} (hM0 : Nat.beq M 0 = false) (hx : p.tables.exec = Jvm.exec) (hb : c.code = bM M) (hr : meth.sig.returnType = rtM M) (hlocks : meth.locks = false) (h : retP M pc lv st = some r) (hq : Q' r I J) : Wr p l e R s m args below meth c 0 0 (MQ below (QW nW D ad cA A I0 Q') args s 0 0 A) nW D ad cA A I0 M pc lv st I J := by
  intro H locs ls hP hS hlen hl hfr
  unfold retP at h
  rw [hM0] at h
  simp only [cond_false] at h
  unfold retQ at h
  split at h
  · next n hf =>
    obtain ⟨hd, ho⟩ := fetch_ok hf
    have e3 : n = 1 := Nat.eq_of_beq_eq_true (show Nat.beq n 1 = true from ho)
    subst e3
    split at h
    · next hrt =>
      cases h
      exact W.vret hx hb (hr.trans hrt) (fun t ht hW => ⟨⟨none, I, J, rfl, hq, hfr, by rw [ht]; exact hP⟩, hS.F ht⟩) hS.2.2 hd
    · cases h
  · next n hf =>
    obtain ⟨hd, ho⟩ := fetch_ok hf
    have e3 : n = 1 := Nat.eq_of_beq_eq_true (show Nat.beq n 1 = true from ho)
    subst e3
    split at h
    · next x hrt =>
      cases h
      exact W.lret hx hb (hr.trans hrt) (fun t ht hW => ⟨⟨some (.long x), I, J, rfl, hq, hfr, by rw [ht]; exact hP⟩, hS.F ht⟩) hS.2.2 hd
    · cases h
  · next n hf =>
    obtain ⟨hd, ho⟩ := fetch_ok hf
    have e3 : n = 1 := Nat.eq_of_beq_eq_true (show Nat.beq n 1 = true from ho)
    subst e3
    split at h
    · next x hrt =>
      cases h
      exact W.iret hx hb (hr.trans hrt) (fun t ht hW => ⟨⟨some (.int x), I, J, rfl, hq, hfr, by rw [ht]; exact hP⟩, hS.F ht⟩) hS.2.2 hd
    · next x hrt =>
      split at h
      · next h01 =>
        cases h
        exact W.zret hx hb (hr.trans hrt) (narrow_01 h01).1 (fun t ht hW => ⟨⟨some (.int x), I, J, rfl, hq, hfr, by rw [ht]; exact hP⟩, hS.F ht⟩) hS.2.2 hd
      · cases h
    · next x hrt =>
      split at h
      · next hch =>
        cases h
        have hn : narrow .char (.int x) = .int x := by
          have e9 : narrow .char (.int x) = .int (vp_nar .char x) := rfl
          rw [e9, hch]
        exact W.zret hx hb (hr.trans hrt) hn (fun t ht hW => ⟨⟨some (.int x), I, J, rfl, hq, hfr, by rw [ht]; exact hP⟩, hS.F ht⟩) hS.2.2 hd
      · cases h
    · cases h
  · cases h
set_option maxHeartbeats 4000000 in
theorem met_ok {nW : Nat} {D : va_G} {ad : Nat → Nat} {cA : Nat → ClassId} {A : Nat → Prop} (hW : WDp nW ad A) (h58 : 58 ≤ nW) (h59 : nW ≤ 59) (l : Launch) : ∀ (d M : Nat) (as : List Value) (I : I2) (J : J2) (Q' : Post), calB M = true → callW d M as I J Q' → Met l (yM M) (wsM M) (rmd d) (va_Pc (as.map (kv ad)) (Wd nW D ad cA A I J)) (QW nW D ad cA A I Q') 0 0 A := by
  intro d
  induction d with
  | zero => intro M as I J Q' _ h; exact absurd h (fun q => q)
  | succ d ih =>
    intro M as I J Q' hlaw h
    obtain ⟨hle, h⟩ := h
    have hle : (entL as).length ≤ mlM M := Nat.le_of_ble_eq_true hle
    obtain ⟨n1, n2, n3, n4, n5, n6⟩ := owM_name hlaw
    refine Met.ofW (cc := bM M) (maxL := mlM M) (ret := rtM M) n4 rfl ?_
    intro p e s m args below meth c s₁ B hml hv
    obtain ⟨rfl, hP, hK, hE, hscr⟩ := hv
    have hn : nOK nW (owM M) := ⟨h58, h59, fun e => absurd e (calB_of hlaw).2.1⟩
    have hx := B.exec
    have hb := B.bytes
    have hr := B.returns
    have hts := atoms_spec (ws := wsM M) B.pre
    have hts2 : ∀ w ∈ lw_good, w.before (as.map (kv ad)).toArray s = true := fun w hw => hts w (List.mem_cons_of_mem _ hw)
    have hown : s.vm.findClass (RNf (owM M)) = some m.cls := by rw [← n1]; exact findClass_of_methodNamed B.named
    have hlocks := B.notSynchronized
    have hl := lv_entry (as.map (kv ad)) (n := mlM M) (by rw [ent_sl]; exact hle)
    rw [lg_entry_eq]
    generalize (lg_sl (as.map (kv ad)) ++ List.replicate (mlM M - (lg_sl (as.map (kv ad))).length) Slot.unset).toArray = ls at hl ⊢
    have hR : 1 ≤ ((headSpec (wsM M) (rmd (d + 1))).room).frames ∧ 100 ≤ ((headSpec (wsM M) (rmd (d + 1))).room).locals := by
      show 1 ≤ (rmd (d + 1)).frames ∧ 100 ≤ (rmd (d + 1)).locals
      simp only [rmd]; omega
    have hR2 : 12 ≤ ((headSpec (wsM M) (rmd (d + 1))).room).frames ∧ 800 ≤ ((headSpec (wsM M) (rmd (d + 1))).room).locals := by
      show 12 ≤ (rmd (d + 1)).frames ∧ 800 ≤ (rmd (d + 1)).locals
      simp only [rmd]; omega
    have key := h (Wr p l e (headSpec (wsM M) (rmd (d + 1))).room s m (as.map (kv ad)).toArray below meth c 0 0 (MQ below (QW nW D ad cA A I Q') (as.map (kv ad)).toArray s 0 0 A) nW D ad cA A I M) ⟨
      fun pc lv st I1 J1 pc' lv' st' I' J' hs k => step_ok hx hb hml hown hts2 hK hW hR hn hscr (ldc_ok hx hown hE) (idx_ok hx hown hts2 hE hR2 (Nat.zero_le _) (Nat.zero_le _)) hs k,
      fun pc lv st I1 J1 r hr1 hq => ret_ok (calB_of hlaw).2.2 hx hb hr hlocks hr1 hq,
      fun pc lv st I1 J1 M' as1 rest hc k => call_ok hx hb hml hown hts2 hK hW hn hscr hE (by show d + 20 + 1 ≤ d + 1 + 20; omega) (by show 60 + (1000 + 64 * d) ≤ 1000 + 64 * (d + 1); omega) (Nat.zero_le _) (Nat.zero_le _) (fun M2 as2 I2 J2 Q2 hl2 hc2 => ih M2 as2 I2 J2 Q2 hl2 hc2) hc k,
      fun pc lv lv' st I1 J1 hle2 k => forget_ok hle2 k⟩
    exact key s.heap [] ls hP va_S.rf (entLv_len hle) (lv_incl hl ent_incl) FrI.rf
end
section
/-! RULES for what asks something, and calls by what they answer -/
abbrev tN (x : Int32) : Nat := x.toNatClampNeg
def rmI (x y : Int32) : Int32 := x - x / y * y
def rmL (x y : Int64) : Int64 := x - x / y * y
def slI (x y : Int32) : Int32 := x <<< (y &&& 31)
def srI (x y : Int32) : Int32 := x >>> (y &&& 31)
def urI (x y : Int32) : Int32 := (x.toUInt32 >>> (y.toUInt32 &&& Int32.toUInt32 31)).toInt32
def slL (x : Int64) (y : Int32) : Int64 := x <<< (y.toInt64 &&& 63)
def i2b (x : Int32) : Int32 := x.toInt8.toInt32
def i2s (x : Int32) : Int32 := x.toInt16.toInt32
def i2c (x : Int32) : Int32 := (x.toUInt32 % 65536).toInt32
def cpI (I : I2) (a b sp dp n : Nat) : I2 := fun i => if i = a then va_cpy (I b) (I a) sp dp n else I i
def cpJ (J : J2) (a b sp dp n : Nat) : J2 := fun i => if i = a then va_cpy (J b) (J a) sp dp n else J i
def CI (d M : Nat) (as : List Value) (I : I2) (J : J2) (F : Int32 → I2 → J2 → Prop) : Prop := callW d M as I J (fun r I' J' => ∃ v, r = some (.int v) ∧ F v I' J')
def CL (d M : Nat) (as : List Value) (I : I2) (J : J2) (F : Int64 → I2 → J2 → Prop) : Prop := callW d M as I J (fun r I' J' => ∃ v, r = some (.long v) ∧ F v I' J')
def CV (d M : Nat) (as : List Value) (I : I2) (J : J2) (F : I2 → J2 → Prop) : Prop := callW d M as I J (fun r I' J' => r = none ∧ F I' J')
theorem CI.use {d M : Nat} {as : List Value} {I : I2} {J : J2} {F : Int32 → I2 → J2 → Prop} {G : Post} (h : CI d M as I J F) (k : ∀ v I' J', F v I' J' → G (some (.int v)) I' J') : callW d M as I J G :=
  callW_mono h (fun r I' J' ⟨v, e, f⟩ => e ▸ k v I' J' f)
theorem CL.use {d M : Nat} {as : List Value} {I : I2} {J : J2} {F : Int64 → I2 → J2 → Prop} {G : Post} (h : CL d M as I J F) (k : ∀ v I' J', F v I' J' → G (some (.long v)) I' J') : callW d M as I J G :=
  callW_mono h (fun r I' J' ⟨v, e, f⟩ => e ▸ k v I' J' f)
theorem CV.use {d M : Nat} {as : List Value} {I : I2} {J : J2} {F : I2 → J2 → Prop} {G : Post} (h : CV d M as I J F) (k : ∀ I' J', F I' J' → G none I' J') : callW d M as I J G :=
  callW_mono h (fun r I' J' ⟨e, f⟩ => e ▸ k I' J' f)
theorem CI.mono {d M : Nat} {as : List Value} {I : I2} {J : J2} {F G : Int32 → I2 → J2 → Prop} (h : CI d M as I J F) (k : ∀ v I' J', F v I' J' → G v I' J') : CI d M as I J G :=
  callW_mono h (fun r I' J' ⟨v, e, f⟩ => ⟨v, e, k v I' J' f⟩)
theorem CL.mono {d M : Nat} {as : List Value} {I : I2} {J : J2} {F G : Int64 → I2 → J2 → Prop} (h : CL d M as I J F) (k : ∀ v I' J', F v I' J' → G v I' J') : CL d M as I J G :=
  callW_mono h (fun r I' J' ⟨v, e, f⟩ => ⟨v, e, k v I' J' f⟩)
theorem CV.mono {d M : Nat} {as : List Value} {I : I2} {J : J2} {F G : I2 → J2 → Prop} (h : CV d M as I J F) (k : ∀ I' J', F I' J' → G I' J') : CV d M as I J G :=
  callW_mono h (fun r I' J' ⟨e, f⟩ => ⟨e, k I' J' f⟩)
def dropL : List Nat → Lv → Lv
  | [], lv => lv
  | k :: t, lv => dropL t (lv.set k none)
theorem lvLe_drop : ∀ (ks : List Nat) (lv : Lv), lvLe (dropL ks lv) lv := by
  intro ks
  induction ks with
  | nil => intro lv; exact ⟨rfl, fun _ _ h => h⟩
  | cons k t ih =>
    intro lv
    obtain ⟨h1, h2⟩ := ih (lv.set k none)
    refine ⟨h1.trans (by simp), fun i v hi => ?_⟩
    have h3 := h2 i v hi
    rw [List.getElem?_set] at h3
    split at h3
    · split at h3 <;> cases h3
    · exact h3
theorem Wp.drop {d M : Nat} {Q : Post} {pc : Nat} {lv lv' : Lv} {st : St} {I : I2} {J : J2} (ks : List Nat) (h : dropL ks lv = lv') (k : Wp d M Q pc lv' st I J) : Wp d M Q pc lv st I J := by
  subst h; exact Wp.forget _ (lvLe_drop ks lv) k
theorem vp_4 {i : Int32} (h : vp_in i 4) : i = 0 ∨ i = 1 ∨ i = 2 ∨ i = 3 := by
  obtain ⟨j, hj, rfl⟩ := vp_in_of h (by decide)
  match j, hj with
  | 0, _ => exact Or.inl rfl
  | 1, _ => exact Or.inr (Or.inl rfl)
  | 2, _ => exact Or.inr (Or.inr (Or.inl rfl))
  | 3, _ => exact Or.inr (Or.inr (Or.inr rfl))
section RU
variable {d M : Nat} {Q : Post} {pc n a : Nat} {lv : Lv} {r : St} {I : I2} {J : J2}
theorem Wp.iald {i : Int32} (hf : fetch M pc = some (.iaload, 1)) (hs : SKo (owM M) a = some (1, n)) (hin : vp_in i n) (k : Wp d M Q (pc + 1) lv (.int (I a i.toNatClampNeg) :: r) I J) : Wp d M Q pc lv (.int i :: .ref a :: r) I J := by
  refine Wp.step (pc' := pc + 1) (lv' := lv) (st' := .int (I a i.toNatClampNeg) :: r) (I' := I) (J' := J) ?_ k
  simp only [stepP, hf, exec1, opS, opL, opM, hs]
  simp only [show Nat.beq 1 1 = true from rfl, cond_true, if_neg hin]
theorem Wp.isld {i : Int32} (hf : fetch M pc = some (.iaload, 1)) (ho : owM M = 7) (hin : vp_in i (I 101 0).toNatClampNeg) (k : Wp d M Q (pc + 1) lv (.int (I 100 i.toNatClampNeg) :: r) I J) : Wp d M Q pc lv (.int i :: .ref 100 :: r) I J := by
  refine Wp.step (pc' := pc + 1) (lv' := lv) (st' := .int (I 100 i.toNatClampNeg) :: r) (I' := I) (J' := J) ?_ k
  simp only [stepP, hf, exec1, opS, opL, opM, ho, show SKo 7 100 = none from rfl]
  simp only [show (Nat.beq 100 100 && Nat.beq 7 7) = true from rfl, cond_true, if_neg hin]
theorem Wp.cald {i : Int32} (hf : fetch M pc = some (.caload, 1)) (hs : SKo (owM M) a = some (2, n)) (hin : vp_in i n) (k : Wp d M Q (pc + 1) lv (.int (I a i.toNatClampNeg) :: r) I J) : Wp d M Q pc lv (.int i :: .ref a :: r) I J := by
  refine Wp.step (pc' := pc + 1) (lv' := lv) (st' := .int (I a i.toNatClampNeg) :: r) (I' := I) (J' := J) ?_ k
  simp only [stepP, hf, exec1, opS, opL, opM, hs]
  simp only [show Nat.beq 2 2 = true from rfl, cond_true, if_neg hin]
theorem Wp.lald {i : Int32} (hf : fetch M pc = some (.laload, 1)) (hs : SKo (owM M) a = some (3, n)) (hin : vp_in i n) (k : Wp d M Q (pc + 1) lv (.long (J a i.toNatClampNeg) :: r) I J) : Wp d M Q pc lv (.int i :: .ref a :: r) I J := by
  refine Wp.step (pc' := pc + 1) (lv' := lv) (st' := .long (J a i.toNatClampNeg) :: r) (I' := I) (J' := J) ?_ k
  simp only [stepP, hf, exec1, opS, opL, opM, hs]
  simp only [show Nat.beq 3 3 = true from rfl, cond_true, if_neg hin]
theorem Wp.iast {i x : Int32} (hf : fetch M pc = some (.iastore, 1)) (hs : SKo (owM M) a = some (1, n)) (hin : vp_in i n) (k : Wp d M Q (pc + 1) lv r (up2 I a i.toNatClampNeg x) J) : Wp d M Q pc lv (.int x :: .int i :: .ref a :: r) I J := by
  refine Wp.step (pc' := pc + 1) (lv' := lv) (st' := r) (I' := up2 I a i.toNatClampNeg x) (J' := J) ?_ k
  simp only [stepP, hf, exec1, opS, opL, opM, hs]
  simp only [show Nat.beq 1 1 = true from rfl, cond_true, if_neg hin]
theorem Wp.cast {i x : Int32} (hf : fetch M pc = some (.castore, 1)) (hs : SKo (owM M) a = some (2, n)) (hin : vp_in i n) (k : Wp d M Q (pc + 1) lv r (up2 I a i.toNatClampNeg (vp_nar .char x)) J) : Wp d M Q pc lv (.int x :: .int i :: .ref a :: r) I J := by
  refine Wp.step (pc' := pc + 1) (lv' := lv) (st' := r) (I' := up2 I a i.toNatClampNeg (vp_nar .char x)) (J' := J) ?_ k
  simp only [stepP, hf, exec1, opS, opL, opM, hs]
  simp only [show Nat.beq 2 2 = true from rfl, cond_true, if_neg hin]
theorem Wp.last {i : Int32} {x : Int64} (hf : fetch M pc = some (.lastore, 1)) (hs : SKo (owM M) a = some (3, n)) (hin : vp_in i n) (k : Wp d M Q (pc + 1) lv r I (upJ J a i.toNatClampNeg x)) : Wp d M Q pc lv (.long x :: .int i :: .ref a :: r) I J := by
  refine Wp.step (pc' := pc + 1) (lv' := lv) (st' := r) (I' := I) (J' := upJ J a i.toNatClampNeg x) ?_ k
  simp only [stepP, hf, exec1, opS, opL, opM, hs]
  simp only [show Nat.beq 3 3 = true from rfl, cond_true, if_neg hin]
theorem Wp.idiv {x y : Int32} (hf : fetch M pc = some (.idiv, 1)) (hin : ¬ y = 0) (k : Wp d M Q (pc + 1) lv (.int (x / y) :: r) I J) : Wp d M Q pc lv (.int y :: .int x :: r) I J := by
  refine Wp.step (pc' := pc + 1) (lv' := lv) (st' := .int (x / y) :: r) (I' := I) (J' := J) ?_ k
  simp only [stepP, hf, exec1, opS, if_neg hin]
theorem Wp.irem {x y : Int32} (hf : fetch M pc = some (.irem, 1)) (hin : ¬ y = 0) (k : Wp d M Q (pc + 1) lv (.int (rmI x y) :: r) I J) : Wp d M Q pc lv (.int y :: .int x :: r) I J := by
  refine Wp.step (pc' := pc + 1) (lv' := lv) (st' := .int (rmI x y) :: r) (I' := I) (J' := J) ?_ k
  simp only [stepP, hf, exec1, opS, if_neg hin, rmI]
theorem Wp.ldiv {x y : Int64} (hf : fetch M pc = some (.ldiv, 1)) (hin : ¬ y = 0) (k : Wp d M Q (pc + 1) lv (.long (x / y) :: r) I J) : Wp d M Q pc lv (.long y :: .long x :: r) I J := by
  refine Wp.step (pc' := pc + 1) (lv' := lv) (st' := .long (x / y) :: r) (I' := I) (J' := J) ?_ k
  simp only [stepP, hf, exec1, opS, if_neg hin]
theorem Wp.lrem {x y : Int64} (hf : fetch M pc = some (.lrem, 1)) (hin : ¬ y = 0) (k : Wp d M Q (pc + 1) lv (.long (rmL x y) :: r) I J) : Wp d M Q pc lv (.long y :: .long x :: r) I J := by
  refine Wp.step (pc' := pc + 1) (lv' := lv) (st' := .long (rmL x y) :: r) (I' := I) (J' := J) ?_ k
  simp only [stepP, hf, exec1, opS, if_neg hin, rmL]
theorem Wp.putz {x : Int32} {ix ci kk : Nat} (hf : fetch M pc = some (.putfield ix, 3)) (hF : FTf (owM M) ix = some (ci, kk, 2)) (hs : SKo (owM M) a = some (0, ci)) (hin : x = 0 ∨ x = 1) (k : Wp d M Q (pc + 3) lv r (up2 I a kk x) J) : Wp d M Q pc lv (.int x :: .ref a :: r) I J := by
  refine Wp.step (pc' := pc + 3) (lv' := lv) (st' := r) (I' := up2 I a kk x) (J' := J) ?_ k
  simp only [stepP, hf, exec1, opS, opL, opM, hF, hs]
  have e : Nat.beq ci ci = true := Nat.beq_refl ci
  simp only [show Nat.beq 0 0 = true from rfl, show Nat.beq 2 0 = false from rfl, show Nat.beq 2 2 = true from rfl, e, Bool.and_self, cond_true, cond_false, if_pos hin]
theorem Wp.retZ {x : Int32} (hM : Nat.beq M 0 = false) (hf : fetch M pc = some (.ireturn, 1)) (hr : rtM M = some .boolean) (h : x = 0 ∨ x = 1) (k : Q (some (.int x)) I J) : Wp d M Q pc lv [.int x] I J := by
  refine Wp.ret (r := some (.int x)) ?_ k
  simp only [retP, retQ, hM, cond_false, hf, hr, if_pos h]
theorem Wp.retC {x : Int32} (hM : Nat.beq M 0 = false) (hf : fetch M pc = some (.ireturn, 1)) (hr : rtM M = some .char) (h : vp_nar .char x = x) (k : Q (some (.int x)) I J) : Wp d M Q pc lv [.int x] I J := by
  refine Wp.ret (r := some (.int x)) ?_ k
  simp only [retP, retQ, hM, cond_false, hf, hr, if_pos h]
end RU
theorem Wp.eqs {d M : Nat} {Q : Post} {pc pc' : Nat} {lv : Lv} {st st' : St} {I : I2} {J : J2} (h1 : pc = pc') (h2 : st = st') (k : Wp d M Q pc' lv st' I J) : Wp d M Q pc lv st I J := by
  subst h1; subst h2; exact k
end
section
/-! PURE: calls by depth, small numbers -/
theorem callW_succ : ∀ (d M : Nat) (as : List Value) (I : I2) (J : J2) (Q : Post), callW d M as I J Q → callW (d + 1) M as I J Q := by
  intro d
  induction d with
  | zero => intro M as I J Q h; exact absurd h (fun q => q)
  | succ d ih => exact fun M as I J Q h => ⟨h.1, fun X hX => h.2 X ⟨hX.1, hX.2.1, fun pc lv st I1 J1 M' as1 rest hc k => hX.2.2.1 pc lv st I1 J1 M' as1 rest hc (ih _ _ _ _ _ k), hX.2.2.2⟩⟩
theorem callW_le {d d' M : Nat} {as : List Value} {I : I2} {J : J2} {Q : Post} (h : callW d M as I J Q) (hd : d ≤ d') : callW d' M as I J Q := by
  induction hd with
  | refl => exact h
  | step _ ih => exact callW_succ _ _ _ _ _ _ ih
def QI (F : Int32 → I2 → J2 → Prop) : Post := fun r I' J' => ∃ v, r = some (.int v) ∧ F v I' J'
def QL (F : Int64 → I2 → J2 → Prop) : Post := fun r I' J' => ∃ v, r = some (.long v) ∧ F v I' J'
def QV (F : I2 → J2 → Prop) : Post := fun r I' J' => r = none ∧ F I' J'
theorem QI_i {F : Int32 → I2 → J2 → Prop} {v : Int32} {I : I2} {J : J2} : QI F (some (.int v)) I J ↔ F v I J := by simp [QI]
theorem QL_i {F : Int64 → I2 → J2 → Prop} {v : Int64} {I : I2} {J : J2} : QL F (some (.long v)) I J ↔ F v I J := by simp [QL]
theorem QV_i {F : I2 → J2 → Prop} {I : I2} {J : J2} : QV F none I J ↔ F I J := by simp [QV]
theorem CI.of {d M : Nat} {as : List Value} {I : I2} {J : J2} {F : Int32 → I2 → J2 → Prop} (hd : 1 ≤ d) (hl : Nat.ble (entL as).length (mlM M) = true) (h : Wp (d - 1) M (QI F) 0 (entLv (mlM M) as) [] I J) : CI d M as I J F := by
  obtain ⟨d, rfl⟩ : ∃ e, d = e + 1 := ⟨d - 1, by omega⟩
  exact callW.of hl h
theorem CL.of {d M : Nat} {as : List Value} {I : I2} {J : J2} {F : Int64 → I2 → J2 → Prop} (hd : 1 ≤ d) (hl : Nat.ble (entL as).length (mlM M) = true) (h : Wp (d - 1) M (QL F) 0 (entLv (mlM M) as) [] I J) : CL d M as I J F := by
  obtain ⟨d, rfl⟩ : ∃ e, d = e + 1 := ⟨d - 1, by omega⟩
  exact callW.of hl h
theorem CV.of {d M : Nat} {as : List Value} {I : I2} {J : J2} {F : I2 → J2 → Prop} (hd : 1 ≤ d) (hl : Nat.ble (entL as).length (mlM M) = true) (h : Wp (d - 1) M (QV F) 0 (entLv (mlM M) as) [] I J) : CV d M as I J F := by
  obtain ⟨d, rfl⟩ : ∃ e, d = e + 1 := ⟨d - 1, by omega⟩
  exact callW.of hl h
/-- true and false as the machine has them -/
def bI (b : Bool) : Int32 := bif b then 1 else 0
theorem bI_0 {b : Bool} : bI b = 0 ↔ b = false := by cases b <;> simp [bI]
theorem bI_1 {b : Bool} : bI b = 1 ↔ b = true := by cases b <;> simp [bI]
theorem bI_t : bI true = 1 := rfl
theorem bI_f : bI false = 0 := rfl
/-! numbers -/
theorem s_l : ∀ n, n < 32 → ((nI n &&& 31).toBitVec.smod 32).toNat = n := by decide +kernel
theorem n_lit (n : Nat) : (OfNat.ofNat n : Int32) = nI n := rfl
theorem n_m1 : (-1 : Int32) = nI 4294967295 := by decide +kernel
theorem n_tN {a : Nat} (h : a < 2 ^ 31) : tN (nI a) = a := nI_clamp h
theorem n_vp {a n : Nat} (h : a < n) (hn : n < 2 ^ 31) : vp_in (nI a) n := vp_in_nI h hn
theorem n_sr {a k : Nat} (ha : a < 2 ^ 31) (hk : k < 32) : srI (nI a) (nI k) = nI (a / 2 ^ k) := pk_shrN ha _ k (s_l k hk)
theorem n_sl {a k : Nat} (hk : k < 32) (h : a * 2 ^ k < 2 ^ 32) : slI (nI a) (nI k) = nI (a * 2 ^ k) := pk_shlN _ k (s_l k hk) h
theorem n_and1 {a : Nat} (h : a < 2 ^ 32) : nI a &&& 1 = nI (a % 2) := pk_andN h 1 (by decide +kernel)
theorem n_and3 {a : Nat} (h : a < 2 ^ 32) : nI a &&& 3 = nI (a % 4) := pk_andN h 2 (by decide +kernel)
theorem n_or (a b : Nat) : nI a ||| nI b = nI (a ||| b) := by
  apply Int32.toBitVec_inj.mp
  show BitVec.ofNat 32 a ||| BitVec.ofNat 32 b = BitVec.ofNat 32 (a ||| b)
  rw [BitVec.ofNat_or]
theorem n_and (a b : Nat) : nI a &&& nI b = nI (a &&& b) := by
  apply Int32.toBitVec_inj.mp
  show BitVec.ofNat 32 a &&& BitVec.ofNat 32 b = BitVec.ofNat 32 (a &&& b)
  rw [BitVec.ofNat_and]
theorem n_neg {a : Nat} (h : a < 2 ^ 31) : nI a < 0 ↔ False := iff_false_intro (nI_pos h)
theorem n_lt {a b : Nat} (ha : a < 2 ^ 31) (hb : b < 2 ^ 31) : nI a < nI b ↔ a < b := nI_ltI ha hb
theorem n_eq {a b : Nat} (ha : a < 2 ^ 31) (hb : b < 2 ^ 31) : nI a = nI b ↔ a = b := nI_eq ha hb
theorem n_e0 {a : Nat} (ha : a < 2 ^ 31) : nI a = 0 ↔ a = 0 := nI_eq ha (by decide)
theorem n_p0 {a : Nat} (ha : a < 2 ^ 31) : 0 < nI a ↔ 0 < a := nI_ltI (a := 0) (by decide) ha
theorem n_dec {a : Nat} (h : 0 < a) : nI a - 1 = nI (a - 1) := pk_sub (b := 1) h
theorem n_dec2 {a : Nat} (h : 0 < a) : nI a + (-1) = nI (a - 1) := by
  obtain ⟨b, rfl⟩ : ∃ b, a = b + 1 := ⟨a - 1, by omega⟩
  exact pk_m1 b
theorem n_inc (a : Nat) : nI a + 1 = nI (a + 1) := nI_1 a
/-! places -/
def pl (s q : Nat) : Nat := s / 4 ^ q % 4
theorem pl_lt (s q : Nat) : pl s q < 4 := Nat.mod_lt _ (by decide)
theorem two4 (q : Nat) : 2 ^ (2 * q) = 4 ^ q := by rw [Nat.pow_mul]
theorem n_pl {s q : Nat} (hs : s < 2 ^ 31) (hq : q < 16) : (srI (nI s) (2 * nI q)) &&& 3 = nI (pl s q) := by
  have e : (2 : Int32) * nI q = nI (2 * q) := pk_mul 2 q
  rw [e, n_sr hs (by omega), n_and3 (Nat.lt_of_le_of_lt (Nat.div_le_self _ _) (by omega)), two4]
  rfl
theorem c_Sb_placeIn {d s q : Nat} {I : I2} {J : J2} {F : Int32 → I2 → J2 → Prop} (hd : 1 ≤ d) (hs : s < 2 ^ 31) (hq : q < 16) (h : F (nI (pl s q)) I J) : CI d Sb_placeIn [.int (nI s), .int (nI q)] I J F :=
  CI.of hd rfl (v_Sb_placeIn_0 (QI_i.mpr (by rw [n_pl hs hq]; exact h)))
theorem c_Sb_bit {d : Nat} {b : Bool} {I : I2} {J : J2} {F : Int32 → I2 → J2 → Prop} (hd : 1 ≤ d) (h : F (bI b) I J) : CI d Sb_bit [.int (bI b)] I J F := by
  refine CI.of hd rfl (v_Sb_bit_0 ?_)
  cases b
  · exact ⟨fun _ => QI_i.mpr h, fun q => absurd rfl q⟩
  · exact ⟨fun q => absurd q (by decide), fun _ => QI_i.mpr h⟩
/-! a box -/
abbrev Bx : Type := (Nat × Nat) × ((Nat → Nat) × (Nat → Nat)) × ((Nat → Nat) × (Nat → Nat) × (Nat → Nat) × (Nat → Nat))
abbrev Bx.pn (B : Bx) : Nat := B.1.1
abbrev Bx.ln (B : Bx) : Nat := B.1.2
abbrev Bx.kd (B : Bx) : Nat → Nat := B.2.1.1
abbrev Bx.dp (B : Bx) : Nat → Nat := B.2.1.2
abbrev Bx.ow (B : Bx) : Nat → Nat := B.2.2.1
abbrev Bx.wy (B : Bx) : Nat → Nat := B.2.2.2.1
abbrev Bx.ot (B : Bx) : Nat → Nat := B.2.2.2.2.1
abbrev Bx.ps (B : Bx) : Nat → Nat := B.2.2.2.2.2
/-- a box as the document has it -/
def WFB (B : Bx) : Prop := B.pn ≤ 5 ∧ B.ln ≤ 6 ∧ (∀ p, p < B.pn → B.kd p ≤ 4 ∧ 1 ≤ B.dp p ∧ B.dp p ≤ 3) ∧ ∀ l, l < B.ln → B.ow l < B.pn ∧ B.wy l ≤ 2 ∧ B.ot l < B.pn ∧ 1 ≤ B.ps l ∧ B.ps l ≤ 15
/-- a box of the class, at place b -/
def BoxI (b : Nat) (B : Bx) (I : I2) : Prop := I b 2 = nI B.pn ∧ I b 7 = nI B.ln ∧ (∀ p, p < B.pn → I (b + 1) p = nI (B.kd p) ∧ I (b + 2) p = nI (B.dp p)) ∧ ∀ l, l < B.ln → I (b + 3) l = nI (B.ow l) ∧ I (b + 4) l = nI (B.wy l) ∧ I (b + 5) l = nI (B.ot l) ∧ I (b + 6) l = nI (B.ps l)
/-- the box of the model -/
def BoxM (B : Bx) (I : I2) : Prop := I 58 0 = nI B.pn ∧ I 58 1 = nI B.ln ∧ (∀ p, p < B.pn → I 58 (6 + 2 * p) = nI (B.kd p) ∧ I 58 (6 + 2 * p + 1) = nI (B.dp p)) ∧ ∀ l, l < B.ln → I 58 (16 + 4 * l) = nI (B.ow l) ∧ I 58 (16 + 4 * l + 1) = nI (B.wy l) ∧ I 58 (16 + 4 * l + 2) = nI (B.ot l) ∧ I 58 (16 + 4 * l + 3) = nI (B.ps l)
/-- lock l tells a place that its other panel is at -/
def met (B : Bx) (l s : Nat) : Bool := decide (B.ps l / 2 ^ pl s (B.ot l) % 2 = 1)
def con (B : Bx) (l p w : Nat) : Bool := decide (B.ow l = p) && (decide (B.wy l = 2) || decide (B.wy l = w))
def ringL (s p : Nat) : Bool := decide (p = 0) || (decide (0 < pl s (p - 1)) && decide (s % 4 ^ (p - 1) = 0))
def fitsB (B : Bx) (s p w : Nat) : Bool := (if w = 0 then decide (0 < pl s p) else decide (pl s p < B.dp p)) && (!(decide (B.kd p = 2) || (decide (B.kd p = 4) && decide (w = 1))) || ringL s p)
/-- the locks that hold a slide, filed ones too: below n -/
def hset (B : Bx) (s p w : Nat) : Nat → Nat
  | 0 => 0
  | n + 1 => hset B s p w n ||| (bif con B n p w && !met B n s then 2 ^ n else 0)
def slips (B : Bx) (q x : Nat) : Bool := decide (0 < x) && (decide (B.kd q = 1) || (decide (B.kd q = 3) && decide (x < B.dp q)))
def plB (B : Bx) (s p w q : Nat) : Nat := if q = p then (if w = 1 then pl s q + 1 else pl s q - 1) else if slips B q (pl s q) then pl s q - 1 else pl s q
def behB (B : Bx) (s p w : Nat) : Nat → Nat
  | 0 => 0
  | n + 1 => behB B s p w n ||| (plB B s p w n * 4 ^ n)
/-- may it be done, these locks filed -/
def mayB (B : Bx) (s f p w : Nat) : Bool := fitsB B s p w && decide (∀ l, l < B.ln → con B l p w = true → met B l s = false → f.testBit l = true)
theorem hset_bit {B : Bx} {s p w n : Nat} (l : Nat) : (hset B s p w n).testBit l = (decide (l < n) && (con B l p w && !met B l s)) := by
  induction n with
  | zero => simp [hset]
  | succ n ih =>
    simp only [hset, Nat.testBit_or, ih]
    cases e : (con B n p w && !met B n s) with
    | false =>
      simp only [cond_false, Nat.zero_testBit, Bool.or_false]
      by_cases h : l = n
      · subst h; simp [e]
      · have : decide (l < n + 1) = decide (l < n) := by congr 1; exact propext ⟨fun _ => by omega, fun _ => by omega⟩
        rw [this]
    | true =>
      simp only [cond_true, Nat.testBit_two_pow]
      by_cases h : l = n
      · subst h; simp [e]
      · have : decide (l < n + 1) = decide (l < n) := by congr 1; exact propext ⟨fun _ => by omega, fun _ => by omega⟩
        rw [this]
        simp [show ¬ n = l from fun q => h q.symm]
theorem hset_lt {B : Bx} {s p w n : Nat} (h : n ≤ 6) : hset B s p w n < 64 := by
  refine Nat.lt_pow_two_of_testBit (n := 6) _ (fun j hj => ?_)
  rw [hset_bit]
  have : ¬ j < n := by omega
  simp only [this, decide_false, Bool.false_and]
theorem hs_sub0 : ∀ a, a < 64 → ∀ f, f < 64 → ((nI a &&& (nI f ^^^ (-1))) = 0 ↔ a &&& f = a) := by decide +kernel
theorem hs_sub {a f : Nat} (hf : f < 64) (ha : a < 64) : ((nI a &&& (nI f ^^^ (-1))) = 0 ↔ a &&& f = a) := hs_sub0 a ha f hf
theorem hset_sub {B : Bx} {s p w f n : Nat} : hset B s p w n &&& f = hset B s p w n ↔ ∀ l, l < n → con B l p w = true → met B l s = false → f.testBit l = true := by
  constructor
  · intro h l hl h1 h2
    have e := congrArg (fun x => x.testBit l) h
    simp only [Nat.testBit_and, hset_bit, hl, h1, h2, decide_true, Bool.not_false, Bool.and_self, Bool.true_and] at e
    exact e
  · intro h
    apply Nat.eq_of_testBit_eq
    intro l
    rw [Nat.testBit_and, hset_bit]
    by_cases hl : l < n
    · cases h1 : con B l p w with
      | false => simp
      | true =>
        cases h2 : met B l s with
        | true => simp
        | false => simp [h l hl h1 h2]
    · simp [hl]
end
section
/-! the box of the class at place 1: its reads -/
section BOX1
variable {d : Nat} {B : Bx} {I : I2} {J : J2} {F : Int32 → I2 → J2 → Prop} {s f p w l : Nat}
theorem c_Bx_hasPanel_1 {x : Int32} (hd : 1 ≤ d) (hB : BoxI 1 B I) (h : F (bI (decide (¬ x < 0) && decide (x < nI B.pn))) I J) : CI d Bx_hasPanel [.ref 1, .int x] I J F := by
  refine CI.of hd rfl (v_Bx_hasPanel_1_0 ?_)
  rw [hB.1]
  refine ⟨fun h1 => QI_i.mpr ?_, fun h1 => ⟨fun h2 => QI_i.mpr ?_, fun h2 => QI_i.mpr ?_⟩⟩
  · simpa [h1, bI] using h
  · simpa [h1, h2, bI] using h
  · simpa [h1, h2, bI] using h
theorem c_Bx_hasLock_1 {x : Int32} (hd : 1 ≤ d) (hB : BoxI 1 B I) (h : F (bI (decide (¬ x < 0) && decide (x < nI B.ln))) I J) : CI d Bx_hasLock [.ref 1, .int x] I J F := by
  refine CI.of hd rfl (v_Bx_hasLock_1_0 ?_)
  rw [hB.2.1]
  refine ⟨fun h1 => QI_i.mpr ?_, fun h1 => ⟨fun h2 => QI_i.mpr ?_, fun h2 => QI_i.mpr ?_⟩⟩
  · simpa [h1, bI] using h
  · simpa [h1, h2, bI] using h
  · simpa [h1, h2, bI] using h
theorem c_Bx_isMet_1 (hd : 2 ≤ d) (hw : WFB B) (hB : BoxI 1 B I) (hl : l < B.ln) (hs : s < 2 ^ 31) (h : F (bI (met B l s)) I J) : CI d Bx_isMet [.ref 1, .int (nI l), .int (nI s)] I J F := by
  have hl6 : l < 6 := Nat.lt_of_lt_of_le hl hw.2.1
  obtain ⟨g1, g2, g3, g4⟩ := hB.2.2.2 l hl
  obtain ⟨k1, k2, k3, k4, k5⟩ := hw.2.2.2 l hl
  have hp5 := hw.1
  refine CI.of (by omega) rfl (v_Bx_isMet_1_0 ⟨n_vp hl6 (by decide), n_vp hl6 (by decide), ?_⟩)
  rw [n_tN (by omega), show I 6 l = nI (B.ot l) from g3, show I 7 l = nI (B.ps l) from g4]
  refine c_Sb_placeIn (by omega) hs (by omega) ?_
  have hpl := pl_lt s (B.ot l)
  rw [n_sr (by omega) (by omega), n_and1 (Nat.lt_of_le_of_lt (Nat.div_le_self _ _) (by omega)), n_e0 (by omega)]
  refine ⟨fun h1 => QI_i.mpr ?_, fun h1 => QI_i.mpr ?_⟩
  · have e : met B l s = false := by simp [met, h1]
    rw [e] at h; exact h
  · have e : met B l s = true := by simp only [met, decide_eq_true_eq]; omega
    rw [e] at h; exact h
theorem c_Bx_isOpen_1 {o : Nat} (hd : 2 ≤ d) (hw : WFB B) (hB : BoxI 1 B I) (ho : I 1 8 = nI o) (hop : B.pn = 0 ∧ o = 0 ∨ o < B.pn) (hs : s < 2 ^ 31) (h : F (bI (decide (0 < B.pn) && decide (pl s o = B.dp o))) I J) : CI d Bx_isOpen [.ref 1, .int (nI s)] I J F := by
  have hp5 := hw.1
  refine CI.of (by omega) rfl (v_Bx_isOpen_1_0 ?_)
  rw [ho]
  refine c_Bx_hasPanel_1 (by omega) hB ?_
  have ho31 : o < 2 ^ 31 := by omega
  rw [bI_0]
  simp only [n_neg ho31, n_lt ho31 (show B.pn < 2 ^ 31 by omega), not_false_eq_true, decide_true, Bool.true_and, decide_eq_false_iff_not]
  refine ⟨fun h1 => QI_i.mpr ?_, fun h1 => ?_⟩
  · have e : B.pn = 0 := by omega
    simpa [e, bI] using h
  · have h1 : o < B.pn := by omega
    rw [ho]
    refine c_Sb_placeIn (by omega) hs (by omega) ⟨?_, ?_⟩
    · rw [ho]; exact n_vp (by omega) (by decide)
    · have hpl := pl_lt s o
      have hdp := (hw.2.2.1 o h1).2
      rw [ho, n_tN ho31, show I 3 o = nI (B.dp o) from (hB.2.2.1 o h1).2, n_eq (by omega) (by omega)]
      have e0 : 0 < B.pn := by omega
      refine ⟨fun h2 => QI_i.mpr ?_, fun h2 => QI_i.mpr ?_⟩
      · simpa [e0, h2, bI] using h
      · simpa [e0, h2, bI] using h
theorem c_Bx_ringLets_1 (hd : 2 ≤ d) (hs : s < 2 ^ 31) (hp : p < 8) (h : F (bI (ringL s p)) I J) : CI d Bx_ringLets [.ref 1, .int (nI s), .int (nI p)] I J F := by
  refine CI.of (by omega) rfl (v_Bx_ringLets_1_0 ?_)
  rw [n_e0 (by omega)]
  refine ⟨fun h1 => QI_i.mpr ?_, fun h1 => ?_⟩
  · simpa [ringL, h1, bI] using h
  · have hp0 : 0 < p := by omega
    rw [n_dec hp0]
    refine c_Sb_placeIn (by omega) hs (by omega) ?_
    have hpl := pl_lt s (p - 1)
    have e1 : (2 : Int32) * nI (p - 1) = nI (2 * (p - 1)) := pk_mul 2 (p - 1)
    have e2 : slI 1 (nI (2 * (p - 1))) = nI (4 ^ (p - 1)) := by
      have hb : 2 ^ (2 * (p - 1)) ≤ 2 ^ 14 := Nat.pow_le_pow_right (by decide) (by omega)
      have := n_sl (a := 1) (k := 2 * (p - 1)) (by omega) (by omega)
      rw [Nat.one_mul, two4] at this
      exact this
    have e3 : nI (4 ^ (p - 1)) - 1 = nI (4 ^ (p - 1) - 1) := n_dec (Nat.pow_pos (by decide))
    have e4 : nI s &&& nI (4 ^ (p - 1) - 1) = nI (s % 4 ^ (p - 1)) := by
      rw [n_and, ← two4, Nat.and_two_pow_sub_one_eq_mod]
    rw [e1, e2, e3, e4, n_p0 (by omega), n_e0 (Nat.lt_of_le_of_lt (Nat.mod_le _ _) hs)]
    refine ⟨fun h2 => ⟨fun h3 => QI_i.mpr ?_, fun h3 => QI_i.mpr ?_⟩, fun h2 => QI_i.mpr ?_⟩
    · simpa [ringL, h1, h2, h3, bI] using h
    · simpa [ringL, h1, h2, h3, bI] using h
    · simpa [ringL, h1, h2, bI] using h
theorem c_Bx_slipsBack_1 {x : Nat} (hd : 1 ≤ d) (hw : WFB B) (hB : BoxI 1 B I) (hp : p < B.pn) (hx : x < 4) (h : F (bI (slips B p x)) I J) : CI d Bx_slipsBack [.ref 1, .int (nI p), .int (nI x)] I J F := by
  have hp5 : p < 5 := Nat.lt_of_lt_of_le hp hw.1
  obtain ⟨g1, g2⟩ := hB.2.2.1 p hp
  obtain ⟨k1, k2, k3⟩ := hw.2.2.1 p hp
  refine CI.of (by omega) rfl (v_Bx_slipsBack_1_0 ?_)
  have e1 : nI (B.kd p) = 1 ↔ B.kd p = 1 := n_eq (b := 1) (by omega) (by omega)
  have e3 : nI (B.kd p) = 3 ↔ B.kd p = 3 := n_eq (b := 3) (by omega) (by omega)
  have e4 : nI x < nI (B.dp p) ↔ x < B.dp p := n_lt (by omega) (by omega)
  rw [n_e0 (by omega), n_tN (by omega), show I 2 p = nI (B.kd p) from g1, show I 3 p = nI (B.dp p) from g2, e1, e3, e4]
  have hv := n_vp hp5 (by decide)
  refine ⟨fun h1 => QI_i.mpr ?_, fun h1 => ⟨hv, fun h2 => QI_i.mpr ?_, fun h2 => ⟨hv, fun h3 => ⟨hv, fun h4 => QI_i.mpr ?_, fun h4 => QI_i.mpr ?_⟩, fun h3 => QI_i.mpr ?_⟩⟩⟩
  · simpa [slips, h1, bI] using h
  · have h1 : 0 < x := by omega
    simpa [slips, h1, h2, bI] using h
  · have h1 : 0 < x := by omega
    simpa [slips, h1, h2, h3, h4, bI] using h
  · have h1 : 0 < x := by omega
    simpa [slips, h1, h2, h3, h4, bI] using h
  · have h1 : 0 < x := by omega
    simpa [slips, h1, h2, h3, bI] using h
theorem c_Bx_fits_1 (hd : 3 ≤ d) (hw : WFB B) (hB : BoxI 1 B I) (hs : s < 2 ^ 31) (hp : p < B.pn) (hww : w < 2) (h : F (bI (fitsB B s p w)) I J) : CI d Bx_fits [.ref 1, .int (nI s), .int (nI p), .int (nI w)] I J F := by
  have hp5 : p < 5 := Nat.lt_of_lt_of_le hp hw.1
  have hpn5 := hw.1
  obtain ⟨g1, g2⟩ := hB.2.2.1 p hp
  obtain ⟨k1, k2, k3⟩ := hw.2.2.1 p hp
  have hv := n_vp (a := p) hp5 (by decide)
  have hpl := pl_lt s p
  have q1 : I 2 p = nI (B.kd p) := g1
  have q2 : I 3 p = nI (B.dp p) := g2
  refine CI.of (by omega) rfl (v_Bx_fits_1_0 (c_Bx_hasPanel_1 (by omega) hB ?_))
  simp only [n_neg (show p < 2 ^ 31 by omega), n_lt (show p < 2 ^ 31 by omega) (show B.pn < 2 ^ 31 by omega), hp, not_false_eq_true, decide_true, Bool.and_self]
  refine ⟨fun z => absurd z (by decide), fun _ => c_Sb_placeIn (by omega) hs (by omega) ?_⟩
  rw [n_tN (by omega), q1, q2]
  have ew0 : nI w = 0 ↔ w = 0 := n_e0 (by omega)
  have ew1 : nI w = 1 ↔ w = 1 := n_eq (b := 1) (by omega) (by omega)
  have ek2 : nI (B.kd p) = 2 ↔ B.kd p = 2 := n_eq (b := 2) (by omega) (by omega)
  have ek4 : nI (B.kd p) = 4 ↔ B.kd p = 4 := n_eq (b := 4) (by omega) (by omega)
  have ev0 : nI (pl s p) = 0 ↔ pl s p = 0 := n_e0 (by omega)
  have elt : nI (pl s p) < nI (B.dp p) ↔ pl s p < B.dp p := n_lt (by omega) (by omega)
  have t0 : fitsB B s p w = false → QI F (some (.int 0)) I J := fun e => QI_i.mpr (by rw [e] at h; exact h)
  have t1 : fitsB B s p w = true → QI F (some (.int 1)) I J := fun e => QI_i.mpr (by rw [e] at h; exact h)
  have ring : fitsB B s p w = ringL s p → CI (d - 1) Bx_ringLets [.ref 1, .int (nI s), .int (nI p)] I J (fun v3 I3 J3 => (v3 = 0 → QI F (some (.int 0)) I3 J3) ∧ (¬ (v3 = 0) → QI F (some (.int 1)) I3 J3)) := by
    intro e
    rw [e] at t0 t1
    refine c_Bx_ringLets_1 (by omega) hs (by omega) ?_
    cases hr : ringL s p
    · exact ⟨fun _ => t0 hr, fun z => absurd rfl z⟩
    · exact ⟨fun z => absurd z (by decide), fun _ => t1 hr⟩
  rw [ew0, ew1, ek2, ek4, ev0, elt]
  refine ⟨fun hw0 => ⟨fun hv0 => t0 ?_, fun hv0 => ⟨hv, fun h2 => ring ?_, fun h2 => ⟨hv, fun h4 => ⟨fun h1 => ring ?_, fun h1 => t1 ?_⟩, fun h4 => t1 ?_⟩⟩⟩, fun hw0 => ⟨hv, fun hlt => ⟨hv, fun h2 => ring ?_, fun h2 => ⟨hv, fun h4 => ⟨fun h1 => ring ?_, fun h1 => t1 ?_⟩, fun h4 => t1 ?_⟩⟩, fun hlt => t0 ?_⟩⟩
  · simp [fitsB, hw0, hv0]
  · have hv1 : 0 < pl s p := by omega
    simp [fitsB, hw0, hv1, h2]
  · omega
  · have hv1 : 0 < pl s p := by omega
    simp [fitsB, hw0, hv1, h2]
  · have hv1 : 0 < pl s p := by omega
    simp [fitsB, hw0, hv1, h2, h4]
  · simp [fitsB, hw0, hlt, h2]
  · simp [fitsB, hlt, h2, h4, h1]
  · omega
  · simp [fitsB, hw0, hlt, h2, h4]
  · simp [fitsB, hw0, hlt]
theorem l_Bx_holding_1 (hd : 2 ≤ d) (hw : WFB B) (hB : BoxI 1 B I) (hs : s < 2 ^ 31) (hp : p < 8) (hww : w < 2) (h : F (nI (hset B s p w B.ln)) I J) : ∀ k n, n + k = B.ln → Wp d Bx_holding (QI F) 6 [some (.ref 1), some (.int (nI s)), some (.int (nI p)), some (.int (nI w)), some (.int (nI (hset B s p w n))), some (.int (nI n))] [] I J := by
  have hl6 := hw.2.1
  intro k
  induction k with
  | zero =>
    intro n hn
    refine v_Bx_holding_1_6 ⟨fun q => ?_, fun _ => QI_i.mpr ?_⟩
    · rw [show I 1 7 = nI B.ln from hB.2.1, n_lt (by omega) (by omega)] at q; omega
    · rw [show n = B.ln by omega]; exact h
  | succ k ih =>
    intro n hn
    have hlt : n < B.ln := by omega
    obtain ⟨g1, g2, g3, g4⟩ := hB.2.2.2 n hlt
    obtain ⟨k1, k2, k3, k4, k5⟩ := hw.2.2.2 n hlt
    have hpn := hw.1
    have hv := n_vp (a := n) (n := 6) (by omega) (by decide)
    have r1 : I 4 n = nI (B.ow n) := g1
    have r2 : I 5 n = nI (B.wy n) := g2
    have go := ih (n + 1) (by omega)
    have skip : (con B n p w && !met B n s) = false → Wp d Bx_holding (QI F) 6 [some (.ref 1), some (.int (nI s)), some (.int (nI p)), some (.int (nI w)), some (.int (nI (hset B s p w n))), some (.int (nI n + 1))] [] I J := by
      intro e
      rw [n_inc]
      have e2 : hset B s p w (n + 1) = hset B s p w n := by simp [hset, e]
      rw [e2] at go
      exact go
    have take : (con B n p w && !met B n s) = true → Wp d Bx_holding (QI F) 6 [some (.ref 1), some (.int (nI s)), some (.int (nI p)), some (.int (nI w)), some (.int (nI (hset B s p w n) ||| slI 1 (nI n))), some (.int (nI n + 1))] [] I J := by
      intro e
      have e3 : slI 1 (nI n) = nI (2 ^ n) := by
        have hb : 2 ^ n ≤ 2 ^ 6 := Nat.pow_le_pow_right (by decide) (by omega)
        have := n_sl (a := 1) (k := n) (by omega) (by omega)
        rwa [Nat.one_mul] at this
      rw [n_inc, e3, n_or]
      have e2 : hset B s p w (n + 1) = hset B s p w n ||| 2 ^ n := by simp [hset, e]
      rw [e2] at go
      exact go
    have ask : con B n p w = true → CI d Bx_isMet [.ref 1, .int (nI n), .int (nI s)] I J (fun v1 I1 J1 => (v1 = 0 → Wp d Bx_holding (QI F) 6 [some (.ref 1), some (.int (nI s)), some (.int (nI p)), some (.int (nI w)), some (.int (nI (hset B s p w n) ||| slI 1 (nI n))), some (.int (nI n + 1))] [] I1 J1) ∧ (¬ (v1 = 0) → Wp d Bx_holding (QI F) 6 [some (.ref 1), some (.int (nI s)), some (.int (nI p)), some (.int (nI w)), some (.int (nI (hset B s p w n))), some (.int (nI n + 1))] [] I1 J1)) := by
      intro e
      refine c_Bx_isMet_1 hd hw hB hlt hs ?_
      cases hm : met B n s
      · exact ⟨fun _ => take (by simp [e, hm]), fun z => absurd rfl z⟩
      · exact ⟨fun z => absurd z (by decide), fun _ => skip (by simp [hm])⟩
    refine v_Bx_holding_1_6 ⟨fun _ => ⟨hv, ?_⟩, fun q => absurd ((n_lt (by omega) (by omega)).mpr hlt) (by rw [show I 1 7 = nI B.ln from hB.2.1] at q; exact q)⟩
    rw [n_tN (by omega), r1, r2, n_eq (show B.ow n < 2 ^ 31 by omega) (show p < 2 ^ 31 by omega), show (2 : Int32) = nI 2 from rfl, n_eq (show B.wy n < 2 ^ 31 by omega) (show 2 < 2 ^ 31 by decide), n_eq (show B.wy n < 2 ^ 31 by omega) (show w < 2 ^ 31 by omega)]
    refine ⟨fun h1 => ⟨hv, fun h2 => ask ?_, fun h2 => ⟨hv, fun h3 => ask ?_, fun h3 => skip ?_⟩⟩, fun h1 => skip ?_⟩
    · simp [con, h1, h2]
    · simp [con, h1, h3]
    · simp [con, h2, h3]
    · simp [con, h1]
theorem c_Bx_holding_1 (hd : 3 ≤ d) (hw : WFB B) (hB : BoxI 1 B I) (hs : s < 2 ^ 31) (hp : p < 8) (hww : w < 2) (h : F (nI (hset B s p w B.ln)) I J) : CI d Bx_holding [.ref 1, .int (nI s), .int (nI p), .int (nI w)] I J F :=
  CI.of (by omega) rfl (v_Bx_holding_1_0 (l_Bx_holding_1 (by omega) hw hB hs hp hww h B.ln 0 (by omega)))
theorem c_Bx_maySlide_1 (hd : 4 ≤ d) (hw : WFB B) (hB : BoxI 1 B I) (hs : s < 2 ^ 31) (hp : p < B.pn) (hf : f < 64) (hww : w < 2) (h : F (bI (mayB B s f p w)) I J) : CI d Bx_maySlide [.ref 1, .int (nI s), .int (nI f), .int (nI p), .int (nI w)] I J F := by
  have hp5 : p < 5 := Nat.lt_of_lt_of_le hp hw.1
  refine CI.of (by omega) rfl (v_Bx_maySlide_1_0 (c_Bx_fits_1 (by omega) hw hB hs hp hww ?_))
  rw [bI_0]
  refine ⟨fun e => QI_i.mpr ?_, fun e => c_Bx_holding_1 (by omega) hw hB hs (by omega) hww ?_⟩
  · simpa [mayB, e, bI] using h
  · have e : fitsB B s p w = true := by simpa using e
    rw [hs_sub hf (hset_lt hw.2.1)]
    refine ⟨fun h2 => QI_i.mpr ?_, fun h2 => QI_i.mpr ?_⟩
    · have h4 : mayB B s f p w = true := by simp only [mayB, e, Bool.true_and, decide_eq_true_eq]; exact hset_sub.mp h2
      rw [h4] at h; exact h
    · have h4 : mayB B s f p w = false := by simp only [mayB, e, Bool.true_and, decide_eq_false_iff_not]; exact fun z => h2 (hset_sub.mpr z)
      rw [h4] at h; exact h
theorem l_Bx_behind_1 (hd : 1 ≤ d) (hw : WFB B) (hB : BoxI 1 B I) (hs : s < 2 ^ 31) (hp : p < 8) (hww : w < 2) (hm : w = 0 → 0 < pl s p) (h : F (nI (behB B s p w B.pn)) I J) : ∀ k n, n + k = B.pn → Wp d Bx_behind (QI F) 6 [some (.ref 1), some (.int (nI s)), some (.int (nI p)), some (.int (nI w)), some (.int (nI (behB B s p w n))), some (.int (nI n)), none] [] I J := by
  have hpn := hw.1
  intro k
  induction k with
  | zero =>
    intro n hn
    refine v_Bx_behind_1_6 ⟨fun q => ?_, fun _ => QI_i.mpr ?_⟩
    · rw [show I 1 2 = nI B.pn from hB.1, n_lt (by omega) (by omega)] at q; omega
    · rw [show n = B.pn by omega]; exact h
  | succ k ih =>
    intro n hn
    have hlt : n < B.pn := by omega
    have go := ih (n + 1) (by omega)
    have hpl := pl_lt s n
    have put : ∀ x, x ≤ 4 → plB B s p w n = x → Wp d Bx_behind (QI F) 6 [some (.ref 1), some (.int (nI s)), some (.int (nI p)), some (.int (nI w)), some (.int (nI (behB B s p w n) ||| slI (nI x) (2 * nI n))), some (.int (nI n + 1)), none] [] I J := by
      intro x hx e
      have e1 : (2 : Int32) * nI n = nI (2 * n) := pk_mul 2 n
      have e3 : slI (nI x) (nI (2 * n)) = nI (x * 4 ^ n) := by
        have hb : 2 ^ (2 * n) ≤ 2 ^ 10 := Nat.pow_le_pow_right (by decide) (by omega)
        have hb2 : x * 2 ^ (2 * n) ≤ 4 * 2 ^ 10 := Nat.mul_le_mul hx hb
        rw [n_sl (by omega) (by omega), two4]
      rw [n_inc, e1, e3, n_or]
      have e2 : behB B s p w (n + 1) = behB B s p w n ||| (x * 4 ^ n) := by simp [behB, e]
      rw [e2] at go
      exact go
    refine v_Bx_behind_1_6 ⟨fun _ => c_Sb_placeIn (by omega) hs (by omega) ?_, fun q => absurd ((n_lt (by omega) (by omega)).mpr hlt) (by rw [show I 1 2 = nI B.pn from hB.1] at q; exact q)⟩
    rw [n_eq (show n < 2 ^ 31 by omega) (show p < 2 ^ 31 by omega), show (nI w = 1) = (nI w = nI 1) from rfl, n_eq (show w < 2 ^ 31 by omega) (show 1 < 2 ^ 31 by decide)]
    refine ⟨fun h1 => ⟨fun h2 => ?_, fun h2 => ?_⟩, fun h1 => c_Bx_slipsBack_1 (by omega) hw hB hlt hpl ?_⟩
    · rw [n_inc (pl s n)]
      exact put (pl s n + 1) (by omega) (by simp [plB, h1, h2])
    · have h3 : 0 < pl s n := by rw [h1]; exact hm (by omega)
      rw [n_dec2 h3]
      exact put (pl s n - 1) (by omega) (by rw [plB, if_pos h1, if_neg h2])
    · cases hsl : slips B n (pl s n)
      · refine ⟨fun _ => put (pl s n) (by omega) (by rw [plB, if_neg h1, hsl]; rfl), fun z => absurd rfl z⟩
      · have h3 : 0 < pl s n := by simp [slips] at hsl; exact hsl.1
        refine ⟨fun z => absurd z (by decide), fun _ => ?_⟩
        rw [n_dec2 h3]
        exact put (pl s n - 1) (by omega) (by rw [plB, if_neg h1, hsl]; rfl)
theorem c_Bx_behind_1 (hd : 2 ≤ d) (hw : WFB B) (hB : BoxI 1 B I) (hs : s < 2 ^ 31) (hp : p < 8) (hww : w < 2) (hm : w = 0 → 0 < pl s p) (h : F (nI (behB B s p w B.pn)) I J) : CI d Bx_behind [.ref 1, .int (nI s), .int (nI p), .int (nI w)] I J F :=
  CI.of (by omega) rfl (v_Bx_behind_1_0 (l_Bx_behind_1 (by omega) hw hB hs hp hww hm h B.pn 0 (by omega)))
end BOX1
end
section
/-! the box of the class at place 21: its reads -/
section BOX21
variable {d : Nat} {B : Bx} {I : I2} {J : J2} {F : Int32 → I2 → J2 → Prop} {s f p w l : Nat}
theorem c_Bx_hasPanel_21 {x : Int32} (hd : 1 ≤ d) (hB : BoxI 21 B I) (h : F (bI (decide (¬ x < 0) && decide (x < nI B.pn))) I J) : CI d Bx_hasPanel [.ref 21, .int x] I J F := by
  refine CI.of hd rfl (v_Bx_hasPanel_21_0 ?_)
  rw [hB.1]
  refine ⟨fun h1 => QI_i.mpr ?_, fun h1 => ⟨fun h2 => QI_i.mpr ?_, fun h2 => QI_i.mpr ?_⟩⟩
  · simpa [h1, bI] using h
  · simpa [h1, h2, bI] using h
  · simpa [h1, h2, bI] using h
theorem c_Bx_isMet_21 (hd : 2 ≤ d) (hw : WFB B) (hB : BoxI 21 B I) (hl : l < B.ln) (hs : s < 2 ^ 31) (h : F (bI (met B l s)) I J) : CI d Bx_isMet [.ref 21, .int (nI l), .int (nI s)] I J F := by
  have hl6 : l < 6 := Nat.lt_of_lt_of_le hl hw.2.1
  obtain ⟨g1, g2, g3, g4⟩ := hB.2.2.2 l hl
  obtain ⟨k1, k2, k3, k4, k5⟩ := hw.2.2.2 l hl
  have hp5 := hw.1
  refine CI.of (by omega) rfl (v_Bx_isMet_21_0 ⟨n_vp hl6 (by decide), n_vp hl6 (by decide), ?_⟩)
  rw [n_tN (by omega), show I 26 l = nI (B.ot l) from g3, show I 27 l = nI (B.ps l) from g4]
  refine c_Sb_placeIn (by omega) hs (by omega) ?_
  have hpl := pl_lt s (B.ot l)
  rw [n_sr (by omega) (by omega), n_and1 (Nat.lt_of_le_of_lt (Nat.div_le_self _ _) (by omega)), n_e0 (by omega)]
  refine ⟨fun h1 => QI_i.mpr ?_, fun h1 => QI_i.mpr ?_⟩
  · have e : met B l s = false := by simp [met, h1]
    rw [e] at h; exact h
  · have e : met B l s = true := by simp only [met, decide_eq_true_eq]; omega
    rw [e] at h; exact h
theorem c_Bx_ringLets_21 (hd : 2 ≤ d) (hs : s < 2 ^ 31) (hp : p < 8) (h : F (bI (ringL s p)) I J) : CI d Bx_ringLets [.ref 21, .int (nI s), .int (nI p)] I J F := by
  refine CI.of (by omega) rfl (v_Bx_ringLets_21_0 ?_)
  rw [n_e0 (by omega)]
  refine ⟨fun h1 => QI_i.mpr ?_, fun h1 => ?_⟩
  · simpa [ringL, h1, bI] using h
  · have hp0 : 0 < p := by omega
    rw [n_dec hp0]
    refine c_Sb_placeIn (by omega) hs (by omega) ?_
    have hpl := pl_lt s (p - 1)
    have e1 : (2 : Int32) * nI (p - 1) = nI (2 * (p - 1)) := pk_mul 2 (p - 1)
    have e2 : slI 1 (nI (2 * (p - 1))) = nI (4 ^ (p - 1)) := by
      have hb : 2 ^ (2 * (p - 1)) ≤ 2 ^ 14 := Nat.pow_le_pow_right (by decide) (by omega)
      have := n_sl (a := 1) (k := 2 * (p - 1)) (by omega) (by omega)
      rw [Nat.one_mul, two4] at this
      exact this
    have e3 : nI (4 ^ (p - 1)) - 1 = nI (4 ^ (p - 1) - 1) := n_dec (Nat.pow_pos (by decide))
    have e4 : nI s &&& nI (4 ^ (p - 1) - 1) = nI (s % 4 ^ (p - 1)) := by
      rw [n_and, ← two4, Nat.and_two_pow_sub_one_eq_mod]
    rw [e1, e2, e3, e4, n_p0 (by omega), n_e0 (Nat.lt_of_le_of_lt (Nat.mod_le _ _) hs)]
    refine ⟨fun h2 => ⟨fun h3 => QI_i.mpr ?_, fun h3 => QI_i.mpr ?_⟩, fun h2 => QI_i.mpr ?_⟩
    · simpa [ringL, h1, h2, h3, bI] using h
    · simpa [ringL, h1, h2, h3, bI] using h
    · simpa [ringL, h1, h2, bI] using h
theorem c_Bx_slipsBack_21 {x : Nat} (hd : 1 ≤ d) (hw : WFB B) (hB : BoxI 21 B I) (hp : p < B.pn) (hx : x < 4) (h : F (bI (slips B p x)) I J) : CI d Bx_slipsBack [.ref 21, .int (nI p), .int (nI x)] I J F := by
  have hp5 : p < 5 := Nat.lt_of_lt_of_le hp hw.1
  obtain ⟨g1, g2⟩ := hB.2.2.1 p hp
  obtain ⟨k1, k2, k3⟩ := hw.2.2.1 p hp
  refine CI.of (by omega) rfl (v_Bx_slipsBack_21_0 ?_)
  have e1 : nI (B.kd p) = 1 ↔ B.kd p = 1 := n_eq (b := 1) (by omega) (by omega)
  have e3 : nI (B.kd p) = 3 ↔ B.kd p = 3 := n_eq (b := 3) (by omega) (by omega)
  have e4 : nI x < nI (B.dp p) ↔ x < B.dp p := n_lt (by omega) (by omega)
  rw [n_e0 (by omega), n_tN (by omega), show I 22 p = nI (B.kd p) from g1, show I 23 p = nI (B.dp p) from g2, e1, e3, e4]
  have hv := n_vp hp5 (by decide)
  refine ⟨fun h1 => QI_i.mpr ?_, fun h1 => ⟨hv, fun h2 => QI_i.mpr ?_, fun h2 => ⟨hv, fun h3 => ⟨hv, fun h4 => QI_i.mpr ?_, fun h4 => QI_i.mpr ?_⟩, fun h3 => QI_i.mpr ?_⟩⟩⟩
  · simpa [slips, h1, bI] using h
  · have h1 : 0 < x := by omega
    simpa [slips, h1, h2, bI] using h
  · have h1 : 0 < x := by omega
    simpa [slips, h1, h2, h3, h4, bI] using h
  · have h1 : 0 < x := by omega
    simpa [slips, h1, h2, h3, h4, bI] using h
  · have h1 : 0 < x := by omega
    simpa [slips, h1, h2, h3, bI] using h
theorem c_Bx_fits_21 (hd : 3 ≤ d) (hw : WFB B) (hB : BoxI 21 B I) (hs : s < 2 ^ 31) (hp : p < B.pn) (hww : w < 2) (h : F (bI (fitsB B s p w)) I J) : CI d Bx_fits [.ref 21, .int (nI s), .int (nI p), .int (nI w)] I J F := by
  have hp5 : p < 5 := Nat.lt_of_lt_of_le hp hw.1
  have hpn5 := hw.1
  obtain ⟨g1, g2⟩ := hB.2.2.1 p hp
  obtain ⟨k1, k2, k3⟩ := hw.2.2.1 p hp
  have hv := n_vp (a := p) hp5 (by decide)
  have hpl := pl_lt s p
  have q1 : I 22 p = nI (B.kd p) := g1
  have q2 : I 23 p = nI (B.dp p) := g2
  refine CI.of (by omega) rfl (v_Bx_fits_21_0 (c_Bx_hasPanel_21 (by omega) hB ?_))
  simp only [n_neg (show p < 2 ^ 31 by omega), n_lt (show p < 2 ^ 31 by omega) (show B.pn < 2 ^ 31 by omega), hp, not_false_eq_true, decide_true, Bool.and_self]
  refine ⟨fun z => absurd z (by decide), fun _ => c_Sb_placeIn (by omega) hs (by omega) ?_⟩
  rw [n_tN (by omega), q1, q2]
  have ew0 : nI w = 0 ↔ w = 0 := n_e0 (by omega)
  have ew1 : nI w = 1 ↔ w = 1 := n_eq (b := 1) (by omega) (by omega)
  have ek2 : nI (B.kd p) = 2 ↔ B.kd p = 2 := n_eq (b := 2) (by omega) (by omega)
  have ek4 : nI (B.kd p) = 4 ↔ B.kd p = 4 := n_eq (b := 4) (by omega) (by omega)
  have ev0 : nI (pl s p) = 0 ↔ pl s p = 0 := n_e0 (by omega)
  have elt : nI (pl s p) < nI (B.dp p) ↔ pl s p < B.dp p := n_lt (by omega) (by omega)
  have t0 : fitsB B s p w = false → QI F (some (.int 0)) I J := fun e => QI_i.mpr (by rw [e] at h; exact h)
  have t1 : fitsB B s p w = true → QI F (some (.int 1)) I J := fun e => QI_i.mpr (by rw [e] at h; exact h)
  have ring : fitsB B s p w = ringL s p → CI (d - 1) Bx_ringLets [.ref 21, .int (nI s), .int (nI p)] I J (fun v3 I3 J3 => (v3 = 0 → QI F (some (.int 0)) I3 J3) ∧ (¬ (v3 = 0) → QI F (some (.int 1)) I3 J3)) := by
    intro e
    rw [e] at t0 t1
    refine c_Bx_ringLets_21 (by omega) hs (by omega) ?_
    cases hr : ringL s p
    · exact ⟨fun _ => t0 hr, fun z => absurd rfl z⟩
    · exact ⟨fun z => absurd z (by decide), fun _ => t1 hr⟩
  rw [ew0, ew1, ek2, ek4, ev0, elt]
  refine ⟨fun hw0 => ⟨fun hv0 => t0 ?_, fun hv0 => ⟨hv, fun h2 => ring ?_, fun h2 => ⟨hv, fun h4 => ⟨fun h1 => ring ?_, fun h1 => t1 ?_⟩, fun h4 => t1 ?_⟩⟩⟩, fun hw0 => ⟨hv, fun hlt => ⟨hv, fun h2 => ring ?_, fun h2 => ⟨hv, fun h4 => ⟨fun h1 => ring ?_, fun h1 => t1 ?_⟩, fun h4 => t1 ?_⟩⟩, fun hlt => t0 ?_⟩⟩
  · simp [fitsB, hw0, hv0]
  · have hv1 : 0 < pl s p := by omega
    simp [fitsB, hw0, hv1, h2]
  · omega
  · have hv1 : 0 < pl s p := by omega
    simp [fitsB, hw0, hv1, h2]
  · have hv1 : 0 < pl s p := by omega
    simp [fitsB, hw0, hv1, h2, h4]
  · simp [fitsB, hw0, hlt, h2]
  · simp [fitsB, hlt, h2, h4, h1]
  · omega
  · simp [fitsB, hw0, hlt, h2, h4]
  · simp [fitsB, hw0, hlt]
theorem l_Bx_holding_21 (hd : 2 ≤ d) (hw : WFB B) (hB : BoxI 21 B I) (hs : s < 2 ^ 31) (hp : p < 8) (hww : w < 2) (h : F (nI (hset B s p w B.ln)) I J) : ∀ k n, n + k = B.ln → Wp d Bx_holding (QI F) 6 [some (.ref 21), some (.int (nI s)), some (.int (nI p)), some (.int (nI w)), some (.int (nI (hset B s p w n))), some (.int (nI n))] [] I J := by
  have hl6 := hw.2.1
  intro k
  induction k with
  | zero =>
    intro n hn
    refine v_Bx_holding_21_6 ⟨fun q => ?_, fun _ => QI_i.mpr ?_⟩
    · rw [show I 21 7 = nI B.ln from hB.2.1, n_lt (by omega) (by omega)] at q; omega
    · rw [show n = B.ln by omega]; exact h
  | succ k ih =>
    intro n hn
    have hlt : n < B.ln := by omega
    obtain ⟨g1, g2, g3, g4⟩ := hB.2.2.2 n hlt
    obtain ⟨k1, k2, k3, k4, k5⟩ := hw.2.2.2 n hlt
    have hpn := hw.1
    have hv := n_vp (a := n) (n := 6) (by omega) (by decide)
    have r1 : I 24 n = nI (B.ow n) := g1
    have r2 : I 25 n = nI (B.wy n) := g2
    have go := ih (n + 1) (by omega)
    have skip : (con B n p w && !met B n s) = false → Wp d Bx_holding (QI F) 6 [some (.ref 21), some (.int (nI s)), some (.int (nI p)), some (.int (nI w)), some (.int (nI (hset B s p w n))), some (.int (nI n + 1))] [] I J := by
      intro e
      rw [n_inc]
      have e2 : hset B s p w (n + 1) = hset B s p w n := by simp [hset, e]
      rw [e2] at go
      exact go
    have take : (con B n p w && !met B n s) = true → Wp d Bx_holding (QI F) 6 [some (.ref 21), some (.int (nI s)), some (.int (nI p)), some (.int (nI w)), some (.int (nI (hset B s p w n) ||| slI 1 (nI n))), some (.int (nI n + 1))] [] I J := by
      intro e
      have e3 : slI 1 (nI n) = nI (2 ^ n) := by
        have hb : 2 ^ n ≤ 2 ^ 6 := Nat.pow_le_pow_right (by decide) (by omega)
        have := n_sl (a := 1) (k := n) (by omega) (by omega)
        rwa [Nat.one_mul] at this
      rw [n_inc, e3, n_or]
      have e2 : hset B s p w (n + 1) = hset B s p w n ||| 2 ^ n := by simp [hset, e]
      rw [e2] at go
      exact go
    have ask : con B n p w = true → CI d Bx_isMet [.ref 21, .int (nI n), .int (nI s)] I J (fun v1 I1 J1 => (v1 = 0 → Wp d Bx_holding (QI F) 6 [some (.ref 21), some (.int (nI s)), some (.int (nI p)), some (.int (nI w)), some (.int (nI (hset B s p w n) ||| slI 1 (nI n))), some (.int (nI n + 1))] [] I1 J1) ∧ (¬ (v1 = 0) → Wp d Bx_holding (QI F) 6 [some (.ref 21), some (.int (nI s)), some (.int (nI p)), some (.int (nI w)), some (.int (nI (hset B s p w n))), some (.int (nI n + 1))] [] I1 J1)) := by
      intro e
      refine c_Bx_isMet_21 hd hw hB hlt hs ?_
      cases hm : met B n s
      · exact ⟨fun _ => take (by simp [e, hm]), fun z => absurd rfl z⟩
      · exact ⟨fun z => absurd z (by decide), fun _ => skip (by simp [hm])⟩
    refine v_Bx_holding_21_6 ⟨fun _ => ⟨hv, ?_⟩, fun q => absurd ((n_lt (by omega) (by omega)).mpr hlt) (by rw [show I 21 7 = nI B.ln from hB.2.1] at q; exact q)⟩
    rw [n_tN (by omega), r1, r2, n_eq (show B.ow n < 2 ^ 31 by omega) (show p < 2 ^ 31 by omega), show (2 : Int32) = nI 2 from rfl, n_eq (show B.wy n < 2 ^ 31 by omega) (show 2 < 2 ^ 31 by decide), n_eq (show B.wy n < 2 ^ 31 by omega) (show w < 2 ^ 31 by omega)]
    refine ⟨fun h1 => ⟨hv, fun h2 => ask ?_, fun h2 => ⟨hv, fun h3 => ask ?_, fun h3 => skip ?_⟩⟩, fun h1 => skip ?_⟩
    · simp [con, h1, h2]
    · simp [con, h1, h3]
    · simp [con, h2, h3]
    · simp [con, h1]
theorem c_Bx_holding_21 (hd : 3 ≤ d) (hw : WFB B) (hB : BoxI 21 B I) (hs : s < 2 ^ 31) (hp : p < 8) (hww : w < 2) (h : F (nI (hset B s p w B.ln)) I J) : CI d Bx_holding [.ref 21, .int (nI s), .int (nI p), .int (nI w)] I J F :=
  CI.of (by omega) rfl (v_Bx_holding_21_0 (l_Bx_holding_21 (by omega) hw hB hs hp hww h B.ln 0 (by omega)))
theorem c_Bx_maySlide_21 (hd : 4 ≤ d) (hw : WFB B) (hB : BoxI 21 B I) (hs : s < 2 ^ 31) (hp : p < B.pn) (hf : f < 64) (hww : w < 2) (h : F (bI (mayB B s f p w)) I J) : CI d Bx_maySlide [.ref 21, .int (nI s), .int (nI f), .int (nI p), .int (nI w)] I J F := by
  have hp5 : p < 5 := Nat.lt_of_lt_of_le hp hw.1
  refine CI.of (by omega) rfl (v_Bx_maySlide_21_0 (c_Bx_fits_21 (by omega) hw hB hs hp hww ?_))
  rw [bI_0]
  refine ⟨fun e => QI_i.mpr ?_, fun e => c_Bx_holding_21 (by omega) hw hB hs (by omega) hww ?_⟩
  · simpa [mayB, e, bI] using h
  · have e : fitsB B s p w = true := by simpa using e
    rw [hs_sub hf (hset_lt hw.2.1)]
    refine ⟨fun h2 => QI_i.mpr ?_, fun h2 => QI_i.mpr ?_⟩
    · have h4 : mayB B s f p w = true := by simp only [mayB, e, Bool.true_and, decide_eq_true_eq]; exact hset_sub.mp h2
      rw [h4] at h; exact h
    · have h4 : mayB B s f p w = false := by simp only [mayB, e, Bool.true_and, decide_eq_false_iff_not]; exact fun z => h2 (hset_sub.mpr z)
      rw [h4] at h; exact h
theorem l_Bx_behind_21 (hd : 1 ≤ d) (hw : WFB B) (hB : BoxI 21 B I) (hs : s < 2 ^ 31) (hp : p < 8) (hww : w < 2) (hm : w = 0 → 0 < pl s p) (h : F (nI (behB B s p w B.pn)) I J) : ∀ k n, n + k = B.pn → Wp d Bx_behind (QI F) 6 [some (.ref 21), some (.int (nI s)), some (.int (nI p)), some (.int (nI w)), some (.int (nI (behB B s p w n))), some (.int (nI n)), none] [] I J := by
  have hpn := hw.1
  intro k
  induction k with
  | zero =>
    intro n hn
    refine v_Bx_behind_21_6 ⟨fun q => ?_, fun _ => QI_i.mpr ?_⟩
    · rw [show I 21 2 = nI B.pn from hB.1, n_lt (by omega) (by omega)] at q; omega
    · rw [show n = B.pn by omega]; exact h
  | succ k ih =>
    intro n hn
    have hlt : n < B.pn := by omega
    have go := ih (n + 1) (by omega)
    have hpl := pl_lt s n
    have put : ∀ x, x ≤ 4 → plB B s p w n = x → Wp d Bx_behind (QI F) 6 [some (.ref 21), some (.int (nI s)), some (.int (nI p)), some (.int (nI w)), some (.int (nI (behB B s p w n) ||| slI (nI x) (2 * nI n))), some (.int (nI n + 1)), none] [] I J := by
      intro x hx e
      have e1 : (2 : Int32) * nI n = nI (2 * n) := pk_mul 2 n
      have e3 : slI (nI x) (nI (2 * n)) = nI (x * 4 ^ n) := by
        have hb : 2 ^ (2 * n) ≤ 2 ^ 10 := Nat.pow_le_pow_right (by decide) (by omega)
        have hb2 : x * 2 ^ (2 * n) ≤ 4 * 2 ^ 10 := Nat.mul_le_mul hx hb
        rw [n_sl (by omega) (by omega), two4]
      rw [n_inc, e1, e3, n_or]
      have e2 : behB B s p w (n + 1) = behB B s p w n ||| (x * 4 ^ n) := by simp [behB, e]
      rw [e2] at go
      exact go
    refine v_Bx_behind_21_6 ⟨fun _ => c_Sb_placeIn (by omega) hs (by omega) ?_, fun q => absurd ((n_lt (by omega) (by omega)).mpr hlt) (by rw [show I 21 2 = nI B.pn from hB.1] at q; exact q)⟩
    rw [n_eq (show n < 2 ^ 31 by omega) (show p < 2 ^ 31 by omega), show (nI w = 1) = (nI w = nI 1) from rfl, n_eq (show w < 2 ^ 31 by omega) (show 1 < 2 ^ 31 by decide)]
    refine ⟨fun h1 => ⟨fun h2 => ?_, fun h2 => ?_⟩, fun h1 => c_Bx_slipsBack_21 (by omega) hw hB hlt hpl ?_⟩
    · rw [n_inc (pl s n)]
      exact put (pl s n + 1) (by omega) (by simp [plB, h1, h2])
    · have h3 : 0 < pl s n := by rw [h1]; exact hm (by omega)
      rw [n_dec2 h3]
      exact put (pl s n - 1) (by omega) (by rw [plB, if_pos h1, if_neg h2])
    · cases hsl : slips B n (pl s n)
      · refine ⟨fun _ => put (pl s n) (by omega) (by rw [plB, if_neg h1, hsl]; rfl), fun z => absurd rfl z⟩
      · have h3 : 0 < pl s n := by simp [slips] at hsl; exact hsl.1
        refine ⟨fun z => absurd z (by decide), fun _ => ?_⟩
        rw [n_dec2 h3]
        exact put (pl s n - 1) (by omega) (by rw [plB, if_neg h1, hsl]; rfl)
theorem c_Bx_behind_21 (hd : 2 ≤ d) (hw : WFB B) (hB : BoxI 21 B I) (hs : s < 2 ^ 31) (hp : p < 8) (hww : w < 2) (hm : w = 0 → 0 < pl s p) (h : F (nI (behB B s p w B.pn)) I J) : CI d Bx_behind [.ref 21, .int (nI s), .int (nI p), .int (nI w)] I J F :=
  CI.of (by omega) rfl (v_Bx_behind_21_0 (l_Bx_behind_21 (by omega) hw hB hs hp hww hm h B.pn 0 (by omega)))
end BOX21
end
section
/-! the box of the model: its reads -/
theorem wide_lt (a b : Int32) : a.toInt64 < b.toInt64 ↔ a < b := by
  rw [Int64.lt_iff_toInt_lt, Int32.lt_iff_toInt_lt, Int32.toInt_toInt64, Int32.toInt_toInt64]
theorem wide_eq (a b : Int32) : a.toInt64 = b.toInt64 ↔ a = b := by
  rw [← Int64.toInt_inj, ← Int32.toInt_inj, Int32.toInt_toInt64, Int32.toInt_toInt64]
theorem cmp_lt {x y : Int64} : lg_cmp x y < 0 ↔ x < y := by
  unfold lg_cmp
  by_cases h : x > y
  · rw [if_pos h]
    exact ⟨fun q => absurd q (by decide), fun q => absurd (Int64.lt_trans q h) (Int64.lt_irrefl)⟩
  · rw [if_neg h]
    by_cases e : x = y
    · rw [if_pos e]
      exact ⟨fun q => absurd q (by decide), fun q => absurd q (by rw [e]; exact Int64.lt_irrefl)⟩
    · rw [if_neg e]
      refine ⟨fun _ => ?_, fun _ => by decide⟩
      have h1 := Int64.not_lt.mp h
      rw [Int64.lt_iff_toInt_lt]
      rw [Int64.le_iff_toInt_le] at h1
      have h2 : x.toInt ≠ y.toInt := fun q => e (Int64.toInt_inj.mp q)
      omega
theorem cmp_gt {x y : Int64} : 0 < lg_cmp x y ↔ y < x := by
  unfold lg_cmp
  by_cases h : x > y
  · rw [if_pos h]
    exact ⟨fun _ => h, fun _ => by decide⟩
  · rw [if_neg h]
    by_cases e : x = y
    · rw [if_pos e]
      exact ⟨fun q => absurd q (by decide), fun q => absurd q h⟩
    · rw [if_neg e]
      exact ⟨fun q => absurd q (by decide), fun q => absurd q h⟩
theorem cmp_eq {x y : Int64} : lg_cmp x y = 0 ↔ x = y := by
  unfold lg_cmp
  by_cases h : x > y
  · rw [if_pos h]
    exact ⟨fun q => absurd q (by decide), fun q => absurd h (by rw [q]; exact Int64.lt_irrefl)⟩
  · rw [if_neg h]
    by_cases e : x = y
    · rw [if_pos e]; exact ⟨fun _ => e, fun _ => rfl⟩
    · rw [if_neg e]
      exact ⟨fun q => absurd q (by decide), fun q => absurd q e⟩
section MODEL
variable {d : Nat} {B : Bx} {I : I2} {J : J2} {F : Int32 → I2 → J2 → Prop} {s f p w l : Nat}
theorem not_lt_pred {x : Int32} {n : Nat} (hn : n < 2 ^ 31) (hx : ¬ x < 0) : ¬ (nI n - 1) < x ↔ x < nI n := by
  rw [Int32.lt_iff_toInt_lt, Int32.lt_iff_toInt_lt, nI_toInt hn]
  rw [Int32.lt_iff_toInt_lt] at hx
  have e0 : (0 : Int32).toInt = 0 := by decide
  rw [e0] at hx
  have e : (nI n - 1).toInt = (n : Int) - 1 := by
    rcases Nat.eq_zero_or_pos n with h | h
    · subst h; decide
    · rw [n_dec h, nI_toInt (by omega)]; omega
  rw [e]; omega
/-- what a lock says of a slide -/
def letsB (B : Bx) (s f p w l : Nat) : Bool := !(con B l p w && !f.testBit l) || met B l s
theorem n_bit {f l : Nat} (hf : f < 64) (hl : l < 6) : (srI (nI f) (nI l) &&& 1 = 0) ↔ f.testBit l = false := by
  rw [n_sr (by omega) (by omega), n_and1 (Nat.lt_of_le_of_lt (Nat.div_le_self _ _) (by omega)), n_e0 (by omega), Nat.testBit_eq_decide_div_mod_eq]
  simp only [decide_eq_false_iff_not]
  omega
end MODEL
end
section
/-! sums of places -/
def Sm (g : Nat → Nat) : Nat → Nat
  | 0 => 0
  | n + 1 => Sm g n + g n * 4 ^ n
theorem Sm_congr {g g' : Nat → Nat} {n : Nat} (h : ∀ q, q < n → g q = g' q) : Sm g n = Sm g' n := by
  induction n with
  | zero => rfl
  | succ n ih => simp only [Sm]; rw [ih (fun q hq => h q (by omega)), h n (by omega)]
theorem Sm_upd {g g' : Nat → Nat} {n : Nat} : ∀ {N : Nat}, n < N → (∀ q, q ≠ n → g q = g' q) → Sm g N + g' n * 4 ^ n = Sm g' N + g n * 4 ^ n := by
  intro N
  induction N with
  | zero => intro h; omega
  | succ N ih =>
    intro h heq
    simp only [Sm]
    by_cases e : n = N
    · subst e
      rw [Sm_congr (g := g) (g' := g') (fun q hq => heq q (by omega))]
      omega
    · have := ih (by omega) heq
      rw [heq N (fun q => e q.symm)]
      omega
theorem Sm_lt {g : Nat → Nat} {n : Nat} (h : ∀ q, q < n → g q < 4) : Sm g n < 4 ^ n := by
  induction n with
  | zero => show (0 : Nat) < 1; decide
  | succ n ih =>
    simp only [Sm]
    have h1 := ih (fun q hq => h q (by omega))
    have h2 := h n (by omega)
    have h3 : g n * 4 ^ n ≤ 3 * 4 ^ n := Nat.mul_le_mul_right _ (by omega)
    rw [Nat.pow_succ]; omega
theorem Sm_pl (s n : Nat) : Sm (pl s) n = s % 4 ^ n := by
  induction n with
  | zero => simp [Sm, Nat.mod_one]
  | succ n ih =>
    simp only [Sm]
    rw [ih, Nat.pow_succ, Nat.mod_mul]
    simp only [pl]
    rw [Nat.mul_comm (4 ^ n)]
theorem pl_Sm {g : Nat → Nat} {n q : Nat} (h : ∀ q, q < n → g q < 4) (hq : q < n) : pl (Sm g n) q = g q := by
  induction n with
  | zero => omega
  | succ n ih =>
    simp only [Sm, pl]
    have h1 : Sm g n < 4 ^ n := Sm_lt (fun q hq => h q (by omega))
    by_cases e : q = n
    · subst e
      rw [Nat.add_mul_div_right _ _ (Nat.pow_pos (by decide)), Nat.div_eq_of_lt h1, Nat.zero_add, Nat.mod_eq_of_lt (h q (by omega))]
    · have hq' : q < n := by omega
      have h2 := ih (fun q hq => h q (by omega)) hq'
      simp only [pl] at h2
      obtain ⟨k, hk⟩ : ∃ k, n = q + 1 + k := ⟨n - q - 1, by omega⟩
      have e3 : g n * 4 ^ n = (g n * 4 ^ k * 4) * 4 ^ q := by
        rw [hk, Nat.pow_add, Nat.pow_add, Nat.pow_one]
        simp only [Nat.mul_assoc, Nat.mul_comm, Nat.mul_left_comm]
      rw [e3, Nat.add_mul_div_right _ _ (Nat.pow_pos (by decide)), Nat.add_mul_mod_self_right]
      exact h2
theorem behB_Sm {B : Bx} {s p w n : Nat} (h : ∀ q, q < n → plB B s p w q < 4) : behB B s p w n = Sm (plB B s p w) n := by
  induction n with
  | zero => rfl
  | succ n ih =>
    simp only [behB, Sm]
    rw [ih (fun q hq => h q (by omega))]
    have h1 : Sm (plB B s p w) n < 2 ^ (2 * n) := by rw [two4]; exact Sm_lt (fun q hq => h q (by omega))
    rw [← two4, Nat.mul_comm (plB B s p w n), Nat.or_comm, ← Nat.two_pow_add_eq_or_of_lt h1]
    omega
theorem plB_lt {B : Bx} {s p w q : Nat} (h : w = 1 → pl s p < 3) : plB B s p w q < 4 := by
  have := pl_lt s q
  unfold plB
  split
  · next e =>
    split
    · next e1 => have := h e1; rw [e]; omega
    · omega
  · split <;> omega
/-! may, behind, and what is asked now: the model -/
def plcB (B : Bx) (s p w : Nat) : Bool := if w = 0 then decide (0 < pl s p) else decide (pl s p < B.dp p)
def asRB (B : Bx) (p w : Nat) : Bool := decide (B.kd p = 2) || (decide (B.kd p = 4) && decide (w = 1))
def alB (B : Bx) (s f p w : Nat) : Nat → Bool
  | 0 => plcB B s p w
  | n + 1 => alB B s f p w n && letsB B s f p w n
theorem alB_iff {B : Bx} {s f p w n : Nat} : alB B s f p w n = true ↔ plcB B s p w = true ∧ ∀ l, l < n → letsB B s f p w l = true := by
  induction n with
  | zero => simp [alB]
  | succ n ih =>
    simp only [alB, Bool.and_eq_true, ih]
    constructor
    · rintro ⟨⟨h1, h2⟩, h3⟩
      refine ⟨h1, fun l hl => ?_⟩
      by_cases e : l = n
      · rw [e]; exact h3
      · exact h2 l (by omega)
    · rintro ⟨h1, h2⟩
      exact ⟨⟨h1, fun l hl => h2 l (by omega)⟩, h2 n (by omega)⟩
theorem alB_mono {B : Bx} {s f p w n m : Nat} (h : n ≤ m) (h2 : alB B s f p w n = false) : alB B s f p w m = false := by
  cases e : alB B s f p w m with
  | false => rfl
  | true =>
    rw [alB_iff] at e
    have : alB B s f p w n = true := alB_iff.mpr ⟨e.1, fun l hl => e.2 l (by omega)⟩
    rw [this] at h2; cases h2
theorem may_al {B : Bx} {s f p w : Nat} : mayB B s f p w = (alB B s f p w B.ln && (!asRB B p w || ringL s p)) := by
  rw [Bool.eq_iff_iff]
  have e : (∀ l, l < B.ln → con B l p w = true → met B l s = false → f.testBit l = true) ↔ ∀ l, l < B.ln → letsB B s f p w l = true := by
    constructor
    · intro h l hl
      have := h l hl
      unfold letsB
      revert this
      generalize con B l p w = x
      generalize met B l s = y
      generalize f.testBit l = z
      cases x <;> cases y <;> cases z <;> simp
    · intro h l hl h1 h2
      have := h l hl
      unfold letsB at this
      rw [h1, h2] at this
      simpa using this
  simp only [mayB, fitsB, Bool.and_eq_true, alB_iff, decide_eq_true_eq, plcB, asRB, e]
  constructor
  · rintro ⟨⟨h1, h2⟩, h3⟩; exact ⟨⟨h1, h3⟩, h2⟩
  · rintro ⟨⟨h1, h3⟩, h2⟩; exact ⟨⟨h1, h2⟩, h3⟩
section MODEL2
variable {d : Nat} {B : Bx} {I : I2} {J : J2} {F : Int32 → I2 → J2 → Prop} {s f p w l : Nat}
/-- the sum, the first n panels done -/
def plM (B : Bx) (s p w n q : Nat) : Nat := if q < n then plB B s p w q else if q = p then (if w = 1 then pl s q + 1 else pl s q - 1) else pl s q
end MODEL2
end
section
/-! what a box holds: panels, locks, lid, where all is, filed, the draw, what may be undone (newest first) -/
abbrev Bv : Type := Bx × (Nat × Nat × Nat × Nat) × List (Nat × Nat × Nat)
abbrev Bv.B (V : Bv) : Bx := V.1
abbrev Bv.lid (V : Bv) : Nat := V.2.1.1
abbrev Bv.s (V : Bv) : Nat := V.2.1.2.1
abbrev Bv.f (V : Bv) : Nat := V.2.1.2.2.1
abbrev Bv.dr (V : Bv) : Nat := V.2.1.2.2.2
abbrev Bv.past (V : Bv) : List (Nat × Nat × Nat) := V.2.2
def okS (B : Bx) (s : Nat) : Prop := s < 4 ^ B.pn ∧ ∀ p, p < B.pn → pl s p ≤ B.dp p
def okP (B : Bx) (x : Nat × Nat × Nat) : Prop := okS B x.1 ∧ x.2.1 < 2 ^ B.ln ∧ x.2.2 < 2 ^ 31
def WFV (V : Bv) : Prop := WFB V.B ∧ (V.B.pn = 0 ∧ V.lid = 0 ∨ V.lid < V.B.pn) ∧ okS V.B V.s ∧ V.f < 2 ^ V.B.ln ∧ V.dr < 2 ^ 31 ∧ V.past.length ≤ 8 ∧ ∀ x ∈ V.past, okP V.B x
/-- the class: at place b -/
def CBx (b : Nat) (V : Bv) (I : I2) : Prop := BoxI b V.B I ∧ I b 8 = nI V.lid ∧ I b 9 = nI V.s ∧ I b 10 = nI V.f ∧ I b 11 = nI V.dr ∧ I b 15 = nI V.past.length ∧ ∃ np, np < 8 ∧ I b 16 = nI np ∧ ∀ k x, V.past[k]? = some x → I (b + 7) ((np + 7 - k) % 8) = nI x.1 ∧ I (b + 8) ((np + 7 - k) % 8) = nI x.2.1 ∧ I (b + 9) ((np + 7 - k) % 8) = nI x.2.2
/-- the model: its row of numbers, the row of what may be undone, how many -/
def BoxR (B : Bx) (g : Nat → Int32) : Prop := g 0 = nI B.pn ∧ g 1 = nI B.ln ∧ (∀ p, p < B.pn → g (6 + 2 * p) = nI (B.kd p) ∧ g (6 + 2 * p + 1) = nI (B.dp p)) ∧ ∀ l, l < B.ln → g (16 + 4 * l) = nI (B.ow l) ∧ g (16 + 4 * l + 1) = nI (B.wy l) ∧ g (16 + 4 * l + 2) = nI (B.ot l) ∧ g (16 + 4 * l + 3) = nI (B.ps l)
def MRw (V : Bv) (g u : Nat → Int32) (n : Int32) : Prop := BoxR V.B g ∧ g 2 = nI V.lid ∧ g 3 = nI V.f ∧ g 4 = nI V.dr ∧ g 5 = nI V.s ∧ n = nI V.past.length ∧ ∀ k x, V.past[k]? = some x → u (3 * (V.past.length - 1 - k)) = nI x.1 ∧ u (3 * (V.past.length - 1 - k) + 1) = nI x.2.1 ∧ u (3 * (V.past.length - 1 - k) + 2) = nI x.2.2
abbrev MBx (V : Bv) (I : I2) : Prop := MRw V (I 58) (I 62) (I 57 9)
theorem MBx.boxM {V : Bv} {I : I2} (h : MBx V I) : BoxM V.B I := h.1
/-- what a step of now leaves alone: the class -/
def Fr1 (I I' : I2) : Prop := (∀ a, (a = 0 ∨ 11 ≤ a) → I' a = I a) ∧ I' 1 17 = I 1 17
/-- what a step of now leaves alone: the model -/
def FrN (I I' : I2) : Prop := (∀ a, a ≠ 57 → a ≠ 58 → a ≠ 62 → I' a = I a) ∧ ∀ k, k ≠ 9 → I' 57 k = I 57 k
theorem Fr1.rf {I : I2} : Fr1 I I := ⟨fun _ _ => rfl, rfl⟩
theorem Fr1.tr {I0 I1 I2 : I2} (h1 : Fr1 I0 I1) (h2 : Fr1 I1 I2) : Fr1 I0 I2 := ⟨fun a h => (h2.1 a h).trans (h1.1 a h), h2.2.trans h1.2⟩
theorem FrN.rf {I : I2} : FrN I I := ⟨fun _ _ _ _ => rfl, fun _ _ => rfl⟩
theorem FrN.tr {I0 I1 I2 : I2} (h1 : FrN I0 I1) (h2 : FrN I1 I2) : FrN I0 I2 := ⟨fun a x y z => (h2.1 a x y z).trans (h1.1 a x y z), fun k h => (h2.2 k h).trans (h1.2 k h)⟩
/-- with what was kept ahead of a step -/
def Bv.rem (V : Bv) : Bv := (V.1, V.2.1, ((V.s, V.f, V.dr) :: V.past).take 8)
theorem rem_get {V : Bv} {k : Nat} {x : Nat × Nat × Nat} (h : V.rem.past[k]? = some x) : k < 8 ∧ (k = 0 ∧ x = (V.s, V.f, V.dr) ∨ ∃ j, k = j + 1 ∧ V.past[j]? = some x) := by
  simp only [Bv.rem, Bv.past] at h
  rw [List.getElem?_take] at h
  split at h
  · next hk =>
    refine ⟨hk, ?_⟩
    cases k with
    | zero => simp at h; exact Or.inl ⟨rfl, h.symm⟩
    | succ j => exact Or.inr ⟨j, rfl, by simpa using h⟩
  · cases h
theorem rem_len {V : Bv} (h : V.past.length ≤ 8) : V.rem.past.length = if V.past.length < 8 then V.past.length + 1 else 8 := by
  simp only [Bv.rem, Bv.past, List.length_take, List.length_cons]
  have : V.2.2.length ≤ 8 := h
  split <;> omega
theorem WFV.rem {V : Bv} (h : WFV V) : WFV V.rem := by
  obtain ⟨h1, h2, h3, h4, h5, h6, h7⟩ := h
  refine ⟨h1, h2, h3, h4, h5, by rw [rem_len h6]; split <;> omega, fun x hx => ?_⟩
  have hx2 := List.mem_of_mem_take hx
  rcases List.mem_cons.mp hx2 with rfl | hx3
  · exact ⟨h3, h4, h5⟩
  · exact h7 x hx3
theorem s31 {B : Bx} {s : Nat} (hw : WFB B) (h : s < 4 ^ B.pn) : s < 1024 := Nat.lt_of_lt_of_le h (Nat.le_trans (Nat.pow_le_pow_right (by decide) hw.1) (by decide))
theorem f64 {B : Bx} {f : Nat} (hw : WFB B) (h : f < 2 ^ B.ln) : f < 64 := Nat.lt_of_lt_of_le h (Nat.le_trans (Nat.pow_le_pow_right (by decide) hw.2.1) (by decide))
theorem n_rm {a k : Nat} (ha : a < 2 ^ 31) (hk : 0 < k) (hk2 : k < 2 ^ 31) : rmI (nI a) (nI k) = nI (a % k) := pk_rem ha hk hk2
theorem n_div {a k : Nat} (ha : a < 2 ^ 31) (hk : 0 < k) (hk2 : k < 2 ^ 31) : nI a / nI k = nI (a / k) := pk_div ha hk hk2
section REL
variable {d : Nat} {V : Bv} {I : I2} {J : J2} {G : I2 → J2 → Prop} {F : Int32 → I2 → J2 → Prop}
set_option maxHeartbeats 1000000 in
theorem c_Bx_remember (hd : 1 ≤ d) (hw : WFV V) (hV : CBx 1 V I) (h : ∀ I', CBx 1 V.rem I' → Fr1 I I' → G I' J) : CV d Bx_remember [.ref 1] I J G := by
  obtain ⟨hB, h8, h9, h10, h11, h15, np, hnp, h16, hp⟩ := hV
  have h6 := hw.2.2.2.2.2.1
  refine CV.of hd rfl (v_Bx_remember_1_0 ?_)
  have hv : vp_in (I 1 16) 8 := by rw [h16]; exact n_vp hnp (by decide)
  have e1 : rmI (I 1 16 + 1) 8 = nI ((np + 1) % 8) := by rw [h16, n_inc]; exact n_rm (by omega) (by decide) (by decide)
  have e2 : tN (I 1 16) = np := by rw [h16]; exact n_tN (by omega)
  have key : ∀ I', (∀ a, a ≠ 1 → a ≠ 8 → a ≠ 9 → a ≠ 10 → I' a = I a) → (∀ k, k ≠ 15 → k ≠ 16 → I' 1 k = I 1 k) → I' 1 15 = nI V.rem.past.length → I' 1 16 = nI ((np + 1) % 8) → I' 8 = upd (I 8) np (I 1 9) → I' 9 = upd (I 9) np (I 1 10) → I' 10 = upd (I 10) np (I 1 11) → G I' J := by
    intro I' g1 g2 g3 g4 g5 g6 g7
    refine h I' ⟨⟨?_, ?_, ?_, ?_⟩, ?_, ?_, ?_, ?_, g3, (np + 1) % 8, Nat.mod_lt _ (by decide), g4, ?_⟩ ⟨fun a ha => g1 a (by omega) (by omega) (by omega) (by omega), g2 17 (by decide) (by decide)⟩
    · rw [g2 2 (by decide) (by decide)]; exact hB.1
    · rw [g2 7 (by decide) (by decide)]; exact hB.2.1
    · intro p hp2
      rw [g1 (1 + 1) (by decide) (by decide) (by decide) (by decide), g1 (1 + 2) (by decide) (by decide) (by decide) (by decide)]
      exact hB.2.2.1 p hp2
    · intro l hl
      rw [g1 (1 + 3) (by decide) (by decide) (by decide) (by decide), g1 (1 + 4) (by decide) (by decide) (by decide) (by decide), g1 (1 + 5) (by decide) (by decide) (by decide) (by decide), g1 (1 + 6) (by decide) (by decide) (by decide) (by decide)]
      exact hB.2.2.2 l hl
    · rw [g2 8 (by decide) (by decide)]; exact h8
    · rw [g2 9 (by decide) (by decide)]; exact h9
    · rw [g2 10 (by decide) (by decide)]; exact h10
    · rw [g2 11 (by decide) (by decide)]; exact h11
    · intro k x hx
      obtain ⟨hk, ⟨rfl, rfl⟩ | ⟨j, rfl, hj⟩⟩ := rem_get hx
      · have e : ((np + 1) % 8 + 7 - 0) % 8 = np := by omega
        rw [e, show I' (1 + 7) = upd (I 8) np (I 1 9) from g5, show I' (1 + 8) = upd (I 9) np (I 1 10) from g6, show I' (1 + 9) = upd (I 10) np (I 1 11) from g7, h9, h10, h11]
        simp [upd]
      · have e : ((np + 1) % 8 + 7 - (j + 1)) % 8 = (np + 7 - j) % 8 := by omega
        have ne : (np + 7 - j) % 8 ≠ np := by omega
        rw [e, show I' (1 + 7) = upd (I 8) np (I 1 9) from g5, show I' (1 + 8) = upd (I 9) np (I 1 10) from g6, show I' (1 + 9) = upd (I 10) np (I 1 11) from g7]
        simp only [upd, if_neg ne]
        exact hp j x hj
  refine ⟨hv, hv, hv, fun hlt => QV_i.mpr (key _ ?_ ?_ ?_ ?_ ?_ ?_ ?_), fun hlt => QV_i.mpr (key _ ?_ ?_ ?_ ?_ ?_ ?_ ?_)⟩
  · intro a a1 a2 a3 a4; simp [up2, a1, a2, a3, a4]
  · intro k k1 k2; simp [up2, upd, k1, k2]
  · rw [h15, show (8 : Int32) = nI 8 from rfl, n_lt (by omega) (by decide)] at hlt
    rw [rem_len h6, if_pos hlt]; simp [up2, upd]; rw [h15, n_inc]
  · simp [up2, upd]; exact e1
  · simp [up2, e2]
  · simp [up2, e2]
  · simp [up2, e2]
  · intro a a1 a2 a3 a4; simp [up2, a1, a2, a3, a4]
  · intro k k1 k2; simp [up2, upd, k1, k2]
  · rw [h15, show (8 : Int32) = nI 8 from rfl, n_lt (by omega) (by decide)] at hlt
    rw [rem_len h6, if_neg hlt]; simp [up2, upd]; rw [h15]; congr 1; omega
  · simp [up2, upd]; exact e1
  · simp [up2, e2]
  · simp [up2, e2]
  · simp [up2, e2]
end REL
end
section
/-! what each call of the first two groups answers and leaves -/
abbrev inN (x : Int32) (n : Nat) : Prop := ¬ x < 0 ∧ x < nI n
def updN (g : Nat → Nat) (n v : Nat) : Nat → Nat := fun q => if q = n then v else g q
def Bx.addP (B : Bx) (k dp : Nat) : Bx := ((B.pn + 1, B.ln), (updN B.kd B.pn k, updN B.dp B.pn dp), B.2.2)
def Bx.addL (B : Bx) (a w o ps : Nat) : Bx := ((B.pn, B.ln + 1), B.2.1, (updN B.ow B.ln a, updN B.wy B.ln w, updN B.ot B.ln o, updN B.ps B.ln ps))
def Bv.setB (V : Bv) (B : Bx) : Bv := (B, V.2.1, [])
def Bv.setLid (V : Bv) (o : Nat) : Bv := (V.1, (o, V.s, V.f, V.dr), V.past)
def Bv.setS (V : Bv) (s : Nat) : Bv := (V.1, (V.lid, s, V.f, V.dr), V.past)
def Bv.setF (V : Bv) (f : Nat) : Bv := (V.1, (V.lid, V.s, f, V.dr), V.past)
def Bv.setD (V : Bv) (dr : Nat) : Bv := (V.1, (V.lid, V.s, V.f, dr), V.past)
theorem in_of {x : Int32} {n : Nat} (h : inN x n) (hn : n < 2 ^ 31) : ∃ j, j < n ∧ x = nI j := by
  obtain ⟨j, hj, rfl⟩ := nI_of h.1
  exact ⟨j, (n_lt hj hn).mp h.2, rfl⟩
theorem in_nI {j n : Nat} (hj : j < n) (hn : n < 2 ^ 31) : inN (nI j) n := ⟨nI_pos (by omega), (n_lt (by omega) hn).mpr hj⟩
theorem pl_0 {s q : Nat} (h : s < 4 ^ q) : pl s q = 0 := by simp [pl, Nat.div_eq_of_lt h]
theorem okS_addP {B : Bx} {s k dp : Nat} (h : okS B s) : okS (B.addP k dp) s := by
  refine ⟨?_, fun p hp => ?_⟩
  · show s < 4 ^ (B.pn + 1)
    have := h.1; rw [Nat.pow_succ]; omega
  · show pl s p ≤ updN B.dp B.pn dp p
    have hp : p < B.pn + 1 := hp
    unfold updN
    split
    · next e => rw [e, pl_0 h.1]; omega
    · exact h.2 p (by omega)
theorem WFB.addP {B : Bx} (h : WFB B) {k dp : Nat} (h5 : B.pn < 5) (hk : k ≤ 4) (h1 : 1 ≤ dp) (h3 : dp ≤ 3) : WFB (B.addP k dp) := by
  refine ⟨h5, h.2.1, fun p hp => ?_, fun l hl => ?_⟩
  · have hp : p < B.pn + 1 := hp
    show updN B.kd B.pn k p ≤ 4 ∧ 1 ≤ updN B.dp B.pn dp p ∧ updN B.dp B.pn dp p ≤ 3
    unfold updN
    by_cases e : p = B.pn
    · simp [e]; omega
    · simp only [if_neg e]; exact h.2.2.1 p (by omega)
  · obtain ⟨a1, a2, a3, a4, a5⟩ := h.2.2.2 l hl
    exact ⟨Nat.lt_succ_of_lt a1, a2, Nat.lt_succ_of_lt a3, a4, a5⟩
theorem WFB.addL {B : Bx} (h : WFB B) {a w o ps : Nat} (h6 : B.ln < 6) (ha : a < B.pn) (hw : w ≤ 2) (ho : o < B.pn) (h1 : 1 ≤ ps) (h15 : ps ≤ 15) : WFB (B.addL a w o ps) := by
  refine ⟨h.1, h6, h.2.2.1, fun l hl => ?_⟩
  have hl : l < B.ln + 1 := hl
  show updN B.ow B.ln a l < B.pn ∧ updN B.wy B.ln w l ≤ 2 ∧ updN B.ot B.ln o l < B.pn ∧ 1 ≤ updN B.ps B.ln ps l ∧ updN B.ps B.ln ps l ≤ 15
  unfold updN
  by_cases e : l = B.ln
  · simp [e]; omega
  · simp only [if_neg e]; exact h.2.2.2 l (by omega)
theorem may_place {B : Bx} {s f p w : Nat} (h : mayB B s f p w = true) : (w = 0 → 0 < pl s p) ∧ (¬ w = 0 → pl s p < B.dp p) := by
  simp only [mayB, fitsB, Bool.and_eq_true] at h
  have h1 := h.1.1
  refine ⟨fun e => ?_, fun e => ?_⟩
  · rw [if_pos e] at h1; simpa using h1
  · rw [if_neg e] at h1; simpa using h1
theorem okS_beh {B : Bx} {s f p w : Nat} (hB : WFB B) (h : okS B s) (hp : p < B.pn) (hw : w < 2) (hm : mayB B s f p w = true) : okS B (behB B s p w B.pn) := by
  have hpl := may_place hm
  have hdp := (hB.2.2.1 p hp).2.2
  have hlt : ∀ q, q < B.pn → plB B s p w q < 4 := fun q hq => plB_lt (fun e => by have := hpl.2 (by omega); omega)
  rw [behB_Sm hlt]
  refine ⟨Sm_lt hlt, fun q hq => ?_⟩
  rw [pl_Sm hlt hq]
  have h2 := h.2 q hq
  unfold plB
  split
  · next e =>
    split
    · next e1 => rw [e]; have := hpl.2 (by omega); omega
    · omega
  · split <;> omega
/-- panel -/
def panelS (V : Bv) (x y : Int32) : Int32 × Bv := if x < 0 ∨ 4 < x ∨ y < 1 ∨ 3 < y then (-1, V) else if V.B.pn < 5 then (nI V.B.pn, V.setB (V.B.addP (tN x) (tN y))) else (-3, V)
/-- lock -/
def lockS (V : Bv) (a w o ps : Int32) : Int32 × Bv := if ¬ inN a V.B.pn ∨ ¬ inN o V.B.pn ∨ a = o ∨ w < 0 ∨ 2 < w ∨ ps < 1 ∨ 15 < ps then (-1, V) else if V.B.ln < 6 then (nI V.B.ln, V.setB (V.B.addL (tN a) (tN w) (tN o) (tN ps))) else (-3, V)
/-- lid -/
def lidS (V : Bv) (x : Int32) : Int32 × Bv := if inN x V.B.pn then (nI V.lid, V.setLid (tN x)) else (-1, V)
/-- slide -/
def slideS (V : Bv) (p w : Int32) : Int32 × Bv := if ¬ inN p V.B.pn ∨ w < 0 ∨ 1 < w then (-1, V) else if mayB V.B V.s V.f (tN p) (tN w) then (nI (behB V.B V.s (tN p) (tN w) V.B.pn), V.rem.setS (behB V.B V.s (tN p) (tN w) V.B.pn)) else (-2, V)
/-- which are out: below n -/
def outN (s : Nat) : Nat → Nat
  | 0 => 0
  | n + 1 => outN s n ||| (if 0 < pl s n then 2 ^ n else 0)
def popN : Nat → Nat → Nat
  | 0, _ => 0
  | k + 1, a => a % 2 + popN k (a / 2)
/-- shut -/
def shutS (V : Bv) : Int32 × Bv := if popN 6 (outN V.s V.B.pn) = 0 then (-2, V) else (nI (popN 6 (outN V.s V.B.pn)), V.rem.setS 0)
/-- file -/
def fileS (V : Bv) (l : Int32) : Int32 × Bv := if ¬ inN l V.B.ln then (-1, V) else if V.f.testBit (tN l) then (-2, V) else (nI (V.f ||| 2 ^ tN l), V.rem.setF (V.f ||| 2 ^ tN l))
theorem drw_ex (a : Nat) : ∃ z : Nat, z = (a * 1103515245 + 12345) % 2147483648 := ⟨_, rfl⟩
/-- the draw behind a (chosen, so that nobody reckons it) -/
noncomputable def drw (a : Nat) : Nat := Classical.choose (drw_ex a)
theorem drw_eq (a : Nat) : drw a = (a * 1103515245 + 12345) % 2147483648 := Classical.choose_spec (drw_ex a)
/-- one time of a drift: the draw z, the panel p, the way w -/
def driftP (V : Bv) (z p w : Nat) : Bv := if mayB V.B V.s V.f p w then (V.rem.setD z).setS (behB V.B V.s p w V.B.pn) else V.rem.setD z
noncomputable def drift1 (V : Bv) : Bv := if V.B.pn = 0 then V.rem.setD (drw V.dr) else driftP V (drw V.dr) (drw V.dr / 65536 % V.B.pn) (drw V.dr / 128 % 2)
noncomputable def driftN : Nat → Bv → Bv
  | 0, V => V
  | n + 1, V => drift1 (driftN n V)
/-- drift -/
noncomputable def driftS (V : Bv) (n : Int32) : Int32 × Bv := if n < 1 ∨ 40 < n then (-1, V) else (nI (driftN (tN n) V).s, driftN (tN n) V)
/-- undo -/
def undoS (V : Bv) : Int32 × Bv := match V.past with
  | [] => (-4, V)
  | x :: t => (nI t.length, (V.1, (V.lid, x.1, x.2.1, x.2.2), t))
/-- seed -/
def seedS (V : Bv) (v : Int32) : Int32 × Bv := if v < 0 then (-1, V) else (nI V.dr, V.setD (tN v))
/-! what each leaves is a box -/
theorem le_of {x : Int32} {n : Nat} (h : ¬ x < 0) (h2 : ¬ nI n < x) (hn : n < 2 ^ 31) : ∃ j, j ≤ n ∧ x = nI j := by
  obtain ⟨j, hj, rfl⟩ := nI_of h
  refine ⟨j, ?_, rfl⟩
  rw [n_lt hn hj] at h2; omega
theorem WF_panel {V : Bv} (h : WFV V) (x y : Int32) : WFV (panelS V x y).2 := by
  unfold panelS
  split
  · exact h
  · next hb =>
    simp only [not_or] at hb
    obtain ⟨b1, b2, b3, b4⟩ := hb
    split
    · next h5 =>
      obtain ⟨j, hj, rfl⟩ := le_of (n := 4) b1 b2 (by decide)
      have y0 : ¬ y < 0 := fun q => b3 (Int32.lt_trans q (by decide))
      obtain ⟨k, hk, rfl⟩ := le_of (n := 3) y0 b4 (by decide)
      have k1 : 1 ≤ k := by
        rw [show (1 : Int32) = nI 1 from rfl, n_lt (by omega) (by decide)] at b3; omega
      obtain ⟨h1, h2, h3, h4, h6, h7, h8⟩ := h
      rw [n_tN (by omega), n_tN (by omega)]
      refine ⟨h1.addP h5 hj k1 hk, ?_, okS_addP h3, h4, h6, Nat.zero_le _, fun x hx => by cases hx⟩
      rcases h2 with ⟨e1, e2⟩ | e
      · right; show V.lid < V.B.pn + 1; omega
      · right; show V.lid < V.B.pn + 1; omega
    · exact h
theorem WF_lock {V : Bv} (h : WFV V) (a w o ps : Int32) : WFV (lockS V a w o ps).2 := by
  unfold lockS
  split
  · exact h
  · next hb =>
    simp only [not_or, Classical.not_not] at hb
    obtain ⟨b1, b2, b3, b4, b5, b6, b7⟩ := hb
    split
    · next h5 =>
      obtain ⟨h1, h2, h3, h4, h6, h7, h8⟩ := h
      have hp5 := h1.1
      obtain ⟨a', ha, rfl⟩ := in_of b1 (by omega)
      obtain ⟨o', ho, rfl⟩ := in_of b2 (by omega)
      obtain ⟨w', hw, rfl⟩ := le_of (n := 2) b4 b5 (by decide)
      have y0 : ¬ ps < 0 := fun q => b6 (Int32.lt_trans q (by decide))
      obtain ⟨k, hk, rfl⟩ := le_of (n := 15) y0 b7 (by decide)
      have k1 : 1 ≤ k := by
        rw [show (1 : Int32) = nI 1 from rfl, n_lt (by omega) (by decide)] at b6; omega
      rw [n_tN (by omega), n_tN (by omega), n_tN (by omega), n_tN (by omega)]
      refine ⟨h1.addL h5 ha hw ho k1 hk, h2, h3, ?_, h6, Nat.zero_le _, fun x hx => by cases hx⟩
      show V.f < 2 ^ (V.B.ln + 1)
      rw [Nat.pow_succ]; omega
    · exact h
theorem WF_lid {V : Bv} (h : WFV V) (x : Int32) : WFV (lidS V x).2 := by
  unfold lidS
  split
  · next hb =>
    obtain ⟨h1, h2, h3, h4, h6, h7, h8⟩ := h
    have hp5 := h1.1
    obtain ⟨a', ha, rfl⟩ := in_of hb (by omega)
    rw [n_tN (by omega)]
    exact ⟨h1, Or.inr ha, h3, h4, h6, h7, h8⟩
  · exact h
theorem WF_setS {V : Bv} (h : WFV V) {s : Nat} (hs : okS V.B s) : WFV (V.setS s) := ⟨h.1, h.2.1, hs, h.2.2.2⟩
theorem WF_setD {V : Bv} (h : WFV V) {s : Nat} (hs : s < 2 ^ 31) : WFV (V.setD s) := ⟨h.1, h.2.1, h.2.2.1, h.2.2.2.1, hs, h.2.2.2.2.2⟩
theorem WF_setF {V : Bv} (h : WFV V) {s : Nat} (hs : s < 2 ^ V.B.ln) : WFV (V.setF s) := ⟨h.1, h.2.1, h.2.2.1, hs, h.2.2.2.2⟩
theorem WF_slide {V : Bv} (h : WFV V) (p w : Int32) : WFV (slideS V p w).2 := by
  unfold slideS
  split
  · exact h
  · next hb =>
    simp only [not_or, Classical.not_not] at hb
    obtain ⟨b1, b2, b3⟩ := hb
    split
    · next hm =>
      have hp5 := h.1.1
      obtain ⟨a', ha, rfl⟩ := in_of b1 (by omega)
      obtain ⟨w', hw, rfl⟩ := le_of (n := 1) b2 b3 (by decide)
      rw [n_tN (by omega), n_tN (by omega)] at hm ⊢
      exact WF_setS h.rem (okS_beh h.1 h.2.2.1 ha (by omega) hm)
    · exact h
theorem okS_0 {B : Bx} : okS B 0 := ⟨Nat.pow_pos (by decide), fun p _ => by simp [pl]⟩
theorem WF_shut {V : Bv} (h : WFV V) : WFV (shutS V).2 := by
  unfold shutS
  split
  · exact h
  · exact WF_setS h.rem okS_0
theorem WF_file {V : Bv} (h : WFV V) (l : Int32) : WFV (fileS V l).2 := by
  unfold fileS
  split
  · exact h
  · next hb =>
    simp only [Classical.not_not] at hb
    split
    · exact h
    · have hl6 := h.1.2.1
      obtain ⟨a', ha, rfl⟩ := in_of hb (by omega)
      rw [n_tN (by omega)]
      exact WF_setF h.rem (Nat.or_lt_two_pow h.2.2.2.1 (Nat.pow_lt_pow_right (by decide) ha))
theorem drw_lt (a : Nat) : drw a < 2 ^ 31 := by rw [drw_eq]; exact Nat.mod_lt _ (by decide)
theorem WF_driftP {V : Bv} (h : WFV V) {z p w : Nat} (hz : z < 2 ^ 31) (hp : p < V.B.pn) (hw : w < 2) : WFV (driftP V z p w) := by
  unfold driftP
  split
  · next hm => exact WF_setS (WF_setD h.rem hz) (okS_beh h.1 h.2.2.1 hp hw hm)
  · exact WF_setD h.rem hz
theorem WF_drift1 {V : Bv} (h : WFV V) : WFV (drift1 V) := by
  have hd := drw_lt V.dr
  unfold drift1
  generalize drw V.dr = z at hd ⊢
  by_cases e : V.B.pn = 0
  · rw [if_pos e]; exact WF_setD h.rem hd
  · rw [if_neg e]
    have h1 : z / 65536 % V.B.pn < V.B.pn := Nat.mod_lt _ (Nat.pos_of_ne_zero e)
    have h2 : z / 128 % 2 < 2 := Nat.mod_lt _ (Nat.zero_lt_two)
    generalize z / 65536 % V.B.pn = p at h1 ⊢
    generalize z / 128 % 2 = w at h2 ⊢
    exact WF_driftP h hd h1 h2
theorem WF_driftN {V : Bv} (h : WFV V) : ∀ n, WFV (driftN n V) := by
  intro n
  induction n with
  | zero => exact h
  | succ n ih => exact WF_drift1 ih
theorem WF_drift {V : Bv} (h : WFV V) (n : Int32) : WFV (driftS V n).2 := by
  unfold driftS
  split
  · exact h
  · exact WF_driftN h _
theorem WF_undo {V : Bv} (h : WFV V) : WFV (undoS V).2 := by
  obtain ⟨h1, h2, h3, h4, h6, h7, h8⟩ := h
  unfold undoS
  split
  · exact ⟨h1, h2, h3, h4, h6, h7, h8⟩
  · next x t e =>
    rw [e] at h7 h8
    obtain ⟨x1, x2, x3⟩ := h8 x List.mem_cons_self
    simp only [List.length_cons] at h7
    exact ⟨h1, h2, x1, x2, x3, show t.length ≤ 8 by omega, fun y hy => h8 y (List.mem_cons_of_mem _ hy)⟩
theorem WF_seed {V : Bv} (h : WFV V) (v : Int32) : WFV (seedS V v).2 := by
  unfold seedS
  split
  · exact h
  · next hb =>
    obtain ⟨j, hj, rfl⟩ := nI_of hb
    rw [n_tN hj]
    exact WF_setD h hj
end
section
/-! the class: calls that change now -/
theorem CBx_sc {V : Bv} {I I' : I2} {lid s f dr : Nat} (hV : CBx 1 V I) (ha : ∀ a, 2 ≤ a → a ≤ 10 → I' a = I a) (hk : ∀ k, k ≠ 8 → k ≠ 9 → k ≠ 10 → k ≠ 11 → k ≠ 17 → I' 1 k = I 1 k) (e8 : I' 1 8 = nI lid) (e9 : I' 1 9 = nI s) (e10 : I' 1 10 = nI f) (e11 : I' 1 11 = nI dr) : CBx 1 (V.1, (lid, s, f, dr), V.2.2) I' := by
  obtain ⟨hB, h8, h9, h10, h11, h15, np, hnp, h16, hp⟩ := hV
  refine ⟨⟨?_, ?_, ?_, ?_⟩, e8, e9, e10, e11, ?_, np, hnp, ?_, ?_⟩
  · rw [hk 2 (by decide) (by decide) (by decide) (by decide) (by decide)]; exact hB.1
  · rw [hk 7 (by decide) (by decide) (by decide) (by decide) (by decide)]; exact hB.2.1
  · intro p hp2
    rw [ha (1 + 1) (by decide) (by decide), ha (1 + 2) (by decide) (by decide)]
    exact hB.2.2.1 p hp2
  · intro l hl
    rw [ha (1 + 3) (by decide) (by decide), ha (1 + 4) (by decide) (by decide), ha (1 + 5) (by decide) (by decide), ha (1 + 6) (by decide) (by decide)]
    exact hB.2.2.2 l hl
  · rw [hk 15 (by decide) (by decide) (by decide) (by decide) (by decide)]; exact h15
  · rw [hk 16 (by decide) (by decide) (by decide) (by decide) (by decide)]; exact h16
  · intro k x hx
    rw [ha (1 + 7) (by decide) (by decide), ha (1 + 8) (by decide) (by decide), ha (1 + 9) (by decide) (by decide)]
    exact hp k x hx
theorem nil_get {α : Type} {k : Nat} {x : α} (h : ([] : List α)[k]? = some x) : False := by cases k <;> cases h
section COPS
variable {d : Nat} {V : Bv} {I : I2} {J : J2} {G : I2 → J2 → Prop} {F : Int32 → I2 → J2 → Prop}
theorem CBx_setLid {o : Nat} (hV : CBx 1 V I) : CBx 1 (V.setLid o) (up2 I 1 8 (nI o)) := by
  refine CBx_sc hV (fun a h1 h2 => by simp [up2]; omega) (fun k k1 k2 k3 k4 k5 => by simp [up2, upd, k1]) (by simp [up2, upd]) ?_ ?_ ?_
  · simp [up2, upd]; exact hV.2.2.1
  · simp [up2, upd]; exact hV.2.2.2.1
  · simp [up2, upd]; exact hV.2.2.2.2.1
theorem CBx_setS {o : Nat} (hV : CBx 1 V I) : CBx 1 (V.setS o) (up2 I 1 9 (nI o)) := by
  refine CBx_sc hV (fun a h1 h2 => by simp [up2]; omega) (fun k k1 k2 k3 k4 k5 => by simp [up2, upd, k2]) ?_ (by simp [up2, upd]) ?_ ?_
  · simp [up2, upd]; exact hV.2.1
  · simp [up2, upd]; exact hV.2.2.2.1
  · simp [up2, upd]; exact hV.2.2.2.2.1
theorem CBx_setF {o : Nat} (hV : CBx 1 V I) : CBx 1 (V.setF o) (up2 I 1 10 (nI o)) := by
  refine CBx_sc hV (fun a h1 h2 => by simp [up2]; omega) (fun k k1 k2 k3 k4 k5 => by simp [up2, upd, k3]) ?_ ?_ (by simp [up2, upd]) ?_
  · simp [up2, upd]; exact hV.2.1
  · simp [up2, upd]; exact hV.2.2.1
  · simp [up2, upd]; exact hV.2.2.2.2.1
theorem CBx_setD {o : Nat} (hV : CBx 1 V I) : CBx 1 (V.setD o) (up2 I 1 11 (nI o)) := by
  refine CBx_sc hV (fun a h1 h2 => by simp [up2]; omega) (fun k k1 k2 k3 k4 k5 => by simp [up2, upd, k4]) ?_ ?_ ?_ (by simp [up2, upd])
  · simp [up2, upd]; exact hV.2.1
  · simp [up2, upd]; exact hV.2.2.1
  · simp [up2, upd]; exact hV.2.2.2.1
theorem Fr1_up {k : Nat} {x : Int32} (h : k ≠ 17) : Fr1 I (up2 I 1 k x) := ⟨fun a ha => by simp [up2]; omega, by simp [up2, upd]; omega⟩
theorem CBx_forget (hV : CBx 1 V I) : CBx 1 (V.1, V.2.1, []) (up2 (up2 I 1 15 0) 1 16 0) := by
  obtain ⟨hB, h8, h9, h10, h11, h15, np, hnp, h16, hp⟩ := hV
  refine ⟨⟨?_, ?_, ?_, ?_⟩, ?_, ?_, ?_, ?_, ?_, 0, by decide, ?_, fun k x hx => (nil_get hx).elim⟩
  · simp [up2, upd]; exact hB.1
  · simp [up2, upd]; exact hB.2.1
  · intro p hp2; simp [up2]; exact hB.2.2.1 p hp2
  · intro l hl; simp [up2]; exact hB.2.2.2 l hl
  · simp [up2, upd]; exact h8
  · simp [up2, upd]; exact h9
  · simp [up2, upd]; exact h10
  · simp [up2, upd]; exact h11
  · simp [up2, upd]; rfl
  · simp [up2, upd]; rfl
theorem c_Bx_forget_1 (hd : 1 ≤ d) (h : G (up2 (up2 I 1 15 0) 1 16 0) J) : CV d Bx_forget [.ref 1] I J G := CV.of hd rfl (v_Bx_forget_1_0 (QV_i.mpr h))
/-- the change of a call of now: all else stays, and what is charted, unless it is told -/
def FrC (V V' : Bv) (I I' : I2) : Prop := (∀ a, (a = 0 ∨ 11 ≤ a) → I' a = I a) ∧ (I' 1 17 = 1 ∨ (I' 1 17 = I 1 17 ∧ V'.B = V.B))
theorem Fr1.frC {V V' : Bv} {I I' : I2} (h : Fr1 I I') (hB : V'.B = V.B) : FrC V V' I I' := ⟨h.1, Or.inr ⟨h.2, hB⟩⟩
end COPS
end
section
/-! the class: slides, and what else changes now -/
def bcI (x0 : Int32) : Int32 := ((((((((x0 - ((urI x0 1) &&& 1431655765)) &&& 858993459) + ((urI (x0 - ((urI x0 1) &&& 1431655765)) 2) &&& 858993459)) + (urI (((x0 - ((urI x0 1) &&& 1431655765)) &&& 858993459) + ((urI (x0 - ((urI x0 1) &&& 1431655765)) 2) &&& 858993459)) 4)) &&& 252645135) + (urI (((((x0 - ((urI x0 1) &&& 1431655765)) &&& 858993459) + ((urI (x0 - ((urI x0 1) &&& 1431655765)) 2) &&& 858993459)) + (urI (((x0 - ((urI x0 1) &&& 1431655765)) &&& 858993459) + ((urI (x0 - ((urI x0 1) &&& 1431655765)) 2) &&& 858993459)) 4)) &&& 252645135) 8)) + (urI ((((((x0 - ((urI x0 1) &&& 1431655765)) &&& 858993459) + ((urI (x0 - ((urI x0 1) &&& 1431655765)) 2) &&& 858993459)) + (urI (((x0 - ((urI x0 1) &&& 1431655765)) &&& 858993459) + ((urI (x0 - ((urI x0 1) &&& 1431655765)) 2) &&& 858993459)) 4)) &&& 252645135) + (urI (((((x0 - ((urI x0 1) &&& 1431655765)) &&& 858993459) + ((urI (x0 - ((urI x0 1) &&& 1431655765)) 2) &&& 858993459)) + (urI (((x0 - ((urI x0 1) &&& 1431655765)) &&& 858993459) + ((urI (x0 - ((urI x0 1) &&& 1431655765)) 2) &&& 858993459)) 4)) &&& 252645135) 8)) 16)) &&& 63)
theorem bc_ok : ∀ a, a < 64 → bcI (nI a) = nI (popN 6 a) := by decide +kernel
theorem pop_step : ∀ a, a < 64 → 0 < a → (nI a &&& (nI a - 1)) = nI (a &&& (a - 1)) ∧ popN 6 a = popN 6 (a &&& (a - 1)) + 1 ∧ a &&& (a - 1) < a := by decide +kernel
theorem pop_le : ∀ a, a < 64 → popN 6 a ≤ 6 := by decide +kernel
theorem outN_lt {s n : Nat} (h : n ≤ 6) : outN s n < 64 := by
  have : ∀ n, outN s n < 2 ^ n := by
    intro n
    induction n with
    | zero => show (0 : Nat) < 1; decide
    | succ n ih =>
      simp only [outN]
      refine Nat.or_lt_two_pow (Nat.lt_of_lt_of_le ih (Nat.pow_le_pow_right (by decide) (by omega))) ?_
      split
      · exact Nat.pow_lt_pow_right (by decide) (by omega)
      · exact Nat.pow_pos (by decide)
  exact Nat.lt_of_lt_of_le (this n) (Nat.pow_le_pow_right (n := 2) (by decide) h)
section COPS2
variable {d : Nat} {V : Bv} {I : I2} {J : J2} {G : I2 → J2 → Prop} {F : Int32 → I2 → J2 → Prop} {s : Nat}
theorem c_Ji_bitCount {a : Nat} (hd : 1 ≤ d) (ha : a < 64) (h : F (nI (popN 6 a)) I J) : CI d Ji_bitCount [.int (nI a)] I J F := by
  refine CI.of hd rfl (v_Ji_bitCount_0 (QI_i.mpr ?_))
  show F (bcI (nI a)) I J
  rw [bc_ok a ha]; exact h
theorem l_Bx_outSet (hd : 1 ≤ d) (hw : WFB V.B) (hV : CBx 1 V I) (hs : V.s < 2 ^ 31) (h : F (nI (outN V.s V.B.pn)) I J) : ∀ k n, n + k = V.B.pn → Wp d Bx_outSet (QI F) 4 [some (.ref 1), some (.int (nI (outN V.s n))), some (.int (nI n))] [] I J := by
  have hp5 := hw.1
  intro k
  induction k with
  | zero =>
    intro n hn
    have hn : n = V.B.pn := by omega
    subst hn
    refine v_Bx_outSet_1_4 ⟨fun q => ?_, fun _ => QI_i.mpr h⟩
    rw [hV.1.1] at q; exact absurd ((n_lt (by omega) (by omega)).mp q) (Nat.lt_irrefl _)
  | succ k ih =>
    intro n hn
    have hlt : n < V.B.pn := by omega
    have go := ih (n + 1) (by omega)
    refine v_Bx_outSet_1_4 ⟨fun _ => ?_, fun q => absurd ((n_lt (by omega) (by omega)).mpr hlt) (by rw [hV.1.1] at q; exact q)⟩
    rw [hV.2.2.1]
    refine c_Sb_placeIn (by omega) hs (by omega) ?_
    have hpl := pl_lt V.s n
    have e3 : slI 1 (nI n) = nI (2 ^ n) := by
      have hb : 2 ^ n ≤ 2 ^ 6 := Nat.pow_le_pow_right (by decide) (by omega)
      have := n_sl (a := 1) (k := n) (by omega) (by omega)
      rwa [Nat.one_mul] at this
    rw [n_p0 (by omega), n_inc, e3, n_or]
    refine ⟨fun h1 => ?_, fun h1 => ?_⟩
    · simp only [outN, if_pos h1] at go; exact go
    · simp only [outN, if_neg h1, Nat.or_zero] at go; exact go
theorem c_Bx_outSet (hd : 2 ≤ d) (hw : WFB V.B) (hV : CBx 1 V I) (hs : V.s < 2 ^ 31) (h : F (nI (outN V.s V.B.pn)) I J) : CI d Bx_outSet [.ref 1] I J F :=
  CI.of (by omega) rfl (v_Bx_outSet_1_0 (l_Bx_outSet (by omega) hw hV hs h V.B.pn 0 (by omega)))
theorem in_dec {x : Int32} {n : Nat} : bI (decide (¬ x < 0) && decide (x < nI n)) = 0 ↔ ¬ inN x n := by
  rw [bI_0]; simp [inN]
theorem c_Sb_seed (hd : 1 ≤ d) (hV : CBx 1 V I) (v : Int32) (h : ∀ I', CBx 1 (seedS V v).2 I' → FrC V (seedS V v).2 I I' → F (seedS V v).1 I' J) : CI d Sb_seed [.ref 0, .int v] I J F := by
  refine CI.of (by omega) rfl (v_Sb_seed_0_0 ⟨fun e => QI_i.mpr ?_, fun e => QI_i.mpr ?_⟩)
  · rw [show seedS V v = (-1, V) from if_pos e] at h
    exact h I hV (Fr1.rf.frC rfl)
  · rw [show seedS V v = (nI V.dr, V.setD (tN v)) from if_neg e] at h
    obtain ⟨j, hj, rfl⟩ := nI_of e
    rw [n_tN (by omega)] at h
    rw [hV.2.2.2.2.1]
    exact h _ (CBx_setD hV) ((Fr1_up (by decide)).frC rfl)
theorem c_Sb_slide (hd : 6 ≤ d) (hw : WFV V) (hV : CBx 1 V I) (x y : Int32) (h : ∀ I', CBx 1 (slideS V x y).2 I' → FrC V (slideS V x y).2 I I' → F (slideS V x y).1 I' J) : CI d Sb_slide [.ref 0, .int x, .int y] I J F := by
  have hp5 := hw.1.1
  have hs := s31 hw.1 hw.2.2.1.1
  have hf := f64 hw.1 hw.2.2.2.1
  have bad : (¬ inN x V.B.pn ∨ y < 0 ∨ 1 < y) → QI F (some (.int (-1))) I J := by
    intro e
    rw [show slideS V x y = (-1, V) from if_pos e] at h
    exact QI_i.mpr (h I hV (Fr1.rf.frC rfl))
  refine CI.of (by omega) rfl (v_Sb_slide_0_0 (c_Bx_hasPanel_1 (by omega) hV.1 ?_))
  rw [in_dec]
  refine ⟨fun q => bad (Or.inl q), fun q1 => ⟨fun q => bad (Or.inr (Or.inl q)), fun q2 => ⟨fun q => bad (Or.inr (Or.inr q)), fun q3 => ?_⟩⟩⟩
  have nb : ¬ (¬ inN x V.B.pn ∨ y < 0 ∨ 1 < y) := by simp only [not_or]; exact ⟨q1, q2, q3⟩
  have q1 : inN x V.B.pn := Classical.not_not.mp q1
  obtain ⟨p, hp, rfl⟩ := in_of q1 (by omega)
  obtain ⟨w, hww, rfl⟩ := le_of (n := 1) q2 q3 (by decide)
  rw [show slideS V (nI p) (nI w) = _ from if_neg nb, n_tN (by omega), n_tN (by omega)] at h
  rw [hV.2.2.1, hV.2.2.2.1]
  refine c_Bx_maySlide_1 (by omega) hw.1 hV.1 (by omega) hp hf (by omega) ?_
  rw [bI_0]
  refine ⟨fun e => QI_i.mpr ?_, fun e => c_Bx_remember (by omega) hw hV (fun I' hV' hF' => ?_)⟩
  · rw [e] at h; exact h I hV (Fr1.rf.frC rfl)
  · have e : mayB V.B V.s V.f p w = true := by simpa using e
    rw [e] at h
    have hpl := may_place e
    rw [hV'.2.2.1]
    refine c_Bx_behind_1 (by omega) hw.1 hV'.1 (s := V.s) (by omega) (by omega) (by omega) hpl.1 (QI_i.mpr ?_)
    exact h _ (CBx_setS hV') ((hF'.tr (Fr1_up (by decide))).frC rfl)
theorem c_Sb_shut (hd : 4 ≤ d) (hw : WFV V) (hV : CBx 1 V I) (h : ∀ I', CBx 1 (shutS V).2 I' → FrC V (shutS V).2 I I' → F (shutS V).1 I' J) : CI d Sb_shut [.ref 0] I J F := by
  have hp5 := hw.1.1
  have hs := s31 hw.1 hw.2.2.1.1
  have ho := outN_lt (s := V.s) (n := V.B.pn) (by omega)
  have hpop := pop_le _ ho
  refine CI.of (by omega) rfl (v_Sb_shut_0_0 (c_Bx_outSet (by omega) hw.1 hV (by omega) (c_Ji_bitCount (by omega) ho ?_)))
  rw [n_e0 (by omega)]
  refine ⟨fun e => QI_i.mpr ?_, fun e => c_Bx_remember (by omega) hw hV (fun I' hV' hF' => QI_i.mpr ?_)⟩
  · rw [show shutS V = (-2, V) from if_pos e] at h
    exact h I hV (Fr1.rf.frC rfl)
  · rw [show shutS V = _ from if_neg e] at h
    exact h _ (CBx_setS (o := 0) hV') ((hF'.tr (Fr1_up (by decide))).frC rfl)
theorem c_Sb_file (hd : 3 ≤ d) (hw : WFV V) (hV : CBx 1 V I) (x : Int32) (h : ∀ I', CBx 1 (fileS V x).2 I' → FrC V (fileS V x).2 I I' → F (fileS V x).1 I' J) : CI d Sb_file [.ref 0, .int x] I J F := by
  have hl6 := hw.1.2.1
  have hf := f64 hw.1 hw.2.2.2.1
  refine CI.of (by omega) rfl (v_Sb_file_0_0 (c_Bx_hasLock_1 (by omega) hV.1 ?_))
  rw [in_dec]
  refine ⟨fun q => QI_i.mpr ?_, fun q => ?_⟩
  · rw [show fileS V x = (-1, V) from if_pos q] at h
    exact h I hV (Fr1.rf.frC rfl)
  · have q1 : inN x V.B.ln := Classical.not_not.mp q
    rw [show fileS V x = _ from if_neg q] at h
    obtain ⟨l, hl, rfl⟩ := in_of q1 (by omega)
    rw [n_tN (by omega)] at h
    rw [hV.2.2.2.1, n_bit hf (by omega)]
    refine ⟨fun e => c_Bx_remember (by omega) hw hV (fun I' hV' hF' => QI_i.mpr ?_), fun e => QI_i.mpr ?_⟩
    · rw [e] at h
      have e3 : slI 1 (nI l) = nI (2 ^ l) := by
        have hb : 2 ^ l ≤ 2 ^ 6 := Nat.pow_le_pow_right (by decide) (by omega)
        have := n_sl (a := 1) (k := l) (by omega) (by omega)
        rwa [Nat.one_mul] at this
      rw [hV'.2.2.2.1, e3, n_or]
      exact h _ (CBx_setF hV') ((hF'.tr (Fr1_up (by decide))).frC rfl)
    · have e : V.f.testBit l = true := by simpa using e
      rw [e] at h; exact h I hV (Fr1.rf.frC rfl)
end COPS2
end
section
/-! the class: lock, drift, undo -/
section COPS3
variable {d : Nat} {V : Bv} {I : I2} {J : J2} {G : I2 → J2 → Prop} {F : Int32 → I2 → J2 → Prop} {s : Nat}
theorem c_Sb_undo (hd : 2 ≤ d) (hw : WFV V) (hV : CBx 1 V I) (h : ∀ I', CBx 1 (undoS V).2 I' → FrC V (undoS V).2 I I' → F (undoS V).1 I' J) : CI d Sb_undo [.ref 0] I J F := by
  have h6 := hw.2.2.2.2.2.1
  obtain ⟨hB, h8, h9, h10, h11, h15, np, hnp, h16, hp⟩ := id hV
  refine CI.of (by omega) rfl (v_Sb_undo_0_0 ?_)
  rw [h15, n_e0 (by omega)]
  refine ⟨fun e => QI_i.mpr ?_, fun e => CI.of (by omega) rfl (v_Bx_recall_1_0 ?_)⟩
  · have e0 : V.past = [] := List.eq_nil_of_length_eq_zero e
    rw [show undoS V = (-4, V) from by unfold undoS; rw [e0]] at h
    exact h I hV (Fr1.rf.frC rfl)
  · obtain ⟨x, t, ex⟩ : ∃ x t, V.past = x :: t := by
      cases hh : V.past with
      | nil => rw [hh] at e; exact absurd rfl e
      | cons x t => exact ⟨x, t, rfl⟩
    rw [show undoS V = (nI t.length, (V.1, (V.lid, x.1, x.2.1, x.2.2), t)) from by unfold undoS; rw [ex]] at h
    have elen : V.past.length = t.length + 1 := by rw [ex]; rfl
    have e1 : rmI (I 1 16 + 8 - 1) 8 = nI ((np + 7) % 8) := by
      rw [h16, show nI np + 8 = nI (np + 8) from nI_add np 8, n_dec (by omega), show np + 8 - 1 = np + 7 by omega]
      exact n_rm (by omega) (by decide) (by decide)
    have hv : vp_in (nI ((np + 7) % 8)) 8 := n_vp (Nat.mod_lt _ (by decide)) (by decide)
    have e2 : tN (nI ((np + 7) % 8)) = (np + 7) % 8 := n_tN (by omega)
    obtain ⟨x1, x2, x3⟩ := hp 0 x (by rw [ex]; rfl)
    rw [Nat.sub_zero] at x1 x2 x3
    rw [e1, e2, h15, n_e0 (by omega)]
    refine ⟨fun z => absurd z e, fun _ => ⟨hv, hv, hv, QI_i.mpr (QI_i.mpr ?_)⟩⟩
    rw [elen, show nI (t.length + 1) - 1 = nI t.length from n_dec (by omega)]
    rw [show I 8 ((np + 7) % 8) = nI x.1 from x1, show I 9 ((np + 7) % 8) = nI x.2.1 from x2, show I 10 ((np + 7) % 8) = nI x.2.2 from x3]
    refine h _ ⟨⟨?_, ?_, ?_, ?_⟩, ?_, ?_, ?_, ?_, ?_, (np + 7) % 8, Nat.mod_lt _ (by decide), ?_, ?_⟩ (Fr1.frC ⟨fun a ha => ?_, ?_⟩ rfl)
    · simp [up2, upd]; exact hB.1
    · simp [up2, upd]; exact hB.2.1
    · intro p hp2; simp [up2]; exact hB.2.2.1 p hp2
    · intro l hl; simp [up2]; exact hB.2.2.2 l hl
    · simp [up2, upd]; exact h8
    · simp [up2, upd]
    · simp [up2, upd]
    · simp [up2, upd]
    · simp [up2, upd]
    · simp [up2, upd]
    · intro k y hy
      have hy : t[k]? = some y := hy
      have hk : k < t.length := (List.getElem?_eq_some_iff.mp hy).1
      have := hp (k + 1) y (by rw [ex]; exact hy)
      have e9 : ((np + 7) % 8 + 7 - k) % 8 = (np + 7 - (k + 1)) % 8 := by omega
      rw [e9]
      simpa [up2] using this
    · have z1 : a ≠ 1 := by omega
      simp [up2, z1]
    · simp [up2, upd]
theorem n_low (N : Nat) : (nI N).toBitVec.toNat % 2 ^ 31 = N % 2147483648 := by
  have e : (nI N).toBitVec.toNat = N % 2 ^ 32 := BitVec.toNat_ofNat N 32
  rw [e]; omega
theorem n_drw {a : Nat} : (((nI a * 1103515245) + 12345) &&& 2147483647) = nI (drw a) := by
  have e1 : nI a * 1103515245 = nI (a * 1103515245) := pk_mul a 1103515245
  have e2 : nI (a * 1103515245) + 12345 = nI (a * 1103515245 + 12345) := nI_add _ 12345
  rw [e1, e2, drw_eq]
  generalize a * 1103515245 + 12345 = N
  rw [pk_and _ (m := 2147483647) 31 (by decide +kernel), n_low]
theorem c_Bx_driftOnce (hd : 5 ≤ d) (hw : WFV V) (hV : CBx 1 V I) (h : ∀ I', CBx 1 (drift1 V) I' → Fr1 I I' → G I' J) : CV d Bx_driftOnce [.ref 1] I J G := by
  have hp5 := hw.1.1
  have hs := s31 hw.1 hw.2.2.1.1
  have hf := f64 hw.1 hw.2.2.2.1
  have hz := drw_lt V.dr
  refine CV.of (by omega) rfl (v_Bx_driftOnce_1_0 (c_Bx_remember (by omega) hw hV (fun I1 hV1 hF1 => ?_)))
  have r2 : I1 1 2 = nI V.B.pn := hV1.1.1
  have r11 : I1 1 11 = nI V.dr := hV1.2.2.2.2.1
  rw [r2, r11, n_drw]
  unfold drift1 at h
  generalize drw V.dr = z at hz h ⊢
  rw [n_e0 (by omega)]
  refine ⟨fun e => QV_i.mpr ?_, fun e => ⟨e, ?_⟩⟩
  · rw [if_pos e] at h
    exact h _ (CBx_setD hV1) (hF1.tr (Fr1_up (by decide)))
  · rw [if_neg e] at h
    have e1 : rmI (nI z / 65536) (nI V.B.pn) = nI (z / 65536 % V.B.pn) := by
      rw [show nI z / 65536 = nI (z / 65536) from n_div hz (by decide) (by decide)]
      exact n_rm (Nat.lt_of_le_of_lt (Nat.div_le_self _ _) hz) (by omega) (by omega)
    have e2 : rmI (nI z / 128) 2 = nI (z / 128 % 2) := by
      rw [show nI z / 128 = nI (z / 128) from n_div hz (by decide) (by decide)]
      exact n_rm (k := 2) (Nat.lt_of_le_of_lt (Nat.div_le_self _ _) hz) (by decide) (by decide)
    have hp : z / 65536 % V.B.pn < V.B.pn := Nat.mod_lt _ (Nat.pos_of_ne_zero e)
    have hww : z / 128 % 2 < 2 := Nat.mod_lt _ Nat.zero_lt_two
    rw [e1, e2]
    generalize z / 65536 % V.B.pn = p at hp h ⊢
    generalize z / 128 % 2 = w at hww h ⊢
    have hV2 := CBx_setD (o := z) hV1
    have hF2 := hF1.tr (Fr1_up (I := I1) (k := 11) (x := nI z) (by decide))
    have r9 : I1 1 9 = nI V.s := hV1.2.2.1
    have r10 : I1 1 10 = nI V.f := hV1.2.2.2.1
    rw [r9, r10]
    refine c_Bx_maySlide_1 (by omega) hw.1 hV2.1 (s := V.s) (by omega) hp hf hww ?_
    rw [bI_0]
    unfold driftP at h
    refine ⟨fun e3 => QV_i.mpr ?_, fun e3 => ?_⟩
    · have e3 : mayB V.B V.s V.f p w = false := e3
      rw [e3] at h
      exact h _ hV2 hF2
    · have e3 : mayB V.B V.s V.f p w = true := by simpa using e3
      rw [e3] at h
      have hpl := may_place e3
      rw [hV2.2.2.1]
      refine c_Bx_behind_1 (by omega) hw.1 hV2.1 (s := V.s) (by omega) (by omega) hww hpl.1 (QV_i.mpr ?_)
      exact h _ (CBx_setS hV2) (hF2.tr (Fr1_up (by decide)))
theorem drift_B (n : Nat) : (driftN n V).B = V.B := by
  induction n with
  | zero => rfl
  | succ n ih =>
    have : ∀ W : Bv, (drift1 W).B = W.B := by
      intro W
      unfold drift1
      generalize drw W.dr = z
      split
      · rfl
      · unfold driftP; split <;> rfl
    exact (this _).trans ih
theorem l_Sb_drift {n : Nat} (hd : 5 ≤ d) (hw : WFV V) (hn : n ≤ 40) (h : ∀ I', CBx 1 (driftN n V) I' → Fr1 I I' → F (nI (driftN n V).s) I' J) : ∀ k m I1, m + k = n → CBx 1 (driftN m V) I1 → Fr1 I I1 → Wp d Sb_drift (QI F) 15 [some (.ref 0), some (.int (nI n)), some (.int (nI m))] [] I1 J := by
  intro k
  induction k with
  | zero =>
    intro m I1 hm hV1 hF1
    have hm : m = n := by omega
    subst hm
    refine v_Sb_drift_0_15 ⟨fun q => absurd ((n_lt (by omega) (by omega)).mp q) (Nat.lt_irrefl _), fun _ => QI_i.mpr ?_⟩
    rw [hV1.2.2.1]
    exact h I1 hV1 hF1
  | succ k ih =>
    intro m I1 hm hV1 hF1
    refine v_Sb_drift_0_15 ⟨fun _ => c_Bx_driftOnce hd (WF_driftN hw m) hV1 (fun I2 hV2 hF2 => ?_), fun q => absurd ((n_lt (by omega) (by omega)).mpr (by omega)) q⟩
    rw [n_inc]
    exact ih (m + 1) I2 (by omega) hV2 (hF1.tr hF2)
theorem c_Sb_drift (hd : 6 ≤ d) (hw : WFV V) (hV : CBx 1 V I) (n : Int32) (h : ∀ I', CBx 1 (driftS V n).2 I' → FrC V (driftS V n).2 I I' → F (driftS V n).1 I' J) : CI d Sb_drift [.ref 0, .int n] I J F := by
  have bad : (n < 1 ∨ 40 < n) → QI F (some (.int (-1))) I J := by
    intro e
    rw [show driftS V n = (-1, V) from if_pos e] at h
    exact QI_i.mpr (h I hV (Fr1.rf.frC rfl))
  refine CI.of (by omega) rfl (v_Sb_drift_0_0 ⟨fun q => bad (Or.inl q), fun q1 => ⟨fun q => bad (Or.inr q), fun q2 => ?_⟩⟩)
  rw [show driftS V n = _ from if_neg (by rintro (q | q); exact q1 q; exact q2 q)] at h
  have y0 : ¬ n < 0 := fun q => q1 (Int32.lt_trans q (by decide))
  obtain ⟨n, hn, rfl⟩ := le_of (n := 40) y0 q2 (by decide)
  rw [n_tN (by omega)] at h
  exact l_Sb_drift (by omega) hw hn (fun I' hV' hF' => h I' hV' (hF'.frC (drift_B n))) n 0 I (by omega) hV Fr1.rf
end COPS3
end
section
/-! the model: what it notes ahead of a step -/
def setR (I : I2) (a : Nat) (g : Nat → Int32) : I2 := fun i => if i = a then g else I i
theorem setR_up {I : I2} {a k : Nat} {x : Int32} {g : Nat → Int32} : up2 (setR I a g) a k x = setR I a (upd g k x) := by
  funext i
  simp only [up2, setR]
  split <;> simp_all
theorem setR_self {I : I2} {a : Nat} : setR I a (I a) = I := by
  funext i
  simp only [setR]
  split
  · next h => rw [h]
  · rfl
def shL (m : Nat) (u : Nat → Int32) : Nat → Int32 := fun j => if j + 3 < m then u (j + 3) else u j
theorem shL_3 {u : Nat → Int32} : shL 3 u = u := by
  funext j
  simp only [shL]
  rw [if_neg (by omega)]
theorem shL_up {u : Nat → Int32} {m : Nat} (h : 3 ≤ m) : upd (shL m u) (m - 3) (shL m u m) = shL (m + 1) u := by
  funext j
  simp only [upd, shL]
  by_cases e : j = m - 3
  · rw [if_pos e, if_neg (show ¬ m + 3 < m by omega), if_pos (show j + 3 < m + 1 by omega)]
    congr 1; omega
  · rw [if_neg e]
    by_cases e2 : j + 3 < m
    · rw [if_pos e2, if_pos (by omega)]
    · rw [if_neg e2, if_neg (by omega)]
section MOPS
variable {d : Nat} {V : Bv} {I : I2} {J : J2} {G : I2 → J2 → Prop} {F : Int32 → I2 → J2 → Prop} {s : Nat}
theorem MBx_rem {I' : I2} (hV : MBx V I) (e58 : I' 58 = I 58) (hn : I' 57 9 = nI V.rem.past.length) (h0 : I' 62 (3 * (V.rem.past.length - 1)) = nI V.s ∧ I' 62 (3 * (V.rem.past.length - 1) + 1) = nI V.f ∧ I' 62 (3 * (V.rem.past.length - 1) + 2) = nI V.dr) (hs : ∀ j c, j + 1 < V.rem.past.length → c < 3 → I' 62 (3 * (V.rem.past.length - 1 - (j + 1)) + c) = I 62 (3 * (V.past.length - 1 - j) + c)) : MBx V.rem I' := by
  obtain ⟨hB, h2, h3, h4, h5, h6, h7⟩ := hV
  rw [← e58] at hB h2 h3 h4 h5
  refine ⟨hB, h2, h3, h4, h5, hn, fun k x hx => ?_⟩
  have hlt := (List.getElem?_eq_some_iff.mp hx).1
  obtain ⟨hk, ⟨rfl, rfl⟩ | ⟨j, rfl, hj⟩⟩ := rem_get hx
  · exact h0
  · obtain ⟨y1, y2, y3⟩ := h7 j x hj
    rw [← y1, ← y2, ← y3]
    exact ⟨hs j 0 hlt (by decide), hs j 1 hlt (by decide), hs j 2 hlt (by decide)⟩
/-- one number of the model's row -/
theorem MBx_up {k : Nat} {x : Int32} {lid s f dr : Nat} (hV : MBx V I) (hk : k < 6) (hk2 : 2 ≤ k) (e2 : upd (I 58) k x 2 = nI lid) (e3 : upd (I 58) k x 3 = nI f) (e4 : upd (I 58) k x 4 = nI dr) (e5 : upd (I 58) k x 5 = nI s) : MBx (V.1, (lid, s, f, dr), V.2.2) (up2 I 58 k x) := by
  obtain ⟨hB, h2, h3, h4, h5, h6, h7⟩ := hV
  have ne : ∀ j, j ≠ k → up2 I 58 k x 58 j = I 58 j := fun j hj => by simp [up2, upd, hj]
  refine ⟨⟨?_, ?_, fun p hp => ?_, fun l hl => ?_⟩, by simpa [up2] using e2, by simpa [up2] using e3, by simpa [up2] using e4, by simpa [up2] using e5, ?_, ?_⟩
  · rw [ne 0 (by omega)]; exact hB.1
  · rw [ne 1 (by omega)]; exact hB.2.1
  · rw [ne _ (by omega), ne _ (by omega)]; exact hB.2.2.1 p hp
  · rw [ne _ (by omega), ne _ (by omega), ne _ (by omega), ne _ (by omega)]; exact hB.2.2.2 l hl
  · simpa [up2] using h6
  · intro k y hy; simpa [up2] using h7 k y hy
theorem MBx_setLid {o : Nat} (hV : MBx V I) : MBx (V.setLid o) (up2 I 58 2 (nI o)) := MBx_up hV (by decide) (by decide) (by simp [upd]) (by simp [upd]; exact hV.2.2.1) (by simp [upd]; exact hV.2.2.2.1) (by simp [upd]; exact hV.2.2.2.2.1)
theorem MBx_setF {o : Nat} (hV : MBx V I) : MBx (V.setF o) (up2 I 58 3 (nI o)) := MBx_up hV (by decide) (by decide) (by simp [upd]; exact hV.2.1) (by simp [upd]) (by simp [upd]; exact hV.2.2.2.1) (by simp [upd]; exact hV.2.2.2.2.1)
theorem MBx_setD {o : Nat} (hV : MBx V I) : MBx (V.setD o) (up2 I 58 4 (nI o)) := MBx_up hV (by decide) (by decide) (by simp [upd]; exact hV.2.1) (by simp [upd]; exact hV.2.2.1) (by simp [upd]) (by simp [upd]; exact hV.2.2.2.2.1)
theorem MBx_setS {o : Nat} (hV : MBx V I) : MBx (V.setS o) (up2 I 58 5 (nI o)) := MBx_up hV (by decide) (by decide) (by simp [upd]; exact hV.2.1) (by simp [upd]; exact hV.2.2.1) (by simp [upd]; exact hV.2.2.2.1) (by simp [upd])
theorem FrN_up {k : Nat} {x : Int32} : FrN I (up2 I 58 k x) := ⟨fun a h1 h2 h3 => by simp [up2, h2], fun k hk => by simp [up2]⟩
end MOPS
end
section
/-! the model: calls that change now -/
theorem in_rng {x lo hi : Int32} {l h : Int64} (hl : l = lo.toInt64) (hh : h = hi.toInt64) : bI (decide (¬ x.toInt64 < l) && decide (¬ h < x.toInt64)) = 0 ↔ (x < lo ∨ hi < x) := by
  subst hl; subst hh
  rw [bI_0]
  simp only [wide_lt, Bool.and_eq_false_iff, decide_eq_false_iff_not, Classical.not_not]
section MOPS2
variable {d : Nat} {V : Bv} {I : I2} {J : J2} {G : I2 → J2 → Prop} {F : Int32 → I2 → J2 → Prop} {s : Nat}
end MOPS2
theorem n_drwL {a : Nat} (ha : a < 2 ^ 31) : Int64.toInt32 (((Int32.toInt64 (nI a)) * 1103515245 + 12345) &&& 2147483647) = nI (drw a) := by
  have e0 : Int32.toInt64 (nI a) = lN a := nI_l ha
  have e1 : lN a * 1103515245 = lN (a * 1103515245) := lN_mul a 1103515245
  have e2 : lN (a * 1103515245) + 12345 = lN (a * 1103515245 + 12345) := lN_add _ 12345
  rw [e0, e1, e2, drw_eq]
  have hN : a * 1103515245 + 12345 < 2 ^ 63 := by omega
  generalize a * 1103515245 + 12345 = N at hN
  have e3 : lN N &&& 2147483647 = lN (N % 2147483648) := by
    apply Int64.toBitVec_inj.mp
    show BitVec.ofNat 64 N &&& BitVec.ofNat 64 2147483647 = BitVec.ofNat 64 (N % 2147483648)
    rw [← BitVec.ofNat_and, show (2147483647 : Nat) = 2 ^ 31 - 1 from rfl, Nat.and_two_pow_sub_one_eq_mod]
  rw [e3, lN_i]
theorem up2_self {I : I2} {a k : Nat} : up2 I a k (I a k) = I := by
  funext i j
  simp only [up2]
  split
  · next h =>
    subst h
    simp only [upd]
    split
    · next h2 => rw [h2]
    · rfl
  · rfl
section MOPS3
variable {d : Nat} {V : Bv} {I : I2} {J : J2} {G : I2 → J2 → Prop} {F : Int32 → I2 → J2 → Prop} {s : Nat}
end MOPS3
end
section
/-! of, at, count: both sides -/
def ofS (V : Bv) (x y : Int32) : Int32 := if ¬ inN x V.B.pn then -1 else if y = 0 then nI (V.B.kd (tN x)) else if y = 1 then nI (V.B.dp (tN x)) else if y = 2 then nI (pl V.s (tN x)) else if y = 3 then bI (mayB V.B V.s V.f (tN x) 0) else if y = 4 then bI (mayB V.B V.s V.f (tN x) 1) else -1
def atS (V : Bv) (x y : Int32) : Int32 := if ¬ inN x V.B.ln then -1 else if y = 0 then nI (V.B.ow (tN x)) else if y = 1 then nI (V.B.wy (tN x)) else if y = 2 then nI (V.B.ot (tN x)) else if y = 3 then nI (V.B.ps (tN x)) else if y = 4 then bI (V.f.testBit (tN x)) else if y = 5 then bI (met V.B (tN x) V.s) else -1
def openB (B : Bx) (o s : Nat) : Bool := decide (0 < B.pn) && decide (pl s o = B.dp o)
def cntM (B : Bx) (s f : Nat) : Nat → Nat
  | 0 => 0
  | m + 1 => cntM B s f m + (if mayB B s f (m / 2) (m % 2) then 1 else 0)
theorem cntM_le {B : Bx} {s f m : Nat} : cntM B s f m ≤ m := by
  induction m with
  | zero => exact Nat.le_refl _
  | succ m ih => simp only [cntM]; split <;> omega
def countS (V : Bv) (x : Int32) : Int32 := if x = 0 then nI V.B.pn else if x = 1 then nI V.B.ln else if x = 2 then nI V.lid else if x = 3 then bI (openB V.B V.lid V.s) else if x = 4 then nI (outN V.s V.B.pn) else if x = 5 then nI V.f else if x = 6 then nI (cntM V.B V.s V.f (2 * V.B.pn)) else if x = 7 then nI V.s else if x = 8 then nI V.past.length else -1
section READS
variable {d : Nat} {V : Bv} {I : I2} {J : J2} {G : I2 → J2 → Prop} {F : Int32 → I2 → J2 → Prop} {s : Nat}
theorem n_bI {f l : Nat} (hf : f < 64) (hl : l < 6) : srI (nI f) (nI l) &&& 1 = bI (f.testBit l) := by
  rw [n_sr (by omega) (by omega), n_and1 (Nat.lt_of_le_of_lt (Nat.div_le_self _ _) (by omega)), Nat.testBit_eq_decide_div_mod_eq]
  rcases Nat.mod_two_eq_zero_or_one (f / 2 ^ l) with e | e <;> rw [e] <;> rfl
theorem n_met {B : Bx} {l : Nat} (hw : WFB B) (hl : l < B.ln) : srI (nI (B.ps l)) (nI (pl s (B.ot l))) &&& 1 = bI (met B l s) := by
  have hpl := pl_lt s (B.ot l)
  have h15 := (hw.2.2.2 l hl).2.2.2.2
  rw [n_sr (by omega) (by omega), n_and1 (Nat.lt_of_le_of_lt (Nat.div_le_self _ _) (by omega))]
  unfold met
  rcases Nat.mod_two_eq_zero_or_one (B.ps l / 2 ^ pl s (B.ot l)) with e | e <;> rw [e] <;> rfl
theorem c_Sb_of (hd : 5 ≤ d) (hw : WFV V) (hV : CBx 1 V I) (x y : Int32) (h : F (ofS V x y) I J) : CI d Sb_of [.ref 0, .int x, .int y] I J F := by
  have hp5 := hw.1.1
  have hs := s31 hw.1 hw.2.2.1.1
  have hf := f64 hw.1 hw.2.2.2.1
  refine CI.of (by omega) rfl (v_Sb_of_0_0 (c_Bx_hasPanel_1 (by omega) hV.1 ?_))
  rw [in_dec]
  refine ⟨fun q => QI_i.mpr ?_, fun q => ?_⟩
  · rw [show ofS V x y = -1 from if_pos q] at h; exact h
  · have q1 : inN x V.B.pn := Classical.not_not.mp q
    rw [show ofS V x y = _ from if_neg q] at h
    obtain ⟨p, hp, rfl⟩ := in_of q1 (by omega)
    rw [n_tN (by omega)] at h ⊢
    have hv := n_vp (a := p) (n := 5) (by omega) (by decide)
    rw [hV.2.2.1, hV.2.2.2.1, (hV.1.2.2.1 p hp).1, (hV.1.2.2.1 p hp).2]
    refine ⟨fun e => ⟨hv, QI_i.mpr ?_⟩, fun e => ⟨hv, QI_i.mpr ?_⟩, fun e => c_Sb_placeIn (by omega) (by omega) (by omega) (QI_i.mpr ?_), fun e => c_Bx_maySlide_1 (w := 0) (by omega) hw.1 hV.1 (by omega) hp hf (by decide) (c_Sb_bit (by omega) (QI_i.mpr ?_)), fun e => c_Bx_maySlide_1 (w := 1) (by omega) hw.1 hV.1 (by omega) hp hf (by decide) (c_Sb_bit (by omega) (QI_i.mpr ?_)), fun ⟨e0, e1, e2, e3, e4⟩ => QI_i.mpr ?_⟩
    · subst e; exact h
    · subst e; exact h
    · subst e; exact h
    · subst e; exact h
    · subst e; exact h
    · rw [if_neg e0, if_neg e1, if_neg e2, if_neg e3, if_neg e4] at h; exact h
theorem c_Sb_at (hd : 3 ≤ d) (hw : WFV V) (hV : CBx 1 V I) (x y : Int32) (h : F (atS V x y) I J) : CI d Sb_at [.ref 0, .int x, .int y] I J F := by
  have hl6 := hw.1.2.1
  have hs := s31 hw.1 hw.2.2.1.1
  have hf := f64 hw.1 hw.2.2.2.1
  refine CI.of (by omega) rfl (v_Sb_at_0_0 (c_Bx_hasLock_1 (by omega) hV.1 ?_))
  rw [in_dec]
  refine ⟨fun q => QI_i.mpr ?_, fun q => ?_⟩
  · rw [show atS V x y = -1 from if_pos q] at h; exact h
  · have q1 : inN x V.B.ln := Classical.not_not.mp q
    rw [show atS V x y = _ from if_neg q] at h
    obtain ⟨l, hl, rfl⟩ := in_of q1 (by omega)
    rw [n_tN (by omega)] at h ⊢
    have hv := n_vp (a := l) (n := 6) (by omega) (by decide)
    obtain ⟨g1, g2, g3, g4⟩ := hV.1.2.2.2 l hl
    rw [hV.2.2.1, hV.2.2.2.1, g1, g2, g3, g4, n_bI hf (by omega)]
    refine ⟨fun e => ⟨hv, QI_i.mpr ?_⟩, fun e => ⟨hv, QI_i.mpr ?_⟩, fun e => ⟨hv, QI_i.mpr ?_⟩, fun e => ⟨hv, QI_i.mpr ?_⟩, fun e => QI_i.mpr ?_, fun e => c_Bx_isMet_1 (by omega) hw.1 hV.1 hl (by omega) (c_Sb_bit (by omega) (QI_i.mpr ?_)), fun ⟨e0, e1, e2, e3, e4, e5⟩ => QI_i.mpr ?_⟩
    · subst e; exact h
    · subst e; exact h
    · subst e; exact h
    · subst e; exact h
    · subst e; exact h
    · subst e; exact h
    · rw [if_neg e0, if_neg e1, if_neg e2, if_neg e3, if_neg e4, if_neg e5] at h; exact h
theorem l_Bx_slides (hd : 4 ≤ d) (hw : WFV V) (hV : CBx 1 V I) (h : F (nI (cntM V.B V.s V.f (2 * V.B.pn))) I J) : ∀ k n, n + k = 2 * V.B.pn → Wp d Bx_slidesThatMay (QI F) 4 [some (.ref 1), some (.int (nI (cntM V.B V.s V.f n))), some (.int (nI n))] [] I J := by
  have hp5 := hw.1.1
  have hs := s31 hw.1 hw.2.2.1.1
  have hf := f64 hw.1 hw.2.2.2.1
  have e2 : (2 : Int32) * nI V.B.pn = nI (2 * V.B.pn) := pk_mul 2 _
  intro k
  induction k with
  | zero =>
    intro n hn
    have hn : n = 2 * V.B.pn := by omega
    subst hn
    refine v_Bx_slidesThatMay_1_4 ⟨fun q => ?_, fun _ => QI_i.mpr h⟩
    rw [hV.1.1, e2] at q; exact absurd ((n_lt (by omega) (by omega)).mp q) (Nat.lt_irrefl _)
  | succ k ih =>
    intro n hn
    have hlt : n < 2 * V.B.pn := by omega
    have go := ih (n + 1) (by omega)
    refine v_Bx_slidesThatMay_1_4 ⟨fun _ => ?_, fun q => absurd ((n_lt (by omega) (by omega)).mpr hlt) (by rw [hV.1.1, e2] at q; exact q)⟩
    have e3 : srI (nI n) 1 = nI (n / 2) := n_sr (k := 1) (by omega) (by decide)
    rw [hV.2.2.1, hV.2.2.2.1, e3, n_and1 (by omega)]
    refine c_Bx_maySlide_1 hd hw.1 hV.1 (by omega) (by omega) hf (Nat.mod_lt _ (by decide)) ?_
    rw [bI_0, n_inc, n_inc]
    simp only [cntM] at go
    refine ⟨fun e => ?_, fun e => ?_⟩
    · rw [e] at go; exact go
    · have e : mayB V.B V.s V.f (n / 2) (n % 2) = true := by simpa using e
      rw [e] at go; exact go
theorem c_Bx_slides (hd : 5 ≤ d) (hw : WFV V) (hV : CBx 1 V I) (h : F (nI (cntM V.B V.s V.f (2 * V.B.pn))) I J) : CI d Bx_slidesThatMay [.ref 1] I J F :=
  CI.of (by omega) rfl (v_Bx_slidesThatMay_1_0 (l_Bx_slides (by omega) hw hV h _ 0 (Nat.zero_add _)))
theorem c_Sb_count (hd : 6 ≤ d) (hw : WFV V) (hV : CBx 1 V I) (x : Int32) (h : F (countS V x) I J) : CI d Sb_count [.ref 0, .int x] I J F := by
  have hs := s31 hw.1 hw.2.2.1.1
  obtain ⟨hB, h8, h9, h10, h11, h15, -⟩ := id hV
  refine CI.of (by omega) rfl (v_Sb_count_0_0 ?_)
  rw [hB.1, hB.2.1, h8, h9, h10, h15]
  unfold countS at h
  refine ⟨fun e => QI_i.mpr ?_, fun e => QI_i.mpr ?_, fun e => QI_i.mpr ?_, fun e => c_Bx_isOpen_1 (by omega) hw.1 hV.1 h8 hw.2.1 (by omega) (c_Sb_bit (by omega) (QI_i.mpr ?_)), fun e => c_Bx_outSet (by omega) hw.1 hV (by omega) (QI_i.mpr ?_), fun e => QI_i.mpr ?_, fun e => c_Bx_slides (by omega) hw hV (QI_i.mpr ?_), fun e => QI_i.mpr ?_, fun e => QI_i.mpr ?_, fun ⟨e0, e1, e2, e3, e4, e5, e6, e7, e8⟩ => QI_i.mpr ?_⟩
  iterate 9 (· subst e; exact h)
  · rw [if_neg e0, if_neg e1, if_neg e2, if_neg e3, if_neg e4, if_neg e5, if_neg e6, if_neg e7, if_neg e8] at h; exact h
end READS
end
section
/-! the walk, as both sides do it: who was met in which order, how far (0: not yet, else one more), from where, by which move, by how many rows -/
def nx (B : Bx) (f s m : Nat) : Option Nat := if mayB B s f (m / 2) (m % 2) then some (behB B s (m / 2) (m % 2) B.pn) else none
abbrev Tw : Type := List Nat × (Nat → Nat) × (Nat → Nat) × (Nat → Nat) × (Nat → Nat)
abbrev Tw.ord (T : Tw) : List Nat := T.1
abbrev Tw.fa (T : Tw) : Nat → Nat := T.2.1
abbrev Tw.fr (T : Tw) : Nat → Nat := T.2.2.1
abbrev Tw.by' (T : Tw) : Nat → Nat := T.2.2.2.1
abbrev Tw.wy (T : Tw) : Nat → Nat := T.2.2.2.2
def Tw.add (T : Tw) (s m t : Nat) : Tw := (T.ord ++ [t], updN T.fa t (T.fa s + 1), updN T.fr t s, updN T.by' t m, updN T.wy t 0)
def Tw.more (T : Tw) (s t : Nat) : Tw := if T.fa t = T.fa s + 1 then (T.ord, T.fa, T.fr, T.by', updN T.wy t ((T.wy t + T.wy s) % 1000003)) else T
def meet (T : Tw) (s m t : Nat) : Tw := if T.fa t = 0 then (T.add s m t).more s t else T.more s t
def vis (B : Bx) (f s : Nat) : Nat → Tw → Tw
  | 0, T => T
  | m + 1, T => match nx B f s m with
    | none => vis B f s m T
    | some t => meet (vis B f s m T) s m t
def bfs0 (s0 : Nat) : Tw := ([s0], updN (fun _ => 0) s0 1, fun _ => 0, fun _ => 0, updN (fun _ => 0) s0 1)
def bfsN (B : Bx) (f s0 : Nat) : Nat → Tw
  | 0 => bfs0 s0
  | n + 1 => match (bfsN B f s0 n).ord[n]? with
    | none => bfsN B f s0 n
    | some s => vis B f s (2 * B.pn) (bfsN B f s0 n)
theorem bfs_ex (B : Bx) (f s0 : Nat) : ∃ z : Tw, z = bfsN B f s0 1024 := ⟨_, rfl⟩
/-- the whole walk (chosen, so that nobody reckons it) -/
noncomputable def bfs (B : Bx) (f s0 : Nat) : Tw := Classical.choose (bfs_ex B f s0)
theorem bfs_eq (B : Bx) (f s0 : Nat) : bfs B f s0 = bfsN B f s0 1024 := Classical.choose_spec (bfs_ex B f s0)
/-- what holds of it all along -/
def TI (B : Bx) (T : Tw) : Prop := T.ord.Nodup ∧ (∀ t, t ∈ T.ord ↔ T.fa t ≠ 0) ∧ (∀ t, t ∈ T.ord → okS B t ∧ T.fa t ≤ T.ord.length ∧ T.wy t < 1000003) ∧ (∀ t, 1 < T.fa t → T.fr t ∈ T.ord ∧ T.by' t < 10 ∧ T.fa (T.fr t) + 1 = T.fa t)
theorem nodup_len : ∀ (n : Nat) (l : List Nat), l.Nodup → (∀ x ∈ l, x < n) → l.length ≤ n := by
  intro n
  induction n with
  | zero =>
    intro l _ h
    cases l with
    | nil => exact Nat.le_refl _
    | cons x t => exact absurd (h x List.mem_cons_self) (Nat.not_lt_zero x)
  | succ n ih =>
    intro l hn h
    by_cases e : n ∈ l
    · have h1 := ih (l.erase n) (hn.erase n) (fun x hx => by
        have h2 := h x (List.mem_of_mem_erase hx)
        have h3 : x ≠ n := fun q => by rw [q] at hx; exact (hn.not_mem_erase) hx
        omega)
      rw [List.length_erase_of_mem e] at h1
      omega
    · have h1 := ih l hn (fun x hx => by
        have h2 := h x hx
        have h3 : x ≠ n := fun q => by rw [q] at hx; exact e hx
        omega)
      omega
theorem TI.len {B : Bx} {T : Tw} (hw : WFB B) (h : TI B T) : T.ord.length ≤ 1024 := nodup_len 1024 _ h.1 (fun x hx => s31 hw (h.2.2.1 x hx).1.1)
theorem nx_ok {B : Bx} {f s m t : Nat} (hw : WFB B) (hs : okS B s) (hm : m < 2 * B.pn) (h : nx B f s m = some t) : okS B t ∧ mayB B s f (m / 2) (m % 2) = true ∧ t = behB B s (m / 2) (m % 2) B.pn := by
  unfold nx at h
  split at h
  · next hm2 =>
    cases h
    exact ⟨okS_beh hw hs (by omega) (Nat.mod_lt _ (by decide)) hm2, hm2, rfl⟩
  · cases h
theorem TI_more {B : Bx} {T : Tw} {s t : Nat} (h : TI B T) : TI B (T.more s t) := by
  unfold Tw.more
  split
  · refine ⟨h.1, h.2.1, fun x hx => ⟨(h.2.2.1 x hx).1, (h.2.2.1 x hx).2.1, ?_⟩, h.2.2.2⟩
    show updN T.wy t _ x < 1000003
    unfold updN
    split
    · exact Nat.mod_lt _ (by decide)
    · exact (h.2.2.1 x hx).2.2
  · exact h
theorem TI_add {B : Bx} {T : Tw} {s m t : Nat} (h : TI B T) (hs : s ∈ T.ord) (ht : okS B t) (h0 : T.fa t = 0) (hm : m < 10) : TI B (T.add s m t) := by
  obtain ⟨h1, h2, h3, h4⟩ := h
  have htn : t ∉ T.ord := fun q => (h2 t).mp q h0
  have hst : s ≠ t := fun q => htn (q ▸ hs)
  refine ⟨?_, fun x => ?_, fun x hx => ?_, fun x hx => ?_⟩
  · show (T.ord ++ [t]).Nodup
    rw [List.nodup_append]
    exact ⟨h1, by simp, fun a ha b hb => by simp at hb; subst hb; exact fun q => htn (q ▸ ha)⟩
  · show x ∈ T.ord ++ [t] ↔ updN T.fa t (T.fa s + 1) x ≠ 0
    unfold updN
    by_cases e : x = t
    · simp [e]
    · rw [if_neg e, ← h2 x]; simp [e]
  · have hx : x ∈ T.ord ++ [t] := hx
    show okS B x ∧ updN T.fa t (T.fa s + 1) x ≤ (T.ord ++ [t]).length ∧ updN T.wy t 0 x < 1000003
    unfold updN
    by_cases e : x = t
    · subst e
      simp only [if_pos]
      have := (h3 s hs).2.1
      exact ⟨ht, by simp; exact this, by decide⟩
    · rw [if_neg e, if_neg e]
      have hx2 : x ∈ T.ord := by simpa [e] using hx
      have := h3 x hx2
      exact ⟨this.1, by simp; omega, this.2.2⟩
  · have hx : 1 < updN T.fa t (T.fa s + 1) x := hx
    show updN T.fr t s x ∈ T.ord ++ [t] ∧ updN T.by' t m x < 10 ∧ updN T.fa t (T.fa s + 1) (updN T.fr t s x) + 1 = updN T.fa t (T.fa s + 1) x
    unfold updN at hx ⊢
    by_cases e : x = t
    · subst e
      simp only [if_pos] at hx ⊢
      rw [if_neg hst]
      exact ⟨List.mem_append_left _ hs, hm, rfl⟩
    · rw [if_neg e] at hx
      simp only [if_neg e]
      obtain ⟨g1, g2, g3⟩ := h4 x hx
      have hne : ¬ T.fr x = t := fun q => htn (q ▸ g1)
      rw [if_neg hne]
      exact ⟨List.mem_append_left _ g1, g2, g3⟩
theorem more_ord {T : Tw} {s t : Nat} : (T.more s t).ord = T.ord ∧ (T.more s t).fa = T.fa ∧ (T.more s t).fr = T.fr ∧ (T.more s t).by' = T.by' := by
  unfold Tw.more; split <;> exact ⟨rfl, rfl, rfl, rfl⟩
theorem meet_mem {T : Tw} {s m t x : Nat} (h : x ∈ T.ord) : x ∈ (meet T s m t).ord := by
  unfold meet
  split
  · rw [more_ord.1]; exact List.mem_append_left _ h
  · rw [more_ord.1]; exact h
theorem TI_meet {B : Bx} {T : Tw} {s m t : Nat} (h : TI B T) (hs : s ∈ T.ord) (ht : okS B t) (hm : m < 10) : TI B (meet T s m t) := by
  unfold meet
  split
  · next h0 => exact TI_more (TI_add h hs ht h0 hm)
  · exact TI_more h
theorem vis_mem {B : Bx} {f s x m : Nat} {T : Tw} (h : x ∈ T.ord) : x ∈ (vis B f s m T).ord := by
  induction m with
  | zero => exact h
  | succ m ih =>
    simp only [vis]
    split
    · exact ih
    · exact meet_mem ih
theorem TI_vis {B : Bx} {f s m : Nat} {T : Tw} (hw : WFB B) (h : TI B T) (hs : s ∈ T.ord) (hm : m ≤ 2 * B.pn) : TI B (vis B f s m T) := by
  induction m with
  | zero => exact h
  | succ m ih =>
    have hok := (h.2.2.1 s hs).1
    have hp5 := hw.1
    simp only [vis]
    split
    · exact ih (by omega)
    · next t ht => exact TI_meet (ih (by omega)) (vis_mem hs) (nx_ok hw hok (by omega) ht).1 (by omega)
theorem TI_0 {B : Bx} {s0 : Nat} (h : okS B s0) : TI B (bfs0 s0) := by
  refine ⟨show [s0].Nodup from by simp, fun t => ?_, fun t ht => ?_, fun t ht => ?_⟩
  · show t ∈ [s0] ↔ updN (fun _ => 0) s0 1 t ≠ 0
    unfold updN; by_cases e : t = s0 <;> simp [e]
  · have ht : t ∈ [s0] := ht
    simp at ht
    subst ht
    refine ⟨h, show updN (fun _ => 0) t 1 t ≤ [t].length from ?_, show updN (fun _ => 0) t 1 t < 1000003 from ?_⟩ <;> simp [updN]
  · have ht : 1 < updN (fun _ => 0) s0 1 t := ht
    unfold updN at ht
    split at ht
    · omega
    · exact absurd ht (show ¬ 1 < 0 from by decide)
theorem TI_bfsN {B : Bx} {f s0 : Nat} (hw : WFB B) (h : okS B s0) (n : Nat) : TI B (bfsN B f s0 n) := by
  induction n with
  | zero => exact TI_0 h
  | succ n ih =>
    simp only [bfsN]
    split
    · exact ih
    · next s hs => exact TI_vis hw ih (List.mem_of_getElem? hs) (Nat.le_refl _)
theorem bfsN_stop {B : Bx} {f s0 n : Nat} (h : (bfsN B f s0 n).ord.length ≤ n) : ∀ k, bfsN B f s0 (n + k) = bfsN B f s0 n := by
  intro k
  induction k with
  | zero => rfl
  | succ k ih =>
    show bfsN B f s0 (n + k + 1) = _
    simp only [bfsN]
    rw [ih, List.getElem?_eq_none (by omega)]
theorem bfs_at {B : Bx} {f s0 n : Nat} (h : (bfsN B f s0 n).ord.length ≤ n) (hn : n ≤ 1024) : bfs B f s0 = bfsN B f s0 n := by
  have := bfsN_stop h (1024 - n)
  rw [show n + (1024 - n) = 1024 by omega] at this
  rw [bfs_eq]; exact this
end
section
/-! the class: charts, walks -/
/-- all slides of the box, charted -/
def ChR (B : Bx) (I : I2) : Prop := I 33 8 = nI (2 * B.pn) ∧ ∀ s, okS B s → ∀ m, m < 2 * B.pn → I 34 (10 * s + m) = (if fitsB B s (m / 2) (m % 2) then nI (behB B s (m / 2) (m % 2) B.pn) else -1) ∧ I 35 (10 * s + m) = nI (hset B s (m / 2) (m % 2) B.ln)
/-- a walk, as it stands in the rows -/
def WkR (T : Tw) (I : I2) : Prop := I 33 9 = nI T.ord.length ∧ (∀ k s, T.ord[k]? = some s → I 36 k = nI s) ∧ (∀ t, t < 1024 → I 37 t = nI (T.fa t) - 1) ∧ (∀ t, T.fa t ≠ 0 → I 40 t = nI (T.wy t)) ∧ ∀ t, 1 < T.fa t → I 38 t = nI (T.fr t) ∧ I 39 t = nI (T.by' t)
/-- what a walk leaves alone -/
def FrW (I I' : I2) : Prop := (∀ a, (a < 33 ∨ 40 < a) → a ≠ 1 → I' a = I a) ∧ ∀ k, k ≠ 17 → I' 1 k = I 1 k
theorem FrW.rf {I : I2} : FrW I I := ⟨fun _ _ _ => rfl, fun _ _ => rfl⟩
theorem FrW.tr {I0 I1 I2 : I2} (h1 : FrW I0 I1) (h2 : FrW I1 I2) : FrW I0 I2 := ⟨fun a x y => (h2.1 a x y).trans (h1.1 a x y), fun k h => (h2.2 k h).trans (h1.2 k h)⟩
theorem FrW.box {B : Bx} {I I' : I2} (h : FrW I I') (hB : BoxI 1 B I) : BoxI 1 B I' := by
  obtain ⟨b1, b2, b3, b4⟩ := hB
  refine ⟨by rw [h.2 2 (by decide)]; exact b1, by rw [h.2 7 (by decide)]; exact b2, fun p hp => ?_, fun l hl => ?_⟩
  · rw [h.1 (1 + 1) (by decide) (by decide), h.1 (1 + 2) (by decide) (by decide)]; exact b3 p hp
  · rw [h.1 (1 + 3) (by decide) (by decide), h.1 (1 + 4) (by decide) (by decide), h.1 (1 + 5) (by decide) (by decide), h.1 (1 + 6) (by decide) (by decide)]; exact b4 l hl
theorem FrW_up {I : I2} {a k : Nat} {x : Int32} (ha : 33 ≤ a) (h2 : a ≤ 40) : FrW I (up2 I a k x) := by
  refine ⟨fun b hb _ => ?_, fun k _ => ?_⟩
  · have : b ≠ a := by omega
    simp [up2, this]
  · have : (1 : Nat) ≠ a := by omega
    simp [up2, this]
theorem pred_lt {a : Nat} (h : a < 2 ^ 30) : nI a - 1 < 0 ↔ a = 0 := by
  rcases Nat.eq_zero_or_pos a with e | e
  · subst e; exact ⟨fun _ => rfl, fun _ => by decide⟩
  · rw [n_dec e]
    exact ⟨fun q => absurd q (nI_pos (by omega)), fun q => by omega⟩
theorem pred_succ (a : Nat) : nI a - 1 + 1 = nI (a + 1) - 1 := by
  rw [n_dec (a := a + 1) (by omega), Nat.add_sub_cancel]
  exact Int32.sub_add_cancel _ _
theorem pred_eq {a b : Nat} (ha : a < 2 ^ 30) (hb : b < 2 ^ 30) : nI a - 1 = nI b - 1 + 1 ↔ a = b + 1 := by
  rw [pred_succ, n_dec (a := b + 1) (by omega), Nat.add_sub_cancel]
  constructor
  · intro h
    have h2 : nI a = nI b + 1 := by rw [← h]; exact (Int32.sub_add_cancel _ _).symm
    rw [n_inc] at h2
    exact (n_eq (by omega) (by omega)).mp h2
  · intro h
    subst h
    rw [n_dec (by omega), Nat.add_sub_cancel]
section WALK
variable {d : Nat} {B : Bx} {I : I2} {J : J2} {G : I2 → J2 → Prop} {F : Int32 → I2 → J2 → Prop} {s f m : Nat}
theorem sp10 (s m : Nat) : (10 : Int32) * nI s + nI m = nI (10 * s + m) := by
  rw [show (10 : Int32) * nI s = nI (10 * s) from pk_mul 10 s, nI_add]
theorem c_Wk_next (hd : 1 ≤ d) (hw : WFB B) (hC : ChR B I) (hF : I 33 11 = nI f) (hf : f < 64) (hs : okS B s) (hm : m < 2 * B.pn) (h : F (match nx B f s m with | some t => nI t | none => -1) I J) : CI d Wk_next [.ref 33, .int (nI s), .int (nI m)] I J F := by
  have hs2 := s31 hw hs.1
  have hp5 := hw.1
  obtain ⟨c1, c2⟩ := hC.2 s hs m hm
  refine CI.of hd rfl (v_Wk_next_33_0 ?_)
  rw [sp10, n_tN (by omega), c1, c2, hF, hs_sub hf (hset_lt hw.2.1)]
  have hv := n_vp (a := 10 * s + m) (n := 10240) (by omega) (by decide)
  have key : ∀ b : Bool, mayB B s f (m / 2) (m % 2) = b → F (if b then nI (behB B s (m / 2) (m % 2) B.pn) else -1) I J := by
    intro b e
    unfold nx at h
    rw [e] at h
    cases b <;> exact h
  refine ⟨hv, fun e => ⟨hv, QI_i.mpr ?_⟩, fun e => QI_i.mpr ?_⟩
  · have e2 := hset_sub.mp e
    cases hfit : fitsB B s (m / 2) (m % 2)
    · exact key false (by rw [mayB, hfit]; rfl)
    · exact key true (by simp only [mayB, hfit, Bool.true_and, decide_eq_true_eq]; exact e2)
  · have e2 := fun z => e (hset_sub.mpr z)
    refine key false ?_
    cases hfit : fitsB B s (m / 2) (m % 2)
    · rw [mayB, hfit]; rfl
    · simp only [mayB, hfit, Bool.true_and, decide_eq_false_iff_not]; exact e2
/-- what a step of a walk leaves alone, too -/
def FrV (I I' : I2) : Prop := FrW I I' ∧ I' 1 17 = I 1 17 ∧ I' 34 = I 34 ∧ I' 35 = I 35 ∧ ∀ k, k ≠ 9 → I' 33 k = I 33 k
theorem FrV.rf {I : I2} : FrV I I := ⟨FrW.rf, rfl, rfl, rfl, fun _ _ => rfl⟩
theorem FrV.tr {I0 I1 I2 : I2} (h1 : FrV I0 I1) (h2 : FrV I1 I2) : FrV I0 I2 := ⟨h1.1.tr h2.1, h2.2.1.trans h1.2.1, h2.2.2.1.trans h1.2.2.1, h2.2.2.2.1.trans h1.2.2.2.1, fun k h => (h2.2.2.2.2 k h).trans (h1.2.2.2.2 k h)⟩
theorem FrV.ch {I I' : I2} (h : FrV I I') (hC : ChR B I) : ChR B I' := by
  refine ⟨by rw [h.2.2.2.2 8 (by decide)]; exact hC.1, ?_⟩
  rw [h.2.2.1, h.2.2.2.1]; exact hC.2
theorem WkR_more {T : Tw} {t : Nat} (hI : WkR T I) (e : T.fa t = T.fa s + 1) : WkR (T.more s t) (up2 I 40 t (nI ((T.wy t + T.wy s) % 1000003))) := by
  unfold Tw.more
  rw [if_pos e]
  obtain ⟨w1, w2, w3, w4, w5⟩ := hI
  refine ⟨by simpa [up2] using w1, fun k x hx => by simpa [up2] using w2 k x hx, fun x hx => by simpa [up2] using w3 x hx, fun x hx => ?_, fun x hx => by simpa [up2] using w5 x hx⟩
  show up2 I 40 t _ 40 x = nI (updN T.wy t _ x)
  simp only [up2, upd, updN, if_pos]
  split
  · rfl
  · exact w4 x hx
theorem WkR_add {T : Tw} {t : Nat} (hI : WkR T I) (hm : m < 10) : WkR (T.add s m t) (up2 (up2 (up2 (up2 (up2 (up2 I 37 t (nI (T.fa s + 1) - 1)) 38 t (nI s)) 39 t (nI m)) 40 t 0) 36 T.ord.length (nI t)) 33 9 (nI (T.ord.length + 1))) := by
  obtain ⟨w1, w2, w3, w4, w5⟩ := hI
  refine ⟨?_, fun k x hx => ?_, fun x hx => ?_, fun x hx => ?_, fun x hx => ?_⟩
  · show _ = nI (T.ord ++ [t]).length
    simp [up2, upd]
  · have hx : (T.ord ++ [t])[k]? = some x := hx
    by_cases e : k = T.ord.length
    · subst e
      simp at hx
      simp [up2, upd, hx]
    · have hk : k < T.ord.length := by
        have := (List.getElem?_eq_some_iff.mp hx).1
        simp at this; omega
      rw [List.getElem?_append_left hk] at hx
      simp [up2, upd, e]
      exact w2 k x hx
  · show _ = nI (updN T.fa t (T.fa s + 1) x) - 1
    by_cases e : x = t
    · subst e; simp [up2, upd, updN]
    · simp [up2, upd, updN, e]; exact w3 x hx
  · have hx : updN T.fa t (T.fa s + 1) x ≠ 0 := hx
    show _ = nI (updN T.wy t 0 x)
    by_cases e : x = t
    · subst e; simp [up2, upd, updN]; rfl
    · simp only [updN, if_neg e] at hx
      simp [up2, upd, updN, e]; exact w4 x hx
  · have hx : 1 < updN T.fa t (T.fa s + 1) x := hx
    show _ = nI (updN T.fr t s x) ∧ _ = nI (updN T.by' t m x)
    by_cases e : x = t
    · subst e; simp [up2, upd, updN]
    · simp only [updN, if_neg e] at hx
      simp [up2, upd, updN, e]; exact w5 x hx
theorem FrV_up {I : I2} {a k : Nat} {x : Int32} (ha : 36 ≤ a) (h2 : a ≤ 40) : FrV I (up2 I a k x) := by
  refine ⟨FrW_up (by omega) h2, ?_, ?_, ?_, fun j _ => ?_⟩
  · have : (1 : Nat) ≠ a := by omega
    simp [up2, this]
  · have : (34 : Nat) ≠ a := by omega
    simp [up2, this]
  · have : (35 : Nat) ≠ a := by omega
    simp [up2, this]
  · have : (33 : Nat) ≠ a := by omega
    simp [up2, this]
theorem FrV_up9 {I : I2} {x : Int32} : FrV I (up2 I 33 9 x) :=
  ⟨FrW_up (by decide) (by decide), by simp [up2], by simp [up2], by simp [up2], fun k hk => by simp [up2, upd, hk]⟩
set_option maxHeartbeats 1000000 in
theorem l_Wk_visit (hd : 1 ≤ d) (hw : WFB B) (hf : f < 64) {T0 : Tw} {I0 : I2} (hT : TI B T0) (hs : s ∈ T0.ord) (h : ∀ I', WkR (vis B f s (2 * B.pn) T0) I' → FrV I0 I' → G I' J) : ∀ k n I, n + k = 2 * B.pn → ChR B I → I 33 11 = nI f → WkR (vis B f s n T0) I → FrV I0 I → Wp d Wk_visit (QV G) 2 [some (.ref 33), some (.int (nI s)), some (.int (nI n)), none] [] I J := by
  have hp5 := hw.1
  have hok := (hT.2.2.1 s hs).1
  have hs2 := s31 hw hok.1
  intro k
  induction k with
  | zero =>
    intro n I hn hC hF hI hFr
    have hn : n = 2 * B.pn := by omega
    subst hn
    refine v_Wk_visit_33_2 ⟨fun q => ?_, fun _ => QV_i.mpr (h I hI hFr)⟩
    rw [hC.1] at q; exact absurd ((n_lt (by omega) (by omega)).mp q) (Nat.lt_irrefl _)
  | succ k ih =>
    intro n I hn hC hF hI hFr
    have hlt : n < 2 * B.pn := by omega
    have go : ∀ I1, FrV I I1 → WkR (vis B f s (n + 1) T0) I1 → Wp d Wk_visit (QV G) 2 [some (.ref 33), some (.int (nI s)), some (.int (nI n + 1)), none] [] I1 J := by
      intro I1 q1 q2
      rw [n_inc]
      exact ih (n + 1) I1 (by omega) (q1.ch hC) (by rw [q1.2.2.2.2 11 (by decide)]; exact hF) q2 (hFr.tr q1)
    refine v_Wk_visit_33_2 ⟨fun _ => c_Wk_next hd hw hC hF hf hok hlt ?_, fun q => absurd ((n_lt (by omega) (by omega)).mpr hlt) (by rw [hC.1] at q; exact q)⟩
    have evis : vis B f s (n + 1) T0 = match nx B f s n with
      | none => vis B f s n T0
      | some t => meet (vis B f s n T0) s n t := rfl
    rw [evis] at go
    have hTn : TI B (vis B f s n T0) := TI_vis hw hT hs (by omega)
    have hsn : s ∈ (vis B f s n T0).ord := vis_mem hs
    generalize vis B f s n T0 = T at hTn hsn hI go
    cases hnx : nx B f s n with
    | none =>
      rw [hnx] at go
      exact ⟨fun _ => go I FrV.rf hI, fun q => absurd (by decide) q⟩
    | some t =>
      rw [hnx] at go
      dsimp only at go ⊢
      have hokt := (nx_ok hw hok hlt hnx).1
      have ht2 := s31 hw hokt.1
      have hlen := hTn.len hw
      have hfas := (hTn.2.2.1 s hsn)
      have hfs0 := (hTn.2.1 s).mp hsn
      have w3s := hI.2.2.1 s hs2
      have w3t := hI.2.2.1 t ht2
      have hv := n_vp (a := t) (n := 1024) ht2 (by decide)
      have hvs := n_vp (a := s) (n := 1024) hs2 (by decide)
      have hfat : T.fa t ≤ 1024 := by
        by_cases e : T.fa t = 0
        · omega
        · have := (hTn.2.2.1 t ((hTn.2.1 t).mpr e)).2.1; omega
      -- the second half: more rows
      have again : ∀ (T1 : Tw) (I1 : I2), FrV I I1 → WkR T1 I1 → TI B T1 → s ∈ T1.ord → T1.fa t ≠ 0 → meet T s n t = T1.more s t → (((I1 37 t) = ((I1 37 s) + 1)) → Wp d Wk_visit (QV G) 2 [some (.ref 33), some (.int (nI s)), some (.int (nI n + 1)), none] [] (up2 I1 40 t (rmI ((I1 40 t) + (I1 40 s)) 1000003)) J) ∧ (¬ ((I1 37 t) = ((I1 37 s) + 1)) → Wp d Wk_visit (QV G) 2 [some (.ref 33), some (.int (nI s)), some (.int (nI n + 1)), none] [] I1 J) := by
        intro T1 I1 q1 q2 q3 q4 q5 q6
        rw [q6] at go
        have a1 := (q3.2.2.1 s q4)
        have a2 := (q3.2.2.1 t ((q3.2.1 t).mpr q5))
        have hl1 := q3.len hw
        rw [q2.2.2.1 s hs2, q2.2.2.1 t ht2, pred_eq (by omega) (by omega)]
        refine ⟨fun e => ?_, fun e => ?_⟩
        · rw [q2.2.2.2.1 t q5, q2.2.2.2.1 s ((q3.2.1 s).mp q4), nI_add]
          rw [show rmI (nI (T1.wy t + T1.wy s)) 1000003 = nI ((T1.wy t + T1.wy s) % 1000003) from n_rm (k := 1000003) (by omega) (by decide) (by decide)]
          exact go _ (q1.tr (FrV_up (by decide) (by decide))) (WkR_more q2 e)
        · have e2 : T1.more s t = T1 := by unfold Tw.more; rw [if_neg e]
          rw [e2] at go
          exact go _ q1 q2
      have htN : tN (nI t) = t := n_tN (by omega)
      have hsN : tN (nI s) = s := n_tN (by omega)
      refine ⟨fun q => absurd q (nI_pos (by omega)), fun _ => ⟨hv, ?_, ?_⟩⟩
      · rw [htN, hsN, w3t, w3s, pred_lt (by omega)]
        intro e0
        have htn : t ∉ T.ord := fun q => (hTn.2.1 t).mp q e0
        have hst : s ≠ t := fun q => htn (q ▸ hsn)
        have hTa := TI_add (m := n) hTn hsn hokt e0 (by omega)
        have hla := hTa.len hw
        have hla2 : (T.add s n t).ord.length = T.ord.length + 1 := by
          show (T.ord ++ [t]).length = _
          simp
        rw [hI.1]
        have hlt2 : T.ord.length < 1024 := by omega
        rw [show (nI T.ord.length < 1024) = (nI T.ord.length < nI 1024) from rfl, n_lt (by omega) (by decide), n_tN (by omega), n_inc T.ord.length]
        have emeet : meet T s n t = (T.add s n t).more s t := by unfold meet; rw [if_pos e0]
        have hWa := WkR_add (s := s) (t := t) (m := n) hI (by omega)
        have hFa : FrV I (up2 (up2 (up2 (up2 (up2 (up2 I 37 t (nI (T.fa s + 1) - 1)) 38 t (nI s)) 39 t (nI n)) 40 t 0) 36 T.ord.length (nI t)) 33 9 (nI (T.ord.length + 1))) :=
          (((((FrV_up (by decide) (by decide)).tr (FrV_up (by decide) (by decide))).tr (FrV_up (by decide) (by decide))).tr (FrV_up (by decide) (by decide))).tr (FrV_up (by decide) (by decide))).tr FrV_up9
        have A := again (T.add s n t) _ hFa hWa hTa (List.mem_append_left _ hsn) ((hTa.2.1 t).mp (List.mem_append_right _ (by simp))) emeet
        rw [pred_succ]
        refine ⟨fun _ => ⟨hvs, hv, hv, hv, hv, n_vp hlt2 (by decide), hv, hvs, ?_⟩, fun q => absurd hlt2 q⟩
        refine ⟨fun e1 => ⟨hv, hvs, hv, ?_⟩, fun e1 => ?_⟩
        · have B1 := A.1 (by simpa [up2] using e1)
          simpa [up2] using B1
        · exact A.2 (by simpa [up2] using e1)
      · intro e1
        have e0 : T.fa t ≠ 0 := by
          intro q
          apply e1
          rw [htN, w3t, pred_lt (by omega)]; exact q
        have emeet : meet T s n t = T.more s t := by unfold meet; rw [if_neg e0]
        have A := again T I FrV.rf hI hTn hsn e0 emeet
        rw [htN, hsN]
        exact ⟨hv, hvs, fun q => ⟨hv, hvs, hv, A.1 q⟩, A.2⟩
theorem c_Wk_visit (hd : 2 ≤ d) (hw : WFB B) (hf : f < 64) {T : Tw} (hT : TI B T) (hs : s ∈ T.ord) (hC : ChR B I) (hF : I 33 11 = nI f) (hI : WkR T I) (h : ∀ I', WkR (vis B f s (2 * B.pn) T) I' → FrV I I' → G I' J) : CV d Wk_visit [.ref 33, .int (nI s)] I J G :=
  CV.of (by omega) rfl (v_Wk_visit_33_0 (l_Wk_visit (by omega) hw hf hT hs h _ 0 I (Nat.zero_add _) hC hF hI FrV.rf))
end WALK
end
section
/-! the class: the chart, the whole walk -/
def ChD (B : Bx) (I : I2) (s m : Nat) : Prop := I 34 (10 * s + m) = (if fitsB B s (m / 2) (m % 2) then nI (behB B s (m / 2) (m % 2) B.pn) else -1) ∧ I 35 (10 * s + m) = nI (hset B s (m / 2) (m % 2) B.ln)
/-- what is charted and walked holds, if it isn't told otherwise -/
def CaR (B : Bx) (I : I2) : Prop := I 1 17 = 1 ∨ (I 1 17 = 0 ∧ ChR B I ∧ ∃ s0 f0, okS B s0 ∧ f0 < 64 ∧ I 33 10 = nI s0 ∧ I 33 11 = nI f0 ∧ WkR (bfs B f0 s0) I)
section WALK2
variable {d : Nat} {B : Bx} {I : I2} {J : J2} {G : I2 → J2 → Prop} {F : Int32 → I2 → J2 → Prop} {s f m : Nat}
theorem l_Bx_isState (hd : 1 ≤ d) (hw : WFB B) (hB : BoxI 1 B I) (hs : s < 2 ^ 31) (h1 : (∀ p, p < B.pn → pl s p ≤ B.dp p) → F 1 I J) (h0 : ¬ (∀ p, p < B.pn → pl s p ≤ B.dp p) → F 0 I J) : ∀ k n, n + k = B.pn → (∀ p, p < n → pl s p ≤ B.dp p) → Wp d Bx_isState (QI F) 2 [some (.ref 1), some (.int (nI s)), some (.int (nI n))] [] I J := by
  have hp5 := hw.1
  intro k
  induction k with
  | zero =>
    intro n hn ha
    have hn : n = B.pn := by omega
    subst hn
    refine v_Bx_isState_1_2 ⟨fun q => ?_, fun _ => QI_i.mpr (h1 ha)⟩
    rw [hB.1] at q; exact absurd ((n_lt (by omega) (by omega)).mp q) (Nat.lt_irrefl _)
  | succ k ih =>
    intro n hn ha
    have hlt : n < B.pn := by omega
    have hdp := (hw.2.2.1 n hlt).2.2
    have hpl := pl_lt s n
    refine v_Bx_isState_1_2 ⟨fun _ => c_Sb_placeIn (by omega) hs (by omega) ⟨n_vp (by omega) (by decide), ?_⟩, fun q => absurd ((n_lt (by omega) (by omega)).mpr hlt) (by rw [hB.1] at q; exact q)⟩
    rw [n_tN (by omega), show I 3 n = nI (B.dp n) from (hB.2.2.1 n hlt).2, n_lt (by omega) (by omega), n_inc]
    refine ⟨fun e => QI_i.mpr (h0 (fun q => ?_)), fun e => ih (n + 1) (by omega) (fun p hp => ?_)⟩
    · have := q n hlt; omega
    · by_cases e2 : p = n
      · rw [e2]; omega
      · exact ha p (by omega)
theorem c_Bx_isState (hd : 2 ≤ d) (hw : WFB B) (hB : BoxI 1 B I) (hs : s < 2 ^ 31) (h1 : (∀ p, p < B.pn → pl s p ≤ B.dp p) → F 1 I J) (h0 : ¬ (∀ p, p < B.pn → pl s p ≤ B.dp p) → F 0 I J) : CI d Bx_isState [.ref 1, .int (nI s)] I J F :=
  CI.of (by omega) rfl (v_Bx_isState_1_0 (l_Bx_isState (by omega) hw hB hs h1 h0 _ 0 (Nat.zero_add _) (fun p hp => absurd hp (Nat.not_lt_zero p))))
theorem c_Wk_chartMove (hd : 4 ≤ d) (hw : WFB B) (hB : BoxI 1 B I) (hs : okS B s) (hm : m < 2 * B.pn) (h : G (up2 (up2 I 34 (10 * s + m) (if fitsB B s (m / 2) (m % 2) then nI (behB B s (m / 2) (m % 2) B.pn) else -1)) 35 (10 * s + m) (nI (hset B s (m / 2) (m % 2) B.ln))) J) : CV d Wk_chartMove [.ref 33, .int (nI s), .int (nI m)] I J G := by
  have hp5 := hw.1
  have hs2 := s31 hw hs.1
  have e3 : srI (nI m) 1 = nI (m / 2) := n_sr (k := 1) (by omega) (by decide)
  have hm2 : m % 2 < 2 := Nat.mod_lt _ (by decide)
  have hbx : ∀ z : Int32, BoxI 1 B (up2 I 34 (10 * s + m) z) := fun z => (FrW_up (by decide) (by decide)).box hB
  refine CV.of (by omega) rfl (v_Wk_chartMove_33_0 ?_)
  rw [e3, n_and1 (by omega), sp10, n_tN (by omega)]
  have hv := n_vp (a := 10 * s + m) (n := 10240) (by omega) (by decide)
  refine c_Bx_fits_1 (by omega) hw hB (by omega) (by omega) hm2 ?_
  rw [bI_0]
  refine ⟨fun e => ⟨hv, c_Bx_holding_1 (by omega) hw (hbx _) (by omega) (by omega) hm2 ⟨hv, QV_i.mpr ?_⟩⟩, fun e => c_Bx_behind_1 (by omega) hw hB (by omega) (by omega) hm2 ?_ ⟨hv, c_Bx_holding_1 (by omega) hw (hbx _) (by omega) (by omega) hm2 ⟨hv, QV_i.mpr ?_⟩⟩⟩
  · rw [e] at h; exact h
  · intro q
    have e : fitsB B s (m / 2) (m % 2) = true := by simpa using e
    unfold fitsB at e
    rw [if_pos q] at e
    simp only [Bool.and_eq_true, decide_eq_true_eq] at e
    exact e.1
  · have e : fitsB B s (m / 2) (m % 2) = true := by simpa using e
    rw [e] at h; exact h
theorem ChD_new {v w : Int32} (hv : v = (if fitsB B s (m / 2) (m % 2) then nI (behB B s (m / 2) (m % 2) B.pn) else -1)) (hw : w = nI (hset B s (m / 2) (m % 2) B.ln)) : ChD B (up2 (up2 I 34 (10 * s + m) v) 35 (10 * s + m) w) s m := by
  subst hv; subst hw
  refine ⟨?_, ?_⟩ <;> simp [up2, upd]
theorem ChD_old {v w : Int32} {a b : Nat} (h : ChD B I a b) (hb : b < 10) (hm : m < 10) (hne : a ≠ s ∨ b ≠ m) : ChD B (up2 (up2 I 34 (10 * s + m) v) 35 (10 * s + m) w) a b := by
  have : 10 * a + b ≠ 10 * s + m := by omega
  refine ⟨?_, ?_⟩
  · simp [up2, upd, this]; exact h.1
  · simp [up2, upd, this]; exact h.2
theorem l_Wk_chartS (hd : 4 ≤ d) (hw : WFB B) (hs : okS B s) {I0 : I2} (h : ∀ I', (∀ a, a < s → okS B a → ∀ b, b < 2 * B.pn → ChD B I' a b) → (∀ b, b < 2 * B.pn → ChD B I' s b) → FrW I0 I' → I' 33 8 = nI (2 * B.pn) → BoxI 1 B I' → Wp d Wk_chart (QV G) 15 [some (.ref 33), some (.int (nI s + 1)), none] [] I' J) : ∀ k n I, n + k = 2 * B.pn → (∀ a, a < s → okS B a → ∀ b, b < 2 * B.pn → ChD B I a b) → (∀ b, b < n → ChD B I s b) → FrW I0 I → I 33 8 = nI (2 * B.pn) → BoxI 1 B I → Wp d Wk_chart (QV G) 48 [some (.ref 33), some (.int (nI s)), some (.int (nI n))] [] I J := by
  have hp5 := hw.1
  intro k
  induction k with
  | zero =>
    intro n I hn h1 h2 h3 h4 h5
    have hn : n = 2 * B.pn := by omega
    subst hn
    refine v_Wk_chart_33_48 ⟨fun q => ?_, fun _ => h I h1 h2 h3 h4 h5⟩
    rw [h4] at q; exact absurd ((n_lt (by omega) (by omega)).mp q) (Nat.lt_irrefl _)
  | succ k ih =>
    intro n I hn h1 h2 h3 h4 h5
    have hlt : n < 2 * B.pn := by omega
    refine v_Wk_chart_33_48 ⟨fun _ => c_Wk_chartMove hd hw h5 hs hlt ?_, fun q => absurd ((n_lt (by omega) (by omega)).mpr hlt) (by rw [h4] at q; exact q)⟩
    have hF : FrW I (up2 (up2 I 34 (10 * s + n) (if fitsB B s (n / 2) (n % 2) then nI (behB B s (n / 2) (n % 2) B.pn) else -1)) 35 (10 * s + n) (nI (hset B s (n / 2) (n % 2) B.ln))) := (FrW_up (by decide) (by decide)).tr (FrW_up (by decide) (by decide))
    rw [n_inc]
    refine ih (n + 1) _ (by omega) (fun a ha hok b hb => ChD_old (h1 a ha hok b hb) (by omega) (by omega) (Or.inl (by omega))) (fun b hb => ?_) (h3.tr hF) ?_ (hF.box h5)
    · by_cases e : b = n
      · subst e; exact ChD_new rfl rfl
      · exact ChD_old (h2 b (by omega)) (by omega) (by omega) (Or.inr e)
    · simpa [up2] using h4
theorem l_Wk_chart (hd : 4 ≤ d) (hw : WFB B) {I0 : I2} (h : ∀ I', ChR B I' → FrW I0 I' → BoxI 1 B I' → I' 1 17 = 0 → G I' J) : ∀ k n I, n + k = 4 ^ B.pn → (∀ a, a < n → okS B a → ∀ b, b < 2 * B.pn → ChD B I a b) → FrW I0 I → I 33 8 = nI (2 * B.pn) → BoxI 1 B I → Wp d Wk_chart (QV G) 15 [some (.ref 33), some (.int (nI n)), none] [] I J := by
  have hp5 := hw.1
  have hb : 4 ^ B.pn ≤ 4 ^ 5 := Nat.pow_le_pow_right (by decide) hp5
  have hb2 : 2 ^ (2 * B.pn) = 4 ^ B.pn := two4 _
  have e1 : slI 1 (nI (2 * B.pn)) = nI (4 ^ B.pn) := by
    have := n_sl (a := 1) (k := 2 * B.pn) (by omega) (by omega)
    rw [Nat.one_mul, two4] at this
    exact this
  intro k
  induction k with
  | zero =>
    intro n I hn h1 h3 h4 h5
    have hn : n = 4 ^ B.pn := by omega
    refine v_Wk_chart_33_15 ⟨fun q => ?_, fun _ => QV_i.mpr ?_⟩
    · rw [h4, e1, n_lt (by omega) (by omega)] at q; omega
    · refine h _ ⟨by simpa [up2] using h4, fun s hs m hm => ?_⟩ ⟨fun a ha hb => ?_, fun k hk => ?_⟩ ?_ (by simp [up2, upd])
      · have := h1 s (by rw [hn]; exact hs.1) hs m hm
        simpa [up2, ChD] using this
      · have := h3.1 a ha hb
        simpa [up2, hb] using this
      · have := h3.2 k hk
        simpa [up2, upd, hk] using this
      · obtain ⟨b1, b2, b3, b4⟩ := h5
        refine ⟨by simpa [up2, upd] using b1, by simpa [up2, upd] using b2, fun p hp => ?_, fun l hl => ?_⟩
        · simpa [up2, upd] using b3 p hp
        · simpa [up2, upd] using b4 l hl
  | succ k ih =>
    intro n I hn h1 h3 h4 h5
    have hlt : n < 4 ^ B.pn := by omega
    refine v_Wk_chart_33_15 ⟨fun _ => ⟨fun _ => c_Bx_isState (by omega) hw h5 (by omega) (fun e => ⟨fun z => absurd z (by decide), fun _ => ?_⟩) (fun e => ⟨fun _ => ?_, fun z => absurd rfl z⟩), fun q => absurd ((n_lt (b := 1024) (by omega) (by decide)).mpr (by omega)) q⟩, fun q => absurd ((n_lt (by omega) (by omega)).mpr hlt) (by rw [h4, e1] at q; exact q)⟩
    · refine l_Wk_chartS hd hw (s := n) ⟨hlt, e⟩ (I0 := I0) (fun I' q1 q2 q3 q4 q5 => ?_) _ 0 I (Nat.zero_add _) h1 (fun b hb => absurd hb (Nat.not_lt_zero b)) h3 h4 h5
      rw [n_inc]
      refine ih (n + 1) I' (by omega) (fun a ha hok b hb => ?_) q3 q4 q5
      by_cases e2 : a = n
      · subst e2; exact q2 b hb
      · exact q1 a (by omega) hok b hb
    · rw [n_inc]
      refine ih (n + 1) I (by omega) (fun a ha hok b hb => ?_) h3 h4 h5
      by_cases e2 : a = n
      · subst e2; exact absurd hok.2 e
      · exact h1 a (by omega) hok b hb
theorem c_Wk_chart (hd : 5 ≤ d) (hw : WFB B) (hB : BoxI 1 B I) (h : ∀ I', ChR B I' → FrW I I' → BoxI 1 B I' → I' 1 17 = 0 → G I' J) : CV d Wk_chart [.ref 33] I J G := by
  have hF : FrW I (up2 I 33 8 (nI (2 * B.pn))) := FrW_up (by decide) (by decide)
  have e2 : (2 : Int32) * nI B.pn = nI (2 * B.pn) := pk_mul 2 _
  refine CV.of (by omega) rfl (v_Wk_chart_33_0 ?_)
  rw [hB.1, e2]
  exact l_Wk_chart (d := d - 1) (by omega) hw (I0 := I) h (4 ^ B.pn) 0 _ (Nat.zero_add _) (fun a ha => absurd ha (Nat.not_lt_zero a)) hF (by simp [up2, upd]) (hF.box hB)
end WALK2
end
section
/-! the class: from -/
def m1L (n : Nat) (u : Nat → Int32) : Nat → Int32 := fun j => if j < n then -1 else u j
theorem m1L_0 {u : Nat → Int32} : m1L 0 u = u := by
  funext j
  simp only [m1L]
  rw [if_neg (Nat.not_lt_zero j)]
theorem m1L_up {u : Nat → Int32} {n : Nat} : upd (m1L n u) n (-1) = m1L (n + 1) u := by
  funext j
  simp only [upd, m1L]
  by_cases e : j = n
  · rw [if_pos e, if_pos (by omega)]
  · rw [if_neg e]
    by_cases e2 : j < n
    · rw [if_pos e2, if_pos (by omega)]
    · rw [if_neg e2, if_neg (by omega)]
section WALK3
variable {d : Nat} {B : Bx} {I : I2} {J : J2} {G : I2 → J2 → Prop} {F : Int32 → I2 → J2 → Prop} {s f m : Nat}
theorem l_Wk_head (hd : 2 ≤ d) (hw : WFB B) (hf : f < 64) (hs : okS B s) {I0 : I2} {x3 : Int32} (h : ∀ I', WkR (bfs B f s) I' → FrV I0 I' → G I' J) (hC0 : ChR B I0) (hF0 : I0 33 11 = nI f) : ∀ k n I, n + k = 1024 → WkR (bfsN B f s n) I → FrV I0 I → Wp d Wk_from (QV G) 127 [some (.ref 33), some (.int (nI s)), some (.int (nI f)), some (.int x3), some (.int (nI n))] [] I J := by
  intro k
  induction k with
  | zero =>
    intro n I hn hI hFr
    have hn : n = 1024 := by omega
    subst hn
    have hlen := (TI_bfsN (f := f) hw hs 1024).len hw
    have fin := QV_i.mpr (h I (by rw [bfs_eq]; exact hI) hFr)
    refine v_Wk_from_33_127 ⟨fun _ => ⟨fun q => absurd ((n_lt (b := 1024) (by decide) (by decide)).mp q) (Nat.lt_irrefl _), fun _ => fin⟩, fun _ => fin⟩
  | succ k ih =>
    intro n I hn hI hFr
    have hT := TI_bfsN (f := f) hw hs n
    have hlen := hT.len hw
    refine v_Wk_from_33_127 ⟨fun q => ⟨fun _ => ⟨n_vp (by omega) (by decide), ?_⟩, fun q2 => absurd ((n_lt (b := 1024) (by omega) (by decide)).mpr (by omega)) q2⟩, fun q => QV_i.mpr ?_⟩
    · rw [hI.1, n_lt (by omega) (by omega)] at q
      have e1 : (bfsN B f s n).ord[n]? = some ((bfsN B f s n).ord[n]) := List.getElem?_eq_getElem q
      rw [n_tN (by omega), hI.2.1 n _ e1]
      refine c_Wk_visit hd hw hf hT (List.mem_of_getElem? e1) (hFr.ch hC0) (by rw [hFr.2.2.2.2 11 (by decide)]; exact hF0) hI (fun I' q1 q2 => ?_)
      rw [n_inc]
      refine ih (n + 1) I' (by omega) ?_ (hFr.tr q2)
      have e2 : bfsN B f s (n + 1) = vis B f ((bfsN B f s n).ord[n]) (2 * B.pn) (bfsN B f s n) := by
        show (match (bfsN B f s n).ord[n]? with
          | none => bfsN B f s n
          | some s1 => vis B f s1 (2 * B.pn) (bfsN B f s n)) = _
        rw [e1]
      rw [e2]; exact q1
    · rw [hI.1, n_lt (by omega) (by omega)] at q
      have e2 := bfs_at (B := B) (f := f) (s0 := s) (n := n) (by omega) (by omega)
      exact h I (by rw [e2]; exact hI) hFr
theorem WkR_0 (hw : WFB B) (hs : okS B s) (hI : ∀ t, t < 1024 → I 37 t = -1) : WkR (bfs0 s) (up2 (up2 (up2 (up2 I 37 s 0) 40 s 1) 36 0 (nI s)) 33 9 1) := by
  refine ⟨?_, fun k x hx => ?_, fun t ht => ?_, fun t ht => ?_, fun t ht => ?_⟩
  · show _ = nI [s].length
    simp [up2, upd]; rfl
  · have hx : [s][k]? = some x := hx
    match k, hx with
    | 0, hx => simp at hx; subst hx; simp [up2, upd]
    | k + 1, hx => simp at hx
  · show _ = nI (updN (fun _ => 0) s 1 t) - 1
    by_cases e : t = s
    · subst e; simp [up2, upd, updN]; rfl
    · simp [up2, upd, updN, e]; rw [hI t ht]; rfl
  · have ht : updN (fun _ => 0) s 1 t ≠ 0 := ht
    show _ = nI (updN (fun _ => 0) s 1 t)
    by_cases e : t = s
    · subst e; simp [up2, upd, updN]; rfl
    · simp [updN, e] at ht
  · have ht : 1 < updN (fun _ => 0) s 1 t := ht
    unfold updN at ht
    split at ht
    · omega
    · exact absurd ht (show ¬ 1 < 0 from by decide)
theorem l_Wk_fill (hd : 2 ≤ d) (hw : WFB B) (hf : f < 64) (hs : okS B s) {x3 : Int32} (hC : ChR B I) (hF : I 33 11 = nI f) (h : ∀ I', WkR (bfs B f s) I' → FrV I I' → G I' J) : ∀ k n, n + k = 1024 → Wp d Wk_from (QV G) 76 [some (.ref 33), some (.int (nI s)), some (.int (nI f)), some (.int x3), some (.int (nI n))] [] (setR I 37 (m1L n (I 37))) J := by
  have hs2 := s31 hw hs.1
  intro k
  induction k with
  | zero =>
    intro n hn
    have hn : n = 1024 := by omega
    subst hn
    have hv := n_vp (a := s) (n := 1024) hs2 (by decide)
    refine v_Wk_from_33_76 ⟨fun q => absurd ((n_lt (b := 1024) (by decide) (by decide)).mp q) (Nat.lt_irrefl _), fun _ => ⟨hv, hv, ?_⟩⟩
    rw [n_tN (by omega)]
    have hF1 : FrV I (setR I 37 (m1L 1024 (I 37))) := ⟨⟨fun a ha hb => by simp [setR]; omega, fun k _ => by simp [setR]⟩, by simp [setR], by simp [setR], by simp [setR], fun k _ => by simp [setR]⟩
    have hF2 := ((((hF1.tr (FrV_up (a := 37) (k := s) (x := 0) (by decide) (by decide))).tr (FrV_up (a := 40) (k := s) (x := 1) (by decide) (by decide))).tr (FrV_up (a := 36) (k := 0) (x := nI s) (by decide) (by decide)))).tr (FrV_up9 (x := 1))
    refine l_Wk_head hd hw hf hs (I0 := I) h hC hF 1024 0 _ (by omega) ?_ hF2
    refine WkR_0 hw hs (fun t ht => ?_)
    simp [setR, m1L, ht]
  | succ k ih =>
    intro n hn
    have go := ih (n + 1) (by omega)
    refine v_Wk_from_33_76 ⟨fun _ => ⟨n_vp (by omega) (by decide), ?_⟩, fun q => absurd ((n_lt (b := 1024) (by omega) (by decide)).mpr (by omega)) q⟩
    rw [n_tN (by omega), setR_up, m1L_up, n_inc]
    exact go
theorem c_Wk_from (hd : 6 ≤ d) (hw : WFB B) (hB : BoxI 1 B I) (hC : CaR B I) (hs : okS B s) (hf : f < 64) (h : ∀ I', FrW I I' → I' 1 17 = 0 → ChR B I' → I' 33 10 = nI s → I' 33 11 = nI f → WkR (bfs B f s) I' → G I' J) : CV d Wk_from [.ref 33, .int (nI s), .int (nI f)] I J G := by
  have hs2 := s31 hw hs.1
  have walk : ∀ I1, ChR B I1 → FrW I I1 → I1 1 17 = 0 → Wp (d - 1) Wk_from (QV G) 76 [some (.ref 33), some (.int (nI s)), some (.int (nI f)), some (.int 0), some (.int 0)] [] (up2 (up2 I1 33 10 (nI s)) 33 11 (nI f)) J := by
    intro I1 q1 q2 q3
    have hF : FrW I1 (up2 (up2 I1 33 10 (nI s)) 33 11 (nI f)) := (FrW_up (by decide) (by decide)).tr (FrW_up (by decide) (by decide))
    have hC1 : ChR B (up2 (up2 I1 33 10 (nI s)) 33 11 (nI f)) := by
      refine ⟨by simpa [up2, upd] using q1.1, fun s hs m hm => ?_⟩
      have := q1.2 s hs m hm
      simpa [up2] using this
    have L := l_Wk_fill (d := d - 1) (B := B) (G := G) (J := J) (x3 := 0) (by omega) hw hf hs hC1 (by simp [up2, upd]) (fun I' z1 z2 => h I' (q2.tr (hF.tr z2.1)) ?_ (z2.ch hC1) ?_ ?_ z1) 1024 0 (by omega)
    · rw [m1L_0, setR_self] at L
      exact L
    · rw [z2.2.1]; simpa [up2] using q3
    · rw [z2.2.2.2.2 10 (by decide)]; simp [up2, upd]
    · rw [z2.2.2.2.2 11 (by decide)]; simp [up2, upd]
  refine CV.of (by omega) rfl (v_Wk_from_33_0 ⟨fun q => absurd q (nI_pos (by omega)), fun _ => ⟨fun _ => ⟨fun e => ?_, fun e => ?_⟩, fun q => absurd ((n_lt (b := 1024) (by omega) (by decide)).mpr (by omega)) q⟩⟩)
  · rcases hC with z | ⟨z1, z2, s0, f0, z3, z4, z5, z6, z7⟩
    · rw [z] at e; exact absurd e (by decide)
    · refine ⟨fun e2 => ⟨fun e3 => QV_i.mpr ?_, fun e3 => walk I z2 FrW.rf z1⟩, fun e2 => walk I z2 FrW.rf z1⟩
      have h0 := s31 hw z3.1
      rw [z5] at e2
      rw [z6] at e3
      have y1 : s0 = s := (n_eq (by omega) (by omega)).mp e2
      have y2 : f0 = f := (n_eq (by omega) (by omega)).mp e3
      subst y1; subst y2
      exact h I FrW.rf z1 z2 z5 z6 z7
  · exact c_Wk_chart (by omega) hw hB (fun I1 q1 q2 q3 q4 => walk I1 q1 q2 q4)
end WALK3
end
section
/-! the model: it goes through the states the same way -/
def TZ (T : Tw) : Prop := ∀ t, T.fa t = 0 → T.wy t = 0
theorem TZ_meet {B : Bx} {T : Tw} {s m t : Nat} (h : TZ T) (hT : TI B T) (hs : s ∈ T.ord) : TZ (meet T s m t) := by
  have mo : ∀ T1 : Tw, TZ T1 → TZ (T1.more s t) := by
    intro T1 h1 x hx
    unfold Tw.more at hx ⊢
    split
    · next e =>
      rw [if_pos e] at hx
      have hx : T1.fa x = 0 := hx
      show updN T1.wy t _ x = 0
      unfold updN
      split
      · next e2 => subst e2; omega
      · exact h1 x hx
    · next e => rw [if_neg e] at hx; exact h1 x hx
  unfold meet
  split
  · refine mo _ (fun x hx => ?_)
    have hx : updN T.fa t (T.fa s + 1) x = 0 := hx
    show updN T.wy t 0 x = 0
    unfold updN at hx ⊢
    split
    · rfl
    · next e => rw [if_neg e] at hx; exact h x hx
  · exact mo T h
theorem TZ_vis {B : Bx} {f s m : Nat} {T : Tw} (hw : WFB B) (h : TI B T) (hz : TZ T) (hs : s ∈ T.ord) (hm : m ≤ 2 * B.pn) : TZ (vis B f s m T) := by
  induction m with
  | zero => exact hz
  | succ m ih =>
    simp only [vis]
    split
    · exact ih (by omega)
    · exact TZ_meet (ih (by omega)) (TI_vis hw h hs (by omega)) (vis_mem hs)
theorem TZ_0 {s0 : Nat} : TZ (bfs0 s0) := by
  intro t ht
  have ht : updN (fun _ => 0) s0 1 t = 0 := ht
  exact ht
theorem TZ_bfsN {B : Bx} {f s0 : Nat} (hw : WFB B) (h : okS B s0) (n : Nat) : TZ (bfsN B f s0 n) := by
  induction n with
  | zero => exact TZ_0
  | succ n ih =>
    simp only [bfsN]
    split
    · exact ih
    · next s hs => exact TZ_vis hw (TI_bfsN hw h n) ih (List.mem_of_getElem? hs) (Nat.le_refl _)
theorem meet_pre {T : Tw} {s m t j x : Nat} (h : T.ord[j]? = some x) : (meet T s m t).ord[j]? = some x := by
  unfold meet
  split
  · rw [more_ord.1]
    show (T.ord ++ [t])[j]? = some x
    rw [List.getElem?_append_left (List.getElem?_eq_some_iff.mp h).1]; exact h
  · rw [more_ord.1]; exact h
theorem vis_pre {B : Bx} {f s m j x : Nat} {T : Tw} (h : T.ord[j]? = some x) : (vis B f s m T).ord[j]? = some x := by
  induction m with
  | zero => exact h
  | succ m ih =>
    simp only [vis]
    split
    · exact ih
    · exact meet_pre ih
theorem bfsN_pre {B : Bx} {f s0 n j x : Nat} (h : (bfsN B f s0 n).ord[j]? = some x) (k : Nat) : (bfsN B f s0 (n + k)).ord[j]? = some x := by
  induction k with
  | zero => exact h
  | succ k ih =>
    show (bfsN B f s0 (n + k + 1)).ord[j]? = some x
    simp only [bfsN]
    split
    · exact ih
    · exact vis_pre ih
theorem bfs_pre {B : Bx} {f s0 n j x : Nat} (hn : n ≤ 1024) (h : (bfsN B f s0 n).ord[j]? = some x) : (bfs B f s0).ord[j]? = some x := by
  have := bfsN_pre h (1024 - n)
  rw [show n + (1024 - n) = 1024 by omega] at this
  rw [bfs_eq]; exact this
def WmR (T : Tw) (I : I2) : Prop := I 57 11 = nI T.ord.length ∧ (∀ k s, T.ord[k]? = some s → I 63 k = nI s) ∧ (∀ t, t < 1024 → I 64 t = nI (T.fa t) - 1) ∧ (∀ t, t < 1024 → I 67 t = nI (T.wy t)) ∧ ∀ t, 1 < T.fa t → I 65 t = nI (T.fr t) ∧ I 66 t = nI (T.by' t)
def nxI (B : Bx) (f s m : Nat) : Int32 := match nx B f s m with
  | some t => nI t
  | none => -1
/-- what known may hold -/
def KnV (v : Int32) : Prop := v = 0 ∨ v = 1 ∨ v = 2
/-- what a question leaves alone: the model -/
def FrQ (I I' : I2) : Prop := (∀ a, (a < 63 ∨ 70 < a) → a ≠ 57 → I' a = I a) ∧ (∀ k, k ≠ 11 → I' 57 k = I 57 k) ∧ ∀ t, KnV (I 69 t) → KnV (I' 69 t)
theorem FrQ.rf {I : I2} : FrQ I I := ⟨fun _ _ _ => rfl, fun _ _ => rfl, fun _ h => h⟩
theorem FrQ.tr {I0 I1 I2 : I2} (h1 : FrQ I0 I1) (h2 : FrQ I1 I2) : FrQ I0 I2 := ⟨fun a x y => (h2.1 a x y).trans (h1.1 a x y), fun k h => (h2.2.1 k h).trans (h1.2.1 k h), fun t h => h2.2.2 t (h1.2.2 t h)⟩
theorem FrQ_up {I : I2} {a k : Nat} {x : Int32} (ha : 63 ≤ a) (h2 : a ≤ 70) (h9 : a ≠ 69 := by decide) : FrQ I (up2 I a k x) := by
  refine ⟨fun b hb _ => ?_, fun j _ => ?_, fun t h => ?_⟩
  · have : b ≠ a := by omega
    simp [up2, this]
  · have : (57 : Nat) ≠ a := by omega
    simp [up2, this]
  · have : (69 : Nat) ≠ a := fun q => h9 q.symm
    simp [up2, this]; exact h
theorem FrQ_up11 {I : I2} {x : Int32} : FrQ I (up2 I 57 11 x) := ⟨fun b _ hb => by simp [up2, hb], fun k hk => by simp [up2, upd, hk], fun t h => by simp [up2]; exact h⟩
theorem FrQ.box {B : Bx} {I I' : I2} (h : FrQ I I') (hB : BoxM B I) : BoxM B I' := by
  have e : I' 58 = I 58 := h.1 58 (by decide) (by decide)
  unfold BoxM
  rw [e]; exact hB
section THR
variable {d : Nat} {B : Bx} {I : I2} {J : J2} {G : I2 → J2 → Prop} {F : Int32 → I2 → J2 → Prop} {s f m : Nat}
theorem WmR_more {T : Tw} {t : Nat} (hI : WmR T I) (e : T.fa t = T.fa s + 1) : WmR (T.more s t) (up2 I 67 t (nI ((T.wy t + T.wy s) % 1000003))) := by
  unfold Tw.more
  rw [if_pos e]
  obtain ⟨w1, w2, w3, w4, w5⟩ := hI
  refine ⟨by simpa [up2] using w1, fun k x hx => by simpa [up2] using w2 k x hx, fun x hx => by simpa [up2] using w3 x hx, fun x hx => ?_, fun x hx => by simpa [up2] using w5 x hx⟩
  show up2 I 67 t _ 67 x = nI (updN T.wy t _ x)
  simp only [up2, upd, updN, if_pos]
  split
  · rfl
  · exact w4 x hx
theorem WmR_add {T : Tw} {t : Nat} (hI : WmR T I) (hz : T.wy t = 0) : WmR (T.add s m t) (up2 (up2 (up2 (up2 (up2 I 64 t (nI (T.fa s + 1) - 1)) 65 t (nI s)) 66 t (nI m)) 63 T.ord.length (nI t)) 57 11 (nI (T.ord.length + 1))) := by
  obtain ⟨w1, w2, w3, w4, w5⟩ := hI
  refine ⟨?_, fun k x hx => ?_, fun x hx => ?_, fun x hx => ?_, fun x hx => ?_⟩
  · show _ = nI (T.ord ++ [t]).length
    simp [up2, upd]
  · have hx : (T.ord ++ [t])[k]? = some x := hx
    by_cases e : k = T.ord.length
    · subst e
      simp at hx
      simp [up2, upd, hx]
    · have hk : k < T.ord.length := by
        have := (List.getElem?_eq_some_iff.mp hx).1
        simp at this; omega
      rw [List.getElem?_append_left hk] at hx
      simp [up2, upd, e]
      exact w2 k x hx
  · show _ = nI (updN T.fa t (T.fa s + 1) x) - 1
    by_cases e : x = t
    · subst e; simp [up2, upd, updN]
    · simp [up2, upd, updN, e]; exact w3 x hx
  · show _ = nI (updN T.wy t 0 x)
    by_cases e : x = t
    · subst e; simp [up2, updN]; rw [w4 x hx, hz]
    · simp [up2, updN, e]; exact w4 x hx
  · have hx : 1 < updN T.fa t (T.fa s + 1) x := hx
    show _ = nI (updN T.fr t s x) ∧ _ = nI (updN T.by' t m x)
    by_cases e : x = t
    · subst e; simp [up2, upd, updN]
    · simp only [updN, if_neg e] at hx
      simp [up2, upd, updN, e]; exact w5 x hx
/-- what meets leaves alone, too -/
def FrE (I I' : I2) : Prop := FrQ I I' ∧ I' 68 = I 68
end THR
end
section
section THR2
variable {d : Nat} {B : Bx} {J : J2} {G : I2 → J2 → Prop} {F : Int32 → I2 → J2 → Prop} {s f m s0 : Nat}
def thD (B : Bx) (f s0 n : Nat) (I : I2) : Prop := ∀ j, j < n → ∀ a, (bfs B f s0).ord[j]? = some a → ∀ b, b < 2 * B.pn → I 68 (10 * a + b) = nxI B f a b
theorem WmR_0 {I : I2} (hI : ∀ t, t < 1024 → I 64 t = -1) (hI2 : ∀ t, t < 1024 → I 67 t = 0) : WmR (bfs0 s) (up2 (up2 (up2 (up2 I 64 s 0) 67 s 1) 63 0 (nI s)) 57 11 1) := by
  refine ⟨?_, fun k x hx => ?_, fun t ht => ?_, fun t ht => ?_, fun t ht => ?_⟩
  · show _ = nI [s].length
    simp [up2, upd]; rfl
  · have hx : [s][k]? = some x := hx
    match k, hx with
    | 0, hx => simp at hx; subst hx; simp [up2, upd]
    | k + 1, hx => simp at hx
  · show _ = nI (updN (fun _ => 0) s 1 t) - 1
    by_cases e : t = s
    · subst e; simp [up2, upd, updN]; rfl
    · simp [up2, upd, updN, e]; rw [hI t ht]; rfl
  · show _ = nI (updN (fun _ => 0) s 1 t)
    by_cases e : t = s
    · subst e; simp [up2, upd, updN]; rfl
    · simp [up2, upd, updN, e]; rw [hI2 t ht]; rfl
  · have ht : 1 < updN (fun _ => 0) s 1 t := ht
    unfold updN at ht
    split at ht
    · omega
    · exact absurd ht (show ¬ 1 < 0 from by decide)
def zrL (n : Nat) (u : Nat → Int32) : Nat → Int32 := fun j => if j < n then 0 else u j
theorem zrL_0 {u : Nat → Int32} : zrL 0 u = u := by
  funext j
  simp only [zrL]
  rw [if_neg (Nat.not_lt_zero j)]
theorem zrL_up {u : Nat → Int32} {n : Nat} : upd (zrL n u) n 0 = zrL (n + 1) u := by
  funext j
  simp only [upd, zrL]
  by_cases e : j = n
  · rw [if_pos e, if_pos (by omega)]
  · rw [if_neg e]
    by_cases e2 : j < n
    · rw [if_pos e2, if_pos (by omega)]
    · rw [if_neg e2, if_neg (by omega)]
end THR2
end
section
/-! questions: what they answer, of the walk -/
def fop (B : Bx) (o : Nat) (T : Tw) : Option Nat := T.ord.find? (fun t => openB B o t)
def optI (g : Option Nat) (z : Int32) : Int32 := match g with
  | some t => nI t
  | none => z
def back (T : Tw) (t : Nat) : Nat → Nat
  | 0 => t
  | n + 1 => T.fr (back T t n)
def slN (m : Nat) : Nat := 10 * (m / 2) + m % 2
def tldS (T : Tw) (g : Option Nat) (k : Int32) : Int32 := match g with
  | none => -4
  | some t => if k < 0 then nI (T.fa t - 1) else if k < nI (T.fa t - 1) then nI (slN (T.by' (back T t (T.fa t - 1 - (tN k + 1))))) else -4
def rowF (B : Bx) (o c : Nat) (T : Tw) (acc x : Nat) : Nat := if openB B o x = true ∧ T.fa x = c then (acc + T.wy x) % 1000003 else acc
def rowsS (B : Bx) (o : Nat) (T : Tw) : Nat := match fop B o T with
  | none => 0
  | some t => T.ord.foldl (rowF B o (T.fa t) T) 0
def farS (T : Tw) : Nat := match T.ord[T.ord.length - 1]? with
  | some t => T.fa t - 1
  | none => 0
/-- what a question leaves alone: the class -/
def FrG (I I' : I2) : Prop := (∀ a, (a < 33 ∨ 47 < a) → a ≠ 1 → I' a = I a) ∧ ∀ k, k ≠ 17 → I' 1 k = I 1 k
theorem FrG.rf {I : I2} : FrG I I := ⟨fun _ _ _ => rfl, fun _ _ => rfl⟩
theorem FrG.tr {I0 I1 I2 : I2} (h1 : FrG I0 I1) (h2 : FrG I1 I2) : FrG I0 I2 := ⟨fun a x y => (h2.1 a x y).trans (h1.1 a x y), fun k h => (h2.2 k h).trans (h1.2 k h)⟩
theorem FrW.g {I I' : I2} (h : FrW I I') : FrG I I' := ⟨fun a x y => h.1 a (by omega) y, h.2⟩
theorem FrG.cbx {V : Bv} {I I' : I2} (h : FrG I I') (hV : CBx 1 V I) : CBx 1 V I' := by
  obtain ⟨⟨b1, b2, b3, b4⟩, h8, h9, h10, h11, h15, np, hnp, h16, hp⟩ := hV
  have e : ∀ a, a < 33 → a ≠ 1 → I' a = I a := fun a x y => h.1 a (Or.inl x) y
  refine ⟨⟨by rw [h.2 2 (by decide)]; exact b1, by rw [h.2 7 (by decide)]; exact b2, fun p hp => ?_, fun l hl => ?_⟩, by rw [h.2 8 (by decide)]; exact h8, by rw [h.2 9 (by decide)]; exact h9, by rw [h.2 10 (by decide)]; exact h10, by rw [h.2 11 (by decide)]; exact h11, by rw [h.2 15 (by decide)]; exact h15, np, hnp, by rw [h.2 16 (by decide)]; exact h16, fun k x hx => ?_⟩
  · rw [e (1 + 1) (by decide) (by decide), e (1 + 2) (by decide) (by decide)]; exact b3 p hp
  · rw [e (1 + 3) (by decide) (by decide), e (1 + 4) (by decide) (by decide), e (1 + 5) (by decide) (by decide), e (1 + 6) (by decide) (by decide)]; exact b4 l hl
  · rw [e (1 + 7) (by decide) (by decide), e (1 + 8) (by decide) (by decide), e (1 + 9) (by decide) (by decide)]; exact hp k x hx
theorem FrQ.mbx {V : Bv} {I I' : I2} (h : FrQ I I') (hV : MBx V I) : MBx V I' := by
  have e1 : I' 58 = I 58 := h.1 58 (by decide) (by decide)
  have e2 : I' 62 = I 62 := h.1 62 (by decide) (by decide)
  have e3 : I' 57 9 = I 57 9 := h.2.1 9 (by decide)
  show MRw V (I' 58) (I' 62) (I' 57 9)
  rw [e1, e2, e3]; exact hV
theorem findN {p : Nat → Bool} {l : List Nat} {n : Nat} (h : n < l.length) : (l.drop n).find? p = if p (l[n]) then some (l[n]) else (l.drop (n + 1)).find? p := by
  rw [List.drop_eq_getElem_cons h, List.find?_cons]
  cases p l[n] <;> rfl
theorem back_ok {B : Bx} {T : Tw} {t : Nat} (hT : TI B T) (ht : t ∈ T.ord) : ∀ n, n < T.fa t → back T t n ∈ T.ord ∧ T.fa (back T t n) + n = T.fa t := by
  intro n
  induction n with
  | zero => intro _; exact ⟨ht, rfl⟩
  | succ n ih =>
    intro hn
    obtain ⟨h1, h2⟩ := ih (by omega)
    obtain ⟨g1, g2, g3⟩ := hT.2.2.2 (back T t n) (by omega)
    exact ⟨g1, by show T.fa (T.fr (back T t n)) + (n + 1) = T.fa t; omega⟩
theorem fop_mem {B : Bx} {o t : Nat} {T : Tw} (h : fop B o T = some t) : t ∈ T.ord := List.mem_of_find?_eq_some h
theorem TI.pos {B : Bx} {T : Tw} {t : Nat} (h : TI B T) (ht : t ∈ T.ord) : 0 < T.fa t := Nat.pos_of_ne_zero ((h.2.1 t).mp ht)
theorem TI.fl {B : Bx} {T : Tw} {t : Nat} (hw : WFB B) (h : TI B T) (ht : t ∈ T.ord) : T.fa t ≤ 1024 := Nat.le_trans (h.2.2.1 t ht).2.1 (h.len hw)
section ASK
variable {d : Nat} {B : Bx} {I : I2} {J : J2} {G : I2 → J2 → Prop} {F : Int32 → I2 → J2 → Prop} {s f m o : Nat} {T : Tw}
theorem WkR.ord' (hI : WkR T I) {n : Nat} (h : n < T.ord.length) : I 36 n = nI T.ord[n] := hI.2.1 n _ (List.getElem?_eq_getElem h)
theorem WmR.ord' (hI : WmR T I) {n : Nat} (h : n < T.ord.length) : I 63 n = nI T.ord[n] := hI.2.1 n _ (List.getElem?_eq_getElem h)
theorem WkR.far' (hI : WkR T I) (hw : WFB B) (hT : TI B T) {t : Nat} (h : t ∈ T.ord) : I 37 t = nI (T.fa t - 1) := by
  rw [hI.2.2.1 t (s31 hw (hT.2.2.1 t h).1.1), n_dec (hT.pos h)]
theorem WmR.far' (hI : WmR T I) (hw : WFB B) (hT : TI B T) {t : Nat} (h : t ∈ T.ord) : I 64 t = nI (T.fa t - 1) := by
  rw [hI.2.2.1 t (s31 hw (hT.2.2.1 t h).1.1), n_dec (hT.pos h)]
theorem l_Wk_firstOpen (hd : 2 ≤ d) (hw : WFB B) (hB : BoxI 1 B I) (ho : I 1 8 = nI o) (hop : B.pn = 0 ∧ o = 0 ∨ o < B.pn) (hT : TI B T) (hI : WkR T I) (h : F (optI (fop B o T) (-4)) I J) : ∀ k n, n + k = T.ord.length → (T.ord.drop n).find? (fun t => openB B o t) = fop B o T → Wp d Wk_firstOpen (QI F) 2 [some (.ref 33), some (.int (nI n))] [] I J := by
  have hlen := hT.len hw
  intro k
  induction k with
  | zero =>
    intro n hn he
    have hn : n = T.ord.length := by omega
    subst hn
    refine v_Wk_firstOpen_33_2 ⟨fun q => ?_, fun _ => QI_i.mpr ?_⟩
    · rw [hI.1] at q; exact absurd ((n_lt (by omega) (by omega)).mp q) (Nat.lt_irrefl _)
    · rw [← he, List.drop_length] at h; exact h
  | succ k ih =>
    intro n hn he
    have hlt : n < T.ord.length := by omega
    have hs := (hT.2.2.1 _ (List.getElem_mem hlt)).1
    have hs2 := s31 hw hs.1
    have hv := n_vp (a := n) (n := 1024) (by omega) (by decide)
    refine v_Wk_firstOpen_33_2 ⟨fun _ => ⟨hv, ?_⟩, fun q => absurd ((n_lt (by omega) (by omega)).mpr hlt) (by rw [hI.1] at q; exact q)⟩
    rw [n_tN (by omega), hI.ord' hlt]
    rw [findN hlt] at he
    refine c_Bx_isOpen_1 (by omega) hw hB ho hop (by omega) ?_
    rw [show (decide (0 < B.pn) && decide (pl T.ord[n] o = B.dp o)) = openB B o T.ord[n] from rfl, bI_0]
    refine ⟨fun e => ?_, fun e => ⟨hv, QI_i.mpr ?_⟩⟩
    · rw [e] at he
      rw [n_inc]
      exact ih (n + 1) (by omega) he
    · have e : openB B o T.ord[n] = true := by simpa using e
      rw [e] at he
      rw [← he, if_pos rfl] at h
      rw [hI.ord' hlt]
      exact h
theorem c_Wk_firstOpen (hd : 3 ≤ d) (hw : WFB B) (hB : BoxI 1 B I) (ho : I 1 8 = nI o) (hop : B.pn = 0 ∧ o = 0 ∨ o < B.pn) (hT : TI B T) (hI : WkR T I) (h : F (optI (fop B o T) (-4)) I J) : CI d Wk_firstOpen [.ref 33] I J F :=
  CI.of (by omega) rfl (v_Wk_firstOpen_33_0 (l_Wk_firstOpen (by omega) hw hB ho hop hT hI h _ 0 (Nat.zero_add _) (by rw [List.drop_zero]; rfl)))
theorem n_slW {a : Nat} (h : a < 2 ^ 20) : 10 * srI (nI a) 1 + (nI a &&& 1) = nI (slN a) := by
  rw [show srI (nI a) 1 = nI (a / 2) from n_sr (k := 1) (by omega) (by decide), n_and1 (by omega), show (10 : Int32) * nI (a / 2) = nI (10 * (a / 2)) from pk_mul 10 _, nI_add]; rfl
theorem n_slM {a : Nat} (h : a < 2 ^ 20) : 10 * (nI a / 2) + rmI (nI a) 2 = nI (slN a) := by
  rw [show nI a / 2 = nI (a / 2) from n_div (k := 2) (by omega) (by decide) (by decide), show rmI (nI a) 2 = nI (a % 2) from n_rm (k := 2) (by omega) (by decide) (by decide), show (10 : Int32) * nI (a / 2) = nI (10 * (a / 2)) from pk_mul 10 _, nI_add]; rfl
theorem c_Wk_told (hd : 2 ≤ d) (hw : WFB B) (hT : TI B T) (hI : WkR T I) (g : Option Nat) (hg : ∀ t, g = some t → t ∈ T.ord) (k : Int32) (h : F (tldS T g k) I J) : CI d Wk_told [.ref 33, .int (optI g (-4)), .int k] I J F := by
  refine CI.of (by omega) rfl (v_Wk_told_33_0 ?_)
  cases g with
  | none => exact ⟨fun _ => QI_i.mpr h, fun q => absurd (by decide) q⟩
  | some t =>
    have ht := hg t rfl
    have hs2 := s31 hw (hT.2.2.1 t ht).1.1
    have hpos := hT.pos ht
    have hfl := hT.fl hw ht
    have hv := n_vp (a := t) (n := 1024) hs2 (by decide)
    have hf := hI.far' hw hT ht
    simp only [optI, tldS] at h ⊢
    refine ⟨fun q => absurd q (nI_pos (by omega)), fun _ => ⟨fun _ => ⟨hv, ?_⟩, fun q => absurd ((n_lt (b := 1024) (by omega) (by decide)).mpr hs2) q⟩⟩
    rw [n_tN (by omega), hf]
    refine ⟨fun q => absurd q (nI_pos (by omega)), fun _ => ⟨fun e => ⟨hv, QI_i.mpr ?_⟩, fun e => ⟨hv, fun e2 => ⟨hv, ?_⟩, fun e2 => QI_i.mpr ?_⟩⟩⟩
    · rw [if_pos e] at h; exact h
    · rw [if_neg e, if_pos e2] at h
      obtain ⟨j, hj, rfl⟩ := nI_of e
      have hjf := (n_lt hj (by omega)).mp e2
      rw [n_tN hj] at h
      have loop : ∀ q n, n + q = T.fa t - 1 - (j + 1) → Wp (d - 1) Wk_told (QI F) 57 [some (.ref 33), some (.int (nI t)), some (.int (nI j)), some (.int (nI (back T t n))), some (.int (nI (T.fa t - 1 - n)))] [] I J := by
        intro q
        induction q with
        | zero =>
          intro n hn
          have hn : n = T.fa t - 1 - (j + 1) := by omega
          have hb := back_ok hT ht n (by omega)
          have hb2 := s31 hw (hT.2.2.1 _ hb.1).1.1
          have hvb := n_vp (a := back T t n) (n := 1024) hb2 (by decide)
          refine v_Wk_told_33_57 ⟨fun q => ?_, fun _ => ⟨hvb, ?_⟩⟩
          · rw [n_inc, n_lt (by omega) (by omega)] at q; omega
          · have g1 := hT.2.2.2 (back T t n) (by omega)
            rw [n_tN (by omega), (hI.2.2.2.2 (back T t n) (by omega)).2]
            refine CI.of (by omega) rfl (v_Wk_slideOf_0 (QI_i.mpr (QI_i.mpr ?_)))
            rw [n_slW (by omega), hn]; exact h
        | succ q ih =>
          intro n hn
          have hb := back_ok hT ht n (by omega)
          have hb2 := s31 hw (hT.2.2.1 _ hb.1).1.1
          have hvb := n_vp (a := back T t n) (n := 1024) hb2 (by decide)
          have go := ih (n + 1) (by omega)
          refine v_Wk_told_33_57 ⟨fun _ => ⟨hvb, ?_⟩, fun q => absurd ((n_lt (a := j + 1) (b := T.fa t - 1 - n) (by omega) (by omega)).mpr (by omega)) (by rw [n_inc] at q; exact q)⟩
          rw [n_tN (by omega), (hI.2.2.2.2 (back T t n) (by omega)).1, n_dec2 (by omega), show T.fa t - 1 - n - 1 = T.fa t - 1 - (n + 1) by omega]
          exact go
      exact loop _ 0 (Nat.zero_add _)
    · rw [if_neg e, if_neg e2] at h; exact h
end ASK
end
section
/-! opens, rows, key, files: both sides -/
def WkA (V : Bv) (f : Nat) (I : I2) : Prop := I 1 17 = 0 ∧ ChR V.B I ∧ I 33 10 = nI V.s ∧ I 33 11 = nI f ∧ WkR (bfs V.B f V.s) I
def WmA (V : Bv) (f : Nat) (I : I2) : Prop := WmR (bfs V.B f V.s) I ∧ ∀ a, a ∈ (bfs V.B f V.s).ord → ∀ b, b < 2 * V.B.pn → I 68 (10 * a + b) = nxI V.B f a b
theorem WkA.ca {V : Bv} {f : Nat} {I : I2} (hw : WFV V) (hf : f < 64) (h : WkA V f I) : CaR V.B I := Or.inr ⟨h.1, h.2.1, V.s, f, hw.2.2.1, hf, h.2.2.1, h.2.2.2.1, h.2.2.2.2⟩
theorem TIb {V : Bv} (hw : WFV V) (f : Nat) : TI V.B (bfs V.B f V.s) := by rw [bfs_eq]; exact TI_bfsN hw.1 hw.2.2.1 1024
noncomputable abbrev Bv.T (V : Bv) : Tw := bfs V.B V.f V.s
noncomputable def opensS (V : Bv) (k : Int32) : Int32 := if k < -1 then -1 else if V.B.pn = 0 then -4 else tldS V.T (fop V.B V.lid V.T) k
noncomputable def rowsQ (V : Bv) : Int32 := if V.B.pn = 0 then 0 else nI (rowsS V.B V.lid V.T)
/-- how soon it is open, these locks filed -/
noncomputable def cnt (V : Bv) (f : Nat) : Option Nat := (fop V.B V.lid (bfs V.B f V.s)).map (fun t => (bfs V.B f V.s).fa t - 1)
noncomputable def keyN (V : Bv) : Nat → Option (Nat × Nat)
  | 0 => none
  | n + 1 => if V.f.testBit n then keyN V n else match cnt V (V.f ||| 2 ^ n) with
    | none => keyN V n
    | some c => match keyN V n with
      | none => some (n, c)
      | some (b, w) => if c < w then some (n, c) else some (b, w)
noncomputable def keyS (V : Bv) (x : Int32) : Int32 := if x < 0 ∨ 1 < x then -1 else if x = 0 then optI ((keyN V V.B.ln).map Prod.fst) (-4) else optI ((keyN V V.B.ln).map Prod.snd) (-4)
noncomputable def fileB (V : Bv) (x : Int32) (n : Nat) (b : Option Nat) : Option Nat := match cnt V (V.f ||| n) with
  | none => b
  | some c => if x < nI c then b else some n
noncomputable def fileN (V : Bv) (x : Int32) : Nat → Option Nat
  | 0 => none
  | n + 1 => if n &&& V.f = 0 then match fileN V x n with
      | none => fileB V x n none
      | some b => if popN 6 n < popN 6 b then fileB V x n (some b) else some b
    else fileN V x n
noncomputable def filesS (V : Bv) (x y : Int32) : Int32 := if x < 0 ∨ 60 < x ∨ y < 0 ∨ 1 < y then -1 else if V.B.pn = 0 then -4 else if y = 0 then optI ((fileN V x (2 ^ V.B.ln)).map (popN 6)) (-4) else optI (fileN V x (2 ^ V.B.ln)) (-4)
theorem rowF_t {B : Bx} {o c : Nat} {T : Tw} {a x : Nat} (h1 : openB B o x = true) (h2 : T.fa x = c) : rowF B o c T a x = (a + T.wy x) % 1000003 := if_pos ⟨h1, h2⟩
theorem rowF_1 {B : Bx} {o c : Nat} {T : Tw} {a x : Nat} (h1 : openB B o x = false) : rowF B o c T a x = a := if_neg (fun q => by rw [h1] at q; exact absurd q.1 (by decide))
theorem rowF_2 {B : Bx} {o c : Nat} {T : Tw} {a x : Nat} (h1 : T.fa x ≠ c) : rowF B o c T a x = a := if_neg (fun q => h1 q.2)
theorem n_row {a b : Nat} (h1 : a < 1000003) (h2 : b < 1000003) : rmI (nI a + nI b) 1000003 = nI ((a + b) % 1000003) := by
  rw [nI_add]; exact n_rm (k := 1000003) (by omega) (by decide) (by decide)
theorem n_rowF {B : Bx} {o c : Nat} {T : Tw} {a x : Nat} (h1 : openB B o x = true) (h2 : T.fa x = c) (ha : a < 1000003) (hx : T.wy x < 1000003) : rmI (nI a + nI (T.wy x)) 1000003 = nI (rowF B o c T a x) := by
  rw [rowF_t h1 h2]; exact n_row ha hx
theorem foldN {f : Nat → Nat → Nat} {a : Nat} {l : List Nat} {n : Nat} (h : n < l.length) : (l.take (n + 1)).foldl f a = f ((l.take n).foldl f a) l[n] := by
  rw [List.take_add_one, List.getElem?_eq_getElem h, List.foldl_append]; rfl
section ASK2
variable {d : Nat} {V : Bv} {I : I2} {J : J2} {G : I2 → J2 → Prop} {F : Int32 → I2 → J2 → Prop} {f : Nat}
theorem c_W_from (hd : 6 ≤ d) (hw : WFV V) (hV : CBx 1 V I) (hC : CaR V.B I) (hf : f < 64) (h : ∀ I', FrG I I' → CBx 1 V I' → WkA V f I' → G I' J) : CV d Wk_from [.ref 33, .int (nI V.s), .int (nI f)] I J G :=
  c_Wk_from hd hw.1 hV.1 hC hw.2.2.1 hf (fun I' q1 q2 q3 q4 q5 q6 => h I' q1.g (q1.g.cbx hV) ⟨q2, q3, q4, q5, q6⟩)
theorem c_W_first (hd : 3 ≤ d) (hw : WFV V) (hV : CBx 1 V I) (hA : WkA V f I) (h : F (optI (fop V.B V.lid (bfs V.B f V.s)) (-4)) I J) : CI d Wk_firstOpen [.ref 33] I J F :=
  c_Wk_firstOpen hd hw.1 hV.1 hV.2.1 hw.2.1 (TIb hw f) hA.2.2.2.2 h
theorem c_Sb_opens (hd : 7 ≤ d) (hw : WFV V) (hV : CBx 1 V I) (hC : CaR V.B I) (k : Int32) (h : ∀ I', FrG I I' → CaR V.B I' → F (opensS V k) I' J) : CI d Sb_opens [.ref 0, .int k] I J F := by
  have hf := f64 hw.1 hw.2.2.2.1
  have hp5 := hw.1.1
  unfold opensS at h
  refine CI.of (by omega) rfl (v_Sb_opens_0_0 ⟨fun e => QI_i.mpr ?_, fun e => ?_⟩)
  · rw [if_pos e] at h; exact h I FrG.rf hC
  · rw [if_neg e] at h
    rw [hV.1.1, n_e0 (by omega), hV.2.2.1, hV.2.2.2.1]
    refine ⟨fun e => QI_i.mpr ?_, fun e => c_W_from (by omega) hw hV hC hf (fun I' q1 q2 q3 => ?_)⟩
    · rw [if_pos e] at h; exact h I FrG.rf hC
    · rw [if_neg e] at h
      refine c_W_first (by omega) hw q2 q3 (c_Wk_told (by omega) hw.1 (TIb hw V.f) q3.2.2.2.2 _ (fun t ht => fop_mem ht) k (QI_i.mpr ?_))
      exact h I' q1 (q3.ca hw hf)
theorem rowF_lt {B : Bx} {o c : Nat} {T : Tw} : ∀ (l : List Nat) a, a < 1000003 → l.foldl (rowF B o c T) a < 1000003 := by
  intro l
  induction l with
  | nil => exact fun a h => h
  | cons x l ih =>
    intro a h
    rw [List.foldl_cons]
    refine ih _ ?_
    unfold rowF
    split
    · exact Nat.mod_lt _ (by decide)
    · exact h
theorem c_Wk_rowsToOpen {T : Tw} (hd : 4 ≤ d) (hw : WFV V) (hV : CBx 1 V I) (hT : TI V.B T) (hI : WkR T I) (h : F (nI (rowsS V.B V.lid T)) I J) : CI d Wk_rowsToOpen [.ref 33] I J F := by
  have hp5 := hw.1.1
  have hlen := hT.len hw.1
  unfold rowsS at h
  refine CI.of (by omega) rfl (v_Wk_rowsToOpen_33_0 (c_Wk_firstOpen (by omega) hw.1 hV.1 hV.2.1 hw.2.1 hT hI ?_))
  cases hg : fop V.B V.lid T with
  | none => rw [hg] at h; exact ⟨fun _ => QI_i.mpr h, fun q => absurd (by decide) q⟩
  | some t =>
    rw [hg] at h
    have ht := fop_mem hg
    have hs2 := s31 hw.1 (hT.2.2.1 t ht).1.1
    have htf := hT.fl hw.1 ht
    have htp := hT.pos ht
    refine ⟨fun q => absurd q (nI_pos (by omega)), fun _ => ?_⟩
    have loop : ∀ k n, n + k = T.ord.length → Wp (d - 1) Wk_rowsToOpen (QI F) 15 [some (.ref 33), some (.int (nI t)), some (.int (nI ((T.ord.take n).foldl (rowF V.B V.lid (T.fa t) T) 0))), some (.int (nI n)), none] [] I J := by
      intro k
      induction k with
      | zero =>
        intro n hn
        have hn : n = T.ord.length := by omega
        subst hn
        refine v_Wk_rowsToOpen_33_15 ⟨fun q => ?_, fun _ => QI_i.mpr ?_⟩
        · rw [hI.1] at q; exact absurd ((n_lt (by omega) (by omega)).mp q) (Nat.lt_irrefl _)
        · rw [List.take_length]; exact h
      | succ k ih =>
        intro n hn
        have hlt : n < T.ord.length := by omega
        have hm := List.getElem_mem hlt
        have hx := hT.2.2.1 _ hm
        have hx2 := s31 hw.1 hx.1.1
        have hxf := hT.fl hw.1 hm
        have hxp := hT.pos hm
        have go := ih (n + 1) (by omega)
        rw [foldN hlt] at go
        have hacc := rowF_lt (B := V.B) (o := V.lid) (c := T.fa t) (T := T) (T.ord.take n) 0 (by decide)
        generalize (T.ord.take n).foldl (rowF V.B V.lid (T.fa t) T) 0 = acc at go hacc ⊢
        have hv := n_vp (a := n) (n := 1024) (by omega) (by decide)
        have hv2 := n_vp (a := T.ord[n]) (n := 1024) hx2 (by decide)
        have hv3 := n_vp (a := t) (n := 1024) hs2 (by decide)
        refine v_Wk_rowsToOpen_33_15 ⟨fun _ => ⟨hv, ?_⟩, fun q => absurd ((n_lt (by omega) (by omega)).mpr hlt) (by rw [hI.1] at q; exact q)⟩
        rw [n_tN (a := n) (by omega), hI.ord' hlt, n_tN (a := T.ord[n]) (by omega), n_tN (a := t) (by omega), hI.far' hw.1 hT hm, hI.far' hw.1 hT ht, n_eq (by omega) (by omega), n_inc]
        refine ⟨hv2, hv3, fun e => c_Bx_isOpen_1 (by omega) hw.1 hV.1 hV.2.1 hw.2.1 (by omega) ?_, fun e => ?_⟩
        · rw [show (decide (0 < V.B.pn) && decide (pl T.ord[n] V.lid = V.B.dp V.lid)) = openB V.B V.lid T.ord[n] from rfl, bI_0]
          refine ⟨fun e2 => ?_, fun e2 => ⟨hv2, ?_⟩⟩
          · rw [rowF_1 e2] at go; exact go
          · rw [hI.2.2.2.1 _ (by omega), n_rowF (c := T.fa t) (by simpa using e2) (by omega) hacc hx.2.2]
            exact go
        · rw [rowF_2 (by omega)] at go; exact go
    have go0 := loop _ 0 (Nat.zero_add _)
    rw [List.take_zero, List.foldl_nil] at go0
    exact go0
theorem c_Sb_rows (hd : 8 ≤ d) (hw : WFV V) (hV : CBx 1 V I) (hC : CaR V.B I) (h : ∀ I', FrG I I' → CaR V.B I' → F (rowsQ V) I' J) : CI d Sb_rows [.ref 0] I J F := by
  have hf := f64 hw.1 hw.2.2.2.1
  have hp5 := hw.1.1
  unfold rowsQ at h
  refine CI.of (by omega) rfl (v_Sb_rows_0_0 ?_)
  rw [hV.1.1, n_e0 (by omega), hV.2.2.1, hV.2.2.2.1]
  refine ⟨fun e => QI_i.mpr ?_, fun e => c_W_from (by omega) hw hV hC hf (fun I' q1 q2 q3 => c_Wk_rowsToOpen (by omega) hw q2 (TIb hw V.f) q3.2.2.2.2 (QI_i.mpr ?_))⟩
  · rw [if_pos e] at h; exact h I FrG.rf hC
  · rw [if_neg e] at h
    exact h I' q1 (q3.ca hw hf)
theorem cnt_lt (hw : WFV V) {f c : Nat} (h : cnt V f = some c) : c < 1024 := by
  unfold cnt at h
  cases hg : fop V.B V.lid (bfs V.B f V.s) with
  | none => rw [hg] at h; cases h
  | some t =>
    rw [hg] at h
    have h : (bfs V.B f V.s).fa t - 1 = c := Option.some.inj h
    have := (TIb hw f).fl hw.1 (fop_mem hg)
    have h2 := (TIb hw f).pos (fop_mem hg)
    omega
theorem c_Sb_opensWith (hd : 7 ≤ d) (hw : WFV V) (hV : CBx 1 V I) (hC : CaR V.B I) (hf : f < 64) (h : ∀ I', FrG I I' → CBx 1 V I' → CaR V.B I' → F (optI (cnt V f) (-4)) I' J) : CI d Sb_opensWith [.ref 0, .int (nI f)] I J F := by
  refine CI.of (by omega) rfl (v_Sb_opensWith_0_0 ?_)
  rw [hV.2.2.1]
  refine c_W_from (by omega) hw hV hC hf (fun I' q1 q2 q3 => c_W_first (by omega) hw q2 q3 (c_Wk_told (by omega) hw.1 (TIb hw f) q3.2.2.2.2 _ (fun t ht => fop_mem ht) (-1) (QI_i.mpr ?_)))
  have h := h I' q1 q2 (q3.ca hw hf)
  unfold cnt at h
  cases hg : fop V.B V.lid (bfs V.B f V.s) with
  | none => rw [hg] at h; exact h
  | some t => rw [hg] at h; exact h
end ASK2
end
section
/-! key, files: both sides -/
section ASK3
variable {d : Nat} {V : Bv} {I : I2} {J : J2} {G : I2 → J2 → Prop} {F : Int32 → I2 → J2 → Prop} {f : Nat}
theorem n_or2 {f l : Nat} (hl : l < 6) : nI f ||| slI 1 (nI l) = nI (f ||| 2 ^ l) := by
  rw [show slI 1 (nI l) = nI (1 * 2 ^ l) from n_sl (a := 1) (by omega) (by rw [Nat.one_mul]; exact Nat.lt_of_lt_of_le (Nat.pow_lt_pow_right (by decide) hl) (by decide)), n_or, Nat.one_mul]
theorem or64 {f g : Nat} (hf : f < 64) (hg : g < 64) : f ||| g < 64 := Nat.or_lt_two_pow (n := 6) hf hg
theorem p64 {l : Nat} (hl : l < 6) : 2 ^ l < 64 := Nat.lt_of_lt_of_le (Nat.pow_lt_pow_right (by decide) hl) (by decide)
theorem keyN_lt (hw : WFV V) : ∀ n b c, keyN V n = some (b, c) → b < n ∧ c < 1024 := by
  intro n
  induction n with
  | zero => intro b c h; cases h
  | succ n ih =>
    intro b c h
    simp only [keyN] at h
    split at h
    · have := ih b c h; omega
    · split at h
      · have := ih b c h; omega
      · next c1 hc =>
        have := cnt_lt hw hc
        split at h
        · cases h; omega
        · next b2 w2 hk =>
          have := ih _ _ hk
          split at h
          · cases h; omega
          · cases h; omega
theorem l_Sb_key (hd : 7 ≤ d) (hw : WFV V) (x : Int32) {I0 : I2} (hx : ¬ x < 0 ∧ ¬ 1 < x) (h : ∀ I', FrG I0 I' → CaR V.B I' → F (keyS V x) I' J) : ∀ k n I, n + k = V.B.ln → FrG I0 I → CBx 1 V I → CaR V.B I → Wp d Sb_key (QI F) 20 [some (.ref 0), some (.int x), some (.int (optI ((keyN V n).map Prod.fst) (-4))), some (.int (optI ((keyN V n).map Prod.snd) (-4))), some (.int (nI n)), none] [] I J := by
  have hl6 := hw.1.2.1
  have hf := f64 hw.1 hw.2.2.2.1
  intro k
  induction k with
  | zero =>
    intro n I hn hFr hV hC
    have hn : n = V.B.ln := by omega
    subst hn
    have h := h I hFr hC
    unfold keyS at h
    rw [if_neg (by simp only [not_or]; exact hx)] at h
    refine v_Sb_key_0_20 ⟨fun q => ?_, fun _ => ⟨fun e => QI_i.mpr ?_, fun e => QI_i.mpr ?_⟩⟩
    · rw [hV.1.2.1] at q; exact absurd ((n_lt (by omega) (by omega)).mp q) (Nat.lt_irrefl _)
    · rw [if_pos e] at h; exact h
    · rw [if_neg e] at h; exact h
  | succ k ih =>
    intro n I hn hFr hV hC
    have hlt : n < V.B.ln := by omega
    have go := fun I' => ih (n + 1) I' (by omega)
    have hlk := keyN_lt hw n
    simp only [keyN] at go
    refine v_Sb_key_0_20 ⟨fun _ => ?_, fun q => absurd ((n_lt (by omega) (by omega)).mpr hlt) (by rw [hV.1.2.1] at q; exact q)⟩
    rw [hV.2.2.2.1, n_bit hf (by omega), n_or2 (by omega), n_inc]
    refine ⟨fun e => c_Sb_opensWith hd hw hV hC (or64 hf (p64 (by omega))) (fun I' q1 q2 q3 => ?_), fun e => ?_⟩
    · have go := go I' (hFr.tr q1) q2 q3
      rw [if_neg (by rw [e]; decide)] at go
      cases hc : cnt V (V.f ||| 2 ^ n) with
      | none => rw [hc] at go; exact ⟨fun _ => go, fun q => absurd (by decide) q⟩
      | some c =>
        have hc2 := cnt_lt hw hc
        rw [hc] at go
        refine ⟨fun q => absurd q (nI_pos (by omega)), fun _ => ?_⟩
        cases hk : keyN V n with
        | none => rw [hk] at go; exact ⟨fun _ => go, fun q => absurd (by decide) q⟩
        | some bw =>
          obtain ⟨b, w⟩ := bw
          have hbw := hlk b w hk
          rw [hk] at go
          dsimp only at go
          simp only [Option.map, optI] at go ⊢
          refine ⟨fun q => absurd q (nI_pos (by omega)), fun _ => ?_⟩
          rw [n_lt (by omega) (by omega)]
          refine ⟨fun e2 => ?_, fun e2 => ?_⟩
          · rw [if_pos e2] at go; exact go
          · rw [if_neg e2] at go; exact go
    · have go := go I hFr hV hC
      rw [if_pos (by simpa using e)] at go
      exact go
theorem c_Sb_key (hd : 8 ≤ d) (hw : WFV V) (hV : CBx 1 V I) (hC : CaR V.B I) (x : Int32) (h : ∀ I', FrG I I' → CaR V.B I' → F (keyS V x) I' J) : CI d Sb_key [.ref 0, .int x] I J F := by
  refine CI.of (by omega) rfl (v_Sb_key_0_0 ⟨fun e => QI_i.mpr ?_, fun e => ⟨fun e1 => QI_i.mpr ?_, fun e1 => l_Sb_key (by omega) hw x ⟨e, e1⟩ h _ 0 I (Nat.zero_add _) FrG.rf hV hC⟩⟩)
  · have h := h I FrG.rf hC
    unfold keyS at h
    rw [if_pos (Or.inl e)] at h; exact h
  · have h := h I FrG.rf hC
    unfold keyS at h
    rw [if_pos (Or.inr e1)] at h; exact h
theorem fileN_lt {x : Int32} : ∀ n b, fileN V x n = some b → b < n := by
  intro n
  induction n with
  | zero => intro b h; cases h
  | succ n ih =>
    intro b h
    have hB : ∀ b0, fileB V x n b0 = some b → (∀ b1, b0 = some b1 → b1 < n) → b < n + 1 := by
      intro b0 h1 h2
      unfold fileB at h1
      split at h1
      · have := h2 b h1; omega
      · split at h1
        · have := h2 b h1; omega
        · cases h1; omega
    simp only [fileN] at h
    split at h
    · split at h
      · exact hB none h (fun b1 q => by cases q)
      · next b1 hb =>
        split at h
        · exact hB _ h (fun b2 q => by cases q; exact ih _ hb)
        · cases h; have := ih _ hb; omega
    · have := ih b h; omega
theorem n_2p {l : Nat} (hl : l ≤ 6) : slI 1 (nI l) = nI (2 ^ l) := by
  rw [show slI 1 (nI l) = nI (1 * 2 ^ l) from n_sl (a := 1) (by omega) (by rw [Nat.one_mul]; exact Nat.lt_of_le_of_lt (Nat.pow_le_pow_right (by decide) hl) (by decide)), Nat.one_mul]
theorem l_Sb_files (hd : 7 ≤ d) (hw : WFV V) (x y : Int32) {I0 : I2} (hx : ¬ (x < 0 ∨ 60 < x ∨ y < 0 ∨ 1 < y)) (hpn : V.B.pn ≠ 0) (h : ∀ I', FrG I0 I' → CaR V.B I' → F (filesS V x y) I' J) : ∀ k n I, n + k = 2 ^ V.B.ln → FrG I0 I → CBx 1 V I → CaR V.B I → Wp d Sb_files (QI F) 40 [some (.ref 0), some (.int x), some (.int y), some (.int (optI (fileN V x n) (-4))), some (.int (nI n)), none] [] I J := by
  have hl6 := hw.1.2.1
  have hp2 : 2 ^ V.B.ln ≤ 64 := Nat.pow_le_pow_right (n := 2) (by decide) hl6
  have hf := f64 hw.1 hw.2.2.2.1
  intro k
  induction k with
  | zero =>
    intro n I hn hFr hV hC
    have hn : n = 2 ^ V.B.ln := by omega
    subst hn
    have h := h I hFr hC
    have hbl := fileN_lt (V := V) (x := x) (2 ^ V.B.ln)
    unfold filesS at h
    rw [if_neg hx, if_neg hpn] at h
    refine v_Sb_files_0_40 ⟨fun q => ?_, fun _ => ?_⟩
    · rw [hV.1.2.1, n_2p hl6] at q; exact absurd ((n_lt (by omega) (by omega)).mp q) (Nat.lt_irrefl _)
    · cases hk : fileN V x (2 ^ V.B.ln) with
      | none =>
        rw [hk] at h
        refine ⟨fun _ => QI_i.mpr ?_, fun q => absurd (by decide) q⟩
        by_cases e : y = 0
        · rw [if_pos e] at h; exact h
        · rw [if_neg e] at h; exact h
      | some b =>
        have hb := hbl b hk
        rw [hk] at h
        refine ⟨fun q => absurd q (nI_pos (by omega)), fun _ => ⟨fun e => c_Ji_bitCount (by omega) (by omega) (QI_i.mpr ?_), fun e => QI_i.mpr ?_⟩⟩
        · rw [if_pos e] at h; exact h
        · rw [if_neg e] at h; exact h
  | succ k ih =>
    intro n I hn hFr hV hC
    have hlt : n < 2 ^ V.B.ln := by omega
    have go := fun I' => ih (n + 1) I' (by omega)
    have hbl := fileN_lt (V := V) (x := x) n
    simp only [fileN] at go
    refine v_Sb_files_0_40 ⟨fun _ => ?_, fun q => absurd ((n_lt (by omega) (by omega)).mpr hlt) (by rw [hV.1.2.1, n_2p hl6] at q; exact q)⟩
    rw [hV.2.2.2.1, n_and, n_e0 (Nat.lt_of_le_of_lt Nat.and_le_left (by omega)), n_inc]
    have hon : nI V.f ||| nI n = nI (V.f ||| n) := n_or _ _
    rw [hon]
    have try1 : ∀ b0 : Option Nat, ∀ I1, (∀ I', FrG I1 I' → CBx 1 V I' → CaR V.B I' → Wp d Sb_files (QI F) 40 [some (.ref 0), some (.int x), some (.int y), some (.int (optI (fileB V x n b0) (-4))), some (.int (nI (n + 1))), none] [] I' J) → CBx 1 V I1 → CaR V.B I1 → CI d Sb_opensWith [.ref 0, .int (nI (V.f ||| n))] I1 J (fun v1 I2 J1 => (v1 < 0 → Wp d Sb_files (QI F) 40 [some (.ref 0), some (.int x), some (.int y), some (.int (optI b0 (-4))), some (.int (nI (n + 1))), none] [] I2 J1) ∧ (¬ (v1 < 0) → (x < v1 → Wp d Sb_files (QI F) 40 [some (.ref 0), some (.int x), some (.int y), some (.int (optI b0 (-4))), some (.int (nI (n + 1))), none] [] I2 J1) ∧ (¬ (x < v1) → Wp d Sb_files (QI F) 40 [some (.ref 0), some (.int x), some (.int y), some (.int (nI n)), some (.int (nI (n + 1))), none] [] I2 J1))) := by
      intro b0 I1 g hV1 hC1
      refine c_Sb_opensWith hd hw hV1 hC1 (or64 hf (by omega)) (fun I' q1 q2 q3 => ?_)
      have g := g I' q1 q2 q3
      unfold fileB at g
      cases hc : cnt V (V.f ||| n) with
      | none => rw [hc] at g; exact ⟨fun _ => g, fun q => absurd (by decide) q⟩
      | some c =>
        have hc2 := cnt_lt hw hc
        rw [hc] at g
        dsimp only at g
        refine ⟨fun q => absurd q (nI_pos (by omega)), fun _ => ⟨fun (e : x < nI c) => ?_, fun (e : ¬ x < nI c) => ?_⟩⟩
        · rw [if_pos e] at g; exact g
        · rw [if_neg e] at g; exact g
    refine ⟨fun e => ?_, fun e => ?_⟩
    · cases hk : fileN V x n with
      | none =>
        refine ⟨fun _ => try1 none I (fun I' q1 q2 q3 => ?_) hV hC, fun q => absurd (by decide) q⟩
        have go := go I' (hFr.tr q1) q2 q3
        rw [if_pos e, hk] at go
        exact go
      | some b =>
        have hb := hbl b hk
        refine ⟨fun q => absurd q (nI_pos (by omega)), fun _ => c_Ji_bitCount (by omega) (by omega) (c_Ji_bitCount (by omega) (by omega) ?_)⟩
        have p1 := pop_le n (by omega)
        have p2 := pop_le b (by omega)
        rw [n_lt (by omega) (by omega)]
        rw [hV.2.2.2.1, hon]
        refine ⟨fun e2 => try1 (some b) I (fun I' q1 q2 q3 => ?_) hV hC, fun e2 => ?_⟩
        · have go := go I' (hFr.tr q1) q2 q3
          rw [if_pos e, hk] at go
          dsimp only at go
          rw [if_pos e2] at go
          exact go
        · have go := go I hFr hV hC
          rw [if_pos e, hk] at go
          dsimp only at go
          rw [if_neg e2] at go
          exact go
    · have go := go I hFr hV hC
      rw [if_neg e] at go
      exact go
theorem c_Sb_files (hd : 8 ≤ d) (hw : WFV V) (hV : CBx 1 V I) (hC : CaR V.B I) (x y : Int32) (h : ∀ I', FrG I I' → CaR V.B I' → F (filesS V x y) I' J) : CI d Sb_files [.ref 0, .int x, .int y] I J F := by
  have hp5 := hw.1.1
  have bad : (x < 0 ∨ 60 < x ∨ y < 0 ∨ 1 < y) → QI F (some (.int (-1))) I J := by
    intro e
    have h := h I FrG.rf hC
    unfold filesS at h
    rw [if_pos e] at h; exact QI_i.mpr h
  refine CI.of (by omega) rfl (v_Sb_files_0_0 ⟨fun e => bad (Or.inl e), fun e => ⟨fun e1 => bad (Or.inr (Or.inl e1)), fun e1 => ⟨fun e2 => bad (Or.inr (Or.inr (Or.inl e2))), fun e2 => ⟨fun e3 => bad (Or.inr (Or.inr (Or.inr e3))), fun e3 => ?_⟩⟩⟩⟩)
  have hx : ¬ (x < 0 ∨ 60 < x ∨ y < 0 ∨ 1 < y) := by simp only [not_or]; exact ⟨e, e1, e2, e3⟩
  rw [hV.1.1, n_e0 (by omega)]
  refine ⟨fun e4 => QI_i.mpr ?_, fun e4 => l_Sb_files (by omega) hw x y hx e4 h _ 0 I (Nat.zero_add _) FrG.rf hV hC⟩
  have h := h I FrG.rf hC
  unfold filesS at h
  rw [if_neg hx, if_pos e4] at h; exact h
end ASK3
end
section
/-! the end: what the walk reaches is all; the ways into each state -/
theorem meet_self {T : Tw} {s m t : Nat} (hT : ∀ t, t ∈ T.ord ↔ T.fa t ≠ 0) : t ∈ (meet T s m t).ord := by
  unfold meet
  split
  · rw [more_ord.1]; exact List.mem_append_right _ (by simp)
  · next h => rw [more_ord.1]; exact (hT t).mpr h
theorem vis_has {B : Bx} {f s : Nat} {T : Tw} (hw : WFB B) (h : TI B T) (hs : s ∈ T.ord) : ∀ m, m ≤ 2 * B.pn → ∀ b t, b < m → nx B f s b = some t → t ∈ (vis B f s m T).ord := by
  intro m
  induction m with
  | zero => intro _ b t hb; exact absurd hb (Nat.not_lt_zero b)
  | succ m ih =>
    intro hm b t hb ht
    have hTm := TI_vis (f := f) (m := m) hw h hs (by omega)
    simp only [vis]
    by_cases e : b = m
    · subst e
      rw [ht]
      exact meet_self hTm.2.1
    · have := ih (by omega) b t (by omega) ht
      split
      · exact this
      · exact meet_mem this
theorem bfs_closed {B : Bx} {f s0 a b t : Nat} (hw : WFB B) (hs : okS B s0) (ha : a ∈ (bfs B f s0).ord) (hb : b < 2 * B.pn) (ht : nx B f a b = some t) : t ∈ (bfs B f s0).ord := by
  obtain ⟨j, hj⟩ := List.getElem?_of_mem ha
  have hT := TI_bfsN (f := f) hw hs 1024
  have hlen := hT.len hw
  have hj2 := (List.getElem?_eq_some_iff.mp hj).1
  rw [bfs_eq] at hj2
  have hj3 : j < 1024 := by omega
  have hTj := TI_bfsN (f := f) hw hs j
  have hjl : j < (bfsN B f s0 j).ord.length := by
    rcases Nat.lt_or_ge j (bfsN B f s0 j).ord.length with h | h
    · exact h
    · have := bfs_at (B := B) (f := f) (s0 := s0) h (by omega)
      rw [← bfs_eq, this] at hj2
      omega
  have e1 : (bfsN B f s0 j).ord[j]? = some ((bfsN B f s0 j).ord[j]) := List.getElem?_eq_getElem hjl
  have e2 := bfs_pre (by omega) e1
  rw [hj] at e2
  cases e2
  have e3 : bfsN B f s0 (j + 1) = vis B f ((bfsN B f s0 j).ord[j]) (2 * B.pn) (bfsN B f s0 j) := by
    show (match (bfsN B f s0 j).ord[j]? with
      | none => bfsN B f s0 j
      | some s1 => vis B f s1 (2 * B.pn) (bfsN B f s0 j)) = _
    rw [e1]
  have h4 := vis_has hw hTj (List.getElem_mem hjl) (2 * B.pn) (Nat.le_refl _) b t hb ht
  rw [← e3] at h4
  obtain ⟨i, hi⟩ := List.getElem?_of_mem h4
  exact List.mem_of_getElem? (bfs_pre (by omega) hi)
theorem bfs_self {B : Bx} {f s0 : Nat} : s0 ∈ (bfs B f s0).ord := List.mem_of_getElem? (bfs_pre (n := 0) (j := 0) (by decide) (show [s0][0]? = some s0 from rfl))
/-- all that is known of a walk that is done -/
def Clo (B : Bx) (f : Nat) (T : Tw) : Prop := ∀ a, a ∈ T.ord → ∀ b t, b < 2 * B.pn → nx B f a b = some t → t ∈ T.ord
theorem Clob {V : Bv} (hw : WFV V) (f : Nat) : Clo V.B f (bfs V.B f V.s) := fun _ ha _ _ hb ht => bfs_closed hw.1 hw.2.2.1 ha hb ht
/-- a chain -/
def Ch (e : Nat → Int32) : Int32 → List Nat → Prop
  | v, [] => v = -1
  | v, x :: r => v = nI x ∧ Ch e (e x) r
theorem Ch_congr {e e' : Nat → Int32} : ∀ {l : List Nat} {v : Int32}, (∀ x ∈ l, e x = e' x) → Ch e v l → Ch e' v l := by
  intro l
  induction l with
  | nil => intro v _ h; exact h
  | cons x r ih =>
    intro v h1 h2
    refine ⟨h2.1, ?_⟩
    rw [← h1 x List.mem_cons_self]
    exact ih (fun y hy => h1 y (List.mem_cons_of_mem _ hy)) h2.2
/-- how many moves there are, below n -/
def deg (B : Bx) (f s : Nat) : Nat → Nat
  | 0 => 0
  | n + 1 => deg B f s n + (if (nx B f s n).isSome then 1 else 0)
theorem deg_le {B : Bx} {f s n : Nat} : deg B f s n ≤ n := by
  induction n with
  | zero => exact Nat.le_refl _
  | succ n ih => simp only [deg]; split <;> omega
/-- the chains of the ways into the states, those of the states of D and of a below m charted -/
def LkR (B : Bx) (f : Nat) (T : Tw) (D : List Nat) (a m : Nat) (I : I2) : Prop := ∃ L : Nat → List Nat, ∀ t, t ∈ T.ord → Ch (I 43) (I 42 t) (L t) ∧ (L t).Nodup ∧ ∀ x, x ∈ L t ↔ (x / 10 ∈ D ∨ (x / 10 = a ∧ x % 10 < m)) ∧ x % 10 < 2 * B.pn ∧ nx B f (x / 10) (x % 10) = some t
/-- what the end leaves alone -/
def FrX (I I' : I2) : Prop := ∀ a, (a < 41 ∨ 47 < a) → I' a = I a
theorem FrX.rf {I : I2} : FrX I I := fun _ _ => rfl
theorem FrX.tr {I0 I1 I2 : I2} (h1 : FrX I0 I1) (h2 : FrX I1 I2) : FrX I0 I2 := fun a x => (h2 a x).trans (h1 a x)
theorem FrX_up {I : I2} {a k : Nat} {x : Int32} (ha : 41 ≤ a) (h2 : a ≤ 47) : FrX I (up2 I a k x) := by
  intro b hb
  have : b ≠ a := by omega
  simp [up2, this]
theorem FrX.g {I I' : I2} (h : FrX I I') : FrG I I' := ⟨fun a x _ => h a (by omega), fun k _ => by rw [h 1 (by decide)]⟩
theorem FrX.wka {V : Bv} {f : Nat} {I I' : I2} (h : FrX I I') (hA : WkA V f I) : WkA V f I' := by
  have e1 := h 1 (by decide)
  have e33 := h 33 (by decide)
  have e34 := h 34 (by decide)
  have e35 := h 35 (by decide)
  have e36 := h 36 (by decide)
  have e37 := h 37 (by decide)
  have e38 := h 38 (by decide)
  have e39 := h 39 (by decide)
  have e40 := h 40 (by decide)
  unfold WkA ChR WkR at hA ⊢
  rw [e1, e33, e34, e35, e36, e37, e38, e39, e40]
  exact hA
section END
variable {d : Nat} {V : Bv} {I : I2} {J : J2} {G : I2 → J2 → Prop} {F : Int32 → I2 → J2 → Prop} {f a : Nat}
theorem l_Eg_chain (hd : 1 ≤ d) (hw : WFV V) (hf : f < 64) {T : Tw} {D : List Nat} {I0 : I2} (eT : bfs V.B f V.s = T) (hA : WkA V f I0) (ha : a ∈ T.ord) (haD : a ∉ D) (h0 : I0 44 a = 0) (h : ∀ I', FrX I0 I' → I' 41 = I0 41 ∧ I' 45 = I0 45 ∧ I' 46 = I0 46 ∧ I' 47 = I0 47 → I' 44 = upd (I0 44) a (nI (deg V.B f a (2 * V.B.pn))) → LkR V.B f T D a (2 * V.B.pn) I' → G I' J) : ∀ k n I, n + k = 2 * V.B.pn → FrX I0 I → I 41 = I0 41 ∧ I 45 = I0 45 ∧ I 46 = I0 46 ∧ I 47 = I0 47 → I 44 = upd (I0 44) a (nI (deg V.B f a n)) → LkR V.B f T D a n I → Wp d Eg_chain (QV G) 2 [some (.ref 41), some (.int (nI a)), some (.int (nI n)), none, none] [] I J := by
  have hp5 := hw.1.1
  have hT : TI V.B T := eT ▸ TIb hw f
  have hcl : Clo V.B f T := eT ▸ Clob hw f
  have hok := (hT.2.2.1 a ha).1
  have ha2 := s31 hw.1 hok.1
  intro k
  induction k with
  | zero =>
    intro n I hn hFr hX h44 hL
    have hn : n = 2 * V.B.pn := by omega
    subst hn
    have hA1 := hFr.wka hA
    refine v_Eg_chain_41_2 ⟨fun q => ?_, fun _ => QV_i.mpr (h I hFr hX h44 hL)⟩
    rw [hA1.2.1.1] at q; exact absurd ((n_lt (by omega) (by omega)).mp q) (Nat.lt_irrefl _)
  | succ k ih =>
    intro n I hn hFr hX h44 hL
    have hlt : n < 2 * V.B.pn := by omega
    have hA1 := hFr.wka hA
    have go := fun I' => ih (n + 1) I' (by omega)
    have hdl := deg_le (B := V.B) (f := f) (s := a) (n := n)
    simp only [deg] at go
    refine v_Eg_chain_41_2 ⟨fun _ => c_Wk_next hd hw.1 hA1.2.1 hA1.2.2.2.1 hf hok hlt ?_, fun q => absurd ((n_lt (by omega) (by omega)).mpr hlt) (by rw [hA1.2.1.1] at q; exact q)⟩
    rw [n_inc]
    obtain ⟨L, hL⟩ := hL
    cases hnx : nx V.B f a n with
    | none =>
      rw [hnx] at go
      refine ⟨fun _ => go I hFr hX h44 ⟨L, fun t ht => ?_⟩, fun q => absurd (by decide) q⟩
      obtain ⟨g1, g2, g3⟩ := hL t ht
      refine ⟨g1, g2, fun x => (g3 x).trans ⟨fun ⟨z1, z2⟩ => ⟨z1.imp id (fun z => ⟨z.1, by omega⟩), z2⟩, fun ⟨z1, z2, z3⟩ => ⟨z1.imp id (fun z => ⟨z.1, ?_⟩), z2, z3⟩⟩⟩
      have : x % 10 ≠ n := by
        intro e
        rw [z.1, e, hnx] at z3
        cases z3
      omega
    | some t =>
      rw [hnx] at go
      have htT := hcl a ha n t hlt hnx
      have ht2 := s31 hw.1 (hT.2.2.1 t htT).1.1
      have hva := n_vp (a := a) (n := 1024) ha2 (by decide)
      have hvt := n_vp (a := t) (n := 1024) ht2 (by decide)
      have hvs := n_vp (a := 10 * a + n) (n := 10240) (by omega) (by decide)
      dsimp only
      rw [sp10, n_tN (a := a) (by omega), n_tN (a := t) (by omega), n_tN (a := 10 * a + n) (by omega)]
      refine ⟨fun q => absurd q (nI_pos (by omega)), fun _ => ⟨hva, hva, hvt, hvs, hvt, ?_⟩⟩
      obtain ⟨x1, x5, x6, x7⟩ := hX
      refine go _ (hFr.tr (((FrX_up (by decide) (by decide)).tr (FrX_up (by decide) (by decide))).tr (FrX_up (by decide) (by decide)))) ⟨by simpa [up2] using x1, by simpa [up2] using x5, by simpa [up2] using x6, by simpa [up2] using x7⟩ ?_ ⟨fun t' => if t' = t then (10 * a + n) :: L t' else L t', fun t' ht' => ?_⟩
      · have e44 : up2 (up2 (up2 I 44 a (I 44 a + 1)) 43 (10 * a + n) (I 42 t)) 42 t (nI (10 * a + n)) 44 = upd (I 44) a (I 44 a + 1) := by simp [up2]
        rw [e44, h44]
        funext x
        simp only [upd]
        split
        · rw [if_pos trivial, n_inc]; rfl
        · rfl
      · obtain ⟨g1, g2, g3⟩ := hL t' ht'
        have hnew : 10 * a + n ∉ L t' := by
          intro q
          have q := ((g3 _).mp q).1
          rw [show (10 * a + n) / 10 = a by omega, show (10 * a + n) % 10 = n by omega] at q
          rcases q with q | q
          · exact haD q
          · omega
        have e43 : up2 (up2 (up2 I 44 a (I 44 a + 1)) 43 (10 * a + n) (I 42 t)) 42 t (nI (10 * a + n)) 43 = upd (I 43) (10 * a + n) (I 42 t) := by simp [up2]
        have e42 : up2 (up2 (up2 I 44 a (I 44 a + 1)) 43 (10 * a + n) (I 42 t)) 42 t (nI (10 * a + n)) 42 = upd (I 42) t (nI (10 * a + n)) := by simp [up2]
        have hcg : ∀ v l, (∀ x ∈ l, x ∈ L t') → Ch (I 43) v l → Ch (upd (I 43) (10 * a + n) (I 42 t)) v l := by
          intro v l hl hc
          refine Ch_congr (fun x hx => ?_) hc
          have : x ≠ 10 * a + n := fun q => hnew (q ▸ hl x hx)
          simp [upd, this]
        rw [e43, e42]
        by_cases e : t' = t
        · subst e
          simp only [if_pos]
          refine ⟨⟨by simp [upd], ?_⟩, List.nodup_cons.mpr ⟨hnew, g2⟩, fun x => ?_⟩
          · rw [show upd (I 43) (10 * a + n) (I 42 t') (10 * a + n) = I 42 t' from by simp [upd]]
            exact hcg _ _ (fun x hx => hx) g1
          · rw [List.mem_cons, g3 x]
            constructor
            · rintro (rfl | ⟨z1, z2⟩)
              · rw [show (10 * a + n) / 10 = a by omega, show (10 * a + n) % 10 = n by omega]
                exact ⟨Or.inr ⟨rfl, Nat.lt_succ_self n⟩, hlt, hnx⟩
              · exact ⟨z1.imp id (fun z => ⟨z.1, by omega⟩), z2⟩
            · rintro ⟨z1, z2⟩
              rcases z1 with z | ⟨z3, z4⟩
              · exact Or.inr ⟨Or.inl z, z2⟩
              · by_cases e2 : x % 10 = n
                · left; omega
                · exact Or.inr ⟨Or.inr ⟨z3, by omega⟩, z2⟩
        · simp only [if_neg e]
          refine ⟨?_, g2, fun x => (g3 x).trans ⟨fun ⟨z1, z2⟩ => ⟨z1.imp id (fun z => ⟨z.1, by omega⟩), z2⟩, fun ⟨z1, z2, z3⟩ => ⟨z1.imp id (fun z => ⟨z.1, ?_⟩), z2, z3⟩⟩⟩
          · rw [show upd (I 42) t (nI (10 * a + n)) t' = I 42 t' from by simp [upd, e]]
            exact hcg _ _ (fun x hx => hx) g1
          · have : x % 10 ≠ n := by
              intro e3
              rw [z.1, e3, hnx] at z3
              exact e (Option.some.inj z3).symm
            omega
/-- as the end begins -/
def EgB (B : Bx) (f : Nat) (T : Tw) (I : I2) : Prop := I 41 6 = 0 ∧ (∀ s, s ∈ T.ord → I 44 s = nI (deg B f s (2 * B.pn)) ∧ I 46 s = 0 ∧ I 47 s = 0) ∧ LkR B f T T.ord 0 0 I
theorem take_mem_of {l : List Nat} {n x : Nat} (h : x ∈ l.take n) : x ∈ l := List.mem_of_mem_take h
theorem take_last {l : List Nat} {n : Nat} (h : n < l.length) : l.take (n + 1) = l.take n ++ [l[n]] := by
  rw [List.take_add_one, List.getElem?_eq_getElem h]; rfl
theorem nodup_take_not {l : List Nat} {n : Nat} (hn : l.Nodup) (h : n < l.length) : l[n] ∉ l.take n := by
  intro q
  have h2 : (l.take (n + 1)).Nodup := hn.sublist (List.take_sublist _ _)
  rw [take_last h, List.nodup_append] at h2
  exact h2.2.2 _ q _ (by simp) rfl
theorem c_Eg_begin (hd : 3 ≤ d) (hw : WFV V) (hf : f < 64) {T : Tw} (eT : bfs V.B f V.s = T) (hA : WkA V f I) (h : ∀ I', FrX I I' → EgB V.B f T I' → G I' J) : CV d Eg_begin [.ref 41] I J G := by
  have hp5 := hw.1.1
  have hT : TI V.B T := eT ▸ TIb hw f
  have hlen := hT.len hw.1
  have hWk : ∀ I1, FrX I I1 → WkR T I1 := fun I1 q => eT ▸ (q.wka hA).2.2.2.2
  have loop2 : ∀ k n I1, n + k = T.ord.length → FrX I I1 → (∀ s, s ∈ T.ord → I1 46 s = 0 ∧ I1 47 s = 0 ∧ I1 44 s = if s ∈ T.ord.take n then nI (deg V.B f s (2 * V.B.pn)) else 0) → LkR V.B f T (T.ord.take n) 0 0 I1 → Wp (d - 1) Eg_begin (QV G) 59 [some (.ref 41), some (.int (nI n)), none] [] I1 J := by
    intro k
    induction k with
    | zero =>
      intro n I1 hn hFr hz hL
      have hn : n = T.ord.length := by omega
      subst hn
      have hI := hWk I1 hFr
      refine v_Eg_begin_41_59 ⟨fun q => ?_, fun _ => QV_i.mpr (h _ (hFr.tr (FrX_up (by decide) (by decide))) ⟨by simp [up2, upd], fun s hs => ?_, ?_⟩)⟩
      · rw [hI.1] at q; exact absurd ((n_lt (by omega) (by omega)).mp q) (Nat.lt_irrefl _)
      · have hz := hz s hs
        rw [List.take_length, if_pos hs] at hz
        simp only [up2]
        exact ⟨hz.2.2, hz.1, hz.2.1⟩
      · rw [List.take_length] at hL
        exact hL
    | succ k ih =>
      intro n I1 hn hFr hz hL
      have hlt : n < T.ord.length := by omega
      have hI := hWk I1 hFr
      have hm := List.getElem_mem hlt
      have hm2 := s31 hw.1 (hT.2.2.1 _ hm).1.1
      have hnt := nodup_take_not hT.1 hlt
      refine v_Eg_begin_41_59 ⟨fun _ => ⟨n_vp (by omega) (by decide), ?_⟩, fun q => absurd ((n_lt (by omega) (by omega)).mpr hlt) (by rw [hI.1] at q; exact q)⟩
      rw [n_tN (a := n) (by omega), hI.ord' hlt, n_inc]
      refine CV.of (by omega) rfl (v_Eg_chain_41_0 (l_Eg_chain (by omega) hw hf eT (hFr.wka hA) hm hnt ?_ (fun I' q1 q2 q3 q4 => ?_) (2 * V.B.pn) 0 I1 (Nat.zero_add _) FrX.rf ⟨rfl, rfl, rfl, rfl⟩ ?_ ?_))
      · rw [(hz _ hm).2.2, if_neg hnt]
      · refine ih (n + 1) I' (by omega) (hFr.tr q1) (fun s hs => ?_) ?_
        · obtain ⟨z1, z2, z3⟩ := hz s hs
          rw [q2.2.2.1, q2.2.2.2, q3]
          refine ⟨z1, z2, ?_⟩
          simp only [upd, take_last hlt, List.mem_append, List.mem_singleton]
          by_cases e : s = T.ord[n]
          · rw [if_pos e, if_pos (Or.inr e), e]
          · rw [if_neg e, z3]
            simp only [e, or_false]
        · obtain ⟨L, hL⟩ := q4
          refine ⟨L, fun t ht => ?_⟩
          obtain ⟨g1, g2, g3⟩ := hL t ht
          refine ⟨g1, g2, fun x => (g3 x).trans ?_⟩
          rw [take_last hlt, List.mem_append, List.mem_singleton]
          constructor
          · rintro ⟨z | z, z2⟩
            · exact ⟨Or.inl (Or.inl z), z2⟩
            · exact ⟨Or.inl (Or.inr z.1), z2⟩
          · rintro ⟨(z | z) | z, z2⟩
            · exact ⟨Or.inl z, z2⟩
            · exact ⟨Or.inr ⟨z, z2.1⟩, z2⟩
            · omega
      · have e := (hz _ hm).2.2
        rw [if_neg hnt] at e
        funext x
        simp only [upd, deg]
        split
        · next e2 => rw [e2, e]; rfl
        · rfl
      · obtain ⟨L, hL⟩ := hL
        refine ⟨L, fun t ht => ?_⟩
        obtain ⟨g1, g2, g3⟩ := hL t ht
        refine ⟨g1, g2, fun x => (g3 x).trans ?_⟩
        constructor
        · rintro ⟨z | z, z2⟩
          · exact ⟨Or.inl z, z2⟩
          · omega
        · rintro ⟨z | z, z2⟩
          · exact ⟨Or.inl z, z2⟩
          · omega
  have loop1 : ∀ k n I1, n + k = T.ord.length → FrX I I1 → (∀ s, s ∈ T.ord.take n → I1 42 s = -1 ∧ I1 44 s = 0 ∧ I1 46 s = 0 ∧ I1 47 s = 0) → Wp (d - 1) Eg_begin (QV G) 2 [some (.ref 41), some (.int (nI n)), none] [] I1 J := by
    intro k
    induction k with
    | zero =>
      intro n I1 hn hFr hz
      have hn : n = T.ord.length := by omega
      subst hn
      have hI := hWk I1 hFr
      rw [List.take_length] at hz
      refine v_Eg_begin_41_2 ⟨fun q => ?_, fun _ => loop2 _ 0 I1 (Nat.zero_add _) hFr (fun s hs => ?_) ⟨fun _ => [], fun t ht => ⟨(hz t ht).1, List.nodup_nil, fun x => ?_⟩⟩⟩
      · rw [hI.1] at q; exact absurd ((n_lt (by omega) (by omega)).mp q) (Nat.lt_irrefl _)
      · have hz := hz s hs
        refine ⟨hz.2.2.1, hz.2.2.2, ?_⟩
        rw [List.take_zero, if_neg (by simp)]; exact hz.2.1
      · simp
    | succ k ih =>
      intro n I1 hn hFr hz
      have hlt : n < T.ord.length := by omega
      have hI := hWk I1 hFr
      have hm := List.getElem_mem hlt
      have hm2 := s31 hw.1 (hT.2.2.1 _ hm).1.1
      have hv := n_vp (a := T.ord[n]) (n := 1024) hm2 (by decide)
      refine v_Eg_begin_41_2 ⟨fun _ => ⟨n_vp (by omega) (by decide), ?_⟩, fun q => absurd ((n_lt (by omega) (by omega)).mpr hlt) (by rw [hI.1] at q; exact q)⟩
      rw [n_tN (a := n) (by omega), hI.ord' hlt, n_inc, n_tN (a := T.ord[n]) (by omega)]
      refine ⟨hv, hv, hv, hv, ih (n + 1) _ (by omega) (hFr.tr ((((FrX_up (by decide) (by decide)).tr (FrX_up (by decide) (by decide))).tr (FrX_up (by decide) (by decide))).tr (FrX_up (by decide) (by decide)))) (fun s hs => ?_)⟩
      rw [take_last hlt, List.mem_append, List.mem_singleton] at hs
      by_cases e : s = T.ord[n]
      · simp [up2, upd, e]
      · have hz := hz s (hs.resolve_right e)
        simpa [up2, upd, e] using hz
  exact CV.of (by omega) rfl (v_Eg_begin_41_0 (loop1 _ 0 I (Nat.zero_add _) FrX.rf (fun s hs => by simp at hs)))
end END
end
section
/-! which are dead: the class -/
/-- it can be opened from there -/
def live (B : Bx) (o f s : Nat) : Prop := ∀ P : Nat → Prop, (∀ s, openB B o s = true → P s) → (∀ s m t, m < 2 * B.pn → nx B f s m = some t → P t → P s) → P s
noncomputable def dlive (B : Bx) (o f s : Nat) : Bool := @decide (live B o f s) (Classical.propDecidable _)
theorem dlive_i {B : Bx} {o f s : Nat} : dlive B o f s = true ↔ live B o f s := by unfold dlive; exact @decide_eq_true_iff _ (Classical.propDecidable _)
noncomputable def deadN (B : Bx) (o f : Nat) (T : Tw) : Nat := (T.ord.filter (fun s => !dlive B o f s)).length
theorem filt_two {p : Nat → Bool} : ∀ l : List Nat, l.length = (l.filter p).length + (l.filter (fun s => !p s)).length := by
  intro l
  induction l with
  | nil => rfl
  | cons x l ih => cases h : p x <;> simp [h] <;> omega
theorem same_len {l r : List Nat} (hl : l.Nodup) (hr : r.Nodup) (h : ∀ x, x ∈ l ↔ x ∈ r) : l.length = r.length := ((List.perm_ext_iff_of_nodup hl hr).mpr h).length_eq
/-- the queue, and who is in it -/
def DqR (T : Tw) (q : List Nat) (I : I2) : Prop := I 41 6 = nI q.length ∧ (∀ k x, q[k]? = some x → I 45 k = nI x) ∧ q.Nodup ∧ (∀ x ∈ q, x ∈ T.ord) ∧ ∀ s, s ∈ T.ord → I 46 s = if s ∈ q then 1 else 0
theorem q_room {B : Bx} {T : Tw} {q : List Nat} {s : Nat} (hw : WFB B) (hT : TI B T) (hq : q.Nodup) (hm : ∀ x ∈ q, x ∈ T.ord) (hs : s ∈ T.ord) (hn : s ∉ q) : q.length < 1024 := by
  have := nodup_len 1024 (s :: q) (List.nodup_cons.mpr ⟨hn, hq⟩) (fun x hx => by
    rcases List.mem_cons.mp hx with rfl | h
    · exact s31 hw (hT.2.2.1 _ hs).1.1
    · exact s31 hw (hT.2.2.1 _ (hm x h)).1.1)
  simp only [List.length_cons] at this
  omega
theorem app_get {q : List Nat} {s k x : Nat} (h : (q ++ [s])[k]? = some x) : (k = q.length ∧ x = s) ∨ (k ≠ q.length ∧ q[k]? = some x) := by
  by_cases e : k = q.length
  · subst e; simp at h; exact Or.inl ⟨rfl, h.symm⟩
  · right
    have hk := (List.getElem?_eq_some_iff.mp h).1
    simp at hk
    rw [List.getElem?_append_left (by omega)] at h
    exact ⟨e, h⟩
theorem app_old {q : List Nat} {s k x : Nat} (h : q[k]? = some x) : (q ++ [s])[k]? = some x := by
  rw [List.getElem?_append_left (List.getElem?_eq_some_iff.mp h).1]; exact h
theorem DqR_add {T : Tw} {q : List Nat} {I : I2} {s : Nat} {b : Int32} (h : DqR T q I) (hs : s ∈ T.ord) (hn : s ∉ q) : DqR T (q ++ [s]) (up2 (up2 (up2 (up2 I 46 s 1) 47 s b) 45 q.length (nI s)) 41 6 (nI (q.length + 1))) := by
  obtain ⟨h1, h2, h3, h4, h5⟩ := h
  refine ⟨by simp [up2, upd], fun k x hx => ?_, ?_, fun x hx => ?_, fun x hx => ?_⟩
  · rcases app_get hx with ⟨rfl, rfl⟩ | ⟨e, e2⟩
    · simp [up2, upd]
    · simp [up2, upd, e]; exact h2 k x e2
  · rw [List.nodup_append]
    exact ⟨h3, by simp, fun a ha b hb => by simp at hb; subst hb; exact fun q => hn (q ▸ ha)⟩
  · rcases List.mem_append.mp hx with h | h
    · exact h4 x h
    · simp at h; rw [h]; exact hs
  · have := h5 x hx
    by_cases e : x = s
    · simp [up2, upd, e]
    · simp [up2, upd, e]; exact this
section DEAD
variable {d : Nat} {V : Bv} {I : I2} {J : J2} {G : I2 → J2 → Prop} {F : Int32 → I2 → J2 → Prop} {f a : Nat}
theorem c_Eg_settle {s n : Nat} {w b : Int32} (hd : 1 ≤ d) (h6 : I 41 6 = nI n) (hn : n < 1024) (hs : s < 1024) (h : G (up2 (up2 (up2 (up2 I 46 s w) 47 s b) 45 n (nI s)) 41 6 (nI (n + 1))) J) : CV d Eg_settle [.ref 41, .int (nI s), .int w, .int b] I J G := by
  have hv := n_vp (a := s) (n := 1024) hs (by decide)
  refine CV.of (by omega) rfl (v_Eg_settle_41_0 ?_)
  rw [h6, n_tN (by omega), n_tN (by omega), n_inc]
  exact ⟨fun _ => ⟨hv, hv, n_vp (by omega) (by decide), QV_i.mpr h⟩, fun q => absurd ((n_lt (b := 1024) (by omega) (by decide)).mpr hn) q⟩
theorem FrX_settle {s n : Nat} {w b : Int32} : FrX I (up2 (up2 (up2 (up2 I 46 s w) 47 s b) 45 n (nI s)) 41 6 (nI (n + 1))) := (((FrX_up (by decide) (by decide)).tr (FrX_up (by decide) (by decide))).tr (FrX_up (by decide) (by decide))).tr (FrX_up (by decide) (by decide))
theorem n_sub {a b : Nat} (h : b ≤ a) : nI a - nI b = nI (a - b) := pk_sub h
theorem c_Eg_dead (hd : 4 ≤ d) (hw : WFV V) (hV : CBx 1 V I) (hf : f < 64) {T : Tw} (eT : bfs V.B f V.s = T) (hA : WkA V f I) (h : ∀ I', FrX I I' → F (nI (deadN V.B V.lid f T)) I' J) : CI d Eg_dead [.ref 41] I J F := by
  have hp5 := hw.1.1
  have hT : TI V.B T := eT ▸ TIb hw f
  have hcl : Clo V.B f T := eT ▸ Clob hw f
  have hlen := hT.len hw.1
  have hWk : ∀ I1, FrX I I1 → WkR T I1 := fun I1 q => eT ▸ (q.wka hA).2.2.2.2
  refine CI.of (by omega) rfl (v_Eg_dead_41_0 (c_Eg_begin (by omega) hw hf eT hA (fun I0 hF0 hB0 => ?_)))
  obtain ⟨b1, b2, L, hL⟩ := hB0
  have hLm : ∀ t, t ∈ T.ord → ∀ x, x ∈ L t ↔ x / 10 ∈ T.ord ∧ x % 10 < 2 * V.B.pn ∧ nx V.B f (x / 10) (x % 10) = some t := fun t ht x => ((hL t ht).2.2 x).trans ⟨fun ⟨z1, z2⟩ => ⟨z1.elim id (fun z => by omega), z2⟩, fun ⟨z1, z2⟩ => ⟨Or.inl z1, z2⟩⟩
  have hLl : ∀ t, t ∈ T.ord → (L t).length ≤ 10240 ∧ ∀ x ∈ L t, x < 10240 := by
    intro t ht
    have h1 : ∀ x ∈ L t, x < 10240 := by
      intro x hx
      have h2 := ((hLm t ht x).mp hx).1
      have h3 := s31 hw.1 (hT.2.2.1 _ h2).1.1
      omega
    exact ⟨nodup_len _ _ (hL t ht).2.1 h1, h1⟩
  -- the end
  have fin : ∀ q I1, FrX I I1 → DqR T q I1 → (∀ x ∈ q, live V.B V.lid f x) → (∀ x ∈ T.ord, openB V.B V.lid x = true → x ∈ q) → (∀ t ∈ q, ∀ x ∈ L t, x / 10 ∈ q) → F (I1 33 9 - I1 41 6) I1 J := by
    intro q I1 g1 g2 g3 g4 g5
    have e : q.length = (T.ord.filter (dlive V.B V.lid f)).length := by
      refine same_len g2.2.2.1 (hT.1.sublist List.filter_sublist) (fun x => ?_)
      rw [List.mem_filter, dlive_i]
      refine ⟨fun hx => ⟨g2.2.2.2.1 x hx, g3 x hx⟩, fun ⟨hx, hl⟩ => ?_⟩
      refine hl (fun s => s ∈ T.ord → s ∈ q) (fun s ho hs => g4 s hs ho) (fun s m t hm hnx ih hs => ?_) hx
      have ht := ih (hcl s hs m t hm hnx)
      have := g5 t ht (10 * s + m) ((hLm t (g2.2.2.2.1 t ht) _).mpr (by
        rw [show (10 * s + m) / 10 = s by omega, show (10 * s + m) % 10 = m by omega]
        exact ⟨hs, hm, hnx⟩))
      rw [show (10 * s + m) / 10 = s by omega] at this
      exact this
    have e2 := filt_two (p := dlive V.B V.lid f) T.ord
    rw [(hWk I1 g1).1, g2.1, n_sub (by omega), show T.ord.length - q.length = deadN V.B V.lid f T by unfold deadN; omega]
    exact h I1 g1
  have loop88 : ∀ (j : Nat) (t : Nat), t ∈ T.ord → (∀ q I1, FrX I I1 → I1 42 = I0 42 ∧ I1 43 = I0 43 → DqR T q I1 → (∀ x ∈ q, live V.B V.lid f x) → (∀ x ∈ T.ord, openB V.B V.lid x = true → x ∈ q) → (∀ i, i < j + 1 → ∀ t, q[i]? = some t → ∀ x ∈ L t, x / 10 ∈ q) → Wp (d - 1) Eg_dead (QI F) 59 [some (.ref 41), some (.int (nI (j + 1))), none, none, none] [] I1 J) → ∀ (l : List Nat) (q : List Nat) (I1 : I2) (c : Nat) (v : Int32), c + l.length ≤ 10240 → (∀ x ∈ l, x ∈ L t) → (∀ x ∈ L t, x ∈ l ∨ x / 10 ∈ q) → Ch (I0 43) v l → q[j]? = some t → FrX I I1 → I1 42 = I0 42 ∧ I1 43 = I0 43 → DqR T q I1 → (∀ x ∈ q, live V.B V.lid f x) → (∀ x ∈ T.ord, openB V.B V.lid x = true → x ∈ q) → (∀ i, i < j → ∀ t, q[i]? = some t → ∀ x ∈ L t, x / 10 ∈ q) → Wp (d - 1) Eg_dead (QI F) 88 [some (.ref 41), some (.int (nI j)), some (.int v), some (.int (nI c)), none] [] I1 J := by
    intro j t ht next l
    induction l with
    | nil =>
      intro q I1 c v hc hl hl2 hch hqj hFr hX hq h1 h2 h3
      have go := next q I1 hFr hX hq h1 h2 (fun i hi t' ht' x hx => by
        by_cases e : i = j
        · subst e
          rw [hqj] at ht'
          cases ht'
          exact (hl2 x hx).resolve_left (by simp)
        · exact h3 i (by omega) t' ht' x hx)
      have hv : v = -1 := hch
      subst hv
      refine v_Eg_dead_41_88 ⟨fun _ => ⟨fun _ => by rw [n_inc]; exact go, fun q => absurd (by decide) q⟩, fun _ => by rw [n_inc]; exact go⟩
    | cons x l ih =>
      intro q I1 c v hc hl hl2 hch hqj hFr hX hq h1 h2 h3
      have hxL := hl x List.mem_cons_self
      have hx1 := (hLl t ht).2 x hxL
      obtain ⟨hxa, hxb, hxc⟩ := (hLm t ht x).mp hxL
      have hx2 := s31 hw.1 (hT.2.2.1 _ hxa).1.1
      have hv : v = nI x := hch.1
      subst hv
      simp only [List.length_cons] at hc
      have ediv : nI x / 10 = nI (x / 10) := n_div (k := 10) (by omega) (by decide) (by decide)
      refine v_Eg_dead_41_88 ⟨fun _ => ⟨fun q => absurd q (nI_pos (by omega)), fun _ => ?_⟩, fun q => absurd ((n_lt (b := 10240) (by omega) (by decide)).mpr (by omega)) q⟩
      rw [ediv, n_tN (a := x / 10) (by omega), n_tN (a := x) (by omega), n_inc c]
      refine ⟨n_vp hx2 (by decide), ?_⟩
      rw [hq.2.2.2.2 _ hxa]
      refine ⟨fun e => ?_, fun e => ⟨n_vp hx1 (by decide), ?_⟩⟩
      · have hnq : x / 10 ∉ q := by
          intro z
          rw [if_pos z] at e; exact absurd e (by decide)
        have hroom := q_room hw.1 hT hq.2.2.1 hq.2.2.2.1 hxa hnq
        refine c_Eg_settle (by omega) hq.1 hroom hx2 ⟨n_vp hx1 (by decide), ?_⟩
        refine ih (q ++ [x / 10]) _ (c + 1) _ (by omega) (fun y hy => hl y (List.mem_cons_of_mem _ hy)) (fun y hy => ?_) ?_ (app_old hqj) (hFr.tr FrX_settle) ⟨by simpa [up2] using hX.1, by simpa [up2] using hX.2⟩ (DqR_add hq hxa hnq) (fun y hy => ?_) (fun y hy ho => List.mem_append_left _ (h2 y hy ho)) (fun i hi t' ht' y hy => ?_)
        · rcases hl2 y hy with z | z
          · rcases List.mem_cons.mp z with rfl | z
            · exact Or.inr (List.mem_append_right _ (by simp))
            · exact Or.inl z
          · exact Or.inr (List.mem_append_left _ z)
        · rw [show up2 (up2 (up2 (up2 I1 46 (x / 10) 1) 47 (x / 10) 0) 45 q.length (nI (x / 10))) 41 6 (nI (q.length + 1)) 43 = I0 43 from by simpa [up2] using hX.2]
          exact hch.2
        · rcases List.mem_append.mp hy with z | z
          · exact h1 y z
          · simp at z
            rw [z]
            intro P p1 p2
            exact p2 _ _ t hxb hxc (h1 t (List.mem_of_getElem? hqj) P p1 p2)
        · rcases app_get ht' with ⟨e1, -⟩ | ⟨-, e1⟩
          · have := (List.getElem?_eq_some_iff.mp hqj).1; omega
          · exact List.mem_append_left _ (h3 i hi t' e1 y hy)
      · have hnq : x / 10 ∈ q := by
          rcases Classical.em (x / 10 ∈ q) with z | z
          · exact z
          · rw [if_neg z] at e; exact absurd rfl e
        refine ih q I1 (c + 1) _ (by omega) (fun y hy => hl y (List.mem_cons_of_mem _ hy)) (fun y hy => ?_) (by rw [hX.2]; exact hch.2) hqj hFr hX hq h1 h2 h3
        rcases hl2 y hy with z | z
        · rcases List.mem_cons.mp z with rfl | z
          · exact Or.inr hnq
          · exact Or.inl z
        · exact Or.inr z
  have loop59 : ∀ k j q I1, j + k = 1024 → FrX I I1 → I1 42 = I0 42 ∧ I1 43 = I0 43 → DqR T q I1 → (∀ x ∈ q, live V.B V.lid f x) → (∀ x ∈ T.ord, openB V.B V.lid x = true → x ∈ q) → (∀ i, i < j → ∀ t, q[i]? = some t → ∀ x ∈ L t, x / 10 ∈ q) → Wp (d - 1) Eg_dead (QI F) 59 [some (.ref 41), some (.int (nI j)), none, none, none] [] I1 J := by
    intro k
    induction k with
    | zero =>
      intro j q I1 hj hFr hX hq h1 h2 h3
      have hql := nodup_len 1024 q hq.2.2.1 (fun x hx => s31 hw.1 (hT.2.2.1 _ (hq.2.2.2.1 x hx)).1.1)
      have e := QI_i.mpr (fin q I1 hFr hq h1 h2 (fun t ht x hx => by
        obtain ⟨i, hi⟩ := List.getElem?_of_mem ht
        have := (List.getElem?_eq_some_iff.mp hi).1
        exact h3 i (by omega) t hi x hx))
      refine v_Eg_dead_41_59 ⟨fun _ => ⟨fun q => absurd ((n_lt (b := 1024) (by omega) (by decide)).mp q) (by omega), fun _ => e⟩, fun _ => e⟩
    | succ k ih =>
      intro j q I1 hj hFr hX hq h1 h2 h3
      have hql := nodup_len 1024 q hq.2.2.1 (fun x hx => s31 hw.1 (hT.2.2.1 _ (hq.2.2.2.1 x hx)).1.1)
      refine v_Eg_dead_41_59 ⟨fun e => ⟨fun _ => ?_, fun q => absurd ((n_lt (b := 1024) (by omega) (by decide)).mpr (by omega)) q⟩, fun e => QI_i.mpr (fin q I1 hFr hq h1 h2 (fun t ht x hx => ?_))⟩
      · rw [hq.1, n_lt (by omega) (by omega)] at e
        have ej : q[j]? = some q[j] := List.getElem?_eq_getElem e
        have ht := hq.2.2.2.1 _ (List.getElem_mem e)
        have ht2 := s31 hw.1 (hT.2.2.1 _ ht).1.1
        rw [n_tN (a := j) (by omega), hq.2.1 j _ ej, n_tN (a := q[j]) (by omega)]
        refine ⟨n_vp (by omega) (by decide), n_vp ht2 (by decide), ?_⟩
        refine loop88 j q[j] ht (fun q' I' a1 a2 a3 a4 a5 a6 => ih (j + 1) q' I' (by omega) a1 a2 a3 a4 a5 a6) (L q[j]) q I1 0 _ (by have := (hLl _ ht).1; omega) (fun x hx => hx) (fun x hx => Or.inl hx) (by rw [hX.1]; exact (hL _ ht).1) ej hFr hX hq h1 h2 h3
      · rw [hq.1, n_lt (by omega) (by omega)] at e
        obtain ⟨i, hi⟩ := List.getElem?_of_mem ht
        have := (List.getElem?_eq_some_iff.mp hi).1
        exact h3 i (by omega) t hi x hx
  have loop6 : ∀ k n I1, n + k = T.ord.length → FrX I I1 → I1 42 = I0 42 ∧ I1 43 = I0 43 → DqR T ((T.ord.take n).filter (openB V.B V.lid)) I1 → Wp (d - 1) Eg_dead (QI F) 6 [some (.ref 41), some (.int (nI n)), none, none, none] [] I1 J := by
    intro k
    induction k with
    | zero =>
      intro n I1 hn hFr hX hq
      have hn : n = T.ord.length := by omega
      subst hn
      rw [List.take_length] at hq
      refine v_Eg_dead_41_6 ⟨fun q => ?_, fun _ => loop59 1024 0 _ I1 (by omega) hFr hX hq (fun x hx P p1 p2 => p1 x (List.mem_filter.mp hx).2) (fun x hx ho => List.mem_filter.mpr ⟨hx, ho⟩) (fun i hi => absurd hi (Nat.not_lt_zero i))⟩
      rw [(hWk I1 hFr).1] at q; exact absurd ((n_lt (by omega) (by omega)).mp q) (Nat.lt_irrefl _)
    | succ k ih =>
      intro n I1 hn hFr hX hq
      have hlt : n < T.ord.length := by omega
      have hI := hWk I1 hFr
      have hm := List.getElem_mem hlt
      have hm2 := s31 hw.1 (hT.2.2.1 _ hm).1.1
      have hnt := nodup_take_not hT.1 hlt
      have hV1 := hFr.g.cbx hV
      have hv := n_vp (a := n) (n := 1024) (by omega) (by decide)
      have go := fun I' => ih (n + 1) I' (by omega)
      rw [take_last hlt, List.filter_append] at go
      refine v_Eg_dead_41_6 ⟨fun _ => ⟨hv, ?_⟩, fun q => absurd ((n_lt (by omega) (by omega)).mpr hlt) (by rw [hI.1] at q; exact q)⟩
      rw [n_tN (a := n) (by omega), hI.ord' hlt, n_inc]
      refine c_Bx_isOpen_1 (by omega) hw.1 hV1.1 hV1.2.1 hw.2.1 (by omega) ?_
      rw [show (decide (0 < V.B.pn) && decide (pl T.ord[n] V.lid = V.B.dp V.lid)) = openB V.B V.lid T.ord[n] from rfl, bI_0, hI.ord' hlt]
      refine ⟨fun e => ?_, fun e => ⟨hv, ?_⟩⟩
      · rw [List.filter_cons_of_neg (by simp [e]), List.filter_nil, List.append_nil] at go
        exact go I1 hFr hX hq
      · have e : openB V.B V.lid T.ord[n] = true := by simpa using e
        rw [List.filter_cons_of_pos (by simp [e]), List.filter_nil] at go
        have hnq : T.ord[n] ∉ (T.ord.take n).filter (openB V.B V.lid) := fun z => hnt (List.mem_filter.mp z).1
        refine c_Eg_settle (by omega) hq.1 (q_room hw.1 hT hq.2.2.1 hq.2.2.2.1 hm hnq) hm2 (go _ (hFr.tr FrX_settle) ⟨by simpa [up2] using hX.1, by simpa [up2] using hX.2⟩ (DqR_add hq hm hnq))
  refine loop6 _ 0 I0 (Nat.zero_add _) hF0 ⟨rfl, rfl⟩ ?_
  rw [List.take_zero, List.filter_nil]
  exact ⟨b1, fun k x hx => by simp at hx, List.nodup_nil, fun x hx => by simp at hx, fun s hs => by rw [(b2 s hs).2.1]; rfl⟩
end DEAD
end
section
/-! which are dead: the model; reach of both sides -/
theorem filt_lt {p p' : Nat → Bool} (h : ∀ x, p' x = true → p x = true) {s : Nat} (h1 : p s = true) (h2 : p' s = false) : ∀ {l : List Nat}, s ∈ l → (l.filter p').length < (l.filter p).length := by
  have le : ∀ l : List Nat, (l.filter p').length ≤ (l.filter p).length := by
    intro l
    induction l with
    | nil => exact Nat.le_refl _
    | cons x l ih =>
      cases e : p' x with
      | true => simp [e, h x e]; exact ih
      | false => cases e2 : p x <;> simp [e, e2] <;> omega
  intro l
  induction l with
  | nil => intro hs; cases hs
  | cons x l ih =>
    intro hs
    rcases List.mem_cons.mp hs with rfl | hs
    · have := le l
      simp [h1, h2]; omega
    · have := ih hs
      cases e : p' x with
      | true => simp [e, h x e]; omega
      | false => cases e2 : p x <;> simp [e, e2] <;> omega
def ltk (B : Bx) (f : Nat) (K : Nat → Bool) (s : Nat) : Nat → Bool
  | 0 => false
  | n + 1 => ltk B f K s n || (match nx B f s n with
    | some t => K t
    | none => false)
theorem ltk_i {B : Bx} {f s : Nat} {K : Nat → Bool} {n : Nat} : ltk B f K s n = true ↔ ∃ m t, m < n ∧ nx B f s m = some t ∧ K t = true := by
  induction n with
  | zero => exact ⟨fun h => (by cases h), fun ⟨m, t, h, _⟩ => absurd h (Nat.not_lt_zero m)⟩
  | succ n ih =>
    simp only [ltk, Bool.or_eq_true, ih]
    constructor
    · rintro (⟨m, t, h1, h2⟩ | h)
      · exact ⟨m, t, by omega, h2⟩
      · cases hn : nx B f s n with
        | none => rw [hn] at h; cases h
        | some t => rw [hn] at h; exact ⟨n, t, by omega, hn, h⟩
    · rintro ⟨m, t, h1, h2, h3⟩
      by_cases e : m = n
      · right; rw [← e, h2]; exact h3
      · exact Or.inl ⟨m, t, by omega, h2, h3⟩
def updB (K : Nat → Bool) (s : Nat) (b : Bool) : Nat → Bool := fun x => if x = s then b else K x
noncomputable def reachS (V : Bv) (x : Int32) : Int32 := if x < 0 ∨ 2 < x then -1 else if V.B.pn = 0 then (if x = 1 then 0 else 1) else if x = 0 then nI V.T.ord.length else if x = 1 then nI (farS V.T) else nI (deadN V.B V.lid V.f V.T)
section DEAD2
variable {d : Nat} {V : Bv} {I : I2} {J : J2} {G : I2 → J2 → Prop} {F : Int32 → I2 → J2 → Prop} {f a : Nat}
theorem FrQ.wma' {I' : I2} (h11 : I' 57 11 = I 57 11) (h : ∀ a, 63 ≤ a → a ≤ 68 → I' a = I a) (hA : WmA V f I) : WmA V f I' := by
  unfold WmA WmR at hA ⊢
  rw [h11, h 63 (by decide) (by decide), h 64 (by decide) (by decide), h 65 (by decide) (by decide), h 66 (by decide) (by decide), h 67 (by decide) (by decide), h 68 (by decide) (by decide)]
  exact hA
/-- the rows of known and depth alone -/
def FrK (I I' : I2) : Prop := (∀ a, a ≠ 69 → a ≠ 70 → I' a = I a) ∧ ∀ t, KnV (I 69 t) → KnV (I' 69 t)
theorem FrK.rf {I : I2} : FrK I I := ⟨fun _ _ _ => rfl, fun _ h => h⟩
theorem FrK.tr {I0 I1 I2 : I2} (h1 : FrK I0 I1) (h2 : FrK I1 I2) : FrK I0 I2 := ⟨fun a x y => (h2.1 a x y).trans (h1.1 a x y), fun t h => h2.2 t (h1.2 t h)⟩
theorem FrK_69 {I : I2} {k : Nat} {x : Int32} (hx : KnV x := by simp [KnV]) : FrK I (up2 I 69 k x) := ⟨fun b h1 h2 => by simp [up2, h1], fun t h => by
  simp only [up2, upd, if_pos]
  split
  · exact hx
  · exact h⟩
theorem FrK_70 {I : I2} {k : Nat} {x : Int32} : FrK I (up2 I 70 k x) := ⟨fun b h1 h2 => by simp [up2, h2], fun t h => by simp [up2]; exact h⟩
theorem FrK.q {I I' : I2} (h : FrK I I') : FrQ I I' := ⟨fun a x _ => h.1 a (by omega) (by omega), fun k _ => by rw [h.1 57 (by decide) (by decide)], h.2⟩
theorem FrK.wma {I I' : I2} (h : FrK I I') (hA : WmA V f I) : WmA V f I' := FrQ.wma' (by rw [h.1 57 (by decide) (by decide)]) (fun a x y => h.1 a (by omega) (by omega)) hA
theorem farS_at {T : Tw} (h : 0 < T.ord.length) : farS T = T.fa (T.ord[T.ord.length - 1]'(by omega)) - 1 := by
  unfold farS
  rw [List.getElem?_eq_getElem (by omega)]
theorem c_Wk_farthest {T : Tw} {B : Bx} (hd : 1 ≤ d) (hw : WFB B) (hT : TI B T) (hI : WkR T I) (hpos : 0 < T.ord.length) (h : F (nI (farS T)) I J) : CI d Wk_farthest [.ref 33] I J F := by
  have hlen := hT.len hw
  have hm := List.getElem_mem (l := T.ord) (n := T.ord.length - 1) (by omega)
  have hm2 := s31 hw (hT.2.2.1 _ hm).1.1
  rw [farS_at hpos] at h
  refine CI.of (by omega) rfl (v_Wk_farthest_33_0 ?_)
  rw [hI.1, n_e0 (by omega), n_dec hpos, n_tN (by omega), hI.ord' (by omega : T.ord.length - 1 < T.ord.length), n_tN (by omega), hI.far' hw hT hm]
  exact ⟨fun q => absurd q (by omega), fun _ => ⟨n_vp (by omega) (by decide), n_vp hm2 (by decide), QI_i.mpr h⟩⟩
theorem m_far {T : Tw} {B : Bx} (hw : WFB B) (hT : TI B T) (hI : WmR T I) (hpos : 0 < T.ord.length) (h : F (nI (farS T)) I J) : vp_in (I 57 11 - 1) 1024 ∧ vp_in (I 63 (tN (I 57 11 - 1))) 1024 ∧ F (I 64 (tN (I 63 (tN (I 57 11 - 1))))) I J := by
  have hlen := hT.len hw
  have hm := List.getElem_mem (l := T.ord) (n := T.ord.length - 1) (by omega)
  have hm2 := s31 hw (hT.2.2.1 _ hm).1.1
  rw [farS_at hpos] at h
  rw [hI.1, n_dec hpos, n_tN (by omega), hI.ord' (by omega : T.ord.length - 1 < T.ord.length), n_tN (by omega), hI.far' hw hT hm]
  exact ⟨n_vp (by omega) (by decide), n_vp hm2 (by decide), h⟩
theorem c_Sb_reach (hd : 7 ≤ d) (hw : WFV V) (hV : CBx 1 V I) (hC : CaR V.B I) (x : Int32) (h : ∀ I', FrG I I' → CaR V.B I' → F (reachS V x) I' J) : CI d Sb_reach [.ref 0, .int x] I J F := by
  have hf := f64 hw.1 hw.2.2.2.1
  have hp5 := hw.1.1
  unfold reachS at h
  have bad : (x < 0 ∨ 2 < x) → QI F (some (.int (-1))) I J := fun e => by
    rw [if_pos e] at h; exact QI_i.mpr (h I FrG.rf hC)
  refine CI.of (by omega) rfl (v_Sb_reach_0_0 ⟨fun e => bad (Or.inl e), fun e => ⟨fun e1 => bad (Or.inr e1), fun e1 => ?_⟩⟩)
  rw [if_neg (by simp only [not_or]; exact ⟨e, e1⟩)] at h
  rw [hV.1.1, n_e0 (by omega), hV.2.2.1, hV.2.2.2.1]
  refine ⟨fun e2 => ?_, fun e2 => c_W_from (by omega) hw hV hC hf (fun I' q1 q2 q3 => ?_)⟩
  · rw [if_pos e2] at h
    have h := h I FrG.rf hC
    refine ⟨fun e3 => QI_i.mpr ?_, fun e3 => QI_i.mpr ?_⟩
    · rw [if_pos e3] at h; exact h
    · rw [if_neg e3] at h; exact h
  · rw [if_neg e2] at h
    have hT := TIb hw V.f
    have hI := q3.2.2.2.2
    have hlen := hT.len hw.1
    have hpos : 0 < V.T.ord.length := List.length_pos_of_mem bfs_self
    refine ⟨fun e3 => QI_i.mpr ?_, fun e3 => ⟨fun e4 => ?_, fun e4 => c_Eg_dead (by omega) hw q2 hf rfl q3 (fun I2 z => QI_i.mpr ?_)⟩⟩
    · rw [if_pos e3] at h; rw [hI.1]; exact h I' q1 (q3.ca hw hf)
    · rw [if_neg e3, if_pos e4] at h
      exact c_Wk_farthest (by omega) hw.1 hT hI hpos (QI_i.mpr (h I' q1 (q3.ca hw hf)))
    · rw [if_neg e3, if_neg e4] at h
      exact h I2 (q1.tr z.g) ((z.wka q3).ca hw hf)
theorem bfs_none {B : Bx} {f s0 : Nat} (h : B.pn = 0) : bfs B f s0 = bfs0 s0 := by
  have e : bfsN B f s0 1 = bfs0 s0 := by
    show (match (bfs0 s0).ord[0]? with
      | none => bfs0 s0
      | some s => vis B f s (2 * B.pn) (bfs0 s0)) = _
    rw [h]; rfl
  rw [bfs_at (n := 1) (by rw [e]; exact Nat.le_refl 1) (by decide), e]
end DEAD2
end
section
/-! the game: what is asked of an answer, and that there is but one -/
abbrev Gv : Type := Nat → Nat × Nat
def trm (B : Bx) (o f s : Nat) : Prop := openB B o s = true ∨ ∀ m, m < 2 * B.pn → nx B f s m = none
def suc (B : Bx) (f s t : Nat) : Prop := ∃ m, m < 2 * B.pn ∧ nx B f s m = some t
def GC (B : Bx) (o f : Nat) (T : Tw) (g : Gv) : Prop := ∀ s, s ∈ T.ord → (trm B o f s → g s = (2, 0)) ∧ (¬ trm B o f s → (∃ t, suc B f s t ∧ (g t).1 = 2) → (g s).1 = 1 ∧ (∃ t, suc B f s t ∧ (g t).1 = 2 ∧ (g s).2 = (g t).2 + 1) ∧ ∀ t, suc B f s t → (g t).1 = 2 → (g s).2 ≤ (g t).2 + 1) ∧ (¬ trm B o f s → (∀ t, suc B f s t → (g t).1 = 1) → (g s).1 = 2 ∧ (∃ t, suc B f s t ∧ (g s).2 = (g t).2 + 1) ∧ ∀ t, suc B f s t → (g t).2 + 1 ≤ (g s).2) ∧ (¬ trm B o f s → ¬ (∃ t, suc B f s t ∧ (g t).1 = 2) → ¬ (∀ t, suc B f s t → (g t).1 = 1) → g s = (0, 0))
theorem GC_same {B : Bx} {o f : Nat} {T : Tw} (hcl : Clo B f T) : ∀ n, ∀ g1 g2, GC B o f T g1 → GC B o f T g2 → ∀ s, s ∈ T.ord → (g1 s).1 ≠ 0 → (g1 s).2 < n → g2 s = g1 s := by
  intro n
  induction n with
  | zero => intro g1 g2 _ _ s _ _ h; exact absurd h (Nat.not_lt_zero _)
  | succ n ih =>
    intro g1 g2 h1 h2 s hs hne hlt
    obtain ⟨a1, a2, a3, a4⟩ := h1 s hs
    obtain ⟨b1, b2, b3, b4⟩ := h2 s hs
    by_cases ht : trm B o f s
    · rw [a1 ht, b1 ht]
    · have mem : ∀ t, suc B f s t → t ∈ T.ord := fun t ⟨m, hm, e⟩ => hcl s hs m t hm e
      by_cases hl : ∃ t, suc B f s t ∧ (g1 t).1 = 2
      · obtain ⟨c1, ⟨t, d1, d2, d3⟩, c3⟩ := a2 ht hl
        have e1 := ih g1 g2 h1 h2 t (mem t d1) (by rw [d2]; decide) (by omega)
        obtain ⟨k1, ⟨t2, l1, l2, l3⟩, k3⟩ := b2 ht ⟨t, d1, by rw [e1]; exact d2⟩
        have z1 := k3 t d1 (by rw [e1]; exact d2)
        rw [e1] at z1
        have e2 := ih g2 g1 h2 h1 t2 (mem t2 l1) (by rw [l2]; decide) (by omega)
        have z2 := c3 t2 l1 (by rw [e2]; exact l2)
        rw [e2] at z2
        exact Prod.ext (by rw [k1, c1]) (by omega)
      · by_cases hw : ∀ t, suc B f s t → (g1 t).1 = 1
        · obtain ⟨c1, ⟨t, d1, d2⟩, c3⟩ := a3 ht hw
          have e : ∀ t, suc B f s t → g2 t = g1 t := fun t h => ih g1 g2 h1 h2 t (mem t h) (by rw [hw t h]; decide) (by have := c3 t h; omega)
          obtain ⟨k1, ⟨t2, l1, l2⟩, k3⟩ := b3 ht (fun t h => by rw [e t h]; exact hw t h)
          have z1 := k3 t d1
          have z2 := c3 t2 l1
          rw [e t d1] at z1
          rw [e t2 l1] at l2
          exact Prod.ext (by rw [k1, c1]) (by omega)
        · rw [a4 ht hl hw] at hne
          exact absurd rfl hne
theorem GC_one {B : Bx} {o f : Nat} {T : Tw} (hcl : Clo B f T) {g1 g2 : Gv} (h1 : GC B o f T g1) (h2 : GC B o f T g2) {s : Nat} (hs : s ∈ T.ord) : g1 s = g2 s := by
  by_cases e1 : (g1 s).1 = 0
  · by_cases e2 : (g2 s).1 = 0
    · have z : ∀ g, GC B o f T g → (g s).1 = 0 → g s = (0, 0) := by
        intro g hg e
        obtain ⟨a1, a2, a3, a4⟩ := hg s hs
        by_cases ht : trm B o f s
        · rw [a1 ht] at e; exact absurd e (by decide)
        · by_cases hl : ∃ t, suc B f s t ∧ (g t).1 = 2
          · rw [(a2 ht hl).1] at e; exact absurd e (by decide)
          · by_cases hw : ∀ t, suc B f s t → (g t).1 = 1
            · rw [(a3 ht hw).1] at e; exact absurd e (by decide)
            · exact a4 ht hl hw
      rw [z g1 h1 e1, z g2 h2 e2]
    · exact GC_same hcl ((g2 s).2 + 1) g2 g1 h2 h1 s hs e2 (Nat.lt_succ_self _)
  · exact (GC_same hcl ((g1 s).2 + 1) g1 g2 h1 h2 s hs e1 (Nat.lt_succ_self _)).symm
/-- the game's answer -/
noncomputable def gm (B : Bx) (o f : Nat) (T : Tw) : Gv := @dite _ (∃ g, GC B o f T g) (Classical.propDecidable _) (fun h => Classical.choose h) (fun _ _ => (0, 0))
theorem gm_eq {B : Bx} {o f : Nat} {T : Tw} (hcl : Clo B f T) {g : Gv} (h : GC B o f T g) {s : Nat} (hs : s ∈ T.ord) : gm B o f T s = g s := by
  have e : gm B o f T = Classical.choose (⟨g, h⟩ : ∃ g, GC B o f T g) := by
    unfold gm
    exact @dif_pos _ (Classical.propDecidable _) ⟨g, h⟩ _ _ _
  rw [e]
  exact GC_one hcl (Classical.choose_spec (⟨g, h⟩ : ∃ g, GC B o f T g)) h hs
/-! the class: solved back, by a queue -/
def cntU (B : Bx) (f : Nat) (D : Nat → Bool) (s : Nat) : Nat → Nat
  | 0 => 0
  | n + 1 => cntU B f D s n + (if (nx B f s n).isSome = true ∧ D (10 * s + n) = false then 1 else 0)
theorem cntU_le {B : Bx} {f s n : Nat} {D : Nat → Bool} : cntU B f D s n ≤ n := by
  induction n with
  | zero => exact Nat.le_refl _
  | succ n ih => simp only [cntU]; split <;> omega
theorem cntU_deg {B : Bx} {f s n : Nat} : cntU B f (fun _ => false) s n = deg B f s n := by
  induction n with
  | zero => rfl
  | succ n ih => simp only [cntU, deg, ih, and_true]
theorem cntU_0 {B : Bx} {f s n : Nat} {D : Nat → Bool} (h : cntU B f D s n = 0) : ∀ m t, m < n → nx B f s m = some t → D (10 * s + m) = true := by
  induction n with
  | zero => intro m t hm; exact absurd hm (Nat.not_lt_zero m)
  | succ n ih =>
    intro m t hm ht
    simp only [cntU] at h
    by_cases e : m = n
    · subst e
      cases hD : D (10 * s + m) with
      | true => rfl
      | false => rw [if_pos ⟨by rw [ht]; rfl, hD⟩] at h; omega
    · exact ih (by omega) m t (by omega) ht
theorem deg_0 {B : Bx} {f s n : Nat} (h : deg B f s n = 0) : ∀ m, m < n → nx B f s m = none := by
  induction n with
  | zero => intro m hm; exact absurd hm (Nat.not_lt_zero m)
  | succ n ih =>
    intro m hm
    simp only [deg] at h
    by_cases e : m = n
    · subst e
      cases hD : nx B f s m with
      | none => rfl
      | some t => rw [hD] at h; simp at h
    · exact ih (by omega) m (by omega)
theorem deg_0' {B : Bx} {f s n : Nat} (h : ∀ m, m < n → nx B f s m = none) : deg B f s n = 0 := by
  induction n with
  | zero => rfl
  | succ n ih =>
    simp only [deg]
    rw [ih (fun m hm => h m (by omega)), h n (by omega)]; rfl
theorem cntU_oth {B : Bx} {f s s' m n : Nat} {D : Nat → Bool} (hm : m < 10) (hn : n ≤ 10) (hne : s' ≠ s) : cntU B f (updB D (10 * s + m) true) s' n = cntU B f D s' n := by
  induction n with
  | zero => rfl
  | succ n ih =>
    simp only [cntU]
    rw [ih (by omega), show updB D (10 * s + m) true (10 * s' + n) = D (10 * s' + n) from if_neg (by omega)]
theorem cntU_upd {B : Bx} {f s m n t : Nat} {D : Nat → Bool} (hm : m < n) (ht : nx B f s m = some t) (hD : D (10 * s + m) = false) : cntU B f (updB D (10 * s + m) true) s n + 1 = cntU B f D s n := by
  have same : ∀ k, k ≤ m → cntU B f (updB D (10 * s + m) true) s k = cntU B f D s k := by
    intro k
    induction k with
    | zero => intro _; rfl
    | succ k ih =>
      intro hk
      simp only [cntU]
      rw [ih (by omega), show updB D (10 * s + m) true (10 * s + k) = D (10 * s + k) from if_neg (by omega)]
  induction n with
  | zero => exact absurd hm (Nat.not_lt_zero m)
  | succ n ih =>
    simp only [cntU]
    by_cases e : m = n
    · subst e
      rw [same m (Nat.le_refl _), if_neg (by simp [updB]), if_pos ⟨by rw [ht]; rfl, hD⟩]
    · rw [show updB D (10 * s + m) true (10 * s + n) = D (10 * s + n) from if_neg (by omega)]
      have := ih (by omega)
      omega
def updG (g : Gv) (s : Nat) (v : Nat × Nat) : Gv := fun x => if x = s then v else g x
theorem updG_s {g : Gv} {s : Nat} {v : Nat × Nat} : updG g s v s = v := if_pos rfl
theorem updG_n {g : Gv} {s t : Nat} {v : Nat × Nat} (h : t ≠ s) : updG g s v t = g t := if_neg h
/-- as it stands, the head at j, of the head's chain l left, the ways D done -/
def GI (B : Bx) (o f : Nat) (T : Tw) (q : List Nat) (j : Nat) (l : List Nat) (D : Nat → Bool) (g : Gv) : Prop :=
  q.Nodup ∧ (∀ x ∈ q, x ∈ T.ord) ∧ (∀ s, s ∈ T.ord → (s ∈ q ↔ (g s).1 ≠ 0) ∧ ((g s).1 = 0 → (g s).2 = 0) ∧ (g s).1 ≤ 2) ∧ (∀ (i i' a b : Nat), i ≤ i' → q[i]? = some a → q[i']? = some b → (g a).2 ≤ (g b).2) ∧ (∀ h : Nat, q[j]? = some h → ∀ x ∈ q, (g x).2 ≤ (g h).2 + 1) ∧ (∀ (i : Nat) (a : Nat), q[i]? = some a → (g a).2 ≤ i) ∧ (∀ s, s ∈ T.ord → trm B o f s → g s = (2, 0)) ∧ (∀ s, s ∈ T.ord → ¬ trm B o f s → (g s).1 = 1 → (∃ t, suc B f s t ∧ (g t).1 = 2 ∧ (g s).2 = (g t).2 + 1) ∧ ∀ t, suc B f s t → (g t).1 = 2 → (g s).2 ≤ (g t).2 + 1) ∧ (∀ s, s ∈ T.ord → ¬ trm B o f s → (g s).1 = 2 → (∀ t, suc B f s t → (g t).1 = 1 ∧ (g t).2 + 1 ≤ (g s).2) ∧ ∃ t, suc B f s t ∧ (g s).2 = (g t).2 + 1) ∧ (∀ s, s ∈ T.ord → ∀ m t, m < 2 * B.pn → nx B f s m = some t → D (10 * s + m) = true → (g t).1 = 2 → (g s).1 ≠ 0) ∧ (∀ s, s ∈ T.ord → (g s).1 = 0 → 0 < cntU B f D s (2 * B.pn)) ∧ (∀ s, s ∈ T.ord → ∀ m t, m < 2 * B.pn → nx B f s m = some t → (D (10 * s + m) = true ↔ ∃ i : Nat, q[i]? = some t ∧ (i < j ∨ (i = j ∧ 10 * s + m ∉ l))))
section GAME
variable {B : Bx} {o f : Nat} {T : Tw} {q : List Nat} {j : Nat} {l : List Nat} {D : Nat → Bool} {g : Gv} {s m h s' m' : Nat}
theorem dd_pop (hDD : ∀ s, s ∈ T.ord → ∀ m t, m < 2 * B.pn → nx B f s m = some t → (D (10 * s + m) = true ↔ ∃ i : Nat, q[i]? = some t ∧ (i < j ∨ (i = j ∧ 10 * s + m ∉ (10 * s' + m') :: l)))) (hp : B.pn ≤ 5) (hm' : m' < 2 * B.pn) (hnx : nx B f s' m' = some h) (hj : q[j]? = some h) (hl : 10 * s' + m' ∉ l) {q' : List Nat} (hq' : q' = q ∨ q' = q ++ [s']) : ∀ s, s ∈ T.ord → ∀ m t, m < 2 * B.pn → nx B f s m = some t → (updB D (10 * s' + m') true (10 * s + m) = true ↔ ∃ i : Nat, q'[i]? = some t ∧ (i < j ∨ (i = j ∧ 10 * s + m ∉ l))) := by
  intro s hs m t hm ht
  have hjl := (List.getElem?_eq_some_iff.mp hj).1
  have up : ∀ i t, (i < j ∨ i = j) → (q'[i]? = some t ↔ q[i]? = some t) := by
    intro i t hi
    rcases hq' with rfl | rfl
    · exact Iff.rfl
    · rw [List.getElem?_append_left (by omega)]
  by_cases e : 10 * s + m = 10 * s' + m'
  · have e1 : s = s' := by omega
    have e2 : m = m' := by omega
    subst e1; subst e2
    rw [hnx] at ht
    cases ht
    refine ⟨fun _ => ⟨j, (up j h (Or.inr rfl)).mpr hj, Or.inr ⟨rfl, hl⟩⟩, fun _ => by simp [updB]⟩
  · rw [show updB D (10 * s' + m') true (10 * s + m) = D (10 * s + m) from if_neg e, hDD s hs m t hm ht]
    constructor
    · rintro ⟨i, z1, z2⟩
      refine ⟨i, (up i t (z2.imp id (fun z => z.1))).mpr z1, z2.imp id (fun z => ⟨z.1, fun w => z.2 (List.mem_cons_of_mem _ w)⟩)⟩
    · rintro ⟨i, z1, z2⟩
      refine ⟨i, (up i t (z2.imp id (fun z => z.1))).mp z1, z2.imp id (fun z => ⟨z.1, fun w => ?_⟩)⟩
      rcases List.mem_cons.mp w with w | w
      · exact e w
      · exact z.2 w
theorem GI_skip (hp : B.pn ≤ 5) (hG : GI B o f T q j ((10 * s + m) :: l) D g) (hm : m < 2 * B.pn) (hnx : nx B f s m = some h) (hj : q[j]? = some h) (hl : 10 * s + m ∉ l) (hg : (g s).1 ≠ 0) : GI B o f T q j l (updB D (10 * s + m) true) g := by
  obtain ⟨a1, a2, a3, a4, a5, a6, a7, a8, a9, a10, a11, a12⟩ := hG
  refine ⟨a1, a2, a3, a4, a5, a6, a7, a8, a9, fun s1 hs1 m1 t1 hm1 ht1 hD => ?_, fun s1 hs1 e => ?_, dd_pop a12 hp hm hnx hj hl (Or.inl rfl)⟩
  · by_cases e : 10 * s1 + m1 = 10 * s + m
    · have e1 : s1 = s := by omega
      rw [e1]; exact fun _ => hg
    · rw [show updB D (10 * s + m) true (10 * s1 + m1) = D (10 * s1 + m1) from if_neg e] at hD
      exact a10 s1 hs1 m1 t1 hm1 ht1 hD
  · have : s1 ≠ s := fun z => hg (z ▸ e)
    rw [cntU_oth (by omega) (by omega) this]
    exact a11 s1 hs1 e
theorem GI_nD (hG : GI B o f T q j ((10 * s + m) :: l) D g) (hs : s ∈ T.ord) (hm : m < 2 * B.pn) (hnx : nx B f s m = some h) (hj : q[j]? = some h) : D (10 * s + m) = false := by
  obtain ⟨a1, a2, a3, a4, a5, a6, a7, a8, a9, a10, a11, a12⟩ := hG
  cases e : D (10 * s + m) with
  | false => rfl
  | true =>
    obtain ⟨i, z1, z2⟩ := (a12 s hs m h hm hnx).mp e
    rcases z2 with z | z
    · have hjl := (List.getElem?_eq_some_iff.mp hj)
      have hil := (List.getElem?_eq_some_iff.mp z1)
      obtain ⟨y1, y2⟩ := hjl
      obtain ⟨y3, y4⟩ := hil
      have := (List.getElem_inj (h₀ := y3) (h₁ := y1) a1).mp (y4.trans y2.symm)
      omega
    · exact absurd List.mem_cons_self z.2
theorem GI_dec (hp : B.pn ≤ 5) (hG : GI B o f T q j ((10 * s + m) :: l) D g) (hs : s ∈ T.ord) (hm : m < 2 * B.pn) (hnx : nx B f s m = some h) (hj : q[j]? = some h) (hl : 10 * s + m ∉ l) (hg : (g h).1 ≠ 2) (hc : 1 < cntU B f D s (2 * B.pn)) : GI B o f T q j l (updB D (10 * s + m) true) g := by
  have hnD := GI_nD hG hs hm hnx hj
  obtain ⟨a1, a2, a3, a4, a5, a6, a7, a8, a9, a10, a11, a12⟩ := hG
  refine ⟨a1, a2, a3, a4, a5, a6, a7, a8, a9, fun s1 hs1 m1 t1 hm1 ht1 hD => ?_, fun s1 hs1 e => ?_, dd_pop a12 hp hm hnx hj hl (Or.inl rfl)⟩
  · by_cases e : 10 * s1 + m1 = 10 * s + m
    · have e1 : s1 = s := by omega
      have e2 : m1 = m := by omega
      subst e1; subst e2
      rw [hnx] at ht1
      cases ht1
      exact fun z => absurd z hg
    · rw [show updB D (10 * s + m) true (10 * s1 + m1) = D (10 * s1 + m1) from if_neg e] at hD
      exact a10 s1 hs1 m1 t1 hm1 ht1 hD
  · by_cases e1 : s1 = s
    · subst e1
      have := cntU_upd hm hnx hnD
      omega
    · rw [cntU_oth (by omega) (by omega) e1]
      exact a11 s1 hs1 e
theorem GI_win (hp : B.pn ≤ 5) (hcl : Clo B f T) (hG : GI B o f T q j ((10 * s + m) :: l) D g) (hs : s ∈ T.ord) (hm : m < 2 * B.pn) (hnx : nx B f s m = some h) (hj : q[j]? = some h) (hl : 10 * s + m ∉ l) (hg : (g h).1 = 2) (hg0 : (g s).1 = 0) : GI B o f T (q ++ [s]) j l (updB D (10 * s + m) true) (updG g s (1, (g h).2 + 1)) := by
  obtain ⟨a1, a2, a3, a4, a5, a6, a7, a8, a9, a10, a11, a12⟩ := hG
  have hsq : s ∉ q := fun z => ((a3 s hs).1.mp z) hg0
  have hhq : h ∈ q := List.mem_of_getElem? hj
  have hjl := (List.getElem?_eq_some_iff.mp hj).1
  have ne : ∀ t, t ∈ q → t ≠ s := fun t ht z => hsq (z ▸ ht)
  have nz : ∀ t, (g t).1 ≠ 0 → t ≠ s := fun t ht z => ht (by rw [z]; exact hg0)
  have hnt : ¬ trm B o f s := fun z => by have := a7 s hs z; rw [this] at hg0; exact absurd hg0 (by decide)
  have ghh : updG g s (1, (g h).2 + 1) h = g h := updG_n (ne h hhq)
  refine ⟨?_, fun x hx => ?_, fun x hx => ?_, fun i i' a b hi ha hb => ?_, fun h' hh' x hx => ?_, fun i a ha => ?_, fun x hx ht => ?_, fun x hx ht h1 => ?_, fun x hx ht h1 => ?_, fun s1 hs1 m1 t1 hm1 ht1 hD h2 => ?_, fun x hx h1 => ?_, dd_pop a12 hp hm hnx hj hl (Or.inr rfl)⟩
  · rw [List.nodup_append]
    exact ⟨a1, by simp, fun a ha b hb => by simp at hb; subst hb; exact ne a ha⟩
  · rcases List.mem_append.mp hx with z | z
    · exact a2 x z
    · simp at z; rw [z]; exact hs
  · by_cases e : x = s
    · subst e
      rw [updG_s]
      exact ⟨⟨fun _ => (by decide : (1 : Nat) ≠ 0), fun _ => List.mem_append_right _ (by simp)⟩, fun z => absurd z (by decide : ¬ (1 : Nat) = 0), (by decide : (1 : Nat) ≤ 2)⟩
    · rw [updG_n e, List.mem_append, List.mem_singleton]
      exact ⟨⟨fun z => (a3 x hx).1.mp (z.resolve_right e), fun z => Or.inl ((a3 x hx).1.mpr z)⟩, (a3 x hx).2⟩
  · rcases app_get ha with ⟨e1, e2⟩ | ⟨e1, e2⟩
    · rcases app_get hb with ⟨e3, e4⟩ | ⟨e3, e4⟩
      · rw [e2, e4]; exact Nat.le_refl _
      · have := (List.getElem?_eq_some_iff.mp e4).1; omega
    · have aq := List.mem_of_getElem? e2
      rw [updG_n (ne a aq)]
      rcases app_get hb with ⟨e3, e4⟩ | ⟨e3, e4⟩
      · rw [e4, updG_s]; exact a5 h hj a aq
      · rw [updG_n (ne b (List.mem_of_getElem? e4))]; exact a4 i i' a b hi e2 e4
  · have e1 : h' = h := by
      rw [app_old hj] at hh'
      exact (Option.some.inj hh').symm
    subst e1
    rw [ghh]
    rcases List.mem_append.mp hx with z | z
    · rw [updG_n (ne x z)]; exact a5 h' hj x z
    · simp at z
      rw [z, updG_s]; exact Nat.le_refl _
  · rcases app_get ha with ⟨e1, e2⟩ | ⟨e1, e2⟩
    · rw [e2, updG_s]
      have := a6 j h hj
      show (g h).2 + 1 ≤ i
      omega
    · rw [updG_n (ne a (List.mem_of_getElem? e2))]; exact a6 i a e2
  · have e : x ≠ s := fun z => hnt (z ▸ ht)
    rw [updG_n e]; exact a7 x hx ht
  · by_cases e : x = s
    · subst e
      rw [updG_s]
      refine ⟨⟨h, ⟨m, hm, hnx⟩, by rw [ghh]; exact hg, by rw [ghh]⟩, fun t ⟨m1, hm1, ht1⟩ h2 => ?_⟩
      have hts : t ≠ x := by
        intro z
        rw [z, updG_s] at h2
        simp at h2
      rw [updG_n hts] at h2 ⊢
      have htT := hcl x hs m1 t hm1 ht1
      have htq := (a3 t htT).1.mpr (by rw [h2]; decide)
      obtain ⟨i, hi⟩ := List.getElem?_of_mem htq
      rcases Nat.lt_or_ge i j with hij | hij
      · have hD := (a12 x hs m1 t hm1 ht1).mpr ⟨i, hi, Or.inl hij⟩
        exact absurd hg0 (a10 x hs m1 t hm1 ht1 hD h2)
      · have := a4 j i h t hij hj hi
        show (g h).2 + 1 ≤ (g t).2 + 1
        omega
    · rw [updG_n e] at h1 ⊢
      obtain ⟨⟨t, t1, t2, t3⟩, t4⟩ := a8 x hx ht h1
      refine ⟨⟨t, t1, ?_⟩, fun t' ht' h2 => ?_⟩
      · rw [updG_n (nz t (by rw [t2]; decide))]; exact ⟨t2, t3⟩
      · have hts : t' ≠ s := by
          intro z
          rw [z, updG_s] at h2
          simp at h2
        rw [updG_n hts] at h2 ⊢
        exact t4 t' ht' h2
  · have e : x ≠ s := by
      intro z
      rw [z, updG_s] at h1
      simp at h1
    rw [updG_n e] at h1 ⊢
    obtain ⟨t1, t, t2, t3⟩ := a9 x hx ht h1
    refine ⟨fun t' ht' => ?_, t, t2, ?_⟩
    · rw [updG_n (nz t' (by rw [(t1 t' ht').1]; decide))]; exact t1 t' ht'
    · rw [updG_n (nz t (by rw [(t1 t t2).1]; decide))]; exact t3
  · by_cases e0 : s1 = s
    · rw [e0, updG_s]; exact (by decide : (1 : Nat) ≠ 0)
    · rw [updG_n e0]
      have hts : t1 ≠ s := by
        intro z
        rw [z, updG_s] at h2
        simp at h2
      rw [updG_n hts] at h2
      rw [show updB D (10 * s + m) true (10 * s1 + m1) = D (10 * s1 + m1) from if_neg (by omega)] at hD
      exact a10 s1 hs1 m1 t1 hm1 ht1 hD h2
  · have e : x ≠ s := by
      intro z
      rw [z, updG_s] at h1
      simp at h1
    rw [updG_n e] at h1
    rw [cntU_oth (by omega) (by omega) e]
    exact a11 x hx h1
theorem GI_lose (hp : B.pn ≤ 5) (hcl : Clo B f T) (hG : GI B o f T q j ((10 * s + m) :: l) D g) (hs : s ∈ T.ord) (hm : m < 2 * B.pn) (hnx : nx B f s m = some h) (hj : q[j]? = some h) (hl : 10 * s + m ∉ l) (hg : (g h).1 ≠ 2) (hg0 : (g s).1 = 0) (hc : cntU B f D s (2 * B.pn) = 1) : GI B o f T (q ++ [s]) j l (updB D (10 * s + m) true) (updG g s (2, (g h).2 + 1)) := by
  have hnD := GI_nD hG hs hm hnx hj
  obtain ⟨a1, a2, a3, a4, a5, a6, a7, a8, a9, a10, a11, a12⟩ := hG
  have hsq : s ∉ q := fun z => ((a3 s hs).1.mp z) hg0
  have hhq : h ∈ q := List.mem_of_getElem? hj
  have hjl := (List.getElem?_eq_some_iff.mp hj).1
  have ne : ∀ t, t ∈ q → t ≠ s := fun t ht z => hsq (z ▸ ht)
  have nz : ∀ t, (g t).1 ≠ 0 → t ≠ s := fun t ht z => ht (by rw [z]; exact hg0)
  have hnt : ¬ trm B o f s := fun z => by have := a7 s hs z; rw [this] at hg0; exact absurd hg0 (by decide)
  have ghh : updG g s (2, (g h).2 + 1) h = g h := updG_n (ne h hhq)
  have hh1 : (g h).1 = 1 := by
    have z1 := (a3 h (a2 h hhq)).1.mp hhq
    have z2 := (a3 h (a2 h hhq)).2.2
    omega
  have hall : ∀ m1 t1, m1 < 2 * B.pn → nx B f s m1 = some t1 → (g t1).1 = 1 ∧ (g t1).2 ≤ (g h).2 ∧ t1 ≠ s := by
    intro m1 t1 hm1 ht1
    have c0 := cntU_upd hm hnx hnD
    have hD := cntU_0 (B := B) (f := f) (D := updB D (10 * s + m) true) (n := 2 * B.pn) (s := s) (by omega) m1 t1 hm1 ht1
    by_cases e : m1 = m
    · subst e
      rw [hnx] at ht1
      cases ht1
      exact ⟨hh1, Nat.le_refl _, ne _ hhq⟩
    · rw [show updB D (10 * s + m) true (10 * s + m1) = D (10 * s + m1) from if_neg (by omega)] at hD
      obtain ⟨i, z1, z2⟩ := (a12 s hs m1 t1 hm1 ht1).mp hD
      have tq := List.mem_of_getElem? z1
      have z3 := (a3 t1 (a2 t1 tq)).1.mp tq
      have z4 := (a3 t1 (a2 t1 tq)).2.2
      have z5 : (g t1).1 ≠ 2 := fun z => absurd hg0 (a10 s hs m1 t1 hm1 ht1 hD z)
      exact ⟨by omega, a4 i j t1 h (by omega) z1 hj, ne t1 tq⟩
  refine ⟨?_, fun x hx => ?_, fun x hx => ?_, fun i i' a b hi ha hb => ?_, fun h' hh' x hx => ?_, fun i a ha => ?_, fun x hx ht => ?_, fun x hx ht h1 => ?_, fun x hx ht h1 => ?_, fun s1 hs1 m1 t1 hm1 ht1 hD h2 => ?_, fun x hx h1 => ?_, dd_pop a12 hp hm hnx hj hl (Or.inr rfl)⟩
  · rw [List.nodup_append]
    exact ⟨a1, by simp, fun a ha b hb => by simp at hb; subst hb; exact ne a ha⟩
  · rcases List.mem_append.mp hx with z | z
    · exact a2 x z
    · simp at z; rw [z]; exact hs
  · by_cases e : x = s
    · subst e
      rw [updG_s]
      exact ⟨⟨fun _ => (by decide : (2 : Nat) ≠ 0), fun _ => List.mem_append_right _ (by simp)⟩, fun z => absurd z (by decide : ¬ (2 : Nat) = 0), (by decide : (2 : Nat) ≤ 2)⟩
    · rw [updG_n e, List.mem_append, List.mem_singleton]
      exact ⟨⟨fun z => (a3 x hx).1.mp (z.resolve_right e), fun z => Or.inl ((a3 x hx).1.mpr z)⟩, (a3 x hx).2⟩
  · rcases app_get ha with ⟨e1, e2⟩ | ⟨e1, e2⟩
    · rcases app_get hb with ⟨e3, e4⟩ | ⟨e3, e4⟩
      · rw [e2, e4]; exact Nat.le_refl _
      · have := (List.getElem?_eq_some_iff.mp e4).1; omega
    · have aq := List.mem_of_getElem? e2
      rw [updG_n (ne a aq)]
      rcases app_get hb with ⟨e3, e4⟩ | ⟨e3, e4⟩
      · rw [e4, updG_s]; exact a5 h hj a aq
      · rw [updG_n (ne b (List.mem_of_getElem? e4))]; exact a4 i i' a b hi e2 e4
  · have e1 : h' = h := by
      rw [app_old hj] at hh'
      exact (Option.some.inj hh').symm
    subst e1
    rw [ghh]
    rcases List.mem_append.mp hx with z | z
    · rw [updG_n (ne x z)]; exact a5 h' hj x z
    · simp at z
      rw [z, updG_s]; exact Nat.le_refl _
  · rcases app_get ha with ⟨e1, e2⟩ | ⟨e1, e2⟩
    · rw [e2, updG_s]
      have := a6 j h hj
      show (g h).2 + 1 ≤ i
      omega
    · rw [updG_n (ne a (List.mem_of_getElem? e2))]; exact a6 i a e2
  · have e : x ≠ s := fun z => hnt (z ▸ ht)
    rw [updG_n e]; exact a7 x hx ht
  · have e : x ≠ s := by
      intro z
      rw [z, updG_s] at h1
      simp at h1
    rw [updG_n e] at h1 ⊢
    obtain ⟨⟨t, t1, t2, t3⟩, t4⟩ := a8 x hx ht h1
    refine ⟨⟨t, t1, ?_⟩, fun t' ht' h2 => ?_⟩
    · rw [updG_n (nz t (by rw [t2]; decide))]; exact ⟨t2, t3⟩
    · by_cases hts : t' = s
      · have xq := (a3 x hx).1.mpr (by rw [h1]; decide)
        have := a5 h hj x xq
        rw [hts, updG_s]
        show (g x).2 ≤ (g h).2 + 1 + 1
        omega
      · rw [updG_n hts] at h2 ⊢
        exact t4 t' ht' h2
  · by_cases e : x = s
    · subst e
      rw [updG_s]
      refine ⟨fun t ⟨m1, hm1, ht1⟩ => ?_, h, ⟨m, hm, hnx⟩, by rw [ghh]⟩
      obtain ⟨z1, z2, z3⟩ := hall m1 t hm1 ht1
      rw [updG_n z3]
      exact ⟨z1, by show (g t).2 + 1 ≤ (g h).2 + 1; omega⟩
    · rw [updG_n e] at h1 ⊢
      obtain ⟨t1, t, t2, t3⟩ := a9 x hx ht h1
      refine ⟨fun t' ht' => ?_, t, t2, ?_⟩
      · rw [updG_n (nz t' (by rw [(t1 t' ht').1]; decide))]; exact t1 t' ht'
      · rw [updG_n (nz t (by rw [(t1 t t2).1]; decide))]; exact t3
  · by_cases e0 : s1 = s
    · rw [e0, updG_s]; exact (by decide : (2 : Nat) ≠ 0)
    · rw [updG_n e0]
      rw [show updB D (10 * s + m) true (10 * s1 + m1) = D (10 * s1 + m1) from if_neg (by omega)] at hD
      have hts : t1 ≠ s := by
        intro z
        obtain ⟨i, z1, z2⟩ := (a12 s1 hs1 m1 t1 hm1 ht1).mp hD
        exact hsq (z ▸ List.mem_of_getElem? z1)
      rw [updG_n hts] at h2
      exact a10 s1 hs1 m1 t1 hm1 ht1 hD h2
  · have e : x ≠ s := by
      intro z
      rw [z, updG_s] at h1
      simp at h1
    rw [updG_n e] at h1
    rw [cntU_oth (by omega) (by omega) e]
    exact a11 x hx h1
theorem GI_next {L : Nat → List Nat} (hL : ∀ t, t ∈ T.ord → ∀ x, x ∈ L t ↔ x / 10 ∈ T.ord ∧ x % 10 < 2 * B.pn ∧ nx B f (x / 10) (x % 10) = some t) (hp : B.pn ≤ 5) (hG : GI B o f T q j [] D g) {h2 : Nat} (hj : q[j + 1]? = some h2) : GI B o f T q (j + 1) (L h2) D g := by
  obtain ⟨a1, a2, a3, a4, a5, a6, a7, a8, a9, a10, a11, a12⟩ := hG
  refine ⟨a1, a2, a3, a4, fun h' hh' x hx => ?_, a6, a7, a8, a9, a10, a11, fun s hs m t hm ht => (a12 s hs m t hm ht).trans ?_⟩
  · have hjl := (List.getElem?_eq_some_iff.mp hh').1
    have e1 : q[j]? = some q[j] := List.getElem?_eq_getElem (by omega)
    have z1 := a5 _ e1 x hx
    have z2 := a4 j (j + 1) _ _ (by omega) e1 hh'
    omega
  · constructor
    · rintro ⟨i, z1, z2⟩
      exact ⟨i, z1, Or.inl (by omega)⟩
    · rintro ⟨i, z1, z2⟩
      rcases z2 with z | ⟨z, z3⟩
      · rcases Nat.lt_or_ge i j with w | w
        · exact ⟨i, z1, Or.inl w⟩
        · exact ⟨i, z1, Or.inr ⟨by omega, List.not_mem_nil⟩⟩
      · exfalso
        rw [z, hj] at z1
        cases z1
        refine z3 ((hL h2 (a2 h2 (List.mem_of_getElem? hj)) _).mpr ?_)
        rw [show (10 * s + m) / 10 = s by omega, show (10 * s + m) % 10 = m by omega]
        exact ⟨hs, hm, ht⟩
theorem GI_fin (hcl : Clo B f T) (hG : GI B o f T q j [] D g) (hj : q.length ≤ j + 1) : GC B o f T g := by
  obtain ⟨a1, a2, a3, a4, a5, a6, a7, a8, a9, a10, a11, a12⟩ := hG
  have allD : ∀ s, s ∈ T.ord → ∀ m t, m < 2 * B.pn → nx B f s m = some t → (g t).1 ≠ 0 → D (10 * s + m) = true := by
    intro s hs m t hm ht hg
    have tq := (a3 t (hcl s hs m t hm ht)).1.mpr hg
    obtain ⟨i, hi⟩ := List.getElem?_of_mem tq
    have := (List.getElem?_eq_some_iff.mp hi).1
    refine (a12 s hs m t hm ht).mpr ⟨i, hi, ?_⟩
    rcases Nat.lt_or_ge i j with w | w
    · exact Or.inl w
    · exact Or.inr ⟨by omega, List.not_mem_nil⟩
  have c012 : ∀ s, s ∈ T.ord → (g s).1 = 0 ∨ (g s).1 = 1 ∨ (g s).1 = 2 := fun s hs => by have := (a3 s hs).2.2; omega
  intro s hs
  refine ⟨a7 s hs, fun ht ⟨t, ⟨m, hm, hnx⟩, h2⟩ => ?_, fun ht hw => ?_, fun ht hl hw => ?_⟩
  · have e0 := a10 s hs m t hm hnx (allD s hs m t hm hnx (by rw [h2]; decide)) h2
    rcases c012 s hs with e | e | e
    · exact absurd e e0
    · exact ⟨e, a8 s hs ht e⟩
    · have := ((a9 s hs ht e).1 t ⟨m, hm, hnx⟩).1
      omega
  · rcases c012 s hs with e | e | e
    · have c := a11 s hs e
      have : cntU B f D s (2 * B.pn) = 0 := by
        have k : ∀ n, n ≤ 2 * B.pn → cntU B f D s n = 0 := by
          intro n
          induction n with
          | zero => intro _; rfl
          | succ n ih =>
            intro hn
            simp only [cntU]
            rw [ih (by omega), if_neg]
            rintro ⟨z1, z2⟩
            obtain ⟨t, ht2⟩ := Option.isSome_iff_exists.mp z1
            have := allD s hs n t (by omega) ht2 (by rw [hw t ⟨n, by omega, ht2⟩]; decide)
            rw [z2] at this; cases this
        exact k _ (Nat.le_refl _)
      omega
    · obtain ⟨⟨t, t1, t2, t3⟩, t4⟩ := a8 s hs ht e
      have := hw t t1
      omega
    · obtain ⟨t1, t2⟩ := a9 s hs ht e
      exact ⟨e, t2, fun t h => (t1 t h).2⟩
  · rcases c012 s hs with e | e | e
    · exact Prod.ext e ((a3 s hs).2.1 e)
    · obtain ⟨⟨t, t1, t2, t3⟩, t4⟩ := a8 s hs ht e
      exact absurd ⟨t, t1, t2⟩ hl
    · obtain ⟨t1, t2⟩ := a9 s hs ht e
      exact absurd (fun t h => (t1 t h).1) hw
end GAME
end
section
/-! the class solves the game -/
def MI (B : Bx) (f : Nat) (T : Tw) (q : List Nat) (D : Nat → Bool) (g : Gv) (I : I2) : Prop := I 41 6 = nI q.length ∧ (∀ (k x : Nat), q[k]? = some x → I 45 k = nI x) ∧ (∀ s, s ∈ T.ord → I 46 s = nI (g s).1 ∧ I 47 s = nI (g s).2) ∧ ∀ s, s ∈ T.ord → (g s).1 = 0 → I 44 s = nI (cntU B f D s (2 * B.pn))
def GCb (B : Bx) (o f : Nat) (T : Tw) (g : Gv) : Prop := GC B o f T g ∧ ∀ s, s ∈ T.ord → (g s).1 ≤ 2 ∧ (g s).2 ≤ 1024
theorem GI_len {B : Bx} {o f : Nat} {T : Tw} {q : List Nat} {j : Nat} {l : List Nat} {D : Nat → Bool} {g : Gv} (hw : WFB B) (hT : TI B T) (hG : GI B o f T q j l D g) : q.length ≤ 1024 :=
  nodup_len 1024 q hG.1 (fun x hx => s31 hw (hT.2.2.1 _ (hG.2.1 x hx)).1.1)
theorem GI_bd {B : Bx} {o f : Nat} {T : Tw} {q : List Nat} {j : Nat} {l : List Nat} {D : Nat → Bool} {g : Gv} (hw : WFB B) (hT : TI B T) (hG : GI B o f T q j l D g) {s : Nat} (hs : s ∈ T.ord) : (g s).1 ≤ 2 ∧ (g s).2 ≤ 1024 := by
  have hl := GI_len hw hT hG
  obtain ⟨a1, a2, a3, a4, a5, a6, -⟩ := hG
  obtain ⟨b1, b2, b3⟩ := a3 s hs
  refine ⟨b3, ?_⟩
  by_cases e : (g s).1 = 0
  · rw [b2 e]; exact Nat.zero_le _
  · obtain ⟨i, hi⟩ := List.getElem?_of_mem (b1.mpr e)
    have h1 := a6 i s hi
    have h2 := (List.getElem?_eq_some_iff.mp hi).1
    omega
def termB (B : Bx) (o f s : Nat) : Bool := openB B o s || decide (deg B f s (2 * B.pn) = 0)
theorem termB_i {B : Bx} {o f s : Nat} : termB B o f s = true ↔ trm B o f s := by
  unfold termB trm
  rw [Bool.or_eq_true, decide_eq_true_iff]
  exact ⟨fun h => h.imp id deg_0, fun h => h.imp id deg_0'⟩
section SOLVE
variable {d : Nat} {V : Bv} {I : I2} {J : J2} {G : I2 → J2 → Prop} {F : Int32 → I2 → J2 → Prop} {f a : Nat}
theorem MI_set {B : Bx} {T : Tw} {q : List Nat} {D : Nat → Bool} {g : Gv} {s : Nat} {w b x : Nat} (hM : MI B f T q D g I) (hp : B.pn ≤ 5) (hs : s ∈ T.ord) (hw : w ≠ 0) (hm : x < 10) {I1 : I2} (h1 : ∀ a, a ≠ 44 → I1 a = I a) (h44 : ∀ t, t ≠ s → I1 44 t = I 44 t) : MI B f T (q ++ [s]) (updB D (10 * s + x) true) (updG g s (w, b)) (up2 (up2 (up2 (up2 I1 46 s (nI w)) 47 s (nI b)) 45 q.length (nI s)) 41 6 (nI (q.length + 1))) := by
  obtain ⟨m1, m2, m3, m4⟩ := hM
  refine ⟨by simp [up2, upd], fun k x hx => ?_, fun t ht => ?_, fun t ht h0 => ?_⟩
  · rcases app_get hx with ⟨rfl, rfl⟩ | ⟨e, e2⟩
    · simp [up2, upd]
    · simp [up2, upd, e]; rw [h1 45 (by decide)]; exact m2 k x e2
  · by_cases e : t = s
    · rw [e, updG_s]; simp [up2, upd]
    · rw [updG_n e]; simp [up2, upd, e]; rw [h1 46 (by decide), h1 47 (by decide)]; exact m3 t ht
  · by_cases e : t = s
    · rw [e, updG_s] at h0; exact absurd h0 hw
    · rw [updG_n e] at h0
      rw [cntU_oth hm (by omega) e]
      simp [up2, upd]
      rw [h44 t e]
      exact m4 t ht h0
theorem c_Eg_learn (hd : 2 ≤ d) (hw : WFV V) {T : Tw} (eT : bfs V.B f V.s = T) {q : List Nat} {j : Nat} {l : List Nat} {D : Nat → Bool} {g : Gv} {s m h : Nat} (hG : GI V.B V.lid f T q j ((10 * s + m) :: l) D g) (hM : MI V.B f T q D g I) (hs : s ∈ T.ord) (hm : m < 2 * V.B.pn) (hnx : nx V.B f s m = some h) (hj : q[j]? = some h) (hl : 10 * s + m ∉ l) (k : ∀ I' q' g', FrX I I' → I' 42 = I 42 → I' 43 = I 43 → q'[j]? = some h → GI V.B V.lid f T q' j l (updB D (10 * s + m) true) g' → MI V.B f T q' (updB D (10 * s + m) true) g' I' → G I' J) : CV d Eg_learn [.ref 41, .int (nI s), .int (nI h)] I J G := by
  have hp5 := hw.1.1
  have hT : TI V.B T := eT ▸ TIb hw f
  have hcl : Clo V.B f T := eT ▸ Clob hw f
  have hs2 := s31 hw.1 (hT.2.2.1 _ hs).1.1
  have hhT := hG.2.1 h (List.mem_of_getElem? hj)
  have hh2 := s31 hw.1 (hT.2.2.1 _ hhT).1.1
  have hqlen := GI_len hw.1 hT hG
  obtain ⟨bs1, bs2⟩ := GI_bd hw.1 hT hG hs
  obtain ⟨bh1, bh2⟩ := GI_bd hw.1 hT hG hhT
  have hnD := GI_nD hG hs hm hnx hj
  obtain ⟨m1, m2, m3, m4⟩ := id hM
  have hv := n_vp (a := s) (n := 1024) hs2 (by decide)
  have hvh := n_vp (a := h) (n := 1024) hh2 (by decide)
  refine CV.of (by omega) rfl (v_Eg_learn_41_0 ⟨hv, ?_⟩)
  rw [n_tN (a := s) (by omega), n_tN (a := h) (by omega), (m3 s hs).1, (m3 h hhT).1, (m3 h hhT).2, n_e0 (by omega), show (nI (g h).1 = 2) = (nI (g h).1 = nI 2) from rfl, n_eq (by omega) (by decide), n_inc]
  refine ⟨fun e => ⟨hvh, fun e2 => ⟨hvh, ?_⟩, fun e2 => ⟨hv, hv, hv, ?_⟩⟩, fun e => QV_i.mpr ?_⟩
  · have hsq : s ∉ q := fun z => ((hG.2.2.1 s hs).1.mp z) e
    refine c_Eg_settle (by omega) m1 (q_room hw.1 hT hG.1 hG.2.1 hs hsq) hs2 (QV_i.mpr ?_)
    exact k _ (q ++ [s]) _ FrX_settle (by simp [up2]) (by simp [up2]) (app_old hj) (GI_win hp5 hcl hG hs hm hnx hj hl e2 e) (MI_set hM hp5 hs (by decide) (by omega) (fun a _ => rfl) (fun t _ => rfl))
  · have hsq : s ∉ q := fun z => ((hG.2.2.1 s hs).1.mp z) e
    have h44 := m4 s hs e
    have hc := hG.2.2.2.2.2.2.2.2.2.2.1 s hs e
    have hcl2 := cntU_le (B := V.B) (f := f) (D := D) (s := s) (n := 2 * V.B.pn)
    have hcu := cntU_upd hm hnx hnD
    have e44 : up2 I 44 s (I 44 s - 1) 44 s = nI (cntU V.B f D s (2 * V.B.pn) - 1) := by
      simp [up2, upd]; rw [h44, n_dec hc]
    rw [e44, n_e0 (by omega)]
    have hX : FrX I (up2 I 44 s (I 44 s - 1)) := FrX_up (by decide) (by decide)
    refine ⟨fun e3 => ⟨hvh, ?_⟩, fun e3 => QV_i.mpr ?_⟩
    · refine c_Eg_settle (by omega) (by simpa [up2] using m1) (q_room hw.1 hT hG.1 hG.2.1 hs hsq) hs2 (QV_i.mpr ?_)
      exact k _ (q ++ [s]) _ (hX.tr FrX_settle) (by simp [up2]) (by simp [up2]) (app_old hj) (GI_lose hp5 hcl hG hs hm hnx hj hl e2 e (by omega)) (MI_set hM hp5 hs (by decide) (by omega) (fun a ha => by simp [up2, ha]) (fun t ht => by simp [up2, upd, ht]))
    · refine k _ q g hX (by simp [up2]) (by simp [up2]) hj (GI_dec hp5 hG hs hm hnx hj hl e2 (by omega)) ⟨by simpa [up2] using m1, fun i x hx => by simpa [up2] using m2 i x hx, fun t ht => by simpa [up2] using m3 t ht, fun t ht h0 => ?_⟩
      by_cases et : t = s
      · rw [et, e44]
        congr 1
        omega
      · rw [cntU_oth (by omega) (by omega) et]
        simp [up2, upd, et]
        exact m4 t ht h0
  · refine k I q g FrX.rf rfl rfl hj (GI_skip hp5 hG hm hnx hj hl e) ⟨m1, m2, m3, fun t ht h0 => ?_⟩
    have : t ≠ s := fun z => e (z ▸ h0)
    rw [cntU_oth (by omega) (by omega) this]
    exact m4 t ht h0
theorem c_Eg_solve (hd : 4 ≤ d) (hw : WFV V) (hV : CBx 1 V I) (hf : f < 64) {T : Tw} (eT : bfs V.B f V.s = T) (hA : WkA V f I) (h : ∀ I' g, FrX I I' → GCb V.B V.lid f T g → (∀ s, s ∈ T.ord → I' 46 s = nI (g s).1 ∧ I' 47 s = nI (g s).2) → G I' J) : CV d Eg_solve [.ref 41] I J G := by
  have hp5 := hw.1.1
  have hT : TI V.B T := eT ▸ TIb hw f
  have hcl : Clo V.B f T := eT ▸ Clob hw f
  have hlen := hT.len hw.1
  have hWk : ∀ I1, FrX I I1 → WkR T I1 := fun I1 q => eT ▸ (q.wka hA).2.2.2.2
  refine CV.of (by omega) rfl (v_Eg_solve_41_0 (c_Eg_begin (by omega) hw hf eT hA (fun I0 hF0 hB0 => ?_)))
  obtain ⟨b1, b2, L, hL⟩ := hB0
  have hLm : ∀ t, t ∈ T.ord → ∀ x, x ∈ L t ↔ x / 10 ∈ T.ord ∧ x % 10 < 2 * V.B.pn ∧ nx V.B f (x / 10) (x % 10) = some t := fun t ht x => ((hL t ht).2.2 x).trans ⟨fun ⟨z1, z2⟩ => ⟨z1.elim id (fun z => by omega), z2⟩, fun ⟨z1, z2⟩ => ⟨Or.inl z1, z2⟩⟩
  have hLl : ∀ t, t ∈ T.ord → (L t).length ≤ 10240 ∧ ∀ x ∈ L t, x < 10240 := by
    intro t ht
    have h1 : ∀ x ∈ L t, x < 10240 := by
      intro x hx
      have h2 := ((hLm t ht x).mp hx).1
      have h3 := s31 hw.1 (hT.2.2.1 _ h2).1.1
      omega
    exact ⟨nodup_len _ _ (hL t ht).2.1 h1, h1⟩
  have loop91 : ∀ (j t : Nat), t ∈ T.ord → (∀ q g D I1, FrX I I1 → I1 42 = I0 42 ∧ I1 43 = I0 43 → q[j]? = some t → GI V.B V.lid f T q j [] D g → MI V.B f T q D g I1 → Wp (d - 1) Eg_solve (QV G) 62 [some (.ref 41), some (.int (nI (j + 1))), none, none] [] I1 J) → ∀ (l q : List Nat) (g : Gv) (D : Nat → Bool) (I1 : I2) (c : Nat) (v : Int32), c + l.length ≤ 10240 → l.Nodup → (∀ x ∈ l, x ∈ L t) → Ch (I0 43) v l → FrX I I1 → I1 42 = I0 42 ∧ I1 43 = I0 43 → q[j]? = some t → GI V.B V.lid f T q j l D g → MI V.B f T q D g I1 → Wp (d - 1) Eg_solve (QV G) 91 [some (.ref 41), some (.int (nI j)), some (.int v), some (.int (nI c))] [] I1 J := by
    intro j t ht next l
    induction l with
    | nil =>
      intro q g D I1 c v hc hn hl hch hFr hX hqj hG hM
      have go := next q g D I1 hFr hX hqj hG hM
      have hv : v = -1 := hch
      subst hv
      refine v_Eg_solve_41_91 ⟨fun _ => ⟨fun _ => by rw [n_inc]; exact go, fun q => absurd (by decide) q⟩, fun _ => by rw [n_inc]; exact go⟩
    | cons x l ih =>
      intro q g D I1 c v hc hn hl hch hFr hX hqj hG hM
      have hxL := hl x List.mem_cons_self
      have hx1 := (hLl t ht).2 x hxL
      obtain ⟨hxa, hxb, hxc⟩ := (hLm t ht x).mp hxL
      have hx2 := s31 hw.1 (hT.2.2.1 _ hxa).1.1
      have hv : v = nI x := hch.1
      subst hv
      simp only [List.length_cons] at hc
      have hj3 := GI_len hw.1 hT hG
      have hjl := (List.getElem?_eq_some_iff.mp hqj).1
      obtain ⟨hnx1, hnx2⟩ := List.nodup_cons.mp hn
      have ediv : nI x / 10 = nI (x / 10) := n_div (k := 10) (by omega) (by decide) (by decide)
      have ex : 10 * (x / 10) + x % 10 = x := by omega
      refine v_Eg_solve_41_91 ⟨fun _ => ⟨fun q => absurd q (nI_pos (by omega)), fun _ => ⟨n_vp (by omega) (by decide), ?_⟩⟩, fun q => absurd ((n_lt (b := 10240) (by omega) (by decide)).mpr (by omega)) q⟩
      rw [ediv, n_tN (a := j) (by omega), hM.2.1 j t hqj, n_tN (a := x) (by omega), n_inc c]
      refine c_Eg_learn (by omega) hw eT (s := x / 10) (m := x % 10) (l := l) (by rw [ex]; exact hG) hM hxa hxb hxc hqj (by rw [ex]; exact hnx1) (fun I' q' g' z1 z2 z3 z4 z5 z6 => ⟨n_vp hx1 (by decide), ?_⟩)
      refine ih q' g' _ I' (c + 1) _ (by omega) hnx2 (fun y hy => hl y (List.mem_cons_of_mem _ hy)) ?_ (hFr.tr z1) ⟨z2.trans hX.1, z3.trans hX.2⟩ z4 z5 z6
      rw [z3, hX.2]; exact hch.2
  have loop62 : ∀ k j q g D I1, j + k = 1024 → FrX I I1 → I1 42 = I0 42 ∧ I1 43 = I0 43 → q.length ≤ 1024 → (∀ t, q[j]? = some t → GI V.B V.lid f T q j (L t) D g) → (q.length ≤ j → GCb V.B V.lid f T g) → MI V.B f T q D g I1 → Wp (d - 1) Eg_solve (QV G) 62 [some (.ref 41), some (.int (nI j)), none, none] [] I1 J := by
    intro k
    induction k with
    | zero =>
      intro j q g D I1 hj hFr hX hql hG hC hM
      have e := QV_i.mpr (h I1 g hFr (hC (by omega)) hM.2.2.1)
      refine v_Eg_solve_41_62 ⟨fun _ => ⟨fun q => absurd ((n_lt (b := 1024) (by omega) (by decide)).mp q) (by omega), fun _ => e⟩, fun _ => e⟩
    | succ k ih =>
      intro j q g D I1 hj hFr hX hql hG hC hM
      refine v_Eg_solve_41_62 ⟨fun e => ⟨fun _ => ?_, fun q => absurd ((n_lt (b := 1024) (by omega) (by decide)).mpr (by omega)) q⟩, fun e => QV_i.mpr (h I1 g hFr (hC ?_) hM.2.2.1)⟩
      · rw [hM.1, n_lt (by omega) (by omega)] at e
        have ej : q[j]? = some q[j] := List.getElem?_eq_getElem e
        have hG := hG _ ej
        have ht := hG.2.1 _ (List.getElem_mem e)
        have ht2 := s31 hw.1 (hT.2.2.1 _ ht).1.1
        rw [n_tN (a := j) (by omega), hM.2.1 j _ ej, n_tN (a := q[j]) (by omega)]
        refine ⟨n_vp (by omega) (by decide), n_vp ht2 (by decide), ?_⟩
        refine loop91 j q[j] ht (fun q' g' D' I' a1 a2 a3 a4 a5 => ?_) (L q[j]) q g D I1 0 _ (by have := (hLl _ ht).1; omega) (hL _ ht).2.1 (fun x hx => hx) (by rw [hX.1]; exact (hL _ ht).1) hFr hX ej hG hM
        have hql' := GI_len hw.1 hT a4
        exact ih (j + 1) q' g' D' I' (by omega) a1 a2 hql' (fun t ht => GI_next hLm hp5 a4 ht) (fun z => ⟨GI_fin hcl a4 z, fun s hs => GI_bd hw.1 hT a4 hs⟩) a5
      · rw [hM.1, n_lt (by omega) (by omega)] at e; omega
  have loop6 : ∀ k n I1, n + k = T.ord.length → FrX I I1 → I1 42 = I0 42 ∧ I1 43 = I0 43 → I1 44 = I0 44 → MI V.B f T ((T.ord.take n).filter (termB V.B V.lid f)) (fun _ => false) (fun s => if s ∈ (T.ord.take n).filter (termB V.B V.lid f) then (2, 0) else (0, 0)) I1 → Wp (d - 1) Eg_solve (QV G) 6 [some (.ref 41), some (.int (nI n)), none, none] [] I1 J := by
    intro k
    induction k with
    | zero =>
      intro n I1 hn hFr hX h44 hM
      have hn : n = T.ord.length := by omega
      subst hn
      rw [List.take_length] at hM
      have hqn : (T.ord.filter (termB V.B V.lid f)).Nodup := hT.1.sublist List.filter_sublist
      have hqm : ∀ x ∈ T.ord.filter (termB V.B V.lid f), x ∈ T.ord ∧ trm V.B V.lid f x := fun x hx => ⟨(List.mem_filter.mp hx).1, termB_i.mp (List.mem_filter.mp hx).2⟩
      have hqi : ∀ s, s ∈ T.ord → trm V.B V.lid f s → s ∈ T.ord.filter (termB V.B V.lid f) := fun s hs ht => List.mem_filter.mpr ⟨hs, termB_i.mpr ht⟩
      generalize T.ord.filter (termB V.B V.lid f) = q at hM hqn hqm hqi
      have hql := nodup_len 1024 q hqn (fun x hx => s31 hw.1 (hT.2.2.1 _ (hqm x hx).1).1.1)
      have gi : ∀ (l : List Nat), (∀ s, s ∈ T.ord → ∀ m t, m < 2 * V.B.pn → nx V.B f s m = some t → q[0]? = some t → 10 * s + m ∈ l) → GI V.B V.lid f T q 0 l (fun _ => false) (fun s => if s ∈ q then (2, 0) else (0, 0)) := by
        intro l hl
        have g2 : ∀ x, (if x ∈ q then ((2, 0) : Nat × Nat) else (0, 0)).2 = 0 := fun x => by split <;> rfl
        refine ⟨hqn, fun x hx => (hqm x hx).1, fun s hs => ?_, fun i i' a b _ _ _ => by rw [g2, g2]; exact Nat.le_refl _, fun h _ x _ => by rw [g2]; exact Nat.zero_le _, fun i a _ => by rw [g2]; exact Nat.zero_le _, fun s hs ht => if_pos (hqi s hs ht), fun s hs ht h1 => ?_, fun s hs ht h1 => ?_, fun s hs m t hm ht hD => (by cases hD), fun s hs h0 => ?_, fun s hs m t hm ht => ⟨fun z => (by cases z), fun ⟨i, z1, z2⟩ => ?_⟩⟩
        · by_cases e : s ∈ q
          · simp [e]
          · simp [e]
        · by_cases e : s ∈ q
          · simp [e] at h1
          · simp [e] at h1
        · by_cases e : s ∈ q
          · exact absurd (hqm s e).2 ht
          · simp [e] at h1
        · have e : s ∉ q := by
            intro e
            simp [e] at h0
          have hnt : ¬ trm V.B V.lid f s := fun z => e (hqi s hs z)
          rw [cntU_deg]
          refine Nat.pos_of_ne_zero (fun z => hnt (Or.inr (deg_0 z)))
        · exfalso
          rcases z2 with z | ⟨z, z3⟩
          · exact Nat.not_lt_zero _ z
          · rw [z] at z1
            exact z3 (hl s hs m t hm ht z1)
      refine v_Eg_solve_41_6 ⟨fun q => ?_, fun _ => loop62 1024 0 q _ (fun _ => false) I1 (by omega) hFr hX hql (fun t ht => gi (L t) (fun s hs m t' hm hnx ht' => ?_)) (fun z => ?_) hM⟩
      · rw [(hWk I1 hFr).1] at q; exact absurd ((n_lt (by omega) (by omega)).mp q) (Nat.lt_irrefl _)
      · rw [ht] at ht'
        cases ht'
        refine (hLm t (hcl s hs m t hm hnx) _).mpr ?_
        rw [show (10 * s + m) / 10 = s by omega, show (10 * s + m) % 10 = m by omega]
        exact ⟨hs, hm, hnx⟩
      · have hG := gi [] (fun s hs m t hm hnx ht => by
          have := (List.getElem?_eq_some_iff.mp ht).1
          omega)
        exact ⟨GI_fin hcl hG (by omega), fun s hs => GI_bd hw.1 hT hG hs⟩
    | succ k ih =>
      intro n I1 hn hFr hX h44 hM
      have hlt : n < T.ord.length := by omega
      have hI := hWk I1 hFr
      have hm := List.getElem_mem hlt
      have hm2 := s31 hw.1 (hT.2.2.1 _ hm).1.1
      have hnt := nodup_take_not hT.1 hlt
      have hV1 := hFr.g.cbx hV
      have hv := n_vp (a := n) (n := 1024) (by omega) (by decide)
      have hv2 := n_vp (a := T.ord[n]) (n := 1024) hm2 (by decide)
      have go := fun I' => ih (n + 1) I' (by omega)
      rw [take_last hlt, List.filter_append] at go
      have hnq : T.ord[n] ∉ (T.ord.take n).filter (termB V.B V.lid f) := fun z => hnt (List.mem_filter.mp z).1
      have hqn : ((T.ord.take n).filter (termB V.B V.lid f)).Nodup := (hT.1.sublist (List.take_sublist _ _)).sublist List.filter_sublist
      have hqm : ∀ x ∈ (T.ord.take n).filter (termB V.B V.lid f), x ∈ T.ord := fun x hx => List.mem_of_mem_take (List.mem_filter.mp hx).1
      have hdl := deg_le (B := V.B) (f := f) (s := T.ord[n]) (n := 2 * V.B.pn)
      have set : termB V.B V.lid f T.ord[n] = true → CV (d - 1) Eg_settle [.ref 41, .int (nI T.ord[n]), .int 2, .int 0] I1 J (fun I2 J2 => Wp (d - 1) Eg_solve (QV G) 6 [some (.ref 41), some (.int (nI (n + 1))), none, none] [] I2 J2) := by
        intro e
        rw [List.filter_cons_of_pos (by simp [e]), List.filter_nil] at go
        refine c_Eg_settle (by omega) hM.1 (q_room hw.1 hT hqn hqm hm hnq) hm2 (go _ (hFr.tr FrX_settle) ⟨by simpa [up2] using hX.1, by simpa [up2] using hX.2⟩ (by simpa [up2] using h44) ?_)
        obtain ⟨m1, m2, m3, m4⟩ := hM
        refine ⟨by simp [up2, upd], fun k x hx => ?_, fun t ht => ?_, fun t ht h0 => ?_⟩
        · rcases app_get hx with ⟨rfl, rfl⟩ | ⟨e, e2⟩
          · simp [up2, upd]
          · simp [up2, upd, e]; exact m2 k x e2
        · have := m3 t ht
          by_cases e3 : t = T.ord[n]
          · simp [up2, upd, e3]; exact ⟨rfl, rfl⟩
          · simp only [List.mem_append, List.mem_singleton, e3, or_false]
            simp [up2, upd, e3]; simpa using this
        · have := m4 t ht
          by_cases e3 : t = T.ord[n]
          · simp [e3] at h0
          · simp only [List.mem_append, List.mem_singleton, e3, or_false] at h0
            simp [up2]; exact this h0
      refine v_Eg_solve_41_6 ⟨fun _ => ⟨hv, ?_⟩, fun q => absurd ((n_lt (by omega) (by omega)).mpr hlt) (by rw [hI.1] at q; exact q)⟩
      rw [n_tN (a := n) (by omega), hI.ord' hlt, n_inc, n_tN (a := T.ord[n]) (by omega)]
      refine c_Bx_isOpen_1 (by omega) hw.1 hV1.1 hV1.2.1 hw.2.1 (by omega) ?_
      rw [show (decide (0 < V.B.pn) && decide (pl T.ord[n] V.lid = V.B.dp V.lid)) = openB V.B V.lid T.ord[n] from rfl, bI_0, h44, (b2 _ hm).1, n_e0 (by omega)]
      refine ⟨fun e => ⟨hv2, fun e2 => set (by unfold termB; simp [e, e2]), fun e2 => ?_⟩, fun e => set (by unfold termB; simp [show openB V.B V.lid T.ord[n] = true by simpa using e])⟩
      rw [List.filter_cons_of_neg (by unfold termB; simp [e, e2]), List.filter_nil, List.append_nil] at go
      exact go I1 hFr hX h44 hM
  refine loop6 _ 0 I0 (Nat.zero_add _) hF0 ⟨rfl, rfl⟩ rfl ?_
  rw [List.take_zero, List.filter_nil]
  exact ⟨b1, fun k x hx => by simp at hx, fun s hs => by have := b2 s hs; simp; exact ⟨this.2.1, this.2.2⟩, fun s hs _ => by rw [cntU_deg]; exact (b2 s hs).1⟩
end SOLVE
end
section
/-! the game: the model solves it by rounds -/
/-- a move to what is so -/
def mvP (B : Bx) (f s : Nat) (P : Nat → Bool) (m : Nat) : Bool := match nx B f s m with
  | some t => P t
  | none => false
def fmP (B : Bx) (f s : Nat) (P : Nat → Bool) : Option Nat := (List.range (2 * B.pn)).find? (mvP B f s P)
def allP (B : Bx) (f s : Nat) (P : Nat → Bool) : Nat → Bool
  | 0 => true
  | n + 1 => allP B f s P n && (match nx B f s n with
    | some t => P t
    | none => true)
theorem fmPN {N n : Nat} {p : Nat → Bool} (h : n < N) : ((List.range N).drop n).find? p = if p n then some n else ((List.range N).drop (n + 1)).find? p := by
  have e := findN (p := p) (l := List.range N) (n := n) (by simpa using h)
  rw [List.getElem_range] at e
  exact e
theorem fmP_i {B : Bx} {f s : Nat} {P : Nat → Bool} : (fmP B f s P).isSome = true ↔ ∃ t, suc B f s t ∧ P t = true := by
  unfold fmP
  rw [List.find?_isSome]
  constructor
  · rintro ⟨m, hm, h⟩
    unfold mvP at h
    cases hnx : nx B f s m with
    | none => rw [hnx] at h; cases h
    | some t => rw [hnx] at h; exact ⟨t, ⟨m, List.mem_range.mp hm, hnx⟩, h⟩
  · rintro ⟨t, ⟨m, hm, hnx⟩, h⟩
    refine ⟨m, List.mem_range.mpr hm, ?_⟩
    unfold mvP
    rw [hnx]; exact h
theorem fmP_none {B : Bx} {f s : Nat} {P : Nat → Bool} (h : ∀ m, m < 2 * B.pn → nx B f s m = none) : fmP B f s P = none := by
  cases e : fmP B f s P with
  | none => rfl
  | some m =>
    obtain ⟨t, ⟨m, hm, hnx⟩, _⟩ := fmP_i.mp (by rw [e]; rfl : (fmP B f s P).isSome = true)
    rw [h m hm] at hnx; cases hnx
theorem fmP_congr {B : Bx} {f s : Nat} {P P' : Nat → Bool} (h : ∀ t, suc B f s t → P t = P' t) : fmP B f s P = fmP B f s P' := by
  unfold fmP
  have : ∀ l : List Nat, (∀ m ∈ l, m < 2 * B.pn) → l.find? (mvP B f s P) = l.find? (mvP B f s P') := by
    intro l
    induction l with
    | nil => intro _; rfl
    | cons m l ih =>
      intro hl
      have e : mvP B f s P m = mvP B f s P' m := by
        unfold mvP
        cases hnx : nx B f s m with
        | none => rfl
        | some t => exact h t ⟨m, hl m List.mem_cons_self, hnx⟩
      rw [List.find?_cons, List.find?_cons, e, ih (fun x hx => hl x (List.mem_cons_of_mem _ hx))]
  exact this _ (fun m hm => List.mem_range.mp hm)
theorem fmP_lt {B : Bx} {f s m : Nat} {P : Nat → Bool} (h : fmP B f s P = some m) : m < 2 * B.pn := List.mem_range.mp (List.mem_of_find?_eq_some h)
theorem allP_i {B : Bx} {f s : Nat} {P : Nat → Bool} {n : Nat} : allP B f s P n = true ↔ ∀ m t, m < n → nx B f s m = some t → P t = true := by
  induction n with
  | zero => exact ⟨fun _ m t hm => absurd hm (Nat.not_lt_zero m), fun _ => rfl⟩
  | succ n ih =>
    simp only [allP, Bool.and_eq_true, ih]
    constructor
    · rintro ⟨h1, h2⟩ m t hm hnx
      by_cases e : m = n
      · subst e; rw [hnx] at h2; exact h2
      · exact h1 m t (by omega) hnx
    · intro h
      refine ⟨fun m t hm hnx => h m t (by omega) hnx, ?_⟩
      cases hnx : nx B f s n with
      | none => rfl
      | some t => exact h n t (by omega) hnx
section GM2
variable {d : Nat} {V : Bv} {I : I2} {J : J2} {G : I2 → J2 → Prop} {F : Int32 → I2 → J2 → Prop} {f : Nat}
end GM2
/-! rounds -/
def wnB (B : Bx) (f : Nat) (g : Gv) (n s : Nat) : Bool := (fmP B f s (fun t => decide ((g t).1 = 2 ∧ (g t).2 = n - 1))).isSome
def lsB (B : Bx) (f : Nat) (g : Gv) (s : Nat) : Bool := allP B f s (fun t => decide ((g t).1 = 1)) (2 * B.pn)
def rnd (B : Bx) (f : Nat) (g : Gv) (n : Nat) : Gv := fun s => if (g s).1 = 0 then (if wnB B f g n s then (1, n) else if lsB B f g s then (2, n) else (0, 0)) else g s
theorem wnB_i {B : Bx} {f n s : Nat} {g : Gv} : wnB B f g n s = true ↔ ∃ t, suc B f s t ∧ (g t).1 = 2 ∧ (g t).2 = n - 1 := by
  unfold wnB; rw [fmP_i]; simp only [decide_eq_true_eq]
theorem lsB_i {B : Bx} {f s : Nat} {g : Gv} : lsB B f g s = true ↔ ∀ t, suc B f s t → (g t).1 = 1 := by
  unfold lsB; rw [allP_i]
  simp only [decide_eq_true_eq]
  exact ⟨fun h t ⟨m, hm, e⟩ => h m t hm e, fun h m t hm e => h t ⟨m, hm, e⟩⟩
/-- as it stands ahead of round n -/
def PI (B : Bx) (o f : Nat) (T : Tw) (n : Nat) (g : Gv) : Prop := ∀ s, s ∈ T.ord → ((g s).1 ≤ 2 ∧ (g s).2 < n ∧ ((g s).1 = 0 → (g s).2 = 0)) ∧ (trm B o f s → g s = (2, 0)) ∧ (¬ trm B o f s → (g s).1 = 1 → (∃ t, suc B f s t ∧ (g t).1 = 2 ∧ (g s).2 = (g t).2 + 1) ∧ ∀ t, suc B f s t → (g t).1 = 2 → (g s).2 ≤ (g t).2 + 1) ∧ (¬ trm B o f s → (g s).1 = 2 → (∃ t, suc B f s t ∧ (g s).2 = (g t).2 + 1) ∧ ∀ t, suc B f s t → (g t).1 = 1 ∧ (g t).2 + 1 ≤ (g s).2) ∧ (¬ trm B o f s → (g s).1 = 0 → (∀ t, suc B f s t → (g t).1 = 2 → (g t).2 + 1 = n) ∧ ∃ t, suc B f s t ∧ ((g t).1 ≠ 1 ∨ (g t).2 + 1 = n))
section RND
variable {B : Bx} {o f : Nat} {T : Tw} {g : Gv} {n s : Nat}
theorem rnd_n (h : (g s).1 ≠ 0) : rnd B f g n s = g s := if_neg h
theorem rnd_0 (h : (g s).1 = 0) : (rnd B f g n s = (1, n) ∧ wnB B f g n s = true) ∨ (rnd B f g n s = (2, n) ∧ wnB B f g n s = false ∧ lsB B f g s = true) ∨ (rnd B f g n s = (0, 0) ∧ wnB B f g n s = false ∧ lsB B f g s = false) := by
  unfold rnd
  rw [if_pos h]
  cases h1 : wnB B f g n s with
  | true => exact Or.inl ⟨if_pos rfl, rfl⟩
  | false =>
    cases h2 : lsB B f g s with
    | true => exact Or.inr (Or.inl ⟨(if_neg (by simp)).trans (if_pos rfl), rfl, rfl⟩)
    | false => exact Or.inr (Or.inr ⟨(if_neg (by simp)).trans (if_neg (by simp)), rfl, rfl⟩)
theorem PI_rnd (hcl : Clo B f T) (hn : 1 ≤ n) (hP : PI B o f T n g) : PI B o f T (n + 1) (rnd B f g n) := by
  intro s hs
  obtain ⟨⟨a1, a2, a3⟩, a4, a5, a6, a7⟩ := hP s hs
  have mem : ∀ t, suc B f s t → t ∈ T.ord := fun t ⟨m, hm, e⟩ => hcl s hs m t hm e
  by_cases e0 : (g s).1 = 0
  · have nt : ¬ trm B o f s := fun q => by rw [a4 q] at e0; exact absurd e0 (by simp)
    obtain ⟨b1, t0, b2, b3⟩ := a7 nt e0
    rcases rnd_0 (B := B) (f := f) (n := n) e0 with ⟨e, w⟩ | ⟨e, w, l⟩ | ⟨e, w, l⟩
    · rw [e]
      refine ⟨⟨by simp, Nat.lt_succ_self n, fun q => absurd q (by simp)⟩, fun q => absurd q nt, fun _ _ => ?_, fun _ q => absurd q (by simp), fun _ q => absurd q (by simp)⟩
      obtain ⟨t, c1, c2, c3⟩ := wnB_i.mp w
      refine ⟨⟨t, c1, by rw [rnd_n (by omega)]; exact c2, by rw [rnd_n (by omega)]; show n = _; omega⟩, fun t ht h2 => ?_⟩
      show n ≤ _
      by_cases z : (g t).1 = 0
      · rcases rnd_0 (B := B) (f := f) (n := n) z with ⟨y, _⟩ | ⟨y, _⟩ | ⟨y, _⟩
        · rw [y] at h2; exact absurd h2 (by simp)
        · rw [y]; exact Nat.le_succ n
        · rw [y] at h2; exact absurd h2 (by simp)
      · rw [rnd_n z] at h2 ⊢
        have := b1 t ht h2; omega
    · rw [e]
      have l := lsB_i.mp l
      refine ⟨⟨by simp, Nat.lt_succ_self n, fun q => absurd q (by simp)⟩, fun q => absurd q nt, fun _ q => absurd q (by simp), fun _ _ => ?_, fun _ q => absurd q (by simp)⟩
      refine ⟨⟨t0, b2, ?_⟩, fun t ht => ?_⟩
      · rw [rnd_n (by rw [l t0 b2]; decide)]
        rcases b3 with z | z
        · exact absurd (l t0 b2) z
        · exact z.symm
      · rw [rnd_n (by rw [l t ht]; decide)]
        have := (hP t (mem t ht)).1.2.1
        exact ⟨l t ht, this⟩
    · rw [e]
      refine ⟨⟨by simp, Nat.succ_pos n, fun _ => rfl⟩, fun q => absurd q nt, fun _ q => absurd q (by simp), fun _ q => absurd q (by simp), fun _ _ => ?_⟩
      refine ⟨fun t ht h2 => ?_, ?_⟩
      · by_cases z : (g t).1 = 0
        · rcases rnd_0 (B := B) (f := f) (n := n) z with ⟨y, _⟩ | ⟨y, _⟩ | ⟨y, _⟩
          · rw [y] at h2; exact absurd h2 (by simp)
          · rw [y]
          · rw [y] at h2; exact absurd h2 (by simp)
        · rw [rnd_n z] at h2 ⊢
          have k := b1 t ht h2
          have : wnB B f g n s = true := wnB_i.mpr ⟨t, ht, h2, by omega⟩
          rw [this] at w; cases w
      · have : ¬ ∀ t, suc B f s t → (g t).1 = 1 := fun q => by rw [lsB_i.mpr q] at l; cases l
        obtain ⟨t, ht⟩ := Classical.not_forall.mp this
        obtain ⟨ht1, ht2⟩ := Classical.not_imp.mp ht
        refine ⟨t, ht1, ?_⟩
        by_cases z : (g t).1 = 0
        · rcases rnd_0 (B := B) (f := f) (n := n) z with ⟨y, _⟩ | ⟨y, _⟩ | ⟨y, _⟩
          · rw [y]; exact Or.inr rfl
          · rw [y]; exact Or.inl (by simp)
          · rw [y]; exact Or.inl (by simp)
        · rw [rnd_n z]; exact Or.inl ht2
  · rw [rnd_n e0]
    refine ⟨⟨a1, by omega, a3⟩, a4, fun nt h1 => ?_, fun nt h2 => ?_, fun _ q => absurd q e0⟩
    · obtain ⟨⟨t, c1, c2, c3⟩, c4⟩ := a5 nt h1
      refine ⟨⟨t, c1, by rw [rnd_n (by omega)]; exact c2, by rw [rnd_n (by omega)]; exact c3⟩, fun t ht h2 => ?_⟩
      by_cases z : (g t).1 = 0
      · rcases rnd_0 (B := B) (f := f) (n := n) z with ⟨y, _⟩ | ⟨y, _⟩ | ⟨y, _⟩
        · rw [y] at h2; exact absurd h2 (by simp)
        · rw [y]; show (g s).2 ≤ n + 1; omega
        · rw [y] at h2; exact absurd h2 (by simp)
      · rw [rnd_n z] at h2 ⊢; exact c4 t ht h2
    · obtain ⟨⟨t, c1, c2⟩, c4⟩ := a6 nt h2
      refine ⟨⟨t, c1, by rw [rnd_n (by rw [(c4 t c1).1]; decide)]; exact c2⟩, fun t ht => ?_⟩
      rw [rnd_n (by rw [(c4 t ht).1]; decide)]
      exact c4 t ht
theorem PI_end (hn : 1 ≤ n) (hP : PI B o f T n g) (hE : ∀ s, s ∈ T.ord → (g s).1 = 0 → (rnd B f g n s).1 = 0) : GC B o f T g := by
  intro s hs
  obtain ⟨⟨a1, a2, a3⟩, a4, a5, a6, a7⟩ := hP s hs
  have hno : (g s).1 = 0 → ¬ trm B o f s ∧ (¬ ∃ t, suc B f s t ∧ (g t).1 = 2) ∧ ¬ ∀ t, suc B f s t → (g t).1 = 1 := by
    intro e0
    have nt : ¬ trm B o f s := fun q => by rw [a4 q] at e0; exact absurd e0 (by simp)
    have hE := hE s hs e0
    rcases rnd_0 (B := B) (f := f) (n := n) e0 with ⟨e, _⟩ | ⟨e, _⟩ | ⟨e, w, l⟩
    · rw [e] at hE; exact absurd hE (by simp)
    · rw [e] at hE; exact absurd hE (by simp)
    · refine ⟨nt, fun ⟨t, h1, h2⟩ => ?_, fun q => by rw [lsB_i.mpr q] at l; cases l⟩
      have := (a7 nt e0).1 t h1 h2
      rw [wnB_i.mpr ⟨t, h1, h2, by omega⟩] at w; cases w
  refine ⟨a4, fun nt hx => ?_, fun nt hx => ?_, fun nt h1 h2 => ?_⟩
  · have e1 : (g s).1 = 1 := by
      rcases (show (g s).1 = 0 ∨ (g s).1 = 1 ∨ (g s).1 = 2 by omega) with e | e | e
      · exact absurd hx (hno e).2.1
      · exact e
      · obtain ⟨t, h1, h2⟩ := hx
        have := ((a6 nt e).2 t h1).1
        omega
    exact ⟨e1, (a5 nt e1).1, (a5 nt e1).2⟩
  · have e2 : (g s).1 = 2 := by
      rcases (show (g s).1 = 0 ∨ (g s).1 = 1 ∨ (g s).1 = 2 by omega) with e | e | e
      · exact absurd hx (hno e).2.2
      · obtain ⟨⟨t, c1, c2, _⟩, _⟩ := a5 nt e
        have := hx t c1; omega
      · exact e
    exact ⟨e2, (a6 nt e2).1, fun t ht => ((a6 nt e2).2 t ht).2⟩
  · have e0 : (g s).1 = 0 := by
      rcases (show (g s).1 = 0 ∨ (g s).1 = 1 ∨ (g s).1 = 2 by omega) with e | e | e
      · exact e
      · obtain ⟨⟨t, c1, c2, _⟩, _⟩ := a5 nt e
        exact absurd ⟨t, c1, c2⟩ h1
      · exact absurd (fun t ht => ((a6 nt e).2 t ht).1) h2
    exact Prod.ext e0 (a3 e0)
theorem PI_1 (h : ∀ s, s ∈ T.ord → g s = if termB B o f s then (2, 0) else (0, 0)) : (∀ t, t ∈ T.ord → g t = (2, 0) ∨ g t = (0, 0)) ∧ (Clo B f T → PI B o f T 1 g) := by
  have two : ∀ t, t ∈ T.ord → g t = (2, 0) ∨ g t = (0, 0) := by
    intro t ht
    rw [h t ht]
    cases termB B o f t
    · exact Or.inr rfl
    · exact Or.inl rfl
  refine ⟨two, fun hcl s hs => ?_⟩
  have mem : ∀ t, suc B f s t → t ∈ T.ord := fun t ⟨m, hm, e⟩ => hcl s hs m t hm e
  have b : (g s).1 ≤ 2 ∧ (g s).2 < 1 ∧ ((g s).1 = 0 → (g s).2 = 0) ∧ (g s).1 ≠ 1 := by
    rcases two s hs with e | e <;> rw [e] <;> decide
  refine ⟨⟨b.1, b.2.1, b.2.2.1⟩, fun q => by rw [h s hs, if_pos (termB_i.mpr q)], fun _ q => absurd q b.2.2.2, fun nt q => ?_, fun nt q => ?_⟩
  · rw [h s hs, if_neg (fun z => nt (termB_i.mp z))] at q; exact absurd q (by simp)
  · refine ⟨fun t ht h2 => ?_, ?_⟩
    · rcases two t (mem t ht) with e | e <;> rw [e]
    · have : ¬ ∀ m, m < 2 * B.pn → nx B f s m = none := fun z => nt (Or.inr z)
      obtain ⟨m, hm⟩ := Classical.not_forall.mp this
      obtain ⟨hm1, hm2⟩ := Classical.not_imp.mp hm
      cases hnx : nx B f s m with
      | none => exact absurd hnx hm2
      | some t =>
        refine ⟨t, ⟨m, hm1, hnx⟩, Or.inl ?_⟩
        rcases two t (mem t ⟨m, hm1, hnx⟩) with e | e <;> rw [e] <;> decide
end RND
end
section
/-! the game: the model's rounds walked; the answer of both sides -/
/-- known and depth tell g -/
def SR (T : Tw) (g : Gv) (I : I2) : Prop := ∀ s, s ∈ T.ord → I 69 s = nI (g s).1 ∧ ((g s).1 ≠ 0 → I 70 s = nI (g s).2)
def dI (B : Bx) (f : Nat) (g : Gv) (n s : Nat) : Int32 := if wnB B f g n s then nI n else if lsB B f g s then -nI n else 0
theorem neg_ok : ∀ n, n < 1100 → n ≠ 0 → ¬ (-nI n = 0) ∧ ¬ (0 < -nI n) := by decide +kernel
theorem KnV_m1 {x : Int32} (h : KnV x) : ¬ x = -1 := by
  rcases h with e | e | e <;> rw [e] <;> decide
theorem optI_4 {g : Option Nat} (h : ∀ m, g = some m → m < 2 ^ 31) : optI g (-4) = -4 ↔ g = none := by
  cases g with
  | none => exact ⟨fun _ => rfl, fun _ => rfl⟩
  | some m =>
    refine ⟨fun q => ?_, fun q => by cases q⟩
    have e : nI m = -4 := q
    exact absurd (by rw [e]; decide) (nI_pos (h m rfl))
theorem allF {B : Bx} {f s n : Nat} : allP B f s (fun _ => false) n = decide (deg B f s n = 0) := by
  induction n with
  | zero => rfl
  | succ n ih =>
    cases hx : nx B f s n with
    | none => simp [allP, deg, ih, hx]
    | some t => simp [allP, deg, ih, hx]
section SV
variable {d : Nat} {V : Bv} {I : I2} {J : J2} {G : I2 → J2 → Prop} {F : Int32 → I2 → J2 → Prop} {f : Nat}
/-! the answers -/
def ltB (g : Gv) (s t : Nat) : Bool := if (g s).1 = 0 then decide ((g t).1 = 0) else decide ((g t).1 ≠ 0 ∧ (g t).1 ≠ (g s).1 ∧ (g t).2 + 1 = (g s).2)
noncomputable def gameS (V : Bv) (x : Int32) : Int32 := if x < 0 ∨ 2 < x then -1 else if V.B.pn = 0 then -4 else if x = 0 then nI (gm V.B V.lid V.f V.T V.s).1 else if x = 1 then nI (gm V.B V.lid V.f V.T V.s).2 else if openB V.B V.lid V.s then -4 else optI ((fmP V.B V.f V.s (ltB (gm V.B V.lid V.f V.T) V.s)).map slN) (-4)
theorem gameS_of (hw : WFV V) {g : Gv} (hG : GC V.B V.lid V.f V.T g) {x : Int32} (h0 : ¬ (x < 0 ∨ 2 < x)) (h1 : ¬ V.B.pn = 0) : gameS V x = if x = 0 then nI (g V.s).1 else if x = 1 then nI (g V.s).2 else if openB V.B V.lid V.s then -4 else optI ((fmP V.B V.f V.s (ltB g V.s)).map slN) (-4) := by
  have hcl : Clo V.B V.f V.T := Clob hw V.f
  have hs : V.s ∈ V.T.ord := bfs_self
  have e := gm_eq hcl hG hs
  have e2 : fmP V.B V.f V.s (ltB (gm V.B V.lid V.f V.T) V.s) = fmP V.B V.f V.s (ltB g V.s) := by
    refine fmP_congr (fun t ht => ?_)
    obtain ⟨m, hm, hnx⟩ := ht
    unfold ltB
    rw [e, gm_eq hcl hG (hcl V.s hs m t hm hnx)]
  unfold gameS
  rw [if_neg h0, if_neg h1, e, e2]
theorem GC_z {B : Bx} {o f : Nat} {T : Tw} {g : Gv} (hg : GC B o f T g) {s : Nat} (hs : s ∈ T.ord) : ((g s).1 = 0 → (g s).2 = 0) ∧ ((g s).2 = 0 → ¬ (g s).1 = 0 → trm B o f s) := by
  obtain ⟨a1, a2, a3, a4⟩ := hg s hs
  by_cases ht : trm B o f s
  · exact ⟨fun _ => by rw [a1 ht], fun _ _ => ht⟩
  · by_cases hl : ∃ t, suc B f s t ∧ (g t).1 = 2
    · obtain ⟨b1, ⟨t, _, _, b2⟩, _⟩ := a2 ht hl
      exact ⟨fun e => by omega, fun e => by omega⟩
    · by_cases hw : ∀ t, suc B f s t → (g t).1 = 1
      · obtain ⟨b1, ⟨t, _, b2⟩, _⟩ := a3 ht hw
        exact ⟨fun e => by omega, fun e => by omega⟩
      · have := a4 ht hl hw
        exact ⟨fun _ => by rw [this], fun _ e => absurd (by rw [this]) e⟩
theorem c_Eg_leadsTo {T : Tw} {g : Gv} {s t : Nat} (hd : 1 ≤ d) (hgs : (g s).1 ≤ 2 ∧ (g s).2 ≤ 1024) (hgt : (g t).1 ≤ 2 ∧ (g t).2 ≤ 1024) (hs2 : s < 1024) (ht2 : t < 1024) (hs : I 46 s = nI (g s).1 ∧ I 47 s = nI (g s).2) (ht : I 46 t = nI (g t).1 ∧ I 47 t = nI (g t).2) (h : F (bI (ltB g s t)) I J) : CI d Eg_leadsTo [.ref 41, .int (nI s), .int (nI t)] I J F := by
  have hv := n_vp (a := s) (n := 1024) hs2 (by decide)
  have hv2 := n_vp (a := t) (n := 1024) ht2 (by decide)
  refine CI.of (by omega) rfl (v_Eg_leadsTo_41_0 ?_)
  rw [n_tN (a := s) (by omega), n_tN (a := t) (by omega), hs.1, hs.2, ht.1, ht.2, n_e0 (by omega), n_e0 (by omega), n_eq (by omega) (by omega), n_inc, n_eq (by omega) (by omega)]
  unfold ltB at h
  refine ⟨hv, fun e => ⟨hv2, fun e2 => QI_i.mpr ?_, fun e2 => QI_i.mpr ?_⟩, fun e => ⟨hv2, fun e2 => QI_i.mpr ?_, fun e2 => ⟨hv2, hv, fun e3 => QI_i.mpr ?_, fun e3 => ⟨hv2, hv, fun e4 => QI_i.mpr ?_, fun e4 => QI_i.mpr ?_⟩⟩⟩⟩
  · rw [if_pos e, decide_eq_true e2] at h; exact h
  · rw [if_pos e, decide_eq_false e2] at h; exact h
  · rw [if_neg e, decide_eq_false (fun q => q.1 e2)] at h; exact h
  · rw [if_neg e, decide_eq_false (fun q => q.2.1 e3)] at h; exact h
  · rw [if_neg e, decide_eq_true ⟨e2, e3, e4⟩] at h; exact h
  · rw [if_neg e, decide_eq_false (fun q => e4 q.2.2)] at h; exact h
theorem c_Eg_firstSlide {T : Tw} {g : Gv} {s : Nat} (hd : 3 ≤ d) (hw : WFV V) (hV : CBx 1 V I) (hf : f < 64) (eT : bfs V.B f V.s = T) (hA : WkA V f I) (hb : ∀ s, s ∈ T.ord → (g s).1 ≤ 2 ∧ (g s).2 ≤ 1024) (hS : ∀ s, s ∈ T.ord → I 46 s = nI (g s).1 ∧ I 47 s = nI (g s).2) (hs : s ∈ T.ord) (h : F (if openB V.B V.lid s then -4 else optI ((fmP V.B f s (ltB g s)).map slN) (-4)) I J) : CI d Eg_firstSlide [.ref 41, .int (nI s)] I J F := by
  have hp5 := hw.1.1
  have hT : TI V.B T := eT ▸ TIb hw f
  have hcl : Clo V.B f T := eT ▸ Clob hw f
  have hok := (hT.2.2.1 _ hs).1
  have hs2 := s31 hw.1 hok.1
  refine CI.of (by omega) rfl (v_Eg_firstSlide_41_0 ?_)
  refine c_Bx_isOpen_1 (by omega) hw.1 hV.1 hV.2.1 hw.2.1 (by omega) ?_
  rw [show (decide (0 < V.B.pn) && decide (pl s V.lid = V.B.dp V.lid)) = openB V.B V.lid s from rfl, bI_0]
  refine ⟨fun e => ?_, fun e => QI_i.mpr ?_⟩
  · rw [if_neg (by rw [e]; decide)] at h
    have loop : ∀ k n, n + k = 2 * V.B.pn → ((List.range (2 * V.B.pn)).drop n).find? (mvP V.B f s (ltB g s)) = fmP V.B f s (ltB g s) → Wp (d - 1) Eg_firstSlide (QI F) 16 [some (.ref 41), some (.int (nI s)), some (.int (nI n)), none] [] I J := by
      intro k
      induction k with
      | zero =>
        intro n hn he
        have hn : n = 2 * V.B.pn := by omega
        subst hn
        rw [List.drop_of_length_le (by simp)] at he
        refine v_Eg_firstSlide_41_16 ⟨fun q => ?_, fun _ => QI_i.mpr ?_⟩
        · rw [hA.2.1.1] at q; exact absurd ((n_lt (by omega) (by omega)).mp q) (Nat.lt_irrefl _)
        · rw [← he] at h; exact h
      | succ k ih =>
        intro n hn he
        have hlt : n < 2 * V.B.pn := by omega
        rw [fmPN hlt] at he
        refine v_Eg_firstSlide_41_16 ⟨fun _ => c_Wk_next (by omega) hw.1 hA.2.1 hA.2.2.2.1 hf hok hlt ?_, fun q => absurd ((n_lt (by omega) (by omega)).mpr hlt) (by rw [hA.2.1.1] at q; exact q)⟩
        rw [n_inc]
        cases hnx : nx V.B f s n with
        | none =>
          have hp : mvP V.B f s (ltB g s) n = false := by unfold mvP; rw [hnx]
          rw [if_neg (by rw [hp]; decide)] at he
          exact ⟨fun _ => ih (n + 1) (by omega) he, fun q => absurd (by decide) q⟩
        | some t =>
          have htT := hcl s hs n t hlt hnx
          have ht2 := s31 hw.1 (hT.2.2.1 _ htT).1.1
          have hp : mvP V.B f s (ltB g s) n = ltB g s t := by unfold mvP; rw [hnx]
          rw [hp] at he
          refine ⟨fun q => absurd q (nI_pos (by omega)), fun _ => c_Eg_leadsTo (T := T) (by omega) (hb s hs) (hb t htT) hs2 ht2 (hS s hs) (hS t htT) ?_⟩
          rw [bI_0]
          refine ⟨fun e2 => ?_, fun e2 => CI.of (by omega) rfl (v_Wk_slideOf_0 (QI_i.mpr (QI_i.mpr ?_)))⟩
          · rw [if_neg (by rw [e2]; decide)] at he
            exact ih (n + 1) (by omega) he
          · rw [if_pos (by simpa using e2)] at he
            rw [← he] at h
            rw [n_slW (by omega)]; exact h
    exact loop _ 0 (Nat.zero_add _) rfl
  · rw [if_pos (by simpa using e)] at h; exact h
theorem c_Sb_game (hd : 7 ≤ d) (hw : WFV V) (hV : CBx 1 V I) (hC : CaR V.B I) (x : Int32) (h : ∀ I', FrG I I' → CaR V.B I' → F (gameS V x) I' J) : CI d Sb_game [.ref 0, .int x] I J F := by
  have hf := f64 hw.1 hw.2.2.2.1
  have hp5 := hw.1.1
  have hs2 := s31 hw.1 hw.2.2.1.1
  have hv := n_vp (a := V.s) (n := 1024) hs2 (by decide)
  refine CI.of (by omega) rfl (v_Sb_game_0_0 ?_)
  rw [hV.1.1, n_e0 (by omega), hV.2.2.1, hV.2.2.2.1]
  refine ⟨fun e => ?_, fun e0 => ⟨fun e => ?_, fun e1 => ⟨fun e => ?_, fun e2 => ?_⟩⟩⟩
  · rw [show gameS V x = -1 from if_pos (Or.inl e)] at h; exact QI_i.mpr (h I FrG.rf hC)
  · rw [show gameS V x = -1 from if_pos (Or.inr e)] at h; exact QI_i.mpr (h I FrG.rf hC)
  · have e0 : ¬ (x < 0 ∨ 2 < x) := fun q => q.elim e0 e1
    rw [show gameS V x = -4 from (if_neg e0).trans (if_pos e)] at h; exact QI_i.mpr (h I FrG.rf hC)
  · have e0 : ¬ (x < 0 ∨ 2 < x) := fun q => q.elim e0 e1
    refine c_W_from (by omega) hw hV hC hf (fun I1 q1 q2 q3 => c_Eg_solve (by omega) hw q2 hf rfl q3 (fun I2 g z hG hS => ?_))
    rw [gameS_of hw hG.1 e0 e2] at h
    have hA2 := z.wka q3
    have hV2 := z.g.cbx q2
    have h := h I2 (q1.tr z.g) (hA2.ca hw hf)
    have hs : V.s ∈ V.T.ord := bfs_self
    obtain ⟨s1, s2⟩ := hS _ hs
    rw [hV2.2.2.1, n_tN (by omega), s1, s2]
    refine ⟨fun e3 => ⟨hv, QI_i.mpr ?_⟩, fun e3 => ⟨fun e4 => ⟨hv, QI_i.mpr ?_⟩, fun e4 => ?_⟩⟩
    · rw [if_pos e3] at h; exact h
    · rw [if_neg e3, if_pos e4] at h; exact h
    · rw [if_neg e3, if_neg e4] at h
      exact c_Eg_firstSlide (by omega) hw hV2 hf rfl hA2 hG.2 hS hs (QI_i.mpr h)
end SV
end
section
/-! fumbled at: in shares of 2520 each time; the class -/
def sumM (B : Bx) (f s : Nat) (w : Nat → Nat) : Nat → Nat
  | 0 => 0
  | m + 1 => sumM B f s w m + (match nx B f s m with
    | some t => w t
    | none => 0)
def shr (B : Bx) (o f : Nat) : Nat → Nat → Nat
  | 0, s => if openB B o s then 1 else 0
  | n + 1, s => if openB B o s then 2520 ^ (n + 1) else if deg B f s (2 * B.pn) = 0 then 0 else sumM B f s (shr B o f n) (2 * B.pn) * (2520 / deg B f s (2 * B.pn))
theorem sumM_le {B : Bx} {f s : Nat} {w : Nat → Nat} {c : Nat} (h : ∀ t, w t ≤ c) : ∀ m, sumM B f s w m ≤ deg B f s m * c := by
  intro m
  induction m with
  | zero => simp [sumM, deg]
  | succ m ih =>
    simp only [sumM, deg]
    cases nx B f s m with
    | none => simpa using ih
    | some t =>
      have := h t
      simp only [Option.isSome_some, if_true, Nat.add_mul, Nat.one_mul]
      omega
theorem shr_le {B : Bx} {o f : Nat} : ∀ n s, shr B o f n s ≤ 2520 ^ n := by
  intro n
  induction n with
  | zero => intro s; simp only [shr]; split <;> simp
  | succ n ih =>
    intro s
    simp only [shr]
    split
    · exact Nat.le_refl _
    · split
      · exact Nat.zero_le _
      · next h0 =>
        have h1 := sumM_le (B := B) (f := f) (s := s) ih (2 * B.pn)
        have h2 : sumM B f s (shr B o f n) (2 * B.pn) * (2520 / deg B f s (2 * B.pn)) ≤ (deg B f s (2 * B.pn) * 2520 ^ n) * (2520 / deg B f s (2 * B.pn)) := Nat.mul_le_mul_right _ h1
        have h3 : (deg B f s (2 * B.pn) * 2520 ^ n) * (2520 / deg B f s (2 * B.pn)) = 2520 ^ n * (deg B f s (2 * B.pn) * (2520 / deg B f s (2 * B.pn))) := by
          rw [Nat.mul_comm (deg B f s (2 * B.pn)) (2520 ^ n), Nat.mul_assoc]
        have h4 : deg B f s (2 * B.pn) * (2520 / deg B f s (2 * B.pn)) ≤ 2520 := Nat.mul_div_le _ _
        have h5 := Nat.mul_le_mul_left (2520 ^ n) h4
        rw [Nat.pow_succ]
        omega
theorem pow25 {n : Nat} (h : n ≤ 3) : 2520 ^ n ≤ 16003008000 := by
  have := Nat.pow_le_pow_right (n := 2520) (by decide) h
  exact Nat.le_trans this (by decide)
theorem gcd_step (a b : Nat) : Nat.gcd a b = Nat.gcd b (a % b) := by
  rw [Nat.gcd_comm a b, Nat.gcd_rec b a, Nat.gcd_comm]
theorem n_rmL {a b : Nat} (ha : a < 2 ^ 63) (h0 : 0 < b) (hb : b < 2 ^ 63) : rmL (lN a) (lN b) = lN (a % b) := pk_lRem ha h0 hb
theorem lN_0 {a : Nat} (ha : a < 2 ^ 63) : lg_cmp (lN a) 0 = 0 ↔ a = 0 := by
  rw [cmp_eq]; exact pk_lEQ (b := 0) ha (by decide)
theorem lN_n0 {a : Nat} (ha : a < 2 ^ 63) (h : a ≠ 0) : ¬ lN a = 0 := fun q => h ((pk_lEQ (b := 0) ha (by decide)).mp q)
def fumA (V : Bv) (n : Nat) : Nat := shr V.B V.lid V.f n V.s
def fumbleS (V : Bv) (x y : Int32) : Int64 := if x < 0 ∨ 3 < x ∨ y < 0 ∨ 1 < y then -1 else if y = 0 then lN (fumA V (tN x) / Nat.gcd (fumA V (tN x)) (2520 ^ tN x)) else lN (2520 ^ tN x / Nat.gcd (fumA V (tN x)) (2520 ^ tN x))
section FUM
variable {d : Nat} {V : Bv} {I : I2} {J : J2} {F : Int64 → I2 → J2 → Prop} {f s : Nat}
theorem c_Sb_evenShares {n : Nat} (hd : 1 ≤ d) (hn : n < 2 ^ 20) (h : F (lN (2520 ^ n)) I J) : CL d Sb_evenShares [.int (nI n)] I J F := by
  have loop : ∀ k j, j + k = n → Wp (d - 1) Sb_evenShares (QL F) 4 [some (.int (nI n)), some (.long (lN (2520 ^ j))), none, some (.int (nI j))] [] I J := by
    intro k
    induction k with
    | zero =>
      intro j hj
      have hj : j = n := by omega
      subst hj
      exact v_Sb_evenShares_4 ⟨fun q => absurd ((n_lt (by omega) (by omega)).mp q) (Nat.lt_irrefl _), fun _ => QL_i.mpr h⟩
    | succ k ih =>
      intro j hj
      refine v_Sb_evenShares_4 ⟨fun _ => ?_, fun q => absurd ((n_lt (by omega) (by omega)).mpr (by omega)) q⟩
      have e : lN (2520 ^ j) * 2520 = lN (2520 ^ (j + 1)) := by rw [Nat.pow_succ]; exact lN_mul _ 2520
      rw [e, n_inc]
      exact ih (j + 1) (by omega)
  exact CL.of (by omega) rfl (v_Sb_evenShares_0 (loop n 0 (Nat.zero_add _)))
theorem c_Sb_gcd {a b : Nat} (hd : 1 ≤ d) (ha : a < 2 ^ 40) (hb : b < 2 ^ 40) (h : F (lN (Nat.gcd a b)) I J) : CL d Sb_greatestDivisor [.long (lN a), .long (lN b)] I J F := by
  have loop : ∀ k a b i, a < 2 ^ 40 → b < 2 ^ k → k ≤ 40 → i + 2 * k + 2 ≤ 128 → F (lN (Nat.gcd a b)) I J → Wp (d - 1) Sb_greatestDivisor (QL F) 3 [some (.long (lN a)), none, some (.long (lN b)), none, some (.int (nI i)), none, none] [] I J := by
    intro k
    induction k with
    | zero =>
      intro a b i ha hb hk hi h
      have b0 : b = 0 := by have : b < 1 := hb; omega
      subst b0
      rw [Nat.gcd_zero_right] at h
      exact v_Sb_greatestDivisor_3 ⟨fun _ => ⟨fun _ => QL_i.mpr h, fun q => absurd ((lN_0 (by omega)).mpr rfl) q⟩, fun _ => QL_i.mpr h⟩
    | succ k ih =>
      intro a b i ha hb hk hi h
      have h40 : 2 ^ (k + 1) ≤ 2 ^ 40 := Nat.pow_le_pow_right (by decide) hk
      have e2 : 2 ^ (k + 1) = 2 ^ k * 2 := Nat.pow_succ ..
      refine v_Sb_greatestDivisor_3 ⟨fun _ => ?_, fun q => absurd ((n_lt (b := 128) (by omega) (by decide)).mpr (by omega)) q⟩
      rw [lN_0 (by omega), n_inc]
      refine ⟨fun b0 => QL_i.mpr ?_, fun b0 => ⟨lN_n0 (by omega) b0, ?_⟩⟩
      · rw [b0, Nat.gcd_zero_right] at h; exact h
      · rw [gcd_step] at h
        have hr := Nat.mod_lt a (Nat.pos_of_ne_zero b0)
        rw [n_rmL (by omega) (by omega) (by omega)]
        generalize a % b = r at hr h ⊢
        refine v_Sb_greatestDivisor_3 ⟨fun _ => ?_, fun q => absurd ((n_lt (b := 128) (by omega) (by decide)).mpr (by omega)) q⟩
        rw [lN_0 (by omega), n_inc]
        refine ⟨fun r0 => QL_i.mpr ?_, fun r0 => ⟨lN_n0 (by omega) r0, ?_⟩⟩
        · rw [r0, Nat.gcd_zero_right] at h; exact h
        · rw [gcd_step] at h
          rw [n_rmL (by omega) (by omega) (by omega)]
          have h1 := Nat.mod_lt b (Nat.pos_of_ne_zero r0)
          have h2 : b % r ≤ b - r := by
            rw [Nat.mod_eq_sub_mod (by omega : b ≥ r)]
            exact Nat.mod_le _ _
          exact ih r (b % r) (i + 1 + 1) (by omega) (by omega) (by omega) (by omega) h
  exact CL.of (by omega) rfl (v_Sb_greatestDivisor_0 (loop 40 a b 0 ha hb (Nat.le_refl _) (by decide) h))
theorem c_Sb_openShares (hw : WFV V) (hV : CBx 1 V I) : ∀ n, n ≤ 3 → ∀ (d s : Nat) (F : Int64 → I2 → J2 → Prop), n + 6 ≤ d → okS V.B s → F (lN (shr V.B V.lid V.f n s)) I J → CL d Sb_openShares [.ref 1, .int (nI s), .int (nI n)] I J F := by
  have hp5 := hw.1.1
  have hf := f64 hw.1 hw.2.2.2.1
  intro n
  induction n with
  | zero =>
    intro _ d s F hd hs h
    have hs2 := s31 hw.1 hs.1
    refine CL.of (by omega) rfl (v_Sb_openShares_1_0 (c_Bx_isOpen_1 (by omega) hw.1 hV.1 hV.2.1 hw.2.1 (by omega) ?_))
    rw [show (decide (0 < V.B.pn) && decide (pl s V.lid = V.B.dp V.lid)) = openB V.B V.lid s from rfl, bI_0]
    simp only [shr] at h
    refine ⟨fun e => ⟨fun q => absurd q (by decide), fun _ => QL_i.mpr ?_⟩, fun e => c_Sb_evenShares (n := 0) (by omega) (by decide) (QL_i.mpr ?_)⟩
    · rw [if_neg (by rw [e]; decide)] at h; exact h
    · rw [if_pos (by simpa using e)] at h; exact h
  | succ n ih =>
    intro hn3 d s F hd hs h
    have hs2 := s31 hw.1 hs.1
    refine CL.of (by omega) rfl (v_Sb_openShares_1_0 (c_Bx_isOpen_1 (by omega) hw.1 hV.1 hV.2.1 hw.2.1 (by omega) ?_))
    rw [show (decide (0 < V.B.pn) && decide (pl s V.lid = V.B.dp V.lid)) = openB V.B V.lid s from rfl, bI_0]
    simp only [shr] at h
    refine ⟨fun e => ⟨fun _ => ?_, fun q => absurd ((n_p0 (by omega)).mpr (Nat.succ_pos n)) q⟩, fun e => c_Sb_evenShares (by omega) (by omega) (QL_i.mpr ?_)⟩
    · rw [if_neg (by rw [e]; decide)] at h
      have e2 : (2 : Int32) * nI V.B.pn = nI (2 * V.B.pn) := pk_mul 2 _
      have loop : ∀ k m, m + k = 2 * V.B.pn → Wp (d - 1) Sb_openShares (QL F) 27 [some (.ref 1), some (.int (nI s)), some (.int (nI (n + 1))), some (.long (lN (sumM V.B V.f s (shr V.B V.lid V.f n) m))), none, some (.int (nI (deg V.B V.f s m))), some (.int (nI m))] [] I J := by
        intro k
        induction k with
        | zero =>
          intro m hm
          have hm : m = 2 * V.B.pn := by omega
          subst hm
          have hdl := deg_le (B := V.B) (f := V.f) (s := s) (n := 2 * V.B.pn)
          refine v_Sb_openShares_1_27 ⟨fun q => ?_, fun _ => ?_⟩
          · rw [hV.1.1, e2] at q; exact absurd ((n_lt (by omega) (by omega)).mp q) (Nat.lt_irrefl _)
          · rw [n_e0 (by omega), nI_l (by omega)]
            refine ⟨fun z => QL_i.mpr ?_, fun z => ⟨lN_n0 (by omega) z, QL_i.mpr ?_⟩⟩
            · rw [if_pos z] at h; exact h
            · rw [if_neg z] at h
              have e3 : (2520 : Int64) / lN (deg V.B V.f s (2 * V.B.pn)) = lN (2520 / deg V.B V.f s (2 * V.B.pn)) := pk_lDiv (a := 2520) (by decide) (by omega) (by omega)
              rw [e3, lN_mul]; exact h
        | succ k ihk =>
          intro m hm
          have hlt : m < 2 * V.B.pn := by omega
          have go := ihk (m + 1) (by omega)
          simp only [sumM, deg] at go
          refine v_Sb_openShares_1_27 ⟨fun _ => ?_, fun q => absurd ((n_lt (by omega) (by omega)).mpr hlt) (by rw [hV.1.1, e2] at q; exact q)⟩
          have e3 : srI (nI m) 1 = nI (m / 2) := n_sr (k := 1) (by omega) (by decide)
          rw [hV.2.2.2.1, e3, n_and1 (by omega), n_inc, n_inc, n_dec (Nat.succ_pos n)]
          refine c_Bx_maySlide_1 (by omega) hw.1 hV.1 (by omega) (by omega) hf (Nat.mod_lt _ (by decide)) ?_
          rw [bI_0]
          refine ⟨fun z => ?_, fun z => ?_⟩
          · have hnx : nx V.B V.f s m = none := by unfold nx; rw [if_neg (by rw [z]; decide)]
            rw [hnx] at go; exact go
          · have z : mayB V.B s V.f (m / 2) (m % 2) = true := by simpa using z
            have hnx : nx V.B V.f s m = some (behB V.B s (m / 2) (m % 2) V.B.pn) := by unfold nx; rw [if_pos z]
            have hok := (nx_ok hw.1 hs hlt hnx).1
            rw [hnx] at go
            refine c_Bx_behind_1 (by omega) hw.1 hV.1 (by omega) (by omega) (Nat.mod_lt _ (by decide)) (may_place z).1 ?_
            refine ih (by omega) (d - 1) _ _ (by omega) hok ?_
            rw [lN_add]; exact go
      exact loop _ 0 (Nat.zero_add _)
    · rw [if_pos (by simpa using e)] at h; exact h
theorem gcd_pos' {a n : Nat} : 0 < Nat.gcd a (2520 ^ n) := Nat.gcd_pos_of_pos_right _ (Nat.pow_pos (by decide))
theorem fum_bd (V : Bv) {n : Nat} (h : n ≤ 3) : fumA V n ≤ 16003008000 ∧ 2520 ^ n ≤ 16003008000 ∧ Nat.gcd (fumA V n) (2520 ^ n) ≤ 16003008000 :=
  ⟨Nat.le_trans (shr_le n _) (pow25 h), pow25 h, Nat.le_trans (Nat.gcd_le_right _ (Nat.pow_pos (by decide))) (pow25 h)⟩
theorem c_Sb_fumble (hd : 10 ≤ d) (hw : WFV V) (hV : CBx 1 V I) (x y : Int32) (h : F (fumbleS V x y) I J) : CL d Sb_fumble [.ref 0, .int x, .int y] I J F := by
  refine CL.of (by omega) rfl (v_Sb_fumble_0_0 ?_)
  unfold fumbleS at h
  refine ⟨fun e => QL_i.mpr ?_, fun e1 => ⟨fun e => QL_i.mpr ?_, fun e2 => ⟨fun e => QL_i.mpr ?_, fun e3 => ⟨fun e => QL_i.mpr ?_, fun e4 => ?_⟩⟩⟩⟩
  · rw [if_pos (Or.inl e)] at h; exact h
  · rw [if_pos (Or.inr (Or.inl e))] at h; exact h
  · rw [if_pos (Or.inr (Or.inr (Or.inl e)))] at h; exact h
  · rw [if_pos (Or.inr (Or.inr (Or.inr e)))] at h; exact h
  · rw [if_neg (by simp only [not_or]; exact ⟨e1, e2, e3, e4⟩)] at h
    obtain ⟨n, hn, rfl⟩ := le_of (n := 3) e1 e2 (by decide)
    rw [n_tN (by omega)] at h
    rw [hV.2.2.1]
    obtain ⟨b1, b2, b3⟩ := fum_bd V hn
    have hg := gcd_pos' (a := fumA V n) (n := n)
    refine c_Sb_openShares hw hV n hn (d - 1) V.s _ (by omega) hw.2.2.1 (c_Sb_evenShares (by omega) (by omega) ?_)
    refine c_Sb_gcd (a := fumA V n) (by omega) (by omega) (by omega) ?_
    rw [show shr V.B V.lid V.f n V.s = fumA V n from rfl]
    generalize fumA V n = A at *
    generalize 2520 ^ n = P at *
    generalize Nat.gcd A P = g at *
    rw [lN_0 (by omega)]
    refine ⟨fun z => by omega, fun z => ⟨fun e => ⟨lN_n0 (by omega) z, QL_i.mpr ?_⟩, fun e => ⟨lN_n0 (by omega) z, QL_i.mpr ?_⟩⟩⟩
    · rw [if_pos e] at h; rw [pk_lDiv (by omega) hg (by omega)]; exact h
    · rw [if_neg e] at h; rw [pk_lDiv (by omega) hg (by omega)]; exact h
end FUM
end
section
/-! fumbled at: the model, forward from now -/
def sm (w P : Nat → Nat) (l : List Nat) : Nat := (l.map (fun t => P t * w t)).sum
theorem sm_nil {w P : Nat → Nat} : sm w P [] = 0 := rfl
theorem sm_cons {w P : Nat → Nat} {x : Nat} {l : List Nat} : sm w P (x :: l) = P x * w x + sm w P l := by simp [sm]
theorem sm_app {w P : Nat → Nat} {l r : List Nat} : sm w P (l ++ r) = sm w P l + sm w P r := by simp [sm]
theorem sm_congr {w P P' : Nat → Nat} : ∀ {l : List Nat}, (∀ t ∈ l, P t = P' t) → sm w P l = sm w P' l := by
  intro l
  induction l with
  | nil => intro _; rfl
  | cons x l ih =>
    intro h
    rw [sm_cons, sm_cons, h x List.mem_cons_self, ih (fun t ht => h t (List.mem_cons_of_mem _ ht))]
theorem sm_0 {w P : Nat → Nat} : ∀ {l : List Nat}, (∀ t ∈ l, P t = 0) → sm w P l = 0 := by
  intro l
  induction l with
  | nil => intro _; rfl
  | cons x l ih =>
    intro h
    rw [sm_cons, h x List.mem_cons_self, ih (fun t ht => h t (List.mem_cons_of_mem _ ht)), Nat.zero_mul]
theorem sm_upd {w P : Nat → Nat} {t c : Nat} : ∀ {l : List Nat}, l.Nodup → t ∈ l → sm w (updN P t (P t + c)) l = sm w P l + c * w t := by
  intro l
  induction l with
  | nil => intro _ h; cases h
  | cons x l ih =>
    intro hn hm
    obtain ⟨h1, h2⟩ := List.nodup_cons.mp hn
    rw [sm_cons, sm_cons]
    by_cases e : x = t
    · subst e
      have e3 : ∀ y ∈ l, updN P x (P x + c) y = P y := fun y hy => if_neg (fun (q : y = x) => h1 (q ▸ hy))
      rw [sm_congr e3, show updN P x (P x + c) x = P x + c from if_pos rfl, Nat.add_mul]
      omega
    · have hm : t ∈ l := (List.mem_cons.mp hm).resolve_left (fun q => e q.symm)
      rw [ih h2 hm, show updN P t (P t + c) x = P x from if_neg e]
      omega
def nxw (B : Bx) (o f : Nat) (w : Nat → Nat) (s : Nat) : Nat := if deg B f s (2 * B.pn) = 0 ∨ openB B o s = true then 2520 * w s else (2520 / deg B f s (2 * B.pn)) * sumM B f s w (2 * B.pn)
theorem shr_open {B : Bx} {o f j s : Nat} (h : openB B o s = true) : shr B o f j s = 2520 ^ j := by
  cases j with
  | zero => simp only [shr]; rw [if_pos h]
  | succ j => simp only [shr]; rw [if_pos h]
theorem nxw_shr {B : Bx} {o f j s : Nat} : nxw B o f (shr B o f j) s = shr B o f (j + 1) s := by
  unfold nxw
  by_cases h : openB B o s = true
  · rw [if_pos (Or.inr h), shr_open h, shr_open h, Nat.pow_succ, Nat.mul_comm]
  · by_cases h0 : deg B f s (2 * B.pn) = 0
    · rw [if_pos (Or.inl h0)]
      have e1 : shr B o f (j + 1) s = 0 := by simp only [shr]; rw [if_neg h, if_pos h0]
      have e2 : shr B o f j s = 0 := by
        cases j with
        | zero => simp only [shr]; rw [if_neg h]
        | succ j => simp only [shr]; rw [if_neg h, if_pos h0]
      rw [e1, e2]
    · rw [if_neg (fun q => q.elim h0 h)]
      simp only [shr]
      rw [if_neg h, if_neg h0, Nat.mul_comm]
/-- what fumbling leaves alone of the rows of longs -/
def FrJ (J J' : J2) : Prop := ∀ a, a ≠ 71 → a ≠ 72 → J' a = J a
theorem FrJ.rf {J : J2} : FrJ J J := fun _ _ _ => rfl
theorem FrJ.tr {J0 J1 J2 : J2} (h1 : FrJ J0 J1) (h2 : FrJ J1 J2) : FrJ J0 J2 := fun a x y => (h2 a x y).trans (h1 a x y)
theorem FrJ_71 {J : J2} {k : Nat} {x : Int64} : FrJ J (upJ J 71 k x) := fun a h _ => by simp [upJ, h]
theorem FrJ_72 {J : J2} {k : Nat} {x : Int64} : FrJ J (upJ J 72 k x) := fun a _ h => by simp [upJ, h]
theorem upJ_s {J : J2} {a k : Nat} {x : Int64} : upJ J a k x a k = x := by simp [upJ, vp_updL]
theorem upJ_k {J : J2} {a k j : Nat} {x : Int64} (h : j ≠ k) : upJ J a k x a j = J a j := by simp [upJ, vp_updL, h]
theorem upJ_a {J : J2} {a k b : Nat} {x : Int64} (h : b ≠ a) : upJ J a k x b = J b := by simp [upJ, h]
section FUM2
variable {d : Nat} {V : Bv} {I : I2} {J : J2} {G : I2 → J2 → Prop} {F : Int64 → I2 → J2 → Prop} {f s : Nat}
end FUM2
end
section
/-! the four sheets alike: places 49 51 53 55 (rows of longs one behind) -/
def Pl (p : Nat) : Prop := p = 49 ∨ p = 51 ∨ p = 53 ∨ p = 55
theorem vu_Bx_stateOf_1_0 {p : Nat} (hp : Pl p) {d : Nat} {Q : Post} {I : I2} {J : J2} {x2 : Int32} (h : Wp d Bx_stateOf Q 5 [some (.ref 1), some (.ref p), some (.int x2), some (.int 0), some (.int 0), none, none] [] I J) : Wp d Bx_stateOf Q 0 [some (.ref 1), some (.ref p), some (.int x2), none, none, none, none] [] I J := by
  rcases hp with rfl | rfl | rfl | rfl
  · exact v_Bx_stateOf_1_49_0 h
  · exact v_Bx_stateOf_1_51_0 h
  · exact v_Bx_stateOf_1_53_0 h
  · exact v_Bx_stateOf_1_55_0 h
theorem vu_Bx_stateOf_1_5 {p : Nat} (hp : Pl p) {d : Nat} {Q : Post} {I : I2} {J : J2} {x2 : Int32} {x3 : Int32} {x4 : Int32} (h : (x4 < (I 1 2) → CL d Sh_look [.ref p, .int (x2 + x4)] I J (fun v1 I1 J1 => ((lg_cmp v1 0) < 0 → Q (some (.int (-2))) I1 J1) ∧ (¬ ((lg_cmp v1 0) < 0) → vp_in x4 5 ∧ ((0 < (lg_cmp v1 (Int32.toInt64 (I1 3 (tN x4)))) → Q (some (.int (-2))) I1 J1) ∧ (¬ (0 < (lg_cmp v1 (Int32.toInt64 (I1 3 (tN x4))))) → Wp d Bx_stateOf Q 5 [some (.ref 1), some (.ref p), some (.int x2), some (.int (x3 ||| (slI (Int64.toInt32 v1) (2 * x4)))), some (.int (x4 + 1)), none, none] [] I1 J1))))) ∧ (¬ (x4 < (I 1 2)) → Q (some (.int x3)) I J)) : Wp d Bx_stateOf Q 5 [some (.ref 1), some (.ref p), some (.int x2), some (.int x3), some (.int x4), none, none] [] I J := by
  rcases hp with rfl | rfl | rfl | rfl
  · exact v_Bx_stateOf_1_49_5 h
  · exact v_Bx_stateOf_1_51_5 h
  · exact v_Bx_stateOf_1_53_5 h
  · exact v_Bx_stateOf_1_55_5 h
theorem vu_Sb_areClicks_0_0 {p : Nat} (hp : Pl p) {d : Nat} {Q : Post} {I : I2} {J : J2} {x2 : Int32} {x3 : Int32} (h : Wp d Sb_areClicks Q 3 [some (.ref 0), some (.ref p), some (.int x2), some (.int x3), some (.int 0), none, none, none, none] [] I J) : Wp d Sb_areClicks Q 0 [some (.ref 0), some (.ref p), some (.int x2), some (.int x3), none, none, none, none, none] [] I J := by
  rcases hp with rfl | rfl | rfl | rfl
  · exact v_Sb_areClicks_0_49_0 h
  · exact v_Sb_areClicks_0_51_0 h
  · exact v_Sb_areClicks_0_53_0 h
  · exact v_Sb_areClicks_0_55_0 h
theorem vu_Sb_areClicks_0_3 {p : Nat} (hp : Pl p) {d : Nat} {Q : Post} {I : I2} {J : J2} {x2 : Int32} {x3 : Int32} {x4 : Int32} (h : (x4 < x3 → CL d Sh_look [.ref p, .int (x2 + (2 * x4))] I J (fun v1 I1 J1 => CL d Sh_look [.ref p, .int ((x2 + (2 * x4)) + 1)] I1 J1 (fun v2 I2 J2 => ((lg_cmp v1 0) < 0 → Q (some (.int 0)) I2 J2) ∧ (¬ ((lg_cmp v1 0) < 0) → ((lg_cmp (v1 / 10) (Int32.toInt64 (I2 1 2))) < 0 → (0 < (lg_cmp (rmL v1 10) 1) → Q (some (.int 0)) I2 J2) ∧ (¬ (0 < (lg_cmp (rmL v1 10) 1)) → ((lg_cmp v2 0) < 0 → Q (some (.int 0)) I2 J2) ∧ (¬ ((lg_cmp v2 0) < 0) → (0 < (lg_cmp v2 1) → Q (some (.int 0)) I2 J2) ∧ (¬ (0 < (lg_cmp v2 1)) → Wp d Sb_areClicks Q 3 [some (.ref 0), some (.ref p), some (.int x2), some (.int x3), some (.int (x4 + 1)), none, none, none, none] [] I2 J2)))) ∧ (¬ ((lg_cmp (v1 / 10) (Int32.toInt64 (I2 1 2))) < 0) → Q (some (.int 0)) I2 J2))))) ∧ (¬ (x4 < x3) → Q (some (.int 1)) I J)) : Wp d Sb_areClicks Q 3 [some (.ref 0), some (.ref p), some (.int x2), some (.int x3), some (.int x4), none, none, none, none] [] I J := by
  rcases hp with rfl | rfl | rfl | rfl
  · exact v_Sb_areClicks_0_49_3 h
  · exact v_Sb_areClicks_0_51_3 h
  · exact v_Sb_areClicks_0_53_3 h
  · exact v_Sb_areClicks_0_55_3 h
theorem vu_Sb_locksByClicks_0_0 {p : Nat} (hp : Pl p) {d : Nat} {Q : Post} {I : I2} {J : J2} {x2 : Int32} {x3 : Int32} (h : CI d Sb_clicksSo [.ref 1, .int (I 1 10), .ref p, .int x2, .int x3] I J (fun v1 I1 J1 => (v1 = 0 → Wp d Sb_locksByClicks Q 31 [some (.ref 0), some (.ref p), some (.int x2), some (.int x3), some (.int 0), some (.int 0)] [] I1 J1) ∧ (¬ (v1 = 0) → Wp d Sb_locksByClicks Q 31 [some (.ref 0), some (.ref p), some (.int x2), some (.int x3), some (.int 64), some (.int 0)] [] I1 J1))) : Wp d Sb_locksByClicks Q 0 [some (.ref 0), some (.ref p), some (.int x2), some (.int x3), none, none] [] I J := by
  rcases hp with rfl | rfl | rfl | rfl
  · exact v_Sb_locksByClicks_0_49_0 h
  · exact v_Sb_locksByClicks_0_51_0 h
  · exact v_Sb_locksByClicks_0_53_0 h
  · exact v_Sb_locksByClicks_0_55_0 h
theorem vu_Sb_locksByClicks_0_31 {p : Nat} (hp : Pl p) {d : Nat} {Q : Post} {I : I2} {J : J2} {x2 : Int32} {x3 : Int32} {x4 : Int32} {x5 : Int32} (h : (x5 < (I 1 7) → CI d Sb_clicksSo [.ref 1, .int ((I 1 10) ^^^ (slI 1 x5)), .ref p, .int x2, .int x3] I J (fun v1 I1 J1 => (v1 = 0 → Wp d Sb_locksByClicks Q 31 [some (.ref 0), some (.ref p), some (.int x2), some (.int x3), some (.int x4), some (.int (x5 + 1))] [] I1 J1) ∧ (¬ (v1 = 0) → Wp d Sb_locksByClicks Q 31 [some (.ref 0), some (.ref p), some (.int x2), some (.int x3), some (.int (x4 ||| (slI 1 x5))), some (.int (x5 + 1))] [] I1 J1))) ∧ (¬ (x5 < (I 1 7)) → Q (some (.int x4)) I J)) : Wp d Sb_locksByClicks Q 31 [some (.ref 0), some (.ref p), some (.int x2), some (.int x3), some (.int x4), some (.int x5)] [] I J := by
  rcases hp with rfl | rfl | rfl | rfl
  · exact v_Sb_locksByClicks_0_49_31 h
  · exact v_Sb_locksByClicks_0_51_31 h
  · exact v_Sb_locksByClicks_0_53_31 h
  · exact v_Sb_locksByClicks_0_55_31 h
theorem vu_Sb_kindsByClicks_0_0 {p : Nat} (hp : Pl p) {d : Nat} {Q : Post} {I : I2} {J : J2} {x1 : Int32} {x3 : Int32} {x4 : Int32} (h : CV d Bx_becomes [.ref 21, .ref 1] I J (fun I1 J1 => Wp d Sb_kindsByClicks Q 17 [some (.ref 0), some (.int x1), some (.ref p), some (.int x3), some (.int x4), some (.int 0), some (.int 0)] [] I1 J1)) : Wp d Sb_kindsByClicks Q 0 [some (.ref 0), some (.int x1), some (.ref p), some (.int x3), some (.int x4), none, none] [] I J := by
  rcases hp with rfl | rfl | rfl | rfl
  · exact v_Sb_kindsByClicks_0_49_0 h
  · exact v_Sb_kindsByClicks_0_51_0 h
  · exact v_Sb_kindsByClicks_0_53_0 h
  · exact v_Sb_kindsByClicks_0_55_0 h
theorem vu_Sb_kindsByClicks_0_17 {p : Nat} (hp : Pl p) {d : Nat} {Q : Post} {I : I2} {J : J2} {x1 : Int32} {x3 : Int32} {x4 : Int32} {x5 : Int32} {x6 : Int32} (h : (4 < x6 → Q (some (.int x5)) I J) ∧ (¬ (4 < x6) → vp_in x1 5 ∧ (CI d Sb_clicksSo [.ref 21, .int (I 21 10), .ref p, .int x3, .int x4] (up2 I 22 (tN x1) x6) J (fun v1 I1 J1 => (v1 = 0 → Wp d Sb_kindsByClicks Q 17 [some (.ref 0), some (.int x1), some (.ref p), some (.int x3), some (.int x4), some (.int x5), some (.int (x6 + 1))] [] I1 J1) ∧ (¬ (v1 = 0) → Wp d Sb_kindsByClicks Q 17 [some (.ref 0), some (.int x1), some (.ref p), some (.int x3), some (.int x4), some (.int (x5 ||| (slI 1 x6))), some (.int (x6 + 1))] [] I1 J1))))) : Wp d Sb_kindsByClicks Q 17 [some (.ref 0), some (.int x1), some (.ref p), some (.int x3), some (.int x4), some (.int x5), some (.int x6)] [] I J := by
  rcases hp with rfl | rfl | rfl | rfl
  · exact v_Sb_kindsByClicks_0_49_17 h
  · exact v_Sb_kindsByClicks_0_51_17 h
  · exact v_Sb_kindsByClicks_0_53_17 h
  · exact v_Sb_kindsByClicks_0_55_17 h
theorem vu_Sb_clicksSo_1_0 {p : Nat} (hp : Pl p) {d : Nat} {Q : Post} {I : I2} {J : J2} {x1 : Int32} {x3 : Int32} {x4 : Int32} (h : Wp d Sb_clicksSo Q 9 [some (.ref 1), some (.int x1), some (.ref p), some (.int x3), some (.int x4), some (.int (I 1 9)), some (.int 0), none, none] [] I J) : Wp d Sb_clicksSo Q 0 [some (.ref 1), some (.int x1), some (.ref p), some (.int x3), some (.int x4), none, none, none, none] [] I J := by
  rcases hp with rfl | rfl | rfl | rfl
  · exact v_Sb_clicksSo_1_49_0 h
  · exact v_Sb_clicksSo_1_51_0 h
  · exact v_Sb_clicksSo_1_53_0 h
  · exact v_Sb_clicksSo_1_55_0 h
theorem vu_Sb_clicksSo_1_9 {p : Nat} (hp : Pl p) {d : Nat} {Q : Post} {I : I2} {J : J2} {x1 : Int32} {x3 : Int32} {x4 : Int32} {x5 : Int32} {x6 : Int32} (h : (x6 < x4 → CL d Sh_look [.ref p, .int (x3 + (2 * x6))] I J (fun v1 I1 J1 => CL d Sh_look [.ref p, .int ((x3 + (2 * x6)) + 1)] I1 J1 (fun v2 I2 J2 => ((lg_cmp v2 1) = 0 → CI d Bx_maySlide [.ref 1, .int x5, .int x1, .int ((Int64.toInt32 v1) / 10), .int (rmI (Int64.toInt32 v1) 10)] I2 J2 (fun v3 I3 J3 => (v3 = 1 → CI d Bx_behind [.ref 1, .int x5, .int ((Int64.toInt32 v1) / 10), .int (rmI (Int64.toInt32 v1) 10)] I3 J3 (fun v4 I4 J4 => Wp d Sb_clicksSo Q 9 [some (.ref 1), some (.int x1), some (.ref p), some (.int x3), some (.int x4), some (.int v4), some (.int (x6 + 1)), none, none] [] I4 J4)) ∧ (¬ (v3 = 1) → Q (some (.int 0)) I3 J3))) ∧ (¬ ((lg_cmp v2 1) = 0) → CI d Bx_maySlide [.ref 1, .int x5, .int x1, .int ((Int64.toInt32 v1) / 10), .int (rmI (Int64.toInt32 v1) 10)] I2 J2 (fun v3 I3 J3 => (v3 = 0 → Wp d Sb_clicksSo Q 9 [some (.ref 1), some (.int x1), some (.ref p), some (.int x3), some (.int x4), some (.int x5), some (.int (x6 + 1)), none, none] [] I3 J3) ∧ (¬ (v3 = 0) → Q (some (.int 0)) I3 J3)))))) ∧ (¬ (x6 < x4) → Q (some (.int 1)) I J)) : Wp d Sb_clicksSo Q 9 [some (.ref 1), some (.int x1), some (.ref p), some (.int x3), some (.int x4), some (.int x5), some (.int x6), none, none] [] I J := by
  rcases hp with rfl | rfl | rfl | rfl
  · exact v_Sb_clicksSo_1_49_9 h
  · exact v_Sb_clicksSo_1_51_9 h
  · exact v_Sb_clicksSo_1_53_9 h
  · exact v_Sb_clicksSo_1_55_9 h
theorem vu_Sb_clicksSo_21_0 {p : Nat} (hp : Pl p) {d : Nat} {Q : Post} {I : I2} {J : J2} {x1 : Int32} {x3 : Int32} {x4 : Int32} (h : Wp d Sb_clicksSo Q 9 [some (.ref 21), some (.int x1), some (.ref p), some (.int x3), some (.int x4), some (.int (I 21 9)), some (.int 0), none, none] [] I J) : Wp d Sb_clicksSo Q 0 [some (.ref 21), some (.int x1), some (.ref p), some (.int x3), some (.int x4), none, none, none, none] [] I J := by
  rcases hp with rfl | rfl | rfl | rfl
  · exact v_Sb_clicksSo_21_49_0 h
  · exact v_Sb_clicksSo_21_51_0 h
  · exact v_Sb_clicksSo_21_53_0 h
  · exact v_Sb_clicksSo_21_55_0 h
theorem vu_Sb_clicksSo_21_9 {p : Nat} (hp : Pl p) {d : Nat} {Q : Post} {I : I2} {J : J2} {x1 : Int32} {x3 : Int32} {x4 : Int32} {x5 : Int32} {x6 : Int32} (h : (x6 < x4 → CL d Sh_look [.ref p, .int (x3 + (2 * x6))] I J (fun v1 I1 J1 => CL d Sh_look [.ref p, .int ((x3 + (2 * x6)) + 1)] I1 J1 (fun v2 I2 J2 => ((lg_cmp v2 1) = 0 → CI d Bx_maySlide [.ref 21, .int x5, .int x1, .int ((Int64.toInt32 v1) / 10), .int (rmI (Int64.toInt32 v1) 10)] I2 J2 (fun v3 I3 J3 => (v3 = 1 → CI d Bx_behind [.ref 21, .int x5, .int ((Int64.toInt32 v1) / 10), .int (rmI (Int64.toInt32 v1) 10)] I3 J3 (fun v4 I4 J4 => Wp d Sb_clicksSo Q 9 [some (.ref 21), some (.int x1), some (.ref p), some (.int x3), some (.int x4), some (.int v4), some (.int (x6 + 1)), none, none] [] I4 J4)) ∧ (¬ (v3 = 1) → Q (some (.int 0)) I3 J3))) ∧ (¬ ((lg_cmp v2 1) = 0) → CI d Bx_maySlide [.ref 21, .int x5, .int x1, .int ((Int64.toInt32 v1) / 10), .int (rmI (Int64.toInt32 v1) 10)] I2 J2 (fun v3 I3 J3 => (v3 = 0 → Wp d Sb_clicksSo Q 9 [some (.ref 21), some (.int x1), some (.ref p), some (.int x3), some (.int x4), some (.int x5), some (.int (x6 + 1)), none, none] [] I3 J3) ∧ (¬ (v3 = 0) → Q (some (.int 0)) I3 J3)))))) ∧ (¬ (x6 < x4) → Q (some (.int 1)) I J)) : Wp d Sb_clicksSo Q 9 [some (.ref 21), some (.int x1), some (.ref p), some (.int x3), some (.int x4), some (.int x5), some (.int x6), none, none] [] I J := by
  rcases hp with rfl | rfl | rfl | rfl
  · exact v_Sb_clicksSo_21_49_9 h
  · exact v_Sb_clicksSo_21_51_9 h
  · exact v_Sb_clicksSo_21_53_9 h
  · exact v_Sb_clicksSo_21_55_9 h
theorem vu_Sh_fault_0 {p : Nat} (hp : Pl p) {d : Nat} {Q : Post} {I : I2} {J : J2} {x1 : Int32} {x2 : Int32} {x3 : Int32} (h : ((I p 0) = 0 → Q (some (.int (-11))) I J) ∧ (¬ ((I p 0) = 0) → ((I p 1) = x1 → CI d Sh_holds [.ref p, .int x2, .int x3] I J (fun v1 I1 J1 => (v1 = 0 → Q (some (.int (-13))) I1 J1) ∧ (¬ (v1 = 0) → Q (some (.int 0)) I1 J1))) ∧ (¬ ((I p 1) = x1) → Q (some (.int (-12))) I J))) : Wp d Sh_fault Q 0 [some (.ref p), some (.int x1), some (.int x2), some (.int x3)] [] I J := by
  rcases hp with rfl | rfl | rfl | rfl
  · exact v_Sh_fault_49_0 h
  · exact v_Sh_fault_51_0 h
  · exact v_Sh_fault_53_0 h
  · exact v_Sh_fault_55_0 h
theorem vu_Sh_put_0 {p : Nat} (hp : Pl p) {d : Nat} {Q : Post} {I : I2} {J : J2} {x1 : Int32} {x2 : Int64} (h : CI d Sh_holds [.ref p, .int x1, .int 1] I J (fun v1 I1 J1 => (v1 = 0 → Q none I1 J1) ∧ (¬ (v1 = 0) → ((I1 p 1) = 0 → vp_in x1 24 ∧ (Q none I1 (upJ J1 (p + 1) (tN x1) (Int32.toInt64 (i2b (Int64.toInt32 x2)))))) ∧ (¬ ((I1 p 1) = 0) → ((I1 p 1) = 1 → vp_in x1 24 ∧ (Q none I1 (upJ J1 (p + 1) (tN x1) (Int32.toInt64 (i2s (Int64.toInt32 x2)))))) ∧ (¬ ((I1 p 1) = 1) → ((I1 p 1) = 2 → vp_in x1 24 ∧ (Q none I1 (upJ J1 (p + 1) (tN x1) (Int32.toInt64 (Int64.toInt32 x2))))) ∧ (¬ ((I1 p 1) = 2) → vp_in x1 24 ∧ (Q none I1 (upJ J1 (p + 1) (tN x1) x2)))))))) : Wp d Sh_put Q 0 [some (.ref p), some (.int x1), some (.long x2), none] [] I J := by
  rcases hp with rfl | rfl | rfl | rfl
  · exact v_Sh_put_49_0 h
  · exact v_Sh_put_51_0 h
  · exact v_Sh_put_53_0 h
  · exact v_Sh_put_55_0 h
theorem vu_Sh_begin_0 {p : Nat} (hp : Pl p) {d : Nat} {Q : Post} {I : I2} {J : J2} {x1 : Int32} {x2 : Int32} (h : Wp d Sh_begin Q 17 [some (.ref p), some (.int x1), some (.int x2), some (.int 0)] [] (up2 (up2 (up2 I p 0 1) p 1 x1) p 2 x2) J) : Wp d Sh_begin Q 0 [some (.ref p), some (.int x1), some (.int x2), none] [] I J := by
  rcases hp with rfl | rfl | rfl | rfl
  · exact v_Sh_begin_49_0 h
  · exact v_Sh_begin_51_0 h
  · exact v_Sh_begin_53_0 h
  · exact v_Sh_begin_55_0 h
theorem vu_Sh_begin_17 {p : Nat} (hp : Pl p) {d : Nat} {Q : Post} {I : I2} {J : J2} {x1 : Int32} {x2 : Int32} {x3 : Int32} (h : (x3 < 24 → vp_in x3 24 ∧ (Wp d Sh_begin Q 17 [some (.ref p), some (.int x1), some (.int x2), some (.int (x3 + 1))] [] I (upJ J (p + 1) (tN x3) 0))) ∧ (¬ (x3 < 24) → Q none I J)) : Wp d Sh_begin Q 17 [some (.ref p), some (.int x1), some (.int x2), some (.int x3)] [] I J := by
  rcases hp with rfl | rfl | rfl | rfl
  · exact v_Sh_begin_49_17 h
  · exact v_Sh_begin_51_17 h
  · exact v_Sh_begin_53_17 h
  · exact v_Sh_begin_55_17 h
theorem vu_Sh_end_0 {p : Nat} (hp : Pl p) {d : Nat} {Q : Post} {I : I2} {J : J2} (h : Q (some (.int (I p 2))) (up2 I p 0 0) J) : Wp d Sh_end Q 0 [some (.ref p)] [] I J := by
  rcases hp with rfl | rfl | rfl | rfl
  · exact v_Sh_end_49_0 h
  · exact v_Sh_end_51_0 h
  · exact v_Sh_end_53_0 h
  · exact v_Sh_end_55_0 h
theorem vu_Sh_holds_0 {p : Nat} (hp : Pl p) {d : Nat} {Q : Post} {I : I2} {J : J2} {x1 : Int32} {x2 : Int32} (h : (x2 < 0 → Q (some (.int 0)) I J) ∧ (¬ (x2 < 0) → (x1 < 0 → Q (some (.int 0)) I J) ∧ (¬ (x1 < 0) → (((I p 2) - x2) < x1 → Q (some (.int 0)) I J) ∧ (¬ (((I p 2) - x2) < x1) → Q (some (.int 1)) I J)))) : Wp d Sh_holds Q 0 [some (.ref p), some (.int x1), some (.int x2)] [] I J := by
  rcases hp with rfl | rfl | rfl | rfl
  · exact v_Sh_holds_49_0 h
  · exact v_Sh_holds_51_0 h
  · exact v_Sh_holds_53_0 h
  · exact v_Sh_holds_55_0 h
theorem vu_Sh_look_0 {p : Nat} (hp : Pl p) {d : Nat} {Q : Post} {I : I2} {J : J2} {x1 : Int32} (h : CI d Sh_holds [.ref p, .int x1, .int 1] I J (fun v1 I1 J1 => (v1 = 0 → Q (some (.long 0)) I1 J1) ∧ (¬ (v1 = 0) → vp_in x1 24 ∧ (Q (some (.long (J1 (p + 1) (tN x1)))) I1 J1)))) : Wp d Sh_look Q 0 [some (.ref p), some (.int x1)] [] I J := by
  rcases hp with rfl | rfl | rfl | rfl
  · exact v_Sh_look_49_0 h
  · exact v_Sh_look_51_0 h
  · exact v_Sh_look_53_0 h
  · exact v_Sh_look_55_0 h
end
section
/-! an image, and what is restored -/
theorem CBx_copy {b b' : Nat} {V : Bv} {I I' : I2} (hw : WFV V) (hV : CBx b V I) (h0 : ∀ k, k = 2 ∨ k = 7 ∨ k = 8 ∨ k = 9 ∨ k = 10 ∨ k = 11 ∨ k = 15 ∨ k = 16 → I' b' k = I b k) (h5 : ∀ p, p < 5 → I' (b' + 1) p = I (b + 1) p ∧ I' (b' + 2) p = I (b + 2) p) (h6 : ∀ l, l < 6 → I' (b' + 3) l = I (b + 3) l ∧ I' (b' + 4) l = I (b + 4) l ∧ I' (b' + 5) l = I (b + 5) l ∧ I' (b' + 6) l = I (b + 6) l) (h8 : ∀ k, k < 8 → I' (b' + 7) k = I (b + 7) k ∧ I' (b' + 8) k = I (b + 8) k ∧ I' (b' + 9) k = I (b + 9) k) : CBx b' V I' := by
  have hp5 := hw.1.1
  have hl6 := hw.1.2.1
  obtain ⟨⟨b1, b2, b3, b4⟩, c8, c9, c10, c11, c15, np, hnp, c16, hp⟩ := hV
  refine ⟨⟨by rw [h0 2 (by simp)]; exact b1, by rw [h0 7 (by simp)]; exact b2, fun p hp => ?_, fun l hl => ?_⟩, by rw [h0 8 (by simp)]; exact c8, by rw [h0 9 (by simp)]; exact c9, by rw [h0 10 (by simp)]; exact c10, by rw [h0 11 (by simp)]; exact c11, by rw [h0 15 (by simp)]; exact c15, np, hnp, by rw [h0 16 (by simp)]; exact c16, fun k x hx => ?_⟩
  · rw [(h5 p (by omega)).1, (h5 p (by omega)).2]; exact b3 p hp
  · obtain ⟨e1, e2, e3, e4⟩ := h6 l (by omega)
    rw [e1, e2, e3, e4]; exact b4 l hl
  · obtain ⟨e1, e2, e3⟩ := h8 ((np + 7 - k) % 8) (Nat.mod_lt _ (by decide))
    rw [e1, e2, e3]; exact hp k x hx
theorem cpI_s {I : I2} {a b n j : Nat} (h : j < n) : cpI I a b 0 0 n a j = I b j := by
  unfold cpI
  rw [if_pos rfl]
  exact sb_cpy0 h
theorem cpI_n {I : I2} {a b n c : Nat} (h : c ≠ a) : cpI I a b 0 0 n c = I c := by
  unfold cpI
  exact if_neg h
section KEPT
variable {d : Nat} {V : Bv} {I : I2} {J : J2} {G : I2 → J2 → Prop} {F : Int32 → I2 → J2 → Prop}
theorem c_Bx_becomes_1_21 (hd : 1 ≤ d) (hw : WFV V) (hV : CBx 21 V I) (h : ∀ I', CBx 1 V I' → I' 1 17 = 1 → (∀ a, (a < 1 ∨ 10 < a) → I' a = I a) → G I' J) : CV d Bx_becomes [.ref 1, .ref 21] I J G := by
  refine CV.of hd rfl (v_Bx_becomes_1_21_0 (QV_i.mpr (h _ ?_ ?_ ?_)))
  · refine CBx_copy hw hV (fun k hk => ?_) (fun p hp => ⟨?_, ?_⟩) (fun l hl => ⟨?_, ?_, ?_, ?_⟩) (fun k hk => ⟨?_, ?_, ?_⟩)
    · rcases hk with rfl | rfl | rfl | rfl | rfl | rfl | rfl | rfl <;> simp [up2, upd, cpI]
    all_goals (simp only [up2, cpI_n, ne_eq, Nat.reduceAdd, Nat.reduceEqDiff, not_false_eq_true, if_neg])
    · exact cpI_s hp
    · rw [cpI_s hp, cpI_n (by decide)]
    · rw [cpI_s hl]; simp only [up2, cpI_n, ne_eq, Nat.reduceAdd, Nat.reduceEqDiff, not_false_eq_true, if_neg]
    · rw [cpI_s hl]; simp only [up2, cpI_n, ne_eq, Nat.reduceAdd, Nat.reduceEqDiff, not_false_eq_true, if_neg]
    · rw [cpI_s hl]; simp only [up2, cpI_n, ne_eq, Nat.reduceAdd, Nat.reduceEqDiff, not_false_eq_true, if_neg]
    · rw [cpI_s hl]; simp only [up2, cpI_n, ne_eq, Nat.reduceAdd, Nat.reduceEqDiff, not_false_eq_true, if_neg]
    · rw [cpI_s hk]; simp only [up2, cpI_n, ne_eq, Nat.reduceAdd, Nat.reduceEqDiff, not_false_eq_true, if_neg]
    · rw [cpI_s hk]; simp only [up2, cpI_n, ne_eq, Nat.reduceAdd, Nat.reduceEqDiff, not_false_eq_true, if_neg]
    · rw [cpI_s hk]; simp only [up2, cpI_n, ne_eq, Nat.reduceAdd, Nat.reduceEqDiff, not_false_eq_true, if_neg]
  · simp [up2, upd]
  · intro a ha
    have z0 : ¬ a = 1 := by omega
    have z1 : ¬ a = 2 := by omega
    have z2 : ¬ a = 3 := by omega
    have z3 : ¬ a = 4 := by omega
    have z4 : ¬ a = 5 := by omega
    have z5 : ¬ a = 6 := by omega
    have z6 : ¬ a = 7 := by omega
    have z7 : ¬ a = 8 := by omega
    have z8 : ¬ a = 9 := by omega
    have z9 : ¬ a = 10 := by omega
    simp only [up2, cpI_n, ne_eq, z0, z1, z2, z3, z4, z5, z6, z7, z8, z9, not_false_eq_true, if_neg]
theorem c_Bx_becomes_11_1 (hd : 1 ≤ d) (hw : WFV V) (hV : CBx 1 V I) (h : ∀ I', CBx 11 V I' → I' 11 17 = 1 → (∀ a, (a < 11 ∨ 20 < a) → I' a = I a) → G I' J) : CV d Bx_becomes [.ref 11, .ref 1] I J G := by
  refine CV.of hd rfl (v_Bx_becomes_11_1_0 (QV_i.mpr (h _ ?_ ?_ ?_)))
  · refine CBx_copy hw hV (fun k hk => ?_) (fun p hp => ⟨?_, ?_⟩) (fun l hl => ⟨?_, ?_, ?_, ?_⟩) (fun k hk => ⟨?_, ?_, ?_⟩)
    · rcases hk with rfl | rfl | rfl | rfl | rfl | rfl | rfl | rfl <;> simp [up2, upd, cpI]
    all_goals (simp only [up2, cpI_n, ne_eq, Nat.reduceAdd, Nat.reduceEqDiff, not_false_eq_true, if_neg])
    · exact cpI_s hp
    · rw [cpI_s hp, cpI_n (by decide)]
    · rw [cpI_s hl]; simp only [up2, cpI_n, ne_eq, Nat.reduceAdd, Nat.reduceEqDiff, not_false_eq_true, if_neg]
    · rw [cpI_s hl]; simp only [up2, cpI_n, ne_eq, Nat.reduceAdd, Nat.reduceEqDiff, not_false_eq_true, if_neg]
    · rw [cpI_s hl]; simp only [up2, cpI_n, ne_eq, Nat.reduceAdd, Nat.reduceEqDiff, not_false_eq_true, if_neg]
    · rw [cpI_s hl]; simp only [up2, cpI_n, ne_eq, Nat.reduceAdd, Nat.reduceEqDiff, not_false_eq_true, if_neg]
    · rw [cpI_s hk]; simp only [up2, cpI_n, ne_eq, Nat.reduceAdd, Nat.reduceEqDiff, not_false_eq_true, if_neg]
    · rw [cpI_s hk]; simp only [up2, cpI_n, ne_eq, Nat.reduceAdd, Nat.reduceEqDiff, not_false_eq_true, if_neg]
    · rw [cpI_s hk]; simp only [up2, cpI_n, ne_eq, Nat.reduceAdd, Nat.reduceEqDiff, not_false_eq_true, if_neg]
  · simp [up2, upd]
  · intro a ha
    have z0 : ¬ a = 11 := by omega
    have z1 : ¬ a = 12 := by omega
    have z2 : ¬ a = 13 := by omega
    have z3 : ¬ a = 14 := by omega
    have z4 : ¬ a = 15 := by omega
    have z5 : ¬ a = 16 := by omega
    have z6 : ¬ a = 17 := by omega
    have z7 : ¬ a = 18 := by omega
    have z8 : ¬ a = 19 := by omega
    have z9 : ¬ a = 20 := by omega
    simp only [up2, cpI_n, ne_eq, z0, z1, z2, z3, z4, z5, z6, z7, z8, z9, not_false_eq_true, if_neg]
theorem c_Bx_becomes_1_11 (hd : 1 ≤ d) (hw : WFV V) (hV : CBx 11 V I) (h : ∀ I', CBx 1 V I' → I' 1 17 = 1 → (∀ a, (a < 1 ∨ 10 < a) → I' a = I a) → G I' J) : CV d Bx_becomes [.ref 1, .ref 11] I J G := by
  refine CV.of hd rfl (v_Bx_becomes_1_11_0 (QV_i.mpr (h _ ?_ ?_ ?_)))
  · refine CBx_copy hw hV (fun k hk => ?_) (fun p hp => ⟨?_, ?_⟩) (fun l hl => ⟨?_, ?_, ?_, ?_⟩) (fun k hk => ⟨?_, ?_, ?_⟩)
    · rcases hk with rfl | rfl | rfl | rfl | rfl | rfl | rfl | rfl <;> simp [up2, upd, cpI]
    all_goals (simp only [up2, cpI_n, ne_eq, Nat.reduceAdd, Nat.reduceEqDiff, not_false_eq_true, if_neg])
    · exact cpI_s hp
    · rw [cpI_s hp, cpI_n (by decide)]
    · rw [cpI_s hl]; simp only [up2, cpI_n, ne_eq, Nat.reduceAdd, Nat.reduceEqDiff, not_false_eq_true, if_neg]
    · rw [cpI_s hl]; simp only [up2, cpI_n, ne_eq, Nat.reduceAdd, Nat.reduceEqDiff, not_false_eq_true, if_neg]
    · rw [cpI_s hl]; simp only [up2, cpI_n, ne_eq, Nat.reduceAdd, Nat.reduceEqDiff, not_false_eq_true, if_neg]
    · rw [cpI_s hl]; simp only [up2, cpI_n, ne_eq, Nat.reduceAdd, Nat.reduceEqDiff, not_false_eq_true, if_neg]
    · rw [cpI_s hk]; simp only [up2, cpI_n, ne_eq, Nat.reduceAdd, Nat.reduceEqDiff, not_false_eq_true, if_neg]
    · rw [cpI_s hk]; simp only [up2, cpI_n, ne_eq, Nat.reduceAdd, Nat.reduceEqDiff, not_false_eq_true, if_neg]
    · rw [cpI_s hk]; simp only [up2, cpI_n, ne_eq, Nat.reduceAdd, Nat.reduceEqDiff, not_false_eq_true, if_neg]
  · simp [up2, upd]
  · intro a ha
    have z0 : ¬ a = 1 := by omega
    have z1 : ¬ a = 2 := by omega
    have z2 : ¬ a = 3 := by omega
    have z3 : ¬ a = 4 := by omega
    have z4 : ¬ a = 5 := by omega
    have z5 : ¬ a = 6 := by omega
    have z6 : ¬ a = 7 := by omega
    have z7 : ¬ a = 8 := by omega
    have z8 : ¬ a = 9 := by omega
    have z9 : ¬ a = 10 := by omega
    simp only [up2, cpI_n, ne_eq, z0, z1, z2, z3, z4, z5, z6, z7, z8, z9, not_false_eq_true, if_neg]
theorem c_Bx_becomes_21_1 (hd : 1 ≤ d) (hw : WFV V) (hV : CBx 1 V I) (h : ∀ I', CBx 21 V I' → I' 21 17 = 1 → (∀ a, (a < 21 ∨ 30 < a) → I' a = I a) → G I' J) : CV d Bx_becomes [.ref 21, .ref 1] I J G := by
  refine CV.of hd rfl (v_Bx_becomes_21_1_0 (QV_i.mpr (h _ ?_ ?_ ?_)))
  · refine CBx_copy hw hV (fun k hk => ?_) (fun p hp => ⟨?_, ?_⟩) (fun l hl => ⟨?_, ?_, ?_, ?_⟩) (fun k hk => ⟨?_, ?_, ?_⟩)
    · rcases hk with rfl | rfl | rfl | rfl | rfl | rfl | rfl | rfl <;> simp [up2, upd, cpI]
    all_goals (simp only [up2, cpI_n, ne_eq, Nat.reduceAdd, Nat.reduceEqDiff, not_false_eq_true, if_neg])
    · exact cpI_s hp
    · rw [cpI_s hp, cpI_n (by decide)]
    · rw [cpI_s hl]; simp only [up2, cpI_n, ne_eq, Nat.reduceAdd, Nat.reduceEqDiff, not_false_eq_true, if_neg]
    · rw [cpI_s hl]; simp only [up2, cpI_n, ne_eq, Nat.reduceAdd, Nat.reduceEqDiff, not_false_eq_true, if_neg]
    · rw [cpI_s hl]; simp only [up2, cpI_n, ne_eq, Nat.reduceAdd, Nat.reduceEqDiff, not_false_eq_true, if_neg]
    · rw [cpI_s hl]; simp only [up2, cpI_n, ne_eq, Nat.reduceAdd, Nat.reduceEqDiff, not_false_eq_true, if_neg]
    · rw [cpI_s hk]; simp only [up2, cpI_n, ne_eq, Nat.reduceAdd, Nat.reduceEqDiff, not_false_eq_true, if_neg]
    · rw [cpI_s hk]; simp only [up2, cpI_n, ne_eq, Nat.reduceAdd, Nat.reduceEqDiff, not_false_eq_true, if_neg]
    · rw [cpI_s hk]; simp only [up2, cpI_n, ne_eq, Nat.reduceAdd, Nat.reduceEqDiff, not_false_eq_true, if_neg]
  · simp [up2, upd]
  · intro a ha
    have z0 : ¬ a = 21 := by omega
    have z1 : ¬ a = 22 := by omega
    have z2 : ¬ a = 23 := by omega
    have z3 : ¬ a = 24 := by omega
    have z4 : ¬ a = 25 := by omega
    have z5 : ¬ a = 26 := by omega
    have z6 : ¬ a = 27 := by omega
    have z7 : ¬ a = 28 := by omega
    have z8 : ¬ a = 29 := by omega
    have z9 : ¬ a = 30 := by omega
    simp only [up2, cpI_n, ne_eq, z0, z1, z2, z3, z4, z5, z6, z7, z8, z9, not_false_eq_true, if_neg]
/-- what the class keeps: an image there is -/
theorem c_Sb_image (hd : 2 ≤ d) (hw : WFV V) (hV : CBx 1 V I) (h : ∀ I', CBx 11 V I' → I' 0 3 = 1 → (∀ a, a ≠ 0 → (a < 11 ∨ 20 < a) → I' a = I a) → (∀ k, k ≠ 3 → I' 0 k = I 0 k) → F 1 I' J) : CI d Sb_image [.ref 0] I J F := by
  refine CI.of (by omega) rfl (v_Sb_image_0_0 (c_Bx_becomes_11_1 (by omega) hw hV (fun I1 q1 q2 q3 => QI_i.mpr (h _ ?_ ?_ ?_ ?_))))
  · refine CBx_copy hw q1 (fun k _ => by simp [up2]) (fun p _ => ⟨by simp [up2], by simp [up2]⟩) (fun l _ => ⟨by simp [up2], by simp [up2], by simp [up2], by simp [up2]⟩) (fun k _ => ⟨by simp [up2], by simp [up2], by simp [up2]⟩)
  · simp [up2, upd]
  · intro a h0 h1; simp [up2, h0]; exact q3 a h1
  · intro k hk; simp [up2, upd, hk]; rw [q3 0 (by decide)]
theorem c_Sb_restore (hd : 2 ≤ d) (K : Option Bv) (hk : I 0 3 = bI K.isSome) (hK : ∀ VK, K = some VK → WFV VK ∧ CBx 11 VK I) (h0 : K = none → F (-4) I J) (h1 : ∀ VK I', K = some VK → CBx 1 VK I' → I' 1 17 = 1 → (∀ a, (a < 1 ∨ 10 < a) → I' a = I a) → F 1 I' J) : CI d Sb_restore [.ref 0] I J F := by
  refine CI.of (by omega) rfl (v_Sb_restore_0_0 ?_)
  rw [hk, bI_0]
  cases K with
  | none => exact ⟨fun _ => QI_i.mpr (h0 rfl), fun q => absurd rfl q⟩
  | some VK =>
    obtain ⟨k1, k2⟩ := hK VK rfl
    exact ⟨fun q => (by cases q), fun _ => c_Bx_becomes_1_11 (by omega) k1 k2 (fun I' q1 q2 q3 => QI_i.mpr (h1 VK I' rfl q1 q2 q3))⟩
theorem MRw_congr {g g' u u' : Nat → Int32} {n n' : Int32} (hw : WFV V) (h : MRw V g u n) (hg : ∀ k, k < 40 → g' k = g k) (hu : ∀ k, k < 24 → u' k = u k) (hn : n' = n) : MRw V g' u' n' := by
  have hp5 := hw.1.1
  have hl6 := hw.1.2.1
  have h8 := hw.2.2.2.2.2.1
  obtain ⟨⟨b1, b2, b3, b4⟩, c2, c3, c4, c5, cn, hp⟩ := h
  refine ⟨⟨by rw [hg 0 (by decide)]; exact b1, by rw [hg 1 (by decide)]; exact b2, fun p hp => ?_, fun l hl => ?_⟩, by rw [hg 2 (by decide)]; exact c2, by rw [hg 3 (by decide)]; exact c3, by rw [hg 4 (by decide)]; exact c4, by rw [hg 5 (by decide)]; exact c5, by rw [hn]; exact cn, fun k x hx => ?_⟩
  · rw [hg _ (by omega), hg _ (by omega)]; exact b3 p hp
  · rw [hg _ (by omega), hg _ (by omega), hg _ (by omega), hg _ (by omega)]; exact b4 l hl
  · have hk := (List.getElem?_eq_some_iff.mp hx).1
    rw [hu _ (by omega), hu _ (by omega), hu _ (by omega)]; exact hp k x hx
/-- what the model keeps -/
def KMx (V : Bv) (I : I2) : Prop := MRw V (I 73) (fun k => I 73 (40 + k)) (I 57 22)
end KEPT
end
section
/-! sheets: nothing, or a lane, how many, what stands there; the class -/
abbrev Shv : Type := Option (Nat × Nat × (Nat → Int64))
def ShC (p : Nat) (S : Shv) (I : I2) (J : J2) : Prop := match S with
  | none => I p 0 = 0
  | some (l, n, g) => I p 0 = 1 ∧ I p 1 = nI l ∧ I p 2 = nI n ∧ ∀ k, k < 24 → J (p + 1) k = g k
def ShM (i : Nat) (S : Shv) (I : I2) (J : J2) : Prop := match S with
  | none => I 74 i = -1
  | some (l, n, g) => I 74 i = nI l ∧ I 75 i = nI n ∧ ∀ k, k < 24 → J 76 (24 * i + k) = g k
def WFS (S : Shv) : Prop := ∀ l n g, S = some (l, n, g) → l < 4 ∧ n ≤ 24
def hldB (sz : Nat) (i n : Int32) : Bool := decide (¬ n < 0 ∧ ¬ i < 0 ∧ tN i + tN n ≤ sz)
def faultS (S : Shv) (l i n : Int32) : Int32 := match S with
  | none => -11
  | some (l', sz, _) => if nI l' = l then (if hldB sz i n then 0 else -13) else -12
def narL (l : Nat) (v : Int64) : Int64 := if l = 0 then (i2b v.toInt32).toInt64 else if l = 1 then (i2s v.toInt32).toInt64 else if l = 2 then v.toInt32.toInt64 else v
def updS (S : Nat → Shv) (i : Nat) (v : Shv) : Nat → Shv := fun j => if j = i then v else S j
theorem fault_neg {S : Shv} {l i n : Int32} : faultS S l i n = 0 ∨ faultS S l i n = -11 ∨ faultS S l i n = -12 ∨ faultS S l i n = -13 := by
  unfold faultS
  split
  · exact Or.inr (Or.inl rfl)
  · split
    · split
      · exact Or.inl rfl
      · exact Or.inr (Or.inr (Or.inr rfl))
    · exact Or.inr (Or.inr (Or.inl rfl))
theorem fault_lt {S : Shv} {l i n : Int32} : faultS S l i n < 0 ↔ ¬ faultS S l i n = 0 := by
  rcases fault_neg (S := S) (l := l) (i := i) (n := n) with e | e | e | e <;> rw [e] <;> decide
theorem fault_0 {S : Shv} {l i n : Int32} (h : faultS S l i n = 0) : ∃ l' sz g, S = some (l', sz, g) ∧ l = nI l' ∧ ¬ n < 0 ∧ ¬ i < 0 ∧ tN i + tN n ≤ sz := by
  unfold faultS at h
  split at h
  · exact absurd h (by decide)
  · next l' sz g =>
    split at h
    · next e =>
      split at h
      · next e2 =>
        simp only [hldB, decide_eq_true_eq] at e2
        exact ⟨l', sz, g, rfl, e.symm, e2⟩
      · exact absurd h (by decide)
    · exact absurd h (by decide)
theorem sub_lt {sz a b : Nat} (hs : sz < 2 ^ 30) (ha : a < 2 ^ 31) (hb : b < 2 ^ 31) : nI sz - nI a < nI b ↔ sz < b + a := by
  by_cases h : a ≤ sz
  · rw [n_sub h, n_lt (by omega) hb]; omega
  · have e : nI sz - nI a = -nI (a - sz) := by
      rw [← n_sub (a := a) (b := sz) (by omega), Int32.neg_sub]
    have e2 : nI sz - nI a < nI b := by
      rw [e, Int32.lt_iff_toInt_lt, sb_negT (by omega), nI_toInt hb]; omega
    exact ⟨fun _ => by omega, fun _ => e2⟩
section SHT
variable {d p : Nat} {S : Shv} {I : I2} {J : J2} {G : I2 → J2 → Prop} {F : Int32 → I2 → J2 → Prop} {FL : Int64 → I2 → J2 → Prop} {l sz : Nat} {g : Nat → Int64}
theorem c_Sh_holds {i n : Int32} (hd : 1 ≤ d) (hp : Pl p) (h2 : I p 2 = nI sz) (hsz : sz ≤ 24) (h : F (bI (hldB sz i n)) I J) : CI d Sh_holds [.ref p, .int i, .int n] I J F := by
  refine CI.of hd rfl (vu_Sh_holds_0 hp ?_)
  unfold hldB at h
  rw [h2]
  refine ⟨fun q => QI_i.mpr ?_, fun q1 => ⟨fun q => QI_i.mpr ?_, fun q2 => ?_⟩⟩
  · rw [decide_eq_false (fun z => z.1 q)] at h; exact h
  · rw [decide_eq_false (fun z => z.2.1 q)] at h; exact h
  · obtain ⟨a, ha, rfl⟩ := nI_of q1
    obtain ⟨b, hb, rfl⟩ := nI_of q2
    rw [n_tN ha, n_tN hb] at h
    rw [sub_lt (by omega) ha hb]
    refine ⟨fun q => QI_i.mpr ?_, fun q => QI_i.mpr ?_⟩
    · rw [decide_eq_false (fun z => by have := z.2.2; omega)] at h; exact h
    · rw [decide_eq_true ⟨q1, q2, by omega⟩] at h; exact h
theorem c_Sh_fault {x i n : Int32} (hd : 2 ≤ d) (hp : Pl p) (hS : ShC p S I J) (hW : WFS S) (h : F (faultS S x i n) I J) : CI d Sh_fault [.ref p, .int x, .int i, .int n] I J F := by
  refine CI.of (by omega) rfl (vu_Sh_fault_0 hp ?_)
  cases S with
  | none =>
    have hS : I p 0 = 0 := hS
    exact ⟨fun _ => QI_i.mpr h, fun q => absurd hS q⟩
  | some v =>
    obtain ⟨l, sz, g⟩ := v
    obtain ⟨h0, h1, h2, h3⟩ := hS
    have hsz := (hW l sz g rfl).2
    rw [h0, h1]
    simp only [faultS] at h
    refine ⟨fun q => absurd q (by decide), fun _ => ⟨fun e => c_Sh_holds (by omega) hp h2 hsz ?_, fun e => QI_i.mpr ?_⟩⟩
    · rw [if_pos e] at h
      rw [bI_0]
      refine ⟨fun z => QI_i.mpr ?_, fun z => QI_i.mpr ?_⟩
      · rw [if_neg (by rw [z]; decide)] at h; exact h
      · rw [if_pos (by simpa using z)] at h; exact h
    · rw [if_neg e] at h; exact h
theorem hld_k {k : Nat} (hk : k < sz) (hsz : sz ≤ 24) : hldB sz (nI k) 1 = true := by
  unfold hldB
  refine decide_eq_true ⟨by decide, nI_pos (by omega), ?_⟩
  rw [n_tN (by omega), show tN 1 = 1 from by decide]; omega
theorem c_Sh_look {k : Nat} (hd : 2 ≤ d) (hp : Pl p) (hS : ShC p (some (l, sz, g)) I J) (hsz : sz ≤ 24) (hk : k < sz) (h : FL (g k) I J) : CL d Sh_look [.ref p, .int (nI k)] I J FL := by
  refine CL.of (by omega) rfl (vu_Sh_look_0 hp ?_)
  obtain ⟨h0, h1, h2, h3⟩ := hS
  refine c_Sh_holds (by omega) hp h2 hsz ?_
  rw [hld_k hk hsz]
  refine ⟨fun q => absurd q (by decide), fun _ => ⟨n_vp (by omega) (by decide), QL_i.mpr ?_⟩⟩
  rw [n_tN (by omega), h3 k (by omega)]; exact h
theorem c_Sh_put {k : Nat} {v : Int64} (hd : 2 ≤ d) (hp : Pl p) (hS : ShC p (some (l, sz, g)) I J) (hl : l < 4) (hsz : sz ≤ 24) (hk : k < sz) (h : G I (upJ J (p + 1) k (narL l v))) : CV d Sh_put [.ref p, .int (nI k), .long v] I J G := by
  refine CV.of (by omega) rfl (vu_Sh_put_0 hp ?_)
  obtain ⟨h0, h1, h2, h3⟩ := hS
  refine c_Sh_holds (by omega) hp h2 hsz ?_
  have hv := n_vp (a := k) (n := 24) (by omega) (by decide)
  rw [hld_k hk hsz, h1, n_tN (by omega), n_e0 (by omega), show (nI l = 1) = (nI l = nI 1) from rfl, n_eq (by omega) (by decide), show (nI l = 2) = (nI l = nI 2) from rfl, n_eq (by omega) (by decide)]
  unfold narL at h
  refine ⟨fun q => absurd q (by decide), fun _ => ⟨fun e => ⟨hv, QV_i.mpr ?_⟩, fun e => ⟨fun e1 => ⟨hv, QV_i.mpr ?_⟩, fun e1 => ⟨fun e2 => ⟨hv, QV_i.mpr ?_⟩, fun e2 => ⟨hv, QV_i.mpr ?_⟩⟩⟩⟩⟩
  · rw [if_pos e] at h; exact h
  · rw [if_neg e, if_pos e1] at h; exact h
  · rw [if_neg e, if_neg e1, if_pos e2] at h; exact h
  · rw [if_neg e, if_neg e1, if_neg e2] at h; exact h
theorem ShC_put {k : Nat} {v : Int64} (hS : ShC p (some (l, sz, g)) I J) : ShC p (some (l, sz, vp_updL g k v)) I (upJ J (p + 1) k v) := by
  obtain ⟨h0, h1, h2, h3⟩ := hS
  refine ⟨h0, h1, h2, fun j hj => ?_⟩
  by_cases e : j = k
  · rw [e, upJ_s]; simp [vp_updL]
  · rw [upJ_k e, h3 j hj]; simp [vp_updL, e]
theorem c_Sh_begin {x n : Int32} (hd : 1 ≤ d) (hp : Pl p) (h : ∀ J', (∀ k, k < 24 → J' (p + 1) k = 0) → (∀ a, a ≠ p + 1 → J' a = J a) → G (up2 (up2 (up2 I p 0 1) p 1 x) p 2 n) J') : CV d Sh_begin [.ref p, .int x, .int n] I J G := by
  have loop : ∀ k j J1, j + k = 24 → (∀ i, i < j → J1 (p + 1) i = 0) → (∀ a, a ≠ p + 1 → J1 a = J a) → Wp (d - 1) Sh_begin (QV G) 17 [some (.ref p), some (.int x), some (.int n), some (.int (nI j))] [] (up2 (up2 (up2 I p 0 1) p 1 x) p 2 n) J1 := by
    intro k
    induction k with
    | zero =>
      intro j J1 hj h1 h2
      have hj : j = 24 := by omega
      subst hj
      exact vu_Sh_begin_17 hp ⟨fun q => absurd q (by decide), fun _ => QV_i.mpr (h J1 h1 h2)⟩
    | succ k ih =>
      intro j J1 hj h1 h2
      refine vu_Sh_begin_17 hp ⟨fun _ => ⟨n_vp (by omega) (by decide), ?_⟩, fun q => absurd ((n_lt (b := 24) (by omega) (by decide)).mpr (by omega)) q⟩
      rw [n_tN (by omega), n_inc]
      refine ih (j + 1) _ (by omega) (fun i hi => ?_) (fun a ha => by rw [upJ_a ha]; exact h2 a ha)
      by_cases e : i = j
      · rw [e, upJ_s]
      · rw [upJ_k e]; exact h1 i (by omega)
  exact CV.of hd rfl (vu_Sh_begin_0 hp (loop 24 0 J rfl (fun i hi => absurd hi (Nat.not_lt_zero _)) (fun _ _ => rfl)))
theorem c_Sb_isSheet {x : Int32} (hd : 1 ≤ d) (h : F (bI (decide (¬ x < 0) && decide (x < nI 4))) I J) : CI d Sb_isSheet [.int x] I J F := by
  refine CI.of hd rfl (v_Sb_isSheet_0 ⟨fun q => QI_i.mpr ?_, fun q => ⟨fun q2 => QI_i.mpr ?_, fun q2 => QI_i.mpr ?_⟩⟩)
  · rw [decide_eq_false (fun z => z q)] at h; exact h
  · rw [decide_eq_true q, decide_eq_true (show x < nI 4 from q2)] at h; exact h
  · rw [decide_eq_true q, decide_eq_false (show ¬ x < nI 4 from q2)] at h; exact h
theorem c_Sb_isLane {x : Int32} (hd : 1 ≤ d) (h : F (bI (decide (¬ x < 0) && decide (x < nI 4))) I J) : CI d Sb_isLane [.int x] I J F := by
  refine CI.of hd rfl (v_Sb_isLane_0 ⟨fun q => QI_i.mpr ?_, fun q => ⟨fun q2 => QI_i.mpr ?_, fun q2 => QI_i.mpr ?_⟩⟩)
  · rw [decide_eq_false (fun z => z q)] at h; exact h
  · rw [decide_eq_true q, decide_eq_true (show x < nI 4 from q2)] at h; exact h
  · rw [decide_eq_true q, decide_eq_false (show ¬ x < nI 4 from q2)] at h; exact h
theorem in34 {x : Int32} : (decide (¬ x.toInt64 < 0) && decide (¬ (3 : Int64) < x.toInt64)) = (decide (¬ x < 0) && decide (x < nI 4)) := by
  have e1 : (x.toInt64 < 0) = (x < 0) := by
    rw [show (0 : Int64) = (0 : Int32).toInt64 from by decide, wide_lt]
  have e2 : (¬ (3 : Int64) < x.toInt64) = (x < nI 4) := by
    rw [show (3 : Int64) = (3 : Int32).toInt64 from by decide, wide_lt]
    rw [Int32.lt_iff_toInt_lt, Int32.lt_iff_toInt_lt, show (3 : Int32).toInt = 3 from by decide, show (nI 4).toInt = 4 from by decide]
    exact propext ⟨fun h => by omega, fun h => by omega⟩
  simp only [e1, e2]
theorem bI_01 (b : Bool) : bI b = 0 ∨ bI b = 1 := by cases b <;> simp [bI]
end SHT
end
section
/-! sheets: the calls of the class -/
def ShCs (S : Nat → Shv) (I : I2) (J : J2) : Prop := ∀ j, j < 4 → ShC (49 + 2 * j) (S j) I J
def ShMs (S : Nat → Shv) (I : I2) (J : J2) : Prop := ∀ j, j < 4 → ShM j (S j) I J
def WFSs (S : Nat → Shv) : Prop := ∀ j, j < 4 → WFS (S j)
def FrSh (I I' : I2) (J J' : J2) : Prop := ∀ a, (a < 49 ∨ 56 < a) → I' a = I a ∧ J' a = J a
theorem FrSh.rf {I : I2} {J : J2} : FrSh I I J J := fun _ _ => ⟨rfl, rfl⟩
theorem FrSh.tr {I0 I1 I2 : I2} {J0 J1 J2 : J2} (h1 : FrSh I0 I1 J0 J1) (h2 : FrSh I1 I2 J1 J2) : FrSh I0 I2 J0 J2 := fun a h => ⟨(h2 a h).1.trans (h1 a h).1, (h2 a h).2.trans (h1 a h).2⟩
theorem Pl_of {i : Nat} (hi : i < 4) : Pl (49 + 2 * i) := by
  match i, hi with
  | 0, _ => exact Or.inl rfl
  | 1, _ => exact Or.inr (Or.inl rfl)
  | 2, _ => exact Or.inr (Or.inr (Or.inl rfl))
  | 3, _ => exact Or.inr (Or.inr (Or.inr rfl))
theorem four {A : Nat → Prop} {i : Nat} (hi : i < 4) (h : A (49 + 2 * i)) : (nI i = 0 → A 49) ∧ (nI i = 1 → A 51) ∧ (nI i = 2 → A 53) ∧ (nI i = 3 → A 55) := by
  match i, hi with
  | 0, _ => exact ⟨fun _ => h, fun q => absurd q (by decide), fun q => absurd q (by decide), fun q => absurd q (by decide)⟩
  | 1, _ => exact ⟨fun q => absurd q (by decide), fun _ => h, fun q => absurd q (by decide), fun q => absurd q (by decide)⟩
  | 2, _ => exact ⟨fun q => absurd q (by decide), fun q => absurd q (by decide), fun _ => h, fun q => absurd q (by decide)⟩
  | 3, _ => exact ⟨fun q => absurd q (by decide), fun q => absurd q (by decide), fun q => absurd q (by decide), fun _ => h⟩
theorem ShC_congr {p : Nat} {S : Shv} {I I' : I2} {J J' : J2} (h : ShC p S I J) (h1 : I' p = I p) (h2 : J' (p + 1) = J (p + 1)) : ShC p S I' J' := by
  cases S with
  | none => show I' p 0 = 0; rw [h1]; exact h
  | some v =>
    obtain ⟨l, n, g⟩ := v
    obtain ⟨a, b, c, e⟩ := h
    exact ⟨by rw [h1]; exact a, by rw [h1]; exact b, by rw [h1]; exact c, fun k hk => by rw [h2]; exact e k hk⟩
theorem ShCs_upd {S : Nat → Shv} {I I' : I2} {J J' : J2} {i : Nat} {v : Shv} (hS : ShCs S I J) (hv : ShC (49 + 2 * i) v I' J') (h1 : ∀ a, a ≠ 49 + 2 * i → I' a = I a) (h2 : ∀ a, a ≠ 49 + 2 * i + 1 → J' a = J a) : ShCs (updS S i v) I' J' := by
  intro j hj
  unfold updS
  by_cases e : j = i
  · rw [if_pos e, e]; exact hv
  · rw [if_neg e]
    exact ShC_congr (hS j hj) (h1 _ (by omega)) (h2 _ (by omega))
def putS (S : Shv) (k : Nat) (v : Int64) : Shv := match S with
  | none => none
  | some (l, sz, g) => some (l, sz, vp_updL g k (narL l v))
def filmS (s i : Nat) (S : Shv) : Nat → Shv
  | 0 => S
  | p + 1 => putS (filmS s i S p) (i + p) (lN (pl s p))
def sheetF (S : Nat → Shv) (x y n : Int32) : Int32 × (Nat → Shv) := if ¬ inN x 4 ∨ ¬ inN y 4 ∨ 24 < n then (-1, S) else if n < 0 then (-14, S) else (n, updS S (tN x) (some (tN y, tN n, fun _ => 0)))
def dropF (S : Nat → Shv) (x : Int32) : Int32 × (Nat → Shv) := if ¬ inN x 4 then (-1, S) else match S (tN x) with
  | none => (-11, S)
  | some v => (nI v.2.1, updS S (tN x) none)
def itemF (S : Nat → Shv) (x y i : Int32) (v : Int64) : Int32 × (Nat → Shv) := if ¬ inN x 4 ∨ ¬ inN y 4 then (-1, S) else if faultS (S (tN x)) y i 1 = 0 then (1, updS S (tN x) (putS (S (tN x)) (tN i) v)) else (faultS (S (tN x)) y i 1, S)
def filmF (V : Bv) (S : Nat → Shv) (x y i : Int32) : Int32 × (Nat → Shv) := if V.B.pn = 0 ∨ ¬ inN x 4 ∨ ¬ inN y 4 then (-1, S) else if faultS (S (tN x)) y i (nI V.B.pn) = 0 then (nI V.B.pn, updS S (tN x) (filmS V.s (tN i) (S (tN x)) V.B.pn)) else (faultS (S (tN x)) y i (nI V.B.pn), S)
def copyF (S : Nat → Shv) (x i y j n : Int32) : Int32 × (Nat → Shv) := if ¬ inN x 4 ∨ ¬ inN y 4 then (-1, S) else match S (tN x), S (tN y) with
  | none, _ => (-11, S)
  | some _, none => (-11, S)
  | some (l, sz, g), some (l', sz', g') => if l = l' then (if hldB sz i n then (if hldB sz' j n then (n, updS S (tN y) (some (l', sz', va_cpy g g' (tN i) (tN j) (tN n)))) else (-13, S)) else (-13, S)) else (-12, S)
theorem filmS_some {s i l sz : Nat} {g : Nat → Int64} : ∀ p, ∃ g', filmS s i (some (l, sz, g)) p = some (l, sz, g') := by
  intro p
  induction p with
  | zero => exact ⟨g, rfl⟩
  | succ p ih =>
    obtain ⟨g', e⟩ := ih
    exact ⟨_, by simp only [filmS]; rw [e]; rfl⟩
theorem WFSs_upd {S : Nat → Shv} {i : Nat} {v : Shv} (h : WFSs S) (hv : WFS v) : WFSs (updS S i v) := by
  intro j hj
  unfold updS
  split
  · exact hv
  · exact h j hj
theorem WFS_none : WFS none := fun _ _ _ q => by cases q
theorem WFS_some {l n : Nat} {g : Nat → Int64} (h1 : l < 4) (h2 : n ≤ 24) : WFS (some (l, n, g)) := fun _ _ _ q => by cases q; exact ⟨h1, h2⟩
theorem WFS_put {S : Shv} {k : Nat} {v : Int64} (h : WFS S) : WFS (putS S k v) := by
  unfold putS
  split
  · exact WFS_none
  · next l sz g => exact WFS_some (h l sz g rfl).1 (h l sz g rfl).2
theorem WFS_film {S : Shv} {s i : Nat} (h : WFS S) : ∀ p, WFS (filmS s i S p) := by
  intro p
  induction p with
  | zero => exact h
  | succ p ih => exact WFS_put ih
theorem WF_sheetF {S : Nat → Shv} {x y n : Int32} (h : WFSs S) : WFSs (sheetF S x y n).2 := by
  unfold sheetF
  split
  · exact h
  · next hb =>
    simp only [not_or, Classical.not_not] at hb
    split
    · exact h
    · next h0 =>
      obtain ⟨j, hj, rfl⟩ := in_of hb.2.1 (by decide)
      obtain ⟨k, hk, rfl⟩ := le_of (n := 24) h0 hb.2.2 (by decide)
      rw [n_tN (a := j) (by omega), n_tN (a := k) (by omega)]
      exact WFSs_upd h (WFS_some hj hk)
theorem WF_dropF {S : Nat → Shv} {x : Int32} (h : WFSs S) : WFSs (dropF S x).2 := by
  unfold dropF
  split
  · exact h
  · split
    · exact h
    · exact WFSs_upd h WFS_none
theorem WF_itemF {S : Nat → Shv} {x y i : Int32} {v : Int64} (h : WFSs S) : WFSs (itemF S x y i v).2 := by
  unfold itemF
  split
  · exact h
  · next hb =>
    simp only [not_or, Classical.not_not] at hb
    obtain ⟨j, hj, rfl⟩ := in_of hb.1 (by decide)
    split
    · rw [n_tN (a := j) (by omega)]; exact WFSs_upd h (WFS_put (h j hj))
    · exact h
theorem WF_filmF {V : Bv} {S : Nat → Shv} {x y i : Int32} (h : WFSs S) : WFSs (filmF V S x y i).2 := by
  unfold filmF
  split
  · exact h
  · next hb =>
    simp only [not_or, Classical.not_not] at hb
    obtain ⟨j, hj, rfl⟩ := in_of hb.2.1 (by decide)
    split
    · rw [n_tN (a := j) (by omega)]; exact WFSs_upd h (WFS_film (h j hj) _)
    · exact h
theorem WF_copyF {S : Nat → Shv} {x i y j n : Int32} (h : WFSs S) : WFSs (copyF S x i y j n).2 := by
  unfold copyF
  split
  · exact h
  · next hb =>
    simp only [not_or, Classical.not_not] at hb
    obtain ⟨k, hk, rfl⟩ := in_of hb.2 (by decide)
    rw [n_tN (a := k) (by omega)]
    split
    · exact h
    · exact h
    · next l sz g l' sz' g' e1 e2 =>
      split
      · split
        · split
          · have := h k hk l' sz' g' e2
            exact WFSs_upd h (WFS_some this.1 this.2)
          · exact h
        · exact h
      · exact h
section SHF
variable {d : Nat} {V : Bv} {S : Nat → Shv} {I : I2} {J : J2} {F : Int32 → I2 → J2 → Prop}
theorem c_Sb_sheet (hd : 2 ≤ d) (hS : ShCs S I J) (x y n : Int32) (h : ∀ I' J', ShCs (sheetF S x y n).2 I' J' → FrSh I I' J J' → F (sheetF S x y n).1 I' J') : CI d Sb_sheet [.ref 0, .int x, .int y, .int n] I J F := by
  refine CI.of (by omega) rfl (v_Sb_sheet_0_0 (c_Sb_isSheet (by omega) ?_))
  unfold sheetF at h
  rw [in_dec]
  refine ⟨fun q => QI_i.mpr ?_, fun q1 => c_Sb_isLane (by omega) ?_⟩
  · rw [if_pos (Or.inl q)] at h; exact h I J hS FrSh.rf
  rw [in_dec]
  refine ⟨fun q => QI_i.mpr ?_, fun q2 => ⟨fun q => QI_i.mpr ?_, fun q3 => ⟨fun q => QI_i.mpr ?_, fun q4 => ?_⟩⟩⟩
  · rw [if_pos (Or.inr (Or.inl q))] at h; exact h I J hS FrSh.rf
  · rw [if_pos (Or.inr (Or.inr q))] at h; exact h I J hS FrSh.rf
  · rw [if_neg (by simp only [not_or]; exact ⟨q1, q2, q3⟩), if_pos q] at h; exact h I J hS FrSh.rf
  · rw [if_neg (by simp only [not_or]; exact ⟨q1, q2, q3⟩), if_neg q4] at h
    obtain ⟨i, hi, rfl⟩ := in_of (Classical.not_not.mp q1) (by decide)
    obtain ⟨l, hl, rfl⟩ := in_of (Classical.not_not.mp q2) (by decide)
    obtain ⟨k, hk, rfl⟩ := le_of (n := 24) q4 q3 (by decide)
    rw [n_tN (a := i) (by omega), n_tN (a := l) (by omega), n_tN (a := k) (by omega)] at h
    refine ⟨n_vp hi (by decide), four (A := fun p => CV (d - 1) Sh_begin [.ref p, .int (nI l), .int (nI k)] I J (fun I3 J3 => QI F (some (.int (nI k))) I3 J3)) hi (c_Sh_begin (by omega) (Pl_of hi) (fun J' z1 z2 => QI_i.mpr (h _ J' (ShCs_upd hS ?_ (fun a ha => ?_) z2) (fun a ha => ⟨?_, z2 a (by omega)⟩))))⟩
    · exact ⟨by simp [up2, upd], by simp [up2, upd], by simp [up2, upd], fun k hk => z1 k hk⟩
    · simp [up2, ha]
    · have : a ≠ 49 + 2 * i := by omega
      simp [up2, this]
theorem c_Sb_drop (hd : 2 ≤ d) (hS : ShCs S I J) (x : Int32) (h : ∀ I' J', ShCs (dropF S x).2 I' J' → FrSh I I' J J' → F (dropF S x).1 I' J') : CI d Sb_drop [.ref 0, .int x] I J F := by
  refine CI.of (by omega) rfl (v_Sb_drop_0_0 (c_Sb_isSheet (by omega) ?_))
  unfold dropF at h
  rw [in_dec]
  refine ⟨fun q => QI_i.mpr ?_, fun q1 => ?_⟩
  · rw [if_pos q] at h; exact h I J hS FrSh.rf
  rw [if_neg q1] at h
  obtain ⟨i, hi, rfl⟩ := in_of (Classical.not_not.mp q1) (by decide)
  rw [n_tN (a := i) (by omega)] at h
  refine ⟨n_vp hi (by decide), four (A := fun p => ((I p 0) = 0 → QI F (some (.int (-11))) I J) ∧ (¬ ((I p 0) = 0) → CI (d - 1) Sh_end [.ref p] I J (fun v2 I2 J2 => QI F (some (.int v2)) I2 J2))) hi ?_⟩
  have hSi := hS i hi
  cases e : S i with
  | none =>
    rw [e] at h hSi
    exact ⟨fun _ => QI_i.mpr (h I J hS FrSh.rf), fun q => absurd hSi q⟩
  | some v =>
    rw [e] at h hSi
    obtain ⟨l, sz, g⟩ := v
    obtain ⟨a0, a1, a2, a3⟩ := hSi
    refine ⟨fun q => absurd (a0.symm.trans q) (by decide), fun _ => CI.of (by omega) rfl (vu_Sh_end_0 (Pl_of hi) (QI_i.mpr (QI_i.mpr ?_)))⟩
    rw [a2]
    refine h _ J (ShCs_upd hS (show up2 I (49 + 2 * i) 0 0 (49 + 2 * i) 0 = 0 by simp [up2, upd]) (fun a ha => by simp [up2, ha]) (fun _ _ => rfl)) (fun a ha => ⟨?_, rfl⟩)
    have : a ≠ 49 + 2 * i := by omega
    simp [up2, this]
theorem c_Sb_item (hd : 3 ≤ d) (hS : ShCs S I J) (hW : WFSs S) (x y j : Int32) (v : Int64) (h : ∀ I' J', ShCs (itemF S x y j v).2 I' J' → FrSh I I' J J' → F (itemF S x y j v).1 I' J') : CI d Sb_item [.ref 0, .int x, .int y, .int j, .long v] I J F := by
  refine CI.of (by omega) rfl (v_Sb_item_0_0 (c_Sb_isSheet (by omega) ?_))
  unfold itemF at h
  rw [in_dec]
  refine ⟨fun q => QI_i.mpr ?_, fun q1 => c_Sb_isLane (by omega) ?_⟩
  · rw [if_pos (Or.inl q)] at h; exact h I J hS FrSh.rf
  rw [in_dec]
  refine ⟨fun q => QI_i.mpr ?_, fun q2 => ?_⟩
  · rw [if_pos (Or.inr q)] at h; exact h I J hS FrSh.rf
  rw [if_neg (by simp only [not_or]; exact ⟨q1, q2⟩)] at h
  obtain ⟨i, hi, rfl⟩ := in_of (Classical.not_not.mp q1) (by decide)
  rw [n_tN (a := i) (by omega)] at h
  refine ⟨n_vp hi (by decide), four (A := fun p => CI (d - 1) Sh_fault [.ref p, .int y, .int j, .int 1] I J (fun v3 I3 J3 => (v3 = 0 → CV (d - 1) Sh_put [.ref p, .int j, .long v] I3 J3 (fun I4 J4 => QI F (some (.int 1)) I4 J4)) ∧ (¬ (v3 = 0) → QI F (some (.int v3)) I3 J3))) hi (c_Sh_fault (by omega) (Pl_of hi) (hS i hi) (hW i hi) ⟨fun e => ?_, fun e => QI_i.mpr ?_⟩)⟩
  · rw [if_pos e] at h
    obtain ⟨l, sz, g, eS, rfl, z1, z2, z3⟩ := fault_0 e
    obtain ⟨w1, w2⟩ := hW i hi l sz g eS
    obtain ⟨k, hk, rfl⟩ := nI_of z2
    rw [n_tN hk, show tN 1 = 1 from by decide] at z3
    have hSi := hS i hi
    rw [eS] at h hSi
    rw [n_tN hk] at h
    refine c_Sh_put (by omega) (Pl_of hi) hSi w1 w2 (by omega) (QI_i.mpr (h I _ (ShCs_upd hS (ShC_put hSi) (fun _ _ => rfl) (fun a ha => upJ_a ha)) (fun a ha => ⟨rfl, upJ_a (by omega)⟩)))
  · rw [if_neg e] at h; exact h I J hS FrSh.rf
theorem narL_small {l : Nat} : ∀ a, a < 4 → narL l (lN a) = lN a := by
  intro a ha
  unfold narL
  match a, ha with
  | 0, _ => split; decide; split; decide; split; decide; rfl
  | 1, _ => split; decide; split; decide; split; decide; rfl
  | 2, _ => split; decide; split; decide; split; decide; rfl
  | 3, _ => split; decide; split; decide; split; decide; rfl
theorem c_Sb_film (hd : 3 ≤ d) (hw : WFV V) (hV : CBx 1 V I) (hS : ShCs S I J) (hW : WFSs S) (x y j : Int32) (h : ∀ I' J', ShCs (filmF V S x y j).2 I' J' → FrSh I I' J J' → F (filmF V S x y j).1 I' J') : CI d Sb_film [.ref 0, .int x, .int y, .int j] I J F := by
  have hp5 := hw.1.1
  have hs2 := s31 hw.1 hw.2.2.1.1
  refine CI.of (by omega) rfl (v_Sb_film_0_0 ?_)
  unfold filmF at h
  rw [hV.1.1, n_e0 (by omega)]
  refine ⟨fun q => QI_i.mpr ?_, fun q0 => c_Sb_isSheet (by omega) ?_⟩
  · rw [if_pos (Or.inl q)] at h; exact h I J hS FrSh.rf
  rw [in_dec]
  refine ⟨fun q => QI_i.mpr ?_, fun q1 => c_Sb_isLane (by omega) ?_⟩
  · rw [if_pos (Or.inr (Or.inl q))] at h; exact h I J hS FrSh.rf
  rw [in_dec]
  refine ⟨fun q => QI_i.mpr ?_, fun q2 => ?_⟩
  · rw [if_pos (Or.inr (Or.inr q))] at h; exact h I J hS FrSh.rf
  rw [if_neg (by simp only [not_or]; exact ⟨q0, q1, q2⟩)] at h
  obtain ⟨i, hi, rfl⟩ := in_of (Classical.not_not.mp q1) (by decide)
  rw [n_tN (a := i) (by omega)] at h
  rw [hV.1.1]
  refine ⟨n_vp hi (by decide), four (A := fun p => CI (d - 1) Sh_fault [.ref p, .int y, .int j, .int (nI V.B.pn)] I J (fun v3 I3 J3 => (v3 = 0 → Wp (d - 1) Sb_film (QI F) 57 [some (.ref 0), some (.int (nI i)), some (.int y), some (.int j), some (.int v3), some (.int 0)] [] I3 J3) ∧ (¬ (v3 = 0) → QI F (some (.int v3)) I3 J3))) hi (c_Sh_fault (by omega) (Pl_of hi) (hS i hi) (hW i hi) ⟨fun e => ?_, fun e => QI_i.mpr ?_⟩)⟩
  · rw [if_pos e] at h
    obtain ⟨l, sz, g, eS, rfl, z1, z2, z3⟩ := fault_0 e
    obtain ⟨w1, w2⟩ := hW i hi l sz g eS
    obtain ⟨k, hk, rfl⟩ := nI_of z2
    rw [n_tN hk, n_tN (by omega)] at z3
    rw [n_tN hk, eS] at h
    have loop : ∀ r p J1, p + r = V.B.pn → ShCs (updS S i (filmS V.s k (some (l, sz, g)) p)) I J1 → FrSh I I J J1 → Wp (d - 1) Sb_film (QI F) 57 [some (.ref 0), some (.int (nI i)), some (.int (nI l)), some (.int (nI k)), some (.int (faultS (S i) (nI l) (nI k) (nI V.B.pn))), some (.int (nI p))] [] I J1 := by
      intro r
      induction r with
      | zero =>
        intro p J1 hp h1 h2
        have hp : p = V.B.pn := by omega
        subst hp
        refine v_Sb_film_0_57 ⟨fun q => ?_, fun _ => ?_⟩
        · rw [hV.1.1] at q; exact absurd ((n_lt (by omega) (by omega)).mp q) (Nat.lt_irrefl _)
        · rw [hV.1.1]; exact QI_i.mpr (h I J1 h1 h2)
      | succ r ih =>
        intro p J1 hp h1 h2
        have hlt : p < V.B.pn := by omega
        refine v_Sb_film_0_57 ⟨fun _ => ?_, fun q => absurd ((n_lt (by omega) (by omega)).mpr hlt) (by rw [hV.1.1] at q; exact q)⟩
        rw [hV.2.2.1, nI_add, n_inc]
        refine ⟨n_vp hi (by decide), four (A := fun pp => CI (d - 1) Sb_placeIn [.int (nI V.s), .int (nI p)] I J1 (fun v1 I1 J1 => CV (d - 1) Sh_put [.ref pp, .int (nI (k + p)), .long (Int32.toInt64 v1)] I1 J1 (fun I2 J2 => Wp (d - 1) Sb_film (QI F) 57 [some (.ref 0), some (.int (nI i)), some (.int (nI l)), some (.int (nI k)), some (.int (faultS (S i) (nI l) (nI k) (nI V.B.pn))), some (.int (nI (p + 1)))] [] I2 J2))) hi ?_⟩
        refine c_Sb_placeIn (by omega) (by omega) (by omega) ?_
        have hpl := pl_lt V.s p
        rw [nI_l (by omega)]
        obtain ⟨g', eg⟩ := filmS_some (s := V.s) (i := k) (l := l) (sz := sz) (g := g) p
        have h1i := h1 i hi
        rw [show updS S i (filmS V.s k (some (l, sz, g)) p) i = some (l, sz, g') from (if_pos rfl).trans eg] at h1i
        refine c_Sh_put (by omega) (Pl_of hi) h1i w1 w2 (by omega) (ih (p + 1) _ (by omega) ?_ (h2.tr (fun a ha => ⟨rfl, upJ_a (by omega)⟩)))
        have e3 : filmS V.s k (some (l, sz, g)) (p + 1) = some (l, sz, vp_updL g' (k + p) (narL l (lN (pl V.s p)))) := by
          simp only [filmS]; rw [eg]; rfl
        rw [e3]
        have e4 := ShCs_upd h1 (ShC_put (k := k + p) (v := narL l (lN (pl V.s p))) h1i) (fun _ _ => rfl) (fun a ha => upJ_a ha)
        have e5 : ∀ v v', updS (updS S i v) i v' = updS S i v' := by
          intro v v'; funext q; unfold updS; by_cases z : q = i <;> simp [z]
        rw [e5] at e4
        exact e4
    exact loop V.B.pn 0 J (Nat.zero_add _) (by
      have : updS S i (filmS V.s k (some (l, sz, g)) 0) = S := by
        funext q; unfold updS
        by_cases z : q = i
        · rw [if_pos z, z, eS]; rfl
        · rw [if_neg z]
      rw [this]; exact hS) FrSh.rf
  · rw [if_neg e] at h; exact h I J hS FrSh.rf
end SHF
end
section
/-! sheets: the calls of the model -/
def FrSi (I I' : I2) : Prop := ∀ a, a ≠ 74 → a ≠ 75 → I' a = I a
def FrSj (J J' : J2) : Prop := ∀ a, a ≠ 76 → a ≠ 77 → J' a = J a
theorem FrSi.rf {I : I2} : FrSi I I := fun _ _ _ => rfl
theorem FrSj.rf {J : J2} : FrSj J J := fun _ _ _ => rfl
theorem FrSj.tr {J0 J1 J2 : J2} (h1 : FrSj J0 J1) (h2 : FrSj J1 J2) : FrSj J0 J2 := fun a x y => (h2 a x y).trans (h1 a x y)
theorem FrSj_76 {J : J2} {k : Nat} {x : Int64} : FrSj J (upJ J 76 k x) := fun _ h _ => upJ_a h
theorem FrSj_77 {J : J2} {k : Nat} {x : Int64} : FrSj J (upJ J 77 k x) := fun _ _ h => upJ_a h
theorem ShM_congr {i : Nat} {S : Shv} {I I' : I2} {J J' : J2} (h : ShM i S I J) (h1 : I' 74 i = I 74 i) (h2 : I' 75 i = I 75 i) (h3 : ∀ k, k < 24 → J' 76 (24 * i + k) = J 76 (24 * i + k)) : ShM i S I' J' := by
  cases S with
  | none => show I' 74 i = -1; rw [h1]; exact h
  | some v =>
    obtain ⟨l, n, g⟩ := v
    obtain ⟨a, b, e⟩ := h
    exact ⟨by rw [h1]; exact a, by rw [h2]; exact b, fun k hk => by rw [h3 k hk]; exact e k hk⟩
theorem ShMs_upd {S : Nat → Shv} {I I' : I2} {J J' : J2} {i : Nat} {v : Shv} (hS : ShMs S I J) (hv : ShM i v I' J') (h1 : ∀ j, j ≠ i → I' 74 j = I 74 j) (h2 : ∀ j, j ≠ i → I' 75 j = I 75 j) (h3 : ∀ j k, j ≠ i → k < 24 → J' 76 (24 * j + k) = J 76 (24 * j + k)) : ShMs (updS S i v) I' J' := by
  intro j hj
  unfold updS
  by_cases e : j = i
  · rw [if_pos e, e]; exact hv
  · rw [if_neg e]
    exact ShM_congr (hS j hj) (h1 _ e) (h2 _ e) (fun k hk => h3 j k e hk)
theorem n_24 (i k : Nat) : (24 : Int32) * nI i + nI k = nI (24 * i + k) := by
  rw [show (24 : Int32) * nI i = nI (24 * i) from pk_mul 24 i, nI_add]
theorem fault_ge {S : Shv} {l i n : Int32} {A B : Prop} (h1 : ¬ faultS S l i n = 0 → A) (h2 : faultS S l i n = 0 → B) : (faultS S l i n < 0 → A) ∧ (¬ (faultS S l i n < 0) → B) :=
  ⟨fun q => h1 (fault_lt.mp q), fun q => h2 (Classical.not_not.mp (fun z => q (fault_lt.mpr z)))⟩
section SHM
variable {d : Nat} {V : Bv} {S : Nat → Shv} {I : I2} {J : J2} {F : Int32 → I2 → J2 → Prop}
end SHM
end
section
/-! to told places: both sides -/
def itm (S : Shv) : Nat → Int64 := match S with
  | none => fun _ => 0
  | some v => v.2.2
/-- the state that items from i on tell, below p -/
def stV (B : Bx) (g : Nat → Int64) (i : Nat) : Nat → Option Nat
  | 0 => some 0
  | p + 1 => match stV B g i p with
    | none => none
    | some a => if g (i + p) < 0 ∨ lN (B.dp p) < g (i + p) then none else some (a ||| tN (g (i + p)).toInt32 * 4 ^ p)
noncomputable def toF (V : Bv) (S : Nat → Shv) (x y j k : Int32) : Int32 := if k < -1 ∨ V.B.pn = 0 ∨ ¬ inN x 4 ∨ ¬ inN y 4 then -1 else if faultS (S (tN x)) y j (nI V.B.pn) = 0 then (match stV V.B (itm (S (tN x))) (tN j) V.B.pn with
  | none => -2
  | some a => tldS V.T (if V.T.fa a = 0 then none else some a) k) else faultS (S (tN x)) y j (nI V.B.pn)
theorem stV_none {B : Bx} {g : Nat → Int64} {i p : Nat} (h : stV B g i p = none) : ∀ k, stV B g i (p + k) = none := by
  intro k
  induction k with
  | zero => exact h
  | succ k ih =>
    show stV B g i (p + k + 1) = none
    simp only [stV]; rw [ih]
theorem stV_lt {B : Bx} {g : Nat → Int64} {i : Nat} (hB : WFB B) : ∀ p a, p ≤ B.pn → stV B g i p = some a → a < 4 ^ p := by
  intro p
  induction p with
  | zero => intro a _ h; simp only [stV] at h; cases h; decide
  | succ p ih =>
    intro a hp h
    simp only [stV] at h
    split at h
    · cases h
    · next b e =>
      split at h
      · cases h
      · next hn =>
        cases h
        simp only [not_or] at hn
        obtain ⟨m, hm, em⟩ := pk_lOf hn.1
        have hb := ih b (by omega) e
        have hdp := (hB.2.2.1 p (by omega)).2.2
        have h2 := hn.2
        rw [em, pk_lLT (by omega) hm] at h2
        rw [em, lN_i, n_tN (by omega)]
        have e4 : 4 ^ (p + 1) = 2 ^ (2 * p + 2) := by rw [← two4]; rfl
        rw [e4]
        refine Nat.or_lt_two_pow ?_ ?_
        · rw [← two4] at hb
          exact Nat.lt_of_lt_of_le hb (Nat.pow_le_pow_right (by decide) (by omega))
        · rw [← two4, Nat.pow_add]
          have h3 : m ≤ 3 := by omega
          have h4 := Nat.mul_le_mul_right (2 ^ (2 * p)) h3
          have h5 : 0 < 2 ^ (2 * p) := Nat.pow_pos (by decide)
          have h6 : 2 ^ (2 * p) * 2 ^ 2 = 4 * 2 ^ (2 * p) := by rw [Nat.mul_comm]
          omega
section TOT
variable {d : Nat} {V : Bv} {S : Nat → Shv} {I : I2} {J : J2} {F : Int32 → I2 → J2 → Prop} {T : Tw} {B : Bx}
theorem c_Wk_told0 {t : Nat} {k : Int32} (hd : 1 ≤ d) (hI : WkR T I) (ht : t < 1024) (h0 : T.fa t = 0) (h : F (-4) I J) : CI d Wk_told [.ref 33, .int (nI t), .int k] I J F := by
  refine CI.of (by omega) rfl (v_Wk_told_33_0 ?_)
  have e : I 37 t = -1 := by rw [hI.2.2.1 t ht, h0]; decide
  rw [n_tN (by omega), e]
  exact ⟨fun q => absurd q (nI_pos (by omega)), fun _ => ⟨fun _ => ⟨n_vp ht (by decide), fun _ => QI_i.mpr h, fun q => absurd (by decide) q⟩, fun q => absurd ((n_lt (b := 1024) (by omega) (by decide)).mpr ht) q⟩⟩
theorem n_stV {a m p : Nat} (hp : p < 5) (hm : m ≤ 3) : nI a ||| slI (nI m) (2 * nI p) = nI (a ||| m * 4 ^ p) := by
  have e2 : (2 : Int32) * nI p = nI (2 * p) := pk_mul 2 _
  have h4 : 2 ^ (2 * p) ≤ 2 ^ 8 := Nat.pow_le_pow_right (by decide) (by omega)
  have h5 := Nat.mul_le_mul hm h4
  rw [e2, n_sl (by omega) (by omega), n_or, two4]
theorem c_Bx_stateOf {p sz l i : Nat} {g : Nat → Int64} (hd : 3 ≤ d) (hw : WFV V) (hV : CBx 1 V I) (hp : Pl p) (hS : ShC p (some (l, sz, g)) I J) (hsz : sz ≤ 24) (hi : i + V.B.pn ≤ sz) (h : F (optI (stV V.B g i V.B.pn) (-2)) I J) : CI d Bx_stateOf [.ref 1, .ref p, .int (nI i)] I J F := by
  have hp5 := hw.1.1
  have loop : ∀ k n a, n + k = V.B.pn → stV V.B g i n = some a → Wp (d - 1) Bx_stateOf (QI F) 5 [some (.ref 1), some (.ref p), some (.int (nI i)), some (.int (nI a)), some (.int (nI n)), none, none] [] I J := by
    intro k
    induction k with
    | zero =>
      intro n a hn he
      have hn : n = V.B.pn := by omega
      subst hn
      refine vu_Bx_stateOf_1_5 hp ⟨fun q => ?_, fun _ => QI_i.mpr ?_⟩
      · rw [hV.1.1] at q; exact absurd ((n_lt (by omega) (by omega)).mp q) (Nat.lt_irrefl _)
      · rw [he] at h; exact h
    | succ k ih =>
      intro n a hn he
      have hlt : n < V.B.pn := by omega
      have hdp := (hw.1.2.2.1 n hlt).2.2
      refine vu_Bx_stateOf_1_5 hp ⟨fun _ => ?_, fun q => absurd ((n_lt (by omega) (by omega)).mpr hlt) (by rw [hV.1.1] at q; exact q)⟩
      rw [nI_add, n_inc]
      have e1 : ∀ z, stV V.B g i (n + 1) = z → z = if g (i + n) < 0 ∨ lN (V.B.dp n) < g (i + n) then none else some (a ||| tN (g (i + n)).toInt32 * 4 ^ n) := by
        intro z hz
        rw [← hz]; simp only [stV]; rw [he]
      have bad : (g (i + n) < 0 ∨ lN (V.B.dp n) < g (i + n)) → QI F (some (.int (-2))) I J := by
        intro q
        have e2 := e1 _ rfl
        rw [if_pos q] at e2
        have e3 := stV_none e2 k
        rw [show n + 1 + k = V.B.pn by omega] at e3
        rw [e3] at h
        exact QI_i.mpr h
      refine c_Sh_look (by omega) hp hS hsz (by omega) ?_
      rw [cmp_lt, n_tN (by omega), show I 3 n = nI (V.B.dp n) from (hV.1.2.2.1 n hlt).2, nI_l (by omega), cmp_gt]
      refine ⟨fun q => bad (Or.inl q), fun q => ⟨n_vp (by omega) (by decide), fun q2 => bad (Or.inr q2), fun q2 => ?_⟩⟩
      have e2 := e1 _ rfl
      rw [if_neg (fun z => z.elim q q2)] at e2
      obtain ⟨m, hm, em⟩ := pk_lOf q
      rw [em, pk_lLT (by omega) hm] at q2
      rw [em, lN_i, n_tN (by omega)] at e2
      rw [em, lN_i, n_stV (by omega) (by omega)]
      exact ih (n + 1) _ (by omega) e2
  exact CI.of (by omega) rfl (vu_Bx_stateOf_1_0 hp (loop V.B.pn 0 0 (Nat.zero_add _) rfl))
theorem toF_of {x y j k : Int32} (hb : ¬ (k < -1 ∨ V.B.pn = 0 ∨ ¬ inN x 4 ∨ ¬ inN y 4)) (h0 : faultS (S (tN x)) y j (nI V.B.pn) = 0) : toF V S x y j k = match stV V.B (itm (S (tN x))) (tN j) V.B.pn with
  | none => -2
  | some a => tldS V.T (if V.T.fa a = 0 then none else some a) k := (if_neg hb).trans (if_pos h0)
theorem c_Sb_to (hd : 7 ≤ d) (hw : WFV V) (hV : CBx 1 V I) (hC : CaR V.B I) (hS : ShCs S I J) (hW : WFSs S) (x y j k : Int32) (h : ∀ I', FrG I I' → CaR V.B I' → F (toF V S x y j k) I' J) : CI d Sb_to [.ref 0, .int x, .int y, .int j, .int k] I J F := by
  have hp5 := hw.1.1
  have hf := f64 hw.1 hw.2.2.2.1
  have hT : TI V.B V.T := TIb hw V.f
  have bad : (k < -1 ∨ V.B.pn = 0 ∨ ¬ inN x 4 ∨ ¬ inN y 4) → QI F (some (.int (-1))) I J := by
    intro q
    rw [show toF V S x y j k = -1 from if_pos q] at h
    exact QI_i.mpr (h I FrG.rf hC)
  refine CI.of (by omega) rfl (v_Sb_to_0_0 ?_)
  rw [hV.1.1, n_e0 (by omega)]
  refine ⟨fun q => bad (Or.inl q), fun q0 => ⟨fun q => bad (Or.inr (Or.inl q)), fun q3 => c_Sb_isSheet (by omega) ?_⟩⟩
  rw [in_dec]
  refine ⟨fun q => bad (Or.inr (Or.inr (Or.inl q))), fun q1 => c_Sb_isLane (by omega) ?_⟩
  rw [in_dec]
  refine ⟨fun q => bad (Or.inr (Or.inr (Or.inr q))), fun q2 => ?_⟩
  have nb : ¬ (k < -1 ∨ V.B.pn = 0 ∨ ¬ inN x 4 ∨ ¬ inN y 4) := by simp only [not_or]; exact ⟨q0, q3, q1, q2⟩
  obtain ⟨i, hi, rfl⟩ := in_of (Classical.not_not.mp q1) (by decide)
  rw [hV.1.1]
  refine ⟨n_vp hi (by decide), four (A := fun p => CI (d - 1) Sh_fault [.ref p, .int y, .int j, .int (nI V.B.pn)] I J (fun v3 I3 J3 => (v3 = 0 → CI (d - 1) Bx_stateOf [.ref 1, .ref p, .int j] I3 J3 (fun v4 I4 J4 => (v4 < 0 → QI F (some (.int (-2))) I4 J4) ∧ (¬ (v4 < 0) → CV (d - 1) Wk_from [.ref 33, .int (I4 1 9), .int (I4 1 10)] I4 J4 (fun I5 J5 => CI (d - 1) Wk_told [.ref 33, .int v4, .int k] I5 J5 (fun v6 I6 J6 => QI F (some (.int v6)) I6 J6))))) ∧ (¬ (v3 = 0) → QI F (some (.int v3)) I3 J3))) hi (c_Sh_fault (by omega) (Pl_of hi) (hS i hi) (hW i hi) ⟨fun e => ?_, fun e => QI_i.mpr ?_⟩)⟩
  · rw [toF_of nb (by rw [n_tN (by omega)]; exact e), n_tN (by omega)] at h
    obtain ⟨l, sz, g, eS, rfl, z1, z2, z3⟩ := fault_0 e
    obtain ⟨w1, w2⟩ := hW i hi l sz g eS
    obtain ⟨c, hc, rfl⟩ := nI_of z2
    rw [n_tN hc, n_tN (by omega)] at z3
    rw [n_tN hc, eS] at h
    have hSi := hS i hi
    rw [eS] at hSi
    refine c_Bx_stateOf (by omega) hw hV (Pl_of hi) hSi w2 z3 ?_
    have h : ∀ I', FrG I I' → CaR V.B I' → F (match stV V.B g c V.B.pn with
      | none => -2
      | some a => tldS V.T (if V.T.fa a = 0 then none else some a) k) I' J := h
    cases est : stV V.B g c V.B.pn with
    | none =>
      rw [est] at h
      exact ⟨fun _ => QI_i.mpr (h I FrG.rf hC), fun q => absurd (by decide) q⟩
    | some a =>
      rw [est] at h
      have ha := s31 hw.1 (stV_lt hw.1 _ a (Nat.le_refl _) est)
      dsimp only [optI] at h ⊢
      rw [hV.2.2.1, hV.2.2.2.1]
      refine ⟨fun q => absurd q (nI_pos (by omega)), fun _ => c_W_from (by omega) hw hV hC hf (fun I1 r1 r2 r3 => ?_)⟩
      have h := h I1 r1 (r3.ca hw hf)
      have hI : WkR V.T I1 := r3.2.2.2.2
      by_cases e0 : V.T.fa a = 0
      · rw [if_pos e0] at h
        exact c_Wk_told0 (by omega) hI ha e0 (QI_i.mpr h)
      · rw [if_neg e0] at h
        exact c_Wk_told (by omega) hw.1 hT hI (some a) (fun t ht => by cases ht; exact (hT.2.1 a).mpr e0) k (QI_i.mpr h)
  · rw [show toF V S (nI i) y j k = faultS (S i) y j (nI V.B.pn) from (if_neg nb).trans (by rw [n_tN (by omega)]; exact if_neg e)] at h
    exact h I FrG.rf hC
end TOT
end
section
/-! clicks: both sides -/
def okPr (pn : Nat) (a b : Int64) : Bool := decide (¬ a < 0 ∧ a / 10 < lN pn ∧ ¬ 1 < rmL a 10 ∧ ¬ b < 0 ∧ ¬ 1 < b)
def clkO (g : Nat → Int64) (i pn : Nat) : Nat → Bool
  | 0 => true
  | k + 1 => clkO g i pn k && okPr pn (g (i + 2 * k)) (g (i + 2 * k + 1))
def mvN (g : Nat → Int64) (i k : Nat) : Nat := tN (g (i + 2 * k)).toInt32
def clkN (B : Bx) (f : Nat) (g : Nat → Int64) (i : Nat) : Nat → Nat → Nat → Bool
  | 0, _, _ => true
  | r + 1, k, s => if mayB B s f (mvN g i k / 10) (mvN g i k % 10) = decide (g (i + 2 * k + 1) = 1) then clkN B f g i r (k + 1) (if g (i + 2 * k + 1) = 1 then behB B s (mvN g i k / 10) (mvN g i k % 10) B.pn else s) else false
def Bx.setK (B : Bx) (p k : Nat) : Bx := (B.1, (updN B.kd p k, B.dp), B.2.2)
def lkS (V : Bv) (g : Nat → Int64) (i n : Nat) : Nat → Nat
  | 0 => if clkN V.B V.f g i n 0 V.s then 64 else 0
  | l + 1 => lkS V g i n l ||| (if clkN V.B (V.f ^^^ 2 ^ l) g i n 0 V.s then 2 ^ l else 0)
def kdS (V : Bv) (g : Nat → Int64) (i n x : Nat) : Nat → Nat
  | 0 => 0
  | k + 1 => kdS V g i n x k ||| (if clkN (V.B.setK x k) V.f g i n 0 V.s then 2 ^ k else 0)
def clicksF (V : Bv) (S : Nat → Shv) (x y z i n : Int32) : Int32 := if (¬ x = -4 ∧ ¬ inN x V.B.pn) ∨ ¬ inN y 4 ∨ ¬ inN z 4 ∨ n < 1 ∨ 8 < n then -1 else if faultS (S (tN y)) z i (2 * n) = 0 then (if clkO (itm (S (tN y))) (tN i) V.B.pn (tN n) then (if x = -4 then nI (lkS V (itm (S (tN y))) (tN i) (tN n) V.B.ln) else nI (kdS V (itm (S (tN y))) (tN i) (tN n) (tN x) 5)) else -2) else faultS (S (tN y)) z i (2 * n)
theorem okPr_i {pn : Nat} {a b : Int64} (hp : pn ≤ 5) (h : okPr pn a b = true) : ∃ m, a = lN m ∧ m / 10 < pn ∧ m % 10 < 2 ∧ m < 50 ∧ (b = 0 ∨ b = 1) := by
  simp only [okPr, decide_eq_true_eq] at h
  obtain ⟨h1, h2, h3, h4, h5⟩ := h
  obtain ⟨m, hm, rfl⟩ := pk_lOf h1
  obtain ⟨c, hc, rfl⟩ := pk_lOf h4
  rw [show lN m / 10 = lN (m / 10) from pk_lDiv (b := 10) hm (by decide) (by decide), pk_lLT (by omega) (by omega)] at h2
  rw [show rmL (lN m) 10 = lN (m % 10) from n_rmL (b := 10) hm (by decide) (by decide), show ((1 : Int64) < lN (m % 10)) = (lN 1 < lN (m % 10)) from rfl, pk_lLT (by decide) (by omega)] at h3
  rw [show ((1 : Int64) < lN c) = (lN 1 < lN c) from rfl, pk_lLT (by decide) hc] at h5
  refine ⟨m, rfl, h2, by omega, by omega, ?_⟩
  have : c = 0 ∨ c = 1 := by omega
  rcases this with rfl | rfl
  · exact Or.inl rfl
  · exact Or.inr rfl
theorem clkO_at {g : Nat → Int64} {i pn : Nat} : ∀ n, clkO g i pn n = true → ∀ k, k < n → okPr pn (g (i + 2 * k)) (g (i + 2 * k + 1)) = true := by
  intro n
  induction n with
  | zero => intro _ k hk; exact absurd hk (Nat.not_lt_zero k)
  | succ n ih =>
    intro h k hk
    simp only [clkO, Bool.and_eq_true] at h
    by_cases e : k = n
    · rw [e]; exact h.2
    · exact ih h.1 k (by omega)
theorem clkO_up {g : Nat → Int64} {i pn k : Nat} (h : clkO g i pn k = false) : ∀ r, clkO g i pn (k + r) = false := by
  intro r
  induction r with
  | zero => exact h
  | succ r ih =>
    show clkO g i pn (k + r + 1) = false
    simp only [clkO]; rw [ih]; rfl
theorem WFB_setK {B : Bx} (h : WFB B) {p k : Nat} (hk : k ≤ 4) : WFB (B.setK p k) := by
  refine ⟨h.1, h.2.1, fun q hq => ⟨?_, (h.2.2.1 q hq).2⟩, h.2.2.2⟩
  show updN B.kd p k q ≤ 4
  unfold updN
  split
  · exact hk
  · exact (h.2.2.1 q hq).1
theorem okS_setK {B : Bx} {p k s : Nat} (h : okS B s) : okS (B.setK p k) s := h
theorem n_xor (a b : Nat) : nI a ^^^ nI b = nI (a ^^^ b) := by
  apply Int32.toBitVec_inj.mp
  show BitVec.ofNat 32 a ^^^ BitVec.ofNat 32 b = BitVec.ofNat 32 (a ^^^ b)
  rw [BitVec.ofNat_xor]
theorem n_one {l : Nat} (hl : l < 30) : slI 1 (nI l) = nI (2 ^ l) := by
  have h : 1 * 2 ^ l < 2 ^ 32 := by rw [Nat.one_mul]; exact Nat.pow_lt_pow_right (by decide) (by omega)
  have := n_sl (a := 1) (k := l) (by omega) h
  rw [Nat.one_mul] at this
  exact this
theorem may_up {B : Bx} {s f p w : Nat} (hB : WFB B) (hs : okS B s) (hp : p < B.pn) (h : mayB B s f p w = true) : (w = 1 → pl s p < 3) ∧ (w = 0 → 0 < pl s p) := by
  have h1 := may_place h
  have h3 := (hB.2.2.1 p hp).2.2
  exact ⟨fun e => by have := h1.2 (by omega); omega, h1.1⟩
section CLK
variable {d : Nat} {V : Bv} {S : Nat → Shv} {I : I2} {J : J2} {F : Int32 → I2 → J2 → Prop} {B : Bx} {p sz l i f : Nat} {g : Nat → Int64}
theorem n_mv {m : Nat} (h : m < 50) : (lN m).toInt32 / 10 = nI (m / 10) ∧ rmI (lN m).toInt32 10 = nI (m % 10) := by
  rw [lN_i]
  exact ⟨n_div (k := 10) (by omega) (by decide) (by decide), n_rm (k := 10) (by omega) (by decide) (by decide)⟩
theorem c_Sb_clicksSo_1 {n s : Nat} (hd : 5 ≤ d) (hw : WFB B) (hB : BoxI 1 B I) (h9 : I 1 9 = nI s) (hs : okS B s) (hf : f < 64) (hp : Pl p) (hS : ShC p (some (l, sz, g)) I J) (hsz : sz ≤ 24) (hi : i + 2 * n ≤ sz) (hok : clkO g i B.pn n = true) (h : F (bI (clkN B f g i n 0 s)) I J) : CI d Sb_clicksSo [.ref 1, .int (nI f), .ref p, .int (nI i), .int (nI n)] I J F := by
  have hp5 := hw.1
  have loop : ∀ r k s, k + r = n → okS B s → F (bI (clkN B f g i r k s)) I J → Wp (d - 1) Sb_clicksSo (QI F) 9 [some (.ref 1), some (.int (nI f)), some (.ref p), some (.int (nI i)), some (.int (nI n)), some (.int (nI s)), some (.int (nI k)), none, none] [] I J := by
    intro r
    induction r with
    | zero =>
      intro k s hk hs hz
      have hk : k = n := by omega
      subst hk
      exact vu_Sb_clicksSo_1_9 hp ⟨fun q => absurd ((n_lt (by omega) (by omega)).mp q) (Nat.lt_irrefl _), fun _ => QI_i.mpr hz⟩
    | succ r ih =>
      intro k s hk hs h
      obtain ⟨m, em, h1, h2, h3, h4⟩ := okPr_i hp5 (clkO_at n hok k (by omega))
      have emv : mvN g i k = m := by unfold mvN; rw [em, lN_i, n_tN (by omega)]
      have hs2 := s31 hw hs.1
      simp only [clkN] at h
      rw [emv] at h
      refine vu_Sb_clicksSo_1_9 hp ⟨fun _ => ?_, fun q => absurd ((n_lt (by omega) (by omega)).mpr (by omega)) q⟩
      rw [show (2 : Int32) * nI k = nI (2 * k) from pk_mul 2 k, nI_add, n_inc, n_inc]
      refine c_Sh_look (by omega) hp hS hsz (by omega) (c_Sh_look (by omega) hp hS hsz (by omega) ?_)
      rw [em, (n_mv h3).1, (n_mv h3).2, cmp_eq]
      refine ⟨fun e => c_Bx_maySlide_1 (by omega) hw hB (by omega) h1 hf h2 ?_, fun e => c_Bx_maySlide_1 (by omega) hw hB (by omega) h1 hf h2 ?_⟩
      · rw [bI_1]
        rw [if_pos e, decide_eq_true e] at h
        refine ⟨fun z => c_Bx_behind_1 (by omega) hw hB (by omega) (by omega) h2 (may_place z).1 (ih (k + 1) _ (by omega) (okS_beh hw hs h1 h2 z) ?_), fun z => QI_i.mpr ?_⟩
        · rw [if_pos z] at h; exact h
        · rw [if_neg z] at h; exact h
      · rw [bI_0]
        rw [if_neg e, decide_eq_false e] at h
        refine ⟨fun z => ih (k + 1) _ (by omega) hs ?_, fun z => QI_i.mpr ?_⟩
        · rw [if_pos z] at h; exact h
        · rw [if_neg z] at h; exact h
  refine CI.of (by omega) rfl (vu_Sb_clicksSo_1_0 hp ?_)
  rw [h9]
  exact loop n 0 s (Nat.zero_add _) hs h
theorem c_Sb_clicksSo_21 {n s : Nat} (hd : 5 ≤ d) (hw : WFB B) (hB : BoxI 21 B I) (h9 : I 21 9 = nI s) (hs : okS B s) (hf : f < 64) (hp : Pl p) (hS : ShC p (some (l, sz, g)) I J) (hsz : sz ≤ 24) (hi : i + 2 * n ≤ sz) (hok : clkO g i B.pn n = true) (h : F (bI (clkN B f g i n 0 s)) I J) : CI d Sb_clicksSo [.ref 21, .int (nI f), .ref p, .int (nI i), .int (nI n)] I J F := by
  have hp5 := hw.1
  have loop : ∀ r k s, k + r = n → okS B s → F (bI (clkN B f g i r k s)) I J → Wp (d - 1) Sb_clicksSo (QI F) 9 [some (.ref 21), some (.int (nI f)), some (.ref p), some (.int (nI i)), some (.int (nI n)), some (.int (nI s)), some (.int (nI k)), none, none] [] I J := by
    intro r
    induction r with
    | zero =>
      intro k s hk hs hz
      have hk : k = n := by omega
      subst hk
      exact vu_Sb_clicksSo_21_9 hp ⟨fun q => absurd ((n_lt (by omega) (by omega)).mp q) (Nat.lt_irrefl _), fun _ => QI_i.mpr hz⟩
    | succ r ih =>
      intro k s hk hs h
      obtain ⟨m, em, h1, h2, h3, h4⟩ := okPr_i hp5 (clkO_at n hok k (by omega))
      have emv : mvN g i k = m := by unfold mvN; rw [em, lN_i, n_tN (by omega)]
      have hs2 := s31 hw hs.1
      simp only [clkN] at h
      rw [emv] at h
      refine vu_Sb_clicksSo_21_9 hp ⟨fun _ => ?_, fun q => absurd ((n_lt (by omega) (by omega)).mpr (by omega)) q⟩
      rw [show (2 : Int32) * nI k = nI (2 * k) from pk_mul 2 k, nI_add, n_inc, n_inc]
      refine c_Sh_look (by omega) hp hS hsz (by omega) (c_Sh_look (by omega) hp hS hsz (by omega) ?_)
      rw [em, (n_mv h3).1, (n_mv h3).2, cmp_eq]
      refine ⟨fun e => c_Bx_maySlide_21 (by omega) hw hB (by omega) h1 hf h2 ?_, fun e => c_Bx_maySlide_21 (by omega) hw hB (by omega) h1 hf h2 ?_⟩
      · rw [bI_1]
        rw [if_pos e, decide_eq_true e] at h
        refine ⟨fun z => c_Bx_behind_21 (by omega) hw hB (by omega) (by omega) h2 (may_place z).1 (ih (k + 1) _ (by omega) (okS_beh hw hs h1 h2 z) ?_), fun z => QI_i.mpr ?_⟩
        · rw [if_pos z] at h; exact h
        · rw [if_neg z] at h; exact h
      · rw [bI_0]
        rw [if_neg e, decide_eq_false e] at h
        refine ⟨fun z => ih (k + 1) _ (by omega) hs ?_, fun z => QI_i.mpr ?_⟩
        · rw [if_pos z] at h; exact h
        · rw [if_neg z] at h; exact h
  refine CI.of (by omega) rfl (vu_Sb_clicksSo_21_0 hp ?_)
  rw [h9]
  exact loop n 0 s (Nat.zero_add _) hs h
theorem c_Sb_areClicks {n : Nat} (hd : 3 ≤ d) (hw : WFV V) (hV : CBx 1 V I) (hp : Pl p) (hS : ShC p (some (l, sz, g)) I J) (hsz : sz ≤ 24) (hi : i + 2 * n ≤ sz) (h : F (bI (clkO g i V.B.pn n)) I J) : CI d Sb_areClicks [.ref 0, .ref p, .int (nI i), .int (nI n)] I J F := by
  have hp5 := hw.1.1
  have loop : ∀ r k, k + r = n → clkO g i V.B.pn k = true → Wp (d - 1) Sb_areClicks (QI F) 3 [some (.ref 0), some (.ref p), some (.int (nI i)), some (.int (nI n)), some (.int (nI k)), none, none, none, none] [] I J := by
    intro r
    induction r with
    | zero =>
      intro k hk he
      have hk : k = n := by omega
      subst hk
      rw [he] at h
      exact vu_Sb_areClicks_0_3 hp ⟨fun q => absurd ((n_lt (by omega) (by omega)).mp q) (Nat.lt_irrefl _), fun _ => QI_i.mpr h⟩
    | succ r ih =>
      intro k hk he
      have e1 : clkO g i V.B.pn (k + 1) = okPr V.B.pn (g (i + 2 * k)) (g (i + 2 * k + 1)) := by
        simp only [clkO]; rw [he, Bool.true_and]
      have bad : okPr V.B.pn (g (i + 2 * k)) (g (i + 2 * k + 1)) = false → QI F (some (.int 0)) I J := by
        intro q
        have e3 := clkO_up (e1.trans q) r
        rw [show k + 1 + r = n by omega] at e3
        rw [e3] at h
        exact QI_i.mpr h
      refine vu_Sb_areClicks_0_3 hp ⟨fun _ => ?_, fun q => absurd ((n_lt (by omega) (by omega)).mpr (by omega)) q⟩
      rw [show (2 : Int32) * nI k = nI (2 * k) from pk_mul 2 k, nI_add, n_inc, n_inc]
      refine c_Sh_look (by omega) hp hS hsz (by omega) (c_Sh_look (by omega) hp hS hsz (by omega) ?_)
      rw [hV.1.1, nI_l (by omega), cmp_lt, cmp_lt, cmp_gt, cmp_lt, cmp_gt]
      unfold okPr at bad e1
      refine ⟨fun q => bad (decide_eq_false (fun z => z.1 q)), fun q1 => ⟨fun q2 => ⟨fun q => bad (decide_eq_false (fun z => z.2.2.1 q)), fun q3 => ⟨fun q => bad (decide_eq_false (fun z => z.2.2.2.1 q)), fun q4 => ⟨fun q => bad (decide_eq_false (fun z => z.2.2.2.2 q)), fun q5 => ih (k + 1) (by omega) ?_⟩⟩⟩, fun q => bad (decide_eq_false (fun z => q z.2.1))⟩⟩
      rw [e1]; exact decide_eq_true ⟨q1, q2, q3, q4, q5⟩
  exact CI.of (by omega) rfl (vu_Sb_areClicks_0_0 hp (loop n 0 (Nat.zero_add _) rfl))
theorem lk_f {V : Bv} (hw : WFV V) {l : Nat} (hl : l < V.B.ln) : V.f ^^^ 2 ^ l < 64 := by
  have h6 := hw.1.2.1
  exact Nat.xor_lt_two_pow (n := 6) (f64 hw.1 hw.2.2.2.1) (Nat.pow_lt_pow_right (by decide) (by omega))
theorem c_Sb_locksBy {n : Nat} (hd : 6 ≤ d) (hw : WFV V) (hV : CBx 1 V I) (hp : Pl p) (hS : ShC p (some (l, sz, g)) I J) (hsz : sz ≤ 24) (hi : i + 2 * n ≤ sz) (hok : clkO g i V.B.pn n = true) (h : F (nI (lkS V g i n V.B.ln)) I J) : CI d Sb_locksByClicks [.ref 0, .ref p, .int (nI i), .int (nI n)] I J F := by
  have hl6 := hw.1.2.1
  have hf := f64 hw.1 hw.2.2.2.1
  have loop : ∀ r k, k + r = V.B.ln → Wp (d - 1) Sb_locksByClicks (QI F) 31 [some (.ref 0), some (.ref p), some (.int (nI i)), some (.int (nI n)), some (.int (nI (lkS V g i n k))), some (.int (nI k))] [] I J := by
    intro r
    induction r with
    | zero =>
      intro k hk
      have hk : k = V.B.ln := by omega
      subst hk
      refine vu_Sb_locksByClicks_0_31 hp ⟨fun q => ?_, fun _ => QI_i.mpr h⟩
      rw [hV.1.2.1] at q; exact absurd ((n_lt (by omega) (by omega)).mp q) (Nat.lt_irrefl _)
    | succ r ih =>
      intro k hk
      have hlt : k < V.B.ln := by omega
      have go := ih (k + 1) (by omega)
      simp only [lkS] at go
      refine vu_Sb_locksByClicks_0_31 hp ⟨fun _ => ?_, fun q => absurd ((n_lt (by omega) (by omega)).mpr hlt) (by rw [hV.1.2.1] at q; exact q)⟩
      rw [hV.2.2.2.1, n_one (by omega), n_xor, n_or, n_inc]
      refine c_Sb_clicksSo_1 (by omega) hw.1 hV.1 hV.2.2.1 hw.2.2.1 (lk_f hw hlt) hp hS hsz hi hok ?_
      rw [bI_0]
      refine ⟨fun e => ?_, fun e => ?_⟩
      · rw [if_neg (by rw [e]; decide), Nat.or_zero] at go; exact go
      · rw [if_pos (by simpa using e)] at go; exact go
  refine CI.of (by omega) rfl (vu_Sb_locksByClicks_0_0 hp ?_)
  rw [hV.2.2.2.1]
  refine c_Sb_clicksSo_1 (by omega) hw.1 hV.1 hV.2.2.1 hw.2.2.1 hf hp hS hsz hi hok ?_
  have go := loop V.B.ln 0 (Nat.zero_add _)
  simp only [lkS] at go
  rw [bI_0]
  refine ⟨fun e => ?_, fun e => ?_⟩
  · rw [if_neg (by rw [e]; decide)] at go; exact go
  · rw [if_pos (by simpa using e)] at go; exact go
theorem BoxI_setK {x k : Nat} {I' : I2} (hB : BoxI 21 B I) (h : ∀ a, a ≠ 22 → I' a = I a) (h2 : ∀ j, j ≠ x → I' 22 j = I 22 j) (h3 : I' 22 x = nI k) : BoxI 21 (B.setK x k) I' := by
  obtain ⟨b1, b2, b3, b4⟩ := hB
  refine ⟨by rw [h 21 (by decide)]; exact b1, by rw [h 21 (by decide)]; exact b2, fun q hq => ⟨?_, by rw [h (21 + 2) (by decide)]; exact (b3 q hq).2⟩, fun q hq => ?_⟩
  · show I' 22 q = nI (updN B.kd x k q)
    unfold updN
    by_cases e : q = x
    · rw [if_pos e, e, h3]
    · rw [if_neg e, h2 q e]; exact (b3 q hq).1
  · rw [h (21 + 3) (by decide), h (21 + 4) (by decide), h (21 + 5) (by decide), h (21 + 6) (by decide)]; exact b4 q hq
theorem c_Sb_kindsBy {n x : Nat} (hd : 6 ≤ d) (hw : WFV V) (hV : CBx 1 V I) (hx : x < V.B.pn) (hp : Pl p) (hS : ShC p (some (l, sz, g)) I J) (hsz : sz ≤ 24) (hi : i + 2 * n ≤ sz) (hok : clkO g i V.B.pn n = true) (h : ∀ I', (∀ a, (a < 21 ∨ 30 < a) → I' a = I a) → F (nI (kdS V g i n x 5)) I' J) : CI d Sb_kindsByClicks [.ref 0, .int (nI x), .ref p, .int (nI i), .int (nI n)] I J F := by
  have hp5 := hw.1.1
  have hf := f64 hw.1 hw.2.2.2.1
  have hp0 : p < 21 ∨ 30 < p := by rcases hp with e | e | e | e <;> omega
  refine CI.of (by omega) rfl (vu_Sb_kindsByClicks_0_0 hp (c_Bx_becomes_21_1 (by omega) hw hV (fun I1 q1 q2 q3 => ?_)))
  have loop : ∀ r k I2, k + r = 5 → (∀ a, a ≠ 22 → I2 a = I1 a) → (∀ j, j ≠ x → I2 22 j = I1 22 j) → Wp (d - 1) Sb_kindsByClicks (QI F) 17 [some (.ref 0), some (.int (nI x)), some (.ref p), some (.int (nI i)), some (.int (nI n)), some (.int (nI (kdS V g i n x k))), some (.int (nI k))] [] I2 J := by
    intro r
    induction r with
    | zero =>
      intro k I2 hk h1 h2
      have hk : k = 5 := by omega
      subst hk
      refine vu_Sb_kindsByClicks_0_17 hp ⟨fun _ => QI_i.mpr (h I2 (fun a ha => ?_)), fun q => absurd (by decide) q⟩
      rw [h1 a (by omega)]; exact q3 a ha
    | succ r ih =>
      intro k I2 hk h1 h2
      have go := ih (k + 1) (up2 I2 22 x (nI k)) (by omega) (fun a ha => by simp [up2, ha]; exact h1 a ha) (fun j hj => by simp [up2, upd, hj]; exact h2 j hj)
      simp only [kdS] at go
      refine vu_Sb_kindsByClicks_0_17 hp ⟨fun q => absurd ((n_lt (a := 4) (by decide) (by omega)).mp q) (by omega), fun _ => ⟨n_vp (by omega) (by decide), ?_⟩⟩
      rw [n_tN (by omega), h1 21 (by decide), q1.2.2.2.1, n_one (by omega), n_or, n_inc]
      have hB3 : BoxI 21 (V.B.setK x k) (up2 I2 22 x (nI k)) := BoxI_setK q1.1 (fun a ha => by simp [up2, ha]; exact h1 a ha) (fun j hj => by simp [up2, upd, hj]; exact h2 j hj) (by simp [up2, upd])
      have h9 : up2 I2 22 x (nI k) 21 9 = nI V.s := by
        simp [up2]; rw [h1 21 (by decide)]; exact q1.2.2.1
      have hS3 : ShC p (some (l, sz, g)) (up2 I2 22 x (nI k)) J := ShC_congr hS (by
        have : p ≠ 22 := by omega
        simp [up2, this]; rw [h1 p this]; exact q3 p hp0) rfl
      refine c_Sb_clicksSo_21 (B := V.B.setK x k) (by omega) (WFB_setK hw.1 (by omega)) hB3 h9 (okS_setK hw.2.2.1) hf hp hS3 hsz hi hok ?_
      rw [bI_0]
      refine ⟨fun e => ?_, fun e => ?_⟩
      · rw [if_neg (by rw [e]; decide), Nat.or_zero] at go; exact go
      · rw [if_pos (by simpa using e)] at go; exact go
  exact loop 5 0 I1 rfl (fun _ _ => rfl) (fun _ _ => rfl)
theorem c_Sb_clicks (hd : 7 ≤ d) (hw : WFV V) (hV : CBx 1 V I) (hS : ShCs S I J) (hW : WFSs S) (x y z j n : Int32) (h : ∀ I', (∀ a, (a < 21 ∨ 30 < a) → I' a = I a) → F (clicksF V S x y z j n) I' J) : CI d Sb_clicks [.ref 0, .int x, .int y, .int z, .int j, .int n] I J F := by
  have hp5 := hw.1.1
  have bad : ((¬ x = -4 ∧ ¬ inN x V.B.pn) ∨ ¬ inN y 4 ∨ ¬ inN z 4 ∨ n < 1 ∨ 8 < n) → QI F (some (.int (-1))) I J := by
    intro q
    rw [show clicksF V S x y z j n = -1 from if_pos q] at h
    exact QI_i.mpr (h I (fun _ _ => rfl))
  have rest : ∀ (X : Nat → I2 → J2 → Prop), ¬ ((¬ x = -4 ∧ ¬ inN x V.B.pn) ∨ ¬ inN y 4 ∨ ¬ inN z 4 ∨ n < 1 ∨ 8 < n) → ∀ i, i < 4 → y = nI i → (∀ l sz g c k, S i = some (l, sz, g) → sz ≤ 24 → c + 2 * k ≤ sz → n = nI k → j = nI c → clkO g c V.B.pn k = true → (∀ I', (∀ a, (a < 21 ∨ 30 < a) → I' a = I a) → F (if x = -4 then nI (lkS V g c k V.B.ln) else nI (kdS V g c k (tN x) 5)) I' J) → X (49 + 2 * i) I J) → CI (d - 1) Sh_fault [.ref (49 + 2 * i), .int z, .int j, .int (2 * n)] I J (fun v3 I3 J3 => (v3 = 0 → CI (d - 1) Sb_areClicks [.ref 0, .ref (49 + 2 * i), .int j, .int n] I3 J3 (fun v4 I4 J4 => (v4 = 0 → QI F (some (.int (-2))) I4 J4) ∧ (¬ (v4 = 0) → X (49 + 2 * i) I4 J4))) ∧ (¬ (v3 = 0) → QI F (some (.int v3)) I3 J3)) := by
    rintro X nb i hi rfl hX
    rw [show clicksF V S x (nI i) z j n = if faultS (S i) z j (2 * n) = 0 then (if clkO (itm (S i)) (tN j) V.B.pn (tN n) then (if x = -4 then nI (lkS V (itm (S i)) (tN j) (tN n) V.B.ln) else nI (kdS V (itm (S i)) (tN j) (tN n) (tN x) 5)) else -2) else faultS (S i) z j (2 * n) from (if_neg nb).trans (by rw [n_tN (by omega)])] at h
    simp only [not_or] at nb
    obtain ⟨n1, n2, n3, n4, n5⟩ := nb
    have n0 : ¬ n < 0 := fun q => n4 (Int32.lt_trans q (by decide))
    obtain ⟨k, hk, rfl⟩ := le_of (n := 8) n0 n5 (by decide)
    refine c_Sh_fault (by omega) (Pl_of hi) (hS i hi) (hW i hi) ⟨fun e => ?_, fun e => QI_i.mpr ?_⟩
    · rw [if_pos e] at h
      obtain ⟨l, sz, g, eS, ez, z1, z2, z3⟩ := fault_0 e
      obtain ⟨w1, w2⟩ := hW i hi l sz g eS
      obtain ⟨c, hc, rfl⟩ := nI_of z2
      rw [show (2 : Int32) * nI k = nI (2 * k) from pk_mul 2 k, n_tN hc, n_tN (by omega)] at z3
      have hSi := hS i hi
      rw [eS] at hSi
      rw [n_tN hc, n_tN (by omega), eS] at h
      refine c_Sb_areClicks (by omega) hw hV (Pl_of hi) hSi w2 z3 ?_
      rw [bI_0]
      have h : ∀ I', (∀ a, (a < 21 ∨ 30 < a) → I' a = I a) → F (if clkO g c V.B.pn k then (if x = -4 then nI (lkS V g c k V.B.ln) else nI (kdS V g c k (tN x) 5)) else -2) I' J := h
      refine ⟨fun e2 => QI_i.mpr ?_, fun e2 => ?_⟩
      · rw [if_neg (by rw [e2]; decide)] at h; exact h I (fun _ _ => rfl)
      · have e2 : clkO g c V.B.pn k = true := by simpa using e2
        rw [if_pos e2] at h
        exact hX l sz g c k eS w2 z3 rfl rfl e2 h
    · rw [if_neg e] at h; exact h I (fun _ _ => rfl)
  refine CI.of (by omega) rfl (v_Sb_clicks_0_0 ⟨fun e4 => c_Sb_isSheet (by omega) ?_, fun e4 => c_Bx_hasPanel_1 (by omega) hV.1 ?_⟩)
  · rw [in_dec]
    refine ⟨fun q => bad (Or.inr (Or.inl q)), fun q1 => c_Sb_isLane (by omega) ?_⟩
    rw [in_dec]
    refine ⟨fun q => bad (Or.inr (Or.inr (Or.inl q))), fun q2 => ⟨fun q => bad (Or.inr (Or.inr (Or.inr (Or.inl q)))), fun q3 => ⟨fun q => bad (Or.inr (Or.inr (Or.inr (Or.inr q)))), fun q4 => ?_⟩⟩⟩
    have nb : ¬ ((¬ x = -4 ∧ ¬ inN x V.B.pn) ∨ ¬ inN y 4 ∨ ¬ inN z 4 ∨ n < 1 ∨ 8 < n) := by
      rintro (q | q | q | q | q)
      · exact q.1 e4
      · exact q1 q
      · exact q2 q
      · exact q3 q
      · exact q4 q
    obtain ⟨i, hi, ey⟩ := in_of (Classical.not_not.mp q1) (by decide)
    have R := rest (fun p I J => CI (d - 1) Sb_locksByClicks [.ref 0, .ref p, .int j, .int n] I J (fun v5 I5 J5 => QI F (some (.int v5)) I5 J5)) nb i hi ey (fun l sz g c k a1 a2 a3 a4 a5 a6 a7 => ?_)
    · subst ey
      exact ⟨n_vp hi (by decide), four (A := fun p => CI (d - 1) Sh_fault [.ref p, .int z, .int j, .int (2 * n)] I J (fun v3 I3 J3 => (v3 = 0 → CI (d - 1) Sb_areClicks [.ref 0, .ref p, .int j, .int n] I3 J3 (fun v4 I4 J4 => (v4 = 0 → QI F (some (.int (-2))) I4 J4) ∧ (¬ (v4 = 0) → CI (d - 1) Sb_locksByClicks [.ref 0, .ref p, .int j, .int n] I4 J4 (fun v5 I5 J5 => QI F (some (.int v5)) I5 J5)))) ∧ (¬ (v3 = 0) → QI F (some (.int v3)) I3 J3))) hi R⟩
    · subst a4; subst a5
      rw [if_pos e4] at a7
      have hSi := hS i hi
      rw [a1] at hSi
      exact c_Sb_locksBy (by omega) hw hV (Pl_of hi) hSi a2 a3 a6 (QI_i.mpr (a7 I (fun _ _ => rfl)))
  · rw [in_dec]
    refine ⟨fun q => bad (Or.inl ⟨e4, q⟩), fun q0 => c_Sb_isSheet (by omega) ?_⟩
    rw [in_dec]
    refine ⟨fun q => bad (Or.inr (Or.inl q)), fun q1 => c_Sb_isLane (by omega) ?_⟩
    rw [in_dec]
    refine ⟨fun q => bad (Or.inr (Or.inr (Or.inl q))), fun q2 => ⟨fun q => bad (Or.inr (Or.inr (Or.inr (Or.inl q)))), fun q3 => ⟨fun q => bad (Or.inr (Or.inr (Or.inr (Or.inr q)))), fun q4 => ?_⟩⟩⟩
    have nb : ¬ ((¬ x = -4 ∧ ¬ inN x V.B.pn) ∨ ¬ inN y 4 ∨ ¬ inN z 4 ∨ n < 1 ∨ 8 < n) := by
      rintro (q | q | q | q | q)
      · exact q0 q.2
      · exact q1 q
      · exact q2 q
      · exact q3 q
      · exact q4 q
    obtain ⟨i, hi, ey⟩ := in_of (Classical.not_not.mp q1) (by decide)
    obtain ⟨x', hx, ex⟩ := in_of (Classical.not_not.mp q0) (by omega)
    have R := rest (fun p I J => CI (d - 1) Sb_kindsByClicks [.ref 0, .int x, .ref p, .int j, .int n] I J (fun v5 I5 J5 => QI F (some (.int v5)) I5 J5)) nb i hi ey (fun l sz g c k a1 a2 a3 a4 a5 a6 a7 => ?_)
    · subst ey
      exact ⟨n_vp hi (by decide), four (A := fun p => CI (d - 1) Sh_fault [.ref p, .int z, .int j, .int (2 * n)] I J (fun v3 I3 J3 => (v3 = 0 → CI (d - 1) Sb_areClicks [.ref 0, .ref p, .int j, .int n] I3 J3 (fun v4 I4 J4 => (v4 = 0 → QI F (some (.int (-2))) I4 J4) ∧ (¬ (v4 = 0) → CI (d - 1) Sb_kindsByClicks [.ref 0, .int x, .ref p, .int j, .int n] I4 J4 (fun v5 I5 J5 => QI F (some (.int v5)) I5 J5)))) ∧ (¬ (v3 = 0) → QI F (some (.int v3)) I3 J3))) hi R⟩
    · subst a4; subst a5
      rw [if_neg e4, ex, n_tN (by omega)] at a7
      have hSi := hS i hi
      rw [a1] at hSi
      rw [ex]
      exact c_Sb_kindsBy (by omega) hw hV hx (Pl_of hi) hSi a2 a3 a6 (fun I' hI' => QI_i.mpr (a7 I' hI'))
end CLK
end
section
/-! clicks: the model -/
section CLK2
variable {d : Nat} {V : Bv} {S : Nat → Shv} {I : I2} {J : J2} {F : Int32 → I2 → J2 → Prop} {B : Bx} {f i : Nat} {g : Nat → Int64}
theorem n_or0 (a : Nat) : nI a ||| 0 = nI a := by
  rw [show (0 : Int32) = nI 0 from rfl, n_or, Nat.or_zero]
theorem BoxM_setK {x k : Nat} {I' : I2} (hx : x < B.pn) (hp5 : B.pn ≤ 5) (hl6 : B.ln ≤ 6) (hB : BoxM B I) (h2 : ∀ j, j ≠ 6 + 2 * x → I' 58 j = I 58 j) (h3 : I' 58 (6 + 2 * x) = nI k) : BoxM (B.setK x k) I' := by
  obtain ⟨b1, b2, b3, b4⟩ := hB
  refine ⟨by rw [h2 0 (by omega)]; exact b1, by rw [h2 1 (by omega)]; exact b2, fun q hq => ⟨?_, by rw [h2 _ (by omega)]; exact (b3 q hq).2⟩, fun q hq => ?_⟩
  · show I' 58 (6 + 2 * q) = nI (updN B.kd x k q)
    unfold updN
    by_cases e : q = x
    · rw [if_pos e, e, h3]
    · rw [if_neg e, h2 _ (by omega)]; exact (b3 q hq).1
  · rw [h2 _ (by omega), h2 _ (by omega), h2 _ (by omega), h2 _ (by omega)]; exact b4 q hq
theorem in10 {a : Int64} {pn : Nat} (hp : pn ≤ 5) : bI (decide (¬ a < 0) && decide (¬ 10 * (nI pn).toInt64 - 1 < a)) = 0 ↔ ¬ (¬ a < 0 ∧ a / 10 < lN pn) := by
  rw [bI_0, Bool.and_eq_false_iff, decide_eq_false_iff_not, decide_eq_false_iff_not, nI_l (by omega), show (10 : Int64) * lN pn = lN (10 * pn) from lN_mul 10 pn]
  constructor
  · rintro (q | q) ⟨z1, z2⟩
    · exact q z1
    · obtain ⟨m, hm, rfl⟩ := pk_lOf z1
      rw [show lN m / 10 = lN (m / 10) from pk_lDiv (b := 10) hm (by decide) (by decide), pk_lLT (by omega) (by omega)] at z2
      rw [show lN (10 * pn) - 1 = lN (10 * pn - 1) from lN_sub (b := 1) (by omega), pk_lLT (by omega) hm] at q
      exact q (by omega)
  · intro q
    by_cases z1 : a < 0
    · exact Or.inl (fun y => y z1)
    · refine Or.inr (fun y => q ⟨z1, ?_⟩)
      obtain ⟨m, hm, rfl⟩ := pk_lOf z1
      rw [show lN m / 10 = lN (m / 10) from pk_lDiv (b := 10) hm (by decide) (by decide), pk_lLT (by omega) (by omega)]
      rcases Nat.eq_zero_or_pos pn with e | e
      · subst e
        refine absurd ?_ y
        rw [show lN (10 * 0) - 1 = -1 from by decide]
        rw [Int64.lt_iff_toInt_lt, pk_lT hm, show (-1 : Int64).toInt = -1 from by decide]; omega
      · rw [show lN (10 * pn) - 1 = lN (10 * pn - 1) from lN_sub (b := 1) (by omega), pk_lLT (by omega) hm] at y
        omega
theorem in01 {b : Int64} : bI (decide (¬ b < 0) && decide (¬ 1 < b)) = 0 ↔ ¬ (¬ b < 0 ∧ ¬ 1 < b) := by
  rw [bI_0, Bool.and_eq_false_iff, decide_eq_false_iff_not, decide_eq_false_iff_not]
  constructor
  · rintro (q | q) ⟨z1, z2⟩
    · exact q z1
    · exact q z2
  · intro q
    by_cases z1 : b < 0
    · exact Or.inl (fun y => y z1)
    · exact Or.inr (fun y => q ⟨z1, y⟩)
theorem in18 {n : Int32} : bI (decide (¬ n.toInt64 < 1) && decide (¬ (8 : Int64) < n.toInt64)) = 0 ↔ (n < 1 ∨ 8 < n) := in_rng (lo := 1) (hi := 8) (by decide) (by decide)
end CLK2
end
section
/-! the tape, and the reading of it: what it is; the class' small readers -/
abbrev Tpe : Type := Nat × (Nat → Nat)
def skF (c : Nat → Nat) : Nat → Nat → Nat
  | 0, p => p
  | k + 1, p => if c p = 32 then skF c k (p + 1) else p
/-- behind blanks -/
def skT (t : Tpe) (p : Nat) : Nat := skF t.2 (t.1 - p) p
/-- the letter there (0: the end) -/
def hrT (t : Tpe) (p : Nat) : Nat := if skT t p < t.1 then t.2 (skT t p) else 0
def idK (c : Nat) : Option Nat := if c = 112 then some 0 else if c = 115 then some 1 else if c = 114 then some 2 else if c = 108 then some 3 else if c = 98 then some 4 else none
def idW (c : Nat) : Option Nat := if c = 60 then some 0 else if c = 62 then some 1 else if c = 61 then some 2 else none
def pDig (t : Tpe) (lo hi p : Nat) : Nat × Option Nat := if 48 + lo ≤ hrT t p ∧ hrT t p ≤ 48 + hi then (skT t p + 1, some (hrT t p - 48)) else (skT t p, none)
def pPan1 (t : Tpe) (p : Nat) : Nat × Option (Nat × Nat) := match idK (hrT t p) with
  | none => (skT t p, none)
  | some kd => match pDig t 1 3 (skT t p + 1) with
    | (q, none) => (q, none)
    | (q, some dp) => (q, some (kd, dp))
def pPan (t : Tpe) : Nat → Nat → Nat → Bx → Option Nat → Nat × Option (Bx × Option Nat)
  | 0, _, p, B, lid => (p, some (B, lid))
  | r + 1, k, p, B, lid => if 0 < k ∧ hrT t p ≠ 44 then (skT t p, some (B, lid)) else
    match pPan1 t (if 0 < k then skT t p + 1 else p) with
    | (q, none) => (q, none)
    | (q, some x) => if lid = none ∧ hrT t q = 33 then pPan t r (k + 1) (skT t q + 1) (B.addP x.1 x.2) (some k) else pPan t r (k + 1) q (B.addP x.1 x.2) lid
def pPl (t : Tpe) (dp : Nat) : Nat → Nat → Nat → Nat → Nat × Nat
  | 0, _, a, p => (p, a)
  | r + 1, lo, a, p => match pDig t lo dp p with
    | (q, none) => (q, a)
    | (q, some v) => pPl t dp r (v + 1) (a ||| 2 ^ v) q
def pLk1 (t : Tpe) (B : Bx) (p : Nat) : Nat × Option (Nat × Nat × Nat × Nat) := match pDig t 0 (B.pn - 1) p with
  | (q, none) => (q, none)
  | (q, some a) => match idW (hrT t q) with
    | none => (skT t q, none)
    | some w => if hrT t (skT t q + 1) = 48 + a then (skT t (skT t q + 1), none) else match pDig t 0 (B.pn - 1) (skT t q + 1) with
      | (q2, none) => (q2, none)
      | (q2, some o) => if (pPl t (B.dp o) (B.dp o + 1) 0 0 q2).2 = 0 then (skT t (pPl t (B.dp o) (B.dp o + 1) 0 0 q2).1, none) else ((pPl t (B.dp o) (B.dp o + 1) 0 0 q2).1, some (a, w, o, (pPl t (B.dp o) (B.dp o + 1) 0 0 q2).2))
def pLks (t : Tpe) : Nat → Nat → Nat → Bx → Nat × Option Bx
  | 0, _, p, B => if hrT t p = 0 then (skT t p, some B) else (skT t p, none)
  | r + 1, l, p, B => if 0 < l ∧ hrT t p ≠ 44 then (if hrT t p = 0 then (skT t p, some B) else (skT t p, none)) else
    match pLk1 t B (if 0 < l then skT t p + 1 else p) with
    | (q, none) => (q, none)
    | (q, some x) => pLks t r (l + 1) q (B.addL x.1 x.2.1 x.2.2.1 x.2.2.2)
def Bx0 : Bx := ((0, 0), (fun _ => 0, fun _ => 0), (fun _ => 0, fun _ => 0, fun _ => 0, fun _ => 0))
def boxR (t : Tpe) : Nat × Option (Bx × Option Nat) := match pPan t 5 0 0 Bx0 none with
  | (q, none) => (q, none)
  | (q, some x) => if hrT t q = 0 then (q, some x) else if hrT t q = 59 then (match pLks t 6 0 (skT t q + 1) x.1 with
    | (q', none) => (q', none)
    | (q', some B) => (q', some (B, x.2))) else (skT t q, none)
def lidN (o : Option Nat) : Nat := match o with
  | some k => k
  | none => 0
def boxS (V : Bv) (t : Tpe) : Int32 × Bv := match boxR t with
  | (q, none) => (-20 - nI q, V)
  | (_, some x) => (nI x.1.pn, (x.1, (lidN x.2, 0, 0, V.dr), []))
def typeS (t : Tpe) (x : Int32) : Int32 × Tpe := if x < 32 ∨ 126 < x then (-1, t) else if t.1 < 90 then (nI (t.1 + 1), (t.1 + 1, updN t.2 t.1 (tN x))) else (-3, t)
def WFT (t : Tpe) : Prop := t.1 ≤ 90 ∧ ∀ k, k < t.1 → 32 ≤ t.2 k ∧ t.2 k ≤ 126
/-! blanks -/
theorem sk_step {t : Tpe} {p : Nat} (h : p < t.1) (h2 : t.2 p = 32) : skT t p = skT t (p + 1) := by
  unfold skT
  rw [show t.1 - p = (t.1 - (p + 1)) + 1 by omega]
  simp only [skF]; rw [if_pos h2]
theorem sk_stop {t : Tpe} {p : Nat} (h : ¬ (p < t.1 ∧ t.2 p = 32)) : skT t p = p := by
  unfold skT
  rcases Nat.lt_or_ge p t.1 with h1 | h1
  · rw [show t.1 - p = (t.1 - (p + 1)) + 1 by omega]
    simp only [skF]; rw [if_neg (fun q => h ⟨h1, q⟩)]
  · rw [show t.1 - p = 0 by omega]; rfl
theorem sk_fin {t : Tpe} : ∀ k p, p + k = t.1 → p ≤ skT t p ∧ skT t p ≤ t.1 ∧ skT t (skT t p) = skT t p := by
  intro k
  induction k with
  | zero =>
    intro p hp
    have e : skT t p = p := sk_stop (fun q => by omega)
    rw [e]; exact ⟨Nat.le_refl _, by omega, e⟩
  | succ k ih =>
    intro p hp
    by_cases h : t.2 p = 32
    · have := ih (p + 1) (by omega)
      rw [sk_step (by omega) h]; exact ⟨by omega, this.2⟩
    · have e : skT t p = p := sk_stop (fun q => h q.2)
      rw [e]; exact ⟨Nat.le_refl _, by omega, e⟩
theorem sk_le {t : Tpe} {p : Nat} (h : p ≤ t.1) : skT t p ≤ t.1 := (sk_fin (t.1 - p) p (by omega)).2.1
theorem sk_sk {t : Tpe} {p : Nat} (h : p ≤ t.1) : skT t (skT t p) = skT t p := (sk_fin (t.1 - p) p (by omega)).2.2
theorem hr_sk {t : Tpe} {p : Nat} (h : p ≤ t.1) : hrT t (skT t p) = hrT t p := by
  unfold hrT; rw [sk_sk h]
theorem hr_same {t : Tpe} {p q : Nat} (h : skT t p = skT t q) : hrT t p = hrT t q := by
  unfold hrT; rw [h]
theorem hr_lt {t : Tpe} {p : Nat} (h : hrT t p ≠ 0) : skT t p < t.1 := by
  rcases Nat.lt_or_ge (skT t p) t.1 with q | q
  · exact q
  · exfalso; apply h; unfold hrT; exact if_neg (by omega)
theorem hr_bd {t : Tpe} {p : Nat} (hW : WFT t) : hrT t p ≤ 126 := by
  unfold hrT
  split
  · next h => exact (hW.2 _ h).2
  · omega
theorem hr_sp {t : Tpe} {p : Nat} (hW : WFT t) (hp : p ≤ t.1) : hrT t p = 0 ∨ (skT t p < t.1 ∧ 32 < hrT t p) := by
  by_cases e : hrT t p = 0
  · exact Or.inl e
  · have h := hr_lt e
    refine Or.inr ⟨h, ?_⟩
    have h1 := (hW.2 _ h).1
    have e2 : hrT t p = t.2 (skT t p) := if_pos h
    rw [e2]
    rcases Nat.lt_or_ge 32 (t.2 (skT t p)) with q | q
    · exact q
    · have e3 : t.2 (skT t p) = 32 := by omega
      have e4 := sk_step h e3
      rw [sk_sk hp] at e4
      have e5 := (sk_fin (t := t) (t.1 - (skT t p + 1)) (skT t p + 1) (by omega)).1
      omega
theorem ch_nar : ∀ c, c < 128 → vp_nar .char (nI c) = nI c := by decide +kernel
theorem ch_i2c : ∀ c, c < 128 → i2c (nI c) = nI c := by decide +kernel
/-- the tape of the class; where it is read, blanks aside -/
def TpC (t : Tpe) (I : I2) : Prop := I 31 1 = nI t.1 ∧ ∀ k, k < t.1 → I 32 k = nI (t.2 k)
def AtC (t : Tpe) (p : Nat) (I : I2) : Prop := ∃ p', p' ≤ t.1 ∧ skT t p' = skT t p ∧ I 31 2 = nI p'
/-- the place alone -/
def FrT (I I' : I2) : Prop := (∀ a, a ≠ 31 → I' a = I a) ∧ ∀ k, k ≠ 2 → I' 31 k = I 31 k
theorem FrT.rf {I : I2} : FrT I I := ⟨fun _ _ => rfl, fun _ _ => rfl⟩
theorem FrT.tr {I0 I1 I2 : I2} (h1 : FrT I0 I1) (h2 : FrT I1 I2) : FrT I0 I2 := ⟨fun a x => (h2.1 a x).trans (h1.1 a x), fun k x => (h2.2 k x).trans (h1.2 k x)⟩
theorem FrT_up {I : I2} {x : Int32} : FrT I (up2 I 31 2 x) := ⟨fun a h => by simp [up2, h], fun k h => by simp [up2, upd, h]⟩
theorem FrT.tpc {t : Tpe} {I I' : I2} (h : FrT I I') (hT : TpC t I) : TpC t I' := ⟨by rw [h.2 1 (by decide)]; exact hT.1, fun k hk => by rw [h.1 32 (by decide)]; exact hT.2 k hk⟩
theorem AtC_of {t : Tpe} {q : Nat} {I : I2} (hq : q ≤ t.1) (h : I 31 2 = nI q) : AtC t q I := ⟨q, hq, rfl, h⟩
theorem AtC.le {t : Tpe} {p : Nat} {I : I2} (h : AtC t p I) : skT t p ≤ t.1 := by
  obtain ⟨p', h1, h2, _⟩ := h
  rw [← h2]; exact sk_le h1
theorem AtC.ss {t : Tpe} {p : Nat} {I : I2} (h : AtC t p I) : skT t (skT t p) = skT t p := by
  obtain ⟨p', h1, h2, _⟩ := h
  rw [← h2]; exact sk_sk h1
theorem AtC.sk {t : Tpe} {p : Nat} {I I' : I2} (h : AtC t p I) (h2 : I' 31 2 = nI (skT t p)) : AtC t p I' := ⟨skT t p, h.le, h.ss, h2⟩
section TAPE
variable {d p : Nat} {t : Tpe} {I : I2} {J : J2} {G : I2 → J2 → Prop} {F : Int32 → I2 → J2 → Prop}
theorem l_Tp_peek (hW : WFT t) : ∀ k p I, p + k = t.1 → TpC t I → I 31 2 = nI p → (∀ I', FrT I I' → I' 31 2 = nI (skT t p) → F (nI (hrT t p)) I' J) → Wp d Tp_peek (QI F) 0 [some (.ref 31)] [] I J := by
  have h90 := hW.1
  intro k
  induction k with
  | zero =>
    intro p I hp hT h2 h
    have e : skT t p = p := sk_stop (fun q => by omega)
    refine v_Tp_peek_31_0 ⟨fun q => ?_, fun _ => ⟨by decide, QI_i.mpr ?_⟩⟩
    · rw [h2, hT.1] at q; exact absurd ((n_lt (by omega) (by omega)).mp q) (by omega)
    · have h := h I FrT.rf (by rw [e]; exact h2)
      rw [show hrT t p = 0 from if_neg (by rw [e]; omega)] at h
      exact h
  | succ k ih =>
    intro p I hp hT h2 h
    have hlt : p < t.1 := by omega
    have hc := hW.2 p hlt
    refine v_Tp_peek_31_0 ⟨fun _ => ⟨fun _ => ?_, fun q => ?_⟩, fun q => ?_⟩
    · rw [h2, n_tN (by omega), hT.2 p hlt, show (nI (t.2 p) = 32) = (nI (t.2 p) = nI 32) from rfl, n_eq (by omega) (by decide), n_inc]
      refine ⟨n_vp (by omega) (by decide), fun e => ?_, fun e => ⟨n_vp (by omega) (by decide), ch_nar _ (by omega), QI_i.mpr ?_⟩⟩
      · refine ih (p + 1) _ (by omega) (FrT_up.tpc hT) (by simp [up2, upd]) (fun I' k1 k2 => ?_)
        rw [← sk_step hlt e] at k2
        have := h I' (FrT_up.tr k1) k2
        rw [hr_same (sk_step hlt e)] at this; exact this
      · have e2 : skT t p = p := sk_stop (fun q => e q.2)
        have h := h I FrT.rf (by rw [e2]; exact h2)
        rw [show hrT t p = t.2 p from (if_pos (by rw [e2]; exact hlt)).trans (by rw [e2])] at h
        exact h
    · rw [h2] at q; exact absurd ((n_lt (b := 90) (by omega) (by decide)).mpr (by omega)) q
    · rw [h2, hT.1] at q; exact absurd ((n_lt (by omega) (by omega)).mpr hlt) q
theorem c_Tp_peek (hd : 1 ≤ d) (hW : WFT t) (hT : TpC t I) (hp : AtC t p I) (h : ∀ I', FrT I I' → I' 31 2 = nI (skT t p) → F (nI (hrT t p)) I' J) : CI d Tp_peek [.ref 31] I J F := by
  obtain ⟨p', h1, h2, h3⟩ := hp
  refine CI.of hd rfl (l_Tp_peek hW (t.1 - p') p' I (by omega) hT h3 (fun I' k1 k2 => ?_))
  rw [h2] at k2
  rw [hr_same h2]
  exact h I' k1 k2
theorem c_Tp_isEnd (hd : 2 ≤ d) (hW : WFT t) (hT : TpC t I) (hp : AtC t p I) (h : ∀ I', FrT I I' → I' 31 2 = nI (skT t p) → F (bI (decide (hrT t p = 0))) I' J) : CI d Tp_isEnd [.ref 31] I J F := by
  have hb := hr_bd (p := p) hW
  refine CI.of (by omega) rfl (v_Tp_isEnd_31_0 (c_Tp_peek (by omega) hW hT hp (fun I' k1 k2 => ?_)))
  have h := h I' k1 k2
  rw [n_e0 (by omega)]
  refine ⟨fun e => QI_i.mpr ?_, fun e => QI_i.mpr ?_⟩
  · rw [decide_eq_true e] at h; exact h
  · rw [decide_eq_false e] at h; exact h
theorem c_Tp_accept {x : Nat} (hd : 2 ≤ d) (hW : WFT t) (hT : TpC t I) (hp : AtC t p I) (hx : x < 200) (h0 : hrT t p ≠ x → ∀ I', FrT I I' → I' 31 2 = nI (skT t p) → F 0 I' J) (h1 : hrT t p = x → ∀ I', FrT I I' → I' 31 2 = nI (skT t p + 1) → F 1 I' J) : CI d Tp_accept [.ref 31, .int (nI x)] I J F := by
  have hb := hr_bd (p := p) hW
  refine CI.of (by omega) rfl (v_Tp_accept_31_0 (c_Tp_peek (by omega) hW hT hp (fun I' k1 k2 => ?_)))
  rw [n_eq (by omega) (by omega), k2, n_inc]
  exact ⟨fun e => QI_i.mpr (h1 e _ (k1.tr FrT_up) (by simp [up2, upd])), fun e => QI_i.mpr (h0 e I' k1 k2)⟩
theorem sub_gt {a b c : Nat} (ha : a < 2 ^ 30) (hb : b < 2 ^ 31) (hc : c < 2 ^ 30) : nI c < nI a - nI b ↔ c + b < a := by
  by_cases h : b ≤ a
  · rw [n_sub h, n_lt (by omega) (by omega)]; omega
  · have e : nI a - nI b = -nI (b - a) := by
      rw [← n_sub (a := b) (b := a) (by omega), Int32.neg_sub]
    have e2 : ¬ nI c < nI a - nI b := by
      rw [e, Int32.lt_iff_toInt_lt, sb_negT (by omega), nI_toInt (by omega)]; omega
    exact ⟨fun q => absurd q e2, fun q => by omega⟩
theorem c_Tp_digit {lo hi : Nat} (hd : 2 ≤ d) (hW : WFT t) (hT : TpC t I) (hp : AtC t p I) (hlo : lo < 200) (hhi : hi < 200) (h0 : ∀ q I', pDig t lo hi p = (q, none) → q ≤ t.1 → FrT I I' → I' 31 2 = nI q → F (-1) I' J) (h1 : ∀ q v I', pDig t lo hi p = (q, some v) → q ≤ t.1 → lo ≤ v → v ≤ hi → FrT I I' → I' 31 2 = nI q → F (nI v) I' J) : CI d Tp_digit [.ref 31, .int (nI lo), .int (nI hi)] I J F := by
  have hb := hr_bd (p := p) hW
  refine CI.of (by omega) rfl (v_Tp_digit_31_0 (c_Tp_peek (by omega) hW hT hp (fun I' k1 k2 => ?_)))
  unfold pDig at h0 h1
  rw [show (48 : Int32) = nI 48 from rfl, sub_lt (by omega) (by omega) (by omega), sub_gt (by omega) (by omega) (by omega), k2, n_inc]
  have bad : ¬ (48 + lo ≤ hrT t p ∧ hrT t p ≤ 48 + hi) → F (-1) I' J := by
    intro q
    rw [if_neg q] at h0
    exact h0 _ I' rfl hp.le k1 k2
  refine ⟨fun e => QI_i.mpr (bad (by omega)), fun e => ⟨fun e2 => QI_i.mpr (bad (by omega)), fun e2 => ?_⟩⟩
  have q : 48 + lo ≤ hrT t p ∧ hrT t p ≤ 48 + hi := ⟨by omega, by omega⟩
  rw [if_pos q] at h1
  have hl := hr_lt (t := t) (p := p) (by omega)
  rw [n_sub (by omega)]
  exact QI_i.mpr (h1 _ _ _ rfl (by omega) (by omega) (by omega) (k1.tr FrT_up) (by simp [up2, upd]))
def oI (o : Option Nat) : Int32 := match o with
  | some k => nI k
  | none => -1
theorem tx1_i : ∀ c, c < 128 → txF (nI c) tx1 0 = oI (idK c) := by decide +kernel
theorem tx2_i : ∀ c, c < 128 → txF (nI c) tx2 0 = oI (idW c) := by decide +kernel
theorem idK_5 {c k : Nat} (h : idK c = some k) : k ≤ 4 ∧ c ≠ 0 := by
  unfold idK at h
  split at h
  · cases h; exact ⟨by decide, by omega⟩
  · split at h
    · cases h; exact ⟨by decide, by omega⟩
    · split at h
      · cases h; exact ⟨by decide, by omega⟩
      · split at h
        · cases h; exact ⟨by decide, by omega⟩
        · split at h
          · cases h; exact ⟨by decide, by omega⟩
          · cases h
theorem idW_3 {c k : Nat} (h : idW c = some k) : k ≤ 2 ∧ c ≠ 0 := by
  unfold idW at h
  split at h
  · cases h; exact ⟨by decide, by omega⟩
  · split at h
    · cases h; exact ⟨by decide, by omega⟩
    · split at h
      · cases h; exact ⟨by decide, by omega⟩
      · cases h
theorem c_Tp_oneOfK (hd : 2 ≤ d) (hW : WFT t) (hT : TpC t I) (hp : AtC t p I) (h0 : idK (hrT t p) = none → ∀ I', FrT I I' → I' 31 2 = nI (skT t p) → F (-1) I' J) (h1 : ∀ k, idK (hrT t p) = some k → k ≤ 4 → skT t p + 1 ≤ t.1 → ∀ I', FrT I I' → I' 31 2 = nI (skT t p + 1) → F (nI k) I' J) : CI d Tp_oneOf [.ref 31, .ref 201] I J F := by
  have hb := hr_bd (p := p) hW
  refine CI.of (by omega) rfl (v_Tp_oneOf_31_201_0 (c_Tp_peek (by omega) hW hT hp (fun I' k1 k2 => ?_)))
  rw [tx1_i _ (by omega), k2, n_inc]
  cases e : idK (hrT t p) with
  | none => exact ⟨fun _ => QI_i.mpr (h0 e I' k1 k2), fun q => absurd (by decide) q⟩
  | some k =>
    obtain ⟨e1, e2⟩ := idK_5 e
    have hl := hr_lt e2
    exact ⟨fun q => absurd q (nI_pos (by omega)), fun _ => QI_i.mpr (h1 k e e1 hl _ (k1.tr FrT_up) (by simp [up2, upd]))⟩
theorem c_Tp_oneOfW (hd : 2 ≤ d) (hW : WFT t) (hT : TpC t I) (hp : AtC t p I) (h0 : idW (hrT t p) = none → ∀ I', FrT I I' → I' 31 2 = nI (skT t p) → F (-1) I' J) (h1 : ∀ k, idW (hrT t p) = some k → k ≤ 2 → skT t p + 1 ≤ t.1 → ∀ I', FrT I I' → I' 31 2 = nI (skT t p + 1) → F (nI k) I' J) : CI d Tp_oneOf [.ref 31, .ref 202] I J F := by
  have hb := hr_bd (p := p) hW
  refine CI.of (by omega) rfl (v_Tp_oneOf_31_202_0 (c_Tp_peek (by omega) hW hT hp (fun I' k1 k2 => ?_)))
  rw [tx2_i _ (by omega), k2, n_inc]
  cases e : idW (hrT t p) with
  | none => exact ⟨fun _ => QI_i.mpr (h0 e I' k1 k2), fun q => absurd (by decide) q⟩
  | some k =>
    obtain ⟨e1, e2⟩ := idW_3 e
    have hl := hr_lt e2
    exact ⟨fun q => absurd q (nI_pos (by omega)), fun _ => QI_i.mpr (h1 k e e1 hl _ (k1.tr FrT_up) (by simp [up2, upd]))⟩
end TAPE
end
section
/-! the tape: the class reads a box -/
def DrC (B : Bx) (lid : Option Nat) (I : I2) : Prop := BoxI 21 B I ∧ I 21 8 = nI (lidN lid) ∧ I 21 9 = 0 ∧ I 21 10 = 0 ∧ I 21 15 = 0 ∧ I 21 16 = 0
def FrP (I I' : I2) : Prop := (∀ a, (a < 21 ∨ 31 < a) → I' a = I a) ∧ ∀ k, k ≠ 2 → I' 31 k = I 31 k
theorem FrP.rf {I : I2} : FrP I I := ⟨fun _ _ => rfl, fun _ _ => rfl⟩
theorem FrP.tr {I0 I1 I2 : I2} (h1 : FrP I0 I1) (h2 : FrP I1 I2) : FrP I0 I2 := ⟨fun a x => (h2.1 a x).trans (h1.1 a x), fun k x => (h2.2 k x).trans (h1.2 k x)⟩
theorem FrT.p {I I' : I2} (h : FrT I I') : FrP I I' := ⟨fun a x => h.1 a (by omega), h.2⟩
theorem FrP.tpc {t : Tpe} {I I' : I2} (h : FrP I I') (hT : TpC t I) : TpC t I' := ⟨by rw [h.2 1 (by decide)]; exact hT.1, fun k hk => by rw [h.1 32 (by decide)]; exact hT.2 k hk⟩
theorem DrC_t {B : Bx} {lid : Option Nat} {I I' : I2} (h : DrC B lid I) (hF : FrT I I') : DrC B lid I' := by
  obtain ⟨⟨b1, b2, b3, b4⟩, c8, c9, c10, c15, c16⟩ := h
  have e : ∀ a, a ≠ 31 → I' a = I a := hF.1
  refine ⟨⟨by rw [e 21 (by decide)]; exact b1, by rw [e 21 (by decide)]; exact b2, fun q hq => ?_, fun q hq => ?_⟩, by rw [e 21 (by decide)]; exact c8, by rw [e 21 (by decide)]; exact c9, by rw [e 21 (by decide)]; exact c10, by rw [e 21 (by decide)]; exact c15, by rw [e 21 (by decide)]; exact c16⟩
  · rw [e (21 + 1) (by decide), e (21 + 2) (by decide)]; exact b3 q hq
  · rw [e (21 + 3) (by decide), e (21 + 4) (by decide), e (21 + 5) (by decide), e (21 + 6) (by decide)]; exact b4 q hq
theorem sub_eq {a b c : Nat} (ha : a < 2 ^ 30) (hb : b < 2 ^ 30) (hc : c < 2 ^ 30) : nI a - nI b = nI c ↔ a = b + c := by
  by_cases h : b ≤ a
  · rw [n_sub h, n_eq (by omega) (by omega)]; omega
  · have e : nI a - nI b = -nI (b - a) := by
      rw [← n_sub (a := b) (b := a) (by omega), Int32.neg_sub]
    have e2 : ¬ nI a - nI b = nI c := by
      intro q
      have := congrArg Int32.toInt q
      rw [e, sb_negT (by omega), nI_toInt (by omega)] at this; omega
    exact ⟨fun q => absurd q e2, fun q => by omega⟩
section TAPE2
variable {d p : Nat} {t : Tpe} {B : Bx} {lid : Option Nat} {I : I2} {J : J2} {G : I2 → J2 → Prop} {F : Int32 → I2 → J2 → Prop}
theorem c_Bx_addPanel_21 {k dp : Nat} (hd : 1 ≤ d) (hD : DrC B lid I) (h5 : B.pn < 5) (h : ∀ I', DrC (B.addP k dp) lid I' → FrP I I' → I' 31 = I 31 → F (nI B.pn) I' J) : CI d Bx_addPanel [.ref 21, .int (nI k), .int (nI dp)] I J F := by
  obtain ⟨⟨b1, b2, b3, b4⟩, c8, c9, c10, c15, c16⟩ := hD
  refine CI.of hd rfl (v_Bx_addPanel_21_0 ⟨fun _ => ?_, fun q => absurd ?_ q⟩)
  · rw [b1, n_tN (by omega)]
    have hv := n_vp (a := B.pn) (n := 5) h5 (by decide)
    refine ⟨hv, hv, QI_i.mpr (h _ ⟨⟨?_, ?_, fun q hq => ?_, fun q hq => ?_⟩, ?_, ?_, ?_, ?_, ?_⟩ ⟨fun a ha => ?_, fun q _ => ?_⟩ ?_)⟩
    · simp [up2, upd]; rw [n_inc]; rfl
    · simp [up2, upd]; exact b2
    · have hq : q < B.pn + 1 := hq
      show _ = nI (updN B.kd B.pn k q) ∧ _ = nI (updN B.dp B.pn dp q)
      by_cases e : q = B.pn
      · simp [up2, upd, updN, e]
      · simp only [updN, if_neg e]
        simp [up2, upd, e]
        exact b3 q (by omega)
    · simp [up2]; exact b4 q hq
    · simp [up2, upd]; exact c8
    · simp [up2, upd]; exact c9
    · simp [up2, upd]; exact c10
    · simp [up2, upd]; exact c15
    · simp [up2, upd]; exact c16
    · have z1 : a ≠ 21 := by omega
      have z2 : a ≠ 22 := by omega
      have z3 : a ≠ 23 := by omega
      simp [up2, z1, z2, z3]
    · simp [up2]
    · simp [up2]
  · rw [b1]; exact (n_lt (b := 5) (by omega) (by decide)).mpr h5
theorem c_Bx_addLock_21 {a w o ps : Nat} (hd : 1 ≤ d) (hD : DrC B lid I) (h6 : B.ln < 6) (h : ∀ I', DrC (B.addL a w o ps) lid I' → FrP I I' → I' 31 = I 31 → F (nI B.ln) I' J) : CI d Bx_addLock [.ref 21, .int (nI a), .int (nI w), .int (nI o), .int (nI ps)] I J F := by
  obtain ⟨⟨b1, b2, b3, b4⟩, c8, c9, c10, c15, c16⟩ := hD
  refine CI.of hd rfl (v_Bx_addLock_21_0 ⟨fun _ => ?_, fun q => absurd ?_ q⟩)
  · rw [b2, n_tN (by omega)]
    have hv := n_vp (a := B.ln) (n := 6) h6 (by decide)
    refine ⟨hv, hv, hv, hv, QI_i.mpr (h _ ⟨⟨?_, ?_, fun q hq => ?_, fun q hq => ?_⟩, ?_, ?_, ?_, ?_, ?_⟩ ⟨fun a ha => ?_, fun q _ => ?_⟩ ?_)⟩
    · simp [up2, upd]; exact b1
    · simp [up2, upd]; rw [n_inc]; rfl
    · simp [up2]; exact b3 q hq
    · have hq : q < B.ln + 1 := hq
      show _ = nI (updN B.ow B.ln a q) ∧ _ = nI (updN B.wy B.ln w q) ∧ _ = nI (updN B.ot B.ln o q) ∧ _ = nI (updN B.ps B.ln ps q)
      by_cases e : q = B.ln
      · simp [up2, upd, updN, e]
      · simp only [updN, if_neg e]
        simp [up2, upd, e]
        exact b4 q (by omega)
    · simp [up2, upd]; exact c8
    · simp [up2, upd]; exact c9
    · simp [up2, upd]; exact c10
    · simp [up2, upd]; exact c15
    · simp [up2, upd]; exact c16
    · have z1 : a ≠ 21 := by omega
      have z2 : a ≠ 24 := by omega
      have z3 : a ≠ 25 := by omega
      have z4 : a ≠ 26 := by omega
      have z5 : a ≠ 27 := by omega
      simp [up2, z1, z2, z3, z4, z5]
    · simp [up2]
    · simp [up2]
  · rw [b2]; exact (n_lt (b := 6) (by omega) (by decide)).mpr h6
theorem pDig_le {lo hi q : Nat} {o : Option Nat} (hp : p ≤ t.1) (h : pDig t lo hi p = (q, o)) : q ≤ t.1 := by
  unfold pDig at h
  split at h
  · cases h
    have := hr_lt (t := t) (p := p) (by omega)
    omega
  · cases h; exact sk_le hp
theorem c_Tp_readPlaces {dp : Nat} (hd : 3 ≤ d) (hW : WFT t) (hT : TpC t I) (hp : p ≤ t.1) (h2 : I 31 2 = nI p) (hdp : dp ≤ 3) (h : ∀ q a I', pPl t dp (dp + 1) 0 0 p = (q, a) → q ≤ t.1 → FrT I I' → I' 31 2 = nI q → F (nI a) I' J) : CI d Tp_readPlaces [.ref 31, .int (nI dp)] I J F := by
  have loop : ∀ r turn lo a p I1, turn + r = dp + 1 → lo ≤ 4 → p ≤ t.1 → FrT I I1 → I1 31 2 = nI p → (∀ q a' I', pPl t dp r lo a p = (q, a') → q ≤ t.1 → FrT I I' → I' 31 2 = nI q → F (nI a') I' J) → Wp (d - 1) Tp_readPlaces (QI F) 7 [some (.ref 31), some (.int (nI dp)), some (.int (nI a)), some (.int (nI lo)), some (.int (nI turn)), none] [] I1 J := by
    intro r
    induction r with
    | zero =>
      intro turn lo a p I1 ht hlo hp hF hI hh
      exact v_Tp_readPlaces_31_7 ⟨fun _ => QI_i.mpr (hh p a I1 rfl hp hF hI), fun q => absurd ((n_lt (by omega) (by omega)).mpr (by omega)) q⟩
    | succ r ih =>
      intro turn lo a p I1 ht hlo hp hF hI hh
      refine v_Tp_readPlaces_31_7 ⟨fun q => absurd ((n_lt (by omega) (by omega)).mp q) (by omega), fun _ => c_Tp_digit (by omega) hW (hF.tpc hT) (AtC_of hp hI) (by omega) (by omega) (fun q I' e k1 k2 k3 => ⟨fun _ => QI_i.mpr (hh q a I' ?_ k1 (hF.tr k2) k3), fun z => absurd (by decide) z⟩) (fun q v I' e k1 k2 k3 k4 k5 => ⟨fun z => absurd z (nI_pos (by omega)), fun _ => ?_⟩)⟩
      · simp only [pPl]; rw [e]
      · rw [n_one (by omega), n_or, n_inc, n_inc]
        refine ih (turn + 1) (v + 1) _ q I' (by omega) (by omega) k1 (hF.tr k4) k5 (fun q' a' I2 e2 => hh q' a' I2 ?_)
        simp only [pPl]; rw [e]; exact e2
  exact CI.of (by omega) rfl (v_Tp_readPlaces_31_0 (loop (dp + 1) 0 0 0 p I (Nat.zero_add _) (by decide) hp FrT.rf h2 h))
theorem pPl_lt {dp : Nat} : ∀ r lo a p, a < 2 ^ lo → lo ≤ dp + 1 → (pPl t dp r lo a p).2 < 2 ^ (dp + 1) := by
  intro r
  induction r with
  | zero => intro lo a p ha hlo; exact Nat.lt_of_lt_of_le ha (Nat.pow_le_pow_right (by decide) hlo)
  | succ r ih =>
    intro lo a p ha hlo
    simp only [pPl]
    split
    · exact Nat.lt_of_lt_of_le ha (Nat.pow_le_pow_right (by decide) hlo)
    · next q v e =>
      have hv : lo ≤ v ∧ v ≤ dp := by
        unfold pDig at e
        split at e
        · cases e; omega
        · cases e
      refine ih (v + 1) _ q (Nat.or_lt_two_pow ?_ ?_) (by omega)
      · exact Nat.lt_of_lt_of_le ha (Nat.pow_le_pow_right (by decide) (by omega))
      · exact Nat.pow_lt_pow_right (by decide) (by omega)
theorem pPl_pos {dp : Nat} : ∀ r lo a p, 0 < a → 0 < (pPl t dp r lo a p).2 := by
  intro r
  induction r with
  | zero => intro lo a p ha; exact ha
  | succ r ih =>
    intro lo a p ha
    simp only [pPl]
    split
    · exact ha
    · next q v e =>
      refine ih (v + 1) _ q ?_
      have : a ≤ a ||| 2 ^ v := Nat.left_le_or
      omega
theorem pPl_0 {dp lo : Nat} (hp : p ≤ t.1) (h : (pPl t dp (dp + 1) lo 0 p).2 = 0) : pDig t lo dp p = (skT t p, none) ∧ (pPl t dp (dp + 1) lo 0 p).1 = skT t p := by
  simp only [pPl] at h ⊢
  unfold pDig at h ⊢
  split at h
  · next q e =>
    split at e
    · cases e
    · next hn =>
      cases e
      exact ⟨if_neg hn, rfl⟩
  · next q v e =>
    have := pPl_pos (t := t) (dp := dp) dp (v + 1) (0 ||| 2 ^ v) q (by rw [Nat.zero_or]; exact Nat.pow_pos (by decide))
    omega
theorem c_Tp_readLock (hd : 4 ≤ d) (hW : WFT t) (hT : TpC t I) (hp : AtC t p I) (hp0 : p ≤ t.1) (hB : WFB B) (h1p : 1 ≤ B.pn) (h6 : B.ln < 6) (hD : DrC B lid I) (h0 : ∀ q I', pLk1 t B p = (q, none) → FrP I I' → I' 31 2 = nI q → F 0 I' J) (h1 : ∀ q x I', pLk1 t B p = (q, some x) → q ≤ t.1 → x.1 < B.pn → x.2.1 ≤ 2 → x.2.2.1 < B.pn → 1 ≤ x.2.2.2 → x.2.2.2 ≤ 15 → FrP I I' → I' 31 2 = nI q → DrC (B.addL x.1 x.2.1 x.2.2.1 x.2.2.2) lid I' → F 1 I' J) : CI d Tp_readLock [.ref 31, .ref 21] I J F := by
  have hp5 := hB.1
  refine CI.of (by omega) rfl (v_Tp_readLock_31_21_0 ?_)
  rw [hD.1.1, n_dec (by omega)]
  refine c_Tp_digit (lo := 0) (by omega) hW hT hp (by decide) (by omega) (fun q I' e k1 k2 k3 => ⟨fun _ => QI_i.mpr (h0 q I' (by unfold pLk1; rw [e]) k2.p k3), fun z => absurd (by decide) z⟩) (fun q a I1 e k1 k2 k3 k4 k5 => ⟨fun z => absurd z (nI_pos (by omega)), fun _ => ?_⟩)
  refine c_Tp_oneOfW (by omega) hW (k4.tpc hT) (AtC_of k1 k5) (fun ew I2 l1 l2 => ⟨fun _ => QI_i.mpr (h0 _ I2 (by unfold pLk1; rw [e]; dsimp only; rw [ew]) (k4.tr l1).p l2), fun z => absurd (by decide) z⟩) (fun w ew l0 lq I2 l1 l2 => ⟨fun z => absurd z (nI_pos (by omega)), fun _ => ?_⟩)
  refine c_Tp_peek (by omega) hW ((k4.tr l1).tpc hT) (AtC_of lq l2) (fun I3 m1 m2 => ?_)
  have hb := hr_bd (p := skT t q + 1) hW
  rw [show (48 : Int32) = nI 48 from rfl, sub_eq (by omega) (by decide) (by omega)]
  refine ⟨fun ea => QI_i.mpr (h0 _ I3 (by unfold pLk1; rw [e]; dsimp only; rw [ew]; dsimp only; rw [if_pos ea]) ((k4.tr l1).tr m1).p m2), fun ea => ?_⟩
  have hD3 := DrC_t hD ((k4.tr l1).tr m1)
  have F3 := (k4.tr l1).tr m1
  rw [hD3.1.1, n_dec (by omega)]
  have sl : skT t (skT t q + 1) ≤ t.1 := sk_le lq
  have hat : AtC t (skT t q + 1) I3 := ⟨_, sl, sk_sk lq, m2⟩
  refine c_Tp_digit (lo := 0) (by omega) hW (F3.tpc hT) hat (by decide) (by omega) (fun q2 I4 e2 n1 n2 n3 => ?_) (fun q2 o I4 e2 n1 n2 n3 n4 n5 => ?_)
  · have hD4 := DrC_t hD3 n2
    refine c_Bx_hasPanel_21 (by omega) hD4.1 ⟨fun _ => QI_i.mpr (h0 q2 I4 ?_ (F3.tr n2).p n3), fun z => absurd ?_ z⟩
    · unfold pLk1; rw [e]; dsimp only; rw [ew]; dsimp only; rw [if_neg ea, e2]
    · rw [decide_eq_false (by decide : ¬ ¬ (-1 : Int32) < 0)]; rfl
  · have hD4 := DrC_t hD3 n4
    have ho : o < B.pn := by omega
    have hdp := (hB.2.2.1 o ho).2.2
    have eh : (decide (¬ nI o < 0) && decide (nI o < nI B.pn)) = true := by
      rw [decide_eq_true (nI_pos (by omega)), decide_eq_true ((n_lt (by omega) (by omega)).mpr ho)]; rfl
    refine c_Bx_hasPanel_21 (by omega) hD4.1 ?_
    rw [eh, n_tN (by omega), show I4 23 o = nI (B.dp o) from (hD4.1.2.2.1 o ho).2]
    refine ⟨fun z => absurd z (by decide), fun _ => ⟨n_vp (by omega) (by decide), c_Tp_readPlaces (by omega) hW ((F3.tr n4).tpc hT) n1 n5 hdp (fun q3 ps I5 e3 o1 o2 o3 => ?_)⟩⟩
    have hlt := pPl_lt (t := t) (dp := B.dp o) (B.dp o + 1) 0 0 q2 (by decide) (by omega)
    have hlt2 : 2 ^ (B.dp o + 1) ≤ 2 ^ 4 := Nat.pow_le_pow_right (by decide) (by omega)
    rw [e3] at hlt
    dsimp only at hlt
    have ek : pLk1 t B p = if (pPl t (B.dp o) (B.dp o + 1) 0 0 q2).2 = 0 then (skT t (pPl t (B.dp o) (B.dp o + 1) 0 0 q2).1, none) else ((pPl t (B.dp o) (B.dp o + 1) 0 0 q2).1, some (a, w, o, (pPl t (B.dp o) (B.dp o + 1) 0 0 q2).2)) := by
      unfold pLk1; rw [e]; dsimp only; rw [ew]; dsimp only; rw [if_neg ea, e2]
    rw [n_e0 (by omega)]
    refine ⟨fun z => ?_, fun z => ?_⟩
    · have z0 := pPl_0 (t := t) (dp := B.dp o) (lo := 0) n1 (by rw [e3]; exact z)
      have eq3 : q3 = skT t q2 := by rw [← z0.2, e3]
      rw [e3] at ek
      rw [if_pos z] at ek
      dsimp only at ek
      rw [eq3, sk_sk n1] at ek
      rw [eq3] at o3
      exact QI_i.mpr (h0 _ I5 ek ((F3.tr n4).tr o2).p o3)
    · rw [e3] at ek
      rw [if_neg z] at ek
      dsimp only at ek
      refine c_Bx_addLock_21 (by omega) (DrC_t hD4 o2) h6 (fun I6 r1 r2 r3 => QI_i.mpr (h1 q3 _ I6 ek o1 (show a < B.pn by omega) l0 ho (show 1 ≤ ps by omega) (show ps ≤ 15 by omega) (((F3.tr n4).tr o2).p.tr r2) ?_ r1))
      rw [r3]; exact o3
end TAPE2
end
section
/-! the tape: what is read is a box -/
section TAPE3
variable {t : Tpe}
theorem pDig_some {lo hi p q v : Nat} (h : pDig t lo hi p = (q, some v)) : lo ≤ v ∧ v ≤ hi ∧ q ≤ t.1 := by
  unfold pDig at h
  split at h
  · next e =>
    cases h
    have := hr_lt (t := t) (p := p) (by omega)
    omega
  · cases h
theorem pPl_le {dp : Nat} : ∀ r lo a p, p ≤ t.1 → (pPl t dp r lo a p).1 ≤ t.1 := by
  intro r
  induction r with
  | zero => intro lo a p hp; exact hp
  | succ r ih =>
    intro lo a p hp
    simp only [pPl]
    split
    · next q e => exact pDig_le hp e
    · next q v e => exact ih _ _ q (pDig_le hp e)
theorem pPan1_le {p q : Nat} {o : Option (Nat × Nat)} (hp : p ≤ t.1) (h : pPan1 t p = (q, o)) : q ≤ t.1 := by
  unfold pPan1 at h
  split at h
  · cases h; exact sk_le hp
  · next kd e =>
    have hl := hr_lt (idK_5 e).2
    split at h
    · next q1 e1 => cases h; exact pDig_le hl e1
    · next q1 dp e1 => cases h; exact pDig_le hl e1
theorem pPan1_wf {p q : Nat} {x : Nat × Nat} (h : pPan1 t p = (q, some x)) : x.1 ≤ 4 ∧ 1 ≤ x.2 ∧ x.2 ≤ 3 := by
  unfold pPan1 at h
  split at h
  · cases h
  · next kd e =>
    split at h
    · cases h
    · next q1 dp e1 =>
      cases h
      have := pDig_some e1
      exact ⟨(idK_5 e).1, this.1, this.2.1⟩
theorem pPan_le : ∀ r k p B lid q o, p ≤ t.1 → pPan t r k p B lid = (q, o) → q ≤ t.1 := by
  intro r
  induction r with
  | zero => intro k p B lid q o hp h; simp only [pPan] at h; cases h; exact hp
  | succ r ih =>
    intro k p B lid q o hp h
    simp only [pPan] at h
    split at h
    · cases h; exact sk_le hp
    · next hc =>
      have h1 : (if 0 < k then skT t p + 1 else p) ≤ t.1 := by
        split
        · next h0 => exact hr_lt (by intro z; apply hc; exact ⟨h0, by rw [z]; decide⟩)
        · exact hp
      split at h
      · next q1 e1 => cases h; exact pPan1_le h1 e1
      · next q1 x e1 =>
        have h2 := pPan1_le h1 e1
        split at h
        · next hb => exact ih _ _ _ _ q o (hr_lt (by rw [hb.2]; decide)) h
        · exact ih _ _ _ _ q o h2 h
theorem pPan_wf : ∀ r k p B lid q x, WFB B → B.pn = k → B.ln = 0 → k + r = 5 → (∀ j, lid = some j → j < k) → (0 < k ∨ 0 < r) → pPan t r k p B lid = (q, some x) → WFB x.1 ∧ 1 ≤ x.1.pn ∧ x.1.ln = 0 ∧ ∀ j, x.2 = some j → j < x.1.pn := by
  intro r
  induction r with
  | zero =>
    intro k p B lid q x hB hk hl hr hlid h0 h
    simp only [pPan] at h
    cases h
    exact ⟨hB, by show 1 ≤ B.pn; omega, hl, fun j hj => by have := hlid j hj; show j < B.pn; omega⟩
  | succ r ih =>
    intro k p B lid q x hB hk hl hr hlid h0 h
    simp only [pPan] at h
    split at h
    · next hc => cases h; exact ⟨hB, by have := hc.1; show 1 ≤ B.pn; omega, hl, fun j hj => by have := hlid j hj; show j < B.pn; omega⟩
    · split at h
      · cases h
      · next q1 y e1 =>
        obtain ⟨w1, w2, w3⟩ := pPan1_wf e1
        have hB2 := hB.addP (k := y.1) (dp := y.2) (by omega) w1 w2 w3
        have hk2 : (B.addP y.1 y.2).pn = k + 1 := by show B.pn + 1 = k + 1; omega
        split at h
        · exact ih (k + 1) _ _ _ q x hB2 hk2 hl (by omega) (fun j hj => by cases hj; exact Nat.lt_succ_self k) (Or.inl (Nat.succ_pos k)) h
        · exact ih (k + 1) _ _ _ q x hB2 hk2 hl (by omega) (fun j hj => by have := hlid j hj; omega) (Or.inl (Nat.succ_pos k)) h
theorem pLk1_le {B : Bx} {p q : Nat} {o : Option (Nat × Nat × Nat × Nat)} (hp : p ≤ t.1) (h : pLk1 t B p = (q, o)) : q ≤ t.1 := by
  unfold pLk1 at h
  split at h
  · next q1 e1 => cases h; exact pDig_le hp e1
  · next q1 a e1 =>
    have h1 := pDig_le hp e1
    split at h
    · cases h; exact sk_le h1
    · next w ew =>
      have h2 := hr_lt (idW_3 ew).2
      split at h
      · cases h; exact sk_le h2
      · split at h
        · next q2 e2 => cases h; exact pDig_le h2 e2
        · next q2 o2 e2 =>
          have h3 := pPl_le (dp := B.dp o2) (B.dp o2 + 1) 0 0 q2 (pDig_le h2 e2)
          split at h
          · cases h; exact sk_le h3
          · cases h; exact h3
theorem pLk1_wf {B : Bx} {p q : Nat} {x : Nat × Nat × Nat × Nat} (hB : WFB B) (h1 : 1 ≤ B.pn) (h : pLk1 t B p = (q, some x)) : x.1 < B.pn ∧ x.2.1 ≤ 2 ∧ x.2.2.1 < B.pn ∧ 1 ≤ x.2.2.2 ∧ x.2.2.2 ≤ 15 := by
  unfold pLk1 at h
  split at h
  · cases h
  · next q1 a e1 =>
    have d1 := pDig_some e1
    split at h
    · cases h
    · next w ew =>
      split at h
      · cases h
      · split at h
        · cases h
        · next q2 o2 e2 =>
          have d2 := pDig_some e2
          split at h
          · cases h
          · next hz =>
            cases h
            have hdp := (hB.2.2.1 o2 (by omega)).2.2
            have hlt := pPl_lt (t := t) (dp := B.dp o2) (B.dp o2 + 1) 0 0 q2 (by decide) (by omega)
            have hlt2 : 2 ^ (B.dp o2 + 1) ≤ 2 ^ 4 := Nat.pow_le_pow_right (by decide) (by omega)
            exact ⟨by show a < B.pn; omega, (idW_3 ew).1, by show o2 < B.pn; omega, Nat.pos_of_ne_zero hz, by show (pPl t (B.dp o2) (B.dp o2 + 1) 0 0 q2).2 ≤ 15; omega⟩
theorem pLks_le : ∀ r l p B q o, p ≤ t.1 → pLks t r l p B = (q, o) → q ≤ t.1 := by
  intro r
  induction r with
  | zero =>
    intro l p B q o hp h
    simp only [pLks] at h
    split at h
    · cases h; exact sk_le hp
    · cases h; exact sk_le hp
  | succ r ih =>
    intro l p B q o hp h
    simp only [pLks] at h
    split at h
    · split at h
      · cases h; exact sk_le hp
      · cases h; exact sk_le hp
    · next hc =>
      have h1 : (if 0 < l then skT t p + 1 else p) ≤ t.1 := by
        split
        · next h0 => exact hr_lt (by intro z; apply hc; exact ⟨h0, by rw [z]; decide⟩)
        · exact hp
      split at h
      · next q1 e1 => cases h; exact pLk1_le h1 e1
      · next q1 x e1 => exact ih _ _ _ q o (pLk1_le h1 e1) h
theorem pLks_wf : ∀ r l p B q B', WFB B → 1 ≤ B.pn → B.ln = l → l + r = 6 → pLks t r l p B = (q, some B') → WFB B' ∧ B'.pn = B.pn := by
  intro r
  induction r with
  | zero =>
    intro l p B q B' hB h1 hl hr h
    simp only [pLks] at h
    split at h
    · cases h; exact ⟨hB, rfl⟩
    · cases h
  | succ r ih =>
    intro l p B q B' hB h1 hl hr h
    simp only [pLks] at h
    split at h
    · split at h
      · cases h; exact ⟨hB, rfl⟩
      · cases h
    · split at h
      · cases h
      · next q1 x e1 =>
        obtain ⟨w1, w2, w3, w4, w5⟩ := pLk1_wf hB h1 e1
        have hB2 := hB.addL (a := x.1) (w := x.2.1) (o := x.2.2.1) (ps := x.2.2.2) (by omega) w1 w2 w3 w4 w5
        have := ih (l + 1) _ _ q B' hB2 h1 (by show B.ln + 1 = l + 1; omega) (by omega) h
        exact ⟨this.1, this.2⟩
theorem WFB_0 : WFB Bx0 := ⟨Nat.zero_le _, Nat.zero_le _, fun p hp => absurd hp (Nat.not_lt_zero p), fun p hp => absurd hp (Nat.not_lt_zero p)⟩
theorem boxR_wf {q : Nat} {x : Bx × Option Nat} (h : boxR t = (q, some x)) : WFB x.1 ∧ 1 ≤ x.1.pn ∧ ∀ j, x.2 = some j → j < x.1.pn := by
  unfold boxR at h
  split at h
  · cases h
  · next q1 y e1 =>
    obtain ⟨w1, w2, w3, w4⟩ := pPan_wf 5 0 0 Bx0 none q1 y WFB_0 rfl rfl rfl (fun j hj => by cases hj) (Or.inr (by decide)) e1
    split at h
    · cases h; exact ⟨w1, w2, w4⟩
    · split at h
      · split at h
        · cases h
        · next q2 B' e2 =>
          cases h
          have := pLks_wf 6 0 _ _ _ B' w1 w2 w3 rfl e2
          exact ⟨this.1, by show 1 ≤ B'.pn; omega, fun j hj => by have := w4 j hj; show j < B'.pn; omega⟩
      · cases h
theorem boxR_le {q : Nat} {o : Option (Bx × Option Nat)} (h : boxR t = (q, o)) : q ≤ t.1 := by
  unfold boxR at h
  split at h
  · next q1 e1 => cases h; exact pPan_le 5 0 0 _ _ _ _ (Nat.zero_le _) e1
  · next q1 y e1 =>
    have h1 := pPan_le 5 0 0 _ _ q1 _ (Nat.zero_le _) e1
    split at h
    · cases h; exact h1
    · split at h
      · next h59 =>
        have h2 : skT t q1 + 1 ≤ t.1 := hr_lt (by rw [h59]; decide)
        split at h
        · next q2 e2 => cases h; exact pLks_le 6 0 _ _ _ _ h2 e2
        · next q2 B' e2 => cases h; exact pLks_le 6 0 _ _ _ _ h2 e2
      · cases h; exact sk_le h1
theorem WF_box {V : Bv} (hw : WFV V) : WFV (boxS V t).2 := by
  unfold boxS
  split
  · exact hw
  · next q x e =>
    obtain ⟨w1, w2, w3⟩ := boxR_wf e
    refine ⟨w1, Or.inr ?_, okS_0, Nat.pow_pos (by decide), hw.2.2.2.2.1, Nat.zero_le _, fun y hy => by cases hy⟩
    show lidN x.2 < x.1.pn
    cases ex : x.2 with
    | none => exact w2
    | some j => exact w3 j ex
theorem WF_type {x : Int32} (hW : WFT t) : WFT (typeS t x).2 := by
  unfold typeS
  split
  · exact hW
  · next hb =>
    simp only [not_or] at hb
    split
    · next h90 =>
      have x0 : ¬ x < 0 := fun q => hb.1 (Int32.lt_trans q (by decide))
      obtain ⟨j, hj, rfl⟩ := le_of (n := 126) x0 hb.2 (by decide)
      have j1 : 32 ≤ j := by
        have := hb.1
        rw [show (32 : Int32) = nI 32 from rfl, n_lt (by omega) (by decide)] at this; omega
      rw [n_tN (by omega)]
      refine ⟨h90, fun k hk => ?_⟩
      have hk : k < t.1 + 1 := hk
      show 32 ≤ updN t.2 t.1 j k ∧ updN t.2 t.1 j k ≤ 126
      unfold updN
      split
      · omega
      · exact hW.2 k (by omega)
    · exact hW
end TAPE3
end
section
/-! the tape: the calls of the class -/
section TAPE4
variable {d : Nat} {t : Tpe} {lid : Option Nat} {V : Bv} {I : I2} {J : J2} {G : I2 → J2 → Prop} {F : Int32 → I2 → J2 → Prop}
theorem c_Tp_readLocks {B : Bx} {p : Nat} (hd : 5 ≤ d) (hW : WFT t) (hT : TpC t I) (hp : p ≤ t.1) (h2 : AtC t p I) (hB : WFB B) (h1p : 1 ≤ B.pn) (hl : B.ln = 0) (hD : DrC B lid I) (h0 : ∀ q I', pLks t 6 0 p B = (q, none) → FrP I I' → I' 31 2 = nI q → F 0 I' J) (h1 : ∀ q B' I', pLks t 6 0 p B = (q, some B') → FrP I I' → DrC B' lid I' → F 1 I' J) : CI d Tp_readLocks [.ref 31, .ref 21] I J F := by
  have fin : ∀ (r l p : Nat) (B : Bx) (I1 : I2), FrP I I1 → DrC B lid I1 → (hrT t p = 0 → ∀ q I', q = skT t p → FrP I I' → DrC B lid I' → F 1 I' J) → (hrT t p ≠ 0 → ∀ I', FrP I I' → I' 31 2 = nI (skT t p) → F 0 I' J) → AtC t p I1 → CI (d - 1) Tp_isEnd [.ref 31] I1 J (fun v I2 J2 => (v = 0 ∨ v = 1) ∧ QI F (some (.int v)) I2 J2) := by
    intro r l p B I1 hF hD1 k1 k0 hat
    refine c_Tp_isEnd (by omega) hW (hF.tpc hT) hat (fun I' z1 z2 => ⟨bI_01 _, QI_i.mpr ?_⟩)
    by_cases e : hrT t p = 0
    · rw [decide_eq_true e]; exact k1 e _ I' rfl (hF.tr z1.p) (DrC_t hD1 z1)
    · rw [decide_eq_false e]; exact k0 e I' (hF.tr z1.p) z2
  have loop : ∀ r l p B I1, l + r = 6 → p ≤ t.1 → FrP I I1 → AtC t p I1 → WFB B → 1 ≤ B.pn → B.ln = l → DrC B lid I1 → (∀ q I', pLks t r l p B = (q, none) → FrP I I' → I' 31 2 = nI q → F 0 I' J) → (∀ q B' I', pLks t r l p B = (q, some B') → FrP I I' → DrC B' lid I' → F 1 I' J) → Wp (d - 1) Tp_readLocks (QI F) 2 [some (.ref 31), some (.ref 21), some (.int (nI l))] [] I1 J := by
    intro r
    induction r with
    | zero =>
      intro l p B I1 hr hp hF hat hB h1p hl hD1 k0 k1
      refine v_Tp_readLocks_31_21_2 ⟨fun q => absurd ((n_lt (b := 6) (by omega) (by decide)).mp q) (by omega), fun _ => fin 0 l p B I1 hF hD1 (fun e q I' eq z1 z2 => k1 q B I' ?_ z1 z2) (fun e I' z1 z2 => k0 _ I' ?_ z1 z2) hat⟩
      · simp only [pLks]; rw [if_pos e, eq]
      · simp only [pLks]; rw [if_neg e]
    | succ r ih =>
      intro l p B I1 hr hp hF hat hB h1p hl hD1 k0 k1
      have lock : ∀ (p1 : Nat) (I2 : I2), p1 = (if 0 < l then skT t p + 1 else p) → ¬ (0 < l ∧ hrT t p ≠ 44) → p1 ≤ t.1 → FrP I I2 → AtC t p1 I2 → DrC B lid I2 → CI (d - 1) Tp_readLock [.ref 31, .ref 21] I2 J (fun v I3 J3 => (v = 0 → QI F (some (.int 0)) I3 J3) ∧ (¬ (v = 0) → Wp (d - 1) Tp_readLocks (QI F) 2 [some (.ref 31), some (.ref 21), some (.int (nI l + 1))] [] I3 J3)) := by
        intro p1 I2 ep hc hp1 hF2 hat2 hD2
        refine c_Tp_readLock (by omega) hW (hF2.tpc hT) hat2 hp1 hB h1p (by omega) hD2 (fun q I' e z1 z2 => ⟨fun _ => QI_i.mpr (k0 q I' ?_ (hF2.tr z1) z2), fun z => absurd rfl z⟩) (fun q x I' e zq x1 x2 x3 x4 x5 z1 z2 z3 => ⟨fun z => absurd z (by decide), fun _ => ?_⟩)
        · simp only [pLks]; rw [if_neg hc, ← ep, e]
        · rw [n_inc]
          have es : pLks t (r + 1) l p B = pLks t r (l + 1) q (B.addL x.1 x.2.1 x.2.2.1 x.2.2.2) := by
            simp only [pLks]; rw [if_neg hc, ← ep, e]
          exact ih (l + 1) q _ I' (by omega) zq (hF2.tr z1) (AtC_of zq z2) (hB.addL (by omega) x1 x2 x3 x4 x5) h1p (show B.ln + 1 = l + 1 by omega) z3 (fun q' I4 e4 => k0 q' I4 (es.trans e4)) (fun q' B' I4 e4 => k1 q' B' I4 (es.trans e4))
      refine v_Tp_readLocks_31_21_2 ⟨fun _ => ⟨fun hl0 => ?_, fun hl0 => ?_⟩, fun q => absurd ((n_lt (b := 6) (by omega) (by decide)).mpr (by omega)) q⟩
      · have hl0 : 0 < l := (n_p0 (by omega)).mp hl0
        refine c_Tp_accept (x := 44) (by omega) hW (hF.tpc hT) hat (by decide) (fun e I' z1 z2 => ⟨fun _ => fin r l p B I' (hF.tr z1.p) (DrC_t hD1 z1) (fun e0 q I2 eq y1 y2 => k1 q B I2 ?_ y1 y2) (fun e0 I2 y1 y2 => k0 _ I2 ?_ y1 y2) (hat.sk z2), fun z => absurd rfl z⟩) (fun e I' z1 z2 => ⟨fun z => absurd z (by decide), fun _ => ?_⟩)
        · simp only [pLks]; rw [if_pos ⟨hl0, e⟩, if_pos e0, eq]
        · simp only [pLks]; rw [if_pos ⟨hl0, e⟩, if_neg e0]
        · have hlt := hr_lt (t := t) (p := p) (by rw [e]; decide)
          exact lock (skT t p + 1) I' (by rw [if_pos hl0]) (fun q => q.2 e) hlt (hF.tr z1.p) (AtC_of hlt z2) (DrC_t hD1 z1)
      · have hl0 : ¬ 0 < l := fun q => hl0 ((n_p0 (by omega)).mpr q)
        exact lock p I1 (by rw [if_neg hl0]) (fun q => hl0 q.1) hp hF hat hD1
  exact CI.of (by omega) rfl (v_Tp_readLocks_31_21_0 (loop 6 0 p B I rfl hp FrP.rf h2 hB h1p hl hD h0 h1))
theorem c_Tp_readPanels (hd : 4 ≤ d) (hW : WFT t) (hT : TpC t I) (h2 : I 31 2 = 0) (hD : DrC Bx0 none I) (h0 : ∀ q I', pPan t 5 0 0 Bx0 none = (q, none) → FrP I I' → I' 31 2 = nI q → F 0 I' J) (h1 : ∀ q x I', pPan t 5 0 0 Bx0 none = (q, some x) → FrP I I' → AtC t q I' → DrC x.1 x.2 I' → F 1 I' J) : CI d Tp_readPanels [.ref 31, .ref 21] I J F := by
  have loop : ∀ r k p B lid I1, k + r = 5 → p ≤ t.1 → FrP I I1 → AtC t p I1 → B.pn = k → DrC B lid I1 → (∀ q I', pPan t r k p B lid = (q, none) → FrP I I' → I' 31 2 = nI q → F 0 I' J) → (∀ q x I', pPan t r k p B lid = (q, some x) → FrP I I' → AtC t q I' → DrC x.1 x.2 I' → F 1 I' J) → Wp (d - 1) Tp_readPanels (QI F) 4 [some (.ref 31), some (.ref 21), some (.int (bI lid.isSome)), some (.int (nI k)), none, none] [] I1 J := by
    intro r
    induction r with
    | zero =>
      intro k p B lid I1 hr hp hF hat hk hD1 k0 k1
      exact v_Tp_readPanels_31_21_4 ⟨fun q => absurd ((n_lt (b := 5) (by omega) (by decide)).mp q) (by omega), fun _ => QI_i.mpr (k1 p (B, lid) I1 rfl hF hat hD1)⟩
    | succ r ih =>
      intro k p B lid I1 hr hp hF hat hk hD1 k0 k1
      have tail : ∀ (p1 : Nat) (I2 : I2), p1 = (if 0 < k then skT t p + 1 else p) → ¬ (0 < k ∧ hrT t p ≠ 44) → p1 ≤ t.1 → FrP I I2 → AtC t p1 I2 → DrC B lid I2 → CI (d - 1) Tp_oneOf [.ref 31, .ref 201] I2 J (fun v2 I3 J3 => (v2 < 0 → QI F (some (.int 0)) I3 J3) ∧ (¬ (v2 < 0) → CI (d - 1) Tp_digit [.ref 31, .int 1, .int 3] I3 J3 (fun v3 I4 J4 => (v3 < 0 → QI F (some (.int 0)) I4 J4) ∧ (¬ (v3 < 0) → CI (d - 1) Bx_addPanel [.ref 21, .int v2, .int v3] I4 J4 (fun v4 I5 J5 => (bI lid.isSome = 0 → CI (d - 1) Tp_accept [.ref 31, .int 33] I5 J5 (fun v5 I6 J6 => (v5 = 0 → Wp (d - 1) Tp_readPanels (QI F) 4 [some (.ref 31), some (.ref 21), some (.int (bI lid.isSome)), some (.int (nI k + 1)), none, none] [] I6 J6) ∧ (¬ (v5 = 0) → Wp (d - 1) Tp_readPanels (QI F) 4 [some (.ref 31), some (.ref 21), some (.int 1), some (.int (nI k + 1)), none, none] [] (up2 I6 21 8 (nI k)) J6))) ∧ (¬ (bI lid.isSome = 0) → Wp (d - 1) Tp_readPanels (QI F) 4 [some (.ref 31), some (.ref 21), some (.int (bI lid.isSome)), some (.int (nI k + 1)), none, none] [] I5 J5)))))) := by
        intro p1 I2 ep hc hp1 hF2 hat2 hD2
        refine c_Tp_oneOfK (by omega) hW (hF2.tpc hT) hat2 (fun e I' z1 z2 => ⟨fun _ => QI_i.mpr (k0 _ I' ?_ (hF2.tr z1.p) z2), fun z => absurd (by decide) z⟩) (fun kd e kd4 zl I' z1 z2 => ⟨fun z => absurd z (nI_pos (by omega)), fun _ => ?_⟩)
        · simp only [pPan]; rw [if_neg hc, ← ep]
          have : pPan1 t p1 = (skT t p1, none) := by unfold pPan1; rw [e]
          rw [this]
        · have F3 := hF2.tr z1.p
          refine c_Tp_digit (lo := 1) (hi := 3) (by omega) hW (F3.tpc hT) (AtC_of zl z2) (by decide) (by decide) (fun q I4 e2 y1 y2 y3 => ⟨fun _ => QI_i.mpr (k0 q I4 ?_ (F3.tr y2.p) y3), fun z => absurd (by decide) z⟩) (fun q dp I4 e2 y1 y2 y3 y4 y5 => ⟨fun z => absurd z (nI_pos (by omega)), fun _ => ?_⟩)
          · simp only [pPan]; rw [if_neg hc, ← ep]
            have : pPan1 t p1 = (q, none) := by unfold pPan1; rw [e]; dsimp only; rw [e2]
            rw [this]
          · have F4 := F3.tr y4.p
            have e1 : pPan1 t p1 = (q, some (kd, dp)) := by unfold pPan1; rw [e]; dsimp only; rw [e2]
            have es : pPan t (r + 1) k p B lid = if lid = none ∧ hrT t q = 33 then pPan t r (k + 1) (skT t q + 1) (B.addP kd dp) (some k) else pPan t r (k + 1) q (B.addP kd dp) lid := by
              simp only [pPan]; rw [if_neg hc, ← ep, e1]
            refine c_Bx_addPanel_21 (by omega) (DrC_t (DrC_t hD2 z1) y4) (by omega) (fun I5 w1 w2 w3 => ?_)
            have F5 := F4.tr w2
            have at5 : AtC t q I5 := AtC_of y1 (by rw [w3]; exact y5)
            have hk2 : (B.addP kd dp).pn = k + 1 := by show B.pn + 1 = k + 1; omega
            rw [n_inc]
            refine ⟨fun el => ?_, fun el => ?_⟩
            · have ln : lid = none := by
                cases lid with
                | none => rfl
                | some _ => cases el
              subst ln
              refine c_Tp_accept (x := 33) (by omega) hW (F5.tpc hT) at5 (by decide) (fun e3 I6 x1 x2 => ⟨fun _ => ?_, fun z => absurd rfl z⟩) (fun e3 I6 x1 x2 => ⟨fun z => absurd z (by decide), fun _ => ?_⟩)
              · rw [if_neg (fun z => e3 z.2)] at es
                exact ih (k + 1) q _ none I6 (by omega) y1 (F5.tr x1.p) (at5.sk x2) hk2 (DrC_t w1 x1) (fun q' I7 e7 => k0 q' I7 (es.trans e7)) (fun q' x I7 e7 => k1 q' x I7 (es.trans e7))
              · rw [if_pos ⟨rfl, e3⟩] at es
                have hlt := hr_lt (t := t) (p := q) (by rw [e3]; decide)
                have w6 := DrC_t w1 x1
                refine ih (k + 1) (skT t q + 1) _ (some k) _ (by omega) hlt ((F5.tr x1.p).tr ⟨fun a ha => ?_, fun j _ => by simp [up2]⟩) (AtC_of hlt (by simp [up2]; exact x2)) hk2 ?_ (fun q' I7 e7 => k0 q' I7 (es.trans e7)) (fun q' x I7 e7 => k1 q' x I7 (es.trans e7))
                · have : a ≠ 21 := by omega
                  simp [up2, this]
                · obtain ⟨⟨b1, b2, b3, b4⟩, c8, c9, c10, c15, c16⟩ := w6
                  refine ⟨⟨by simp [up2, upd]; exact b1, by simp [up2, upd]; exact b2, fun j hj => by simp [up2]; exact b3 j hj, fun j hj => by simp [up2]; exact b4 j hj⟩, by simp [up2, upd]; rfl, by simp [up2, upd]; exact c9, by simp [up2, upd]; exact c10, by simp [up2, upd]; exact c15, by simp [up2, upd]; exact c16⟩
            · have ln : ¬ lid = none := fun q => el (by rw [q]; rfl)
              rw [if_neg (fun z => ln z.1)] at es
              exact ih (k + 1) q _ lid I5 (by omega) y1 F5 at5 hk2 w1 (fun q' I7 e7 => k0 q' I7 (es.trans e7)) (fun q' x I7 e7 => k1 q' x I7 (es.trans e7))
      refine v_Tp_readPanels_31_21_4 ⟨fun _ => ⟨fun hk0 => ?_, fun hk0 => ?_⟩, fun q => absurd ((n_lt (b := 5) (by omega) (by decide)).mpr (by omega)) q⟩
      · have hk0 : 0 < k := (n_p0 (by omega)).mp hk0
        refine c_Tp_accept (x := 44) (by omega) hW (hF.tpc hT) hat (by decide) (fun e I' z1 z2 => ⟨fun _ => QI_i.mpr (k1 (skT t p) (B, lid) I' ?_ (hF.tr z1.p) (AtC_of hat.le z2) (DrC_t hD1 z1)), fun z => absurd rfl z⟩) (fun e I' z1 z2 => ⟨fun z => absurd z (by decide), fun _ => ?_⟩)
        · simp only [pPan]; rw [if_pos ⟨hk0, e⟩]
        · have hlt := hr_lt (t := t) (p := p) (by rw [e]; decide)
          exact tail (skT t p + 1) I' (by rw [if_pos hk0]) (fun q => q.2 e) hlt (hF.tr z1.p) (AtC_of hlt z2) (DrC_t hD1 z1)
      · have hk0 : ¬ 0 < k := fun q => hk0 ((n_p0 (by omega)).mpr q)
        exact tail p I1 (by rw [if_neg hk0]) (fun q => hk0 q.1) hp hF hat hD1
  exact CI.of (by omega) rfl (v_Tp_readPanels_31_21_0 (loop 5 0 0 Bx0 none I rfl (Nat.zero_le _) FrP.rf (AtC_of (Nat.zero_le _) h2) rfl hD h0 h1))
/-- what reading a box leaves alone -/
def FrR (I I' : I2) : Prop := ∀ a, (a < 21 ∨ 31 < a) → I' a = I a
theorem c_Tp_read (hd : 6 ≤ d) (hW : WFT t) (hT : TpC t I) (h0 : ∀ q I', boxR t = (q, none) → FrR I I' → I' 31 1 = 0 → F (-20 - nI q) I' J) (h1 : ∀ q x I', boxR t = (q, some x) → FrR I I' → I' 31 1 = 0 → DrC x.1 x.2 I' → F (nI x.1.pn) I' J) : CI d Tp_read [.ref 31, .ref 21] I J F := by
  refine CI.of (by omega) rfl (v_Tp_read_31_21_0 (CV.of (by omega) rfl (v_Bx_clear_21_0 (CV.of (by omega) rfl (v_Bx_forget_21_0 (QV_i.mpr (QV_i.mpr ?_)))))))
  generalize hI1 : up2 (up2 (up2 (up2 (up2 (up2 (up2 (up2 (up2 I 31 2 0) 21 2 0) 21 7 0) 21 8 0) 21 9 0) 21 10 0) 21 15 0) 21 16 0) 21 17 1 = I1
  have F1 : FrP I I1 := by
    subst hI1
    refine ⟨fun a ha => ?_, fun k hk => by simp [up2, upd, hk]⟩
    have z1 : a ≠ 21 := by omega
    have z2 : a ≠ 31 := by omega
    simp [up2, z1, z2]
  have e2 : I1 31 2 = 0 := by subst hI1; simp [up2, upd]
  have D1 : DrC Bx0 none I1 := by
    subst hI1
    refine ⟨⟨by simp [up2, upd]; rfl, by simp [up2, upd]; rfl, fun p hp => absurd hp (Nat.not_lt_zero p), fun p hp => absurd hp (Nat.not_lt_zero p)⟩, by simp [up2, upd]; rfl, by simp [up2, upd], by simp [up2, upd], by simp [up2, upd], by simp [up2, upd]⟩
  have fr : ∀ I', FrP I1 I' → FrR I (up2 I' 31 1 0) := by
    intro I' hF a ha
    have z : a ≠ 31 := by omega
    simp [up2, z]
    exact (F1.tr hF).1 a ha
  have bad : ∀ q I', boxR t = (q, none) → FrP I1 I' → I' 31 2 = nI q → QI F (some (.int (-20 - I' 31 2))) (up2 I' 31 1 0) J := by
    intro q I' e hF hq
    rw [hq]
    exact QI_i.mpr (h0 q _ e (fr I' hF) (by simp [up2, upd]))
  have drc : ∀ B lid I', DrC B lid I' → DrC B lid (up2 I' 31 1 0) := by
    intro B lid I' h
    obtain ⟨⟨b1, b2, b3, b4⟩, c8, c9, c10, c15, c16⟩ := h
    exact ⟨⟨by simp [up2]; exact b1, by simp [up2]; exact b2, fun j hj => by simp [up2]; exact b3 j hj, fun j hj => by simp [up2]; exact b4 j hj⟩, by simp [up2]; exact c8, by simp [up2]; exact c9, by simp [up2]; exact c10, by simp [up2]; exact c15, by simp [up2]; exact c16⟩
  have good : ∀ q x I', boxR t = (q, some x) → FrP I1 I' → DrC x.1 x.2 I' → QI F (some (.int (I' 21 2))) (up2 I' 31 1 0) J := by
    intro q x I' e hF hD
    rw [hD.1.1]
    exact QI_i.mpr (h1 q x _ e (fr I' hF) (by simp [up2, upd]) (drc _ _ _ hD))
  have hT1 := F1.tpc hT
  refine c_Tp_readPanels (by omega) hW hT1 e2 D1 (fun q I' e z1 z2 => ⟨fun _ => bad q I' ?_ z1 z2, fun z => absurd rfl z⟩) (fun q x I2 e z1 z2 z3 => ⟨fun z => absurd z (by decide), fun _ => ?_⟩)
  · unfold boxR; rw [e]
  · have hq := pPan_le 5 0 0 _ _ _ _ (Nat.zero_le _) e
    obtain ⟨w1, w2, w3, w4⟩ := pPan_wf 5 0 0 Bx0 none q x WFB_0 rfl rfl rfl (fun j hj => by cases hj) (Or.inr (by decide)) e
    have eb : boxR t = if hrT t q = 0 then (q, some x) else if hrT t q = 59 then (match pLks t 6 0 (skT t q + 1) x.1 with
        | (q', none) => (q', none)
        | (q', some B) => (q', some (B, x.2))) else (skT t q, none) := by
      unfold boxR; rw [e]; rfl
    refine c_Tp_isEnd (by omega) hW (z1.tpc hT1) z2 (fun I3 y1 y2 => ?_)
    have D3 := DrC_t z3 y1
    have F3 := z1.tr y1.p
    rw [bI_0, decide_eq_false_iff_not]
    refine ⟨fun e0 => ?_, fun e0 => ?_⟩
    · rw [if_neg e0] at eb
      refine c_Tp_accept (x := 59) (by omega) hW (F3.tpc hT1) (z2.sk y2) (by decide) (fun e5 I4 x1 x2 => ⟨fun _ => ?_, fun z => absurd rfl z⟩) (fun e5 I4 x1 x2 => ⟨fun z => absurd z (by decide), fun _ => ?_⟩)
      · rw [if_neg e5] at eb
        exact bad _ I4 eb (F3.tr x1.p) x2
      · rw [if_pos e5] at eb
        have hlt := hr_lt (t := t) (p := q) (by rw [e5]; decide)
        refine c_Tp_readLocks (by omega) hW ((F3.tr x1.p).tpc hT1) hlt (AtC_of hlt x2) w1 w2 w3 (DrC_t D3 x1) (fun q' I5 e6 v1 v2 => ⟨fun _ => bad q' I5 ?_ ((F3.tr x1.p).tr v1) v2, fun z => absurd rfl z⟩) (fun q' B' I5 e6 v1 v2 => ⟨fun z => absurd z (by decide), fun _ => good q' (B', x.2) I5 ?_ ((F3.tr x1.p).tr v1) v2⟩)
        · rw [eb, e6]
        · rw [eb, e6]
    · rw [if_pos (Classical.not_not.mp e0)] at eb
      exact good q x I3 eb F3 D3
theorem c_Sb_box (hd : 7 ≤ d) (hw : WFV V) (hV : CBx 1 V I) (hW : WFT t) (hT : TpC t I) (h : ∀ I', CBx 1 (boxS V t).2 I' → (∀ a, (a = 0 ∨ (10 < a ∧ a < 21) ∨ 31 < a) → I' a = I a) → (I' 1 17 = 1 ∨ (I' 1 = I 1 ∧ (boxS V t).2 = V)) → I' 31 1 = 0 → F (boxS V t).1 I' J) : CI d Sb_box [.ref 0] I J F := by
  refine CI.of (by omega) rfl (v_Sb_box_0_0 (c_Tp_read (by omega) hW hT (fun q I' e z1 z2 => ?_) (fun q x I' e z1 z2 z3 => ?_)))
  · have hq := boxR_le e
    have h90 := hW.1
    rw [show boxS V t = (-20 - nI q, V) from by unfold boxS; rw [e]] at h
    have hn : -20 - nI q < 0 := by
      rw [← Int32.neg_add, show (20 : Int32) + nI q = nI (20 + q) from nI_add 20 q, Int32.lt_iff_toInt_lt, sb_negT (by omega), show (0 : Int32).toInt = 0 from by decide]
      omega
    refine ⟨fun _ => QI_i.mpr (h I' ?_ (fun a ha => z1 a (by omega)) (Or.inr ⟨z1 1 (by decide), rfl⟩) z2), fun z => absurd hn z⟩
    exact CBx_copy hw hV (fun k _ => by rw [z1 1 (by decide)]) (fun p _ => ⟨by rw [z1 (1 + 1) (by decide)], by rw [z1 (1 + 2) (by decide)]⟩) (fun l _ => ⟨by rw [z1 (1 + 3) (by decide)], by rw [z1 (1 + 4) (by decide)], by rw [z1 (1 + 5) (by decide)], by rw [z1 (1 + 6) (by decide)]⟩) (fun k _ => ⟨by rw [z1 (1 + 7) (by decide)], by rw [z1 (1 + 8) (by decide)], by rw [z1 (1 + 9) (by decide)]⟩)
  · have hpn := (boxR_wf e).1.1
    have hwb := WF_box (t := t) hw
    have eb : boxS V t = (nI x.1.pn, (x.1, (lidN x.2, 0, 0, V.dr), [])) := by unfold boxS; rw [e]
    rw [eb] at h hwb
    refine ⟨fun z => absurd z (nI_pos (by omega)), fun _ => ?_⟩
    obtain ⟨⟨b1, b2, b3, b4⟩, c8, c9, c10, c15, c16⟩ := z3
    have e11 : I' 1 11 = nI V.dr := by rw [z1 1 (by decide)]; exact hV.2.2.2.2.1
    have C21 : CBx 21 (x.1, (lidN x.2, 0, 0, V.dr), []) (up2 I' 21 11 (I' 1 11)) := by
      refine ⟨⟨by simp [up2, upd]; exact b1, by simp [up2, upd]; exact b2, fun j hj => by simp [up2]; exact b3 j hj, fun j hj => by simp [up2]; exact b4 j hj⟩, by simp [up2, upd]; exact c8, by simp [up2, upd]; exact c9, by simp [up2, upd]; exact c10, by simp [up2, upd]; exact e11, by simp [up2, upd]; exact c15, 0, by decide, by simp [up2, upd]; exact c16, fun k y hy => (nil_get hy).elim⟩
    refine c_Bx_becomes_1_21 (by omega) hwb C21 (fun I2 y1 y2 y3 => QI_i.mpr (h I2 y1 (fun a ha => ?_) (Or.inl y2) ?_))
    · rw [y3 a (by omega)]
      have : a ≠ 21 := by omega
      simp [up2, this]
      exact z1 a (by omega)
    · rw [y3 31 (by decide)]; simp [up2]; exact z2
theorem c_Sb_type (hd : 2 ≤ d) (hW : WFT t) (hT : TpC t I) (x : Int32) (h : ∀ I', TpC (typeS t x).2 I' → (∀ a, a ≠ 31 → a ≠ 32 → I' a = I a) → F (typeS t x).1 I' J) : CI d Sb_type [.ref 0, .int x] I J F := by
  have h90 := hW.1
  refine CI.of (by omega) rfl (v_Sb_type_0_0 ⟨fun q => QI_i.mpr ?_, fun q1 => ⟨fun q => QI_i.mpr ?_, fun q2 => ?_⟩⟩)
  · rw [show typeS t x = (-1, t) from if_pos (Or.inl q)] at h; exact h I hT (fun _ _ _ => rfl)
  · rw [show typeS t x = (-1, t) from if_pos (Or.inr q)] at h; exact h I hT (fun _ _ _ => rfl)
  · have nb : ¬ (x < 32 ∨ 126 < x) := fun q => q.elim q1 q2
    have x0 : ¬ x < 0 := fun q => q1 (Int32.lt_trans q (by decide))
    obtain ⟨j, hj, rfl⟩ := le_of (n := 126) x0 q2 (by decide)
    rw [ch_i2c j (by omega)]
    refine CI.of (by omega) rfl (v_Tp_write_31_0 ?_)
    rw [hT.1, show (nI t.1 < 90) = (nI t.1 < nI 90) from rfl, n_lt (by omega) (by decide), n_tN (by omega), ch_nar j (by omega), n_inc]
    refine ⟨fun e => ⟨n_vp e (by decide), QI_i.mpr (QI_i.mpr ?_)⟩, fun e => QI_i.mpr (QI_i.mpr ?_)⟩
    · rw [show typeS t (nI j) = (nI (t.1 + 1), (t.1 + 1, updN t.2 t.1 (tN (nI j)))) from (if_neg nb).trans (if_pos e), n_tN (by omega)] at h
      refine h _ ⟨by simp [up2, upd], fun k hk => ?_⟩ (fun a a1 a2 => by simp [up2, a1, a2])
      have hk : k < t.1 + 1 := hk
      show _ = nI (updN t.2 t.1 j k)
      by_cases e3 : k = t.1
      · simp [up2, upd, updN, e3]
      · simp [up2, upd, updN, e3]; exact hT.2 k (by omega)
    · rw [show typeS t (nI j) = (-3, t) from (if_neg nb).trans (if_neg e)] at h
      exact h I hT (fun _ _ _ => rfl)
end TAPE4
end
section
/-! the tape: the model's small readers -/
def TpM (t : Tpe) (I : I2) : Prop := I 57 2 = nI t.1 ∧ ∀ k, k < t.1 → I 59 k = nI (t.2 k)
def AtM (t : Tpe) (p : Nat) (I : I2) : Prop := ∃ p', p' ≤ t.1 ∧ skT t p' = skT t p ∧ I 57 3 = nI p'
/-- what reading leaves alone: the model -/
def FrB (I I' : I2) : Prop := (∀ a, a ≠ 57 → a ≠ 60 → a ≠ 61 → I' a = I a) ∧ ∀ k, k ≠ 3 → k ≠ 4 → k ≠ 6 → I' 57 k = I 57 k
/-- the place and whether there is a fault alone -/
def FrU (I I' : I2) : Prop := (∀ a, a ≠ 57 → I' a = I a) ∧ ∀ k, k ≠ 3 → k ≠ 4 → I' 57 k = I 57 k
theorem FrB.rf {I : I2} : FrB I I := ⟨fun _ _ _ _ => rfl, fun _ _ _ _ => rfl⟩
theorem FrB.tr {I0 I1 I2 : I2} (h1 : FrB I0 I1) (h2 : FrB I1 I2) : FrB I0 I2 := ⟨fun a x y z => (h2.1 a x y z).trans (h1.1 a x y z), fun k x y z => (h2.2 k x y z).trans (h1.2 k x y z)⟩
theorem FrU.rf {I : I2} : FrU I I := ⟨fun _ _ => rfl, fun _ _ _ => rfl⟩
theorem FrU.tr {I0 I1 I2 : I2} (h1 : FrU I0 I1) (h2 : FrU I1 I2) : FrU I0 I2 := ⟨fun a x => (h2.1 a x).trans (h1.1 a x), fun k x y => (h2.2 k x y).trans (h1.2 k x y)⟩
theorem FrU.b {I I' : I2} (h : FrU I I') : FrB I I' := ⟨fun a x _ _ => h.1 a x, fun k x y _ => h.2 k x y⟩
theorem FrU_3 {I : I2} {x : Int32} : FrU I (up2 I 57 3 x) := ⟨fun a h => by simp [up2, h], fun k h _ => by simp [up2, upd, h]⟩
theorem FrU_4 {I : I2} {x : Int32} : FrU I (up2 I 57 4 x) := ⟨fun a h => by simp [up2, h], fun k _ h => by simp [up2, upd, h]⟩
theorem FrB.tpm {t : Tpe} {I I' : I2} (h : FrB I I') (hT : TpM t I) : TpM t I' := ⟨by rw [h.2 2 (by decide) (by decide) (by decide)]; exact hT.1, fun k hk => by rw [h.1 59 (by decide) (by decide) (by decide)]; exact hT.2 k hk⟩
theorem AtM_of {t : Tpe} {q : Nat} {I : I2} (hq : q ≤ t.1) (h : I 57 3 = nI q) : AtM t q I := ⟨q, hq, rfl, h⟩
theorem AtM.le {t : Tpe} {p : Nat} {I : I2} (h : AtM t p I) : skT t p ≤ t.1 := by
  obtain ⟨p', h1, h2, _⟩ := h
  rw [← h2]; exact sk_le h1
theorem AtM.ss {t : Tpe} {p : Nat} {I : I2} (h : AtM t p I) : skT t (skT t p) = skT t p := by
  obtain ⟨p', h1, h2, _⟩ := h
  rw [← h2]; exact sk_sk h1
theorem AtM.sk {t : Tpe} {p : Nat} {I I' : I2} (h : AtM t p I) (h2 : I' 57 3 = nI (skT t p)) : AtM t p I' := ⟨skT t p, h.le, h.ss, h2⟩
section TAPE5
variable {d p : Nat} {t : Tpe} {I : I2} {J : J2} {G : I2 → J2 → Prop} {F : Int32 → I2 → J2 → Prop}
/-- where it is read alone -/
def FrH (I I' : I2) : Prop := (∀ a, a ≠ 57 → I' a = I a) ∧ ∀ k, k ≠ 3 → I' 57 k = I 57 k
theorem FrH.u {I I' : I2} (h : FrH I I') : FrU I I' := ⟨h.1, fun k x _ => h.2 k x⟩
theorem FrH.tr {I0 I1 I2 : I2} (h1 : FrH I0 I1) (h2 : FrH I1 I2) : FrH I0 I2 := ⟨fun a x => (h2.1 a x).trans (h1.1 a x), fun k x => (h2.2 k x).trans (h1.2 k x)⟩
theorem FrH_3 {I : I2} {x : Int32} : FrH I (up2 I 57 3 x) := ⟨fun a h => by simp [up2, h], fun k h => by simp [up2, upd, h]⟩
theorem in_m48 {h lo hi : Nat} (hh : h < 200) (hlo : lo < 200) (hhi : hi < 200) : bI (decide (¬ (nI h - 48).toInt64 < (nI lo).toInt64) && decide (¬ (nI hi).toInt64 < (nI h - 48).toInt64)) = bI (decide (48 + lo ≤ h ∧ h ≤ 48 + hi)) := by
  have e := in_rng (x := nI h - 48) (lo := nI lo) (hi := nI hi) rfl rfl
  rw [show (48 : Int32) = nI 48 from rfl] at e ⊢
  rw [sub_lt (by omega) (by omega) (by omega), sub_gt (by omega) (by omega) (by omega), bI_0] at e
  congr 1
  by_cases c : 48 + lo ≤ h ∧ h ≤ 48 + hi
  · rw [decide_eq_true c]
    cases z : (decide (¬ (nI h - nI 48).toInt64 < (nI lo).toInt64) && decide (¬ (nI hi).toInt64 < (nI h - nI 48).toInt64)) with
    | true => rfl
    | false => have := e.mp z; omega
  · rw [decide_eq_false c]
    exact e.mpr (by omega)
end TAPE5
end
section
/-! the tape: the model reads panels -/
/-- what is read so far -/
def RpM (B : Bx) (I : I2) : Prop := ∀ k, k < B.pn → I 60 (2 * k) = nI (B.kd k) ∧ I 60 (2 * k + 1) = nI (B.dp k)
def RlM (B : Bx) (I : I2) : Prop := ∀ l, l < B.ln → I 61 (4 * l) = nI (B.ow l) ∧ I 61 (4 * l + 1) = nI (B.wy l) ∧ I 61 (4 * l + 2) = nI (B.ot l) ∧ I 61 (4 * l + 3) = nI (B.ps l)
/-- so it will be a fault at q -/
def badP (t : Tpe) (z : Nat × Option (Bx × Option Nat)) (q : Nat) : Prop := (z.2 = none ∧ z.1 = q) ∨ ((∃ x, z.2 = some x) ∧ q = skT t z.1 ∧ hrT t z.1 ≠ 0 ∧ hrT t z.1 ≠ 59)
section TAPE6
variable {d : Nat} {t : Tpe} {I : I2} {J : J2} {G : I2 → J2 → Prop} {F : Int32 → I2 → J2 → Prop}
theorem RpM_u {B : Bx} {I I' : I2} (h : RpM B I) (hF : FrU I I') : RpM B I' := fun k hk => by rw [hF.1 60 (by decide)]; exact h k hk
theorem RlM_u {B : Bx} {I I' : I2} (h : RlM B I) (hF : FrU I I') : RlM B I' := fun k hk => by rw [hF.1 61 (by decide)]; exact h k hk
theorem FrB_60 {I : I2} {k : Nat} {x : Int32} : FrB I (up2 I 60 k x) := ⟨fun a _ h _ => by simp [up2, h], fun k _ _ _ => by simp [up2]⟩
theorem FrB_61 {I : I2} {k : Nat} {x : Int32} : FrB I (up2 I 61 k x) := ⟨fun a _ _ h => by simp [up2, h], fun k _ _ _ => by simp [up2]⟩
theorem FrB_6 {I : I2} {x : Int32} : FrB I (up2 I 57 6 x) := ⟨fun a h _ _ => by simp [up2, h], fun k _ _ h => by simp [up2, upd, h]⟩
/-- two lids told -/
theorem bad_two {r k q : Nat} {B : Bx} {lid : Option Nat} (hq : q ≤ t.1) (hk : 0 < k) (hl : lid ≠ none) (h : hrT t q = 33) : badP t (pPan t r k q B lid) (skT t q) := by
  cases r with
  | zero => simp only [pPan]; exact Or.inr ⟨⟨_, rfl⟩, rfl, by rw [h]; decide, by rw [h]; decide⟩
  | succ r =>
    simp only [pPan]
    rw [if_pos ⟨hk, by rw [h]; decide⟩]
    exact Or.inr ⟨⟨_, rfl⟩, (sk_sk hq).symm, by rw [hr_sk hq, h]; decide, by rw [hr_sk hq, h]; decide⟩
theorem oI_neg {o : Option Nat} (h : ∀ k, o = some k → k < 2 ^ 31) : oI o < 0 ↔ o = none := by
  cases o with
  | none => exact ⟨fun _ => rfl, fun _ => by decide⟩
  | some k => exact ⟨fun q => absurd q (nI_pos (h k rfl)), fun q => by cases q⟩
end TAPE6
end
section
/-! the tape: the calls of the model -/
section TAPE8
variable {d : Nat} {t : Tpe} {V : Bv} {I : I2} {J : J2} {G : I2 → J2 → Prop} {F : Int32 → I2 → J2 → Prop}
theorem badP_box {q : Nat} (h : badP t (pPan t 5 0 0 Bx0 none) q) : boxR t = (q, none) := by
  unfold boxR
  generalize pPan t 5 0 0 Bx0 none = z at h ⊢
  obtain ⟨z1, z2⟩ := z
  rcases h with ⟨e1, e2⟩ | ⟨⟨x, e1⟩, e2, e3, e4⟩
  · dsimp only at e1 e2
    subst e1; subst e2; rfl
  · dsimp only at e1 e2 e3 e4
    subst e1; subst e2
    dsimp only
    rw [if_neg e3, if_neg e4]
/-- what a box that is read leaves alone -/
def FrX2 (I I' : I2) : Prop := (∀ a, a ≠ 57 → a ≠ 58 → a ≠ 60 → a ≠ 61 → I' a = I a) ∧ ∀ k, k ≠ 2 → k ≠ 3 → k ≠ 4 → k ≠ 6 → k ≠ 9 → I' 57 k = I 57 k
end TAPE8
end
section
/-! both sides beside one state: box, image, tape, sheets -/
def WFg (V : Bv) (K : Option Bv) (t : Tpe) (S : Nat → Shv) : Prop := WFV V ∧ (∀ VK, K = some VK → WFV VK) ∧ WFT t ∧ WFSs S
def RelC (V : Bv) (K : Option Bv) (t : Tpe) (S : Nat → Shv) (I : I2) (J : J2) : Prop := CBx 1 V I ∧ CaR V.B I ∧ I 0 3 = bI K.isSome ∧ (∀ VK, K = some VK → CBx 11 VK I) ∧ TpC t I ∧ ShCs S I J
def RelM (V : Bv) (K : Option Bv) (t : Tpe) (S : Nat → Shv) (I : I2) (J : J2) : Prop := MBx V I ∧ I 57 23 = bI K.isSome ∧ (∀ VK, K = some VK → KMx VK I) ∧ TpM t I ∧ ShMs S I J ∧ ∀ k, KnV (I 69 k)
def Rel (V : Bv) (K : Option Bv) (t : Tpe) (S : Nat → Shv) (I : I2) (J : J2) : Prop := WFg V K t S ∧ RelC V K t S I J ∧ RelM V K t S I J
/-- what calls of the class, of the model leave alone -/
def FrCt (I I' : I2) (J J' : J2) : Prop := ∀ a, 57 ≤ a → I' a = I a ∧ J' a = J a
def FrMt (I I' : I2) (J J' : J2) : Prop := ∀ a, (a < 57 ∨ 78 ≤ a) → I' a = I a ∧ J' a = J a
section REL2
variable {V V' : Bv} {K : Option Bv} {t t' : Tpe} {S S' : Nat → Shv} {I I' : I2} {J J' : J2} {b : Nat} {B : Bx}
theorem CBx_cg (h : CBx b V I) (e : ∀ a, b ≤ a → a ≤ b + 9 → I' a = I a) : CBx b V I' := by
  have e0 := e b (by omega) (by omega)
  have e1 := e (b + 1) (by omega) (by omega)
  have e2 := e (b + 2) (by omega) (by omega)
  have e3 := e (b + 3) (by omega) (by omega)
  have e4 := e (b + 4) (by omega) (by omega)
  have e5 := e (b + 5) (by omega) (by omega)
  have e6 := e (b + 6) (by omega) (by omega)
  have e7 := e (b + 7) (by omega) (by omega)
  have e8 := e (b + 8) (by omega) (by omega)
  have e9 := e (b + 9) (by omega) (by omega)
  unfold CBx BoxI at h ⊢
  rw [e0, e1, e2, e3, e4, e5, e6, e7, e8, e9]; exact h
theorem CaR_cg (h : CaR B I) (e17 : I' 1 17 = I 1 17) (e : ∀ a, 33 ≤ a → a ≤ 40 → I' a = I a) : CaR B I' := by
  have e0 := e 33 (by omega) (by omega)
  have e1 := e 34 (by omega) (by omega)
  have e2 := e 35 (by omega) (by omega)
  have e3 := e 36 (by omega) (by omega)
  have e4 := e 37 (by omega) (by omega)
  have e5 := e 38 (by omega) (by omega)
  have e6 := e 39 (by omega) (by omega)
  have e7 := e 40 (by omega) (by omega)
  unfold CaR ChR WkR at h ⊢
  rw [e17, e0, e1, e2, e3, e4, e5, e6, e7]; exact h
theorem TpC_cg (h : TpC t I) (e1 : I' 31 1 = I 31 1) (e2 : I' 32 = I 32) : TpC t I' := by
  unfold TpC at h ⊢
  rw [e1, e2]; exact h
theorem ShCs_cg (h : ShCs S I J) (e : ∀ a, 49 ≤ a → a ≤ 56 → I' a = I a ∧ J' a = J a) : ShCs S I' J' := fun j hj => ShC_congr (h j hj) (e _ (by omega) (by omega)).1 (e _ (by omega) (by omega)).2
theorem KMx_cg (h : KMx V I) (e1 : I' 73 = I 73) (e2 : I' 57 22 = I 57 22) : KMx V I' := by
  unfold KMx at h ⊢
  rw [e1, e2]; exact h
theorem MBx_cg (h : MBx V I) (e1 : I' 58 = I 58) (e2 : I' 62 = I 62) (e3 : I' 57 9 = I 57 9) : MBx V I' := by
  show MRw V (I' 58) (I' 62) (I' 57 9)
  rw [e1, e2, e3]; exact h
theorem TpM_cg (h : TpM t I) (e1 : I' 57 2 = I 57 2) (e2 : I' 59 = I 59) : TpM t I' := by
  unfold TpM at h ⊢
  rw [e1, e2]; exact h
theorem ShMs_cg (h : ShMs S I J) (e1 : I' 74 = I 74) (e2 : I' 75 = I 75) (e3 : J' 76 = J 76) : ShMs S I' J' := fun j hj => ShM_congr (h j hj) (by rw [e1]) (by rw [e2]) (fun k _ => by rw [e3])
theorem rc_fr (h : RelC V K t S I J) (f : FrMt I I' J J') : RelC V K t S I' J' := by
  obtain ⟨a1, a2, a3, a4, a5, a6⟩ := h
  have e : ∀ a, a < 57 → I' a = I a := fun a x => (f a (Or.inl x)).1
  exact ⟨CBx_cg a1 (fun a _ x => e a (by omega)), CaR_cg a2 (by rw [e 1 (by decide)]) (fun a _ x => e a (by omega)), by rw [e 0 (by decide)]; exact a3, fun VK q => CBx_cg (a4 VK q) (fun a _ x => e a (by omega)), TpC_cg a5 (by rw [e 31 (by decide)]) (e 32 (by decide)), ShCs_cg a6 (fun a _ x => f a (by omega))⟩
theorem rm_fr (h : RelM V K t S I J) (f : FrCt I I' J J') : RelM V K t S I' J' := by
  obtain ⟨a1, a2, a3, a4, a5, a6⟩ := h
  have e : ∀ a, 57 ≤ a → I' a = I a := fun a x => (f a x).1
  have e57 := e 57 (by decide)
  exact ⟨MBx_cg a1 (e 58 (by decide)) (e 62 (by decide)) (by rw [e57]), by rw [e57]; exact a2, fun VK q => KMx_cg (a3 VK q) (e 73 (by decide)) (by rw [e57]), TpM_cg a4 (by rw [e57]) (e 59 (by decide)), ShMs_cg a5 (e 74 (by decide)) (e 75 (by decide)) (f 76 (by decide)).2, fun k => by rw [e 69 (by decide)]; exact a6 k⟩
theorem rc_op (h : RelC V K t S I J) (hV : CBx 1 V' I') (f : FrC V V' I I') : RelC V' K t S I' J ∧ FrCt I I' J J := by
  obtain ⟨a1, a2, a3, a4, a5, a6⟩ := h
  have e : ∀ a, 11 ≤ a → I' a = I a := fun a x => f.1 a (Or.inr x)
  refine ⟨⟨hV, ?_, by rw [f.1 0 (Or.inl rfl)]; exact a3, fun VK q => CBx_cg (a4 VK q) (fun a x _ => e a (by omega)), TpC_cg a5 (by rw [e 31 (by decide)]) (e 32 (by decide)), ShCs_cg a6 (fun a x _ => ⟨e a (by omega), rfl⟩)⟩, fun a x => ⟨e a (by omega), rfl⟩⟩
  rcases f.2 with z | ⟨z, zB⟩
  · exact Or.inl z
  · rw [zB]; exact CaR_cg a2 z (fun a x _ => e a (by omega))
theorem rc_g (h : RelC V K t S I J) (f : FrG I I') (hC : CaR V.B I') : RelC V K t S I' J ∧ FrCt I I' J J := by
  obtain ⟨a1, a2, a3, a4, a5, a6⟩ := h
  have e : ∀ a, (a < 33 ∨ 47 < a) → a ≠ 1 → I' a = I a := f.1
  exact ⟨⟨f.cbx a1, hC, by rw [e 0 (by decide) (by decide)]; exact a3, fun VK q => CBx_cg (a4 VK q) (fun a x y => e a (by omega) (by omega)), TpC_cg a5 (by rw [e 31 (by decide) (by decide)]) (e 32 (by decide) (by decide)), ShCs_cg a6 (fun a x _ => ⟨e a (by omega) (by omega), rfl⟩)⟩, fun a x => ⟨e a (by omega) (by omega), rfl⟩⟩
theorem rc_sh (h : RelC V K t S I J) (hS : ShCs S' I' J') (f : FrSh I I' J J') : RelC V K t S' I' J' ∧ FrCt I I' J J' := by
  obtain ⟨a1, a2, a3, a4, a5, a6⟩ := h
  have e : ∀ a, a < 49 → I' a = I a := fun a x => (f a (Or.inl x)).1
  exact ⟨⟨CBx_cg a1 (fun a _ x => e a (by omega)), CaR_cg a2 (by rw [e 1 (by decide)]) (fun a _ x => e a (by omega)), by rw [e 0 (by decide)]; exact a3, fun VK q => CBx_cg (a4 VK q) (fun a _ x => e a (by omega)), TpC_cg a5 (by rw [e 31 (by decide)]) (e 32 (by decide)), hS⟩, fun a x => f a (by omega)⟩
theorem rc_cl (h : RelC V K t S I J) (f : ∀ a, (a < 21 ∨ 30 < a) → I' a = I a) : RelC V K t S I' J ∧ FrCt I I' J J := by
  obtain ⟨a1, a2, a3, a4, a5, a6⟩ := h
  exact ⟨⟨CBx_cg a1 (fun a _ x => f a (by omega)), CaR_cg a2 (by rw [f 1 (by decide)]) (fun a x _ => f a (by omega)), by rw [f 0 (by decide)]; exact a3, fun VK q => CBx_cg (a4 VK q) (fun a _ x => f a (by omega)), TpC_cg a5 (by rw [f 31 (by decide)]) (f 32 (by decide)), ShCs_cg a6 (fun a x _ => ⟨f a (by omega), rfl⟩)⟩, fun a x => ⟨f a (by omega), rfl⟩⟩
theorem rc_img (h : RelC V K t S I J) (hV : CBx 11 V I') (h3 : I' 0 3 = 1) (f : ∀ a, a ≠ 0 → (a < 11 ∨ 20 < a) → I' a = I a) : RelC V (some V) t S I' J ∧ FrCt I I' J J := by
  obtain ⟨a1, a2, a3, a4, a5, a6⟩ := h
  exact ⟨⟨CBx_cg a1 (fun a _ x => f a (by omega) (by omega)), CaR_cg a2 (by rw [f 1 (by decide) (by decide)]) (fun a x _ => f a (by omega) (by omega)), h3, fun VK q => by cases q; exact hV, TpC_cg a5 (by rw [f 31 (by decide) (by decide)]) (f 32 (by decide) (by decide)), ShCs_cg a6 (fun a x _ => ⟨f a (by omega) (by omega), rfl⟩)⟩, fun a x => ⟨f a (by omega) (by omega), rfl⟩⟩
theorem rc_res (h : RelC V K t S I J) (hV : CBx 1 V' I') (h17 : I' 1 17 = 1) (f : ∀ a, (a < 1 ∨ 10 < a) → I' a = I a) : RelC V' K t S I' J ∧ FrCt I I' J J :=
  rc_op h hV ⟨fun a x => f a (by omega), Or.inl h17⟩
theorem rc_type (h : RelC V K t S I J) (hT : TpC t' I') (f : ∀ a, a ≠ 31 → a ≠ 32 → I' a = I a) : RelC V K t' S I' J ∧ FrCt I I' J J := by
  obtain ⟨a1, a2, a3, a4, a5, a6⟩ := h
  exact ⟨⟨CBx_cg a1 (fun a _ x => f a (by omega) (by omega)), CaR_cg a2 (by rw [f 1 (by decide) (by decide)]) (fun a x _ => f a (by omega) (by omega)), by rw [f 0 (by decide) (by decide)]; exact a3, fun VK q => CBx_cg (a4 VK q) (fun a _ x => f a (by omega) (by omega)), hT, ShCs_cg a6 (fun a x _ => ⟨f a (by omega) (by omega), rfl⟩)⟩, fun a x => ⟨f a (by omega) (by omega), rfl⟩⟩
theorem rc_box (h : RelC V K t S I J) (hV : CBx 1 V' I') (f : ∀ a, (a = 0 ∨ (10 < a ∧ a < 21) ∨ 31 < a) → I' a = I a) (h17 : I' 1 17 = 1 ∨ (I' 1 = I 1 ∧ V' = V)) (h31 : I' 31 1 = 0) : RelC V' K (0, t.2) S I' J ∧ FrCt I I' J J := by
  obtain ⟨a1, a2, a3, a4, a5, a6⟩ := h
  refine ⟨⟨hV, ?_, by rw [f 0 (Or.inl rfl)]; exact a3, fun VK q => CBx_cg (a4 VK q) (fun a x y => f a (by omega)), ⟨h31, fun k hk => absurd hk (Nat.not_lt_zero k)⟩, ShCs_cg a6 (fun a x _ => ⟨f a (by omega), rfl⟩)⟩, fun a x => ⟨f a (by omega), rfl⟩⟩
  rcases h17 with z | ⟨z, zV⟩
  · exact Or.inl z
  · rw [zV]; exact CaR_cg a2 (by rw [z]) (fun a x _ => f a (by omega))
theorem rm_n (h : RelM V K t S I J) (hV : MBx V' I') (f : FrN I I') : RelM V' K t S I' J ∧ FrMt I I' J J := by
  obtain ⟨a1, a2, a3, a4, a5, a6⟩ := h
  have e : ∀ a, a ≠ 57 → a ≠ 58 → a ≠ 62 → I' a = I a := f.1
  exact ⟨⟨hV, by rw [f.2 23 (by decide)]; exact a2, fun VK q => KMx_cg (a3 VK q) (e 73 (by decide) (by decide) (by decide)) (f.2 22 (by decide)), TpM_cg a4 (f.2 2 (by decide)) (e 59 (by decide) (by decide) (by decide)), ShMs_cg a5 (e 74 (by decide) (by decide) (by decide)) (e 75 (by decide) (by decide) (by decide)) rfl, fun k => by rw [e 69 (by decide) (by decide) (by decide)]; exact a6 k⟩, fun a x => ⟨e a (by omega) (by omega) (by omega), rfl⟩⟩
theorem rm_j (h : RelM V K t S I J) (f : FrQ I I') (g : FrJ J J') : RelM V K t S I' J' ∧ FrMt I I' J J' := by
  obtain ⟨a1, a2, a3, a4, a5, a6⟩ := h
  have e : ∀ a, (a < 63 ∨ 70 < a) → a ≠ 57 → I' a = I a := f.1
  exact ⟨⟨f.mbx a1, by rw [f.2.1 23 (by decide)]; exact a2, fun VK q => KMx_cg (a3 VK q) (e 73 (by decide) (by decide)) (f.2.1 22 (by decide)), TpM_cg a4 (f.2.1 2 (by decide)) (e 59 (by decide) (by decide)), ShMs_cg a5 (e 74 (by decide) (by decide)) (e 75 (by decide) (by decide)) (g 76 (by decide) (by decide)), fun k => f.2.2 k (a6 k)⟩, fun a x => ⟨e a (by omega) (by omega), g a (by omega) (by omega)⟩⟩
theorem rm_q (h : RelM V K t S I J) (f : FrQ I I') : RelM V K t S I' J ∧ FrMt I I' J J := rm_j h f FrJ.rf
theorem rm_sh (h : RelM V K t S I J) (hS : ShMs S' I' J') (f : FrSi I I') (g : FrSj J J') : RelM V K t S' I' J' ∧ FrMt I I' J J' := by
  obtain ⟨a1, a2, a3, a4, a5, a6⟩ := h
  have e : ∀ a, a ≠ 74 → a ≠ 75 → I' a = I a := f
  have e57 := e 57 (by decide) (by decide)
  exact ⟨⟨MBx_cg a1 (e 58 (by decide) (by decide)) (e 62 (by decide) (by decide)) (by rw [e57]), by rw [e57]; exact a2, fun VK q => KMx_cg (a3 VK q) (e 73 (by decide) (by decide)) (by rw [e57]), TpM_cg a4 (by rw [e57]) (e 59 (by decide) (by decide)), hS, fun k => by rw [e 69 (by decide) (by decide)]; exact a6 k⟩, fun a x => ⟨e a (by omega) (by omega), g a (by omega) (by omega)⟩⟩
theorem rm_img (h : RelM V K t S I J) (hV : KMx V I') (h3 : I' 57 23 = 1) (f : ∀ a, a ≠ 57 → a ≠ 73 → I' a = I a) (g : ∀ k, k ≠ 22 → k ≠ 23 → I' 57 k = I 57 k) : RelM V (some V) t S I' J ∧ FrMt I I' J J := by
  obtain ⟨a1, a2, a3, a4, a5, a6⟩ := h
  exact ⟨⟨MBx_cg a1 (f 58 (by decide) (by decide)) (f 62 (by decide) (by decide)) (g 9 (by decide) (by decide)), h3, fun VK q => by cases q; exact hV, TpM_cg a4 (g 2 (by decide) (by decide)) (f 59 (by decide) (by decide)), ShMs_cg a5 (f 74 (by decide) (by decide)) (f 75 (by decide) (by decide)) rfl, fun k => by rw [f 69 (by decide) (by decide)]; exact a6 k⟩, fun a x => ⟨f a (by omega) (by omega), rfl⟩⟩
theorem rm_type (h : RelM V K t S I J) (hT : TpM t' I') (f : ∀ a, a ≠ 57 → a ≠ 59 → I' a = I a) (g : ∀ k, k ≠ 2 → I' 57 k = I 57 k) : RelM V K t' S I' J ∧ FrMt I I' J J := by
  obtain ⟨a1, a2, a3, a4, a5, a6⟩ := h
  exact ⟨⟨MBx_cg a1 (f 58 (by decide) (by decide)) (f 62 (by decide) (by decide)) (g 9 (by decide)), by rw [g 23 (by decide)]; exact a2, fun VK q => KMx_cg (a3 VK q) (f 73 (by decide) (by decide)) (g 22 (by decide)), hT, ShMs_cg a5 (f 74 (by decide) (by decide)) (f 75 (by decide) (by decide)) rfl, fun k => by rw [f 69 (by decide) (by decide)]; exact a6 k⟩, fun a x => ⟨f a (by omega) (by omega), rfl⟩⟩
theorem rm_box (h : RelM V K t S I J) (hV : MBx V' I') (f : FrX2 I I') (h2 : I' 57 2 = 0) : RelM V' K (0, t.2) S I' J ∧ FrMt I I' J J := by
  obtain ⟨a1, a2, a3, a4, a5, a6⟩ := h
  have e : ∀ a, a ≠ 57 → a ≠ 58 → a ≠ 60 → a ≠ 61 → I' a = I a := f.1
  exact ⟨⟨hV, by rw [f.2 23 (by decide) (by decide) (by decide) (by decide) (by decide)]; exact a2, fun VK q => KMx_cg (a3 VK q) (e 73 (by decide) (by decide) (by decide) (by decide)) (f.2 22 (by decide) (by decide) (by decide) (by decide) (by decide)), ⟨h2, fun k hk => absurd hk (Nat.not_lt_zero k)⟩, ShMs_cg a5 (e 74 (by decide) (by decide) (by decide) (by decide)) (e 75 (by decide) (by decide) (by decide) (by decide)) rfl, fun k => by rw [e 69 (by decide) (by decide) (by decide) (by decide)]; exact a6 k⟩, fun a x => ⟨e a (by omega) (by omega) (by omega) (by omega), rfl⟩⟩
theorem fc_rf : FrCt I I J J := fun _ _ => ⟨rfl, rfl⟩
theorem fm_rf : FrMt I I J J := fun _ _ => ⟨rfl, rfl⟩
end REL2
end
