section
-- ===== PART A: goes FIRST, ahead of the names: the tables' words, and 'selects' of the private methods out of them =====
/-- a private method of a class that the tables say can be made, by its rows of tables_1 -/
def lw_okq (q : MethodName × Nat) : Prop := (q.1.cls ≠ "java/lang/invoke/MethodHandle" ∧ q.1.cls ≠ "java/lang/invoke/VarHandle") ∧ Cond.instantiable q.1.cls q.2 ∈ tables_1 ∧ Cond.privateMethod q.1 ∈ tables_1 ∧ Cond.instanceMethod q.1 ∈ tables_1
theorem lw_p0 : lw_okq (⟨"SecretBox$Box", "ringLets", "(II)Z"⟩, 18) := ⟨⟨by decide +kernel, by decide +kernel⟩, List.mem_of_getElem? (i := 25) (by decide +kernel), List.mem_of_getElem? (i := 299) (by decide +kernel), List.mem_of_getElem? (i := 300) (by decide +kernel)⟩
theorem lw_p1 : lw_okq (⟨"SecretBox$Tape", "readPanels", "(LSecretBox$Box;)Z"⟩, 3) := ⟨⟨by decide +kernel, by decide +kernel⟩, List.mem_of_getElem? (i := 105) (by decide +kernel), List.mem_of_getElem? (i := 344) (by decide +kernel), List.mem_of_getElem? (i := 345) (by decide +kernel)⟩
theorem lw_p2 : lw_okq (⟨"SecretBox$Tape", "accept", "(C)Z"⟩, 3) := ⟨⟨by decide +kernel, by decide +kernel⟩, List.mem_of_getElem? (i := 105) (by decide +kernel), List.mem_of_getElem? (i := 348) (by decide +kernel), List.mem_of_getElem? (i := 349) (by decide +kernel)⟩
theorem lw_p3 : lw_okq (⟨"SecretBox$Tape", "peek", "()C"⟩, 3) := ⟨⟨by decide +kernel, by decide +kernel⟩, List.mem_of_getElem? (i := 105) (by decide +kernel), List.mem_of_getElem? (i := 352) (by decide +kernel), List.mem_of_getElem? (i := 353) (by decide +kernel)⟩
theorem lw_p4 : lw_okq (⟨"SecretBox$Tape", "oneOf", "(Ljava/lang/String;)I"⟩, 3) := ⟨⟨by decide +kernel, by decide +kernel⟩, List.mem_of_getElem? (i := 105) (by decide +kernel), List.mem_of_getElem? (i := 357) (by decide +kernel), List.mem_of_getElem? (i := 358) (by decide +kernel)⟩
theorem lw_p5 : lw_okq (⟨"SecretBox$Tape", "digit", "(II)I"⟩, 3) := ⟨⟨by decide +kernel, by decide +kernel⟩, List.mem_of_getElem? (i := 105) (by decide +kernel), List.mem_of_getElem? (i := 447) (by decide +kernel), List.mem_of_getElem? (i := 448) (by decide +kernel)⟩
theorem lw_p6 : lw_okq (⟨"SecretBox$Tape", "isEnd", "()Z"⟩, 3) := ⟨⟨by decide +kernel, by decide +kernel⟩, List.mem_of_getElem? (i := 105) (by decide +kernel), List.mem_of_getElem? (i := 452) (by decide +kernel), List.mem_of_getElem? (i := 453) (by decide +kernel)⟩
theorem lw_p7 : lw_okq (⟨"SecretBox$Tape", "readLocks", "(LSecretBox$Box;)Z"⟩, 3) := ⟨⟨by decide +kernel, by decide +kernel⟩, List.mem_of_getElem? (i := 105) (by decide +kernel), List.mem_of_getElem? (i := 456) (by decide +kernel), List.mem_of_getElem? (i := 457) (by decide +kernel)⟩
theorem lw_p8 : lw_okq (⟨"SecretBox$Tape", "readLock", "(LSecretBox$Box;)Z"⟩, 3) := ⟨⟨by decide +kernel, by decide +kernel⟩, List.mem_of_getElem? (i := 105) (by decide +kernel), List.mem_of_getElem? (i := 460) (by decide +kernel), List.mem_of_getElem? (i := 461) (by decide +kernel)⟩
theorem lw_p9 : lw_okq (⟨"SecretBox$Tape", "readPlaces", "(I)I"⟩, 3) := ⟨⟨by decide +kernel, by decide +kernel⟩, List.mem_of_getElem? (i := 105) (by decide +kernel), List.mem_of_getElem? (i := 466) (by decide +kernel), List.mem_of_getElem? (i := 467) (by decide +kernel)⟩
theorem lw_p10 : lw_okq (⟨"SecretBox$Box", "slipsBack", "(II)Z"⟩, 18) := ⟨⟨by decide +kernel, by decide +kernel⟩, List.mem_of_getElem? (i := 25) (by decide +kernel), List.mem_of_getElem? (i := 508) (by decide +kernel), List.mem_of_getElem? (i := 509) (by decide +kernel)⟩
theorem lw_p11 : lw_okq (⟨"SecretBox$Walk", "chart", "()V"⟩, 12) := ⟨⟨by decide +kernel, by decide +kernel⟩, List.mem_of_getElem? (i := 122) (by decide +kernel), List.mem_of_getElem? (i := 559) (by decide +kernel), List.mem_of_getElem? (i := 560) (by decide +kernel)⟩
theorem lw_p12 : lw_okq (⟨"SecretBox$Walk", "chartMove", "(II)V"⟩, 12) := ⟨⟨by decide +kernel, by decide +kernel⟩, List.mem_of_getElem? (i := 122) (by decide +kernel), List.mem_of_getElem? (i := 567) (by decide +kernel), List.mem_of_getElem? (i := 568) (by decide +kernel)⟩
theorem lw_p13 : lw_okq (⟨"SecretBox$Walk", "visit", "(I)V"⟩, 12) := ⟨⟨by decide +kernel, by decide +kernel⟩, List.mem_of_getElem? (i := 122) (by decide +kernel), List.mem_of_getElem? (i := 574) (by decide +kernel), List.mem_of_getElem? (i := 575) (by decide +kernel)⟩
theorem lw_p14 : lw_okq (⟨"SecretBox$Endgame", "begin", "()V"⟩, 9) := ⟨⟨by decide +kernel, by decide +kernel⟩, List.mem_of_getElem? (i := 169) (by decide +kernel), List.mem_of_getElem? (i := 616) (by decide +kernel), List.mem_of_getElem? (i := 617) (by decide +kernel)⟩
theorem lw_p15 : lw_okq (⟨"SecretBox$Endgame", "chain", "(I)V"⟩, 9) := ⟨⟨by decide +kernel, by decide +kernel⟩, List.mem_of_getElem? (i := 169) (by decide +kernel), List.mem_of_getElem? (i := 620) (by decide +kernel), List.mem_of_getElem? (i := 621) (by decide +kernel)⟩
def lw_privs_1 : List (MethodName × Nat) := [(⟨"SecretBox$Box", "ringLets", "(II)Z"⟩, 18), (⟨"SecretBox$Tape", "readPanels", "(LSecretBox$Box;)Z"⟩, 3), (⟨"SecretBox$Tape", "accept", "(C)Z"⟩, 3), (⟨"SecretBox$Tape", "peek", "()C"⟩, 3), (⟨"SecretBox$Tape", "oneOf", "(Ljava/lang/String;)I"⟩, 3), (⟨"SecretBox$Tape", "digit", "(II)I"⟩, 3), (⟨"SecretBox$Tape", "isEnd", "()Z"⟩, 3), (⟨"SecretBox$Tape", "readLocks", "(LSecretBox$Box;)Z"⟩, 3), (⟨"SecretBox$Tape", "readLock", "(LSecretBox$Box;)Z"⟩, 3), (⟨"SecretBox$Tape", "readPlaces", "(I)I"⟩, 3), (⟨"SecretBox$Box", "slipsBack", "(II)Z"⟩, 18), (⟨"SecretBox$Walk", "chart", "()V"⟩, 12), (⟨"SecretBox$Walk", "chartMove", "(II)V"⟩, 12), (⟨"SecretBox$Walk", "visit", "(I)V"⟩, 12), (⟨"SecretBox$Endgame", "begin", "()V"⟩, 9), (⟨"SecretBox$Endgame", "chain", "(I)V"⟩, 9)]
theorem lw_r1 : ∀ q ∈ lw_privs_1, lw_okq q := List.forall_mem_cons.mpr ⟨lw_p0, List.forall_mem_cons.mpr ⟨lw_p1, List.forall_mem_cons.mpr ⟨lw_p2, List.forall_mem_cons.mpr ⟨lw_p3, List.forall_mem_cons.mpr ⟨lw_p4, List.forall_mem_cons.mpr ⟨lw_p5, List.forall_mem_cons.mpr ⟨lw_p6, List.forall_mem_cons.mpr ⟨lw_p7, List.forall_mem_cons.mpr ⟨lw_p8, List.forall_mem_cons.mpr ⟨lw_p9, List.forall_mem_cons.mpr ⟨lw_p10, List.forall_mem_cons.mpr ⟨lw_p11, List.forall_mem_cons.mpr ⟨lw_p12, List.forall_mem_cons.mpr ⟨lw_p13, List.forall_mem_cons.mpr ⟨lw_p14, List.forall_mem_cons.mpr ⟨lw_p15, fun _ h => absurd h List.not_mem_nil⟩⟩⟩⟩⟩⟩⟩⟩⟩⟩⟩⟩⟩⟩⟩⟩
theorem lw_p16 : lw_okq (⟨"SecretBox$Endgame", "settle", "(III)V"⟩, 9) := ⟨⟨by decide +kernel, by decide +kernel⟩, List.mem_of_getElem? (i := 169) (by decide +kernel), List.mem_of_getElem? (i := 626) (by decide +kernel), List.mem_of_getElem? (i := 627) (by decide +kernel)⟩
theorem lw_p17 : lw_okq (⟨"SecretBox", "opensWith", "(I)I"⟩, 8) := ⟨⟨by decide +kernel, by decide +kernel⟩, List.mem_of_getElem? (i := 17) (by decide +kernel), List.mem_of_getElem? (i := 634) (by decide +kernel), List.mem_of_getElem? (i := 635) (by decide +kernel)⟩
theorem lw_p18 : lw_okq (⟨"SecretBox$Endgame", "learn", "(II)V"⟩, 9) := ⟨⟨by decide +kernel, by decide +kernel⟩, List.mem_of_getElem? (i := 169) (by decide +kernel), List.mem_of_getElem? (i := 650) (by decide +kernel), List.mem_of_getElem? (i := 651) (by decide +kernel)⟩
theorem lw_p19 : lw_okq (⟨"SecretBox$Endgame", "leadsTo", "(II)Z"⟩, 9) := ⟨⟨by decide +kernel, by decide +kernel⟩, List.mem_of_getElem? (i := 169) (by decide +kernel), List.mem_of_getElem? (i := 658) (by decide +kernel), List.mem_of_getElem? (i := 659) (by decide +kernel)⟩
theorem lw_p20 : lw_okq (⟨"SecretBox", "areClicks", "(LSecretBox$Sheet;II)Z"⟩, 8) := ⟨⟨by decide +kernel, by decide +kernel⟩, List.mem_of_getElem? (i := 17) (by decide +kernel), List.mem_of_getElem? (i := 716) (by decide +kernel), List.mem_of_getElem? (i := 717) (by decide +kernel)⟩
theorem lw_p21 : lw_okq (⟨"SecretBox", "locksByClicks", "(LSecretBox$Sheet;II)I"⟩, 8) := ⟨⟨by decide +kernel, by decide +kernel⟩, List.mem_of_getElem? (i := 17) (by decide +kernel), List.mem_of_getElem? (i := 722) (by decide +kernel), List.mem_of_getElem? (i := 723) (by decide +kernel)⟩
theorem lw_p22 : lw_okq (⟨"SecretBox", "kindsByClicks", "(ILSecretBox$Sheet;II)I"⟩, 8) := ⟨⟨by decide +kernel, by decide +kernel⟩, List.mem_of_getElem? (i := 17) (by decide +kernel), List.mem_of_getElem? (i := 729) (by decide +kernel), List.mem_of_getElem? (i := 730) (by decide +kernel)⟩
theorem lw_p23 : lw_okq (⟨"SecretBoxModel", "panelComes", "(II)V"⟩, 28) := ⟨⟨by decide +kernel, by decide +kernel⟩, List.mem_of_getElem? (i := 767) (by decide +kernel), List.mem_of_getElem? (i := 867) (by decide +kernel), List.mem_of_getElem? (i := 868) (by decide +kernel)⟩
theorem lw_p24 : lw_okq (⟨"SecretBoxModel", "isPanel", "(I)Z"⟩, 28) := ⟨⟨by decide +kernel, by decide +kernel⟩, List.mem_of_getElem? (i := 767) (by decide +kernel), List.mem_of_getElem? (i := 875) (by decide +kernel), List.mem_of_getElem? (i := 876) (by decide +kernel)⟩
theorem lw_p25 : lw_okq (⟨"SecretBoxModel", "lockComes", "(IIII)V"⟩, 28) := ⟨⟨by decide +kernel, by decide +kernel⟩, List.mem_of_getElem? (i := 767) (by decide +kernel), List.mem_of_getElem? (i := 881) (by decide +kernel), List.mem_of_getElem? (i := 882) (by decide +kernel)⟩
theorem lw_p26 : lw_okq (⟨"SecretBoxModel", "kind", "(I)I"⟩, 28) := ⟨⟨by decide +kernel, by decide +kernel⟩, List.mem_of_getElem? (i := 767) (by decide +kernel), List.mem_of_getElem? (i := 893) (by decide +kernel), List.mem_of_getElem? (i := 894) (by decide +kernel)⟩
theorem lw_p27 : lw_okq (⟨"SecretBoxModel", "deep", "(I)I"⟩, 28) := ⟨⟨by decide +kernel, by decide +kernel⟩, List.mem_of_getElem? (i := 767) (by decide +kernel), List.mem_of_getElem? (i := 897) (by decide +kernel), List.mem_of_getElem? (i := 898) (by decide +kernel)⟩
theorem lw_p28 : lw_okq (⟨"SecretBoxModel", "mayNow", "(II)I"⟩, 28) := ⟨⟨by decide +kernel, by decide +kernel⟩, List.mem_of_getElem? (i := 767) (by decide +kernel), List.mem_of_getElem? (i := 904) (by decide +kernel), List.mem_of_getElem? (i := 905) (by decide +kernel)⟩
theorem lw_p29 : lw_okq (⟨"SecretBoxModel", "may", "(IIII)Z"⟩, 28) := ⟨⟨by decide +kernel, by decide +kernel⟩, List.mem_of_getElem? (i := 767) (by decide +kernel), List.mem_of_getElem? (i := 908) (by decide +kernel), List.mem_of_getElem? (i := 909) (by decide +kernel)⟩
theorem lw_p30 : lw_okq (⟨"SecretBoxModel", "lets", "(IIIII)Z"⟩, 28) := ⟨⟨by decide +kernel, by decide +kernel⟩, List.mem_of_getElem? (i := 767) (by decide +kernel), List.mem_of_getElem? (i := 912) (by decide +kernel), List.mem_of_getElem? (i := 913) (by decide +kernel)⟩
theorem lw_p31 : lw_okq (⟨"SecretBoxModel", "ofLock", "(II)I"⟩, 28) := ⟨⟨by decide +kernel, by decide +kernel⟩, List.mem_of_getElem? (i := 767) (by decide +kernel), List.mem_of_getElem? (i := 916) (by decide +kernel), List.mem_of_getElem? (i := 917) (by decide +kernel)⟩
def lw_privs_2 : List (MethodName × Nat) := [(⟨"SecretBox$Endgame", "settle", "(III)V"⟩, 9), (⟨"SecretBox", "opensWith", "(I)I"⟩, 8), (⟨"SecretBox$Endgame", "learn", "(II)V"⟩, 9), (⟨"SecretBox$Endgame", "leadsTo", "(II)Z"⟩, 9), (⟨"SecretBox", "areClicks", "(LSecretBox$Sheet;II)Z"⟩, 8), (⟨"SecretBox", "locksByClicks", "(LSecretBox$Sheet;II)I"⟩, 8), (⟨"SecretBox", "kindsByClicks", "(ILSecretBox$Sheet;II)I"⟩, 8), (⟨"SecretBoxModel", "panelComes", "(II)V"⟩, 28), (⟨"SecretBoxModel", "isPanel", "(I)Z"⟩, 28), (⟨"SecretBoxModel", "lockComes", "(IIII)V"⟩, 28), (⟨"SecretBoxModel", "kind", "(I)I"⟩, 28), (⟨"SecretBoxModel", "deep", "(I)I"⟩, 28), (⟨"SecretBoxModel", "mayNow", "(II)I"⟩, 28), (⟨"SecretBoxModel", "may", "(IIII)Z"⟩, 28), (⟨"SecretBoxModel", "lets", "(IIIII)Z"⟩, 28), (⟨"SecretBoxModel", "ofLock", "(II)I"⟩, 28)]
theorem lw_r2 : ∀ q ∈ lw_privs_2, lw_okq q := List.forall_mem_cons.mpr ⟨lw_p16, List.forall_mem_cons.mpr ⟨lw_p17, List.forall_mem_cons.mpr ⟨lw_p18, List.forall_mem_cons.mpr ⟨lw_p19, List.forall_mem_cons.mpr ⟨lw_p20, List.forall_mem_cons.mpr ⟨lw_p21, List.forall_mem_cons.mpr ⟨lw_p22, List.forall_mem_cons.mpr ⟨lw_p23, List.forall_mem_cons.mpr ⟨lw_p24, List.forall_mem_cons.mpr ⟨lw_p25, List.forall_mem_cons.mpr ⟨lw_p26, List.forall_mem_cons.mpr ⟨lw_p27, List.forall_mem_cons.mpr ⟨lw_p28, List.forall_mem_cons.mpr ⟨lw_p29, List.forall_mem_cons.mpr ⟨lw_p30, List.forall_mem_cons.mpr ⟨lw_p31, fun _ h => absurd h List.not_mem_nil⟩⟩⟩⟩⟩⟩⟩⟩⟩⟩⟩⟩⟩⟩⟩⟩
theorem lw_p32 : lw_okq (⟨"SecretBoxModel", "isLock", "(I)Z"⟩, 28) := ⟨⟨by decide +kernel, by decide +kernel⟩, List.mem_of_getElem? (i := 767) (by decide +kernel), List.mem_of_getElem? (i := 927) (by decide +kernel), List.mem_of_getElem? (i := 928) (by decide +kernel)⟩
theorem lw_p33 : lw_okq (⟨"SecretBoxModel", "isOpen", "(I)Z"⟩, 28) := ⟨⟨by decide +kernel, by decide +kernel⟩, List.mem_of_getElem? (i := 767) (by decide +kernel), List.mem_of_getElem? (i := 936) (by decide +kernel), List.mem_of_getElem? (i := 937) (by decide +kernel)⟩
theorem lw_p34 : lw_okq (⟨"SecretBoxModel", "outs", "()I"⟩, 28) := ⟨⟨by decide +kernel, by decide +kernel⟩, List.mem_of_getElem? (i := 767) (by decide +kernel), List.mem_of_getElem? (i := 940) (by decide +kernel), List.mem_of_getElem? (i := 941) (by decide +kernel)⟩
theorem lw_p35 : lw_okq (⟨"SecretBoxModel", "slides", "()I"⟩, 28) := ⟨⟨by decide +kernel, by decide +kernel⟩, List.mem_of_getElem? (i := 767) (by decide +kernel), List.mem_of_getElem? (i := 944) (by decide +kernel), List.mem_of_getElem? (i := 945) (by decide +kernel)⟩
theorem lw_p36 : lw_okq (⟨"SecretBoxModel", "panelsRead", "()I"⟩, 28) := ⟨⟨by decide +kernel, by decide +kernel⟩, List.mem_of_getElem? (i := 767) (by decide +kernel), List.mem_of_getElem? (i := 958) (by decide +kernel), List.mem_of_getElem? (i := 959) (by decide +kernel)⟩
theorem lw_p37 : lw_okq (⟨"SecretBoxModel", "here", "()I"⟩, 28) := ⟨⟨by decide +kernel, by decide +kernel⟩, List.mem_of_getElem? (i := 767) (by decide +kernel), List.mem_of_getElem? (i := 962) (by decide +kernel), List.mem_of_getElem? (i := 963) (by decide +kernel)⟩
theorem lw_p38 : lw_okq (⟨"SecretBoxModel", "must", "(Z)V"⟩, 28) := ⟨⟨by decide +kernel, by decide +kernel⟩, List.mem_of_getElem? (i := 767) (by decide +kernel), List.mem_of_getElem? (i := 966) (by decide +kernel), List.mem_of_getElem? (i := 967) (by decide +kernel)⟩
theorem lw_p39 : lw_okq (⟨"SecretBoxModel", "digit", "(II)I"⟩, 28) := ⟨⟨by decide +kernel, by decide +kernel⟩, List.mem_of_getElem? (i := 767) (by decide +kernel), List.mem_of_getElem? (i := 970) (by decide +kernel), List.mem_of_getElem? (i := 971) (by decide +kernel)⟩
theorem lw_p40 : lw_okq (⟨"SecretBoxModel", "locksRead", "(I)I"⟩, 28) := ⟨⟨by decide +kernel, by decide +kernel⟩, List.mem_of_getElem? (i := 767) (by decide +kernel), List.mem_of_getElem? (i := 974) (by decide +kernel), List.mem_of_getElem? (i := 975) (by decide +kernel)⟩
theorem lw_p41 : lw_okq (⟨"SecretBoxModel", "placesRead", "(I)I"⟩, 28) := ⟨⟨by decide +kernel, by decide +kernel⟩, List.mem_of_getElem? (i := 767) (by decide +kernel), List.mem_of_getElem? (i := 978) (by decide +kernel), List.mem_of_getElem? (i := 979) (by decide +kernel)⟩
theorem lw_p42 : lw_okq (⟨"SecretBoxModel", "notes", "()V"⟩, 28) := ⟨⟨by decide +kernel, by decide +kernel⟩, List.mem_of_getElem? (i := 767) (by decide +kernel), List.mem_of_getElem? (i := 986) (by decide +kernel), List.mem_of_getElem? (i := 987) (by decide +kernel)⟩
theorem lw_p43 : lw_okq (⟨"SecretBoxModel", "behind", "(III)I"⟩, 28) := ⟨⟨by decide +kernel, by decide +kernel⟩, List.mem_of_getElem? (i := 767) (by decide +kernel), List.mem_of_getElem? (i := 990) (by decide +kernel), List.mem_of_getElem? (i := 991) (by decide +kernel)⟩
theorem lw_p44 : lw_okq (⟨"SecretBoxModel", "goesThrough", "(I)V"⟩, 28) := ⟨⟨by decide +kernel, by decide +kernel⟩, List.mem_of_getElem? (i := 767) (by decide +kernel), List.mem_of_getElem? (i := 1026) (by decide +kernel), List.mem_of_getElem? (i := 1027) (by decide +kernel)⟩
theorem lw_p45 : lw_okq (⟨"SecretBoxModel", "meets", "(III)V"⟩, 28) := ⟨⟨by decide +kernel, by decide +kernel⟩, List.mem_of_getElem? (i := 767) (by decide +kernel), List.mem_of_getElem? (i := 1030) (by decide +kernel), List.mem_of_getElem? (i := 1031) (by decide +kernel)⟩
theorem lw_p46 : lw_okq (⟨"SecretBoxModel", "firstOpen", "()I"⟩, 28) := ⟨⟨by decide +kernel, by decide +kernel⟩, List.mem_of_getElem? (i := 767) (by decide +kernel), List.mem_of_getElem? (i := 1035) (by decide +kernel), List.mem_of_getElem? (i := 1036) (by decide +kernel)⟩
theorem lw_p47 : lw_okq (⟨"SecretBoxModel", "wayTo", "(II)I"⟩, 28) := ⟨⟨by decide +kernel, by decide +kernel⟩, List.mem_of_getElem? (i := 767) (by decide +kernel), List.mem_of_getElem? (i := 1039) (by decide +kernel), List.mem_of_getElem? (i := 1040) (by decide +kernel)⟩
def lw_privs_3 : List (MethodName × Nat) := [(⟨"SecretBoxModel", "isLock", "(I)Z"⟩, 28), (⟨"SecretBoxModel", "isOpen", "(I)Z"⟩, 28), (⟨"SecretBoxModel", "outs", "()I"⟩, 28), (⟨"SecretBoxModel", "slides", "()I"⟩, 28), (⟨"SecretBoxModel", "panelsRead", "()I"⟩, 28), (⟨"SecretBoxModel", "here", "()I"⟩, 28), (⟨"SecretBoxModel", "must", "(Z)V"⟩, 28), (⟨"SecretBoxModel", "digit", "(II)I"⟩, 28), (⟨"SecretBoxModel", "locksRead", "(I)I"⟩, 28), (⟨"SecretBoxModel", "placesRead", "(I)I"⟩, 28), (⟨"SecretBoxModel", "notes", "()V"⟩, 28), (⟨"SecretBoxModel", "behind", "(III)I"⟩, 28), (⟨"SecretBoxModel", "goesThrough", "(I)V"⟩, 28), (⟨"SecretBoxModel", "meets", "(III)V"⟩, 28), (⟨"SecretBoxModel", "firstOpen", "()I"⟩, 28), (⟨"SecretBoxModel", "wayTo", "(II)I"⟩, 28)]
theorem lw_r3 : ∀ q ∈ lw_privs_3, lw_okq q := List.forall_mem_cons.mpr ⟨lw_p32, List.forall_mem_cons.mpr ⟨lw_p33, List.forall_mem_cons.mpr ⟨lw_p34, List.forall_mem_cons.mpr ⟨lw_p35, List.forall_mem_cons.mpr ⟨lw_p36, List.forall_mem_cons.mpr ⟨lw_p37, List.forall_mem_cons.mpr ⟨lw_p38, List.forall_mem_cons.mpr ⟨lw_p39, List.forall_mem_cons.mpr ⟨lw_p40, List.forall_mem_cons.mpr ⟨lw_p41, List.forall_mem_cons.mpr ⟨lw_p42, List.forall_mem_cons.mpr ⟨lw_p43, List.forall_mem_cons.mpr ⟨lw_p44, List.forall_mem_cons.mpr ⟨lw_p45, List.forall_mem_cons.mpr ⟨lw_p46, List.forall_mem_cons.mpr ⟨lw_p47, fun _ h => absurd h List.not_mem_nil⟩⟩⟩⟩⟩⟩⟩⟩⟩⟩⟩⟩⟩⟩⟩⟩
theorem lw_p48 : lw_okq (⟨"SecretBoxModel", "dead", "()I"⟩, 28) := ⟨⟨by decide +kernel, by decide +kernel⟩, List.mem_of_getElem? (i := 767) (by decide +kernel), List.mem_of_getElem? (i := 1051) (by decide +kernel), List.mem_of_getElem? (i := 1052) (by decide +kernel)⟩
theorem lw_p49 : lw_okq (⟨"SecretBoxModel", "leadsToKnown", "(I)Z"⟩, 28) := ⟨⟨by decide +kernel, by decide +kernel⟩, List.mem_of_getElem? (i := 767) (by decide +kernel), List.mem_of_getElem? (i := 1055) (by decide +kernel), List.mem_of_getElem? (i := 1056) (by decide +kernel)⟩
theorem lw_p50 : lw_okq (⟨"SecretBoxModel", "solves", "()V"⟩, 28) := ⟨⟨by decide +kernel, by decide +kernel⟩, List.mem_of_getElem? (i := 767) (by decide +kernel), List.mem_of_getElem? (i := 1072) (by decide +kernel), List.mem_of_getElem? (i := 1073) (by decide +kernel)⟩
theorem lw_p51 : lw_okq (⟨"SecretBoxModel", "areAll", "(II)Z"⟩, 28) := ⟨⟨by decide +kernel, by decide +kernel⟩, List.mem_of_getElem? (i := 767) (by decide +kernel), List.mem_of_getElem? (i := 1076) (by decide +kernel), List.mem_of_getElem? (i := 1077) (by decide +kernel)⟩
theorem lw_p52 : lw_okq (⟨"SecretBoxModel", "slideTo", "(III)I"⟩, 28) := ⟨⟨by decide +kernel, by decide +kernel⟩, List.mem_of_getElem? (i := 767) (by decide +kernel), List.mem_of_getElem? (i := 1080) (by decide +kernel), List.mem_of_getElem? (i := 1081) (by decide +kernel)⟩
theorem lw_p53 : lw_okq (⟨"SecretBoxModel", "fumbles", "()V"⟩, 28) := ⟨⟨by decide +kernel, by decide +kernel⟩, List.mem_of_getElem? (i := 767) (by decide +kernel), List.mem_of_getElem? (i := 1089) (by decide +kernel), List.mem_of_getElem? (i := 1090) (by decide +kernel)⟩
theorem lw_p54 : lw_okq (⟨"SecretBoxModel", "why", "(IIII)I"⟩, 28) := ⟨⟨by decide +kernel, by decide +kernel⟩, List.mem_of_getElem? (i := 767) (by decide +kernel), List.mem_of_getElem? (i := 1112) (by decide +kernel), List.mem_of_getElem? (i := 1113) (by decide +kernel)⟩
theorem lw_p55 : lw_okq (⟨"SecretBoxModel", "kindsBy", "(III)I"⟩, 28) := ⟨⟨by decide +kernel, by decide +kernel⟩, List.mem_of_getElem? (i := 767) (by decide +kernel), List.mem_of_getElem? (i := 1122) (by decide +kernel), List.mem_of_getElem? (i := 1123) (by decide +kernel)⟩
theorem lw_p56 : lw_okq (⟨"SecretBoxModel", "clicksSo", "(III)Z"⟩, 28) := ⟨⟨by decide +kernel, by decide +kernel⟩, List.mem_of_getElem? (i := 767) (by decide +kernel), List.mem_of_getElem? (i := 1126) (by decide +kernel), List.mem_of_getElem? (i := 1127) (by decide +kernel)⟩
def lw_privs_4 : List (MethodName × Nat) := [(⟨"SecretBoxModel", "dead", "()I"⟩, 28), (⟨"SecretBoxModel", "leadsToKnown", "(I)Z"⟩, 28), (⟨"SecretBoxModel", "solves", "()V"⟩, 28), (⟨"SecretBoxModel", "areAll", "(II)Z"⟩, 28), (⟨"SecretBoxModel", "slideTo", "(III)I"⟩, 28), (⟨"SecretBoxModel", "fumbles", "()V"⟩, 28), (⟨"SecretBoxModel", "why", "(IIII)I"⟩, 28), (⟨"SecretBoxModel", "kindsBy", "(III)I"⟩, 28), (⟨"SecretBoxModel", "clicksSo", "(III)Z"⟩, 28)]
theorem lw_r4 : ∀ q ∈ lw_privs_4, lw_okq q := List.forall_mem_cons.mpr ⟨lw_p48, List.forall_mem_cons.mpr ⟨lw_p49, List.forall_mem_cons.mpr ⟨lw_p50, List.forall_mem_cons.mpr ⟨lw_p51, List.forall_mem_cons.mpr ⟨lw_p52, List.forall_mem_cons.mpr ⟨lw_p53, List.forall_mem_cons.mpr ⟨lw_p54, List.forall_mem_cons.mpr ⟨lw_p55, List.forall_mem_cons.mpr ⟨lw_p56, fun _ h => absurd h List.not_mem_nil⟩⟩⟩⟩⟩⟩⟩⟩⟩
def lw_privs : List (MethodName × Nat) := lw_privs_1 ++ (lw_privs_2 ++ (lw_privs_3 ++ (lw_privs_4)))
def lw_tbl : List Cond := k2_sels lw_privs ++ tables_1
theorem lw_privs_ok : ∀ q ∈ lw_privs, lw_okq q := by
  show ∀ q ∈ lw_privs_1 ++ (lw_privs_2 ++ (lw_privs_3 ++ (lw_privs_4))), lw_okq q
  exact List.forall_mem_append.mpr ⟨lw_r1, List.forall_mem_append.mpr ⟨lw_r2, List.forall_mem_append.mpr ⟨lw_r3, lw_r4⟩⟩⟩
end
section
def RX0 : String := "SecretBox$Box"
def TX0 : u_T := fun k => match k with
  | 0 => ("SecretBox$Box", "kind", "[I", true)
  | 1 => ("SecretBox$Box", "deep", "[I", true)
  | 2 => ("SecretBox$Box", "panels", "I", false)
  | 3 => ("SecretBox$Box", "owner", "[I", true)
  | 4 => ("SecretBox$Box", "way", "[I", true)
  | 5 => ("SecretBox$Box", "other", "[I", true)
  | 6 => ("SecretBox$Box", "places", "[I", true)
  | 7 => ("SecretBox$Box", "locks", "I", false)
  | 8 => ("SecretBox$Box", "lid", "I", false)
  | 9 => ("SecretBox$Box", "state", "I", false)
  | 10 => ("SecretBox$Box", "filed", "I", false)
  | 11 => ("SecretBox$Box", "draw", "I", false)
  | 12 => ("SecretBox$Box", "pastState", "[I", true)
  | 13 => ("SecretBox$Box", "pastFiled", "[I", true)
  | 14 => ("SecretBox$Box", "pastDraw", "[I", true)
  | 15 => ("SecretBox$Box", "known", "I", false)
  | 16 => ("SecretBox$Box", "nextPast", "I", false)
  | _ => ("SecretBox$Box", "isRecast", "Z", false)
def tyX0 : Nat → FieldType := fun k => match k with
  | 0 => .array .int
  | 1 => .array .int
  | 2 => .int
  | 3 => .array .int
  | 4 => .array .int
  | 5 => .array .int
  | 6 => .array .int
  | 7 => .int
  | 8 => .int
  | 9 => .int
  | 10 => .int
  | 11 => .int
  | 12 => .array .int
  | 13 => .array .int
  | 14 => .array .int
  | 15 => .int
  | 16 => .int
  | _ => .boolean
abbrev wsX00 : List Cond := u_ws RX0 TX0 18
theorem nmX0 : ∀ a, a < 18 → ∀ b, b < 18 → a ≠ b → (TX0 a).2.1 ≠ (TX0 b).2.1 := by decide +kernel
theorem tyX0_ok : ∀ k, k < 18 → parseFieldDescriptor (TX0 k).2.2.1 = some (tyX0 k) := by decide +kernel
abbrev cX0_init : ByteArray := prog_2_method_1_code
def yX0_init : MethodName := ⟨RX0, "<init>", "()V"⟩
abbrev cX0_clear : ByteArray := prog_2_method_2_code
def yX0_clear : MethodName := ⟨RX0, "clear", "()V"⟩
abbrev cX0_becomes : ByteArray := prog_2_method_3_code
def yX0_becomes : MethodName := ⟨RX0, "becomes", "(LSecretBox$Box;)V"⟩
abbrev cX0_hasPanel : ByteArray := prog_2_method_4_code
def yX0_hasPanel : MethodName := ⟨RX0, "hasPanel", "(I)Z"⟩
abbrev cX0_hasLock : ByteArray := prog_2_method_5_code
def yX0_hasLock : MethodName := ⟨RX0, "hasLock", "(I)Z"⟩
abbrev cX0_addPanel : ByteArray := prog_2_method_6_code
def yX0_addPanel : MethodName := ⟨RX0, "addPanel", "(II)I"⟩
abbrev cX0_addLock : ByteArray := prog_2_method_7_code
def yX0_addLock : MethodName := ⟨RX0, "addLock", "(IIII)I"⟩
abbrev cX0_isMet : ByteArray := prog_2_method_8_code
def yX0_isMet : MethodName := ⟨RX0, "isMet", "(II)Z"⟩
abbrev cX0_isOpen : ByteArray := prog_2_method_9_code
def yX0_isOpen : MethodName := ⟨RX0, "isOpen", "(I)Z"⟩
abbrev cX0_outSet : ByteArray := prog_2_method_10_code
def yX0_outSet : MethodName := ⟨RX0, "outSet", "()I"⟩
abbrev cX0_slidesThatMay : ByteArray := prog_2_method_11_code
def yX0_slidesThatMay : MethodName := ⟨RX0, "slidesThatMay", "()I"⟩
abbrev cX0_maySlide : ByteArray := prog_2_method_12_code
def yX0_maySlide : MethodName := ⟨RX0, "maySlide", "(IIII)Z"⟩
abbrev cX0_fits : ByteArray := prog_2_method_13_code
def yX0_fits : MethodName := ⟨RX0, "fits", "(III)Z"⟩
abbrev cX0_ringLets : ByteArray := prog_2_method_14_code
def yX0_ringLets : MethodName := ⟨RX0, "ringLets", "(II)Z"⟩
abbrev cX0_holding : ByteArray := prog_2_method_15_code
def yX0_holding : MethodName := ⟨RX0, "holding", "(III)I"⟩
abbrev cX0_behind : ByteArray := prog_2_method_16_code
def yX0_behind : MethodName := ⟨RX0, "behind", "(III)I"⟩
abbrev cX0_slipsBack : ByteArray := prog_2_method_17_code
def yX0_slipsBack : MethodName := ⟨RX0, "slipsBack", "(II)Z"⟩
abbrev cX0_driftOnce : ByteArray := prog_2_method_18_code
def yX0_driftOnce : MethodName := ⟨RX0, "driftOnce", "()V"⟩
abbrev cX0_forget : ByteArray := prog_2_method_19_code
def yX0_forget : MethodName := ⟨RX0, "forget", "()V"⟩
abbrev cX0_remember : ByteArray := prog_2_method_20_code
def yX0_remember : MethodName := ⟨RX0, "remember", "()V"⟩
abbrev cX0_recall : ByteArray := prog_2_method_21_code
def yX0_recall : MethodName := ⟨RX0, "recall", "()I"⟩
abbrev cX0_stateOf : ByteArray := prog_2_method_22_code
def yX0_stateOf : MethodName := ⟨RX0, "stateOf", "(LSecretBox$Sheet;I)I"⟩
abbrev cX0_isState : ByteArray := prog_2_method_23_code
def yX0_isState : MethodName := ⟨RX0, "isState", "(I)Z"⟩
def RX1 : String := "SecretBox$Endgame"
def TX1 : u_T := fun k => match k with
  | 0 => ("SecretBox$Endgame", "box", "LSecretBox$Box;", true)
  | 1 => ("SecretBox$Endgame", "walk", "LSecretBox$Walk;", true)
  | 2 => ("SecretBox$Endgame", "lastInto", "[I", true)
  | 3 => ("SecretBox$Endgame", "earlierInto", "[I", true)
  | 4 => ("SecretBox$Endgame", "hopes", "[I", true)
  | 5 => ("SecretBox$Endgame", "queue", "[I", true)
  | 6 => ("SecretBox$Endgame", "queued", "I", false)
  | 7 => ("SecretBox$Endgame", "outcome", "[I", true)
  | _ => ("SecretBox$Endgame", "slides", "[I", true)
def tyX1 : Nat → FieldType := fun k => match k with
  | 0 => .object "SecretBox$Box"
  | 1 => .object "SecretBox$Walk"
  | 2 => .array .int
  | 3 => .array .int
  | 4 => .array .int
  | 5 => .array .int
  | 6 => .int
  | 7 => .array .int
  | _ => .array .int
abbrev wsX10 : List Cond := u_ws RX1 TX1 9
theorem nmX1 : ∀ a, a < 9 → ∀ b, b < 9 → a ≠ b → (TX1 a).2.1 ≠ (TX1 b).2.1 := by decide +kernel
theorem tyX1_ok : ∀ k, k < 9 → parseFieldDescriptor (TX1 k).2.2.1 = some (tyX1 k) := by decide +kernel
abbrev cX1_init : ByteArray := prog_3_method_1_code
def yX1_init : MethodName := ⟨RX1, "<init>", "(LSecretBox$Box;LSecretBox$Walk;)V"⟩
abbrev cX1_begin : ByteArray := prog_3_method_2_code
def yX1_begin : MethodName := ⟨RX1, "begin", "()V"⟩
abbrev cX1_chain : ByteArray := prog_3_method_3_code
def yX1_chain : MethodName := ⟨RX1, "chain", "(I)V"⟩
abbrev cX1_settle : ByteArray := prog_3_method_4_code
def yX1_settle : MethodName := ⟨RX1, "settle", "(III)V"⟩
abbrev cX1_dead : ByteArray := prog_3_method_5_code
def yX1_dead : MethodName := ⟨RX1, "dead", "()I"⟩
abbrev cX1_solve : ByteArray := prog_3_method_6_code
def yX1_solve : MethodName := ⟨RX1, "solve", "()V"⟩
abbrev cX1_learn : ByteArray := prog_3_method_7_code
def yX1_learn : MethodName := ⟨RX1, "learn", "(II)V"⟩
abbrev cX1_firstSlide : ByteArray := prog_3_method_8_code
def yX1_firstSlide : MethodName := ⟨RX1, "firstSlide", "(I)I"⟩
abbrev cX1_leadsTo : ByteArray := prog_3_method_9_code
def yX1_leadsTo : MethodName := ⟨RX1, "leadsTo", "(II)Z"⟩
def RX2 : String := "SecretBox$Sheet"
def TX2 : u_T := fun k => match k with
  | 0 => ("SecretBox$Sheet", "isHeld", "Z", false)
  | 1 => ("SecretBox$Sheet", "lane", "I", false)
  | 2 => ("SecretBox$Sheet", "size", "I", false)
  | _ => ("SecretBox$Sheet", "items", "[J", true)
def tyX2 : Nat → FieldType := fun k => match k with
  | 0 => .boolean
  | 1 => .int
  | 2 => .int
  | _ => .array .long
abbrev wsX20 : List Cond := u_ws RX2 TX2 4
theorem nmX2 : ∀ a, a < 4 → ∀ b, b < 4 → a ≠ b → (TX2 a).2.1 ≠ (TX2 b).2.1 := by decide +kernel
theorem tyX2_ok : ∀ k, k < 4 → parseFieldDescriptor (TX2 k).2.2.1 = some (tyX2 k) := by decide +kernel
abbrev cX2_init : ByteArray := prog_4_method_1_code
def yX2_init : MethodName := ⟨RX2, "<init>", "()V"⟩
abbrev cX2_begin : ByteArray := prog_4_method_2_code
def yX2_begin : MethodName := ⟨RX2, "begin", "(II)V"⟩
abbrev cX2_end : ByteArray := prog_4_method_3_code
def yX2_end : MethodName := ⟨RX2, "end", "()I"⟩
abbrev cX2_holds : ByteArray := prog_4_method_4_code
def yX2_holds : MethodName := ⟨RX2, "holds", "(II)Z"⟩
abbrev cX2_fault : ByteArray := prog_4_method_5_code
def yX2_fault : MethodName := ⟨RX2, "fault", "(III)I"⟩
abbrev cX2_look : ByteArray := prog_4_method_6_code
def yX2_look : MethodName := ⟨RX2, "look", "(I)J"⟩
abbrev cX2_put : ByteArray := prog_4_method_7_code
def yX2_put : MethodName := ⟨RX2, "put", "(IJ)V"⟩
def RX3 : String := "SecretBox$Tape"
def TX3 : u_T := fun k => match k with
  | 0 => ("SecretBox$Tape", "letters", "[C", true)
  | 1 => ("SecretBox$Tape", "size", "I", false)
  | _ => ("SecretBox$Tape", "spot", "I", false)
def tyX3 : Nat → FieldType := fun k => match k with
  | 0 => .array .char
  | 1 => .int
  | _ => .int
abbrev wsX30 : List Cond := u_ws RX3 TX3 3
theorem nmX3 : ∀ a, a < 3 → ∀ b, b < 3 → a ≠ b → (TX3 a).2.1 ≠ (TX3 b).2.1 := by decide +kernel
theorem tyX3_ok : ∀ k, k < 3 → parseFieldDescriptor (TX3 k).2.2.1 = some (tyX3 k) := by decide +kernel
abbrev cX3_init : ByteArray := prog_5_method_1_code
def yX3_init : MethodName := ⟨RX3, "<init>", "()V"⟩
abbrev cX3_write : ByteArray := prog_5_method_2_code
def yX3_write : MethodName := ⟨RX3, "write", "(C)I"⟩
abbrev cX3_read : ByteArray := prog_5_method_3_code
def yX3_read : MethodName := ⟨RX3, "read", "(LSecretBox$Box;)I"⟩
abbrev cX3_readPanels : ByteArray := prog_5_method_4_code
def yX3_readPanels : MethodName := ⟨RX3, "readPanels", "(LSecretBox$Box;)Z"⟩
abbrev cX3_readLocks : ByteArray := prog_5_method_5_code
def yX3_readLocks : MethodName := ⟨RX3, "readLocks", "(LSecretBox$Box;)Z"⟩
abbrev cX3_readLock : ByteArray := prog_5_method_6_code
def yX3_readLock : MethodName := ⟨RX3, "readLock", "(LSecretBox$Box;)Z"⟩
abbrev cX3_readPlaces : ByteArray := prog_5_method_7_code
def yX3_readPlaces : MethodName := ⟨RX3, "readPlaces", "(I)I"⟩
abbrev cX3_peek : ByteArray := prog_5_method_8_code
def yX3_peek : MethodName := ⟨RX3, "peek", "()C"⟩
abbrev cX3_isEnd : ByteArray := prog_5_method_9_code
def yX3_isEnd : MethodName := ⟨RX3, "isEnd", "()Z"⟩
abbrev cX3_accept : ByteArray := prog_5_method_10_code
def yX3_accept : MethodName := ⟨RX3, "accept", "(C)Z"⟩
abbrev cX3_oneOf : ByteArray := prog_5_method_11_code
def yX3_oneOf : MethodName := ⟨RX3, "oneOf", "(Ljava/lang/String;)I"⟩
abbrev cX3_digit : ByteArray := prog_5_method_12_code
def yX3_digit : MethodName := ⟨RX3, "digit", "(II)I"⟩
def RX4 : String := "SecretBox$Walk"
def TX4 : u_T := fun k => match k with
  | 0 => ("SecretBox$Walk", "box", "LSecretBox$Box;", true)
  | 1 => ("SecretBox$Walk", "then", "[I", true)
  | 2 => ("SecretBox$Walk", "held", "[I", true)
  | 3 => ("SecretBox$Walk", "order", "[I", true)
  | 4 => ("SecretBox$Walk", "far", "[I", true)
  | 5 => ("SecretBox$Walk", "cameFrom", "[I", true)
  | 6 => ("SecretBox$Walk", "cameBy", "[I", true)
  | 7 => ("SecretBox$Walk", "rowsTo", "[I", true)
  | 8 => ("SecretBox$Walk", "moves", "I", false)
  | 9 => ("SecretBox$Walk", "reached", "I", false)
  | 10 => ("SecretBox$Walk", "start", "I", false)
  | _ => ("SecretBox$Walk", "filed", "I", false)
def tyX4 : Nat → FieldType := fun k => match k with
  | 0 => .object "SecretBox$Box"
  | 1 => .array .int
  | 2 => .array .int
  | 3 => .array .int
  | 4 => .array .int
  | 5 => .array .int
  | 6 => .array .int
  | 7 => .array .int
  | 8 => .int
  | 9 => .int
  | 10 => .int
  | _ => .int
abbrev wsX40 : List Cond := u_ws RX4 TX4 12
theorem nmX4 : ∀ a, a < 12 → ∀ b, b < 12 → a ≠ b → (TX4 a).2.1 ≠ (TX4 b).2.1 := by decide +kernel
theorem tyX4_ok : ∀ k, k < 12 → parseFieldDescriptor (TX4 k).2.2.1 = some (tyX4 k) := by decide +kernel
abbrev cX4_init : ByteArray := prog_6_method_1_code
def yX4_init : MethodName := ⟨RX4, "<init>", "(LSecretBox$Box;)V"⟩
abbrev cX4_from : ByteArray := prog_6_method_2_code
def yX4_from : MethodName := ⟨RX4, "from", "(II)V"⟩
abbrev cX4_chart : ByteArray := prog_6_method_3_code
def yX4_chart : MethodName := ⟨RX4, "chart", "()V"⟩
abbrev cX4_chartMove : ByteArray := prog_6_method_4_code
def yX4_chartMove : MethodName := ⟨RX4, "chartMove", "(II)V"⟩
abbrev cX4_visit : ByteArray := prog_6_method_5_code
def yX4_visit : MethodName := ⟨RX4, "visit", "(I)V"⟩
abbrev cX4_next : ByteArray := prog_6_method_6_code
def yX4_next : MethodName := ⟨RX4, "next", "(II)I"⟩
abbrev cX4_slideOf : ByteArray := prog_6_method_7_code
def yX4_slideOf : MethodName := ⟨RX4, "slideOf", "(I)I"⟩
abbrev cX4_firstOpen : ByteArray := prog_6_method_8_code
def yX4_firstOpen : MethodName := ⟨RX4, "firstOpen", "()I"⟩
abbrev cX4_farthest : ByteArray := prog_6_method_9_code
def yX4_farthest : MethodName := ⟨RX4, "farthest", "()I"⟩
abbrev cX4_told : ByteArray := prog_6_method_10_code
def yX4_told : MethodName := ⟨RX4, "told", "(II)I"⟩
abbrev cX4_rowsToOpen : ByteArray := prog_6_method_11_code
def yX4_rowsToOpen : MethodName := ⟨RX4, "rowsToOpen", "()I"⟩
def RX5 : String := "SecretBox"
def TX5 : u_T := fun k => match k with
  | 0 => ("SecretBox", "now", "LSecretBox$Box;", true)
  | 1 => ("SecretBox", "kept", "LSecretBox$Box;", true)
  | 2 => ("SecretBox", "draft", "LSecretBox$Box;", true)
  | 3 => ("SecretBox", "isKept", "Z", false)
  | 4 => ("SecretBox", "tape", "LSecretBox$Tape;", true)
  | 5 => ("SecretBox", "walk", "LSecretBox$Walk;", true)
  | 6 => ("SecretBox", "endgame", "LSecretBox$Endgame;", true)
  | _ => ("SecretBox", "sheets", "[LSecretBox$Sheet;", true)
def tyX5 : Nat → FieldType := fun k => match k with
  | 0 => .object "SecretBox$Box"
  | 1 => .object "SecretBox$Box"
  | 2 => .object "SecretBox$Box"
  | 3 => .boolean
  | 4 => .object "SecretBox$Tape"
  | 5 => .object "SecretBox$Walk"
  | 6 => .object "SecretBox$Endgame"
  | _ => .array (.object "SecretBox$Sheet")
abbrev wsX50 : List Cond := u_ws RX5 TX5 8
theorem nmX5 : ∀ a, a < 8 → ∀ b, b < 8 → a ≠ b → (TX5 a).2.1 ≠ (TX5 b).2.1 := by decide +kernel
theorem tyX5_ok : ∀ k, k < 8 → parseFieldDescriptor (TX5 k).2.2.1 = some (tyX5 k) := by decide +kernel
abbrev cX5_init : ByteArray := prog_1_method_1_code
def yX5_init : MethodName := ⟨RX5, "<init>", "()V"⟩
abbrev cX5_panel : ByteArray := prog_1_method_2_code
def yX5_panel : MethodName := ⟨RX5, "panel", "(II)I"⟩
abbrev cX5_lock : ByteArray := prog_1_method_3_code
def yX5_lock : MethodName := ⟨RX5, "lock", "(IIII)I"⟩
abbrev cX5_lid : ByteArray := prog_1_method_4_code
def yX5_lid : MethodName := ⟨RX5, "lid", "(I)I"⟩
abbrev cX5_of : ByteArray := prog_1_method_5_code
def yX5_of : MethodName := ⟨RX5, "of", "(II)I"⟩
abbrev cX5_at : ByteArray := prog_1_method_6_code
def yX5_at : MethodName := ⟨RX5, "at", "(II)I"⟩
abbrev cX5_type : ByteArray := prog_1_method_7_code
def yX5_type : MethodName := ⟨RX5, "type", "(I)I"⟩
abbrev cX5_box : ByteArray := prog_1_method_8_code
def yX5_box : MethodName := ⟨RX5, "box", "()I"⟩
abbrev cX5_count : ByteArray := prog_1_method_9_code
def yX5_count : MethodName := ⟨RX5, "count", "(I)I"⟩
abbrev cX5_slide : ByteArray := prog_1_method_10_code
def yX5_slide : MethodName := ⟨RX5, "slide", "(II)I"⟩
abbrev cX5_shut : ByteArray := prog_1_method_11_code
def yX5_shut : MethodName := ⟨RX5, "shut", "()I"⟩
abbrev cX5_file : ByteArray := prog_1_method_12_code
def yX5_file : MethodName := ⟨RX5, "file", "(I)I"⟩
abbrev cX5_drift : ByteArray := prog_1_method_13_code
def yX5_drift : MethodName := ⟨RX5, "drift", "(I)I"⟩
abbrev cX5_undo : ByteArray := prog_1_method_14_code
def yX5_undo : MethodName := ⟨RX5, "undo", "()I"⟩
abbrev cX5_seed : ByteArray := prog_1_method_15_code
def yX5_seed : MethodName := ⟨RX5, "seed", "(I)I"⟩
abbrev cX5_opens : ByteArray := prog_1_method_16_code
def yX5_opens : MethodName := ⟨RX5, "opens", "(I)I"⟩
abbrev cX5_rows : ByteArray := prog_1_method_17_code
def yX5_rows : MethodName := ⟨RX5, "rows", "()I"⟩
abbrev cX5_reach : ByteArray := prog_1_method_18_code
def yX5_reach : MethodName := ⟨RX5, "reach", "(I)I"⟩
abbrev cX5_key : ByteArray := prog_1_method_19_code
def yX5_key : MethodName := ⟨RX5, "key", "(I)I"⟩
abbrev cX5_files : ByteArray := prog_1_method_20_code
def yX5_files : MethodName := ⟨RX5, "files", "(II)I"⟩
abbrev cX5_game : ByteArray := prog_1_method_21_code
def yX5_game : MethodName := ⟨RX5, "game", "(I)I"⟩
abbrev cX5_fumble : ByteArray := prog_1_method_22_code
def yX5_fumble : MethodName := ⟨RX5, "fumble", "(II)J"⟩
abbrev cX5_image : ByteArray := prog_1_method_23_code
def yX5_image : MethodName := ⟨RX5, "image", "()I"⟩
abbrev cX5_restore : ByteArray := prog_1_method_24_code
def yX5_restore : MethodName := ⟨RX5, "restore", "()I"⟩
abbrev cX5_to : ByteArray := prog_1_method_25_code
def yX5_to : MethodName := ⟨RX5, "to", "(IIII)I"⟩
abbrev cX5_clicks : ByteArray := prog_1_method_26_code
def yX5_clicks : MethodName := ⟨RX5, "clicks", "(IIIII)I"⟩
abbrev cX5_film : ByteArray := prog_1_method_27_code
def yX5_film : MethodName := ⟨RX5, "film", "(III)I"⟩
abbrev cX5_sheet : ByteArray := prog_1_method_28_code
def yX5_sheet : MethodName := ⟨RX5, "sheet", "(III)I"⟩
abbrev cX5_drop : ByteArray := prog_1_method_29_code
def yX5_drop : MethodName := ⟨RX5, "drop", "(I)I"⟩
abbrev cX5_item : ByteArray := prog_1_method_30_code
def yX5_item : MethodName := ⟨RX5, "item", "(IIIJ)I"⟩
abbrev cX5_copy : ByteArray := prog_1_method_31_code
def yX5_copy : MethodName := ⟨RX5, "copy", "(IIIII)I"⟩
abbrev cX5_bit : ByteArray := prog_1_method_32_code
def yX5_bit : MethodName := ⟨RX5, "bit", "(Z)I"⟩
abbrev cX5_placeIn : ByteArray := prog_1_method_33_code
def yX5_placeIn : MethodName := ⟨RX5, "placeIn", "(II)I"⟩
abbrev cX5_isSheet : ByteArray := prog_1_method_34_code
def yX5_isSheet : MethodName := ⟨RX5, "isSheet", "(I)Z"⟩
abbrev cX5_isLane : ByteArray := prog_1_method_35_code
def yX5_isLane : MethodName := ⟨RX5, "isLane", "(I)Z"⟩
abbrev cX5_opensWith : ByteArray := prog_1_method_36_code
def yX5_opensWith : MethodName := ⟨RX5, "opensWith", "(I)I"⟩
abbrev cX5_evenShares : ByteArray := prog_1_method_37_code
def yX5_evenShares : MethodName := ⟨RX5, "evenShares", "(I)J"⟩
abbrev cX5_openShares : ByteArray := prog_1_method_38_code
def yX5_openShares : MethodName := ⟨RX5, "openShares", "(LSecretBox$Box;II)J"⟩
abbrev cX5_greatestDivisor : ByteArray := prog_1_method_39_code
def yX5_greatestDivisor : MethodName := ⟨RX5, "greatestDivisor", "(JJ)J"⟩
abbrev cX5_areClicks : ByteArray := prog_1_method_40_code
def yX5_areClicks : MethodName := ⟨RX5, "areClicks", "(LSecretBox$Sheet;II)Z"⟩
abbrev cX5_clicksSo : ByteArray := prog_1_method_41_code
def yX5_clicksSo : MethodName := ⟨RX5, "clicksSo", "(LSecretBox$Box;ILSecretBox$Sheet;II)Z"⟩
abbrev cX5_kindsByClicks : ByteArray := prog_1_method_42_code
def yX5_kindsByClicks : MethodName := ⟨RX5, "kindsByClicks", "(ILSecretBox$Sheet;II)I"⟩
abbrev cX5_locksByClicks : ByteArray := prog_1_method_43_code
def yX5_locksByClicks : MethodName := ⟨RX5, "locksByClicks", "(LSecretBox$Sheet;II)I"⟩
def RX6 : String := "SecretBoxModel"
def TX6 : u_T := fun k => match k with
  | 0 => ("SecretBoxModel", "now", "[I", true)
  | 1 => ("SecretBoxModel", "tape", "[I", true)
  | 2 => ("SecretBoxModel", "typed", "I", false)
  | 3 => ("SecretBoxModel", "place", "I", false)
  | 4 => ("SecretBoxModel", "isFault", "Z", false)
  | 5 => ("SecretBoxModel", "readPanels", "[I", true)
  | 6 => ("SecretBoxModel", "readLid", "I", false)
  | 7 => ("SecretBoxModel", "readLocks", "[I", true)
  | 8 => ("SecretBoxModel", "undone", "[I", true)
  | 9 => ("SecretBoxModel", "undos", "I", false)
  | 10 => ("SecretBoxModel", "met", "[I", true)
  | 11 => ("SecretBoxModel", "meetings", "I", false)
  | 12 => ("SecretBoxModel", "far", "[I", true)
  | 13 => ("SecretBoxModel", "fromWhich", "[I", true)
  | 14 => ("SecretBoxModel", "byWhich", "[I", true)
  | 15 => ("SecretBoxModel", "ways", "[I", true)
  | 16 => ("SecretBoxModel", "then", "[I", true)
  | 17 => ("SecretBoxModel", "known", "[I", true)
  | 18 => ("SecretBoxModel", "depth", "[I", true)
  | 19 => ("SecretBoxModel", "parts", "[J", true)
  | 20 => ("SecretBoxModel", "more", "[J", true)
  | 21 => ("SecretBoxModel", "kept", "[I", true)
  | 22 => ("SecretBoxModel", "keptUndos", "I", false)
  | 23 => ("SecretBoxModel", "isKept", "Z", false)
  | 24 => ("SecretBoxModel", "lanes", "[I", true)
  | 25 => ("SecretBoxModel", "sizes", "[I", true)
  | 26 => ("SecretBoxModel", "items", "[J", true)
  | _ => ("SecretBoxModel", "moved", "[J", true)
def tyX6 : Nat → FieldType := fun k => match k with
  | 0 => .array .int
  | 1 => .array .int
  | 2 => .int
  | 3 => .int
  | 4 => .boolean
  | 5 => .array .int
  | 6 => .int
  | 7 => .array .int
  | 8 => .array .int
  | 9 => .int
  | 10 => .array .int
  | 11 => .int
  | 12 => .array .int
  | 13 => .array .int
  | 14 => .array .int
  | 15 => .array .int
  | 16 => .array .int
  | 17 => .array .int
  | 18 => .array .int
  | 19 => .array .long
  | 20 => .array .long
  | 21 => .array .int
  | 22 => .int
  | 23 => .boolean
  | 24 => .array .int
  | 25 => .array .int
  | 26 => .array .long
  | _ => .array .long
abbrev wsX60 : List Cond := u_ws RX6 TX6 28
theorem nmX6 : ∀ a, a < 28 → ∀ b, b < 28 → a ≠ b → (TX6 a).2.1 ≠ (TX6 b).2.1 := by decide +kernel
theorem tyX6_ok : ∀ k, k < 28 → parseFieldDescriptor (TX6 k).2.2.1 = some (tyX6 k) := by decide +kernel
abbrev cX6_in : ByteArray := prog_8_method_2_code
def yX6_in : MethodName := ⟨RX6, "in", "(JJJ)Z"⟩
abbrev cX6_init : ByteArray := prog_8_method_3_code
def yX6_init : MethodName := ⟨RX6, "<init>", "()V"⟩
abbrev cX6_isPanel : ByteArray := prog_8_method_4_code
def yX6_isPanel : MethodName := ⟨RX6, "isPanel", "(I)Z"⟩
abbrev cX6_isLock : ByteArray := prog_8_method_5_code
def yX6_isLock : MethodName := ⟨RX6, "isLock", "(I)Z"⟩
abbrev cX6_kind : ByteArray := prog_8_method_6_code
def yX6_kind : MethodName := ⟨RX6, "kind", "(I)I"⟩
abbrev cX6_deep : ByteArray := prog_8_method_7_code
def yX6_deep : MethodName := ⟨RX6, "deep", "(I)I"⟩
abbrev cX6_ofLock : ByteArray := prog_8_method_8_code
def yX6_ofLock : MethodName := ⟨RX6, "ofLock", "(II)I"⟩
abbrev cX6_placeIn : ByteArray := prog_8_method_9_code
def yX6_placeIn : MethodName := ⟨RX6, "placeIn", "(II)I"⟩
abbrev cX6_isOpen : ByteArray := prog_8_method_10_code
def yX6_isOpen : MethodName := ⟨RX6, "isOpen", "(I)Z"⟩
abbrev cX6_isRing : ByteArray := prog_8_method_11_code
def yX6_isRing : MethodName := ⟨RX6, "isRing", "(II)Z"⟩
abbrev cX6_lets : ByteArray := prog_8_method_12_code
def yX6_lets : MethodName := ⟨RX6, "lets", "(IIIII)Z"⟩
abbrev cX6_may : ByteArray := prog_8_method_13_code
def yX6_may : MethodName := ⟨RX6, "may", "(IIII)Z"⟩
abbrev cX6_behind : ByteArray := prog_8_method_14_code
def yX6_behind : MethodName := ⟨RX6, "behind", "(III)I"⟩
abbrev cX6_many : ByteArray := prog_8_method_15_code
def yX6_many : MethodName := ⟨RX6, "many", "(I)I"⟩
abbrev cX6_panelComes : ByteArray := prog_8_method_16_code
def yX6_panelComes : MethodName := ⟨RX6, "panelComes", "(II)V"⟩
abbrev cX6_lockComes : ByteArray := prog_8_method_17_code
def yX6_lockComes : MethodName := ⟨RX6, "lockComes", "(IIII)V"⟩
abbrev cX6_panel : ByteArray := prog_8_method_18_code
def yX6_panel : MethodName := ⟨RX6, "panel", "(II)I"⟩
abbrev cX6_lock : ByteArray := prog_8_method_19_code
def yX6_lock : MethodName := ⟨RX6, "lock", "(IIII)I"⟩
abbrev cX6_lid : ByteArray := prog_8_method_20_code
def yX6_lid : MethodName := ⟨RX6, "lid", "(I)I"⟩
abbrev cX6_mayNow : ByteArray := prog_8_method_21_code
def yX6_mayNow : MethodName := ⟨RX6, "mayNow", "(II)I"⟩
abbrev cX6_of : ByteArray := prog_8_method_22_code
def yX6_of : MethodName := ⟨RX6, "of", "(II)I"⟩
abbrev cX6_at : ByteArray := prog_8_method_23_code
def yX6_at : MethodName := ⟨RX6, "at", "(II)I"⟩
abbrev cX6_outs : ByteArray := prog_8_method_24_code
def yX6_outs : MethodName := ⟨RX6, "outs", "()I"⟩
abbrev cX6_slides : ByteArray := prog_8_method_25_code
def yX6_slides : MethodName := ⟨RX6, "slides", "()I"⟩
abbrev cX6_count : ByteArray := prog_8_method_26_code
def yX6_count : MethodName := ⟨RX6, "count", "(I)I"⟩
abbrev cX6_type : ByteArray := prog_8_method_27_code
def yX6_type : MethodName := ⟨RX6, "type", "(I)I"⟩
abbrev cX6_here : ByteArray := prog_8_method_28_code
def yX6_here : MethodName := ⟨RX6, "here", "()I"⟩
abbrev cX6_must : ByteArray := prog_8_method_29_code
def yX6_must : MethodName := ⟨RX6, "must", "(Z)V"⟩
abbrev cX6_digit : ByteArray := prog_8_method_30_code
def yX6_digit : MethodName := ⟨RX6, "digit", "(II)I"⟩
abbrev cX6_panelsRead : ByteArray := prog_8_method_31_code
def yX6_panelsRead : MethodName := ⟨RX6, "panelsRead", "()I"⟩
abbrev cX6_placesRead : ByteArray := prog_8_method_32_code
def yX6_placesRead : MethodName := ⟨RX6, "placesRead", "(I)I"⟩
abbrev cX6_locksRead : ByteArray := prog_8_method_33_code
def yX6_locksRead : MethodName := ⟨RX6, "locksRead", "(I)I"⟩
abbrev cX6_box : ByteArray := prog_8_method_34_code
def yX6_box : MethodName := ⟨RX6, "box", "()I"⟩
abbrev cX6_notes : ByteArray := prog_8_method_35_code
def yX6_notes : MethodName := ⟨RX6, "notes", "()V"⟩
abbrev cX6_slide : ByteArray := prog_8_method_36_code
def yX6_slide : MethodName := ⟨RX6, "slide", "(II)I"⟩
abbrev cX6_shut : ByteArray := prog_8_method_37_code
def yX6_shut : MethodName := ⟨RX6, "shut", "()I"⟩
abbrev cX6_file : ByteArray := prog_8_method_38_code
def yX6_file : MethodName := ⟨RX6, "file", "(I)I"⟩
abbrev cX6_drift : ByteArray := prog_8_method_39_code
def yX6_drift : MethodName := ⟨RX6, "drift", "(I)I"⟩
abbrev cX6_undo : ByteArray := prog_8_method_40_code
def yX6_undo : MethodName := ⟨RX6, "undo", "()I"⟩
abbrev cX6_seed : ByteArray := prog_8_method_41_code
def yX6_seed : MethodName := ⟨RX6, "seed", "(I)I"⟩
abbrev cX6_meets : ByteArray := prog_8_method_42_code
def yX6_meets : MethodName := ⟨RX6, "meets", "(III)V"⟩
abbrev cX6_goesThrough : ByteArray := prog_8_method_43_code
def yX6_goesThrough : MethodName := ⟨RX6, "goesThrough", "(I)V"⟩
abbrev cX6_firstOpen : ByteArray := prog_8_method_44_code
def yX6_firstOpen : MethodName := ⟨RX6, "firstOpen", "()I"⟩
abbrev cX6_wayTo : ByteArray := prog_8_method_45_code
def yX6_wayTo : MethodName := ⟨RX6, "wayTo", "(II)I"⟩
abbrev cX6_opens : ByteArray := prog_8_method_46_code
def yX6_opens : MethodName := ⟨RX6, "opens", "(I)I"⟩
abbrev cX6_rows : ByteArray := prog_8_method_47_code
def yX6_rows : MethodName := ⟨RX6, "rows", "()I"⟩
abbrev cX6_leadsToKnown : ByteArray := prog_8_method_48_code
def yX6_leadsToKnown : MethodName := ⟨RX6, "leadsToKnown", "(I)Z"⟩
abbrev cX6_dead : ByteArray := prog_8_method_49_code
def yX6_dead : MethodName := ⟨RX6, "dead", "()I"⟩
abbrev cX6_reach : ByteArray := prog_8_method_50_code
def yX6_reach : MethodName := ⟨RX6, "reach", "(I)I"⟩
abbrev cX6_key : ByteArray := prog_8_method_51_code
def yX6_key : MethodName := ⟨RX6, "key", "(I)I"⟩
abbrev cX6_files : ByteArray := prog_8_method_52_code
def yX6_files : MethodName := ⟨RX6, "files", "(II)I"⟩
abbrev cX6_slideTo : ByteArray := prog_8_method_53_code
def yX6_slideTo : MethodName := ⟨RX6, "slideTo", "(III)I"⟩
abbrev cX6_areAll : ByteArray := prog_8_method_54_code
def yX6_areAll : MethodName := ⟨RX6, "areAll", "(II)Z"⟩
abbrev cX6_solves : ByteArray := prog_8_method_55_code
def yX6_solves : MethodName := ⟨RX6, "solves", "()V"⟩
abbrev cX6_game : ByteArray := prog_8_method_56_code
def yX6_game : MethodName := ⟨RX6, "game", "(I)I"⟩
abbrev cX6_fumbles : ByteArray := prog_8_method_57_code
def yX6_fumbles : MethodName := ⟨RX6, "fumbles", "()V"⟩
abbrev cX6_fumble : ByteArray := prog_8_method_58_code
def yX6_fumble : MethodName := ⟨RX6, "fumble", "(II)J"⟩
abbrev cX6_image : ByteArray := prog_8_method_59_code
def yX6_image : MethodName := ⟨RX6, "image", "()I"⟩
abbrev cX6_restore : ByteArray := prog_8_method_60_code
def yX6_restore : MethodName := ⟨RX6, "restore", "()I"⟩
abbrev cX6_isSheet : ByteArray := prog_8_method_61_code
def yX6_isSheet : MethodName := ⟨RX6, "isSheet", "(I)Z"⟩
abbrev cX6_isLane : ByteArray := prog_8_method_62_code
def yX6_isLane : MethodName := ⟨RX6, "isLane", "(I)Z"⟩
abbrev cX6_why : ByteArray := prog_8_method_63_code
def yX6_why : MethodName := ⟨RX6, "why", "(IIII)I"⟩
abbrev cX6_to : ByteArray := prog_8_method_64_code
def yX6_to : MethodName := ⟨RX6, "to", "(IIII)I"⟩
abbrev cX6_clicksSo : ByteArray := prog_8_method_65_code
def yX6_clicksSo : MethodName := ⟨RX6, "clicksSo", "(III)Z"⟩
abbrev cX6_kindsBy : ByteArray := prog_8_method_66_code
def yX6_kindsBy : MethodName := ⟨RX6, "kindsBy", "(III)I"⟩
abbrev cX6_clicks : ByteArray := prog_8_method_67_code
def yX6_clicks : MethodName := ⟨RX6, "clicks", "(IIIII)I"⟩
abbrev cX6_film : ByteArray := prog_8_method_68_code
def yX6_film : MethodName := ⟨RX6, "film", "(III)I"⟩
abbrev cX6_sheet : ByteArray := prog_8_method_69_code
def yX6_sheet : MethodName := ⟨RX6, "sheet", "(III)I"⟩
abbrev cX6_drop : ByteArray := prog_8_method_70_code
def yX6_drop : MethodName := ⟨RX6, "drop", "(I)I"⟩
abbrev cX6_item : ByteArray := prog_8_method_71_code
def yX6_item : MethodName := ⟨RX6, "item", "(IIIJ)I"⟩
abbrev cX6_copy : ByteArray := prog_8_method_72_code
def yX6_copy : MethodName := ⟨RX6, "copy", "(IIIII)I"⟩
def RJ6 : String := "java/lang/Integer"
abbrev cJ6_bitCount_0f7a4 : ByteArray := prog_10_method_49_code
def yJ6_bitCount_0f7a4 : MethodName := ⟨RJ6, "bitCount", "(I)I"⟩
def RL : String := "SecretBoxLaw"
abbrev cL_law : ByteArray := code
def yL_law : MethodName := ⟨RL, "law", "([I)Z"⟩
abbrev vwCl : List vw_C := [(RX0, TX0, 18), (RX1, TX1, 9), (RX2, TX2, 4), (RX3, TX3, 3), (RX4, TX4, 12), (RX5, TX5, 8), (RX6, TX6, 28)]
end
section
/-! THE METHODS THAT ARE WALKED: class, name, bytes, locals, return, instructions (by program out of the printed names) -/
abbrev Cl : Type := List (Nat × Instr × Nat)
abbrev Ct : Type := List Cl
abbrev MR : Type := Nat × MethodName × ByteArray × Nat × Option FieldType × Ct
abbrev Law : Nat := 0
def k_0_0 : Cl := [(0, .new 7, 3), (3, .dup, 1), (4, .invokespecial 9, 3), (7, .astore_n 1, 1), (8, .new 10, 3), (11, .dup, 1), (12, .invokespecial 12, 3), (15, .astore_n 2, 1), (16, .iconst 0, 1), (17, .istore_n 3, 1), (18, .iload_n 3, 1), (19, .aload_n 0, 1), (20, .arraylength, 1), (21, .bipush 6, 2), (23, .isub, 1), (24, .if_icmp .gt 1081, 3), (27, .aload_n 0, 1), (28, .iload_n 3, 1), (29, .iaload, 1), (30, .bipush 31, 2)]
def k_0_1 : Cl := [(32, .iand, 1), (33, .tableswitch 1066 0 29 #[135, 168, 221, 244, 277, 310, 333, 346, 369, 402, 415, 438, 461, 474, 497, 520, 533, 556, 579, 612, 635, 669, 682, 695, 748, 811, 854, 897, 920, 1003], 135)]
def k_0_2 : Cl := []
def k_0_3 : Cl := []
def k_0_4 : Cl := []
def k_0_5 : Cl := [(168, .aload_n 1, 1), (169, .aload_n 0, 1), (170, .iload_n 3, 1), (171, .iconst 1, 1), (172, .iadd, 1), (173, .iaload, 1), (174, .aload_n 0, 1), (175, .iload_n 3, 1), (176, .iconst 2, 1), (177, .iadd, 1), (178, .iaload, 1), (179, .invokevirtual 13, 3), (182, .aload_n 2, 1), (183, .aload_n 0, 1), (184, .iload_n 3, 1), (185, .iconst 1, 1), (186, .iadd, 1), (187, .iaload, 1), (188, .aload_n 0, 1), (189, .iload_n 3, 1), (190, .iconst 2, 1), (191, .iadd, 1)]
def k_0_6 : Cl := [(192, .iaload, 1), (193, .invokevirtual 17, 3), (196, .if_icmp .eq 903, 3), (199, .iconst 0, 1), (200, .ireturn, 1), (201, .aload_n 1, 1), (202, .aload_n 0, 1), (203, .iload_n 3, 1), (204, .iconst 1, 1), (205, .iadd, 1), (206, .iaload, 1), (207, .aload_n 0, 1), (208, .iload_n 3, 1), (209, .iconst 2, 1), (210, .iadd, 1), (211, .iaload, 1), (212, .aload_n 0, 1), (213, .iload_n 3, 1), (214, .iconst 3, 1), (215, .iadd, 1), (216, .iaload, 1), (217, .aload_n 0, 1), (218, .iload_n 3, 1), (219, .iconst 4, 1), (220, .iadd, 1), (221, .iaload, 1), (222, .invokevirtual 18, 3)]
def k_0_7 : Cl := [(225, .aload_n 2, 1), (226, .aload_n 0, 1), (227, .iload_n 3, 1), (228, .iconst 1, 1), (229, .iadd, 1), (230, .iaload, 1), (231, .aload_n 0, 1), (232, .iload_n 3, 1), (233, .iconst 2, 1), (234, .iadd, 1), (235, .iaload, 1), (236, .aload_n 0, 1), (237, .iload_n 3, 1), (238, .iconst 3, 1), (239, .iadd, 1), (240, .iaload, 1), (241, .aload_n 0, 1), (242, .iload_n 3, 1), (243, .iconst 4, 1), (244, .iadd, 1), (245, .iaload, 1), (246, .invokevirtual 22, 3), (249, .if_icmp .eq 850, 3), (252, .iconst 0, 1), (253, .ireturn, 1), (254, .aload_n 1, 1), (255, .aload_n 0, 1)]
def k_0_8 : Cl := [(256, .iload_n 3, 1), (257, .iconst 1, 1), (258, .iadd, 1), (259, .iaload, 1), (260, .invokevirtual 23, 3), (263, .aload_n 2, 1), (264, .aload_n 0, 1), (265, .iload_n 3, 1), (266, .iconst 1, 1), (267, .iadd, 1), (268, .iaload, 1), (269, .invokevirtual 27, 3), (272, .if_icmp .eq 827, 3), (275, .iconst 0, 1), (276, .ireturn, 1), (277, .aload_n 1, 1), (278, .aload_n 0, 1), (279, .iload_n 3, 1), (280, .iconst 1, 1), (281, .iadd, 1), (282, .iaload, 1), (283, .aload_n 0, 1), (284, .iload_n 3, 1), (285, .iconst 2, 1), (286, .iadd, 1), (287, .iaload, 1)]
def k_0_9 : Cl := [(288, .invokevirtual 28, 3), (291, .aload_n 2, 1), (292, .aload_n 0, 1), (293, .iload_n 3, 1), (294, .iconst 1, 1), (295, .iadd, 1), (296, .iaload, 1), (297, .aload_n 0, 1), (298, .iload_n 3, 1), (299, .iconst 2, 1), (300, .iadd, 1), (301, .iaload, 1), (302, .invokevirtual 31, 3), (305, .if_icmp .eq 794, 3), (308, .iconst 0, 1), (309, .ireturn, 1), (310, .aload_n 1, 1), (311, .aload_n 0, 1), (312, .iload_n 3, 1), (313, .iconst 1, 1), (314, .iadd, 1), (315, .iaload, 1), (316, .aload_n 0, 1), (317, .iload_n 3, 1), (318, .iconst 2, 1), (319, .iadd, 1)]
def k_0_10 : Cl := [(320, .iaload, 1), (321, .invokevirtual 32, 3), (324, .aload_n 2, 1), (325, .aload_n 0, 1), (326, .iload_n 3, 1), (327, .iconst 1, 1), (328, .iadd, 1), (329, .iaload, 1), (330, .aload_n 0, 1), (331, .iload_n 3, 1), (332, .iconst 2, 1), (333, .iadd, 1), (334, .iaload, 1), (335, .invokevirtual 35, 3), (338, .if_icmp .eq 761, 3), (341, .iconst 0, 1), (342, .ireturn, 1), (343, .aload_n 1, 1), (344, .aload_n 0, 1), (345, .iload_n 3, 1), (346, .iconst 1, 1), (347, .iadd, 1), (348, .iaload, 1), (349, .invokevirtual 36, 3)]
def k_0_11 : Cl := [(352, .aload_n 2, 1), (353, .aload_n 0, 1), (354, .iload_n 3, 1), (355, .iconst 1, 1), (356, .iadd, 1), (357, .iaload, 1), (358, .invokevirtual 39, 3), (361, .if_icmp .eq 738, 3), (364, .iconst 0, 1), (365, .ireturn, 1), (366, .aload_n 1, 1), (367, .invokevirtual 40, 3), (370, .aload_n 2, 1), (371, .invokevirtual 44, 3), (374, .if_icmp .eq 725, 3), (377, .iconst 0, 1), (378, .ireturn, 1), (379, .aload_n 1, 1), (380, .aload_n 0, 1), (381, .iload_n 3, 1), (382, .iconst 1, 1), (383, .iadd, 1)]
def k_0_12 : Cl := [(384, .iaload, 1), (385, .invokevirtual 45, 3), (388, .aload_n 2, 1), (389, .aload_n 0, 1), (390, .iload_n 3, 1), (391, .iconst 1, 1), (392, .iadd, 1), (393, .iaload, 1), (394, .invokevirtual 48, 3), (397, .if_icmp .eq 702, 3), (400, .iconst 0, 1), (401, .ireturn, 1), (402, .aload_n 1, 1), (403, .aload_n 0, 1), (404, .iload_n 3, 1), (405, .iconst 1, 1), (406, .iadd, 1), (407, .iaload, 1), (408, .aload_n 0, 1), (409, .iload_n 3, 1), (410, .iconst 2, 1), (411, .iadd, 1), (412, .iaload, 1), (413, .invokevirtual 49, 3)]
def k_0_13 : Cl := [(416, .aload_n 2, 1), (417, .aload_n 0, 1), (418, .iload_n 3, 1), (419, .iconst 1, 1), (420, .iadd, 1), (421, .iaload, 1), (422, .aload_n 0, 1), (423, .iload_n 3, 1), (424, .iconst 2, 1), (425, .iadd, 1), (426, .iaload, 1), (427, .invokevirtual 52, 3), (430, .if_icmp .eq 669, 3), (433, .iconst 0, 1), (434, .ireturn, 1), (435, .aload_n 1, 1), (436, .invokevirtual 53, 3), (439, .aload_n 2, 1), (440, .invokevirtual 56, 3), (443, .if_icmp .eq 656, 3), (446, .iconst 0, 1), (447, .ireturn, 1)]
def k_0_14 : Cl := [(448, .aload_n 1, 1), (449, .aload_n 0, 1), (450, .iload_n 3, 1), (451, .iconst 1, 1), (452, .iadd, 1), (453, .iaload, 1), (454, .invokevirtual 57, 3), (457, .aload_n 2, 1), (458, .aload_n 0, 1), (459, .iload_n 3, 1), (460, .iconst 1, 1), (461, .iadd, 1), (462, .iaload, 1), (463, .invokevirtual 60, 3), (466, .if_icmp .eq 633, 3), (469, .iconst 0, 1), (470, .ireturn, 1), (471, .aload_n 1, 1), (472, .aload_n 0, 1), (473, .iload_n 3, 1), (474, .iconst 1, 1), (475, .iadd, 1), (476, .iaload, 1), (477, .invokevirtual 61, 3)]
def k_0_15 : Cl := [(480, .aload_n 2, 1), (481, .aload_n 0, 1), (482, .iload_n 3, 1), (483, .iconst 1, 1), (484, .iadd, 1), (485, .iaload, 1), (486, .invokevirtual 64, 3), (489, .if_icmp .eq 610, 3), (492, .iconst 0, 1), (493, .ireturn, 1), (494, .aload_n 1, 1), (495, .invokevirtual 65, 3), (498, .aload_n 2, 1), (499, .invokevirtual 68, 3), (502, .if_icmp .eq 597, 3), (505, .iconst 0, 1), (506, .ireturn, 1), (507, .aload_n 1, 1), (508, .aload_n 0, 1), (509, .iload_n 3, 1), (510, .iconst 1, 1), (511, .iadd, 1)]
def k_0_16 : Cl := [(512, .iaload, 1), (513, .invokevirtual 69, 3), (516, .aload_n 2, 1), (517, .aload_n 0, 1), (518, .iload_n 3, 1), (519, .iconst 1, 1), (520, .iadd, 1), (521, .iaload, 1), (522, .invokevirtual 72, 3), (525, .if_icmp .eq 574, 3), (528, .iconst 0, 1), (529, .ireturn, 1), (530, .aload_n 1, 1), (531, .aload_n 0, 1), (532, .iload_n 3, 1), (533, .iconst 1, 1), (534, .iadd, 1), (535, .iaload, 1), (536, .invokevirtual 73, 3), (539, .aload_n 2, 1), (540, .aload_n 0, 1), (541, .iload_n 3, 1), (542, .iconst 1, 1), (543, .iadd, 1)]
def k_0_17 : Cl := [(544, .iaload, 1), (545, .invokevirtual 76, 3), (548, .if_icmp .eq 551, 3), (551, .iconst 0, 1), (552, .ireturn, 1), (553, .aload_n 1, 1), (554, .invokevirtual 77, 3), (557, .aload_n 2, 1), (558, .invokevirtual 80, 3), (561, .if_icmp .eq 538, 3), (564, .iconst 0, 1), (565, .ireturn, 1), (566, .aload_n 1, 1), (567, .aload_n 0, 1), (568, .iload_n 3, 1), (569, .iconst 1, 1), (570, .iadd, 1), (571, .iaload, 1), (572, .invokevirtual 81, 3), (575, .aload_n 2, 1)]
def k_0_18 : Cl := [(576, .aload_n 0, 1), (577, .iload_n 3, 1), (578, .iconst 1, 1), (579, .iadd, 1), (580, .iaload, 1), (581, .invokevirtual 84, 3), (584, .if_icmp .eq 515, 3), (587, .iconst 0, 1), (588, .ireturn, 1), (589, .aload_n 1, 1), (590, .aload_n 0, 1), (591, .iload_n 3, 1), (592, .iconst 1, 1), (593, .iadd, 1), (594, .iaload, 1), (595, .invokevirtual 85, 3), (598, .aload_n 2, 1), (599, .aload_n 0, 1), (600, .iload_n 3, 1), (601, .iconst 1, 1), (602, .iadd, 1), (603, .iaload, 1), (604, .invokevirtual 88, 3), (607, .if_icmp .eq 492, 3)]
def k_0_19 : Cl := [(610, .iconst 0, 1), (611, .ireturn, 1), (612, .aload_n 1, 1), (613, .aload_n 0, 1), (614, .iload_n 3, 1), (615, .iconst 1, 1), (616, .iadd, 1), (617, .iaload, 1), (618, .aload_n 0, 1), (619, .iload_n 3, 1), (620, .iconst 2, 1), (621, .iadd, 1), (622, .iaload, 1), (623, .invokevirtual 89, 3), (626, .aload_n 2, 1), (627, .aload_n 0, 1), (628, .iload_n 3, 1), (629, .iconst 1, 1), (630, .iadd, 1), (631, .iaload, 1), (632, .aload_n 0, 1), (633, .iload_n 3, 1), (634, .iconst 2, 1), (635, .iadd, 1), (636, .iaload, 1), (637, .invokevirtual 92, 3)]
def k_0_20 : Cl := [(640, .if_icmp .eq 459, 3), (643, .iconst 0, 1), (644, .ireturn, 1), (645, .aload_n 1, 1), (646, .aload_n 0, 1), (647, .iload_n 3, 1), (648, .iconst 1, 1), (649, .iadd, 1), (650, .iaload, 1), (651, .invokevirtual 93, 3), (654, .aload_n 2, 1), (655, .aload_n 0, 1), (656, .iload_n 3, 1), (657, .iconst 1, 1), (658, .iadd, 1), (659, .iaload, 1), (660, .invokevirtual 96, 3), (663, .if_icmp .eq 436, 3), (666, .iconst 0, 1), (667, .ireturn, 1), (668, .aload_n 1, 1), (669, .aload_n 0, 1), (670, .iload_n 3, 1), (671, .iconst 1, 1)]
def k_0_21 : Cl := [(672, .iadd, 1), (673, .iaload, 1), (674, .aload_n 0, 1), (675, .iload_n 3, 1), (676, .iconst 2, 1), (677, .iadd, 1), (678, .iaload, 1), (679, .invokevirtual 97, 3), (682, .aload_n 2, 1), (683, .aload_n 0, 1), (684, .iload_n 3, 1), (685, .iconst 1, 1), (686, .iadd, 1), (687, .iaload, 1), (688, .aload_n 0, 1), (689, .iload_n 3, 1), (690, .iconst 2, 1), (691, .iadd, 1), (692, .iaload, 1), (693, .invokevirtual 101, 3), (696, .lcmp, 1), (697, .ifCond .eq 402, 3), (700, .iconst 0, 1), (701, .ireturn, 1), (702, .aload_n 1, 1), (703, .invokevirtual 102, 3)]
def k_0_22 : Cl := [(706, .aload_n 2, 1), (707, .invokevirtual 105, 3), (710, .if_icmp .eq 389, 3), (713, .iconst 0, 1), (714, .ireturn, 1), (715, .aload_n 1, 1), (716, .invokevirtual 106, 3), (719, .aload_n 2, 1), (720, .invokevirtual 109, 3), (723, .if_icmp .eq 376, 3), (726, .iconst 0, 1), (727, .ireturn, 1), (728, .aload_n 1, 1), (729, .aload_n 0, 1), (730, .iload_n 3, 1), (731, .iconst 1, 1), (732, .iadd, 1), (733, .iaload, 1), (734, .aload_n 0, 1), (735, .iload_n 3, 1)]
def k_0_23 : Cl := [(736, .iconst 2, 1), (737, .iadd, 1), (738, .iaload, 1), (739, .aload_n 0, 1), (740, .iload_n 3, 1), (741, .iconst 3, 1), (742, .iadd, 1), (743, .iaload, 1), (744, .aload_n 0, 1), (745, .iload_n 3, 1), (746, .iconst 4, 1), (747, .iadd, 1), (748, .iaload, 1), (749, .invokevirtual 110, 3), (752, .aload_n 2, 1), (753, .aload_n 0, 1), (754, .iload_n 3, 1), (755, .iconst 1, 1), (756, .iadd, 1), (757, .iaload, 1), (758, .aload_n 0, 1), (759, .iload_n 3, 1), (760, .iconst 2, 1), (761, .iadd, 1), (762, .iaload, 1), (763, .aload_n 0, 1), (764, .iload_n 3, 1), (765, .iconst 3, 1), (766, .iadd, 1), (767, .iaload, 1)]
def k_0_24 : Cl := [(768, .aload_n 0, 1), (769, .iload_n 3, 1), (770, .iconst 4, 1), (771, .iadd, 1), (772, .iaload, 1), (773, .invokevirtual 113, 3), (776, .if_icmp .eq 323, 3), (779, .iconst 0, 1), (780, .ireturn, 1), (781, .aload_n 1, 1), (782, .aload_n 0, 1), (783, .iload_n 3, 1), (784, .iconst 1, 1), (785, .iadd, 1), (786, .iaload, 1), (787, .aload_n 0, 1), (788, .iload_n 3, 1), (789, .iconst 2, 1), (790, .iadd, 1), (791, .iaload, 1), (792, .aload_n 0, 1), (793, .iload_n 3, 1), (794, .iconst 3, 1), (795, .iadd, 1), (796, .iaload, 1), (797, .aload_n 0, 1), (798, .iload_n 3, 1), (799, .iconst 4, 1)]
def k_0_25 : Cl := [(800, .iadd, 1), (801, .iaload, 1), (802, .aload_n 0, 1), (803, .iload_n 3, 1), (804, .iconst 5, 1), (805, .iadd, 1), (806, .iaload, 1), (807, .invokevirtual 114, 3), (810, .aload_n 2, 1), (811, .aload_n 0, 1), (812, .iload_n 3, 1), (813, .iconst 1, 1), (814, .iadd, 1), (815, .iaload, 1), (816, .aload_n 0, 1), (817, .iload_n 3, 1), (818, .iconst 2, 1), (819, .iadd, 1), (820, .iaload, 1), (821, .aload_n 0, 1), (822, .iload_n 3, 1), (823, .iconst 3, 1), (824, .iadd, 1), (825, .iaload, 1), (826, .aload_n 0, 1), (827, .iload_n 3, 1), (828, .iconst 4, 1), (829, .iadd, 1), (830, .iaload, 1), (831, .aload_n 0, 1)]
def k_0_26 : Cl := [(832, .iload_n 3, 1), (833, .iconst 5, 1), (834, .iadd, 1), (835, .iaload, 1), (836, .invokevirtual 118, 3), (839, .if_icmp .eq 260, 3), (842, .iconst 0, 1), (843, .ireturn, 1), (844, .aload_n 1, 1), (845, .aload_n 0, 1), (846, .iload_n 3, 1), (847, .iconst 1, 1), (848, .iadd, 1), (849, .iaload, 1), (850, .aload_n 0, 1), (851, .iload_n 3, 1), (852, .iconst 2, 1), (853, .iadd, 1), (854, .iaload, 1), (855, .aload_n 0, 1), (856, .iload_n 3, 1), (857, .iconst 3, 1), (858, .iadd, 1), (859, .iaload, 1), (860, .invokevirtual 119, 3), (863, .aload_n 2, 1)]
def k_0_27 : Cl := [(864, .aload_n 0, 1), (865, .iload_n 3, 1), (866, .iconst 1, 1), (867, .iadd, 1), (868, .iaload, 1), (869, .aload_n 0, 1), (870, .iload_n 3, 1), (871, .iconst 2, 1), (872, .iadd, 1), (873, .iaload, 1), (874, .aload_n 0, 1), (875, .iload_n 3, 1), (876, .iconst 3, 1), (877, .iadd, 1), (878, .iaload, 1), (879, .invokevirtual 123, 3), (882, .if_icmp .eq 217, 3), (885, .iconst 0, 1), (886, .ireturn, 1), (887, .aload_n 1, 1), (888, .aload_n 0, 1), (889, .iload_n 3, 1), (890, .iconst 1, 1), (891, .iadd, 1), (892, .iaload, 1), (893, .aload_n 0, 1), (894, .iload_n 3, 1), (895, .iconst 2, 1)]
def k_0_28 : Cl := [(896, .iadd, 1), (897, .iaload, 1), (898, .aload_n 0, 1), (899, .iload_n 3, 1), (900, .iconst 3, 1), (901, .iadd, 1), (902, .iaload, 1), (903, .invokevirtual 124, 3), (906, .aload_n 2, 1), (907, .aload_n 0, 1), (908, .iload_n 3, 1), (909, .iconst 1, 1), (910, .iadd, 1), (911, .iaload, 1), (912, .aload_n 0, 1), (913, .iload_n 3, 1), (914, .iconst 2, 1), (915, .iadd, 1), (916, .iaload, 1), (917, .aload_n 0, 1), (918, .iload_n 3, 1), (919, .iconst 3, 1), (920, .iadd, 1), (921, .iaload, 1), (922, .invokevirtual 127, 3), (925, .if_icmp .eq 174, 3)]
def k_0_29 : Cl := [(928, .iconst 0, 1), (929, .ireturn, 1), (930, .aload_n 1, 1), (931, .aload_n 0, 1), (932, .iload_n 3, 1), (933, .iconst 1, 1), (934, .iadd, 1), (935, .iaload, 1), (936, .invokevirtual 128, 3), (939, .aload_n 2, 1), (940, .aload_n 0, 1), (941, .iload_n 3, 1), (942, .iconst 1, 1), (943, .iadd, 1), (944, .iaload, 1), (945, .invokevirtual 131, 3), (948, .if_icmp .eq 151, 3), (951, .iconst 0, 1), (952, .ireturn, 1), (953, .aload_n 1, 1), (954, .aload_n 0, 1), (955, .iload_n 3, 1), (956, .iconst 1, 1), (957, .iadd, 1), (958, .iaload, 1), (959, .aload_n 0, 1)]
def k_0_30 : Cl := [(960, .iload_n 3, 1), (961, .iconst 2, 1), (962, .iadd, 1), (963, .iaload, 1), (964, .aload_n 0, 1), (965, .iload_n 3, 1), (966, .iconst 3, 1), (967, .iadd, 1), (968, .iaload, 1), (969, .aload_n 0, 1), (970, .iload_n 3, 1), (971, .iconst 4, 1), (972, .iadd, 1), (973, .iaload, 1), (974, .i2l, 1), (975, .bipush 32, 2), (977, .lshl, 1), (978, .aload_n 0, 1), (979, .iload_n 3, 1), (980, .iconst 5, 1), (981, .iadd, 1), (982, .iaload, 1), (983, .i2l, 1), (984, .ldc2_w 132, 3), (987, .land, 1), (988, .lor, 1), (989, .invokevirtual 134, 3)]
def k_0_31 : Cl := [(992, .aload_n 2, 1), (993, .aload_n 0, 1), (994, .iload_n 3, 1), (995, .iconst 1, 1), (996, .iadd, 1), (997, .iaload, 1), (998, .aload_n 0, 1), (999, .iload_n 3, 1), (1000, .iconst 2, 1), (1001, .iadd, 1), (1002, .iaload, 1), (1003, .aload_n 0, 1), (1004, .iload_n 3, 1), (1005, .iconst 3, 1), (1006, .iadd, 1), (1007, .iaload, 1), (1008, .aload_n 0, 1), (1009, .iload_n 3, 1), (1010, .iconst 4, 1), (1011, .iadd, 1), (1012, .iaload, 1), (1013, .i2l, 1), (1014, .bipush 32, 2), (1016, .lshl, 1), (1017, .aload_n 0, 1), (1018, .iload_n 3, 1), (1019, .iconst 5, 1), (1020, .iadd, 1), (1021, .iaload, 1), (1022, .i2l, 1), (1023, .ldc2_w 132, 3)]
def k_0_32 : Cl := [(1026, .land, 1), (1027, .lor, 1), (1028, .invokevirtual 138, 3), (1031, .if_icmp .eq 68, 3), (1034, .iconst 0, 1), (1035, .ireturn, 1), (1036, .aload_n 1, 1), (1037, .aload_n 0, 1), (1038, .iload_n 3, 1), (1039, .iconst 1, 1), (1040, .iadd, 1), (1041, .iaload, 1), (1042, .aload_n 0, 1), (1043, .iload_n 3, 1), (1044, .iconst 2, 1), (1045, .iadd, 1), (1046, .iaload, 1), (1047, .aload_n 0, 1), (1048, .iload_n 3, 1), (1049, .iconst 3, 1), (1050, .iadd, 1), (1051, .iaload, 1), (1052, .aload_n 0, 1), (1053, .iload_n 3, 1), (1054, .iconst 4, 1), (1055, .iadd, 1)]
def k_0_33 : Cl := [(1056, .iaload, 1), (1057, .aload_n 0, 1), (1058, .iload_n 3, 1), (1059, .iconst 5, 1), (1060, .iadd, 1), (1061, .iaload, 1), (1062, .invokevirtual 139, 3), (1065, .aload_n 2, 1), (1066, .aload_n 0, 1), (1067, .iload_n 3, 1), (1068, .iconst 1, 1), (1069, .iadd, 1), (1070, .iaload, 1), (1071, .aload_n 0, 1), (1072, .iload_n 3, 1), (1073, .iconst 2, 1), (1074, .iadd, 1), (1075, .iaload, 1), (1076, .aload_n 0, 1), (1077, .iload_n 3, 1), (1078, .iconst 3, 1), (1079, .iadd, 1), (1080, .iaload, 1), (1081, .aload_n 0, 1), (1082, .iload_n 3, 1), (1083, .iconst 4, 1), (1084, .iadd, 1), (1085, .iaload, 1), (1086, .aload_n 0, 1), (1087, .iload_n 3, 1)]
def k_0_34 : Cl := [(1088, .iconst 5, 1), (1089, .iadd, 1), (1090, .iaload, 1), (1091, .invokevirtual 142, 3), (1094, .if_icmp .eq 5, 3), (1097, .iconst 0, 1), (1098, .ireturn, 1), (1099, .iinc 3 6, 3), (1102, .goto (-1084), 3), (1105, .iconst 1, 1), (1106, .ireturn, 1)]
def r_0 : MR := (7, yL_law, cL_law, 4, (some .boolean), [k_0_0, k_0_1, k_0_2, k_0_3, k_0_4, k_0_5, k_0_6, k_0_7, k_0_8, k_0_9, k_0_10, k_0_11, k_0_12, k_0_13, k_0_14, k_0_15, k_0_16, k_0_17, k_0_18, k_0_19, k_0_20, k_0_21, k_0_22, k_0_23, k_0_24, k_0_25, k_0_26, k_0_27, k_0_28, k_0_29, k_0_30, k_0_31, k_0_32, k_0_33, k_0_34])
abbrev Bx_clear : Nat := 1
def k_1_0 : Cl := [(0, .aload_n 0, 1), (1, .iconst 0, 1), (2, .putfield 47, 3), (5, .aload_n 0, 1), (6, .iconst 0, 1), (7, .putfield 50, 3), (10, .aload_n 0, 1), (11, .iconst 0, 1), (12, .putfield 53, 3), (15, .aload_n 0, 1), (16, .iconst 0, 1), (17, .putfield 56, 3), (20, .aload_n 0, 1), (21, .iconst 0, 1), (22, .putfield 59, 3), (25, .aload_n 0, 1), (26, .invokevirtual 62, 3), (29, .aload_n 0, 1), (30, .iconst 1, 1), (31, .putfield 43, 3)]
def k_1_1 : Cl := [(34, .return_, 1)]
def r_1 : MR := (0, yX0_clear, cX0_clear, 1, (Option.none : Option FieldType), [k_1_0, k_1_1])
abbrev Bx_becomes : Nat := 2
def k_2_0 : Cl := [(0, .aload_n 1, 1), (1, .getfield 9, 3), (4, .iconst 0, 1), (5, .aload_n 0, 1), (6, .getfield 9, 3), (9, .iconst 0, 1), (10, .iconst 5, 1), (11, .invokestatic 65, 3), (14, .aload_n 1, 1), (15, .getfield 15, 3), (18, .iconst 0, 1), (19, .aload_n 0, 1), (20, .getfield 15, 3), (23, .iconst 0, 1), (24, .iconst 5, 1), (25, .invokestatic 65, 3), (28, .aload_n 0, 1), (29, .aload_n 1, 1), (30, .getfield 47, 3)]
def k_2_1 : Cl := [(33, .putfield 47, 3), (36, .aload_n 1, 1), (37, .getfield 18, 3), (40, .iconst 0, 1), (41, .aload_n 0, 1), (42, .getfield 18, 3), (45, .iconst 0, 1), (46, .bipush 6, 2), (48, .invokestatic 65, 3), (51, .aload_n 1, 1), (52, .getfield 21, 3), (55, .iconst 0, 1), (56, .aload_n 0, 1), (57, .getfield 21, 3), (60, .iconst 0, 1), (61, .bipush 6, 2), (63, .invokestatic 65, 3)]
def k_2_2 : Cl := [(66, .aload_n 1, 1), (67, .getfield 24, 3), (70, .iconst 0, 1), (71, .aload_n 0, 1), (72, .getfield 24, 3), (75, .iconst 0, 1), (76, .bipush 6, 2), (78, .invokestatic 65, 3), (81, .aload_n 1, 1), (82, .getfield 27, 3), (85, .iconst 0, 1), (86, .aload_n 0, 1), (87, .getfield 27, 3), (90, .iconst 0, 1), (91, .bipush 6, 2), (93, .invokestatic 65, 3)]
def k_2_3 : Cl := [(96, .aload_n 0, 1), (97, .aload_n 1, 1), (98, .getfield 50, 3), (101, .putfield 50, 3), (104, .aload_n 0, 1), (105, .aload_n 1, 1), (106, .getfield 53, 3), (109, .putfield 53, 3), (112, .aload_n 0, 1), (113, .aload_n 1, 1), (114, .getfield 56, 3), (117, .putfield 56, 3), (120, .aload_n 0, 1), (121, .aload_n 1, 1), (122, .getfield 59, 3), (125, .putfield 59, 3)]
def k_2_4 : Cl := [(128, .aload_n 0, 1), (129, .aload_n 1, 1), (130, .getfield 30, 3), (133, .putfield 30, 3), (136, .aload_n 1, 1), (137, .getfield 34, 3), (140, .iconst 0, 1), (141, .aload_n 0, 1), (142, .getfield 34, 3), (145, .iconst 0, 1), (146, .bipush 8, 2), (148, .invokestatic 65, 3), (151, .aload_n 1, 1), (152, .getfield 37, 3), (155, .iconst 0, 1), (156, .aload_n 0, 1), (157, .getfield 37, 3)]
def k_2_5 : Cl := [(160, .iconst 0, 1), (161, .bipush 8, 2), (163, .invokestatic 65, 3), (166, .aload_n 1, 1), (167, .getfield 40, 3), (170, .iconst 0, 1), (171, .aload_n 0, 1), (172, .getfield 40, 3), (175, .iconst 0, 1), (176, .bipush 8, 2), (178, .invokestatic 65, 3), (181, .aload_n 0, 1), (182, .aload_n 1, 1), (183, .getfield 71, 3), (186, .putfield 71, 3), (189, .aload_n 0, 1), (190, .aload_n 1, 1), (191, .getfield 74, 3)]
def k_2_6 : Cl := [(194, .putfield 74, 3), (197, .aload_n 0, 1), (198, .iconst 1, 1), (199, .putfield 43, 3), (202, .return_, 1)]
def r_2 : MR := (0, yX0_becomes, cX0_becomes, 2, (Option.none : Option FieldType), [k_2_0, k_2_1, k_2_2, k_2_3, k_2_4, k_2_5, k_2_6])
abbrev Bx_hasPanel : Nat := 3
def k_3_0 : Cl := [(0, .iload_n 1, 1), (1, .ifCond .lt 15, 3), (4, .iload_n 1, 1), (5, .aload_n 0, 1), (6, .getfield 47, 3), (9, .if_icmp .ge 7, 3), (12, .iconst 1, 1), (13, .goto 4, 3), (16, .iconst 0, 1), (17, .ireturn, 1)]
def r_3 : MR := (0, yX0_hasPanel, cX0_hasPanel, 2, (Option.some FieldType.boolean), [k_3_0])
abbrev Bx_hasLock : Nat := 4
def k_4_0 : Cl := [(0, .iload_n 1, 1), (1, .ifCond .lt 15, 3), (4, .iload_n 1, 1), (5, .aload_n 0, 1), (6, .getfield 50, 3), (9, .if_icmp .ge 7, 3), (12, .iconst 1, 1), (13, .goto 4, 3), (16, .iconst 0, 1), (17, .ireturn, 1)]
def r_4 : MR := (0, yX0_hasLock, cX0_hasLock, 2, (Option.some FieldType.boolean), [k_4_0])
abbrev Bx_addPanel : Nat := 5
def k_5_0 : Cl := [(0, .aload_n 0, 1), (1, .getfield 47, 3), (4, .iconst 5, 1), (5, .if_icmp .lt 6, 3), (8, .bipush (-3), 2), (10, .ireturn, 1), (11, .aload_n 0, 1), (12, .getfield 9, 3), (15, .aload_n 0, 1), (16, .getfield 47, 3), (19, .iload_n 1, 1), (20, .iastore, 1), (21, .aload_n 0, 1), (22, .getfield 15, 3), (25, .aload_n 0, 1), (26, .getfield 47, 3), (29, .iload_n 2, 1), (30, .iastore, 1), (31, .aload_n 0, 1)]
def k_5_1 : Cl := [(32, .iconst 1, 1), (33, .putfield 43, 3), (36, .aload_n 0, 1), (37, .dup, 1), (38, .getfield 47, 3), (41, .dup_x1, 1), (42, .iconst 1, 1), (43, .iadd, 1), (44, .putfield 47, 3), (47, .ireturn, 1)]
def r_5 : MR := (0, yX0_addPanel, cX0_addPanel, 3, (Option.some FieldType.int), [k_5_0, k_5_1])
abbrev Bx_addLock : Nat := 6
def k_6_0 : Cl := [(0, .aload_n 0, 1), (1, .getfield 50, 3), (4, .bipush 6, 2), (6, .if_icmp .lt 6, 3), (9, .bipush (-3), 2), (11, .ireturn, 1), (12, .aload_n 0, 1), (13, .getfield 18, 3), (16, .aload_n 0, 1), (17, .getfield 50, 3), (20, .iload_n 1, 1), (21, .iastore, 1), (22, .aload_n 0, 1), (23, .getfield 21, 3), (26, .aload_n 0, 1), (27, .getfield 50, 3), (30, .iload_n 2, 1), (31, .iastore, 1)]
def k_6_1 : Cl := [(32, .aload_n 0, 1), (33, .getfield 24, 3), (36, .aload_n 0, 1), (37, .getfield 50, 3), (40, .iload_n 3, 1), (41, .iastore, 1), (42, .aload_n 0, 1), (43, .getfield 27, 3), (46, .aload_n 0, 1), (47, .getfield 50, 3), (50, .iload 4, 2), (52, .iastore, 1), (53, .aload_n 0, 1), (54, .iconst 1, 1), (55, .putfield 43, 3), (58, .aload_n 0, 1), (59, .dup, 1), (60, .getfield 50, 3), (63, .dup_x1, 1)]
def k_6_2 : Cl := [(64, .iconst 1, 1), (65, .iadd, 1), (66, .putfield 50, 3), (69, .ireturn, 1)]
def r_6 : MR := (0, yX0_addLock, cX0_addLock, 5, (Option.some FieldType.int), [k_6_0, k_6_1, k_6_2])
abbrev Bx_isMet : Nat := 7
def k_7_0 : Cl := [(0, .aload_n 0, 1), (1, .getfield 27, 3), (4, .iload_n 1, 1), (5, .iaload, 1), (6, .iload_n 2, 1), (7, .aload_n 0, 1), (8, .getfield 24, 3), (11, .iload_n 1, 1), (12, .iaload, 1), (13, .invokestatic 77, 3), (16, .ishr, 1), (17, .iconst 1, 1), (18, .iand, 1), (19, .ifCond .eq 7, 3), (22, .iconst 1, 1), (23, .goto 4, 3), (26, .iconst 0, 1), (27, .ireturn, 1)]
def r_7 : MR := (0, yX0_isMet, cX0_isMet, 3, (Option.some FieldType.boolean), [k_7_0])
abbrev Bx_isOpen : Nat := 8
def k_8_0 : Cl := [(0, .aload_n 0, 1), (1, .aload_n 0, 1), (2, .getfield 53, 3), (5, .invokevirtual 81, 3), (8, .ifCond .eq 27, 3), (11, .iload_n 1, 1), (12, .aload_n 0, 1), (13, .getfield 53, 3), (16, .invokestatic 77, 3), (19, .aload_n 0, 1), (20, .getfield 15, 3), (23, .aload_n 0, 1), (24, .getfield 53, 3), (27, .iaload, 1), (28, .if_icmp .ne 7, 3), (31, .iconst 1, 1)]
def k_8_1 : Cl := [(32, .goto 4, 3), (35, .iconst 0, 1), (36, .ireturn, 1)]
def r_8 : MR := (0, yX0_isOpen, cX0_isOpen, 2, (Option.some FieldType.boolean), [k_8_0, k_8_1])
abbrev Bx_outSet : Nat := 9
def k_9_0 : Cl := [(0, .iconst 0, 1), (1, .istore_n 1, 1), (2, .iconst 0, 1), (3, .istore_n 2, 1), (4, .iload_n 2, 1), (5, .aload_n 0, 1), (6, .getfield 47, 3), (9, .if_icmp .ge 26, 3), (12, .aload_n 0, 1), (13, .getfield 56, 3), (16, .iload_n 2, 1), (17, .invokestatic 77, 3), (20, .ifCond .le 9, 3), (23, .iload_n 1, 1), (24, .iconst 1, 1), (25, .iload_n 2, 1), (26, .ishl, 1), (27, .ior, 1), (28, .istore_n 1, 1), (29, .iinc 2 1, 3)]
def k_9_1 : Cl := [(32, .goto (-28), 3), (35, .iload_n 1, 1), (36, .ireturn, 1)]
def r_9 : MR := (0, yX0_outSet, cX0_outSet, 3, (Option.some FieldType.int), [k_9_0, k_9_1])
abbrev Bx_slidesThatMay : Nat := 10
def k_10_0 : Cl := [(0, .iconst 0, 1), (1, .istore_n 1, 1), (2, .iconst 0, 1), (3, .istore_n 2, 1), (4, .iload_n 2, 1), (5, .iconst 2, 1), (6, .aload_n 0, 1), (7, .getfield 47, 3), (10, .imul, 1), (11, .if_icmp .ge 33, 3), (14, .aload_n 0, 1), (15, .aload_n 0, 1), (16, .getfield 56, 3), (19, .aload_n 0, 1), (20, .getfield 59, 3), (23, .iload_n 2, 1), (24, .iconst 1, 1), (25, .ishr, 1), (26, .iload_n 2, 1), (27, .iconst 1, 1), (28, .iand, 1), (29, .invokevirtual 85, 3)]
def k_10_1 : Cl := [(32, .ifCond .eq 6, 3), (35, .iinc 1 1, 3), (38, .iinc 2 1, 3), (41, .goto (-37), 3), (44, .iload_n 1, 1), (45, .ireturn, 1)]
def r_10 : MR := (0, yX0_slidesThatMay, cX0_slidesThatMay, 3, (Option.some FieldType.int), [k_10_0, k_10_1])
abbrev Bx_maySlide : Nat := 11
def k_11_0 : Cl := [(0, .aload_n 0, 1), (1, .iload_n 1, 1), (2, .iload_n 3, 1), (3, .iload 4, 2), (5, .invokevirtual 89, 3), (8, .ifCond .eq 22, 3), (11, .aload_n 0, 1), (12, .iload_n 1, 1), (13, .iload_n 3, 1), (14, .iload 4, 2), (16, .invokevirtual 93, 3), (19, .iload_n 2, 1), (20, .iconst (-1), 1), (21, .ixor, 1), (22, .iand, 1), (23, .ifCond .ne 7, 3), (26, .iconst 1, 1), (27, .goto 4, 3), (30, .iconst 0, 1), (31, .ireturn, 1)]
def r_11 : MR := (0, yX0_maySlide, cX0_maySlide, 5, (Option.some FieldType.boolean), [k_11_0])
abbrev Bx_fits : Nat := 12
def k_12_0 : Cl := [(0, .aload_n 0, 1), (1, .iload_n 2, 1), (2, .invokevirtual 81, 3), (5, .ifCond .ne 5, 3), (8, .iconst 0, 1), (9, .ireturn, 1), (10, .iload_n 1, 1), (11, .iload_n 2, 1), (12, .invokestatic 77, 3), (15, .istore 4, 2), (17, .iload_n 3, 1), (18, .ifCond .ne 11, 3), (21, .iload 4, 2), (23, .ifCond .ne 19, 3), (26, .goto 14, 3), (29, .iload 4, 2), (31, .aload_n 0, 1)]
def k_12_1 : Cl := [(32, .getfield 15, 3), (35, .iload_n 2, 1), (36, .iaload, 1), (37, .if_icmp .lt 5, 3), (40, .iconst 0, 1), (41, .ireturn, 1), (42, .aload_n 0, 1), (43, .getfield 9, 3), (46, .iload_n 2, 1), (47, .iaload, 1), (48, .iconst 2, 1), (49, .if_icmp .eq 18, 3), (52, .aload_n 0, 1), (53, .getfield 9, 3), (56, .iload_n 2, 1), (57, .iaload, 1), (58, .iconst 4, 1), (59, .if_icmp .ne 12, 3), (62, .iload_n 3, 1), (63, .iconst 1, 1)]
def k_12_2 : Cl := [(64, .if_icmp .ne 7, 3), (67, .iconst 1, 1), (68, .goto 4, 3), (71, .iconst 0, 1), (72, .istore 5, 2), (74, .iload 5, 2), (76, .ifCond .eq 12, 3), (79, .aload_n 0, 1), (80, .iload_n 1, 1), (81, .iload_n 2, 1), (82, .invokevirtual 97, 3), (85, .ifCond .eq 7, 3), (88, .iconst 1, 1), (89, .goto 4, 3), (92, .iconst 0, 1), (93, .ireturn, 1)]
def r_12 : MR := (0, yX0_fits, cX0_fits, 6, (Option.some FieldType.boolean), [k_12_0, k_12_1, k_12_2])
abbrev Bx_ringLets : Nat := 13
def k_13_0 : Cl := [(0, .iload_n 2, 1), (1, .ifCond .ne 5, 3), (4, .iconst 1, 1), (5, .ireturn, 1), (6, .iload_n 2, 1), (7, .iconst 1, 1), (8, .isub, 1), (9, .istore_n 3, 1), (10, .iload_n 1, 1), (11, .iconst 1, 1), (12, .iconst 2, 1), (13, .iload_n 3, 1), (14, .imul, 1), (15, .ishl, 1), (16, .iconst 1, 1), (17, .isub, 1), (18, .iand, 1), (19, .istore 4, 2), (21, .iload_n 1, 1), (22, .iload_n 3, 1), (23, .invokestatic 77, 3), (26, .ifCond .le 12, 3), (29, .iload 4, 2), (31, .ifCond .ne 7, 3)]
def k_13_1 : Cl := [(34, .iconst 1, 1), (35, .goto 4, 3), (38, .iconst 0, 1), (39, .ireturn, 1)]
def r_13 : MR := (0, yX0_ringLets, cX0_ringLets, 5, (Option.some FieldType.boolean), [k_13_0, k_13_1])
abbrev Bx_holding : Nat := 14
def k_14_0 : Cl := [(0, .iconst 0, 1), (1, .istore 4, 2), (3, .iconst 0, 1), (4, .istore 5, 2), (6, .iload 5, 2), (8, .aload_n 0, 1), (9, .getfield 50, 3), (12, .if_icmp .ge 64, 3), (15, .aload_n 0, 1), (16, .getfield 18, 3), (19, .iload 5, 2), (21, .iaload, 1), (22, .iload_n 2, 1), (23, .if_icmp .ne 47, 3), (26, .aload_n 0, 1), (27, .getfield 21, 3), (30, .iload 5, 2)]
def k_14_1 : Cl := [(32, .iaload, 1), (33, .iconst 2, 1), (34, .if_icmp .eq 17, 3), (37, .aload_n 0, 1), (38, .getfield 21, 3), (41, .iload 5, 2), (43, .iaload, 1), (44, .iload_n 3, 1), (45, .if_icmp .eq 6, 3), (48, .goto 22, 3), (51, .aload_n 0, 1), (52, .iload 5, 2), (54, .iload_n 1, 1), (55, .invokevirtual 101, 3), (58, .ifCond .ne 12, 3), (61, .iload 4, 2), (63, .iconst 1, 1)]
def k_14_2 : Cl := [(64, .iload 5, 2), (66, .ishl, 1), (67, .ior, 1), (68, .istore 4, 2), (70, .iinc 5 1, 3), (73, .goto (-67), 3), (76, .iload 4, 2), (78, .ireturn, 1)]
def r_14 : MR := (0, yX0_holding, cX0_holding, 6, (Option.some FieldType.int), [k_14_0, k_14_1, k_14_2])
abbrev Bx_behind : Nat := 15
def k_15_0 : Cl := [(0, .iconst 0, 1), (1, .istore 4, 2), (3, .iconst 0, 1), (4, .istore 5, 2), (6, .iload 5, 2), (8, .aload_n 0, 1), (9, .getfield 47, 3), (12, .if_icmp .ge 67, 3), (15, .iload_n 1, 1), (16, .iload 5, 2), (18, .invokestatic 77, 3), (21, .istore 6, 2), (23, .iload 5, 2), (25, .iload_n 2, 1), (26, .if_icmp .ne 21, 3), (29, .iload 6, 2), (31, .iload_n 3, 1)]
def k_15_1 : Cl := [(32, .iconst 1, 1), (33, .if_icmp .ne 7, 3), (36, .iconst 1, 1), (37, .goto 4, 3), (40, .iconst (-1), 1), (41, .iadd, 1), (42, .istore 6, 2), (44, .goto 17, 3), (47, .aload_n 0, 1), (48, .iload 5, 2), (50, .iload 6, 2), (52, .invokevirtual 104, 3), (55, .ifCond .eq 6, 3), (58, .iinc 6 (-1), 3), (61, .iload 4, 2), (63, .iload 6, 2)]
def k_15_2 : Cl := [(65, .iconst 2, 1), (66, .iload 5, 2), (68, .imul, 1), (69, .ishl, 1), (70, .ior, 1), (71, .istore 4, 2), (73, .iinc 5 1, 3), (76, .goto (-70), 3), (79, .iload 4, 2), (81, .ireturn, 1)]
def r_15 : MR := (0, yX0_behind, cX0_behind, 7, (Option.some FieldType.int), [k_15_0, k_15_1, k_15_2])
abbrev Bx_slipsBack : Nat := 16
def k_16_0 : Cl := [(0, .iload_n 2, 1), (1, .ifCond .ne 5, 3), (4, .iconst 0, 1), (5, .ireturn, 1), (6, .aload_n 0, 1), (7, .getfield 9, 3), (10, .iload_n 1, 1), (11, .iaload, 1), (12, .iconst 1, 1), (13, .if_icmp .eq 23, 3), (16, .aload_n 0, 1), (17, .getfield 9, 3), (20, .iload_n 1, 1), (21, .iaload, 1), (22, .iconst 3, 1), (23, .if_icmp .ne 17, 3), (26, .iload_n 2, 1), (27, .aload_n 0, 1), (28, .getfield 15, 3), (31, .iload_n 1, 1)]
def k_16_1 : Cl := [(32, .iaload, 1), (33, .if_icmp .ge 7, 3), (36, .iconst 1, 1), (37, .goto 4, 3), (40, .iconst 0, 1), (41, .ireturn, 1)]
def r_16 : MR := (0, yX0_slipsBack, cX0_slipsBack, 3, (Option.some FieldType.boolean), [k_16_0, k_16_1])
abbrev Bx_driftOnce : Nat := 17
def k_17_0 : Cl := [(0, .aload_n 0, 1), (1, .invokevirtual 107, 3), (4, .aload_n 0, 1), (5, .aload_n 0, 1), (6, .getfield 30, 3), (9, .ldc 110, 2), (11, .imul, 1), (12, .sipush 12345, 3), (15, .iadd, 1), (16, .ldc 111, 2), (18, .iand, 1), (19, .putfield 30, 3), (22, .aload_n 0, 1), (23, .getfield 47, 3), (26, .ifCond .ne 4, 3), (29, .return_, 1), (30, .aload_n 0, 1), (31, .getfield 30, 3)]
def k_17_1 : Cl := [(34, .ldc 112, 2), (36, .idiv, 1), (37, .aload_n 0, 1), (38, .getfield 47, 3), (41, .irem, 1), (42, .istore_n 1, 1), (43, .aload_n 0, 1), (44, .getfield 30, 3), (47, .sipush 128, 3), (50, .idiv, 1), (51, .iconst 2, 1), (52, .irem, 1), (53, .istore_n 2, 1), (54, .aload_n 0, 1), (55, .aload_n 0, 1), (56, .getfield 56, 3), (59, .aload_n 0, 1), (60, .getfield 59, 3), (63, .iload_n 1, 1)]
def k_17_2 : Cl := [(64, .iload_n 2, 1), (65, .invokevirtual 85, 3), (68, .ifCond .eq 17, 3), (71, .aload_n 0, 1), (72, .aload_n 0, 1), (73, .aload_n 0, 1), (74, .getfield 56, 3), (77, .iload_n 1, 1), (78, .iload_n 2, 1), (79, .invokevirtual 113, 3), (82, .putfield 56, 3), (85, .return_, 1)]
def r_17 : MR := (0, yX0_driftOnce, cX0_driftOnce, 3, (Option.none : Option FieldType), [k_17_0, k_17_1, k_17_2])
abbrev Bx_forget : Nat := 18
def k_18_0 : Cl := [(0, .aload_n 0, 1), (1, .iconst 0, 1), (2, .putfield 71, 3), (5, .aload_n 0, 1), (6, .iconst 0, 1), (7, .putfield 74, 3), (10, .return_, 1)]
def r_18 : MR := (0, yX0_forget, cX0_forget, 1, (Option.none : Option FieldType), [k_18_0])
abbrev Bx_remember : Nat := 19
def k_19_0 : Cl := [(0, .aload_n 0, 1), (1, .getfield 34, 3), (4, .aload_n 0, 1), (5, .getfield 74, 3), (8, .aload_n 0, 1), (9, .getfield 56, 3), (12, .iastore, 1), (13, .aload_n 0, 1), (14, .getfield 37, 3), (17, .aload_n 0, 1), (18, .getfield 74, 3), (21, .aload_n 0, 1), (22, .getfield 59, 3), (25, .iastore, 1), (26, .aload_n 0, 1), (27, .getfield 40, 3), (30, .aload_n 0, 1), (31, .getfield 74, 3)]
def k_19_1 : Cl := [(34, .aload_n 0, 1), (35, .getfield 30, 3), (38, .iastore, 1), (39, .aload_n 0, 1), (40, .aload_n 0, 1), (41, .getfield 74, 3), (44, .iconst 1, 1), (45, .iadd, 1), (46, .bipush 8, 2), (48, .irem, 1), (49, .putfield 74, 3), (52, .aload_n 0, 1), (53, .getfield 71, 3), (56, .bipush 8, 2), (58, .if_icmp .ge 13, 3), (61, .aload_n 0, 1), (62, .dup, 1), (63, .getfield 71, 3)]
def k_19_2 : Cl := [(66, .iconst 1, 1), (67, .iadd, 1), (68, .putfield 71, 3), (71, .return_, 1)]
def r_19 : MR := (0, yX0_remember, cX0_remember, 1, (Option.none : Option FieldType), [k_19_0, k_19_1, k_19_2])
abbrev Bx_recall : Nat := 20
def k_20_0 : Cl := [(0, .aload_n 0, 1), (1, .getfield 71, 3), (4, .ifCond .ne 6, 3), (7, .bipush (-4), 2), (9, .ireturn, 1), (10, .aload_n 0, 1), (11, .aload_n 0, 1), (12, .getfield 74, 3), (15, .bipush 8, 2), (17, .iadd, 1), (18, .iconst 1, 1), (19, .isub, 1), (20, .bipush 8, 2), (22, .irem, 1), (23, .putfield 74, 3), (26, .aload_n 0, 1), (27, .aload_n 0, 1), (28, .getfield 34, 3), (31, .aload_n 0, 1)]
def k_20_1 : Cl := [(32, .getfield 74, 3), (35, .iaload, 1), (36, .putfield 56, 3), (39, .aload_n 0, 1), (40, .aload_n 0, 1), (41, .getfield 37, 3), (44, .aload_n 0, 1), (45, .getfield 74, 3), (48, .iaload, 1), (49, .putfield 59, 3), (52, .aload_n 0, 1), (53, .aload_n 0, 1), (54, .getfield 40, 3), (57, .aload_n 0, 1), (58, .getfield 74, 3), (61, .iaload, 1), (62, .putfield 30, 3)]
def k_20_2 : Cl := [(65, .aload_n 0, 1), (66, .dup, 1), (67, .getfield 71, 3), (70, .iconst 1, 1), (71, .isub, 1), (72, .putfield 71, 3), (75, .aload_n 0, 1), (76, .getfield 71, 3), (79, .ireturn, 1)]
def r_20 : MR := (0, yX0_recall, cX0_recall, 1, (Option.some FieldType.int), [k_20_0, k_20_1, k_20_2])
abbrev Bx_stateOf : Nat := 21
def k_21_0 : Cl := [(0, .iconst 0, 1), (1, .istore_n 3, 1), (2, .iconst 0, 1), (3, .istore 4, 2), (5, .iload 4, 2), (7, .aload_n 0, 1), (8, .getfield 47, 3), (11, .if_icmp .ge 54, 3), (14, .aload_n 1, 1), (15, .iload_n 2, 1), (16, .iload 4, 2), (18, .iadd, 1), (19, .invokevirtual 116, 3), (22, .lstore 5, 2), (24, .lload 5, 2), (26, .lconst 0, 1), (27, .lcmp, 1), (28, .ifCond .lt 17, 3), (31, .lload 5, 2)]
def k_21_1 : Cl := [(33, .aload_n 0, 1), (34, .getfield 15, 3), (37, .iload 4, 2), (39, .iaload, 1), (40, .i2l, 1), (41, .lcmp, 1), (42, .ifCond .le 6, 3), (45, .bipush (-2), 2), (47, .ireturn, 1), (48, .iload_n 3, 1), (49, .lload 5, 2), (51, .l2i, 1), (52, .iconst 2, 1), (53, .iload 4, 2), (55, .imul, 1), (56, .ishl, 1), (57, .ior, 1), (58, .istore_n 3, 1), (59, .iinc 4 1, 3), (62, .goto (-57), 3)]
def k_21_2 : Cl := [(65, .iload_n 3, 1), (66, .ireturn, 1)]
def r_21 : MR := (0, yX0_stateOf, cX0_stateOf, 7, (Option.some FieldType.int), [k_21_0, k_21_1, k_21_2])
abbrev Bx_isState : Nat := 22
def k_22_0 : Cl := [(0, .iconst 0, 1), (1, .istore_n 2, 1), (2, .iload_n 2, 1), (3, .aload_n 0, 1), (4, .getfield 47, 3), (7, .if_icmp .ge 25, 3), (10, .iload_n 1, 1), (11, .iload_n 2, 1), (12, .invokestatic 77, 3), (15, .aload_n 0, 1), (16, .getfield 15, 3), (19, .iload_n 2, 1), (20, .iaload, 1), (21, .if_icmp .le 5, 3), (24, .iconst 0, 1), (25, .ireturn, 1), (26, .iinc 2 1, 3), (29, .goto (-27), 3)]
def k_22_1 : Cl := [(32, .iconst 1, 1), (33, .ireturn, 1)]
def r_22 : MR := (0, yX0_isState, cX0_isState, 3, (Option.some FieldType.boolean), [k_22_0, k_22_1])
abbrev Eg_begin : Nat := 23
def k_23_0 : Cl := [(0, .iconst 0, 1), (1, .istore_n 1, 1), (2, .iload_n 1, 1), (3, .aload_n 0, 1), (4, .getfield 34, 3), (7, .getfield 38, 3), (10, .if_icmp .ge 47, 3), (13, .aload_n 0, 1), (14, .getfield 34, 3), (17, .getfield 44, 3), (20, .iload_n 1, 1), (21, .iaload, 1), (22, .istore_n 2, 1), (23, .aload_n 0, 1), (24, .getfield 9, 3), (27, .iload_n 2, 1), (28, .iconst (-1), 1), (29, .iastore, 1), (30, .aload_n 0, 1), (31, .getfield 18, 3)]
def k_23_1 : Cl := [(34, .iload_n 2, 1), (35, .iconst 0, 1), (36, .iastore, 1), (37, .aload_n 0, 1), (38, .getfield 24, 3), (41, .iload_n 2, 1), (42, .iconst 0, 1), (43, .iastore, 1), (44, .aload_n 0, 1), (45, .getfield 27, 3), (48, .iload_n 2, 1), (49, .iconst 0, 1), (50, .iastore, 1), (51, .iinc 1 1, 3), (54, .goto (-52), 3), (57, .iconst 0, 1), (58, .istore_n 1, 1), (59, .iload_n 1, 1), (60, .aload_n 0, 1), (61, .getfield 34, 3)]
def k_23_2 : Cl := [(64, .getfield 38, 3), (67, .if_icmp .ge 22, 3), (70, .aload_n 0, 1), (71, .aload_n 0, 1), (72, .getfield 34, 3), (75, .getfield 44, 3), (78, .iload_n 1, 1), (79, .iaload, 1), (80, .invokevirtual 47, 3), (83, .iinc 1 1, 3), (86, .goto (-27), 3), (89, .aload_n 0, 1), (90, .iconst 0, 1), (91, .putfield 51, 3), (94, .return_, 1)]
def r_23 : MR := (1, yX1_begin, cX1_begin, 3, (Option.none : Option FieldType), [k_23_0, k_23_1, k_23_2])
abbrev Eg_chain : Nat := 24
def k_24_0 : Cl := [(0, .iconst 0, 1), (1, .istore_n 2, 1), (2, .iload_n 2, 1), (3, .aload_n 0, 1), (4, .getfield 34, 3), (7, .getfield 54, 3), (10, .if_icmp .ge 65, 3), (13, .aload_n 0, 1), (14, .getfield 34, 3), (17, .iload_n 1, 1), (18, .iload_n 2, 1), (19, .invokevirtual 57, 3), (22, .istore_n 3, 1), (23, .iload_n 3, 1), (24, .ifCond .ge 6, 3), (27, .goto 42, 3), (30, .aload_n 0, 1), (31, .getfield 18, 3)]
def k_24_1 : Cl := [(34, .iload_n 1, 1), (35, .dup2, 1), (36, .iaload, 1), (37, .iconst 1, 1), (38, .iadd, 1), (39, .iastore, 1), (40, .bipush 10, 2), (42, .iload_n 1, 1), (43, .imul, 1), (44, .iload_n 2, 1), (45, .iadd, 1), (46, .istore 4, 2), (48, .aload_n 0, 1), (49, .getfield 15, 3), (52, .iload 4, 2), (54, .aload_n 0, 1), (55, .getfield 9, 3), (58, .iload_n 3, 1), (59, .iaload, 1), (60, .iastore, 1), (61, .aload_n 0, 1), (62, .getfield 9, 3)]
def k_24_2 : Cl := [(65, .iload_n 3, 1), (66, .iload 4, 2), (68, .iastore, 1), (69, .iinc 2 1, 3), (72, .goto (-70), 3), (75, .return_, 1)]
def r_24 : MR := (1, yX1_chain, cX1_chain, 5, (Option.none : Option FieldType), [k_24_0, k_24_1, k_24_2])
abbrev Eg_settle : Nat := 25
def k_25_0 : Cl := [(0, .aload_n 0, 1), (1, .getfield 51, 3), (4, .sipush 1024, 3), (7, .if_icmp .lt 4, 3), (10, .return_, 1), (11, .aload_n 0, 1), (12, .getfield 24, 3), (15, .iload_n 1, 1), (16, .iload_n 2, 1), (17, .iastore, 1), (18, .aload_n 0, 1), (19, .getfield 27, 3), (22, .iload_n 1, 1), (23, .iload_n 3, 1), (24, .iastore, 1), (25, .aload_n 0, 1), (26, .getfield 21, 3), (29, .aload_n 0, 1), (30, .getfield 51, 3)]
def k_25_1 : Cl := [(33, .iload_n 1, 1), (34, .iastore, 1), (35, .aload_n 0, 1), (36, .dup, 1), (37, .getfield 51, 3), (40, .iconst 1, 1), (41, .iadd, 1), (42, .putfield 51, 3), (45, .return_, 1)]
def r_25 : MR := (1, yX1_settle, cX1_settle, 4, (Option.none : Option FieldType), [k_25_0, k_25_1])
abbrev Eg_dead : Nat := 26
def k_26_0 : Cl := [(0, .aload_n 0, 1), (1, .invokevirtual 61, 3), (4, .iconst 0, 1), (5, .istore_n 1, 1), (6, .iload_n 1, 1), (7, .aload_n 0, 1), (8, .getfield 34, 3), (11, .getfield 38, 3), (14, .if_icmp .ge 43, 3), (17, .aload_n 0, 1), (18, .getfield 30, 3), (21, .aload_n 0, 1), (22, .getfield 34, 3), (25, .getfield 44, 3), (28, .iload_n 1, 1), (29, .iaload, 1), (30, .invokevirtual 64, 3)]
def k_26_1 : Cl := [(33, .ifCond .eq 18, 3), (36, .aload_n 0, 1), (37, .aload_n 0, 1), (38, .getfield 34, 3), (41, .getfield 44, 3), (44, .iload_n 1, 1), (45, .iaload, 1), (46, .iconst 1, 1), (47, .iconst 0, 1), (48, .invokevirtual 70, 3), (51, .iinc 1 1, 3), (54, .goto (-48), 3), (57, .iconst 0, 1), (58, .istore_n 1, 1), (59, .iload_n 1, 1), (60, .aload_n 0, 1), (61, .getfield 51, 3)]
def k_26_2 : Cl := [(64, .if_icmp .ge 78, 3), (67, .iload_n 1, 1), (68, .sipush 1024, 3), (71, .if_icmp .ge 71, 3), (74, .aload_n 0, 1), (75, .getfield 9, 3), (78, .aload_n 0, 1), (79, .getfield 21, 3), (82, .iload_n 1, 1), (83, .iaload, 1), (84, .iaload, 1), (85, .istore_n 2, 1), (86, .iconst 0, 1), (87, .istore_n 3, 1), (88, .iload_n 3, 1), (89, .sipush 10240, 3), (92, .if_icmp .ge 44, 3), (95, .iload_n 2, 1)]
def k_26_3 : Cl := [(96, .ifCond .lt 40, 3), (99, .iload_n 2, 1), (100, .bipush 10, 2), (102, .idiv, 1), (103, .istore 4, 2), (105, .aload_n 0, 1), (106, .getfield 24, 3), (109, .iload 4, 2), (111, .iaload, 1), (112, .ifCond .ne 11, 3), (115, .aload_n 0, 1), (116, .iload 4, 2), (118, .iconst 1, 1), (119, .iconst 0, 1), (120, .invokevirtual 70, 3), (123, .aload_n 0, 1), (124, .getfield 15, 3), (127, .iload_n 2, 1)]
def k_26_4 : Cl := [(128, .iaload, 1), (129, .istore_n 2, 1), (130, .iinc 3 1, 3), (133, .goto (-45), 3), (136, .iinc 1 1, 3), (139, .goto (-80), 3), (142, .aload_n 0, 1), (143, .getfield 34, 3), (146, .getfield 38, 3), (149, .aload_n 0, 1), (150, .getfield 51, 3), (153, .isub, 1), (154, .ireturn, 1)]
def r_26 : MR := (1, yX1_dead, cX1_dead, 5, (Option.some FieldType.int), [k_26_0, k_26_1, k_26_2, k_26_3, k_26_4])
abbrev Eg_solve : Nat := 27
def k_27_0 : Cl := [(0, .aload_n 0, 1), (1, .invokevirtual 61, 3), (4, .iconst 0, 1), (5, .istore_n 1, 1), (6, .iload_n 1, 1), (7, .aload_n 0, 1), (8, .getfield 34, 3), (11, .getfield 38, 3), (14, .if_icmp .ge 46, 3), (17, .aload_n 0, 1), (18, .getfield 34, 3), (21, .getfield 44, 3), (24, .iload_n 1, 1), (25, .iaload, 1), (26, .istore_n 2, 1), (27, .aload_n 0, 1), (28, .getfield 30, 3), (31, .iload_n 2, 1)]
def k_27_1 : Cl := [(32, .invokevirtual 64, 3), (35, .ifCond .ne 12, 3), (38, .aload_n 0, 1), (39, .getfield 18, 3), (42, .iload_n 2, 1), (43, .iaload, 1), (44, .ifCond .ne 10, 3), (47, .aload_n 0, 1), (48, .iload_n 2, 1), (49, .iconst 2, 1), (50, .iconst 0, 1), (51, .invokevirtual 70, 3), (54, .iinc 1 1, 3), (57, .goto (-51), 3), (60, .iconst 0, 1), (61, .istore_n 1, 1), (62, .iload_n 1, 1), (63, .aload_n 0, 1)]
def k_27_2 : Cl := [(64, .getfield 51, 3), (67, .if_icmp .ge 68, 3), (70, .iload_n 1, 1), (71, .sipush 1024, 3), (74, .if_icmp .ge 61, 3), (77, .aload_n 0, 1), (78, .getfield 9, 3), (81, .aload_n 0, 1), (82, .getfield 21, 3), (85, .iload_n 1, 1), (86, .iaload, 1), (87, .iaload, 1), (88, .istore_n 2, 1), (89, .iconst 0, 1), (90, .istore_n 3, 1), (91, .iload_n 3, 1), (92, .sipush 10240, 3), (95, .if_icmp .ge 34, 3)]
def k_27_3 : Cl := [(98, .iload_n 2, 1), (99, .ifCond .lt 30, 3), (102, .aload_n 0, 1), (103, .iload_n 2, 1), (104, .bipush 10, 2), (106, .idiv, 1), (107, .aload_n 0, 1), (108, .getfield 21, 3), (111, .iload_n 1, 1), (112, .iaload, 1), (113, .invokevirtual 74, 3), (116, .aload_n 0, 1), (117, .getfield 15, 3), (120, .iload_n 2, 1), (121, .iaload, 1), (122, .istore_n 2, 1), (123, .iinc 3 1, 3), (126, .goto (-35), 3)]
def k_27_4 : Cl := [(129, .iinc 1 1, 3), (132, .goto (-70), 3), (135, .return_, 1)]
def r_27 : MR := (1, yX1_solve, cX1_solve, 4, (Option.none : Option FieldType), [k_27_0, k_27_1, k_27_2, k_27_3, k_27_4])
abbrev Eg_learn : Nat := 28
def k_28_0 : Cl := [(0, .aload_n 0, 1), (1, .getfield 24, 3), (4, .iload_n 1, 1), (5, .iaload, 1), (6, .ifCond .eq 4, 3), (9, .return_, 1), (10, .aload_n 0, 1), (11, .getfield 24, 3), (14, .iload_n 2, 1), (15, .iaload, 1), (16, .iconst 2, 1), (17, .if_icmp .ne 18, 3), (20, .aload_n 0, 1), (21, .iload_n 1, 1), (22, .iconst 1, 1), (23, .aload_n 0, 1), (24, .getfield 27, 3), (27, .iload_n 2, 1), (28, .iaload, 1), (29, .iconst 1, 1), (30, .iadd, 1), (31, .invokevirtual 70, 3)]
def k_28_1 : Cl := [(34, .return_, 1), (35, .aload_n 0, 1), (36, .getfield 18, 3), (39, .iload_n 1, 1), (40, .dup2, 1), (41, .iaload, 1), (42, .iconst 1, 1), (43, .isub, 1), (44, .iastore, 1), (45, .aload_n 0, 1), (46, .getfield 18, 3), (49, .iload_n 1, 1), (50, .iaload, 1), (51, .ifCond .ne 17, 3), (54, .aload_n 0, 1), (55, .iload_n 1, 1), (56, .iconst 2, 1), (57, .aload_n 0, 1), (58, .getfield 27, 3), (61, .iload_n 2, 1), (62, .iaload, 1), (63, .iconst 1, 1)]
def k_28_2 : Cl := [(64, .iadd, 1), (65, .invokevirtual 70, 3), (68, .return_, 1)]
def r_28 : MR := (1, yX1_learn, cX1_learn, 3, (Option.none : Option FieldType), [k_28_0, k_28_1, k_28_2])
abbrev Eg_firstSlide : Nat := 29
def k_29_0 : Cl := [(0, .aload_n 0, 1), (1, .getfield 30, 3), (4, .iload_n 1, 1), (5, .invokevirtual 64, 3), (8, .ifCond .eq 6, 3), (11, .bipush (-4), 2), (13, .ireturn, 1), (14, .iconst 0, 1), (15, .istore_n 2, 1), (16, .iload_n 2, 1), (17, .aload_n 0, 1), (18, .getfield 34, 3), (21, .getfield 54, 3), (24, .if_icmp .ge 37, 3), (27, .aload_n 0, 1), (28, .getfield 34, 3), (31, .iload_n 1, 1)]
def k_29_1 : Cl := [(32, .iload_n 2, 1), (33, .invokevirtual 57, 3), (36, .istore_n 3, 1), (37, .iload_n 3, 1), (38, .ifCond .lt 17, 3), (41, .aload_n 0, 1), (42, .iload_n 1, 1), (43, .iload_n 3, 1), (44, .invokevirtual 78, 3), (47, .ifCond .eq 8, 3), (50, .iload_n 2, 1), (51, .invokestatic 82, 3), (54, .ireturn, 1), (55, .iinc 2 1, 3), (58, .goto (-42), 3), (61, .bipush (-4), 2), (63, .ireturn, 1)]
def r_29 : MR := (1, yX1_firstSlide, cX1_firstSlide, 4, (Option.some FieldType.int), [k_29_0, k_29_1])
abbrev Eg_leadsTo : Nat := 30
def k_30_0 : Cl := [(0, .aload_n 0, 1), (1, .getfield 24, 3), (4, .iload_n 1, 1), (5, .iaload, 1), (6, .ifCond .ne 18, 3), (9, .aload_n 0, 1), (10, .getfield 24, 3), (13, .iload_n 2, 1), (14, .iaload, 1), (15, .ifCond .ne 7, 3), (18, .iconst 1, 1), (19, .goto 4, 3), (22, .iconst 0, 1), (23, .ireturn, 1), (24, .aload_n 0, 1), (25, .getfield 24, 3), (28, .iload_n 2, 1), (29, .iaload, 1), (30, .ifCond .eq 39, 3)]
def k_30_1 : Cl := [(33, .aload_n 0, 1), (34, .getfield 24, 3), (37, .iload_n 2, 1), (38, .iaload, 1), (39, .aload_n 0, 1), (40, .getfield 24, 3), (43, .iload_n 1, 1), (44, .iaload, 1), (45, .if_icmp .eq 24, 3), (48, .aload_n 0, 1), (49, .getfield 27, 3), (52, .iload_n 2, 1), (53, .iaload, 1), (54, .iconst 1, 1), (55, .iadd, 1), (56, .aload_n 0, 1), (57, .getfield 27, 3), (60, .iload_n 1, 1), (61, .iaload, 1), (62, .if_icmp .ne 7, 3)]
def k_30_2 : Cl := [(65, .iconst 1, 1), (66, .goto 4, 3), (69, .iconst 0, 1), (70, .ireturn, 1)]
def r_30 : MR := (1, yX1_leadsTo, cX1_leadsTo, 3, (Option.some FieldType.boolean), [k_30_0, k_30_1, k_30_2])
abbrev Sh_begin : Nat := 31
def k_31_0 : Cl := [(0, .aload_n 0, 1), (1, .iconst 1, 1), (2, .putfield 15, 3), (5, .aload_n 0, 1), (6, .iload_n 1, 1), (7, .putfield 19, 3), (10, .aload_n 0, 1), (11, .iload_n 2, 1), (12, .putfield 23, 3), (15, .iconst 0, 1), (16, .istore_n 3, 1), (17, .iload_n 3, 1), (18, .bipush 24, 2), (20, .if_icmp .ge 16, 3), (23, .aload_n 0, 1), (24, .getfield 9, 3), (27, .iload_n 3, 1), (28, .lconst 0, 1), (29, .lastore, 1), (30, .iinc 3 1, 3)]
def k_31_1 : Cl := [(33, .goto (-16), 3), (36, .return_, 1)]
def r_31 : MR := (2, yX2_begin, cX2_begin, 4, (Option.none : Option FieldType), [k_31_0, k_31_1])
abbrev Sh_end : Nat := 32
def k_32_0 : Cl := [(0, .aload_n 0, 1), (1, .iconst 0, 1), (2, .putfield 15, 3), (5, .aload_n 0, 1), (6, .getfield 23, 3), (9, .ireturn, 1)]
def r_32 : MR := (2, yX2_end, cX2_end, 1, (Option.some FieldType.int), [k_32_0])
abbrev Sh_holds : Nat := 33
def k_33_0 : Cl := [(0, .iload_n 2, 1), (1, .ifCond .lt 21, 3), (4, .iload_n 1, 1), (5, .ifCond .lt 17, 3), (8, .iload_n 1, 1), (9, .aload_n 0, 1), (10, .getfield 23, 3), (13, .iload_n 2, 1), (14, .isub, 1), (15, .if_icmp .gt 7, 3), (18, .iconst 1, 1), (19, .goto 4, 3), (22, .iconst 0, 1), (23, .ireturn, 1)]
def r_33 : MR := (2, yX2_holds, cX2_holds, 3, (Option.some FieldType.boolean), [k_33_0])
abbrev Sh_fault : Nat := 34
def k_34_0 : Cl := [(0, .aload_n 0, 1), (1, .getfield 15, 3), (4, .ifCond .ne 6, 3), (7, .bipush (-11), 2), (9, .ireturn, 1), (10, .aload_n 0, 1), (11, .getfield 19, 3), (14, .iload_n 1, 1), (15, .if_icmp .eq 6, 3), (18, .bipush (-12), 2), (20, .ireturn, 1), (21, .aload_n 0, 1), (22, .iload_n 2, 1), (23, .iload_n 3, 1), (24, .invokevirtual 26, 3), (27, .ifCond .eq 7, 3), (30, .iconst 0, 1), (31, .goto 5, 3)]
def k_34_1 : Cl := [(34, .bipush (-13), 2), (36, .ireturn, 1)]
def r_34 : MR := (2, yX2_fault, cX2_fault, 4, (Option.some FieldType.int), [k_34_0, k_34_1])
abbrev Sh_look : Nat := 35
def k_35_0 : Cl := [(0, .aload_n 0, 1), (1, .iload_n 1, 1), (2, .iconst 1, 1), (3, .invokevirtual 26, 3), (6, .ifCond .eq 12, 3), (9, .aload_n 0, 1), (10, .getfield 9, 3), (13, .iload_n 1, 1), (14, .laload, 1), (15, .goto 4, 3), (18, .lconst 0, 1), (19, .lreturn, 1)]
def r_35 : MR := (2, yX2_look, cX2_look, 2, (Option.some FieldType.long), [k_35_0])
abbrev Sh_put : Nat := 36
def k_36_0 : Cl := [(0, .aload_n 0, 1), (1, .iload_n 1, 1), (2, .iconst 1, 1), (3, .invokevirtual 26, 3), (6, .ifCond .ne 4, 3), (9, .return_, 1), (10, .aload_n 0, 1), (11, .getfield 19, 3), (14, .ifCond .ne 16, 3), (17, .aload_n 0, 1), (18, .getfield 9, 3), (21, .iload_n 1, 1), (22, .lload_n 2, 1), (23, .l2i, 1), (24, .i2b, 1), (25, .i2l, 1), (26, .lastore, 1), (27, .goto 51, 3), (30, .aload_n 0, 1), (31, .getfield 19, 3)]
def k_36_1 : Cl := [(34, .iconst 1, 1), (35, .if_icmp .ne 16, 3), (38, .aload_n 0, 1), (39, .getfield 9, 3), (42, .iload_n 1, 1), (43, .lload_n 2, 1), (44, .l2i, 1), (45, .i2s, 1), (46, .i2l, 1), (47, .lastore, 1), (48, .goto 30, 3), (51, .aload_n 0, 1), (52, .getfield 19, 3), (55, .iconst 2, 1), (56, .if_icmp .ne 15, 3), (59, .aload_n 0, 1), (60, .getfield 9, 3), (63, .iload_n 1, 1)]
def k_36_2 : Cl := [(64, .lload_n 2, 1), (65, .l2i, 1), (66, .i2l, 1), (67, .lastore, 1), (68, .goto 10, 3), (71, .aload_n 0, 1), (72, .getfield 9, 3), (75, .iload_n 1, 1), (76, .lload_n 2, 1), (77, .lastore, 1), (78, .return_, 1)]
def r_36 : MR := (2, yX2_put, cX2_put, 4, (Option.none : Option FieldType), [k_36_0, k_36_1, k_36_2])
abbrev Tp_write : Nat := 37
def k_37_0 : Cl := [(0, .aload_n 0, 1), (1, .getfield 15, 3), (4, .bipush 90, 2), (6, .if_icmp .lt 6, 3), (9, .bipush (-3), 2), (11, .ireturn, 1), (12, .aload_n 0, 1), (13, .getfield 9, 3), (16, .aload_n 0, 1), (17, .getfield 15, 3), (20, .iload_n 1, 1), (21, .castore, 1), (22, .aload_n 0, 1), (23, .dup, 1), (24, .getfield 15, 3), (27, .iconst 1, 1), (28, .iadd, 1), (29, .putfield 15, 3)]
def k_37_1 : Cl := [(32, .aload_n 0, 1), (33, .getfield 15, 3), (36, .ireturn, 1)]
def r_37 : MR := (3, yX3_write, cX3_write, 2, (Option.some FieldType.int), [k_37_0, k_37_1])
abbrev Tp_read : Nat := 38
def k_38_0 : Cl := [(0, .aload_n 0, 1), (1, .iconst 0, 1), (2, .putfield 19, 3), (5, .aload_n 1, 1), (6, .invokevirtual 22, 3), (9, .aload_n 0, 1), (10, .aload_n 1, 1), (11, .invokevirtual 27, 3), (14, .ifCond .eq 31, 3), (17, .aload_n 0, 1), (18, .invokevirtual 31, 3), (21, .ifCond .ne 20, 3), (24, .aload_n 0, 1), (25, .bipush 59, 2), (27, .invokevirtual 35, 3), (30, .ifCond .eq 15, 3)]
def k_38_1 : Cl := [(33, .aload_n 0, 1), (34, .aload_n 1, 1), (35, .invokevirtual 39, 3), (38, .ifCond .eq 7, 3), (41, .iconst 1, 1), (42, .goto 4, 3), (45, .iconst 0, 1), (46, .istore_n 2, 1), (47, .aload_n 0, 1), (48, .iconst 0, 1), (49, .putfield 15, 3), (52, .iload_n 2, 1), (53, .ifCond .eq 10, 3), (56, .aload_n 1, 1), (57, .getfield 42, 3), (60, .goto 10, 3), (63, .bipush (-20), 2)]
def k_38_2 : Cl := [(65, .aload_n 0, 1), (66, .getfield 19, 3), (69, .isub, 1), (70, .ireturn, 1)]
def r_38 : MR := (3, yX3_read, cX3_read, 3, (Option.some FieldType.int), [k_38_0, k_38_1, k_38_2])
abbrev Tp_readPanels : Nat := 39
def k_39_0 : Cl := [(0, .iconst 0, 1), (1, .istore_n 2, 1), (2, .iconst 0, 1), (3, .istore_n 3, 1), (4, .iload_n 3, 1), (5, .iconst 5, 1), (6, .if_icmp .ge 83, 3), (9, .iload_n 3, 1), (10, .ifCond .le 14, 3), (13, .aload_n 0, 1), (14, .bipush 44, 2), (16, .invokevirtual 35, 3), (19, .ifCond .ne 5, 3), (22, .iconst 1, 1), (23, .ireturn, 1), (24, .aload_n 0, 1), (25, .ldc 45, 2), (27, .invokevirtual 47, 3), (30, .istore 4, 2)]
def k_39_1 : Cl := [(32, .iload 4, 2), (34, .ifCond .ge 5, 3), (37, .iconst 0, 1), (38, .ireturn, 1), (39, .aload_n 0, 1), (40, .iconst 1, 1), (41, .iconst 3, 1), (42, .invokevirtual 51, 3), (45, .istore 5, 2), (47, .iload 5, 2), (49, .ifCond .ge 5, 3), (52, .iconst 0, 1), (53, .ireturn, 1), (54, .aload_n 1, 1), (55, .iload 4, 2), (57, .iload 5, 2), (59, .invokevirtual 55, 3), (62, .pop, 1), (63, .iload_n 2, 1)]
def k_39_2 : Cl := [(64, .ifCond .ne 19, 3), (67, .aload_n 0, 1), (68, .bipush 33, 2), (70, .invokevirtual 35, 3), (73, .ifCond .eq 10, 3), (76, .iconst 1, 1), (77, .istore_n 2, 1), (78, .aload_n 1, 1), (79, .iload_n 3, 1), (80, .putfield 58, 3), (83, .iinc 3 1, 3), (86, .goto (-82), 3), (89, .iconst 1, 1), (90, .ireturn, 1)]
def r_39 : MR := (3, yX3_readPanels, cX3_readPanels, 6, (Option.some FieldType.boolean), [k_39_0, k_39_1, k_39_2])
abbrev Tp_readLocks : Nat := 40
def k_40_0 : Cl := [(0, .iconst 0, 1), (1, .istore_n 2, 1), (2, .iload_n 2, 1), (3, .bipush 6, 2), (5, .if_icmp .ge 37, 3), (8, .iload_n 2, 1), (9, .ifCond .le 17, 3), (12, .aload_n 0, 1), (13, .bipush 44, 2), (15, .invokevirtual 35, 3), (18, .ifCond .ne 8, 3), (21, .aload_n 0, 1), (22, .invokevirtual 31, 3), (25, .ireturn, 1), (26, .aload_n 0, 1), (27, .aload_n 1, 1), (28, .invokevirtual 61, 3), (31, .ifCond .ne 5, 3)]
def k_40_1 : Cl := [(34, .iconst 0, 1), (35, .ireturn, 1), (36, .iinc 2 1, 3), (39, .goto (-37), 3), (42, .aload_n 0, 1), (43, .invokevirtual 31, 3), (46, .ireturn, 1)]
def r_40 : MR := (3, yX3_readLocks, cX3_readLocks, 3, (Option.some FieldType.boolean), [k_40_0, k_40_1])
abbrev Tp_readLock : Nat := 41
def k_41_0 : Cl := [(0, .aload_n 0, 1), (1, .iconst 0, 1), (2, .aload_n 1, 1), (3, .getfield 42, 3), (6, .iconst 1, 1), (7, .isub, 1), (8, .invokevirtual 51, 3), (11, .istore_n 2, 1), (12, .iload_n 2, 1), (13, .ifCond .ge 5, 3), (16, .iconst 0, 1), (17, .ireturn, 1), (18, .aload_n 0, 1), (19, .ldc 64, 2), (21, .invokevirtual 47, 3), (24, .istore_n 3, 1), (25, .iload_n 3, 1), (26, .ifCond .lt 14, 3), (29, .aload_n 0, 1), (30, .invokevirtual 66, 3)]
def k_41_1 : Cl := [(33, .bipush 48, 2), (35, .isub, 1), (36, .iload_n 2, 1), (37, .if_icmp .ne 5, 3), (40, .iconst 0, 1), (41, .ireturn, 1), (42, .aload_n 0, 1), (43, .iconst 0, 1), (44, .aload_n 1, 1), (45, .getfield 42, 3), (48, .iconst 1, 1), (49, .isub, 1), (50, .invokevirtual 51, 3), (53, .istore 4, 2), (55, .aload_n 1, 1), (56, .iload 4, 2), (58, .invokevirtual 70, 3), (61, .ifCond .ne 5, 3)]
def k_41_2 : Cl := [(64, .iconst 0, 1), (65, .ireturn, 1), (66, .aload_n 0, 1), (67, .aload_n 1, 1), (68, .getfield 74, 3), (71, .iload 4, 2), (73, .iaload, 1), (74, .invokevirtual 78, 3), (77, .istore 5, 2), (79, .iload 5, 2), (81, .ifCond .ne 5, 3), (84, .iconst 0, 1), (85, .ireturn, 1), (86, .aload_n 1, 1), (87, .iload_n 2, 1), (88, .iload_n 3, 1), (89, .iload 4, 2), (91, .iload 5, 2), (93, .invokevirtual 82, 3)]
def k_41_3 : Cl := [(96, .pop, 1), (97, .iconst 1, 1), (98, .ireturn, 1)]
def r_41 : MR := (3, yX3_readLock, cX3_readLock, 6, (Option.some FieldType.boolean), [k_41_0, k_41_1, k_41_2, k_41_3])
abbrev Tp_readPlaces : Nat := 42
def k_42_0 : Cl := [(0, .iconst 0, 1), (1, .istore_n 2, 1), (2, .iconst 0, 1), (3, .istore_n 3, 1), (4, .iconst 0, 1), (5, .istore 4, 2), (7, .iload 4, 2), (9, .iload_n 1, 1), (10, .if_icmp .gt 36, 3), (13, .aload_n 0, 1), (14, .iload_n 3, 1), (15, .iload_n 1, 1), (16, .invokevirtual 51, 3), (19, .istore 5, 2), (21, .iload 5, 2), (23, .ifCond .ge 5, 3), (26, .iload_n 2, 1), (27, .ireturn, 1), (28, .iload_n 2, 1), (29, .iconst 1, 1), (30, .iload 5, 2)]
def k_42_1 : Cl := [(32, .ishl, 1), (33, .ior, 1), (34, .istore_n 2, 1), (35, .iload 5, 2), (37, .iconst 1, 1), (38, .iadd, 1), (39, .istore_n 3, 1), (40, .iinc 4 1, 3), (43, .goto (-36), 3), (46, .iload_n 2, 1), (47, .ireturn, 1)]
def r_42 : MR := (3, yX3_readPlaces, cX3_readPlaces, 6, (Option.some FieldType.int), [k_42_0, k_42_1])
abbrev Tp_peek : Nat := 43
def k_43_0 : Cl := [(0, .aload_n 0, 1), (1, .getfield 19, 3), (4, .aload_n 0, 1), (5, .getfield 15, 3), (8, .if_icmp .ge 39, 3), (11, .aload_n 0, 1), (12, .getfield 19, 3), (15, .bipush 90, 2), (17, .if_icmp .ge 30, 3), (20, .aload_n 0, 1), (21, .getfield 9, 3), (24, .aload_n 0, 1), (25, .getfield 19, 3), (28, .caload, 1), (29, .bipush 32, 2), (31, .if_icmp .ne 16, 3)]
def k_43_1 : Cl := [(34, .aload_n 0, 1), (35, .dup, 1), (36, .getfield 19, 3), (39, .iconst 1, 1), (40, .iadd, 1), (41, .putfield 19, 3), (44, .goto (-44), 3), (47, .aload_n 0, 1), (48, .getfield 19, 3), (51, .aload_n 0, 1), (52, .getfield 15, 3), (55, .if_icmp .ge 24, 3), (58, .aload_n 0, 1), (59, .getfield 19, 3), (62, .bipush 90, 2)]
def k_43_2 : Cl := [(64, .if_icmp .ge 15, 3), (67, .aload_n 0, 1), (68, .getfield 9, 3), (71, .aload_n 0, 1), (72, .getfield 19, 3), (75, .caload, 1), (76, .goto 4, 3), (79, .iconst 0, 1), (80, .ireturn, 1)]
def r_43 : MR := (3, yX3_peek, cX3_peek, 1, (Option.some FieldType.char), [k_43_0, k_43_1, k_43_2])
abbrev Tp_isEnd : Nat := 44
def k_44_0 : Cl := [(0, .aload_n 0, 1), (1, .invokevirtual 66, 3), (4, .ifCond .ne 7, 3), (7, .iconst 1, 1), (8, .goto 4, 3), (11, .iconst 0, 1), (12, .ireturn, 1)]
def r_44 : MR := (3, yX3_isEnd, cX3_isEnd, 1, (Option.some FieldType.boolean), [k_44_0])
abbrev Tp_accept : Nat := 45
def k_45_0 : Cl := [(0, .aload_n 0, 1), (1, .invokevirtual 66, 3), (4, .iload_n 1, 1), (5, .if_icmp .eq 5, 3), (8, .iconst 0, 1), (9, .ireturn, 1), (10, .aload_n 0, 1), (11, .dup, 1), (12, .getfield 19, 3), (15, .iconst 1, 1), (16, .iadd, 1), (17, .putfield 19, 3), (20, .iconst 1, 1), (21, .ireturn, 1)]
def r_45 : MR := (3, yX3_accept, cX3_accept, 2, (Option.some FieldType.boolean), [k_45_0])
abbrev Tp_oneOf : Nat := 46
def k_46_0 : Cl := [(0, .aload_n 1, 1), (1, .aload_n 0, 1), (2, .invokevirtual 66, 3), (5, .invokevirtual 86, 3), (8, .istore_n 2, 1), (9, .iload_n 2, 1), (10, .ifCond .lt 13, 3), (13, .aload_n 0, 1), (14, .dup, 1), (15, .getfield 19, 3), (18, .iconst 1, 1), (19, .iadd, 1), (20, .putfield 19, 3), (23, .iload_n 2, 1), (24, .ireturn, 1)]
def r_46 : MR := (3, yX3_oneOf, cX3_oneOf, 3, (Option.some FieldType.int), [k_46_0])
abbrev Tp_digit : Nat := 47
def k_47_0 : Cl := [(0, .aload_n 0, 1), (1, .invokevirtual 66, 3), (4, .bipush 48, 2), (6, .isub, 1), (7, .istore_n 3, 1), (8, .iload_n 3, 1), (9, .iload_n 1, 1), (10, .if_icmp .lt 8, 3), (13, .iload_n 3, 1), (14, .iload_n 2, 1), (15, .if_icmp .le 5, 3), (18, .iconst (-1), 1), (19, .ireturn, 1), (20, .aload_n 0, 1), (21, .dup, 1), (22, .getfield 19, 3), (25, .iconst 1, 1), (26, .iadd, 1), (27, .putfield 19, 3), (30, .iload_n 3, 1), (31, .ireturn, 1)]
def r_47 : MR := (3, yX3_digit, cX3_digit, 4, (Option.some FieldType.int), [k_47_0])
abbrev Wk_from : Nat := 48
def k_48_0 : Cl := [(0, .iload_n 1, 1), (1, .ifCond .lt 10, 3), (4, .iload_n 1, 1), (5, .sipush 1024, 3), (8, .if_icmp .lt 4, 3), (11, .return_, 1), (12, .aload_n 0, 1), (13, .getfield 33, 3), (16, .getfield 37, 3), (19, .ifCond .ne 23, 3), (22, .aload_n 0, 1), (23, .getfield 43, 3), (26, .iload_n 1, 1), (27, .if_icmp .ne 15, 3), (30, .aload_n 0, 1), (31, .getfield 47, 3)]
def k_48_1 : Cl := [(34, .iload_n 2, 1), (35, .if_icmp .ne 7, 3), (38, .iconst 1, 1), (39, .goto 4, 3), (42, .iconst 0, 1), (43, .istore_n 3, 1), (44, .iload_n 3, 1), (45, .ifCond .eq 4, 3), (48, .return_, 1), (49, .aload_n 0, 1), (50, .getfield 33, 3), (53, .getfield 37, 3), (56, .ifCond .eq 7, 3), (59, .aload_n 0, 1), (60, .invokevirtual 50, 3), (63, .aload_n 0, 1)]
def k_48_2 : Cl := [(64, .iload_n 1, 1), (65, .putfield 43, 3), (68, .aload_n 0, 1), (69, .iload_n 2, 1), (70, .putfield 47, 3), (73, .iconst 0, 1), (74, .istore 4, 2), (76, .iload 4, 2), (78, .sipush 1024, 3), (81, .if_icmp .ge 17, 3), (84, .aload_n 0, 1), (85, .getfield 21, 3), (88, .iload 4, 2), (90, .iconst (-1), 1), (91, .iastore, 1), (92, .iinc 4 1, 3), (95, .goto (-19), 3)]
def k_48_3 : Cl := [(98, .aload_n 0, 1), (99, .getfield 21, 3), (102, .iload_n 1, 1), (103, .iconst 0, 1), (104, .iastore, 1), (105, .aload_n 0, 1), (106, .getfield 30, 3), (109, .iload_n 1, 1), (110, .iconst 1, 1), (111, .iastore, 1), (112, .aload_n 0, 1), (113, .getfield 18, 3), (116, .iconst 0, 1), (117, .iload_n 1, 1), (118, .iastore, 1), (119, .aload_n 0, 1), (120, .iconst 1, 1), (121, .putfield 53, 3), (124, .iconst 0, 1), (125, .istore 4, 2), (127, .iload 4, 2)]
def k_48_4 : Cl := [(129, .aload_n 0, 1), (130, .getfield 53, 3), (133, .if_icmp .ge 28, 3), (136, .iload 4, 2), (138, .sipush 1024, 3), (141, .if_icmp .ge 20, 3), (144, .aload_n 0, 1), (145, .aload_n 0, 1), (146, .getfield 18, 3), (149, .iload 4, 2), (151, .iaload, 1), (152, .invokevirtual 56, 3), (155, .iinc 4 1, 3), (158, .goto (-31), 3)]
def k_48_5 : Cl := [(161, .return_, 1)]
def r_48 : MR := (4, yX4_from, cX4_from, 5, (Option.none : Option FieldType), [k_48_0, k_48_1, k_48_2, k_48_3, k_48_4, k_48_5])
abbrev Wk_chart : Nat := 49
def k_49_0 : Cl := [(0, .aload_n 0, 1), (1, .iconst 2, 1), (2, .aload_n 0, 1), (3, .getfield 33, 3), (6, .getfield 60, 3), (9, .imul, 1), (10, .putfield 63, 3), (13, .iconst 0, 1), (14, .istore_n 1, 1), (15, .iload_n 1, 1), (16, .iconst 1, 1), (17, .aload_n 0, 1), (18, .getfield 63, 3), (21, .ishl, 1), (22, .if_icmp .ge 52, 3), (25, .iload_n 1, 1), (26, .sipush 1024, 3), (29, .if_icmp .ge 45, 3)]
def k_49_1 : Cl := [(32, .aload_n 0, 1), (33, .getfield 33, 3), (36, .iload_n 1, 1), (37, .invokevirtual 66, 3), (40, .ifCond .ne 6, 3), (43, .goto 25, 3), (46, .iconst 0, 1), (47, .istore_n 2, 1), (48, .iload_n 2, 1), (49, .aload_n 0, 1), (50, .getfield 63, 3), (53, .if_icmp .ge 15, 3), (56, .aload_n 0, 1), (57, .iload_n 1, 1), (58, .iload_n 2, 1), (59, .invokevirtual 70, 3), (62, .iinc 2 1, 3)]
def k_49_2 : Cl := [(65, .goto (-17), 3), (68, .iinc 1 1, 3), (71, .goto (-56), 3), (74, .aload_n 0, 1), (75, .getfield 33, 3), (78, .iconst 0, 1), (79, .putfield 37, 3), (82, .return_, 1)]
def r_49 : MR := (4, yX4_chart, cX4_chart, 3, (Option.none : Option FieldType), [k_49_0, k_49_1, k_49_2])
abbrev Wk_chartMove : Nat := 50
def k_50_0 : Cl := [(0, .iload_n 2, 1), (1, .iconst 1, 1), (2, .ishr, 1), (3, .istore_n 3, 1), (4, .iload_n 2, 1), (5, .iconst 1, 1), (6, .iand, 1), (7, .istore 4, 2), (9, .bipush 10, 2), (11, .iload_n 1, 1), (12, .imul, 1), (13, .iload_n 2, 1), (14, .iadd, 1), (15, .istore 5, 2), (17, .aload_n 0, 1), (18, .getfield 9, 3), (21, .iload 5, 2), (23, .aload_n 0, 1), (24, .getfield 33, 3), (27, .iload_n 1, 1), (28, .iload_n 3, 1), (29, .iload 4, 2), (31, .invokevirtual 74, 3)]
def k_50_1 : Cl := [(34, .ifCond .eq 17, 3), (37, .aload_n 0, 1), (38, .getfield 33, 3), (41, .iload_n 1, 1), (42, .iload_n 3, 1), (43, .iload 4, 2), (45, .invokevirtual 78, 3), (48, .goto 4, 3), (51, .iconst (-1), 1), (52, .iastore, 1), (53, .aload_n 0, 1), (54, .getfield 15, 3), (57, .iload 5, 2), (59, .aload_n 0, 1), (60, .getfield 33, 3), (63, .iload_n 1, 1)]
def k_50_2 : Cl := [(64, .iload_n 3, 1), (65, .iload 4, 2), (67, .invokevirtual 82, 3), (70, .iastore, 1), (71, .return_, 1)]
def r_50 : MR := (4, yX4_chartMove, cX4_chartMove, 6, (Option.none : Option FieldType), [k_50_0, k_50_1, k_50_2])
abbrev Wk_visit : Nat := 51
def k_51_0 : Cl := [(0, .iconst 0, 1), (1, .istore_n 2, 1), (2, .iload_n 2, 1), (3, .aload_n 0, 1), (4, .getfield 63, 3), (7, .if_icmp .ge 136, 3), (10, .aload_n 0, 1), (11, .iload_n 1, 1), (12, .iload_n 2, 1), (13, .invokevirtual 85, 3), (16, .istore_n 3, 1), (17, .iload_n 3, 1), (18, .ifCond .ge 6, 3), (21, .goto 116, 3), (24, .aload_n 0, 1), (25, .getfield 21, 3), (28, .iload_n 3, 1), (29, .iaload, 1), (30, .ifCond .ge 68, 3)]
def k_51_1 : Cl := [(33, .aload_n 0, 1), (34, .getfield 53, 3), (37, .sipush 1024, 3), (40, .if_icmp .ge 58, 3), (43, .aload_n 0, 1), (44, .getfield 21, 3), (47, .iload_n 3, 1), (48, .aload_n 0, 1), (49, .getfield 21, 3), (52, .iload_n 1, 1), (53, .iaload, 1), (54, .iconst 1, 1), (55, .iadd, 1), (56, .iastore, 1), (57, .aload_n 0, 1), (58, .getfield 24, 3), (61, .iload_n 3, 1), (62, .iload_n 1, 1), (63, .iastore, 1)]
def k_51_2 : Cl := [(64, .aload_n 0, 1), (65, .getfield 27, 3), (68, .iload_n 3, 1), (69, .iload_n 2, 1), (70, .iastore, 1), (71, .aload_n 0, 1), (72, .getfield 30, 3), (75, .iload_n 3, 1), (76, .iconst 0, 1), (77, .iastore, 1), (78, .aload_n 0, 1), (79, .getfield 18, 3), (82, .aload_n 0, 1), (83, .getfield 53, 3), (86, .iload_n 3, 1), (87, .iastore, 1), (88, .aload_n 0, 1), (89, .dup, 1), (90, .getfield 53, 3), (93, .iconst 1, 1), (94, .iadd, 1), (95, .putfield 53, 3)]
def k_51_3 : Cl := [(98, .aload_n 0, 1), (99, .getfield 21, 3), (102, .iload_n 3, 1), (103, .iaload, 1), (104, .aload_n 0, 1), (105, .getfield 21, 3), (108, .iload_n 1, 1), (109, .iaload, 1), (110, .iconst 1, 1), (111, .iadd, 1), (112, .if_icmp .ne 25, 3), (115, .aload_n 0, 1), (116, .getfield 30, 3), (119, .iload_n 3, 1), (120, .aload_n 0, 1), (121, .getfield 30, 3), (124, .iload_n 3, 1), (125, .iaload, 1), (126, .aload_n 0, 1), (127, .getfield 30, 3)]
def k_51_4 : Cl := [(130, .iload_n 1, 1), (131, .iaload, 1), (132, .iadd, 1), (133, .ldc 89, 2), (135, .irem, 1), (136, .iastore, 1), (137, .iinc 2 1, 3), (140, .goto (-138), 3), (143, .return_, 1)]
def r_51 : MR := (4, yX4_visit, cX4_visit, 4, (Option.none : Option FieldType), [k_51_0, k_51_1, k_51_2, k_51_3, k_51_4])
abbrev Wk_next : Nat := 52
def k_52_0 : Cl := [(0, .bipush 10, 2), (2, .iload_n 1, 1), (3, .imul, 1), (4, .iload_n 2, 1), (5, .iadd, 1), (6, .istore_n 3, 1), (7, .aload_n 0, 1), (8, .getfield 15, 3), (11, .iload_n 3, 1), (12, .iaload, 1), (13, .aload_n 0, 1), (14, .getfield 47, 3), (17, .iconst (-1), 1), (18, .ixor, 1), (19, .iand, 1), (20, .ifCond .ne 12, 3), (23, .aload_n 0, 1), (24, .getfield 9, 3), (27, .iload_n 3, 1), (28, .iaload, 1), (29, .goto 4, 3)]
def k_52_1 : Cl := [(32, .iconst (-1), 1), (33, .ireturn, 1)]
def r_52 : MR := (4, yX4_next, cX4_next, 4, (Option.some FieldType.int), [k_52_0, k_52_1])
abbrev Wk_slideOf : Nat := 53
def k_53_0 : Cl := [(0, .bipush 10, 2), (2, .iload_n 0, 1), (3, .iconst 1, 1), (4, .ishr, 1), (5, .imul, 1), (6, .iload_n 0, 1), (7, .iconst 1, 1), (8, .iand, 1), (9, .iadd, 1), (10, .ireturn, 1)]
def r_53 : MR := (4, yX4_slideOf, cX4_slideOf, 1, (Option.some FieldType.int), [k_53_0])
abbrev Wk_firstOpen : Nat := 54
def k_54_0 : Cl := [(0, .iconst 0, 1), (1, .istore_n 1, 1), (2, .iload_n 1, 1), (3, .aload_n 0, 1), (4, .getfield 53, 3), (7, .if_icmp .ge 32, 3), (10, .aload_n 0, 1), (11, .getfield 33, 3), (14, .aload_n 0, 1), (15, .getfield 18, 3), (18, .iload_n 1, 1), (19, .iaload, 1), (20, .invokevirtual 90, 3), (23, .ifCond .eq 10, 3), (26, .aload_n 0, 1), (27, .getfield 18, 3), (30, .iload_n 1, 1), (31, .iaload, 1)]
def k_54_1 : Cl := [(32, .ireturn, 1), (33, .iinc 1 1, 3), (36, .goto (-34), 3), (39, .bipush (-4), 2), (41, .ireturn, 1)]
def r_54 : MR := (4, yX4_firstOpen, cX4_firstOpen, 2, (Option.some FieldType.int), [k_54_0, k_54_1])
abbrev Wk_farthest : Nat := 55
def k_55_0 : Cl := [(0, .aload_n 0, 1), (1, .getfield 53, 3), (4, .ifCond .ne 7, 3), (7, .iconst 0, 1), (8, .goto 19, 3), (11, .aload_n 0, 1), (12, .getfield 21, 3), (15, .aload_n 0, 1), (16, .getfield 18, 3), (19, .aload_n 0, 1), (20, .getfield 53, 3), (23, .iconst 1, 1), (24, .isub, 1), (25, .iaload, 1), (26, .iaload, 1), (27, .ireturn, 1)]
def r_55 : MR := (4, yX4_farthest, cX4_farthest, 1, (Option.some FieldType.int), [k_55_0])
abbrev Wk_told : Nat := 56
def k_56_0 : Cl := [(0, .iload_n 1, 1), (1, .ifCond .lt 19, 3), (4, .iload_n 1, 1), (5, .sipush 1024, 3), (8, .if_icmp .ge 12, 3), (11, .aload_n 0, 1), (12, .getfield 21, 3), (15, .iload_n 1, 1), (16, .iaload, 1), (17, .ifCond .ge 6, 3), (20, .bipush (-4), 2), (22, .ireturn, 1), (23, .iload_n 2, 1), (24, .ifCond .ge 10, 3), (27, .aload_n 0, 1), (28, .getfield 21, 3), (31, .iload_n 1, 1)]
def k_56_1 : Cl := [(32, .iaload, 1), (33, .ireturn, 1), (34, .iload_n 2, 1), (35, .aload_n 0, 1), (36, .getfield 21, 3), (39, .iload_n 1, 1), (40, .iaload, 1), (41, .if_icmp .lt 6, 3), (44, .bipush (-4), 2), (46, .ireturn, 1), (47, .iload_n 1, 1), (48, .istore_n 3, 1), (49, .aload_n 0, 1), (50, .getfield 21, 3), (53, .iload_n 1, 1), (54, .iaload, 1), (55, .istore 4, 2), (57, .iload 4, 2), (59, .iload_n 2, 1), (60, .iconst 1, 1), (61, .iadd, 1), (62, .if_icmp .le 16, 3)]
def k_56_2 : Cl := [(65, .aload_n 0, 1), (66, .getfield 24, 3), (69, .iload_n 3, 1), (70, .iaload, 1), (71, .istore_n 3, 1), (72, .iinc 4 (-1), 3), (75, .goto (-18), 3), (78, .aload_n 0, 1), (79, .getfield 27, 3), (82, .iload_n 3, 1), (83, .iaload, 1), (84, .invokestatic 93, 3), (87, .ireturn, 1)]
def r_56 : MR := (4, yX4_told, cX4_told, 5, (Option.some FieldType.int), [k_56_0, k_56_1, k_56_2])
abbrev Wk_rowsToOpen : Nat := 57
def k_57_0 : Cl := [(0, .aload_n 0, 1), (1, .invokevirtual 97, 3), (4, .istore_n 1, 1), (5, .iload_n 1, 1), (6, .ifCond .ge 5, 3), (9, .iconst 0, 1), (10, .ireturn, 1), (11, .iconst 0, 1), (12, .istore_n 2, 1), (13, .iconst 0, 1), (14, .istore_n 3, 1), (15, .iload_n 3, 1), (16, .aload_n 0, 1), (17, .getfield 53, 3), (20, .if_icmp .ge 58, 3), (23, .aload_n 0, 1), (24, .getfield 18, 3), (27, .iload_n 3, 1), (28, .iaload, 1), (29, .istore 4, 2), (31, .aload_n 0, 1)]
def k_57_1 : Cl := [(32, .getfield 21, 3), (35, .iload 4, 2), (37, .iaload, 1), (38, .aload_n 0, 1), (39, .getfield 21, 3), (42, .iload_n 1, 1), (43, .iaload, 1), (44, .if_icmp .ne 28, 3), (47, .aload_n 0, 1), (48, .getfield 33, 3), (51, .iload 4, 2), (53, .invokevirtual 90, 3), (56, .ifCond .eq 16, 3), (59, .iload_n 2, 1), (60, .aload_n 0, 1), (61, .getfield 30, 3)]
def k_57_2 : Cl := [(64, .iload 4, 2), (66, .iaload, 1), (67, .iadd, 1), (68, .ldc 89, 2), (70, .irem, 1), (71, .istore_n 2, 1), (72, .iinc 3 1, 3), (75, .goto (-60), 3), (78, .iload_n 2, 1), (79, .ireturn, 1)]
def r_57 : MR := (4, yX4_rowsToOpen, cX4_rowsToOpen, 5, (Option.some FieldType.int), [k_57_0, k_57_1, k_57_2])
abbrev Sb_panel : Nat := 58
def k_58_0 : Cl := [(0, .iload_n 1, 1), (1, .ifCond .lt 18, 3), (4, .iload_n 1, 1), (5, .iconst 4, 1), (6, .if_icmp .gt 13, 3), (9, .iload_n 2, 1), (10, .iconst 1, 1), (11, .if_icmp .lt 8, 3), (14, .iload_n 2, 1), (15, .iconst 3, 1), (16, .if_icmp .le 5, 3), (19, .iconst (-1), 1), (20, .ireturn, 1), (21, .aload_n 0, 1), (22, .getfield 10, 3), (25, .getfield 54, 3), (28, .iconst 5, 1), (29, .if_icmp .lt 6, 3)]
def k_58_1 : Cl := [(32, .bipush (-3), 2), (34, .ireturn, 1), (35, .aload_n 0, 1), (36, .getfield 10, 3), (39, .invokevirtual 58, 3), (42, .aload_n 0, 1), (43, .getfield 10, 3), (46, .iload_n 1, 1), (47, .iload_n 2, 1), (48, .invokevirtual 61, 3), (51, .ireturn, 1)]
def r_58 : MR := (5, yX5_panel, cX5_panel, 3, (Option.some FieldType.int), [k_58_0, k_58_1])
abbrev Sb_lock : Nat := 59
def k_59_0 : Cl := [(0, .aload_n 0, 1), (1, .getfield 10, 3), (4, .iload_n 1, 1), (5, .invokevirtual 65, 3), (8, .ifCond .eq 19, 3), (11, .aload_n 0, 1), (12, .getfield 10, 3), (15, .iload_n 3, 1), (16, .invokevirtual 65, 3), (19, .ifCond .eq 8, 3), (22, .iload_n 1, 1), (23, .iload_n 3, 1), (24, .if_icmp .ne 5, 3), (27, .iconst (-1), 1), (28, .ireturn, 1), (29, .iload_n 2, 1), (30, .ifCond .lt 21, 3)]
def k_59_1 : Cl := [(33, .iload_n 2, 1), (34, .iconst 2, 1), (35, .if_icmp .gt 16, 3), (38, .iload 4, 2), (40, .iconst 1, 1), (41, .if_icmp .lt 10, 3), (44, .iload 4, 2), (46, .bipush 15, 2), (48, .if_icmp .le 5, 3), (51, .iconst (-1), 1), (52, .ireturn, 1), (53, .aload_n 0, 1), (54, .getfield 10, 3), (57, .getfield 69, 3), (60, .bipush 6, 2), (62, .if_icmp .lt 6, 3)]
def k_59_2 : Cl := [(65, .bipush (-3), 2), (67, .ireturn, 1), (68, .aload_n 0, 1), (69, .getfield 10, 3), (72, .invokevirtual 58, 3), (75, .aload_n 0, 1), (76, .getfield 10, 3), (79, .iload_n 1, 1), (80, .iload_n 2, 1), (81, .iload_n 3, 1), (82, .iload 4, 2), (84, .invokevirtual 72, 3), (87, .ireturn, 1)]
def r_59 : MR := (5, yX5_lock, cX5_lock, 5, (Option.some FieldType.int), [k_59_0, k_59_1, k_59_2])
abbrev Sb_lid : Nat := 60
def k_60_0 : Cl := [(0, .aload_n 0, 1), (1, .getfield 10, 3), (4, .iload_n 1, 1), (5, .invokevirtual 65, 3), (8, .ifCond .ne 5, 3), (11, .iconst (-1), 1), (12, .ireturn, 1), (13, .aload_n 0, 1), (14, .getfield 10, 3), (17, .getfield 76, 3), (20, .istore_n 2, 1), (21, .aload_n 0, 1), (22, .getfield 10, 3), (25, .iload_n 1, 1), (26, .putfield 76, 3), (29, .iload_n 2, 1), (30, .ireturn, 1)]
def r_60 : MR := (5, yX5_lid, cX5_lid, 3, (Option.some FieldType.int), [k_60_0])
abbrev Sb_of : Nat := 61
def k_61_0 : Cl := [(0, .aload_n 0, 1), (1, .getfield 10, 3), (4, .iload_n 1, 1), (5, .invokevirtual 65, 3), (8, .ifCond .ne 5, 3), (11, .iconst (-1), 1), (12, .ireturn, 1), (13, .iload_n 2, 1), (14, .tableswitch 120 0 4 #[34, 44, 54, 66, 93], 34)]
def k_61_1 : Cl := [(48, .aload_n 0, 1), (49, .getfield 10, 3), (52, .getfield 79, 3), (55, .iload_n 1, 1), (56, .iaload, 1), (57, .ireturn, 1), (58, .aload_n 0, 1), (59, .getfield 10, 3), (62, .getfield 83, 3)]
def k_61_2 : Cl := [(65, .iload_n 1, 1), (66, .iaload, 1), (67, .ireturn, 1), (68, .aload_n 0, 1), (69, .getfield 10, 3), (72, .getfield 86, 3), (75, .iload_n 1, 1), (76, .invokestatic 89, 3), (79, .ireturn, 1), (80, .aload_n 0, 1), (81, .getfield 10, 3), (84, .aload_n 0, 1), (85, .getfield 10, 3), (88, .getfield 86, 3), (91, .aload_n 0, 1), (92, .getfield 10, 3), (95, .getfield 92, 3)]
def k_61_3 : Cl := [(98, .iload_n 1, 1), (99, .iconst 0, 1), (100, .invokevirtual 95, 3), (103, .invokestatic 99, 3), (106, .ireturn, 1), (107, .aload_n 0, 1), (108, .getfield 10, 3), (111, .aload_n 0, 1), (112, .getfield 10, 3), (115, .getfield 86, 3), (118, .aload_n 0, 1), (119, .getfield 10, 3), (122, .getfield 92, 3), (125, .iload_n 1, 1), (126, .iconst 1, 1), (127, .invokevirtual 95, 3)]
def k_61_4 : Cl := [(130, .invokestatic 99, 3), (133, .ireturn, 1), (134, .iconst (-1), 1), (135, .ireturn, 1)]
def r_61 : MR := (5, yX5_of, cX5_of, 3, (Option.some FieldType.int), [k_61_0, k_61_1, k_61_2, k_61_3, k_61_4])
abbrev Sb_at : Nat := 62
def k_62_0 : Cl := [(0, .aload_n 0, 1), (1, .getfield 10, 3), (4, .iload_n 1, 1), (5, .invokevirtual 103, 3), (8, .ifCond .ne 5, 3), (11, .iconst (-1), 1), (12, .ireturn, 1), (13, .iload_n 2, 1), (14, .tableswitch 109 0 5 #[38, 48, 58, 68, 78, 90], 38)]
def k_62_1 : Cl := [(52, .aload_n 0, 1), (53, .getfield 10, 3), (56, .getfield 106, 3), (59, .iload_n 1, 1), (60, .iaload, 1), (61, .ireturn, 1), (62, .aload_n 0, 1), (63, .getfield 10, 3)]
def k_62_2 : Cl := [(66, .getfield 109, 3), (69, .iload_n 1, 1), (70, .iaload, 1), (71, .ireturn, 1), (72, .aload_n 0, 1), (73, .getfield 10, 3), (76, .getfield 112, 3), (79, .iload_n 1, 1), (80, .iaload, 1), (81, .ireturn, 1), (82, .aload_n 0, 1), (83, .getfield 10, 3), (86, .getfield 115, 3), (89, .iload_n 1, 1), (90, .iaload, 1), (91, .ireturn, 1), (92, .aload_n 0, 1), (93, .getfield 10, 3)]
def k_62_3 : Cl := [(96, .getfield 92, 3), (99, .iload_n 1, 1), (100, .ishr, 1), (101, .iconst 1, 1), (102, .iand, 1), (103, .ireturn, 1), (104, .aload_n 0, 1), (105, .getfield 10, 3), (108, .iload_n 1, 1), (109, .aload_n 0, 1), (110, .getfield 10, 3), (113, .getfield 86, 3), (116, .invokevirtual 118, 3), (119, .invokestatic 99, 3), (122, .ireturn, 1), (123, .iconst (-1), 1), (124, .ireturn, 1)]
def r_62 : MR := (5, yX5_at, cX5_at, 3, (Option.some FieldType.int), [k_62_0, k_62_1, k_62_2, k_62_3])
abbrev Sb_type : Nat := 63
def k_63_0 : Cl := [(0, .iload_n 1, 1), (1, .bipush 32, 2), (3, .if_icmp .lt 9, 3), (6, .iload_n 1, 1), (7, .bipush 126, 2), (9, .if_icmp .le 5, 3), (12, .iconst (-1), 1), (13, .ireturn, 1), (14, .aload_n 0, 1), (15, .getfield 25, 3), (18, .iload_n 1, 1), (19, .i2c, 1), (20, .invokevirtual 122, 3), (23, .ireturn, 1)]
def r_63 : MR := (5, yX5_type, cX5_type, 2, (Option.some FieldType.int), [k_63_0])
abbrev Sb_box : Nat := 64
def k_64_0 : Cl := [(0, .aload_n 0, 1), (1, .getfield 25, 3), (4, .aload_n 0, 1), (5, .getfield 19, 3), (8, .invokevirtual 126, 3), (11, .istore_n 1, 1), (12, .iload_n 1, 1), (13, .ifCond .ge 5, 3), (16, .iload_n 1, 1), (17, .ireturn, 1), (18, .aload_n 0, 1), (19, .getfield 19, 3), (22, .aload_n 0, 1), (23, .getfield 10, 3), (26, .getfield 130, 3), (29, .putfield 130, 3)]
def k_64_1 : Cl := [(32, .aload_n 0, 1), (33, .getfield 10, 3), (36, .aload_n 0, 1), (37, .getfield 19, 3), (40, .invokevirtual 133, 3), (43, .iload_n 1, 1), (44, .ireturn, 1)]
def r_64 : MR := (5, yX5_box, cX5_box, 2, (Option.some FieldType.int), [k_64_0, k_64_1])
abbrev Sb_count : Nat := 65
def k_65_0 : Cl := [(0, .iload_n 1, 1), (1, .tableswitch 133 0 8 #[51, 59, 67, 75, 93, 101, 109, 117, 125], 51)]
def k_65_1 : Cl := [(52, .aload_n 0, 1), (53, .getfield 10, 3), (56, .getfield 54, 3), (59, .ireturn, 1), (60, .aload_n 0, 1), (61, .getfield 10, 3)]
def k_65_2 : Cl := [(64, .getfield 69, 3), (67, .ireturn, 1), (68, .aload_n 0, 1), (69, .getfield 10, 3), (72, .getfield 76, 3), (75, .ireturn, 1), (76, .aload_n 0, 1), (77, .getfield 10, 3), (80, .aload_n 0, 1), (81, .getfield 10, 3), (84, .getfield 86, 3), (87, .invokevirtual 136, 3), (90, .invokestatic 99, 3), (93, .ireturn, 1), (94, .aload_n 0, 1), (95, .getfield 10, 3)]
def k_65_3 : Cl := [(98, .invokevirtual 139, 3), (101, .ireturn, 1), (102, .aload_n 0, 1), (103, .getfield 10, 3), (106, .getfield 92, 3), (109, .ireturn, 1), (110, .aload_n 0, 1), (111, .getfield 10, 3), (114, .invokevirtual 143, 3), (117, .ireturn, 1), (118, .aload_n 0, 1), (119, .getfield 10, 3), (122, .getfield 86, 3), (125, .ireturn, 1), (126, .aload_n 0, 1), (127, .getfield 10, 3)]
def k_65_4 : Cl := [(130, .getfield 146, 3), (133, .ireturn, 1), (134, .iconst (-1), 1), (135, .ireturn, 1)]
def r_65 : MR := (5, yX5_count, cX5_count, 2, (Option.some FieldType.int), [k_65_0, k_65_1, k_65_2, k_65_3, k_65_4])
abbrev Sb_slide : Nat := 66
def k_66_0 : Cl := [(0, .aload_n 0, 1), (1, .getfield 10, 3), (4, .iload_n 1, 1), (5, .invokevirtual 65, 3), (8, .ifCond .eq 12, 3), (11, .iload_n 2, 1), (12, .ifCond .lt 8, 3), (15, .iload_n 2, 1), (16, .iconst 1, 1), (17, .if_icmp .le 5, 3), (20, .iconst (-1), 1), (21, .ireturn, 1), (22, .aload_n 0, 1), (23, .getfield 10, 3), (26, .aload_n 0, 1), (27, .getfield 10, 3), (30, .getfield 86, 3)]
def k_66_1 : Cl := [(33, .aload_n 0, 1), (34, .getfield 10, 3), (37, .getfield 92, 3), (40, .iload_n 1, 1), (41, .iload_n 2, 1), (42, .invokevirtual 95, 3), (45, .ifCond .ne 6, 3), (48, .bipush (-2), 2), (50, .ireturn, 1), (51, .aload_n 0, 1), (52, .getfield 10, 3), (55, .invokevirtual 149, 3), (58, .aload_n 0, 1), (59, .getfield 10, 3), (62, .aload_n 0, 1), (63, .getfield 10, 3)]
def k_66_2 : Cl := [(66, .aload_n 0, 1), (67, .getfield 10, 3), (70, .getfield 86, 3), (73, .iload_n 1, 1), (74, .iload_n 2, 1), (75, .invokevirtual 152, 3), (78, .putfield 86, 3), (81, .aload_n 0, 1), (82, .getfield 10, 3), (85, .getfield 86, 3), (88, .ireturn, 1)]
def r_66 : MR := (5, yX5_slide, cX5_slide, 3, (Option.some FieldType.int), [k_66_0, k_66_1, k_66_2])
abbrev Sb_shut : Nat := 67
def k_67_0 : Cl := [(0, .aload_n 0, 1), (1, .getfield 10, 3), (4, .invokevirtual 139, 3), (7, .invokestatic 156, 3), (10, .istore_n 1, 1), (11, .iload_n 1, 1), (12, .ifCond .ne 6, 3), (15, .bipush (-2), 2), (17, .ireturn, 1), (18, .aload_n 0, 1), (19, .getfield 10, 3), (22, .invokevirtual 149, 3), (25, .aload_n 0, 1), (26, .getfield 10, 3), (29, .iconst 0, 1), (30, .putfield 86, 3)]
def k_67_1 : Cl := [(33, .iload_n 1, 1), (34, .ireturn, 1)]
def r_67 : MR := (5, yX5_shut, cX5_shut, 2, (Option.some FieldType.int), [k_67_0, k_67_1])
abbrev Sb_file : Nat := 68
def k_68_0 : Cl := [(0, .aload_n 0, 1), (1, .getfield 10, 3), (4, .iload_n 1, 1), (5, .invokevirtual 103, 3), (8, .ifCond .ne 5, 3), (11, .iconst (-1), 1), (12, .ireturn, 1), (13, .aload_n 0, 1), (14, .getfield 10, 3), (17, .getfield 92, 3), (20, .iload_n 1, 1), (21, .ishr, 1), (22, .iconst 1, 1), (23, .iand, 1), (24, .ifCond .eq 6, 3), (27, .bipush (-2), 2), (29, .ireturn, 1), (30, .aload_n 0, 1), (31, .getfield 10, 3)]
def k_68_1 : Cl := [(34, .invokevirtual 149, 3), (37, .aload_n 0, 1), (38, .getfield 10, 3), (41, .dup, 1), (42, .getfield 92, 3), (45, .iconst 1, 1), (46, .iload_n 1, 1), (47, .ishl, 1), (48, .ior, 1), (49, .putfield 92, 3), (52, .aload_n 0, 1), (53, .getfield 10, 3), (56, .getfield 92, 3), (59, .ireturn, 1)]
def r_68 : MR := (5, yX5_file, cX5_file, 2, (Option.some FieldType.int), [k_68_0, k_68_1])
abbrev Sb_drift : Nat := 69
def k_69_0 : Cl := [(0, .iload_n 1, 1), (1, .iconst 1, 1), (2, .if_icmp .lt 9, 3), (5, .iload_n 1, 1), (6, .bipush 40, 2), (8, .if_icmp .le 5, 3), (11, .iconst (-1), 1), (12, .ireturn, 1), (13, .iconst 0, 1), (14, .istore_n 2, 1), (15, .iload_n 2, 1), (16, .iload_n 1, 1), (17, .if_icmp .ge 16, 3), (20, .aload_n 0, 1), (21, .getfield 10, 3), (24, .invokevirtual 162, 3), (27, .iinc 2 1, 3), (30, .goto (-15), 3)]
def k_69_1 : Cl := [(33, .aload_n 0, 1), (34, .getfield 10, 3), (37, .getfield 86, 3), (40, .ireturn, 1)]
def r_69 : MR := (5, yX5_drift, cX5_drift, 3, (Option.some FieldType.int), [k_69_0, k_69_1])
abbrev Sb_undo : Nat := 70
def k_70_0 : Cl := [(0, .aload_n 0, 1), (1, .getfield 10, 3), (4, .getfield 146, 3), (7, .ifCond .ne 8, 3), (10, .bipush (-4), 2), (12, .goto 10, 3), (15, .aload_n 0, 1), (16, .getfield 10, 3), (19, .invokevirtual 165, 3), (22, .ireturn, 1)]
def r_70 : MR := (5, yX5_undo, cX5_undo, 1, (Option.some FieldType.int), [k_70_0])
abbrev Sb_seed : Nat := 71
def k_71_0 : Cl := [(0, .iload_n 1, 1), (1, .ifCond .ge 5, 3), (4, .iconst (-1), 1), (5, .ireturn, 1), (6, .aload_n 0, 1), (7, .getfield 10, 3), (10, .getfield 130, 3), (13, .istore_n 2, 1), (14, .aload_n 0, 1), (15, .getfield 10, 3), (18, .iload_n 1, 1), (19, .putfield 130, 3), (22, .iload_n 2, 1), (23, .ireturn, 1)]
def r_71 : MR := (5, yX5_seed, cX5_seed, 3, (Option.some FieldType.int), [k_71_0])
abbrev Sb_opens : Nat := 72
def k_72_0 : Cl := [(0, .iload_n 1, 1), (1, .iconst (-1), 1), (2, .if_icmp .ge 5, 3), (5, .iconst (-1), 1), (6, .ireturn, 1), (7, .aload_n 0, 1), (8, .getfield 10, 3), (11, .getfield 54, 3), (14, .ifCond .ne 6, 3), (17, .bipush (-4), 2), (19, .ireturn, 1), (20, .aload_n 0, 1), (21, .getfield 34, 3), (24, .aload_n 0, 1), (25, .getfield 10, 3), (28, .getfield 86, 3), (31, .aload_n 0, 1)]
def k_72_1 : Cl := [(32, .getfield 10, 3), (35, .getfield 92, 3), (38, .invokevirtual 168, 3), (41, .aload_n 0, 1), (42, .getfield 34, 3), (45, .aload_n 0, 1), (46, .getfield 34, 3), (49, .invokevirtual 172, 3), (52, .iload_n 1, 1), (53, .invokevirtual 175, 3), (56, .ireturn, 1)]
def r_72 : MR := (5, yX5_opens, cX5_opens, 2, (Option.some FieldType.int), [k_72_0, k_72_1])
abbrev Sb_rows : Nat := 73
def k_73_0 : Cl := [(0, .aload_n 0, 1), (1, .getfield 10, 3), (4, .getfield 54, 3), (7, .ifCond .ne 5, 3), (10, .iconst 0, 1), (11, .ireturn, 1), (12, .aload_n 0, 1), (13, .getfield 34, 3), (16, .aload_n 0, 1), (17, .getfield 10, 3), (20, .getfield 86, 3), (23, .aload_n 0, 1), (24, .getfield 10, 3), (27, .getfield 92, 3), (30, .invokevirtual 168, 3)]
def k_73_1 : Cl := [(33, .aload_n 0, 1), (34, .getfield 34, 3), (37, .invokevirtual 178, 3), (40, .ireturn, 1)]
def r_73 : MR := (5, yX5_rows, cX5_rows, 1, (Option.some FieldType.int), [k_73_0, k_73_1])
abbrev Sb_reach : Nat := 74
def k_74_0 : Cl := [(0, .iload_n 1, 1), (1, .ifCond .lt 8, 3), (4, .iload_n 1, 1), (5, .iconst 2, 1), (6, .if_icmp .le 5, 3), (9, .iconst (-1), 1), (10, .ireturn, 1), (11, .aload_n 0, 1), (12, .getfield 10, 3), (15, .getfield 54, 3), (18, .ifCond .ne 14, 3), (21, .iload_n 1, 1), (22, .iconst 1, 1), (23, .if_icmp .ne 7, 3), (26, .iconst 0, 1), (27, .goto 4, 3), (30, .iconst 1, 1), (31, .ireturn, 1)]
def k_74_1 : Cl := [(32, .aload_n 0, 1), (33, .getfield 34, 3), (36, .aload_n 0, 1), (37, .getfield 10, 3), (40, .getfield 86, 3), (43, .aload_n 0, 1), (44, .getfield 10, 3), (47, .getfield 92, 3), (50, .invokevirtual 168, 3), (53, .iload_n 1, 1), (54, .ifCond .ne 11, 3), (57, .aload_n 0, 1), (58, .getfield 34, 3), (61, .getfield 181, 3)]
def k_74_2 : Cl := [(64, .ireturn, 1), (65, .iload_n 1, 1), (66, .iconst 1, 1), (67, .if_icmp .ne 13, 3), (70, .aload_n 0, 1), (71, .getfield 34, 3), (74, .invokevirtual 184, 3), (77, .goto 10, 3), (80, .aload_n 0, 1), (81, .getfield 43, 3), (84, .invokevirtual 187, 3), (87, .ireturn, 1)]
def r_74 : MR := (5, yX5_reach, cX5_reach, 2, (Option.some FieldType.int), [k_74_0, k_74_1, k_74_2])
abbrev Sb_key : Nat := 75
def k_75_0 : Cl := [(0, .iload_n 1, 1), (1, .ifCond .lt 8, 3), (4, .iload_n 1, 1), (5, .iconst 1, 1), (6, .if_icmp .le 5, 3), (9, .iconst (-1), 1), (10, .ireturn, 1), (11, .bipush (-4), 2), (13, .istore_n 2, 1), (14, .bipush (-4), 2), (16, .istore_n 3, 1), (17, .iconst 0, 1), (18, .istore 4, 2), (20, .iload 4, 2), (22, .aload_n 0, 1), (23, .getfield 10, 3), (26, .getfield 69, 3), (29, .if_icmp .ge 66, 3)]
def k_75_1 : Cl := [(32, .aload_n 0, 1), (33, .getfield 10, 3), (36, .getfield 92, 3), (39, .iload 4, 2), (41, .ishr, 1), (42, .iconst 1, 1), (43, .iand, 1), (44, .ifCond .eq 6, 3), (47, .goto 42, 3), (50, .aload_n 0, 1), (51, .aload_n 0, 1), (52, .getfield 10, 3), (55, .getfield 92, 3), (58, .iconst 1, 1), (59, .iload 4, 2), (61, .ishl, 1), (62, .ior, 1), (63, .invokevirtual 190, 3)]
def k_75_2 : Cl := [(66, .istore 5, 2), (68, .iload 5, 2), (70, .ifCond .lt 19, 3), (73, .iload_n 2, 1), (74, .ifCond .lt 9, 3), (77, .iload 5, 2), (79, .iload_n 3, 1), (80, .if_icmp .ge 9, 3), (83, .iload 4, 2), (85, .istore_n 2, 1), (86, .iload 5, 2), (88, .istore_n 3, 1), (89, .iinc 4 1, 3), (92, .goto (-72), 3), (95, .iload_n 1, 1)]
def k_75_3 : Cl := [(96, .ifCond .ne 7, 3), (99, .iload_n 2, 1), (100, .goto 4, 3), (103, .iload_n 3, 1), (104, .ireturn, 1)]
def r_75 : MR := (5, yX5_key, cX5_key, 6, (Option.some FieldType.int), [k_75_0, k_75_1, k_75_2, k_75_3])
abbrev Sb_files : Nat := 76
def k_76_0 : Cl := [(0, .iload_n 1, 1), (1, .ifCond .lt 18, 3), (4, .iload_n 1, 1), (5, .bipush 60, 2), (7, .if_icmp .gt 12, 3), (10, .iload_n 2, 1), (11, .ifCond .lt 8, 3), (14, .iload_n 2, 1), (15, .iconst 1, 1), (16, .if_icmp .le 5, 3), (19, .iconst (-1), 1), (20, .ireturn, 1), (21, .aload_n 0, 1), (22, .getfield 10, 3), (25, .getfield 54, 3), (28, .ifCond .ne 6, 3), (31, .bipush (-4), 2)]
def k_76_1 : Cl := [(33, .ireturn, 1), (34, .bipush (-4), 2), (36, .istore_n 3, 1), (37, .iconst 0, 1), (38, .istore 4, 2), (40, .iload 4, 2), (42, .iconst 1, 1), (43, .aload_n 0, 1), (44, .getfield 10, 3), (47, .getfield 69, 3), (50, .ishl, 1), (51, .if_icmp .ge 74, 3), (54, .iload 4, 2), (56, .aload_n 0, 1), (57, .getfield 10, 3), (60, .getfield 92, 3), (63, .iand, 1)]
def k_76_2 : Cl := [(64, .ifCond .eq 6, 3), (67, .goto 52, 3), (70, .iload_n 3, 1), (71, .ifCond .lt 18, 3), (74, .iload 4, 2), (76, .invokestatic 156, 3), (79, .iload_n 3, 1), (80, .invokestatic 156, 3), (83, .if_icmp .lt 6, 3), (86, .goto 33, 3), (89, .aload_n 0, 1), (90, .aload_n 0, 1), (91, .getfield 10, 3), (94, .getfield 92, 3)]
def k_76_3 : Cl := [(97, .iload 4, 2), (99, .ior, 1), (100, .invokevirtual 190, 3), (103, .istore 5, 2), (105, .iload 5, 2), (107, .ifCond .lt 12, 3), (110, .iload 5, 2), (112, .iload_n 1, 1), (113, .if_icmp .gt 6, 3), (116, .iload 4, 2), (118, .istore_n 3, 1), (119, .iinc 4 1, 3), (122, .goto (-82), 3), (125, .iload_n 3, 1), (126, .ifCond .ge 6, 3)]
def k_76_4 : Cl := [(129, .bipush (-4), 2), (131, .ireturn, 1), (132, .iload_n 2, 1), (133, .ifCond .ne 10, 3), (136, .iload_n 3, 1), (137, .invokestatic 156, 3), (140, .goto 4, 3), (143, .iload_n 3, 1), (144, .ireturn, 1)]
def r_76 : MR := (5, yX5_files, cX5_files, 6, (Option.some FieldType.int), [k_76_0, k_76_1, k_76_2, k_76_3, k_76_4])
abbrev Sb_game : Nat := 77
def k_77_0 : Cl := [(0, .iload_n 1, 1), (1, .ifCond .lt 8, 3), (4, .iload_n 1, 1), (5, .iconst 2, 1), (6, .if_icmp .le 5, 3), (9, .iconst (-1), 1), (10, .ireturn, 1), (11, .aload_n 0, 1), (12, .getfield 10, 3), (15, .getfield 54, 3), (18, .ifCond .ne 6, 3), (21, .bipush (-4), 2), (23, .ireturn, 1), (24, .aload_n 0, 1), (25, .getfield 34, 3), (28, .aload_n 0, 1), (29, .getfield 10, 3)]
def k_77_1 : Cl := [(32, .getfield 86, 3), (35, .aload_n 0, 1), (36, .getfield 10, 3), (39, .getfield 92, 3), (42, .invokevirtual 168, 3), (45, .aload_n 0, 1), (46, .getfield 43, 3), (49, .invokevirtual 193, 3), (52, .iload_n 1, 1), (53, .ifCond .ne 19, 3), (56, .aload_n 0, 1), (57, .getfield 43, 3), (60, .getfield 196, 3), (63, .aload_n 0, 1)]
def k_77_2 : Cl := [(64, .getfield 10, 3), (67, .getfield 86, 3), (70, .iaload, 1), (71, .ireturn, 1), (72, .iload_n 1, 1), (73, .iconst 1, 1), (74, .if_icmp .ne 21, 3), (77, .aload_n 0, 1), (78, .getfield 43, 3), (81, .getfield 199, 3), (84, .aload_n 0, 1), (85, .getfield 10, 3), (88, .getfield 86, 3), (91, .iaload, 1), (92, .goto 17, 3), (95, .aload_n 0, 1)]
def k_77_3 : Cl := [(96, .getfield 43, 3), (99, .aload_n 0, 1), (100, .getfield 10, 3), (103, .getfield 86, 3), (106, .invokevirtual 202, 3), (109, .ireturn, 1)]
def r_77 : MR := (5, yX5_game, cX5_game, 2, (Option.some FieldType.int), [k_77_0, k_77_1, k_77_2, k_77_3])
abbrev Sb_fumble : Nat := 78
def k_78_0 : Cl := [(0, .iload_n 1, 1), (1, .ifCond .lt 17, 3), (4, .iload_n 1, 1), (5, .iconst 3, 1), (6, .if_icmp .gt 12, 3), (9, .iload_n 2, 1), (10, .ifCond .lt 8, 3), (13, .iload_n 2, 1), (14, .iconst 1, 1), (15, .if_icmp .le 7, 3), (18, .ldc2_w 205, 3), (21, .lreturn, 1), (22, .aload_n 0, 1), (23, .getfield 10, 3), (26, .aload_n 0, 1), (27, .getfield 10, 3), (30, .getfield 86, 3)]
def k_78_1 : Cl := [(33, .iload_n 1, 1), (34, .invokestatic 207, 3), (37, .lstore_n 3, 1), (38, .iload_n 1, 1), (39, .invokestatic 211, 3), (42, .lstore 5, 2), (44, .lload_n 3, 1), (45, .lload 5, 2), (47, .invokestatic 215, 3), (50, .lstore 7, 2), (52, .lload 7, 2), (54, .lconst 0, 1), (55, .lcmp, 1), (56, .ifCond .ne 7, 3), (59, .ldc2_w 205, 3), (62, .lreturn, 1), (63, .iload_n 2, 1)]
def k_78_2 : Cl := [(64, .ifCond .ne 10, 3), (67, .lload_n 3, 1), (68, .lload 7, 2), (70, .ldiv, 1), (71, .goto 8, 3), (74, .lload 5, 2), (76, .lload 7, 2), (78, .ldiv, 1), (79, .lreturn, 1)]
def r_78 : MR := (5, yX5_fumble, cX5_fumble, 9, (Option.some FieldType.long), [k_78_0, k_78_1, k_78_2])
abbrev Sb_image : Nat := 79
def k_79_0 : Cl := [(0, .aload_n 0, 1), (1, .getfield 16, 3), (4, .aload_n 0, 1), (5, .getfield 10, 3), (8, .invokevirtual 133, 3), (11, .aload_n 0, 1), (12, .iconst 1, 1), (13, .putfield 219, 3), (16, .iconst 1, 1), (17, .ireturn, 1)]
def r_79 : MR := (5, yX5_image, cX5_image, 1, (Option.some FieldType.int), [k_79_0])
abbrev Sb_restore : Nat := 80
def k_80_0 : Cl := [(0, .aload_n 0, 1), (1, .getfield 219, 3), (4, .ifCond .ne 6, 3), (7, .bipush (-4), 2), (9, .ireturn, 1), (10, .aload_n 0, 1), (11, .getfield 10, 3), (14, .aload_n 0, 1), (15, .getfield 16, 3), (18, .invokevirtual 133, 3), (21, .iconst 1, 1), (22, .ireturn, 1)]
def r_80 : MR := (5, yX5_restore, cX5_restore, 1, (Option.some FieldType.int), [k_80_0])
abbrev Sb_to : Nat := 81
def k_81_0 : Cl := [(0, .iload 4, 2), (2, .iconst (-1), 1), (3, .if_icmp .lt 27, 3), (6, .aload_n 0, 1), (7, .getfield 10, 3), (10, .getfield 54, 3), (13, .ifCond .eq 17, 3), (16, .iload_n 1, 1), (17, .invokestatic 223, 3), (20, .ifCond .eq 10, 3), (23, .iload_n 2, 1), (24, .invokestatic 226, 3), (27, .ifCond .ne 5, 3), (30, .iconst (-1), 1), (31, .ireturn, 1)]
def k_81_1 : Cl := [(32, .aload_n 0, 1), (33, .getfield 50, 3), (36, .iload_n 1, 1), (37, .aaload, 1), (38, .iload_n 2, 1), (39, .iload_n 3, 1), (40, .aload_n 0, 1), (41, .getfield 10, 3), (44, .getfield 54, 3), (47, .invokevirtual 229, 3), (50, .istore 5, 2), (52, .iload 5, 2), (54, .ifCond .eq 6, 3), (57, .iload 5, 2), (59, .ireturn, 1), (60, .aload_n 0, 1), (61, .getfield 10, 3)]
def k_81_2 : Cl := [(64, .aload_n 0, 1), (65, .getfield 50, 3), (68, .iload_n 1, 1), (69, .aaload, 1), (70, .iload_n 3, 1), (71, .invokevirtual 232, 3), (74, .istore 6, 2), (76, .iload 6, 2), (78, .ifCond .ge 6, 3), (81, .bipush (-2), 2), (83, .ireturn, 1), (84, .aload_n 0, 1), (85, .getfield 34, 3), (88, .aload_n 0, 1), (89, .getfield 10, 3), (92, .getfield 86, 3), (95, .aload_n 0, 1)]
def k_81_3 : Cl := [(96, .getfield 10, 3), (99, .getfield 92, 3), (102, .invokevirtual 168, 3), (105, .aload_n 0, 1), (106, .getfield 34, 3), (109, .iload 6, 2), (111, .iload 4, 2), (113, .invokevirtual 175, 3), (116, .ireturn, 1)]
def r_81 : MR := (5, yX5_to, cX5_to, 7, (Option.some FieldType.int), [k_81_0, k_81_1, k_81_2, k_81_3])
abbrev Sb_clicks : Nat := 82
def k_82_0 : Cl := [(0, .iload_n 1, 1), (1, .bipush (-4), 2), (3, .if_icmp .eq 14, 3), (6, .aload_n 0, 1), (7, .getfield 10, 3), (10, .iload_n 1, 1), (11, .invokevirtual 65, 3), (14, .ifCond .eq 17, 3), (17, .iload_n 2, 1), (18, .invokestatic 223, 3), (21, .ifCond .eq 10, 3), (24, .iload_n 3, 1), (25, .invokestatic 226, 3), (28, .ifCond .ne 5, 3), (31, .iconst (-1), 1)]
def k_82_1 : Cl := [(32, .ireturn, 1), (33, .iload 5, 2), (35, .iconst 1, 1), (36, .if_icmp .lt 10, 3), (39, .iload 5, 2), (41, .bipush 8, 2), (43, .if_icmp .le 5, 3), (46, .iconst (-1), 1), (47, .ireturn, 1), (48, .aload_n 0, 1), (49, .getfield 50, 3), (52, .iload_n 2, 1), (53, .aaload, 1), (54, .iload_n 3, 1), (55, .iload 4, 2), (57, .iconst 2, 1), (58, .iload 5, 2), (60, .imul, 1), (61, .invokevirtual 229, 3)]
def k_82_2 : Cl := [(64, .istore 6, 2), (66, .iload 6, 2), (68, .ifCond .eq 6, 3), (71, .iload 6, 2), (73, .ireturn, 1), (74, .aload_n 0, 1), (75, .aload_n 0, 1), (76, .getfield 50, 3), (79, .iload_n 2, 1), (80, .aaload, 1), (81, .iload 4, 2), (83, .iload 5, 2), (85, .invokevirtual 236, 3), (88, .ifCond .ne 6, 3), (91, .bipush (-2), 2), (93, .ireturn, 1), (94, .iload_n 1, 1), (95, .bipush (-4), 2)]
def k_82_3 : Cl := [(97, .if_icmp .ne 20, 3), (100, .aload_n 0, 1), (101, .aload_n 0, 1), (102, .getfield 50, 3), (105, .iload_n 2, 1), (106, .aaload, 1), (107, .iload 4, 2), (109, .iload 5, 2), (111, .invokevirtual 240, 3), (114, .goto 18, 3), (117, .aload_n 0, 1), (118, .iload_n 1, 1), (119, .aload_n 0, 1), (120, .getfield 50, 3), (123, .iload_n 2, 1), (124, .aaload, 1), (125, .iload 4, 2), (127, .iload 5, 2)]
def k_82_4 : Cl := [(129, .invokevirtual 244, 3), (132, .ireturn, 1)]
def r_82 : MR := (5, yX5_clicks, cX5_clicks, 7, (Option.some FieldType.int), [k_82_0, k_82_1, k_82_2, k_82_3, k_82_4])
abbrev Sb_film : Nat := 83
def k_83_0 : Cl := [(0, .aload_n 0, 1), (1, .getfield 10, 3), (4, .getfield 54, 3), (7, .ifCond .eq 17, 3), (10, .iload_n 1, 1), (11, .invokestatic 223, 3), (14, .ifCond .eq 10, 3), (17, .iload_n 2, 1), (18, .invokestatic 226, 3), (21, .ifCond .ne 5, 3), (24, .iconst (-1), 1), (25, .ireturn, 1), (26, .aload_n 0, 1), (27, .getfield 50, 3), (30, .iload_n 1, 1), (31, .aaload, 1)]
def k_83_1 : Cl := [(32, .iload_n 2, 1), (33, .iload_n 3, 1), (34, .aload_n 0, 1), (35, .getfield 10, 3), (38, .getfield 54, 3), (41, .invokevirtual 229, 3), (44, .istore 4, 2), (46, .iload 4, 2), (48, .ifCond .eq 6, 3), (51, .iload 4, 2), (53, .ireturn, 1), (54, .iconst 0, 1), (55, .istore 5, 2), (57, .iload 5, 2), (59, .aload_n 0, 1), (60, .getfield 10, 3), (63, .getfield 54, 3)]
def k_83_2 : Cl := [(66, .if_icmp .ge 35, 3), (69, .aload_n 0, 1), (70, .getfield 50, 3), (73, .iload_n 1, 1), (74, .aaload, 1), (75, .iload_n 3, 1), (76, .iload 5, 2), (78, .iadd, 1), (79, .aload_n 0, 1), (80, .getfield 10, 3), (83, .getfield 86, 3), (86, .iload 5, 2), (88, .invokestatic 89, 3), (91, .i2l, 1), (92, .invokevirtual 248, 3), (95, .iinc 5 1, 3)]
def k_83_3 : Cl := [(98, .goto (-41), 3), (101, .aload_n 0, 1), (102, .getfield 10, 3), (105, .getfield 54, 3), (108, .ireturn, 1)]
def r_83 : MR := (5, yX5_film, cX5_film, 6, (Option.some FieldType.int), [k_83_0, k_83_1, k_83_2, k_83_3])
abbrev Sb_sheet : Nat := 84
def k_84_0 : Cl := [(0, .iload_n 1, 1), (1, .invokestatic 223, 3), (4, .ifCond .eq 16, 3), (7, .iload_n 2, 1), (8, .invokestatic 226, 3), (11, .ifCond .eq 9, 3), (14, .iload_n 3, 1), (15, .bipush 24, 2), (17, .if_icmp .le 5, 3), (20, .iconst (-1), 1), (21, .ireturn, 1), (22, .iload_n 3, 1), (23, .ifCond .ge 6, 3), (26, .bipush (-14), 2), (28, .ireturn, 1), (29, .aload_n 0, 1), (30, .getfield 50, 3)]
def k_84_1 : Cl := [(33, .iload_n 1, 1), (34, .aaload, 1), (35, .iload_n 2, 1), (36, .iload_n 3, 1), (37, .invokevirtual 252, 3), (40, .iload_n 3, 1), (41, .ireturn, 1)]
def r_84 : MR := (5, yX5_sheet, cX5_sheet, 4, (Option.some FieldType.int), [k_84_0, k_84_1])
abbrev Sb_drop : Nat := 85
def k_85_0 : Cl := [(0, .iload_n 1, 1), (1, .invokestatic 223, 3), (4, .ifCond .ne 5, 3), (7, .iconst (-1), 1), (8, .ireturn, 1), (9, .aload_n 0, 1), (10, .getfield 50, 3), (13, .iload_n 1, 1), (14, .aaload, 1), (15, .getfield 255, 3), (18, .ifCond .eq 15, 3), (21, .aload_n 0, 1), (22, .getfield 50, 3), (25, .iload_n 1, 1), (26, .aaload, 1), (27, .invokevirtual 258, 3), (30, .goto 5, 3)]
def k_85_1 : Cl := [(33, .bipush (-11), 2), (35, .ireturn, 1)]
def r_85 : MR := (5, yX5_drop, cX5_drop, 2, (Option.some FieldType.int), [k_85_0, k_85_1])
abbrev Sb_item : Nat := 86
def k_86_0 : Cl := [(0, .iload_n 1, 1), (1, .invokestatic 223, 3), (4, .ifCond .eq 10, 3), (7, .iload_n 2, 1), (8, .invokestatic 226, 3), (11, .ifCond .ne 5, 3), (14, .iconst (-1), 1), (15, .ireturn, 1), (16, .aload_n 0, 1), (17, .getfield 50, 3), (20, .iload_n 1, 1), (21, .aaload, 1), (22, .iload_n 2, 1), (23, .iload_n 3, 1), (24, .iconst 1, 1), (25, .invokevirtual 229, 3), (28, .istore 6, 2), (30, .iload 6, 2)]
def k_86_1 : Cl := [(32, .ifCond .eq 6, 3), (35, .iload 6, 2), (37, .ireturn, 1), (38, .aload_n 0, 1), (39, .getfield 50, 3), (42, .iload_n 1, 1), (43, .aaload, 1), (44, .iload_n 3, 1), (45, .lload 4, 2), (47, .invokevirtual 248, 3), (50, .iconst 1, 1), (51, .ireturn, 1)]
def r_86 : MR := (5, yX5_item, cX5_item, 7, (Option.some FieldType.int), [k_86_0, k_86_1])
abbrev Sb_copy : Nat := 87
def k_87_0 : Cl := [(0, .iload_n 1, 1), (1, .invokestatic 223, 3), (4, .ifCond .eq 10, 3), (7, .iload_n 3, 1), (8, .invokestatic 223, 3), (11, .ifCond .ne 5, 3), (14, .iconst (-1), 1), (15, .ireturn, 1), (16, .aload_n 0, 1), (17, .getfield 50, 3), (20, .iload_n 1, 1), (21, .aaload, 1), (22, .getfield 255, 3), (25, .ifCond .eq 15, 3), (28, .aload_n 0, 1), (29, .getfield 50, 3)]
def k_87_1 : Cl := [(32, .iload_n 3, 1), (33, .aaload, 1), (34, .getfield 255, 3), (37, .ifCond .ne 6, 3), (40, .bipush (-11), 2), (42, .ireturn, 1), (43, .aload_n 0, 1), (44, .getfield 50, 3), (47, .iload_n 1, 1), (48, .aaload, 1), (49, .getfield 261, 3), (52, .aload_n 0, 1), (53, .getfield 50, 3), (56, .iload_n 3, 1), (57, .aaload, 1), (58, .getfield 261, 3), (61, .if_icmp .eq 6, 3)]
def k_87_2 : Cl := [(64, .bipush (-12), 2), (66, .ireturn, 1), (67, .aload_n 0, 1), (68, .getfield 50, 3), (71, .iload_n 1, 1), (72, .aaload, 1), (73, .iload_n 2, 1), (74, .iload 5, 2), (76, .invokevirtual 264, 3), (79, .ifCond .eq 19, 3), (82, .aload_n 0, 1), (83, .getfield 50, 3), (86, .iload_n 3, 1), (87, .aaload, 1), (88, .iload 4, 2), (90, .iload 5, 2), (92, .invokevirtual 264, 3), (95, .ifCond .ne 6, 3)]
def k_87_3 : Cl := [(98, .bipush (-13), 2), (100, .ireturn, 1), (101, .aload_n 0, 1), (102, .getfield 50, 3), (105, .iload_n 1, 1), (106, .aaload, 1), (107, .getfield 267, 3), (110, .iload_n 2, 1), (111, .aload_n 0, 1), (112, .getfield 50, 3), (115, .iload_n 3, 1), (116, .aaload, 1), (117, .getfield 267, 3), (120, .iload 4, 2), (122, .iload 5, 2), (124, .invokestatic 271, 3), (127, .iload 5, 2)]
def k_87_4 : Cl := [(129, .ireturn, 1)]
def r_87 : MR := (5, yX5_copy, cX5_copy, 6, (Option.some FieldType.int), [k_87_0, k_87_1, k_87_2, k_87_3, k_87_4])
abbrev Sb_bit : Nat := 88
def k_88_0 : Cl := [(0, .iload_n 0, 1), (1, .ifCond .eq 7, 3), (4, .iconst 1, 1), (5, .goto 4, 3), (8, .iconst 0, 1), (9, .ireturn, 1)]
def r_88 : MR := (5, yX5_bit, cX5_bit, 1, (Option.some FieldType.int), [k_88_0])
abbrev Sb_placeIn : Nat := 89
def k_89_0 : Cl := [(0, .iload_n 0, 1), (1, .iconst 2, 1), (2, .iload_n 1, 1), (3, .imul, 1), (4, .ishr, 1), (5, .iconst 3, 1), (6, .iand, 1), (7, .ireturn, 1)]
def r_89 : MR := (5, yX5_placeIn, cX5_placeIn, 2, (Option.some FieldType.int), [k_89_0])
abbrev Sb_isSheet : Nat := 90
def k_90_0 : Cl := [(0, .iload_n 0, 1), (1, .ifCond .lt 12, 3), (4, .iload_n 0, 1), (5, .iconst 4, 1), (6, .if_icmp .ge 7, 3), (9, .iconst 1, 1), (10, .goto 4, 3), (13, .iconst 0, 1), (14, .ireturn, 1)]
def r_90 : MR := (5, yX5_isSheet, cX5_isSheet, 1, (Option.some FieldType.boolean), [k_90_0])
abbrev Sb_isLane : Nat := 91
def k_91_0 : Cl := [(0, .iload_n 0, 1), (1, .ifCond .lt 12, 3), (4, .iload_n 0, 1), (5, .iconst 4, 1), (6, .if_icmp .ge 7, 3), (9, .iconst 1, 1), (10, .goto 4, 3), (13, .iconst 0, 1), (14, .ireturn, 1)]
def r_91 : MR := (5, yX5_isLane, cX5_isLane, 1, (Option.some FieldType.boolean), [k_91_0])
abbrev Sb_opensWith : Nat := 92
def k_92_0 : Cl := [(0, .aload_n 0, 1), (1, .getfield 34, 3), (4, .aload_n 0, 1), (5, .getfield 10, 3), (8, .getfield 86, 3), (11, .iload_n 1, 1), (12, .invokevirtual 168, 3), (15, .aload_n 0, 1), (16, .getfield 34, 3), (19, .aload_n 0, 1), (20, .getfield 34, 3), (23, .invokevirtual 172, 3), (26, .iconst (-1), 1), (27, .invokevirtual 175, 3), (30, .ireturn, 1)]
def r_92 : MR := (5, yX5_opensWith, cX5_opensWith, 2, (Option.some FieldType.int), [k_92_0])
abbrev Sb_evenShares : Nat := 93
def k_93_0 : Cl := [(0, .lconst 1, 1), (1, .lstore_n 1, 1), (2, .iconst 0, 1), (3, .istore_n 3, 1), (4, .iload_n 3, 1), (5, .iload_n 0, 1), (6, .if_icmp .ge 15, 3), (9, .lload_n 1, 1), (10, .ldc2_w 277, 3), (13, .lmul, 1), (14, .lstore_n 1, 1), (15, .iinc 3 1, 3), (18, .goto (-14), 3), (21, .lload_n 1, 1), (22, .lreturn, 1)]
def r_93 : MR := (5, yX5_evenShares, cX5_evenShares, 4, (Option.some FieldType.long), [k_93_0])
abbrev Sb_openShares : Nat := 94
def k_94_0 : Cl := [(0, .aload_n 0, 1), (1, .iload_n 1, 1), (2, .invokevirtual 136, 3), (5, .ifCond .eq 8, 3), (8, .iload_n 2, 1), (9, .invokestatic 211, 3), (12, .lreturn, 1), (13, .iload_n 2, 1), (14, .ifCond .gt 5, 3), (17, .lconst 0, 1), (18, .lreturn, 1), (19, .lconst 0, 1), (20, .lstore_n 3, 1), (21, .iconst 0, 1), (22, .istore 5, 2), (24, .iconst 0, 1), (25, .istore 6, 2), (27, .iload 6, 2), (29, .iconst 2, 1), (30, .aload_n 0, 1), (31, .getfield 54, 3)]
def k_94_1 : Cl := [(34, .imul, 1), (35, .if_icmp .ge 58, 3), (38, .aload_n 0, 1), (39, .iload_n 1, 1), (40, .aload_n 0, 1), (41, .getfield 92, 3), (44, .iload 6, 2), (46, .iconst 1, 1), (47, .ishr, 1), (48, .iload 6, 2), (50, .iconst 1, 1), (51, .iand, 1), (52, .invokevirtual 95, 3), (55, .ifCond .ne 6, 3), (58, .goto 29, 3), (61, .iinc 5 1, 3)]
def k_94_2 : Cl := [(64, .lload_n 3, 1), (65, .aload_n 0, 1), (66, .aload_n 0, 1), (67, .iload_n 1, 1), (68, .iload 6, 2), (70, .iconst 1, 1), (71, .ishr, 1), (72, .iload 6, 2), (74, .iconst 1, 1), (75, .iand, 1), (76, .invokevirtual 152, 3), (79, .iload_n 2, 1), (80, .iconst 1, 1), (81, .isub, 1), (82, .invokestatic 207, 3), (85, .ladd, 1), (86, .lstore_n 3, 1), (87, .iinc 6 1, 3), (90, .goto (-63), 3), (93, .iload 5, 2), (95, .ifCond .ne 7, 3)]
def k_94_3 : Cl := [(98, .lconst 0, 1), (99, .goto 12, 3), (102, .lload_n 3, 1), (103, .ldc2_w 277, 3), (106, .iload 5, 2), (108, .i2l, 1), (109, .ldiv, 1), (110, .lmul, 1), (111, .lreturn, 1)]
def r_94 : MR := (5, yX5_openShares, cX5_openShares, 7, (Option.some FieldType.long), [k_94_0, k_94_1, k_94_2, k_94_3])
abbrev Sb_greatestDivisor : Nat := 95
def k_95_0 : Cl := [(0, .iconst 0, 1), (1, .istore 4, 2), (3, .iload 4, 2), (5, .sipush 128, 3), (8, .if_icmp .ge 25, 3), (11, .lload_n 2, 1), (12, .lconst 0, 1), (13, .lcmp, 1), (14, .ifCond .eq 19, 3), (17, .lload_n 0, 1), (18, .lload_n 2, 1), (19, .lrem, 1), (20, .lstore 5, 2), (22, .lload_n 2, 1), (23, .lstore_n 0, 1), (24, .lload 5, 2), (26, .lstore_n 2, 1), (27, .iinc 4 1, 3), (30, .goto (-27), 3)]
def k_95_1 : Cl := [(33, .lload_n 0, 1), (34, .lreturn, 1)]
def r_95 : MR := (5, yX5_greatestDivisor, cX5_greatestDivisor, 7, (Option.some FieldType.long), [k_95_0, k_95_1])
abbrev Sb_areClicks : Nat := 96
def k_96_0 : Cl := [(0, .iconst 0, 1), (1, .istore 4, 2), (3, .iload 4, 2), (5, .iload_n 3, 1), (6, .if_icmp .ge 89, 3), (9, .aload_n 1, 1), (10, .iload_n 2, 1), (11, .iconst 2, 1), (12, .iload 4, 2), (14, .imul, 1), (15, .iadd, 1), (16, .invokevirtual 279, 3), (19, .lstore 5, 2), (21, .aload_n 1, 1), (22, .iload_n 2, 1), (23, .iconst 2, 1), (24, .iload 4, 2), (26, .imul, 1), (27, .iadd, 1), (28, .iconst 1, 1), (29, .iadd, 1), (30, .invokevirtual 279, 3)]
def k_96_1 : Cl := [(33, .lstore 7, 2), (35, .lload 5, 2), (37, .lconst 0, 1), (38, .lcmp, 1), (39, .ifCond .lt 32, 3), (42, .lload 5, 2), (44, .ldc2_w 282, 3), (47, .ldiv, 1), (48, .aload_n 0, 1), (49, .getfield 10, 3), (52, .getfield 54, 3), (55, .i2l, 1), (56, .lcmp, 1), (57, .ifCond .ge 14, 3), (60, .lload 5, 2), (62, .ldc2_w 282, 3)]
def k_96_2 : Cl := [(65, .lrem, 1), (66, .lconst 1, 1), (67, .lcmp, 1), (68, .ifCond .le 5, 3), (71, .iconst 0, 1), (72, .ireturn, 1), (73, .lload 7, 2), (75, .lconst 0, 1), (76, .lcmp, 1), (77, .ifCond .lt 10, 3), (80, .lload 7, 2), (82, .lconst 1, 1), (83, .lcmp, 1), (84, .ifCond .le 5, 3), (87, .iconst 0, 1), (88, .ireturn, 1), (89, .iinc 4 1, 3), (92, .goto (-89), 3), (95, .iconst 1, 1)]
def k_96_3 : Cl := [(96, .ireturn, 1)]
def r_96 : MR := (5, yX5_areClicks, cX5_areClicks, 9, (Option.some FieldType.boolean), [k_96_0, k_96_1, k_96_2, k_96_3])
abbrev Sb_clicksSo : Nat := 97
def k_97_0 : Cl := [(0, .aload_n 0, 1), (1, .getfield 86, 3), (4, .istore 5, 2), (6, .iconst 0, 1), (7, .istore 6, 2), (9, .iload 6, 2), (11, .iload 4, 2), (13, .if_icmp .ge 93, 3), (16, .aload_n 2, 1), (17, .iload_n 3, 1), (18, .iconst 2, 1), (19, .iload 6, 2), (21, .imul, 1), (22, .iadd, 1), (23, .invokevirtual 279, 3), (26, .l2i, 1), (27, .istore 7, 2), (29, .aload_n 2, 1), (30, .iload_n 3, 1), (31, .iconst 2, 1)]
def k_97_1 : Cl := [(32, .iload 6, 2), (34, .imul, 1), (35, .iadd, 1), (36, .iconst 1, 1), (37, .iadd, 1), (38, .invokevirtual 279, 3), (41, .lconst 1, 1), (42, .lcmp, 1), (43, .ifCond .ne 7, 3), (46, .iconst 1, 1), (47, .goto 4, 3), (50, .iconst 0, 1), (51, .istore 8, 2), (53, .aload_n 0, 1), (54, .iload 5, 2), (56, .iload_n 1, 1), (57, .iload 7, 2), (59, .bipush 10, 2), (61, .idiv, 1), (62, .iload 7, 2)]
def k_97_2 : Cl := [(64, .bipush 10, 2), (66, .irem, 1), (67, .invokevirtual 95, 3), (70, .iload 8, 2), (72, .if_icmp .eq 5, 3), (75, .iconst 0, 1), (76, .ireturn, 1), (77, .iload 8, 2), (79, .ifCond .eq 21, 3), (82, .aload_n 0, 1), (83, .iload 5, 2), (85, .iload 7, 2), (87, .bipush 10, 2), (89, .idiv, 1), (90, .iload 7, 2), (92, .bipush 10, 2), (94, .irem, 1), (95, .invokevirtual 152, 3)]
def k_97_3 : Cl := [(98, .istore 5, 2), (100, .iinc 6 1, 3), (103, .goto (-94), 3), (106, .iconst 1, 1), (107, .ireturn, 1)]
def r_97 : MR := (5, yX5_clicksSo, cX5_clicksSo, 9, (Option.some FieldType.boolean), [k_97_0, k_97_1, k_97_2, k_97_3])
abbrev Sb_kindsByClicks : Nat := 98
def k_98_0 : Cl := [(0, .aload_n 0, 1), (1, .getfield 19, 3), (4, .aload_n 0, 1), (5, .getfield 10, 3), (8, .invokevirtual 133, 3), (11, .iconst 0, 1), (12, .istore 5, 2), (14, .iconst 0, 1), (15, .istore 6, 2), (17, .iload 6, 2), (19, .iconst 4, 1), (20, .if_icmp .gt 50, 3), (23, .aload_n 0, 1), (24, .getfield 19, 3), (27, .getfield 79, 3), (30, .iload_n 1, 1), (31, .iload 6, 2)]
def k_98_1 : Cl := [(33, .iastore, 1), (34, .aload_n 0, 1), (35, .getfield 19, 3), (38, .aload_n 0, 1), (39, .getfield 19, 3), (42, .getfield 92, 3), (45, .aload_n 2, 1), (46, .iload_n 3, 1), (47, .iload 4, 2), (49, .invokestatic 284, 3), (52, .ifCond .eq 12, 3), (55, .iload 5, 2), (57, .iconst 1, 1), (58, .iload 6, 2), (60, .ishl, 1), (61, .ior, 1), (62, .istore 5, 2)]
def k_98_2 : Cl := [(64, .iinc 6 1, 3), (67, .goto (-50), 3), (70, .iload 5, 2), (72, .ireturn, 1)]
def r_98 : MR := (5, yX5_kindsByClicks, cX5_kindsByClicks, 7, (Option.some FieldType.int), [k_98_0, k_98_1, k_98_2])
abbrev Sb_locksByClicks : Nat := 99
def k_99_0 : Cl := [(0, .aload_n 0, 1), (1, .getfield 10, 3), (4, .aload_n 0, 1), (5, .getfield 10, 3), (8, .getfield 92, 3), (11, .aload_n 1, 1), (12, .iload_n 2, 1), (13, .iload_n 3, 1), (14, .invokestatic 284, 3), (17, .ifCond .eq 8, 3), (20, .bipush 64, 2), (22, .goto 4, 3), (25, .iconst 0, 1), (26, .istore 4, 2), (28, .iconst 0, 1), (29, .istore 5, 2), (31, .iload 5, 2)]
def k_99_1 : Cl := [(33, .aload_n 0, 1), (34, .getfield 10, 3), (37, .getfield 69, 3), (40, .if_icmp .ge 43, 3), (43, .aload_n 0, 1), (44, .getfield 10, 3), (47, .aload_n 0, 1), (48, .getfield 10, 3), (51, .getfield 92, 3), (54, .iconst 1, 1), (55, .iload 5, 2), (57, .ishl, 1), (58, .ixor, 1), (59, .aload_n 1, 1), (60, .iload_n 2, 1), (61, .iload_n 3, 1), (62, .invokestatic 284, 3)]
def k_99_2 : Cl := [(65, .ifCond .eq 12, 3), (68, .iload 4, 2), (70, .iconst 1, 1), (71, .iload 5, 2), (73, .ishl, 1), (74, .ior, 1), (75, .istore 4, 2), (77, .iinc 5 1, 3), (80, .goto (-49), 3), (83, .iload 4, 2), (85, .ireturn, 1)]
def r_99 : MR := (5, yX5_locksByClicks, cX5_locksByClicks, 6, (Option.some FieldType.int), [k_99_0, k_99_1, k_99_2])
abbrev Md_in : Nat := 100
def k_100_0 : Cl := [(0, .lload_n 0, 1), (1, .lload_n 2, 1), (2, .lcmp, 1), (3, .ifCond .lt 14, 3), (6, .lload_n 0, 1), (7, .lload 4, 2), (9, .lcmp, 1), (10, .ifCond .gt 7, 3), (13, .iconst 1, 1), (14, .goto 4, 3), (17, .iconst 0, 1), (18, .ireturn, 1)]
def r_100 : MR := (6, yX6_in, cX6_in, 6, (Option.some FieldType.boolean), [k_100_0])
abbrev Md_isPanel : Nat := 101
def k_101_0 : Cl := [(0, .iload_n 1, 1), (1, .i2l, 1), (2, .lconst 0, 1), (3, .aload_n 0, 1), (4, .getfield 7, 3), (7, .iconst 0, 1), (8, .iaload, 1), (9, .iconst 1, 1), (10, .isub, 1), (11, .i2l, 1), (12, .invokestatic 71, 3), (15, .ireturn, 1)]
def r_101 : MR := (6, yX6_isPanel, cX6_isPanel, 2, (Option.some FieldType.boolean), [k_101_0])
abbrev Md_isLock : Nat := 102
def k_102_0 : Cl := [(0, .iload_n 1, 1), (1, .i2l, 1), (2, .lconst 0, 1), (3, .aload_n 0, 1), (4, .getfield 7, 3), (7, .iconst 1, 1), (8, .iaload, 1), (9, .iconst 1, 1), (10, .isub, 1), (11, .i2l, 1), (12, .invokestatic 71, 3), (15, .ireturn, 1)]
def r_102 : MR := (6, yX6_isLock, cX6_isLock, 2, (Option.some FieldType.boolean), [k_102_0])
abbrev Md_kind : Nat := 103
def k_103_0 : Cl := [(0, .aload_n 0, 1), (1, .getfield 7, 3), (4, .bipush 6, 2), (6, .iconst 2, 1), (7, .iload_n 1, 1), (8, .imul, 1), (9, .iadd, 1), (10, .iaload, 1), (11, .ireturn, 1)]
def r_103 : MR := (6, yX6_kind, cX6_kind, 2, (Option.some FieldType.int), [k_103_0])
abbrev Md_deep : Nat := 104
def k_104_0 : Cl := [(0, .aload_n 0, 1), (1, .getfield 7, 3), (4, .bipush 6, 2), (6, .iconst 2, 1), (7, .iload_n 1, 1), (8, .imul, 1), (9, .iadd, 1), (10, .iconst 1, 1), (11, .iadd, 1), (12, .iaload, 1), (13, .ireturn, 1)]
def r_104 : MR := (6, yX6_deep, cX6_deep, 2, (Option.some FieldType.int), [k_104_0])
abbrev Md_ofLock : Nat := 105
def k_105_0 : Cl := [(0, .aload_n 0, 1), (1, .getfield 7, 3), (4, .bipush 16, 2), (6, .iconst 4, 1), (7, .iload_n 1, 1), (8, .imul, 1), (9, .iadd, 1), (10, .iload_n 2, 1), (11, .iadd, 1), (12, .iaload, 1), (13, .ireturn, 1)]
def r_105 : MR := (6, yX6_ofLock, cX6_ofLock, 3, (Option.some FieldType.int), [k_105_0])
abbrev Md_placeIn : Nat := 106
def k_106_0 : Cl := [(0, .iload_n 0, 1), (1, .iconst 2, 1), (2, .iload_n 1, 1), (3, .imul, 1), (4, .ishr, 1), (5, .iconst 3, 1), (6, .iand, 1), (7, .ireturn, 1)]
def r_106 : MR := (6, yX6_placeIn, cX6_placeIn, 2, (Option.some FieldType.int), [k_106_0])
abbrev Md_isOpen : Nat := 107
def k_107_0 : Cl := [(0, .aload_n 0, 1), (1, .getfield 7, 3), (4, .iconst 0, 1), (5, .iaload, 1), (6, .ifCond .le 30, 3), (9, .iload_n 1, 1), (10, .aload_n 0, 1), (11, .getfield 7, 3), (14, .iconst 2, 1), (15, .iaload, 1), (16, .invokestatic 75, 3), (19, .aload_n 0, 1), (20, .aload_n 0, 1), (21, .getfield 7, 3), (24, .iconst 2, 1), (25, .iaload, 1), (26, .invokevirtual 79, 3), (29, .if_icmp .ne 7, 3)]
def k_107_1 : Cl := [(32, .iconst 1, 1), (33, .goto 4, 3), (36, .iconst 0, 1), (37, .ireturn, 1)]
def r_107 : MR := (6, yX6_isOpen, cX6_isOpen, 2, (Option.some FieldType.boolean), [k_107_0, k_107_1])
abbrev Md_isRing : Nat := 108
def k_108_0 : Cl := [(0, .iload_n 1, 1), (1, .ifCond .eq 27, 3), (4, .iload_n 0, 1), (5, .iload_n 1, 1), (6, .iconst 1, 1), (7, .isub, 1), (8, .invokestatic 75, 3), (11, .ifCond .le 21, 3), (14, .iload_n 0, 1), (15, .iconst 1, 1), (16, .iconst 2, 1), (17, .iload_n 1, 1), (18, .iconst 1, 1), (19, .isub, 1), (20, .imul, 1), (21, .ishl, 1), (22, .iconst 1, 1), (23, .isub, 1), (24, .iand, 1), (25, .ifCond .ne 7, 3), (28, .iconst 1, 1), (29, .goto 4, 3)]
def k_108_1 : Cl := [(32, .iconst 0, 1), (33, .ireturn, 1)]
def r_108 : MR := (6, yX6_isRing, cX6_isRing, 2, (Option.some FieldType.boolean), [k_108_0, k_108_1])
abbrev Md_lets : Nat := 109
def k_109_0 : Cl := [(0, .aload_n 0, 1), (1, .iload_n 1, 1), (2, .iconst 0, 1), (3, .invokevirtual 83, 3), (6, .iload_n 3, 1), (7, .if_icmp .ne 37, 3), (10, .aload_n 0, 1), (11, .iload_n 1, 1), (12, .iconst 1, 1), (13, .invokevirtual 83, 3), (16, .iload 4, 2), (18, .if_icmp .eq 13, 3), (21, .aload_n 0, 1), (22, .iload_n 1, 1), (23, .iconst 1, 1), (24, .invokevirtual 83, 3), (27, .iconst 2, 1), (28, .if_icmp .ne 16, 3), (31, .iload 5, 2)]
def k_109_1 : Cl := [(33, .iload_n 1, 1), (34, .ishr, 1), (35, .iconst 1, 1), (36, .iand, 1), (37, .ifCond .ne 7, 3), (40, .iconst 1, 1), (41, .goto 4, 3), (44, .iconst 0, 1), (45, .istore 6, 2), (47, .iload 6, 2), (49, .ifCond .eq 26, 3), (52, .aload_n 0, 1), (53, .iload_n 1, 1), (54, .iconst 3, 1), (55, .invokevirtual 83, 3), (58, .iload_n 2, 1), (59, .aload_n 0, 1), (60, .iload_n 1, 1), (61, .iconst 2, 1), (62, .invokevirtual 83, 3)]
def k_109_2 : Cl := [(65, .invokestatic 75, 3), (68, .ishr, 1), (69, .iconst 1, 1), (70, .iand, 1), (71, .iconst 1, 1), (72, .if_icmp .ne 7, 3), (75, .iconst 1, 1), (76, .goto 4, 3), (79, .iconst 0, 1), (80, .ireturn, 1)]
def r_109 : MR := (6, yX6_lets, cX6_lets, 7, (Option.some FieldType.boolean), [k_109_0, k_109_1, k_109_2])
abbrev Md_may : Nat := 110
def k_110_0 : Cl := [(0, .iload_n 3, 1), (1, .ifCond .ne 19, 3), (4, .iload_n 1, 1), (5, .iload_n 2, 1), (6, .invokestatic 75, 3), (9, .ifCond .le 7, 3), (12, .iconst 1, 1), (13, .goto 25, 3), (16, .iconst 0, 1), (17, .goto 21, 3), (20, .iload_n 1, 1), (21, .iload_n 2, 1), (22, .invokestatic 75, 3), (25, .aload_n 0, 1), (26, .iload_n 2, 1), (27, .invokevirtual 79, 3), (30, .if_icmp .ge 7, 3)]
def k_110_1 : Cl := [(33, .iconst 1, 1), (34, .goto 4, 3), (37, .iconst 0, 1), (38, .istore 5, 2), (40, .iconst 0, 1), (41, .istore 6, 2), (43, .iload 6, 2), (45, .aload_n 0, 1), (46, .getfield 7, 3), (49, .iconst 1, 1), (50, .iaload, 1), (51, .if_icmp .ge 27, 3), (54, .iload 5, 2), (56, .ifCond .eq 22, 3), (59, .aload_n 0, 1), (60, .iload 6, 2), (62, .iload_n 1, 1), (63, .iload_n 2, 1)]
def k_110_2 : Cl := [(64, .iload_n 3, 1), (65, .iload 4, 2), (67, .invokevirtual 86, 3), (70, .istore 5, 2), (72, .iinc 6 1, 3), (75, .goto (-32), 3), (78, .aload_n 0, 1), (79, .iload_n 2, 1), (80, .invokevirtual 90, 3), (83, .iconst 2, 1), (84, .if_icmp .eq 17, 3), (87, .aload_n 0, 1), (88, .iload_n 2, 1), (89, .invokevirtual 90, 3), (92, .iconst 4, 1), (93, .if_icmp .ne 12, 3)]
def k_110_3 : Cl := [(96, .iload_n 3, 1), (97, .iconst 1, 1), (98, .if_icmp .ne 7, 3), (101, .iconst 1, 1), (102, .goto 4, 3), (105, .iconst 0, 1), (106, .istore 6, 2), (108, .iload 5, 2), (110, .ifCond .eq 20, 3), (113, .iload 6, 2), (115, .ifCond .eq 11, 3), (118, .iload_n 1, 1), (119, .iload_n 2, 1), (120, .invokestatic 93, 3), (123, .ifCond .eq 7, 3), (126, .iconst 1, 1), (127, .goto 4, 3)]
def k_110_4 : Cl := [(130, .iconst 0, 1), (131, .ireturn, 1)]
def r_110 : MR := (6, yX6_may, cX6_may, 7, (Option.some FieldType.boolean), [k_110_0, k_110_1, k_110_2, k_110_3, k_110_4])
abbrev Md_behind : Nat := 111
def k_111_0 : Cl := [(0, .iload_n 1, 1), (1, .iload_n 3, 1), (2, .ifCond .ne 7, 3), (5, .iconst (-1), 1), (6, .goto 4, 3), (9, .iconst 1, 1), (10, .iconst 1, 1), (11, .iconst 2, 1), (12, .iload_n 2, 1), (13, .imul, 1), (14, .ishl, 1), (15, .imul, 1), (16, .iadd, 1), (17, .istore 4, 2), (19, .iconst 0, 1), (20, .istore 5, 2), (22, .iload 5, 2), (24, .aload_n 0, 1), (25, .getfield 7, 3), (28, .iconst 0, 1), (29, .iaload, 1), (30, .if_icmp .ge 86, 3)]
def k_111_1 : Cl := [(33, .iload_n 1, 1), (34, .iload 5, 2), (36, .invokestatic 75, 3), (39, .istore 6, 2), (41, .aload_n 0, 1), (42, .iload 5, 2), (44, .invokevirtual 90, 3), (47, .iconst 1, 1), (48, .if_icmp .eq 24, 3), (51, .aload_n 0, 1), (52, .iload 5, 2), (54, .invokevirtual 90, 3), (57, .iconst 3, 1), (58, .if_icmp .ne 18, 3), (61, .iload 6, 2), (63, .aload_n 0, 1)]
def k_111_2 : Cl := [(64, .iload 5, 2), (66, .invokevirtual 79, 3), (69, .if_icmp .ge 7, 3), (72, .iconst 1, 1), (73, .goto 4, 3), (76, .iconst 0, 1), (77, .istore 7, 2), (79, .iload 4, 2), (81, .iload 5, 2), (83, .iload_n 2, 1), (84, .if_icmp .eq 22, 3), (87, .iload 7, 2), (89, .ifCond .eq 17, 3), (92, .iload 6, 2), (94, .ifCond .le 12, 3)]
def k_111_3 : Cl := [(97, .iconst 1, 1), (98, .iconst 2, 1), (99, .iload 5, 2), (101, .imul, 1), (102, .ishl, 1), (103, .goto 4, 3), (106, .iconst 0, 1), (107, .isub, 1), (108, .istore 4, 2), (110, .iinc 5 1, 3), (113, .goto (-91), 3), (116, .iload 4, 2), (118, .ireturn, 1)]
def r_111 : MR := (6, yX6_behind, cX6_behind, 8, (Option.some FieldType.int), [k_111_0, k_111_1, k_111_2, k_111_3])
abbrev Md_many : Nat := 112
def k_112_0 : Cl := [(0, .iconst 0, 1), (1, .istore_n 1, 1), (2, .iload_n 0, 1), (3, .istore_n 2, 1), (4, .iload_n 2, 1), (5, .ifCond .eq 15, 3), (8, .iinc 1 1, 3), (11, .iload_n 2, 1), (12, .iload_n 2, 1), (13, .iconst 1, 1), (14, .isub, 1), (15, .iand, 1), (16, .istore_n 2, 1), (17, .goto (-13), 3), (20, .iload_n 1, 1), (21, .ireturn, 1)]
def r_112 : MR := (6, yX6_many, cX6_many, 3, (Option.some FieldType.int), [k_112_0])
abbrev Md_panelComes : Nat := 113
def k_113_0 : Cl := [(0, .aload_n 0, 1), (1, .getfield 7, 3), (4, .bipush 6, 2), (6, .iconst 2, 1), (7, .aload_n 0, 1), (8, .getfield 7, 3), (11, .iconst 0, 1), (12, .iaload, 1), (13, .imul, 1), (14, .iadd, 1), (15, .iload_n 1, 1), (16, .iastore, 1), (17, .aload_n 0, 1), (18, .getfield 7, 3), (21, .bipush 6, 2), (23, .iconst 2, 1), (24, .aload_n 0, 1), (25, .getfield 7, 3), (28, .iconst 0, 1), (29, .iaload, 1), (30, .imul, 1), (31, .iadd, 1)]
def k_113_1 : Cl := [(32, .iconst 1, 1), (33, .iadd, 1), (34, .iload_n 2, 1), (35, .iastore, 1), (36, .aload_n 0, 1), (37, .getfield 7, 3), (40, .iconst 0, 1), (41, .dup2, 1), (42, .iaload, 1), (43, .iconst 1, 1), (44, .iadd, 1), (45, .iastore, 1), (46, .aload_n 0, 1), (47, .iconst 0, 1), (48, .putfield 97, 3), (51, .return_, 1)]
def r_113 : MR := (6, yX6_panelComes, cX6_panelComes, 3, (Option.none : Option FieldType), [k_113_0, k_113_1])
abbrev Md_lockComes : Nat := 114
def k_114_0 : Cl := [(0, .bipush 16, 2), (2, .iconst 4, 1), (3, .aload_n 0, 1), (4, .getfield 7, 3), (7, .iconst 1, 1), (8, .iaload, 1), (9, .imul, 1), (10, .iadd, 1), (11, .istore 5, 2), (13, .aload_n 0, 1), (14, .getfield 7, 3), (17, .iload 5, 2), (19, .iload_n 1, 1), (20, .iastore, 1), (21, .aload_n 0, 1), (22, .getfield 7, 3), (25, .iload 5, 2), (27, .iconst 1, 1), (28, .iadd, 1), (29, .iload_n 2, 1), (30, .iastore, 1), (31, .aload_n 0, 1)]
def k_114_1 : Cl := [(32, .getfield 7, 3), (35, .iload 5, 2), (37, .iconst 2, 1), (38, .iadd, 1), (39, .iload_n 3, 1), (40, .iastore, 1), (41, .aload_n 0, 1), (42, .getfield 7, 3), (45, .iload 5, 2), (47, .iconst 3, 1), (48, .iadd, 1), (49, .iload 4, 2), (51, .iastore, 1), (52, .aload_n 0, 1), (53, .getfield 7, 3), (56, .iconst 1, 1), (57, .dup2, 1), (58, .iaload, 1), (59, .iconst 1, 1), (60, .iadd, 1), (61, .iastore, 1), (62, .aload_n 0, 1), (63, .iconst 0, 1)]
def k_114_2 : Cl := [(64, .putfield 97, 3), (67, .return_, 1)]
def r_114 : MR := (6, yX6_lockComes, cX6_lockComes, 6, (Option.none : Option FieldType), [k_114_0, k_114_1, k_114_2])
abbrev Md_panel : Nat := 115
def k_115_0 : Cl := [(0, .iload_n 1, 1), (1, .i2l, 1), (2, .lconst 0, 1), (3, .ldc2_w 101, 3), (6, .invokestatic 71, 3), (9, .ifCond .eq 15, 3), (12, .iload_n 2, 1), (13, .i2l, 1), (14, .lconst 1, 1), (15, .ldc2_w 103, 3), (18, .invokestatic 71, 3), (21, .ifCond .ne 5, 3), (24, .iconst (-1), 1), (25, .ireturn, 1), (26, .aload_n 0, 1), (27, .getfield 7, 3), (30, .iconst 0, 1), (31, .iaload, 1)]
def k_115_1 : Cl := [(32, .iconst 5, 1), (33, .if_icmp .ne 6, 3), (36, .bipush (-3), 2), (38, .ireturn, 1), (39, .aload_n 0, 1), (40, .iload_n 1, 1), (41, .iload_n 2, 1), (42, .invokevirtual 105, 3), (45, .aload_n 0, 1), (46, .getfield 7, 3), (49, .iconst 0, 1), (50, .iaload, 1), (51, .iconst 1, 1), (52, .isub, 1), (53, .ireturn, 1)]
def r_115 : MR := (6, yX6_panel, cX6_panel, 3, (Option.some FieldType.int), [k_115_0, k_115_1])
abbrev Md_lock : Nat := 116
def k_116_0 : Cl := [(0, .aload_n 0, 1), (1, .iload_n 1, 1), (2, .invokevirtual 109, 3), (5, .ifCond .eq 41, 3), (8, .iload_n 2, 1), (9, .i2l, 1), (10, .lconst 0, 1), (11, .ldc2_w 113, 3), (14, .invokestatic 71, 3), (17, .ifCond .eq 29, 3), (20, .aload_n 0, 1), (21, .iload_n 3, 1), (22, .invokevirtual 109, 3), (25, .ifCond .eq 21, 3), (28, .iload_n 1, 1), (29, .iload_n 3, 1), (30, .if_icmp .eq 16, 3)]
def k_116_1 : Cl := [(33, .iload 4, 2), (35, .i2l, 1), (36, .lconst 1, 1), (37, .ldc2_w 115, 3), (40, .invokestatic 71, 3), (43, .ifCond .ne 5, 3), (46, .iconst (-1), 1), (47, .ireturn, 1), (48, .aload_n 0, 1), (49, .getfield 7, 3), (52, .iconst 1, 1), (53, .iaload, 1), (54, .bipush 6, 2), (56, .if_icmp .ne 6, 3), (59, .bipush (-3), 2), (61, .ireturn, 1), (62, .aload_n 0, 1), (63, .iload_n 1, 1)]
def k_116_2 : Cl := [(64, .iload_n 2, 1), (65, .iload_n 3, 1), (66, .iload 4, 2), (68, .invokevirtual 117, 3), (71, .aload_n 0, 1), (72, .getfield 7, 3), (75, .iconst 1, 1), (76, .iaload, 1), (77, .iconst 1, 1), (78, .isub, 1), (79, .ireturn, 1)]
def r_116 : MR := (6, yX6_lock, cX6_lock, 5, (Option.some FieldType.int), [k_116_0, k_116_1, k_116_2])
abbrev Md_lid : Nat := 117
def k_117_0 : Cl := [(0, .aload_n 0, 1), (1, .iload_n 1, 1), (2, .invokevirtual 109, 3), (5, .ifCond .ne 5, 3), (8, .iconst (-1), 1), (9, .ireturn, 1), (10, .aload_n 0, 1), (11, .getfield 7, 3), (14, .iconst 2, 1), (15, .iaload, 1), (16, .istore_n 2, 1), (17, .aload_n 0, 1), (18, .getfield 7, 3), (21, .iconst 2, 1), (22, .iload_n 1, 1), (23, .iastore, 1), (24, .iload_n 2, 1), (25, .ireturn, 1)]
def r_117 : MR := (6, yX6_lid, cX6_lid, 3, (Option.some FieldType.int), [k_117_0])
abbrev Md_mayNow : Nat := 118
def k_118_0 : Cl := [(0, .aload_n 0, 1), (1, .aload_n 0, 1), (2, .getfield 7, 3), (5, .iconst 5, 1), (6, .iaload, 1), (7, .iload_n 1, 1), (8, .iload_n 2, 1), (9, .aload_n 0, 1), (10, .getfield 7, 3), (13, .iconst 3, 1), (14, .iaload, 1), (15, .invokevirtual 121, 3), (18, .ifCond .eq 7, 3), (21, .iconst 1, 1), (22, .goto 4, 3), (25, .iconst 0, 1), (26, .ireturn, 1)]
def r_118 : MR := (6, yX6_mayNow, cX6_mayNow, 3, (Option.some FieldType.int), [k_118_0])
abbrev Md_of : Nat := 119
def k_119_0 : Cl := [(0, .aload_n 0, 1), (1, .iload_n 1, 1), (2, .invokevirtual 109, 3), (5, .ifCond .eq 15, 3), (8, .iload_n 2, 1), (9, .i2l, 1), (10, .lconst 0, 1), (11, .ldc2_w 101, 3), (14, .invokestatic 71, 3), (17, .ifCond .ne 5, 3), (20, .iconst (-1), 1), (21, .ireturn, 1), (22, .iload_n 2, 1), (23, .ifCond .ne 11, 3), (26, .aload_n 0, 1), (27, .iload_n 1, 1), (28, .invokevirtual 90, 3), (31, .goto 42, 3)]
def k_119_1 : Cl := [(34, .iload_n 2, 1), (35, .iconst 1, 1), (36, .if_icmp .ne 11, 3), (39, .aload_n 0, 1), (40, .iload_n 1, 1), (41, .invokevirtual 79, 3), (44, .goto 29, 3), (47, .iload_n 2, 1), (48, .iconst 2, 1), (49, .if_icmp .ne 16, 3), (52, .aload_n 0, 1), (53, .getfield 7, 3), (56, .iconst 5, 1), (57, .iaload, 1), (58, .iload_n 1, 1), (59, .invokestatic 75, 3), (62, .goto 11, 3)]
def k_119_2 : Cl := [(65, .aload_n 0, 1), (66, .iload_n 1, 1), (67, .iload_n 2, 1), (68, .iconst 3, 1), (69, .isub, 1), (70, .invokevirtual 125, 3), (73, .ireturn, 1)]
def r_119 : MR := (6, yX6_of, cX6_of, 3, (Option.some FieldType.int), [k_119_0, k_119_1, k_119_2])
abbrev Md_at : Nat := 120
def k_120_0 : Cl := [(0, .aload_n 0, 1), (1, .iload_n 1, 1), (2, .invokevirtual 128, 3), (5, .ifCond .eq 15, 3), (8, .iload_n 2, 1), (9, .i2l, 1), (10, .lconst 0, 1), (11, .ldc2_w 131, 3), (14, .invokestatic 71, 3), (17, .ifCond .ne 5, 3), (20, .iconst (-1), 1), (21, .ireturn, 1), (22, .iload_n 2, 1), (23, .iconst 4, 1), (24, .if_icmp .ge 12, 3), (27, .aload_n 0, 1), (28, .iload_n 1, 1), (29, .iload_n 2, 1), (30, .invokevirtual 83, 3)]
def k_120_1 : Cl := [(33, .goto 45, 3), (36, .iload_n 2, 1), (37, .iconst 4, 1), (38, .if_icmp .ne 16, 3), (41, .aload_n 0, 1), (42, .getfield 7, 3), (45, .iconst 3, 1), (46, .iaload, 1), (47, .iload_n 1, 1), (48, .ishr, 1), (49, .iconst 1, 1), (50, .iand, 1), (51, .goto 27, 3), (54, .aload_n 0, 1), (55, .iload_n 1, 1), (56, .iconst 3, 1), (57, .invokevirtual 83, 3), (60, .aload_n 0, 1), (61, .getfield 7, 3)]
def k_120_2 : Cl := [(64, .iconst 5, 1), (65, .iaload, 1), (66, .aload_n 0, 1), (67, .iload_n 1, 1), (68, .iconst 2, 1), (69, .invokevirtual 83, 3), (72, .invokestatic 75, 3), (75, .ishr, 1), (76, .iconst 1, 1), (77, .iand, 1), (78, .ireturn, 1)]
def r_120 : MR := (6, yX6_at, cX6_at, 3, (Option.some FieldType.int), [k_120_0, k_120_1, k_120_2])
abbrev Md_outs : Nat := 121
def k_121_0 : Cl := [(0, .iconst 0, 1), (1, .istore_n 1, 1), (2, .iconst 0, 1), (3, .istore_n 2, 1), (4, .iload_n 2, 1), (5, .aload_n 0, 1), (6, .getfield 7, 3), (9, .iconst 0, 1), (10, .iaload, 1), (11, .if_icmp .ge 32, 3), (14, .iload_n 1, 1), (15, .aload_n 0, 1), (16, .getfield 7, 3), (19, .iconst 5, 1), (20, .iaload, 1), (21, .iload_n 2, 1), (22, .invokestatic 75, 3), (25, .ifCond .le 9, 3), (28, .iconst 1, 1), (29, .iload_n 2, 1), (30, .ishl, 1), (31, .goto 4, 3)]
def k_121_1 : Cl := [(34, .iconst 0, 1), (35, .ior, 1), (36, .istore_n 1, 1), (37, .iinc 2 1, 3), (40, .goto (-36), 3), (43, .iload_n 1, 1), (44, .ireturn, 1)]
def r_121 : MR := (6, yX6_outs, cX6_outs, 3, (Option.some FieldType.int), [k_121_0, k_121_1])
abbrev Md_slides : Nat := 122
def k_122_0 : Cl := [(0, .iconst 0, 1), (1, .istore_n 1, 1), (2, .iconst 0, 1), (3, .istore_n 2, 1), (4, .iload_n 2, 1), (5, .aload_n 0, 1), (6, .getfield 7, 3), (9, .iconst 0, 1), (10, .iaload, 1), (11, .if_icmp .ge 25, 3), (14, .iload_n 1, 1), (15, .aload_n 0, 1), (16, .iload_n 2, 1), (17, .iconst 0, 1), (18, .invokevirtual 125, 3), (21, .aload_n 0, 1), (22, .iload_n 2, 1), (23, .iconst 1, 1), (24, .invokevirtual 125, 3), (27, .iadd, 1), (28, .iadd, 1), (29, .istore_n 1, 1), (30, .iinc 2 1, 3)]
def k_122_1 : Cl := [(33, .goto (-29), 3), (36, .iload_n 1, 1), (37, .ireturn, 1)]
def r_122 : MR := (6, yX6_slides, cX6_slides, 3, (Option.some FieldType.int), [k_122_0, k_122_1])
abbrev Md_count : Nat := 123
def k_123_0 : Cl := [(0, .iload_n 1, 1), (1, .tableswitch 120 0 8 #[51, 58, 65, 72, 91, 96, 103, 108, 115], 51)]
def k_123_1 : Cl := [(52, .aload_n 0, 1), (53, .getfield 7, 3), (56, .iconst 0, 1), (57, .iaload, 1), (58, .ireturn, 1), (59, .aload_n 0, 1), (60, .getfield 7, 3), (63, .iconst 1, 1)]
def k_123_2 : Cl := [(64, .iaload, 1), (65, .ireturn, 1), (66, .aload_n 0, 1), (67, .getfield 7, 3), (70, .iconst 2, 1), (71, .iaload, 1), (72, .ireturn, 1), (73, .aload_n 0, 1), (74, .aload_n 0, 1), (75, .getfield 7, 3), (78, .iconst 5, 1), (79, .iaload, 1), (80, .invokevirtual 133, 3), (83, .ifCond .eq 7, 3), (86, .iconst 1, 1), (87, .goto 4, 3), (90, .iconst 0, 1), (91, .ireturn, 1), (92, .aload_n 0, 1), (93, .invokevirtual 136, 3)]
def k_123_3 : Cl := [(96, .ireturn, 1), (97, .aload_n 0, 1), (98, .getfield 7, 3), (101, .iconst 3, 1), (102, .iaload, 1), (103, .ireturn, 1), (104, .aload_n 0, 1), (105, .invokevirtual 140, 3), (108, .ireturn, 1), (109, .aload_n 0, 1), (110, .getfield 7, 3), (113, .iconst 5, 1), (114, .iaload, 1), (115, .ireturn, 1), (116, .aload_n 0, 1), (117, .getfield 97, 3), (120, .ireturn, 1), (121, .iconst (-1), 1), (122, .ireturn, 1)]
def r_123 : MR := (6, yX6_count, cX6_count, 2, (Option.some FieldType.int), [k_123_0, k_123_1, k_123_2, k_123_3])
abbrev Md_type : Nat := 124
def k_124_0 : Cl := [(0, .iload_n 1, 1), (1, .i2l, 1), (2, .ldc2_w 143, 3), (5, .ldc2_w 145, 3), (8, .invokestatic 71, 3), (11, .ifCond .ne 5, 3), (14, .iconst (-1), 1), (15, .ireturn, 1), (16, .aload_n 0, 1), (17, .getfield 147, 3), (20, .bipush 90, 2), (22, .if_icmp .ne 6, 3), (25, .bipush (-3), 2), (27, .ireturn, 1), (28, .aload_n 0, 1), (29, .getfield 13, 3)]
def k_124_1 : Cl := [(32, .aload_n 0, 1), (33, .getfield 147, 3), (36, .iload_n 1, 1), (37, .iastore, 1), (38, .aload_n 0, 1), (39, .dup, 1), (40, .getfield 147, 3), (43, .iconst 1, 1), (44, .iadd, 1), (45, .putfield 147, 3), (48, .aload_n 0, 1), (49, .getfield 147, 3), (52, .ireturn, 1)]
def r_124 : MR := (6, yX6_type, cX6_type, 2, (Option.some FieldType.int), [k_124_0, k_124_1])
abbrev Md_here : Nat := 125
def k_125_0 : Cl := [(0, .aload_n 0, 1), (1, .getfield 150, 3), (4, .aload_n 0, 1), (5, .getfield 147, 3), (8, .if_icmp .ge 30, 3), (11, .aload_n 0, 1), (12, .getfield 13, 3), (15, .aload_n 0, 1), (16, .getfield 150, 3), (19, .iaload, 1), (20, .bipush 32, 2), (22, .if_icmp .ne 16, 3), (25, .aload_n 0, 1), (26, .dup, 1), (27, .getfield 150, 3), (30, .iconst 1, 1), (31, .iadd, 1)]
def k_125_1 : Cl := [(32, .putfield 150, 3), (35, .goto (-35), 3), (38, .aload_n 0, 1), (39, .getfield 150, 3), (42, .aload_n 0, 1), (43, .getfield 147, 3), (46, .if_icmp .ge 15, 3), (49, .aload_n 0, 1), (50, .getfield 13, 3), (53, .aload_n 0, 1), (54, .getfield 150, 3), (57, .iaload, 1), (58, .goto 4, 3), (61, .iconst 0, 1), (62, .ireturn, 1)]
def r_125 : MR := (6, yX6_here, cX6_here, 1, (Option.some FieldType.int), [k_125_0, k_125_1])
abbrev Md_must : Nat := 126
def k_126_0 : Cl := [(0, .aload_n 0, 1), (1, .aload_n 0, 1), (2, .getfield 153, 3), (5, .ifCond .ne 7, 3), (8, .iload_n 1, 1), (9, .ifCond .ne 7, 3), (12, .iconst 1, 1), (13, .goto 4, 3), (16, .iconst 0, 1), (17, .putfield 153, 3), (20, .aload_n 0, 1), (21, .dup, 1), (22, .getfield 150, 3), (25, .aload_n 0, 1), (26, .getfield 153, 3), (29, .ifCond .eq 7, 3)]
def k_126_1 : Cl := [(32, .iconst 0, 1), (33, .goto 4, 3), (36, .iconst 1, 1), (37, .iadd, 1), (38, .putfield 150, 3), (41, .return_, 1)]
def r_126 : MR := (6, yX6_must, cX6_must, 2, (Option.none : Option FieldType), [k_126_0, k_126_1])
abbrev Md_digit : Nat := 127
def k_127_0 : Cl := [(0, .aload_n 0, 1), (1, .getfield 153, 3), (4, .ifCond .eq 7, 3), (7, .iconst (-1), 1), (8, .goto 10, 3), (11, .aload_n 0, 1), (12, .invokevirtual 157, 3), (15, .bipush 48, 2), (17, .isub, 1), (18, .istore_n 3, 1), (19, .aload_n 0, 1), (20, .iload_n 3, 1), (21, .i2l, 1), (22, .iload_n 1, 1), (23, .i2l, 1), (24, .iload_n 2, 1), (25, .i2l, 1), (26, .invokestatic 71, 3), (29, .invokevirtual 160, 3)]
def k_127_1 : Cl := [(32, .iload_n 3, 1), (33, .ireturn, 1)]
def r_127 : MR := (6, yX6_digit, cX6_digit, 4, (Option.some FieldType.int), [k_127_0, k_127_1])
abbrev Md_panelsRead : Nat := 128
def k_128_0 : Cl := [(0, .iconst 0, 1), (1, .istore_n 1, 1), (2, .aload_n 0, 1), (3, .iconst (-1), 1), (4, .putfield 164, 3), (7, .aload_n 0, 1), (8, .getfield 153, 3), (11, .ifCond .ne 194, 3), (14, .iload_n 1, 1), (15, .ifCond .eq 12, 3), (18, .aload_n 0, 1), (19, .invokevirtual 157, 3), (22, .bipush 44, 2), (24, .if_icmp .ne 181, 3), (27, .iload_n 1, 1), (28, .ifCond .le 17, 3), (31, .aload_n 0, 1)]
def k_128_1 : Cl := [(32, .iload_n 1, 1), (33, .iconst 5, 1), (34, .if_icmp .ge 7, 3), (37, .iconst 1, 1), (38, .goto 4, 3), (41, .iconst 0, 1), (42, .invokevirtual 160, 3), (45, .aload_n 0, 1), (46, .getfield 153, 3), (49, .ifCond .eq 7, 3), (52, .iconst 0, 1), (53, .goto 7, 3), (56, .aload_n 0, 1), (57, .invokevirtual 157, 3), (60, .istore_n 2, 1), (61, .iload_n 2, 1), (62, .bipush 112, 2)]
def k_128_2 : Cl := [(64, .if_icmp .ne 7, 3), (67, .iconst 0, 1), (68, .goto 44, 3), (71, .iload_n 2, 1), (72, .bipush 115, 2), (74, .if_icmp .ne 7, 3), (77, .iconst 1, 1), (78, .goto 34, 3), (81, .iload_n 2, 1), (82, .bipush 114, 2), (84, .if_icmp .ne 7, 3), (87, .iconst 2, 1), (88, .goto 24, 3), (91, .iload_n 2, 1), (92, .bipush 108, 2), (94, .if_icmp .ne 7, 3)]
def k_128_3 : Cl := [(97, .iconst 3, 1), (98, .goto 14, 3), (101, .iload_n 2, 1), (102, .bipush 98, 2), (104, .if_icmp .ne 7, 3), (107, .iconst 4, 1), (108, .goto 4, 3), (111, .iconst (-1), 1), (112, .istore_n 3, 1), (113, .aload_n 0, 1), (114, .iload_n 3, 1), (115, .ifCond .lt 7, 3), (118, .iconst 1, 1), (119, .goto 4, 3), (122, .iconst 0, 1), (123, .invokevirtual 160, 3), (126, .aload_n 0, 1), (127, .iconst 1, 1)]
def k_128_4 : Cl := [(128, .iconst 3, 1), (129, .invokevirtual 167, 3), (132, .istore 4, 2), (134, .aload_n 0, 1), (135, .getfield 153, 3), (138, .ifCond .ne 33, 3), (141, .aload_n 0, 1), (142, .invokevirtual 157, 3), (145, .bipush 33, 2), (147, .if_icmp .ne 24, 3), (150, .aload_n 0, 1), (151, .aload_n 0, 1), (152, .getfield 164, 3), (155, .ifCond .ge 7, 3), (158, .iconst 1, 1), (159, .goto 4, 3)]
def k_128_5 : Cl := [(162, .iconst 0, 1), (163, .invokevirtual 160, 3), (166, .aload_n 0, 1), (167, .iload_n 1, 1), (168, .putfield 164, 3), (171, .aload_n 0, 1), (172, .getfield 153, 3), (175, .ifCond .ne 24, 3), (178, .aload_n 0, 1), (179, .getfield 16, 3), (182, .iconst 2, 1), (183, .iload_n 1, 1), (184, .imul, 1), (185, .iload_n 3, 1), (186, .iastore, 1), (187, .aload_n 0, 1), (188, .getfield 16, 3), (191, .iconst 2, 1)]
def k_128_6 : Cl := [(192, .iload_n 1, 1), (193, .imul, 1), (194, .iconst 1, 1), (195, .iadd, 1), (196, .iload 4, 2), (198, .iastore, 1), (199, .iinc 1 1, 3), (202, .goto (-195), 3), (205, .iload_n 1, 1), (206, .ireturn, 1)]
def r_128 : MR := (6, yX6_panelsRead, cX6_panelsRead, 5, (Option.some FieldType.int), [k_128_0, k_128_1, k_128_2, k_128_3, k_128_4, k_128_5, k_128_6])
abbrev Md_placesRead : Nat := 129
def k_129_0 : Cl := [(0, .aload_n 0, 1), (1, .getfield 153, 3), (4, .ifCond .eq 7, 3), (7, .iconst (-1), 1), (8, .goto 10, 3), (11, .aload_n 0, 1), (12, .invokevirtual 157, 3), (15, .bipush 48, 2), (17, .isub, 1), (18, .istore_n 2, 1), (19, .iconst 0, 1), (20, .istore_n 3, 1), (21, .aload_n 0, 1), (22, .aload_n 0, 1), (23, .getfield 153, 3), (26, .ifCond .ne 14, 3), (29, .iload_n 2, 1), (30, .i2l, 1), (31, .lconst 0, 1)]
def k_129_1 : Cl := [(32, .iload_n 1, 1), (33, .i2l, 1), (34, .invokestatic 71, 3), (37, .ifCond .ne 7, 3), (40, .iconst 1, 1), (41, .goto 4, 3), (44, .iconst 0, 1), (45, .putfield 153, 3), (48, .aload_n 0, 1), (49, .getfield 153, 3), (52, .ifCond .ne 48, 3), (55, .iload_n 2, 1), (56, .i2l, 1), (57, .lconst 0, 1), (58, .iload_n 1, 1), (59, .i2l, 1), (60, .invokestatic 71, 3), (63, .ifCond .eq 37, 3)]
def k_129_2 : Cl := [(66, .iconst 1, 1), (67, .iload_n 2, 1), (68, .ishl, 1), (69, .iload_n 3, 1), (70, .if_icmp .le 30, 3), (73, .iload_n 3, 1), (74, .iconst 1, 1), (75, .iload_n 2, 1), (76, .ishl, 1), (77, .ior, 1), (78, .istore_n 3, 1), (79, .aload_n 0, 1), (80, .dup, 1), (81, .getfield 150, 3), (84, .iconst 1, 1), (85, .iadd, 1), (86, .putfield 150, 3), (89, .aload_n 0, 1), (90, .invokevirtual 157, 3), (93, .bipush 48, 2), (95, .isub, 1)]
def k_129_3 : Cl := [(96, .istore_n 2, 1), (97, .goto (-49), 3), (100, .iload_n 3, 1), (101, .ireturn, 1)]
def r_129 : MR := (6, yX6_placesRead, cX6_placesRead, 4, (Option.some FieldType.int), [k_129_0, k_129_1, k_129_2, k_129_3])
abbrev Md_locksRead : Nat := 130
def k_130_0 : Cl := [(0, .iconst 0, 1), (1, .istore_n 2, 1), (2, .aload_n 0, 1), (3, .getfield 153, 3), (6, .ifCond .ne 246, 3), (9, .iload_n 2, 1), (10, .ifCond .eq 12, 3), (13, .aload_n 0, 1), (14, .invokevirtual 157, 3), (17, .bipush 44, 2), (19, .if_icmp .ne 233, 3), (22, .iload_n 2, 1), (23, .ifCond .le 18, 3), (26, .aload_n 0, 1), (27, .iload_n 2, 1), (28, .bipush 6, 2), (30, .if_icmp .ge 7, 3)]
def k_130_1 : Cl := [(33, .iconst 1, 1), (34, .goto 4, 3), (37, .iconst 0, 1), (38, .invokevirtual 160, 3), (41, .aload_n 0, 1), (42, .iconst 0, 1), (43, .iload_n 1, 1), (44, .iconst 1, 1), (45, .isub, 1), (46, .invokevirtual 167, 3), (49, .istore_n 3, 1), (50, .aload_n 0, 1), (51, .getfield 153, 3), (54, .ifCond .eq 7, 3), (57, .iconst 0, 1), (58, .goto 7, 3), (61, .aload_n 0, 1), (62, .invokevirtual 157, 3)]
def k_130_2 : Cl := [(65, .istore 4, 2), (67, .iload 4, 2), (69, .bipush 60, 2), (71, .if_icmp .ne 7, 3), (74, .iconst 0, 1), (75, .goto 26, 3), (78, .iload 4, 2), (80, .bipush 62, 2), (82, .if_icmp .ne 7, 3), (85, .iconst 1, 1), (86, .goto 15, 3), (89, .iload 4, 2), (91, .bipush 61, 2), (93, .if_icmp .ne 7, 3)]
def k_130_3 : Cl := [(96, .iconst 2, 1), (97, .goto 4, 3), (100, .iconst (-1), 1), (101, .istore 5, 2), (103, .aload_n 0, 1), (104, .iload 5, 2), (106, .ifCond .lt 7, 3), (109, .iconst 1, 1), (110, .goto 4, 3), (113, .iconst 0, 1), (114, .invokevirtual 160, 3), (117, .aload_n 0, 1), (118, .getfield 153, 3), (121, .ifCond .eq 7, 3), (124, .iconst (-1), 1), (125, .goto 10, 3)]
def k_130_4 : Cl := [(128, .aload_n 0, 1), (129, .invokevirtual 157, 3), (132, .bipush 48, 2), (134, .isub, 1), (135, .istore 6, 2), (137, .aload_n 0, 1), (138, .iload 6, 2), (140, .i2l, 1), (141, .lconst 0, 1), (142, .iload_n 1, 1), (143, .iconst 1, 1), (144, .isub, 1), (145, .i2l, 1), (146, .invokestatic 71, 3), (149, .ifCond .eq 13, 3), (152, .iload 6, 2), (154, .iload_n 3, 1), (155, .if_icmp .eq 7, 3), (158, .iconst 1, 1), (159, .goto 4, 3)]
def k_130_5 : Cl := [(162, .iconst 0, 1), (163, .invokevirtual 160, 3), (166, .aload_n 0, 1), (167, .aload_n 0, 1), (168, .getfield 153, 3), (171, .ifCond .eq 7, 3), (174, .iconst 0, 1), (175, .goto 14, 3), (178, .aload_n 0, 1), (179, .getfield 16, 3), (182, .iconst 2, 1), (183, .iload 6, 2), (185, .imul, 1), (186, .iconst 1, 1), (187, .iadd, 1), (188, .iaload, 1), (189, .invokevirtual 170, 3)]
def k_130_6 : Cl := [(192, .istore 7, 2), (194, .aload_n 0, 1), (195, .getfield 153, 3), (198, .ifCond .ne 48, 3), (201, .aload_n 0, 1), (202, .getfield 19, 3), (205, .iconst 4, 1), (206, .iload_n 2, 1), (207, .imul, 1), (208, .iload_n 3, 1), (209, .iastore, 1), (210, .aload_n 0, 1), (211, .getfield 19, 3), (214, .iconst 4, 1), (215, .iload_n 2, 1), (216, .imul, 1), (217, .iconst 1, 1), (218, .iadd, 1), (219, .iload 5, 2), (221, .iastore, 1), (222, .aload_n 0, 1), (223, .getfield 19, 3)]
def k_130_7 : Cl := [(226, .iconst 4, 1), (227, .iload_n 2, 1), (228, .imul, 1), (229, .iconst 2, 1), (230, .iadd, 1), (231, .iload 6, 2), (233, .iastore, 1), (234, .aload_n 0, 1), (235, .getfield 19, 3), (238, .iconst 4, 1), (239, .iload_n 2, 1), (240, .imul, 1), (241, .iconst 3, 1), (242, .iadd, 1), (243, .iload 7, 2), (245, .iastore, 1), (246, .iinc 2 1, 3), (249, .goto (-247), 3), (252, .iload_n 2, 1), (253, .ireturn, 1)]
def r_130 : MR := (6, yX6_locksRead, cX6_locksRead, 8, (Option.some FieldType.int), [k_130_0, k_130_1, k_130_2, k_130_3, k_130_4, k_130_5, k_130_6, k_130_7])
abbrev Md_box : Nat := 131
def k_131_0 : Cl := [(0, .aload_n 0, 1), (1, .iconst 0, 1), (2, .putfield 150, 3), (5, .aload_n 0, 1), (6, .iconst 0, 1), (7, .putfield 153, 3), (10, .aload_n 0, 1), (11, .invokevirtual 173, 3), (14, .istore_n 1, 1), (15, .iconst 0, 1), (16, .istore_n 2, 1), (17, .aload_n 0, 1), (18, .getfield 153, 3), (21, .ifCond .ne 28, 3), (24, .aload_n 0, 1), (25, .invokevirtual 157, 3), (28, .bipush 59, 2), (30, .if_icmp .ne 19, 3)]
def k_131_1 : Cl := [(33, .aload_n 0, 1), (34, .dup, 1), (35, .getfield 150, 3), (38, .iconst 1, 1), (39, .iadd, 1), (40, .putfield 150, 3), (43, .aload_n 0, 1), (44, .iload_n 1, 1), (45, .invokevirtual 176, 3), (48, .istore_n 2, 1), (49, .aload_n 0, 1), (50, .aload_n 0, 1), (51, .getfield 153, 3), (54, .ifCond .ne 10, 3), (57, .aload_n 0, 1), (58, .invokevirtual 157, 3), (61, .ifCond .eq 7, 3)]
def k_131_2 : Cl := [(64, .iconst 1, 1), (65, .goto 4, 3), (68, .iconst 0, 1), (69, .putfield 153, 3), (72, .aload_n 0, 1), (73, .iconst 0, 1), (74, .putfield 147, 3), (77, .aload_n 0, 1), (78, .getfield 153, 3), (81, .ifCond .eq 11, 3), (84, .bipush (-20), 2), (86, .aload_n 0, 1), (87, .getfield 150, 3), (90, .isub, 1), (91, .ireturn, 1), (92, .aload_n 0, 1), (93, .getfield 7, 3)]
def k_131_3 : Cl := [(96, .iconst 0, 1), (97, .iconst 0, 1), (98, .iastore, 1), (99, .aload_n 0, 1), (100, .getfield 7, 3), (103, .iconst 1, 1), (104, .iconst 0, 1), (105, .iastore, 1), (106, .aload_n 0, 1), (107, .getfield 7, 3), (110, .iconst 2, 1), (111, .aload_n 0, 1), (112, .getfield 164, 3), (115, .ifCond .ge 7, 3), (118, .iconst 0, 1), (119, .goto 7, 3), (122, .aload_n 0, 1), (123, .getfield 164, 3), (126, .iastore, 1), (127, .aload_n 0, 1)]
def k_131_4 : Cl := [(128, .getfield 7, 3), (131, .iconst 3, 1), (132, .iconst 0, 1), (133, .iastore, 1), (134, .aload_n 0, 1), (135, .getfield 7, 3), (138, .iconst 5, 1), (139, .iconst 0, 1), (140, .iastore, 1), (141, .iconst 0, 1), (142, .istore_n 3, 1), (143, .iload_n 3, 1), (144, .iload_n 1, 1), (145, .if_icmp .ge 31, 3), (148, .aload_n 0, 1), (149, .aload_n 0, 1), (150, .getfield 16, 3), (153, .iconst 2, 1), (154, .iload_n 3, 1), (155, .imul, 1), (156, .iaload, 1), (157, .aload_n 0, 1), (158, .getfield 16, 3)]
def k_131_5 : Cl := [(161, .iconst 2, 1), (162, .iload_n 3, 1), (163, .imul, 1), (164, .iconst 1, 1), (165, .iadd, 1), (166, .iaload, 1), (167, .invokevirtual 105, 3), (170, .iinc 3 1, 3), (173, .goto (-30), 3), (176, .iconst 0, 1), (177, .istore_n 3, 1), (178, .iload_n 3, 1), (179, .iload_n 2, 1), (180, .if_icmp .ge 51, 3), (183, .aload_n 0, 1), (184, .aload_n 0, 1), (185, .getfield 19, 3), (188, .iconst 4, 1), (189, .iload_n 3, 1), (190, .imul, 1), (191, .iaload, 1)]
def k_131_6 : Cl := [(192, .aload_n 0, 1), (193, .getfield 19, 3), (196, .iconst 4, 1), (197, .iload_n 3, 1), (198, .imul, 1), (199, .iconst 1, 1), (200, .iadd, 1), (201, .iaload, 1), (202, .aload_n 0, 1), (203, .getfield 19, 3), (206, .iconst 4, 1), (207, .iload_n 3, 1), (208, .imul, 1), (209, .iconst 2, 1), (210, .iadd, 1), (211, .iaload, 1), (212, .aload_n 0, 1), (213, .getfield 19, 3), (216, .iconst 4, 1), (217, .iload_n 3, 1), (218, .imul, 1), (219, .iconst 3, 1), (220, .iadd, 1), (221, .iaload, 1), (222, .invokevirtual 117, 3)]
def k_131_7 : Cl := [(225, .iinc 3 1, 3), (228, .goto (-50), 3), (231, .iload_n 1, 1), (232, .ireturn, 1)]
def r_131 : MR := (6, yX6_box, cX6_box, 4, (Option.some FieldType.int), [k_131_0, k_131_1, k_131_2, k_131_3, k_131_4, k_131_5, k_131_6, k_131_7])
abbrev Md_notes : Nat := 132
def k_132_0 : Cl := [(0, .aload_n 0, 1), (1, .getfield 97, 3), (4, .bipush 8, 2), (6, .if_icmp .ne 37, 3), (9, .iconst 3, 1), (10, .istore_n 1, 1), (11, .iload_n 1, 1), (12, .bipush 24, 2), (14, .if_icmp .ge 23, 3), (17, .aload_n 0, 1), (18, .getfield 22, 3), (21, .iload_n 1, 1), (22, .iconst 3, 1), (23, .isub, 1), (24, .aload_n 0, 1), (25, .getfield 22, 3), (28, .iload_n 1, 1), (29, .iaload, 1), (30, .iastore, 1), (31, .iinc 1 1, 3)]
def k_132_1 : Cl := [(34, .goto (-23), 3), (37, .aload_n 0, 1), (38, .bipush 7, 2), (40, .putfield 97, 3), (43, .aload_n 0, 1), (44, .getfield 22, 3), (47, .iconst 3, 1), (48, .aload_n 0, 1), (49, .getfield 97, 3), (52, .imul, 1), (53, .aload_n 0, 1), (54, .getfield 7, 3), (57, .iconst 5, 1), (58, .iaload, 1), (59, .iastore, 1), (60, .aload_n 0, 1), (61, .getfield 22, 3)]
def k_132_2 : Cl := [(64, .iconst 3, 1), (65, .aload_n 0, 1), (66, .getfield 97, 3), (69, .imul, 1), (70, .iconst 1, 1), (71, .iadd, 1), (72, .aload_n 0, 1), (73, .getfield 7, 3), (76, .iconst 3, 1), (77, .iaload, 1), (78, .iastore, 1), (79, .aload_n 0, 1), (80, .getfield 22, 3), (83, .iconst 3, 1), (84, .aload_n 0, 1), (85, .getfield 97, 3), (88, .imul, 1), (89, .iconst 2, 1), (90, .iadd, 1), (91, .aload_n 0, 1), (92, .getfield 7, 3), (95, .iconst 4, 1)]
def k_132_3 : Cl := [(96, .iaload, 1), (97, .iastore, 1), (98, .aload_n 0, 1), (99, .dup, 1), (100, .getfield 97, 3), (103, .iconst 1, 1), (104, .iadd, 1), (105, .putfield 97, 3), (108, .return_, 1)]
def r_132 : MR := (6, yX6_notes, cX6_notes, 2, (Option.none : Option FieldType), [k_132_0, k_132_1, k_132_2, k_132_3])
abbrev Md_slide : Nat := 133
def k_133_0 : Cl := [(0, .aload_n 0, 1), (1, .iload_n 1, 1), (2, .invokevirtual 109, 3), (5, .ifCond .eq 13, 3), (8, .iload_n 2, 1), (9, .i2l, 1), (10, .lconst 0, 1), (11, .lconst 1, 1), (12, .invokestatic 71, 3), (15, .ifCond .ne 5, 3), (18, .iconst (-1), 1), (19, .ireturn, 1), (20, .aload_n 0, 1), (21, .iload_n 1, 1), (22, .iload_n 2, 1), (23, .invokevirtual 125, 3), (26, .ifCond .ne 6, 3), (29, .bipush (-2), 2), (31, .ireturn, 1)]
def k_133_1 : Cl := [(32, .aload_n 0, 1), (33, .invokevirtual 179, 3), (36, .aload_n 0, 1), (37, .getfield 7, 3), (40, .iconst 5, 1), (41, .aload_n 0, 1), (42, .aload_n 0, 1), (43, .getfield 7, 3), (46, .iconst 5, 1), (47, .iaload, 1), (48, .iload_n 1, 1), (49, .iload_n 2, 1), (50, .invokevirtual 182, 3), (53, .iastore, 1), (54, .aload_n 0, 1), (55, .getfield 7, 3), (58, .iconst 5, 1), (59, .iaload, 1), (60, .ireturn, 1)]
def r_133 : MR := (6, yX6_slide, cX6_slide, 3, (Option.some FieldType.int), [k_133_0, k_133_1])
abbrev Md_shut : Nat := 134
def k_134_0 : Cl := [(0, .aload_n 0, 1), (1, .invokevirtual 136, 3), (4, .invokestatic 186, 3), (7, .istore_n 1, 1), (8, .iload_n 1, 1), (9, .ifCond .ne 6, 3), (12, .bipush (-2), 2), (14, .ireturn, 1), (15, .aload_n 0, 1), (16, .invokevirtual 179, 3), (19, .aload_n 0, 1), (20, .getfield 7, 3), (23, .iconst 5, 1), (24, .iconst 0, 1), (25, .iastore, 1), (26, .iload_n 1, 1), (27, .ireturn, 1)]
def r_134 : MR := (6, yX6_shut, cX6_shut, 2, (Option.some FieldType.int), [k_134_0])
abbrev Md_file : Nat := 135
def k_135_0 : Cl := [(0, .aload_n 0, 1), (1, .iload_n 1, 1), (2, .invokevirtual 128, 3), (5, .ifCond .ne 5, 3), (8, .iconst (-1), 1), (9, .ireturn, 1), (10, .aload_n 0, 1), (11, .getfield 7, 3), (14, .iconst 3, 1), (15, .iaload, 1), (16, .iload_n 1, 1), (17, .ishr, 1), (18, .iconst 1, 1), (19, .iand, 1), (20, .iconst 1, 1), (21, .if_icmp .ne 6, 3), (24, .bipush (-2), 2), (26, .ireturn, 1), (27, .aload_n 0, 1), (28, .invokevirtual 179, 3), (31, .aload_n 0, 1)]
def k_135_1 : Cl := [(32, .getfield 7, 3), (35, .iconst 3, 1), (36, .dup2, 1), (37, .iaload, 1), (38, .iconst 1, 1), (39, .iload_n 1, 1), (40, .ishl, 1), (41, .ior, 1), (42, .iastore, 1), (43, .aload_n 0, 1), (44, .getfield 7, 3), (47, .iconst 3, 1), (48, .iaload, 1), (49, .ireturn, 1)]
def r_135 : MR := (6, yX6_file, cX6_file, 2, (Option.some FieldType.int), [k_135_0, k_135_1])
abbrev Md_drift : Nat := 136
def k_136_0 : Cl := [(0, .iload_n 1, 1), (1, .i2l, 1), (2, .lconst 1, 1), (3, .ldc2_w 189, 3), (6, .invokestatic 71, 3), (9, .ifCond .ne 5, 3), (12, .iconst (-1), 1), (13, .ireturn, 1), (14, .iconst 0, 1), (15, .istore_n 2, 1), (16, .iload_n 2, 1), (17, .iload_n 1, 1), (18, .if_icmp .ge 118, 3), (21, .aload_n 0, 1), (22, .invokevirtual 179, 3), (25, .aload_n 0, 1), (26, .getfield 7, 3), (29, .iconst 4, 1), (30, .aload_n 0, 1), (31, .getfield 7, 3)]
def k_136_1 : Cl := [(34, .iconst 4, 1), (35, .iaload, 1), (36, .i2l, 1), (37, .ldc2_w 191, 3), (40, .lmul, 1), (41, .ldc2_w 193, 3), (44, .ladd, 1), (45, .ldc2_w 195, 3), (48, .land, 1), (49, .l2i, 1), (50, .iastore, 1), (51, .aload_n 0, 1), (52, .getfield 7, 3), (55, .iconst 0, 1), (56, .iaload, 1), (57, .ifCond .le 73, 3), (60, .aload_n 0, 1), (61, .getfield 7, 3)]
def k_136_2 : Cl := [(64, .iconst 4, 1), (65, .iaload, 1), (66, .ldc 197, 2), (68, .idiv, 1), (69, .aload_n 0, 1), (70, .getfield 7, 3), (73, .iconst 0, 1), (74, .iaload, 1), (75, .irem, 1), (76, .istore_n 3, 1), (77, .aload_n 0, 1), (78, .getfield 7, 3), (81, .iconst 4, 1), (82, .iaload, 1), (83, .sipush 128, 3), (86, .idiv, 1), (87, .iconst 2, 1), (88, .irem, 1), (89, .istore 4, 2), (91, .aload_n 0, 1), (92, .getfield 7, 3), (95, .iconst 5, 1)]
def k_136_3 : Cl := [(96, .aload_n 0, 1), (97, .iload_n 3, 1), (98, .iload 4, 2), (100, .invokevirtual 125, 3), (103, .iconst 1, 1), (104, .if_icmp .ne 19, 3), (107, .aload_n 0, 1), (108, .aload_n 0, 1), (109, .getfield 7, 3), (112, .iconst 5, 1), (113, .iaload, 1), (114, .iload_n 3, 1), (115, .iload 4, 2), (117, .invokevirtual 182, 3), (120, .goto 9, 3), (123, .aload_n 0, 1), (124, .getfield 7, 3), (127, .iconst 5, 1)]
def k_136_4 : Cl := [(128, .iaload, 1), (129, .iastore, 1), (130, .iinc 2 1, 3), (133, .goto (-117), 3), (136, .aload_n 0, 1), (137, .getfield 7, 3), (140, .iconst 5, 1), (141, .iaload, 1), (142, .ireturn, 1)]
def r_136 : MR := (6, yX6_drift, cX6_drift, 5, (Option.some FieldType.int), [k_136_0, k_136_1, k_136_2, k_136_3, k_136_4])
abbrev Md_undo : Nat := 137
def k_137_0 : Cl := [(0, .aload_n 0, 1), (1, .getfield 97, 3), (4, .ifCond .ne 6, 3), (7, .bipush (-4), 2), (9, .ireturn, 1), (10, .aload_n 0, 1), (11, .dup, 1), (12, .getfield 97, 3), (15, .iconst 1, 1), (16, .isub, 1), (17, .putfield 97, 3), (20, .aload_n 0, 1), (21, .getfield 7, 3), (24, .iconst 5, 1), (25, .aload_n 0, 1), (26, .getfield 22, 3), (29, .iconst 3, 1), (30, .aload_n 0, 1), (31, .getfield 97, 3)]
def k_137_1 : Cl := [(34, .imul, 1), (35, .iaload, 1), (36, .iastore, 1), (37, .aload_n 0, 1), (38, .getfield 7, 3), (41, .iconst 3, 1), (42, .aload_n 0, 1), (43, .getfield 22, 3), (46, .iconst 3, 1), (47, .aload_n 0, 1), (48, .getfield 97, 3), (51, .imul, 1), (52, .iconst 1, 1), (53, .iadd, 1), (54, .iaload, 1), (55, .iastore, 1), (56, .aload_n 0, 1), (57, .getfield 7, 3), (60, .iconst 4, 1), (61, .aload_n 0, 1), (62, .getfield 22, 3)]
def k_137_2 : Cl := [(65, .iconst 3, 1), (66, .aload_n 0, 1), (67, .getfield 97, 3), (70, .imul, 1), (71, .iconst 2, 1), (72, .iadd, 1), (73, .iaload, 1), (74, .iastore, 1), (75, .aload_n 0, 1), (76, .getfield 97, 3), (79, .ireturn, 1)]
def r_137 : MR := (6, yX6_undo, cX6_undo, 1, (Option.some FieldType.int), [k_137_0, k_137_1, k_137_2])
abbrev Md_seed : Nat := 138
def k_138_0 : Cl := [(0, .iload_n 1, 1), (1, .ifCond .ge 5, 3), (4, .iconst (-1), 1), (5, .ireturn, 1), (6, .aload_n 0, 1), (7, .getfield 7, 3), (10, .iconst 4, 1), (11, .iaload, 1), (12, .istore_n 2, 1), (13, .aload_n 0, 1), (14, .getfield 7, 3), (17, .iconst 4, 1), (18, .iload_n 1, 1), (19, .iastore, 1), (20, .iload_n 2, 1), (21, .ireturn, 1)]
def r_138 : MR := (6, yX6_seed, cX6_seed, 3, (Option.some FieldType.int), [k_138_0])
abbrev Md_meets : Nat := 139
def k_139_0 : Cl := [(0, .aload_n 0, 1), (1, .getfield 28, 3), (4, .iload_n 3, 1), (5, .iaload, 1), (6, .ifCond .ge 51, 3), (9, .aload_n 0, 1), (10, .getfield 28, 3), (13, .iload_n 3, 1), (14, .aload_n 0, 1), (15, .getfield 28, 3), (18, .iload_n 1, 1), (19, .iaload, 1), (20, .iconst 1, 1), (21, .iadd, 1), (22, .iastore, 1), (23, .aload_n 0, 1), (24, .getfield 31, 3), (27, .iload_n 3, 1), (28, .iload_n 1, 1), (29, .iastore, 1), (30, .aload_n 0, 1), (31, .getfield 34, 3)]
def k_139_1 : Cl := [(34, .iload_n 3, 1), (35, .iload_n 2, 1), (36, .iastore, 1), (37, .aload_n 0, 1), (38, .getfield 25, 3), (41, .aload_n 0, 1), (42, .getfield 198, 3), (45, .iload_n 3, 1), (46, .iastore, 1), (47, .aload_n 0, 1), (48, .dup, 1), (49, .getfield 198, 3), (52, .iconst 1, 1), (53, .iadd, 1), (54, .putfield 198, 3), (57, .aload_n 0, 1), (58, .getfield 28, 3), (61, .iload_n 3, 1), (62, .iaload, 1), (63, .aload_n 0, 1)]
def k_139_2 : Cl := [(64, .getfield 28, 3), (67, .iload_n 1, 1), (68, .iaload, 1), (69, .iconst 1, 1), (70, .iadd, 1), (71, .if_icmp .ne 25, 3), (74, .aload_n 0, 1), (75, .getfield 37, 3), (78, .iload_n 3, 1), (79, .aload_n 0, 1), (80, .getfield 37, 3), (83, .iload_n 3, 1), (84, .iaload, 1), (85, .aload_n 0, 1), (86, .getfield 37, 3), (89, .iload_n 1, 1), (90, .iaload, 1), (91, .iadd, 1), (92, .ldc 201, 2), (94, .irem, 1), (95, .iastore, 1)]
def k_139_3 : Cl := [(96, .return_, 1)]
def r_139 : MR := (6, yX6_meets, cX6_meets, 4, (Option.none : Option FieldType), [k_139_0, k_139_1, k_139_2, k_139_3])
abbrev Md_goesThrough : Nat := 140
def k_140_0 : Cl := [(0, .iconst 0, 1), (1, .istore_n 2, 1), (2, .iload_n 2, 1), (3, .sipush 1024, 3), (6, .if_icmp .ge 23, 3), (9, .aload_n 0, 1), (10, .getfield 28, 3), (13, .iload_n 2, 1), (14, .iconst (-1), 1), (15, .iastore, 1), (16, .aload_n 0, 1), (17, .getfield 37, 3), (20, .iload_n 2, 1), (21, .iconst 0, 1), (22, .iastore, 1), (23, .iinc 2 1, 3), (26, .goto (-24), 3), (29, .aload_n 0, 1), (30, .getfield 7, 3)]
def k_140_1 : Cl := [(33, .iconst 5, 1), (34, .iaload, 1), (35, .istore_n 2, 1), (36, .aload_n 0, 1), (37, .getfield 28, 3), (40, .iload_n 2, 1), (41, .iconst 0, 1), (42, .iastore, 1), (43, .aload_n 0, 1), (44, .getfield 37, 3), (47, .iload_n 2, 1), (48, .iconst 1, 1), (49, .iastore, 1), (50, .aload_n 0, 1), (51, .getfield 25, 3), (54, .iconst 0, 1), (55, .iload_n 2, 1), (56, .iastore, 1), (57, .aload_n 0, 1), (58, .iconst 1, 1), (59, .putfield 198, 3), (62, .iconst 0, 1), (63, .istore_n 3, 1)]
def k_140_2 : Cl := [(64, .iload_n 3, 1), (65, .aload_n 0, 1), (66, .getfield 198, 3), (69, .if_icmp .ge 118, 3), (72, .aload_n 0, 1), (73, .getfield 25, 3), (76, .iload_n 3, 1), (77, .iaload, 1), (78, .istore 4, 2), (80, .iconst 0, 1), (81, .istore 5, 2), (83, .iload 5, 2), (85, .iconst 2, 1), (86, .aload_n 0, 1), (87, .getfield 7, 3), (90, .iconst 0, 1), (91, .iaload, 1), (92, .imul, 1), (93, .if_icmp .ge 88, 3)]
def k_140_3 : Cl := [(96, .aload_n 0, 1), (97, .iload 4, 2), (99, .iload 5, 2), (101, .iconst 2, 1), (102, .idiv, 1), (103, .iload 5, 2), (105, .iconst 2, 1), (106, .irem, 1), (107, .iload_n 1, 1), (108, .invokevirtual 121, 3), (111, .istore 6, 2), (113, .aload_n 0, 1), (114, .getfield 40, 3), (117, .bipush 10, 2), (119, .iload 4, 2), (121, .imul, 1), (122, .iload 5, 2), (124, .iadd, 1), (125, .iload 6, 2), (127, .ifCond .eq 20, 3)]
def k_140_4 : Cl := [(130, .aload_n 0, 1), (131, .iload 4, 2), (133, .iload 5, 2), (135, .iconst 2, 1), (136, .idiv, 1), (137, .iload 5, 2), (139, .iconst 2, 1), (140, .irem, 1), (141, .invokevirtual 182, 3), (144, .goto 4, 3), (147, .iconst (-1), 1), (148, .iastore, 1), (149, .iload 6, 2), (151, .ifCond .eq 24, 3), (154, .aload_n 0, 1), (155, .iload 4, 2), (157, .iload 5, 2), (159, .aload_n 0, 1)]
def k_140_5 : Cl := [(160, .getfield 40, 3), (163, .bipush 10, 2), (165, .iload 4, 2), (167, .imul, 1), (168, .iload 5, 2), (170, .iadd, 1), (171, .iaload, 1), (172, .invokevirtual 202, 3), (175, .iinc 5 1, 3), (178, .goto (-95), 3), (181, .iinc 3 1, 3), (184, .goto (-120), 3), (187, .return_, 1)]
def r_140 : MR := (6, yX6_goesThrough, cX6_goesThrough, 7, (Option.none : Option FieldType), [k_140_0, k_140_1, k_140_2, k_140_3, k_140_4, k_140_5])
abbrev Md_firstOpen : Nat := 141
def k_141_0 : Cl := [(0, .iconst 0, 1), (1, .istore_n 1, 1), (2, .iload_n 1, 1), (3, .aload_n 0, 1), (4, .getfield 198, 3), (7, .if_icmp .ge 22, 3), (10, .aload_n 0, 1), (11, .aload_n 0, 1), (12, .getfield 25, 3), (15, .iload_n 1, 1), (16, .iaload, 1), (17, .invokevirtual 133, 3), (20, .ifCond .ne 9, 3), (23, .iinc 1 1, 3), (26, .goto (-24), 3), (29, .iload_n 1, 1), (30, .aload_n 0, 1), (31, .getfield 198, 3)]
def k_141_1 : Cl := [(34, .if_icmp .ge 12, 3), (37, .aload_n 0, 1), (38, .getfield 25, 3), (41, .iload_n 1, 1), (42, .iaload, 1), (43, .goto 4, 3), (46, .iconst (-1), 1), (47, .ireturn, 1)]
def r_141 : MR := (6, yX6_firstOpen, cX6_firstOpen, 2, (Option.some FieldType.int), [k_141_0, k_141_1])
abbrev Md_wayTo : Nat := 142
def k_142_0 : Cl := [(0, .iload_n 1, 1), (1, .ifCond .ge 6, 3), (4, .bipush (-4), 2), (6, .ireturn, 1), (7, .iload_n 2, 1), (8, .ifCond .ge 10, 3), (11, .aload_n 0, 1), (12, .getfield 28, 3), (15, .iload_n 1, 1), (16, .iaload, 1), (17, .ireturn, 1), (18, .iload_n 2, 1), (19, .aload_n 0, 1), (20, .getfield 28, 3), (23, .iload_n 1, 1), (24, .iaload, 1), (25, .if_icmp .lt 6, 3), (28, .bipush (-4), 2), (30, .ireturn, 1), (31, .iload_n 1, 1)]
def k_142_1 : Cl := [(32, .istore_n 3, 1), (33, .aload_n 0, 1), (34, .getfield 28, 3), (37, .iload_n 3, 1), (38, .iaload, 1), (39, .iload_n 2, 1), (40, .iconst 1, 1), (41, .iadd, 1), (42, .if_icmp .le 13, 3), (45, .aload_n 0, 1), (46, .getfield 31, 3), (49, .iload_n 3, 1), (50, .iaload, 1), (51, .istore_n 3, 1), (52, .goto (-19), 3), (55, .bipush 10, 2), (57, .aload_n 0, 1), (58, .getfield 34, 3), (61, .iload_n 3, 1), (62, .iaload, 1), (63, .iconst 2, 1)]
def k_142_2 : Cl := [(64, .idiv, 1), (65, .imul, 1), (66, .aload_n 0, 1), (67, .getfield 34, 3), (70, .iload_n 3, 1), (71, .iaload, 1), (72, .iconst 2, 1), (73, .irem, 1), (74, .iadd, 1), (75, .ireturn, 1)]
def r_142 : MR := (6, yX6_wayTo, cX6_wayTo, 4, (Option.some FieldType.int), [k_142_0, k_142_1, k_142_2])
abbrev Md_opens : Nat := 143
def k_143_0 : Cl := [(0, .iload_n 1, 1), (1, .iconst (-1), 1), (2, .if_icmp .ge 5, 3), (5, .iconst (-1), 1), (6, .ireturn, 1), (7, .aload_n 0, 1), (8, .getfield 7, 3), (11, .iconst 0, 1), (12, .iaload, 1), (13, .ifCond .ne 6, 3), (16, .bipush (-4), 2), (18, .ireturn, 1), (19, .aload_n 0, 1), (20, .aload_n 0, 1), (21, .getfield 7, 3), (24, .iconst 3, 1), (25, .iaload, 1), (26, .invokevirtual 206, 3), (29, .aload_n 0, 1), (30, .aload_n 0, 1), (31, .invokevirtual 210, 3)]
def k_143_1 : Cl := [(34, .iload_n 1, 1), (35, .invokevirtual 213, 3), (38, .ireturn, 1)]
def r_143 : MR := (6, yX6_opens, cX6_opens, 2, (Option.some FieldType.int), [k_143_0, k_143_1])
abbrev Md_rows : Nat := 144
def k_144_0 : Cl := [(0, .aload_n 0, 1), (1, .getfield 7, 3), (4, .iconst 0, 1), (5, .iaload, 1), (6, .ifCond .ne 5, 3), (9, .iconst 0, 1), (10, .ireturn, 1), (11, .aload_n 0, 1), (12, .aload_n 0, 1), (13, .getfield 7, 3), (16, .iconst 3, 1), (17, .iaload, 1), (18, .invokevirtual 206, 3), (21, .aload_n 0, 1), (22, .invokevirtual 210, 3), (25, .istore_n 1, 1), (26, .iconst 0, 1), (27, .istore_n 2, 1), (28, .iconst 0, 1), (29, .istore_n 3, 1), (30, .iload_n 3, 1), (31, .aload_n 0, 1)]
def k_144_1 : Cl := [(32, .getfield 198, 3), (35, .if_icmp .ge 67, 3), (38, .iload_n 1, 1), (39, .ifCond .lt 63, 3), (42, .aload_n 0, 1), (43, .aload_n 0, 1), (44, .getfield 25, 3), (47, .iload_n 3, 1), (48, .iaload, 1), (49, .invokevirtual 133, 3), (52, .ifCond .eq 42, 3), (55, .aload_n 0, 1), (56, .getfield 28, 3), (59, .aload_n 0, 1), (60, .getfield 25, 3), (63, .iload_n 3, 1)]
def k_144_2 : Cl := [(64, .iaload, 1), (65, .iaload, 1), (66, .aload_n 0, 1), (67, .getfield 28, 3), (70, .iload_n 1, 1), (71, .iaload, 1), (72, .if_icmp .ne 22, 3), (75, .iload_n 2, 1), (76, .aload_n 0, 1), (77, .getfield 37, 3), (80, .aload_n 0, 1), (81, .getfield 25, 3), (84, .iload_n 3, 1), (85, .iaload, 1), (86, .iaload, 1), (87, .iadd, 1), (88, .ldc 201, 2), (90, .irem, 1), (91, .goto 4, 3), (94, .iload_n 2, 1), (95, .istore_n 2, 1)]
def k_144_3 : Cl := [(96, .iinc 3 1, 3), (99, .goto (-69), 3), (102, .iload_n 2, 1), (103, .ireturn, 1)]
def r_144 : MR := (6, yX6_rows, cX6_rows, 4, (Option.some FieldType.int), [k_144_0, k_144_1, k_144_2, k_144_3])
abbrev Md_leadsToKnown : Nat := 145
def k_145_0 : Cl := [(0, .iconst 0, 1), (1, .istore_n 2, 1), (2, .iconst 0, 1), (3, .istore_n 3, 1), (4, .iload_n 3, 1), (5, .iconst 2, 1), (6, .aload_n 0, 1), (7, .getfield 7, 3), (10, .iconst 0, 1), (11, .iaload, 1), (12, .imul, 1), (13, .if_icmp .ge 48, 3), (16, .aload_n 0, 1), (17, .getfield 40, 3), (20, .bipush 10, 2), (22, .iload_n 1, 1), (23, .imul, 1), (24, .iload_n 3, 1), (25, .iadd, 1), (26, .iaload, 1), (27, .istore 4, 2), (29, .iload_n 2, 1), (30, .ifCond .ne 19, 3)]
def k_145_1 : Cl := [(33, .iload 4, 2), (35, .ifCond .lt 18, 3), (38, .aload_n 0, 1), (39, .getfield 43, 3), (42, .iload 4, 2), (44, .iaload, 1), (45, .iconst 1, 1), (46, .if_icmp .ne 7, 3), (49, .iconst 1, 1), (50, .goto 4, 3), (53, .iconst 0, 1), (54, .istore_n 2, 1), (55, .iinc 3 1, 3), (58, .goto (-54), 3), (61, .iload_n 2, 1), (62, .ireturn, 1)]
def r_145 : MR := (6, yX6_leadsToKnown, cX6_leadsToKnown, 5, (Option.some FieldType.boolean), [k_145_0, k_145_1])
abbrev Md_dead : Nat := 146
def k_146_0 : Cl := [(0, .iconst 0, 1), (1, .istore_n 1, 1), (2, .iload_n 1, 1), (3, .aload_n 0, 1), (4, .getfield 198, 3), (7, .if_icmp .ge 38, 3), (10, .aload_n 0, 1), (11, .getfield 43, 3), (14, .aload_n 0, 1), (15, .getfield 25, 3), (18, .iload_n 1, 1), (19, .iaload, 1), (20, .aload_n 0, 1), (21, .aload_n 0, 1), (22, .getfield 25, 3), (25, .iload_n 1, 1), (26, .iaload, 1), (27, .invokevirtual 133, 3), (30, .ifCond .eq 7, 3)]
def k_146_1 : Cl := [(33, .iconst 1, 1), (34, .goto 4, 3), (37, .iconst 0, 1), (38, .iastore, 1), (39, .iinc 1 1, 3), (42, .goto (-40), 3), (45, .iconst 1, 1), (46, .istore_n 1, 1), (47, .iload_n 1, 1), (48, .ifCond .eq 65, 3), (51, .iconst 0, 1), (52, .istore_n 1, 1), (53, .iconst 0, 1), (54, .istore_n 2, 1), (55, .iload_n 2, 1), (56, .aload_n 0, 1), (57, .getfield 198, 3), (60, .if_icmp .ge 50, 3), (63, .aload_n 0, 1)]
def k_146_2 : Cl := [(64, .getfield 43, 3), (67, .aload_n 0, 1), (68, .getfield 25, 3), (71, .iload_n 2, 1), (72, .iaload, 1), (73, .iaload, 1), (74, .ifCond .ne 30, 3), (77, .aload_n 0, 1), (78, .aload_n 0, 1), (79, .getfield 25, 3), (82, .iload_n 2, 1), (83, .iaload, 1), (84, .invokevirtual 216, 3), (87, .ifCond .eq 17, 3), (90, .aload_n 0, 1), (91, .getfield 43, 3), (94, .aload_n 0, 1), (95, .getfield 25, 3)]
def k_146_3 : Cl := [(98, .iload_n 2, 1), (99, .iaload, 1), (100, .iconst 1, 1), (101, .iastore, 1), (102, .iconst 1, 1), (103, .istore_n 1, 1), (104, .iinc 2 1, 3), (107, .goto (-52), 3), (110, .goto (-63), 3), (113, .iconst 0, 1), (114, .istore_n 2, 1), (115, .iconst 0, 1), (116, .istore_n 3, 1), (117, .iload_n 3, 1), (118, .aload_n 0, 1), (119, .getfield 198, 3), (122, .if_icmp .ge 25, 3), (125, .iload_n 2, 1), (126, .iconst 1, 1), (127, .aload_n 0, 1)]
def k_146_4 : Cl := [(128, .getfield 43, 3), (131, .aload_n 0, 1), (132, .getfield 25, 3), (135, .iload_n 3, 1), (136, .iaload, 1), (137, .iaload, 1), (138, .isub, 1), (139, .iadd, 1), (140, .istore_n 2, 1), (141, .iinc 3 1, 3), (144, .goto (-27), 3), (147, .iload_n 2, 1), (148, .ireturn, 1)]
def r_146 : MR := (6, yX6_dead, cX6_dead, 4, (Option.some FieldType.int), [k_146_0, k_146_1, k_146_2, k_146_3, k_146_4])
abbrev Md_reach : Nat := 147
def k_147_0 : Cl := [(0, .iload_n 1, 1), (1, .i2l, 1), (2, .lconst 0, 1), (3, .ldc2_w 113, 3), (6, .invokestatic 71, 3), (9, .ifCond .ne 5, 3), (12, .iconst (-1), 1), (13, .ireturn, 1), (14, .aload_n 0, 1), (15, .aload_n 0, 1), (16, .getfield 7, 3), (19, .iconst 3, 1), (20, .iaload, 1), (21, .invokevirtual 206, 3), (24, .iload_n 1, 1), (25, .ifCond .ne 10, 3), (28, .aload_n 0, 1), (29, .getfield 198, 3)]
def k_147_1 : Cl := [(32, .goto 31, 3), (35, .iload_n 1, 1), (36, .iconst 1, 1), (37, .if_icmp .ne 22, 3), (40, .aload_n 0, 1), (41, .getfield 28, 3), (44, .aload_n 0, 1), (45, .getfield 25, 3), (48, .aload_n 0, 1), (49, .getfield 198, 3), (52, .iconst 1, 1), (53, .isub, 1), (54, .iaload, 1), (55, .iaload, 1), (56, .goto 7, 3), (59, .aload_n 0, 1), (60, .invokevirtual 219, 3), (63, .ireturn, 1)]
def r_147 : MR := (6, yX6_reach, cX6_reach, 2, (Option.some FieldType.int), [k_147_0, k_147_1])
abbrev Md_key : Nat := 148
def k_148_0 : Cl := [(0, .iload_n 1, 1), (1, .i2l, 1), (2, .lconst 0, 1), (3, .lconst 1, 1), (4, .invokestatic 71, 3), (7, .ifCond .ne 5, 3), (10, .iconst (-1), 1), (11, .ireturn, 1), (12, .bipush (-4), 2), (14, .istore_n 2, 1), (15, .sipush 9999, 3), (18, .istore_n 3, 1), (19, .iconst 0, 1), (20, .istore 4, 2), (22, .iload 4, 2), (24, .aload_n 0, 1), (25, .getfield 7, 3), (28, .iconst 1, 1), (29, .iaload, 1), (30, .if_icmp .ge 96, 3)]
def k_148_1 : Cl := [(33, .aload_n 0, 1), (34, .getfield 7, 3), (37, .iconst 3, 1), (38, .iaload, 1), (39, .iload 4, 2), (41, .ishr, 1), (42, .iconst 1, 1), (43, .iand, 1), (44, .ifCond .ne 76, 3), (47, .aload_n 0, 1), (48, .aload_n 0, 1), (49, .getfield 7, 3), (52, .iconst 3, 1), (53, .iaload, 1), (54, .iconst 1, 1), (55, .iload 4, 2), (57, .ishl, 1), (58, .ior, 1), (59, .invokevirtual 206, 3), (62, .aload_n 0, 1), (63, .invokevirtual 210, 3)]
def k_148_2 : Cl := [(66, .istore 5, 2), (68, .iload 5, 2), (70, .ifCond .lt 18, 3), (73, .aload_n 0, 1), (74, .getfield 28, 3), (77, .iload 5, 2), (79, .iaload, 1), (80, .iload_n 3, 1), (81, .if_icmp .ge 7, 3), (84, .iconst 1, 1), (85, .goto 4, 3), (88, .iconst 0, 1), (89, .istore 6, 2), (91, .iload 6, 2), (93, .ifCond .eq 8, 3)]
def k_148_3 : Cl := [(96, .iload 4, 2), (98, .goto 4, 3), (101, .iload_n 2, 1), (102, .istore_n 2, 1), (103, .iload 6, 2), (105, .ifCond .eq 13, 3), (108, .aload_n 0, 1), (109, .getfield 28, 3), (112, .iload 5, 2), (114, .iaload, 1), (115, .goto 4, 3), (118, .iload_n 3, 1), (119, .istore_n 3, 1), (120, .iinc 4 1, 3), (123, .goto (-101), 3), (126, .iload_n 1, 1), (127, .ifCond .eq 9, 3)]
def k_148_4 : Cl := [(130, .iload_n 2, 1), (131, .bipush (-4), 2), (133, .if_icmp .ne 7, 3), (136, .iload_n 2, 1), (137, .goto 4, 3), (140, .iload_n 3, 1), (141, .ireturn, 1)]
def r_148 : MR := (6, yX6_key, cX6_key, 7, (Option.some FieldType.int), [k_148_0, k_148_1, k_148_2, k_148_3, k_148_4])
abbrev Md_files : Nat := 149
def k_149_0 : Cl := [(0, .iload_n 1, 1), (1, .i2l, 1), (2, .lconst 0, 1), (3, .ldc2_w 222, 3), (6, .invokestatic 71, 3), (9, .ifCond .eq 13, 3), (12, .iload_n 2, 1), (13, .i2l, 1), (14, .lconst 0, 1), (15, .lconst 1, 1), (16, .invokestatic 71, 3), (19, .ifCond .ne 5, 3), (22, .iconst (-1), 1), (23, .ireturn, 1), (24, .bipush (-4), 2), (26, .istore_n 3, 1), (27, .iconst 0, 1), (28, .istore 4, 2), (30, .iload 4, 2)]
def k_149_1 : Cl := [(32, .iconst 1, 1), (33, .aload_n 0, 1), (34, .getfield 7, 3), (37, .iconst 1, 1), (38, .iaload, 1), (39, .ishl, 1), (40, .if_icmp .ge 90, 3), (43, .aload_n 0, 1), (44, .getfield 7, 3), (47, .iconst 0, 1), (48, .iaload, 1), (49, .ifCond .le 81, 3), (52, .iload 4, 2), (54, .aload_n 0, 1), (55, .getfield 7, 3), (58, .iconst 3, 1), (59, .iaload, 1), (60, .iand, 1), (61, .ifCond .ne 63, 3)]
def k_149_2 : Cl := [(64, .iload_n 3, 1), (65, .bipush (-4), 2), (67, .if_icmp .eq 15, 3), (70, .iload 4, 2), (72, .invokestatic 186, 3), (75, .iload_n 3, 1), (76, .invokestatic 186, 3), (79, .if_icmp .ge 45, 3), (82, .aload_n 0, 1), (83, .aload_n 0, 1), (84, .getfield 7, 3), (87, .iconst 3, 1), (88, .iaload, 1), (89, .iload 4, 2), (91, .ior, 1), (92, .invokevirtual 206, 3), (95, .aload_n 0, 1)]
def k_149_3 : Cl := [(96, .invokevirtual 210, 3), (99, .istore 5, 2), (101, .iload 5, 2), (103, .ifCond .lt 19, 3), (106, .aload_n 0, 1), (107, .getfield 28, 3), (110, .iload 5, 2), (112, .iaload, 1), (113, .iload_n 1, 1), (114, .if_icmp .gt 8, 3), (117, .iload 4, 2), (119, .goto 4, 3), (122, .iload_n 3, 1), (123, .istore_n 3, 1), (124, .iinc 4 1, 3), (127, .goto (-97), 3)]
def k_149_4 : Cl := [(130, .iload_n 2, 1), (131, .iconst 1, 1), (132, .if_icmp .eq 9, 3), (135, .iload_n 3, 1), (136, .bipush (-4), 2), (138, .if_icmp .ne 7, 3), (141, .iload_n 3, 1), (142, .goto 7, 3), (145, .iload_n 3, 1), (146, .invokestatic 186, 3), (149, .ireturn, 1)]
def r_149 : MR := (6, yX6_files, cX6_files, 6, (Option.some FieldType.int), [k_149_0, k_149_1, k_149_2, k_149_3, k_149_4])
abbrev Md_slideTo : Nat := 150
def k_150_0 : Cl := [(0, .bipush (-4), 2), (2, .istore 4, 2), (4, .iconst 2, 1), (5, .aload_n 0, 1), (6, .getfield 7, 3), (9, .iconst 0, 1), (10, .iaload, 1), (11, .imul, 1), (12, .iconst 1, 1), (13, .isub, 1), (14, .istore 5, 2), (16, .iload 5, 2), (18, .ifCond .lt 63, 3), (21, .aload_n 0, 1), (22, .getfield 40, 3), (25, .bipush 10, 2), (27, .iload_n 1, 1), (28, .imul, 1), (29, .iload 5, 2), (31, .iadd, 1)]
def k_150_1 : Cl := [(32, .iaload, 1), (33, .istore 6, 2), (35, .iload 6, 2), (37, .ifCond .lt 34, 3), (40, .aload_n 0, 1), (41, .getfield 43, 3), (44, .iload 6, 2), (46, .iaload, 1), (47, .iload_n 2, 1), (48, .if_icmp .ne 23, 3), (51, .iload_n 3, 1), (52, .ifCond .lt 14, 3), (55, .aload_n 0, 1), (56, .getfield 46, 3), (59, .iload 6, 2), (61, .iaload, 1), (62, .iload_n 3, 1), (63, .if_icmp .ne 8, 3)]
def k_150_2 : Cl := [(66, .iload 5, 2), (68, .goto 5, 3), (71, .iload 4, 2), (73, .istore 4, 2), (75, .iinc 5 (-1), 3), (78, .goto (-62), 3), (81, .iload 4, 2), (83, .ireturn, 1)]
def r_150 : MR := (6, yX6_slideTo, cX6_slideTo, 7, (Option.some FieldType.int), [k_150_0, k_150_1, k_150_2])
abbrev Md_areAll : Nat := 151
def k_151_0 : Cl := [(0, .iconst 1, 1), (1, .istore_n 3, 1), (2, .iconst 0, 1), (3, .istore 4, 2), (5, .iload 4, 2), (7, .iconst 2, 1), (8, .aload_n 0, 1), (9, .getfield 7, 3), (12, .iconst 0, 1), (13, .iaload, 1), (14, .imul, 1), (15, .if_icmp .ge 49, 3), (18, .aload_n 0, 1), (19, .getfield 40, 3), (22, .bipush 10, 2), (24, .iload_n 1, 1), (25, .imul, 1), (26, .iload 4, 2), (28, .iadd, 1), (29, .iaload, 1), (30, .istore 5, 2)]
def k_151_1 : Cl := [(32, .iload_n 3, 1), (33, .ifCond .eq 23, 3), (36, .iload 5, 2), (38, .ifCond .lt 14, 3), (41, .aload_n 0, 1), (42, .getfield 43, 3), (45, .iload 5, 2), (47, .iaload, 1), (48, .iload_n 2, 1), (49, .if_icmp .ne 7, 3), (52, .iconst 1, 1), (53, .goto 4, 3), (56, .iconst 0, 1), (57, .istore_n 3, 1), (58, .iinc 4 1, 3), (61, .goto (-56), 3)]
def k_151_2 : Cl := [(64, .iload_n 3, 1), (65, .ireturn, 1)]
def r_151 : MR := (6, yX6_areAll, cX6_areAll, 6, (Option.some FieldType.boolean), [k_151_0, k_151_1, k_151_2])
abbrev Md_solves : Nat := 152
def k_152_0 : Cl := [(0, .iconst 0, 1), (1, .istore_n 1, 1), (2, .iload_n 1, 1), (3, .aload_n 0, 1), (4, .getfield 198, 3), (7, .if_icmp .ge 51, 3), (10, .aload_n 0, 1), (11, .getfield 25, 3), (14, .iload_n 1, 1), (15, .iaload, 1), (16, .istore_n 2, 1), (17, .aload_n 0, 1), (18, .getfield 43, 3), (21, .iload_n 2, 1), (22, .aload_n 0, 1), (23, .iload_n 2, 1), (24, .invokevirtual 133, 3), (27, .ifCond .ne 12, 3), (30, .aload_n 0, 1), (31, .iload_n 2, 1)]
def k_152_1 : Cl := [(32, .iconst (-1), 1), (33, .invokevirtual 224, 3), (36, .ifCond .eq 7, 3), (39, .iconst 2, 1), (40, .goto 4, 3), (43, .iconst 0, 1), (44, .iastore, 1), (45, .aload_n 0, 1), (46, .getfield 46, 3), (49, .iload_n 2, 1), (50, .iconst 0, 1), (51, .iastore, 1), (52, .iinc 1 1, 3), (55, .goto (-53), 3), (58, .iconst 1, 1), (59, .istore_n 1, 1), (60, .iconst 1, 1), (61, .istore_n 2, 1), (62, .iload_n 1, 1), (63, .ifCond .eq 163, 3)]
def k_152_2 : Cl := [(66, .iconst 0, 1), (67, .istore_n 1, 1), (68, .iconst 0, 1), (69, .istore_n 3, 1), (70, .iload_n 3, 1), (71, .aload_n 0, 1), (72, .getfield 198, 3), (75, .if_icmp .ge 69, 3), (78, .aload_n 0, 1), (79, .getfield 25, 3), (82, .iload_n 3, 1), (83, .iaload, 1), (84, .istore 4, 2), (86, .aload_n 0, 1), (87, .getfield 43, 3), (90, .iload 4, 2), (92, .iaload, 1), (93, .ifCond .ne 45, 3)]
def k_152_3 : Cl := [(96, .aload_n 0, 1), (97, .getfield 46, 3), (100, .iload 4, 2), (102, .aload_n 0, 1), (103, .iload 4, 2), (105, .iconst 2, 1), (106, .iload_n 2, 1), (107, .iconst 1, 1), (108, .isub, 1), (109, .invokevirtual 227, 3), (112, .bipush (-4), 2), (114, .if_icmp .eq 7, 3), (117, .iload_n 2, 1), (118, .goto 19, 3), (121, .aload_n 0, 1), (122, .iload 4, 2), (124, .iconst 1, 1), (125, .invokevirtual 224, 3)]
def k_152_4 : Cl := [(128, .ifCond .eq 8, 3), (131, .iload_n 2, 1), (132, .ineg, 1), (133, .goto 4, 3), (136, .iconst 0, 1), (137, .iastore, 1), (138, .iinc 3 1, 3), (141, .goto (-71), 3), (144, .iconst 0, 1), (145, .istore_n 3, 1), (146, .iload_n 3, 1), (147, .aload_n 0, 1), (148, .getfield 198, 3), (151, .if_icmp .ge 69, 3), (154, .aload_n 0, 1), (155, .getfield 25, 3), (158, .iload_n 3, 1), (159, .iaload, 1)]
def k_152_5 : Cl := [(160, .istore 4, 2), (162, .aload_n 0, 1), (163, .getfield 43, 3), (166, .iload 4, 2), (168, .iaload, 1), (169, .ifCond .ne 45, 3), (172, .aload_n 0, 1), (173, .getfield 46, 3), (176, .iload 4, 2), (178, .iaload, 1), (179, .ifCond .eq 35, 3), (182, .aload_n 0, 1), (183, .getfield 43, 3), (186, .iload 4, 2), (188, .aload_n 0, 1), (189, .getfield 46, 3)]
def k_152_6 : Cl := [(192, .iload 4, 2), (194, .iaload, 1), (195, .ifCond .le 7, 3), (198, .iconst 1, 1), (199, .goto 4, 3), (202, .iconst 2, 1), (203, .iastore, 1), (204, .aload_n 0, 1), (205, .getfield 46, 3), (208, .iload 4, 2), (210, .iload_n 2, 1), (211, .iastore, 1), (212, .iconst 1, 1), (213, .istore_n 1, 1), (214, .iinc 3 1, 3), (217, .goto (-71), 3), (220, .iinc 2 1, 3), (223, .goto (-161), 3)]
def k_152_7 : Cl := [(226, .return_, 1)]
def r_152 : MR := (6, yX6_solves, cX6_solves, 5, (Option.none : Option FieldType), [k_152_0, k_152_1, k_152_2, k_152_3, k_152_4, k_152_5, k_152_6, k_152_7])
abbrev Md_game : Nat := 153
def k_153_0 : Cl := [(0, .iload_n 1, 1), (1, .i2l, 1), (2, .lconst 0, 1), (3, .ldc2_w 113, 3), (6, .invokestatic 71, 3), (9, .ifCond .ne 5, 3), (12, .iconst (-1), 1), (13, .ireturn, 1), (14, .aload_n 0, 1), (15, .getfield 7, 3), (18, .iconst 0, 1), (19, .iaload, 1), (20, .ifCond .ne 6, 3), (23, .bipush (-4), 2), (25, .ireturn, 1), (26, .aload_n 0, 1), (27, .aload_n 0, 1), (28, .getfield 7, 3), (31, .iconst 3, 1)]
def k_153_1 : Cl := [(32, .iaload, 1), (33, .invokevirtual 206, 3), (36, .aload_n 0, 1), (37, .invokevirtual 230, 3), (40, .aload_n 0, 1), (41, .getfield 7, 3), (44, .iconst 5, 1), (45, .iaload, 1), (46, .istore_n 2, 1), (47, .iload_n 1, 1), (48, .iconst 2, 1), (49, .if_icmp .ge 36, 3), (52, .iload_n 1, 1), (53, .ifCond .ne 12, 3), (56, .aload_n 0, 1), (57, .getfield 43, 3), (60, .iload_n 2, 1), (61, .iaload, 1), (62, .goto 22, 3)]
def k_153_2 : Cl := [(65, .aload_n 0, 1), (66, .getfield 43, 3), (69, .iload_n 2, 1), (70, .iaload, 1), (71, .ifCond .ne 7, 3), (74, .iconst 0, 1), (75, .goto 9, 3), (78, .aload_n 0, 1), (79, .getfield 46, 3), (82, .iload_n 2, 1), (83, .iaload, 1), (84, .ireturn, 1), (85, .aload_n 0, 1), (86, .iload_n 2, 1), (87, .invokevirtual 133, 3), (90, .ifCond .eq 6, 3), (93, .bipush (-4), 2), (95, .ireturn, 1)]
def k_153_3 : Cl := [(96, .aload_n 0, 1), (97, .getfield 43, 3), (100, .iload_n 2, 1), (101, .iaload, 1), (102, .ifCond .ne 13, 3), (105, .aload_n 0, 1), (106, .iload_n 2, 1), (107, .iconst 0, 1), (108, .iconst (-1), 1), (109, .invokevirtual 227, 3), (112, .goto 24, 3), (115, .aload_n 0, 1), (116, .iload_n 2, 1), (117, .iconst 3, 1), (118, .aload_n 0, 1), (119, .getfield 43, 3), (122, .iload_n 2, 1), (123, .iaload, 1), (124, .isub, 1), (125, .aload_n 0, 1), (126, .getfield 46, 3)]
def k_153_4 : Cl := [(129, .iload_n 2, 1), (130, .iaload, 1), (131, .iconst 1, 1), (132, .isub, 1), (133, .invokevirtual 227, 3), (136, .istore_n 3, 1), (137, .iload_n 3, 1), (138, .bipush (-4), 2), (140, .if_icmp .ne 8, 3), (143, .bipush (-4), 2), (145, .goto 13, 3), (148, .bipush 10, 2), (150, .iload_n 3, 1), (151, .iconst 2, 1), (152, .idiv, 1), (153, .imul, 1), (154, .iload_n 3, 1), (155, .iconst 2, 1), (156, .irem, 1), (157, .iadd, 1), (158, .ireturn, 1)]
def r_153 : MR := (6, yX6_game, cX6_game, 4, (Option.some FieldType.int), [k_153_0, k_153_1, k_153_2, k_153_3, k_153_4])
abbrev Md_fumbles : Nat := 154
def k_154_0 : Cl := [(0, .iconst 0, 1), (1, .istore_n 1, 1), (2, .iload_n 1, 1), (3, .aload_n 0, 1), (4, .getfield 198, 3), (7, .if_icmp .ge 21, 3), (10, .aload_n 0, 1), (11, .getfield 53, 3), (14, .aload_n 0, 1), (15, .getfield 25, 3), (18, .iload_n 1, 1), (19, .iaload, 1), (20, .lconst 0, 1), (21, .lastore, 1), (22, .iinc 1 1, 3), (25, .goto (-23), 3), (28, .iconst 0, 1), (29, .istore_n 1, 1), (30, .iload_n 1, 1), (31, .aload_n 0, 1)]
def k_154_1 : Cl := [(32, .getfield 198, 3), (35, .if_icmp .ge 179, 3), (38, .aload_n 0, 1), (39, .getfield 25, 3), (42, .iload_n 1, 1), (43, .iaload, 1), (44, .istore_n 2, 1), (45, .iconst 0, 1), (46, .istore_n 3, 1), (47, .iconst 0, 1), (48, .istore 4, 2), (50, .iload 4, 2), (52, .iconst 2, 1), (53, .aload_n 0, 1), (54, .getfield 7, 3), (57, .iconst 0, 1), (58, .iaload, 1), (59, .imul, 1), (60, .if_icmp .ge 32, 3), (63, .iload_n 3, 1)]
def k_154_2 : Cl := [(64, .aload_n 0, 1), (65, .getfield 40, 3), (68, .bipush 10, 2), (70, .iload_n 2, 1), (71, .imul, 1), (72, .iload 4, 2), (74, .iadd, 1), (75, .iaload, 1), (76, .ifCond .lt 7, 3), (79, .iconst 1, 1), (80, .goto 4, 3), (83, .iconst 0, 1), (84, .iadd, 1), (85, .istore_n 3, 1), (86, .iinc 4 1, 3), (89, .goto (-39), 3), (92, .iload_n 3, 1), (93, .ifCond .eq 11, 3)]
def k_154_3 : Cl := [(96, .aload_n 0, 1), (97, .iload_n 2, 1), (98, .invokevirtual 133, 3), (101, .ifCond .eq 7, 3), (104, .iconst 1, 1), (105, .goto 4, 3), (108, .iconst 0, 1), (109, .istore 4, 2), (111, .aload_n 0, 1), (112, .getfield 53, 3), (115, .iload_n 2, 1), (116, .dup2, 1), (117, .laload, 1), (118, .iload 4, 2), (120, .ifCond .eq 16, 3), (123, .ldc2_w 233, 3), (126, .aload_n 0, 1), (127, .getfield 49, 3)]
def k_154_4 : Cl := [(130, .iload_n 2, 1), (131, .laload, 1), (132, .lmul, 1), (133, .goto 4, 3), (136, .lconst 0, 1), (137, .ladd, 1), (138, .lastore, 1), (139, .iconst 0, 1), (140, .istore 5, 2), (142, .iload 5, 2), (144, .iconst 2, 1), (145, .aload_n 0, 1), (146, .getfield 7, 3), (149, .iconst 0, 1), (150, .iaload, 1), (151, .imul, 1), (152, .if_icmp .ge 56, 3), (155, .iload 4, 2), (157, .ifCond .ne 51, 3)]
def k_154_5 : Cl := [(160, .aload_n 0, 1), (161, .getfield 40, 3), (164, .bipush 10, 2), (166, .iload_n 2, 1), (167, .imul, 1), (168, .iload 5, 2), (170, .iadd, 1), (171, .iaload, 1), (172, .istore 6, 2), (174, .iload 6, 2), (176, .ifCond .lt 26, 3), (179, .aload_n 0, 1), (180, .getfield 53, 3), (183, .iload 6, 2), (185, .dup2, 1), (186, .laload, 1), (187, .ldc2_w 233, 3), (190, .iload_n 3, 1), (191, .i2l, 1)]
def k_154_6 : Cl := [(192, .ldiv, 1), (193, .aload_n 0, 1), (194, .getfield 49, 3), (197, .iload_n 2, 1), (198, .laload, 1), (199, .lmul, 1), (200, .ladd, 1), (201, .lastore, 1), (202, .iinc 5 1, 3), (205, .goto (-63), 3), (208, .iinc 1 1, 3), (211, .goto (-181), 3), (214, .iconst 0, 1), (215, .istore_n 1, 1), (216, .iload_n 1, 1), (217, .aload_n 0, 1), (218, .getfield 198, 3), (221, .if_icmp .ge 31, 3)]
def k_154_7 : Cl := [(224, .aload_n 0, 1), (225, .getfield 49, 3), (228, .aload_n 0, 1), (229, .getfield 25, 3), (232, .iload_n 1, 1), (233, .iaload, 1), (234, .aload_n 0, 1), (235, .getfield 53, 3), (238, .aload_n 0, 1), (239, .getfield 25, 3), (242, .iload_n 1, 1), (243, .iaload, 1), (244, .laload, 1), (245, .lastore, 1), (246, .iinc 1 1, 3), (249, .goto (-33), 3), (252, .return_, 1)]
def r_154 : MR := (6, yX6_fumbles, cX6_fumbles, 7, (Option.none : Option FieldType), [k_154_0, k_154_1, k_154_2, k_154_3, k_154_4, k_154_5, k_154_6, k_154_7])
abbrev Md_fumble : Nat := 155
def k_155_0 : Cl := [(0, .iload_n 1, 1), (1, .i2l, 1), (2, .lconst 0, 1), (3, .ldc2_w 103, 3), (6, .invokestatic 71, 3), (9, .ifCond .eq 13, 3), (12, .iload_n 2, 1), (13, .i2l, 1), (14, .lconst 0, 1), (15, .lconst 1, 1), (16, .invokestatic 71, 3), (19, .ifCond .ne 7, 3), (22, .ldc2_w 235, 3), (25, .lreturn, 1), (26, .aload_n 0, 1), (27, .aload_n 0, 1), (28, .getfield 7, 3), (31, .iconst 3, 1)]
def k_155_1 : Cl := [(32, .iaload, 1), (33, .invokevirtual 206, 3), (36, .iconst 0, 1), (37, .istore_n 3, 1), (38, .iload_n 3, 1), (39, .aload_n 0, 1), (40, .getfield 198, 3), (43, .if_icmp .ge 21, 3), (46, .aload_n 0, 1), (47, .getfield 49, 3), (50, .aload_n 0, 1), (51, .getfield 25, 3), (54, .iload_n 3, 1), (55, .iaload, 1), (56, .lconst 0, 1), (57, .lastore, 1), (58, .iinc 3 1, 3), (61, .goto (-23), 3)]
def k_155_2 : Cl := [(64, .aload_n 0, 1), (65, .getfield 49, 3), (68, .aload_n 0, 1), (69, .getfield 7, 3), (72, .iconst 5, 1), (73, .iaload, 1), (74, .lconst 1, 1), (75, .lastore, 1), (76, .lconst 1, 1), (77, .lstore_n 3, 1), (78, .iconst 0, 1), (79, .istore 5, 2), (81, .iload 5, 2), (83, .iload_n 1, 1), (84, .if_icmp .ge 19, 3), (87, .aload_n 0, 1), (88, .invokevirtual 237, 3), (91, .lload_n 3, 1), (92, .ldc2_w 233, 3), (95, .lmul, 1)]
def k_155_3 : Cl := [(96, .lstore_n 3, 1), (97, .iinc 5 1, 3), (100, .goto (-19), 3), (103, .lconst 0, 1), (104, .lstore 5, 2), (106, .iconst 0, 1), (107, .istore 7, 2), (109, .iload 7, 2), (111, .aload_n 0, 1), (112, .getfield 198, 3), (115, .if_icmp .ge 44, 3), (118, .lload 5, 2), (120, .aload_n 0, 1), (121, .aload_n 0, 1), (122, .getfield 25, 3), (125, .iload 7, 2), (127, .iaload, 1)]
def k_155_4 : Cl := [(128, .invokevirtual 133, 3), (131, .ifCond .eq 18, 3), (134, .aload_n 0, 1), (135, .getfield 49, 3), (138, .aload_n 0, 1), (139, .getfield 25, 3), (142, .iload 7, 2), (144, .iaload, 1), (145, .laload, 1), (146, .goto 4, 3), (149, .lconst 0, 1), (150, .ladd, 1), (151, .lstore 5, 2), (153, .iinc 7 1, 3), (156, .goto (-47), 3), (159, .lload 5, 2)]
def k_155_5 : Cl := [(161, .lstore 7, 2), (163, .lload_n 3, 1), (164, .lstore 9, 2), (166, .lload 9, 2), (168, .lconst 0, 1), (169, .lcmp, 1), (170, .ifCond .eq 21, 3), (173, .lload 7, 2), (175, .lload 9, 2), (177, .lrem, 1), (178, .lstore 11, 2), (180, .lload 9, 2), (182, .lstore 7, 2), (184, .lload 11, 2), (186, .lstore 9, 2), (188, .goto (-22), 3), (191, .iload_n 2, 1)]
def k_155_6 : Cl := [(192, .ifCond .ne 11, 3), (195, .lload 5, 2), (197, .lload 7, 2), (199, .ldiv, 1), (200, .goto 7, 3), (203, .lload_n 3, 1), (204, .lload 7, 2), (206, .ldiv, 1), (207, .lreturn, 1)]
def r_155 : MR := (6, yX6_fumble, cX6_fumble, 13, (Option.some FieldType.long), [k_155_0, k_155_1, k_155_2, k_155_3, k_155_4, k_155_5, k_155_6])
abbrev Md_image : Nat := 156
def k_156_0 : Cl := [(0, .iconst 0, 1), (1, .istore_n 1, 1), (2, .iload_n 1, 1), (3, .bipush 40, 2), (5, .if_icmp .ge 21, 3), (8, .aload_n 0, 1), (9, .getfield 56, 3), (12, .iload_n 1, 1), (13, .aload_n 0, 1), (14, .getfield 7, 3), (17, .iload_n 1, 1), (18, .iaload, 1), (19, .iastore, 1), (20, .iinc 1 1, 3), (23, .goto (-21), 3), (26, .iconst 0, 1), (27, .istore_n 1, 1), (28, .iload_n 1, 1), (29, .bipush 24, 2), (31, .if_icmp .ge 24, 3)]
def k_156_1 : Cl := [(34, .aload_n 0, 1), (35, .getfield 56, 3), (38, .bipush 40, 2), (40, .iload_n 1, 1), (41, .iadd, 1), (42, .aload_n 0, 1), (43, .getfield 22, 3), (46, .iload_n 1, 1), (47, .iaload, 1), (48, .iastore, 1), (49, .iinc 1 1, 3), (52, .goto (-24), 3), (55, .aload_n 0, 1), (56, .aload_n 0, 1), (57, .getfield 97, 3), (60, .putfield 240, 3), (63, .aload_n 0, 1)]
def k_156_2 : Cl := [(64, .iconst 1, 1), (65, .putfield 243, 3), (68, .iconst 1, 1), (69, .ireturn, 1)]
def r_156 : MR := (6, yX6_image, cX6_image, 2, (Option.some FieldType.int), [k_156_0, k_156_1, k_156_2])
abbrev Md_restore : Nat := 157
def k_157_0 : Cl := [(0, .aload_n 0, 1), (1, .getfield 243, 3), (4, .ifCond .ne 6, 3), (7, .bipush (-4), 2), (9, .ireturn, 1), (10, .iconst 0, 1), (11, .istore_n 1, 1), (12, .iload_n 1, 1), (13, .bipush 40, 2), (15, .if_icmp .ge 21, 3), (18, .aload_n 0, 1), (19, .getfield 7, 3), (22, .iload_n 1, 1), (23, .aload_n 0, 1), (24, .getfield 56, 3), (27, .iload_n 1, 1), (28, .iaload, 1), (29, .iastore, 1), (30, .iinc 1 1, 3)]
def k_157_1 : Cl := [(33, .goto (-21), 3), (36, .iconst 0, 1), (37, .istore_n 1, 1), (38, .iload_n 1, 1), (39, .bipush 24, 2), (41, .if_icmp .ge 24, 3), (44, .aload_n 0, 1), (45, .getfield 22, 3), (48, .iload_n 1, 1), (49, .aload_n 0, 1), (50, .getfield 56, 3), (53, .bipush 40, 2), (55, .iload_n 1, 1), (56, .iadd, 1), (57, .iaload, 1), (58, .iastore, 1), (59, .iinc 1 1, 3), (62, .goto (-24), 3)]
def k_157_2 : Cl := [(65, .aload_n 0, 1), (66, .aload_n 0, 1), (67, .getfield 240, 3), (70, .putfield 97, 3), (73, .iconst 1, 1), (74, .ireturn, 1)]
def r_157 : MR := (6, yX6_restore, cX6_restore, 2, (Option.some FieldType.int), [k_157_0, k_157_1, k_157_2])
abbrev Md_isSheet : Nat := 158
def k_158_0 : Cl := [(0, .iload_n 0, 1), (1, .i2l, 1), (2, .lconst 0, 1), (3, .ldc2_w 103, 3), (6, .invokestatic 71, 3), (9, .ireturn, 1)]
def r_158 : MR := (6, yX6_isSheet, cX6_isSheet, 1, (Option.some FieldType.boolean), [k_158_0])
abbrev Md_isLane : Nat := 159
def k_159_0 : Cl := [(0, .iload_n 0, 1), (1, .i2l, 1), (2, .lconst 0, 1), (3, .ldc2_w 103, 3), (6, .invokestatic 71, 3), (9, .ireturn, 1)]
def r_159 : MR := (6, yX6_isLane, cX6_isLane, 1, (Option.some FieldType.boolean), [k_159_0])
abbrev Md_why : Nat := 160
def k_160_0 : Cl := [(0, .aload_n 0, 1), (1, .getfield 59, 3), (4, .iload_n 1, 1), (5, .iaload, 1), (6, .ifCond .ge 6, 3), (9, .bipush (-11), 2), (11, .ireturn, 1), (12, .aload_n 0, 1), (13, .getfield 59, 3), (16, .iload_n 1, 1), (17, .iaload, 1), (18, .iload_n 2, 1), (19, .if_icmp .eq 6, 3), (22, .bipush (-12), 2), (24, .ireturn, 1), (25, .iload_n 3, 1), (26, .ifCond .lt 25, 3), (29, .iload 4, 2), (31, .ifCond .lt 20, 3)]
def k_160_1 : Cl := [(34, .iload_n 3, 1), (35, .i2l, 1), (36, .iload 4, 2), (38, .i2l, 1), (39, .ladd, 1), (40, .aload_n 0, 1), (41, .getfield 62, 3), (44, .iload_n 1, 1), (45, .iaload, 1), (46, .i2l, 1), (47, .lcmp, 1), (48, .ifCond .le 8, 3), (51, .bipush (-13), 2), (53, .goto 4, 3), (56, .iconst 0, 1), (57, .ireturn, 1)]
def r_160 : MR := (6, yX6_why, cX6_why, 5, (Option.some FieldType.int), [k_160_0, k_160_1])
abbrev Md_to : Nat := 161
def k_161_0 : Cl := [(0, .iload_n 1, 1), (1, .invokestatic 246, 3), (4, .ifCond .eq 25, 3), (7, .iload_n 2, 1), (8, .invokestatic 249, 3), (11, .ifCond .eq 18, 3), (14, .iload 4, 2), (16, .iconst (-1), 1), (17, .if_icmp .lt 12, 3), (20, .aload_n 0, 1), (21, .getfield 7, 3), (24, .iconst 0, 1), (25, .iaload, 1), (26, .ifCond .ne 5, 3), (29, .iconst (-1), 1), (30, .ireturn, 1), (31, .aload_n 0, 1)]
def k_161_1 : Cl := [(32, .iload_n 1, 1), (33, .iload_n 2, 1), (34, .iload_n 3, 1), (35, .aload_n 0, 1), (36, .getfield 7, 3), (39, .iconst 0, 1), (40, .iaload, 1), (41, .invokevirtual 252, 3), (44, .istore 5, 2), (46, .iload 5, 2), (48, .ifCond .ge 6, 3), (51, .iload 5, 2), (53, .ireturn, 1), (54, .iconst 0, 1), (55, .istore 6, 2), (57, .iconst 0, 1), (58, .istore 7, 2), (60, .iload 7, 2), (62, .aload_n 0, 1), (63, .getfield 7, 3)]
def k_161_2 : Cl := [(66, .iconst 0, 1), (67, .iaload, 1), (68, .if_icmp .ge 57, 3), (71, .aload_n 0, 1), (72, .getfield 65, 3), (75, .bipush 24, 2), (77, .iload_n 1, 1), (78, .imul, 1), (79, .iload_n 3, 1), (80, .iadd, 1), (81, .iload 7, 2), (83, .iadd, 1), (84, .laload, 1), (85, .lstore 8, 2), (87, .lload 8, 2), (89, .lconst 0, 1), (90, .aload_n 0, 1), (91, .iload 7, 2), (93, .invokevirtual 79, 3)]
def k_161_3 : Cl := [(96, .i2l, 1), (97, .invokestatic 71, 3), (100, .ifCond .ne 6, 3), (103, .bipush (-2), 2), (105, .ireturn, 1), (106, .iload 6, 2), (108, .lload 8, 2), (110, .l2i, 1), (111, .iconst 2, 1), (112, .iload 7, 2), (114, .imul, 1), (115, .ishl, 1), (116, .ior, 1), (117, .istore 6, 2), (119, .iinc 7 1, 3), (122, .goto (-62), 3), (125, .aload_n 0, 1), (126, .aload_n 0, 1), (127, .getfield 7, 3)]
def k_161_4 : Cl := [(130, .iconst 3, 1), (131, .iaload, 1), (132, .invokevirtual 206, 3), (135, .aload_n 0, 1), (136, .aload_n 0, 1), (137, .getfield 28, 3), (140, .iload 6, 2), (142, .iaload, 1), (143, .ifCond .ge 7, 3), (146, .iconst (-1), 1), (147, .goto 5, 3), (150, .iload 6, 2), (152, .iload 4, 2), (154, .invokevirtual 213, 3), (157, .ireturn, 1)]
def r_161 : MR := (6, yX6_to, cX6_to, 10, (Option.some FieldType.int), [k_161_0, k_161_1, k_161_2, k_161_3, k_161_4])
abbrev Md_clicksSo : Nat := 162
def k_162_0 : Cl := [(0, .aload_n 0, 1), (1, .getfield 7, 3), (4, .iconst 5, 1), (5, .iaload, 1), (6, .istore 4, 2), (8, .iconst 1, 1), (9, .istore 5, 2), (11, .iconst 0, 1), (12, .istore 6, 2), (14, .iload 6, 2), (16, .iload_n 2, 1), (17, .if_icmp .ge 110, 3), (20, .iload 5, 2), (22, .ifCond .eq 105, 3), (25, .aload_n 0, 1), (26, .getfield 65, 3), (29, .iload_n 1, 1), (30, .iconst 2, 1), (31, .iload 6, 2)]
def k_162_1 : Cl := [(33, .imul, 1), (34, .iadd, 1), (35, .laload, 1), (36, .l2i, 1), (37, .istore 7, 2), (39, .aload_n 0, 1), (40, .iload 4, 2), (42, .iload 7, 2), (44, .bipush 10, 2), (46, .idiv, 1), (47, .iload 7, 2), (49, .bipush 10, 2), (51, .irem, 1), (52, .iload_n 3, 1), (53, .invokevirtual 121, 3), (56, .istore 8, 2), (58, .iload 8, 2), (60, .aload_n 0, 1), (61, .getfield 65, 3)]
def k_162_2 : Cl := [(64, .iload_n 1, 1), (65, .iconst 2, 1), (66, .iload 6, 2), (68, .imul, 1), (69, .iadd, 1), (70, .iconst 1, 1), (71, .iadd, 1), (72, .laload, 1), (73, .lconst 1, 1), (74, .lcmp, 1), (75, .ifCond .ne 7, 3), (78, .iconst 1, 1), (79, .goto 4, 3), (82, .iconst 0, 1), (83, .if_icmp .ne 7, 3), (86, .iconst 1, 1), (87, .goto 4, 3), (90, .iconst 0, 1), (91, .istore 5, 2), (93, .iload 8, 2), (95, .ifCond .eq 22, 3)]
def k_162_3 : Cl := [(98, .aload_n 0, 1), (99, .iload 4, 2), (101, .iload 7, 2), (103, .bipush 10, 2), (105, .idiv, 1), (106, .iload 7, 2), (108, .bipush 10, 2), (110, .irem, 1), (111, .invokevirtual 182, 3), (114, .goto 5, 3), (117, .iload 4, 2), (119, .istore 4, 2), (121, .iinc 6 1, 3), (124, .goto (-110), 3), (127, .iload 5, 2)]
def k_162_4 : Cl := [(129, .ireturn, 1)]
def r_162 : MR := (6, yX6_clicksSo, cX6_clicksSo, 9, (Option.some FieldType.boolean), [k_162_0, k_162_1, k_162_2, k_162_3, k_162_4])
abbrev Md_kindsBy : Nat := 163
def k_163_0 : Cl := [(0, .aload_n 0, 1), (1, .iload_n 1, 1), (2, .invokevirtual 90, 3), (5, .istore 4, 2), (7, .iconst 0, 1), (8, .istore 5, 2), (10, .iconst 0, 1), (11, .istore 6, 2), (13, .iload 6, 2), (15, .iconst 5, 1), (16, .if_icmp .ge 50, 3), (19, .aload_n 0, 1), (20, .getfield 7, 3), (23, .bipush 6, 2), (25, .iconst 2, 1), (26, .iload_n 1, 1), (27, .imul, 1), (28, .iadd, 1), (29, .iload 6, 2), (31, .iastore, 1)]
def k_163_1 : Cl := [(32, .iload 5, 2), (34, .aload_n 0, 1), (35, .iload_n 2, 1), (36, .iload_n 3, 1), (37, .aload_n 0, 1), (38, .getfield 7, 3), (41, .iconst 3, 1), (42, .iaload, 1), (43, .invokevirtual 256, 3), (46, .ifCond .eq 10, 3), (49, .iconst 1, 1), (50, .iload 6, 2), (52, .ishl, 1), (53, .goto 4, 3), (56, .iconst 0, 1), (57, .ior, 1), (58, .istore 5, 2), (60, .iinc 6 1, 3), (63, .goto (-50), 3)]
def k_163_2 : Cl := [(66, .aload_n 0, 1), (67, .getfield 7, 3), (70, .bipush 6, 2), (72, .iconst 2, 1), (73, .iload_n 1, 1), (74, .imul, 1), (75, .iadd, 1), (76, .iload 4, 2), (78, .iastore, 1), (79, .iload 5, 2), (81, .ireturn, 1)]
def r_163 : MR := (6, yX6_kindsBy, cX6_kindsBy, 7, (Option.some FieldType.int), [k_163_0, k_163_1, k_163_2])
abbrev Md_clicks : Nat := 164
def k_164_0 : Cl := [(0, .iload_n 1, 1), (1, .bipush (-4), 2), (3, .if_icmp .eq 11, 3), (6, .aload_n 0, 1), (7, .iload_n 1, 1), (8, .invokevirtual 109, 3), (11, .ifCond .eq 30, 3), (14, .iload_n 2, 1), (15, .invokestatic 246, 3), (18, .ifCond .eq 23, 3), (21, .iload_n 3, 1), (22, .invokestatic 249, 3), (25, .ifCond .eq 16, 3), (28, .iload 5, 2), (30, .i2l, 1), (31, .lconst 1, 1)]
def k_164_1 : Cl := [(32, .ldc2_w 260, 3), (35, .invokestatic 71, 3), (38, .ifCond .ne 5, 3), (41, .iconst (-1), 1), (42, .ireturn, 1), (43, .aload_n 0, 1), (44, .iload_n 2, 1), (45, .iload_n 3, 1), (46, .iload 4, 2), (48, .iconst 2, 1), (49, .iload 5, 2), (51, .imul, 1), (52, .invokevirtual 252, 3), (55, .istore 6, 2), (57, .iload 6, 2), (59, .ifCond .ge 6, 3), (62, .iload 6, 2)]
def k_164_2 : Cl := [(64, .ireturn, 1), (65, .bipush 24, 2), (67, .iload_n 2, 1), (68, .imul, 1), (69, .iload 4, 2), (71, .iadd, 1), (72, .istore 7, 2), (74, .iconst 0, 1), (75, .istore 8, 2), (77, .iload 8, 2), (79, .iload 5, 2), (81, .if_icmp .ge 81, 3), (84, .aload_n 0, 1), (85, .getfield 65, 3), (88, .iload 7, 2), (90, .iconst 2, 1), (91, .iload 8, 2), (93, .imul, 1), (94, .iadd, 1), (95, .laload, 1)]
def k_164_3 : Cl := [(96, .lstore 9, 2), (98, .lload 9, 2), (100, .lconst 0, 1), (101, .ldc2_w 262, 3), (104, .aload_n 0, 1), (105, .getfield 7, 3), (108, .iconst 0, 1), (109, .iaload, 1), (110, .i2l, 1), (111, .lmul, 1), (112, .lconst 1, 1), (113, .lsub, 1), (114, .invokestatic 71, 3), (117, .ifCond .eq 36, 3), (120, .lload 9, 2), (122, .ldc2_w 262, 3), (125, .lrem, 1), (126, .lconst 1, 1), (127, .lcmp, 1)]
def k_164_4 : Cl := [(128, .ifCond .gt 25, 3), (131, .aload_n 0, 1), (132, .getfield 65, 3), (135, .iload 7, 2), (137, .iconst 2, 1), (138, .iload 8, 2), (140, .imul, 1), (141, .iadd, 1), (142, .iconst 1, 1), (143, .iadd, 1), (144, .laload, 1), (145, .lconst 0, 1), (146, .lconst 1, 1), (147, .invokestatic 71, 3), (150, .ifCond .ne 6, 3), (153, .bipush (-2), 2), (155, .ireturn, 1), (156, .iinc 8 1, 3), (159, .goto (-82), 3)]
def k_164_5 : Cl := [(162, .iload_n 1, 1), (163, .bipush (-4), 2), (165, .if_icmp .eq 13, 3), (168, .aload_n 0, 1), (169, .iload_n 1, 1), (170, .iload 7, 2), (172, .iload 5, 2), (174, .invokevirtual 264, 3), (177, .ireturn, 1), (178, .aload_n 0, 1), (179, .iload 7, 2), (181, .iload 5, 2), (183, .aload_n 0, 1), (184, .getfield 7, 3), (187, .iconst 3, 1), (188, .iaload, 1), (189, .invokevirtual 256, 3)]
def k_164_6 : Cl := [(192, .ifCond .eq 8, 3), (195, .bipush 64, 2), (197, .goto 4, 3), (200, .iconst 0, 1), (201, .istore 8, 2), (203, .iconst 0, 1), (204, .istore 9, 2), (206, .iload 9, 2), (208, .aload_n 0, 1), (209, .getfield 7, 3), (212, .iconst 1, 1), (213, .iaload, 1), (214, .if_icmp .ge 44, 3), (217, .iload 8, 2), (219, .aload_n 0, 1), (220, .iload 7, 2), (222, .iload 5, 2)]
def k_164_7 : Cl := [(224, .aload_n 0, 1), (225, .getfield 7, 3), (228, .iconst 3, 1), (229, .iaload, 1), (230, .iconst 1, 1), (231, .iload 9, 2), (233, .ishl, 1), (234, .ixor, 1), (235, .invokevirtual 256, 3), (238, .ifCond .eq 10, 3), (241, .iconst 1, 1), (242, .iload 9, 2), (244, .ishl, 1), (245, .goto 4, 3), (248, .iconst 0, 1), (249, .ior, 1), (250, .istore 8, 2), (252, .iinc 9 1, 3), (255, .goto (-49), 3)]
def k_164_8 : Cl := [(258, .iload 8, 2), (260, .ireturn, 1)]
def r_164 : MR := (6, yX6_clicks, cX6_clicks, 11, (Option.some FieldType.int), [k_164_0, k_164_1, k_164_2, k_164_3, k_164_4, k_164_5, k_164_6, k_164_7, k_164_8])
abbrev Md_film : Nat := 165
def k_165_0 : Cl := [(0, .iload_n 1, 1), (1, .invokestatic 246, 3), (4, .ifCond .eq 19, 3), (7, .iload_n 2, 1), (8, .invokestatic 249, 3), (11, .ifCond .eq 12, 3), (14, .aload_n 0, 1), (15, .getfield 7, 3), (18, .iconst 0, 1), (19, .iaload, 1), (20, .ifCond .ne 5, 3), (23, .iconst (-1), 1), (24, .ireturn, 1), (25, .aload_n 0, 1), (26, .iload_n 1, 1), (27, .iload_n 2, 1), (28, .iload_n 3, 1), (29, .aload_n 0, 1), (30, .getfield 7, 3)]
def k_165_1 : Cl := [(33, .iconst 0, 1), (34, .iaload, 1), (35, .invokevirtual 252, 3), (38, .istore 4, 2), (40, .iload 4, 2), (42, .ifCond .ge 6, 3), (45, .iload 4, 2), (47, .ireturn, 1), (48, .iconst 0, 1), (49, .istore 5, 2), (51, .iload 5, 2), (53, .aload_n 0, 1), (54, .getfield 7, 3), (57, .iconst 0, 1), (58, .iaload, 1), (59, .if_icmp .ge 35, 3), (62, .aload_n 0, 1), (63, .getfield 65, 3)]
def k_165_2 : Cl := [(66, .bipush 24, 2), (68, .iload_n 1, 1), (69, .imul, 1), (70, .iload_n 3, 1), (71, .iadd, 1), (72, .iload 5, 2), (74, .iadd, 1), (75, .aload_n 0, 1), (76, .getfield 7, 3), (79, .iconst 5, 1), (80, .iaload, 1), (81, .iload 5, 2), (83, .invokestatic 75, 3), (86, .i2l, 1), (87, .lastore, 1), (88, .iinc 5 1, 3), (91, .goto (-40), 3), (94, .aload_n 0, 1), (95, .getfield 7, 3)]
def k_165_3 : Cl := [(98, .iconst 0, 1), (99, .iaload, 1), (100, .ireturn, 1)]
def r_165 : MR := (6, yX6_film, cX6_film, 6, (Option.some FieldType.int), [k_165_0, k_165_1, k_165_2, k_165_3])
abbrev Md_sheet : Nat := 166
def k_166_0 : Cl := [(0, .iload_n 1, 1), (1, .invokestatic 246, 3), (4, .ifCond .eq 16, 3), (7, .iload_n 2, 1), (8, .invokestatic 249, 3), (11, .ifCond .eq 9, 3), (14, .iload_n 3, 1), (15, .bipush 24, 2), (17, .if_icmp .le 5, 3), (20, .iconst (-1), 1), (21, .ireturn, 1), (22, .iload_n 3, 1), (23, .ifCond .ge 6, 3), (26, .bipush (-14), 2), (28, .ireturn, 1), (29, .aload_n 0, 1), (30, .getfield 59, 3)]
def k_166_1 : Cl := [(33, .iload_n 1, 1), (34, .iload_n 2, 1), (35, .iastore, 1), (36, .aload_n 0, 1), (37, .getfield 62, 3), (40, .iload_n 1, 1), (41, .iload_n 3, 1), (42, .iastore, 1), (43, .iconst 0, 1), (44, .istore 4, 2), (46, .iload 4, 2), (48, .bipush 24, 2), (50, .if_icmp .ge 22, 3), (53, .aload_n 0, 1), (54, .getfield 65, 3), (57, .bipush 24, 2), (59, .iload_n 1, 1), (60, .imul, 1), (61, .iload 4, 2), (63, .iadd, 1)]
def k_166_2 : Cl := [(64, .lconst 0, 1), (65, .lastore, 1), (66, .iinc 4 1, 3), (69, .goto (-23), 3), (72, .iload_n 3, 1), (73, .ireturn, 1)]
def r_166 : MR := (6, yX6_sheet, cX6_sheet, 5, (Option.some FieldType.int), [k_166_0, k_166_1, k_166_2])
abbrev Md_drop : Nat := 167
def k_167_0 : Cl := [(0, .iload_n 1, 1), (1, .invokestatic 246, 3), (4, .ifCond .ne 5, 3), (7, .iconst (-1), 1), (8, .ireturn, 1), (9, .aload_n 0, 1), (10, .getfield 59, 3), (13, .iload_n 1, 1), (14, .iaload, 1), (15, .ifCond .ge 6, 3), (18, .bipush (-11), 2), (20, .ireturn, 1), (21, .aload_n 0, 1), (22, .getfield 59, 3), (25, .iload_n 1, 1), (26, .iconst (-1), 1), (27, .iastore, 1), (28, .aload_n 0, 1), (29, .getfield 62, 3)]
def k_167_1 : Cl := [(32, .iload_n 1, 1), (33, .iaload, 1), (34, .ireturn, 1)]
def r_167 : MR := (6, yX6_drop, cX6_drop, 2, (Option.some FieldType.int), [k_167_0, k_167_1])
abbrev Md_item : Nat := 168
def k_168_0 : Cl := [(0, .iload_n 1, 1), (1, .invokestatic 246, 3), (4, .ifCond .eq 10, 3), (7, .iload_n 2, 1), (8, .invokestatic 249, 3), (11, .ifCond .ne 5, 3), (14, .iconst (-1), 1), (15, .ireturn, 1), (16, .aload_n 0, 1), (17, .iload_n 1, 1), (18, .iload_n 2, 1), (19, .iload_n 3, 1), (20, .iconst 1, 1), (21, .invokevirtual 252, 3), (24, .istore 6, 2), (26, .iload 6, 2), (28, .ifCond .ge 6, 3), (31, .iload 6, 2)]
def k_168_1 : Cl := [(33, .ireturn, 1), (34, .aload_n 0, 1), (35, .getfield 65, 3), (38, .bipush 24, 2), (40, .iload_n 1, 1), (41, .imul, 1), (42, .iload_n 3, 1), (43, .iadd, 1), (44, .iload_n 2, 1), (45, .ifCond .ne 11, 3), (48, .lload 4, 2), (50, .l2i, 1), (51, .i2b, 1), (52, .i2l, 1), (53, .goto 30, 3), (56, .iload_n 2, 1), (57, .iconst 1, 1), (58, .if_icmp .ne 11, 3), (61, .lload 4, 2), (63, .l2i, 1)]
def k_168_2 : Cl := [(64, .i2s, 1), (65, .i2l, 1), (66, .goto 17, 3), (69, .iload_n 2, 1), (70, .iconst 2, 1), (71, .if_icmp .ne 10, 3), (74, .lload 4, 2), (76, .l2i, 1), (77, .i2l, 1), (78, .goto 5, 3), (81, .lload 4, 2), (83, .lastore, 1), (84, .iconst 1, 1), (85, .ireturn, 1)]
def r_168 : MR := (6, yX6_item, cX6_item, 7, (Option.some FieldType.int), [k_168_0, k_168_1, k_168_2])
abbrev Md_copy : Nat := 169
def k_169_0 : Cl := [(0, .iload_n 1, 1), (1, .invokestatic 246, 3), (4, .ifCond .eq 10, 3), (7, .iload_n 3, 1), (8, .invokestatic 246, 3), (11, .ifCond .ne 5, 3), (14, .iconst (-1), 1), (15, .ireturn, 1), (16, .aload_n 0, 1), (17, .getfield 59, 3), (20, .iload_n 1, 1), (21, .iaload, 1), (22, .ifCond .lt 12, 3), (25, .aload_n 0, 1), (26, .getfield 59, 3), (29, .iload_n 3, 1), (30, .iaload, 1), (31, .ifCond .ge 6, 3)]
def k_169_1 : Cl := [(34, .bipush (-11), 2), (36, .ireturn, 1), (37, .aload_n 0, 1), (38, .iload_n 3, 1), (39, .aload_n 0, 1), (40, .getfield 59, 3), (43, .iload_n 1, 1), (44, .iaload, 1), (45, .iload 4, 2), (47, .iload 5, 2), (49, .invokevirtual 252, 3), (52, .istore 6, 2), (54, .iload 6, 2), (56, .ifCond .ne 20, 3), (59, .aload_n 0, 1), (60, .iload_n 1, 1), (61, .aload_n 0, 1), (62, .getfield 59, 3)]
def k_169_2 : Cl := [(65, .iload_n 1, 1), (66, .iaload, 1), (67, .iload_n 2, 1), (68, .iload 5, 2), (70, .invokevirtual 252, 3), (73, .goto 5, 3), (76, .iload 6, 2), (78, .istore 6, 2), (80, .iload 6, 2), (82, .ifCond .ge 6, 3), (85, .iload 6, 2), (87, .ireturn, 1), (88, .iconst 0, 1), (89, .istore 7, 2), (91, .iload 7, 2), (93, .iload 5, 2), (95, .if_icmp .ge 30, 3)]
def k_169_3 : Cl := [(98, .aload_n 0, 1), (99, .getfield 68, 3), (102, .iload 7, 2), (104, .aload_n 0, 1), (105, .getfield 65, 3), (108, .bipush 24, 2), (110, .iload_n 1, 1), (111, .imul, 1), (112, .iload_n 2, 1), (113, .iadd, 1), (114, .iload 7, 2), (116, .iadd, 1), (117, .laload, 1), (118, .lastore, 1), (119, .iinc 7 1, 3), (122, .goto (-31), 3), (125, .iconst 0, 1), (126, .istore 7, 2)]
def k_169_4 : Cl := [(128, .iload 7, 2), (130, .iload 5, 2), (132, .if_icmp .ge 31, 3), (135, .aload_n 0, 1), (136, .getfield 65, 3), (139, .bipush 24, 2), (141, .iload_n 3, 1), (142, .imul, 1), (143, .iload 4, 2), (145, .iadd, 1), (146, .iload 7, 2), (148, .iadd, 1), (149, .aload_n 0, 1), (150, .getfield 68, 3), (153, .iload 7, 2), (155, .laload, 1), (156, .lastore, 1), (157, .iinc 7 1, 3)]
def k_169_5 : Cl := [(160, .goto (-32), 3), (163, .iload 5, 2), (165, .ireturn, 1)]
def r_169 : MR := (6, yX6_copy, cX6_copy, 8, (Option.some FieldType.int), [k_169_0, k_169_1, k_169_2, k_169_3, k_169_4, k_169_5])
abbrev Ji_bitCount : Nat := 170
def k_170_0 : Cl := [(0, .iload_n 0, 1), (1, .iload_n 0, 1), (2, .iconst 1, 1), (3, .iushr, 1), (4, .ldc_w 265, 3), (7, .iand, 1), (8, .isub, 1), (9, .istore_n 0, 1), (10, .iload_n 0, 1), (11, .ldc_w 266, 3), (14, .iand, 1), (15, .iload_n 0, 1), (16, .iconst 2, 1), (17, .iushr, 1), (18, .ldc_w 266, 3), (21, .iand, 1), (22, .iadd, 1), (23, .istore_n 0, 1), (24, .iload_n 0, 1), (25, .iload_n 0, 1), (26, .iconst 4, 1), (27, .iushr, 1), (28, .iadd, 1), (29, .ldc_w 267, 3)]
def k_170_1 : Cl := [(32, .iand, 1), (33, .istore_n 0, 1), (34, .iload_n 0, 1), (35, .iload_n 0, 1), (36, .bipush 8, 2), (38, .iushr, 1), (39, .iadd, 1), (40, .istore_n 0, 1), (41, .iload_n 0, 1), (42, .iload_n 0, 1), (43, .bipush 16, 2), (45, .iushr, 1), (46, .iadd, 1), (47, .istore_n 0, 1), (48, .iload_n 0, 1), (49, .bipush 63, 2), (51, .iand, 1), (52, .ireturn, 1)]
def r_170 : MR := (8, yJ6_bitCount_0f7a4, cJ6_bitCount_0f7a4, 1, (Option.some FieldType.int), [k_170_0, k_170_1])
def MRT (M : Nat) : MR := bif Nat.ble M 84 then (bif Nat.ble M 41 then (bif Nat.ble M 20 then (bif Nat.ble M 9 then (bif Nat.ble M 4 then (bif Nat.ble M 1 then (bif Nat.ble M 0 then (r_0) else (r_1)) else (bif Nat.ble M 2 then (r_2) else (bif Nat.ble M 3 then (r_3) else (r_4)))) else (bif Nat.ble M 6 then (bif Nat.ble M 5 then (r_5) else (r_6)) else (bif Nat.ble M 7 then (r_7) else (bif Nat.ble M 8 then (r_8) else (r_9))))) else (bif Nat.ble M 14 then (bif Nat.ble M 11 then (bif Nat.ble M 10 then (r_10) else (r_11)) else (bif Nat.ble M 12 then (r_12) else (bif Nat.ble M 13 then (r_13) else (r_14)))) else (bif Nat.ble M 17 then (bif Nat.ble M 15 then (r_15) else (bif Nat.ble M 16 then (r_16) else (r_17))) else (bif Nat.ble M 18 then (r_18) else (bif Nat.ble M 19 then (r_19) else (r_20)))))) else (bif Nat.ble M 30 then (bif Nat.ble M 25 then (bif Nat.ble M 22 then (bif Nat.ble M 21 then (r_21) else (r_22)) else (bif Nat.ble M 23 then (r_23) else (bif Nat.ble M 24 then (r_24) else (r_25)))) else (bif Nat.ble M 27 then (bif Nat.ble M 26 then (r_26) else (r_27)) else (bif Nat.ble M 28 then (r_28) else (bif Nat.ble M 29 then (r_29) else (r_30))))) else (bif Nat.ble M 35 then (bif Nat.ble M 32 then (bif Nat.ble M 31 then (r_31) else (r_32)) else (bif Nat.ble M 33 then (r_33) else (bif Nat.ble M 34 then (r_34) else (r_35)))) else (bif Nat.ble M 38 then (bif Nat.ble M 36 then (r_36) else (bif Nat.ble M 37 then (r_37) else (r_38))) else (bif Nat.ble M 39 then (r_39) else (bif Nat.ble M 40 then (r_40) else (r_41))))))) else (bif Nat.ble M 62 then (bif Nat.ble M 51 then (bif Nat.ble M 46 then (bif Nat.ble M 43 then (bif Nat.ble M 42 then (r_42) else (r_43)) else (bif Nat.ble M 44 then (r_44) else (bif Nat.ble M 45 then (r_45) else (r_46)))) else (bif Nat.ble M 48 then (bif Nat.ble M 47 then (r_47) else (r_48)) else (bif Nat.ble M 49 then (r_49) else (bif Nat.ble M 50 then (r_50) else (r_51))))) else (bif Nat.ble M 56 then (bif Nat.ble M 53 then (bif Nat.ble M 52 then (r_52) else (r_53)) else (bif Nat.ble M 54 then (r_54) else (bif Nat.ble M 55 then (r_55) else (r_56)))) else (bif Nat.ble M 59 then (bif Nat.ble M 57 then (r_57) else (bif Nat.ble M 58 then (r_58) else (r_59))) else (bif Nat.ble M 60 then (r_60) else (bif Nat.ble M 61 then (r_61) else (r_62)))))) else (bif Nat.ble M 73 then (bif Nat.ble M 67 then (bif Nat.ble M 64 then (bif Nat.ble M 63 then (r_63) else (r_64)) else (bif Nat.ble M 65 then (r_65) else (bif Nat.ble M 66 then (r_66) else (r_67)))) else (bif Nat.ble M 70 then (bif Nat.ble M 68 then (r_68) else (bif Nat.ble M 69 then (r_69) else (r_70))) else (bif Nat.ble M 71 then (r_71) else (bif Nat.ble M 72 then (r_72) else (r_73))))) else (bif Nat.ble M 78 then (bif Nat.ble M 75 then (bif Nat.ble M 74 then (r_74) else (r_75)) else (bif Nat.ble M 76 then (r_76) else (bif Nat.ble M 77 then (r_77) else (r_78)))) else (bif Nat.ble M 81 then (bif Nat.ble M 79 then (r_79) else (bif Nat.ble M 80 then (r_80) else (r_81))) else (bif Nat.ble M 82 then (r_82) else (bif Nat.ble M 83 then (r_83) else (r_84)))))))) else (bif Nat.ble M 127 then (bif Nat.ble M 105 then (bif Nat.ble M 94 then (bif Nat.ble M 89 then (bif Nat.ble M 86 then (bif Nat.ble M 85 then (r_85) else (r_86)) else (bif Nat.ble M 87 then (r_87) else (bif Nat.ble M 88 then (r_88) else (r_89)))) else (bif Nat.ble M 91 then (bif Nat.ble M 90 then (r_90) else (r_91)) else (bif Nat.ble M 92 then (r_92) else (bif Nat.ble M 93 then (r_93) else (r_94))))) else (bif Nat.ble M 99 then (bif Nat.ble M 96 then (bif Nat.ble M 95 then (r_95) else (r_96)) else (bif Nat.ble M 97 then (r_97) else (bif Nat.ble M 98 then (r_98) else (r_99)))) else (bif Nat.ble M 102 then (bif Nat.ble M 100 then (r_100) else (bif Nat.ble M 101 then (r_101) else (r_102))) else (bif Nat.ble M 103 then (r_103) else (bif Nat.ble M 104 then (r_104) else (r_105)))))) else (bif Nat.ble M 116 then (bif Nat.ble M 110 then (bif Nat.ble M 107 then (bif Nat.ble M 106 then (r_106) else (r_107)) else (bif Nat.ble M 108 then (r_108) else (bif Nat.ble M 109 then (r_109) else (r_110)))) else (bif Nat.ble M 113 then (bif Nat.ble M 111 then (r_111) else (bif Nat.ble M 112 then (r_112) else (r_113))) else (bif Nat.ble M 114 then (r_114) else (bif Nat.ble M 115 then (r_115) else (r_116))))) else (bif Nat.ble M 121 then (bif Nat.ble M 118 then (bif Nat.ble M 117 then (r_117) else (r_118)) else (bif Nat.ble M 119 then (r_119) else (bif Nat.ble M 120 then (r_120) else (r_121)))) else (bif Nat.ble M 124 then (bif Nat.ble M 122 then (r_122) else (bif Nat.ble M 123 then (r_123) else (r_124))) else (bif Nat.ble M 125 then (r_125) else (bif Nat.ble M 126 then (r_126) else (r_127))))))) else (bif Nat.ble M 148 then (bif Nat.ble M 137 then (bif Nat.ble M 132 then (bif Nat.ble M 129 then (bif Nat.ble M 128 then (r_128) else (r_129)) else (bif Nat.ble M 130 then (r_130) else (bif Nat.ble M 131 then (r_131) else (r_132)))) else (bif Nat.ble M 134 then (bif Nat.ble M 133 then (r_133) else (r_134)) else (bif Nat.ble M 135 then (r_135) else (bif Nat.ble M 136 then (r_136) else (r_137))))) else (bif Nat.ble M 142 then (bif Nat.ble M 139 then (bif Nat.ble M 138 then (r_138) else (r_139)) else (bif Nat.ble M 140 then (r_140) else (bif Nat.ble M 141 then (r_141) else (r_142)))) else (bif Nat.ble M 145 then (bif Nat.ble M 143 then (r_143) else (bif Nat.ble M 144 then (r_144) else (r_145))) else (bif Nat.ble M 146 then (r_146) else (bif Nat.ble M 147 then (r_147) else (r_148)))))) else (bif Nat.ble M 159 then (bif Nat.ble M 153 then (bif Nat.ble M 150 then (bif Nat.ble M 149 then (r_149) else (r_150)) else (bif Nat.ble M 151 then (r_151) else (bif Nat.ble M 152 then (r_152) else (r_153)))) else (bif Nat.ble M 156 then (bif Nat.ble M 154 then (r_154) else (bif Nat.ble M 155 then (r_155) else (r_156))) else (bif Nat.ble M 157 then (r_157) else (bif Nat.ble M 158 then (r_158) else (r_159))))) else (bif Nat.ble M 164 then (bif Nat.ble M 161 then (bif Nat.ble M 160 then (r_160) else (r_161)) else (bif Nat.ble M 162 then (r_162) else (bif Nat.ble M 163 then (r_163) else (r_164)))) else (bif Nat.ble M 167 then (bif Nat.ble M 165 then (r_165) else (bif Nat.ble M 166 then (r_166) else (r_167))) else (bif Nat.ble M 168 then (r_168) else (bif Nat.ble M 169 then (r_169) else (r_170))))))))
def nMS : Nat := 171
def RNf (c : Nat) : String := bif Nat.ble c 3 then (bif Nat.ble c 1 then (bif Nat.ble c 0 then (RX0) else (RX1)) else (bif Nat.ble c 2 then (RX2) else (RX3))) else (bif Nat.ble c 5 then (bif Nat.ble c 4 then (RX4) else (RX5)) else (bif Nat.ble c 6 then (RX6) else (bif Nat.ble c 7 then (RL) else (RJ6))))
/-- fields: by the class that names them and its entry: class, slot, kind (0 whole number, 1 reference, 2 boolean) -/
abbrev Fe : Type := Nat × Nat × Nat × Nat
def lkF : List Fe → Nat → Option (Nat × Nat × Nat)
  | [], _ => none
  | q :: t, i => bif Nat.beq q.1 i then some q.2 else lkF t i
def f_0 : List Fe := [(9, 0, 0, 1), (15, 0, 1, 1), (18, 0, 3, 1), (21, 0, 4, 1), (24, 0, 5, 1), (27, 0, 6, 1), (30, 0, 11, 0), (34, 0, 12, 1), (37, 0, 13, 1), (40, 0, 14, 1), (43, 0, 17, 2), (47, 0, 2, 0), (50, 0, 7, 0), (53, 0, 8, 0), (56, 0, 9, 0), (59, 0, 10, 0), (71, 0, 15, 0), (74, 0, 16, 0)]
def f_1 : List Fe := [(9, 1, 2, 1), (15, 1, 3, 1), (18, 1, 4, 1), (21, 1, 5, 1), (24, 1, 7, 1), (27, 1, 8, 1), (30, 1, 0, 1), (34, 1, 1, 1), (38, 4, 9, 0), (44, 4, 3, 1), (51, 1, 6, 0), (54, 4, 8, 0)]
def f_2 : List Fe := [(9, 2, 3, 1), (15, 2, 0, 2), (19, 2, 1, 0), (23, 2, 2, 0)]
def f_3 : List Fe := [(9, 3, 0, 1), (15, 3, 1, 0), (19, 3, 2, 0), (42, 0, 2, 0), (58, 0, 8, 0), (74, 0, 1, 1)]
def f_4 : List Fe := [(9, 4, 1, 1), (15, 4, 2, 1), (18, 4, 3, 1), (21, 4, 4, 1), (24, 4, 5, 1), (27, 4, 6, 1), (30, 4, 7, 1), (33, 4, 0, 1), (37, 0, 17, 2), (43, 4, 10, 0), (47, 4, 11, 0), (53, 4, 9, 0), (60, 0, 2, 0), (63, 4, 8, 0)]
def f_5 : List Fe := [(10, 5, 0, 1), (16, 5, 1, 1), (19, 5, 2, 1), (25, 5, 4, 1), (34, 5, 5, 1), (43, 5, 6, 1), (50, 5, 7, 1), (54, 0, 2, 0), (69, 0, 7, 0), (76, 0, 8, 0), (79, 0, 0, 1), (83, 0, 1, 1), (86, 0, 9, 0), (92, 0, 10, 0), (106, 0, 3, 1), (109, 0, 4, 1), (112, 0, 5, 1), (115, 0, 6, 1), (130, 0, 11, 0), (146, 0, 15, 0), (181, 4, 9, 0), (196, 1, 7, 1), (199, 1, 8, 1), (219, 5, 3, 2), (255, 2, 0, 2), (261, 2, 1, 0), (267, 2, 3, 1)]
def f_6 : List Fe := [(7, 6, 0, 1), (13, 6, 1, 1), (16, 6, 5, 1), (19, 6, 7, 1), (22, 6, 8, 1), (25, 6, 10, 1), (28, 6, 12, 1), (31, 6, 13, 1), (34, 6, 14, 1), (37, 6, 15, 1), (40, 6, 16, 1), (43, 6, 17, 1), (46, 6, 18, 1), (49, 6, 19, 1), (53, 6, 20, 1), (56, 6, 21, 1), (59, 6, 24, 1), (62, 6, 25, 1), (65, 6, 26, 1), (68, 6, 27, 1), (97, 6, 9, 0), (147, 6, 2, 0), (150, 6, 3, 0), (153, 6, 4, 2), (164, 6, 6, 0), (198, 6, 11, 0), (240, 6, 22, 0), (243, 6, 23, 2)]
def f_7 : List Fe := []
def f_8 : List Fe := []
def FTf (own i : Nat) : Option (Nat × Nat × Nat) := lkF (bif Nat.ble own 3 then (bif Nat.ble own 1 then (bif Nat.ble own 0 then (f_0) else (f_1)) else (bif Nat.ble own 2 then (f_2) else (f_3))) else (bif Nat.ble own 5 then (bif Nat.ble own 4 then (f_4) else (f_5)) else (bif Nat.ble own 6 then (f_6) else (bif Nat.ble own 7 then (f_7) else (f_8))))) i
def FTL : List (Nat × Nat × Nat × Nat × Nat × Nat) := [(5, 10, 5, 0, 1, 285), (5, 16, 5, 1, 1, 286), (5, 19, 5, 2, 1, 287), (5, 25, 5, 4, 1, 289), (5, 34, 5, 5, 1, 290), (5, 43, 5, 6, 1, 291), (5, 50, 5, 7, 1, 292), (5, 54, 0, 2, 0, 93), (5, 69, 0, 7, 0, 105), (5, 76, 0, 8, 0, 107), (5, 79, 0, 0, 1, 88), (5, 83, 0, 1, 1, 90), (5, 86, 0, 9, 0, 110), (5, 92, 0, 10, 0, 112), (5, 106, 0, 3, 1, 97), (5, 109, 0, 4, 1, 99), (5, 112, 0, 5, 1, 101), (5, 115, 0, 6, 1, 103), (5, 130, 0, 11, 0, 114), (5, 146, 0, 15, 0, 119), (5, 181, 4, 9, 0, 197), (5, 196, 1, 7, 1, 239), (5, 199, 1, 8, 1, 241), (5, 219, 5, 3, 2, 288), (5, 255, 2, 0, 2, 269), (5, 261, 2, 1, 0, 271), (5, 267, 2, 3, 1, 274), (0, 9, 0, 0, 1, 87), (0, 15, 0, 1, 1, 89), (0, 18, 0, 3, 1, 96), (0, 21, 0, 4, 1, 98), (0, 24, 0, 5, 1, 100), (0, 27, 0, 6, 1, 102), (0, 30, 0, 11, 0, 113), (0, 34, 0, 12, 1, 115), (0, 37, 0, 13, 1, 116), (0, 40, 0, 14, 1, 117), (0, 43, 0, 17, 2, 121), (0, 47, 0, 2, 0, 92), (0, 50, 0, 7, 0, 104), (0, 53, 0, 8, 0, 106), (0, 56, 0, 9, 0, 109), (0, 59, 0, 10, 0, 111), (0, 71, 0, 15, 0, 118), (0, 74, 0, 16, 0, 120), (1, 9, 1, 2, 1, 233), (1, 15, 1, 3, 1, 234), (1, 18, 1, 4, 1, 235), (1, 21, 1, 5, 1, 236), (1, 24, 1, 7, 1, 238), (1, 27, 1, 8, 1, 240), (1, 30, 1, 0, 1, 231), (1, 34, 1, 1, 1, 232), (1, 38, 4, 9, 0, 195), (1, 44, 4, 3, 1, 188), (1, 51, 1, 6, 0, 237), (1, 54, 4, 8, 0, 193), (2, 9, 2, 3, 1, 273), (2, 15, 2, 0, 2, 268), (2, 19, 2, 1, 0, 270), (2, 23, 2, 2, 0, 272), (3, 9, 3, 0, 1, 167), (3, 15, 3, 1, 0, 168), (3, 19, 3, 2, 0, 169), (3, 42, 0, 2, 0, 95), (3, 58, 0, 8, 0, 108), (3, 74, 0, 1, 1, 91), (4, 9, 4, 1, 1, 185), (4, 15, 4, 2, 1, 186), (4, 18, 4, 3, 1, 187), (4, 21, 4, 4, 1, 189), (4, 24, 4, 5, 1, 190), (4, 27, 4, 6, 1, 191), (4, 30, 4, 7, 1, 192), (4, 33, 4, 0, 1, 184), (4, 37, 0, 17, 2, 122), (4, 43, 4, 10, 0, 198), (4, 47, 4, 11, 0, 199), (4, 53, 4, 9, 0, 196), (4, 60, 0, 2, 0, 94), (4, 63, 4, 8, 0, 194), (6, 7, 6, 0, 1, 829), (6, 13, 6, 1, 1, 830), (6, 16, 6, 5, 1, 834), (6, 19, 6, 7, 1, 836), (6, 22, 6, 8, 1, 837), (6, 25, 6, 10, 1, 839), (6, 28, 6, 12, 1, 841), (6, 31, 6, 13, 1, 842), (6, 34, 6, 14, 1, 843), (6, 37, 6, 15, 1, 844), (6, 40, 6, 16, 1, 845), (6, 43, 6, 17, 1, 846), (6, 46, 6, 18, 1, 847), (6, 49, 6, 19, 1, 848), (6, 53, 6, 20, 1, 849), (6, 56, 6, 21, 1, 850), (6, 59, 6, 24, 1, 853), (6, 62, 6, 25, 1, 854), (6, 65, 6, 26, 1, 855), (6, 68, 6, 27, 1, 856), (6, 97, 6, 9, 0, 838), (6, 147, 6, 2, 0, 831), (6, 150, 6, 3, 0, 832), (6, 153, 6, 4, 2, 833), (6, 164, 6, 6, 0, 835), (6, 198, 6, 11, 0, 840), (6, 240, 6, 22, 0, 851), (6, 243, 6, 23, 2, 852)]
def lkV {α : Type} : List (Nat × α) → Nat → Option α
  | [], _ => none
  | q :: t, i => bif Nat.beq q.1 i then some q.2 else lkV t i
def l_0 : List (Nat × Int32) := [(110, 1103515245), (111, 2147483647), (112, 65536)]
def ll_0 : List (Nat × Int64) := []
def l_1 : List (Nat × Int32) := []
def ll_1 : List (Nat × Int64) := []
def l_2 : List (Nat × Int32) := []
def ll_2 : List (Nat × Int64) := []
def l_3 : List (Nat × Int32) := []
def ll_3 : List (Nat × Int64) := []
def l_4 : List (Nat × Int32) := [(89, 1000003)]
def ll_4 : List (Nat × Int64) := []
def l_5 : List (Nat × Int32) := []
def ll_5 : List (Nat × Int64) := [(205, -1), (277, 2520), (282, 10)]
def l_6 : List (Nat × Int32) := [(197, 65536), (201, 1000003)]
def ll_6 : List (Nat × Int64) := [(101, 4), (103, 3), (113, 2), (115, 15), (131, 5), (143, 32), (145, 126), (189, 40), (191, 1103515245), (193, 12345), (195, 2147483647), (222, 60), (235, -1), (233, 2520), (260, 8), (262, 10)]
def l_7 : List (Nat × Int32) := []
def ll_7 : List (Nat × Int64) := [(132, 4294967295)]
def l_8 : List (Nat × Int32) := [(265, 1431655765), (266, 858993459), (267, 252645135)]
def ll_8 : List (Nat × Int64) := []
def LCf (own i : Nat) : Option Int32 := lkV (bif Nat.ble own 3 then (bif Nat.ble own 1 then (bif Nat.ble own 0 then (l_0) else (l_1)) else (bif Nat.ble own 2 then (l_2) else (l_3))) else (bif Nat.ble own 5 then (bif Nat.ble own 4 then (l_4) else (l_5)) else (bif Nat.ble own 6 then (l_6) else (bif Nat.ble own 7 then (l_7) else (l_8))))) i
def LC2f (own i : Nat) : Option Int64 := lkV (bif Nat.ble own 3 then (bif Nat.ble own 1 then (bif Nat.ble own 0 then (ll_0) else (ll_1)) else (bif Nat.ble own 2 then (ll_2) else (ll_3))) else (bif Nat.ble own 5 then (bif Nat.ble own 4 then (ll_4) else (ll_5)) else (bif Nat.ble own 6 then (ll_6) else (bif Nat.ble own 7 then (ll_7) else (ll_8))))) i
def LCL : List (Nat × Nat × Int32 × Nat) := [(8, 265, 1431655765, 575), (8, 266, 858993459, 576), (8, 267, 252645135, 577), (0, 110, 1103515245, 591), (0, 111, 2147483647, 592), (0, 112, 65536, 593), (4, 89, 1000003, 638), (6, 197, 65536, 1069), (6, 201, 1000003, 1090)]
def LCL2 : List (Nat × Nat × Int64 × Nat) := [(5, 205, -1, 723), (5, 277, 2520, 730), (5, 282, 10, 777), (6, 101, 4, 918), (6, 103, 3, 922), (6, 113, 2, 935), (6, 115, 15, 936), (6, 131, 5, 987), (6, 143, 32, 1008), (6, 145, 126, 1009), (6, 189, 40, 1065), (6, 191, 1103515245, 1066), (6, 193, 12345, 1067), (6, 195, 2147483647, 1068), (6, 222, 60, 1123), (6, 235, -1, 1144), (6, 233, 2520, 1149), (6, 260, 8, 1176), (6, 262, 10, 1177), (7, 132, 4294967295, 1206)]
/-- calls: by the class that names them and its entry: kind (0 of an object, 1 static, 2 static of a nest mate), method, arguments -/
def c_0 : List Fe := [(89, 0, 12, 3), (81, 0, 3, 1), (77, 2, 89, 2), (97, 0, 13, 2), (93, 0, 14, 3), (101, 0, 7, 2), (62, 0, 18, 0), (85, 0, 11, 4), (104, 0, 16, 2), (107, 0, 19, 0), (113, 0, 15, 3), (116, 0, 35, 1)]
def c_1 : List Fe := [(61, 0, 23, 0), (47, 0, 24, 1), (57, 0, 52, 2), (64, 0, 8, 1), (70, 0, 25, 3), (74, 0, 28, 2), (78, 0, 30, 2), (82, 1, 53, 1)]
def c_2 : List Fe := [(26, 0, 33, 2)]
def c_3 : List Fe := [(22, 0, 1, 0), (27, 0, 39, 1), (35, 0, 45, 1), (66, 0, 43, 0), (47, 0, 46, 1), (51, 0, 47, 2), (55, 0, 5, 2), (31, 0, 44, 0), (39, 0, 40, 1), (61, 0, 41, 1), (70, 0, 3, 1), (78, 0, 42, 1), (82, 0, 6, 4)]
def c_4 : List Fe := [(50, 0, 49, 0), (66, 0, 22, 1), (70, 0, 50, 2), (74, 0, 12, 3), (78, 0, 15, 3), (82, 0, 14, 3), (56, 0, 51, 1), (85, 0, 52, 2), (90, 0, 8, 1), (93, 1, 53, 1), (97, 0, 54, 0)]
def c_5 : List Fe := [(58, 0, 18, 0), (61, 0, 5, 2), (65, 0, 3, 1), (72, 0, 6, 4), (89, 1, 89, 2), (95, 0, 11, 4), (99, 1, 88, 1), (103, 0, 4, 1), (118, 0, 7, 2), (122, 0, 37, 1), (126, 0, 38, 1), (133, 0, 2, 1), (136, 0, 8, 1), (139, 0, 9, 0), (143, 0, 10, 0), (149, 0, 19, 0), (152, 0, 15, 3), (156, 1, 170, 1), (162, 0, 17, 0), (165, 0, 20, 0), (168, 0, 48, 2), (172, 0, 54, 0), (175, 0, 56, 2), (178, 0, 57, 0), (184, 0, 55, 0), (187, 0, 26, 0), (190, 0, 92, 1), (193, 0, 27, 0), (202, 0, 29, 1), (207, 1, 94, 3), (211, 1, 93, 1), (215, 1, 95, 2), (223, 1, 90, 1), (226, 1, 91, 1), (229, 0, 34, 3), (232, 0, 21, 2), (236, 0, 96, 3), (279, 0, 35, 1), (240, 0, 99, 3), (284, 1, 97, 5), (244, 0, 98, 4), (248, 0, 36, 2), (252, 0, 31, 2), (258, 0, 32, 0), (264, 0, 33, 2)]
def c_6 : List Fe := [(71, 1, 100, 3), (105, 0, 113, 2), (109, 0, 101, 1), (117, 0, 114, 4), (90, 0, 103, 1), (79, 0, 104, 1), (75, 1, 106, 2), (125, 0, 118, 2), (121, 0, 110, 4), (86, 0, 109, 5), (83, 0, 105, 2), (93, 1, 108, 2), (128, 0, 102, 1), (133, 0, 107, 1), (136, 0, 121, 0), (140, 0, 122, 0), (173, 0, 128, 0), (157, 0, 125, 0), (160, 0, 126, 1), (167, 0, 127, 2), (176, 0, 130, 1), (170, 0, 129, 1), (179, 0, 132, 0), (182, 0, 111, 3), (186, 1, 112, 1), (206, 0, 140, 1), (202, 0, 139, 3), (210, 0, 141, 0), (213, 0, 142, 2), (219, 0, 146, 0), (216, 0, 145, 1), (230, 0, 152, 0), (224, 0, 151, 2), (227, 0, 150, 3), (237, 0, 154, 0), (246, 1, 158, 1), (249, 1, 159, 1), (252, 0, 160, 4), (264, 0, 163, 3), (256, 0, 162, 3)]
def c_7 : List Fe := [(13, 0, 58, 2), (18, 0, 59, 4), (23, 0, 60, 1), (28, 0, 61, 2), (32, 0, 62, 2), (36, 0, 63, 1), (40, 0, 64, 0), (45, 0, 65, 1), (49, 0, 66, 2), (53, 0, 67, 0), (57, 0, 68, 1), (61, 0, 69, 1), (65, 0, 70, 0), (69, 0, 71, 1), (73, 0, 72, 1), (77, 0, 73, 0), (81, 0, 74, 1), (85, 0, 75, 1), (89, 0, 76, 2), (93, 0, 77, 1), (97, 0, 78, 2), (102, 0, 79, 0), (106, 0, 80, 0), (110, 0, 81, 4), (114, 0, 82, 5), (119, 0, 83, 3), (124, 0, 84, 3), (128, 0, 85, 1), (134, 0, 86, 4), (139, 0, 87, 5), (17, 0, 115, 2), (22, 0, 116, 4), (27, 0, 117, 1), (31, 0, 119, 2), (35, 0, 120, 2), (48, 0, 123, 1), (39, 0, 124, 1), (44, 0, 131, 0), (52, 0, 133, 2), (56, 0, 134, 0), (60, 0, 135, 1), (64, 0, 136, 1), (68, 0, 137, 0), (72, 0, 138, 1), (76, 0, 143, 1), (80, 0, 144, 0), (84, 0, 147, 1), (88, 0, 148, 1), (92, 0, 149, 2), (96, 0, 153, 1), (101, 0, 155, 2), (105, 0, 156, 0), (109, 0, 157, 0), (113, 0, 161, 4), (118, 0, 164, 5), (123, 0, 165, 3), (127, 0, 166, 3), (131, 0, 167, 1), (138, 0, 168, 4), (142, 0, 169, 5)]
def c_8 : List Fe := []
def KTf (own i : Nat) : Option (Nat × Nat × Nat) := lkF (bif Nat.ble own 3 then (bif Nat.ble own 1 then (bif Nat.ble own 0 then (c_0) else (c_1)) else (bif Nat.ble own 2 then (c_2) else (c_3))) else (bif Nat.ble own 5 then (bif Nat.ble own 4 then (c_4) else (c_5)) else (bif Nat.ble own 6 then (c_6) else (bif Nat.ble own 7 then (c_7) else (c_8))))) i
def KTL : List (Nat × Nat × Nat × Nat × Nat × Nat × Nat × Nat) := [(7, 13, 0, 58, 2, 310, 311, 312), (5, 58, 0, 18, 0, 314, 315, 316), (5, 61, 0, 5, 2, 318, 319, 320), (7, 18, 0, 59, 4, 322, 323, 324), (5, 65, 0, 3, 1, 326, 327, 328), (5, 72, 0, 6, 4, 330, 331, 332), (7, 23, 0, 60, 1, 334, 335, 336), (7, 28, 0, 61, 2, 338, 339, 340), (5, 89, 1, 89, 2, 342, 343, 58), (5, 95, 0, 11, 4, 345, 346, 347), (0, 89, 0, 12, 3, 349, 350, 351), (0, 81, 0, 3, 1, 353, 327, 328), (0, 77, 2, 89, 2, 354, 343, 58), (0, 97, 0, 13, 2, 355, 357, 0), (0, 93, 0, 14, 3, 359, 360, 361), (0, 101, 0, 7, 2, 363, 364, 365), (5, 99, 1, 88, 1, 367, 368, 58), (7, 32, 0, 62, 2, 370, 371, 372), (5, 103, 0, 4, 1, 374, 375, 376), (5, 118, 0, 7, 2, 378, 364, 365), (7, 36, 0, 63, 1, 379, 380, 381), (5, 122, 0, 37, 1, 383, 384, 385), (7, 40, 0, 64, 0, 387, 388, 389), (5, 126, 0, 38, 1, 391, 392, 393), (3, 22, 0, 1, 0, 395, 396, 397), (0, 62, 0, 18, 0, 399, 315, 316), (3, 27, 0, 39, 1, 400, 402, 1), (3, 35, 0, 45, 1, 404, 406, 2), (3, 66, 0, 43, 0, 408, 410, 3), (3, 47, 0, 46, 1, 413, 415, 4), (3, 51, 0, 47, 2, 503, 505, 5), (3, 55, 0, 5, 2, 507, 319, 320), (3, 31, 0, 44, 0, 508, 510, 6), (3, 39, 0, 40, 1, 512, 514, 7), (3, 61, 0, 41, 1, 516, 518, 8), (3, 70, 0, 3, 1, 521, 327, 328), (3, 78, 0, 42, 1, 522, 524, 9), (3, 82, 0, 6, 4, 526, 331, 332), (5, 133, 0, 2, 1, 527, 528, 529), (7, 45, 0, 65, 1, 535, 536, 537), (5, 136, 0, 8, 1, 539, 540, 541), (5, 139, 0, 9, 0, 543, 544, 545), (5, 143, 0, 10, 0, 547, 548, 549), (0, 85, 0, 11, 4, 551, 346, 347), (7, 49, 0, 66, 2, 552, 553, 554), (5, 149, 0, 19, 0, 556, 557, 558), (5, 152, 0, 15, 3, 560, 561, 562), (0, 104, 0, 16, 2, 564, 566, 10), (7, 53, 0, 67, 0, 568, 569, 570), (5, 156, 1, 170, 1, 572, 573, 72), (7, 57, 0, 68, 1, 578, 579, 580), (7, 61, 0, 69, 1, 582, 583, 584), (5, 162, 0, 17, 0, 586, 587, 588), (0, 107, 0, 19, 0, 590, 557, 558), (0, 113, 0, 15, 3, 594, 561, 562), (7, 65, 0, 70, 0, 595, 596, 597), (5, 165, 0, 20, 0, 599, 600, 601), (7, 69, 0, 71, 1, 603, 604, 605), (7, 73, 0, 72, 1, 607, 608, 609), (5, 168, 0, 48, 2, 611, 612, 613), (4, 50, 0, 49, 0, 615, 617, 11), (4, 66, 0, 22, 1, 619, 620, 621), (4, 70, 0, 50, 2, 623, 625, 12), (4, 74, 0, 12, 3, 627, 350, 351), (4, 78, 0, 15, 3, 628, 561, 562), (4, 82, 0, 14, 3, 629, 360, 361), (4, 56, 0, 51, 1, 630, 632, 13), (4, 85, 0, 52, 2, 634, 635, 636), (5, 172, 0, 54, 0, 639, 640, 641), (4, 90, 0, 8, 1, 643, 540, 541), (5, 175, 0, 56, 2, 644, 645, 646), (4, 93, 1, 53, 1, 648, 649, 61), (7, 77, 0, 73, 0, 651, 652, 653), (5, 178, 0, 57, 0, 655, 656, 657), (4, 97, 0, 54, 0, 659, 640, 641), (7, 81, 0, 74, 1, 660, 661, 662), (5, 184, 0, 55, 0, 664, 665, 666), (5, 187, 0, 26, 0, 668, 669, 670), (1, 61, 0, 23, 0, 672, 674, 14), (1, 47, 0, 24, 1, 676, 678, 15), (1, 57, 0, 52, 2, 680, 635, 636), (1, 64, 0, 8, 1, 681, 540, 541), (1, 70, 0, 25, 3, 682, 684, 16), (7, 85, 0, 75, 1, 686, 687, 688), (5, 190, 0, 92, 1, 690, 692, 17), (7, 89, 0, 76, 2, 694, 695, 696), (7, 93, 0, 77, 1, 698, 699, 700), (5, 193, 0, 27, 0, 702, 703, 704), (1, 74, 0, 28, 2, 706, 708, 18), (5, 202, 0, 29, 1, 710, 711, 712), (1, 78, 0, 30, 2, 714, 716, 19), (1, 82, 1, 53, 1, 718, 649, 61), (7, 97, 0, 78, 2, 719, 720, 721), (5, 207, 1, 94, 3, 724, 725, 58), (5, 211, 1, 93, 1, 727, 728, 58), (5, 215, 1, 95, 2, 731, 732, 58), (7, 102, 0, 79, 0, 734, 735, 736), (7, 106, 0, 80, 0, 738, 739, 740), (7, 110, 0, 81, 4, 742, 743, 744), (5, 223, 1, 90, 1, 746, 747, 58), (5, 226, 1, 91, 1, 749, 750, 58), (5, 229, 0, 34, 3, 752, 753, 754), (2, 26, 0, 33, 2, 756, 757, 758), (5, 232, 0, 21, 2, 760, 761, 762), (0, 116, 0, 35, 1, 764, 765, 766), (7, 114, 0, 82, 5, 768, 769, 770), (5, 236, 0, 96, 3, 772, 774, 20), (5, 279, 0, 35, 1, 776, 765, 766), (5, 240, 0, 99, 3, 778, 780, 21), (5, 284, 1, 97, 5, 782, 783, 58), (5, 244, 0, 98, 4, 785, 787, 22), (7, 119, 0, 83, 3, 789, 790, 791), (5, 248, 0, 36, 2, 793, 794, 795), (7, 124, 0, 84, 3, 797, 798, 799), (5, 252, 0, 31, 2, 801, 802, 803), (7, 128, 0, 85, 1, 805, 806, 807), (5, 258, 0, 32, 0, 809, 810, 811), (7, 134, 0, 86, 4, 813, 814, 815), (7, 139, 0, 87, 5, 817, 818, 819), (5, 264, 0, 33, 2, 821, 757, 758), (7, 17, 0, 115, 2, 914, 915, 916), (6, 71, 1, 100, 3, 919, 920, 64), (6, 105, 0, 113, 2, 923, 925, 23), (7, 22, 0, 116, 4, 927, 928, 929), (6, 109, 0, 101, 1, 931, 933, 24), (6, 117, 0, 114, 4, 937, 939, 25), (7, 27, 0, 117, 1, 941, 942, 943), (7, 31, 0, 119, 2, 945, 946, 947), (6, 90, 0, 103, 1, 949, 951, 26), (6, 79, 0, 104, 1, 953, 955, 27), (6, 75, 1, 106, 2, 957, 958, 64), (6, 125, 0, 118, 2, 960, 962, 28), (6, 121, 0, 110, 4, 964, 966, 29), (6, 86, 0, 109, 5, 968, 970, 30), (6, 83, 0, 105, 2, 972, 974, 31), (6, 93, 1, 108, 2, 976, 977, 64), (7, 35, 0, 120, 2, 979, 980, 981), (6, 128, 0, 102, 1, 983, 985, 32), (7, 48, 0, 123, 1, 988, 989, 990), (6, 133, 0, 107, 1, 992, 994, 33), (6, 136, 0, 121, 0, 996, 998, 34), (6, 140, 0, 122, 0, 1000, 1002, 35), (7, 39, 0, 124, 1, 1004, 1005, 1006), (7, 44, 0, 131, 0, 1010, 1011, 1012), (6, 173, 0, 128, 0, 1014, 1016, 36), (6, 157, 0, 125, 0, 1018, 1020, 37), (6, 160, 0, 126, 1, 1022, 1024, 38), (6, 167, 0, 127, 2, 1026, 1028, 39), (6, 176, 0, 130, 1, 1030, 1032, 40), (6, 170, 0, 129, 1, 1034, 1036, 41), (7, 52, 0, 133, 2, 1038, 1039, 1040), (6, 179, 0, 132, 0, 1042, 1044, 42), (6, 182, 0, 111, 3, 1046, 1048, 43), (7, 56, 0, 134, 0, 1050, 1051, 1052), (6, 186, 1, 112, 1, 1054, 1055, 64), (7, 60, 0, 135, 1, 1057, 1058, 1059), (7, 64, 0, 136, 1, 1061, 1062, 1063), (7, 68, 0, 137, 0, 1070, 1071, 1072), (7, 72, 0, 138, 1, 1074, 1075, 1076), (7, 76, 0, 143, 1, 1078, 1079, 1080), (6, 206, 0, 140, 1, 1082, 1084, 44), (6, 202, 0, 139, 3, 1086, 1088, 45), (6, 210, 0, 141, 0, 1091, 1093, 46), (6, 213, 0, 142, 2, 1095, 1097, 47), (7, 80, 0, 144, 0, 1099, 1100, 1101), (7, 84, 0, 147, 1, 1103, 1104, 1105), (6, 219, 0, 146, 0, 1107, 1109, 48), (6, 216, 0, 145, 1, 1111, 1113, 49), (7, 88, 0, 148, 1, 1115, 1116, 1117), (7, 92, 0, 149, 2, 1119, 1120, 1121), (7, 96, 0, 153, 1, 1124, 1125, 1126), (6, 230, 0, 152, 0, 1128, 1130, 50), (6, 224, 0, 151, 2, 1132, 1134, 51), (6, 227, 0, 150, 3, 1136, 1138, 52), (7, 101, 0, 155, 2, 1140, 1141, 1142), (6, 237, 0, 154, 0, 1145, 1147, 53), (7, 105, 0, 156, 0, 1150, 1151, 1152), (7, 109, 0, 157, 0, 1154, 1155, 1156), (7, 113, 0, 161, 4, 1158, 1159, 1160), (6, 246, 1, 158, 1, 1162, 1163, 64), (6, 249, 1, 159, 1, 1165, 1166, 64), (6, 252, 0, 160, 4, 1168, 1170, 54), (7, 118, 0, 164, 5, 1172, 1173, 1174), (6, 264, 0, 163, 3, 1178, 1180, 55), (6, 256, 0, 162, 3, 1182, 1184, 56), (7, 123, 0, 165, 3, 1186, 1187, 1188), (7, 127, 0, 166, 3, 1190, 1191, 1192), (7, 131, 0, 167, 1, 1194, 1195, 1196), (7, 138, 0, 168, 4, 1198, 1199, 1200), (7, 142, 0, 169, 5, 1202, 1203, 1204)]
/-- what stands at each place: (0, class) an object, (1, n) ints, (2, n) chars, (3, n) longs, (4, n) sheets -/
def nID : Nat := 78
def SKt (i : Nat) : Nat × Nat := bif Nat.ble i 38 then (bif Nat.ble i 18 then (bif Nat.ble i 8 then (bif Nat.ble i 3 then (bif Nat.ble i 1 then (bif Nat.ble i 0 then ((0, 5)) else ((0, 0))) else (bif Nat.ble i 2 then ((1, 5)) else ((1, 5)))) else (bif Nat.ble i 5 then (bif Nat.ble i 4 then ((1, 6)) else ((1, 6))) else (bif Nat.ble i 6 then ((1, 6)) else (bif Nat.ble i 7 then ((1, 6)) else ((1, 8)))))) else (bif Nat.ble i 13 then (bif Nat.ble i 10 then (bif Nat.ble i 9 then ((1, 8)) else ((1, 8))) else (bif Nat.ble i 11 then ((0, 0)) else (bif Nat.ble i 12 then ((1, 5)) else ((1, 5))))) else (bif Nat.ble i 15 then (bif Nat.ble i 14 then ((1, 6)) else ((1, 6))) else (bif Nat.ble i 16 then ((1, 6)) else (bif Nat.ble i 17 then ((1, 6)) else ((1, 8))))))) else (bif Nat.ble i 28 then (bif Nat.ble i 23 then (bif Nat.ble i 20 then (bif Nat.ble i 19 then ((1, 8)) else ((1, 8))) else (bif Nat.ble i 21 then ((0, 0)) else (bif Nat.ble i 22 then ((1, 5)) else ((1, 5))))) else (bif Nat.ble i 25 then (bif Nat.ble i 24 then ((1, 6)) else ((1, 6))) else (bif Nat.ble i 26 then ((1, 6)) else (bif Nat.ble i 27 then ((1, 6)) else ((1, 8)))))) else (bif Nat.ble i 33 then (bif Nat.ble i 30 then (bif Nat.ble i 29 then ((1, 8)) else ((1, 8))) else (bif Nat.ble i 31 then ((0, 3)) else (bif Nat.ble i 32 then ((2, 90)) else ((0, 4))))) else (bif Nat.ble i 35 then (bif Nat.ble i 34 then ((1, 10240)) else ((1, 10240))) else (bif Nat.ble i 36 then ((1, 1024)) else (bif Nat.ble i 37 then ((1, 1024)) else ((1, 1024)))))))) else (bif Nat.ble i 57 then (bif Nat.ble i 47 then (bif Nat.ble i 42 then (bif Nat.ble i 40 then (bif Nat.ble i 39 then ((1, 1024)) else ((1, 1024))) else (bif Nat.ble i 41 then ((0, 1)) else ((1, 1024)))) else (bif Nat.ble i 44 then (bif Nat.ble i 43 then ((1, 10240)) else ((1, 1024))) else (bif Nat.ble i 45 then ((1, 1024)) else (bif Nat.ble i 46 then ((1, 1024)) else ((1, 1024)))))) else (bif Nat.ble i 52 then (bif Nat.ble i 49 then (bif Nat.ble i 48 then ((4, 4)) else ((0, 2))) else (bif Nat.ble i 50 then ((3, 24)) else (bif Nat.ble i 51 then ((0, 2)) else ((3, 24))))) else (bif Nat.ble i 54 then (bif Nat.ble i 53 then ((0, 2)) else ((3, 24))) else (bif Nat.ble i 55 then ((0, 2)) else (bif Nat.ble i 56 then ((3, 24)) else ((0, 6))))))) else (bif Nat.ble i 67 then (bif Nat.ble i 62 then (bif Nat.ble i 59 then (bif Nat.ble i 58 then ((1, 40)) else ((1, 90))) else (bif Nat.ble i 60 then ((1, 10)) else (bif Nat.ble i 61 then ((1, 24)) else ((1, 24))))) else (bif Nat.ble i 64 then (bif Nat.ble i 63 then ((1, 1024)) else ((1, 1024))) else (bif Nat.ble i 65 then ((1, 1024)) else (bif Nat.ble i 66 then ((1, 1024)) else ((1, 1024)))))) else (bif Nat.ble i 72 then (bif Nat.ble i 69 then (bif Nat.ble i 68 then ((1, 10240)) else ((1, 1024))) else (bif Nat.ble i 70 then ((1, 1024)) else (bif Nat.ble i 71 then ((3, 1024)) else ((3, 1024))))) else (bif Nat.ble i 74 then (bif Nat.ble i 73 then ((1, 64)) else ((1, 4))) else (bif Nat.ble i 75 then ((1, 4)) else (bif Nat.ble i 76 then ((3, 96)) else ((3, 24))))))))
def SKf (i : Nat) : Option (Nat × Nat) := bif Nat.ble nID i then none else some (SKt i)
def lkR : List (Nat × Nat) → Nat → Option Nat
  | [], _ => none
  | q :: t, i => bif Nat.beq q.1 i then some q.2 else lkR t i
def rr_0 : List (Nat × Nat) := [(0, 1), (1, 11), (2, 21), (4, 31), (5, 33), (6, 41), (7, 48)]
def rr_1 : List (Nat × Nat) := [(0, 2), (1, 3), (3, 4), (4, 5), (5, 6), (6, 7), (12, 8), (13, 9), (14, 10)]
def rr_11 : List (Nat × Nat) := [(0, 12), (1, 13), (3, 14), (4, 15), (5, 16), (6, 17), (12, 18), (13, 19), (14, 20)]
def rr_21 : List (Nat × Nat) := [(0, 22), (1, 23), (3, 24), (4, 25), (5, 26), (6, 27), (12, 28), (13, 29), (14, 30)]
def rr_31 : List (Nat × Nat) := [(0, 32)]
def rr_33 : List (Nat × Nat) := [(0, 1), (1, 34), (2, 35), (3, 36), (4, 37), (5, 38), (6, 39), (7, 40)]
def rr_41 : List (Nat × Nat) := [(0, 1), (1, 33), (2, 42), (3, 43), (4, 44), (5, 45), (7, 46), (8, 47)]
def rr_48 : List (Nat × Nat) := [(0, 49), (1, 51), (2, 53), (3, 55)]
def rr_49 : List (Nat × Nat) := [(3, 50)]
def rr_51 : List (Nat × Nat) := [(3, 52)]
def rr_53 : List (Nat × Nat) := [(3, 54)]
def rr_55 : List (Nat × Nat) := [(3, 56)]
def rr_57 : List (Nat × Nat) := [(0, 58), (1, 59), (5, 60), (7, 61), (8, 62), (10, 63), (12, 64), (13, 65), (14, 66), (15, 67), (16, 68), (17, 69), (18, 70), (19, 71), (20, 72), (21, 73), (24, 74), (25, 75), (26, 76), (27, 77)]
def R0t (i : Nat) : List (Nat × Nat) := bif Nat.ble i 38 then (bif Nat.ble i 18 then (bif Nat.ble i 8 then (bif Nat.ble i 3 then (bif Nat.ble i 1 then (bif Nat.ble i 0 then (rr_0) else (rr_1)) else (bif Nat.ble i 2 then ([]) else ([]))) else (bif Nat.ble i 5 then (bif Nat.ble i 4 then ([]) else ([])) else (bif Nat.ble i 6 then ([]) else (bif Nat.ble i 7 then ([]) else ([]))))) else (bif Nat.ble i 13 then (bif Nat.ble i 10 then (bif Nat.ble i 9 then ([]) else ([])) else (bif Nat.ble i 11 then (rr_11) else (bif Nat.ble i 12 then ([]) else ([])))) else (bif Nat.ble i 15 then (bif Nat.ble i 14 then ([]) else ([])) else (bif Nat.ble i 16 then ([]) else (bif Nat.ble i 17 then ([]) else ([])))))) else (bif Nat.ble i 28 then (bif Nat.ble i 23 then (bif Nat.ble i 20 then (bif Nat.ble i 19 then ([]) else ([])) else (bif Nat.ble i 21 then (rr_21) else (bif Nat.ble i 22 then ([]) else ([])))) else (bif Nat.ble i 25 then (bif Nat.ble i 24 then ([]) else ([])) else (bif Nat.ble i 26 then ([]) else (bif Nat.ble i 27 then ([]) else ([]))))) else (bif Nat.ble i 33 then (bif Nat.ble i 30 then (bif Nat.ble i 29 then ([]) else ([])) else (bif Nat.ble i 31 then (rr_31) else (bif Nat.ble i 32 then ([]) else (rr_33)))) else (bif Nat.ble i 35 then (bif Nat.ble i 34 then ([]) else ([])) else (bif Nat.ble i 36 then ([]) else (bif Nat.ble i 37 then ([]) else ([]))))))) else (bif Nat.ble i 57 then (bif Nat.ble i 47 then (bif Nat.ble i 42 then (bif Nat.ble i 40 then (bif Nat.ble i 39 then ([]) else ([])) else (bif Nat.ble i 41 then (rr_41) else ([]))) else (bif Nat.ble i 44 then (bif Nat.ble i 43 then ([]) else ([])) else (bif Nat.ble i 45 then ([]) else (bif Nat.ble i 46 then ([]) else ([]))))) else (bif Nat.ble i 52 then (bif Nat.ble i 49 then (bif Nat.ble i 48 then (rr_48) else (rr_49)) else (bif Nat.ble i 50 then ([]) else (bif Nat.ble i 51 then (rr_51) else ([])))) else (bif Nat.ble i 54 then (bif Nat.ble i 53 then (rr_53) else ([])) else (bif Nat.ble i 55 then (rr_55) else (bif Nat.ble i 56 then ([]) else (rr_57)))))) else (bif Nat.ble i 67 then (bif Nat.ble i 62 then (bif Nat.ble i 59 then (bif Nat.ble i 58 then ([]) else ([])) else (bif Nat.ble i 60 then ([]) else (bif Nat.ble i 61 then ([]) else ([])))) else (bif Nat.ble i 64 then (bif Nat.ble i 63 then ([]) else ([])) else (bif Nat.ble i 65 then ([]) else (bif Nat.ble i 66 then ([]) else ([]))))) else (bif Nat.ble i 72 then (bif Nat.ble i 69 then (bif Nat.ble i 68 then ([]) else ([])) else (bif Nat.ble i 70 then ([]) else (bif Nat.ble i 71 then ([]) else ([])))) else (bif Nat.ble i 74 then (bif Nat.ble i 73 then ([]) else ([])) else (bif Nat.ble i 75 then ([]) else (bif Nat.ble i 76 then ([]) else ([])))))))
def R0 (i k : Nat) : Option Nat := lkR (R0t i) k
def nFf (c : Nat) : Nat := bif Nat.ble c 3 then (bif Nat.ble c 1 then (bif Nat.ble c 0 then (18) else (9)) else (bif Nat.ble c 2 then (4) else (3))) else (bif Nat.ble c 5 then (bif Nat.ble c 4 then (12) else (8)) else (bif Nat.ble c 6 then (28) else (0)))
def kd_0 (k : Nat) : Nat := bif Nat.ble k 8 then (bif Nat.ble k 3 then (bif Nat.ble k 1 then (bif Nat.ble k 0 then (1) else (1)) else (bif Nat.ble k 2 then (0) else (1))) else (bif Nat.ble k 5 then (bif Nat.ble k 4 then (1) else (1)) else (bif Nat.ble k 6 then (1) else (bif Nat.ble k 7 then (0) else (0))))) else (bif Nat.ble k 13 then (bif Nat.ble k 10 then (bif Nat.ble k 9 then (0) else (0)) else (bif Nat.ble k 11 then (0) else (bif Nat.ble k 12 then (1) else (1)))) else (bif Nat.ble k 15 then (bif Nat.ble k 14 then (1) else (0)) else (bif Nat.ble k 16 then (0) else (bif Nat.ble k 17 then (2) else (0)))))
def kd_1 (k : Nat) : Nat := bif Nat.ble k 4 then (bif Nat.ble k 1 then (bif Nat.ble k 0 then (1) else (1)) else (bif Nat.ble k 2 then (1) else (bif Nat.ble k 3 then (1) else (1)))) else (bif Nat.ble k 6 then (bif Nat.ble k 5 then (1) else (0)) else (bif Nat.ble k 7 then (1) else (bif Nat.ble k 8 then (1) else (0))))
def kd_2 (k : Nat) : Nat := bif Nat.ble k 1 then (bif Nat.ble k 0 then (2) else (0)) else (bif Nat.ble k 2 then (0) else (bif Nat.ble k 3 then (1) else (0)))
def kd_3 (k : Nat) : Nat := bif Nat.ble k 1 then (bif Nat.ble k 0 then (1) else (0)) else (bif Nat.ble k 2 then (0) else (0))
def kd_4 (k : Nat) : Nat := bif Nat.ble k 5 then (bif Nat.ble k 2 then (bif Nat.ble k 0 then (1) else (bif Nat.ble k 1 then (1) else (1))) else (bif Nat.ble k 3 then (1) else (bif Nat.ble k 4 then (1) else (1)))) else (bif Nat.ble k 8 then (bif Nat.ble k 6 then (1) else (bif Nat.ble k 7 then (1) else (0))) else (bif Nat.ble k 10 then (bif Nat.ble k 9 then (0) else (0)) else (bif Nat.ble k 11 then (0) else (0))))
def kd_5 (k : Nat) : Nat := bif Nat.ble k 3 then (bif Nat.ble k 1 then (bif Nat.ble k 0 then (1) else (1)) else (bif Nat.ble k 2 then (1) else (2))) else (bif Nat.ble k 5 then (bif Nat.ble k 4 then (1) else (1)) else (bif Nat.ble k 6 then (1) else (bif Nat.ble k 7 then (1) else (0))))
def kd_6 (k : Nat) : Nat := bif Nat.ble k 13 then (bif Nat.ble k 6 then (bif Nat.ble k 2 then (bif Nat.ble k 0 then (1) else (bif Nat.ble k 1 then (1) else (0))) else (bif Nat.ble k 4 then (bif Nat.ble k 3 then (0) else (2)) else (bif Nat.ble k 5 then (1) else (0)))) else (bif Nat.ble k 9 then (bif Nat.ble k 7 then (1) else (bif Nat.ble k 8 then (1) else (0))) else (bif Nat.ble k 11 then (bif Nat.ble k 10 then (1) else (0)) else (bif Nat.ble k 12 then (1) else (1))))) else (bif Nat.ble k 20 then (bif Nat.ble k 16 then (bif Nat.ble k 14 then (1) else (bif Nat.ble k 15 then (1) else (1))) else (bif Nat.ble k 18 then (bif Nat.ble k 17 then (1) else (1)) else (bif Nat.ble k 19 then (1) else (1)))) else (bif Nat.ble k 24 then (bif Nat.ble k 22 then (bif Nat.ble k 21 then (1) else (0)) else (bif Nat.ble k 23 then (2) else (1))) else (bif Nat.ble k 26 then (bif Nat.ble k 25 then (1) else (1)) else (bif Nat.ble k 27 then (1) else (0)))))
def kdf (c k : Nat) : Nat := bif Nat.ble c 3 then (bif Nat.ble c 1 then (bif Nat.ble c 0 then (kd_0 k) else (kd_1 k)) else (bif Nat.ble c 2 then (kd_2 k) else (kd_3 k))) else (bif Nat.ble c 5 then (bif Nat.ble c 4 then (kd_4 k) else (kd_5 k)) else (bif Nat.ble c 6 then (kd_6 k) else (0)))
end
section
/-! numbers as written, rows of instructions -/
def owM (M : Nat) : Nat := (MRT M).1
def yM (M : Nat) : MethodName := (MRT M).2.1
def bM (M : Nat) : ByteArray := (MRT M).2.2.1
def mlM (M : Nat) : Nat := (MRT M).2.2.2.1
def rtM (M : Nat) : Option FieldType := (MRT M).2.2.2.2.1
def lkI : Cl → Nat → Option (Instr × Nat)
  | [], _ => none
  | q :: t, pc => bif Nat.beq q.1 pc then some q.2 else lkI t pc
def nthC : Ct → Nat → Cl
  | [], _ => []
  | c :: _, 0 => c
  | _ :: t, n + 1 => nthC t n
def fetch (M pc : Nat) : Option (Instr × Nat) := lkI (nthC (MRT M).2.2.2.2.2 (pc / 32)) pc
/-- a written number -/
def iK (k : Int) : Int32 := match k with
  | .ofNat n => OfNat.ofNat n
  | .negSucc n => -(OfNat.ofNat (n + 1))
def lK (n : Nat) : Int64 := OfNat.ofNat n
def tg (pc : Nat) (off : Int) : Nat := ((pc : Int) + off).toNat
def ilen (i : Instr) : Nat := match i with
  | .bipush _ => 2 | .iload _ => 2 | .istore _ => 2 | .lload _ => 2 | .lstore _ => 2 | .aload _ => 2 | .astore _ => 2 | .ldc _ => 2
  | .sipush _ => 3 | .iinc _ _ => 3 | .getfield _ => 3 | .putfield _ => 3 | .invokevirtual _ => 3 | .invokestatic _ => 3 | .invokespecial _ => 3 | .ldc_w _ => 3 | .ldc2_w _ => 3 | .goto _ => 3 | .ifCond _ _ => 3 | .if_icmp _ _ => 3 | .new _ => 3 | .anewarray _ => 3
  | .newarray _ => 2
  | _ => 1
/-- what is asked of a row of the tables of instructions -/
def okIns (pc : Nat) (i : Instr) (n : Nat) : Bool := match i with
  | .iconst k => Nat.beq n 1 && decide (Int32.ofInt k = iK k)
  | .bipush k => Nat.beq n 2 && decide ((Int8.ofInt k).toInt32 = iK k)
  | .sipush k => Nat.beq n 3 && decide ((Int16.ofInt k).toInt32 = iK k)
  | .iinc _ k => Nat.beq n 3 && decide (Int32.ofInt k = iK k)
  | .ifCond _ off => Nat.beq n 3 && decide ((pc : Int) + off = (tg pc off : Int))
  | .if_icmp _ off => Nat.beq n 3 && decide ((pc : Int) + off = (tg pc off : Int))
  | .goto off => Nat.beq n 3 && decide ((pc : Int) + off = (tg pc off : Int))
  | .tableswitch d lo hi offs => decide (lo = 0) && decide (hi + 1 = offs.size) && decide (offs.size < 1000) && decide ((pc : Int) + d = (tg pc d : Int)) && offs.toList.all (fun off => decide ((pc : Int) + off = (tg pc off : Int)))
  | i => Nat.beq n (ilen i)
end
section
def lw_good : List Jvm.Cond := lw_tbl.filter goodWord
def wsM (M : Nat) : List Jvm.Cond := Jvm.Cond.code (yM M) (bM M) (mlM M) (rtM M) :: lw_good
theorem good_at {i : Nat} {w : Jvm.Cond} (h : lw_tbl[i]? = some w) (hg : goodWord w = true) : w ∈ lw_good := List.mem_filter.mpr ⟨List.mem_of_getElem? h, hg⟩
theorem bif_p {α : Sort _} {P : α → Prop} {b : Bool} {x y : α} (hx : P x) (hy : P y) : P (bif b then x else y) := by cases b <;> assumption
theorem bif_p2 {α β : Sort _} {P : α → β → Prop} {b : Bool} {x y : α} {z w : β} (hx : P x z) (hy : P y w) : P (bif b then x else y) (bif b then z else w) := by cases b <;> assumption
def zAll {α β : Type} (f : α → β → Bool) : List α → List β → Bool
  | [], _ => true
  | a :: t, b :: u => f a b && zAll f t u
  | _ :: _, [] => false
theorem zAll_mem {α β : Type} {f : α → β → Bool} {l : List α} {m : List β} (h : zAll f l m = true) {a : α} (ha : a ∈ l) : ∃ b, f a b = true := by
  induction l generalizing m with
  | nil => cases ha
  | cons x t ih =>
    cases m with
    | nil => simp [zAll] at h
    | cons y u =>
      simp only [zAll, Bool.and_eq_true] at h
      rcases List.mem_cons.mp ha with rfl | hm
      · exact ⟨y, h.1⟩
      · exact ih h.2 hm
theorem lkF_mem {l : List Fe} {i : Nat} {x : Nat × Nat × Nat} (h : lkF l i = some x) : (i, x) ∈ l := by
  induction l with
  | nil => cases h
  | cons q t ih =>
    simp only [lkF] at h
    cases hb : Nat.beq q.1 i with
    | true =>
      rw [hb] at h
      have e1 : q.1 = i := Nat.eq_of_beq_eq_true hb
      have e2 : q.2 = x := Option.some.inj h
      rw [← e1, ← e2]
      exact List.mem_cons_self
    | false =>
      rw [hb] at h
      exact List.mem_cons_of_mem _ (ih h)
theorem lkV_mem {α : Type} {l : List (Nat × α)} {i : Nat} {x : α} (h : lkV l i = some x) : (i, x) ∈ l := by
  induction l with
  | nil => cases h
  | cons q t ih =>
    simp only [lkV] at h
    cases hb : Nat.beq q.1 i with
    | true =>
      rw [hb] at h
      have e1 : q.1 = i := Nat.eq_of_beq_eq_true hb
      have e2 : q.2 = x := Option.some.inj h
      rw [← e1, ← e2]
      exact List.mem_cons_self
    | false =>
      rw [hb] at h
      exact List.mem_cons_of_mem _ (ih h)
theorem lkI_mem {l : Cl} {i : Nat} {x : Instr × Nat} (h : lkI l i = some x) : (i, x) ∈ l := by
  induction l with
  | nil => cases h
  | cons q t ih =>
    simp only [lkI] at h
    cases hb : Nat.beq q.1 i with
    | true =>
      rw [hb] at h
      have e1 : q.1 = i := Nat.eq_of_beq_eq_true hb
      have e2 : q.2 = x := Option.some.inj h
      rw [← e1, ← e2]
      exact List.mem_cons_self
    | false =>
      rw [hb] at h
      exact List.mem_cons_of_mem _ (ih h)
theorem nthC_mem {ct : Ct} {n : Nat} {q : Nat × Instr × Nat} (h : q ∈ nthC ct n) : ∃ cl ∈ ct, q ∈ cl := by
  induction ct generalizing n with
  | nil => cases h
  | cons c t ih =>
    cases n with
    | zero => exact ⟨c, List.mem_cons_self, h⟩
    | succ n =>
      obtain ⟨cl, h1, h2⟩ := ih (n := n) h
      exact ⟨cl, List.mem_cons_of_mem _ h1, h2⟩
/-- the rows of instructions -/
def okCl (b : ByteArray) (cl : Cl) : Bool := cl.all (fun q => decide (decode b q.1 = .ok q.2) && okIns q.1 q.2.1 q.2.2)
def okCd (r : MR) : Bool := r.2.2.2.2.2.all (fun cl => okCl r.2.2.1 cl)
/-- the words of a method -/
def okMr (r : MR) (p : Nat × Nat) : Bool := decide (lw_tbl[p.1]? = some (.code r.2.1 r.2.2.1 r.2.2.2.1 r.2.2.2.2.1)) && decide (lw_tbl[p.2]? = some (.initialized r.2.1.cls)) && plainName r.2.1.cls && decide (r.2.1.cls = RNf r.1) && decide (r.2.1.cls ≠ "java/lang/invoke/MethodHandle") && decide (r.2.1.cls ≠ "java/lang/invoke/VarHandle")
theorem kc_0_0 : okCl cL_law k_0_0 = true := by decide +kernel
theorem kc_0_1 : okCl cL_law k_0_1 = true := by decide +kernel
theorem kc_0_2 : okCl cL_law k_0_2 = true := by decide +kernel
theorem kc_0_3 : okCl cL_law k_0_3 = true := by decide +kernel
theorem kc_0_4 : okCl cL_law k_0_4 = true := by decide +kernel
theorem kc_0_5 : okCl cL_law k_0_5 = true := by decide +kernel
theorem kc_0_6 : okCl cL_law k_0_6 = true := by decide +kernel
theorem kc_0_7 : okCl cL_law k_0_7 = true := by decide +kernel
theorem kc_0_8 : okCl cL_law k_0_8 = true := by decide +kernel
theorem kc_0_9 : okCl cL_law k_0_9 = true := by decide +kernel
theorem kc_0_10 : okCl cL_law k_0_10 = true := by decide +kernel
theorem kc_0_11 : okCl cL_law k_0_11 = true := by decide +kernel
theorem kc_0_12 : okCl cL_law k_0_12 = true := by decide +kernel
theorem kc_0_13 : okCl cL_law k_0_13 = true := by decide +kernel
theorem kc_0_14 : okCl cL_law k_0_14 = true := by decide +kernel
theorem kc_0_15 : okCl cL_law k_0_15 = true := by decide +kernel
theorem kc_0_16 : okCl cL_law k_0_16 = true := by decide +kernel
theorem kc_0_17 : okCl cL_law k_0_17 = true := by decide +kernel
theorem kc_0_18 : okCl cL_law k_0_18 = true := by decide +kernel
theorem kc_0_19 : okCl cL_law k_0_19 = true := by decide +kernel
theorem kc_0_20 : okCl cL_law k_0_20 = true := by decide +kernel
theorem kc_0_21 : okCl cL_law k_0_21 = true := by decide +kernel
theorem kc_0_22 : okCl cL_law k_0_22 = true := by decide +kernel
theorem kc_0_23 : okCl cL_law k_0_23 = true := by decide +kernel
theorem kc_0_24 : okCl cL_law k_0_24 = true := by decide +kernel
theorem kc_0_25 : okCl cL_law k_0_25 = true := by decide +kernel
theorem kc_0_26 : okCl cL_law k_0_26 = true := by decide +kernel
theorem kc_0_27 : okCl cL_law k_0_27 = true := by decide +kernel
theorem kc_0_28 : okCl cL_law k_0_28 = true := by decide +kernel
theorem kc_0_29 : okCl cL_law k_0_29 = true := by decide +kernel
theorem kc_0_30 : okCl cL_law k_0_30 = true := by decide +kernel
theorem kc_0_31 : okCl cL_law k_0_31 = true := by decide +kernel
theorem kc_0_32 : okCl cL_law k_0_32 = true := by decide +kernel
theorem kc_0_33 : okCl cL_law k_0_33 = true := by decide +kernel
theorem kc_0_34 : okCl cL_law k_0_34 = true := by decide +kernel
theorem kc_0 : okCd r_0 = true := List.all_eq_true.mpr (List.forall_mem_cons.mpr ⟨kc_0_0, List.forall_mem_cons.mpr ⟨kc_0_1, List.forall_mem_cons.mpr ⟨kc_0_2, List.forall_mem_cons.mpr ⟨kc_0_3, List.forall_mem_cons.mpr ⟨kc_0_4, List.forall_mem_cons.mpr ⟨kc_0_5, List.forall_mem_cons.mpr ⟨kc_0_6, List.forall_mem_cons.mpr ⟨kc_0_7, List.forall_mem_cons.mpr ⟨kc_0_8, List.forall_mem_cons.mpr ⟨kc_0_9, List.forall_mem_cons.mpr ⟨kc_0_10, List.forall_mem_cons.mpr ⟨kc_0_11, List.forall_mem_cons.mpr ⟨kc_0_12, List.forall_mem_cons.mpr ⟨kc_0_13, List.forall_mem_cons.mpr ⟨kc_0_14, List.forall_mem_cons.mpr ⟨kc_0_15, List.forall_mem_cons.mpr ⟨kc_0_16, List.forall_mem_cons.mpr ⟨kc_0_17, List.forall_mem_cons.mpr ⟨kc_0_18, List.forall_mem_cons.mpr ⟨kc_0_19, List.forall_mem_cons.mpr ⟨kc_0_20, List.forall_mem_cons.mpr ⟨kc_0_21, List.forall_mem_cons.mpr ⟨kc_0_22, List.forall_mem_cons.mpr ⟨kc_0_23, List.forall_mem_cons.mpr ⟨kc_0_24, List.forall_mem_cons.mpr ⟨kc_0_25, List.forall_mem_cons.mpr ⟨kc_0_26, List.forall_mem_cons.mpr ⟨kc_0_27, List.forall_mem_cons.mpr ⟨kc_0_28, List.forall_mem_cons.mpr ⟨kc_0_29, List.forall_mem_cons.mpr ⟨kc_0_30, List.forall_mem_cons.mpr ⟨kc_0_31, List.forall_mem_cons.mpr ⟨kc_0_32, List.forall_mem_cons.mpr ⟨kc_0_33, List.forall_mem_cons.mpr ⟨kc_0_34, fun _ h => absurd h List.not_mem_nil⟩⟩⟩⟩⟩⟩⟩⟩⟩⟩⟩⟩⟩⟩⟩⟩⟩⟩⟩⟩⟩⟩⟩⟩⟩⟩⟩⟩⟩⟩⟩⟩⟩⟩⟩)
theorem kc_1 : okCd r_1 = true := by decide +kernel
theorem kc_2_0 : okCl cX0_becomes k_2_0 = true := by decide +kernel
theorem kc_2_1 : okCl cX0_becomes k_2_1 = true := by decide +kernel
theorem kc_2_2 : okCl cX0_becomes k_2_2 = true := by decide +kernel
theorem kc_2_3 : okCl cX0_becomes k_2_3 = true := by decide +kernel
theorem kc_2_4 : okCl cX0_becomes k_2_4 = true := by decide +kernel
theorem kc_2_5 : okCl cX0_becomes k_2_5 = true := by decide +kernel
theorem kc_2_6 : okCl cX0_becomes k_2_6 = true := by decide +kernel
theorem kc_2 : okCd r_2 = true := List.all_eq_true.mpr (List.forall_mem_cons.mpr ⟨kc_2_0, List.forall_mem_cons.mpr ⟨kc_2_1, List.forall_mem_cons.mpr ⟨kc_2_2, List.forall_mem_cons.mpr ⟨kc_2_3, List.forall_mem_cons.mpr ⟨kc_2_4, List.forall_mem_cons.mpr ⟨kc_2_5, List.forall_mem_cons.mpr ⟨kc_2_6, fun _ h => absurd h List.not_mem_nil⟩⟩⟩⟩⟩⟩⟩)
theorem kc_3 : okCd r_3 = true := by decide +kernel
theorem kc_4 : okCd r_4 = true := by decide +kernel
theorem kc_5 : okCd r_5 = true := by decide +kernel
theorem kc_6 : okCd r_6 = true := by decide +kernel
theorem kc_7 : okCd r_7 = true := by decide +kernel
theorem kc_8 : okCd r_8 = true := by decide +kernel
theorem kc_9 : okCd r_9 = true := by decide +kernel
theorem kc_10 : okCd r_10 = true := by decide +kernel
theorem kc_11 : okCd r_11 = true := by decide +kernel
theorem kc_12 : okCd r_12 = true := by decide +kernel
theorem kc_13 : okCd r_13 = true := by decide +kernel
theorem kc_14 : okCd r_14 = true := by decide +kernel
theorem kc_15 : okCd r_15 = true := by decide +kernel
theorem kc_16 : okCd r_16 = true := by decide +kernel
theorem kc_17 : okCd r_17 = true := by decide +kernel
theorem kc_18 : okCd r_18 = true := by decide +kernel
theorem kc_19 : okCd r_19 = true := by decide +kernel
theorem kc_20 : okCd r_20 = true := by decide +kernel
theorem kc_21 : okCd r_21 = true := by decide +kernel
theorem kc_22 : okCd r_22 = true := by decide +kernel
theorem kc_23 : okCd r_23 = true := by decide +kernel
theorem kc_24 : okCd r_24 = true := by decide +kernel
theorem kc_25 : okCd r_25 = true := by decide +kernel
theorem kc_26 : okCd r_26 = true := by decide +kernel
theorem kc_27 : okCd r_27 = true := by decide +kernel
theorem kc_28 : okCd r_28 = true := by decide +kernel
theorem kc_29 : okCd r_29 = true := by decide +kernel
theorem kc_30 : okCd r_30 = true := by decide +kernel
theorem kc_31 : okCd r_31 = true := by decide +kernel
theorem kc_32 : okCd r_32 = true := by decide +kernel
theorem kc_33 : okCd r_33 = true := by decide +kernel
theorem kc_34 : okCd r_34 = true := by decide +kernel
theorem kc_35 : okCd r_35 = true := by decide +kernel
theorem kc_36 : okCd r_36 = true := by decide +kernel
theorem kc_37 : okCd r_37 = true := by decide +kernel
theorem kc_38 : okCd r_38 = true := by decide +kernel
theorem kc_39 : okCd r_39 = true := by decide +kernel
theorem kc_40 : okCd r_40 = true := by decide +kernel
theorem kc_41 : okCd r_41 = true := by decide +kernel
theorem kc_42 : okCd r_42 = true := by decide +kernel
theorem kc_43 : okCd r_43 = true := by decide +kernel
theorem kc_44 : okCd r_44 = true := by decide +kernel
theorem kc_45 : okCd r_45 = true := by decide +kernel
theorem kc_46 : okCd r_46 = true := by decide +kernel
theorem kc_47 : okCd r_47 = true := by decide +kernel
theorem kc_48 : okCd r_48 = true := by decide +kernel
theorem kc_49 : okCd r_49 = true := by decide +kernel
theorem kc_50 : okCd r_50 = true := by decide +kernel
theorem kc_51 : okCd r_51 = true := by decide +kernel
theorem kc_52 : okCd r_52 = true := by decide +kernel
theorem kc_53 : okCd r_53 = true := by decide +kernel
theorem kc_54 : okCd r_54 = true := by decide +kernel
theorem kc_55 : okCd r_55 = true := by decide +kernel
theorem kc_56 : okCd r_56 = true := by decide +kernel
theorem kc_57 : okCd r_57 = true := by decide +kernel
theorem kc_58 : okCd r_58 = true := by decide +kernel
theorem kc_59 : okCd r_59 = true := by decide +kernel
theorem kc_60 : okCd r_60 = true := by decide +kernel
theorem kc_61 : okCd r_61 = true := by decide +kernel
theorem kc_62 : okCd r_62 = true := by decide +kernel
theorem kc_63 : okCd r_63 = true := by decide +kernel
theorem kc_64 : okCd r_64 = true := by decide +kernel
theorem kc_65 : okCd r_65 = true := by decide +kernel
theorem kc_66 : okCd r_66 = true := by decide +kernel
theorem kc_67 : okCd r_67 = true := by decide +kernel
theorem kc_68 : okCd r_68 = true := by decide +kernel
theorem kc_69 : okCd r_69 = true := by decide +kernel
theorem kc_70 : okCd r_70 = true := by decide +kernel
theorem kc_71 : okCd r_71 = true := by decide +kernel
theorem kc_72 : okCd r_72 = true := by decide +kernel
theorem kc_73 : okCd r_73 = true := by decide +kernel
theorem kc_74 : okCd r_74 = true := by decide +kernel
theorem kc_75 : okCd r_75 = true := by decide +kernel
theorem kc_76 : okCd r_76 = true := by decide +kernel
theorem kc_77 : okCd r_77 = true := by decide +kernel
theorem kc_78 : okCd r_78 = true := by decide +kernel
theorem kc_79 : okCd r_79 = true := by decide +kernel
theorem kc_80 : okCd r_80 = true := by decide +kernel
theorem kc_81 : okCd r_81 = true := by decide +kernel
theorem kc_82 : okCd r_82 = true := by decide +kernel
theorem kc_83 : okCd r_83 = true := by decide +kernel
theorem kc_84 : okCd r_84 = true := by decide +kernel
theorem kc_85 : okCd r_85 = true := by decide +kernel
theorem kc_86 : okCd r_86 = true := by decide +kernel
theorem kc_87 : okCd r_87 = true := by decide +kernel
theorem kc_88 : okCd r_88 = true := by decide +kernel
theorem kc_89 : okCd r_89 = true := by decide +kernel
theorem kc_90 : okCd r_90 = true := by decide +kernel
theorem kc_91 : okCd r_91 = true := by decide +kernel
theorem kc_92 : okCd r_92 = true := by decide +kernel
theorem kc_93 : okCd r_93 = true := by decide +kernel
theorem kc_94 : okCd r_94 = true := by decide +kernel
theorem kc_95 : okCd r_95 = true := by decide +kernel
theorem kc_96 : okCd r_96 = true := by decide +kernel
theorem kc_97 : okCd r_97 = true := by decide +kernel
theorem kc_98 : okCd r_98 = true := by decide +kernel
theorem kc_99 : okCd r_99 = true := by decide +kernel
theorem kc_100 : okCd r_100 = true := by decide +kernel
theorem kc_101 : okCd r_101 = true := by decide +kernel
theorem kc_102 : okCd r_102 = true := by decide +kernel
theorem kc_103 : okCd r_103 = true := by decide +kernel
theorem kc_104 : okCd r_104 = true := by decide +kernel
theorem kc_105 : okCd r_105 = true := by decide +kernel
theorem kc_106 : okCd r_106 = true := by decide +kernel
theorem kc_107 : okCd r_107 = true := by decide +kernel
theorem kc_108 : okCd r_108 = true := by decide +kernel
theorem kc_109 : okCd r_109 = true := by decide +kernel
theorem kc_110 : okCd r_110 = true := by decide +kernel
theorem kc_111 : okCd r_111 = true := by decide +kernel
theorem kc_112 : okCd r_112 = true := by decide +kernel
theorem kc_113 : okCd r_113 = true := by decide +kernel
theorem kc_114 : okCd r_114 = true := by decide +kernel
theorem kc_115 : okCd r_115 = true := by decide +kernel
theorem kc_116 : okCd r_116 = true := by decide +kernel
theorem kc_117 : okCd r_117 = true := by decide +kernel
theorem kc_118 : okCd r_118 = true := by decide +kernel
theorem kc_119 : okCd r_119 = true := by decide +kernel
theorem kc_120 : okCd r_120 = true := by decide +kernel
theorem kc_121 : okCd r_121 = true := by decide +kernel
theorem kc_122 : okCd r_122 = true := by decide +kernel
theorem kc_123 : okCd r_123 = true := by decide +kernel
theorem kc_124 : okCd r_124 = true := by decide +kernel
theorem kc_125 : okCd r_125 = true := by decide +kernel
theorem kc_126 : okCd r_126 = true := by decide +kernel
theorem kc_127 : okCd r_127 = true := by decide +kernel
theorem kc_128_0 : okCl cX6_panelsRead k_128_0 = true := by decide +kernel
theorem kc_128_1 : okCl cX6_panelsRead k_128_1 = true := by decide +kernel
theorem kc_128_2 : okCl cX6_panelsRead k_128_2 = true := by decide +kernel
theorem kc_128_3 : okCl cX6_panelsRead k_128_3 = true := by decide +kernel
theorem kc_128_4 : okCl cX6_panelsRead k_128_4 = true := by decide +kernel
theorem kc_128_5 : okCl cX6_panelsRead k_128_5 = true := by decide +kernel
theorem kc_128_6 : okCl cX6_panelsRead k_128_6 = true := by decide +kernel
theorem kc_128 : okCd r_128 = true := List.all_eq_true.mpr (List.forall_mem_cons.mpr ⟨kc_128_0, List.forall_mem_cons.mpr ⟨kc_128_1, List.forall_mem_cons.mpr ⟨kc_128_2, List.forall_mem_cons.mpr ⟨kc_128_3, List.forall_mem_cons.mpr ⟨kc_128_4, List.forall_mem_cons.mpr ⟨kc_128_5, List.forall_mem_cons.mpr ⟨kc_128_6, fun _ h => absurd h List.not_mem_nil⟩⟩⟩⟩⟩⟩⟩)
theorem kc_129 : okCd r_129 = true := by decide +kernel
theorem kc_130_0 : okCl cX6_locksRead k_130_0 = true := by decide +kernel
theorem kc_130_1 : okCl cX6_locksRead k_130_1 = true := by decide +kernel
theorem kc_130_2 : okCl cX6_locksRead k_130_2 = true := by decide +kernel
theorem kc_130_3 : okCl cX6_locksRead k_130_3 = true := by decide +kernel
theorem kc_130_4 : okCl cX6_locksRead k_130_4 = true := by decide +kernel
theorem kc_130_5 : okCl cX6_locksRead k_130_5 = true := by decide +kernel
theorem kc_130_6 : okCl cX6_locksRead k_130_6 = true := by decide +kernel
theorem kc_130_7 : okCl cX6_locksRead k_130_7 = true := by decide +kernel
theorem kc_130 : okCd r_130 = true := List.all_eq_true.mpr (List.forall_mem_cons.mpr ⟨kc_130_0, List.forall_mem_cons.mpr ⟨kc_130_1, List.forall_mem_cons.mpr ⟨kc_130_2, List.forall_mem_cons.mpr ⟨kc_130_3, List.forall_mem_cons.mpr ⟨kc_130_4, List.forall_mem_cons.mpr ⟨kc_130_5, List.forall_mem_cons.mpr ⟨kc_130_6, List.forall_mem_cons.mpr ⟨kc_130_7, fun _ h => absurd h List.not_mem_nil⟩⟩⟩⟩⟩⟩⟩⟩)
theorem kc_131_0 : okCl cX6_box k_131_0 = true := by decide +kernel
theorem kc_131_1 : okCl cX6_box k_131_1 = true := by decide +kernel
theorem kc_131_2 : okCl cX6_box k_131_2 = true := by decide +kernel
theorem kc_131_3 : okCl cX6_box k_131_3 = true := by decide +kernel
theorem kc_131_4 : okCl cX6_box k_131_4 = true := by decide +kernel
theorem kc_131_5 : okCl cX6_box k_131_5 = true := by decide +kernel
theorem kc_131_6 : okCl cX6_box k_131_6 = true := by decide +kernel
theorem kc_131_7 : okCl cX6_box k_131_7 = true := by decide +kernel
theorem kc_131 : okCd r_131 = true := List.all_eq_true.mpr (List.forall_mem_cons.mpr ⟨kc_131_0, List.forall_mem_cons.mpr ⟨kc_131_1, List.forall_mem_cons.mpr ⟨kc_131_2, List.forall_mem_cons.mpr ⟨kc_131_3, List.forall_mem_cons.mpr ⟨kc_131_4, List.forall_mem_cons.mpr ⟨kc_131_5, List.forall_mem_cons.mpr ⟨kc_131_6, List.forall_mem_cons.mpr ⟨kc_131_7, fun _ h => absurd h List.not_mem_nil⟩⟩⟩⟩⟩⟩⟩⟩)
theorem kc_132 : okCd r_132 = true := by decide +kernel
theorem kc_133 : okCd r_133 = true := by decide +kernel
theorem kc_134 : okCd r_134 = true := by decide +kernel
theorem kc_135 : okCd r_135 = true := by decide +kernel
theorem kc_136 : okCd r_136 = true := by decide +kernel
theorem kc_137 : okCd r_137 = true := by decide +kernel
theorem kc_138 : okCd r_138 = true := by decide +kernel
theorem kc_139 : okCd r_139 = true := by decide +kernel
theorem kc_140_0 : okCl cX6_goesThrough k_140_0 = true := by decide +kernel
theorem kc_140_1 : okCl cX6_goesThrough k_140_1 = true := by decide +kernel
theorem kc_140_2 : okCl cX6_goesThrough k_140_2 = true := by decide +kernel
theorem kc_140_3 : okCl cX6_goesThrough k_140_3 = true := by decide +kernel
theorem kc_140_4 : okCl cX6_goesThrough k_140_4 = true := by decide +kernel
theorem kc_140_5 : okCl cX6_goesThrough k_140_5 = true := by decide +kernel
theorem kc_140 : okCd r_140 = true := List.all_eq_true.mpr (List.forall_mem_cons.mpr ⟨kc_140_0, List.forall_mem_cons.mpr ⟨kc_140_1, List.forall_mem_cons.mpr ⟨kc_140_2, List.forall_mem_cons.mpr ⟨kc_140_3, List.forall_mem_cons.mpr ⟨kc_140_4, List.forall_mem_cons.mpr ⟨kc_140_5, fun _ h => absurd h List.not_mem_nil⟩⟩⟩⟩⟩⟩)
theorem kc_141 : okCd r_141 = true := by decide +kernel
theorem kc_142 : okCd r_142 = true := by decide +kernel
theorem kc_143 : okCd r_143 = true := by decide +kernel
theorem kc_144 : okCd r_144 = true := by decide +kernel
theorem kc_145 : okCd r_145 = true := by decide +kernel
theorem kc_146 : okCd r_146 = true := by decide +kernel
theorem kc_147 : okCd r_147 = true := by decide +kernel
theorem kc_148 : okCd r_148 = true := by decide +kernel
theorem kc_149 : okCd r_149 = true := by decide +kernel
theorem kc_150 : okCd r_150 = true := by decide +kernel
theorem kc_151 : okCd r_151 = true := by decide +kernel
theorem kc_152_0 : okCl cX6_solves k_152_0 = true := by decide +kernel
theorem kc_152_1 : okCl cX6_solves k_152_1 = true := by decide +kernel
theorem kc_152_2 : okCl cX6_solves k_152_2 = true := by decide +kernel
theorem kc_152_3 : okCl cX6_solves k_152_3 = true := by decide +kernel
theorem kc_152_4 : okCl cX6_solves k_152_4 = true := by decide +kernel
theorem kc_152_5 : okCl cX6_solves k_152_5 = true := by decide +kernel
theorem kc_152_6 : okCl cX6_solves k_152_6 = true := by decide +kernel
theorem kc_152_7 : okCl cX6_solves k_152_7 = true := by decide +kernel
theorem kc_152 : okCd r_152 = true := List.all_eq_true.mpr (List.forall_mem_cons.mpr ⟨kc_152_0, List.forall_mem_cons.mpr ⟨kc_152_1, List.forall_mem_cons.mpr ⟨kc_152_2, List.forall_mem_cons.mpr ⟨kc_152_3, List.forall_mem_cons.mpr ⟨kc_152_4, List.forall_mem_cons.mpr ⟨kc_152_5, List.forall_mem_cons.mpr ⟨kc_152_6, List.forall_mem_cons.mpr ⟨kc_152_7, fun _ h => absurd h List.not_mem_nil⟩⟩⟩⟩⟩⟩⟩⟩)
theorem kc_153_0 : okCl cX6_game k_153_0 = true := by decide +kernel
theorem kc_153_1 : okCl cX6_game k_153_1 = true := by decide +kernel
theorem kc_153_2 : okCl cX6_game k_153_2 = true := by decide +kernel
theorem kc_153_3 : okCl cX6_game k_153_3 = true := by decide +kernel
theorem kc_153_4 : okCl cX6_game k_153_4 = true := by decide +kernel
theorem kc_153 : okCd r_153 = true := List.all_eq_true.mpr (List.forall_mem_cons.mpr ⟨kc_153_0, List.forall_mem_cons.mpr ⟨kc_153_1, List.forall_mem_cons.mpr ⟨kc_153_2, List.forall_mem_cons.mpr ⟨kc_153_3, List.forall_mem_cons.mpr ⟨kc_153_4, fun _ h => absurd h List.not_mem_nil⟩⟩⟩⟩⟩)
theorem kc_154_0 : okCl cX6_fumbles k_154_0 = true := by decide +kernel
theorem kc_154_1 : okCl cX6_fumbles k_154_1 = true := by decide +kernel
theorem kc_154_2 : okCl cX6_fumbles k_154_2 = true := by decide +kernel
theorem kc_154_3 : okCl cX6_fumbles k_154_3 = true := by decide +kernel
theorem kc_154_4 : okCl cX6_fumbles k_154_4 = true := by decide +kernel
theorem kc_154_5 : okCl cX6_fumbles k_154_5 = true := by decide +kernel
theorem kc_154_6 : okCl cX6_fumbles k_154_6 = true := by decide +kernel
theorem kc_154_7 : okCl cX6_fumbles k_154_7 = true := by decide +kernel
theorem kc_154 : okCd r_154 = true := List.all_eq_true.mpr (List.forall_mem_cons.mpr ⟨kc_154_0, List.forall_mem_cons.mpr ⟨kc_154_1, List.forall_mem_cons.mpr ⟨kc_154_2, List.forall_mem_cons.mpr ⟨kc_154_3, List.forall_mem_cons.mpr ⟨kc_154_4, List.forall_mem_cons.mpr ⟨kc_154_5, List.forall_mem_cons.mpr ⟨kc_154_6, List.forall_mem_cons.mpr ⟨kc_154_7, fun _ h => absurd h List.not_mem_nil⟩⟩⟩⟩⟩⟩⟩⟩)
theorem kc_155_0 : okCl cX6_fumble k_155_0 = true := by decide +kernel
theorem kc_155_1 : okCl cX6_fumble k_155_1 = true := by decide +kernel
theorem kc_155_2 : okCl cX6_fumble k_155_2 = true := by decide +kernel
theorem kc_155_3 : okCl cX6_fumble k_155_3 = true := by decide +kernel
theorem kc_155_4 : okCl cX6_fumble k_155_4 = true := by decide +kernel
theorem kc_155_5 : okCl cX6_fumble k_155_5 = true := by decide +kernel
theorem kc_155_6 : okCl cX6_fumble k_155_6 = true := by decide +kernel
theorem kc_155 : okCd r_155 = true := List.all_eq_true.mpr (List.forall_mem_cons.mpr ⟨kc_155_0, List.forall_mem_cons.mpr ⟨kc_155_1, List.forall_mem_cons.mpr ⟨kc_155_2, List.forall_mem_cons.mpr ⟨kc_155_3, List.forall_mem_cons.mpr ⟨kc_155_4, List.forall_mem_cons.mpr ⟨kc_155_5, List.forall_mem_cons.mpr ⟨kc_155_6, fun _ h => absurd h List.not_mem_nil⟩⟩⟩⟩⟩⟩⟩)
theorem kc_156 : okCd r_156 = true := by decide +kernel
theorem kc_157 : okCd r_157 = true := by decide +kernel
theorem kc_158 : okCd r_158 = true := by decide +kernel
theorem kc_159 : okCd r_159 = true := by decide +kernel
theorem kc_160 : okCd r_160 = true := by decide +kernel
theorem kc_161 : okCd r_161 = true := by decide +kernel
theorem kc_162 : okCd r_162 = true := by decide +kernel
theorem kc_163 : okCd r_163 = true := by decide +kernel
theorem kc_164_0 : okCl cX6_clicks k_164_0 = true := by decide +kernel
theorem kc_164_1 : okCl cX6_clicks k_164_1 = true := by decide +kernel
theorem kc_164_2 : okCl cX6_clicks k_164_2 = true := by decide +kernel
theorem kc_164_3 : okCl cX6_clicks k_164_3 = true := by decide +kernel
theorem kc_164_4 : okCl cX6_clicks k_164_4 = true := by decide +kernel
theorem kc_164_5 : okCl cX6_clicks k_164_5 = true := by decide +kernel
theorem kc_164_6 : okCl cX6_clicks k_164_6 = true := by decide +kernel
theorem kc_164_7 : okCl cX6_clicks k_164_7 = true := by decide +kernel
theorem kc_164_8 : okCl cX6_clicks k_164_8 = true := by decide +kernel
theorem kc_164 : okCd r_164 = true := List.all_eq_true.mpr (List.forall_mem_cons.mpr ⟨kc_164_0, List.forall_mem_cons.mpr ⟨kc_164_1, List.forall_mem_cons.mpr ⟨kc_164_2, List.forall_mem_cons.mpr ⟨kc_164_3, List.forall_mem_cons.mpr ⟨kc_164_4, List.forall_mem_cons.mpr ⟨kc_164_5, List.forall_mem_cons.mpr ⟨kc_164_6, List.forall_mem_cons.mpr ⟨kc_164_7, List.forall_mem_cons.mpr ⟨kc_164_8, fun _ h => absurd h List.not_mem_nil⟩⟩⟩⟩⟩⟩⟩⟩⟩)
theorem kc_165 : okCd r_165 = true := by decide +kernel
theorem kc_166 : okCd r_166 = true := by decide +kernel
theorem kc_167 : okCd r_167 = true := by decide +kernel
theorem kc_168 : okCd r_168 = true := by decide +kernel
theorem kc_169_0 : okCl cX6_copy k_169_0 = true := by decide +kernel
theorem kc_169_1 : okCl cX6_copy k_169_1 = true := by decide +kernel
theorem kc_169_2 : okCl cX6_copy k_169_2 = true := by decide +kernel
theorem kc_169_3 : okCl cX6_copy k_169_3 = true := by decide +kernel
theorem kc_169_4 : okCl cX6_copy k_169_4 = true := by decide +kernel
theorem kc_169_5 : okCl cX6_copy k_169_5 = true := by decide +kernel
theorem kc_169 : okCd r_169 = true := List.all_eq_true.mpr (List.forall_mem_cons.mpr ⟨kc_169_0, List.forall_mem_cons.mpr ⟨kc_169_1, List.forall_mem_cons.mpr ⟨kc_169_2, List.forall_mem_cons.mpr ⟨kc_169_3, List.forall_mem_cons.mpr ⟨kc_169_4, List.forall_mem_cons.mpr ⟨kc_169_5, fun _ h => absurd h List.not_mem_nil⟩⟩⟩⟩⟩⟩)
theorem kc_170 : okCd r_170 = true := by decide +kernel
theorem kc_all (M : Nat) : okCd (MRT M) = true := (bif_p (P := fun r => okCd r = true) (bif_p (P := fun r => okCd r = true) (bif_p (P := fun r => okCd r = true) (bif_p (P := fun r => okCd r = true) (bif_p (P := fun r => okCd r = true) (bif_p (P := fun r => okCd r = true) (bif_p (P := fun r => okCd r = true) kc_0 kc_1) (bif_p (P := fun r => okCd r = true) kc_2 (bif_p (P := fun r => okCd r = true) kc_3 kc_4))) (bif_p (P := fun r => okCd r = true) (bif_p (P := fun r => okCd r = true) kc_5 kc_6) (bif_p (P := fun r => okCd r = true) kc_7 (bif_p (P := fun r => okCd r = true) kc_8 kc_9)))) (bif_p (P := fun r => okCd r = true) (bif_p (P := fun r => okCd r = true) (bif_p (P := fun r => okCd r = true) kc_10 kc_11) (bif_p (P := fun r => okCd r = true) kc_12 (bif_p (P := fun r => okCd r = true) kc_13 kc_14))) (bif_p (P := fun r => okCd r = true) (bif_p (P := fun r => okCd r = true) kc_15 (bif_p (P := fun r => okCd r = true) kc_16 kc_17)) (bif_p (P := fun r => okCd r = true) kc_18 (bif_p (P := fun r => okCd r = true) kc_19 kc_20))))) (bif_p (P := fun r => okCd r = true) (bif_p (P := fun r => okCd r = true) (bif_p (P := fun r => okCd r = true) (bif_p (P := fun r => okCd r = true) kc_21 kc_22) (bif_p (P := fun r => okCd r = true) kc_23 (bif_p (P := fun r => okCd r = true) kc_24 kc_25))) (bif_p (P := fun r => okCd r = true) (bif_p (P := fun r => okCd r = true) kc_26 kc_27) (bif_p (P := fun r => okCd r = true) kc_28 (bif_p (P := fun r => okCd r = true) kc_29 kc_30)))) (bif_p (P := fun r => okCd r = true) (bif_p (P := fun r => okCd r = true) (bif_p (P := fun r => okCd r = true) kc_31 kc_32) (bif_p (P := fun r => okCd r = true) kc_33 (bif_p (P := fun r => okCd r = true) kc_34 kc_35))) (bif_p (P := fun r => okCd r = true) (bif_p (P := fun r => okCd r = true) kc_36 (bif_p (P := fun r => okCd r = true) kc_37 kc_38)) (bif_p (P := fun r => okCd r = true) kc_39 (bif_p (P := fun r => okCd r = true) kc_40 kc_41)))))) (bif_p (P := fun r => okCd r = true) (bif_p (P := fun r => okCd r = true) (bif_p (P := fun r => okCd r = true) (bif_p (P := fun r => okCd r = true) (bif_p (P := fun r => okCd r = true) kc_42 kc_43) (bif_p (P := fun r => okCd r = true) kc_44 (bif_p (P := fun r => okCd r = true) kc_45 kc_46))) (bif_p (P := fun r => okCd r = true) (bif_p (P := fun r => okCd r = true) kc_47 kc_48) (bif_p (P := fun r => okCd r = true) kc_49 (bif_p (P := fun r => okCd r = true) kc_50 kc_51)))) (bif_p (P := fun r => okCd r = true) (bif_p (P := fun r => okCd r = true) (bif_p (P := fun r => okCd r = true) kc_52 kc_53) (bif_p (P := fun r => okCd r = true) kc_54 (bif_p (P := fun r => okCd r = true) kc_55 kc_56))) (bif_p (P := fun r => okCd r = true) (bif_p (P := fun r => okCd r = true) kc_57 (bif_p (P := fun r => okCd r = true) kc_58 kc_59)) (bif_p (P := fun r => okCd r = true) kc_60 (bif_p (P := fun r => okCd r = true) kc_61 kc_62))))) (bif_p (P := fun r => okCd r = true) (bif_p (P := fun r => okCd r = true) (bif_p (P := fun r => okCd r = true) (bif_p (P := fun r => okCd r = true) kc_63 kc_64) (bif_p (P := fun r => okCd r = true) kc_65 (bif_p (P := fun r => okCd r = true) kc_66 kc_67))) (bif_p (P := fun r => okCd r = true) (bif_p (P := fun r => okCd r = true) kc_68 (bif_p (P := fun r => okCd r = true) kc_69 kc_70)) (bif_p (P := fun r => okCd r = true) kc_71 (bif_p (P := fun r => okCd r = true) kc_72 kc_73)))) (bif_p (P := fun r => okCd r = true) (bif_p (P := fun r => okCd r = true) (bif_p (P := fun r => okCd r = true) kc_74 kc_75) (bif_p (P := fun r => okCd r = true) kc_76 (bif_p (P := fun r => okCd r = true) kc_77 kc_78))) (bif_p (P := fun r => okCd r = true) (bif_p (P := fun r => okCd r = true) kc_79 (bif_p (P := fun r => okCd r = true) kc_80 kc_81)) (bif_p (P := fun r => okCd r = true) kc_82 (bif_p (P := fun r => okCd r = true) kc_83 kc_84))))))) (bif_p (P := fun r => okCd r = true) (bif_p (P := fun r => okCd r = true) (bif_p (P := fun r => okCd r = true) (bif_p (P := fun r => okCd r = true) (bif_p (P := fun r => okCd r = true) (bif_p (P := fun r => okCd r = true) kc_85 kc_86) (bif_p (P := fun r => okCd r = true) kc_87 (bif_p (P := fun r => okCd r = true) kc_88 kc_89))) (bif_p (P := fun r => okCd r = true) (bif_p (P := fun r => okCd r = true) kc_90 kc_91) (bif_p (P := fun r => okCd r = true) kc_92 (bif_p (P := fun r => okCd r = true) kc_93 kc_94)))) (bif_p (P := fun r => okCd r = true) (bif_p (P := fun r => okCd r = true) (bif_p (P := fun r => okCd r = true) kc_95 kc_96) (bif_p (P := fun r => okCd r = true) kc_97 (bif_p (P := fun r => okCd r = true) kc_98 kc_99))) (bif_p (P := fun r => okCd r = true) (bif_p (P := fun r => okCd r = true) kc_100 (bif_p (P := fun r => okCd r = true) kc_101 kc_102)) (bif_p (P := fun r => okCd r = true) kc_103 (bif_p (P := fun r => okCd r = true) kc_104 kc_105))))) (bif_p (P := fun r => okCd r = true) (bif_p (P := fun r => okCd r = true) (bif_p (P := fun r => okCd r = true) (bif_p (P := fun r => okCd r = true) kc_106 kc_107) (bif_p (P := fun r => okCd r = true) kc_108 (bif_p (P := fun r => okCd r = true) kc_109 kc_110))) (bif_p (P := fun r => okCd r = true) (bif_p (P := fun r => okCd r = true) kc_111 (bif_p (P := fun r => okCd r = true) kc_112 kc_113)) (bif_p (P := fun r => okCd r = true) kc_114 (bif_p (P := fun r => okCd r = true) kc_115 kc_116)))) (bif_p (P := fun r => okCd r = true) (bif_p (P := fun r => okCd r = true) (bif_p (P := fun r => okCd r = true) kc_117 kc_118) (bif_p (P := fun r => okCd r = true) kc_119 (bif_p (P := fun r => okCd r = true) kc_120 kc_121))) (bif_p (P := fun r => okCd r = true) (bif_p (P := fun r => okCd r = true) kc_122 (bif_p (P := fun r => okCd r = true) kc_123 kc_124)) (bif_p (P := fun r => okCd r = true) kc_125 (bif_p (P := fun r => okCd r = true) kc_126 kc_127)))))) (bif_p (P := fun r => okCd r = true) (bif_p (P := fun r => okCd r = true) (bif_p (P := fun r => okCd r = true) (bif_p (P := fun r => okCd r = true) (bif_p (P := fun r => okCd r = true) kc_128 kc_129) (bif_p (P := fun r => okCd r = true) kc_130 (bif_p (P := fun r => okCd r = true) kc_131 kc_132))) (bif_p (P := fun r => okCd r = true) (bif_p (P := fun r => okCd r = true) kc_133 kc_134) (bif_p (P := fun r => okCd r = true) kc_135 (bif_p (P := fun r => okCd r = true) kc_136 kc_137)))) (bif_p (P := fun r => okCd r = true) (bif_p (P := fun r => okCd r = true) (bif_p (P := fun r => okCd r = true) kc_138 kc_139) (bif_p (P := fun r => okCd r = true) kc_140 (bif_p (P := fun r => okCd r = true) kc_141 kc_142))) (bif_p (P := fun r => okCd r = true) (bif_p (P := fun r => okCd r = true) kc_143 (bif_p (P := fun r => okCd r = true) kc_144 kc_145)) (bif_p (P := fun r => okCd r = true) kc_146 (bif_p (P := fun r => okCd r = true) kc_147 kc_148))))) (bif_p (P := fun r => okCd r = true) (bif_p (P := fun r => okCd r = true) (bif_p (P := fun r => okCd r = true) (bif_p (P := fun r => okCd r = true) kc_149 kc_150) (bif_p (P := fun r => okCd r = true) kc_151 (bif_p (P := fun r => okCd r = true) kc_152 kc_153))) (bif_p (P := fun r => okCd r = true) (bif_p (P := fun r => okCd r = true) kc_154 (bif_p (P := fun r => okCd r = true) kc_155 kc_156)) (bif_p (P := fun r => okCd r = true) kc_157 (bif_p (P := fun r => okCd r = true) kc_158 kc_159)))) (bif_p (P := fun r => okCd r = true) (bif_p (P := fun r => okCd r = true) (bif_p (P := fun r => okCd r = true) kc_160 kc_161) (bif_p (P := fun r => okCd r = true) kc_162 (bif_p (P := fun r => okCd r = true) kc_163 kc_164))) (bif_p (P := fun r => okCd r = true) (bif_p (P := fun r => okCd r = true) kc_165 (bif_p (P := fun r => okCd r = true) kc_166 kc_167)) (bif_p (P := fun r => okCd r = true) kc_168 (bif_p (P := fun r => okCd r = true) kc_169 kc_170))))))))
theorem km_1 : okMr r_1 (398, 59) = true := by decide +kernel
theorem km_2 : okMr r_2 (530, 59) = true := by decide +kernel
theorem km_3 : okMr r_3 (329, 59) = true := by decide +kernel
theorem km_4 : okMr r_4 (377, 59) = true := by decide +kernel
theorem km_5 : okMr r_5 (321, 59) = true := by decide +kernel
theorem km_6 : okMr r_6 (333, 59) = true := by decide +kernel
theorem km_7 : okMr r_7 (366, 59) = true := by decide +kernel
theorem km_8 : okMr r_8 (542, 59) = true := by decide +kernel
theorem km_9 : okMr r_9 (546, 59) = true := by decide +kernel
theorem km_10 : okMr r_10 (550, 59) = true := by decide +kernel
theorem km_11 : okMr r_11 (348, 59) = true := by decide +kernel
theorem km_12 : okMr r_12 (352, 59) = true := by decide +kernel
theorem km_13 : okMr r_13 (358, 59) = true := by decide +kernel
theorem km_14 : okMr r_14 (362, 59) = true := by decide +kernel
theorem km_15 : okMr r_15 (563, 59) = true := by decide +kernel
theorem km_16 : okMr r_16 (567, 59) = true := by decide +kernel
theorem km_17 : okMr r_17 (589, 59) = true := by decide +kernel
theorem km_18 : okMr r_18 (317, 59) = true := by decide +kernel
theorem km_19 : okMr r_19 (559, 59) = true := by decide +kernel
theorem km_20 : okMr r_20 (602, 59) = true := by decide +kernel
theorem km_21 : okMr r_21 (763, 59) = true := by decide +kernel
theorem km_22 : okMr r_22 (622, 59) = true := by decide +kernel
theorem km_23 : okMr r_23 (675, 62) = true := by decide +kernel
theorem km_24 : okMr r_24 (679, 62) = true := by decide +kernel
theorem km_25 : okMr r_25 (685, 62) = true := by decide +kernel
theorem km_26 : okMr r_26 (671, 62) = true := by decide +kernel
theorem km_27 : okMr r_27 (705, 62) = true := by decide +kernel
theorem km_28 : okMr r_28 (709, 62) = true := by decide +kernel
theorem km_29 : okMr r_29 (713, 62) = true := by decide +kernel
theorem km_30 : okMr r_30 (717, 62) = true := by decide +kernel
theorem km_31 : okMr r_31 (804, 63) = true := by decide +kernel
theorem km_32 : okMr r_32 (812, 63) = true := by decide +kernel
theorem km_33 : okMr r_33 (759, 63) = true := by decide +kernel
theorem km_34 : okMr r_34 (755, 63) = true := by decide +kernel
theorem km_35 : okMr r_35 (767, 63) = true := by decide +kernel
theorem km_36 : okMr r_36 (796, 63) = true := by decide +kernel
theorem km_37 : okMr r_37 (386, 60) = true := by decide +kernel
theorem km_38 : okMr r_38 (394, 60) = true := by decide +kernel
theorem km_39 : okMr r_39 (403, 60) = true := by decide +kernel
theorem km_40 : okMr r_40 (515, 60) = true := by decide +kernel
theorem km_41 : okMr r_41 (519, 60) = true := by decide +kernel
theorem km_42 : okMr r_42 (525, 60) = true := by decide +kernel
theorem km_43 : okMr r_43 (411, 60) = true := by decide +kernel
theorem km_44 : okMr r_44 (511, 60) = true := by decide +kernel
theorem km_45 : okMr r_45 (407, 60) = true := by decide +kernel
theorem km_46 : okMr r_46 (416, 60) = true := by decide +kernel
theorem km_47 : okMr r_47 (506, 60) = true := by decide +kernel
theorem km_48 : okMr r_48 (614, 61) = true := by decide +kernel
theorem km_49 : okMr r_49 (618, 61) = true := by decide +kernel
theorem km_50 : okMr r_50 (626, 61) = true := by decide +kernel
theorem km_51 : okMr r_51 (633, 61) = true := by decide +kernel
theorem km_52 : okMr r_52 (637, 61) = true := by decide +kernel
theorem km_53 : okMr r_53 (650, 61) = true := by decide +kernel
theorem km_54 : okMr r_54 (642, 61) = true := by decide +kernel
theorem km_55 : okMr r_55 (667, 61) = true := by decide +kernel
theorem km_56 : okMr r_56 (647, 61) = true := by decide +kernel
theorem km_57 : okMr r_57 (658, 61) = true := by decide +kernel
theorem km_58 : okMr r_58 (313, 58) = true := by decide +kernel
theorem km_59 : okMr r_59 (325, 58) = true := by decide +kernel
theorem km_60 : okMr r_60 (337, 58) = true := by decide +kernel
theorem km_61 : okMr r_61 (341, 58) = true := by decide +kernel
theorem km_62 : okMr r_62 (373, 58) = true := by decide +kernel
theorem km_63 : okMr r_63 (382, 58) = true := by decide +kernel
theorem km_64 : okMr r_64 (390, 58) = true := by decide +kernel
theorem km_65 : okMr r_65 (538, 58) = true := by decide +kernel
theorem km_66 : okMr r_66 (555, 58) = true := by decide +kernel
theorem km_67 : okMr r_67 (571, 58) = true := by decide +kernel
theorem km_68 : okMr r_68 (581, 58) = true := by decide +kernel
theorem km_69 : okMr r_69 (585, 58) = true := by decide +kernel
theorem km_70 : okMr r_70 (598, 58) = true := by decide +kernel
theorem km_71 : okMr r_71 (606, 58) = true := by decide +kernel
theorem km_72 : okMr r_72 (610, 58) = true := by decide +kernel
theorem km_73 : okMr r_73 (654, 58) = true := by decide +kernel
theorem km_74 : okMr r_74 (663, 58) = true := by decide +kernel
theorem km_75 : okMr r_75 (689, 58) = true := by decide +kernel
theorem km_76 : okMr r_76 (697, 58) = true := by decide +kernel
theorem km_77 : okMr r_77 (701, 58) = true := by decide +kernel
theorem km_78 : okMr r_78 (722, 58) = true := by decide +kernel
theorem km_79 : okMr r_79 (737, 58) = true := by decide +kernel
theorem km_80 : okMr r_80 (741, 58) = true := by decide +kernel
theorem km_81 : okMr r_81 (745, 58) = true := by decide +kernel
theorem km_82 : okMr r_82 (771, 58) = true := by decide +kernel
theorem km_83 : okMr r_83 (792, 58) = true := by decide +kernel
theorem km_84 : okMr r_84 (800, 58) = true := by decide +kernel
theorem km_85 : okMr r_85 (808, 58) = true := by decide +kernel
theorem km_86 : okMr r_86 (816, 58) = true := by decide +kernel
theorem km_87 : okMr r_87 (820, 58) = true := by decide +kernel
theorem km_88 : okMr r_88 (369, 58) = true := by decide +kernel
theorem km_89 : okMr r_89 (344, 58) = true := by decide +kernel
theorem km_90 : okMr r_90 (748, 58) = true := by decide +kernel
theorem km_91 : okMr r_91 (751, 58) = true := by decide +kernel
theorem km_92 : okMr r_92 (693, 58) = true := by decide +kernel
theorem km_93 : okMr r_93 (729, 58) = true := by decide +kernel
theorem km_94 : okMr r_94 (726, 58) = true := by decide +kernel
theorem km_95 : okMr r_95 (733, 58) = true := by decide +kernel
theorem km_96 : okMr r_96 (775, 58) = true := by decide +kernel
theorem km_97 : okMr r_97 (784, 58) = true := by decide +kernel
theorem km_98 : okMr r_98 (788, 58) = true := by decide +kernel
theorem km_99 : okMr r_99 (781, 58) = true := by decide +kernel
theorem km_100 : okMr r_100 (921, 64) = true := by decide +kernel
theorem km_101 : okMr r_101 (934, 64) = true := by decide +kernel
theorem km_102 : okMr r_102 (986, 64) = true := by decide +kernel
theorem km_103 : okMr r_103 (952, 64) = true := by decide +kernel
theorem km_104 : okMr r_104 (956, 64) = true := by decide +kernel
theorem km_105 : okMr r_105 (975, 64) = true := by decide +kernel
theorem km_106 : okMr r_106 (959, 64) = true := by decide +kernel
theorem km_107 : okMr r_107 (995, 64) = true := by decide +kernel
theorem km_108 : okMr r_108 (978, 64) = true := by decide +kernel
theorem km_109 : okMr r_109 (971, 64) = true := by decide +kernel
theorem km_110 : okMr r_110 (967, 64) = true := by decide +kernel
theorem km_111 : okMr r_111 (1049, 64) = true := by decide +kernel
theorem km_112 : okMr r_112 (1056, 64) = true := by decide +kernel
theorem km_113 : okMr r_113 (926, 64) = true := by decide +kernel
theorem km_114 : okMr r_114 (940, 64) = true := by decide +kernel
theorem km_115 : okMr r_115 (917, 64) = true := by decide +kernel
theorem km_116 : okMr r_116 (930, 64) = true := by decide +kernel
theorem km_117 : okMr r_117 (944, 64) = true := by decide +kernel
theorem km_118 : okMr r_118 (963, 64) = true := by decide +kernel
theorem km_119 : okMr r_119 (948, 64) = true := by decide +kernel
theorem km_120 : okMr r_120 (982, 64) = true := by decide +kernel
theorem km_121 : okMr r_121 (999, 64) = true := by decide +kernel
theorem km_122 : okMr r_122 (1003, 64) = true := by decide +kernel
theorem km_123 : okMr r_123 (991, 64) = true := by decide +kernel
theorem km_124 : okMr r_124 (1007, 64) = true := by decide +kernel
theorem km_125 : okMr r_125 (1021, 64) = true := by decide +kernel
theorem km_126 : okMr r_126 (1025, 64) = true := by decide +kernel
theorem km_127 : okMr r_127 (1029, 64) = true := by decide +kernel
theorem km_128 : okMr r_128 (1017, 64) = true := by decide +kernel
theorem km_129 : okMr r_129 (1037, 64) = true := by decide +kernel
theorem km_130 : okMr r_130 (1033, 64) = true := by decide +kernel
theorem km_131 : okMr r_131 (1013, 64) = true := by decide +kernel
theorem km_132 : okMr r_132 (1045, 64) = true := by decide +kernel
theorem km_133 : okMr r_133 (1041, 64) = true := by decide +kernel
theorem km_134 : okMr r_134 (1053, 64) = true := by decide +kernel
theorem km_135 : okMr r_135 (1060, 64) = true := by decide +kernel
theorem km_136 : okMr r_136 (1064, 64) = true := by decide +kernel
theorem km_137 : okMr r_137 (1073, 64) = true := by decide +kernel
theorem km_138 : okMr r_138 (1077, 64) = true := by decide +kernel
theorem km_139 : okMr r_139 (1089, 64) = true := by decide +kernel
theorem km_140 : okMr r_140 (1085, 64) = true := by decide +kernel
theorem km_141 : okMr r_141 (1094, 64) = true := by decide +kernel
theorem km_142 : okMr r_142 (1098, 64) = true := by decide +kernel
theorem km_143 : okMr r_143 (1081, 64) = true := by decide +kernel
theorem km_144 : okMr r_144 (1102, 64) = true := by decide +kernel
theorem km_145 : okMr r_145 (1114, 64) = true := by decide +kernel
theorem km_146 : okMr r_146 (1110, 64) = true := by decide +kernel
theorem km_147 : okMr r_147 (1106, 64) = true := by decide +kernel
theorem km_148 : okMr r_148 (1118, 64) = true := by decide +kernel
theorem km_149 : okMr r_149 (1122, 64) = true := by decide +kernel
theorem km_150 : okMr r_150 (1139, 64) = true := by decide +kernel
theorem km_151 : okMr r_151 (1135, 64) = true := by decide +kernel
theorem km_152 : okMr r_152 (1131, 64) = true := by decide +kernel
theorem km_153 : okMr r_153 (1127, 64) = true := by decide +kernel
theorem km_154 : okMr r_154 (1148, 64) = true := by decide +kernel
theorem km_155 : okMr r_155 (1143, 64) = true := by decide +kernel
theorem km_156 : okMr r_156 (1153, 64) = true := by decide +kernel
theorem km_157 : okMr r_157 (1157, 64) = true := by decide +kernel
theorem km_158 : okMr r_158 (1164, 64) = true := by decide +kernel
theorem km_159 : okMr r_159 (1167, 64) = true := by decide +kernel
theorem km_160 : okMr r_160 (1171, 64) = true := by decide +kernel
theorem km_161 : okMr r_161 (1161, 64) = true := by decide +kernel
theorem km_162 : okMr r_162 (1185, 64) = true := by decide +kernel
theorem km_163 : okMr r_163 (1181, 64) = true := by decide +kernel
theorem km_164 : okMr r_164 (1175, 64) = true := by decide +kernel
theorem km_165 : okMr r_165 (1189, 64) = true := by decide +kernel
theorem km_166 : okMr r_166 (1193, 64) = true := by decide +kernel
theorem km_167 : okMr r_167 (1197, 64) = true := by decide +kernel
theorem km_168 : okMr r_168 (1201, 64) = true := by decide +kernel
theorem km_169 : okMr r_169 (1205, 64) = true := by decide +kernel
theorem km_170 : okMr r_170 (574, 72) = true := by decide +kernel
def isM (r : MR) : Prop := r.2.1.cls = "SecretBoxLaw" ∨ ∃ p, okMr r p = true
theorem km_all (M : Nat) : isM (MRT M) := (bif_p (P := isM) (bif_p (P := isM) (bif_p (P := isM) (bif_p (P := isM) (bif_p (P := isM) (bif_p (P := isM) (bif_p (P := isM) (Or.inl rfl) (Or.inr ⟨_, km_1⟩)) (bif_p (P := isM) (Or.inr ⟨_, km_2⟩) (bif_p (P := isM) (Or.inr ⟨_, km_3⟩) (Or.inr ⟨_, km_4⟩)))) (bif_p (P := isM) (bif_p (P := isM) (Or.inr ⟨_, km_5⟩) (Or.inr ⟨_, km_6⟩)) (bif_p (P := isM) (Or.inr ⟨_, km_7⟩) (bif_p (P := isM) (Or.inr ⟨_, km_8⟩) (Or.inr ⟨_, km_9⟩))))) (bif_p (P := isM) (bif_p (P := isM) (bif_p (P := isM) (Or.inr ⟨_, km_10⟩) (Or.inr ⟨_, km_11⟩)) (bif_p (P := isM) (Or.inr ⟨_, km_12⟩) (bif_p (P := isM) (Or.inr ⟨_, km_13⟩) (Or.inr ⟨_, km_14⟩)))) (bif_p (P := isM) (bif_p (P := isM) (Or.inr ⟨_, km_15⟩) (bif_p (P := isM) (Or.inr ⟨_, km_16⟩) (Or.inr ⟨_, km_17⟩))) (bif_p (P := isM) (Or.inr ⟨_, km_18⟩) (bif_p (P := isM) (Or.inr ⟨_, km_19⟩) (Or.inr ⟨_, km_20⟩)))))) (bif_p (P := isM) (bif_p (P := isM) (bif_p (P := isM) (bif_p (P := isM) (Or.inr ⟨_, km_21⟩) (Or.inr ⟨_, km_22⟩)) (bif_p (P := isM) (Or.inr ⟨_, km_23⟩) (bif_p (P := isM) (Or.inr ⟨_, km_24⟩) (Or.inr ⟨_, km_25⟩)))) (bif_p (P := isM) (bif_p (P := isM) (Or.inr ⟨_, km_26⟩) (Or.inr ⟨_, km_27⟩)) (bif_p (P := isM) (Or.inr ⟨_, km_28⟩) (bif_p (P := isM) (Or.inr ⟨_, km_29⟩) (Or.inr ⟨_, km_30⟩))))) (bif_p (P := isM) (bif_p (P := isM) (bif_p (P := isM) (Or.inr ⟨_, km_31⟩) (Or.inr ⟨_, km_32⟩)) (bif_p (P := isM) (Or.inr ⟨_, km_33⟩) (bif_p (P := isM) (Or.inr ⟨_, km_34⟩) (Or.inr ⟨_, km_35⟩)))) (bif_p (P := isM) (bif_p (P := isM) (Or.inr ⟨_, km_36⟩) (bif_p (P := isM) (Or.inr ⟨_, km_37⟩) (Or.inr ⟨_, km_38⟩))) (bif_p (P := isM) (Or.inr ⟨_, km_39⟩) (bif_p (P := isM) (Or.inr ⟨_, km_40⟩) (Or.inr ⟨_, km_41⟩))))))) (bif_p (P := isM) (bif_p (P := isM) (bif_p (P := isM) (bif_p (P := isM) (bif_p (P := isM) (Or.inr ⟨_, km_42⟩) (Or.inr ⟨_, km_43⟩)) (bif_p (P := isM) (Or.inr ⟨_, km_44⟩) (bif_p (P := isM) (Or.inr ⟨_, km_45⟩) (Or.inr ⟨_, km_46⟩)))) (bif_p (P := isM) (bif_p (P := isM) (Or.inr ⟨_, km_47⟩) (Or.inr ⟨_, km_48⟩)) (bif_p (P := isM) (Or.inr ⟨_, km_49⟩) (bif_p (P := isM) (Or.inr ⟨_, km_50⟩) (Or.inr ⟨_, km_51⟩))))) (bif_p (P := isM) (bif_p (P := isM) (bif_p (P := isM) (Or.inr ⟨_, km_52⟩) (Or.inr ⟨_, km_53⟩)) (bif_p (P := isM) (Or.inr ⟨_, km_54⟩) (bif_p (P := isM) (Or.inr ⟨_, km_55⟩) (Or.inr ⟨_, km_56⟩)))) (bif_p (P := isM) (bif_p (P := isM) (Or.inr ⟨_, km_57⟩) (bif_p (P := isM) (Or.inr ⟨_, km_58⟩) (Or.inr ⟨_, km_59⟩))) (bif_p (P := isM) (Or.inr ⟨_, km_60⟩) (bif_p (P := isM) (Or.inr ⟨_, km_61⟩) (Or.inr ⟨_, km_62⟩)))))) (bif_p (P := isM) (bif_p (P := isM) (bif_p (P := isM) (bif_p (P := isM) (Or.inr ⟨_, km_63⟩) (Or.inr ⟨_, km_64⟩)) (bif_p (P := isM) (Or.inr ⟨_, km_65⟩) (bif_p (P := isM) (Or.inr ⟨_, km_66⟩) (Or.inr ⟨_, km_67⟩)))) (bif_p (P := isM) (bif_p (P := isM) (Or.inr ⟨_, km_68⟩) (bif_p (P := isM) (Or.inr ⟨_, km_69⟩) (Or.inr ⟨_, km_70⟩))) (bif_p (P := isM) (Or.inr ⟨_, km_71⟩) (bif_p (P := isM) (Or.inr ⟨_, km_72⟩) (Or.inr ⟨_, km_73⟩))))) (bif_p (P := isM) (bif_p (P := isM) (bif_p (P := isM) (Or.inr ⟨_, km_74⟩) (Or.inr ⟨_, km_75⟩)) (bif_p (P := isM) (Or.inr ⟨_, km_76⟩) (bif_p (P := isM) (Or.inr ⟨_, km_77⟩) (Or.inr ⟨_, km_78⟩)))) (bif_p (P := isM) (bif_p (P := isM) (Or.inr ⟨_, km_79⟩) (bif_p (P := isM) (Or.inr ⟨_, km_80⟩) (Or.inr ⟨_, km_81⟩))) (bif_p (P := isM) (Or.inr ⟨_, km_82⟩) (bif_p (P := isM) (Or.inr ⟨_, km_83⟩) (Or.inr ⟨_, km_84⟩)))))))) (bif_p (P := isM) (bif_p (P := isM) (bif_p (P := isM) (bif_p (P := isM) (bif_p (P := isM) (bif_p (P := isM) (Or.inr ⟨_, km_85⟩) (Or.inr ⟨_, km_86⟩)) (bif_p (P := isM) (Or.inr ⟨_, km_87⟩) (bif_p (P := isM) (Or.inr ⟨_, km_88⟩) (Or.inr ⟨_, km_89⟩)))) (bif_p (P := isM) (bif_p (P := isM) (Or.inr ⟨_, km_90⟩) (Or.inr ⟨_, km_91⟩)) (bif_p (P := isM) (Or.inr ⟨_, km_92⟩) (bif_p (P := isM) (Or.inr ⟨_, km_93⟩) (Or.inr ⟨_, km_94⟩))))) (bif_p (P := isM) (bif_p (P := isM) (bif_p (P := isM) (Or.inr ⟨_, km_95⟩) (Or.inr ⟨_, km_96⟩)) (bif_p (P := isM) (Or.inr ⟨_, km_97⟩) (bif_p (P := isM) (Or.inr ⟨_, km_98⟩) (Or.inr ⟨_, km_99⟩)))) (bif_p (P := isM) (bif_p (P := isM) (Or.inr ⟨_, km_100⟩) (bif_p (P := isM) (Or.inr ⟨_, km_101⟩) (Or.inr ⟨_, km_102⟩))) (bif_p (P := isM) (Or.inr ⟨_, km_103⟩) (bif_p (P := isM) (Or.inr ⟨_, km_104⟩) (Or.inr ⟨_, km_105⟩)))))) (bif_p (P := isM) (bif_p (P := isM) (bif_p (P := isM) (bif_p (P := isM) (Or.inr ⟨_, km_106⟩) (Or.inr ⟨_, km_107⟩)) (bif_p (P := isM) (Or.inr ⟨_, km_108⟩) (bif_p (P := isM) (Or.inr ⟨_, km_109⟩) (Or.inr ⟨_, km_110⟩)))) (bif_p (P := isM) (bif_p (P := isM) (Or.inr ⟨_, km_111⟩) (bif_p (P := isM) (Or.inr ⟨_, km_112⟩) (Or.inr ⟨_, km_113⟩))) (bif_p (P := isM) (Or.inr ⟨_, km_114⟩) (bif_p (P := isM) (Or.inr ⟨_, km_115⟩) (Or.inr ⟨_, km_116⟩))))) (bif_p (P := isM) (bif_p (P := isM) (bif_p (P := isM) (Or.inr ⟨_, km_117⟩) (Or.inr ⟨_, km_118⟩)) (bif_p (P := isM) (Or.inr ⟨_, km_119⟩) (bif_p (P := isM) (Or.inr ⟨_, km_120⟩) (Or.inr ⟨_, km_121⟩)))) (bif_p (P := isM) (bif_p (P := isM) (Or.inr ⟨_, km_122⟩) (bif_p (P := isM) (Or.inr ⟨_, km_123⟩) (Or.inr ⟨_, km_124⟩))) (bif_p (P := isM) (Or.inr ⟨_, km_125⟩) (bif_p (P := isM) (Or.inr ⟨_, km_126⟩) (Or.inr ⟨_, km_127⟩))))))) (bif_p (P := isM) (bif_p (P := isM) (bif_p (P := isM) (bif_p (P := isM) (bif_p (P := isM) (Or.inr ⟨_, km_128⟩) (Or.inr ⟨_, km_129⟩)) (bif_p (P := isM) (Or.inr ⟨_, km_130⟩) (bif_p (P := isM) (Or.inr ⟨_, km_131⟩) (Or.inr ⟨_, km_132⟩)))) (bif_p (P := isM) (bif_p (P := isM) (Or.inr ⟨_, km_133⟩) (Or.inr ⟨_, km_134⟩)) (bif_p (P := isM) (Or.inr ⟨_, km_135⟩) (bif_p (P := isM) (Or.inr ⟨_, km_136⟩) (Or.inr ⟨_, km_137⟩))))) (bif_p (P := isM) (bif_p (P := isM) (bif_p (P := isM) (Or.inr ⟨_, km_138⟩) (Or.inr ⟨_, km_139⟩)) (bif_p (P := isM) (Or.inr ⟨_, km_140⟩) (bif_p (P := isM) (Or.inr ⟨_, km_141⟩) (Or.inr ⟨_, km_142⟩)))) (bif_p (P := isM) (bif_p (P := isM) (Or.inr ⟨_, km_143⟩) (bif_p (P := isM) (Or.inr ⟨_, km_144⟩) (Or.inr ⟨_, km_145⟩))) (bif_p (P := isM) (Or.inr ⟨_, km_146⟩) (bif_p (P := isM) (Or.inr ⟨_, km_147⟩) (Or.inr ⟨_, km_148⟩)))))) (bif_p (P := isM) (bif_p (P := isM) (bif_p (P := isM) (bif_p (P := isM) (Or.inr ⟨_, km_149⟩) (Or.inr ⟨_, km_150⟩)) (bif_p (P := isM) (Or.inr ⟨_, km_151⟩) (bif_p (P := isM) (Or.inr ⟨_, km_152⟩) (Or.inr ⟨_, km_153⟩)))) (bif_p (P := isM) (bif_p (P := isM) (Or.inr ⟨_, km_154⟩) (bif_p (P := isM) (Or.inr ⟨_, km_155⟩) (Or.inr ⟨_, km_156⟩))) (bif_p (P := isM) (Or.inr ⟨_, km_157⟩) (bif_p (P := isM) (Or.inr ⟨_, km_158⟩) (Or.inr ⟨_, km_159⟩))))) (bif_p (P := isM) (bif_p (P := isM) (bif_p (P := isM) (Or.inr ⟨_, km_160⟩) (Or.inr ⟨_, km_161⟩)) (bif_p (P := isM) (Or.inr ⟨_, km_162⟩) (bif_p (P := isM) (Or.inr ⟨_, km_163⟩) (Or.inr ⟨_, km_164⟩)))) (bif_p (P := isM) (bif_p (P := isM) (Or.inr ⟨_, km_165⟩) (bif_p (P := isM) (Or.inr ⟨_, km_166⟩) (Or.inr ⟨_, km_167⟩))) (bif_p (P := isM) (Or.inr ⟨_, km_168⟩) (bif_p (P := isM) (Or.inr ⟨_, km_169⟩) (Or.inr ⟨_, km_170⟩)))))))))
theorem ml_all (M : Nat) : Nat.ble (MRT M).2.2.2.1 40 = true := (bif_p (P := fun r : MR => Nat.ble r.2.2.2.1 40 = true) (bif_p (P := fun r : MR => Nat.ble r.2.2.2.1 40 = true) (bif_p (P := fun r : MR => Nat.ble r.2.2.2.1 40 = true) (bif_p (P := fun r : MR => Nat.ble r.2.2.2.1 40 = true) (bif_p (P := fun r : MR => Nat.ble r.2.2.2.1 40 = true) (bif_p (P := fun r : MR => Nat.ble r.2.2.2.1 40 = true) (bif_p (P := fun r : MR => Nat.ble r.2.2.2.1 40 = true) rfl rfl) (bif_p (P := fun r : MR => Nat.ble r.2.2.2.1 40 = true) rfl (bif_p (P := fun r : MR => Nat.ble r.2.2.2.1 40 = true) rfl rfl))) (bif_p (P := fun r : MR => Nat.ble r.2.2.2.1 40 = true) (bif_p (P := fun r : MR => Nat.ble r.2.2.2.1 40 = true) rfl rfl) (bif_p (P := fun r : MR => Nat.ble r.2.2.2.1 40 = true) rfl (bif_p (P := fun r : MR => Nat.ble r.2.2.2.1 40 = true) rfl rfl)))) (bif_p (P := fun r : MR => Nat.ble r.2.2.2.1 40 = true) (bif_p (P := fun r : MR => Nat.ble r.2.2.2.1 40 = true) (bif_p (P := fun r : MR => Nat.ble r.2.2.2.1 40 = true) rfl rfl) (bif_p (P := fun r : MR => Nat.ble r.2.2.2.1 40 = true) rfl (bif_p (P := fun r : MR => Nat.ble r.2.2.2.1 40 = true) rfl rfl))) (bif_p (P := fun r : MR => Nat.ble r.2.2.2.1 40 = true) (bif_p (P := fun r : MR => Nat.ble r.2.2.2.1 40 = true) rfl (bif_p (P := fun r : MR => Nat.ble r.2.2.2.1 40 = true) rfl rfl)) (bif_p (P := fun r : MR => Nat.ble r.2.2.2.1 40 = true) rfl (bif_p (P := fun r : MR => Nat.ble r.2.2.2.1 40 = true) rfl rfl))))) (bif_p (P := fun r : MR => Nat.ble r.2.2.2.1 40 = true) (bif_p (P := fun r : MR => Nat.ble r.2.2.2.1 40 = true) (bif_p (P := fun r : MR => Nat.ble r.2.2.2.1 40 = true) (bif_p (P := fun r : MR => Nat.ble r.2.2.2.1 40 = true) rfl rfl) (bif_p (P := fun r : MR => Nat.ble r.2.2.2.1 40 = true) rfl (bif_p (P := fun r : MR => Nat.ble r.2.2.2.1 40 = true) rfl rfl))) (bif_p (P := fun r : MR => Nat.ble r.2.2.2.1 40 = true) (bif_p (P := fun r : MR => Nat.ble r.2.2.2.1 40 = true) rfl rfl) (bif_p (P := fun r : MR => Nat.ble r.2.2.2.1 40 = true) rfl (bif_p (P := fun r : MR => Nat.ble r.2.2.2.1 40 = true) rfl rfl)))) (bif_p (P := fun r : MR => Nat.ble r.2.2.2.1 40 = true) (bif_p (P := fun r : MR => Nat.ble r.2.2.2.1 40 = true) (bif_p (P := fun r : MR => Nat.ble r.2.2.2.1 40 = true) rfl rfl) (bif_p (P := fun r : MR => Nat.ble r.2.2.2.1 40 = true) rfl (bif_p (P := fun r : MR => Nat.ble r.2.2.2.1 40 = true) rfl rfl))) (bif_p (P := fun r : MR => Nat.ble r.2.2.2.1 40 = true) (bif_p (P := fun r : MR => Nat.ble r.2.2.2.1 40 = true) rfl (bif_p (P := fun r : MR => Nat.ble r.2.2.2.1 40 = true) rfl rfl)) (bif_p (P := fun r : MR => Nat.ble r.2.2.2.1 40 = true) rfl (bif_p (P := fun r : MR => Nat.ble r.2.2.2.1 40 = true) rfl rfl)))))) (bif_p (P := fun r : MR => Nat.ble r.2.2.2.1 40 = true) (bif_p (P := fun r : MR => Nat.ble r.2.2.2.1 40 = true) (bif_p (P := fun r : MR => Nat.ble r.2.2.2.1 40 = true) (bif_p (P := fun r : MR => Nat.ble r.2.2.2.1 40 = true) (bif_p (P := fun r : MR => Nat.ble r.2.2.2.1 40 = true) rfl rfl) (bif_p (P := fun r : MR => Nat.ble r.2.2.2.1 40 = true) rfl (bif_p (P := fun r : MR => Nat.ble r.2.2.2.1 40 = true) rfl rfl))) (bif_p (P := fun r : MR => Nat.ble r.2.2.2.1 40 = true) (bif_p (P := fun r : MR => Nat.ble r.2.2.2.1 40 = true) rfl rfl) (bif_p (P := fun r : MR => Nat.ble r.2.2.2.1 40 = true) rfl (bif_p (P := fun r : MR => Nat.ble r.2.2.2.1 40 = true) rfl rfl)))) (bif_p (P := fun r : MR => Nat.ble r.2.2.2.1 40 = true) (bif_p (P := fun r : MR => Nat.ble r.2.2.2.1 40 = true) (bif_p (P := fun r : MR => Nat.ble r.2.2.2.1 40 = true) rfl rfl) (bif_p (P := fun r : MR => Nat.ble r.2.2.2.1 40 = true) rfl (bif_p (P := fun r : MR => Nat.ble r.2.2.2.1 40 = true) rfl rfl))) (bif_p (P := fun r : MR => Nat.ble r.2.2.2.1 40 = true) (bif_p (P := fun r : MR => Nat.ble r.2.2.2.1 40 = true) rfl (bif_p (P := fun r : MR => Nat.ble r.2.2.2.1 40 = true) rfl rfl)) (bif_p (P := fun r : MR => Nat.ble r.2.2.2.1 40 = true) rfl (bif_p (P := fun r : MR => Nat.ble r.2.2.2.1 40 = true) rfl rfl))))) (bif_p (P := fun r : MR => Nat.ble r.2.2.2.1 40 = true) (bif_p (P := fun r : MR => Nat.ble r.2.2.2.1 40 = true) (bif_p (P := fun r : MR => Nat.ble r.2.2.2.1 40 = true) (bif_p (P := fun r : MR => Nat.ble r.2.2.2.1 40 = true) rfl rfl) (bif_p (P := fun r : MR => Nat.ble r.2.2.2.1 40 = true) rfl (bif_p (P := fun r : MR => Nat.ble r.2.2.2.1 40 = true) rfl rfl))) (bif_p (P := fun r : MR => Nat.ble r.2.2.2.1 40 = true) (bif_p (P := fun r : MR => Nat.ble r.2.2.2.1 40 = true) rfl (bif_p (P := fun r : MR => Nat.ble r.2.2.2.1 40 = true) rfl rfl)) (bif_p (P := fun r : MR => Nat.ble r.2.2.2.1 40 = true) rfl (bif_p (P := fun r : MR => Nat.ble r.2.2.2.1 40 = true) rfl rfl)))) (bif_p (P := fun r : MR => Nat.ble r.2.2.2.1 40 = true) (bif_p (P := fun r : MR => Nat.ble r.2.2.2.1 40 = true) (bif_p (P := fun r : MR => Nat.ble r.2.2.2.1 40 = true) rfl rfl) (bif_p (P := fun r : MR => Nat.ble r.2.2.2.1 40 = true) rfl (bif_p (P := fun r : MR => Nat.ble r.2.2.2.1 40 = true) rfl rfl))) (bif_p (P := fun r : MR => Nat.ble r.2.2.2.1 40 = true) (bif_p (P := fun r : MR => Nat.ble r.2.2.2.1 40 = true) rfl (bif_p (P := fun r : MR => Nat.ble r.2.2.2.1 40 = true) rfl rfl)) (bif_p (P := fun r : MR => Nat.ble r.2.2.2.1 40 = true) rfl (bif_p (P := fun r : MR => Nat.ble r.2.2.2.1 40 = true) rfl rfl))))))) (bif_p (P := fun r : MR => Nat.ble r.2.2.2.1 40 = true) (bif_p (P := fun r : MR => Nat.ble r.2.2.2.1 40 = true) (bif_p (P := fun r : MR => Nat.ble r.2.2.2.1 40 = true) (bif_p (P := fun r : MR => Nat.ble r.2.2.2.1 40 = true) (bif_p (P := fun r : MR => Nat.ble r.2.2.2.1 40 = true) (bif_p (P := fun r : MR => Nat.ble r.2.2.2.1 40 = true) rfl rfl) (bif_p (P := fun r : MR => Nat.ble r.2.2.2.1 40 = true) rfl (bif_p (P := fun r : MR => Nat.ble r.2.2.2.1 40 = true) rfl rfl))) (bif_p (P := fun r : MR => Nat.ble r.2.2.2.1 40 = true) (bif_p (P := fun r : MR => Nat.ble r.2.2.2.1 40 = true) rfl rfl) (bif_p (P := fun r : MR => Nat.ble r.2.2.2.1 40 = true) rfl (bif_p (P := fun r : MR => Nat.ble r.2.2.2.1 40 = true) rfl rfl)))) (bif_p (P := fun r : MR => Nat.ble r.2.2.2.1 40 = true) (bif_p (P := fun r : MR => Nat.ble r.2.2.2.1 40 = true) (bif_p (P := fun r : MR => Nat.ble r.2.2.2.1 40 = true) rfl rfl) (bif_p (P := fun r : MR => Nat.ble r.2.2.2.1 40 = true) rfl (bif_p (P := fun r : MR => Nat.ble r.2.2.2.1 40 = true) rfl rfl))) (bif_p (P := fun r : MR => Nat.ble r.2.2.2.1 40 = true) (bif_p (P := fun r : MR => Nat.ble r.2.2.2.1 40 = true) rfl (bif_p (P := fun r : MR => Nat.ble r.2.2.2.1 40 = true) rfl rfl)) (bif_p (P := fun r : MR => Nat.ble r.2.2.2.1 40 = true) rfl (bif_p (P := fun r : MR => Nat.ble r.2.2.2.1 40 = true) rfl rfl))))) (bif_p (P := fun r : MR => Nat.ble r.2.2.2.1 40 = true) (bif_p (P := fun r : MR => Nat.ble r.2.2.2.1 40 = true) (bif_p (P := fun r : MR => Nat.ble r.2.2.2.1 40 = true) (bif_p (P := fun r : MR => Nat.ble r.2.2.2.1 40 = true) rfl rfl) (bif_p (P := fun r : MR => Nat.ble r.2.2.2.1 40 = true) rfl (bif_p (P := fun r : MR => Nat.ble r.2.2.2.1 40 = true) rfl rfl))) (bif_p (P := fun r : MR => Nat.ble r.2.2.2.1 40 = true) (bif_p (P := fun r : MR => Nat.ble r.2.2.2.1 40 = true) rfl (bif_p (P := fun r : MR => Nat.ble r.2.2.2.1 40 = true) rfl rfl)) (bif_p (P := fun r : MR => Nat.ble r.2.2.2.1 40 = true) rfl (bif_p (P := fun r : MR => Nat.ble r.2.2.2.1 40 = true) rfl rfl)))) (bif_p (P := fun r : MR => Nat.ble r.2.2.2.1 40 = true) (bif_p (P := fun r : MR => Nat.ble r.2.2.2.1 40 = true) (bif_p (P := fun r : MR => Nat.ble r.2.2.2.1 40 = true) rfl rfl) (bif_p (P := fun r : MR => Nat.ble r.2.2.2.1 40 = true) rfl (bif_p (P := fun r : MR => Nat.ble r.2.2.2.1 40 = true) rfl rfl))) (bif_p (P := fun r : MR => Nat.ble r.2.2.2.1 40 = true) (bif_p (P := fun r : MR => Nat.ble r.2.2.2.1 40 = true) rfl (bif_p (P := fun r : MR => Nat.ble r.2.2.2.1 40 = true) rfl rfl)) (bif_p (P := fun r : MR => Nat.ble r.2.2.2.1 40 = true) rfl (bif_p (P := fun r : MR => Nat.ble r.2.2.2.1 40 = true) rfl rfl)))))) (bif_p (P := fun r : MR => Nat.ble r.2.2.2.1 40 = true) (bif_p (P := fun r : MR => Nat.ble r.2.2.2.1 40 = true) (bif_p (P := fun r : MR => Nat.ble r.2.2.2.1 40 = true) (bif_p (P := fun r : MR => Nat.ble r.2.2.2.1 40 = true) (bif_p (P := fun r : MR => Nat.ble r.2.2.2.1 40 = true) rfl rfl) (bif_p (P := fun r : MR => Nat.ble r.2.2.2.1 40 = true) rfl (bif_p (P := fun r : MR => Nat.ble r.2.2.2.1 40 = true) rfl rfl))) (bif_p (P := fun r : MR => Nat.ble r.2.2.2.1 40 = true) (bif_p (P := fun r : MR => Nat.ble r.2.2.2.1 40 = true) rfl rfl) (bif_p (P := fun r : MR => Nat.ble r.2.2.2.1 40 = true) rfl (bif_p (P := fun r : MR => Nat.ble r.2.2.2.1 40 = true) rfl rfl)))) (bif_p (P := fun r : MR => Nat.ble r.2.2.2.1 40 = true) (bif_p (P := fun r : MR => Nat.ble r.2.2.2.1 40 = true) (bif_p (P := fun r : MR => Nat.ble r.2.2.2.1 40 = true) rfl rfl) (bif_p (P := fun r : MR => Nat.ble r.2.2.2.1 40 = true) rfl (bif_p (P := fun r : MR => Nat.ble r.2.2.2.1 40 = true) rfl rfl))) (bif_p (P := fun r : MR => Nat.ble r.2.2.2.1 40 = true) (bif_p (P := fun r : MR => Nat.ble r.2.2.2.1 40 = true) rfl (bif_p (P := fun r : MR => Nat.ble r.2.2.2.1 40 = true) rfl rfl)) (bif_p (P := fun r : MR => Nat.ble r.2.2.2.1 40 = true) rfl (bif_p (P := fun r : MR => Nat.ble r.2.2.2.1 40 = true) rfl rfl))))) (bif_p (P := fun r : MR => Nat.ble r.2.2.2.1 40 = true) (bif_p (P := fun r : MR => Nat.ble r.2.2.2.1 40 = true) (bif_p (P := fun r : MR => Nat.ble r.2.2.2.1 40 = true) (bif_p (P := fun r : MR => Nat.ble r.2.2.2.1 40 = true) rfl rfl) (bif_p (P := fun r : MR => Nat.ble r.2.2.2.1 40 = true) rfl (bif_p (P := fun r : MR => Nat.ble r.2.2.2.1 40 = true) rfl rfl))) (bif_p (P := fun r : MR => Nat.ble r.2.2.2.1 40 = true) (bif_p (P := fun r : MR => Nat.ble r.2.2.2.1 40 = true) rfl (bif_p (P := fun r : MR => Nat.ble r.2.2.2.1 40 = true) rfl rfl)) (bif_p (P := fun r : MR => Nat.ble r.2.2.2.1 40 = true) rfl (bif_p (P := fun r : MR => Nat.ble r.2.2.2.1 40 = true) rfl rfl)))) (bif_p (P := fun r : MR => Nat.ble r.2.2.2.1 40 = true) (bif_p (P := fun r : MR => Nat.ble r.2.2.2.1 40 = true) (bif_p (P := fun r : MR => Nat.ble r.2.2.2.1 40 = true) rfl rfl) (bif_p (P := fun r : MR => Nat.ble r.2.2.2.1 40 = true) rfl (bif_p (P := fun r : MR => Nat.ble r.2.2.2.1 40 = true) rfl rfl))) (bif_p (P := fun r : MR => Nat.ble r.2.2.2.1 40 = true) (bif_p (P := fun r : MR => Nat.ble r.2.2.2.1 40 = true) rfl (bif_p (P := fun r : MR => Nat.ble r.2.2.2.1 40 = true) rfl rfl)) (bif_p (P := fun r : MR => Nat.ble r.2.2.2.1 40 = true) rfl (bif_p (P := fun r : MR => Nat.ble r.2.2.2.1 40 = true) rfl rfl))))))))
theorem fetch_ok {M pc : Nat} {i : Instr} {n : Nat} (h : fetch M pc = some (i, n)) : decode (bM M) pc = .ok (i, n) ∧ okIns pc i n = true := by
  obtain ⟨cl, h1, h2⟩ := nthC_mem (lkI_mem h)
  have h3 := List.all_eq_true.mp (show okCl (bM M) cl = true from List.all_eq_true.mp (kc_all M) cl h1) _ h2
  simp only [Bool.and_eq_true, decide_eq_true_eq] at h3
  exact h3
def okF (own : String) (q : Fe) (p : Nat) : Bool := match vwCl[q.2.1]? with
  | some (_, T, N) => decide (lw_tbl[p]? = some (.fieldLink own q.1 (T q.2.2.1).1 (T q.2.2.1).2.1 (T q.2.2.1).2.2.1)) && Nat.blt q.2.2.1 N && Nat.beq N (nFf q.2.1) && Nat.beq (kdf q.2.1 q.2.2.1) q.2.2.2 && (Nat.beq q.2.2.2 1 || ((T q.2.2.1).2.2.2 == false)) && (Nat.beq q.2.2.2 1 || (match parseFieldDescriptor (T q.2.2.1).2.2.1 with | some .int => Nat.beq q.2.2.2 0 | some .boolean => Nat.beq q.2.2.2 2 | _ => false))
  | none => false
theorem kf_0 : zAll (okF RX0) f_0 [87, 89, 96, 98, 100, 102, 113, 115, 116, 117, 121, 92, 104, 106, 109, 111, 118, 120] = true := by decide +kernel
theorem kf_1 : zAll (okF RX1) f_1 [233, 234, 235, 236, 238, 240, 231, 232, 195, 188, 237, 193] = true := by decide +kernel
theorem kf_2 : zAll (okF RX2) f_2 [273, 268, 270, 272] = true := by decide +kernel
theorem kf_3 : zAll (okF RX3) f_3 [167, 168, 169, 95, 108, 91] = true := by decide +kernel
theorem kf_4 : zAll (okF RX4) f_4 [185, 186, 187, 189, 190, 191, 192, 184, 122, 198, 199, 196, 94, 194] = true := by decide +kernel
theorem kf_5 : zAll (okF RX5) f_5 [285, 286, 287, 289, 290, 291, 292, 93, 105, 107, 88, 90, 110, 112, 97, 99, 101, 103, 114, 119, 197, 239, 241, 288, 269, 271, 274] = true := by decide +kernel
theorem kf_6 : zAll (okF RX6) f_6 [829, 830, 834, 836, 837, 839, 841, 842, 843, 844, 845, 846, 847, 848, 849, 850, 853, 854, 855, 856, 838, 831, 832, 833, 835, 840, 851, 852] = true := by decide +kernel
theorem kf_7 : zAll (okF RL) f_7 [] = true := by decide +kernel
theorem kf_8 : zAll (okF RJ6) f_8 [] = true := by decide +kernel
theorem kf_all (own : Nat) : ∃ m, zAll (okF (RNf own)) (bif Nat.ble own 3 then (bif Nat.ble own 1 then (bif Nat.ble own 0 then (f_0) else (f_1)) else (bif Nat.ble own 2 then (f_2) else (f_3))) else (bif Nat.ble own 5 then (bif Nat.ble own 4 then (f_4) else (f_5)) else (bif Nat.ble own 6 then (f_6) else (bif Nat.ble own 7 then (f_7) else (f_8))))) m = true := (bif_p2 (P := fun (a : String) (b : List Fe) => ∃ m, zAll (okF a) b m = true) (bif_p2 (P := fun (a : String) (b : List Fe) => ∃ m, zAll (okF a) b m = true) (bif_p2 (P := fun (a : String) (b : List Fe) => ∃ m, zAll (okF a) b m = true) ⟨_, kf_0⟩ ⟨_, kf_1⟩) (bif_p2 (P := fun (a : String) (b : List Fe) => ∃ m, zAll (okF a) b m = true) ⟨_, kf_2⟩ ⟨_, kf_3⟩)) (bif_p2 (P := fun (a : String) (b : List Fe) => ∃ m, zAll (okF a) b m = true) (bif_p2 (P := fun (a : String) (b : List Fe) => ∃ m, zAll (okF a) b m = true) ⟨_, kf_4⟩ ⟨_, kf_5⟩) (bif_p2 (P := fun (a : String) (b : List Fe) => ∃ m, zAll (okF a) b m = true) ⟨_, kf_6⟩ (bif_p2 (P := fun (a : String) (b : List Fe) => ∃ m, zAll (okF a) b m = true) ⟨_, kf_7⟩ ⟨_, kf_8⟩))))
theorem FT_ok {own ix ci k kd : Nat} (h : FTf own ix = some (ci, k, kd)) : ∃ p, okF (RNf own) (ix, ci, k, kd) p = true := by
  obtain ⟨m, hm⟩ := kf_all own
  exact zAll_mem hm (lkF_mem h)
def okL (own : String) (q : Nat × Int32) (p : Nat) : Bool := decide (lw_tbl[p]? = some (.constant own q.1 q.2))
def okL2 (own : String) (q : Nat × Int64) (p : Nat) : Bool := decide (lw_tbl[p]? = some (.constantLong own q.1 q.2))
theorem kl_0 : zAll (okL RX0) l_0 [591, 592, 593] = true := by decide +kernel
theorem kll_0 : zAll (okL2 RX0) ll_0 [] = true := by decide +kernel
theorem kl_1 : zAll (okL RX1) l_1 [] = true := by decide +kernel
theorem kll_1 : zAll (okL2 RX1) ll_1 [] = true := by decide +kernel
theorem kl_2 : zAll (okL RX2) l_2 [] = true := by decide +kernel
theorem kll_2 : zAll (okL2 RX2) ll_2 [] = true := by decide +kernel
theorem kl_3 : zAll (okL RX3) l_3 [] = true := by decide +kernel
theorem kll_3 : zAll (okL2 RX3) ll_3 [] = true := by decide +kernel
theorem kl_4 : zAll (okL RX4) l_4 [638] = true := by decide +kernel
theorem kll_4 : zAll (okL2 RX4) ll_4 [] = true := by decide +kernel
theorem kl_5 : zAll (okL RX5) l_5 [] = true := by decide +kernel
theorem kll_5 : zAll (okL2 RX5) ll_5 [723, 730, 777] = true := by decide +kernel
theorem kl_6 : zAll (okL RX6) l_6 [1069, 1090] = true := by decide +kernel
theorem kll_6 : zAll (okL2 RX6) ll_6 [918, 922, 935, 936, 987, 1008, 1009, 1065, 1066, 1067, 1068, 1123, 1144, 1149, 1176, 1177] = true := by decide +kernel
theorem kl_7 : zAll (okL RL) l_7 [] = true := by decide +kernel
theorem kll_7 : zAll (okL2 RL) ll_7 [1206] = true := by decide +kernel
theorem kl_8 : zAll (okL RJ6) l_8 [575, 576, 577] = true := by decide +kernel
theorem kll_8 : zAll (okL2 RJ6) ll_8 [] = true := by decide +kernel
theorem kl_all (own : Nat) : ∃ m, zAll (okL (RNf own)) (bif Nat.ble own 3 then (bif Nat.ble own 1 then (bif Nat.ble own 0 then (l_0) else (l_1)) else (bif Nat.ble own 2 then (l_2) else (l_3))) else (bif Nat.ble own 5 then (bif Nat.ble own 4 then (l_4) else (l_5)) else (bif Nat.ble own 6 then (l_6) else (bif Nat.ble own 7 then (l_7) else (l_8))))) m = true := (bif_p2 (P := fun (a : String) (b : List (Nat × Int32)) => ∃ m, zAll (okL a) b m = true) (bif_p2 (P := fun (a : String) (b : List (Nat × Int32)) => ∃ m, zAll (okL a) b m = true) (bif_p2 (P := fun (a : String) (b : List (Nat × Int32)) => ∃ m, zAll (okL a) b m = true) ⟨_, kl_0⟩ ⟨_, kl_1⟩) (bif_p2 (P := fun (a : String) (b : List (Nat × Int32)) => ∃ m, zAll (okL a) b m = true) ⟨_, kl_2⟩ ⟨_, kl_3⟩)) (bif_p2 (P := fun (a : String) (b : List (Nat × Int32)) => ∃ m, zAll (okL a) b m = true) (bif_p2 (P := fun (a : String) (b : List (Nat × Int32)) => ∃ m, zAll (okL a) b m = true) ⟨_, kl_4⟩ ⟨_, kl_5⟩) (bif_p2 (P := fun (a : String) (b : List (Nat × Int32)) => ∃ m, zAll (okL a) b m = true) ⟨_, kl_6⟩ (bif_p2 (P := fun (a : String) (b : List (Nat × Int32)) => ∃ m, zAll (okL a) b m = true) ⟨_, kl_7⟩ ⟨_, kl_8⟩))))
theorem kll_all (own : Nat) : ∃ m, zAll (okL2 (RNf own)) (bif Nat.ble own 3 then (bif Nat.ble own 1 then (bif Nat.ble own 0 then (ll_0) else (ll_1)) else (bif Nat.ble own 2 then (ll_2) else (ll_3))) else (bif Nat.ble own 5 then (bif Nat.ble own 4 then (ll_4) else (ll_5)) else (bif Nat.ble own 6 then (ll_6) else (bif Nat.ble own 7 then (ll_7) else (ll_8))))) m = true := (bif_p2 (P := fun (a : String) (b : List (Nat × Int64)) => ∃ m, zAll (okL2 a) b m = true) (bif_p2 (P := fun (a : String) (b : List (Nat × Int64)) => ∃ m, zAll (okL2 a) b m = true) (bif_p2 (P := fun (a : String) (b : List (Nat × Int64)) => ∃ m, zAll (okL2 a) b m = true) ⟨_, kll_0⟩ ⟨_, kll_1⟩) (bif_p2 (P := fun (a : String) (b : List (Nat × Int64)) => ∃ m, zAll (okL2 a) b m = true) ⟨_, kll_2⟩ ⟨_, kll_3⟩)) (bif_p2 (P := fun (a : String) (b : List (Nat × Int64)) => ∃ m, zAll (okL2 a) b m = true) (bif_p2 (P := fun (a : String) (b : List (Nat × Int64)) => ∃ m, zAll (okL2 a) b m = true) ⟨_, kll_4⟩ ⟨_, kll_5⟩) (bif_p2 (P := fun (a : String) (b : List (Nat × Int64)) => ∃ m, zAll (okL2 a) b m = true) ⟨_, kll_6⟩ (bif_p2 (P := fun (a : String) (b : List (Nat × Int64)) => ∃ m, zAll (okL2 a) b m = true) ⟨_, kll_7⟩ ⟨_, kll_8⟩))))
theorem LC_ok {own ix : Nat} {v : Int32} (h : LCf own ix = some v) : Jvm.Cond.constant (RNf own) ix v ∈ lw_good := by
  obtain ⟨m, hm⟩ := kl_all own
  obtain ⟨p, hp⟩ := zAll_mem hm (lkV_mem h)
  exact good_at (of_decide_eq_true hp) rfl
theorem LC2_ok {own ix : Nat} {v : Int64} (h : LC2f own ix = some v) : Jvm.Cond.constantLong (RNf own) ix v ∈ lw_good := by
  obtain ⟨m, hm⟩ := kll_all own
  obtain ⟨p, hp⟩ := zAll_mem hm (lkV_mem h)
  exact good_at (of_decide_eq_true hp) rfl
def okK (own : String) (q : Fe) (p : Nat × Nat × Nat) : Bool := Nat.ble 1 q.2.2.1 && decide ((yM q.2.2.1).cls ≠ "SecretBoxLaw") && decide ((parseMethodDescriptor (yM q.2.2.1).desc).map (fun d => d.parameters.length) = some q.2.2.2) && (match q.2.1 with
  | 0 => decide (lw_tbl[p.1]? = some (.methodLink own q.1 (yM q.2.2.1))) && decide (lw_tbl[p.2.1]? = some (.instanceMethod (yM q.2.2.1))) && decide (lw_tbl[p.2.2]? = some (.selects (yM q.2.2.1).cls (yM q.2.2.1) (yM q.2.2.1)))
  | 1 => decide (lw_tbl[p.1]? = some (.methodLink own q.1 (yM q.2.2.1))) && decide (lw_tbl[p.2.1]? = some (.static (yM q.2.2.1)))
  | 2 => decide (lw_tbl[p.1]? = some (.methodLinkNest own q.1 (yM q.2.2.1) "SecretBox")) && decide (lw_tbl[p.2.1]? = some (.static (yM q.2.2.1)))
  | _ => false)
theorem kk_0 : zAll (okK RX0) c_0 [(349, 350, 351), (353, 327, 328), (354, 343, 58), (355, 357, 0), (359, 360, 361), (363, 364, 365), (399, 315, 316), (551, 346, 347), (564, 566, 10), (590, 557, 558), (594, 561, 562), (764, 765, 766)] = true := by decide +kernel
theorem kk_1 : zAll (okK RX1) c_1 [(672, 674, 14), (676, 678, 15), (680, 635, 636), (681, 540, 541), (682, 684, 16), (706, 708, 18), (714, 716, 19), (718, 649, 61)] = true := by decide +kernel
theorem kk_2 : zAll (okK RX2) c_2 [(756, 757, 758)] = true := by decide +kernel
theorem kk_3 : zAll (okK RX3) c_3 [(395, 396, 397), (400, 402, 1), (404, 406, 2), (408, 410, 3), (413, 415, 4), (503, 505, 5), (507, 319, 320), (508, 510, 6), (512, 514, 7), (516, 518, 8), (521, 327, 328), (522, 524, 9), (526, 331, 332)] = true := by decide +kernel
theorem kk_4 : zAll (okK RX4) c_4 [(615, 617, 11), (619, 620, 621), (623, 625, 12), (627, 350, 351), (628, 561, 562), (629, 360, 361), (630, 632, 13), (634, 635, 636), (643, 540, 541), (648, 649, 61), (659, 640, 641)] = true := by decide +kernel
theorem kk_5 : zAll (okK RX5) c_5 [(314, 315, 316), (318, 319, 320), (326, 327, 328), (330, 331, 332), (342, 343, 58), (345, 346, 347), (367, 368, 58), (374, 375, 376), (378, 364, 365), (383, 384, 385), (391, 392, 393), (527, 528, 529), (539, 540, 541), (543, 544, 545), (547, 548, 549), (556, 557, 558), (560, 561, 562), (572, 573, 72), (586, 587, 588), (599, 600, 601), (611, 612, 613), (639, 640, 641), (644, 645, 646), (655, 656, 657), (664, 665, 666), (668, 669, 670), (690, 692, 17), (702, 703, 704), (710, 711, 712), (724, 725, 58), (727, 728, 58), (731, 732, 58), (746, 747, 58), (749, 750, 58), (752, 753, 754), (760, 761, 762), (772, 774, 20), (776, 765, 766), (778, 780, 21), (782, 783, 58), (785, 787, 22), (793, 794, 795), (801, 802, 803), (809, 810, 811), (821, 757, 758)] = true := by decide +kernel
theorem kk_6 : zAll (okK RX6) c_6 [(919, 920, 64), (923, 925, 23), (931, 933, 24), (937, 939, 25), (949, 951, 26), (953, 955, 27), (957, 958, 64), (960, 962, 28), (964, 966, 29), (968, 970, 30), (972, 974, 31), (976, 977, 64), (983, 985, 32), (992, 994, 33), (996, 998, 34), (1000, 1002, 35), (1014, 1016, 36), (1018, 1020, 37), (1022, 1024, 38), (1026, 1028, 39), (1030, 1032, 40), (1034, 1036, 41), (1042, 1044, 42), (1046, 1048, 43), (1054, 1055, 64), (1082, 1084, 44), (1086, 1088, 45), (1091, 1093, 46), (1095, 1097, 47), (1107, 1109, 48), (1111, 1113, 49), (1128, 1130, 50), (1132, 1134, 51), (1136, 1138, 52), (1145, 1147, 53), (1162, 1163, 64), (1165, 1166, 64), (1168, 1170, 54), (1178, 1180, 55), (1182, 1184, 56)] = true := by decide +kernel
theorem kk_7 : zAll (okK RL) c_7 [(310, 311, 312), (322, 323, 324), (334, 335, 336), (338, 339, 340), (370, 371, 372), (379, 380, 381), (387, 388, 389), (535, 536, 537), (552, 553, 554), (568, 569, 570), (578, 579, 580), (582, 583, 584), (595, 596, 597), (603, 604, 605), (607, 608, 609), (651, 652, 653), (660, 661, 662), (686, 687, 688), (694, 695, 696), (698, 699, 700), (719, 720, 721), (734, 735, 736), (738, 739, 740), (742, 743, 744), (768, 769, 770), (789, 790, 791), (797, 798, 799), (805, 806, 807), (813, 814, 815), (817, 818, 819), (914, 915, 916), (927, 928, 929), (941, 942, 943), (945, 946, 947), (979, 980, 981), (988, 989, 990), (1004, 1005, 1006), (1010, 1011, 1012), (1038, 1039, 1040), (1050, 1051, 1052), (1057, 1058, 1059), (1061, 1062, 1063), (1070, 1071, 1072), (1074, 1075, 1076), (1078, 1079, 1080), (1099, 1100, 1101), (1103, 1104, 1105), (1115, 1116, 1117), (1119, 1120, 1121), (1124, 1125, 1126), (1140, 1141, 1142), (1150, 1151, 1152), (1154, 1155, 1156), (1158, 1159, 1160), (1172, 1173, 1174), (1186, 1187, 1188), (1190, 1191, 1192), (1194, 1195, 1196), (1198, 1199, 1200), (1202, 1203, 1204)] = true := by decide +kernel
theorem kk_8 : zAll (okK RJ6) c_8 [] = true := by decide +kernel
theorem kk_all (own : Nat) : ∃ m, zAll (okK (RNf own)) (bif Nat.ble own 3 then (bif Nat.ble own 1 then (bif Nat.ble own 0 then (c_0) else (c_1)) else (bif Nat.ble own 2 then (c_2) else (c_3))) else (bif Nat.ble own 5 then (bif Nat.ble own 4 then (c_4) else (c_5)) else (bif Nat.ble own 6 then (c_6) else (bif Nat.ble own 7 then (c_7) else (c_8))))) m = true := (bif_p2 (P := fun (a : String) (b : List Fe) => ∃ m, zAll (okK a) b m = true) (bif_p2 (P := fun (a : String) (b : List Fe) => ∃ m, zAll (okK a) b m = true) (bif_p2 (P := fun (a : String) (b : List Fe) => ∃ m, zAll (okK a) b m = true) ⟨_, kk_0⟩ ⟨_, kk_1⟩) (bif_p2 (P := fun (a : String) (b : List Fe) => ∃ m, zAll (okK a) b m = true) ⟨_, kk_2⟩ ⟨_, kk_3⟩)) (bif_p2 (P := fun (a : String) (b : List Fe) => ∃ m, zAll (okK a) b m = true) (bif_p2 (P := fun (a : String) (b : List Fe) => ∃ m, zAll (okK a) b m = true) ⟨_, kk_4⟩ ⟨_, kk_5⟩) (bif_p2 (P := fun (a : String) (b : List Fe) => ∃ m, zAll (okK a) b m = true) ⟨_, kk_6⟩ (bif_p2 (P := fun (a : String) (b : List Fe) => ∃ m, zAll (okK a) b m = true) ⟨_, kk_7⟩ ⟨_, kk_8⟩))))
theorem KT_ok {own ix kd M n : Nat} (h : KTf own ix = some (kd, M, n)) : ∃ p, okK (RNf own) (ix, kd, M, n) p = true := by
  obtain ⟨m, hm⟩ := kk_all own
  exact zAll_mem hm (lkF_mem h)
theorem wi_0 : (wsX00.all fun w => decide (w ∈ lw_tbl) && goodWord w) = true := by decide +kernel
theorem wi_1 : (wsX10.all fun w => decide (w ∈ lw_tbl) && goodWord w) = true := by decide +kernel
theorem wi_2 : (wsX20.all fun w => decide (w ∈ lw_tbl) && goodWord w) = true := by decide +kernel
theorem wi_3 : (wsX30.all fun w => decide (w ∈ lw_tbl) && goodWord w) = true := by decide +kernel
theorem wi_4 : (wsX40.all fun w => decide (w ∈ lw_tbl) && goodWord w) = true := by decide +kernel
theorem wi_5 : (wsX50.all fun w => decide (w ∈ lw_tbl) && goodWord w) = true := by decide +kernel
theorem wi_6 : (wsX60.all fun w => decide (w ∈ lw_tbl) && goodWord w) = true := by decide +kernel
/-- what the kit asks of the fields of what stands in the world -/
def okC (C : String) (T : u_T) (N : Nat) : Prop := (∀ w ∈ u_ws C T N, w ∈ lw_good) ∧ (∃ ty0 : Nat → FieldType, ∀ k, k < N → parseFieldDescriptor (T k).2.2.1 = some (ty0 k)) ∧ ∀ a, a < N → ∀ b, b < N → a ≠ b → (T a).2.1 ≠ (T b).2.1
theorem okC_of {C : String} {T : u_T} {N : Nat} (h : ((u_ws C T N).all fun w => decide (w ∈ lw_tbl) && goodWord w) = true) {ty0 : Nat → FieldType} (h2 : ∀ k, k < N → parseFieldDescriptor (T k).2.2.1 = some (ty0 k)) (h3 : ∀ a, a < N → ∀ b, b < N → a ≠ b → (T a).2.1 ≠ (T b).2.1) : okC C T N := by
  refine ⟨fun w hw => ?_, ⟨ty0, h2⟩, h3⟩
  have h4 := List.all_eq_true.mp h w hw
  simp only [Bool.and_eq_true, decide_eq_true_eq] at h4
  exact List.mem_filter.mpr h4
theorem okC_all {ci : Nat} {C : String} {T : u_T} {N : Nat} (h : vwCl[ci]? = some (C, T, N)) : okC C T N := by
  match ci, h with
  | 0, h => cases h; exact okC_of wi_0 tyX0_ok nmX0
  | 1, h => cases h; exact okC_of wi_1 tyX1_ok nmX1
  | 2, h => cases h; exact okC_of wi_2 tyX2_ok nmX2
  | 3, h => cases h; exact okC_of wi_3 tyX3_ok nmX3
  | 4, h => cases h; exact okC_of wi_4 tyX4_ok nmX4
  | 5, h => cases h; exact okC_of wi_5 tyX5_ok nmX5
  | 6, h => cases h; exact okC_of wi_6 tyX6_ok nmX6
  | n + 7, h => simp [vwCl] at h
end
section
/-! THE WALKED MACHINE: what a method does to its locals, its stack and the memory (whole numbers: I place slot, longs: J place slot), without heaps and frames. References are places (SKf); 100 is the script of the law, 101 its length, 201, 202 are the two texts. -/
abbrev Lv : Type := List (Option Value)
abbrev St : Type := List Value
abbrev I2 : Type := Nat → Nat → Int32
abbrev J2 : Type := Nat → Nat → Int64
abbrev Post : Type := Option Value → I2 → J2 → Prop
def rfv : Option Nat → Value
  | some a => .ref a
  | none => .null
def is2 : Value → Bool
  | .long _ => true
  | .double _ => true
  | _ => false
/-- a store: what overlapped it is gone -/
def stI (lv : Lv) (i : Nat) (v : Value) : Lv := match i with
  | 0 => lv.set 0 (some v)
  | k + 1 => match lv[k]? with
    | some (some o) => bif is2 o then (lv.set (k + 1) (some v)).set k none else lv.set (k + 1) (some v)
    | _ => lv.set (k + 1) (some v)
def stL (lv : Lv) (i : Nat) (v : Value) : Lv := (stI lv i v).set (i + 1) none
def up2 (I : I2) (a k : Nat) (x : Int32) : I2 := fun i => if i = a then upd (I i) k x else I i
def upJ (J : J2) (a k : Nat) (x : Int64) : J2 := fun i => if i = a then vp_updL (J i) k x else J i
def brI {α : Type} (c : Jvm.ClassFile.Cond) (x : Int32) (a b : α) : α := match c with
  | .eq => if x = 0 then a else b
  | .ne => if x = 0 then b else a
  | .lt => if x < 0 then a else b
  | .ge => if x < 0 then b else a
  | .gt => if 0 < x then a else b
  | .le => if 0 < x then b else a
def brC {α : Type} (c : Jvm.ClassFile.Cond) (x y : Int32) (a b : α) : α := match c with
  | .eq => if x = y then a else b
  | .ne => if x = y then b else a
  | .lt => if x < y then a else b
  | .ge => if x < y then b else a
  | .gt => if y < x then a else b
  | .le => if y < x then b else a
def swT (x : Int32) (pc : Nat) (d : Int) : List Int → Nat → Nat
  | [], _ => tg pc d
  | o :: t, k => if x = OfNat.ofNat k then tg pc o else swT x pc d t (k + 1)
/-- instructions of the stack alone -/
def opS (i : Instr) (st : St) : Option St := match i with
  | .iconst k => some (.int (iK k) :: st)
  | .bipush k => some (.int (iK k) :: st)
  | .sipush k => some (.int (iK k) :: st)
  | .lconst k => some (.long (lK k.val) :: st)
  | .iadd => match st with | .int y :: .int x :: r => some (.int (x + y) :: r) | _ => none
  | .isub => match st with | .int y :: .int x :: r => some (.int (x - y) :: r) | _ => none
  | .imul => match st with | .int y :: .int x :: r => some (.int (x * y) :: r) | _ => none
  | .iand => match st with | .int y :: .int x :: r => some (.int (x &&& y) :: r) | _ => none
  | .ior => match st with | .int y :: .int x :: r => some (.int (x ||| y) :: r) | _ => none
  | .ixor => match st with | .int y :: .int x :: r => some (.int (x ^^^ y) :: r) | _ => none
  | .idiv => match st with | .int y :: .int x :: r => if y = 0 then none else some (.int (x / y) :: r) | _ => none
  | .irem => match st with | .int y :: .int x :: r => if y = 0 then none else some (.int (x - x / y * y) :: r) | _ => none
  | .ineg => match st with | .int x :: r => some (.int (-x) :: r) | _ => none
  | .ishl => match st with | .int y :: .int x :: r => some (.int (x <<< (y &&& 31)) :: r) | _ => none
  | .ishr => match st with | .int y :: .int x :: r => some (.int (x >>> (y &&& 31)) :: r) | _ => none
  | .iushr => match st with | .int y :: .int x :: r => some (.int ((x.toUInt32 >>> (y.toUInt32 &&& Int32.toUInt32 31)).toInt32) :: r) | _ => none
  | .ladd => match st with | .long y :: .long x :: r => some (.long (x + y) :: r) | _ => none
  | .lsub => match st with | .long y :: .long x :: r => some (.long (x - y) :: r) | _ => none
  | .lmul => match st with | .long y :: .long x :: r => some (.long (x * y) :: r) | _ => none
  | .land => match st with | .long y :: .long x :: r => some (.long (x &&& y) :: r) | _ => none
  | .lor => match st with | .long y :: .long x :: r => some (.long (x ||| y) :: r) | _ => none
  | .ldiv => match st with | .long y :: .long x :: r => if y = 0 then none else some (.long (x / y) :: r) | _ => none
  | .lrem => match st with | .long y :: .long x :: r => if y = 0 then none else some (.long (x - x / y * y) :: r) | _ => none
  | .lshl => match st with | .int y :: .long x :: r => some (.long (x <<< (y.toInt64 &&& 63)) :: r) | _ => none
  | .lcmp => match st with | .long y :: .long x :: r => some (.int (lg_cmp x y) :: r) | _ => none
  | .i2l => match st with | .int x :: r => some (.long x.toInt64 :: r) | _ => none
  | .l2i => match st with | .long x :: r => some (.int x.toInt32 :: r) | _ => none
  | .i2b => match st with | .int x :: r => some (.int x.toInt8.toInt32 :: r) | _ => none
  | .i2s => match st with | .int x :: r => some (.int x.toInt16.toInt32 :: r) | _ => none
  | .i2c => match st with | .int x :: r => some (.int (x.toUInt32 % 65536).toInt32 :: r) | _ => none
  | .dup => match st with | v :: r => bif is2 v then none else some (v :: v :: r) | _ => none
  | .pop => match st with | v :: r => bif is2 v then none else some r | _ => none
  | .dup_x1 => match st with | v :: u :: r => bif is2 v || is2 u then none else some (v :: u :: v :: r) | _ => none
  | .dup2 => match st with
    | v :: r => bif is2 v then some (v :: v :: r) else match r with
      | u :: r2 => bif is2 u then none else some (v :: u :: v :: u :: r2)
      | _ => none
    | _ => none
  | _ => none
/-- instructions of locals: which are read, which are written -/
def opL (i : Instr) (lv : Lv) (st : St) : Option (Lv × St) := match i with
  | .iload k => match lv[k]? with | some (some (.int x)) => some (lv, .int x :: st) | _ => none
  | .iload_n k => match lv[k.val]? with | some (some (.int x)) => some (lv, .int x :: st) | _ => none
  | .lload k => match lv[k]? with | some (some (.long x)) => some (lv, .long x :: st) | _ => none
  | .lload_n k => match lv[k.val]? with | some (some (.long x)) => some (lv, .long x :: st) | _ => none
  | .aload k => match lv[k]? with | some (some (.ref x)) => some (lv, .ref x :: st) | _ => none
  | .aload_n k => match lv[k.val]? with | some (some (.ref x)) => some (lv, .ref x :: st) | _ => none
  | .istore k => match st with | .int x :: r => bif Nat.blt k lv.length then some (stI lv k (.int x), r) else none | _ => none
  | .istore_n k => match st with | .int x :: r => bif Nat.blt k.val lv.length then some (stI lv k.val (.int x), r) else none | _ => none
  | .astore k => match st with | .ref x :: r => bif Nat.blt k lv.length then some (stI lv k (.ref x), r) else none | _ => none
  | .astore_n k => match st with | .ref x :: r => bif Nat.blt k.val lv.length then some (stI lv k.val (.ref x), r) else none | _ => none
  | .lstore k => match st with | .long x :: r => bif Nat.blt (k + 1) lv.length then some (stL lv k (.long x), r) else none | _ => none
  | .lstore_n k => match st with | .long x :: r => bif Nat.blt (k.val + 1) lv.length then some (stL lv k.val (.long x), r) else none | _ => none
  | .iinc k c => match lv[k]? with | some (some (.int x)) => some (stI lv k (.int (x + iK c)), st) | _ => none
  | _ => none
/-- instructions of memory -/
def opM (own : Nat) (i : Instr) (st : St) (I : I2) (J : J2) : Option (St × I2 × J2) := match i with
  | .getfield ix => match st with
    | .ref a :: r => match FTf own ix, SKf a with
      | some (ci, k, kd), some (t, c) => bif Nat.beq t 0 && Nat.beq c ci then some ((bif Nat.beq kd 1 then rfv (R0 a k) else .int (I a k)) :: r, I, J) else none
      | _, _ => none
    | _ => none
  | .putfield ix => match st with
    | .int x :: .ref a :: r => match FTf own ix, SKf a with
      | some (ci, k, kd), some (t, c) => bif Nat.beq t 0 && Nat.beq c ci then (bif Nat.beq kd 0 then some (r, up2 I a k x, J) else bif Nat.beq kd 2 then (if x = 0 ∨ x = 1 then some (r, up2 I a k x, J) else none) else none) else none
      | _, _ => none
    | _ => none
  | .iaload => match st with
    | .int i :: .ref a :: r => match SKf a with
      | some (t, n) => bif Nat.beq t 1 then (if i < 0 ∨ n ≤ i.toNatClampNeg then none else some (.int (I a i.toNatClampNeg) :: r, I, J)) else none
      | none => bif Nat.beq a 100 && Nat.beq own 7 then (if i < 0 ∨ (I 101 0).toNatClampNeg ≤ i.toNatClampNeg then none else some (.int (I 100 i.toNatClampNeg) :: r, I, J)) else none
    | _ => none
  | .caload => match st with
    | .int i :: .ref a :: r => match SKf a with
      | some (t, n) => bif Nat.beq t 2 then (if i < 0 ∨ n ≤ i.toNatClampNeg then none else some (.int (I a i.toNatClampNeg) :: r, I, J)) else none
      | none => none
    | _ => none
  | .laload => match st with
    | .int i :: .ref a :: r => match SKf a with
      | some (t, n) => bif Nat.beq t 3 then (if i < 0 ∨ n ≤ i.toNatClampNeg then none else some (.long (J a i.toNatClampNeg) :: r, I, J)) else none
      | none => none
    | _ => none
  | .aaload => match st with
    | .int i :: .ref a :: r => match SKf a with
      | some (t, n) => bif Nat.beq t 4 then (if i < 0 ∨ n ≤ i.toNatClampNeg then none else some (rfv (R0 a i.toNatClampNeg) :: r, I, J)) else none
      | none => none
    | _ => none
  | .iastore => match st with
    | .int x :: .int i :: .ref a :: r => match SKf a with
      | some (t, n) => bif Nat.beq t 1 then (if i < 0 ∨ n ≤ i.toNatClampNeg then none else some (r, up2 I a i.toNatClampNeg x, J)) else none
      | none => none
    | _ => none
  | .castore => match st with
    | .int x :: .int i :: .ref a :: r => match SKf a with
      | some (t, n) => bif Nat.beq t 2 then (if i < 0 ∨ n ≤ i.toNatClampNeg then none else some (r, up2 I a i.toNatClampNeg (vp_nar .char x), J)) else none
      | none => none
    | _ => none
  | .lastore => match st with
    | .long x :: .int i :: .ref a :: r => match SKf a with
      | some (t, n) => bif Nat.beq t 3 then (if i < 0 ∨ n ≤ i.toNatClampNeg then none else some (r, I, upJ J a i.toNatClampNeg x)) else none
      | none => none
    | _ => none
  | .arraylength => match st with
    | .ref a :: r => bif Nat.beq a 100 && Nat.beq own 7 then some (.int (I 101 0) :: r, I, J) else none
    | _ => none
  | .ldc ix => match LCf own ix with
    | some v => some (.int v :: st, I, J)
    | none => bif Nat.beq own 3 && Nat.beq ix 45 then some (.ref 201 :: st, I, J) else bif Nat.beq own 3 && Nat.beq ix 64 then some (.ref 202 :: st, I, J) else none
  | .ldc_w ix => match LCf own ix with | some v => some (.int v :: st, I, J) | none => none
  | .ldc2_w ix => match LC2f own ix with | some v => some (.long v :: st, I, J) | none => none
  | _ => none
/-- the letters of the two texts, by place: the first that is so, or -1 -/
def txF (c : Int32) : List Int32 → Int32 → Int32
  | [], _ => -1
  | b :: t, k => if c = b then k else txF c t (k + 1)
def tx1 : List Int32 := [112, 115, 114, 108, 98]
def tx2 : List Int32 := [60, 62, 61]
/-- what is left to the library: System.arraycopy, String.indexOf of the two texts -/
def opX (own : Nat) (i : Instr) (st : St) (I : I2) (J : J2) : Option (St × I2 × J2) := match i with
  | .invokestatic ix => bif (Nat.beq own 0 && Nat.beq ix 65) || (Nat.beq own 5 && Nat.beq ix 271) then (match st with
    | .int n :: .int dp :: .ref a :: .int sp :: .ref b :: r => bif Nat.ble (r.map fun v => v.category).sum 8 then (match SKf a, SKf b with
      | some (t, x), some (u, y) => if sp < 0 ∨ dp < 0 ∨ n < 0 ∨ y < sp.toNatClampNeg + n.toNatClampNeg ∨ x < dp.toNatClampNeg + n.toNatClampNeg then none else
          bif Nat.beq t 1 && Nat.beq u 1 then some (r, (fun i => if i = a then va_cpy (I b) (I a) sp.toNatClampNeg dp.toNatClampNeg n.toNatClampNeg else I i), J) else
          bif Nat.beq t 3 && Nat.beq u 3 then some (r, I, (fun i => if i = a then va_cpy (J b) (J a) sp.toNatClampNeg dp.toNatClampNeg n.toNatClampNeg else J i)) else none
      | _, _ => none) else none
    | _ => none) else none
  | .invokevirtual ix => bif Nat.beq own 3 && Nat.beq ix 86 then (match st with
    | .int c :: .ref a :: r => bif Nat.ble (r.map fun v => v.category).sum 8 then (bif Nat.beq a 201 then some (.int (txF c tx1 0) :: r, I, J) else bif Nat.beq a 202 then some (.int (txF c tx2 0) :: r, I, J) else none) else none
    | _ => none) else none
  | _ => none
abbrev Sg : Type := Nat × Lv × St × I2 × J2
/-- one step -/
def exec1 (own : Nat) (i : Instr) (pc n : Nat) (lv : Lv) (st : St) (I : I2) (J : J2) : Option Sg := match i with
  | .ifCond c off => match st with | .int x :: r => some (brI c x (tg pc off) (pc + n), lv, r, I, J) | _ => none
  | .if_icmp c off => match st with | .int y :: .int x :: r => some (brC c x y (tg pc off) (pc + n), lv, r, I, J) | _ => none
  | .goto off => some (tg pc off, lv, st, I, J)
  | .tableswitch d _ _ offs => match st with | .int x :: r => some (swT x pc d offs.toList 0, lv, r, I, J) | _ => none
  | i => match opS i st with
    | some st' => some (pc + n, lv, st', I, J)
    | none => match opL i lv st with
      | some (lv', st') => some (pc + n, lv', st', I, J)
      | none => match opM own i st I J with
        | some (st', I', J') => some (pc + n, lv, st', I', J')
        | none => match opX own i st I J with
          | some (st', I', J') => some (pc + n, lv, st', I', J')
          | none => none
def stepP (M : Nat) : Sg → Option Sg := fun (pc, lv, st, I, J) => match fetch M pc with
  | some (i, n) => exec1 (owM M) i pc n lv st I J
  | none => none
def stepsP (M : Nat) : Nat → Sg → Option Sg
  | 0, s => some s
  | k + 1, s => match stepP M s with
    | some s' => stepsP M k s'
    | none => none
/-- the end of a method -/
def retP (M pc : Nat) (st : St) : Option (Option Value) := match fetch M pc with
  | some (.return_, _) => match rtM M, st with | none, [] => some none | _, _ => none
  | some (.lreturn, _) => match rtM M, st with | some .long, [.long x] => some (some (.long x)) | _, _ => none
  | some (.ireturn, _) => match rtM M, st with
    | some .int, [.int x] => some (some (.int x))
    | some .boolean, [.int x] => if x = 0 ∨ x = 1 then some (some (.int x)) else none
    | some .char, [.int x] => if vp_nar .char x = x then some (some (.int x)) else none
    | _, _ => none
  | _ => none
/-- a call: of which method, with what, what stays on the stack -/
def callP (M pc : Nat) (st : St) : Option (Nat × List Value × St) := match fetch M pc with
  | some (.invokevirtual ix, _) => match KTf (owM M) ix with
    | some (kd, M', n) => bif Nat.beq kd 0 && Nat.beq (st.take n).length n then (match st.drop n with
      | .ref b :: r => match SKf b with
        | some (t, c) => bif Nat.beq t 0 && Nat.beq c (owM M') && Nat.ble (r.map fun v => v.category).sum 8 then some (M', .ref b :: (st.take n).reverse, r) else none
        | none => none
      | _ => none) else none
    | none => none
  | some (.invokestatic ix, _) => match KTf (owM M) ix with
    | some (kd, M', n) => bif !(Nat.beq kd 0) && Nat.beq (st.take n).length n && Nat.ble ((st.drop n).map fun v => v.category).sum 8 then some (M', (st.take n).reverse, st.drop n) else none
    | none => none
  | _ => none
def lvLe (a b : Lv) : Prop := a.length = b.length ∧ ∀ (i : Nat) (v : Value), a[i]? = some (some v) → b[i]? = some (some v)
def entL : List Value → Lv
  | [] => []
  | v :: t => bif is2 v then some v :: none :: entL t else some v :: entL t
def entLv (n : Nat) (as : List Value) : Lv := entL as ++ List.replicate (n - (entL as).length) none
abbrev Cw : Type := Nat → List Value → I2 → J2 → Post → Prop
/-- what is closed under the steps of a method, from its ends back -/
def Rules (cw : Cw) (M : Nat) (Q : Post) (X : Nat → Lv → St → I2 → J2 → Prop) : Prop :=
  (∀ pc lv st I J pc' lv' st' I' J', stepP M (pc, lv, st, I, J) = some (pc', lv', st', I', J') → X pc' lv' st' I' J' → X pc lv st I J) ∧
  (∀ pc lv st I J r, retP M pc st = some r → Q r I J → X pc lv st I J) ∧
  (∀ pc lv st I J M' as rest, callP M pc st = some (M', as, rest) → cw M' as I J (fun r I' J' => X (pc + 3) lv (r.toList ++ rest) I' J') → X pc lv st I J) ∧
  (∀ pc lv lv' st I J, lvLe lv' lv → X pc lv' st I J → X pc lv st I J)
def callW : Nat → Cw
  | 0, _, _, _, _, _ => False
  | d + 1, M, as, I, J, Q => Nat.ble (entL as).length (mlM M) = true ∧ ∀ X, Rules (callW d) M Q X → X 0 (entLv (mlM M) as) [] I J
def Wp (d M : Nat) (Q : Post) (pc : Nat) (lv : Lv) (st : St) (I : I2) (J : J2) : Prop := ∀ X, Rules (callW d) M Q X → X pc lv st I J
theorem callW_mono {d M : Nat} {as : List Value} {I : I2} {J : J2} {Q Q' : Post} (h : callW d M as I J Q) (hQ : ∀ r I' J', Q r I' J' → Q' r I' J') : callW d M as I J Q' := by
  cases d with
  | zero => exact h
  | succ d => exact ⟨h.1, fun X hX => h.2 X ⟨hX.1, fun pc lv st I J r hr hq => hX.2.1 pc lv st I J r hr (hQ _ _ _ hq), hX.2.2.1, hX.2.2.2⟩⟩
theorem callW.of {d M : Nat} {as : List Value} {I : I2} {J : J2} {Q : Post} (hl : Nat.ble (entL as).length (mlM M) = true) (h : Wp d M Q 0 (entLv (mlM M) as) [] I J) : callW (d + 1) M as I J Q := ⟨hl, h⟩
theorem Wp.step {d M : Nat} {Q : Post} {pc pc' : Nat} {lv lv' : Lv} {st st' : St} {I I' : I2} {J J' : J2} (h : stepP M (pc, lv, st, I, J) = some (pc', lv', st', I', J')) (k : Wp d M Q pc' lv' st' I' J') : Wp d M Q pc lv st I J :=
  fun X hX => hX.1 _ _ _ _ _ _ _ _ _ _ h (k X hX)
theorem Wp.steps {d M : Nat} {Q : Post} (n : Nat) {pc pc' : Nat} {lv lv' : Lv} {st st' : St} {I I' : I2} {J J' : J2} (h : stepsP M n (pc, lv, st, I, J) = some (pc', lv', st', I', J')) (k : Wp d M Q pc' lv' st' I' J') : Wp d M Q pc lv st I J := by
  induction n generalizing pc lv st I J with
  | zero =>
    simp only [stepsP, Option.some.injEq, Prod.mk.injEq] at h
    obtain ⟨rfl, rfl, rfl, rfl, rfl⟩ := h
    exact k
  | succ n ih =>
    simp only [stepsP] at h
    split at h
    next s' hs =>
      obtain ⟨p2, l2, t2, I2', J2'⟩ := s'
      exact Wp.step hs (ih h)
    next => cases h
theorem Wp.ret {d M : Nat} {Q : Post} {pc : Nat} {lv : Lv} {st : St} {I : I2} {J : J2} {r : Option Value} (h : retP M pc st = some r) (k : Q r I J) : Wp d M Q pc lv st I J :=
  fun _ hX => hX.2.1 _ _ _ _ _ _ h k
theorem Wp.call {d M : Nat} {Q : Post} {pc : Nat} {lv : Lv} {st : St} {I : I2} {J : J2} {M' : Nat} {as : List Value} {rest : St} (h : callP M pc st = some (M', as, rest)) (k : callW d M' as I J (fun r I' J' => Wp d M Q (pc + 3) lv (r.toList ++ rest) I' J')) : Wp d M Q pc lv st I J :=
  fun X hX => hX.2.2.1 _ _ _ _ _ _ _ _ h (callW_mono k fun _ _ _ q => q X hX)
theorem Wp.forget {d M : Nat} {Q : Post} {pc : Nat} {lv : Lv} {st : St} {I : I2} {J : J2} (lv' : Lv) (h : lvLe lv' lv) (k : Wp d M Q pc lv' st I J) : Wp d M Q pc lv st I J :=
  fun X hX => hX.2.2.2 _ _ _ _ _ _ h (k X hX)
theorem Wp.mono {d M : Nat} {Q Q' : Post} {pc : Nat} {lv : Lv} {st : St} {I : I2} {J : J2} (h : Wp d M Q pc lv st I J) (hQ : ∀ r I' J', Q r I' J' → Q' r I' J') : Wp d M Q' pc lv st I J :=
  fun X hX => h X ⟨hX.1, fun pc lv st I J r hr hq => hX.2.1 pc lv st I J r hr (hQ _ _ _ hq), hX.2.2.1, hX.2.2.2⟩
theorem Wp.ite {d M : Nat} {Q : Post} {c : Prop} {dc : Decidable c} {a b : Nat} {lv : Lv} {st : St} {I : I2} {J : J2} (ht : c → Wp d M Q a lv st I J) (hf : ¬ c → Wp d M Q b lv st I J) : Wp d M Q (if c then a else b) lv st I J := by
  by_cases h : c
  · rw [if_pos h]; exact ht h
  · rw [if_neg h]; exact hf h
end
section
/-! WHAT THE WALKED MACHINE DOES, THE MACHINE DOES: instructions of the stack, of locals -/
def kv (ad : Nat → Nat) : Value → Value
  | .ref a => .ref (ad a)
  | v => v
def klv (ad : Nat → Nat) (lv : Lv) : List (Nat × Value) := (List.range lv.length).filterMap (fun i => match lv[i]? with | some (some v) => some (i, kv ad v) | _ => none)
theorem klv_mem {ad : Nat → Nat} {lv : Lv} {i : Nat} {w : Value} : (i, w) ∈ klv ad lv ↔ ∃ v, lv[i]? = some (some v) ∧ w = kv ad v := by
  simp only [klv, List.mem_filterMap, List.mem_range]
  constructor
  · rintro ⟨j, hj, h⟩
    split at h
    next v hv => cases h; exact ⟨v, hv, rfl⟩
    next => cases h
  · rintro ⟨v, hv, rfl⟩
    exact ⟨i, (List.getElem?_eq_some_iff.mp hv).1, by rw [hv]⟩
theorem lv_incl {ls : Array Slot} {n : Nat} {l l' : List (Nat × Value)} (h : lv_has ls n l) (hl : ∀ q ∈ l', q ∈ l) : lv_has ls n l' := ⟨h.1, h.2.1, fun q hq => h.2.2 q (hl q hq)⟩
theorem lv_rd {ls : Array Slot} {n : Nat} {ad : Nat → Nat} {lv : Lv} (h : lv_has ls n (klv ad lv)) {i : Nat} {v : Value} (hi : lv[i]? = some (some v)) : ls[i]? = some (.val (kv ad v)) := h.2.2 (i, kv ad v) (klv_mem.mpr ⟨v, hi, rfl⟩)
theorem kv_cat1 {ad : Nat → Nat} {v : Value} (h : is2 v = false) : (kv ad v).category = 1 := by cases v <;> first | rfl | (simp [is2] at h; done)
theorem kv_cat2 {ad : Nat → Nat} {v : Value} (h : is2 v = true) : (kv ad v).category = 2 := by cases v <;> first | rfl | (simp [is2] at h; done)
theorem kv_cat {ad : Nat → Nat} {v : Value} : (kv ad v).category = v.category := by cases v <;> rfl
theorem stI_len {lv : Lv} {i : Nat} {v : Value} : (stI lv i v).length = lv.length := by
  cases i with
  | zero => simp [stI]
  | succ k =>
    simp only [stI]
    split
    next o ho => cases is2 o <;> simp
    next => simp
theorem stI_get {lv : Lv} {i j : Nat} {v u : Value} (h : (stI lv i v)[j]? = some (some u)) : (j = i ∧ u = v) ∨ (j ≠ i ∧ lv[j]? = some (some u) ∧ (j + 1 = i → is2 u = false)) := by
  cases i with
  | zero =>
    simp only [stI, List.getElem?_set] at h
    by_cases e : 0 = j
    · subst e
      simp only [↓reduceIte] at h
      split at h
      · cases h; exact Or.inl ⟨rfl, rfl⟩
      · cases h
    · rw [if_neg e] at h
      exact Or.inr ⟨fun q => e q.symm, h, fun q => by omega⟩
  | succ k =>
    simp only [stI] at h
    have key : ∀ (hk : ∀ o, lv[k]? = some (some o) → is2 o = false), (lv.set (k + 1) (some v))[j]? = some (some u) → (j = k + 1 ∧ u = v) ∨ (j ≠ k + 1 ∧ lv[j]? = some (some u) ∧ (j + 1 = k + 1 → is2 u = false)) := by
      intro hk h5
      rw [List.getElem?_set] at h5
      by_cases e : k + 1 = j
      · rw [if_pos e] at h5
        split at h5
        · cases h5; exact Or.inl ⟨e.symm, rfl⟩
        · cases h5
      · rw [if_neg e] at h5
        exact Or.inr ⟨fun q => e q.symm, h5, fun q => by
          have : j = k := by omega
          subst this
          exact hk u h5⟩
    split at h
    next o ho =>
      cases h2 : is2 o with
      | true =>
        rw [h2] at h
        simp only [cond_true] at h
        rw [List.getElem?_set] at h
        by_cases e : k = j
        · rw [if_pos e] at h
          split at h <;> cases h
        · rw [if_neg e] at h
          rw [List.getElem?_set] at h
          by_cases e2 : k + 1 = j
          · rw [if_pos e2] at h
            split at h
            · cases h; exact Or.inl ⟨e2.symm, rfl⟩
            · cases h
          · rw [if_neg e2] at h
            exact Or.inr ⟨fun q => e2 q.symm, h, fun q => by omega⟩
      | false =>
        rw [h2] at h
        simp only [cond_false] at h
        exact key (fun o' ho' => by rw [ho] at ho'; cases ho'; exact h2) h
    next hno => exact key (fun o' ho' => absurd ho' (hno o')) h
theorem st_incl {ad : Nat → Nat} {lv : Lv} {i : Nat} {v : Value} : ∀ q ∈ klv ad (stI lv i v), q ∈ (i, kv ad v) :: (klv ad lv).filter (fun q => !(q.1 == i) && !(q.1 + 1 == i && q.2.category == 2)) := by
  rintro ⟨j, w⟩ hq
  obtain ⟨u, hu, rfl⟩ := klv_mem.mp hq
  rcases stI_get hu with ⟨rfl, rfl⟩ | ⟨h1, h2, h3⟩
  · exact List.mem_cons_self
  · refine List.mem_cons_of_mem _ (List.mem_filter.mpr ⟨klv_mem.mpr ⟨u, h2, rfl⟩, ?_⟩)
    have e1 : (j == i) = false := by simp [h1]
    by_cases e : j + 1 = i
    · simp [e1, kv_cat1 (ad := ad) (h3 e)]
    · simp [e1, e]
theorem st_inclL {ad : Nat → Nat} {lv : Lv} {i : Nat} {v : Value} : ∀ q ∈ klv ad (stL lv i v), q ∈ (i, kv ad v) :: (klv ad lv).filter (fun q => !(q.1 == i) && (!(q.1 == i + 1) && !(q.1 + 1 == i && q.2.category == 2))) := by
  rintro ⟨j, w⟩ hq
  obtain ⟨u, hu, rfl⟩ := klv_mem.mp hq
  simp only [stL, List.getElem?_set] at hu
  by_cases e0 : i + 1 = j
  · rw [if_pos e0] at hu
    split at hu <;> cases hu
  · rw [if_neg e0] at hu
    rcases stI_get hu with ⟨rfl, rfl⟩ | ⟨h1, h2, h3⟩
    · exact List.mem_cons_self
    · refine List.mem_cons_of_mem _ (List.mem_filter.mpr ⟨klv_mem.mpr ⟨u, h2, rfl⟩, ?_⟩)
      have e1 : (j == i) = false := by simp [h1]
      have e2 : (j == i + 1) = false := by simp; omega
      by_cases e : j + 1 = i
      · simp [e1, e2, kv_cat1 (ad := ad) (h3 e)]
      · simp [e1, e2, e]
theorem iK_i {k : Int} : True := trivial
section SND
variable {p : Program} {l : Launch} {e : Env} {R : Room} {s : State} {m : MethodId} {args : Array Value} {below : List Frame} {meth : Method} {c : Code} {H : Heap} {locs : List Loc} {cells slots : Nat} {Q : State → Prop}
variable {cc : ByteArray} {pc n : Nat} {ls : Array Slot} {ad : Nat → Nat}
set_option maxHeartbeats 4000000 in
theorem opS_ok (hx : p.tables.exec = Jvm.exec) (hb : c.code = cc) {i : Instr} {st st' : St} (h : opS i st = some st') (hd : decode cc pc = .ok (i, n)) (ho : okIns pc i n = true) (k : W p l e R s m args below meth c H locs cells slots Q (F0 m (pc + n) ls (st'.map (kv ad)))) : W p l e R s m args below meth c H locs cells slots Q (F0 m pc ls (st.map (kv ad))) := by
  have e1 : ∀ {z : Nat}, Nat.beq n z = true → n = z := fun h => Nat.eq_of_beq_eq_true h
  cases i
  all_goals first
    | (exfalso; simp [opS] at h; done)
    | skip
  case iconst v =>
    simp only [opS, Option.some.injEq] at h; subst h
    simp only [okIns, Bool.and_eq_true, decide_eq_true_eq] at ho
    have := e1 ho.1; subst this
    exact lv_iconst hx hb hd ho.2 k
  case bipush v =>
    simp only [opS, Option.some.injEq] at h; subst h
    simp only [okIns, Bool.and_eq_true, decide_eq_true_eq] at ho
    have := e1 ho.1; subst this
    exact lv_bipush hx hb hd ho.2 k
  case sipush v =>
    simp only [opS, Option.some.injEq] at h; subst h
    simp only [okIns, Bool.and_eq_true, decide_eq_true_eq] at ho
    have := e1 ho.1; subst this
    exact lv_sipush hx hb hd ho.2 k
  case lconst v =>
    simp only [opS, Option.some.injEq] at h; subst h
    have := e1 (z := 1) ho; subst this
    exact lv_lconst hx hb hd rfl k
  case iadd => simp only [opS] at h; split at h <;> cases h; have := e1 (z := 1) ho; subst this; exact lv_iadd hx hb hd k
  case isub => simp only [opS] at h; split at h <;> cases h; have := e1 (z := 1) ho; subst this; exact lv_isub hx hb hd k
  case imul => simp only [opS] at h; split at h <;> cases h; have := e1 (z := 1) ho; subst this; exact lv_imul hx hb hd k
  case iand => simp only [opS] at h; split at h <;> cases h; have := e1 (z := 1) ho; subst this; exact lv_iand hx hb hd k
  case ior => simp only [opS] at h; split at h <;> cases h; have := e1 (z := 1) ho; subst this; exact lv_ior hx hb hd k
  case ixor => simp only [opS] at h; split at h <;> cases h; have := e1 (z := 1) ho; subst this; exact lv_ixor hx hb hd k
  case idiv =>
    simp only [opS] at h
    split at h
    · split at h
      · cases h
      · next hz => cases h; have := e1 (z := 1) ho; subst this; exact lv_idiv hx hb hd hz k
    · cases h
  case irem =>
    simp only [opS] at h
    split at h
    · split at h
      · cases h
      · next hz => cases h; have := e1 (z := 1) ho; subst this; exact lv_irem hx hb hd hz k
    · cases h
  case ineg => simp only [opS] at h; split at h <;> cases h; have := e1 (z := 1) ho; subst this; exact lv_ineg hx hb hd k
  case ishl => simp only [opS] at h; split at h <;> cases h; have := e1 (z := 1) ho; subst this; exact lv_ishl hx hb hd k
  case ishr => simp only [opS] at h; split at h <;> cases h; have := e1 (z := 1) ho; subst this; exact lv_ishr hx hb hd k
  case iushr => simp only [opS] at h; split at h <;> cases h; have := e1 (z := 1) ho; subst this; exact lv_iushr hx hb hd rfl k
  case ladd => simp only [opS] at h; split at h <;> cases h; have := e1 (z := 1) ho; subst this; exact lv_ladd hx hb hd k
  case lsub => simp only [opS] at h; split at h <;> cases h; have := e1 (z := 1) ho; subst this; exact lv_lsub hx hb hd k
  case lmul => simp only [opS] at h; split at h <;> cases h; have := e1 (z := 1) ho; subst this; exact lv_lmul hx hb hd k
  case land => simp only [opS] at h; split at h <;> cases h; have := e1 (z := 1) ho; subst this; exact lv_land hx hb hd k
  case lor => simp only [opS] at h; split at h <;> cases h; have := e1 (z := 1) ho; subst this; exact lv_lor hx hb hd k
  case ldiv =>
    simp only [opS] at h
    split at h
    · split at h
      · cases h
      · next hz => cases h; have := e1 (z := 1) ho; subst this; exact lv_ldiv hx hb hd hz k
    · cases h
  case lrem =>
    simp only [opS] at h
    split at h
    · split at h
      · cases h
      · next hz => cases h; have := e1 (z := 1) ho; subst this; exact lv_lrem hx hb hd hz k
    · cases h
  case lshl => simp only [opS] at h; split at h <;> cases h; have := e1 (z := 1) ho; subst this; exact lv_lshl hx hb hd rfl k
  case lcmp => simp only [opS] at h; split at h <;> cases h; have := e1 (z := 1) ho; subst this; exact W.lcmp hx hb hd k
  case i2l => simp only [opS] at h; split at h <;> cases h; have := e1 (z := 1) ho; subst this; exact lv_i2l hx hb hd rfl k
  case l2i => simp only [opS] at h; split at h <;> cases h; have := e1 (z := 1) ho; subst this; exact lv_l2i hx hb hd rfl k
  case i2b => simp only [opS] at h; split at h <;> cases h; have := e1 (z := 1) ho; subst this; exact lv_i2b hx hb hd rfl k
  case i2s => simp only [opS] at h; split at h <;> cases h; have := e1 (z := 1) ho; subst this; exact lv_i2s hx hb hd rfl k
  case i2c => simp only [opS] at h; split at h <;> cases h; have := e1 (z := 1) ho; subst this; exact lv_i2c hx hb hd rfl k
  case dup =>
    simp only [opS] at h
    split at h
    · next v r =>
      cases hv : is2 v with
      | true => rw [hv] at h; cases h
      | false => rw [hv] at h; cases h; have := e1 (z := 1) ho; subst this; exact lv_dup hx hb hd (kv_cat1 hv) k
    · cases h
  case pop =>
    simp only [opS] at h
    split at h
    · next v r =>
      cases hv : is2 v with
      | true => rw [hv] at h; cases h
      | false => rw [hv] at h; cases h; have := e1 (z := 1) ho; subst this; exact lv_pop hx hb hd (kv_cat1 hv) k
    · cases h
  case dup_x1 =>
    simp only [opS] at h
    split at h
    · next v u r =>
      cases hv : is2 v with
      | true => rw [hv] at h; cases h
      | false =>
        cases hu : is2 u with
        | true => rw [hv, hu] at h; cases h
        | false => rw [hv, hu] at h; cases h; have := e1 (z := 1) ho; subst this; exact lv_dup_x1 hx hb hd (kv_cat1 hv) (kv_cat1 hu) k
    · cases h
  case dup2 =>
    simp only [opS] at h
    split at h
    · next v r =>
      cases hv : is2 v with
      | true => rw [hv] at h; cases h; have := e1 (z := 1) ho; subst this; exact lv_dup2_2 hx hb hd (kv_cat2 hv) k
      | false =>
        rw [hv] at h
        simp only [cond_false] at h
        split at h
        · next u r2 =>
          cases hu : is2 u with
          | true => rw [hu] at h; cases h
          | false => rw [hu] at h; cases h; have := e1 (z := 1) ho; subst this; exact lv_dup2_11 hx hb hd (kv_cat1 hv) (kv_cat1 hu) k
        · cases h
    · cases h
set_option maxHeartbeats 4000000 in
theorem opL_ok (hx : p.tables.exec = Jvm.exec) (hb : c.code = cc) {nL : Nat} {i : Instr} {lv lv' : Lv} {st st' : St} (h : opL i lv st = some (lv', st')) (hd : decode cc pc = .ok (i, n)) (ho : okIns pc i n = true) (hlen : lv.length = nL) (hl : lv_has ls nL (klv ad lv))
    (k : ∀ ls' : Array Slot, lv'.length = nL → lv_has ls' nL (klv ad lv') → W p l e R s m args below meth c H locs cells slots Q (F0 m (pc + n) ls' (st'.map (kv ad)))) : W p l e R s m args below meth c H locs cells slots Q (F0 m pc ls (st.map (kv ad))) := by
  have e1 : ∀ {z : Nat}, Nat.beq n z = true → n = z := fun h => Nat.eq_of_beq_eq_true h
  have e2 : ∀ {a b : Nat}, Nat.blt a b = true → a < b := fun h => Nat.le_of_ble_eq_true h
  cases i
  all_goals first
    | (exfalso; simp [opL] at h; done)
    | skip
  case iload v => simp only [opL] at h; split at h <;> cases h; next x hv => have := e1 (z := 2) ho; subst this; exact lv_iload hx hb hd (lv_rd hl hv) (k ls hlen hl)
  case iload_n v => simp only [opL] at h; split at h <;> cases h; next x hv => have := e1 (z := 1) ho; subst this; exact lv_iload_n hx hb hd rfl (lv_rd hl hv) (k ls hlen hl)
  case lload v => simp only [opL] at h; split at h <;> cases h; next x hv => have := e1 (z := 2) ho; subst this; exact lv_lload hx hb hd (lv_rd hl hv) (k ls hlen hl)
  case lload_n v => simp only [opL] at h; split at h <;> cases h; next x hv => have := e1 (z := 1) ho; subst this; exact lv_lload_n hx hb hd rfl (lv_rd hl hv) (k ls hlen hl)
  case aload v => simp only [opL] at h; split at h <;> cases h; next x hv => have := e1 (z := 2) ho; subst this; exact lv_aload hx hb hd (lv_rd hl hv) (k ls hlen hl)
  case aload_n v => simp only [opL] at h; split at h <;> cases h; next x hv => have := e1 (z := 1) ho; subst this; exact lv_aload_n hx hb hd rfl (lv_rd hl hv) (k ls hlen hl)
  case istore v =>
    simp only [opL] at h
    split at h
    · next x r =>
      cases hv : Nat.blt v lv.length with
      | false => rw [hv] at h; cases h
      | true => rw [hv] at h; cases h; have := e1 (z := 2) ho; subst this; exact lv_istore hx hb hd hl (hlen ▸ e2 hv) rfl (fun ls' h' => k ls' (stI_len.trans hlen) (lv_incl h' st_incl))
    · cases h
  case istore_n v =>
    simp only [opL] at h
    split at h
    · next x r =>
      cases hv : Nat.blt v.val lv.length with
      | false => rw [hv] at h; cases h
      | true => rw [hv] at h; cases h; have := e1 (z := 1) ho; subst this; exact lv_istore_n hx hb hd rfl hl (hlen ▸ e2 hv) rfl (fun ls' h' => k ls' (stI_len.trans hlen) (lv_incl h' st_incl))
    · cases h
  case astore v =>
    simp only [opL] at h
    split at h
    · next x r =>
      cases hv : Nat.blt v lv.length with
      | false => rw [hv] at h; cases h
      | true => rw [hv] at h; cases h; have := e1 (z := 2) ho; subst this; exact lv_astore hx hb hd hl (hlen ▸ e2 hv) rfl (fun ls' h' => k ls' (stI_len.trans hlen) (lv_incl h' st_incl))
    · cases h
  case astore_n v =>
    simp only [opL] at h
    split at h
    · next x r =>
      cases hv : Nat.blt v.val lv.length with
      | false => rw [hv] at h; cases h
      | true => rw [hv] at h; cases h; have := e1 (z := 1) ho; subst this; exact lv_astore_n hx hb hd rfl hl (hlen ▸ e2 hv) rfl (fun ls' h' => k ls' (stI_len.trans hlen) (lv_incl h' st_incl))
    · cases h
  case lstore v =>
    simp only [opL] at h
    split at h
    · next x r =>
      cases hv : Nat.blt (v + 1) lv.length with
      | false => rw [hv] at h; cases h
      | true => rw [hv] at h; cases h; have := e1 (z := 2) ho; subst this; exact lv_lstore hx hb hd hl (hlen ▸ e2 hv) rfl (fun ls' h' => k ls' (by simp [stL, stI_len, hlen]) (lv_incl h' st_inclL))
    · cases h
  case lstore_n v =>
    simp only [opL] at h
    split at h
    · next x r =>
      cases hv : Nat.blt (v.val + 1) lv.length with
      | false => rw [hv] at h; cases h
      | true => rw [hv] at h; cases h; have := e1 (z := 1) ho; subst this; exact lv_lstore_n hx hb hd rfl hl (hlen ▸ e2 hv) rfl (fun ls' h' => k ls' (by simp [stL, stI_len, hlen]) (lv_incl h' st_inclL))
    · cases h
  case iinc v q =>
    simp only [opL] at h
    split at h
    · next x hv =>
      cases h
      simp only [okIns, Bool.and_eq_true, decide_eq_true_eq] at ho
      have := e1 (z := 3) ho.1; subst this
      obtain ⟨j, hj⟩ := List.getElem?_of_mem (klv_mem.mpr ⟨_, hv, rfl⟩ : (v, kv ad (.int x)) ∈ klv ad lv)
      exact lv_iinc hx hb hd hl (k := j) hj (by rw [ho.2]) (hlen ▸ (List.getElem?_eq_some_iff.mp hv).1) rfl (fun ls' h' => k ls' (stI_len.trans hlen) (lv_incl h' st_incl))
    · cases h
end SND
end
section
/-! THE WORLD: what stands at each place, and instructions of memory -/
abbrev tysA (cA : Nat → ClassId) : List (ClassId × FieldType) := [(cA 0, .int), (cA 1, .char), (cA 2, .long), (cA 3, .object "SecretBox$Sheet")]
def FV (ad : Nat → Nat) (ci a : Nat) (I : I2) : List Value := (List.range (nFf ci)).map (fun k => bif Nat.beq (kdf ci k) 1 then kv ad (rfv (R0 a k)) else .int (I a k))
def CEt (ad : Nat → Nat) (cA : Nat → ClassId) (I : I2) (J : J2) (a t n : Nat) : va_E := match t with
  | 0 => .inr (n, FV ad n a I)
  | 1 => .inl (cA 0, n, .inl (I a))
  | 2 => .inl (cA 1, n, .inl (I a))
  | 3 => .inl (cA 2, n, .inr (.inl (J a)))
  | _ => .inl (cA 3, n, .inr (.inr (.inr (.inr (fun k => (R0 a k).map ad)))))
def CE (ad : Nat → Nat) (cA : Nat → ClassId) (I : I2) (J : J2) (a : Nat) : va_E := CEt ad cA I J a (SKt a).1 (SKt a).2
def WS (ad : Nat → Nat) (cA : Nat → ClassId) (I : I2) (J : J2) : va_W := (List.range nID).map (fun a => (ad a, CE ad cA I J a))
def WDp (ad : Nat → Nat) (A : Nat → Prop) : Prop := (∀ i j, i < nID → j < nID → ad i = ad j → i = j) ∧ ∀ i, i < nID → A (ad i)
def FrI (I0 I : I2) : Prop := ∀ a, nID ≤ a → I a = I0 a
theorem FrI.rf {I : I2} : FrI I I := fun _ _ => rfl
theorem FrI.tr {I0 I1 I2 : I2} (h1 : FrI I0 I1) (h2 : FrI I1 I2) : FrI I0 I2 := fun a h => (h2 a h).trans (h1 a h)
theorem WS_get {ad : Nat → Nat} {cA : Nat → ClassId} {I : I2} {J : J2} {a : Nat} (h : a < nID) : (WS ad cA I J)[a]? = some (ad a, CE ad cA I J a) := by
  simp only [WS, List.getElem?_map, List.getElem?_range h, Option.map_some]
theorem WS_len {ad : Nat → Nat} {cA : Nat → ClassId} {I : I2} {J : J2} : (WS ad cA I J).length = nID := by simp [WS]
theorem WS_set {ad : Nat → Nat} {cA : Nat → ClassId} {I I' : I2} {J J' : J2} {a : Nat} (h : a < nID) (hI : ∀ b, b ≠ a → I' b = I b) (hJ : ∀ b, b ≠ a → J' b = J b) : (WS ad cA I J).set a (ad a, CE ad cA I' J' a) = WS ad cA I' J' := by
  apply List.ext_getElem?
  intro b
  rw [List.getElem?_set]
  by_cases e : a = b
  · subst e
    rw [if_pos rfl, if_pos (by rw [WS_len]; exact h), WS_get h]
  · rw [if_neg e]
    by_cases hb : b < nID
    · have hb' : b ≠ a := fun q => e q.symm
      rw [WS_get hb, WS_get hb]
      simp only [CE, CEt, FV, hI b hb', hJ b hb']
    · rw [List.getElem?_eq_none (by rw [WS_len]; omega), List.getElem?_eq_none (by rw [WS_len]; omega)]
theorem WS_D {ad : Nat → Nat} {cA : Nat → ClassId} {I : I2} {J : J2} {A : Nat → Prop} (h : WDp ad A) : va_D A (WS ad cA I J) := by
  have hb : ∀ (k : Nat) (q : Nat × va_E), (WS ad cA I J)[k]? = some q → k < nID ∧ q.1 = ad k := by
    intro k q hq
    have hk : k < nID := by
      have := (List.getElem?_eq_some_iff.mp hq).1
      rwa [WS_len] at this
    rw [WS_get hk] at hq
    cases hq
    exact ⟨hk, rfl⟩
  refine ⟨fun i j p q hi hj hpq => ?_, fun k q hk => ?_⟩
  · obtain ⟨h1, h2⟩ := hb i p hi
    obtain ⟨h3, h4⟩ := hb j q hj
    exact h.1 i j h1 h3 (by rw [← h2, ← h4, hpq])
  · obtain ⟨h1, h2⟩ := hb k q hk
    rw [h2]
    exact h.2 k h1
theorem SK_ok {a t n : Nat} (h : SKf a = some (t, n)) : a < nID ∧ SKt a = (t, n) := by
  unfold SKf at h
  cases hb : Nat.ble nID a with
  | true => rw [hb] at h; cases h
  | false =>
    rw [hb] at h
    refine ⟨?_, Option.some.inj h⟩
    rcases Nat.lt_or_ge a nID with q | q
    · exact q
    · rw [Nat.ble_eq_true_of_le q] at hb
      cases hb
theorem FV_get {ad : Nat → Nat} {ci a k : Nat} {I : I2} (h : k < nFf ci) : (FV ad ci a I)[k]? = some (bif Nat.beq (kdf ci k) 1 then kv ad (rfv (R0 a k)) else .int (I a k)) := by
  simp only [FV, List.getElem?_map, List.getElem?_range h, Option.map_some]
theorem FV_len {ad : Nat → Nat} {ci a : Nat} {I : I2} : (FV ad ci a I).length = nFf ci := by simp [FV]
theorem FV_set {ad : Nat → Nat} {ci a k : Nat} {I : I2} {x : Int32} (h : k < nFf ci) (hk : Nat.beq (kdf ci k) 1 = false) : (FV ad ci a I).set k (.int x) = FV ad ci a (up2 I a k x) := by
  apply List.ext_getElem?
  intro b
  rw [List.getElem?_set]
  by_cases e : k = b
  · subst e
    rw [if_pos rfl, if_pos (by rw [FV_len]; exact h), FV_get h, hk]
    simp [up2, upd]
  · rw [if_neg e]
    by_cases hb : b < nFf ci
    · rw [FV_get hb, FV_get hb]
      have e' : ¬ b = k := fun q => e q.symm
      simp [up2, upd, e']
    · rw [List.getElem?_eq_none (by rw [FV_len]; omega), List.getElem?_eq_none (by rw [FV_len]; omega)]
theorem up2_ne {I : I2} {a k b : Nat} {x : Int32} (h : b ≠ a) : up2 I a k x b = I b := by simp [up2, h]
theorem up2_eq {I : I2} {a k : Nat} {x : Int32} : up2 I a k x a = upd (I a) k x := by simp [up2]
theorem upJ_ne {J : J2} {a k b : Nat} {x : Int64} (h : b ≠ a) : upJ J a k x b = J b := by simp [upJ, h]
theorem upJ_eq {J : J2} {a k : Nat} {x : Int64} : upJ J a k x a = vp_updL (J a) k x := by simp [upJ]
theorem fr_up {I : I2} {a k : Nat} {x : Int32} (h : a < nID) : FrI I (up2 I a k x) := fun b hb => up2_ne (by omega)
section MEM
variable {p : Program} {l : Launch} {e : Env} {R : Room} {s : State} {m : MethodId} {args : Array Value} {below : List Frame} {meth : Method} {c : Code} {H : Heap} {locs : List Loc} {cells slots : Nat} {Q : State → Prop}
variable {cc : ByteArray} {pc n : Nat} {ls : Array Slot} {ad : Nat → Nat} {D : va_G} {cA : Nat → ClassId} {A : Nat → Prop}
/-- the script, where the law walks: its cell, and what is told of it at 100 and 101 -/
def ScrOK (own : Nat) (ad : Nat → Nat) (A : Nat → Prop) (s : State) (I : I2) : Prop := own = 7 → ∃ (L : Nat) (xs : Nat → Int32), L < 2 ^ 31 ∧ va_X (ad 100) L xs s s.heap ∧ ad 100 < s.heap.size ∧ ¬ A (ad 100) ∧ I 100 = xs ∧ I 101 0 = Int32.ofNat L
/-- a text is put on the stack -/
def LdcOK (p : Program) (l : Launch) (e : Env) (R : Room) (s : State) (m : MethodId) (args : Array Value) (below : List Frame) (meth : Method) (c : Code) (cells slots : Nat) (Q : State → Prop) (ad : Nat → Nat) (own : Nat) : Prop :=
  own = 3 → ∀ (ix a : Nat), (ix = 45 ∧ a = 201 ∨ ix = 64 ∧ a = 202) → ∀ (H : Heap) (locs : List Loc) (ls : Array Slot) (pc : Nat) (st : St), decode c.code pc = .ok (.ldc ix, 2) → W p l e R s m args below meth c H locs cells slots Q (F0 m (pc + 2) ls (.ref (ad a) :: st)) → W p l e R s m args below meth c H locs cells slots Q (F0 m pc ls st)
theorem beq_and {a b : Bool} (h : (a && b) = true) : a = true ∧ b = true := by simpa using h
theorem inr_of {i : Int32} {n : Nat} (h : ¬ (i < 0 ∨ n ≤ i.toNatClampNeg)) : vp_in i n := h
theorem CE_0 {I : I2} {J : J2} {a n : Nat} (h : SKt a = (0, n)) : CE ad cA I J a = .inr (n, FV ad n a I) := by simp [CE, CEt, h]
theorem CE_1 {I : I2} {J : J2} {a n : Nat} (h : SKt a = (1, n)) : CE ad cA I J a = .inl (cA 0, n, .inl (I a)) := by simp [CE, CEt, h]
theorem CE_2 {I : I2} {J : J2} {a n : Nat} (h : SKt a = (2, n)) : CE ad cA I J a = .inl (cA 1, n, .inl (I a)) := by simp [CE, CEt, h]
theorem CE_3 {I : I2} {J : J2} {a n : Nat} (h : SKt a = (3, n)) : CE ad cA I J a = .inl (cA 2, n, .inr (.inl (J a))) := by simp [CE, CEt, h]
theorem CE_4 {I : I2} {J : J2} {a n : Nat} (h : SKt a = (4, n)) : CE ad cA I J a = .inl (cA 3, n, .inr (.inr (.inr (.inr (fun k => (R0 a k).map ad))))) := by simp [CE, CEt, h]
theorem WS_at {I : I2} {J : J2} {a t n : Nat} {x : va_E} (h : SKf a = some (t, n)) (hx : CE ad cA I J a = x) : (WS ad cA I J)[a]? = some (ad a, x) := by rw [WS_get (SK_ok h).1, hx]
theorem narrow_01 {x : Int32} (h : x = 0 ∨ x = 1) : narrow .boolean (.int x) = .int x ∧ fits .boolean (.int x) = true := by
  rcases h with rfl | rfl <;> exact ⟨by decide +kernel, by decide +kernel⟩
theorem kv_rf {r : Option Nat} : va_rf (r.map ad) = kv ad (rfv r) := by cases r <;> rfl
set_option maxHeartbeats 8000000 in
theorem opM_ok (hx : p.tables.exec = Jvm.exec) (hb : c.code = cc) {own : Nat} (hown : s.vm.findClass (RNf own) = some m.cls) (hts : ∀ w ∈ lw_good, w.before args s = true) (hK : va_K D vwCl (tysA cA) s) (hW : WDp ad A) {i : Instr} {st st' : St} {I I' : I2} {J J' : J2} (hscr : ScrOK own ad A s I) (hldc : LdcOK p l e R s m args below meth c cells slots Q ad own) (h : opM own i st I J = some (st', I', J')) (hd : decode cc pc = .ok (i, n)) (ho : okIns pc i n = true) (hP : va_P D vwCl (WS ad cA I J) H) (hS : va_S A s.heap H locs)
    (k : ∀ (H' : Heap) (locs' : List Loc), va_P D vwCl (WS ad cA I' J') H' → va_S A s.heap H' locs' → FrI I I' → W p l e R s m args below meth c H' locs' cells slots Q (F0 m (pc + n) ls (st'.map (kv ad)))) : W p l e R s m args below meth c H locs cells slots Q (F0 m pc ls (st.map (kv ad))) := by
  have e1 : ∀ {z : Nat}, Nat.beq n z = true → n = z := fun h => Nat.eq_of_beq_eq_true h
  have hD : va_D A (WS ad cA I J) := WS_D hW
  cases i
  all_goals first
    | (exfalso; simp [opM] at h; done)
    | skip
  case getfield ix =>
    have := e1 (z := 3) ho; subst this
    simp only [opM] at h
    split at h
    · next a r =>
      split at h
      · next ci kk kd t cq hF hSK =>
        cases hc : (Nat.beq t 0 && Nat.beq cq ci) with
        | false => rw [hc] at h; cases h
        | true =>
          rw [hc] at h
          obtain ⟨c1, c2⟩ := beq_and hc
          have et : t = 0 := Nat.eq_of_beq_eq_true c1
          have ec : cq = ci := Nat.eq_of_beq_eq_true c2
          subst et; subst ec
          simp only [cond_true, Option.some.injEq, Prod.mk.injEq] at h
          obtain ⟨rfl, rfl, rfl⟩ := h
          obtain ⟨pp, hp⟩ := FT_ok hF
          unfold okF at hp
          split at hp
          · next C T N hcl =>
            simp only [Bool.and_eq_true, decide_eq_true_eq] at hp
            obtain ⟨⟨⟨⟨⟨hw1, hk1⟩, hN⟩, hkd⟩, -⟩, -⟩ := hp
            have hN : N = nFf cq := Nat.eq_of_beq_eq_true hN
            have hkd : kdf cq kk = kd := Nat.eq_of_beq_eq_true hkd
            have hkN : kk < N := Nat.le_of_ble_eq_true hk1
            have hfv := FV_get (ad := ad) (ci := cq) (a := a) (I := I) (hN ▸ hkN)
            refine va_get hx hb hts (okC_all hcl).1 hown hK hP a (WS_at hSK (CE_0 (SK_ok hSK).2)) hcl kk hkN (hts _ (good_at hw1 rfl)) (fun _ q => q) (v := kv ad (bif Nat.beq kd 1 then rfv (R0 a kk) else .int (I a kk))) ?_ hd (k H locs hP hS FrI.rf)
            rw [hfv, hkd]
            cases Nat.beq kd 1 <;> rfl
          · cases hp
      · cases h
    · cases h
  case putfield ix =>
    have := e1 (z := 3) ho; subst this
    simp only [opM] at h
    split at h
    · next x a r =>
      split at h
      · next ci kk kd t cq hF hSK =>
        cases hc : (Nat.beq t 0 && Nat.beq cq ci) with
        | false => rw [hc] at h; cases h
        | true =>
          rw [hc] at h
          obtain ⟨c1, c2⟩ := beq_and hc
          have et : t = 0 := Nat.eq_of_beq_eq_true c1
          have ec : cq = ci := Nat.eq_of_beq_eq_true c2
          subst et; subst ec
          obtain ⟨pp, hp⟩ := FT_ok hF
          unfold okF at hp
          split at hp
          · next C T N hcl =>
            simp only [Bool.and_eq_true, decide_eq_true_eq, Bool.or_eq_true, beq_iff_eq] at hp
            obtain ⟨⟨⟨⟨⟨hw1, hk1⟩, hN⟩, hkd⟩, hfin⟩, hty⟩ := hp
            have hN : N = nFf cq := Nat.eq_of_beq_eq_true hN
            have hkd : kdf cq kk = kd := Nat.eq_of_beq_eq_true hkd
            have hkN : kk < N := Nat.le_of_ble_eq_true hk1
            have core : ∀ (ty : FieldType), Nat.beq kd 1 = false → parseFieldDescriptor (T kk).2.2.1 = some ty → narrow ty (.int x) = .int x → fits ty (.int x) = true → I' = up2 I a kk x → J' = J → st' = r → W p l e R s m args below meth c H locs cells slots Q (F0 m pc ls ((Value.int x :: Value.ref a :: r).map (kv ad))) := by
              intro ty hk9 h1 h2 h3 eI eJ eS
              subst eI; subst eJ; subst eS
              obtain ⟨ty0, hty0⟩ := (okC_all hcl).2.1
              have hfin : (T kk).2.2.2 = false := by
                rcases hfin with q | q
                · rw [hk9] at q; cases q
                · exact q
              refine va_put hx hb hts (okC_all hcl).1 ty0 hty0 (okC_all hcl).2.2 hown hK hP hD hS a (WS_at hSK (CE_0 (SK_ok hSK).2)) hcl kk hkN (hts _ (good_at hw1 rfl)) (fun _ q => q) hfin h1 h2 h3 (by rw [FV_len, ← hN]; exact hkN) hd (fun H1 locs1 hP1 hD1 hS1 => ?_)
              refine k H1 locs1 ?_ hS1 (fr_up (SK_ok hSK).1)
              rw [show kv ad (Value.int x) = Value.int x from rfl, FV_set (hN ▸ hkN) (by rw [hkd]; exact hk9), ← CE_0 (ad := ad) (cA := cA) (I := up2 I a kk x) (J := J') (SK_ok hSK).2, WS_set (SK_ok hSK).1 (fun b hb => up2_ne hb) (fun b hb => rfl)] at hP1
              exact hP1
            simp only [cond_true] at h
            cases h0 : Nat.beq kd 0 with
            | true =>
              rw [h0] at h
              simp only [cond_true, Option.some.injEq, Prod.mk.injEq] at h
              obtain ⟨hs1, hi1, hj1⟩ := h
              have ekd : kd = 0 := Nat.eq_of_beq_eq_true h0
              subst ekd
              rcases hty with q | q
              · cases q
              · split at q
                · next hq => exact core .int rfl hq rfl rfl hi1.symm hj1.symm hs1.symm
                · cases q
                · cases q
            | false =>
              rw [h0] at h
              simp only [cond_false] at h
              cases h2 : Nat.beq kd 2 with
              | false => rw [h2] at h; cases h
              | true =>
                rw [h2] at h
                simp only [cond_true] at h
                have ekd : kd = 2 := Nat.eq_of_beq_eq_true h2
                subst ekd
                split at h
                · next hx01 =>
                  simp only [Option.some.injEq, Prod.mk.injEq] at h
                  obtain ⟨hs1, hi1, hj1⟩ := h
                  rcases hty with q | q
                  · cases q
                  · split at q
                    · cases q
                    · next hq => exact core .boolean rfl hq (narrow_01 hx01).1 (narrow_01 hx01).2 hi1.symm hj1.symm hs1.symm
                    · cases q
                · cases h
          · cases hp
      · cases h
    · cases h
  case iaload =>
    have := e1 (z := 1) ho; subst this
    simp only [opM] at h
    split at h
    · next i a r =>
      split at h
      · next t nn hSK =>
        cases hc : Nat.beq t 1 with
        | false => rw [hc] at h; cases h
        | true =>
          rw [hc] at h
          have et : t = 1 := Nat.eq_of_beq_eq_true hc
          subst et
          simp only [cond_true] at h
          split at h
          · cases h
          · next hin =>
            simp only [Option.some.injEq, Prod.mk.injEq] at h
            obtain ⟨rfl, rfl, rfl⟩ := h
            exact va_iald hx hb hK hP a 0 (WS_at hSK (CE_1 (SK_ok hSK).2)) rfl (inr_of hin) hd (k H locs hP hS FrI.rf)
      · next hSK =>
        cases hc : (Nat.beq a 100 && Nat.beq own 7) with
        | false => rw [hc] at h; cases h
        | true =>
          rw [hc] at h
          obtain ⟨c1, c2⟩ := beq_and hc
          have et : a = 100 := Nat.eq_of_beq_eq_true c1
          have ec : own = 7 := Nat.eq_of_beq_eq_true c2
          subst et
          obtain ⟨L, xs, hL, hX, hlt, hnA, hI0, hI1⟩ := hscr ec
          simp only [cond_true] at h
          split at h
          · cases h
          · next hin =>
            simp only [Option.some.injEq, Prod.mk.injEq] at h
            obtain ⟨rfl, rfl, rfl⟩ := h
            have eL : (I 101 0).toNatClampNeg = L := by rw [hI1]; exact nI_clamp hL
            rw [eL] at hin
            have := k H locs hP hS FrI.rf
            rw [hI0] at this
            exact va_sld hx hb hX hlt hnA hS (inr_of hin) hd this
    · cases h
  case caload =>
    have := e1 (z := 1) ho; subst this
    simp only [opM] at h
    split at h
    · next i a r =>
      split at h
      · next t nn hSK =>
        cases hc : Nat.beq t 2 with
        | false => rw [hc] at h; cases h
        | true =>
          rw [hc] at h
          have et : t = 2 := Nat.eq_of_beq_eq_true hc
          subst et
          simp only [cond_true] at h
          split at h
          · cases h
          · next hin =>
            simp only [Option.some.injEq, Prod.mk.injEq] at h
            obtain ⟨rfl, rfl, rfl⟩ := h
            exact va_cald hx hb hK hP a 1 (WS_at hSK (CE_2 (SK_ok hSK).2)) rfl (inr_of hin) hd (k H locs hP hS FrI.rf)
      · cases h
    · cases h
  case laload =>
    have := e1 (z := 1) ho; subst this
    simp only [opM] at h
    split at h
    · next i a r =>
      split at h
      · next t nn hSK =>
        cases hc : Nat.beq t 3 with
        | false => rw [hc] at h; cases h
        | true =>
          rw [hc] at h
          have et : t = 3 := Nat.eq_of_beq_eq_true hc
          subst et
          simp only [cond_true] at h
          split at h
          · cases h
          · next hin =>
            simp only [Option.some.injEq, Prod.mk.injEq] at h
            obtain ⟨rfl, rfl, rfl⟩ := h
            exact va_lald hx hb hK hP a 2 (WS_at hSK (CE_3 (SK_ok hSK).2)) rfl (inr_of hin) hd (k H locs hP hS FrI.rf)
      · cases h
    · cases h
  case aaload =>
    have := e1 (z := 1) ho; subst this
    simp only [opM] at h
    split at h
    · next i a r =>
      split at h
      · next t nn hSK =>
        cases hc : Nat.beq t 4 with
        | false => rw [hc] at h; cases h
        | true =>
          rw [hc] at h
          have et : t = 4 := Nat.eq_of_beq_eq_true hc
          subst et
          simp only [cond_true] at h
          split at h
          · cases h
          · next hin =>
            simp only [Option.some.injEq, Prod.mk.injEq] at h
            obtain ⟨rfl, rfl, rfl⟩ := h
            have := k H locs hP hS FrI.rf
            refine va_aldq hx hb hK hP a 3 (C := "SecretBox$Sheet") (WS_at hSK (CE_4 (SK_ok hSK).2)) rfl (inr_of hin) hd ?_
            rw [kv_rf]
            exact this
      · cases h
    · cases h
  case iastore =>
    have := e1 (z := 1) ho; subst this
    simp only [opM] at h
    split at h
    · next x i a r =>
      split at h
      · next t nn hSK =>
        cases hc : Nat.beq t 1 with
        | false => rw [hc] at h; cases h
        | true =>
          rw [hc] at h
          have et : t = 1 := Nat.eq_of_beq_eq_true hc
          subst et
          simp only [cond_true] at h
          split at h
          · cases h
          · next hin =>
            simp only [Option.some.injEq, Prod.mk.injEq] at h
            obtain ⟨rfl, rfl, rfl⟩ := h
            refine va_iast hx hb hK hP hD hS a 0 (WS_at hSK (CE_1 (SK_ok hSK).2)) rfl (inr_of hin) hd (fun H1 locs1 hP1 hD1 hS1 => ?_)
            refine k H1 locs1 ?_ hS1 (fr_up (SK_ok hSK).1)
            have e9 := CE_1 (ad := ad) (cA := cA) (I := up2 I a i.toNatClampNeg x) (J := J) (SK_ok hSK).2
            rw [up2_eq] at e9
            rw [← e9, WS_set (SK_ok hSK).1 (fun b hb => up2_ne hb) (fun b hb => rfl)] at hP1
            exact hP1
      · cases h
    · cases h
  case castore =>
    have := e1 (z := 1) ho; subst this
    simp only [opM] at h
    split at h
    · next x i a r =>
      split at h
      · next t nn hSK =>
        cases hc : Nat.beq t 2 with
        | false => rw [hc] at h; cases h
        | true =>
          rw [hc] at h
          have et : t = 2 := Nat.eq_of_beq_eq_true hc
          subst et
          simp only [cond_true] at h
          split at h
          · cases h
          · next hin =>
            simp only [Option.some.injEq, Prod.mk.injEq] at h
            obtain ⟨rfl, rfl, rfl⟩ := h
            refine va_cast hx hb hK hP hD hS a 1 (WS_at hSK (CE_2 (SK_ok hSK).2)) rfl (inr_of hin) hd (fun H1 locs1 hP1 hD1 hS1 => ?_)
            refine k H1 locs1 ?_ hS1 (fr_up (SK_ok hSK).1)
            have e9 := CE_2 (ad := ad) (cA := cA) (I := up2 I a i.toNatClampNeg (vp_nar .char x)) (J := J) (SK_ok hSK).2
            rw [up2_eq] at e9
            rw [← e9, WS_set (SK_ok hSK).1 (fun b hb => up2_ne hb) (fun b hb => rfl)] at hP1
            exact hP1
      · cases h
    · cases h
  case lastore =>
    have := e1 (z := 1) ho; subst this
    simp only [opM] at h
    split at h
    · next x i a r =>
      split at h
      · next t nn hSK =>
        cases hc : Nat.beq t 3 with
        | false => rw [hc] at h; cases h
        | true =>
          rw [hc] at h
          have et : t = 3 := Nat.eq_of_beq_eq_true hc
          subst et
          simp only [cond_true] at h
          split at h
          · cases h
          · next hin =>
            simp only [Option.some.injEq, Prod.mk.injEq] at h
            obtain ⟨rfl, rfl, rfl⟩ := h
            refine va_last hx hb hK hP hD hS a 2 (WS_at hSK (CE_3 (SK_ok hSK).2)) rfl (inr_of hin) hd (fun H1 locs1 hP1 hD1 hS1 => ?_)
            refine k H1 locs1 ?_ hS1 FrI.rf
            have e9 := CE_3 (ad := ad) (cA := cA) (I := I) (J := upJ J a i.toNatClampNeg x) (SK_ok hSK).2
            rw [upJ_eq] at e9
            rw [← e9, WS_set (SK_ok hSK).1 (fun b hb => rfl) (fun b hb => upJ_ne hb)] at hP1
            exact hP1
      · cases h
    · cases h
  case arraylength =>
    have := e1 (z := 1) ho; subst this
    simp only [opM] at h
    split at h
    · next a r =>
      cases hc : (Nat.beq a 100 && Nat.beq own 7) with
      | false => rw [hc] at h; cases h
      | true =>
        rw [hc] at h
        obtain ⟨c1, c2⟩ := beq_and hc
        have et : a = 100 := Nat.eq_of_beq_eq_true c1
        have ec : own = 7 := Nat.eq_of_beq_eq_true c2
        subst et
        obtain ⟨L, xs, hL, hX, hlt, hnA, hI0, hI1⟩ := hscr ec
        simp only [cond_true, Option.some.injEq, Prod.mk.injEq] at h
        obtain ⟨rfl, rfl, rfl⟩ := h
        have := k H locs hP hS FrI.rf
        rw [hI1] at this
        exact va_slen hx hb hX hlt hnA hS hd this
    · cases h
  case ldc ix =>
    have := e1 (z := 2) ho; subst this
    simp only [opM] at h
    split at h
    · next v hv =>
      simp only [Option.some.injEq, Prod.mk.injEq] at h
      obtain ⟨rfl, rfl, rfl⟩ := h
      exact lv_ldc hx hb hown (hts _ (LC_ok hv)) hd (k H locs hP hS FrI.rf)
    · subst hb
      cases hc : (Nat.beq own 3 && Nat.beq ix 45) with
      | true =>
        rw [hc] at h
        obtain ⟨c1, c2⟩ := beq_and hc
        simp only [cond_true, Option.some.injEq, Prod.mk.injEq] at h
        obtain ⟨rfl, rfl, rfl⟩ := h
        exact hldc (Nat.eq_of_beq_eq_true c1) ix 201 (Or.inl ⟨Nat.eq_of_beq_eq_true c2, rfl⟩) H locs ls pc _ hd (k H locs hP hS FrI.rf)
      | false =>
        rw [hc] at h
        simp only [cond_false] at h
        cases hc2 : (Nat.beq own 3 && Nat.beq ix 64) with
        | false => rw [hc2] at h; cases h
        | true =>
          rw [hc2] at h
          obtain ⟨c1, c2⟩ := beq_and hc2
          simp only [cond_true, Option.some.injEq, Prod.mk.injEq] at h
          obtain ⟨rfl, rfl, rfl⟩ := h
          exact hldc (Nat.eq_of_beq_eq_true c1) ix 202 (Or.inr ⟨Nat.eq_of_beq_eq_true c2, rfl⟩) H locs ls pc _ hd (k H locs hP hS FrI.rf)
  case ldc_w ix =>
    have := e1 (z := 3) ho; subst this
    simp only [opM] at h
    split at h
    · next v hv =>
      simp only [Option.some.injEq, Prod.mk.injEq] at h
      obtain ⟨rfl, rfl, rfl⟩ := h
      exact lv_ldcw hx hb hown (hts _ (LC_ok hv)) hd (k H locs hP hS FrI.rf)
    · cases h
  case ldc2_w ix =>
    have := e1 (z := 3) ho; subst this
    simp only [opM] at h
    split at h
    · next v hv =>
      simp only [Option.some.injEq, Prod.mk.injEq] at h
      obtain ⟨rfl, rfl, rfl⟩ := h
      exact lv_ldc2 hx hb hown (hts _ (LC2_ok hv)) hd (k H locs hP hS FrI.rf)
    · cases h
end MEM
end
section
/-! ONE STEP, AN END, A CALL of the walked machine, on the machine -/
theorem good_w {w : Jvm.Cond} (h : w ∈ lw_good) : w ∈ lw_tbl ∧ goodWord w = true := List.mem_filter.mp h
theorem goodIn_lw {X : List Jvm.Cond} (h : ∀ w ∈ X, w ∈ lw_good) : GoodIn lw_good X := fun w hw => ⟨h w hw, good_of_word (good_w (h w hw)).2⟩
theorem swT_ok (x : Int32) (pc : Nat) (dd : Int) : ∀ (L : List Int) (k : Nat), k + L.length < 2 ^ 31 → (∃ j, j < L.length ∧ x = nI (k + j) ∧ ∃ o, L[j]? = some o ∧ swT x pc dd L k = tg pc o) ∨ ((∀ j, j < L.length → ¬ x = nI (k + j)) ∧ swT x pc dd L k = tg pc dd) := by
  intro L
  induction L with
  | nil => intro k _; exact Or.inr ⟨fun j hj => absurd hj (Nat.not_lt_zero j), rfl⟩
  | cons o t ih =>
    intro k hk
    simp only [List.length_cons] at hk
    by_cases e : x = nI k
    · refine Or.inl ⟨0, by simp, e, o, rfl, ?_⟩
      simp only [swT]
      exact if_pos e
    · have e2 : swT x pc dd (o :: t) k = swT x pc dd t (k + 1) := by simp only [swT]; exact if_neg e
      rcases ih (k + 1) (by omega) with ⟨j, h1, h2, o2, h3, h4⟩ | ⟨h1, h2⟩
      · exact Or.inl ⟨j + 1, by simp; exact h1, by rw [h2]; congr 1; omega, o2, by simpa using h3, by rw [e2, h4]⟩
      · refine Or.inr ⟨fun j hj => ?_, by rw [e2, h2]⟩
        cases j with
        | zero => exact e
        | succ j => have := h1 j (by simpa using hj); rwa [show k + 1 + j = k + (j + 1) by omega] at this
section STP
variable {p : Program} {l : Launch} {e : Env} {R : Room} {s : State} {m : MethodId} {args : Array Value} {below : List Frame} {meth : Method} {c : Code} {H : Heap} {locs : List Loc} {cells slots : Nat} {Q : State → Prop}
variable {cc : ByteArray} {pc n : Nat} {ls : Array Slot} {ad : Nat → Nat} {D : va_G} {cA : Nat → ClassId} {A : Nat → Prop}
theorem w_at {a b : Nat} (h : a = b) {st : List Value} (k : W p l e R s m args below meth c H locs cells slots Q (F0 m a ls st)) : W p l e R s m args below meth c H locs cells slots Q (F0 m b ls st) := h ▸ k
set_option maxHeartbeats 4000000 in
/-- jumps -/
theorem opJ_ok (hx : p.tables.exec = Jvm.exec) (hb : c.code = cc) {own : Nat} {i : Instr} {lv lv' : Lv} {st st' : St} {I I' : I2} {J J' : J2} {pc' : Nat} (hi : (∃ k o, i = .ifCond k o) ∨ (∃ k o, i = .if_icmp k o) ∨ (∃ o, i = .goto o) ∨ ∃ a b f g, i = .tableswitch a b f g) (h : exec1 own i pc n lv st I J = some (pc', lv', st', I', J')) (hd : decode cc pc = .ok (i, n)) (ho : okIns pc i n = true) :
    lv' = lv ∧ I' = I ∧ J' = J ∧ (W p l e R s m args below meth c H locs cells slots Q (F0 m pc' ls (st'.map (kv ad))) → W p l e R s m args below meth c H locs cells slots Q (F0 m pc ls (st.map (kv ad)))) := by
  have e1 : ∀ {z : Nat}, Nat.beq n z = true → n = z := fun h => Nat.eq_of_beq_eq_true h
  rcases hi with ⟨k, o, rfl⟩ | ⟨k, o, rfl⟩ | ⟨o, rfl⟩ | ⟨a, b, f, g, rfl⟩
  · simp only [exec1] at h
    split at h
    · next x r =>
      simp only [Option.some.injEq, Prod.mk.injEq] at h
      obtain ⟨rfl, rfl, rfl, rfl, rfl⟩ := h
      refine ⟨rfl, rfl, rfl, fun kk => ?_⟩
      simp only [okIns, Bool.and_eq_true, decide_eq_true_eq] at ho
      have := e1 ho.1; subst this
      have ht := ho.2
      cases k <;> simp only [brI] at kk
      · exact lv_if_eq hx hb hd ht (fun q => w_at (if_pos q) kk) (fun q => w_at (if_neg q) kk)
      · exact lv_if_ne hx hb hd ht (fun q => w_at (if_neg q) kk) (fun q => w_at (if_pos q) kk)
      · exact lv_if_lt hx hb hd ht (fun q => w_at (if_pos q) kk) (fun q => w_at (if_neg q) kk)
      · exact lv_if_ge hx hb hd ht (fun q => w_at (if_neg (Int32.not_lt.mpr q)) kk) (fun q => w_at (if_pos (Int32.not_le.mp q)) kk)
      · exact lv_if_gt hx hb hd ht (fun q => w_at (if_pos q) kk) (fun q => w_at (if_neg q) kk)
      · exact lv_if_le hx hb hd ht (fun q => w_at (if_neg (Int32.not_lt.mpr q)) kk) (fun q => w_at (if_pos (Int32.not_le.mp q)) kk)
    · cases h
  · simp only [exec1] at h
    split at h
    · next y x r =>
      simp only [Option.some.injEq, Prod.mk.injEq] at h
      obtain ⟨rfl, rfl, rfl, rfl, rfl⟩ := h
      refine ⟨rfl, rfl, rfl, fun kk => ?_⟩
      simp only [okIns, Bool.and_eq_true, decide_eq_true_eq] at ho
      have := e1 ho.1; subst this
      have ht := ho.2
      cases k <;> simp only [brC] at kk
      · exact lv_icmp_eq hx hb hd ht (fun q => w_at (if_pos q) kk) (fun q => w_at (if_neg q) kk)
      · exact lv_icmp_ne hx hb hd ht (fun q => w_at (if_neg q) kk) (fun q => w_at (if_pos q) kk)
      · exact lv_icmp_lt hx hb hd ht (fun q => w_at (if_pos q) kk) (fun q => w_at (if_neg q) kk)
      · exact lv_icmp_ge hx hb hd ht (fun q => w_at (if_neg (Int32.not_lt.mpr q)) kk) (fun q => w_at (if_pos (Int32.not_le.mp q)) kk)
      · exact lv_icmp_gt hx hb hd ht (fun q => w_at (if_pos q) kk) (fun q => w_at (if_neg q) kk)
      · exact lv_icmp_le hx hb hd ht (fun q => w_at (if_neg (Int32.not_lt.mpr q)) kk) (fun q => w_at (if_pos (Int32.not_le.mp q)) kk)
    · cases h
  · simp only [exec1, Option.some.injEq, Prod.mk.injEq] at h
    obtain ⟨rfl, rfl, rfl, rfl, rfl⟩ := h
    refine ⟨rfl, rfl, rfl, fun kk => ?_⟩
    simp only [okIns, Bool.and_eq_true, decide_eq_true_eq] at ho
    have := e1 ho.1; subst this
    exact lv_goto hx hb hd ho.2 kk
  · simp only [exec1] at h
    split at h
    · next x r =>
      simp only [Option.some.injEq, Prod.mk.injEq] at h
      obtain ⟨rfl, rfl, rfl, rfl, rfl⟩ := h
      refine ⟨rfl, rfl, rfl, fun kk => ?_⟩
      simp only [okIns, Bool.and_eq_true, decide_eq_true_eq, List.all_eq_true] at ho
      obtain ⟨⟨⟨⟨h0, h1⟩, h2⟩, h3⟩, h4⟩ := ho
      subst h0
      have hlen : g.toList.length = g.size := by simp
      rcases swT_ok x pc a g.toList 0 (by omega) with ⟨j, q1, q2, o, q3, q4⟩ | ⟨q1, q2⟩
      · rw [q4] at kk
        have hjs : j < 2 ^ 31 := by omega
        have hxi : x.toInt = (j : Int) := by rw [q2, Nat.zero_add]; exact nI_toInt hjs
        refine lv_tableIn hx hb hd (by omega) (by omega) (off := o) ?_ (h4 o (List.mem_of_getElem? q3)) kk
        rw [hxi, show ((j : Int) - 0).toNat = j by omega]
        rw [← Array.getElem?_toList]; exact q3
      · rw [q2] at kk
        refine lv_tableOut hx hb hd ?_ h3 kk
        rcases Int.lt_or_le x.toInt 0 with z | z
        · exact Or.inl z
        · refine Or.inr ?_
          rcases Int.lt_or_le f x.toInt with y | y
          · exact y
          · exfalso
            refine q1 x.toInt.toNat (by omega) ?_
            rw [Nat.zero_add]
            apply Int32.toInt_inj.mp
            rw [nI_toInt (by omega)]; omega
    · cases h
/-- a text asked for a letter -/
def IdxOK (p : Program) (l : Launch) (e : Env) (R : Room) (s : State) (m : MethodId) (args : Array Value) (below : List Frame) (meth : Method) (c : Code) (cells slots : Nat) (Q : State → Prop) (ad : Nat → Nat) (A : Nat → Prop) (own : Nat) : Prop :=
  own = 3 → ∀ (a : Nat) (tx : List Int32), (a = 201 ∧ tx = tx1 ∨ a = 202 ∧ tx = tx2) → ∀ (H : Heap) (locs : List Loc) (ls : Array Slot) (pc : Nat) (r : St) (ch : Int32), va_S A s.heap H locs → ls.size = c.maxLocals → decode c.code pc = .ok (.invokevirtual 86, 3) → (r.map fun v => v.category).sum ≤ 8 → (∀ locs', va_S A s.heap H locs' → W p l e R s m args below meth c H locs' cells slots Q (F0 m (pc + 3) ls (.int (txF ch tx 0) :: r))) → W p l e R s m args below meth c H locs cells slots Q (F0 m pc ls (.int ch :: .ref (ad a) :: r))
theorem cat_kv (r : St) : ((r.map (kv ad)).map fun v => v.category) = r.map fun v => v.category := by
  rw [List.map_map]; exact List.map_congr_left (fun v _ => kv_cat)
theorem cp_words : (Cond.methodLink "SecretBox$Box" 65 arraycopyName ∈ lw_good ∧ Cond.methodLink "SecretBox" 271 arraycopyName ∈ lw_good) ∧ Cond.native arraycopyName ∈ lw_good ∧ Cond.static arraycopyName ∈ lw_good ∧ Cond.initialized "java/lang/System" ∈ lw_good :=
  ⟨⟨good_at (i := 531) (by decide +kernel) rfl, good_at (i := 822) (by decide +kernel) rfl⟩, good_at (i := 533) (by decide +kernel) rfl, good_at (i := 532) (by decide +kernel) rfl, good_at (i := 71) (by decide +kernel) rfl⟩
set_option maxHeartbeats 4000000 in
theorem opX_ok (hx : p.tables.exec = Jvm.exec) (hb : c.code = cc) (hml : c.maxLocals = ls.size) {own : Nat} (hown : s.vm.findClass (RNf own) = some m.cls) (hts : ∀ w ∈ lw_good, w.before args s = true) (hK : va_K D vwCl (tysA cA) s) (hW : WDp ad A) (hR : 1 ≤ R.frames ∧ 100 ≤ R.locals) {i : Instr} {st st' : St} {I I' : I2} {J J' : J2} (hidx : IdxOK p l e R s m args below meth c cells slots Q ad A own) (h : opX own i st I J = some (st', I', J')) (hd : decode cc pc = .ok (i, n)) (ho : okIns pc i n = true) (hP : va_P D vwCl (WS ad cA I J) H) (hS : va_S A s.heap H locs)
    (k : ∀ (H' : Heap) (locs' : List Loc), va_P D vwCl (WS ad cA I' J') H' → va_S A s.heap H' locs' → FrI I I' → W p l e R s m args below meth c H' locs' cells slots Q (F0 m (pc + n) ls (st'.map (kv ad)))) : W p l e R s m args below meth c H locs cells slots Q (F0 m pc ls (st.map (kv ad))) := by
  have e1 : ∀ {z : Nat}, Nat.beq n z = true → n = z := fun h => Nat.eq_of_beq_eq_true h
  have hD : va_D A (WS ad cA I J) := WS_D hW
  cases i
  all_goals first
    | (exfalso; simp [opX] at h; done)
    | skip
  case invokestatic ix =>
    have := e1 (z := 3) ho; subst this
    simp only [opX] at h
    cases hown2 : ((Nat.beq own 0 && Nat.beq ix 65) || (Nat.beq own 5 && Nat.beq ix 271)) with
    | false => rw [hown2] at h; cases h
    | true =>
      rw [hown2] at h
      simp only [cond_true] at h
      have hlink : Cond.methodLink (RNf own) ix arraycopyName ∈ lw_good := by
        simp only [Bool.or_eq_true, Bool.and_eq_true] at hown2
        rcases hown2 with ⟨a1, a2⟩ | ⟨a1, a2⟩
        · rw [Nat.eq_of_beq_eq_true a1, Nat.eq_of_beq_eq_true a2]; exact cp_words.1.1
        · rw [Nat.eq_of_beq_eq_true a1, Nat.eq_of_beq_eq_true a2]; exact cp_words.1.2
      split at h
      · next nn dp a sp b r =>
        cases hr : Nat.ble (r.map fun v => v.category).sum 8 with
        | false => rw [hr] at h; cases h
        | true =>
          rw [hr] at h
          have hr8 : (r.map fun v => v.category).sum ≤ 8 := Nat.le_of_ble_eq_true hr
          simp only [cond_true] at h
          have hroom : ((r.map (kv ad)).map fun v => v.category).sum + (nativeFrameWords "java/lang/System" "arraycopy" 5 + 11) ≤ R.locals := by
            rw [cat_kv]
            have : nativeFrameWords "java/lang/System" "arraycopy" 5 = 7 := by decide +kernel
            omega
          split at h
          · next t x u y ha hb2 =>
            split at h
            · cases h
            · next hin =>
              simp only [not_or] at hin
              obtain ⟨g1, g2, g3, g4, g5⟩ := hin
              cases h1 : (Nat.beq t 1 && Nat.beq u 1) with
              | true =>
                rw [h1] at h
                simp only [cond_true, Option.some.injEq, Prod.mk.injEq] at h
                obtain ⟨rfl, rfl, rfl⟩ := h
                obtain ⟨c1, c2⟩ := beq_and h1
                have et : t = 1 := Nat.eq_of_beq_eq_true c1
                have eu : u = 1 := Nat.eq_of_beq_eq_true c2
                subst et; subst eu
                refine va_copyi hx hb hml hown (hts _ hlink) (hts _ cp_words.2.1) (hts _ cp_words.2.2.1) (hts _ cp_words.2.2.2) hK hP hD hS b a 0 0 (WS_at hb2 (CE_1 (SK_ok hb2).2)) (WS_at ha (CE_1 (SK_ok ha).2)) (ty := .int) rfl rfl rfl g1 g2 g3 (by omega) (by omega) (fun _ _ => rfl) hR.1 hroom hd (fun H1 locs1 hP1 hD1 hS1 => ?_)
                refine k H1 locs1 ?_ hS1 (fun b9 hb9 => if_neg (by have := (SK_ok ha).1; omega))
                have e9 := CE_1 (ad := ad) (cA := cA) (I := fun i => if i = a then va_cpy (I b) (I a) sp.toNatClampNeg dp.toNatClampNeg nn.toNatClampNeg else I i) (J := J) (SK_ok ha).2
                simp only [↓reduceIte] at e9
                rw [← e9, WS_set (SK_ok ha).1 (fun b hb => if_neg hb) (fun b hb => rfl)] at hP1
                exact hP1
              | false =>
                rw [h1] at h
                simp only [cond_false] at h
                cases h3 : (Nat.beq t 3 && Nat.beq u 3) with
                | false => rw [h3] at h; cases h
                | true =>
                  rw [h3] at h
                  simp only [cond_true, Option.some.injEq, Prod.mk.injEq] at h
                  obtain ⟨rfl, rfl, rfl⟩ := h
                  obtain ⟨c1, c2⟩ := beq_and h3
                  have et : t = 3 := Nat.eq_of_beq_eq_true c1
                  have eu : u = 3 := Nat.eq_of_beq_eq_true c2
                  subst et; subst eu
                  refine va_copyl hx hb hml hown (hts _ hlink) (hts _ cp_words.2.1) (hts _ cp_words.2.2.1) (hts _ cp_words.2.2.2) hK hP hD hS b a 2 2 (WS_at hb2 (CE_3 (SK_ok hb2).2)) (WS_at ha (CE_3 (SK_ok ha).2)) (ty := .long) rfl rfl rfl g1 g2 g3 (by omega) (by omega) (fun _ _ => rfl) hR.1 hroom hd (fun H1 locs1 hP1 hD1 hS1 => ?_)
                  refine k H1 locs1 ?_ hS1 FrI.rf
                  have e9 := CE_3 (ad := ad) (cA := cA) (I := I) (J := fun i => if i = a then va_cpy (J b) (J a) sp.toNatClampNeg dp.toNatClampNeg nn.toNatClampNeg else J i) (SK_ok ha).2
                  simp only [↓reduceIte] at e9
                  rw [← e9, WS_set (SK_ok ha).1 (fun b hb => rfl) (fun b hb => if_neg hb)] at hP1
                  exact hP1
          · cases h
      · cases h
  case invokevirtual ix =>
    have := e1 (z := 3) ho; subst this
    simp only [opX] at h
    cases hown2 : (Nat.beq own 3 && Nat.beq ix 86) with
    | false => rw [hown2] at h; cases h
    | true =>
      rw [hown2] at h
      simp only [cond_true] at h
      obtain ⟨c1, c2⟩ := beq_and hown2
      have e3 : ix = 86 := Nat.eq_of_beq_eq_true c2
      subst e3
      subst hb
      split at h
      · next ch a r =>
        cases hr : Nat.ble (r.map fun v => v.category).sum 8 with
        | false => rw [hr] at h; cases h
        | true =>
          rw [hr] at h
          have hr8 : (r.map fun v => v.category).sum ≤ 8 := Nat.le_of_ble_eq_true hr
          simp only [cond_true] at h
          cases h1 : Nat.beq a 201 with
          | true =>
            rw [h1] at h
            simp only [cond_true, Option.some.injEq, Prod.mk.injEq] at h
            obtain ⟨rfl, rfl, rfl⟩ := h
            exact hidx (Nat.eq_of_beq_eq_true c1) a tx1 (Or.inl ⟨Nat.eq_of_beq_eq_true h1, rfl⟩) H locs ls pc (r.map (kv ad)) ch hS hml.symm hd (by rw [cat_kv]; exact hr8) (fun locs' hS' => k H locs' hP hS' FrI.rf)
          | false =>
            rw [h1] at h
            simp only [cond_false] at h
            cases h2 : Nat.beq a 202 with
            | false => rw [h2] at h; cases h
            | true =>
              rw [h2] at h
              simp only [cond_true, Option.some.injEq, Prod.mk.injEq] at h
              obtain ⟨rfl, rfl, rfl⟩ := h
              exact hidx (Nat.eq_of_beq_eq_true c1) a tx2 (Or.inr ⟨Nat.eq_of_beq_eq_true h2, rfl⟩) H locs ls pc (r.map (kv ad)) ch hS hml.symm hd (by rw [cat_kv]; exact hr8) (fun locs' hS' => k H locs' hP hS' FrI.rf)
      · cases h
end STP
end
section
/-! THE WALKED MACHINE IS THE MACHINE: every call that it tells, the machine does -/
theorem ScrOK.fr {own : Nat} {ad : Nat → Nat} {A : Nat → Prop} {s : State} {I0 I : I2} (h : ScrOK own ad A s I0) (hf : FrI I0 I) : ScrOK own ad A s I := by
  intro ho
  obtain ⟨L, xs, h1, h2, h3, h4, h5, h6⟩ := h ho
  exact ⟨L, xs, h1, h2, h3, h4, by rw [hf 100 (by decide)]; exact h5, by rw [hf 101 (by decide)]; exact h6⟩
/-- what is given of the texts: two Strings of the library's form, apart from the world -/
def Exw (ad : Nat → Nat) (A : Nat → Prop) (U : State) : Prop :=
  vk_S 2 [5, 3] [[112, 115, 114, 108, 98], [60, 62, 61]] (fun i => ad (201 + i)) (fun i => ad (211 + i)) A U U.heap ∧ vk_R "SecretBox$Tape" 45 "psrlb" (ad 201) U ∧ vk_R "SecretBox$Tape" 64 "<>=" (ad 202) U ∧ va_Z "java/lang/String" "COMPACT_STRINGS" "Z" (.int 1) A U U.heap ∧ va_Nw (.methodLinkNest "SecretBox$Box" 77 (yM Sb_placeIn) "SecretBox") U
def Wd (D : va_G) (ad : Nat → Nat) (cA : Nat → ClassId) (A : Nat → Prop) (I : I2) (J : J2) (U : State) : Prop := va_P D vwCl (WS ad cA I J) U.heap ∧ va_K D vwCl (tysA cA) U ∧ Exw ad A U
def QW (D : va_G) (ad : Nat → Nat) (cA : Nat → ClassId) (A : Nat → Prop) (I0 : I2) (Q : Post) : Array Value → State → Outcome → State → Prop := fun _ st oc t =>
  (∃ (r : Option Value) (I' : I2) (J' : J2), oc = .returned (r.map (kv ad)) ∧ Q r I' J' ∧ FrI I0 I' ∧ va_P D vwCl (WS ad cA I' J') t.heap) ∧ va_F A st t
def rmd (d : Nat) : Room := { frames := d + 20, cells := 0, slots := 0, locals := 1000 + 64 * d }
def Wr (p : Program) (l : Launch) (e : Env) (R : Room) (s : State) (m : MethodId) (args : Array Value) (below : List Frame) (meth : Method) (c : Code) (cells slots : Nat) (Q : State → Prop) (D : va_G) (ad : Nat → Nat) (cA : Nat → ClassId) (A : Nat → Prop) (I0 : I2) (M : Nat) (pc : Nat) (lv : Lv) (st : St) (I : I2) (J : J2) : Prop :=
  ∀ (H : Heap) (locs : List Loc) (ls : Array Slot), va_P D vwCl (WS ad cA I J) H → va_S A s.heap H locs → lv.length = mlM M → lv_has ls (mlM M) (klv ad lv) → FrI I0 I → W p l e R s m args below meth c H locs cells slots Q (F0 m pc ls (st.map (kv ad)))
def okN (own : String) (q : Fe) : Bool := !(Nat.beq q.2.1 2) || (decide (own = "SecretBox$Box") && Nat.beq q.1 77 && Nat.beq q.2.2.1 Sb_placeIn)
theorem kn_all (own : Nat) : (bif Nat.ble own 3 then (bif Nat.ble own 1 then (bif Nat.ble own 0 then (c_0) else (c_1)) else (bif Nat.ble own 2 then (c_2) else (c_3))) else (bif Nat.ble own 5 then (bif Nat.ble own 4 then (c_4) else (c_5)) else (bif Nat.ble own 6 then (c_6) else (bif Nat.ble own 7 then (c_7) else (c_8))))).all (okN (RNf own)) = true := (bif_p2 (P := fun (a : String) (b : List Fe) => b.all (okN a) = true) (bif_p2 (P := fun (a : String) (b : List Fe) => b.all (okN a) = true) (bif_p2 (P := fun (a : String) (b : List Fe) => b.all (okN a) = true) (by decide +kernel) (by decide +kernel)) (bif_p2 (P := fun (a : String) (b : List Fe) => b.all (okN a) = true) (by decide +kernel) (by decide +kernel))) (bif_p2 (P := fun (a : String) (b : List Fe) => b.all (okN a) = true) (bif_p2 (P := fun (a : String) (b : List Fe) => b.all (okN a) = true) (by decide +kernel) (by decide +kernel)) (bif_p2 (P := fun (a : String) (b : List Fe) => b.all (okN a) = true) (by decide +kernel) (bif_p2 (P := fun (a : String) (b : List Fe) => b.all (okN a) = true) (by decide +kernel) (by decide +kernel)))))
theorem nest_only {own ix M n : Nat} (h : KTf own ix = some (2, M, n)) : RNf own = "SecretBox$Box" ∧ ix = 77 ∧ M = Sb_placeIn := by
  have h1 := List.all_eq_true.mp (kn_all own) _ (lkF_mem h)
  unfold okN at h1
  simp only [show Nat.beq 2 2 = true from rfl, Bool.not_true, Bool.false_or, Bool.and_eq_true, decide_eq_true_eq] at h1
  exact ⟨h1.1.1, Nat.eq_of_beq_eq_true h1.1.2, Nat.eq_of_beq_eq_true h1.2⟩
theorem vwCl_R : ∀ ci, ci < 7 → ∃ (T : u_T) (N : Nat), vwCl[ci]? = some (RNf ci, T, N) := by
  intro ci h
  match ci, h with
  | 0, _ => exact ⟨_, _, rfl⟩
  | 1, _ => exact ⟨_, _, rfl⟩
  | 2, _ => exact ⟨_, _, rfl⟩
  | 3, _ => exact ⟨_, _, rfl⟩
  | 4, _ => exact ⟨_, _, rfl⟩
  | 5, _ => exact ⟨_, _, rfl⟩
  | 6, _ => exact ⟨_, _, rfl⟩
theorem SK_cls : ∀ a, a < 78 → (SKt a).1 = 0 → (SKt a).2 < 7 := by decide +kernel
theorem owM_name {M : Nat} (h : (yM M).cls ≠ "SecretBoxLaw") : (yM M).cls = RNf (owM M) ∧ Jvm.Cond.code (yM M) (bM M) (mlM M) (rtM M) ∈ lw_good ∧ Jvm.Cond.initialized (yM M).cls ∈ lw_good ∧ plainName (yM M).cls = true ∧ (yM M).cls ≠ "java/lang/invoke/MethodHandle" ∧ (yM M).cls ≠ "java/lang/invoke/VarHandle" := by
  rcases km_all M with q | ⟨pp, hp⟩
  · exact absurd q h
  · unfold okMr at hp
    simp only [Bool.and_eq_true, decide_eq_true_eq] at hp
    obtain ⟨⟨⟨⟨⟨h1, h2⟩, h3⟩, h4⟩, h5⟩, h6⟩ := hp
    exact ⟨h4, good_at h1 rfl, good_at h2 rfl, h3, h5, h6⟩
theorem ws_in {M : Nat} (h : (yM M).cls ≠ "SecretBoxLaw") : ∀ w ∈ wsM M, w ∈ lw_good := by
  intro w hw
  rcases List.mem_cons.mp hw with rfl | h2
  · exact (owM_name h).2.1
  · exact h2
section CLL
variable {p : Program} {l : Launch} {e : Env} {R : Room} {s : State} {m : MethodId} {args : Array Value} {below : List Frame} {meth : Method} {c : Code} {H : Heap} {locs : List Loc} {cells slots : Nat} {Q : State → Prop}
variable {pc : Nat} {ls : Array Slot} {ad : Nat → Nat} {D : va_G} {cA : Nat → ClassId} {A : Nat → Prop}
theorem va_callQ {rest st0 : List Value} {a : Array Value} {Q' : Post} {I : I2} (hr : va_Run p l e R s m args below meth c H locs cells slots 0 0 (F0 m pc ls st0) rest (QW D ad cA A I Q' a) A) (hS : va_S A s.heap H locs)
    (kk : ∀ (r : Option Value) (I' : I2) (J' : J2) (H1 : Heap) (locs1 : List Loc), Q' r I' J' → FrI I I' → va_P D vwCl (WS ad cA I' J') H1 → va_S A s.heap H1 locs1 → W p l e R s m args below meth c H1 locs1 cells slots Q (F0 m (pc + 3) ls ((r.map (kv ad)).toList ++ rest))) : W p l e R s m args below meth c H locs cells slots Q (F0 m pc ls st0) := by
  intro T hT X
  obtain ⟨v, st₀, t, T', L, h0, X', hL, e1, e2, ⟨⟨r, I', J', hv, hq, hf, hp⟩, hz, hk⟩, st⟩ := hr T hT X
  cases hv
  rw [h0] at hz hk
  obtain ⟨t2, a1, b1⟩ := kk r I' J' T'.heap (locs ++ L) hq hf (by rw [e1]; exact hp)
    ⟨Nat.le_trans hS.1 (by rw [e1]; exact hz), fun q h1 h2 => by rw [e1, hk q (Nat.lt_of_lt_of_le h1 hS.1) h2]; exact hS.2.1 q h1 h2, fun q hq => by
      rcases List.mem_append.mp hq with h | h
      · exact hS.2.2 q h
      · exact hL q h⟩ T' rfl X'
  exact ⟨t2, st t2 a1, b1⟩
theorem step_ok {I0 : I2} {M : Nat} (hx : p.tables.exec = Jvm.exec) (hb : c.code = bM M) (hml : c.maxLocals = mlM M) (hown : s.vm.findClass (RNf (owM M)) = some m.cls) (hts : ∀ w ∈ lw_good, w.before args s = true) (hK : va_K D vwCl (tysA cA) s) (hW : WDp ad A) (hR : 1 ≤ R.frames ∧ 100 ≤ R.locals) (hscr : ScrOK (owM M) ad A s I0) (hldc : LdcOK p l e R s m args below meth c cells slots Q ad (owM M)) (hidx : IdxOK p l e R s m args below meth c cells slots Q ad A (owM M)) {pc pc' : Nat} {lv lv' : Lv} {st st' : St} {I I' : I2} {J J' : J2} (h : stepP M (pc, lv, st, I, J) = some (pc', lv', st', I', J')) (k : Wr p l e R s m args below meth c cells slots Q D ad cA A I0 M pc' lv' st' I' J') : Wr p l e R s m args below meth c cells slots Q D ad cA A I0 M pc lv st I J := by
  intro H locs ls hP hS hlen hl hfr
  simp only [stepP] at h
  split at h
  · next i n hf =>
    obtain ⟨hd, ho⟩ := fetch_ok hf
    have rest : exec1 (owM M) i pc n lv st I J = (match opS i st with
      | some st' => some (pc + n, lv, st', I, J)
      | none => match opL i lv st with
        | some (lv', st') => some (pc + n, lv', st', I, J)
        | none => match opM (owM M) i st I J with
          | some (st', I', J') => some (pc + n, lv, st', I', J')
          | none => match opX (owM M) i st I J with
            | some (st', I', J') => some (pc + n, lv, st', I', J')
            | none => none) → W p l e R s m args below meth c H locs cells slots Q (F0 m pc ls (st.map (kv ad))) := by
      intro e9
      rw [e9] at h
      split at h
      · next s2 h2 =>
        simp only [Option.some.injEq, Prod.mk.injEq] at h
        obtain ⟨rfl, rfl, rfl, rfl, rfl⟩ := h
        exact opS_ok hx hb h2 hd ho (k H locs ls hP hS hlen hl hfr)
      · split at h
        · next l2 s2 h2 =>
          simp only [Option.some.injEq, Prod.mk.injEq] at h
          obtain ⟨rfl, rfl, rfl, rfl, rfl⟩ := h
          exact opL_ok hx hb h2 hd ho hlen hl (fun ls' hl2 hl3 => k H locs ls' hP hS hl2 hl3 hfr)
        · split at h
          · next s2 i2 j2 h2 =>
            simp only [Option.some.injEq, Prod.mk.injEq] at h
            obtain ⟨rfl, rfl, rfl, rfl, rfl⟩ := h
            exact opM_ok hx hb hown hts hK hW (hscr.fr hfr) hldc h2 hd ho hP hS (fun H' locs' hP' hS' hf' => k H' locs' ls hP' hS' hlen hl (hfr.tr hf'))
          · split at h
            · next s2 i2 j2 h2 =>
              simp only [Option.some.injEq, Prod.mk.injEq] at h
              obtain ⟨rfl, rfl, rfl, rfl, rfl⟩ := h
              exact opX_ok hx hb (hml.trans hl.1.symm) hown hts hK hW hR hidx h2 hd ho hP hS (fun H' locs' hP' hS' hf' => k H' locs' ls hP' hS' hlen hl (hfr.tr hf'))
            · cases h
    have jump : ((∃ k o, i = .ifCond k o) ∨ (∃ k o, i = .if_icmp k o) ∨ (∃ o, i = .goto o) ∨ ∃ a b f g, i = .tableswitch a b f g) → W p l e R s m args below meth c H locs cells slots Q (F0 m pc ls (st.map (kv ad))) := by
      intro hi
      obtain ⟨rfl, rfl, rfl, g⟩ := opJ_ok (p := p) (l := l) (e := e) (R := R) (s := s) (m := m) (args := args) (below := below) (meth := meth) (H := H) (locs := locs) (cells := cells) (slots := slots) (Q := Q) (ls := ls) (ad := ad) hx hb hi h hd ho
      exact g (k H locs ls hP hS hlen hl hfr)
    cases i
    case ifCond a b => exact jump (Or.inl ⟨_, _, rfl⟩)
    case if_icmp a b => exact jump (Or.inr (Or.inl ⟨_, _, rfl⟩))
    case goto a => exact jump (Or.inr (Or.inr (Or.inl ⟨_, rfl⟩)))
    case tableswitch a b f g => exact jump (Or.inr (Or.inr (Or.inr ⟨_, _, _, _, rfl⟩)))
    all_goals exact rest rfl
  · cases h
theorem map_cat {f : Value → Value} : True := trivial
set_option maxHeartbeats 4000000 in
theorem call_ok {I0 : I2} {M d : Nat} (hx : p.tables.exec = Jvm.exec) (hb : c.code = bM M) (hml : c.maxLocals = mlM M) (hown : s.vm.findClass (RNf (owM M)) = some m.cls) (hts : ∀ w ∈ lw_good, w.before args s = true) (hK : va_K D vwCl (tysA cA) s) (hW : WDp ad A) (hE : Exw ad A s) (hfr1 : (rmd d).frames + 1 ≤ R.frames) (hfr2 : 60 + (rmd d).locals ≤ R.locals) (hcl : cells ≤ R.cells) (hsl : slots ≤ R.slots)
    (IH : ∀ (M' : Nat) (as : List Value) (I : I2) (J : J2) (Q' : Post), (yM M').cls ≠ "SecretBoxLaw" → callW d M' as I J Q' → Met l (yM M') (wsM M') (rmd d) (va_Pc (as.map (kv ad)) (Wd D ad cA A I J)) (QW D ad cA A I Q') 0 0 A)
    {pc : Nat} {lv : Lv} {st : St} {I : I2} {J : J2} {M' : Nat} {as : List Value} {rest : St} (h : callP M pc st = some (M', as, rest)) (k : callW d M' as I J (fun r I' J' => Wr p l e R s m args below meth c cells slots Q D ad cA A I0 M (pc + 3) lv (r.toList ++ rest) I' J')) : Wr p l e R s m args below meth c cells slots Q D ad cA A I0 M pc lv st I J := by
  intro H locs ls hP hS hlen hl hfr
  have hblind : ∀ as : List Value, FrameBlind (va_Pc (as.map (kv ad)) (Wd D ad cA A I J)) := by
    intro as a U g mk q
    obtain ⟨q1, q2, q3, q4⟩ := q
    refine ⟨q1, q2, va_K.moved (u := U) (U := U.calling g mk a) (Vm.Alike.refl U.vm) q3, ?_⟩
    exact ⟨vk_S.moved (u := U) (U := U.calling g mk a) (Vm.Alike.refl U.vm) q4.1, vk_R.same (u := U) rfl q4.2.1, vk_R.same (u := U) rfl q4.2.2.1, va_Z.moved (u := U) (U := U.calling g mk a) (Vm.Alike.refl U.vm) q4.2.2.2.1, va_Nw.same rfl (u := U) rfl q4.2.2.2.2⟩
  have hpre : ∀ U : State, U.heap = H → s.WarmedH U.vm → Wd D ad cA A I J U := by
    intro U hU hwm
    refine ⟨by rw [hU]; exact hP, va_K.moved hwm.alike hK, ?_⟩
    refine ⟨?_, vk_R.warm hwm hE.2.1, vk_R.warm hwm hE.2.2.1, ?_, va_Nw.warmM hwm hE.2.2.2.2⟩
    · exact vk_S.moved hwm.alike (by rw [hU]; exact vk_S.kept hE.1 (fun q h1 h2 => hS.2.1 q h1 h2))
    · exact va_Z.moved hwm.alike (by rw [hU]; exact va_Z.kept hE.2.2.2.1 (fun q h1 h2 => hS.2.1 q h1 h2))
  have go : ∀ (stk : List Value), stk = st.map (kv ad) → va_Run p l e R s m args below meth c H locs cells slots 0 0 (F0 m pc ls stk) (rest.map (kv ad)) (QW D ad cA A I (fun r I' J' => Wr p l e R s m args below meth c cells slots Q D ad cA A I0 M (pc + 3) lv (r.toList ++ rest) I' J') (as.map (kv ad)).toArray) A → W p l e R s m args below meth c H locs cells slots Q (F0 m pc ls (st.map (kv ad))) := by
    intro stk hstk hrun
    subst hstk
    refine va_callQ hrun hS (fun r I' J' H1 locs1 hq hf hp hs1 => ?_)
    have := hq H1 locs1 ls hp hs1 hlen hl (hfr.tr hf)
    rw [List.map_append] at this
    have e8 : (r.toList.map (kv ad)) = (r.map (kv ad)).toList := by cases r <;> rfl
    rw [e8] at this
    exact this
  have hfix : CallFix p m c (bM M) (mlM M) s args lw_good (RNf (owM M)) := ⟨hx, hb, hml, hown, hts⟩
  unfold callP at h
  split at h
  · next ix n hf =>
    obtain ⟨hd, ho⟩ := fetch_ok hf
    have e3 : n = 3 := Nat.eq_of_beq_eq_true (show Nat.beq n 3 = true from ho)
    subst e3
    split at h
    · next kd M2 nn hk =>
      cases hc : (Nat.beq kd 0 && Nat.beq (st.take nn).length nn) with
      | false => rw [hc] at h; cases h
      | true =>
        rw [hc] at h
        simp only [cond_true] at h
        obtain ⟨c1, c2⟩ := beq_and hc
        have ekd : kd = 0 := Nat.eq_of_beq_eq_true c1
        have elen : (st.take nn).length = nn := Nat.eq_of_beq_eq_true c2
        subst ekd
        split at h
        · next b r hdrop =>
          split at h
          · next t cc hsk =>
            cases hc3 : (Nat.beq t 0 && Nat.beq cc (owM M2) && Nat.ble (r.map fun v => v.category).sum 8) with
            | false => rw [hc3] at h; cases h
            | true =>
              rw [hc3] at h
              simp only [cond_true, Option.some.injEq, Prod.mk.injEq] at h
              obtain ⟨rfl, rfl, rfl⟩ := h
              obtain ⟨c4, c5⟩ := beq_and hc3
              obtain ⟨c6, c7⟩ := beq_and c4
              have et : t = 0 := Nat.eq_of_beq_eq_true c6
              have ec : cc = owM M2 := Nat.eq_of_beq_eq_true c7
              have hr8 : (r.map fun v => v.category).sum ≤ 8 := Nat.le_of_ble_eq_true c5
              subst et; subst ec
              obtain ⟨pp, hok⟩ := KT_ok hk
              unfold okK at hok
              simp only [Bool.and_eq_true, decide_eq_true_eq] at hok
              obtain ⟨⟨⟨hM1, hlaw⟩, hdesc⟩, ⟨hw1, hw2⟩, hw3⟩ := hok
              obtain ⟨n1, n2, n3, n4, n5, n6⟩ := owM_name hlaw
              have hM := IH M2 _ I J _ hlaw k
              have hc7 : owM M2 < 7 := by
                have := SK_cls b (SK_ok hsk).1 (by rw [(SK_ok hsk).2])
                rwa [(SK_ok hsk).2] at this
              obtain ⟨T, N, hcl7⟩ := vwCl_R _ hc7
              have hml2 : mlM M2 ≤ 40 := Nat.le_of_ble_eq_true (ml_all M2)
              have hrecv := va_recv hK hP hcl7 (WS_at hsk (CE_0 (SK_ok hsk).2))
              have hcw : CallW R s args (RNf (owM M)) (yM M2).cls ix (yM M2) (bM M2) (mlM M2) (rtM M2) (wsM M2) (rmd d) 0 0 nn := by
                refine cwV (Ts := lw_good) (ws' := lw_good) nn hts (goodIn_lw ?_) rfl rfl rfl ⟨rfl, n5, n6, hdesc⟩ ⟨hfr1, by omega⟩
                intro w hw
                rcases List.mem_append.mp hw with h1 | h1
                · simp only [List.mem_cons, List.not_mem_nil, or_false] at h1
                  rcases h1 with rfl | rfl | rfl | rfl
                  · exact good_at hw1 rfl
                  · exact good_at hw2 rfl
                  · exact good_at hw3 rfl
                  · exact n3
                · exact ws_in hlaw w h1
              have hrun := va_runV (p := p) (l := l) (e := e) (R := R) (below := below) (meth := meth) (H := H) (locs := locs) (cells := cells) (slots := slots) (As := ((st.take nn).reverse).map (kv ad)) (rest := r.map (kv ad)) (b := ad b) (g := F0 m pc ls (st.map (kv ad))) hfix hM hcw ⟨hblind _, by rw [n1]; exact hrecv, fun U hU hwm => ⟨rfl, hpre U hU hwm⟩⟩ rfl (by rw [List.length_map, List.length_reverse]; exact elen) hl.1 (by
                  show st.map (kv ad) = _
                  rw [← List.map_reverse, List.reverse_reverse]
                  conv => lhs; rw [← List.take_append_drop nn st, hdrop]
                  simp [kv]) (by
                  show 2 * (F0 m pc ls (st.map (kv ad))).monitorRoom + _ ≤ 8
                  have := lv_room (m := m) (pc := pc) (ls := ls) (rest := st.map (kv ad)) (st := r.map (kv ad)) (by rw [cat_kv]; exact hr8)
                  exact this) hd ⟨by omega, by omega⟩
              exact go _ rfl hrun
          · cases h
        · cases h
    · cases h
  · next ix n hf =>
    obtain ⟨hd, ho⟩ := fetch_ok hf
    have e3 : n = 3 := Nat.eq_of_beq_eq_true (show Nat.beq n 3 = true from ho)
    subst e3
    split at h
    · next kd M2 nn hk =>
      cases hc : (!(Nat.beq kd 0) && Nat.beq (st.take nn).length nn && Nat.ble ((st.drop nn).map fun v => v.category).sum 8) with
      | false => rw [hc] at h; cases h
      | true =>
        rw [hc] at h
        simp only [cond_true, Option.some.injEq, Prod.mk.injEq] at h
        obtain ⟨rfl, rfl, rfl⟩ := h
        obtain ⟨c4, c5⟩ := beq_and hc
        obtain ⟨c6, c7⟩ := beq_and c4
        have elen : (st.take nn).length = nn := Nat.eq_of_beq_eq_true c7
        have hr8 : ((st.drop nn).map fun v => v.category).sum ≤ 8 := Nat.le_of_ble_eq_true c5
        obtain ⟨pp, hok⟩ := KT_ok hk
        unfold okK at hok
        simp only [Bool.and_eq_true, decide_eq_true_eq] at hok
        obtain ⟨⟨⟨hM1, hlaw⟩, hdesc⟩, hkind⟩ := hok
        obtain ⟨n1, n2, n3, n4, n5, n6⟩ := owM_name hlaw
        have hM := IH M2 _ I J _ hlaw k
        have hml2 : mlM M2 ≤ 40 := Nat.le_of_ble_eq_true (ml_all M2)
        have hstack : (F0 m pc ls (st.map (kv ad))).stack = ((st.take nn).reverse.map (kv ad)).reverse ++ (st.drop nn).map (kv ad) := by
          show st.map (kv ad) = _
          rw [← List.map_reverse, List.reverse_reverse, ← List.map_append, List.take_append_drop]
        have hroom : 2 * (F0 m pc ls (st.map (kv ad))).monitorRoom + (((st.drop nn).map (kv ad)).map fun v => v.category).sum ≤ 8 := lv_room (by rw [cat_kv]; exact hr8)
        split at hkind
        · cases c6
        · simp only [Bool.and_eq_true, decide_eq_true_eq] at hkind
          obtain ⟨hw1, hw2⟩ := hkind
          have hcw : CallB R s args (RNf (owM M)) ix (yM M2) (bM M2) (mlM M2) (rtM M2) (wsM M2) (rmd d) 0 0 nn ∧ (Cond.static (yM M2)).before args s = true := by
            refine va_cwS (Ts := lw_good) (ws' := lw_good) nn hts (goodIn_lw ?_) rfl rfl rfl ⟨n5, n6, hdesc⟩ ⟨hfr1, by omega⟩
            intro w hw
            rcases List.mem_append.mp hw with h1 | h1
            · simp only [List.mem_cons, List.not_mem_nil, or_false] at h1
              rcases h1 with rfl | rfl | rfl
              · exact good_at hw1 rfl
              · exact good_at hw2 rfl
              · exact n3
            · exact ws_in hlaw w h1
          exact go _ rfl (va_runS (p := p) (l := l) (e := e) (R := R) (below := below) (meth := meth) (H := H) (locs := locs) (cells := cells) (slots := slots) (As := ((st.take nn).reverse).map (kv ad)) (rest := (st.drop nn).map (kv ad)) (g := F0 m pc ls (st.map (kv ad))) hfix hM hcw ⟨hblind _, fun U hU hwm => ⟨rfl, hpre U hU hwm⟩⟩ rfl (by rw [List.length_map, List.length_reverse]; exact elen) hl.1 hstack hroom hd ⟨by omega, by omega⟩)
        · simp only [Bool.and_eq_true, decide_eq_true_eq] at hkind
          obtain ⟨hw1, hw2⟩ := hkind
          have hnest : va_Nw (.methodLinkNest (RNf (owM M)) ix (yM M2) "SecretBox") s := by
            obtain ⟨z1, z2, z3⟩ := nest_only hk
            rw [z1, z2, z3]
            exact hE.2.2.2.2
          have hcw : va_CN R s args (RNf (owM M)) ix (yM M2) "SecretBox" (bM M2) (mlM M2) (rtM M2) (wsM M2) (rmd d) 0 0 nn := by
            refine va_cnB (Ts := lw_good) (ws' := lw_good) nn hts (goodIn_lw (ws_in hlaw)) rfl rfl rfl hnest (hts _ n3) ⟨n5, n6, hdesc⟩ ⟨hfr1, by omega⟩
          exact go _ rfl (va_runSN (p := p) (l := l) (e := e) (R := R) (below := below) (meth := meth) (H := H) (locs := locs) (cells := cells) (slots := slots) (As := ((st.take nn).reverse).map (kv ad)) (rest := (st.drop nn).map (kv ad)) (g := F0 m pc ls (st.map (kv ad))) hfix hM ⟨hcw, hts _ (good_at hw2 rfl), trivial⟩ ⟨hblind _, fun U hU hwm => ⟨rfl, hpre U hU hwm⟩⟩ rfl (by rw [List.length_map, List.length_reverse]; exact elen) hl.1 hstack hroom hd ⟨by omega, by omega⟩)
        · cases hkind
    · cases h
  · cases h
end CLL
end
section
/-! EVERY CALL: by the depth -/
section STRS
variable {p : Program} {l : Launch} {e : Env} {R : Room} {s : State} {m : MethodId} {args : Array Value} {below : List Frame} {meth : Method} {c : Code} {cells slots : Nat} {Q : State → Prop}
variable {ad : Nat → Nat} {A : Nat → Prop} {own : Nat}
theorem ldc_ok (hx : p.tables.exec = Jvm.exec) (hown : s.vm.findClass (RNf own) = some m.cls) (hE : Exw ad A s) : LdcOK p l e R s m args below meth c cells slots Q ad own := by
  sorry
theorem idx_ok (hx : p.tables.exec = Jvm.exec) (hown : s.vm.findClass (RNf own) = some m.cls) (hts : ∀ w ∈ lw_good, w.before args s = true) (hE : Exw ad A s) (hR : 12 ≤ R.frames ∧ 800 ≤ R.locals) (hcl : cells ≤ R.cells) (hsl : slots ≤ R.slots) : IdxOK p l e R s m args below meth c cells slots Q ad A own := by
  sorry
end STRS
theorem ent_at {ad : Nat → Nat} {v : Value} : ∀ (as : List Value) (k i : Nat), (entL as)[i]? = some (some v) → (k + i, kv ad v) ∈ lv_args k (as.map (kv ad)) := by
  intro as
  induction as with
  | nil => intro k i h; simp [entL] at h
  | cons a t ih =>
    intro k i h
    simp only [List.map_cons, lv_args]
    cases h2 : is2 a with
    | true =>
      rw [if_pos (kv_cat2 h2)]
      simp only [entL, h2, cond_true] at h
      match i, h with
      | 0, h => simp at h; subst h; exact List.mem_cons_self
      | 1, h => simp at h
      | i + 2, h =>
        have := ih (k + 2) i (by simpa using h)
        rw [show k + 2 + i = k + (i + 2) by omega] at this
        exact List.mem_cons_of_mem _ this
    | false =>
      rw [if_neg (by rw [kv_cat1 h2]; decide)]
      simp only [entL, h2, cond_false] at h
      match i, h with
      | 0, h => simp at h; subst h; exact List.mem_cons_self
      | i + 1, h =>
        have := ih (k + 1) i (by simpa using h)
        rw [show k + 1 + i = k + (i + 1) by omega] at this
        exact List.mem_cons_of_mem _ this
theorem ent_incl {ad : Nat → Nat} {n : Nat} {as : List Value} : ∀ q ∈ klv ad (entLv n as), q ∈ lv_args 0 (as.map (kv ad)) := by
  rintro ⟨i, w⟩ hq
  obtain ⟨v, hv, rfl⟩ := klv_mem.mp hq
  unfold entLv at hv
  by_cases hi : i < (entL as).length
  · rw [List.getElem?_append_left hi] at hv
    have := ent_at (ad := ad) as 0 i hv
    rwa [Nat.zero_add] at this
  · rw [List.getElem?_append_right (by omega)] at hv
    have := List.eq_of_mem_replicate (List.mem_of_getElem? hv)
    cases this
theorem ent_sl {ad : Nat → Nat} (as : List Value) : (lg_sl (as.map (kv ad))).length = (entL as).length := by
  induction as with
  | nil => rfl
  | cons a t ih =>
    have e1 : lg_sl ((a :: t).map (kv ad)) = (if (kv ad a).category = 2 then [Slot.val (kv ad a), .second] else [.val (kv ad a)]) ++ lg_sl (t.map (kv ad)) := rfl
    rw [e1, List.length_append, ih]
    cases h2 : is2 a with
    | true => rw [if_pos (kv_cat2 h2)]; simp [entL, h2]; omega
    | false => rw [if_neg (by rw [kv_cat1 h2]; decide)]; simp [entL, h2]; omega
theorem entLv_len {n : Nat} {as : List Value} (h : (entL as).length ≤ n) : (entLv n as).length = n := by
  simp [entLv]; omega
theorem forget_ok {p : Program} {l : Launch} {e : Env} {R : Room} {s : State} {m : MethodId} {args : Array Value} {below : List Frame} {meth : Method} {c : Code} {cells slots : Nat} {Q : State → Prop} {D : va_G} {ad : Nat → Nat} {cA : Nat → ClassId} {A : Nat → Prop} {I0 : I2} {M pc : Nat} {lv lv' : Lv} {st : St} {I : I2} {J : J2} (h : lvLe lv' lv) (k : Wr p l e R s m args below meth c cells slots Q D ad cA A I0 M pc lv' st I J) : Wr p l e R s m args below meth c cells slots Q D ad cA A I0 M pc lv st I J := by
  intro H locs ls hP hS hlen hl hfr
  refine k H locs ls hP hS (h.1.trans hlen) (lv_incl hl ?_) hfr
  rintro ⟨i, w⟩ hq
  obtain ⟨v, hv, rfl⟩ := klv_mem.mp hq
  exact klv_mem.mpr ⟨v, h.2 i v hv, rfl⟩
set_option maxHeartbeats 4000000 in
theorem ret_ok {p : Program} {l : Launch} {e : Env} {R : Room} {s : State} {m : MethodId} {args : Array Value} {below : List Frame} {meth : Method} {c : Code} {D : va_G} {ad : Nat → Nat} {cA : Nat → ClassId} {A : Nat → Prop} {I0 : I2} {M pc : Nat} {lv : Lv} {st : St} {I : I2} {J : J2} {Q' : Post} {r : Option Value} (hx : p.tables.exec = Jvm.exec) (hb : c.code = bM M) (hr : meth.sig.returnType = rtM M) (hlocks : meth.locks = false) (h : retP M pc st = some r) (hq : Q' r I J) : Wr p l e R s m args below meth c 0 0 (MQ below (QW D ad cA A I0 Q') args s 0 0 A) D ad cA A I0 M pc lv st I J := by
  intro H locs ls hP hS hlen hl hfr
  unfold retP at h
  split at h
  · next n hf =>
    obtain ⟨hd, ho⟩ := fetch_ok hf
    have e3 : n = 1 := Nat.eq_of_beq_eq_true (show Nat.beq n 1 = true from ho)
    subst e3
    split at h
    · next hrt =>
      cases h
      exact W.vret hx hb (hr.trans hrt) (fun t ht hW => ⟨⟨none, I, J, rfl, hq, hfr, by rw [ht]; exact hP⟩, hS.F ht⟩) hS.2.2 hd
    · cases h
  · next n hf =>
    obtain ⟨hd, ho⟩ := fetch_ok hf
    have e3 : n = 1 := Nat.eq_of_beq_eq_true (show Nat.beq n 1 = true from ho)
    subst e3
    split at h
    · next x hrt =>
      cases h
      exact W.lret hx hb (hr.trans hrt) (fun t ht hW => ⟨⟨some (.long x), I, J, rfl, hq, hfr, by rw [ht]; exact hP⟩, hS.F ht⟩) hS.2.2 hd
    · cases h
  · next n hf =>
    obtain ⟨hd, ho⟩ := fetch_ok hf
    have e3 : n = 1 := Nat.eq_of_beq_eq_true (show Nat.beq n 1 = true from ho)
    subst e3
    split at h
    · next x hrt =>
      cases h
      exact W.iret hx hb (hr.trans hrt) (fun t ht hW => ⟨⟨some (.int x), I, J, rfl, hq, hfr, by rw [ht]; exact hP⟩, hS.F ht⟩) hS.2.2 hd
    · next x hrt =>
      split at h
      · next h01 =>
        cases h
        exact W.zret hx hb (hr.trans hrt) (narrow_01 h01).1 (fun t ht hW => ⟨⟨some (.int x), I, J, rfl, hq, hfr, by rw [ht]; exact hP⟩, hS.F ht⟩) hS.2.2 hd
      · cases h
    · next x hrt =>
      split at h
      · next hch =>
        cases h
        have hn : narrow .char (.int x) = .int x := by
          have e9 : narrow .char (.int x) = .int (vp_nar .char x) := rfl
          rw [e9, hch]
        exact W.zret hx hb (hr.trans hrt) hn (fun t ht hW => ⟨⟨some (.int x), I, J, rfl, hq, hfr, by rw [ht]; exact hP⟩, hS.F ht⟩) hS.2.2 hd
      · cases h
    · cases h
  · cases h
set_option maxHeartbeats 4000000 in
theorem met_ok {D : va_G} {ad : Nat → Nat} {cA : Nat → ClassId} {A : Nat → Prop} (hW : WDp ad A) (l : Launch) : ∀ (d M : Nat) (as : List Value) (I : I2) (J : J2) (Q' : Post), (yM M).cls ≠ "SecretBoxLaw" → callW d M as I J Q' → Met l (yM M) (wsM M) (rmd d) (va_Pc (as.map (kv ad)) (Wd D ad cA A I J)) (QW D ad cA A I Q') 0 0 A := by
  intro d
  induction d with
  | zero => intro M as I J Q' _ h; exact absurd h (fun q => q)
  | succ d ih =>
    intro M as I J Q' hlaw h
    obtain ⟨hle, h⟩ := h
    have hle : (entL as).length ≤ mlM M := Nat.le_of_ble_eq_true hle
    obtain ⟨n1, n2, n3, n4, n5, n6⟩ := owM_name hlaw
    refine Met.ofW (cc := bM M) (maxL := mlM M) (ret := rtM M) n4 rfl ?_
    intro p e s m args below meth c s₁ B hml hv
    obtain ⟨rfl, hP, hK, hE⟩ := hv
    have hx := B.exec
    have hb := B.bytes
    have hr := B.returns
    have hts := atoms_spec (ws := wsM M) B.pre
    have hts2 : ∀ w ∈ lw_good, w.before (as.map (kv ad)).toArray s = true := fun w hw => hts w (List.mem_cons_of_mem _ hw)
    have hown : s.vm.findClass (RNf (owM M)) = some m.cls := by rw [← n1]; exact findClass_of_methodNamed B.named
    have hlocks := B.notSynchronized
    have hl := lv_entry (as.map (kv ad)) (n := mlM M) (by rw [ent_sl]; exact hle)
    rw [lg_entry_eq]
    generalize (lg_sl (as.map (kv ad)) ++ List.replicate (mlM M - (lg_sl (as.map (kv ad))).length) Slot.unset).toArray = ls at hl ⊢
    have hscr : ScrOK (owM M) ad A s I := by
      intro h7
      exfalso
      apply hlaw
      rw [n1, h7]
      rfl
    have hR : 1 ≤ ((headSpec (wsM M) (rmd (d + 1))).room).frames ∧ 100 ≤ ((headSpec (wsM M) (rmd (d + 1))).room).locals := by
      show 1 ≤ (rmd (d + 1)).frames ∧ 100 ≤ (rmd (d + 1)).locals
      simp only [rmd]; omega
    have hR2 : 12 ≤ ((headSpec (wsM M) (rmd (d + 1))).room).frames ∧ 800 ≤ ((headSpec (wsM M) (rmd (d + 1))).room).locals := by
      show 12 ≤ (rmd (d + 1)).frames ∧ 800 ≤ (rmd (d + 1)).locals
      simp only [rmd]; omega
    have key := h (Wr p l e (headSpec (wsM M) (rmd (d + 1))).room s m (as.map (kv ad)).toArray below meth c 0 0 (MQ below (QW D ad cA A I Q') (as.map (kv ad)).toArray s 0 0 A) D ad cA A I M) ⟨
      fun pc lv st I1 J1 pc' lv' st' I' J' hs k => step_ok hx hb hml hown hts2 hK hW hR hscr (ldc_ok hx hown hE) (idx_ok hx hown hts2 hE hR2 (Nat.zero_le _) (Nat.zero_le _)) hs k,
      fun pc lv st I1 J1 r hr1 hq => ret_ok hx hb hr hlocks hr1 hq,
      fun pc lv st I1 J1 M' as1 rest hc k => call_ok hx hb hml hown hts2 hK hW hE (by show d + 20 + 1 ≤ d + 1 + 20; omega) (by show 60 + (1000 + 64 * d) ≤ 1000 + 64 * (d + 1); omega) (Nat.zero_le _) (Nat.zero_le _) (fun M2 as2 I2 J2 Q2 hl2 hc2 => ih M2 as2 I2 J2 Q2 hl2 hc2) hc k,
      fun pc lv lv' st I1 J1 hle2 k => forget_ok hle2 k⟩
    exact key s.heap [] ls hP va_S.rf (entLv_len hle) (lv_incl hl ent_incl) FrI.rf
end
