/-! THE CONSTRUCTORS, row by row (by wip/whole/gen/mkctor.py) -/
theorem dX0_init_0 : decode cX0_init 0 = .ok (.aload_n 0, 1) := by decide +kernel
theorem dX0_init_1 : decode cX0_init 1 = .ok (.invokespecial 3, 3) := by decide +kernel
theorem dX0_init_4 : decode cX0_init 4 = .ok (.aload_n 0, 1) := by decide +kernel
theorem dX0_init_5 : decode cX0_init 5 = .ok (.iconst 5, 1) := by decide +kernel
theorem dX0_init_6 : decode cX0_init 6 = .ok (.newarray .int, 2) := by decide +kernel
theorem dX0_init_8 : decode cX0_init 8 = .ok (.putfield 9, 3) := by decide +kernel
theorem dX0_init_11 : decode cX0_init 11 = .ok (.aload_n 0, 1) := by decide +kernel
theorem dX0_init_12 : decode cX0_init 12 = .ok (.iconst 5, 1) := by decide +kernel
theorem dX0_init_13 : decode cX0_init 13 = .ok (.newarray .int, 2) := by decide +kernel
theorem dX0_init_15 : decode cX0_init 15 = .ok (.putfield 15, 3) := by decide +kernel
theorem dX0_init_18 : decode cX0_init 18 = .ok (.aload_n 0, 1) := by decide +kernel
theorem dX0_init_19 : decode cX0_init 19 = .ok (.bipush 6, 2) := by decide +kernel
theorem dX0_init_21 : decode cX0_init 21 = .ok (.newarray .int, 2) := by decide +kernel
theorem dX0_init_23 : decode cX0_init 23 = .ok (.putfield 18, 3) := by decide +kernel
theorem dX0_init_26 : decode cX0_init 26 = .ok (.aload_n 0, 1) := by decide +kernel
theorem dX0_init_27 : decode cX0_init 27 = .ok (.bipush 6, 2) := by decide +kernel
theorem dX0_init_29 : decode cX0_init 29 = .ok (.newarray .int, 2) := by decide +kernel
theorem dX0_init_31 : decode cX0_init 31 = .ok (.putfield 21, 3) := by decide +kernel
theorem dX0_init_34 : decode cX0_init 34 = .ok (.aload_n 0, 1) := by decide +kernel
theorem dX0_init_35 : decode cX0_init 35 = .ok (.bipush 6, 2) := by decide +kernel
theorem dX0_init_37 : decode cX0_init 37 = .ok (.newarray .int, 2) := by decide +kernel
theorem dX0_init_39 : decode cX0_init 39 = .ok (.putfield 24, 3) := by decide +kernel
theorem dX0_init_42 : decode cX0_init 42 = .ok (.aload_n 0, 1) := by decide +kernel
theorem dX0_init_43 : decode cX0_init 43 = .ok (.bipush 6, 2) := by decide +kernel
theorem dX0_init_45 : decode cX0_init 45 = .ok (.newarray .int, 2) := by decide +kernel
theorem dX0_init_47 : decode cX0_init 47 = .ok (.putfield 27, 3) := by decide +kernel
theorem dX0_init_50 : decode cX0_init 50 = .ok (.aload_n 0, 1) := by decide +kernel
theorem dX0_init_51 : decode cX0_init 51 = .ok (.iconst 1, 1) := by decide +kernel
theorem dX0_init_52 : decode cX0_init 52 = .ok (.putfield 30, 3) := by decide +kernel
theorem dX0_init_55 : decode cX0_init 55 = .ok (.aload_n 0, 1) := by decide +kernel
theorem dX0_init_56 : decode cX0_init 56 = .ok (.bipush 8, 2) := by decide +kernel
theorem dX0_init_58 : decode cX0_init 58 = .ok (.newarray .int, 2) := by decide +kernel
theorem dX0_init_60 : decode cX0_init 60 = .ok (.putfield 34, 3) := by decide +kernel
theorem dX0_init_63 : decode cX0_init 63 = .ok (.aload_n 0, 1) := by decide +kernel
theorem dX0_init_64 : decode cX0_init 64 = .ok (.bipush 8, 2) := by decide +kernel
theorem dX0_init_66 : decode cX0_init 66 = .ok (.newarray .int, 2) := by decide +kernel
theorem dX0_init_68 : decode cX0_init 68 = .ok (.putfield 37, 3) := by decide +kernel
theorem dX0_init_71 : decode cX0_init 71 = .ok (.aload_n 0, 1) := by decide +kernel
theorem dX0_init_72 : decode cX0_init 72 = .ok (.bipush 8, 2) := by decide +kernel
theorem dX0_init_74 : decode cX0_init 74 = .ok (.newarray .int, 2) := by decide +kernel
theorem dX0_init_76 : decode cX0_init 76 = .ok (.putfield 40, 3) := by decide +kernel
theorem dX0_init_79 : decode cX0_init 79 = .ok (.aload_n 0, 1) := by decide +kernel
theorem dX0_init_80 : decode cX0_init 80 = .ok (.iconst 1, 1) := by decide +kernel
theorem dX0_init_81 : decode cX0_init 81 = .ok (.putfield 43, 3) := by decide +kernel
theorem dX0_init_84 : decode cX0_init 84 = .ok (.return_, 1) := by decide +kernel
theorem dX1_init_0 : decode cX1_init 0 = .ok (.aload_n 0, 1) := by decide +kernel
theorem dX1_init_1 : decode cX1_init 1 = .ok (.invokespecial 3, 3) := by decide +kernel
theorem dX1_init_4 : decode cX1_init 4 = .ok (.aload_n 0, 1) := by decide +kernel
theorem dX1_init_5 : decode cX1_init 5 = .ok (.sipush 1024, 3) := by decide +kernel
theorem dX1_init_8 : decode cX1_init 8 = .ok (.newarray .int, 2) := by decide +kernel
theorem dX1_init_10 : decode cX1_init 10 = .ok (.putfield 9, 3) := by decide +kernel
theorem dX1_init_13 : decode cX1_init 13 = .ok (.aload_n 0, 1) := by decide +kernel
theorem dX1_init_14 : decode cX1_init 14 = .ok (.sipush 10240, 3) := by decide +kernel
theorem dX1_init_17 : decode cX1_init 17 = .ok (.newarray .int, 2) := by decide +kernel
theorem dX1_init_19 : decode cX1_init 19 = .ok (.putfield 15, 3) := by decide +kernel
theorem dX1_init_22 : decode cX1_init 22 = .ok (.aload_n 0, 1) := by decide +kernel
theorem dX1_init_23 : decode cX1_init 23 = .ok (.sipush 1024, 3) := by decide +kernel
theorem dX1_init_26 : decode cX1_init 26 = .ok (.newarray .int, 2) := by decide +kernel
theorem dX1_init_28 : decode cX1_init 28 = .ok (.putfield 18, 3) := by decide +kernel
theorem dX1_init_31 : decode cX1_init 31 = .ok (.aload_n 0, 1) := by decide +kernel
theorem dX1_init_32 : decode cX1_init 32 = .ok (.sipush 1024, 3) := by decide +kernel
theorem dX1_init_35 : decode cX1_init 35 = .ok (.newarray .int, 2) := by decide +kernel
theorem dX1_init_37 : decode cX1_init 37 = .ok (.putfield 21, 3) := by decide +kernel
theorem dX1_init_40 : decode cX1_init 40 = .ok (.aload_n 0, 1) := by decide +kernel
theorem dX1_init_41 : decode cX1_init 41 = .ok (.sipush 1024, 3) := by decide +kernel
theorem dX1_init_44 : decode cX1_init 44 = .ok (.newarray .int, 2) := by decide +kernel
theorem dX1_init_46 : decode cX1_init 46 = .ok (.putfield 24, 3) := by decide +kernel
theorem dX1_init_49 : decode cX1_init 49 = .ok (.aload_n 0, 1) := by decide +kernel
theorem dX1_init_50 : decode cX1_init 50 = .ok (.sipush 1024, 3) := by decide +kernel
theorem dX1_init_53 : decode cX1_init 53 = .ok (.newarray .int, 2) := by decide +kernel
theorem dX1_init_55 : decode cX1_init 55 = .ok (.putfield 27, 3) := by decide +kernel
theorem dX1_init_58 : decode cX1_init 58 = .ok (.aload_n 0, 1) := by decide +kernel
theorem dX1_init_59 : decode cX1_init 59 = .ok (.aload_n 1, 1) := by decide +kernel
theorem dX1_init_60 : decode cX1_init 60 = .ok (.putfield 30, 3) := by decide +kernel
theorem dX1_init_63 : decode cX1_init 63 = .ok (.aload_n 0, 1) := by decide +kernel
theorem dX1_init_64 : decode cX1_init 64 = .ok (.aload_n 2, 1) := by decide +kernel
theorem dX1_init_65 : decode cX1_init 65 = .ok (.putfield 34, 3) := by decide +kernel
theorem dX1_init_68 : decode cX1_init 68 = .ok (.return_, 1) := by decide +kernel
theorem dX2_init_0 : decode cX2_init 0 = .ok (.aload_n 0, 1) := by decide +kernel
theorem dX2_init_1 : decode cX2_init 1 = .ok (.invokespecial 3, 3) := by decide +kernel
theorem dX2_init_4 : decode cX2_init 4 = .ok (.aload_n 0, 1) := by decide +kernel
theorem dX2_init_5 : decode cX2_init 5 = .ok (.bipush 24, 2) := by decide +kernel
theorem dX2_init_7 : decode cX2_init 7 = .ok (.newarray .long, 2) := by decide +kernel
theorem dX2_init_9 : decode cX2_init 9 = .ok (.putfield 9, 3) := by decide +kernel
theorem dX2_init_12 : decode cX2_init 12 = .ok (.return_, 1) := by decide +kernel
theorem dX3_init_0 : decode cX3_init 0 = .ok (.aload_n 0, 1) := by decide +kernel
theorem dX3_init_1 : decode cX3_init 1 = .ok (.invokespecial 3, 3) := by decide +kernel
theorem dX3_init_4 : decode cX3_init 4 = .ok (.aload_n 0, 1) := by decide +kernel
theorem dX3_init_5 : decode cX3_init 5 = .ok (.bipush 90, 2) := by decide +kernel
theorem dX3_init_7 : decode cX3_init 7 = .ok (.newarray .char, 2) := by decide +kernel
theorem dX3_init_9 : decode cX3_init 9 = .ok (.putfield 9, 3) := by decide +kernel
theorem dX3_init_12 : decode cX3_init 12 = .ok (.return_, 1) := by decide +kernel
theorem dX4_init_0 : decode cX4_init 0 = .ok (.aload_n 0, 1) := by decide +kernel
theorem dX4_init_1 : decode cX4_init 1 = .ok (.invokespecial 3, 3) := by decide +kernel
theorem dX4_init_4 : decode cX4_init 4 = .ok (.aload_n 0, 1) := by decide +kernel
theorem dX4_init_5 : decode cX4_init 5 = .ok (.sipush 10240, 3) := by decide +kernel
theorem dX4_init_8 : decode cX4_init 8 = .ok (.newarray .int, 2) := by decide +kernel
theorem dX4_init_10 : decode cX4_init 10 = .ok (.putfield 9, 3) := by decide +kernel
theorem dX4_init_13 : decode cX4_init 13 = .ok (.aload_n 0, 1) := by decide +kernel
theorem dX4_init_14 : decode cX4_init 14 = .ok (.sipush 10240, 3) := by decide +kernel
theorem dX4_init_17 : decode cX4_init 17 = .ok (.newarray .int, 2) := by decide +kernel
theorem dX4_init_19 : decode cX4_init 19 = .ok (.putfield 15, 3) := by decide +kernel
theorem dX4_init_22 : decode cX4_init 22 = .ok (.aload_n 0, 1) := by decide +kernel
theorem dX4_init_23 : decode cX4_init 23 = .ok (.sipush 1024, 3) := by decide +kernel
theorem dX4_init_26 : decode cX4_init 26 = .ok (.newarray .int, 2) := by decide +kernel
theorem dX4_init_28 : decode cX4_init 28 = .ok (.putfield 18, 3) := by decide +kernel
theorem dX4_init_31 : decode cX4_init 31 = .ok (.aload_n 0, 1) := by decide +kernel
theorem dX4_init_32 : decode cX4_init 32 = .ok (.sipush 1024, 3) := by decide +kernel
theorem dX4_init_35 : decode cX4_init 35 = .ok (.newarray .int, 2) := by decide +kernel
theorem dX4_init_37 : decode cX4_init 37 = .ok (.putfield 21, 3) := by decide +kernel
theorem dX4_init_40 : decode cX4_init 40 = .ok (.aload_n 0, 1) := by decide +kernel
theorem dX4_init_41 : decode cX4_init 41 = .ok (.sipush 1024, 3) := by decide +kernel
theorem dX4_init_44 : decode cX4_init 44 = .ok (.newarray .int, 2) := by decide +kernel
theorem dX4_init_46 : decode cX4_init 46 = .ok (.putfield 24, 3) := by decide +kernel
theorem dX4_init_49 : decode cX4_init 49 = .ok (.aload_n 0, 1) := by decide +kernel
theorem dX4_init_50 : decode cX4_init 50 = .ok (.sipush 1024, 3) := by decide +kernel
theorem dX4_init_53 : decode cX4_init 53 = .ok (.newarray .int, 2) := by decide +kernel
theorem dX4_init_55 : decode cX4_init 55 = .ok (.putfield 27, 3) := by decide +kernel
theorem dX4_init_58 : decode cX4_init 58 = .ok (.aload_n 0, 1) := by decide +kernel
theorem dX4_init_59 : decode cX4_init 59 = .ok (.sipush 1024, 3) := by decide +kernel
theorem dX4_init_62 : decode cX4_init 62 = .ok (.newarray .int, 2) := by decide +kernel
theorem dX4_init_64 : decode cX4_init 64 = .ok (.putfield 30, 3) := by decide +kernel
theorem dX4_init_67 : decode cX4_init 67 = .ok (.aload_n 0, 1) := by decide +kernel
theorem dX4_init_68 : decode cX4_init 68 = .ok (.aload_n 1, 1) := by decide +kernel
theorem dX4_init_69 : decode cX4_init 69 = .ok (.putfield 33, 3) := by decide +kernel
theorem dX4_init_72 : decode cX4_init 72 = .ok (.return_, 1) := by decide +kernel
theorem dX5_init_0 : decode cX5_init 0 = .ok (.aload_n 0, 1) := by decide +kernel
theorem dX5_init_1 : decode cX5_init 1 = .ok (.invokespecial 1, 3) := by decide +kernel
theorem dX5_init_4 : decode cX5_init 4 = .ok (.aload_n 0, 1) := by decide +kernel
theorem dX5_init_5 : decode cX5_init 5 = .ok (.new 7, 3) := by decide +kernel
theorem dX5_init_8 : decode cX5_init 8 = .ok (.dup, 1) := by decide +kernel
theorem dX5_init_9 : decode cX5_init 9 = .ok (.invokespecial 9, 3) := by decide +kernel
theorem dX5_init_12 : decode cX5_init 12 = .ok (.putfield 10, 3) := by decide +kernel
theorem dX5_init_15 : decode cX5_init 15 = .ok (.aload_n 0, 1) := by decide +kernel
theorem dX5_init_16 : decode cX5_init 16 = .ok (.new 7, 3) := by decide +kernel
theorem dX5_init_19 : decode cX5_init 19 = .ok (.dup, 1) := by decide +kernel
theorem dX5_init_20 : decode cX5_init 20 = .ok (.invokespecial 9, 3) := by decide +kernel
theorem dX5_init_23 : decode cX5_init 23 = .ok (.putfield 16, 3) := by decide +kernel
theorem dX5_init_26 : decode cX5_init 26 = .ok (.aload_n 0, 1) := by decide +kernel
theorem dX5_init_27 : decode cX5_init 27 = .ok (.new 7, 3) := by decide +kernel
theorem dX5_init_30 : decode cX5_init 30 = .ok (.dup, 1) := by decide +kernel
theorem dX5_init_31 : decode cX5_init 31 = .ok (.invokespecial 9, 3) := by decide +kernel
theorem dX5_init_34 : decode cX5_init 34 = .ok (.putfield 19, 3) := by decide +kernel
theorem dX5_init_37 : decode cX5_init 37 = .ok (.aload_n 0, 1) := by decide +kernel
theorem dX5_init_38 : decode cX5_init 38 = .ok (.new 22, 3) := by decide +kernel
theorem dX5_init_41 : decode cX5_init 41 = .ok (.dup, 1) := by decide +kernel
theorem dX5_init_42 : decode cX5_init 42 = .ok (.invokespecial 24, 3) := by decide +kernel
theorem dX5_init_45 : decode cX5_init 45 = .ok (.putfield 25, 3) := by decide +kernel
theorem dX5_init_48 : decode cX5_init 48 = .ok (.aload_n 0, 1) := by decide +kernel
theorem dX5_init_49 : decode cX5_init 49 = .ok (.new 29, 3) := by decide +kernel
theorem dX5_init_52 : decode cX5_init 52 = .ok (.dup, 1) := by decide +kernel
theorem dX5_init_53 : decode cX5_init 53 = .ok (.aload_n 0, 1) := by decide +kernel
theorem dX5_init_54 : decode cX5_init 54 = .ok (.getfield 10, 3) := by decide +kernel
theorem dX5_init_57 : decode cX5_init 57 = .ok (.invokespecial 31, 3) := by decide +kernel
theorem dX5_init_60 : decode cX5_init 60 = .ok (.putfield 34, 3) := by decide +kernel
theorem dX5_init_63 : decode cX5_init 63 = .ok (.aload_n 0, 1) := by decide +kernel
theorem dX5_init_64 : decode cX5_init 64 = .ok (.new 38, 3) := by decide +kernel
theorem dX5_init_67 : decode cX5_init 67 = .ok (.dup, 1) := by decide +kernel
theorem dX5_init_68 : decode cX5_init 68 = .ok (.aload_n 0, 1) := by decide +kernel
theorem dX5_init_69 : decode cX5_init 69 = .ok (.getfield 10, 3) := by decide +kernel
theorem dX5_init_72 : decode cX5_init 72 = .ok (.aload_n 0, 1) := by decide +kernel
theorem dX5_init_73 : decode cX5_init 73 = .ok (.getfield 34, 3) := by decide +kernel
theorem dX5_init_76 : decode cX5_init 76 = .ok (.invokespecial 40, 3) := by decide +kernel
theorem dX5_init_79 : decode cX5_init 79 = .ok (.putfield 43, 3) := by decide +kernel
theorem dX5_init_82 : decode cX5_init 82 = .ok (.aload_n 0, 1) := by decide +kernel
theorem dX5_init_83 : decode cX5_init 83 = .ok (.iconst 4, 1) := by decide +kernel
theorem dX5_init_84 : decode cX5_init 84 = .ok (.anewarray 47, 3) := by decide +kernel
theorem dX5_init_87 : decode cX5_init 87 = .ok (.dup, 1) := by decide +kernel
theorem dX5_init_88 : decode cX5_init 88 = .ok (.iconst 0, 1) := by decide +kernel
theorem dX5_init_89 : decode cX5_init 89 = .ok (.new 47, 3) := by decide +kernel
theorem dX5_init_92 : decode cX5_init 92 = .ok (.dup, 1) := by decide +kernel
theorem dX5_init_93 : decode cX5_init 93 = .ok (.invokespecial 49, 3) := by decide +kernel
theorem dX5_init_96 : decode cX5_init 96 = .ok (.aastore, 1) := by decide +kernel
theorem dX5_init_97 : decode cX5_init 97 = .ok (.dup, 1) := by decide +kernel
theorem dX5_init_98 : decode cX5_init 98 = .ok (.iconst 1, 1) := by decide +kernel
theorem dX5_init_99 : decode cX5_init 99 = .ok (.new 47, 3) := by decide +kernel
theorem dX5_init_102 : decode cX5_init 102 = .ok (.dup, 1) := by decide +kernel
theorem dX5_init_103 : decode cX5_init 103 = .ok (.invokespecial 49, 3) := by decide +kernel
theorem dX5_init_106 : decode cX5_init 106 = .ok (.aastore, 1) := by decide +kernel
theorem dX5_init_107 : decode cX5_init 107 = .ok (.dup, 1) := by decide +kernel
theorem dX5_init_108 : decode cX5_init 108 = .ok (.iconst 2, 1) := by decide +kernel
theorem dX5_init_109 : decode cX5_init 109 = .ok (.new 47, 3) := by decide +kernel
theorem dX5_init_112 : decode cX5_init 112 = .ok (.dup, 1) := by decide +kernel
theorem dX5_init_113 : decode cX5_init 113 = .ok (.invokespecial 49, 3) := by decide +kernel
theorem dX5_init_116 : decode cX5_init 116 = .ok (.aastore, 1) := by decide +kernel
theorem dX5_init_117 : decode cX5_init 117 = .ok (.dup, 1) := by decide +kernel
theorem dX5_init_118 : decode cX5_init 118 = .ok (.iconst 3, 1) := by decide +kernel
theorem dX5_init_119 : decode cX5_init 119 = .ok (.new 47, 3) := by decide +kernel
theorem dX5_init_122 : decode cX5_init 122 = .ok (.dup, 1) := by decide +kernel
theorem dX5_init_123 : decode cX5_init 123 = .ok (.invokespecial 49, 3) := by decide +kernel
theorem dX5_init_126 : decode cX5_init 126 = .ok (.aastore, 1) := by decide +kernel
theorem dX5_init_127 : decode cX5_init 127 = .ok (.putfield 50, 3) := by decide +kernel
theorem dX5_init_130 : decode cX5_init 130 = .ok (.return_, 1) := by decide +kernel
def w_X0 (cA : Nat → ClassId) (h0 : Nat) (qs : Nat → Nat) : va_W := [(h0, .inr (0, [.ref (qs 0), .ref (qs 1), .int 0, .ref (qs 2), .ref (qs 3), .ref (qs 4), .ref (qs 5), .int 0, .int 0, .int 0, .int 0, .int 1, .ref (qs 6), .ref (qs 7), .ref (qs 8), .int 0, .int 0, .int 1])), ((qs 0), .inl (cA 0, 5, .inl (fun _ => 0))), ((qs 1), .inl (cA 0, 5, .inl (fun _ => 0))), ((qs 2), .inl (cA 0, 6, .inl (fun _ => 0))), ((qs 3), .inl (cA 0, 6, .inl (fun _ => 0))), ((qs 4), .inl (cA 0, 6, .inl (fun _ => 0))), ((qs 5), .inl (cA 0, 6, .inl (fun _ => 0))), ((qs 6), .inl (cA 0, 8, .inl (fun _ => 0))), ((qs 7), .inl (cA 0, 8, .inl (fun _ => 0))), ((qs 8), .inl (cA 0, 8, .inl (fun _ => 0)))]
abbrev z_X0 : List Value := [.null, .null, .int 0, .null, .null, .null, .null, .int 0, .int 0, .int 0, .int 0, .int 0, .null, .null, .null, .int 0, .int 0, .int 0]
set_option maxHeartbeats 4000000 in
theorem k_X0 (l : Launch) (D : va_G) (cA : Nat → ClassId) (h0 : Nat) : Cto l D cA yX0_init cX0_init 1 1 9 58 [.ref h0] [(h0, .inr (0, z_X0))] (fun _ => True) (w_X0 cA h0) := by
  refine Cto_of (by decide +kernel) rfl (show (1:Nat) ≤ 1 from Nat.le_refl 1) ?_
  intro p e R s m args below meth c ls A hx hb hml hr hlk hin hown hts hK hE hR hl hA hP hD
  subst hR
  have hS : va_S A s.heap s.heap [] := va_S.rf
  refine st_obj hx hb hml hown hts (lv_at hl 0 rfl) (good_at (i := 51) (by decide +kernel) rfl) ⟨(Nat.le_of_ble_eq_true rfl), (Nat.le_of_ble_eq_true rfl)⟩ dX0_init_0 dX0_init_1 ?_
  refine st_na (ci := 0) (C := RX0) (T := TX0) (N := 18) (at9 := .int) (ty := .int) (t := 0) (c0 := cA 0) (n := 5) (N' := 5) (a0 := (5, .inl (fun _ => 0))) hx hb hts hown hin hK hP hD hS hA (lv_at hl 0 rfl) rfl rfl (good_at (i := 125) (by decide +kernel) rfl) rfl (fun _ h => h) (fun _ => rfl) (by decide +kernel) (by decide +kernel) (Nat.le_of_ble_eq_true rfl) (Nat.le_of_ble_eq_true rfl) (Nat.le_of_ble_eq_true rfl) 0 (by decide) (good_at (i := 52) (by decide +kernel) rfl) rfl (tyX0_ok _ (by decide)) (fun _ => rfl) (fun _ => rfl) (Nat.le_of_ble_eq_true rfl) dX0_init_4 (fun _ k => lv_iconst hx hb dX0_init_5 (by decide) k) dX0_init_6 dX0_init_8 (fun q0 H locs hP hD hS => ?_)
  have hP : va_P D vwCl [(h0, .inr (0, [.ref q0, .null, .int 0, .null, .null, .null, .null, .int 0, .int 0, .int 0, .int 0, .int 0, .null, .null, .null, .int 0, .int 0, .int 0])), (q0, .inl (cA 0, 5, .inl (fun _ => 0)))] H := hP
  have hD : va_D A [(h0, .inr (0, [.ref q0, .null, .int 0, .null, .null, .null, .null, .int 0, .int 0, .int 0, .int 0, .int 0, .null, .null, .null, .int 0, .int 0, .int 0])), (q0, .inl (cA 0, 5, .inl (fun _ => 0)))] := hD
  refine st_na (ci := 0) (C := RX0) (T := TX0) (N := 18) (at9 := .int) (ty := .int) (t := 0) (c0 := cA 0) (n := 5) (N' := 5) (a0 := (5, .inl (fun _ => 0))) hx hb hts hown hin hK hP hD hS hA (lv_at hl 0 rfl) rfl rfl (good_at (i := 125) (by decide +kernel) rfl) rfl (fun _ h => h) (fun _ => rfl) (by decide +kernel) (by decide +kernel) (Nat.le_of_ble_eq_true rfl) (Nat.le_of_ble_eq_true rfl) (Nat.le_of_ble_eq_true rfl) 1 (by decide) (good_at (i := 54) (by decide +kernel) rfl) rfl (tyX0_ok _ (by decide)) (fun _ => rfl) (fun _ => rfl) (Nat.le_of_ble_eq_true rfl) dX0_init_11 (fun _ k => lv_iconst hx hb dX0_init_12 (by decide) k) dX0_init_13 dX0_init_15 (fun q1 H locs hP hD hS => ?_)
  have hP : va_P D vwCl [(h0, .inr (0, [.ref q0, .ref q1, .int 0, .null, .null, .null, .null, .int 0, .int 0, .int 0, .int 0, .int 0, .null, .null, .null, .int 0, .int 0, .int 0])), (q0, .inl (cA 0, 5, .inl (fun _ => 0))), (q1, .inl (cA 0, 5, .inl (fun _ => 0)))] H := hP
  have hD : va_D A [(h0, .inr (0, [.ref q0, .ref q1, .int 0, .null, .null, .null, .null, .int 0, .int 0, .int 0, .int 0, .int 0, .null, .null, .null, .int 0, .int 0, .int 0])), (q0, .inl (cA 0, 5, .inl (fun _ => 0))), (q1, .inl (cA 0, 5, .inl (fun _ => 0)))] := hD
  refine st_na (ci := 0) (C := RX0) (T := TX0) (N := 18) (at9 := .int) (ty := .int) (t := 0) (c0 := cA 0) (n := 6) (N' := 6) (a0 := (6, .inl (fun _ => 0))) hx hb hts hown hin hK hP hD hS hA (lv_at hl 0 rfl) rfl rfl (good_at (i := 125) (by decide +kernel) rfl) rfl (fun _ h => h) (fun _ => rfl) (by decide +kernel) (by decide +kernel) (Nat.le_of_ble_eq_true rfl) (Nat.le_of_ble_eq_true rfl) (Nat.le_of_ble_eq_true rfl) 3 (by decide) (good_at (i := 61) (by decide +kernel) rfl) rfl (tyX0_ok _ (by decide)) (fun _ => rfl) (fun _ => rfl) (Nat.le_of_ble_eq_true rfl) dX0_init_18 (fun _ k => lv_bipush hx hb dX0_init_19 (by decide) k) dX0_init_21 dX0_init_23 (fun q2 H locs hP hD hS => ?_)
  have hP : va_P D vwCl [(h0, .inr (0, [.ref q0, .ref q1, .int 0, .ref q2, .null, .null, .null, .int 0, .int 0, .int 0, .int 0, .int 0, .null, .null, .null, .int 0, .int 0, .int 0])), (q0, .inl (cA 0, 5, .inl (fun _ => 0))), (q1, .inl (cA 0, 5, .inl (fun _ => 0))), (q2, .inl (cA 0, 6, .inl (fun _ => 0)))] H := hP
  have hD : va_D A [(h0, .inr (0, [.ref q0, .ref q1, .int 0, .ref q2, .null, .null, .null, .int 0, .int 0, .int 0, .int 0, .int 0, .null, .null, .null, .int 0, .int 0, .int 0])), (q0, .inl (cA 0, 5, .inl (fun _ => 0))), (q1, .inl (cA 0, 5, .inl (fun _ => 0))), (q2, .inl (cA 0, 6, .inl (fun _ => 0)))] := hD
  refine st_na (ci := 0) (C := RX0) (T := TX0) (N := 18) (at9 := .int) (ty := .int) (t := 0) (c0 := cA 0) (n := 6) (N' := 6) (a0 := (6, .inl (fun _ => 0))) hx hb hts hown hin hK hP hD hS hA (lv_at hl 0 rfl) rfl rfl (good_at (i := 125) (by decide +kernel) rfl) rfl (fun _ h => h) (fun _ => rfl) (by decide +kernel) (by decide +kernel) (Nat.le_of_ble_eq_true rfl) (Nat.le_of_ble_eq_true rfl) (Nat.le_of_ble_eq_true rfl) 4 (by decide) (good_at (i := 63) (by decide +kernel) rfl) rfl (tyX0_ok _ (by decide)) (fun _ => rfl) (fun _ => rfl) (Nat.le_of_ble_eq_true rfl) dX0_init_26 (fun _ k => lv_bipush hx hb dX0_init_27 (by decide) k) dX0_init_29 dX0_init_31 (fun q3 H locs hP hD hS => ?_)
  have hP : va_P D vwCl [(h0, .inr (0, [.ref q0, .ref q1, .int 0, .ref q2, .ref q3, .null, .null, .int 0, .int 0, .int 0, .int 0, .int 0, .null, .null, .null, .int 0, .int 0, .int 0])), (q0, .inl (cA 0, 5, .inl (fun _ => 0))), (q1, .inl (cA 0, 5, .inl (fun _ => 0))), (q2, .inl (cA 0, 6, .inl (fun _ => 0))), (q3, .inl (cA 0, 6, .inl (fun _ => 0)))] H := hP
  have hD : va_D A [(h0, .inr (0, [.ref q0, .ref q1, .int 0, .ref q2, .ref q3, .null, .null, .int 0, .int 0, .int 0, .int 0, .int 0, .null, .null, .null, .int 0, .int 0, .int 0])), (q0, .inl (cA 0, 5, .inl (fun _ => 0))), (q1, .inl (cA 0, 5, .inl (fun _ => 0))), (q2, .inl (cA 0, 6, .inl (fun _ => 0))), (q3, .inl (cA 0, 6, .inl (fun _ => 0)))] := hD
  refine st_na (ci := 0) (C := RX0) (T := TX0) (N := 18) (at9 := .int) (ty := .int) (t := 0) (c0 := cA 0) (n := 6) (N' := 6) (a0 := (6, .inl (fun _ => 0))) hx hb hts hown hin hK hP hD hS hA (lv_at hl 0 rfl) rfl rfl (good_at (i := 125) (by decide +kernel) rfl) rfl (fun _ h => h) (fun _ => rfl) (by decide +kernel) (by decide +kernel) (Nat.le_of_ble_eq_true rfl) (Nat.le_of_ble_eq_true rfl) (Nat.le_of_ble_eq_true rfl) 5 (by decide) (good_at (i := 65) (by decide +kernel) rfl) rfl (tyX0_ok _ (by decide)) (fun _ => rfl) (fun _ => rfl) (Nat.le_of_ble_eq_true rfl) dX0_init_34 (fun _ k => lv_bipush hx hb dX0_init_35 (by decide) k) dX0_init_37 dX0_init_39 (fun q4 H locs hP hD hS => ?_)
  have hP : va_P D vwCl [(h0, .inr (0, [.ref q0, .ref q1, .int 0, .ref q2, .ref q3, .ref q4, .null, .int 0, .int 0, .int 0, .int 0, .int 0, .null, .null, .null, .int 0, .int 0, .int 0])), (q0, .inl (cA 0, 5, .inl (fun _ => 0))), (q1, .inl (cA 0, 5, .inl (fun _ => 0))), (q2, .inl (cA 0, 6, .inl (fun _ => 0))), (q3, .inl (cA 0, 6, .inl (fun _ => 0))), (q4, .inl (cA 0, 6, .inl (fun _ => 0)))] H := hP
  have hD : va_D A [(h0, .inr (0, [.ref q0, .ref q1, .int 0, .ref q2, .ref q3, .ref q4, .null, .int 0, .int 0, .int 0, .int 0, .int 0, .null, .null, .null, .int 0, .int 0, .int 0])), (q0, .inl (cA 0, 5, .inl (fun _ => 0))), (q1, .inl (cA 0, 5, .inl (fun _ => 0))), (q2, .inl (cA 0, 6, .inl (fun _ => 0))), (q3, .inl (cA 0, 6, .inl (fun _ => 0))), (q4, .inl (cA 0, 6, .inl (fun _ => 0)))] := hD
  refine st_na (ci := 0) (C := RX0) (T := TX0) (N := 18) (at9 := .int) (ty := .int) (t := 0) (c0 := cA 0) (n := 6) (N' := 6) (a0 := (6, .inl (fun _ => 0))) hx hb hts hown hin hK hP hD hS hA (lv_at hl 0 rfl) rfl rfl (good_at (i := 125) (by decide +kernel) rfl) rfl (fun _ h => h) (fun _ => rfl) (by decide +kernel) (by decide +kernel) (Nat.le_of_ble_eq_true rfl) (Nat.le_of_ble_eq_true rfl) (Nat.le_of_ble_eq_true rfl) 6 (by decide) (good_at (i := 67) (by decide +kernel) rfl) rfl (tyX0_ok _ (by decide)) (fun _ => rfl) (fun _ => rfl) (Nat.le_of_ble_eq_true rfl) dX0_init_42 (fun _ k => lv_bipush hx hb dX0_init_43 (by decide) k) dX0_init_45 dX0_init_47 (fun q5 H locs hP hD hS => ?_)
  have hP : va_P D vwCl [(h0, .inr (0, [.ref q0, .ref q1, .int 0, .ref q2, .ref q3, .ref q4, .ref q5, .int 0, .int 0, .int 0, .int 0, .int 0, .null, .null, .null, .int 0, .int 0, .int 0])), (q0, .inl (cA 0, 5, .inl (fun _ => 0))), (q1, .inl (cA 0, 5, .inl (fun _ => 0))), (q2, .inl (cA 0, 6, .inl (fun _ => 0))), (q3, .inl (cA 0, 6, .inl (fun _ => 0))), (q4, .inl (cA 0, 6, .inl (fun _ => 0))), (q5, .inl (cA 0, 6, .inl (fun _ => 0)))] H := hP
  have hD : va_D A [(h0, .inr (0, [.ref q0, .ref q1, .int 0, .ref q2, .ref q3, .ref q4, .ref q5, .int 0, .int 0, .int 0, .int 0, .int 0, .null, .null, .null, .int 0, .int 0, .int 0])), (q0, .inl (cA 0, 5, .inl (fun _ => 0))), (q1, .inl (cA 0, 5, .inl (fun _ => 0))), (q2, .inl (cA 0, 6, .inl (fun _ => 0))), (q3, .inl (cA 0, 6, .inl (fun _ => 0))), (q4, .inl (cA 0, 6, .inl (fun _ => 0))), (q5, .inl (cA 0, 6, .inl (fun _ => 0)))] := hD
  refine lv_aload_n hx hb dX0_init_50 rfl (lv_at hl 0 rfl) ?_
  refine lv_iconst (v := 1) hx hb dX0_init_51 (by decide) ?_
  refine st_put (ci := 0) (C := RX0) (T := TX0) (N := 18) hx hb hts hown hin hK hP hD hS rfl 11 (by decide) (good_at (i := 78) (by decide +kernel) rfl) rfl (tyX0_ok _ (by decide)) (by decide +kernel) rfl (Nat.le_of_ble_eq_true rfl) dX0_init_52 (fun H locs hP hD hS => ?_)
  have hP : va_P D vwCl [(h0, .inr (0, [.ref q0, .ref q1, .int 0, .ref q2, .ref q3, .ref q4, .ref q5, .int 0, .int 0, .int 0, .int 0, .int 1, .null, .null, .null, .int 0, .int 0, .int 0])), (q0, .inl (cA 0, 5, .inl (fun _ => 0))), (q1, .inl (cA 0, 5, .inl (fun _ => 0))), (q2, .inl (cA 0, 6, .inl (fun _ => 0))), (q3, .inl (cA 0, 6, .inl (fun _ => 0))), (q4, .inl (cA 0, 6, .inl (fun _ => 0))), (q5, .inl (cA 0, 6, .inl (fun _ => 0)))] H := hP
  have hD : va_D A [(h0, .inr (0, [.ref q0, .ref q1, .int 0, .ref q2, .ref q3, .ref q4, .ref q5, .int 0, .int 0, .int 0, .int 0, .int 1, .null, .null, .null, .int 0, .int 0, .int 0])), (q0, .inl (cA 0, 5, .inl (fun _ => 0))), (q1, .inl (cA 0, 5, .inl (fun _ => 0))), (q2, .inl (cA 0, 6, .inl (fun _ => 0))), (q3, .inl (cA 0, 6, .inl (fun _ => 0))), (q4, .inl (cA 0, 6, .inl (fun _ => 0))), (q5, .inl (cA 0, 6, .inl (fun _ => 0)))] := hD
  refine st_na (ci := 0) (C := RX0) (T := TX0) (N := 18) (at9 := .int) (ty := .int) (t := 0) (c0 := cA 0) (n := 8) (N' := 8) (a0 := (8, .inl (fun _ => 0))) hx hb hts hown hin hK hP hD hS hA (lv_at hl 0 rfl) rfl rfl (good_at (i := 125) (by decide +kernel) rfl) rfl (fun _ h => h) (fun _ => rfl) (by decide +kernel) (by decide +kernel) (Nat.le_of_ble_eq_true rfl) (Nat.le_of_ble_eq_true rfl) (Nat.le_of_ble_eq_true rfl) 12 (by decide) (good_at (i := 80) (by decide +kernel) rfl) rfl (tyX0_ok _ (by decide)) (fun _ => rfl) (fun _ => rfl) (Nat.le_of_ble_eq_true rfl) dX0_init_55 (fun _ k => lv_bipush hx hb dX0_init_56 (by decide) k) dX0_init_58 dX0_init_60 (fun q6 H locs hP hD hS => ?_)
  have hP : va_P D vwCl [(h0, .inr (0, [.ref q0, .ref q1, .int 0, .ref q2, .ref q3, .ref q4, .ref q5, .int 0, .int 0, .int 0, .int 0, .int 1, .ref q6, .null, .null, .int 0, .int 0, .int 0])), (q0, .inl (cA 0, 5, .inl (fun _ => 0))), (q1, .inl (cA 0, 5, .inl (fun _ => 0))), (q2, .inl (cA 0, 6, .inl (fun _ => 0))), (q3, .inl (cA 0, 6, .inl (fun _ => 0))), (q4, .inl (cA 0, 6, .inl (fun _ => 0))), (q5, .inl (cA 0, 6, .inl (fun _ => 0))), (q6, .inl (cA 0, 8, .inl (fun _ => 0)))] H := hP
  have hD : va_D A [(h0, .inr (0, [.ref q0, .ref q1, .int 0, .ref q2, .ref q3, .ref q4, .ref q5, .int 0, .int 0, .int 0, .int 0, .int 1, .ref q6, .null, .null, .int 0, .int 0, .int 0])), (q0, .inl (cA 0, 5, .inl (fun _ => 0))), (q1, .inl (cA 0, 5, .inl (fun _ => 0))), (q2, .inl (cA 0, 6, .inl (fun _ => 0))), (q3, .inl (cA 0, 6, .inl (fun _ => 0))), (q4, .inl (cA 0, 6, .inl (fun _ => 0))), (q5, .inl (cA 0, 6, .inl (fun _ => 0))), (q6, .inl (cA 0, 8, .inl (fun _ => 0)))] := hD
  refine st_na (ci := 0) (C := RX0) (T := TX0) (N := 18) (at9 := .int) (ty := .int) (t := 0) (c0 := cA 0) (n := 8) (N' := 8) (a0 := (8, .inl (fun _ => 0))) hx hb hts hown hin hK hP hD hS hA (lv_at hl 0 rfl) rfl rfl (good_at (i := 125) (by decide +kernel) rfl) rfl (fun _ h => h) (fun _ => rfl) (by decide +kernel) (by decide +kernel) (Nat.le_of_ble_eq_true rfl) (Nat.le_of_ble_eq_true rfl) (Nat.le_of_ble_eq_true rfl) 13 (by decide) (good_at (i := 81) (by decide +kernel) rfl) rfl (tyX0_ok _ (by decide)) (fun _ => rfl) (fun _ => rfl) (Nat.le_of_ble_eq_true rfl) dX0_init_63 (fun _ k => lv_bipush hx hb dX0_init_64 (by decide) k) dX0_init_66 dX0_init_68 (fun q7 H locs hP hD hS => ?_)
  have hP : va_P D vwCl [(h0, .inr (0, [.ref q0, .ref q1, .int 0, .ref q2, .ref q3, .ref q4, .ref q5, .int 0, .int 0, .int 0, .int 0, .int 1, .ref q6, .ref q7, .null, .int 0, .int 0, .int 0])), (q0, .inl (cA 0, 5, .inl (fun _ => 0))), (q1, .inl (cA 0, 5, .inl (fun _ => 0))), (q2, .inl (cA 0, 6, .inl (fun _ => 0))), (q3, .inl (cA 0, 6, .inl (fun _ => 0))), (q4, .inl (cA 0, 6, .inl (fun _ => 0))), (q5, .inl (cA 0, 6, .inl (fun _ => 0))), (q6, .inl (cA 0, 8, .inl (fun _ => 0))), (q7, .inl (cA 0, 8, .inl (fun _ => 0)))] H := hP
  have hD : va_D A [(h0, .inr (0, [.ref q0, .ref q1, .int 0, .ref q2, .ref q3, .ref q4, .ref q5, .int 0, .int 0, .int 0, .int 0, .int 1, .ref q6, .ref q7, .null, .int 0, .int 0, .int 0])), (q0, .inl (cA 0, 5, .inl (fun _ => 0))), (q1, .inl (cA 0, 5, .inl (fun _ => 0))), (q2, .inl (cA 0, 6, .inl (fun _ => 0))), (q3, .inl (cA 0, 6, .inl (fun _ => 0))), (q4, .inl (cA 0, 6, .inl (fun _ => 0))), (q5, .inl (cA 0, 6, .inl (fun _ => 0))), (q6, .inl (cA 0, 8, .inl (fun _ => 0))), (q7, .inl (cA 0, 8, .inl (fun _ => 0)))] := hD
  refine st_na (ci := 0) (C := RX0) (T := TX0) (N := 18) (at9 := .int) (ty := .int) (t := 0) (c0 := cA 0) (n := 8) (N' := 8) (a0 := (8, .inl (fun _ => 0))) hx hb hts hown hin hK hP hD hS hA (lv_at hl 0 rfl) rfl rfl (good_at (i := 125) (by decide +kernel) rfl) rfl (fun _ h => h) (fun _ => rfl) (by decide +kernel) (by decide +kernel) (Nat.le_of_ble_eq_true rfl) (Nat.le_of_ble_eq_true rfl) (Nat.le_of_ble_eq_true rfl) 14 (by decide) (good_at (i := 82) (by decide +kernel) rfl) rfl (tyX0_ok _ (by decide)) (fun _ => rfl) (fun _ => rfl) (Nat.le_of_ble_eq_true rfl) dX0_init_71 (fun _ k => lv_bipush hx hb dX0_init_72 (by decide) k) dX0_init_74 dX0_init_76 (fun q8 H locs hP hD hS => ?_)
  have hP : va_P D vwCl [(h0, .inr (0, [.ref q0, .ref q1, .int 0, .ref q2, .ref q3, .ref q4, .ref q5, .int 0, .int 0, .int 0, .int 0, .int 1, .ref q6, .ref q7, .ref q8, .int 0, .int 0, .int 0])), (q0, .inl (cA 0, 5, .inl (fun _ => 0))), (q1, .inl (cA 0, 5, .inl (fun _ => 0))), (q2, .inl (cA 0, 6, .inl (fun _ => 0))), (q3, .inl (cA 0, 6, .inl (fun _ => 0))), (q4, .inl (cA 0, 6, .inl (fun _ => 0))), (q5, .inl (cA 0, 6, .inl (fun _ => 0))), (q6, .inl (cA 0, 8, .inl (fun _ => 0))), (q7, .inl (cA 0, 8, .inl (fun _ => 0))), (q8, .inl (cA 0, 8, .inl (fun _ => 0)))] H := hP
  have hD : va_D A [(h0, .inr (0, [.ref q0, .ref q1, .int 0, .ref q2, .ref q3, .ref q4, .ref q5, .int 0, .int 0, .int 0, .int 0, .int 1, .ref q6, .ref q7, .ref q8, .int 0, .int 0, .int 0])), (q0, .inl (cA 0, 5, .inl (fun _ => 0))), (q1, .inl (cA 0, 5, .inl (fun _ => 0))), (q2, .inl (cA 0, 6, .inl (fun _ => 0))), (q3, .inl (cA 0, 6, .inl (fun _ => 0))), (q4, .inl (cA 0, 6, .inl (fun _ => 0))), (q5, .inl (cA 0, 6, .inl (fun _ => 0))), (q6, .inl (cA 0, 8, .inl (fun _ => 0))), (q7, .inl (cA 0, 8, .inl (fun _ => 0))), (q8, .inl (cA 0, 8, .inl (fun _ => 0)))] := hD
  refine lv_aload_n hx hb dX0_init_79 rfl (lv_at hl 0 rfl) ?_
  refine lv_iconst (v := 1) hx hb dX0_init_80 (by decide) ?_
  refine st_put (ci := 0) (C := RX0) (T := TX0) (N := 18) hx hb hts hown hin hK hP hD hS rfl 17 (by decide) (good_at (i := 86) (by decide +kernel) rfl) rfl (tyX0_ok _ (by decide)) (by decide +kernel) rfl (Nat.le_of_ble_eq_true rfl) dX0_init_81 (fun H locs hP hD hS => ?_)
  have hP : va_P D vwCl [(h0, .inr (0, [.ref q0, .ref q1, .int 0, .ref q2, .ref q3, .ref q4, .ref q5, .int 0, .int 0, .int 0, .int 0, .int 1, .ref q6, .ref q7, .ref q8, .int 0, .int 0, .int 1])), (q0, .inl (cA 0, 5, .inl (fun _ => 0))), (q1, .inl (cA 0, 5, .inl (fun _ => 0))), (q2, .inl (cA 0, 6, .inl (fun _ => 0))), (q3, .inl (cA 0, 6, .inl (fun _ => 0))), (q4, .inl (cA 0, 6, .inl (fun _ => 0))), (q5, .inl (cA 0, 6, .inl (fun _ => 0))), (q6, .inl (cA 0, 8, .inl (fun _ => 0))), (q7, .inl (cA 0, 8, .inl (fun _ => 0))), (q8, .inl (cA 0, 8, .inl (fun _ => 0)))] H := hP
  have hD : va_D A [(h0, .inr (0, [.ref q0, .ref q1, .int 0, .ref q2, .ref q3, .ref q4, .ref q5, .int 0, .int 0, .int 0, .int 0, .int 1, .ref q6, .ref q7, .ref q8, .int 0, .int 0, .int 1])), (q0, .inl (cA 0, 5, .inl (fun _ => 0))), (q1, .inl (cA 0, 5, .inl (fun _ => 0))), (q2, .inl (cA 0, 6, .inl (fun _ => 0))), (q3, .inl (cA 0, 6, .inl (fun _ => 0))), (q4, .inl (cA 0, 6, .inl (fun _ => 0))), (q5, .inl (cA 0, 6, .inl (fun _ => 0))), (q6, .inl (cA 0, 8, .inl (fun _ => 0))), (q7, .inl (cA 0, 8, .inl (fun _ => 0))), (q8, .inl (cA 0, 8, .inl (fun _ => 0)))] := hD
  exact st_ret (wOut := w_X0 cA h0) (qs := fun i => ([q0, q1, q2, q3, q4, q5, q6, q7, q8] : List Nat).getD i 0) hx hb hr hlk hP hD hS (Nat.le_of_ble_eq_true rfl) (Nat.le_of_ble_eq_true rfl) dX0_init_84
def w_X1 (cA : Nat → ClassId) (h0 : Nat) (b1 b2 : Nat) (qs : Nat → Nat) : va_W := [(h0, .inr (1, [.ref b1, .ref b2, .ref (qs 0), .ref (qs 1), .ref (qs 2), .ref (qs 3), .int 0, .ref (qs 4), .ref (qs 5)])), ((qs 0), .inl (cA 0, 1024, .inl (fun _ => 0))), ((qs 1), .inl (cA 0, 10240, .inl (fun _ => 0))), ((qs 2), .inl (cA 0, 1024, .inl (fun _ => 0))), ((qs 3), .inl (cA 0, 1024, .inl (fun _ => 0))), ((qs 4), .inl (cA 0, 1024, .inl (fun _ => 0))), ((qs 5), .inl (cA 0, 1024, .inl (fun _ => 0)))]
abbrev z_X1 : List Value := [.null, .null, .null, .null, .null, .null, .int 0, .null, .null]
set_option maxHeartbeats 4000000 in
theorem k_X1 (l : Launch) (D : va_G) (cA : Nat → ClassId) (h0 : Nat) (b1 b2 : Nat) : Cto l D cA yX1_init cX1_init 3 1 6 15360 [.ref h0, .ref b1, .ref b2] [(h0, .inr (1, z_X1))] (fun _ => True) (w_X1 cA h0 b1 b2) := by
  refine Cto_of (by decide +kernel) rfl (show (3:Nat) ≤ 3 from Nat.le_refl 3) ?_
  intro p e R s m args below meth c ls A hx hb hml hr hlk hin hown hts hK hE hR hl hA hP hD
  subst hR
  have hS : va_S A s.heap s.heap [] := va_S.rf
  refine st_obj hx hb hml hown hts (lv_at hl 0 rfl) (good_at (i := 195) (by decide +kernel) rfl) ⟨(Nat.le_of_ble_eq_true rfl), (Nat.le_of_ble_eq_true rfl)⟩ dX1_init_0 dX1_init_1 ?_
  refine st_na (ci := 1) (C := RX1) (T := TX1) (N := 9) (at9 := .int) (ty := .int) (t := 0) (c0 := cA 0) (n := 1024) (N' := 1024) (a0 := (1024, .inl (fun _ => 0))) hx hb hts hown hin hK hP hD hS hA (lv_at hl 0 rfl) rfl rfl (good_at (i := 125) (by decide +kernel) rfl) rfl (fun _ h => h) (fun _ => rfl) (by decide +kernel) (by decide +kernel) (Nat.le_of_ble_eq_true rfl) (Nat.le_of_ble_eq_true rfl) (Nat.le_of_ble_eq_true rfl) 2 (by decide) (good_at (i := 198) (by decide +kernel) rfl) rfl (tyX1_ok _ (by decide)) (fun _ => rfl) (fun _ => rfl) (Nat.le_of_ble_eq_true rfl) dX1_init_4 (fun _ k => lv_sipush hx hb dX1_init_5 (by decide) k) dX1_init_8 dX1_init_10 (fun q0 H locs hP hD hS => ?_)
  have hP : va_P D vwCl [(h0, .inr (1, [.null, .null, .ref q0, .null, .null, .null, .int 0, .null, .null])), (q0, .inl (cA 0, 1024, .inl (fun _ => 0)))] H := hP
  have hD : va_D A [(h0, .inr (1, [.null, .null, .ref q0, .null, .null, .null, .int 0, .null, .null])), (q0, .inl (cA 0, 1024, .inl (fun _ => 0)))] := hD
  refine st_na (ci := 1) (C := RX1) (T := TX1) (N := 9) (at9 := .int) (ty := .int) (t := 0) (c0 := cA 0) (n := 10240) (N' := 10240) (a0 := (10240, .inl (fun _ => 0))) hx hb hts hown hin hK hP hD hS hA (lv_at hl 0 rfl) rfl rfl (good_at (i := 125) (by decide +kernel) rfl) rfl (fun _ h => h) (fun _ => rfl) (by decide +kernel) (by decide +kernel) (Nat.le_of_ble_eq_true rfl) (Nat.le_of_ble_eq_true rfl) (Nat.le_of_ble_eq_true rfl) 3 (by decide) (good_at (i := 199) (by decide +kernel) rfl) rfl (tyX1_ok _ (by decide)) (fun _ => rfl) (fun _ => rfl) (Nat.le_of_ble_eq_true rfl) dX1_init_13 (fun _ k => lv_sipush hx hb dX1_init_14 (by decide) k) dX1_init_17 dX1_init_19 (fun q1 H locs hP hD hS => ?_)
  have hP : va_P D vwCl [(h0, .inr (1, [.null, .null, .ref q0, .ref q1, .null, .null, .int 0, .null, .null])), (q0, .inl (cA 0, 1024, .inl (fun _ => 0))), (q1, .inl (cA 0, 10240, .inl (fun _ => 0)))] H := hP
  have hD : va_D A [(h0, .inr (1, [.null, .null, .ref q0, .ref q1, .null, .null, .int 0, .null, .null])), (q0, .inl (cA 0, 1024, .inl (fun _ => 0))), (q1, .inl (cA 0, 10240, .inl (fun _ => 0)))] := hD
  refine st_na (ci := 1) (C := RX1) (T := TX1) (N := 9) (at9 := .int) (ty := .int) (t := 0) (c0 := cA 0) (n := 1024) (N' := 1024) (a0 := (1024, .inl (fun _ => 0))) hx hb hts hown hin hK hP hD hS hA (lv_at hl 0 rfl) rfl rfl (good_at (i := 125) (by decide +kernel) rfl) rfl (fun _ h => h) (fun _ => rfl) (by decide +kernel) (by decide +kernel) (Nat.le_of_ble_eq_true rfl) (Nat.le_of_ble_eq_true rfl) (Nat.le_of_ble_eq_true rfl) 4 (by decide) (good_at (i := 200) (by decide +kernel) rfl) rfl (tyX1_ok _ (by decide)) (fun _ => rfl) (fun _ => rfl) (Nat.le_of_ble_eq_true rfl) dX1_init_22 (fun _ k => lv_sipush hx hb dX1_init_23 (by decide) k) dX1_init_26 dX1_init_28 (fun q2 H locs hP hD hS => ?_)
  have hP : va_P D vwCl [(h0, .inr (1, [.null, .null, .ref q0, .ref q1, .ref q2, .null, .int 0, .null, .null])), (q0, .inl (cA 0, 1024, .inl (fun _ => 0))), (q1, .inl (cA 0, 10240, .inl (fun _ => 0))), (q2, .inl (cA 0, 1024, .inl (fun _ => 0)))] H := hP
  have hD : va_D A [(h0, .inr (1, [.null, .null, .ref q0, .ref q1, .ref q2, .null, .int 0, .null, .null])), (q0, .inl (cA 0, 1024, .inl (fun _ => 0))), (q1, .inl (cA 0, 10240, .inl (fun _ => 0))), (q2, .inl (cA 0, 1024, .inl (fun _ => 0)))] := hD
  refine st_na (ci := 1) (C := RX1) (T := TX1) (N := 9) (at9 := .int) (ty := .int) (t := 0) (c0 := cA 0) (n := 1024) (N' := 1024) (a0 := (1024, .inl (fun _ => 0))) hx hb hts hown hin hK hP hD hS hA (lv_at hl 0 rfl) rfl rfl (good_at (i := 125) (by decide +kernel) rfl) rfl (fun _ h => h) (fun _ => rfl) (by decide +kernel) (by decide +kernel) (Nat.le_of_ble_eq_true rfl) (Nat.le_of_ble_eq_true rfl) (Nat.le_of_ble_eq_true rfl) 5 (by decide) (good_at (i := 201) (by decide +kernel) rfl) rfl (tyX1_ok _ (by decide)) (fun _ => rfl) (fun _ => rfl) (Nat.le_of_ble_eq_true rfl) dX1_init_31 (fun _ k => lv_sipush hx hb dX1_init_32 (by decide) k) dX1_init_35 dX1_init_37 (fun q3 H locs hP hD hS => ?_)
  have hP : va_P D vwCl [(h0, .inr (1, [.null, .null, .ref q0, .ref q1, .ref q2, .ref q3, .int 0, .null, .null])), (q0, .inl (cA 0, 1024, .inl (fun _ => 0))), (q1, .inl (cA 0, 10240, .inl (fun _ => 0))), (q2, .inl (cA 0, 1024, .inl (fun _ => 0))), (q3, .inl (cA 0, 1024, .inl (fun _ => 0)))] H := hP
  have hD : va_D A [(h0, .inr (1, [.null, .null, .ref q0, .ref q1, .ref q2, .ref q3, .int 0, .null, .null])), (q0, .inl (cA 0, 1024, .inl (fun _ => 0))), (q1, .inl (cA 0, 10240, .inl (fun _ => 0))), (q2, .inl (cA 0, 1024, .inl (fun _ => 0))), (q3, .inl (cA 0, 1024, .inl (fun _ => 0)))] := hD
  refine st_na (ci := 1) (C := RX1) (T := TX1) (N := 9) (at9 := .int) (ty := .int) (t := 0) (c0 := cA 0) (n := 1024) (N' := 1024) (a0 := (1024, .inl (fun _ => 0))) hx hb hts hown hin hK hP hD hS hA (lv_at hl 0 rfl) rfl rfl (good_at (i := 125) (by decide +kernel) rfl) rfl (fun _ h => h) (fun _ => rfl) (by decide +kernel) (by decide +kernel) (Nat.le_of_ble_eq_true rfl) (Nat.le_of_ble_eq_true rfl) (Nat.le_of_ble_eq_true rfl) 7 (by decide) (good_at (i := 203) (by decide +kernel) rfl) rfl (tyX1_ok _ (by decide)) (fun _ => rfl) (fun _ => rfl) (Nat.le_of_ble_eq_true rfl) dX1_init_40 (fun _ k => lv_sipush hx hb dX1_init_41 (by decide) k) dX1_init_44 dX1_init_46 (fun q4 H locs hP hD hS => ?_)
  have hP : va_P D vwCl [(h0, .inr (1, [.null, .null, .ref q0, .ref q1, .ref q2, .ref q3, .int 0, .ref q4, .null])), (q0, .inl (cA 0, 1024, .inl (fun _ => 0))), (q1, .inl (cA 0, 10240, .inl (fun _ => 0))), (q2, .inl (cA 0, 1024, .inl (fun _ => 0))), (q3, .inl (cA 0, 1024, .inl (fun _ => 0))), (q4, .inl (cA 0, 1024, .inl (fun _ => 0)))] H := hP
  have hD : va_D A [(h0, .inr (1, [.null, .null, .ref q0, .ref q1, .ref q2, .ref q3, .int 0, .ref q4, .null])), (q0, .inl (cA 0, 1024, .inl (fun _ => 0))), (q1, .inl (cA 0, 10240, .inl (fun _ => 0))), (q2, .inl (cA 0, 1024, .inl (fun _ => 0))), (q3, .inl (cA 0, 1024, .inl (fun _ => 0))), (q4, .inl (cA 0, 1024, .inl (fun _ => 0)))] := hD
  refine st_na (ci := 1) (C := RX1) (T := TX1) (N := 9) (at9 := .int) (ty := .int) (t := 0) (c0 := cA 0) (n := 1024) (N' := 1024) (a0 := (1024, .inl (fun _ => 0))) hx hb hts hown hin hK hP hD hS hA (lv_at hl 0 rfl) rfl rfl (good_at (i := 125) (by decide +kernel) rfl) rfl (fun _ h => h) (fun _ => rfl) (by decide +kernel) (by decide +kernel) (Nat.le_of_ble_eq_true rfl) (Nat.le_of_ble_eq_true rfl) (Nat.le_of_ble_eq_true rfl) 8 (by decide) (good_at (i := 205) (by decide +kernel) rfl) rfl (tyX1_ok _ (by decide)) (fun _ => rfl) (fun _ => rfl) (Nat.le_of_ble_eq_true rfl) dX1_init_49 (fun _ k => lv_sipush hx hb dX1_init_50 (by decide) k) dX1_init_53 dX1_init_55 (fun q5 H locs hP hD hS => ?_)
  have hP : va_P D vwCl [(h0, .inr (1, [.null, .null, .ref q0, .ref q1, .ref q2, .ref q3, .int 0, .ref q4, .ref q5])), (q0, .inl (cA 0, 1024, .inl (fun _ => 0))), (q1, .inl (cA 0, 10240, .inl (fun _ => 0))), (q2, .inl (cA 0, 1024, .inl (fun _ => 0))), (q3, .inl (cA 0, 1024, .inl (fun _ => 0))), (q4, .inl (cA 0, 1024, .inl (fun _ => 0))), (q5, .inl (cA 0, 1024, .inl (fun _ => 0)))] H := hP
  have hD : va_D A [(h0, .inr (1, [.null, .null, .ref q0, .ref q1, .ref q2, .ref q3, .int 0, .ref q4, .ref q5])), (q0, .inl (cA 0, 1024, .inl (fun _ => 0))), (q1, .inl (cA 0, 10240, .inl (fun _ => 0))), (q2, .inl (cA 0, 1024, .inl (fun _ => 0))), (q3, .inl (cA 0, 1024, .inl (fun _ => 0))), (q4, .inl (cA 0, 1024, .inl (fun _ => 0))), (q5, .inl (cA 0, 1024, .inl (fun _ => 0)))] := hD
  refine lv_aload_n hx hb dX1_init_58 rfl (lv_at hl 0 rfl) ?_
  refine lv_aload_n hx hb dX1_init_59 rfl (lv_at hl 1 rfl) ?_
  refine st_put (ci := 1) (C := RX1) (T := TX1) (N := 9) hx hb hts hown hin hK hP hD hS rfl 0 (by decide) (good_at (i := 196) (by decide +kernel) rfl) rfl (tyX1_ok _ (by decide)) rfl rfl (Nat.le_of_ble_eq_true rfl) dX1_init_60 (fun H locs hP hD hS => ?_)
  have hP : va_P D vwCl [(h0, .inr (1, [.ref b1, .null, .ref q0, .ref q1, .ref q2, .ref q3, .int 0, .ref q4, .ref q5])), (q0, .inl (cA 0, 1024, .inl (fun _ => 0))), (q1, .inl (cA 0, 10240, .inl (fun _ => 0))), (q2, .inl (cA 0, 1024, .inl (fun _ => 0))), (q3, .inl (cA 0, 1024, .inl (fun _ => 0))), (q4, .inl (cA 0, 1024, .inl (fun _ => 0))), (q5, .inl (cA 0, 1024, .inl (fun _ => 0)))] H := hP
  have hD : va_D A [(h0, .inr (1, [.ref b1, .null, .ref q0, .ref q1, .ref q2, .ref q3, .int 0, .ref q4, .ref q5])), (q0, .inl (cA 0, 1024, .inl (fun _ => 0))), (q1, .inl (cA 0, 10240, .inl (fun _ => 0))), (q2, .inl (cA 0, 1024, .inl (fun _ => 0))), (q3, .inl (cA 0, 1024, .inl (fun _ => 0))), (q4, .inl (cA 0, 1024, .inl (fun _ => 0))), (q5, .inl (cA 0, 1024, .inl (fun _ => 0)))] := hD
  refine lv_aload_n hx hb dX1_init_63 rfl (lv_at hl 0 rfl) ?_
  refine lv_aload_n hx hb dX1_init_64 rfl (lv_at hl 2 rfl) ?_
  refine st_put (ci := 1) (C := RX1) (T := TX1) (N := 9) hx hb hts hown hin hK hP hD hS rfl 1 (by decide) (good_at (i := 197) (by decide +kernel) rfl) rfl (tyX1_ok _ (by decide)) rfl rfl (Nat.le_of_ble_eq_true rfl) dX1_init_65 (fun H locs hP hD hS => ?_)
  have hP : va_P D vwCl [(h0, .inr (1, [.ref b1, .ref b2, .ref q0, .ref q1, .ref q2, .ref q3, .int 0, .ref q4, .ref q5])), (q0, .inl (cA 0, 1024, .inl (fun _ => 0))), (q1, .inl (cA 0, 10240, .inl (fun _ => 0))), (q2, .inl (cA 0, 1024, .inl (fun _ => 0))), (q3, .inl (cA 0, 1024, .inl (fun _ => 0))), (q4, .inl (cA 0, 1024, .inl (fun _ => 0))), (q5, .inl (cA 0, 1024, .inl (fun _ => 0)))] H := hP
  have hD : va_D A [(h0, .inr (1, [.ref b1, .ref b2, .ref q0, .ref q1, .ref q2, .ref q3, .int 0, .ref q4, .ref q5])), (q0, .inl (cA 0, 1024, .inl (fun _ => 0))), (q1, .inl (cA 0, 10240, .inl (fun _ => 0))), (q2, .inl (cA 0, 1024, .inl (fun _ => 0))), (q3, .inl (cA 0, 1024, .inl (fun _ => 0))), (q4, .inl (cA 0, 1024, .inl (fun _ => 0))), (q5, .inl (cA 0, 1024, .inl (fun _ => 0)))] := hD
  exact st_ret (wOut := w_X1 cA h0 b1 b2) (qs := fun i => ([q0, q1, q2, q3, q4, q5] : List Nat).getD i 0) hx hb hr hlk hP hD hS (Nat.le_of_ble_eq_true rfl) (Nat.le_of_ble_eq_true rfl) dX1_init_68
def w_X2 (cA : Nat → ClassId) (h0 : Nat) (qs : Nat → Nat) : va_W := [(h0, .inr (2, [.int 0, .int 0, .int 0, .ref (qs 0)])), ((qs 0), .inl (cA 2, 24, .inr (.inl (fun _ => 0))))]
abbrev z_X2 : List Value := [.int 0, .int 0, .int 0, .null]
set_option maxHeartbeats 4000000 in
theorem k_X2 (l : Launch) (D : va_G) (cA : Nat → ClassId) (h0 : Nat) : Cto l D cA yX2_init cX2_init 1 1 1 24 [.ref h0] [(h0, .inr (2, z_X2))] (fun _ => True) (w_X2 cA h0) := by
  refine Cto_of (by decide +kernel) rfl (show (1:Nat) ≤ 1 from Nat.le_refl 1) ?_
  intro p e R s m args below meth c ls A hx hb hml hr hlk hin hown hts hK hE hR hl hA hP hD
  subst hR
  have hS : va_S A s.heap s.heap [] := va_S.rf
  refine st_obj hx hb hml hown hts (lv_at hl 0 rfl) (good_at (i := 232) (by decide +kernel) rfl) ⟨(Nat.le_of_ble_eq_true rfl), (Nat.le_of_ble_eq_true rfl)⟩ dX2_init_0 dX2_init_1 ?_
  refine st_na (ci := 2) (C := RX2) (T := TX2) (N := 4) (at9 := .long) (ty := .long) (t := 2) (c0 := cA 2) (n := 24) (N' := 24) (a0 := (24, .inr (.inl (fun _ => 0)))) hx hb hts hown hin hK hP hD hS hA (lv_at hl 0 rfl) rfl rfl (good_at (i := 247) (by decide +kernel) rfl) rfl (fun _ h => h) (fun _ => rfl) (by decide +kernel) (by decide +kernel) (Nat.le_of_ble_eq_true rfl) (Nat.le_of_ble_eq_true rfl) (Nat.le_of_ble_eq_true rfl) 3 (by decide) (good_at (i := 237) (by decide +kernel) rfl) rfl (tyX2_ok _ (by decide)) (fun _ => rfl) (fun _ => rfl) (Nat.le_of_ble_eq_true rfl) dX2_init_4 (fun _ k => lv_bipush hx hb dX2_init_5 (by decide) k) dX2_init_7 dX2_init_9 (fun q0 H locs hP hD hS => ?_)
  have hP : va_P D vwCl [(h0, .inr (2, [.int 0, .int 0, .int 0, .ref q0])), (q0, .inl (cA 2, 24, .inr (.inl (fun _ => 0))))] H := hP
  have hD : va_D A [(h0, .inr (2, [.int 0, .int 0, .int 0, .ref q0])), (q0, .inl (cA 2, 24, .inr (.inl (fun _ => 0))))] := hD
  exact st_ret (wOut := w_X2 cA h0) (qs := fun i => ([q0] : List Nat).getD i 0) hx hb hr hlk hP hD hS (Nat.le_of_ble_eq_true rfl) (Nat.le_of_ble_eq_true rfl) dX2_init_12
def w_X3 (cA : Nat → ClassId) (h0 : Nat) (qs : Nat → Nat) : va_W := [(h0, .inr (3, [.ref (qs 0), .int 0, .int 0])), ((qs 0), .inl (cA 1, 90, .inl (fun _ => 0)))]
abbrev z_X3 : List Value := [.null, .int 0, .int 0]
set_option maxHeartbeats 4000000 in
theorem k_X3 (l : Launch) (D : va_G) (cA : Nat → ClassId) (h0 : Nat) : Cto l D cA yX3_init cX3_init 1 1 1 90 [.ref h0] [(h0, .inr (3, z_X3))] (fun _ => True) (w_X3 cA h0) := by
  refine Cto_of (by decide +kernel) rfl (show (1:Nat) ≤ 1 from Nat.le_refl 1) ?_
  intro p e R s m args below meth c ls A hx hb hml hr hlk hin hown hts hK hE hR hl hA hP hD
  subst hR
  have hS : va_S A s.heap s.heap [] := va_S.rf
  refine st_obj hx hb hml hown hts (lv_at hl 0 rfl) (good_at (i := 131) (by decide +kernel) rfl) ⟨(Nat.le_of_ble_eq_true rfl), (Nat.le_of_ble_eq_true rfl)⟩ dX3_init_0 dX3_init_1 ?_
  refine st_na (ci := 3) (C := RX3) (T := TX3) (N := 3) (at9 := .char) (ty := .char) (t := 1) (c0 := cA 1) (n := 90) (N' := 90) (a0 := (90, .inl (fun _ => 0))) hx hb hts hown hin hK hP hD hS hA (lv_at hl 0 rfl) rfl rfl (good_at (i := 142) (by decide +kernel) rfl) rfl (fun _ h => h) (fun _ => rfl) (by decide +kernel) (by decide +kernel) (Nat.le_of_ble_eq_true rfl) (Nat.le_of_ble_eq_true rfl) (Nat.le_of_ble_eq_true rfl) 0 (by decide) (good_at (i := 132) (by decide +kernel) rfl) rfl (tyX3_ok _ (by decide)) (fun _ => rfl) (fun _ => rfl) (Nat.le_of_ble_eq_true rfl) dX3_init_4 (fun _ k => lv_bipush hx hb dX3_init_5 (by decide) k) dX3_init_7 dX3_init_9 (fun q0 H locs hP hD hS => ?_)
  have hP : va_P D vwCl [(h0, .inr (3, [.ref q0, .int 0, .int 0])), (q0, .inl (cA 1, 90, .inl (fun _ => 0)))] H := hP
  have hD : va_D A [(h0, .inr (3, [.ref q0, .int 0, .int 0])), (q0, .inl (cA 1, 90, .inl (fun _ => 0)))] := hD
  exact st_ret (wOut := w_X3 cA h0) (qs := fun i => ([q0] : List Nat).getD i 0) hx hb hr hlk hP hD hS (Nat.le_of_ble_eq_true rfl) (Nat.le_of_ble_eq_true rfl) dX3_init_12
def w_X4 (cA : Nat → ClassId) (h0 : Nat) (b1 : Nat) (qs : Nat → Nat) : va_W := [(h0, .inr (4, [.ref b1, .ref (qs 0), .ref (qs 1), .ref (qs 2), .ref (qs 3), .ref (qs 4), .ref (qs 5), .ref (qs 6), .int 0, .int 0, .int 0, .int 0])), ((qs 0), .inl (cA 0, 10240, .inl (fun _ => 0))), ((qs 1), .inl (cA 0, 10240, .inl (fun _ => 0))), ((qs 2), .inl (cA 0, 1024, .inl (fun _ => 0))), ((qs 3), .inl (cA 0, 1024, .inl (fun _ => 0))), ((qs 4), .inl (cA 0, 1024, .inl (fun _ => 0))), ((qs 5), .inl (cA 0, 1024, .inl (fun _ => 0))), ((qs 6), .inl (cA 0, 1024, .inl (fun _ => 0)))]
abbrev z_X4 : List Value := [.null, .null, .null, .null, .null, .null, .null, .null, .int 0, .int 0, .int 0, .int 0]
set_option maxHeartbeats 4000000 in
theorem k_X4 (l : Launch) (D : va_G) (cA : Nat → ClassId) (h0 : Nat) (b1 : Nat) : Cto l D cA yX4_init cX4_init 2 1 7 25600 [.ref h0, .ref b1] [(h0, .inr (4, z_X4))] (fun _ => True) (w_X4 cA h0 b1) := by
  refine Cto_of (by decide +kernel) rfl (show (2:Nat) ≤ 2 from Nat.le_refl 2) ?_
  intro p e R s m args below meth c ls A hx hb hml hr hlk hin hown hts hK hE hR hl hA hP hD
  subst hR
  have hS : va_S A s.heap s.heap [] := va_S.rf
  refine st_obj hx hb hml hown hts (lv_at hl 0 rfl) (good_at (i := 148) (by decide +kernel) rfl) ⟨(Nat.le_of_ble_eq_true rfl), (Nat.le_of_ble_eq_true rfl)⟩ dX4_init_0 dX4_init_1 ?_
  refine st_na (ci := 4) (C := RX4) (T := TX4) (N := 12) (at9 := .int) (ty := .int) (t := 0) (c0 := cA 0) (n := 10240) (N' := 10240) (a0 := (10240, .inl (fun _ => 0))) hx hb hts hown hin hK hP hD hS hA (lv_at hl 0 rfl) rfl rfl (good_at (i := 125) (by decide +kernel) rfl) rfl (fun _ h => h) (fun _ => rfl) (by decide +kernel) (by decide +kernel) (Nat.le_of_ble_eq_true rfl) (Nat.le_of_ble_eq_true rfl) (Nat.le_of_ble_eq_true rfl) 1 (by decide) (good_at (i := 150) (by decide +kernel) rfl) rfl (tyX4_ok _ (by decide)) (fun _ => rfl) (fun _ => rfl) (Nat.le_of_ble_eq_true rfl) dX4_init_4 (fun _ k => lv_sipush hx hb dX4_init_5 (by decide) k) dX4_init_8 dX4_init_10 (fun q0 H locs hP hD hS => ?_)
  have hP : va_P D vwCl [(h0, .inr (4, [.null, .ref q0, .null, .null, .null, .null, .null, .null, .int 0, .int 0, .int 0, .int 0])), (q0, .inl (cA 0, 10240, .inl (fun _ => 0)))] H := hP
  have hD : va_D A [(h0, .inr (4, [.null, .ref q0, .null, .null, .null, .null, .null, .null, .int 0, .int 0, .int 0, .int 0])), (q0, .inl (cA 0, 10240, .inl (fun _ => 0)))] := hD
  refine st_na (ci := 4) (C := RX4) (T := TX4) (N := 12) (at9 := .int) (ty := .int) (t := 0) (c0 := cA 0) (n := 10240) (N' := 10240) (a0 := (10240, .inl (fun _ => 0))) hx hb hts hown hin hK hP hD hS hA (lv_at hl 0 rfl) rfl rfl (good_at (i := 125) (by decide +kernel) rfl) rfl (fun _ h => h) (fun _ => rfl) (by decide +kernel) (by decide +kernel) (Nat.le_of_ble_eq_true rfl) (Nat.le_of_ble_eq_true rfl) (Nat.le_of_ble_eq_true rfl) 2 (by decide) (good_at (i := 151) (by decide +kernel) rfl) rfl (tyX4_ok _ (by decide)) (fun _ => rfl) (fun _ => rfl) (Nat.le_of_ble_eq_true rfl) dX4_init_13 (fun _ k => lv_sipush hx hb dX4_init_14 (by decide) k) dX4_init_17 dX4_init_19 (fun q1 H locs hP hD hS => ?_)
  have hP : va_P D vwCl [(h0, .inr (4, [.null, .ref q0, .ref q1, .null, .null, .null, .null, .null, .int 0, .int 0, .int 0, .int 0])), (q0, .inl (cA 0, 10240, .inl (fun _ => 0))), (q1, .inl (cA 0, 10240, .inl (fun _ => 0)))] H := hP
  have hD : va_D A [(h0, .inr (4, [.null, .ref q0, .ref q1, .null, .null, .null, .null, .null, .int 0, .int 0, .int 0, .int 0])), (q0, .inl (cA 0, 10240, .inl (fun _ => 0))), (q1, .inl (cA 0, 10240, .inl (fun _ => 0)))] := hD
  refine st_na (ci := 4) (C := RX4) (T := TX4) (N := 12) (at9 := .int) (ty := .int) (t := 0) (c0 := cA 0) (n := 1024) (N' := 1024) (a0 := (1024, .inl (fun _ => 0))) hx hb hts hown hin hK hP hD hS hA (lv_at hl 0 rfl) rfl rfl (good_at (i := 125) (by decide +kernel) rfl) rfl (fun _ h => h) (fun _ => rfl) (by decide +kernel) (by decide +kernel) (Nat.le_of_ble_eq_true rfl) (Nat.le_of_ble_eq_true rfl) (Nat.le_of_ble_eq_true rfl) 3 (by decide) (good_at (i := 152) (by decide +kernel) rfl) rfl (tyX4_ok _ (by decide)) (fun _ => rfl) (fun _ => rfl) (Nat.le_of_ble_eq_true rfl) dX4_init_22 (fun _ k => lv_sipush hx hb dX4_init_23 (by decide) k) dX4_init_26 dX4_init_28 (fun q2 H locs hP hD hS => ?_)
  have hP : va_P D vwCl [(h0, .inr (4, [.null, .ref q0, .ref q1, .ref q2, .null, .null, .null, .null, .int 0, .int 0, .int 0, .int 0])), (q0, .inl (cA 0, 10240, .inl (fun _ => 0))), (q1, .inl (cA 0, 10240, .inl (fun _ => 0))), (q2, .inl (cA 0, 1024, .inl (fun _ => 0)))] H := hP
  have hD : va_D A [(h0, .inr (4, [.null, .ref q0, .ref q1, .ref q2, .null, .null, .null, .null, .int 0, .int 0, .int 0, .int 0])), (q0, .inl (cA 0, 10240, .inl (fun _ => 0))), (q1, .inl (cA 0, 10240, .inl (fun _ => 0))), (q2, .inl (cA 0, 1024, .inl (fun _ => 0)))] := hD
  refine st_na (ci := 4) (C := RX4) (T := TX4) (N := 12) (at9 := .int) (ty := .int) (t := 0) (c0 := cA 0) (n := 1024) (N' := 1024) (a0 := (1024, .inl (fun _ => 0))) hx hb hts hown hin hK hP hD hS hA (lv_at hl 0 rfl) rfl rfl (good_at (i := 125) (by decide +kernel) rfl) rfl (fun _ h => h) (fun _ => rfl) (by decide +kernel) (by decide +kernel) (Nat.le_of_ble_eq_true rfl) (Nat.le_of_ble_eq_true rfl) (Nat.le_of_ble_eq_true rfl) 4 (by decide) (good_at (i := 154) (by decide +kernel) rfl) rfl (tyX4_ok _ (by decide)) (fun _ => rfl) (fun _ => rfl) (Nat.le_of_ble_eq_true rfl) dX4_init_31 (fun _ k => lv_sipush hx hb dX4_init_32 (by decide) k) dX4_init_35 dX4_init_37 (fun q3 H locs hP hD hS => ?_)
  have hP : va_P D vwCl [(h0, .inr (4, [.null, .ref q0, .ref q1, .ref q2, .ref q3, .null, .null, .null, .int 0, .int 0, .int 0, .int 0])), (q0, .inl (cA 0, 10240, .inl (fun _ => 0))), (q1, .inl (cA 0, 10240, .inl (fun _ => 0))), (q2, .inl (cA 0, 1024, .inl (fun _ => 0))), (q3, .inl (cA 0, 1024, .inl (fun _ => 0)))] H := hP
  have hD : va_D A [(h0, .inr (4, [.null, .ref q0, .ref q1, .ref q2, .ref q3, .null, .null, .null, .int 0, .int 0, .int 0, .int 0])), (q0, .inl (cA 0, 10240, .inl (fun _ => 0))), (q1, .inl (cA 0, 10240, .inl (fun _ => 0))), (q2, .inl (cA 0, 1024, .inl (fun _ => 0))), (q3, .inl (cA 0, 1024, .inl (fun _ => 0)))] := hD
  refine st_na (ci := 4) (C := RX4) (T := TX4) (N := 12) (at9 := .int) (ty := .int) (t := 0) (c0 := cA 0) (n := 1024) (N' := 1024) (a0 := (1024, .inl (fun _ => 0))) hx hb hts hown hin hK hP hD hS hA (lv_at hl 0 rfl) rfl rfl (good_at (i := 125) (by decide +kernel) rfl) rfl (fun _ h => h) (fun _ => rfl) (by decide +kernel) (by decide +kernel) (Nat.le_of_ble_eq_true rfl) (Nat.le_of_ble_eq_true rfl) (Nat.le_of_ble_eq_true rfl) 5 (by decide) (good_at (i := 155) (by decide +kernel) rfl) rfl (tyX4_ok _ (by decide)) (fun _ => rfl) (fun _ => rfl) (Nat.le_of_ble_eq_true rfl) dX4_init_40 (fun _ k => lv_sipush hx hb dX4_init_41 (by decide) k) dX4_init_44 dX4_init_46 (fun q4 H locs hP hD hS => ?_)
  have hP : va_P D vwCl [(h0, .inr (4, [.null, .ref q0, .ref q1, .ref q2, .ref q3, .ref q4, .null, .null, .int 0, .int 0, .int 0, .int 0])), (q0, .inl (cA 0, 10240, .inl (fun _ => 0))), (q1, .inl (cA 0, 10240, .inl (fun _ => 0))), (q2, .inl (cA 0, 1024, .inl (fun _ => 0))), (q3, .inl (cA 0, 1024, .inl (fun _ => 0))), (q4, .inl (cA 0, 1024, .inl (fun _ => 0)))] H := hP
  have hD : va_D A [(h0, .inr (4, [.null, .ref q0, .ref q1, .ref q2, .ref q3, .ref q4, .null, .null, .int 0, .int 0, .int 0, .int 0])), (q0, .inl (cA 0, 10240, .inl (fun _ => 0))), (q1, .inl (cA 0, 10240, .inl (fun _ => 0))), (q2, .inl (cA 0, 1024, .inl (fun _ => 0))), (q3, .inl (cA 0, 1024, .inl (fun _ => 0))), (q4, .inl (cA 0, 1024, .inl (fun _ => 0)))] := hD
  refine st_na (ci := 4) (C := RX4) (T := TX4) (N := 12) (at9 := .int) (ty := .int) (t := 0) (c0 := cA 0) (n := 1024) (N' := 1024) (a0 := (1024, .inl (fun _ => 0))) hx hb hts hown hin hK hP hD hS hA (lv_at hl 0 rfl) rfl rfl (good_at (i := 125) (by decide +kernel) rfl) rfl (fun _ h => h) (fun _ => rfl) (by decide +kernel) (by decide +kernel) (Nat.le_of_ble_eq_true rfl) (Nat.le_of_ble_eq_true rfl) (Nat.le_of_ble_eq_true rfl) 6 (by decide) (good_at (i := 156) (by decide +kernel) rfl) rfl (tyX4_ok _ (by decide)) (fun _ => rfl) (fun _ => rfl) (Nat.le_of_ble_eq_true rfl) dX4_init_49 (fun _ k => lv_sipush hx hb dX4_init_50 (by decide) k) dX4_init_53 dX4_init_55 (fun q5 H locs hP hD hS => ?_)
  have hP : va_P D vwCl [(h0, .inr (4, [.null, .ref q0, .ref q1, .ref q2, .ref q3, .ref q4, .ref q5, .null, .int 0, .int 0, .int 0, .int 0])), (q0, .inl (cA 0, 10240, .inl (fun _ => 0))), (q1, .inl (cA 0, 10240, .inl (fun _ => 0))), (q2, .inl (cA 0, 1024, .inl (fun _ => 0))), (q3, .inl (cA 0, 1024, .inl (fun _ => 0))), (q4, .inl (cA 0, 1024, .inl (fun _ => 0))), (q5, .inl (cA 0, 1024, .inl (fun _ => 0)))] H := hP
  have hD : va_D A [(h0, .inr (4, [.null, .ref q0, .ref q1, .ref q2, .ref q3, .ref q4, .ref q5, .null, .int 0, .int 0, .int 0, .int 0])), (q0, .inl (cA 0, 10240, .inl (fun _ => 0))), (q1, .inl (cA 0, 10240, .inl (fun _ => 0))), (q2, .inl (cA 0, 1024, .inl (fun _ => 0))), (q3, .inl (cA 0, 1024, .inl (fun _ => 0))), (q4, .inl (cA 0, 1024, .inl (fun _ => 0))), (q5, .inl (cA 0, 1024, .inl (fun _ => 0)))] := hD
  refine st_na (ci := 4) (C := RX4) (T := TX4) (N := 12) (at9 := .int) (ty := .int) (t := 0) (c0 := cA 0) (n := 1024) (N' := 1024) (a0 := (1024, .inl (fun _ => 0))) hx hb hts hown hin hK hP hD hS hA (lv_at hl 0 rfl) rfl rfl (good_at (i := 125) (by decide +kernel) rfl) rfl (fun _ h => h) (fun _ => rfl) (by decide +kernel) (by decide +kernel) (Nat.le_of_ble_eq_true rfl) (Nat.le_of_ble_eq_true rfl) (Nat.le_of_ble_eq_true rfl) 7 (by decide) (good_at (i := 157) (by decide +kernel) rfl) rfl (tyX4_ok _ (by decide)) (fun _ => rfl) (fun _ => rfl) (Nat.le_of_ble_eq_true rfl) dX4_init_58 (fun _ k => lv_sipush hx hb dX4_init_59 (by decide) k) dX4_init_62 dX4_init_64 (fun q6 H locs hP hD hS => ?_)
  have hP : va_P D vwCl [(h0, .inr (4, [.null, .ref q0, .ref q1, .ref q2, .ref q3, .ref q4, .ref q5, .ref q6, .int 0, .int 0, .int 0, .int 0])), (q0, .inl (cA 0, 10240, .inl (fun _ => 0))), (q1, .inl (cA 0, 10240, .inl (fun _ => 0))), (q2, .inl (cA 0, 1024, .inl (fun _ => 0))), (q3, .inl (cA 0, 1024, .inl (fun _ => 0))), (q4, .inl (cA 0, 1024, .inl (fun _ => 0))), (q5, .inl (cA 0, 1024, .inl (fun _ => 0))), (q6, .inl (cA 0, 1024, .inl (fun _ => 0)))] H := hP
  have hD : va_D A [(h0, .inr (4, [.null, .ref q0, .ref q1, .ref q2, .ref q3, .ref q4, .ref q5, .ref q6, .int 0, .int 0, .int 0, .int 0])), (q0, .inl (cA 0, 10240, .inl (fun _ => 0))), (q1, .inl (cA 0, 10240, .inl (fun _ => 0))), (q2, .inl (cA 0, 1024, .inl (fun _ => 0))), (q3, .inl (cA 0, 1024, .inl (fun _ => 0))), (q4, .inl (cA 0, 1024, .inl (fun _ => 0))), (q5, .inl (cA 0, 1024, .inl (fun _ => 0))), (q6, .inl (cA 0, 1024, .inl (fun _ => 0)))] := hD
  refine lv_aload_n hx hb dX4_init_67 rfl (lv_at hl 0 rfl) ?_
  refine lv_aload_n hx hb dX4_init_68 rfl (lv_at hl 1 rfl) ?_
  refine st_put (ci := 4) (C := RX4) (T := TX4) (N := 12) hx hb hts hown hin hK hP hD hS rfl 0 (by decide) (good_at (i := 149) (by decide +kernel) rfl) rfl (tyX4_ok _ (by decide)) rfl rfl (Nat.le_of_ble_eq_true rfl) dX4_init_69 (fun H locs hP hD hS => ?_)
  have hP : va_P D vwCl [(h0, .inr (4, [.ref b1, .ref q0, .ref q1, .ref q2, .ref q3, .ref q4, .ref q5, .ref q6, .int 0, .int 0, .int 0, .int 0])), (q0, .inl (cA 0, 10240, .inl (fun _ => 0))), (q1, .inl (cA 0, 10240, .inl (fun _ => 0))), (q2, .inl (cA 0, 1024, .inl (fun _ => 0))), (q3, .inl (cA 0, 1024, .inl (fun _ => 0))), (q4, .inl (cA 0, 1024, .inl (fun _ => 0))), (q5, .inl (cA 0, 1024, .inl (fun _ => 0))), (q6, .inl (cA 0, 1024, .inl (fun _ => 0)))] H := hP
  have hD : va_D A [(h0, .inr (4, [.ref b1, .ref q0, .ref q1, .ref q2, .ref q3, .ref q4, .ref q5, .ref q6, .int 0, .int 0, .int 0, .int 0])), (q0, .inl (cA 0, 10240, .inl (fun _ => 0))), (q1, .inl (cA 0, 10240, .inl (fun _ => 0))), (q2, .inl (cA 0, 1024, .inl (fun _ => 0))), (q3, .inl (cA 0, 1024, .inl (fun _ => 0))), (q4, .inl (cA 0, 1024, .inl (fun _ => 0))), (q5, .inl (cA 0, 1024, .inl (fun _ => 0))), (q6, .inl (cA 0, 1024, .inl (fun _ => 0)))] := hD
  exact st_ret (wOut := w_X4 cA h0 b1) (qs := fun i => ([q0, q1, q2, q3, q4, q5, q6] : List Nat).getD i 0) hx hb hr hlk hP hD hS (Nat.le_of_ble_eq_true rfl) (Nat.le_of_ble_eq_true rfl) dX4_init_72
