abbrev c_Archiver_init : ByteArray := prog_2_method_1_code
def y_Archiver_init : MethodName := ⟨"EpochServer$Archiver", "<init>", "()V"⟩
theorem d_Archiver_init_0 : decode c_Archiver_init 0 = .ok (.aload_n 0, 1) := by decide +kernel
theorem d_Archiver_init_1 : decode c_Archiver_init 1 = .ok (.invokespecial 3, 3) := by decide +kernel
theorem d_Archiver_init_4 : decode c_Archiver_init 4 = .ok (.aload_n 0, 1) := by decide +kernel
theorem d_Archiver_init_5 : decode c_Archiver_init 5 = .ok (.new 9, 3) := by decide +kernel
theorem d_Archiver_init_8 : decode c_Archiver_init 8 = .ok (.dup, 1) := by decide +kernel
theorem d_Archiver_init_9 : decode c_Archiver_init 9 = .ok (.invokespecial 11, 3) := by decide +kernel
theorem d_Archiver_init_12 : decode c_Archiver_init 12 = .ok (.putfield 12, 3) := by decide +kernel
theorem d_Archiver_init_15 : decode c_Archiver_init 15 = .ok (.aload_n 0, 1) := by decide +kernel
theorem d_Archiver_init_16 : decode c_Archiver_init 16 = .ok (.new 18, 3) := by decide +kernel
theorem d_Archiver_init_19 : decode c_Archiver_init 19 = .ok (.dup, 1) := by decide +kernel
theorem d_Archiver_init_20 : decode c_Archiver_init 20 = .ok (.invokespecial 20, 3) := by decide +kernel
theorem d_Archiver_init_23 : decode c_Archiver_init 23 = .ok (.putfield 21, 3) := by decide +kernel
theorem d_Archiver_init_26 : decode c_Archiver_init 26 = .ok (.aload_n 0, 1) := by decide +kernel
theorem d_Archiver_init_27 : decode c_Archiver_init 27 = .ok (.new 25, 3) := by decide +kernel
theorem d_Archiver_init_30 : decode c_Archiver_init 30 = .ok (.dup, 1) := by decide +kernel
theorem d_Archiver_init_31 : decode c_Archiver_init 31 = .ok (.sipush 5520, 3) := by decide +kernel
theorem d_Archiver_init_34 : decode c_Archiver_init 34 = .ok (.invokespecial 27, 3) := by decide +kernel
theorem d_Archiver_init_37 : decode c_Archiver_init 37 = .ok (.putfield 30, 3) := by decide +kernel
theorem d_Archiver_init_40 : decode c_Archiver_init 40 = .ok (.aload_n 0, 1) := by decide +kernel
theorem d_Archiver_init_41 : decode c_Archiver_init 41 = .ok (.sipush 300, 3) := by decide +kernel
theorem d_Archiver_init_44 : decode c_Archiver_init 44 = .ok (.newarray .int, 2) := by decide +kernel
theorem d_Archiver_init_46 : decode c_Archiver_init 46 = .ok (.putfield 34, 3) := by decide +kernel
theorem d_Archiver_init_49 : decode c_Archiver_init 49 = .ok (.aload_n 0, 1) := by decide +kernel
theorem d_Archiver_init_50 : decode c_Archiver_init 50 = .ok (.bipush 60, 2) := by decide +kernel
theorem d_Archiver_init_52 : decode c_Archiver_init 52 = .ok (.newarray .int, 2) := by decide +kernel
theorem d_Archiver_init_54 : decode c_Archiver_init 54 = .ok (.putfield 38, 3) := by decide +kernel
theorem d_Archiver_init_57 : decode c_Archiver_init 57 = .ok (.aload_n 0, 1) := by decide +kernel
theorem d_Archiver_init_58 : decode c_Archiver_init 58 = .ok (.iconst 0, 1) := by decide +kernel
theorem d_Archiver_init_59 : decode c_Archiver_init 59 = .ok (.putfield 41, 3) := by decide +kernel
theorem d_Archiver_init_62 : decode c_Archiver_init 62 = .ok (.aload_n 0, 1) := by decide +kernel
theorem d_Archiver_init_63 : decode c_Archiver_init 63 = .ok (.iconst 0, 1) := by decide +kernel
theorem d_Archiver_init_64 : decode c_Archiver_init 64 = .ok (.putfield 45, 3) := by decide +kernel
theorem d_Archiver_init_67 : decode c_Archiver_init 67 = .ok (.return_, 1) := by decide +kernel
abbrev c_Archiver_putAway : ByteArray := prog_2_method_2_code
def y_Archiver_putAway : MethodName := ⟨"EpochServer$Archiver", "putAway", "(LEpochServer$Tree;)I"⟩
theorem d_Archiver_putAway_0 : decode c_Archiver_putAway 0 = .ok (.aload_n 0, 1) := by decide +kernel
theorem d_Archiver_putAway_1 : decode c_Archiver_putAway 1 = .ok (.getfield 12, 3) := by decide +kernel
theorem d_Archiver_putAway_4 : decode c_Archiver_putAway 4 = .ok (.getfield 48, 3) := by decide +kernel
theorem d_Archiver_putAway_7 : decode c_Archiver_putAway 7 = .ok (.istore_n 2, 1) := by decide +kernel
theorem d_Archiver_putAway_8 : decode c_Archiver_putAway 8 = .ok (.aload_n 0, 1) := by decide +kernel
theorem d_Archiver_putAway_9 : decode c_Archiver_putAway 9 = .ok (.getfield 12, 3) := by decide +kernel
theorem d_Archiver_putAway_12 : decode c_Archiver_putAway 12 = .ok (.getfield 52, 3) := by decide +kernel
theorem d_Archiver_putAway_15 : decode c_Archiver_putAway 15 = .ok (.istore_n 3, 1) := by decide +kernel
theorem d_Archiver_putAway_16 : decode c_Archiver_putAway 16 = .ok (.aload_n 0, 1) := by decide +kernel
theorem d_Archiver_putAway_17 : decode c_Archiver_putAway 17 = .ok (.iconst 1, 1) := by decide +kernel
theorem d_Archiver_putAway_18 : decode c_Archiver_putAway 18 = .ok (.putfield 41, 3) := by decide +kernel
theorem d_Archiver_putAway_21 : decode c_Archiver_putAway 21 = .ok (.aload_n 0, 1) := by decide +kernel
theorem d_Archiver_putAway_22 : decode c_Archiver_putAway 22 = .ok (.iconst 0, 1) := by decide +kernel
theorem d_Archiver_putAway_23 : decode c_Archiver_putAway 23 = .ok (.putfield 45, 3) := by decide +kernel
theorem d_Archiver_putAway_26 : decode c_Archiver_putAway 26 = .ok (.aload_n 0, 1) := by decide +kernel
theorem d_Archiver_putAway_27 : decode c_Archiver_putAway 27 = .ok (.aload_n 1, 1) := by decide +kernel
theorem d_Archiver_putAway_28 : decode c_Archiver_putAway 28 = .ok (.invokevirtual 55, 3) := by decide +kernel
theorem d_Archiver_putAway_31 : decode c_Archiver_putAway 31 = .ok (.aload_n 0, 1) := by decide +kernel
theorem d_Archiver_putAway_32 : decode c_Archiver_putAway 32 = .ok (.getfield 45, 3) := by decide +kernel
theorem d_Archiver_putAway_35 : decode c_Archiver_putAway 35 = .ok (.ifCond .eq 15, 3) := by decide +kernel
theorem d_Archiver_putAway_38 : decode c_Archiver_putAway 38 = .ok (.aload_n 0, 1) := by decide +kernel
theorem d_Archiver_putAway_39 : decode c_Archiver_putAway 39 = .ok (.getfield 12, 3) := by decide +kernel
theorem d_Archiver_putAway_42 : decode c_Archiver_putAway 42 = .ok (.iload_n 2, 1) := by decide +kernel
theorem d_Archiver_putAway_43 : decode c_Archiver_putAway 43 = .ok (.iload_n 3, 1) := by decide +kernel
theorem d_Archiver_putAway_44 : decode c_Archiver_putAway 44 = .ok (.invokevirtual 59, 3) := by decide +kernel
theorem d_Archiver_putAway_47 : decode c_Archiver_putAway 47 = .ok (.bipush (-2), 2) := by decide +kernel
theorem d_Archiver_putAway_49 : decode c_Archiver_putAway 49 = .ok (.ireturn, 1) := by decide +kernel
theorem d_Archiver_putAway_50 : decode c_Archiver_putAway 50 = .ok (.aload_n 0, 1) := by decide +kernel
theorem d_Archiver_putAway_51 : decode c_Archiver_putAway 51 = .ok (.getfield 12, 3) := by decide +kernel
theorem d_Archiver_putAway_54 : decode c_Archiver_putAway 54 = .ok (.getfield 48, 3) := by decide +kernel
theorem d_Archiver_putAway_57 : decode c_Archiver_putAway 57 = .ok (.iload_n 2, 1) := by decide +kernel
theorem d_Archiver_putAway_58 : decode c_Archiver_putAway 58 = .ok (.isub, 1) := by decide +kernel
theorem d_Archiver_putAway_59 : decode c_Archiver_putAway 59 = .ok (.ireturn, 1) := by decide +kernel
abbrev c_Archiver_scoreOnly : ByteArray := prog_2_method_3_code
def y_Archiver_scoreOnly : MethodName := ⟨"EpochServer$Archiver", "scoreOnly", "(LEpochServer$Tree;)V"⟩
theorem d_Archiver_scoreOnly_0 : decode c_Archiver_scoreOnly 0 = .ok (.aload_n 0, 1) := by decide +kernel
theorem d_Archiver_scoreOnly_1 : decode c_Archiver_scoreOnly 1 = .ok (.iconst 0, 1) := by decide +kernel
theorem d_Archiver_scoreOnly_2 : decode c_Archiver_scoreOnly 2 = .ok (.putfield 41, 3) := by decide +kernel
theorem d_Archiver_scoreOnly_5 : decode c_Archiver_scoreOnly 5 = .ok (.aload_n 0, 1) := by decide +kernel
theorem d_Archiver_scoreOnly_6 : decode c_Archiver_scoreOnly 6 = .ok (.aload_n 1, 1) := by decide +kernel
theorem d_Archiver_scoreOnly_7 : decode c_Archiver_scoreOnly 7 = .ok (.invokevirtual 55, 3) := by decide +kernel
theorem d_Archiver_scoreOnly_10 : decode c_Archiver_scoreOnly 10 = .ok (.return_, 1) := by decide +kernel
abbrev c_Archiver_copyRootScore : ByteArray := prog_2_method_4_code
def y_Archiver_copyRootScore : MethodName := ⟨"EpochServer$Archiver", "copyRootScore", "([II)V"⟩
theorem d_Archiver_copyRootScore_0 : decode c_Archiver_copyRootScore 0 = .ok (.iconst 0, 1) := by decide +kernel
theorem d_Archiver_copyRootScore_1 : decode c_Archiver_copyRootScore 1 = .ok (.istore_n 3, 1) := by decide +kernel
theorem d_Archiver_copyRootScore_2 : decode c_Archiver_copyRootScore 2 = .ok (.iload_n 3, 1) := by decide +kernel
theorem d_Archiver_copyRootScore_3 : decode c_Archiver_copyRootScore 3 = .ok (.iconst 5, 1) := by decide +kernel
theorem d_Archiver_copyRootScore_4 : decode c_Archiver_copyRootScore 4 = .ok (.if_icmp .ge 38, 3) := by decide +kernel
theorem d_Archiver_copyRootScore_7 : decode c_Archiver_copyRootScore 7 = .ok (.iload_n 2, 1) := by decide +kernel
theorem d_Archiver_copyRootScore_8 : decode c_Archiver_copyRootScore 8 = .ok (.iload_n 3, 1) := by decide +kernel
theorem d_Archiver_copyRootScore_9 : decode c_Archiver_copyRootScore 9 = .ok (.iadd, 1) := by decide +kernel
theorem d_Archiver_copyRootScore_10 : decode c_Archiver_copyRootScore 10 = .ok (.istore 4, 2) := by decide +kernel
theorem d_Archiver_copyRootScore_12 : decode c_Archiver_copyRootScore 12 = .ok (.iload 4, 2) := by decide +kernel
theorem d_Archiver_copyRootScore_14 : decode c_Archiver_copyRootScore 14 = .ok (.ifCond .lt 22, 3) := by decide +kernel
theorem d_Archiver_copyRootScore_17 : decode c_Archiver_copyRootScore 17 = .ok (.iload 4, 2) := by decide +kernel
theorem d_Archiver_copyRootScore_19 : decode c_Archiver_copyRootScore 19 = .ok (.aload_n 1, 1) := by decide +kernel
theorem d_Archiver_copyRootScore_20 : decode c_Archiver_copyRootScore 20 = .ok (.arraylength, 1) := by decide +kernel
theorem d_Archiver_copyRootScore_21 : decode c_Archiver_copyRootScore 21 = .ok (.if_icmp .ge 15, 3) := by decide +kernel
theorem d_Archiver_copyRootScore_24 : decode c_Archiver_copyRootScore 24 = .ok (.aload_n 1, 1) := by decide +kernel
theorem d_Archiver_copyRootScore_25 : decode c_Archiver_copyRootScore 25 = .ok (.iload 4, 2) := by decide +kernel
theorem d_Archiver_copyRootScore_27 : decode c_Archiver_copyRootScore 27 = .ok (.aload_n 0, 1) := by decide +kernel
theorem d_Archiver_copyRootScore_28 : decode c_Archiver_copyRootScore 28 = .ok (.getfield 34, 3) := by decide +kernel
theorem d_Archiver_copyRootScore_31 : decode c_Archiver_copyRootScore 31 = .ok (.iconst 0, 1) := by decide +kernel
theorem d_Archiver_copyRootScore_32 : decode c_Archiver_copyRootScore 32 = .ok (.iload_n 3, 1) := by decide +kernel
theorem d_Archiver_copyRootScore_33 : decode c_Archiver_copyRootScore 33 = .ok (.iadd, 1) := by decide +kernel
theorem d_Archiver_copyRootScore_34 : decode c_Archiver_copyRootScore 34 = .ok (.iaload, 1) := by decide +kernel
theorem d_Archiver_copyRootScore_35 : decode c_Archiver_copyRootScore 35 = .ok (.iastore, 1) := by decide +kernel
theorem d_Archiver_copyRootScore_36 : decode c_Archiver_copyRootScore 36 = .ok (.iinc 3 1, 3) := by decide +kernel
theorem d_Archiver_copyRootScore_39 : decode c_Archiver_copyRootScore 39 = .ok (.goto (-37), 3) := by decide +kernel
theorem d_Archiver_copyRootScore_42 : decode c_Archiver_copyRootScore 42 = .ok (.return_, 1) := by decide +kernel
abbrev c_Archiver_goOver : ByteArray := prog_2_method_5_code
def y_Archiver_goOver : MethodName := ⟨"EpochServer$Archiver", "goOver", "(LEpochServer$Tree;)V"⟩
theorem d_Archiver_goOver_0 : decode c_Archiver_goOver 0 = .ok (.aload_n 1, 1) := by decide +kernel
theorem d_Archiver_goOver_1 : decode c_Archiver_goOver 1 = .ok (.aload_n 0, 1) := by decide +kernel
theorem d_Archiver_goOver_2 : decode c_Archiver_goOver 2 = .ok (.getfield 38, 3) := by decide +kernel
theorem d_Archiver_goOver_5 : decode c_Archiver_goOver 5 = .ok (.invokevirtual 63, 3) := by decide +kernel
theorem d_Archiver_goOver_8 : decode c_Archiver_goOver 8 = .ok (.istore_n 2, 1) := by decide +kernel
theorem d_Archiver_goOver_9 : decode c_Archiver_goOver 9 = .ok (.iconst 0, 1) := by decide +kernel
theorem d_Archiver_goOver_10 : decode c_Archiver_goOver 10 = .ok (.istore_n 3, 1) := by decide +kernel
theorem d_Archiver_goOver_11 : decode c_Archiver_goOver 11 = .ok (.iload_n 3, 1) := by decide +kernel
theorem d_Archiver_goOver_12 : decode c_Archiver_goOver 12 = .ok (.iload_n 2, 1) := by decide +kernel
theorem d_Archiver_goOver_13 : decode c_Archiver_goOver 13 = .ok (.if_icmp .ge 132, 3) := by decide +kernel
theorem d_Archiver_goOver_16 : decode c_Archiver_goOver 16 = .ok (.iload_n 3, 1) := by decide +kernel
theorem d_Archiver_goOver_17 : decode c_Archiver_goOver 17 = .ok (.aload_n 0, 1) := by decide +kernel
theorem d_Archiver_goOver_18 : decode c_Archiver_goOver 18 = .ok (.getfield 38, 3) := by decide +kernel
theorem d_Archiver_goOver_21 : decode c_Archiver_goOver 21 = .ok (.arraylength, 1) := by decide +kernel
theorem d_Archiver_goOver_22 : decode c_Archiver_goOver 22 = .ok (.if_icmp .ge 123, 3) := by decide +kernel
theorem d_Archiver_goOver_25 : decode c_Archiver_goOver 25 = .ok (.aload_n 0, 1) := by decide +kernel
theorem d_Archiver_goOver_26 : decode c_Archiver_goOver 26 = .ok (.getfield 38, 3) := by decide +kernel
theorem d_Archiver_goOver_29 : decode c_Archiver_goOver 29 = .ok (.iload_n 3, 1) := by decide +kernel
theorem d_Archiver_goOver_30 : decode c_Archiver_goOver 30 = .ok (.iaload, 1) := by decide +kernel
theorem d_Archiver_goOver_31 : decode c_Archiver_goOver 31 = .ok (.istore 4, 2) := by decide +kernel
theorem d_Archiver_goOver_33 : decode c_Archiver_goOver 33 = .ok (.aload_n 1, 1) := by decide +kernel
theorem d_Archiver_goOver_34 : decode c_Archiver_goOver 34 = .ok (.iload 4, 2) := by decide +kernel
theorem d_Archiver_goOver_36 : decode c_Archiver_goOver 36 = .ok (.invokevirtual 69, 3) := by decide +kernel
theorem d_Archiver_goOver_39 : decode c_Archiver_goOver 39 = .ok (.astore 5, 2) := by decide +kernel
theorem d_Archiver_goOver_41 : decode c_Archiver_goOver 41 = .ok (.aload 5, 2) := by decide +kernel
theorem d_Archiver_goOver_43 : decode c_Archiver_goOver 43 = .ok (.ifnonnull 6, 3) := by decide +kernel
theorem d_Archiver_goOver_46 : decode c_Archiver_goOver 46 = .ok (.goto 93, 3) := by decide +kernel
theorem d_Archiver_goOver_49 : decode c_Archiver_goOver 49 = .ok (.aload_n 0, 1) := by decide +kernel
theorem d_Archiver_goOver_50 : decode c_Archiver_goOver 50 = .ok (.getfield 30, 3) := by decide +kernel
theorem d_Archiver_goOver_53 : decode c_Archiver_goOver 53 = .ok (.invokevirtual 73, 3) := by decide +kernel
theorem d_Archiver_goOver_56 : decode c_Archiver_goOver 56 = .ok (.aload 5, 2) := by decide +kernel
theorem d_Archiver_goOver_58 : decode c_Archiver_goOver 58 = .ok (.invokevirtual 76, 3) := by decide +kernel
theorem d_Archiver_goOver_61 : decode c_Archiver_goOver 61 = .ok (.ifCond .eq 13, 3) := by decide +kernel
theorem d_Archiver_goOver_64 : decode c_Archiver_goOver 64 = .ok (.aload_n 0, 1) := by decide +kernel
theorem d_Archiver_goOver_65 : decode c_Archiver_goOver 65 = .ok (.aload_n 1, 1) := by decide +kernel
theorem d_Archiver_goOver_66 : decode c_Archiver_goOver 66 = .ok (.iload 4, 2) := by decide +kernel
theorem d_Archiver_goOver_68 : decode c_Archiver_goOver 68 = .ok (.invokevirtual 82, 3) := by decide +kernel
theorem d_Archiver_goOver_71 : decode c_Archiver_goOver 71 = .ok (.goto 12, 3) := by decide +kernel
theorem d_Archiver_goOver_74 : decode c_Archiver_goOver 74 = .ok (.aload_n 0, 1) := by decide +kernel
theorem d_Archiver_goOver_75 : decode c_Archiver_goOver 75 = .ok (.aload 5, 2) := by decide +kernel
theorem d_Archiver_goOver_77 : decode c_Archiver_goOver 77 = .ok (.getfield 86, 3) := by decide +kernel
theorem d_Archiver_goOver_80 : decode c_Archiver_goOver 80 = .ok (.invokevirtual 90, 3) := by decide +kernel
theorem d_Archiver_goOver_83 : decode c_Archiver_goOver 83 = .ok (.aload_n 0, 1) := by decide +kernel
theorem d_Archiver_goOver_84 : decode c_Archiver_goOver 84 = .ok (.aload_n 0, 1) := by decide +kernel
theorem d_Archiver_goOver_85 : decode c_Archiver_goOver 85 = .ok (.getfield 30, 3) := by decide +kernel
theorem d_Archiver_goOver_88 : decode c_Archiver_goOver 88 = .ok (.getfield 94, 3) := by decide +kernel
theorem d_Archiver_goOver_91 : decode c_Archiver_goOver 91 = .ok (.iconst 0, 1) := by decide +kernel
theorem d_Archiver_goOver_92 : decode c_Archiver_goOver 92 = .ok (.aload_n 0, 1) := by decide +kernel
theorem d_Archiver_goOver_93 : decode c_Archiver_goOver 93 = .ok (.getfield 30, 3) := by decide +kernel
theorem d_Archiver_goOver_96 : decode c_Archiver_goOver 96 = .ok (.invokevirtual 97, 3) := by decide +kernel
theorem d_Archiver_goOver_99 : decode c_Archiver_goOver 99 = .ok (.invokevirtual 100, 3) := by decide +kernel
theorem d_Archiver_goOver_102 : decode c_Archiver_goOver 102 = .ok (.iconst 0, 1) := by decide +kernel
theorem d_Archiver_goOver_103 : decode c_Archiver_goOver 103 = .ok (.istore 6, 2) := by decide +kernel
theorem d_Archiver_goOver_105 : decode c_Archiver_goOver 105 = .ok (.iload 6, 2) := by decide +kernel
theorem d_Archiver_goOver_107 : decode c_Archiver_goOver 107 = .ok (.iconst 5, 1) := by decide +kernel
theorem d_Archiver_goOver_108 : decode c_Archiver_goOver 108 = .ok (.if_icmp .ge 31, 3) := by decide +kernel
theorem d_Archiver_goOver_111 : decode c_Archiver_goOver 111 = .ok (.aload_n 0, 1) := by decide +kernel
theorem d_Archiver_goOver_112 : decode c_Archiver_goOver 112 = .ok (.getfield 34, 3) := by decide +kernel
theorem d_Archiver_goOver_115 : decode c_Archiver_goOver 115 = .ok (.iload 4, 2) := by decide +kernel
theorem d_Archiver_goOver_117 : decode c_Archiver_goOver 117 = .ok (.iconst 5, 1) := by decide +kernel
theorem d_Archiver_goOver_118 : decode c_Archiver_goOver 118 = .ok (.imul, 1) := by decide +kernel
theorem d_Archiver_goOver_119 : decode c_Archiver_goOver 119 = .ok (.iload 6, 2) := by decide +kernel
theorem d_Archiver_goOver_121 : decode c_Archiver_goOver 121 = .ok (.iadd, 1) := by decide +kernel
theorem d_Archiver_goOver_122 : decode c_Archiver_goOver 122 = .ok (.aload_n 0, 1) := by decide +kernel
theorem d_Archiver_goOver_123 : decode c_Archiver_goOver 123 = .ok (.getfield 21, 3) := by decide +kernel
theorem d_Archiver_goOver_126 : decode c_Archiver_goOver 126 = .ok (.getfield 104, 3) := by decide +kernel
theorem d_Archiver_goOver_129 : decode c_Archiver_goOver 129 = .ok (.iload 6, 2) := by decide +kernel
theorem d_Archiver_goOver_131 : decode c_Archiver_goOver 131 = .ok (.iaload, 1) := by decide +kernel
theorem d_Archiver_goOver_132 : decode c_Archiver_goOver 132 = .ok (.iastore, 1) := by decide +kernel
theorem d_Archiver_goOver_133 : decode c_Archiver_goOver 133 = .ok (.iinc 6 1, 3) := by decide +kernel
theorem d_Archiver_goOver_136 : decode c_Archiver_goOver 136 = .ok (.goto (-31), 3) := by decide +kernel
theorem d_Archiver_goOver_139 : decode c_Archiver_goOver 139 = .ok (.iinc 3 1, 3) := by decide +kernel
theorem d_Archiver_goOver_142 : decode c_Archiver_goOver 142 = .ok (.goto (-131), 3) := by decide +kernel
theorem d_Archiver_goOver_145 : decode c_Archiver_goOver 145 = .ok (.return_, 1) := by decide +kernel
abbrev c_Archiver_fillFromDirectory : ByteArray := prog_2_method_6_code
def y_Archiver_fillFromDirectory : MethodName := ⟨"EpochServer$Archiver", "fillFromDirectory", "(LEpochServer$Tree;I)V"⟩
theorem d_Archiver_fillFromDirectory_0 : decode c_Archiver_fillFromDirectory 0 = .ok (.iconst 0, 1) := by decide +kernel
theorem d_Archiver_fillFromDirectory_1 : decode c_Archiver_fillFromDirectory 1 = .ok (.istore_n 3, 1) := by decide +kernel
theorem d_Archiver_fillFromDirectory_2 : decode c_Archiver_fillFromDirectory 2 = .ok (.iload_n 3, 1) := by decide +kernel
theorem d_Archiver_fillFromDirectory_3 : decode c_Archiver_fillFromDirectory 3 = .ok (.bipush 60, 2) := by decide +kernel
theorem d_Archiver_fillFromDirectory_5 : decode c_Archiver_fillFromDirectory 5 = .ok (.if_icmp .ge 64, 3) := by decide +kernel
theorem d_Archiver_fillFromDirectory_8 : decode c_Archiver_fillFromDirectory 8 = .ok (.aload_n 1, 1) := by decide +kernel
theorem d_Archiver_fillFromDirectory_9 : decode c_Archiver_fillFromDirectory 9 = .ok (.iload_n 2, 1) := by decide +kernel
theorem d_Archiver_fillFromDirectory_10 : decode c_Archiver_fillFromDirectory 10 = .ok (.iload_n 3, 1) := by decide +kernel
theorem d_Archiver_fillFromDirectory_11 : decode c_Archiver_fillFromDirectory 11 = .ok (.invokevirtual 107, 3) := by decide +kernel
theorem d_Archiver_fillFromDirectory_14 : decode c_Archiver_fillFromDirectory 14 = .ok (.astore 4, 2) := by decide +kernel
theorem d_Archiver_fillFromDirectory_16 : decode c_Archiver_fillFromDirectory 16 = .ok (.aload 4, 2) := by decide +kernel
theorem d_Archiver_fillFromDirectory_18 : decode c_Archiver_fillFromDirectory 18 = .ok (.ifnull 45, 3) := by decide +kernel
theorem d_Archiver_fillFromDirectory_21 : decode c_Archiver_fillFromDirectory 21 = .ok (.aload_n 0, 1) := by decide +kernel
theorem d_Archiver_fillFromDirectory_22 : decode c_Archiver_fillFromDirectory 22 = .ok (.getfield 30, 3) := by decide +kernel
theorem d_Archiver_fillFromDirectory_25 : decode c_Archiver_fillFromDirectory 25 = .ok (.aload 4, 2) := by decide +kernel
theorem d_Archiver_fillFromDirectory_27 : decode c_Archiver_fillFromDirectory 27 = .ok (.invokevirtual 111, 3) := by decide +kernel
theorem d_Archiver_fillFromDirectory_30 : decode c_Archiver_fillFromDirectory 30 = .ok (.iconst 0, 1) := by decide +kernel
theorem d_Archiver_fillFromDirectory_31 : decode c_Archiver_fillFromDirectory 31 = .ok (.istore 5, 2) := by decide +kernel
theorem d_Archiver_fillFromDirectory_33 : decode c_Archiver_fillFromDirectory 33 = .ok (.iload 5, 2) := by decide +kernel
theorem d_Archiver_fillFromDirectory_35 : decode c_Archiver_fillFromDirectory 35 = .ok (.iconst 5, 1) := by decide +kernel
theorem d_Archiver_fillFromDirectory_36 : decode c_Archiver_fillFromDirectory 36 = .ok (.if_icmp .ge 27, 3) := by decide +kernel
theorem d_Archiver_fillFromDirectory_39 : decode c_Archiver_fillFromDirectory 39 = .ok (.aload_n 0, 1) := by decide +kernel
theorem d_Archiver_fillFromDirectory_40 : decode c_Archiver_fillFromDirectory 40 = .ok (.getfield 30, 3) := by decide +kernel
theorem d_Archiver_fillFromDirectory_43 : decode c_Archiver_fillFromDirectory 43 = .ok (.aload_n 0, 1) := by decide +kernel
theorem d_Archiver_fillFromDirectory_44 : decode c_Archiver_fillFromDirectory 44 = .ok (.getfield 34, 3) := by decide +kernel
theorem d_Archiver_fillFromDirectory_47 : decode c_Archiver_fillFromDirectory 47 = .ok (.iload_n 3, 1) := by decide +kernel
theorem d_Archiver_fillFromDirectory_48 : decode c_Archiver_fillFromDirectory 48 = .ok (.iconst 5, 1) := by decide +kernel
theorem d_Archiver_fillFromDirectory_49 : decode c_Archiver_fillFromDirectory 49 = .ok (.imul, 1) := by decide +kernel
theorem d_Archiver_fillFromDirectory_50 : decode c_Archiver_fillFromDirectory 50 = .ok (.iload 5, 2) := by decide +kernel
theorem d_Archiver_fillFromDirectory_52 : decode c_Archiver_fillFromDirectory 52 = .ok (.iadd, 1) := by decide +kernel
theorem d_Archiver_fillFromDirectory_53 : decode c_Archiver_fillFromDirectory 53 = .ok (.iaload, 1) := by decide +kernel
theorem d_Archiver_fillFromDirectory_54 : decode c_Archiver_fillFromDirectory 54 = .ok (.invokevirtual 115, 3) := by decide +kernel
theorem d_Archiver_fillFromDirectory_57 : decode c_Archiver_fillFromDirectory 57 = .ok (.iinc 5 1, 3) := by decide +kernel
theorem d_Archiver_fillFromDirectory_60 : decode c_Archiver_fillFromDirectory 60 = .ok (.goto (-27), 3) := by decide +kernel
theorem d_Archiver_fillFromDirectory_63 : decode c_Archiver_fillFromDirectory 63 = .ok (.iinc 3 1, 3) := by decide +kernel
theorem d_Archiver_fillFromDirectory_66 : decode c_Archiver_fillFromDirectory 66 = .ok (.goto (-64), 3) := by decide +kernel
theorem d_Archiver_fillFromDirectory_69 : decode c_Archiver_fillFromDirectory 69 = .ok (.return_, 1) := by decide +kernel
abbrev c_Archiver_fillFromData : ByteArray := prog_2_method_7_code
def y_Archiver_fillFromData : MethodName := ⟨"EpochServer$Archiver", "fillFromData", "([B)V"⟩
theorem d_Archiver_fillFromData_0 : decode c_Archiver_fillFromData 0 = .ok (.iconst 0, 1) := by decide +kernel
theorem d_Archiver_fillFromData_1 : decode c_Archiver_fillFromData 1 = .ok (.istore_n 2, 1) := by decide +kernel
theorem d_Archiver_fillFromData_2 : decode c_Archiver_fillFromData 2 = .ok (.iload_n 2, 1) := by decide +kernel
theorem d_Archiver_fillFromData_3 : decode c_Archiver_fillFromData 3 = .ok (.aload_n 1, 1) := by decide +kernel
theorem d_Archiver_fillFromData_4 : decode c_Archiver_fillFromData 4 = .ok (.arraylength, 1) := by decide +kernel
theorem d_Archiver_fillFromData_5 : decode c_Archiver_fillFromData 5 = .ok (.if_icmp .ge 53, 3) := by decide +kernel
theorem d_Archiver_fillFromData_8 : decode c_Archiver_fillFromData 8 = .ok (.aload_n 0, 1) := by decide +kernel
theorem d_Archiver_fillFromData_9 : decode c_Archiver_fillFromData 9 = .ok (.aload_n 1, 1) := by decide +kernel
theorem d_Archiver_fillFromData_10 : decode c_Archiver_fillFromData 10 = .ok (.iload_n 2, 1) := by decide +kernel
theorem d_Archiver_fillFromData_11 : decode c_Archiver_fillFromData 11 = .ok (.bipush 64, 2) := by decide +kernel
theorem d_Archiver_fillFromData_13 : decode c_Archiver_fillFromData 13 = .ok (.aload_n 1, 1) := by decide +kernel
theorem d_Archiver_fillFromData_14 : decode c_Archiver_fillFromData 14 = .ok (.arraylength, 1) := by decide +kernel
theorem d_Archiver_fillFromData_15 : decode c_Archiver_fillFromData 15 = .ok (.iload_n 2, 1) := by decide +kernel
theorem d_Archiver_fillFromData_16 : decode c_Archiver_fillFromData 16 = .ok (.isub, 1) := by decide +kernel
theorem d_Archiver_fillFromData_17 : decode c_Archiver_fillFromData 17 = .ok (.invokestatic 118, 3) := by decide +kernel
theorem d_Archiver_fillFromData_20 : decode c_Archiver_fillFromData 20 = .ok (.invokevirtual 100, 3) := by decide +kernel
theorem d_Archiver_fillFromData_23 : decode c_Archiver_fillFromData 23 = .ok (.iconst 0, 1) := by decide +kernel
theorem d_Archiver_fillFromData_24 : decode c_Archiver_fillFromData 24 = .ok (.istore_n 3, 1) := by decide +kernel
theorem d_Archiver_fillFromData_25 : decode c_Archiver_fillFromData 25 = .ok (.iload_n 3, 1) := by decide +kernel
theorem d_Archiver_fillFromData_26 : decode c_Archiver_fillFromData 26 = .ok (.iconst 5, 1) := by decide +kernel
theorem d_Archiver_fillFromData_27 : decode c_Archiver_fillFromData 27 = .ok (.if_icmp .ge 25, 3) := by decide +kernel
theorem d_Archiver_fillFromData_30 : decode c_Archiver_fillFromData 30 = .ok (.aload_n 0, 1) := by decide +kernel
theorem d_Archiver_fillFromData_31 : decode c_Archiver_fillFromData 31 = .ok (.getfield 30, 3) := by decide +kernel
theorem d_Archiver_fillFromData_34 : decode c_Archiver_fillFromData 34 = .ok (.aload_n 0, 1) := by decide +kernel
theorem d_Archiver_fillFromData_35 : decode c_Archiver_fillFromData 35 = .ok (.getfield 21, 3) := by decide +kernel
theorem d_Archiver_fillFromData_38 : decode c_Archiver_fillFromData 38 = .ok (.getfield 104, 3) := by decide +kernel
theorem d_Archiver_fillFromData_41 : decode c_Archiver_fillFromData 41 = .ok (.iload_n 3, 1) := by decide +kernel
theorem d_Archiver_fillFromData_42 : decode c_Archiver_fillFromData 42 = .ok (.iaload, 1) := by decide +kernel
theorem d_Archiver_fillFromData_43 : decode c_Archiver_fillFromData 43 = .ok (.invokevirtual 115, 3) := by decide +kernel
theorem d_Archiver_fillFromData_46 : decode c_Archiver_fillFromData 46 = .ok (.iinc 3 1, 3) := by decide +kernel
theorem d_Archiver_fillFromData_49 : decode c_Archiver_fillFromData 49 = .ok (.goto (-24), 3) := by decide +kernel
theorem d_Archiver_fillFromData_52 : decode c_Archiver_fillFromData 52 = .ok (.iinc 2 64, 3) := by decide +kernel
theorem d_Archiver_fillFromData_55 : decode c_Archiver_fillFromData 55 = .ok (.goto (-53), 3) := by decide +kernel
theorem d_Archiver_fillFromData_58 : decode c_Archiver_fillFromData 58 = .ok (.return_, 1) := by decide +kernel
abbrev c_Archiver_offer : ByteArray := prog_2_method_8_code
def y_Archiver_offer : MethodName := ⟨"EpochServer$Archiver", "offer", "([BII)V"⟩
theorem d_Archiver_offer_0 : decode c_Archiver_offer 0 = .ok (.aload_n 0, 1) := by decide +kernel
theorem d_Archiver_offer_1 : decode c_Archiver_offer 1 = .ok (.getfield 21, 3) := by decide +kernel
theorem d_Archiver_offer_4 : decode c_Archiver_offer 4 = .ok (.aload_n 1, 1) := by decide +kernel
theorem d_Archiver_offer_5 : decode c_Archiver_offer 5 = .ok (.iload_n 2, 1) := by decide +kernel
theorem d_Archiver_offer_6 : decode c_Archiver_offer 6 = .ok (.iload_n 3, 1) := by decide +kernel
theorem d_Archiver_offer_7 : decode c_Archiver_offer 7 = .ok (.invokevirtual 124, 3) := by decide +kernel
theorem d_Archiver_offer_10 : decode c_Archiver_offer 10 = .ok (.aload_n 0, 1) := by decide +kernel
theorem d_Archiver_offer_11 : decode c_Archiver_offer 11 = .ok (.getfield 41, 3) := by decide +kernel
theorem d_Archiver_offer_14 : decode c_Archiver_offer 14 = .ok (.ifCond .eq 26, 3) := by decide +kernel
theorem d_Archiver_offer_17 : decode c_Archiver_offer 17 = .ok (.aload_n 0, 1) := by decide +kernel
theorem d_Archiver_offer_18 : decode c_Archiver_offer 18 = .ok (.getfield 12, 3) := by decide +kernel
theorem d_Archiver_offer_21 : decode c_Archiver_offer 21 = .ok (.aload_n 0, 1) := by decide +kernel
theorem d_Archiver_offer_22 : decode c_Archiver_offer 22 = .ok (.getfield 21, 3) := by decide +kernel
theorem d_Archiver_offer_25 : decode c_Archiver_offer 25 = .ok (.getfield 104, 3) := by decide +kernel
theorem d_Archiver_offer_28 : decode c_Archiver_offer 28 = .ok (.iload_n 3, 1) := by decide +kernel
theorem d_Archiver_offer_29 : decode c_Archiver_offer 29 = .ok (.invokevirtual 127, 3) := by decide +kernel
theorem d_Archiver_offer_32 : decode c_Archiver_offer 32 = .ok (.ifCond .ne 8, 3) := by decide +kernel
theorem d_Archiver_offer_35 : decode c_Archiver_offer 35 = .ok (.aload_n 0, 1) := by decide +kernel
theorem d_Archiver_offer_36 : decode c_Archiver_offer 36 = .ok (.iconst 1, 1) := by decide +kernel
theorem d_Archiver_offer_37 : decode c_Archiver_offer 37 = .ok (.putfield 45, 3) := by decide +kernel
theorem d_Archiver_offer_40 : decode c_Archiver_offer 40 = .ok (.return_, 1) := by decide +kernel
abbrev c_Bytes_init : ByteArray := prog_3_method_1_code
def y_Bytes_init : MethodName := ⟨"EpochServer$Bytes", "<init>", "(I)V"⟩
theorem d_Bytes_init_0 : decode c_Bytes_init 0 = .ok (.aload_n 0, 1) := by decide +kernel
theorem d_Bytes_init_1 : decode c_Bytes_init 1 = .ok (.invokespecial 1, 3) := by decide +kernel
theorem d_Bytes_init_4 : decode c_Bytes_init 4 = .ok (.aload_n 0, 1) := by decide +kernel
theorem d_Bytes_init_5 : decode c_Bytes_init 5 = .ok (.iconst 0, 1) := by decide +kernel
theorem d_Bytes_init_6 : decode c_Bytes_init 6 = .ok (.putfield 7, 3) := by decide +kernel
theorem d_Bytes_init_9 : decode c_Bytes_init 9 = .ok (.aload_n 0, 1) := by decide +kernel
theorem d_Bytes_init_10 : decode c_Bytes_init 10 = .ok (.iconst 0, 1) := by decide +kernel
theorem d_Bytes_init_11 : decode c_Bytes_init 11 = .ok (.iload_n 1, 1) := by decide +kernel
theorem d_Bytes_init_12 : decode c_Bytes_init 12 = .ok (.invokestatic 13, 3) := by decide +kernel
theorem d_Bytes_init_15 : decode c_Bytes_init 15 = .ok (.newarray .byte, 2) := by decide +kernel
theorem d_Bytes_init_17 : decode c_Bytes_init 17 = .ok (.putfield 19, 3) := by decide +kernel
theorem d_Bytes_init_20 : decode c_Bytes_init 20 = .ok (.return_, 1) := by decide +kernel
abbrev c_Bytes_size : ByteArray := prog_3_method_2_code
def y_Bytes_size : MethodName := ⟨"EpochServer$Bytes", "size", "()I"⟩
theorem d_Bytes_size_0 : decode c_Bytes_size 0 = .ok (.aload_n 0, 1) := by decide +kernel
theorem d_Bytes_size_1 : decode c_Bytes_size 1 = .ok (.getfield 7, 3) := by decide +kernel
theorem d_Bytes_size_4 : decode c_Bytes_size 4 = .ok (.ireturn, 1) := by decide +kernel
abbrev c_Bytes_room : ByteArray := prog_3_method_3_code
def y_Bytes_room : MethodName := ⟨"EpochServer$Bytes", "room", "()I"⟩
theorem d_Bytes_room_0 : decode c_Bytes_room 0 = .ok (.aload_n 0, 1) := by decide +kernel
theorem d_Bytes_room_1 : decode c_Bytes_room 1 = .ok (.getfield 19, 3) := by decide +kernel
theorem d_Bytes_room_4 : decode c_Bytes_room 4 = .ok (.arraylength, 1) := by decide +kernel
theorem d_Bytes_room_5 : decode c_Bytes_room 5 = .ok (.aload_n 0, 1) := by decide +kernel
theorem d_Bytes_room_6 : decode c_Bytes_room 6 = .ok (.getfield 7, 3) := by decide +kernel
theorem d_Bytes_room_9 : decode c_Bytes_room 9 = .ok (.isub, 1) := by decide +kernel
theorem d_Bytes_room_10 : decode c_Bytes_room 10 = .ok (.ireturn, 1) := by decide +kernel
abbrev c_Bytes_clear : ByteArray := prog_3_method_4_code
def y_Bytes_clear : MethodName := ⟨"EpochServer$Bytes", "clear", "()V"⟩
theorem d_Bytes_clear_0 : decode c_Bytes_clear 0 = .ok (.aload_n 0, 1) := by decide +kernel
theorem d_Bytes_clear_1 : decode c_Bytes_clear 1 = .ok (.iconst 0, 1) := by decide +kernel
theorem d_Bytes_clear_2 : decode c_Bytes_clear 2 = .ok (.putfield 7, 3) := by decide +kernel
theorem d_Bytes_clear_5 : decode c_Bytes_clear 5 = .ok (.return_, 1) := by decide +kernel
abbrev c_Bytes_at : ByteArray := prog_3_method_5_code
def y_Bytes_at : MethodName := ⟨"EpochServer$Bytes", "at", "(I)I"⟩
theorem d_Bytes_at_0 : decode c_Bytes_at 0 = .ok (.iload_n 1, 1) := by decide +kernel
theorem d_Bytes_at_1 : decode c_Bytes_at 1 = .ok (.ifCond .lt 11, 3) := by decide +kernel
theorem d_Bytes_at_4 : decode c_Bytes_at 4 = .ok (.iload_n 1, 1) := by decide +kernel
theorem d_Bytes_at_5 : decode c_Bytes_at 5 = .ok (.aload_n 0, 1) := by decide +kernel
theorem d_Bytes_at_6 : decode c_Bytes_at 6 = .ok (.getfield 7, 3) := by decide +kernel
theorem d_Bytes_at_9 : decode c_Bytes_at 9 = .ok (.if_icmp .lt 7, 3) := by decide +kernel
theorem d_Bytes_at_12 : decode c_Bytes_at 12 = .ok (.iconst (-1), 1) := by decide +kernel
theorem d_Bytes_at_13 : decode c_Bytes_at 13 = .ok (.goto 13, 3) := by decide +kernel
theorem d_Bytes_at_16 : decode c_Bytes_at 16 = .ok (.aload_n 0, 1) := by decide +kernel
theorem d_Bytes_at_17 : decode c_Bytes_at 17 = .ok (.getfield 19, 3) := by decide +kernel
theorem d_Bytes_at_20 : decode c_Bytes_at 20 = .ok (.iload_n 1, 1) := by decide +kernel
theorem d_Bytes_at_21 : decode c_Bytes_at 21 = .ok (.baload, 1) := by decide +kernel
theorem d_Bytes_at_22 : decode c_Bytes_at 22 = .ok (.sipush 255, 3) := by decide +kernel
theorem d_Bytes_at_25 : decode c_Bytes_at 25 = .ok (.iand, 1) := by decide +kernel
theorem d_Bytes_at_26 : decode c_Bytes_at 26 = .ok (.ireturn, 1) := by decide +kernel
abbrev c_Bytes_set : ByteArray := prog_3_method_6_code
def y_Bytes_set : MethodName := ⟨"EpochServer$Bytes", "set", "(III)V"⟩
theorem d_Bytes_set_0 : decode c_Bytes_set 0 = .ok (.iconst 0, 1) := by decide +kernel
theorem d_Bytes_set_1 : decode c_Bytes_set 1 = .ok (.istore 4, 2) := by decide +kernel
theorem d_Bytes_set_3 : decode c_Bytes_set 3 = .ok (.iload 4, 2) := by decide +kernel
theorem d_Bytes_set_5 : decode c_Bytes_set 5 = .ok (.iload_n 3, 1) := by decide +kernel
theorem d_Bytes_set_6 : decode c_Bytes_set 6 = .ok (.if_icmp .ge 41, 3) := by decide +kernel
theorem d_Bytes_set_9 : decode c_Bytes_set 9 = .ok (.iload_n 1, 1) := by decide +kernel
theorem d_Bytes_set_10 : decode c_Bytes_set 10 = .ok (.ifCond .lt 31, 3) := by decide +kernel
theorem d_Bytes_set_13 : decode c_Bytes_set 13 = .ok (.iload_n 1, 1) := by decide +kernel
theorem d_Bytes_set_14 : decode c_Bytes_set 14 = .ok (.aload_n 0, 1) := by decide +kernel
theorem d_Bytes_set_15 : decode c_Bytes_set 15 = .ok (.getfield 7, 3) := by decide +kernel
theorem d_Bytes_set_18 : decode c_Bytes_set 18 = .ok (.iload 4, 2) := by decide +kernel
theorem d_Bytes_set_20 : decode c_Bytes_set 20 = .ok (.isub, 1) := by decide +kernel
theorem d_Bytes_set_21 : decode c_Bytes_set 21 = .ok (.if_icmp .ge 20, 3) := by decide +kernel
theorem d_Bytes_set_24 : decode c_Bytes_set 24 = .ok (.aload_n 0, 1) := by decide +kernel
theorem d_Bytes_set_25 : decode c_Bytes_set 25 = .ok (.getfield 19, 3) := by decide +kernel
theorem d_Bytes_set_28 : decode c_Bytes_set 28 = .ok (.iload_n 1, 1) := by decide +kernel
theorem d_Bytes_set_29 : decode c_Bytes_set 29 = .ok (.iload 4, 2) := by decide +kernel
theorem d_Bytes_set_31 : decode c_Bytes_set 31 = .ok (.iadd, 1) := by decide +kernel
theorem d_Bytes_set_32 : decode c_Bytes_set 32 = .ok (.iload_n 2, 1) := by decide +kernel
theorem d_Bytes_set_33 : decode c_Bytes_set 33 = .ok (.bipush 8, 2) := by decide +kernel
theorem d_Bytes_set_35 : decode c_Bytes_set 35 = .ok (.iload 4, 2) := by decide +kernel
theorem d_Bytes_set_37 : decode c_Bytes_set 37 = .ok (.imul, 1) := by decide +kernel
theorem d_Bytes_set_38 : decode c_Bytes_set 38 = .ok (.ishr, 1) := by decide +kernel
theorem d_Bytes_set_39 : decode c_Bytes_set 39 = .ok (.i2b, 1) := by decide +kernel
theorem d_Bytes_set_40 : decode c_Bytes_set 40 = .ok (.bastore, 1) := by decide +kernel
theorem d_Bytes_set_41 : decode c_Bytes_set 41 = .ok (.iinc 4 1, 3) := by decide +kernel
theorem d_Bytes_set_44 : decode c_Bytes_set 44 = .ok (.goto (-41), 3) := by decide +kernel
theorem d_Bytes_set_47 : decode c_Bytes_set 47 = .ok (.return_, 1) := by decide +kernel
abbrev c_Bytes_put : ByteArray := prog_3_method_7_code
def y_Bytes_put : MethodName := ⟨"EpochServer$Bytes", "put", "(JI)V"⟩
theorem d_Bytes_put_0 : decode c_Bytes_put 0 = .ok (.iconst 0, 1) := by decide +kernel
theorem d_Bytes_put_1 : decode c_Bytes_put 1 = .ok (.istore 4, 2) := by decide +kernel
theorem d_Bytes_put_3 : decode c_Bytes_put 3 = .ok (.iload 4, 2) := by decide +kernel
theorem d_Bytes_put_5 : decode c_Bytes_put 5 = .ok (.iload_n 3, 1) := by decide +kernel
theorem d_Bytes_put_6 : decode c_Bytes_put 6 = .ok (.if_icmp .ge 49, 3) := by decide +kernel
theorem d_Bytes_put_9 : decode c_Bytes_put 9 = .ok (.aload_n 0, 1) := by decide +kernel
theorem d_Bytes_put_10 : decode c_Bytes_put 10 = .ok (.getfield 7, 3) := by decide +kernel
theorem d_Bytes_put_13 : decode c_Bytes_put 13 = .ok (.aload_n 0, 1) := by decide +kernel
theorem d_Bytes_put_14 : decode c_Bytes_put 14 = .ok (.getfield 19, 3) := by decide +kernel
theorem d_Bytes_put_17 : decode c_Bytes_put 17 = .ok (.arraylength, 1) := by decide +kernel
theorem d_Bytes_put_18 : decode c_Bytes_put 18 = .ok (.if_icmp .ge 31, 3) := by decide +kernel
theorem d_Bytes_put_21 : decode c_Bytes_put 21 = .ok (.aload_n 0, 1) := by decide +kernel
theorem d_Bytes_put_22 : decode c_Bytes_put 22 = .ok (.getfield 19, 3) := by decide +kernel
theorem d_Bytes_put_25 : decode c_Bytes_put 25 = .ok (.aload_n 0, 1) := by decide +kernel
theorem d_Bytes_put_26 : decode c_Bytes_put 26 = .ok (.getfield 7, 3) := by decide +kernel
theorem d_Bytes_put_29 : decode c_Bytes_put 29 = .ok (.lload_n 1, 1) := by decide +kernel
theorem d_Bytes_put_30 : decode c_Bytes_put 30 = .ok (.bipush 8, 2) := by decide +kernel
theorem d_Bytes_put_32 : decode c_Bytes_put 32 = .ok (.iload 4, 2) := by decide +kernel
theorem d_Bytes_put_34 : decode c_Bytes_put 34 = .ok (.imul, 1) := by decide +kernel
theorem d_Bytes_put_35 : decode c_Bytes_put 35 = .ok (.lshr, 1) := by decide +kernel
theorem d_Bytes_put_36 : decode c_Bytes_put 36 = .ok (.l2i, 1) := by decide +kernel
theorem d_Bytes_put_37 : decode c_Bytes_put 37 = .ok (.i2b, 1) := by decide +kernel
theorem d_Bytes_put_38 : decode c_Bytes_put 38 = .ok (.bastore, 1) := by decide +kernel
theorem d_Bytes_put_39 : decode c_Bytes_put 39 = .ok (.aload_n 0, 1) := by decide +kernel
theorem d_Bytes_put_40 : decode c_Bytes_put 40 = .ok (.dup, 1) := by decide +kernel
theorem d_Bytes_put_41 : decode c_Bytes_put 41 = .ok (.getfield 7, 3) := by decide +kernel
theorem d_Bytes_put_44 : decode c_Bytes_put 44 = .ok (.iconst 1, 1) := by decide +kernel
theorem d_Bytes_put_45 : decode c_Bytes_put 45 = .ok (.iadd, 1) := by decide +kernel
theorem d_Bytes_put_46 : decode c_Bytes_put 46 = .ok (.putfield 7, 3) := by decide +kernel
theorem d_Bytes_put_49 : decode c_Bytes_put 49 = .ok (.iinc 4 1, 3) := by decide +kernel
theorem d_Bytes_put_52 : decode c_Bytes_put 52 = .ok (.goto (-49), 3) := by decide +kernel
theorem d_Bytes_put_55 : decode c_Bytes_put 55 = .ok (.return_, 1) := by decide +kernel
abbrev c_Bytes_putHighestFirst : ByteArray := prog_3_method_8_code
def y_Bytes_putHighestFirst : MethodName := ⟨"EpochServer$Bytes", "putHighestFirst", "(I)V"⟩
theorem d_Bytes_putHighestFirst_0 : decode c_Bytes_putHighestFirst 0 = .ok (.aload_n 0, 1) := by decide +kernel
theorem d_Bytes_putHighestFirst_1 : decode c_Bytes_putHighestFirst 1 = .ok (.iload_n 1, 1) := by decide +kernel
theorem d_Bytes_putHighestFirst_2 : decode c_Bytes_putHighestFirst 2 = .ok (.bipush 24, 2) := by decide +kernel
theorem d_Bytes_putHighestFirst_4 : decode c_Bytes_putHighestFirst 4 = .ok (.ishr, 1) := by decide +kernel
theorem d_Bytes_putHighestFirst_5 : decode c_Bytes_putHighestFirst 5 = .ok (.i2l, 1) := by decide +kernel
theorem d_Bytes_putHighestFirst_6 : decode c_Bytes_putHighestFirst 6 = .ok (.iconst 1, 1) := by decide +kernel
theorem d_Bytes_putHighestFirst_7 : decode c_Bytes_putHighestFirst 7 = .ok (.invokevirtual 23, 3) := by decide +kernel
theorem d_Bytes_putHighestFirst_10 : decode c_Bytes_putHighestFirst 10 = .ok (.aload_n 0, 1) := by decide +kernel
theorem d_Bytes_putHighestFirst_11 : decode c_Bytes_putHighestFirst 11 = .ok (.iload_n 1, 1) := by decide +kernel
theorem d_Bytes_putHighestFirst_12 : decode c_Bytes_putHighestFirst 12 = .ok (.bipush 16, 2) := by decide +kernel
theorem d_Bytes_putHighestFirst_14 : decode c_Bytes_putHighestFirst 14 = .ok (.ishr, 1) := by decide +kernel
theorem d_Bytes_putHighestFirst_15 : decode c_Bytes_putHighestFirst 15 = .ok (.i2l, 1) := by decide +kernel
theorem d_Bytes_putHighestFirst_16 : decode c_Bytes_putHighestFirst 16 = .ok (.iconst 1, 1) := by decide +kernel
theorem d_Bytes_putHighestFirst_17 : decode c_Bytes_putHighestFirst 17 = .ok (.invokevirtual 23, 3) := by decide +kernel
theorem d_Bytes_putHighestFirst_20 : decode c_Bytes_putHighestFirst 20 = .ok (.aload_n 0, 1) := by decide +kernel
theorem d_Bytes_putHighestFirst_21 : decode c_Bytes_putHighestFirst 21 = .ok (.iload_n 1, 1) := by decide +kernel
theorem d_Bytes_putHighestFirst_22 : decode c_Bytes_putHighestFirst 22 = .ok (.bipush 8, 2) := by decide +kernel
theorem d_Bytes_putHighestFirst_24 : decode c_Bytes_putHighestFirst 24 = .ok (.ishr, 1) := by decide +kernel
theorem d_Bytes_putHighestFirst_25 : decode c_Bytes_putHighestFirst 25 = .ok (.i2l, 1) := by decide +kernel
theorem d_Bytes_putHighestFirst_26 : decode c_Bytes_putHighestFirst 26 = .ok (.iconst 1, 1) := by decide +kernel
theorem d_Bytes_putHighestFirst_27 : decode c_Bytes_putHighestFirst 27 = .ok (.invokevirtual 23, 3) := by decide +kernel
theorem d_Bytes_putHighestFirst_30 : decode c_Bytes_putHighestFirst 30 = .ok (.aload_n 0, 1) := by decide +kernel
theorem d_Bytes_putHighestFirst_31 : decode c_Bytes_putHighestFirst 31 = .ok (.iload_n 1, 1) := by decide +kernel
theorem d_Bytes_putHighestFirst_32 : decode c_Bytes_putHighestFirst 32 = .ok (.i2l, 1) := by decide +kernel
theorem d_Bytes_putHighestFirst_33 : decode c_Bytes_putHighestFirst 33 = .ok (.iconst 1, 1) := by decide +kernel
theorem d_Bytes_putHighestFirst_34 : decode c_Bytes_putHighestFirst 34 = .ok (.invokevirtual 23, 3) := by decide +kernel
theorem d_Bytes_putHighestFirst_37 : decode c_Bytes_putHighestFirst 37 = .ok (.return_, 1) := by decide +kernel
abbrev c_Bytes_putAll : ByteArray := prog_3_method_9_code
def y_Bytes_putAll : MethodName := ⟨"EpochServer$Bytes", "putAll", "([BII)V"⟩
theorem d_Bytes_putAll_0 : decode c_Bytes_putAll 0 = .ok (.iconst 0, 1) := by decide +kernel
theorem d_Bytes_putAll_1 : decode c_Bytes_putAll 1 = .ok (.istore 4, 2) := by decide +kernel
theorem d_Bytes_putAll_3 : decode c_Bytes_putAll 3 = .ok (.iload 4, 2) := by decide +kernel
theorem d_Bytes_putAll_5 : decode c_Bytes_putAll 5 = .ok (.iload_n 3, 1) := by decide +kernel
theorem d_Bytes_putAll_6 : decode c_Bytes_putAll 6 = .ok (.if_icmp .ge 37, 3) := by decide +kernel
theorem d_Bytes_putAll_9 : decode c_Bytes_putAll 9 = .ok (.iload_n 2, 1) := by decide +kernel
theorem d_Bytes_putAll_10 : decode c_Bytes_putAll 10 = .ok (.iload 4, 2) := by decide +kernel
theorem d_Bytes_putAll_12 : decode c_Bytes_putAll 12 = .ok (.iadd, 1) := by decide +kernel
theorem d_Bytes_putAll_13 : decode c_Bytes_putAll 13 = .ok (.istore 5, 2) := by decide +kernel
theorem d_Bytes_putAll_15 : decode c_Bytes_putAll 15 = .ok (.iload 5, 2) := by decide +kernel
theorem d_Bytes_putAll_17 : decode c_Bytes_putAll 17 = .ok (.ifCond .lt 20, 3) := by decide +kernel
theorem d_Bytes_putAll_20 : decode c_Bytes_putAll 20 = .ok (.iload 5, 2) := by decide +kernel
theorem d_Bytes_putAll_22 : decode c_Bytes_putAll 22 = .ok (.aload_n 1, 1) := by decide +kernel
theorem d_Bytes_putAll_23 : decode c_Bytes_putAll 23 = .ok (.arraylength, 1) := by decide +kernel
theorem d_Bytes_putAll_24 : decode c_Bytes_putAll 24 = .ok (.if_icmp .ge 13, 3) := by decide +kernel
theorem d_Bytes_putAll_27 : decode c_Bytes_putAll 27 = .ok (.aload_n 0, 1) := by decide +kernel
theorem d_Bytes_putAll_28 : decode c_Bytes_putAll 28 = .ok (.aload_n 1, 1) := by decide +kernel
theorem d_Bytes_putAll_29 : decode c_Bytes_putAll 29 = .ok (.iload 5, 2) := by decide +kernel
theorem d_Bytes_putAll_31 : decode c_Bytes_putAll 31 = .ok (.baload, 1) := by decide +kernel
theorem d_Bytes_putAll_32 : decode c_Bytes_putAll 32 = .ok (.i2l, 1) := by decide +kernel
theorem d_Bytes_putAll_33 : decode c_Bytes_putAll 33 = .ok (.iconst 1, 1) := by decide +kernel
theorem d_Bytes_putAll_34 : decode c_Bytes_putAll 34 = .ok (.invokevirtual 23, 3) := by decide +kernel
theorem d_Bytes_putAll_37 : decode c_Bytes_putAll 37 = .ok (.iinc 4 1, 3) := by decide +kernel
theorem d_Bytes_putAll_40 : decode c_Bytes_putAll 40 = .ok (.goto (-37), 3) := by decide +kernel
theorem d_Bytes_putAll_43 : decode c_Bytes_putAll 43 = .ok (.return_, 1) := by decide +kernel
abbrev c_Bytes_putText : ByteArray := prog_3_method_10_code
def y_Bytes_putText : MethodName := ⟨"EpochServer$Bytes", "putText", "([B)V"⟩
theorem d_Bytes_putText_0 : decode c_Bytes_putText 0 = .ok (.aload_n 0, 1) := by decide +kernel
theorem d_Bytes_putText_1 : decode c_Bytes_putText 1 = .ok (.aload_n 1, 1) := by decide +kernel
theorem d_Bytes_putText_2 : decode c_Bytes_putText 2 = .ok (.arraylength, 1) := by decide +kernel
theorem d_Bytes_putText_3 : decode c_Bytes_putText 3 = .ok (.i2l, 1) := by decide +kernel
theorem d_Bytes_putText_4 : decode c_Bytes_putText 4 = .ok (.iconst 2, 1) := by decide +kernel
theorem d_Bytes_putText_5 : decode c_Bytes_putText 5 = .ok (.invokevirtual 23, 3) := by decide +kernel
theorem d_Bytes_putText_8 : decode c_Bytes_putText 8 = .ok (.aload_n 0, 1) := by decide +kernel
theorem d_Bytes_putText_9 : decode c_Bytes_putText 9 = .ok (.aload_n 1, 1) := by decide +kernel
theorem d_Bytes_putText_10 : decode c_Bytes_putText 10 = .ok (.iconst 0, 1) := by decide +kernel
theorem d_Bytes_putText_11 : decode c_Bytes_putText 11 = .ok (.aload_n 1, 1) := by decide +kernel
theorem d_Bytes_putText_12 : decode c_Bytes_putText 12 = .ok (.arraylength, 1) := by decide +kernel
theorem d_Bytes_putText_13 : decode c_Bytes_putText 13 = .ok (.invokevirtual 27, 3) := by decide +kernel
theorem d_Bytes_putText_16 : decode c_Bytes_putText 16 = .ok (.return_, 1) := by decide +kernel
abbrev c_Bytes_putQid : ByteArray := prog_3_method_11_code
def y_Bytes_putQid : MethodName := ⟨"EpochServer$Bytes", "putQid", "(LEpochServer$Node;)V"⟩
theorem d_Bytes_putQid_0 : decode c_Bytes_putQid 0 = .ok (.aload_n 0, 1) := by decide +kernel
theorem d_Bytes_putQid_1 : decode c_Bytes_putQid 1 = .ok (.aload_n 1, 1) := by decide +kernel
theorem d_Bytes_putQid_2 : decode c_Bytes_putQid 2 = .ok (.invokevirtual 31, 3) := by decide +kernel
theorem d_Bytes_putQid_5 : decode c_Bytes_putQid 5 = .ok (.ifCond .eq 9, 3) := by decide +kernel
theorem d_Bytes_putQid_8 : decode c_Bytes_putQid 8 = .ok (.ldc2_w 37, 3) := by decide +kernel
theorem d_Bytes_putQid_11 : decode c_Bytes_putQid 11 = .ok (.goto 4, 3) := by decide +kernel
theorem d_Bytes_putQid_14 : decode c_Bytes_putQid 14 = .ok (.lconst 0, 1) := by decide +kernel
theorem d_Bytes_putQid_15 : decode c_Bytes_putQid 15 = .ok (.iconst 1, 1) := by decide +kernel
theorem d_Bytes_putQid_16 : decode c_Bytes_putQid 16 = .ok (.invokevirtual 23, 3) := by decide +kernel
theorem d_Bytes_putQid_19 : decode c_Bytes_putQid 19 = .ok (.aload_n 0, 1) := by decide +kernel
theorem d_Bytes_putQid_20 : decode c_Bytes_putQid 20 = .ok (.aload_n 1, 1) := by decide +kernel
theorem d_Bytes_putQid_21 : decode c_Bytes_putQid 21 = .ok (.getfield 39, 3) := by decide +kernel
theorem d_Bytes_putQid_24 : decode c_Bytes_putQid 24 = .ok (.i2l, 1) := by decide +kernel
theorem d_Bytes_putQid_25 : decode c_Bytes_putQid 25 = .ok (.iconst 4, 1) := by decide +kernel
theorem d_Bytes_putQid_26 : decode c_Bytes_putQid 26 = .ok (.invokevirtual 23, 3) := by decide +kernel
theorem d_Bytes_putQid_29 : decode c_Bytes_putQid 29 = .ok (.aload_n 0, 1) := by decide +kernel
theorem d_Bytes_putQid_30 : decode c_Bytes_putQid 30 = .ok (.aload_n 1, 1) := by decide +kernel
theorem d_Bytes_putQid_31 : decode c_Bytes_putQid 31 = .ok (.getfield 42, 3) := by decide +kernel
theorem d_Bytes_putQid_34 : decode c_Bytes_putQid 34 = .ok (.i2l, 1) := by decide +kernel
theorem d_Bytes_putQid_35 : decode c_Bytes_putQid 35 = .ok (.bipush 8, 2) := by decide +kernel
theorem d_Bytes_putQid_37 : decode c_Bytes_putQid 37 = .ok (.invokevirtual 23, 3) := by decide +kernel
theorem d_Bytes_putQid_40 : decode c_Bytes_putQid 40 = .ok (.return_, 1) := by decide +kernel
abbrev c_Bytes_putStat : ByteArray := prog_3_method_12_code
def y_Bytes_putStat : MethodName := ⟨"EpochServer$Bytes", "putStat", "(LEpochServer$Node;)V"⟩
theorem d_Bytes_putStat_0 : decode c_Bytes_putStat 0 = .ok (.aload_n 0, 1) := by decide +kernel
theorem d_Bytes_putStat_1 : decode c_Bytes_putStat 1 = .ok (.aload_n 1, 1) := by decide +kernel
theorem d_Bytes_putStat_2 : decode c_Bytes_putStat 2 = .ok (.invokevirtual 45, 3) := by decide +kernel
theorem d_Bytes_putStat_5 : decode c_Bytes_putStat 5 = .ok (.iconst 2, 1) := by decide +kernel
theorem d_Bytes_putStat_6 : decode c_Bytes_putStat 6 = .ok (.isub, 1) := by decide +kernel
theorem d_Bytes_putStat_7 : decode c_Bytes_putStat 7 = .ok (.i2l, 1) := by decide +kernel
theorem d_Bytes_putStat_8 : decode c_Bytes_putStat 8 = .ok (.iconst 2, 1) := by decide +kernel
theorem d_Bytes_putStat_9 : decode c_Bytes_putStat 9 = .ok (.invokevirtual 23, 3) := by decide +kernel
theorem d_Bytes_putStat_12 : decode c_Bytes_putStat 12 = .ok (.aload_n 0, 1) := by decide +kernel
theorem d_Bytes_putStat_13 : decode c_Bytes_putStat 13 = .ok (.lconst 0, 1) := by decide +kernel
theorem d_Bytes_putStat_14 : decode c_Bytes_putStat 14 = .ok (.iconst 2, 1) := by decide +kernel
theorem d_Bytes_putStat_15 : decode c_Bytes_putStat 15 = .ok (.invokevirtual 23, 3) := by decide +kernel
theorem d_Bytes_putStat_18 : decode c_Bytes_putStat 18 = .ok (.aload_n 0, 1) := by decide +kernel
theorem d_Bytes_putStat_19 : decode c_Bytes_putStat 19 = .ok (.lconst 0, 1) := by decide +kernel
theorem d_Bytes_putStat_20 : decode c_Bytes_putStat 20 = .ok (.iconst 4, 1) := by decide +kernel
theorem d_Bytes_putStat_21 : decode c_Bytes_putStat 21 = .ok (.invokevirtual 23, 3) := by decide +kernel
theorem d_Bytes_putStat_24 : decode c_Bytes_putStat 24 = .ok (.aload_n 0, 1) := by decide +kernel
theorem d_Bytes_putStat_25 : decode c_Bytes_putStat 25 = .ok (.aload_n 1, 1) := by decide +kernel
theorem d_Bytes_putStat_26 : decode c_Bytes_putStat 26 = .ok (.invokevirtual 49, 3) := by decide +kernel
theorem d_Bytes_putStat_29 : decode c_Bytes_putStat 29 = .ok (.aload_n 0, 1) := by decide +kernel
theorem d_Bytes_putStat_30 : decode c_Bytes_putStat 30 = .ok (.aload_n 1, 1) := by decide +kernel
theorem d_Bytes_putStat_31 : decode c_Bytes_putStat 31 = .ok (.getfield 53, 3) := by decide +kernel
theorem d_Bytes_putStat_34 : decode c_Bytes_putStat 34 = .ok (.i2l, 1) := by decide +kernel
theorem d_Bytes_putStat_35 : decode c_Bytes_putStat 35 = .ok (.iconst 4, 1) := by decide +kernel
theorem d_Bytes_putStat_36 : decode c_Bytes_putStat 36 = .ok (.invokevirtual 23, 3) := by decide +kernel
theorem d_Bytes_putStat_39 : decode c_Bytes_putStat 39 = .ok (.aload_n 0, 1) := by decide +kernel
theorem d_Bytes_putStat_40 : decode c_Bytes_putStat 40 = .ok (.aload_n 1, 1) := by decide +kernel
theorem d_Bytes_putStat_41 : decode c_Bytes_putStat 41 = .ok (.getfield 56, 3) := by decide +kernel
theorem d_Bytes_putStat_44 : decode c_Bytes_putStat 44 = .ok (.i2l, 1) := by decide +kernel
theorem d_Bytes_putStat_45 : decode c_Bytes_putStat 45 = .ok (.iconst 4, 1) := by decide +kernel
theorem d_Bytes_putStat_46 : decode c_Bytes_putStat 46 = .ok (.invokevirtual 23, 3) := by decide +kernel
theorem d_Bytes_putStat_49 : decode c_Bytes_putStat 49 = .ok (.aload_n 0, 1) := by decide +kernel
theorem d_Bytes_putStat_50 : decode c_Bytes_putStat 50 = .ok (.aload_n 1, 1) := by decide +kernel
theorem d_Bytes_putStat_51 : decode c_Bytes_putStat 51 = .ok (.getfield 56, 3) := by decide +kernel
theorem d_Bytes_putStat_54 : decode c_Bytes_putStat 54 = .ok (.i2l, 1) := by decide +kernel
theorem d_Bytes_putStat_55 : decode c_Bytes_putStat 55 = .ok (.iconst 4, 1) := by decide +kernel
theorem d_Bytes_putStat_56 : decode c_Bytes_putStat 56 = .ok (.invokevirtual 23, 3) := by decide +kernel
theorem d_Bytes_putStat_59 : decode c_Bytes_putStat 59 = .ok (.aload_n 0, 1) := by decide +kernel
theorem d_Bytes_putStat_60 : decode c_Bytes_putStat 60 = .ok (.aload_n 1, 1) := by decide +kernel
theorem d_Bytes_putStat_61 : decode c_Bytes_putStat 61 = .ok (.getfield 59, 3) := by decide +kernel
theorem d_Bytes_putStat_64 : decode c_Bytes_putStat 64 = .ok (.arraylength, 1) := by decide +kernel
theorem d_Bytes_putStat_65 : decode c_Bytes_putStat 65 = .ok (.i2l, 1) := by decide +kernel
theorem d_Bytes_putStat_66 : decode c_Bytes_putStat 66 = .ok (.bipush 8, 2) := by decide +kernel
theorem d_Bytes_putStat_68 : decode c_Bytes_putStat 68 = .ok (.invokevirtual 23, 3) := by decide +kernel
theorem d_Bytes_putStat_71 : decode c_Bytes_putStat 71 = .ok (.aload_n 0, 1) := by decide +kernel
theorem d_Bytes_putStat_72 : decode c_Bytes_putStat 72 = .ok (.aload_n 1, 1) := by decide +kernel
theorem d_Bytes_putStat_73 : decode c_Bytes_putStat 73 = .ok (.getfield 62, 3) := by decide +kernel
theorem d_Bytes_putStat_76 : decode c_Bytes_putStat 76 = .ok (.invokevirtual 65, 3) := by decide +kernel
theorem d_Bytes_putStat_79 : decode c_Bytes_putStat 79 = .ok (.iconst 0, 1) := by decide +kernel
theorem d_Bytes_putStat_80 : decode c_Bytes_putStat 80 = .ok (.istore_n 2, 1) := by decide +kernel
theorem d_Bytes_putStat_81 : decode c_Bytes_putStat 81 = .ok (.iload_n 2, 1) := by decide +kernel
theorem d_Bytes_putStat_82 : decode c_Bytes_putStat 82 = .ok (.iconst 3, 1) := by decide +kernel
theorem d_Bytes_putStat_83 : decode c_Bytes_putStat 83 = .ok (.if_icmp .ge 23, 3) := by decide +kernel
theorem d_Bytes_putStat_86 : decode c_Bytes_putStat 86 = .ok (.aload_n 0, 1) := by decide +kernel
theorem d_Bytes_putStat_87 : decode c_Bytes_putStat 87 = .ok (.lconst 1, 1) := by decide +kernel
theorem d_Bytes_putStat_88 : decode c_Bytes_putStat 88 = .ok (.iconst 2, 1) := by decide +kernel
theorem d_Bytes_putStat_89 : decode c_Bytes_putStat 89 = .ok (.invokevirtual 23, 3) := by decide +kernel
theorem d_Bytes_putStat_92 : decode c_Bytes_putStat 92 = .ok (.aload_n 0, 1) := by decide +kernel
theorem d_Bytes_putStat_93 : decode c_Bytes_putStat 93 = .ok (.ldc2_w 69, 3) := by decide +kernel
theorem d_Bytes_putStat_96 : decode c_Bytes_putStat 96 = .ok (.iconst 1, 1) := by decide +kernel
theorem d_Bytes_putStat_97 : decode c_Bytes_putStat 97 = .ok (.invokevirtual 23, 3) := by decide +kernel
theorem d_Bytes_putStat_100 : decode c_Bytes_putStat 100 = .ok (.iinc 2 1, 3) := by decide +kernel
theorem d_Bytes_putStat_103 : decode c_Bytes_putStat 103 = .ok (.goto (-22), 3) := by decide +kernel
theorem d_Bytes_putStat_106 : decode c_Bytes_putStat 106 = .ok (.return_, 1) := by decide +kernel
abbrev c_Fid_init : ByteArray := prog_4_method_1_code
def y_Fid_init : MethodName := ⟨"EpochServer$Fid", "<init>", "()V"⟩
theorem d_Fid_init_0 : decode c_Fid_init 0 = .ok (.aload_n 0, 1) := by decide +kernel
theorem d_Fid_init_1 : decode c_Fid_init 1 = .ok (.invokespecial 3, 3) := by decide +kernel
theorem d_Fid_init_4 : decode c_Fid_init 4 = .ok (.aload_n 0, 1) := by decide +kernel
theorem d_Fid_init_5 : decode c_Fid_init 5 = .ok (.iconst 0, 1) := by decide +kernel
theorem d_Fid_init_6 : decode c_Fid_init 6 = .ok (.putfield 9, 3) := by decide +kernel
theorem d_Fid_init_9 : decode c_Fid_init 9 = .ok (.aload_n 0, 1) := by decide +kernel
theorem d_Fid_init_10 : decode c_Fid_init 10 = .ok (.iconst 0, 1) := by decide +kernel
theorem d_Fid_init_11 : decode c_Fid_init 11 = .ok (.putfield 15, 3) := by decide +kernel
theorem d_Fid_init_14 : decode c_Fid_init 14 = .ok (.aload_n 0, 1) := by decide +kernel
theorem d_Fid_init_15 : decode c_Fid_init 15 = .ok (.iconst (-1), 1) := by decide +kernel
theorem d_Fid_init_16 : decode c_Fid_init 16 = .ok (.putfield 19, 3) := by decide +kernel
theorem d_Fid_init_19 : decode c_Fid_init 19 = .ok (.aload_n 0, 1) := by decide +kernel
theorem d_Fid_init_20 : decode c_Fid_init 20 = .ok (.iconst 0, 1) := by decide +kernel
theorem d_Fid_init_21 : decode c_Fid_init 21 = .ok (.putfield 22, 3) := by decide +kernel
theorem d_Fid_init_24 : decode c_Fid_init 24 = .ok (.aload_n 0, 1) := by decide +kernel
theorem d_Fid_init_25 : decode c_Fid_init 25 = .ok (.iconst 0, 1) := by decide +kernel
theorem d_Fid_init_26 : decode c_Fid_init 26 = .ok (.putfield 25, 3) := by decide +kernel
theorem d_Fid_init_29 : decode c_Fid_init 29 = .ok (.aload_n 0, 1) := by decide +kernel
theorem d_Fid_init_30 : decode c_Fid_init 30 = .ok (.iconst 0, 1) := by decide +kernel
theorem d_Fid_init_31 : decode c_Fid_init 31 = .ok (.putfield 28, 3) := by decide +kernel
theorem d_Fid_init_34 : decode c_Fid_init 34 = .ok (.aload_n 0, 1) := by decide +kernel
theorem d_Fid_init_35 : decode c_Fid_init 35 = .ok (.iconst 0, 1) := by decide +kernel
theorem d_Fid_init_36 : decode c_Fid_init 36 = .ok (.putfield 31, 3) := by decide +kernel
theorem d_Fid_init_39 : decode c_Fid_init 39 = .ok (.aload_n 0, 1) := by decide +kernel
theorem d_Fid_init_40 : decode c_Fid_init 40 = .ok (.iconst 0, 1) := by decide +kernel
theorem d_Fid_init_41 : decode c_Fid_init 41 = .ok (.putfield 34, 3) := by decide +kernel
theorem d_Fid_init_44 : decode c_Fid_init 44 = .ok (.return_, 1) := by decide +kernel
abbrev c_Fid_isOpenForReading : ByteArray := prog_4_method_2_code
def y_Fid_isOpenForReading : MethodName := ⟨"EpochServer$Fid", "isOpenForReading", "()Z"⟩
theorem d_Fid_isOpenForReading_0 : decode c_Fid_isOpenForReading 0 = .ok (.aload_n 0, 1) := by decide +kernel
theorem d_Fid_isOpenForReading_1 : decode c_Fid_isOpenForReading 1 = .ok (.getfield 25, 3) := by decide +kernel
theorem d_Fid_isOpenForReading_4 : decode c_Fid_isOpenForReading 4 = .ok (.ifCond .eq 17, 3) := by decide +kernel
theorem d_Fid_isOpenForReading_7 : decode c_Fid_isOpenForReading 7 = .ok (.aload_n 0, 1) := by decide +kernel
theorem d_Fid_isOpenForReading_8 : decode c_Fid_isOpenForReading 8 = .ok (.getfield 28, 3) := by decide +kernel
theorem d_Fid_isOpenForReading_11 : decode c_Fid_isOpenForReading 11 = .ok (.iconst 3, 1) := by decide +kernel
theorem d_Fid_isOpenForReading_12 : decode c_Fid_isOpenForReading 12 = .ok (.iand, 1) := by decide +kernel
theorem d_Fid_isOpenForReading_13 : decode c_Fid_isOpenForReading 13 = .ok (.iconst 1, 1) := by decide +kernel
theorem d_Fid_isOpenForReading_14 : decode c_Fid_isOpenForReading 14 = .ok (.if_icmp .eq 7, 3) := by decide +kernel
theorem d_Fid_isOpenForReading_17 : decode c_Fid_isOpenForReading 17 = .ok (.iconst 1, 1) := by decide +kernel
theorem d_Fid_isOpenForReading_18 : decode c_Fid_isOpenForReading 18 = .ok (.goto 4, 3) := by decide +kernel
theorem d_Fid_isOpenForReading_21 : decode c_Fid_isOpenForReading 21 = .ok (.iconst 0, 1) := by decide +kernel
theorem d_Fid_isOpenForReading_22 : decode c_Fid_isOpenForReading 22 = .ok (.ireturn, 1) := by decide +kernel
abbrev c_Fid_isOpenForWriting : ByteArray := prog_4_method_3_code
def y_Fid_isOpenForWriting : MethodName := ⟨"EpochServer$Fid", "isOpenForWriting", "()Z"⟩
theorem d_Fid_isOpenForWriting_0 : decode c_Fid_isOpenForWriting 0 = .ok (.aload_n 0, 1) := by decide +kernel
theorem d_Fid_isOpenForWriting_1 : decode c_Fid_isOpenForWriting 1 = .ok (.getfield 25, 3) := by decide +kernel
theorem d_Fid_isOpenForWriting_4 : decode c_Fid_isOpenForWriting 4 = .ok (.ifCond .eq 16, 3) := by decide +kernel
theorem d_Fid_isOpenForWriting_7 : decode c_Fid_isOpenForWriting 7 = .ok (.aload_n 0, 1) := by decide +kernel
theorem d_Fid_isOpenForWriting_8 : decode c_Fid_isOpenForWriting 8 = .ok (.getfield 28, 3) := by decide +kernel
theorem d_Fid_isOpenForWriting_11 : decode c_Fid_isOpenForWriting 11 = .ok (.iconst 3, 1) := by decide +kernel
theorem d_Fid_isOpenForWriting_12 : decode c_Fid_isOpenForWriting 12 = .ok (.iand, 1) := by decide +kernel
theorem d_Fid_isOpenForWriting_13 : decode c_Fid_isOpenForWriting 13 = .ok (.ifCond .eq 7, 3) := by decide +kernel
theorem d_Fid_isOpenForWriting_16 : decode c_Fid_isOpenForWriting 16 = .ok (.iconst 1, 1) := by decide +kernel
theorem d_Fid_isOpenForWriting_17 : decode c_Fid_isOpenForWriting 17 = .ok (.goto 4, 3) := by decide +kernel
theorem d_Fid_isOpenForWriting_20 : decode c_Fid_isOpenForWriting 20 = .ok (.iconst 0, 1) := by decide +kernel
theorem d_Fid_isOpenForWriting_21 : decode c_Fid_isOpenForWriting 21 = .ok (.ireturn, 1) := by decide +kernel
abbrev c_Fid_openAs : ByteArray := prog_4_method_4_code
def y_Fid_openAs : MethodName := ⟨"EpochServer$Fid", "openAs", "(I)V"⟩
theorem d_Fid_openAs_0 : decode c_Fid_openAs 0 = .ok (.aload_n 0, 1) := by decide +kernel
theorem d_Fid_openAs_1 : decode c_Fid_openAs 1 = .ok (.iconst 1, 1) := by decide +kernel
theorem d_Fid_openAs_2 : decode c_Fid_openAs 2 = .ok (.putfield 25, 3) := by decide +kernel
theorem d_Fid_openAs_5 : decode c_Fid_openAs 5 = .ok (.aload_n 0, 1) := by decide +kernel
theorem d_Fid_openAs_6 : decode c_Fid_openAs 6 = .ok (.iload_n 1, 1) := by decide +kernel
theorem d_Fid_openAs_7 : decode c_Fid_openAs 7 = .ok (.putfield 28, 3) := by decide +kernel
theorem d_Fid_openAs_10 : decode c_Fid_openAs 10 = .ok (.aload_n 0, 1) := by decide +kernel
theorem d_Fid_openAs_11 : decode c_Fid_openAs 11 = .ok (.invokevirtual 37, 3) := by decide +kernel
theorem d_Fid_openAs_14 : decode c_Fid_openAs 14 = .ok (.return_, 1) := by decide +kernel
abbrev c_Fid_rewind : ByteArray := prog_4_method_5_code
def y_Fid_rewind : MethodName := ⟨"EpochServer$Fid", "rewind", "()V"⟩
theorem d_Fid_rewind_0 : decode c_Fid_rewind 0 = .ok (.aload_n 0, 1) := by decide +kernel
theorem d_Fid_rewind_1 : decode c_Fid_rewind 1 = .ok (.iconst 0, 1) := by decide +kernel
theorem d_Fid_rewind_2 : decode c_Fid_rewind 2 = .ok (.putfield 31, 3) := by decide +kernel
theorem d_Fid_rewind_5 : decode c_Fid_rewind 5 = .ok (.aload_n 0, 1) := by decide +kernel
theorem d_Fid_rewind_6 : decode c_Fid_rewind 6 = .ok (.iconst 0, 1) := by decide +kernel
theorem d_Fid_rewind_7 : decode c_Fid_rewind 7 = .ok (.putfield 34, 3) := by decide +kernel
theorem d_Fid_rewind_10 : decode c_Fid_rewind 10 = .ok (.return_, 1) := by decide +kernel
abbrev c_FidTable_init : ByteArray := prog_5_method_1_code
def y_FidTable_init : MethodName := ⟨"EpochServer$FidTable", "<init>", "()V"⟩
theorem d_FidTable_init_0 : decode c_FidTable_init 0 = .ok (.aload_n 0, 1) := by decide +kernel
theorem d_FidTable_init_1 : decode c_FidTable_init 1 = .ok (.invokespecial 3, 3) := by decide +kernel
theorem d_FidTable_init_4 : decode c_FidTable_init 4 = .ok (.aload_n 0, 1) := by decide +kernel
theorem d_FidTable_init_5 : decode c_FidTable_init 5 = .ok (.bipush 24, 2) := by decide +kernel
theorem d_FidTable_init_7 : decode c_FidTable_init 7 = .ok (.anewarray 9, 3) := by decide +kernel
theorem d_FidTable_init_10 : decode c_FidTable_init 10 = .ok (.putfield 11, 3) := by decide +kernel
theorem d_FidTable_init_13 : decode c_FidTable_init 13 = .ok (.iconst 0, 1) := by decide +kernel
theorem d_FidTable_init_14 : decode c_FidTable_init 14 = .ok (.istore_n 1, 1) := by decide +kernel
theorem d_FidTable_init_15 : decode c_FidTable_init 15 = .ok (.iload_n 1, 1) := by decide +kernel
theorem d_FidTable_init_16 : decode c_FidTable_init 16 = .ok (.bipush 24, 2) := by decide +kernel
theorem d_FidTable_init_18 : decode c_FidTable_init 18 = .ok (.if_icmp .ge 22, 3) := by decide +kernel
theorem d_FidTable_init_21 : decode c_FidTable_init 21 = .ok (.aload_n 0, 1) := by decide +kernel
theorem d_FidTable_init_22 : decode c_FidTable_init 22 = .ok (.getfield 11, 3) := by decide +kernel
theorem d_FidTable_init_25 : decode c_FidTable_init 25 = .ok (.iload_n 1, 1) := by decide +kernel
theorem d_FidTable_init_26 : decode c_FidTable_init 26 = .ok (.new 9, 3) := by decide +kernel
theorem d_FidTable_init_29 : decode c_FidTable_init 29 = .ok (.dup, 1) := by decide +kernel
theorem d_FidTable_init_30 : decode c_FidTable_init 30 = .ok (.invokespecial 17, 3) := by decide +kernel
theorem d_FidTable_init_33 : decode c_FidTable_init 33 = .ok (.aastore, 1) := by decide +kernel
theorem d_FidTable_init_34 : decode c_FidTable_init 34 = .ok (.iinc 1 1, 3) := by decide +kernel
theorem d_FidTable_init_37 : decode c_FidTable_init 37 = .ok (.goto (-22), 3) := by decide +kernel
theorem d_FidTable_init_40 : decode c_FidTable_init 40 = .ok (.return_, 1) := by decide +kernel
abbrev c_FidTable_find : ByteArray := prog_5_method_2_code
def y_FidTable_find : MethodName := ⟨"EpochServer$FidTable", "find", "(I)LEpochServer$Fid;"⟩
theorem d_FidTable_find_0 : decode c_FidTable_find 0 = .ok (.iconst 0, 1) := by decide +kernel
theorem d_FidTable_find_1 : decode c_FidTable_find 1 = .ok (.istore_n 2, 1) := by decide +kernel
theorem d_FidTable_find_2 : decode c_FidTable_find 2 = .ok (.iload_n 2, 1) := by decide +kernel
theorem d_FidTable_find_3 : decode c_FidTable_find 3 = .ok (.bipush 24, 2) := by decide +kernel
theorem d_FidTable_find_5 : decode c_FidTable_find 5 = .ok (.if_icmp .ge 41, 3) := by decide +kernel
theorem d_FidTable_find_8 : decode c_FidTable_find 8 = .ok (.aload_n 0, 1) := by decide +kernel
theorem d_FidTable_find_9 : decode c_FidTable_find 9 = .ok (.getfield 11, 3) := by decide +kernel
theorem d_FidTable_find_12 : decode c_FidTable_find 12 = .ok (.iload_n 2, 1) := by decide +kernel
theorem d_FidTable_find_13 : decode c_FidTable_find 13 = .ok (.aaload, 1) := by decide +kernel
theorem d_FidTable_find_14 : decode c_FidTable_find 14 = .ok (.getfield 18, 3) := by decide +kernel
theorem d_FidTable_find_17 : decode c_FidTable_find 17 = .ok (.ifCond .eq 23, 3) := by decide +kernel
theorem d_FidTable_find_20 : decode c_FidTable_find 20 = .ok (.aload_n 0, 1) := by decide +kernel
theorem d_FidTable_find_21 : decode c_FidTable_find 21 = .ok (.getfield 11, 3) := by decide +kernel
theorem d_FidTable_find_24 : decode c_FidTable_find 24 = .ok (.iload_n 2, 1) := by decide +kernel
theorem d_FidTable_find_25 : decode c_FidTable_find 25 = .ok (.aaload, 1) := by decide +kernel
theorem d_FidTable_find_26 : decode c_FidTable_find 26 = .ok (.getfield 22, 3) := by decide +kernel
theorem d_FidTable_find_29 : decode c_FidTable_find 29 = .ok (.iload_n 1, 1) := by decide +kernel
theorem d_FidTable_find_30 : decode c_FidTable_find 30 = .ok (.if_icmp .ne 10, 3) := by decide +kernel
theorem d_FidTable_find_33 : decode c_FidTable_find 33 = .ok (.aload_n 0, 1) := by decide +kernel
theorem d_FidTable_find_34 : decode c_FidTable_find 34 = .ok (.getfield 11, 3) := by decide +kernel
theorem d_FidTable_find_37 : decode c_FidTable_find 37 = .ok (.iload_n 2, 1) := by decide +kernel
theorem d_FidTable_find_38 : decode c_FidTable_find 38 = .ok (.aaload, 1) := by decide +kernel
theorem d_FidTable_find_39 : decode c_FidTable_find 39 = .ok (.areturn, 1) := by decide +kernel
theorem d_FidTable_find_40 : decode c_FidTable_find 40 = .ok (.iinc 2 1, 3) := by decide +kernel
theorem d_FidTable_find_43 : decode c_FidTable_find 43 = .ok (.goto (-41), 3) := by decide +kernel
theorem d_FidTable_find_46 : decode c_FidTable_find 46 = .ok (.aconst_null, 1) := by decide +kernel
theorem d_FidTable_find_47 : decode c_FidTable_find 47 = .ok (.areturn, 1) := by decide +kernel
abbrev c_FidTable_size : ByteArray := prog_5_method_3_code
def y_FidTable_size : MethodName := ⟨"EpochServer$FidTable", "size", "()I"⟩
theorem d_FidTable_size_0 : decode c_FidTable_size 0 = .ok (.iconst 0, 1) := by decide +kernel
theorem d_FidTable_size_1 : decode c_FidTable_size 1 = .ok (.istore_n 1, 1) := by decide +kernel
theorem d_FidTable_size_2 : decode c_FidTable_size 2 = .ok (.iconst 0, 1) := by decide +kernel
theorem d_FidTable_size_3 : decode c_FidTable_size 3 = .ok (.istore_n 2, 1) := by decide +kernel
theorem d_FidTable_size_4 : decode c_FidTable_size 4 = .ok (.iload_n 2, 1) := by decide +kernel
theorem d_FidTable_size_5 : decode c_FidTable_size 5 = .ok (.bipush 24, 2) := by decide +kernel
theorem d_FidTable_size_7 : decode c_FidTable_size 7 = .ok (.if_icmp .ge 29, 3) := by decide +kernel
theorem d_FidTable_size_10 : decode c_FidTable_size 10 = .ok (.iload_n 1, 1) := by decide +kernel
theorem d_FidTable_size_11 : decode c_FidTable_size 11 = .ok (.aload_n 0, 1) := by decide +kernel
theorem d_FidTable_size_12 : decode c_FidTable_size 12 = .ok (.getfield 11, 3) := by decide +kernel
theorem d_FidTable_size_15 : decode c_FidTable_size 15 = .ok (.iload_n 2, 1) := by decide +kernel
theorem d_FidTable_size_16 : decode c_FidTable_size 16 = .ok (.aaload, 1) := by decide +kernel
theorem d_FidTable_size_17 : decode c_FidTable_size 17 = .ok (.getfield 18, 3) := by decide +kernel
theorem d_FidTable_size_20 : decode c_FidTable_size 20 = .ok (.ifCond .eq 7, 3) := by decide +kernel
theorem d_FidTable_size_23 : decode c_FidTable_size 23 = .ok (.iconst 1, 1) := by decide +kernel
theorem d_FidTable_size_24 : decode c_FidTable_size 24 = .ok (.goto 4, 3) := by decide +kernel
theorem d_FidTable_size_27 : decode c_FidTable_size 27 = .ok (.iconst 0, 1) := by decide +kernel
theorem d_FidTable_size_28 : decode c_FidTable_size 28 = .ok (.iadd, 1) := by decide +kernel
theorem d_FidTable_size_29 : decode c_FidTable_size 29 = .ok (.istore_n 1, 1) := by decide +kernel
theorem d_FidTable_size_30 : decode c_FidTable_size 30 = .ok (.iinc 2 1, 3) := by decide +kernel
theorem d_FidTable_size_33 : decode c_FidTable_size 33 = .ok (.goto (-29), 3) := by decide +kernel
theorem d_FidTable_size_36 : decode c_FidTable_size 36 = .ok (.iload_n 1, 1) := by decide +kernel
theorem d_FidTable_size_37 : decode c_FidTable_size 37 = .ok (.ireturn, 1) := by decide +kernel
abbrev c_FidTable_make : ByteArray := prog_5_method_4_code
def y_FidTable_make : MethodName := ⟨"EpochServer$FidTable", "make", "(III)Z"⟩
theorem d_FidTable_make_0 : decode c_FidTable_make 0 = .ok (.iconst 0, 1) := by decide +kernel
theorem d_FidTable_make_1 : decode c_FidTable_make 1 = .ok (.istore 4, 2) := by decide +kernel
theorem d_FidTable_make_3 : decode c_FidTable_make 3 = .ok (.iload 4, 2) := by decide +kernel
theorem d_FidTable_make_5 : decode c_FidTable_make 5 = .ok (.bipush 24, 2) := by decide +kernel
theorem d_FidTable_make_7 : decode c_FidTable_make 7 = .ok (.if_icmp .ge 69, 3) := by decide +kernel
theorem d_FidTable_make_10 : decode c_FidTable_make 10 = .ok (.aload_n 0, 1) := by decide +kernel
theorem d_FidTable_make_11 : decode c_FidTable_make 11 = .ok (.getfield 11, 3) := by decide +kernel
theorem d_FidTable_make_14 : decode c_FidTable_make 14 = .ok (.iload 4, 2) := by decide +kernel
theorem d_FidTable_make_16 : decode c_FidTable_make 16 = .ok (.aaload, 1) := by decide +kernel
theorem d_FidTable_make_17 : decode c_FidTable_make 17 = .ok (.astore 5, 2) := by decide +kernel
theorem d_FidTable_make_19 : decode c_FidTable_make 19 = .ok (.aload 5, 2) := by decide +kernel
theorem d_FidTable_make_21 : decode c_FidTable_make 21 = .ok (.getfield 18, 3) := by decide +kernel
theorem d_FidTable_make_24 : decode c_FidTable_make 24 = .ok (.ifCond .ne 46, 3) := by decide +kernel
theorem d_FidTable_make_27 : decode c_FidTable_make 27 = .ok (.aload 5, 2) := by decide +kernel
theorem d_FidTable_make_29 : decode c_FidTable_make 29 = .ok (.iconst 1, 1) := by decide +kernel
theorem d_FidTable_make_30 : decode c_FidTable_make 30 = .ok (.putfield 18, 3) := by decide +kernel
theorem d_FidTable_make_33 : decode c_FidTable_make 33 = .ok (.aload 5, 2) := by decide +kernel
theorem d_FidTable_make_35 : decode c_FidTable_make 35 = .ok (.iload_n 1, 1) := by decide +kernel
theorem d_FidTable_make_36 : decode c_FidTable_make 36 = .ok (.putfield 22, 3) := by decide +kernel
theorem d_FidTable_make_39 : decode c_FidTable_make 39 = .ok (.aload 5, 2) := by decide +kernel
theorem d_FidTable_make_41 : decode c_FidTable_make 41 = .ok (.iload_n 2, 1) := by decide +kernel
theorem d_FidTable_make_42 : decode c_FidTable_make 42 = .ok (.putfield 26, 3) := by decide +kernel
theorem d_FidTable_make_45 : decode c_FidTable_make 45 = .ok (.aload 5, 2) := by decide +kernel
theorem d_FidTable_make_47 : decode c_FidTable_make 47 = .ok (.iload_n 3, 1) := by decide +kernel
theorem d_FidTable_make_48 : decode c_FidTable_make 48 = .ok (.putfield 29, 3) := by decide +kernel
theorem d_FidTable_make_51 : decode c_FidTable_make 51 = .ok (.aload 5, 2) := by decide +kernel
theorem d_FidTable_make_53 : decode c_FidTable_make 53 = .ok (.iconst 0, 1) := by decide +kernel
theorem d_FidTable_make_54 : decode c_FidTable_make 54 = .ok (.putfield 32, 3) := by decide +kernel
theorem d_FidTable_make_57 : decode c_FidTable_make 57 = .ok (.aload 5, 2) := by decide +kernel
theorem d_FidTable_make_59 : decode c_FidTable_make 59 = .ok (.iconst 0, 1) := by decide +kernel
theorem d_FidTable_make_60 : decode c_FidTable_make 60 = .ok (.putfield 35, 3) := by decide +kernel
theorem d_FidTable_make_63 : decode c_FidTable_make 63 = .ok (.aload 5, 2) := by decide +kernel
theorem d_FidTable_make_65 : decode c_FidTable_make 65 = .ok (.invokevirtual 38, 3) := by decide +kernel
theorem d_FidTable_make_68 : decode c_FidTable_make 68 = .ok (.iconst 1, 1) := by decide +kernel
theorem d_FidTable_make_69 : decode c_FidTable_make 69 = .ok (.ireturn, 1) := by decide +kernel
theorem d_FidTable_make_70 : decode c_FidTable_make 70 = .ok (.iinc 4 1, 3) := by decide +kernel
theorem d_FidTable_make_73 : decode c_FidTable_make 73 = .ok (.goto (-70), 3) := by decide +kernel
theorem d_FidTable_make_76 : decode c_FidTable_make 76 = .ok (.iconst 0, 1) := by decide +kernel
theorem d_FidTable_make_77 : decode c_FidTable_make 77 = .ok (.ireturn, 1) := by decide +kernel
abbrev c_FidTable_clear : ByteArray := prog_5_method_5_code
def y_FidTable_clear : MethodName := ⟨"EpochServer$FidTable", "clear", "()V"⟩
theorem d_FidTable_clear_0 : decode c_FidTable_clear 0 = .ok (.iconst 0, 1) := by decide +kernel
theorem d_FidTable_clear_1 : decode c_FidTable_clear 1 = .ok (.istore_n 1, 1) := by decide +kernel
theorem d_FidTable_clear_2 : decode c_FidTable_clear 2 = .ok (.iload_n 1, 1) := by decide +kernel
theorem d_FidTable_clear_3 : decode c_FidTable_clear 3 = .ok (.bipush 24, 2) := by decide +kernel
theorem d_FidTable_clear_5 : decode c_FidTable_clear 5 = .ok (.if_icmp .ge 19, 3) := by decide +kernel
theorem d_FidTable_clear_8 : decode c_FidTable_clear 8 = .ok (.aload_n 0, 1) := by decide +kernel
theorem d_FidTable_clear_9 : decode c_FidTable_clear 9 = .ok (.getfield 11, 3) := by decide +kernel
theorem d_FidTable_clear_12 : decode c_FidTable_clear 12 = .ok (.iload_n 1, 1) := by decide +kernel
theorem d_FidTable_clear_13 : decode c_FidTable_clear 13 = .ok (.aaload, 1) := by decide +kernel
theorem d_FidTable_clear_14 : decode c_FidTable_clear 14 = .ok (.iconst 0, 1) := by decide +kernel
theorem d_FidTable_clear_15 : decode c_FidTable_clear 15 = .ok (.putfield 18, 3) := by decide +kernel
theorem d_FidTable_clear_18 : decode c_FidTable_clear 18 = .ok (.iinc 1 1, 3) := by decide +kernel
theorem d_FidTable_clear_21 : decode c_FidTable_clear 21 = .ok (.goto (-19), 3) := by decide +kernel
theorem d_FidTable_clear_24 : decode c_FidTable_clear 24 = .ok (.return_, 1) := by decide +kernel
abbrev c_Journal_init : ByteArray := prog_6_method_1_code
def y_Journal_init : MethodName := ⟨"EpochServer$Journal", "<init>", "()V"⟩
theorem d_Journal_init_0 : decode c_Journal_init 0 = .ok (.aload_n 0, 1) := by decide +kernel
theorem d_Journal_init_1 : decode c_Journal_init 1 = .ok (.invokespecial 3, 3) := by decide +kernel
theorem d_Journal_init_4 : decode c_Journal_init 4 = .ok (.aload_n 0, 1) := by decide +kernel
theorem d_Journal_init_5 : decode c_Journal_init 5 = .ok (.bipush 20, 2) := by decide +kernel
theorem d_Journal_init_7 : decode c_Journal_init 7 = .ok (.anewarray 9, 3) := by decide +kernel
theorem d_Journal_init_10 : decode c_Journal_init 10 = .ok (.putfield 11, 3) := by decide +kernel
theorem d_Journal_init_13 : decode c_Journal_init 13 = .ok (.aload_n 0, 1) := by decide +kernel
theorem d_Journal_init_14 : decode c_Journal_init 14 = .ok (.iconst 0, 1) := by decide +kernel
theorem d_Journal_init_15 : decode c_Journal_init 15 = .ok (.putfield 17, 3) := by decide +kernel
theorem d_Journal_init_18 : decode c_Journal_init 18 = .ok (.aload_n 0, 1) := by decide +kernel
theorem d_Journal_init_19 : decode c_Journal_init 19 = .ok (.iconst 0, 1) := by decide +kernel
theorem d_Journal_init_20 : decode c_Journal_init 20 = .ok (.putfield 21, 3) := by decide +kernel
theorem d_Journal_init_23 : decode c_Journal_init 23 = .ok (.iconst 0, 1) := by decide +kernel
theorem d_Journal_init_24 : decode c_Journal_init 24 = .ok (.istore_n 1, 1) := by decide +kernel
theorem d_Journal_init_25 : decode c_Journal_init 25 = .ok (.iload_n 1, 1) := by decide +kernel
theorem d_Journal_init_26 : decode c_Journal_init 26 = .ok (.bipush 20, 2) := by decide +kernel
theorem d_Journal_init_28 : decode c_Journal_init 28 = .ok (.if_icmp .ge 22, 3) := by decide +kernel
theorem d_Journal_init_31 : decode c_Journal_init 31 = .ok (.aload_n 0, 1) := by decide +kernel
theorem d_Journal_init_32 : decode c_Journal_init 32 = .ok (.getfield 11, 3) := by decide +kernel
theorem d_Journal_init_35 : decode c_Journal_init 35 = .ok (.iload_n 1, 1) := by decide +kernel
theorem d_Journal_init_36 : decode c_Journal_init 36 = .ok (.new 9, 3) := by decide +kernel
theorem d_Journal_init_39 : decode c_Journal_init 39 = .ok (.dup, 1) := by decide +kernel
theorem d_Journal_init_40 : decode c_Journal_init 40 = .ok (.invokespecial 24, 3) := by decide +kernel
theorem d_Journal_init_43 : decode c_Journal_init 43 = .ok (.aastore, 1) := by decide +kernel
theorem d_Journal_init_44 : decode c_Journal_init 44 = .ok (.iinc 1 1, 3) := by decide +kernel
theorem d_Journal_init_47 : decode c_Journal_init 47 = .ok (.goto (-22), 3) := by decide +kernel
theorem d_Journal_init_50 : decode c_Journal_init 50 = .ok (.return_, 1) := by decide +kernel
abbrev c_Journal_size : ByteArray := prog_6_method_2_code
def y_Journal_size : MethodName := ⟨"EpochServer$Journal", "size", "()I"⟩
theorem d_Journal_size_0 : decode c_Journal_size 0 = .ok (.aload_n 0, 1) := by decide +kernel
theorem d_Journal_size_1 : decode c_Journal_size 1 = .ok (.getfield 21, 3) := by decide +kernel
theorem d_Journal_size_4 : decode c_Journal_size 4 = .ok (.ireturn, 1) := by decide +kernel
abbrev c_Journal_keep : ByteArray := prog_6_method_3_code
def y_Journal_keep : MethodName := ⟨"EpochServer$Journal", "keep", "(LEpochServer$Tree;)V"⟩
theorem d_Journal_keep_0 : decode c_Journal_keep 0 = .ok (.aload_n 0, 1) := by decide +kernel
theorem d_Journal_keep_1 : decode c_Journal_keep 1 = .ok (.getfield 11, 3) := by decide +kernel
theorem d_Journal_keep_4 : decode c_Journal_keep 4 = .ok (.aload_n 0, 1) := by decide +kernel
theorem d_Journal_keep_5 : decode c_Journal_keep 5 = .ok (.getfield 17, 3) := by decide +kernel
theorem d_Journal_keep_8 : decode c_Journal_keep 8 = .ok (.aaload, 1) := by decide +kernel
theorem d_Journal_keep_9 : decode c_Journal_keep 9 = .ok (.aload_n 1, 1) := by decide +kernel
theorem d_Journal_keep_10 : decode c_Journal_keep 10 = .ok (.invokevirtual 25, 3) := by decide +kernel
theorem d_Journal_keep_13 : decode c_Journal_keep 13 = .ok (.aload_n 0, 1) := by decide +kernel
theorem d_Journal_keep_14 : decode c_Journal_keep 14 = .ok (.aload_n 0, 1) := by decide +kernel
theorem d_Journal_keep_15 : decode c_Journal_keep 15 = .ok (.getfield 17, 3) := by decide +kernel
theorem d_Journal_keep_18 : decode c_Journal_keep 18 = .ok (.iconst 1, 1) := by decide +kernel
theorem d_Journal_keep_19 : decode c_Journal_keep 19 = .ok (.iadd, 1) := by decide +kernel
theorem d_Journal_keep_20 : decode c_Journal_keep 20 = .ok (.bipush 20, 2) := by decide +kernel
theorem d_Journal_keep_22 : decode c_Journal_keep 22 = .ok (.if_icmp .ge 12, 3) := by decide +kernel
theorem d_Journal_keep_25 : decode c_Journal_keep 25 = .ok (.aload_n 0, 1) := by decide +kernel
theorem d_Journal_keep_26 : decode c_Journal_keep 26 = .ok (.getfield 17, 3) := by decide +kernel
theorem d_Journal_keep_29 : decode c_Journal_keep 29 = .ok (.iconst 1, 1) := by decide +kernel
theorem d_Journal_keep_30 : decode c_Journal_keep 30 = .ok (.iadd, 1) := by decide +kernel
theorem d_Journal_keep_31 : decode c_Journal_keep 31 = .ok (.goto 4, 3) := by decide +kernel
theorem d_Journal_keep_34 : decode c_Journal_keep 34 = .ok (.iconst 0, 1) := by decide +kernel
theorem d_Journal_keep_35 : decode c_Journal_keep 35 = .ok (.putfield 17, 3) := by decide +kernel
theorem d_Journal_keep_38 : decode c_Journal_keep 38 = .ok (.aload_n 0, 1) := by decide +kernel
theorem d_Journal_keep_39 : decode c_Journal_keep 39 = .ok (.aload_n 0, 1) := by decide +kernel
theorem d_Journal_keep_40 : decode c_Journal_keep 40 = .ok (.getfield 21, 3) := by decide +kernel
theorem d_Journal_keep_43 : decode c_Journal_keep 43 = .ok (.iconst 1, 1) := by decide +kernel
theorem d_Journal_keep_44 : decode c_Journal_keep 44 = .ok (.iadd, 1) := by decide +kernel
theorem d_Journal_keep_45 : decode c_Journal_keep 45 = .ok (.bipush 20, 2) := by decide +kernel
theorem d_Journal_keep_47 : decode c_Journal_keep 47 = .ok (.invokestatic 29, 3) := by decide +kernel
theorem d_Journal_keep_50 : decode c_Journal_keep 50 = .ok (.putfield 21, 3) := by decide +kernel
theorem d_Journal_keep_53 : decode c_Journal_keep 53 = .ok (.return_, 1) := by decide +kernel
abbrev c_Journal_before : ByteArray := prog_6_method_4_code
def y_Journal_before : MethodName := ⟨"EpochServer$Journal", "before", "(I)LEpochServer$Tree;"⟩
theorem d_Journal_before_0 : decode c_Journal_before 0 = .ok (.iload_n 1, 1) := by decide +kernel
theorem d_Journal_before_1 : decode c_Journal_before 1 = .ok (.iconst 1, 1) := by decide +kernel
theorem d_Journal_before_2 : decode c_Journal_before 2 = .ok (.if_icmp .lt 11, 3) := by decide +kernel
theorem d_Journal_before_5 : decode c_Journal_before 5 = .ok (.iload_n 1, 1) := by decide +kernel
theorem d_Journal_before_6 : decode c_Journal_before 6 = .ok (.aload_n 0, 1) := by decide +kernel
theorem d_Journal_before_7 : decode c_Journal_before 7 = .ok (.getfield 21, 3) := by decide +kernel
theorem d_Journal_before_10 : decode c_Journal_before 10 = .ok (.if_icmp .le 5, 3) := by decide +kernel
theorem d_Journal_before_13 : decode c_Journal_before 13 = .ok (.aconst_null, 1) := by decide +kernel
theorem d_Journal_before_14 : decode c_Journal_before 14 = .ok (.areturn, 1) := by decide +kernel
theorem d_Journal_before_15 : decode c_Journal_before 15 = .ok (.aload_n 0, 1) := by decide +kernel
theorem d_Journal_before_16 : decode c_Journal_before 16 = .ok (.getfield 11, 3) := by decide +kernel
theorem d_Journal_before_19 : decode c_Journal_before 19 = .ok (.aload_n 0, 1) := by decide +kernel
theorem d_Journal_before_20 : decode c_Journal_before 20 = .ok (.getfield 17, 3) := by decide +kernel
theorem d_Journal_before_23 : decode c_Journal_before 23 = .ok (.iload_n 1, 1) := by decide +kernel
theorem d_Journal_before_24 : decode c_Journal_before 24 = .ok (.if_icmp .lt 12, 3) := by decide +kernel
theorem d_Journal_before_27 : decode c_Journal_before 27 = .ok (.aload_n 0, 1) := by decide +kernel
theorem d_Journal_before_28 : decode c_Journal_before 28 = .ok (.getfield 17, 3) := by decide +kernel
theorem d_Journal_before_31 : decode c_Journal_before 31 = .ok (.iload_n 1, 1) := by decide +kernel
theorem d_Journal_before_32 : decode c_Journal_before 32 = .ok (.isub, 1) := by decide +kernel
theorem d_Journal_before_33 : decode c_Journal_before 33 = .ok (.goto 12, 3) := by decide +kernel
theorem d_Journal_before_36 : decode c_Journal_before 36 = .ok (.aload_n 0, 1) := by decide +kernel
theorem d_Journal_before_37 : decode c_Journal_before 37 = .ok (.getfield 17, 3) := by decide +kernel
theorem d_Journal_before_40 : decode c_Journal_before 40 = .ok (.iload_n 1, 1) := by decide +kernel
theorem d_Journal_before_41 : decode c_Journal_before 41 = .ok (.isub, 1) := by decide +kernel
theorem d_Journal_before_42 : decode c_Journal_before 42 = .ok (.bipush 20, 2) := by decide +kernel
theorem d_Journal_before_44 : decode c_Journal_before 44 = .ok (.iadd, 1) := by decide +kernel
theorem d_Journal_before_45 : decode c_Journal_before 45 = .ok (.aaload, 1) := by decide +kernel
theorem d_Journal_before_46 : decode c_Journal_before 46 = .ok (.areturn, 1) := by decide +kernel
abbrev c_Journal_clear : ByteArray := prog_6_method_5_code
def y_Journal_clear : MethodName := ⟨"EpochServer$Journal", "clear", "()V"⟩
theorem d_Journal_clear_0 : decode c_Journal_clear 0 = .ok (.aload_n 0, 1) := by decide +kernel
theorem d_Journal_clear_1 : decode c_Journal_clear 1 = .ok (.iconst 0, 1) := by decide +kernel
theorem d_Journal_clear_2 : decode c_Journal_clear 2 = .ok (.putfield 21, 3) := by decide +kernel
theorem d_Journal_clear_5 : decode c_Journal_clear 5 = .ok (.return_, 1) := by decide +kernel
abbrev c_Node_init : ByteArray := prog_7_method_1_code
def y_Node_init : MethodName := ⟨"EpochServer$Node", "<init>", "(II[BIII[B)V"⟩
theorem d_Node_init_0 : decode c_Node_init 0 = .ok (.aload_n 0, 1) := by decide +kernel
theorem d_Node_init_1 : decode c_Node_init 1 = .ok (.invokespecial 3, 3) := by decide +kernel
theorem d_Node_init_4 : decode c_Node_init 4 = .ok (.aload_n 0, 1) := by decide +kernel
theorem d_Node_init_5 : decode c_Node_init 5 = .ok (.iload_n 1, 1) := by decide +kernel
theorem d_Node_init_6 : decode c_Node_init 6 = .ok (.putfield 9, 3) := by decide +kernel
theorem d_Node_init_9 : decode c_Node_init 9 = .ok (.aload_n 0, 1) := by decide +kernel
theorem d_Node_init_10 : decode c_Node_init 10 = .ok (.iload_n 2, 1) := by decide +kernel
theorem d_Node_init_11 : decode c_Node_init 11 = .ok (.putfield 15, 3) := by decide +kernel
theorem d_Node_init_14 : decode c_Node_init 14 = .ok (.aload_n 0, 1) := by decide +kernel
theorem d_Node_init_15 : decode c_Node_init 15 = .ok (.aload_n 3, 1) := by decide +kernel
theorem d_Node_init_16 : decode c_Node_init 16 = .ok (.putfield 18, 3) := by decide +kernel
theorem d_Node_init_19 : decode c_Node_init 19 = .ok (.aload_n 0, 1) := by decide +kernel
theorem d_Node_init_20 : decode c_Node_init 20 = .ok (.iload 4, 2) := by decide +kernel
theorem d_Node_init_22 : decode c_Node_init 22 = .ok (.putfield 22, 3) := by decide +kernel
theorem d_Node_init_25 : decode c_Node_init 25 = .ok (.aload_n 0, 1) := by decide +kernel
theorem d_Node_init_26 : decode c_Node_init 26 = .ok (.iload 5, 2) := by decide +kernel
theorem d_Node_init_28 : decode c_Node_init 28 = .ok (.putfield 25, 3) := by decide +kernel
theorem d_Node_init_31 : decode c_Node_init 31 = .ok (.aload_n 0, 1) := by decide +kernel
theorem d_Node_init_32 : decode c_Node_init 32 = .ok (.iload 6, 2) := by decide +kernel
theorem d_Node_init_34 : decode c_Node_init 34 = .ok (.putfield 28, 3) := by decide +kernel
theorem d_Node_init_37 : decode c_Node_init 37 = .ok (.aload_n 0, 1) := by decide +kernel
theorem d_Node_init_38 : decode c_Node_init 38 = .ok (.aload 7, 2) := by decide +kernel
theorem d_Node_init_40 : decode c_Node_init 40 = .ok (.putfield 31, 3) := by decide +kernel
theorem d_Node_init_43 : decode c_Node_init 43 = .ok (.return_, 1) := by decide +kernel
abbrev c_Node_isDirectory : ByteArray := prog_7_method_2_code
def y_Node_isDirectory : MethodName := ⟨"EpochServer$Node", "isDirectory", "()Z"⟩
theorem d_Node_isDirectory_0 : decode c_Node_isDirectory 0 = .ok (.aload_n 0, 1) := by decide +kernel
theorem d_Node_isDirectory_1 : decode c_Node_isDirectory 1 = .ok (.getfield 22, 3) := by decide +kernel
theorem d_Node_isDirectory_4 : decode c_Node_isDirectory 4 = .ok (.ifCond .ge 7, 3) := by decide +kernel
theorem d_Node_isDirectory_7 : decode c_Node_isDirectory 7 = .ok (.iconst 1, 1) := by decide +kernel
theorem d_Node_isDirectory_8 : decode c_Node_isDirectory 8 = .ok (.goto 4, 3) := by decide +kernel
theorem d_Node_isDirectory_11 : decode c_Node_isDirectory 11 = .ok (.iconst 0, 1) := by decide +kernel
theorem d_Node_isDirectory_12 : decode c_Node_isDirectory 12 = .ok (.ireturn, 1) := by decide +kernel
abbrev c_Node_withData : ByteArray := prog_7_method_3_code
def y_Node_withData : MethodName := ⟨"EpochServer$Node", "withData", "([BI)LEpochServer$Node;"⟩
theorem d_Node_withData_0 : decode c_Node_withData 0 = .ok (.new 10, 3) := by decide +kernel
theorem d_Node_withData_3 : decode c_Node_withData 3 = .ok (.dup, 1) := by decide +kernel
theorem d_Node_withData_4 : decode c_Node_withData 4 = .ok (.aload_n 0, 1) := by decide +kernel
theorem d_Node_withData_5 : decode c_Node_withData 5 = .ok (.getfield 9, 3) := by decide +kernel
theorem d_Node_withData_8 : decode c_Node_withData 8 = .ok (.aload_n 0, 1) := by decide +kernel
theorem d_Node_withData_9 : decode c_Node_withData 9 = .ok (.getfield 15, 3) := by decide +kernel
theorem d_Node_withData_12 : decode c_Node_withData 12 = .ok (.aload_n 0, 1) := by decide +kernel
theorem d_Node_withData_13 : decode c_Node_withData 13 = .ok (.getfield 18, 3) := by decide +kernel
theorem d_Node_withData_16 : decode c_Node_withData 16 = .ok (.aload_n 0, 1) := by decide +kernel
theorem d_Node_withData_17 : decode c_Node_withData 17 = .ok (.getfield 22, 3) := by decide +kernel
theorem d_Node_withData_20 : decode c_Node_withData 20 = .ok (.aload_n 0, 1) := by decide +kernel
theorem d_Node_withData_21 : decode c_Node_withData 21 = .ok (.getfield 25, 3) := by decide +kernel
theorem d_Node_withData_24 : decode c_Node_withData 24 = .ok (.iconst 1, 1) := by decide +kernel
theorem d_Node_withData_25 : decode c_Node_withData 25 = .ok (.iadd, 1) := by decide +kernel
theorem d_Node_withData_26 : decode c_Node_withData 26 = .ok (.iload_n 2, 1) := by decide +kernel
theorem d_Node_withData_27 : decode c_Node_withData 27 = .ok (.aload_n 1, 1) := by decide +kernel
theorem d_Node_withData_28 : decode c_Node_withData 28 = .ok (.invokespecial 34, 3) := by decide +kernel
theorem d_Node_withData_31 : decode c_Node_withData 31 = .ok (.areturn, 1) := by decide +kernel
abbrev c_Node_statSize : ByteArray := prog_7_method_4_code
def y_Node_statSize : MethodName := ⟨"EpochServer$Node", "statSize", "()I"⟩
theorem d_Node_statSize_0 : decode c_Node_statSize 0 = .ok (.bipush 52, 2) := by decide +kernel
theorem d_Node_statSize_2 : decode c_Node_statSize 2 = .ok (.aload_n 0, 1) := by decide +kernel
theorem d_Node_statSize_3 : decode c_Node_statSize 3 = .ok (.getfield 18, 3) := by decide +kernel
theorem d_Node_statSize_6 : decode c_Node_statSize 6 = .ok (.arraylength, 1) := by decide +kernel
theorem d_Node_statSize_7 : decode c_Node_statSize 7 = .ok (.iadd, 1) := by decide +kernel
theorem d_Node_statSize_8 : decode c_Node_statSize 8 = .ok (.ireturn, 1) := by decide +kernel
abbrev c_Node_isAs : ByteArray := prog_7_method_5_code
def y_Node_isAs : MethodName := ⟨"EpochServer$Node", "isAs", "(LEpochServer$Node;)Z"⟩
theorem d_Node_isAs_0 : decode c_Node_isAs 0 = .ok (.aload_n 0, 1) := by decide +kernel
theorem d_Node_isAs_1 : decode c_Node_isAs 1 = .ok (.getfield 22, 3) := by decide +kernel
theorem d_Node_isAs_4 : decode c_Node_isAs 4 = .ok (.aload_n 1, 1) := by decide +kernel
theorem d_Node_isAs_5 : decode c_Node_isAs 5 = .ok (.getfield 22, 3) := by decide +kernel
theorem d_Node_isAs_8 : decode c_Node_isAs 8 = .ok (.if_icmp .ne 37, 3) := by decide +kernel
theorem d_Node_isAs_11 : decode c_Node_isAs 11 = .ok (.aload_n 0, 1) := by decide +kernel
theorem d_Node_isAs_12 : decode c_Node_isAs 12 = .ok (.getfield 25, 3) := by decide +kernel
theorem d_Node_isAs_15 : decode c_Node_isAs 15 = .ok (.aload_n 1, 1) := by decide +kernel
theorem d_Node_isAs_16 : decode c_Node_isAs 16 = .ok (.getfield 25, 3) := by decide +kernel
theorem d_Node_isAs_19 : decode c_Node_isAs 19 = .ok (.if_icmp .ne 26, 3) := by decide +kernel
theorem d_Node_isAs_22 : decode c_Node_isAs 22 = .ok (.aload_n 0, 1) := by decide +kernel
theorem d_Node_isAs_23 : decode c_Node_isAs 23 = .ok (.getfield 28, 3) := by decide +kernel
theorem d_Node_isAs_26 : decode c_Node_isAs 26 = .ok (.aload_n 1, 1) := by decide +kernel
theorem d_Node_isAs_27 : decode c_Node_isAs 27 = .ok (.getfield 28, 3) := by decide +kernel
theorem d_Node_isAs_30 : decode c_Node_isAs 30 = .ok (.if_icmp .ne 15, 3) := by decide +kernel
theorem d_Node_isAs_33 : decode c_Node_isAs 33 = .ok (.aload_n 0, 1) := by decide +kernel
theorem d_Node_isAs_34 : decode c_Node_isAs 34 = .ok (.aload_n 1, 1) := by decide +kernel
theorem d_Node_isAs_35 : decode c_Node_isAs 35 = .ok (.invokevirtual 37, 3) := by decide +kernel
theorem d_Node_isAs_38 : decode c_Node_isAs 38 = .ok (.ifCond .eq 7, 3) := by decide +kernel
theorem d_Node_isAs_41 : decode c_Node_isAs 41 = .ok (.iconst 1, 1) := by decide +kernel
theorem d_Node_isAs_42 : decode c_Node_isAs 42 = .ok (.goto 4, 3) := by decide +kernel
theorem d_Node_isAs_45 : decode c_Node_isAs 45 = .ok (.iconst 0, 1) := by decide +kernel
theorem d_Node_isAs_46 : decode c_Node_isAs 46 = .ok (.ireturn, 1) := by decide +kernel
abbrev c_Node_isNamedAs : ByteArray := prog_7_method_6_code
def y_Node_isNamedAs : MethodName := ⟨"EpochServer$Node", "isNamedAs", "(LEpochServer$Node;)Z"⟩
theorem d_Node_isNamedAs_0 : decode c_Node_isNamedAs 0 = .ok (.iconst 0, 1) := by decide +kernel
theorem d_Node_isNamedAs_1 : decode c_Node_isNamedAs 1 = .ok (.istore_n 2, 1) := by decide +kernel
theorem d_Node_isNamedAs_2 : decode c_Node_isNamedAs 2 = .ok (.iload_n 2, 1) := by decide +kernel
theorem d_Node_isNamedAs_3 : decode c_Node_isNamedAs 3 = .ok (.aload_n 0, 1) := by decide +kernel
theorem d_Node_isNamedAs_4 : decode c_Node_isNamedAs 4 = .ok (.getfield 18, 3) := by decide +kernel
theorem d_Node_isNamedAs_7 : decode c_Node_isNamedAs 7 = .ok (.arraylength, 1) := by decide +kernel
theorem d_Node_isNamedAs_8 : decode c_Node_isNamedAs 8 = .ok (.if_icmp .ge 33, 3) := by decide +kernel
theorem d_Node_isNamedAs_11 : decode c_Node_isNamedAs 11 = .ok (.iload_n 2, 1) := by decide +kernel
theorem d_Node_isNamedAs_12 : decode c_Node_isNamedAs 12 = .ok (.aload_n 1, 1) := by decide +kernel
theorem d_Node_isNamedAs_13 : decode c_Node_isNamedAs 13 = .ok (.getfield 18, 3) := by decide +kernel
theorem d_Node_isNamedAs_16 : decode c_Node_isNamedAs 16 = .ok (.arraylength, 1) := by decide +kernel
theorem d_Node_isNamedAs_17 : decode c_Node_isNamedAs 17 = .ok (.if_icmp .ge 24, 3) := by decide +kernel
theorem d_Node_isNamedAs_20 : decode c_Node_isNamedAs 20 = .ok (.aload_n 0, 1) := by decide +kernel
theorem d_Node_isNamedAs_21 : decode c_Node_isNamedAs 21 = .ok (.getfield 18, 3) := by decide +kernel
theorem d_Node_isNamedAs_24 : decode c_Node_isNamedAs 24 = .ok (.iload_n 2, 1) := by decide +kernel
theorem d_Node_isNamedAs_25 : decode c_Node_isNamedAs 25 = .ok (.baload, 1) := by decide +kernel
theorem d_Node_isNamedAs_26 : decode c_Node_isNamedAs 26 = .ok (.aload_n 1, 1) := by decide +kernel
theorem d_Node_isNamedAs_27 : decode c_Node_isNamedAs 27 = .ok (.getfield 18, 3) := by decide +kernel
theorem d_Node_isNamedAs_30 : decode c_Node_isNamedAs 30 = .ok (.iload_n 2, 1) := by decide +kernel
theorem d_Node_isNamedAs_31 : decode c_Node_isNamedAs 31 = .ok (.baload, 1) := by decide +kernel
theorem d_Node_isNamedAs_32 : decode c_Node_isNamedAs 32 = .ok (.if_icmp .ne 9, 3) := by decide +kernel
theorem d_Node_isNamedAs_35 : decode c_Node_isNamedAs 35 = .ok (.iinc 2 1, 3) := by decide +kernel
theorem d_Node_isNamedAs_38 : decode c_Node_isNamedAs 38 = .ok (.goto (-36), 3) := by decide +kernel
theorem d_Node_isNamedAs_41 : decode c_Node_isNamedAs 41 = .ok (.iload_n 2, 1) := by decide +kernel
theorem d_Node_isNamedAs_42 : decode c_Node_isNamedAs 42 = .ok (.aload_n 0, 1) := by decide +kernel
theorem d_Node_isNamedAs_43 : decode c_Node_isNamedAs 43 = .ok (.getfield 18, 3) := by decide +kernel
theorem d_Node_isNamedAs_46 : decode c_Node_isNamedAs 46 = .ok (.arraylength, 1) := by decide +kernel
theorem d_Node_isNamedAs_47 : decode c_Node_isNamedAs 47 = .ok (.if_icmp .ne 16, 3) := by decide +kernel
theorem d_Node_isNamedAs_50 : decode c_Node_isNamedAs 50 = .ok (.iload_n 2, 1) := by decide +kernel
theorem d_Node_isNamedAs_51 : decode c_Node_isNamedAs 51 = .ok (.aload_n 1, 1) := by decide +kernel
theorem d_Node_isNamedAs_52 : decode c_Node_isNamedAs 52 = .ok (.getfield 18, 3) := by decide +kernel
theorem d_Node_isNamedAs_55 : decode c_Node_isNamedAs 55 = .ok (.arraylength, 1) := by decide +kernel
theorem d_Node_isNamedAs_56 : decode c_Node_isNamedAs 56 = .ok (.if_icmp .ne 7, 3) := by decide +kernel
theorem d_Node_isNamedAs_59 : decode c_Node_isNamedAs 59 = .ok (.iconst 1, 1) := by decide +kernel
theorem d_Node_isNamedAs_60 : decode c_Node_isNamedAs 60 = .ok (.goto 4, 3) := by decide +kernel
theorem d_Node_isNamedAs_63 : decode c_Node_isNamedAs 63 = .ok (.iconst 0, 1) := by decide +kernel
theorem d_Node_isNamedAs_64 : decode c_Node_isNamedAs 64 = .ok (.ireturn, 1) := by decide +kernel
abbrev c_Request_init : ByteArray := prog_8_method_1_code
def y_Request_init : MethodName := ⟨"EpochServer$Request", "<init>", "(LEpochServer$Bytes;)V"⟩
theorem d_Request_init_0 : decode c_Request_init 0 = .ok (.aload_n 0, 1) := by decide +kernel
theorem d_Request_init_1 : decode c_Request_init 1 = .ok (.invokespecial 3, 3) := by decide +kernel
theorem d_Request_init_4 : decode c_Request_init 4 = .ok (.aload_n 0, 1) := by decide +kernel
theorem d_Request_init_5 : decode c_Request_init 5 = .ok (.iconst 0, 1) := by decide +kernel
theorem d_Request_init_6 : decode c_Request_init 6 = .ok (.putfield 9, 3) := by decide +kernel
theorem d_Request_init_9 : decode c_Request_init 9 = .ok (.aload_n 0, 1) := by decide +kernel
theorem d_Request_init_10 : decode c_Request_init 10 = .ok (.iconst 0, 1) := by decide +kernel
theorem d_Request_init_11 : decode c_Request_init 11 = .ok (.putfield 15, 3) := by decide +kernel
theorem d_Request_init_14 : decode c_Request_init 14 = .ok (.aload_n 0, 1) := by decide +kernel
theorem d_Request_init_15 : decode c_Request_init 15 = .ok (.iconst 0, 1) := by decide +kernel
theorem d_Request_init_16 : decode c_Request_init 16 = .ok (.putfield 18, 3) := by decide +kernel
theorem d_Request_init_19 : decode c_Request_init 19 = .ok (.aload_n 0, 1) := by decide +kernel
theorem d_Request_init_20 : decode c_Request_init 20 = .ok (.iconst 0, 1) := by decide +kernel
theorem d_Request_init_21 : decode c_Request_init 21 = .ok (.putfield 22, 3) := by decide +kernel
theorem d_Request_init_24 : decode c_Request_init 24 = .ok (.aload_n 0, 1) := by decide +kernel
theorem d_Request_init_25 : decode c_Request_init 25 = .ok (.iconst 0, 1) := by decide +kernel
theorem d_Request_init_26 : decode c_Request_init 26 = .ok (.putfield 25, 3) := by decide +kernel
theorem d_Request_init_29 : decode c_Request_init 29 = .ok (.aload_n 0, 1) := by decide +kernel
theorem d_Request_init_30 : decode c_Request_init 30 = .ok (.iconst 0, 1) := by decide +kernel
theorem d_Request_init_31 : decode c_Request_init 31 = .ok (.putfield 28, 3) := by decide +kernel
theorem d_Request_init_34 : decode c_Request_init 34 = .ok (.aload_n 0, 1) := by decide +kernel
theorem d_Request_init_35 : decode c_Request_init 35 = .ok (.iconst 0, 1) := by decide +kernel
theorem d_Request_init_36 : decode c_Request_init 36 = .ok (.putfield 31, 3) := by decide +kernel
theorem d_Request_init_39 : decode c_Request_init 39 = .ok (.aload_n 0, 1) := by decide +kernel
theorem d_Request_init_40 : decode c_Request_init 40 = .ok (.iconst 0, 1) := by decide +kernel
theorem d_Request_init_41 : decode c_Request_init 41 = .ok (.putfield 34, 3) := by decide +kernel
theorem d_Request_init_44 : decode c_Request_init 44 = .ok (.aload_n 0, 1) := by decide +kernel
theorem d_Request_init_45 : decode c_Request_init 45 = .ok (.iconst 0, 1) := by decide +kernel
theorem d_Request_init_46 : decode c_Request_init 46 = .ok (.putfield 37, 3) := by decide +kernel
theorem d_Request_init_49 : decode c_Request_init 49 = .ok (.aload_n 0, 1) := by decide +kernel
theorem d_Request_init_50 : decode c_Request_init 50 = .ok (.iconst 0, 1) := by decide +kernel
theorem d_Request_init_51 : decode c_Request_init 51 = .ok (.putfield 40, 3) := by decide +kernel
theorem d_Request_init_54 : decode c_Request_init 54 = .ok (.aload_n 0, 1) := by decide +kernel
theorem d_Request_init_55 : decode c_Request_init 55 = .ok (.iconst 0, 1) := by decide +kernel
theorem d_Request_init_56 : decode c_Request_init 56 = .ok (.putfield 43, 3) := by decide +kernel
theorem d_Request_init_59 : decode c_Request_init 59 = .ok (.aload_n 0, 1) := by decide +kernel
theorem d_Request_init_60 : decode c_Request_init 60 = .ok (.iconst 0, 1) := by decide +kernel
theorem d_Request_init_61 : decode c_Request_init 61 = .ok (.putfield 46, 3) := by decide +kernel
theorem d_Request_init_64 : decode c_Request_init 64 = .ok (.aload_n 0, 1) := by decide +kernel
theorem d_Request_init_65 : decode c_Request_init 65 = .ok (.lconst 0, 1) := by decide +kernel
theorem d_Request_init_66 : decode c_Request_init 66 = .ok (.putfield 49, 3) := by decide +kernel
theorem d_Request_init_69 : decode c_Request_init 69 = .ok (.aload_n 0, 1) := by decide +kernel
theorem d_Request_init_70 : decode c_Request_init 70 = .ok (.iconst 0, 1) := by decide +kernel
theorem d_Request_init_71 : decode c_Request_init 71 = .ok (.putfield 53, 3) := by decide +kernel
theorem d_Request_init_74 : decode c_Request_init 74 = .ok (.aload_n 0, 1) := by decide +kernel
theorem d_Request_init_75 : decode c_Request_init 75 = .ok (.iconst 0, 1) := by decide +kernel
theorem d_Request_init_76 : decode c_Request_init 76 = .ok (.putfield 56, 3) := by decide +kernel
theorem d_Request_init_79 : decode c_Request_init 79 = .ok (.aload_n 0, 1) := by decide +kernel
theorem d_Request_init_80 : decode c_Request_init 80 = .ok (.iconst 0, 1) := by decide +kernel
theorem d_Request_init_81 : decode c_Request_init 81 = .ok (.putfield 59, 3) := by decide +kernel
theorem d_Request_init_84 : decode c_Request_init 84 = .ok (.aload_n 0, 1) := by decide +kernel
theorem d_Request_init_85 : decode c_Request_init 85 = .ok (.aload_n 1, 1) := by decide +kernel
theorem d_Request_init_86 : decode c_Request_init 86 = .ok (.putfield 62, 3) := by decide +kernel
theorem d_Request_init_89 : decode c_Request_init 89 = .ok (.return_, 1) := by decide +kernel
abbrev c_Request_parse : ByteArray := prog_8_method_2_code
def y_Request_parse : MethodName := ⟨"EpochServer$Request", "parse", "(I)Z"⟩
theorem d_Request_parse_0 : decode c_Request_parse 0 = .ok (.aload_n 0, 1) := by decide +kernel
theorem d_Request_parse_1 : decode c_Request_parse 1 = .ok (.iload_n 1, 1) := by decide +kernel
theorem d_Request_parse_2 : decode c_Request_parse 2 = .ok (.putfield 9, 3) := by decide +kernel
theorem d_Request_parse_5 : decode c_Request_parse 5 = .ok (.aload_n 0, 1) := by decide +kernel
theorem d_Request_parse_6 : decode c_Request_parse 6 = .ok (.iconst 0, 1) := by decide +kernel
theorem d_Request_parse_7 : decode c_Request_parse 7 = .ok (.putfield 15, 3) := by decide +kernel
theorem d_Request_parse_10 : decode c_Request_parse 10 = .ok (.aload_n 0, 1) := by decide +kernel
theorem d_Request_parse_11 : decode c_Request_parse 11 = .ok (.iconst 1, 1) := by decide +kernel
theorem d_Request_parse_12 : decode c_Request_parse 12 = .ok (.putfield 18, 3) := by decide +kernel
theorem d_Request_parse_15 : decode c_Request_parse 15 = .ok (.aload_n 0, 1) := by decide +kernel
theorem d_Request_parse_16 : decode c_Request_parse 16 = .ok (.iconst 4, 1) := by decide +kernel
theorem d_Request_parse_17 : decode c_Request_parse 17 = .ok (.invokevirtual 66, 3) := by decide +kernel
theorem d_Request_parse_20 : decode c_Request_parse 20 = .ok (.istore_n 2, 1) := by decide +kernel
theorem d_Request_parse_21 : decode c_Request_parse 21 = .ok (.aload_n 0, 1) := by decide +kernel
theorem d_Request_parse_22 : decode c_Request_parse 22 = .ok (.aload_n 0, 1) := by decide +kernel
theorem d_Request_parse_23 : decode c_Request_parse 23 = .ok (.iconst 1, 1) := by decide +kernel
theorem d_Request_parse_24 : decode c_Request_parse 24 = .ok (.invokevirtual 66, 3) := by decide +kernel
theorem d_Request_parse_27 : decode c_Request_parse 27 = .ok (.putfield 25, 3) := by decide +kernel
theorem d_Request_parse_30 : decode c_Request_parse 30 = .ok (.aload_n 0, 1) := by decide +kernel
theorem d_Request_parse_31 : decode c_Request_parse 31 = .ok (.aload_n 0, 1) := by decide +kernel
theorem d_Request_parse_32 : decode c_Request_parse 32 = .ok (.iconst 2, 1) := by decide +kernel
theorem d_Request_parse_33 : decode c_Request_parse 33 = .ok (.invokevirtual 66, 3) := by decide +kernel
theorem d_Request_parse_36 : decode c_Request_parse 36 = .ok (.putfield 28, 3) := by decide +kernel
theorem d_Request_parse_39 : decode c_Request_parse 39 = .ok (.iload_n 2, 1) := by decide +kernel
theorem d_Request_parse_40 : decode c_Request_parse 40 = .ok (.iload_n 1, 1) := by decide +kernel
theorem d_Request_parse_41 : decode c_Request_parse 41 = .ok (.if_icmp .ne 10, 3) := by decide +kernel
theorem d_Request_parse_44 : decode c_Request_parse 44 = .ok (.aload_n 0, 1) := by decide +kernel
theorem d_Request_parse_45 : decode c_Request_parse 45 = .ok (.getfield 18, 3) := by decide +kernel
theorem d_Request_parse_48 : decode c_Request_parse 48 = .ok (.ifCond .ne 5, 3) := by decide +kernel
theorem d_Request_parse_51 : decode c_Request_parse 51 = .ok (.iconst 0, 1) := by decide +kernel
theorem d_Request_parse_52 : decode c_Request_parse 52 = .ok (.ireturn, 1) := by decide +kernel
theorem d_Request_parse_53 : decode c_Request_parse 53 = .ok (.aload_n 0, 1) := by decide +kernel
theorem d_Request_parse_54 : decode c_Request_parse 54 = .ok (.invokevirtual 70, 3) := by decide +kernel
theorem d_Request_parse_57 : decode c_Request_parse 57 = .ok (.ifCond .eq 25, 3) := by decide +kernel
theorem d_Request_parse_60 : decode c_Request_parse 60 = .ok (.aload_n 0, 1) := by decide +kernel
theorem d_Request_parse_61 : decode c_Request_parse 61 = .ok (.getfield 18, 3) := by decide +kernel
theorem d_Request_parse_64 : decode c_Request_parse 64 = .ok (.ifCond .eq 18, 3) := by decide +kernel
theorem d_Request_parse_67 : decode c_Request_parse 67 = .ok (.aload_n 0, 1) := by decide +kernel
theorem d_Request_parse_68 : decode c_Request_parse 68 = .ok (.getfield 15, 3) := by decide +kernel
theorem d_Request_parse_71 : decode c_Request_parse 71 = .ok (.aload_n 0, 1) := by decide +kernel
theorem d_Request_parse_72 : decode c_Request_parse 72 = .ok (.getfield 9, 3) := by decide +kernel
theorem d_Request_parse_75 : decode c_Request_parse 75 = .ok (.if_icmp .ne 7, 3) := by decide +kernel
theorem d_Request_parse_78 : decode c_Request_parse 78 = .ok (.iconst 1, 1) := by decide +kernel
theorem d_Request_parse_79 : decode c_Request_parse 79 = .ok (.goto 4, 3) := by decide +kernel
theorem d_Request_parse_82 : decode c_Request_parse 82 = .ok (.iconst 0, 1) := by decide +kernel
theorem d_Request_parse_83 : decode c_Request_parse 83 = .ok (.ireturn, 1) := by decide +kernel
abbrev c_Request_parseBody : ByteArray := prog_8_method_3_code
def y_Request_parseBody : MethodName := ⟨"EpochServer$Request", "parseBody", "()Z"⟩
theorem d_Request_parseBody_0 : decode c_Request_parseBody 0 = .ok (.aload_n 0, 1) := by decide +kernel
theorem d_Request_parseBody_1 : decode c_Request_parseBody 1 = .ok (.aload_n 0, 1) := by decide +kernel
theorem d_Request_parseBody_2 : decode c_Request_parseBody 2 = .ok (.getfield 25, 3) := by decide +kernel
theorem d_Request_parseBody_5 : decode c_Request_parseBody 5 = .ok (.bipush 100, 2) := by decide +kernel
theorem d_Request_parseBody_7 : decode c_Request_parseBody 7 = .ok (.if_icmp .eq 21, 3) := by decide +kernel
theorem d_Request_parseBody_10 : decode c_Request_parseBody 10 = .ok (.aload_n 0, 1) := by decide +kernel
theorem d_Request_parseBody_11 : decode c_Request_parseBody 11 = .ok (.getfield 25, 3) := by decide +kernel
theorem d_Request_parseBody_14 : decode c_Request_parseBody 14 = .ok (.bipush 102, 2) := by decide +kernel
theorem d_Request_parseBody_16 : decode c_Request_parseBody 16 = .ok (.if_icmp .eq 12, 3) := by decide +kernel
theorem d_Request_parseBody_19 : decode c_Request_parseBody 19 = .ok (.aload_n 0, 1) := by decide +kernel
theorem d_Request_parseBody_20 : decode c_Request_parseBody 20 = .ok (.getfield 25, 3) := by decide +kernel
theorem d_Request_parseBody_23 : decode c_Request_parseBody 23 = .ok (.bipush 108, 2) := by decide +kernel
theorem d_Request_parseBody_25 : decode c_Request_parseBody 25 = .ok (.if_icmp .ne 7, 3) := by decide +kernel
theorem d_Request_parseBody_28 : decode c_Request_parseBody 28 = .ok (.iconst 0, 1) := by decide +kernel
theorem d_Request_parseBody_29 : decode c_Request_parseBody 29 = .ok (.goto 8, 3) := by decide +kernel
theorem d_Request_parseBody_32 : decode c_Request_parseBody 32 = .ok (.aload_n 0, 1) := by decide +kernel
theorem d_Request_parseBody_33 : decode c_Request_parseBody 33 = .ok (.iconst 4, 1) := by decide +kernel
theorem d_Request_parseBody_34 : decode c_Request_parseBody 34 = .ok (.invokevirtual 66, 3) := by decide +kernel
theorem d_Request_parseBody_37 : decode c_Request_parseBody 37 = .ok (.putfield 31, 3) := by decide +kernel
theorem d_Request_parseBody_40 : decode c_Request_parseBody 40 = .ok (.aload_n 0, 1) := by decide +kernel
theorem d_Request_parseBody_41 : decode c_Request_parseBody 41 = .ok (.getfield 25, 3) := by decide +kernel
theorem d_Request_parseBody_44 : decode c_Request_parseBody 44 = .ok (.tableswitch 283 100 126 #[124, 283, 139, 283, 158, 283, 283, 283, 177, 283, 188, 283, 203, 283, 214, 283, 238, 283, 259, 283, 275, 283, 275, 283, 275, 283, 277], 124) := by decide +kernel
theorem d_Request_parseBody_168 : decode c_Request_parseBody 168 = .ok (.aload_n 0, 1) := by decide +kernel
theorem d_Request_parseBody_169 : decode c_Request_parseBody 169 = .ok (.aload_n 0, 1) := by decide +kernel
theorem d_Request_parseBody_170 : decode c_Request_parseBody 170 = .ok (.iconst 4, 1) := by decide +kernel
theorem d_Request_parseBody_171 : decode c_Request_parseBody 171 = .ok (.invokevirtual 66, 3) := by decide +kernel
theorem d_Request_parseBody_174 : decode c_Request_parseBody 174 = .ok (.putfield 34, 3) := by decide +kernel
theorem d_Request_parseBody_177 : decode c_Request_parseBody 177 = .ok (.aload_n 0, 1) := by decide +kernel
theorem d_Request_parseBody_178 : decode c_Request_parseBody 178 = .ok (.invokevirtual 74, 3) := by decide +kernel
theorem d_Request_parseBody_181 : decode c_Request_parseBody 181 = .ok (.iconst 1, 1) := by decide +kernel
theorem d_Request_parseBody_182 : decode c_Request_parseBody 182 = .ok (.ireturn, 1) := by decide +kernel
theorem d_Request_parseBody_183 : decode c_Request_parseBody 183 = .ok (.aload_n 0, 1) := by decide +kernel
theorem d_Request_parseBody_184 : decode c_Request_parseBody 184 = .ok (.aload_n 0, 1) := by decide +kernel
theorem d_Request_parseBody_185 : decode c_Request_parseBody 185 = .ok (.iconst 4, 1) := by decide +kernel
theorem d_Request_parseBody_186 : decode c_Request_parseBody 186 = .ok (.invokevirtual 66, 3) := by decide +kernel
theorem d_Request_parseBody_189 : decode c_Request_parseBody 189 = .ok (.putfield 34, 3) := by decide +kernel
theorem d_Request_parseBody_192 : decode c_Request_parseBody 192 = .ok (.aload_n 0, 1) := by decide +kernel
theorem d_Request_parseBody_193 : decode c_Request_parseBody 193 = .ok (.invokevirtual 74, 3) := by decide +kernel
theorem d_Request_parseBody_196 : decode c_Request_parseBody 196 = .ok (.aload_n 0, 1) := by decide +kernel
theorem d_Request_parseBody_197 : decode c_Request_parseBody 197 = .ok (.invokevirtual 74, 3) := by decide +kernel
theorem d_Request_parseBody_200 : decode c_Request_parseBody 200 = .ok (.iconst 1, 1) := by decide +kernel
theorem d_Request_parseBody_201 : decode c_Request_parseBody 201 = .ok (.ireturn, 1) := by decide +kernel
theorem d_Request_parseBody_202 : decode c_Request_parseBody 202 = .ok (.aload_n 0, 1) := by decide +kernel
theorem d_Request_parseBody_203 : decode c_Request_parseBody 203 = .ok (.aload_n 0, 1) := by decide +kernel
theorem d_Request_parseBody_204 : decode c_Request_parseBody 204 = .ok (.iconst 4, 1) := by decide +kernel
theorem d_Request_parseBody_205 : decode c_Request_parseBody 205 = .ok (.invokevirtual 66, 3) := by decide +kernel
theorem d_Request_parseBody_208 : decode c_Request_parseBody 208 = .ok (.putfield 34, 3) := by decide +kernel
theorem d_Request_parseBody_211 : decode c_Request_parseBody 211 = .ok (.aload_n 0, 1) := by decide +kernel
theorem d_Request_parseBody_212 : decode c_Request_parseBody 212 = .ok (.invokevirtual 74, 3) := by decide +kernel
theorem d_Request_parseBody_215 : decode c_Request_parseBody 215 = .ok (.aload_n 0, 1) := by decide +kernel
theorem d_Request_parseBody_216 : decode c_Request_parseBody 216 = .ok (.invokevirtual 74, 3) := by decide +kernel
theorem d_Request_parseBody_219 : decode c_Request_parseBody 219 = .ok (.iconst 1, 1) := by decide +kernel
theorem d_Request_parseBody_220 : decode c_Request_parseBody 220 = .ok (.ireturn, 1) := by decide +kernel
theorem d_Request_parseBody_221 : decode c_Request_parseBody 221 = .ok (.aload_n 0, 1) := by decide +kernel
theorem d_Request_parseBody_222 : decode c_Request_parseBody 222 = .ok (.aload_n 0, 1) := by decide +kernel
theorem d_Request_parseBody_223 : decode c_Request_parseBody 223 = .ok (.iconst 2, 1) := by decide +kernel
theorem d_Request_parseBody_224 : decode c_Request_parseBody 224 = .ok (.invokevirtual 66, 3) := by decide +kernel
theorem d_Request_parseBody_227 : decode c_Request_parseBody 227 = .ok (.putfield 34, 3) := by decide +kernel
theorem d_Request_parseBody_230 : decode c_Request_parseBody 230 = .ok (.iconst 1, 1) := by decide +kernel
theorem d_Request_parseBody_231 : decode c_Request_parseBody 231 = .ok (.ireturn, 1) := by decide +kernel
theorem d_Request_parseBody_232 : decode c_Request_parseBody 232 = .ok (.aload_n 0, 1) := by decide +kernel
theorem d_Request_parseBody_233 : decode c_Request_parseBody 233 = .ok (.aload_n 0, 1) := by decide +kernel
theorem d_Request_parseBody_234 : decode c_Request_parseBody 234 = .ok (.iconst 4, 1) := by decide +kernel
theorem d_Request_parseBody_235 : decode c_Request_parseBody 235 = .ok (.invokevirtual 66, 3) := by decide +kernel
theorem d_Request_parseBody_238 : decode c_Request_parseBody 238 = .ok (.putfield 34, 3) := by decide +kernel
theorem d_Request_parseBody_241 : decode c_Request_parseBody 241 = .ok (.aload_n 0, 1) := by decide +kernel
theorem d_Request_parseBody_242 : decode c_Request_parseBody 242 = .ok (.invokevirtual 77, 3) := by decide +kernel
theorem d_Request_parseBody_245 : decode c_Request_parseBody 245 = .ok (.iconst 1, 1) := by decide +kernel
theorem d_Request_parseBody_246 : decode c_Request_parseBody 246 = .ok (.ireturn, 1) := by decide +kernel
theorem d_Request_parseBody_247 : decode c_Request_parseBody 247 = .ok (.aload_n 0, 1) := by decide +kernel
theorem d_Request_parseBody_248 : decode c_Request_parseBody 248 = .ok (.aload_n 0, 1) := by decide +kernel
theorem d_Request_parseBody_249 : decode c_Request_parseBody 249 = .ok (.iconst 1, 1) := by decide +kernel
theorem d_Request_parseBody_250 : decode c_Request_parseBody 250 = .ok (.invokevirtual 66, 3) := by decide +kernel
theorem d_Request_parseBody_253 : decode c_Request_parseBody 253 = .ok (.putfield 40, 3) := by decide +kernel
theorem d_Request_parseBody_256 : decode c_Request_parseBody 256 = .ok (.iconst 1, 1) := by decide +kernel
theorem d_Request_parseBody_257 : decode c_Request_parseBody 257 = .ok (.ireturn, 1) := by decide +kernel
theorem d_Request_parseBody_258 : decode c_Request_parseBody 258 = .ok (.aload_n 0, 1) := by decide +kernel
theorem d_Request_parseBody_259 : decode c_Request_parseBody 259 = .ok (.invokevirtual 74, 3) := by decide +kernel
theorem d_Request_parseBody_262 : decode c_Request_parseBody 262 = .ok (.aload_n 0, 1) := by decide +kernel
theorem d_Request_parseBody_263 : decode c_Request_parseBody 263 = .ok (.aload_n 0, 1) := by decide +kernel
theorem d_Request_parseBody_264 : decode c_Request_parseBody 264 = .ok (.iconst 4, 1) := by decide +kernel
theorem d_Request_parseBody_265 : decode c_Request_parseBody 265 = .ok (.invokevirtual 66, 3) := by decide +kernel
theorem d_Request_parseBody_268 : decode c_Request_parseBody 268 = .ok (.putfield 43, 3) := by decide +kernel
theorem d_Request_parseBody_271 : decode c_Request_parseBody 271 = .ok (.aload_n 0, 1) := by decide +kernel
theorem d_Request_parseBody_272 : decode c_Request_parseBody 272 = .ok (.aload_n 0, 1) := by decide +kernel
theorem d_Request_parseBody_273 : decode c_Request_parseBody 273 = .ok (.iconst 1, 1) := by decide +kernel
theorem d_Request_parseBody_274 : decode c_Request_parseBody 274 = .ok (.invokevirtual 66, 3) := by decide +kernel
theorem d_Request_parseBody_277 : decode c_Request_parseBody 277 = .ok (.putfield 40, 3) := by decide +kernel
theorem d_Request_parseBody_280 : decode c_Request_parseBody 280 = .ok (.iconst 1, 1) := by decide +kernel
theorem d_Request_parseBody_281 : decode c_Request_parseBody 281 = .ok (.ireturn, 1) := by decide +kernel
theorem d_Request_parseBody_282 : decode c_Request_parseBody 282 = .ok (.aload_n 0, 1) := by decide +kernel
theorem d_Request_parseBody_283 : decode c_Request_parseBody 283 = .ok (.aload_n 0, 1) := by decide +kernel
theorem d_Request_parseBody_284 : decode c_Request_parseBody 284 = .ok (.bipush 8, 2) := by decide +kernel
theorem d_Request_parseBody_286 : decode c_Request_parseBody 286 = .ok (.invokevirtual 80, 3) := by decide +kernel
theorem d_Request_parseBody_289 : decode c_Request_parseBody 289 = .ok (.putfield 49, 3) := by decide +kernel
theorem d_Request_parseBody_292 : decode c_Request_parseBody 292 = .ok (.aload_n 0, 1) := by decide +kernel
theorem d_Request_parseBody_293 : decode c_Request_parseBody 293 = .ok (.aload_n 0, 1) := by decide +kernel
theorem d_Request_parseBody_294 : decode c_Request_parseBody 294 = .ok (.iconst 4, 1) := by decide +kernel
theorem d_Request_parseBody_295 : decode c_Request_parseBody 295 = .ok (.invokevirtual 66, 3) := by decide +kernel
theorem d_Request_parseBody_298 : decode c_Request_parseBody 298 = .ok (.putfield 37, 3) := by decide +kernel
theorem d_Request_parseBody_301 : decode c_Request_parseBody 301 = .ok (.iconst 1, 1) := by decide +kernel
theorem d_Request_parseBody_302 : decode c_Request_parseBody 302 = .ok (.ireturn, 1) := by decide +kernel
theorem d_Request_parseBody_303 : decode c_Request_parseBody 303 = .ok (.aload_n 0, 1) := by decide +kernel
theorem d_Request_parseBody_304 : decode c_Request_parseBody 304 = .ok (.aload_n 0, 1) := by decide +kernel
theorem d_Request_parseBody_305 : decode c_Request_parseBody 305 = .ok (.bipush 8, 2) := by decide +kernel
theorem d_Request_parseBody_307 : decode c_Request_parseBody 307 = .ok (.invokevirtual 80, 3) := by decide +kernel
theorem d_Request_parseBody_310 : decode c_Request_parseBody 310 = .ok (.putfield 49, 3) := by decide +kernel
theorem d_Request_parseBody_313 : decode c_Request_parseBody 313 = .ok (.aload_n 0, 1) := by decide +kernel
theorem d_Request_parseBody_314 : decode c_Request_parseBody 314 = .ok (.invokevirtual 84, 3) := by decide +kernel
theorem d_Request_parseBody_317 : decode c_Request_parseBody 317 = .ok (.iconst 1, 1) := by decide +kernel
theorem d_Request_parseBody_318 : decode c_Request_parseBody 318 = .ok (.ireturn, 1) := by decide +kernel
theorem d_Request_parseBody_319 : decode c_Request_parseBody 319 = .ok (.iconst 1, 1) := by decide +kernel
theorem d_Request_parseBody_320 : decode c_Request_parseBody 320 = .ok (.ireturn, 1) := by decide +kernel
theorem d_Request_parseBody_321 : decode c_Request_parseBody 321 = .ok (.aload_n 0, 1) := by decide +kernel
theorem d_Request_parseBody_322 : decode c_Request_parseBody 322 = .ok (.invokevirtual 87, 3) := by decide +kernel
theorem d_Request_parseBody_325 : decode c_Request_parseBody 325 = .ok (.iconst 1, 1) := by decide +kernel
theorem d_Request_parseBody_326 : decode c_Request_parseBody 326 = .ok (.ireturn, 1) := by decide +kernel
theorem d_Request_parseBody_327 : decode c_Request_parseBody 327 = .ok (.iconst 0, 1) := by decide +kernel
theorem d_Request_parseBody_328 : decode c_Request_parseBody 328 = .ok (.ireturn, 1) := by decide +kernel
abbrev c_Request_number : ByteArray := prog_8_method_4_code
def y_Request_number : MethodName := ⟨"EpochServer$Request", "number", "(I)I"⟩
theorem d_Request_number_0 : decode c_Request_number 0 = .ok (.aload_n 0, 1) := by decide +kernel
theorem d_Request_number_1 : decode c_Request_number 1 = .ok (.iload_n 1, 1) := by decide +kernel
theorem d_Request_number_2 : decode c_Request_number 2 = .ok (.invokevirtual 80, 3) := by decide +kernel
theorem d_Request_number_5 : decode c_Request_number 5 = .ok (.l2i, 1) := by decide +kernel
theorem d_Request_number_6 : decode c_Request_number 6 = .ok (.ireturn, 1) := by decide +kernel
abbrev c_Request_longNumber : ByteArray := prog_8_method_5_code
def y_Request_longNumber : MethodName := ⟨"EpochServer$Request", "longNumber", "(I)J"⟩
theorem d_Request_longNumber_0 : decode c_Request_longNumber 0 = .ok (.iload_n 1, 1) := by decide +kernel
theorem d_Request_longNumber_1 : decode c_Request_longNumber 1 = .ok (.aload_n 0, 1) := by decide +kernel
theorem d_Request_longNumber_2 : decode c_Request_longNumber 2 = .ok (.getfield 9, 3) := by decide +kernel
theorem d_Request_longNumber_5 : decode c_Request_longNumber 5 = .ok (.aload_n 0, 1) := by decide +kernel
theorem d_Request_longNumber_6 : decode c_Request_longNumber 6 = .ok (.getfield 15, 3) := by decide +kernel
theorem d_Request_longNumber_9 : decode c_Request_longNumber 9 = .ok (.isub, 1) := by decide +kernel
theorem d_Request_longNumber_10 : decode c_Request_longNumber 10 = .ok (.if_icmp .le 10, 3) := by decide +kernel
theorem d_Request_longNumber_13 : decode c_Request_longNumber 13 = .ok (.aload_n 0, 1) := by decide +kernel
theorem d_Request_longNumber_14 : decode c_Request_longNumber 14 = .ok (.iconst 0, 1) := by decide +kernel
theorem d_Request_longNumber_15 : decode c_Request_longNumber 15 = .ok (.putfield 18, 3) := by decide +kernel
theorem d_Request_longNumber_18 : decode c_Request_longNumber 18 = .ok (.lconst 0, 1) := by decide +kernel
theorem d_Request_longNumber_19 : decode c_Request_longNumber 19 = .ok (.lreturn, 1) := by decide +kernel
theorem d_Request_longNumber_20 : decode c_Request_longNumber 20 = .ok (.lconst 0, 1) := by decide +kernel
theorem d_Request_longNumber_21 : decode c_Request_longNumber 21 = .ok (.lstore_n 2, 1) := by decide +kernel
theorem d_Request_longNumber_22 : decode c_Request_longNumber 22 = .ok (.iconst 0, 1) := by decide +kernel
theorem d_Request_longNumber_23 : decode c_Request_longNumber 23 = .ok (.istore 4, 2) := by decide +kernel
theorem d_Request_longNumber_25 : decode c_Request_longNumber 25 = .ok (.iload 4, 2) := by decide +kernel
theorem d_Request_longNumber_27 : decode c_Request_longNumber 27 = .ok (.iload_n 1, 1) := by decide +kernel
theorem d_Request_longNumber_28 : decode c_Request_longNumber 28 = .ok (.if_icmp .ge 33, 3) := by decide +kernel
theorem d_Request_longNumber_31 : decode c_Request_longNumber 31 = .ok (.lload_n 2, 1) := by decide +kernel
theorem d_Request_longNumber_32 : decode c_Request_longNumber 32 = .ok (.aload_n 0, 1) := by decide +kernel
theorem d_Request_longNumber_33 : decode c_Request_longNumber 33 = .ok (.getfield 62, 3) := by decide +kernel
theorem d_Request_longNumber_36 : decode c_Request_longNumber 36 = .ok (.aload_n 0, 1) := by decide +kernel
theorem d_Request_longNumber_37 : decode c_Request_longNumber 37 = .ok (.getfield 15, 3) := by decide +kernel
theorem d_Request_longNumber_40 : decode c_Request_longNumber 40 = .ok (.iload 4, 2) := by decide +kernel
theorem d_Request_longNumber_42 : decode c_Request_longNumber 42 = .ok (.iadd, 1) := by decide +kernel
theorem d_Request_longNumber_43 : decode c_Request_longNumber 43 = .ok (.invokevirtual 90, 3) := by decide +kernel
theorem d_Request_longNumber_46 : decode c_Request_longNumber 46 = .ok (.i2l, 1) := by decide +kernel
theorem d_Request_longNumber_47 : decode c_Request_longNumber 47 = .ok (.bipush 8, 2) := by decide +kernel
theorem d_Request_longNumber_49 : decode c_Request_longNumber 49 = .ok (.iload 4, 2) := by decide +kernel
theorem d_Request_longNumber_51 : decode c_Request_longNumber 51 = .ok (.imul, 1) := by decide +kernel
theorem d_Request_longNumber_52 : decode c_Request_longNumber 52 = .ok (.lshl, 1) := by decide +kernel
theorem d_Request_longNumber_53 : decode c_Request_longNumber 53 = .ok (.lor, 1) := by decide +kernel
theorem d_Request_longNumber_54 : decode c_Request_longNumber 54 = .ok (.lstore_n 2, 1) := by decide +kernel
theorem d_Request_longNumber_55 : decode c_Request_longNumber 55 = .ok (.iinc 4 1, 3) := by decide +kernel
theorem d_Request_longNumber_58 : decode c_Request_longNumber 58 = .ok (.goto (-33), 3) := by decide +kernel
theorem d_Request_longNumber_61 : decode c_Request_longNumber 61 = .ok (.aload_n 0, 1) := by decide +kernel
theorem d_Request_longNumber_62 : decode c_Request_longNumber 62 = .ok (.dup, 1) := by decide +kernel
theorem d_Request_longNumber_63 : decode c_Request_longNumber 63 = .ok (.getfield 15, 3) := by decide +kernel
theorem d_Request_longNumber_66 : decode c_Request_longNumber 66 = .ok (.iload_n 1, 1) := by decide +kernel
theorem d_Request_longNumber_67 : decode c_Request_longNumber 67 = .ok (.iadd, 1) := by decide +kernel
theorem d_Request_longNumber_68 : decode c_Request_longNumber 68 = .ok (.putfield 15, 3) := by decide +kernel
theorem d_Request_longNumber_71 : decode c_Request_longNumber 71 = .ok (.lload_n 2, 1) := by decide +kernel
theorem d_Request_longNumber_72 : decode c_Request_longNumber 72 = .ok (.lreturn, 1) := by decide +kernel
abbrev c_Request_skip : ByteArray := prog_8_method_6_code
def y_Request_skip : MethodName := ⟨"EpochServer$Request", "skip", "(I)V"⟩
theorem d_Request_skip_0 : decode c_Request_skip 0 = .ok (.iload_n 1, 1) := by decide +kernel
theorem d_Request_skip_1 : decode c_Request_skip 1 = .ok (.ifCond .lt 16, 3) := by decide +kernel
theorem d_Request_skip_4 : decode c_Request_skip 4 = .ok (.iload_n 1, 1) := by decide +kernel
theorem d_Request_skip_5 : decode c_Request_skip 5 = .ok (.aload_n 0, 1) := by decide +kernel
theorem d_Request_skip_6 : decode c_Request_skip 6 = .ok (.getfield 9, 3) := by decide +kernel
theorem d_Request_skip_9 : decode c_Request_skip 9 = .ok (.aload_n 0, 1) := by decide +kernel
theorem d_Request_skip_10 : decode c_Request_skip 10 = .ok (.getfield 15, 3) := by decide +kernel
theorem d_Request_skip_13 : decode c_Request_skip 13 = .ok (.isub, 1) := by decide +kernel
theorem d_Request_skip_14 : decode c_Request_skip 14 = .ok (.if_icmp .le 11, 3) := by decide +kernel
theorem d_Request_skip_17 : decode c_Request_skip 17 = .ok (.aload_n 0, 1) := by decide +kernel
theorem d_Request_skip_18 : decode c_Request_skip 18 = .ok (.iconst 0, 1) := by decide +kernel
theorem d_Request_skip_19 : decode c_Request_skip 19 = .ok (.putfield 18, 3) := by decide +kernel
theorem d_Request_skip_22 : decode c_Request_skip 22 = .ok (.goto 13, 3) := by decide +kernel
theorem d_Request_skip_25 : decode c_Request_skip 25 = .ok (.aload_n 0, 1) := by decide +kernel
theorem d_Request_skip_26 : decode c_Request_skip 26 = .ok (.dup, 1) := by decide +kernel
theorem d_Request_skip_27 : decode c_Request_skip 27 = .ok (.getfield 15, 3) := by decide +kernel
theorem d_Request_skip_30 : decode c_Request_skip 30 = .ok (.iload_n 1, 1) := by decide +kernel
theorem d_Request_skip_31 : decode c_Request_skip 31 = .ok (.iadd, 1) := by decide +kernel
theorem d_Request_skip_32 : decode c_Request_skip 32 = .ok (.putfield 15, 3) := by decide +kernel
theorem d_Request_skip_35 : decode c_Request_skip 35 = .ok (.return_, 1) := by decide +kernel
abbrev c_Request_readText : ByteArray := prog_8_method_7_code
def y_Request_readText : MethodName := ⟨"EpochServer$Request", "readText", "()V"⟩
theorem d_Request_readText_0 : decode c_Request_readText 0 = .ok (.aload_n 0, 1) := by decide +kernel
theorem d_Request_readText_1 : decode c_Request_readText 1 = .ok (.aload_n 0, 1) := by decide +kernel
theorem d_Request_readText_2 : decode c_Request_readText 2 = .ok (.iconst 2, 1) := by decide +kernel
theorem d_Request_readText_3 : decode c_Request_readText 3 = .ok (.invokevirtual 66, 3) := by decide +kernel
theorem d_Request_readText_6 : decode c_Request_readText 6 = .ok (.putfield 56, 3) := by decide +kernel
theorem d_Request_readText_9 : decode c_Request_readText 9 = .ok (.aload_n 0, 1) := by decide +kernel
theorem d_Request_readText_10 : decode c_Request_readText 10 = .ok (.aload_n 0, 1) := by decide +kernel
theorem d_Request_readText_11 : decode c_Request_readText 11 = .ok (.getfield 15, 3) := by decide +kernel
theorem d_Request_readText_14 : decode c_Request_readText 14 = .ok (.putfield 53, 3) := by decide +kernel
theorem d_Request_readText_17 : decode c_Request_readText 17 = .ok (.aload_n 0, 1) := by decide +kernel
theorem d_Request_readText_18 : decode c_Request_readText 18 = .ok (.aload_n 0, 1) := by decide +kernel
theorem d_Request_readText_19 : decode c_Request_readText 19 = .ok (.getfield 56, 3) := by decide +kernel
theorem d_Request_readText_22 : decode c_Request_readText 22 = .ok (.invokevirtual 94, 3) := by decide +kernel
theorem d_Request_readText_25 : decode c_Request_readText 25 = .ok (.return_, 1) := by decide +kernel
abbrev c_Request_readNames : ByteArray := prog_8_method_8_code
def y_Request_readNames : MethodName := ⟨"EpochServer$Request", "readNames", "()V"⟩
theorem d_Request_readNames_0 : decode c_Request_readNames 0 = .ok (.aload_n 0, 1) := by decide +kernel
theorem d_Request_readNames_1 : decode c_Request_readNames 1 = .ok (.aload_n 0, 1) := by decide +kernel
theorem d_Request_readNames_2 : decode c_Request_readNames 2 = .ok (.iconst 2, 1) := by decide +kernel
theorem d_Request_readNames_3 : decode c_Request_readNames 3 = .ok (.invokevirtual 66, 3) := by decide +kernel
theorem d_Request_readNames_6 : decode c_Request_readNames 6 = .ok (.putfield 37, 3) := by decide +kernel
theorem d_Request_readNames_9 : decode c_Request_readNames 9 = .ok (.aload_n 0, 1) := by decide +kernel
theorem d_Request_readNames_10 : decode c_Request_readNames 10 = .ok (.aload_n 0, 1) := by decide +kernel
theorem d_Request_readNames_11 : decode c_Request_readNames 11 = .ok (.getfield 15, 3) := by decide +kernel
theorem d_Request_readNames_14 : decode c_Request_readNames 14 = .ok (.putfield 22, 3) := by decide +kernel
theorem d_Request_readNames_17 : decode c_Request_readNames 17 = .ok (.iconst 0, 1) := by decide +kernel
theorem d_Request_readNames_18 : decode c_Request_readNames 18 = .ok (.istore_n 1, 1) := by decide +kernel
theorem d_Request_readNames_19 : decode c_Request_readNames 19 = .ok (.iload_n 1, 1) := by decide +kernel
theorem d_Request_readNames_20 : decode c_Request_readNames 20 = .ok (.aload_n 0, 1) := by decide +kernel
theorem d_Request_readNames_21 : decode c_Request_readNames 21 = .ok (.getfield 37, 3) := by decide +kernel
theorem d_Request_readNames_24 : decode c_Request_readNames 24 = .ok (.if_icmp .ge 20, 3) := by decide +kernel
theorem d_Request_readNames_27 : decode c_Request_readNames 27 = .ok (.aload_n 0, 1) := by decide +kernel
theorem d_Request_readNames_28 : decode c_Request_readNames 28 = .ok (.getfield 18, 3) := by decide +kernel
theorem d_Request_readNames_31 : decode c_Request_readNames 31 = .ok (.ifCond .eq 13, 3) := by decide +kernel
theorem d_Request_readNames_34 : decode c_Request_readNames 34 = .ok (.aload_n 0, 1) := by decide +kernel
theorem d_Request_readNames_35 : decode c_Request_readNames 35 = .ok (.invokevirtual 74, 3) := by decide +kernel
theorem d_Request_readNames_38 : decode c_Request_readNames 38 = .ok (.iinc 1 1, 3) := by decide +kernel
theorem d_Request_readNames_41 : decode c_Request_readNames 41 = .ok (.goto (-22), 3) := by decide +kernel
theorem d_Request_readNames_44 : decode c_Request_readNames 44 = .ok (.return_, 1) := by decide +kernel
abbrev c_Request_toFirstName : ByteArray := prog_8_method_9_code
def y_Request_toFirstName : MethodName := ⟨"EpochServer$Request", "toFirstName", "()V"⟩
theorem d_Request_toFirstName_0 : decode c_Request_toFirstName 0 = .ok (.aload_n 0, 1) := by decide +kernel
theorem d_Request_toFirstName_1 : decode c_Request_toFirstName 1 = .ok (.aload_n 0, 1) := by decide +kernel
theorem d_Request_toFirstName_2 : decode c_Request_toFirstName 2 = .ok (.getfield 22, 3) := by decide +kernel
theorem d_Request_toFirstName_5 : decode c_Request_toFirstName 5 = .ok (.putfield 15, 3) := by decide +kernel
theorem d_Request_toFirstName_8 : decode c_Request_toFirstName 8 = .ok (.return_, 1) := by decide +kernel
abbrev c_Request_readData : ByteArray := prog_8_method_10_code
def y_Request_readData : MethodName := ⟨"EpochServer$Request", "readData", "()V"⟩
theorem d_Request_readData_0 : decode c_Request_readData 0 = .ok (.aload_n 0, 1) := by decide +kernel
theorem d_Request_readData_1 : decode c_Request_readData 1 = .ok (.aload_n 0, 1) := by decide +kernel
theorem d_Request_readData_2 : decode c_Request_readData 2 = .ok (.iconst 4, 1) := by decide +kernel
theorem d_Request_readData_3 : decode c_Request_readData 3 = .ok (.invokevirtual 66, 3) := by decide +kernel
theorem d_Request_readData_6 : decode c_Request_readData 6 = .ok (.putfield 37, 3) := by decide +kernel
theorem d_Request_readData_9 : decode c_Request_readData 9 = .ok (.aload_n 0, 1) := by decide +kernel
theorem d_Request_readData_10 : decode c_Request_readData 10 = .ok (.aload_n 0, 1) := by decide +kernel
theorem d_Request_readData_11 : decode c_Request_readData 11 = .ok (.getfield 37, 3) := by decide +kernel
theorem d_Request_readData_14 : decode c_Request_readData 14 = .ok (.putfield 56, 3) := by decide +kernel
theorem d_Request_readData_17 : decode c_Request_readData 17 = .ok (.aload_n 0, 1) := by decide +kernel
theorem d_Request_readData_18 : decode c_Request_readData 18 = .ok (.aload_n 0, 1) := by decide +kernel
theorem d_Request_readData_19 : decode c_Request_readData 19 = .ok (.getfield 15, 3) := by decide +kernel
theorem d_Request_readData_22 : decode c_Request_readData 22 = .ok (.putfield 53, 3) := by decide +kernel
theorem d_Request_readData_25 : decode c_Request_readData 25 = .ok (.aload_n 0, 1) := by decide +kernel
theorem d_Request_readData_26 : decode c_Request_readData 26 = .ok (.aload_n 0, 1) := by decide +kernel
theorem d_Request_readData_27 : decode c_Request_readData 27 = .ok (.getfield 37, 3) := by decide +kernel
theorem d_Request_readData_30 : decode c_Request_readData 30 = .ok (.invokevirtual 94, 3) := by decide +kernel
theorem d_Request_readData_33 : decode c_Request_readData 33 = .ok (.return_, 1) := by decide +kernel
abbrev c_Request_readStat : ByteArray := prog_8_method_11_code
def y_Request_readStat : MethodName := ⟨"EpochServer$Request", "readStat", "()V"⟩
theorem d_Request_readStat_0 : decode c_Request_readStat 0 = .ok (.aload_n 0, 1) := by decide +kernel
theorem d_Request_readStat_1 : decode c_Request_readStat 1 = .ok (.iconst 2, 1) := by decide +kernel
theorem d_Request_readStat_2 : decode c_Request_readStat 2 = .ok (.invokevirtual 66, 3) := by decide +kernel
theorem d_Request_readStat_5 : decode c_Request_readStat 5 = .ok (.istore_n 1, 1) := by decide +kernel
theorem d_Request_readStat_6 : decode c_Request_readStat 6 = .ok (.iload_n 1, 1) := by decide +kernel
theorem d_Request_readStat_7 : decode c_Request_readStat 7 = .ok (.aload_n 0, 1) := by decide +kernel
theorem d_Request_readStat_8 : decode c_Request_readStat 8 = .ok (.getfield 9, 3) := by decide +kernel
theorem d_Request_readStat_11 : decode c_Request_readStat 11 = .ok (.aload_n 0, 1) := by decide +kernel
theorem d_Request_readStat_12 : decode c_Request_readStat 12 = .ok (.getfield 15, 3) := by decide +kernel
theorem d_Request_readStat_15 : decode c_Request_readStat 15 = .ok (.isub, 1) := by decide +kernel
theorem d_Request_readStat_16 : decode c_Request_readStat 16 = .ok (.if_icmp .ne 14, 3) := by decide +kernel
theorem d_Request_readStat_19 : decode c_Request_readStat 19 = .ok (.aload_n 0, 1) := by decide +kernel
theorem d_Request_readStat_20 : decode c_Request_readStat 20 = .ok (.iconst 2, 1) := by decide +kernel
theorem d_Request_readStat_21 : decode c_Request_readStat 21 = .ok (.invokevirtual 66, 3) := by decide +kernel
theorem d_Request_readStat_24 : decode c_Request_readStat 24 = .ok (.iload_n 1, 1) := by decide +kernel
theorem d_Request_readStat_25 : decode c_Request_readStat 25 = .ok (.iconst 2, 1) := by decide +kernel
theorem d_Request_readStat_26 : decode c_Request_readStat 26 = .ok (.isub, 1) := by decide +kernel
theorem d_Request_readStat_27 : decode c_Request_readStat 27 = .ok (.if_icmp .eq 9, 3) := by decide +kernel
theorem d_Request_readStat_30 : decode c_Request_readStat 30 = .ok (.aload_n 0, 1) := by decide +kernel
theorem d_Request_readStat_31 : decode c_Request_readStat 31 = .ok (.iconst 0, 1) := by decide +kernel
theorem d_Request_readStat_32 : decode c_Request_readStat 32 = .ok (.putfield 18, 3) := by decide +kernel
theorem d_Request_readStat_35 : decode c_Request_readStat 35 = .ok (.return_, 1) := by decide +kernel
theorem d_Request_readStat_36 : decode c_Request_readStat 36 = .ok (.iconst 1, 1) := by decide +kernel
theorem d_Request_readStat_37 : decode c_Request_readStat 37 = .ok (.istore_n 2, 1) := by decide +kernel
theorem d_Request_readStat_38 : decode c_Request_readStat 38 = .ok (.iconst 0, 1) := by decide +kernel
theorem d_Request_readStat_39 : decode c_Request_readStat 39 = .ok (.istore_n 3, 1) := by decide +kernel
theorem d_Request_readStat_40 : decode c_Request_readStat 40 = .ok (.iload_n 3, 1) := by decide +kernel
theorem d_Request_readStat_41 : decode c_Request_readStat 41 = .ok (.bipush 19, 2) := by decide +kernel
theorem d_Request_readStat_43 : decode c_Request_readStat 43 = .ok (.if_icmp .ge 30, 3) := by decide +kernel
theorem d_Request_readStat_46 : decode c_Request_readStat 46 = .ok (.aload_n 0, 1) := by decide +kernel
theorem d_Request_readStat_47 : decode c_Request_readStat 47 = .ok (.iconst 1, 1) := by decide +kernel
theorem d_Request_readStat_48 : decode c_Request_readStat 48 = .ok (.invokevirtual 66, 3) := by decide +kernel
theorem d_Request_readStat_51 : decode c_Request_readStat 51 = .ok (.sipush 255, 3) := by decide +kernel
theorem d_Request_readStat_54 : decode c_Request_readStat 54 = .ok (.if_icmp .ne 11, 3) := by decide +kernel
theorem d_Request_readStat_57 : decode c_Request_readStat 57 = .ok (.iload_n 2, 1) := by decide +kernel
theorem d_Request_readStat_58 : decode c_Request_readStat 58 = .ok (.ifCond .eq 7, 3) := by decide +kernel
theorem d_Request_readStat_61 : decode c_Request_readStat 61 = .ok (.iconst 1, 1) := by decide +kernel
theorem d_Request_readStat_62 : decode c_Request_readStat 62 = .ok (.goto 4, 3) := by decide +kernel
theorem d_Request_readStat_65 : decode c_Request_readStat 65 = .ok (.iconst 0, 1) := by decide +kernel
theorem d_Request_readStat_66 : decode c_Request_readStat 66 = .ok (.istore_n 2, 1) := by decide +kernel
theorem d_Request_readStat_67 : decode c_Request_readStat 67 = .ok (.iinc 3 1, 3) := by decide +kernel
theorem d_Request_readStat_70 : decode c_Request_readStat 70 = .ok (.goto (-30), 3) := by decide +kernel
theorem d_Request_readStat_73 : decode c_Request_readStat 73 = .ok (.aload_n 0, 1) := by decide +kernel
theorem d_Request_readStat_74 : decode c_Request_readStat 74 = .ok (.aload_n 0, 1) := by decide +kernel
theorem d_Request_readStat_75 : decode c_Request_readStat 75 = .ok (.iconst 4, 1) := by decide +kernel
theorem d_Request_readStat_76 : decode c_Request_readStat 76 = .ok (.invokevirtual 66, 3) := by decide +kernel
theorem d_Request_readStat_79 : decode c_Request_readStat 79 = .ok (.putfield 43, 3) := by decide +kernel
theorem d_Request_readStat_82 : decode c_Request_readStat 82 = .ok (.aload_n 0, 1) := by decide +kernel
theorem d_Request_readStat_83 : decode c_Request_readStat 83 = .ok (.iconst 4, 1) := by decide +kernel
theorem d_Request_readStat_84 : decode c_Request_readStat 84 = .ok (.invokevirtual 66, 3) := by decide +kernel
theorem d_Request_readStat_87 : decode c_Request_readStat 87 = .ok (.iconst (-1), 1) := by decide +kernel
theorem d_Request_readStat_88 : decode c_Request_readStat 88 = .ok (.if_icmp .ne 11, 3) := by decide +kernel
theorem d_Request_readStat_91 : decode c_Request_readStat 91 = .ok (.iload_n 2, 1) := by decide +kernel
theorem d_Request_readStat_92 : decode c_Request_readStat 92 = .ok (.ifCond .eq 7, 3) := by decide +kernel
theorem d_Request_readStat_95 : decode c_Request_readStat 95 = .ok (.iconst 1, 1) := by decide +kernel
theorem d_Request_readStat_96 : decode c_Request_readStat 96 = .ok (.goto 4, 3) := by decide +kernel
theorem d_Request_readStat_99 : decode c_Request_readStat 99 = .ok (.iconst 0, 1) := by decide +kernel
theorem d_Request_readStat_100 : decode c_Request_readStat 100 = .ok (.istore_n 2, 1) := by decide +kernel
theorem d_Request_readStat_101 : decode c_Request_readStat 101 = .ok (.aload_n 0, 1) := by decide +kernel
theorem d_Request_readStat_102 : decode c_Request_readStat 102 = .ok (.aload_n 0, 1) := by decide +kernel
theorem d_Request_readStat_103 : decode c_Request_readStat 103 = .ok (.iconst 4, 1) := by decide +kernel
theorem d_Request_readStat_104 : decode c_Request_readStat 104 = .ok (.invokevirtual 66, 3) := by decide +kernel
theorem d_Request_readStat_107 : decode c_Request_readStat 107 = .ok (.putfield 46, 3) := by decide +kernel
theorem d_Request_readStat_110 : decode c_Request_readStat 110 = .ok (.aload_n 0, 1) := by decide +kernel
theorem d_Request_readStat_111 : decode c_Request_readStat 111 = .ok (.aload_n 0, 1) := by decide +kernel
theorem d_Request_readStat_112 : decode c_Request_readStat 112 = .ok (.bipush 8, 2) := by decide +kernel
theorem d_Request_readStat_114 : decode c_Request_readStat 114 = .ok (.invokevirtual 80, 3) := by decide +kernel
theorem d_Request_readStat_117 : decode c_Request_readStat 117 = .ok (.putfield 49, 3) := by decide +kernel
theorem d_Request_readStat_120 : decode c_Request_readStat 120 = .ok (.aload_n 0, 1) := by decide +kernel
theorem d_Request_readStat_121 : decode c_Request_readStat 121 = .ok (.invokevirtual 74, 3) := by decide +kernel
theorem d_Request_readStat_124 : decode c_Request_readStat 124 = .ok (.aload_n 0, 1) := by decide +kernel
theorem d_Request_readStat_125 : decode c_Request_readStat 125 = .ok (.getfield 53, 3) := by decide +kernel
theorem d_Request_readStat_128 : decode c_Request_readStat 128 = .ok (.istore_n 3, 1) := by decide +kernel
theorem d_Request_readStat_129 : decode c_Request_readStat 129 = .ok (.aload_n 0, 1) := by decide +kernel
theorem d_Request_readStat_130 : decode c_Request_readStat 130 = .ok (.getfield 56, 3) := by decide +kernel
theorem d_Request_readStat_133 : decode c_Request_readStat 133 = .ok (.istore 4, 2) := by decide +kernel
theorem d_Request_readStat_135 : decode c_Request_readStat 135 = .ok (.iconst 0, 1) := by decide +kernel
theorem d_Request_readStat_136 : decode c_Request_readStat 136 = .ok (.istore 5, 2) := by decide +kernel
theorem d_Request_readStat_138 : decode c_Request_readStat 138 = .ok (.iload 5, 2) := by decide +kernel
theorem d_Request_readStat_140 : decode c_Request_readStat 140 = .ok (.iconst 3, 1) := by decide +kernel
theorem d_Request_readStat_141 : decode c_Request_readStat 141 = .ok (.if_icmp .ge 30, 3) := by decide +kernel
theorem d_Request_readStat_144 : decode c_Request_readStat 144 = .ok (.aload_n 0, 1) := by decide +kernel
theorem d_Request_readStat_145 : decode c_Request_readStat 145 = .ok (.invokevirtual 74, 3) := by decide +kernel
theorem d_Request_readStat_148 : decode c_Request_readStat 148 = .ok (.iload_n 2, 1) := by decide +kernel
theorem d_Request_readStat_149 : decode c_Request_readStat 149 = .ok (.ifCond .eq 14, 3) := by decide +kernel
theorem d_Request_readStat_152 : decode c_Request_readStat 152 = .ok (.aload_n 0, 1) := by decide +kernel
theorem d_Request_readStat_153 : decode c_Request_readStat 153 = .ok (.getfield 56, 3) := by decide +kernel
theorem d_Request_readStat_156 : decode c_Request_readStat 156 = .ok (.ifCond .ne 7, 3) := by decide +kernel
theorem d_Request_readStat_159 : decode c_Request_readStat 159 = .ok (.iconst 1, 1) := by decide +kernel
theorem d_Request_readStat_160 : decode c_Request_readStat 160 = .ok (.goto 4, 3) := by decide +kernel
theorem d_Request_readStat_163 : decode c_Request_readStat 163 = .ok (.iconst 0, 1) := by decide +kernel
theorem d_Request_readStat_164 : decode c_Request_readStat 164 = .ok (.istore_n 2, 1) := by decide +kernel
theorem d_Request_readStat_165 : decode c_Request_readStat 165 = .ok (.iinc 5 1, 3) := by decide +kernel
theorem d_Request_readStat_168 : decode c_Request_readStat 168 = .ok (.goto (-30), 3) := by decide +kernel
theorem d_Request_readStat_171 : decode c_Request_readStat 171 = .ok (.aload_n 0, 1) := by decide +kernel
theorem d_Request_readStat_172 : decode c_Request_readStat 172 = .ok (.iload_n 3, 1) := by decide +kernel
theorem d_Request_readStat_173 : decode c_Request_readStat 173 = .ok (.putfield 53, 3) := by decide +kernel
theorem d_Request_readStat_176 : decode c_Request_readStat 176 = .ok (.aload_n 0, 1) := by decide +kernel
theorem d_Request_readStat_177 : decode c_Request_readStat 177 = .ok (.iload 4, 2) := by decide +kernel
theorem d_Request_readStat_179 : decode c_Request_readStat 179 = .ok (.putfield 56, 3) := by decide +kernel
theorem d_Request_readStat_182 : decode c_Request_readStat 182 = .ok (.aload_n 0, 1) := by decide +kernel
theorem d_Request_readStat_183 : decode c_Request_readStat 183 = .ok (.iload_n 2, 1) := by decide +kernel
theorem d_Request_readStat_184 : decode c_Request_readStat 184 = .ok (.putfield 59, 3) := by decide +kernel
theorem d_Request_readStat_187 : decode c_Request_readStat 187 = .ok (.return_, 1) := by decide +kernel
abbrev c_Request_asksNothing : ByteArray := prog_8_method_12_code
def y_Request_asksNothing : MethodName := ⟨"EpochServer$Request", "asksNothing", "()Z"⟩
theorem d_Request_asksNothing_0 : decode c_Request_asksNothing 0 = .ok (.aload_n 0, 1) := by decide +kernel
theorem d_Request_asksNothing_1 : decode c_Request_asksNothing 1 = .ok (.getfield 56, 3) := by decide +kernel
theorem d_Request_asksNothing_4 : decode c_Request_asksNothing 4 = .ok (.ifCond .ne 34, 3) := by decide +kernel
theorem d_Request_asksNothing_7 : decode c_Request_asksNothing 7 = .ok (.aload_n 0, 1) := by decide +kernel
theorem d_Request_asksNothing_8 : decode c_Request_asksNothing 8 = .ok (.getfield 43, 3) := by decide +kernel
theorem d_Request_asksNothing_11 : decode c_Request_asksNothing 11 = .ok (.iconst (-1), 1) := by decide +kernel
theorem d_Request_asksNothing_12 : decode c_Request_asksNothing 12 = .ok (.if_icmp .ne 26, 3) := by decide +kernel
theorem d_Request_asksNothing_15 : decode c_Request_asksNothing 15 = .ok (.aload_n 0, 1) := by decide +kernel
theorem d_Request_asksNothing_16 : decode c_Request_asksNothing 16 = .ok (.getfield 46, 3) := by decide +kernel
theorem d_Request_asksNothing_19 : decode c_Request_asksNothing 19 = .ok (.iconst (-1), 1) := by decide +kernel
theorem d_Request_asksNothing_20 : decode c_Request_asksNothing 20 = .ok (.if_icmp .ne 18, 3) := by decide +kernel
theorem d_Request_asksNothing_23 : decode c_Request_asksNothing 23 = .ok (.aload_n 0, 1) := by decide +kernel
theorem d_Request_asksNothing_24 : decode c_Request_asksNothing 24 = .ok (.getfield 49, 3) := by decide +kernel
theorem d_Request_asksNothing_27 : decode c_Request_asksNothing 27 = .ok (.ldc2_w 98, 3) := by decide +kernel
theorem d_Request_asksNothing_30 : decode c_Request_asksNothing 30 = .ok (.lcmp, 1) := by decide +kernel
theorem d_Request_asksNothing_31 : decode c_Request_asksNothing 31 = .ok (.ifCond .ne 7, 3) := by decide +kernel
theorem d_Request_asksNothing_34 : decode c_Request_asksNothing 34 = .ok (.iconst 1, 1) := by decide +kernel
theorem d_Request_asksNothing_35 : decode c_Request_asksNothing 35 = .ok (.goto 4, 3) := by decide +kernel
theorem d_Request_asksNothing_38 : decode c_Request_asksNothing 38 = .ok (.iconst 0, 1) := by decide +kernel
theorem d_Request_asksNothing_39 : decode c_Request_asksNothing 39 = .ok (.ireturn, 1) := by decide +kernel
abbrev c_Request_textByte : ByteArray := prog_8_method_13_code
def y_Request_textByte : MethodName := ⟨"EpochServer$Request", "textByte", "(I)I"⟩
theorem d_Request_textByte_0 : decode c_Request_textByte 0 = .ok (.iload_n 1, 1) := by decide +kernel
theorem d_Request_textByte_1 : decode c_Request_textByte 1 = .ok (.ifCond .lt 11, 3) := by decide +kernel
theorem d_Request_textByte_4 : decode c_Request_textByte 4 = .ok (.iload_n 1, 1) := by decide +kernel
theorem d_Request_textByte_5 : decode c_Request_textByte 5 = .ok (.aload_n 0, 1) := by decide +kernel
theorem d_Request_textByte_6 : decode c_Request_textByte 6 = .ok (.getfield 56, 3) := by decide +kernel
theorem d_Request_textByte_9 : decode c_Request_textByte 9 = .ok (.if_icmp .lt 7, 3) := by decide +kernel
theorem d_Request_textByte_12 : decode c_Request_textByte 12 = .ok (.iconst (-1), 1) := by decide +kernel
theorem d_Request_textByte_13 : decode c_Request_textByte 13 = .ok (.goto 16, 3) := by decide +kernel
theorem d_Request_textByte_16 : decode c_Request_textByte 16 = .ok (.aload_n 0, 1) := by decide +kernel
theorem d_Request_textByte_17 : decode c_Request_textByte 17 = .ok (.getfield 62, 3) := by decide +kernel
theorem d_Request_textByte_20 : decode c_Request_textByte 20 = .ok (.aload_n 0, 1) := by decide +kernel
theorem d_Request_textByte_21 : decode c_Request_textByte 21 = .ok (.getfield 53, 3) := by decide +kernel
theorem d_Request_textByte_24 : decode c_Request_textByte 24 = .ok (.iload_n 1, 1) := by decide +kernel
theorem d_Request_textByte_25 : decode c_Request_textByte 25 = .ok (.iadd, 1) := by decide +kernel
theorem d_Request_textByte_26 : decode c_Request_textByte 26 = .ok (.invokevirtual 90, 3) := by decide +kernel
theorem d_Request_textByte_29 : decode c_Request_textByte 29 = .ok (.ireturn, 1) := by decide +kernel
abbrev c_Request_textBegins : ByteArray := prog_8_method_14_code
def y_Request_textBegins : MethodName := ⟨"EpochServer$Request", "textBegins", "([B)Z"⟩
theorem d_Request_textBegins_0 : decode c_Request_textBegins 0 = .ok (.iconst 0, 1) := by decide +kernel
theorem d_Request_textBegins_1 : decode c_Request_textBegins 1 = .ok (.istore_n 2, 1) := by decide +kernel
theorem d_Request_textBegins_2 : decode c_Request_textBegins 2 = .ok (.iload_n 2, 1) := by decide +kernel
theorem d_Request_textBegins_3 : decode c_Request_textBegins 3 = .ok (.aload_n 1, 1) := by decide +kernel
theorem d_Request_textBegins_4 : decode c_Request_textBegins 4 = .ok (.arraylength, 1) := by decide +kernel
theorem d_Request_textBegins_5 : decode c_Request_textBegins 5 = .ok (.if_icmp .ge 42, 3) := by decide +kernel
theorem d_Request_textBegins_8 : decode c_Request_textBegins 8 = .ok (.iload_n 2, 1) := by decide +kernel
theorem d_Request_textBegins_9 : decode c_Request_textBegins 9 = .ok (.aload_n 0, 1) := by decide +kernel
theorem d_Request_textBegins_10 : decode c_Request_textBegins 10 = .ok (.getfield 56, 3) := by decide +kernel
theorem d_Request_textBegins_13 : decode c_Request_textBegins 13 = .ok (.if_icmp .ge 26, 3) := by decide +kernel
theorem d_Request_textBegins_16 : decode c_Request_textBegins 16 = .ok (.aload_n 0, 1) := by decide +kernel
theorem d_Request_textBegins_17 : decode c_Request_textBegins 17 = .ok (.getfield 62, 3) := by decide +kernel
theorem d_Request_textBegins_20 : decode c_Request_textBegins 20 = .ok (.aload_n 0, 1) := by decide +kernel
theorem d_Request_textBegins_21 : decode c_Request_textBegins 21 = .ok (.getfield 53, 3) := by decide +kernel
theorem d_Request_textBegins_24 : decode c_Request_textBegins 24 = .ok (.iload_n 2, 1) := by decide +kernel
theorem d_Request_textBegins_25 : decode c_Request_textBegins 25 = .ok (.iadd, 1) := by decide +kernel
theorem d_Request_textBegins_26 : decode c_Request_textBegins 26 = .ok (.invokevirtual 90, 3) := by decide +kernel
theorem d_Request_textBegins_29 : decode c_Request_textBegins 29 = .ok (.aload_n 1, 1) := by decide +kernel
theorem d_Request_textBegins_30 : decode c_Request_textBegins 30 = .ok (.iload_n 2, 1) := by decide +kernel
theorem d_Request_textBegins_31 : decode c_Request_textBegins 31 = .ok (.baload, 1) := by decide +kernel
theorem d_Request_textBegins_32 : decode c_Request_textBegins 32 = .ok (.sipush 255, 3) := by decide +kernel
theorem d_Request_textBegins_35 : decode c_Request_textBegins 35 = .ok (.iand, 1) := by decide +kernel
theorem d_Request_textBegins_36 : decode c_Request_textBegins 36 = .ok (.if_icmp .eq 5, 3) := by decide +kernel
theorem d_Request_textBegins_39 : decode c_Request_textBegins 39 = .ok (.iconst 0, 1) := by decide +kernel
theorem d_Request_textBegins_40 : decode c_Request_textBegins 40 = .ok (.ireturn, 1) := by decide +kernel
theorem d_Request_textBegins_41 : decode c_Request_textBegins 41 = .ok (.iinc 2 1, 3) := by decide +kernel
theorem d_Request_textBegins_44 : decode c_Request_textBegins 44 = .ok (.goto (-42), 3) := by decide +kernel
theorem d_Request_textBegins_47 : decode c_Request_textBegins 47 = .ok (.iconst 1, 1) := by decide +kernel
theorem d_Request_textBegins_48 : decode c_Request_textBegins 48 = .ok (.ireturn, 1) := by decide +kernel
abbrev c_Request_textIsDotDot : ByteArray := prog_8_method_15_code
def y_Request_textIsDotDot : MethodName := ⟨"EpochServer$Request", "textIsDotDot", "()Z"⟩
theorem d_Request_textIsDotDot_0 : decode c_Request_textIsDotDot 0 = .ok (.aload_n 0, 1) := by decide +kernel
theorem d_Request_textIsDotDot_1 : decode c_Request_textIsDotDot 1 = .ok (.getfield 56, 3) := by decide +kernel
theorem d_Request_textIsDotDot_4 : decode c_Request_textIsDotDot 4 = .ok (.iconst 2, 1) := by decide +kernel
theorem d_Request_textIsDotDot_5 : decode c_Request_textIsDotDot 5 = .ok (.if_icmp .ne 27, 3) := by decide +kernel
theorem d_Request_textIsDotDot_8 : decode c_Request_textIsDotDot 8 = .ok (.aload_n 0, 1) := by decide +kernel
theorem d_Request_textIsDotDot_9 : decode c_Request_textIsDotDot 9 = .ok (.iconst 0, 1) := by decide +kernel
theorem d_Request_textIsDotDot_10 : decode c_Request_textIsDotDot 10 = .ok (.invokevirtual 100, 3) := by decide +kernel
theorem d_Request_textIsDotDot_13 : decode c_Request_textIsDotDot 13 = .ok (.bipush 46, 2) := by decide +kernel
theorem d_Request_textIsDotDot_15 : decode c_Request_textIsDotDot 15 = .ok (.if_icmp .ne 17, 3) := by decide +kernel
theorem d_Request_textIsDotDot_18 : decode c_Request_textIsDotDot 18 = .ok (.aload_n 0, 1) := by decide +kernel
theorem d_Request_textIsDotDot_19 : decode c_Request_textIsDotDot 19 = .ok (.iconst 1, 1) := by decide +kernel
theorem d_Request_textIsDotDot_20 : decode c_Request_textIsDotDot 20 = .ok (.invokevirtual 100, 3) := by decide +kernel
theorem d_Request_textIsDotDot_23 : decode c_Request_textIsDotDot 23 = .ok (.bipush 46, 2) := by decide +kernel
theorem d_Request_textIsDotDot_25 : decode c_Request_textIsDotDot 25 = .ok (.if_icmp .ne 7, 3) := by decide +kernel
theorem d_Request_textIsDotDot_28 : decode c_Request_textIsDotDot 28 = .ok (.iconst 1, 1) := by decide +kernel
theorem d_Request_textIsDotDot_29 : decode c_Request_textIsDotDot 29 = .ok (.goto 4, 3) := by decide +kernel
theorem d_Request_textIsDotDot_32 : decode c_Request_textIsDotDot 32 = .ok (.iconst 0, 1) := by decide +kernel
theorem d_Request_textIsDotDot_33 : decode c_Request_textIsDotDot 33 = .ok (.ireturn, 1) := by decide +kernel
abbrev c_Request_textMayBeName : ByteArray := prog_8_method_16_code
def y_Request_textMayBeName : MethodName := ⟨"EpochServer$Request", "textMayBeName", "()Z"⟩
theorem d_Request_textMayBeName_0 : decode c_Request_textMayBeName 0 = .ok (.aload_n 0, 1) := by decide +kernel
theorem d_Request_textMayBeName_1 : decode c_Request_textMayBeName 1 = .ok (.getfield 56, 3) := by decide +kernel
theorem d_Request_textMayBeName_4 : decode c_Request_textMayBeName 4 = .ok (.iconst 1, 1) := by decide +kernel
theorem d_Request_textMayBeName_5 : decode c_Request_textMayBeName 5 = .ok (.if_icmp .lt 12, 3) := by decide +kernel
theorem d_Request_textMayBeName_8 : decode c_Request_textMayBeName 8 = .ok (.aload_n 0, 1) := by decide +kernel
theorem d_Request_textMayBeName_9 : decode c_Request_textMayBeName 9 = .ok (.getfield 56, 3) := by decide +kernel
theorem d_Request_textMayBeName_12 : decode c_Request_textMayBeName 12 = .ok (.bipush 20, 2) := by decide +kernel
theorem d_Request_textMayBeName_14 : decode c_Request_textMayBeName 14 = .ok (.if_icmp .le 5, 3) := by decide +kernel
theorem d_Request_textMayBeName_17 : decode c_Request_textMayBeName 17 = .ok (.iconst 0, 1) := by decide +kernel
theorem d_Request_textMayBeName_18 : decode c_Request_textMayBeName 18 = .ok (.ireturn, 1) := by decide +kernel
theorem d_Request_textMayBeName_19 : decode c_Request_textMayBeName 19 = .ok (.iconst 0, 1) := by decide +kernel
theorem d_Request_textMayBeName_20 : decode c_Request_textMayBeName 20 = .ok (.istore_n 1, 1) := by decide +kernel
theorem d_Request_textMayBeName_21 : decode c_Request_textMayBeName 21 = .ok (.iconst 0, 1) := by decide +kernel
theorem d_Request_textMayBeName_22 : decode c_Request_textMayBeName 22 = .ok (.istore_n 2, 1) := by decide +kernel
theorem d_Request_textMayBeName_23 : decode c_Request_textMayBeName 23 = .ok (.iload_n 2, 1) := by decide +kernel
theorem d_Request_textMayBeName_24 : decode c_Request_textMayBeName 24 = .ok (.aload_n 0, 1) := by decide +kernel
theorem d_Request_textMayBeName_25 : decode c_Request_textMayBeName 25 = .ok (.getfield 56, 3) := by decide +kernel
theorem d_Request_textMayBeName_28 : decode c_Request_textMayBeName 28 = .ok (.if_icmp .ge 41, 3) := by decide +kernel
theorem d_Request_textMayBeName_31 : decode c_Request_textMayBeName 31 = .ok (.aload_n 0, 1) := by decide +kernel
theorem d_Request_textMayBeName_32 : decode c_Request_textMayBeName 32 = .ok (.iload_n 2, 1) := by decide +kernel
theorem d_Request_textMayBeName_33 : decode c_Request_textMayBeName 33 = .ok (.invokevirtual 100, 3) := by decide +kernel
theorem d_Request_textMayBeName_36 : decode c_Request_textMayBeName 36 = .ok (.istore_n 3, 1) := by decide +kernel
theorem d_Request_textMayBeName_37 : decode c_Request_textMayBeName 37 = .ok (.iload_n 3, 1) := by decide +kernel
theorem d_Request_textMayBeName_38 : decode c_Request_textMayBeName 38 = .ok (.ifCond .eq 9, 3) := by decide +kernel
theorem d_Request_textMayBeName_41 : decode c_Request_textMayBeName 41 = .ok (.iload_n 3, 1) := by decide +kernel
theorem d_Request_textMayBeName_42 : decode c_Request_textMayBeName 42 = .ok (.bipush 47, 2) := by decide +kernel
theorem d_Request_textMayBeName_44 : decode c_Request_textMayBeName 44 = .ok (.if_icmp .ne 5, 3) := by decide +kernel
theorem d_Request_textMayBeName_47 : decode c_Request_textMayBeName 47 = .ok (.iconst 0, 1) := by decide +kernel
theorem d_Request_textMayBeName_48 : decode c_Request_textMayBeName 48 = .ok (.ireturn, 1) := by decide +kernel
theorem d_Request_textMayBeName_49 : decode c_Request_textMayBeName 49 = .ok (.iload_n 1, 1) := by decide +kernel
theorem d_Request_textMayBeName_50 : decode c_Request_textMayBeName 50 = .ok (.iload_n 3, 1) := by decide +kernel
theorem d_Request_textMayBeName_51 : decode c_Request_textMayBeName 51 = .ok (.bipush 46, 2) := by decide +kernel
theorem d_Request_textMayBeName_53 : decode c_Request_textMayBeName 53 = .ok (.if_icmp .ne 7, 3) := by decide +kernel
theorem d_Request_textMayBeName_56 : decode c_Request_textMayBeName 56 = .ok (.iconst 1, 1) := by decide +kernel
theorem d_Request_textMayBeName_57 : decode c_Request_textMayBeName 57 = .ok (.goto 4, 3) := by decide +kernel
theorem d_Request_textMayBeName_60 : decode c_Request_textMayBeName 60 = .ok (.iconst 0, 1) := by decide +kernel
theorem d_Request_textMayBeName_61 : decode c_Request_textMayBeName 61 = .ok (.iadd, 1) := by decide +kernel
theorem d_Request_textMayBeName_62 : decode c_Request_textMayBeName 62 = .ok (.istore_n 1, 1) := by decide +kernel
theorem d_Request_textMayBeName_63 : decode c_Request_textMayBeName 63 = .ok (.iinc 2 1, 3) := by decide +kernel
theorem d_Request_textMayBeName_66 : decode c_Request_textMayBeName 66 = .ok (.goto (-43), 3) := by decide +kernel
theorem d_Request_textMayBeName_69 : decode c_Request_textMayBeName 69 = .ok (.aload_n 0, 1) := by decide +kernel
theorem d_Request_textMayBeName_70 : decode c_Request_textMayBeName 70 = .ok (.getfield 56, 3) := by decide +kernel
theorem d_Request_textMayBeName_73 : decode c_Request_textMayBeName 73 = .ok (.iconst 2, 1) := by decide +kernel
theorem d_Request_textMayBeName_74 : decode c_Request_textMayBeName 74 = .ok (.if_icmp .gt 11, 3) := by decide +kernel
theorem d_Request_textMayBeName_77 : decode c_Request_textMayBeName 77 = .ok (.iload_n 1, 1) := by decide +kernel
theorem d_Request_textMayBeName_78 : decode c_Request_textMayBeName 78 = .ok (.aload_n 0, 1) := by decide +kernel
theorem d_Request_textMayBeName_79 : decode c_Request_textMayBeName 79 = .ok (.getfield 56, 3) := by decide +kernel
theorem d_Request_textMayBeName_82 : decode c_Request_textMayBeName 82 = .ok (.if_icmp .ge 7, 3) := by decide +kernel
theorem d_Request_textMayBeName_85 : decode c_Request_textMayBeName 85 = .ok (.iconst 1, 1) := by decide +kernel
theorem d_Request_textMayBeName_86 : decode c_Request_textMayBeName 86 = .ok (.goto 4, 3) := by decide +kernel
theorem d_Request_textMayBeName_89 : decode c_Request_textMayBeName 89 = .ok (.iconst 0, 1) := by decide +kernel
theorem d_Request_textMayBeName_90 : decode c_Request_textMayBeName 90 = .ok (.ireturn, 1) := by decide +kernel
abbrev c_Request_treeAsked : ByteArray := prog_8_method_17_code
def y_Request_treeAsked : MethodName := ⟨"EpochServer$Request", "treeAsked", "()I"⟩
theorem d_Request_treeAsked_0 : decode c_Request_treeAsked 0 = .ok (.aload_n 0, 1) := by decide +kernel
theorem d_Request_treeAsked_1 : decode c_Request_treeAsked 1 = .ok (.getfield 56, 3) := by decide +kernel
theorem d_Request_treeAsked_4 : decode c_Request_treeAsked 4 = .ok (.ifCond .ne 5, 3) := by decide +kernel
theorem d_Request_treeAsked_7 : decode c_Request_treeAsked 7 = .ok (.iconst (-1), 1) := by decide +kernel
theorem d_Request_treeAsked_8 : decode c_Request_treeAsked 8 = .ok (.ireturn, 1) := by decide +kernel
theorem d_Request_treeAsked_9 : decode c_Request_treeAsked 9 = .ok (.aload_n 0, 1) := by decide +kernel
theorem d_Request_treeAsked_10 : decode c_Request_treeAsked 10 = .ok (.iconst 1, 1) := by decide +kernel
theorem d_Request_treeAsked_11 : decode c_Request_treeAsked 11 = .ok (.invokevirtual 100, 3) := by decide +kernel
theorem d_Request_treeAsked_14 : decode c_Request_treeAsked 14 = .ok (.bipush 48, 2) := by decide +kernel
theorem d_Request_treeAsked_16 : decode c_Request_treeAsked 16 = .ok (.isub, 1) := by decide +kernel
theorem d_Request_treeAsked_17 : decode c_Request_treeAsked 17 = .ok (.istore_n 1, 1) := by decide +kernel
theorem d_Request_treeAsked_18 : decode c_Request_treeAsked 18 = .ok (.aload_n 0, 1) := by decide +kernel
theorem d_Request_treeAsked_19 : decode c_Request_treeAsked 19 = .ok (.getfield 56, 3) := by decide +kernel
theorem d_Request_treeAsked_22 : decode c_Request_treeAsked 22 = .ok (.iconst 2, 1) := by decide +kernel
theorem d_Request_treeAsked_23 : decode c_Request_treeAsked 23 = .ok (.if_icmp .ne 27, 3) := by decide +kernel
theorem d_Request_treeAsked_26 : decode c_Request_treeAsked 26 = .ok (.aload_n 0, 1) := by decide +kernel
theorem d_Request_treeAsked_27 : decode c_Request_treeAsked 27 = .ok (.iconst 0, 1) := by decide +kernel
theorem d_Request_treeAsked_28 : decode c_Request_treeAsked 28 = .ok (.invokevirtual 100, 3) := by decide +kernel
theorem d_Request_treeAsked_31 : decode c_Request_treeAsked 31 = .ok (.bipush 115, 2) := by decide +kernel
theorem d_Request_treeAsked_33 : decode c_Request_treeAsked 33 = .ok (.if_icmp .ne 17, 3) := by decide +kernel
theorem d_Request_treeAsked_36 : decode c_Request_treeAsked 36 = .ok (.iload_n 1, 1) := by decide +kernel
theorem d_Request_treeAsked_37 : decode c_Request_treeAsked 37 = .ok (.ifCond .lt 13, 3) := by decide +kernel
theorem d_Request_treeAsked_40 : decode c_Request_treeAsked 40 = .ok (.iload_n 1, 1) := by decide +kernel
theorem d_Request_treeAsked_41 : decode c_Request_treeAsked 41 = .ok (.bipush 9, 2) := by decide +kernel
theorem d_Request_treeAsked_43 : decode c_Request_treeAsked 43 = .ok (.if_icmp .gt 7, 3) := by decide +kernel
theorem d_Request_treeAsked_46 : decode c_Request_treeAsked 46 = .ok (.iconst 1, 1) := by decide +kernel
theorem d_Request_treeAsked_47 : decode c_Request_treeAsked 47 = .ok (.goto 4, 3) := by decide +kernel
theorem d_Request_treeAsked_50 : decode c_Request_treeAsked 50 = .ok (.iconst 0, 1) := by decide +kernel
theorem d_Request_treeAsked_51 : decode c_Request_treeAsked 51 = .ok (.istore_n 2, 1) := by decide +kernel
theorem d_Request_treeAsked_52 : decode c_Request_treeAsked 52 = .ok (.iload_n 2, 1) := by decide +kernel
theorem d_Request_treeAsked_53 : decode c_Request_treeAsked 53 = .ok (.ifCond .eq 7, 3) := by decide +kernel
theorem d_Request_treeAsked_56 : decode c_Request_treeAsked 56 = .ok (.iload_n 1, 1) := by decide +kernel
theorem d_Request_treeAsked_57 : decode c_Request_treeAsked 57 = .ok (.goto 5, 3) := by decide +kernel
theorem d_Request_treeAsked_60 : decode c_Request_treeAsked 60 = .ok (.bipush (-9), 2) := by decide +kernel
theorem d_Request_treeAsked_62 : decode c_Request_treeAsked 62 = .ok (.ireturn, 1) := by decide +kernel
abbrev c_Request_copyText : ByteArray := prog_8_method_18_code
def y_Request_copyText : MethodName := ⟨"EpochServer$Request", "copyText", "()[B"⟩
theorem d_Request_copyText_0 : decode c_Request_copyText 0 = .ok (.iconst 0, 1) := by decide +kernel
theorem d_Request_copyText_1 : decode c_Request_copyText 1 = .ok (.aload_n 0, 1) := by decide +kernel
theorem d_Request_copyText_2 : decode c_Request_copyText 2 = .ok (.getfield 56, 3) := by decide +kernel
theorem d_Request_copyText_5 : decode c_Request_copyText 5 = .ok (.invokestatic 103, 3) := by decide +kernel
theorem d_Request_copyText_8 : decode c_Request_copyText 8 = .ok (.newarray .byte, 2) := by decide +kernel
theorem d_Request_copyText_10 : decode c_Request_copyText 10 = .ok (.astore_n 1, 1) := by decide +kernel
theorem d_Request_copyText_11 : decode c_Request_copyText 11 = .ok (.aload_n 0, 1) := by decide +kernel
theorem d_Request_copyText_12 : decode c_Request_copyText 12 = .ok (.aload_n 1, 1) := by decide +kernel
theorem d_Request_copyText_13 : decode c_Request_copyText 13 = .ok (.iconst 0, 1) := by decide +kernel
theorem d_Request_copyText_14 : decode c_Request_copyText 14 = .ok (.invokevirtual 109, 3) := by decide +kernel
theorem d_Request_copyText_17 : decode c_Request_copyText 17 = .ok (.aload_n 1, 1) := by decide +kernel
theorem d_Request_copyText_18 : decode c_Request_copyText 18 = .ok (.areturn, 1) := by decide +kernel
abbrev c_Request_copyTextInto : ByteArray := prog_8_method_19_code
def y_Request_copyTextInto : MethodName := ⟨"EpochServer$Request", "copyTextInto", "([BI)V"⟩
theorem d_Request_copyTextInto_0 : decode c_Request_copyTextInto 0 = .ok (.iconst 0, 1) := by decide +kernel
theorem d_Request_copyTextInto_1 : decode c_Request_copyTextInto 1 = .ok (.istore_n 3, 1) := by decide +kernel
theorem d_Request_copyTextInto_2 : decode c_Request_copyTextInto 2 = .ok (.iload_n 3, 1) := by decide +kernel
theorem d_Request_copyTextInto_3 : decode c_Request_copyTextInto 3 = .ok (.aload_n 0, 1) := by decide +kernel
theorem d_Request_copyTextInto_4 : decode c_Request_copyTextInto 4 = .ok (.getfield 56, 3) := by decide +kernel
theorem d_Request_copyTextInto_7 : decode c_Request_copyTextInto 7 = .ok (.if_icmp .ge 44, 3) := by decide +kernel
theorem d_Request_copyTextInto_10 : decode c_Request_copyTextInto 10 = .ok (.iload_n 2, 1) := by decide +kernel
theorem d_Request_copyTextInto_11 : decode c_Request_copyTextInto 11 = .ok (.iload_n 3, 1) := by decide +kernel
theorem d_Request_copyTextInto_12 : decode c_Request_copyTextInto 12 = .ok (.iadd, 1) := by decide +kernel
theorem d_Request_copyTextInto_13 : decode c_Request_copyTextInto 13 = .ok (.istore 4, 2) := by decide +kernel
theorem d_Request_copyTextInto_15 : decode c_Request_copyTextInto 15 = .ok (.iload 4, 2) := by decide +kernel
theorem d_Request_copyTextInto_17 : decode c_Request_copyTextInto 17 = .ok (.ifCond .lt 28, 3) := by decide +kernel
theorem d_Request_copyTextInto_20 : decode c_Request_copyTextInto 20 = .ok (.iload 4, 2) := by decide +kernel
theorem d_Request_copyTextInto_22 : decode c_Request_copyTextInto 22 = .ok (.aload_n 1, 1) := by decide +kernel
theorem d_Request_copyTextInto_23 : decode c_Request_copyTextInto 23 = .ok (.arraylength, 1) := by decide +kernel
theorem d_Request_copyTextInto_24 : decode c_Request_copyTextInto 24 = .ok (.if_icmp .ge 21, 3) := by decide +kernel
theorem d_Request_copyTextInto_27 : decode c_Request_copyTextInto 27 = .ok (.aload_n 1, 1) := by decide +kernel
theorem d_Request_copyTextInto_28 : decode c_Request_copyTextInto 28 = .ok (.iload 4, 2) := by decide +kernel
theorem d_Request_copyTextInto_30 : decode c_Request_copyTextInto 30 = .ok (.aload_n 0, 1) := by decide +kernel
theorem d_Request_copyTextInto_31 : decode c_Request_copyTextInto 31 = .ok (.getfield 62, 3) := by decide +kernel
theorem d_Request_copyTextInto_34 : decode c_Request_copyTextInto 34 = .ok (.aload_n 0, 1) := by decide +kernel
theorem d_Request_copyTextInto_35 : decode c_Request_copyTextInto 35 = .ok (.getfield 53, 3) := by decide +kernel
theorem d_Request_copyTextInto_38 : decode c_Request_copyTextInto 38 = .ok (.iload_n 3, 1) := by decide +kernel
theorem d_Request_copyTextInto_39 : decode c_Request_copyTextInto 39 = .ok (.iadd, 1) := by decide +kernel
theorem d_Request_copyTextInto_40 : decode c_Request_copyTextInto 40 = .ok (.invokevirtual 90, 3) := by decide +kernel
theorem d_Request_copyTextInto_43 : decode c_Request_copyTextInto 43 = .ok (.i2b, 1) := by decide +kernel
theorem d_Request_copyTextInto_44 : decode c_Request_copyTextInto 44 = .ok (.bastore, 1) := by decide +kernel
theorem d_Request_copyTextInto_45 : decode c_Request_copyTextInto 45 = .ok (.iinc 3 1, 3) := by decide +kernel
theorem d_Request_copyTextInto_48 : decode c_Request_copyTextInto 48 = .ok (.goto (-46), 3) := by decide +kernel
theorem d_Request_copyTextInto_51 : decode c_Request_copyTextInto 51 = .ok (.return_, 1) := by decide +kernel
abbrev c_Sha_init : ByteArray := prog_9_method_1_code
def y_Sha_init : MethodName := ⟨"EpochServer$Sha", "<init>", "()V"⟩
theorem d_Sha_init_0 : decode c_Sha_init 0 = .ok (.aload_n 0, 1) := by decide +kernel
theorem d_Sha_init_1 : decode c_Sha_init 1 = .ok (.invokespecial 3, 3) := by decide +kernel
theorem d_Sha_init_4 : decode c_Sha_init 4 = .ok (.aload_n 0, 1) := by decide +kernel
theorem d_Sha_init_5 : decode c_Sha_init 5 = .ok (.iconst 5, 1) := by decide +kernel
theorem d_Sha_init_6 : decode c_Sha_init 6 = .ok (.newarray .int, 2) := by decide +kernel
theorem d_Sha_init_8 : decode c_Sha_init 8 = .ok (.putfield 9, 3) := by decide +kernel
theorem d_Sha_init_11 : decode c_Sha_init 11 = .ok (.aload_n 0, 1) := by decide +kernel
theorem d_Sha_init_12 : decode c_Sha_init 12 = .ok (.bipush 80, 2) := by decide +kernel
theorem d_Sha_init_14 : decode c_Sha_init 14 = .ok (.newarray .int, 2) := by decide +kernel
theorem d_Sha_init_16 : decode c_Sha_init 16 = .ok (.putfield 15, 3) := by decide +kernel
theorem d_Sha_init_19 : decode c_Sha_init 19 = .ok (.return_, 1) := by decide +kernel
abbrev c_Sha_digest : ByteArray := prog_9_method_2_code
def y_Sha_digest : MethodName := ⟨"EpochServer$Sha", "digest", "([BII)V"⟩
theorem d_Sha_digest_0 : decode c_Sha_digest 0 = .ok (.aload_n 0, 1) := by decide +kernel
theorem d_Sha_digest_1 : decode c_Sha_digest 1 = .ok (.getfield 9, 3) := by decide +kernel
theorem d_Sha_digest_4 : decode c_Sha_digest 4 = .ok (.iconst 0, 1) := by decide +kernel
theorem d_Sha_digest_5 : decode c_Sha_digest 5 = .ok (.ldc 18, 2) := by decide +kernel
theorem d_Sha_digest_7 : decode c_Sha_digest 7 = .ok (.iastore, 1) := by decide +kernel
theorem d_Sha_digest_8 : decode c_Sha_digest 8 = .ok (.aload_n 0, 1) := by decide +kernel
theorem d_Sha_digest_9 : decode c_Sha_digest 9 = .ok (.getfield 9, 3) := by decide +kernel
theorem d_Sha_digest_12 : decode c_Sha_digest 12 = .ok (.iconst 1, 1) := by decide +kernel
theorem d_Sha_digest_13 : decode c_Sha_digest 13 = .ok (.ldc 19, 2) := by decide +kernel
theorem d_Sha_digest_15 : decode c_Sha_digest 15 = .ok (.iastore, 1) := by decide +kernel
theorem d_Sha_digest_16 : decode c_Sha_digest 16 = .ok (.aload_n 0, 1) := by decide +kernel
theorem d_Sha_digest_17 : decode c_Sha_digest 17 = .ok (.getfield 9, 3) := by decide +kernel
theorem d_Sha_digest_20 : decode c_Sha_digest 20 = .ok (.iconst 2, 1) := by decide +kernel
theorem d_Sha_digest_21 : decode c_Sha_digest 21 = .ok (.ldc 20, 2) := by decide +kernel
theorem d_Sha_digest_23 : decode c_Sha_digest 23 = .ok (.iastore, 1) := by decide +kernel
theorem d_Sha_digest_24 : decode c_Sha_digest 24 = .ok (.aload_n 0, 1) := by decide +kernel
theorem d_Sha_digest_25 : decode c_Sha_digest 25 = .ok (.getfield 9, 3) := by decide +kernel
theorem d_Sha_digest_28 : decode c_Sha_digest 28 = .ok (.iconst 3, 1) := by decide +kernel
theorem d_Sha_digest_29 : decode c_Sha_digest 29 = .ok (.ldc 21, 2) := by decide +kernel
theorem d_Sha_digest_31 : decode c_Sha_digest 31 = .ok (.iastore, 1) := by decide +kernel
theorem d_Sha_digest_32 : decode c_Sha_digest 32 = .ok (.aload_n 0, 1) := by decide +kernel
theorem d_Sha_digest_33 : decode c_Sha_digest 33 = .ok (.getfield 9, 3) := by decide +kernel
theorem d_Sha_digest_36 : decode c_Sha_digest 36 = .ok (.iconst 4, 1) := by decide +kernel
theorem d_Sha_digest_37 : decode c_Sha_digest 37 = .ok (.ldc 22, 2) := by decide +kernel
theorem d_Sha_digest_39 : decode c_Sha_digest 39 = .ok (.iastore, 1) := by decide +kernel
theorem d_Sha_digest_40 : decode c_Sha_digest 40 = .ok (.iload_n 3, 1) := by decide +kernel
theorem d_Sha_digest_41 : decode c_Sha_digest 41 = .ok (.bipush 8, 2) := by decide +kernel
theorem d_Sha_digest_43 : decode c_Sha_digest 43 = .ok (.iadd, 1) := by decide +kernel
theorem d_Sha_digest_44 : decode c_Sha_digest 44 = .ok (.bipush 64, 2) := by decide +kernel
theorem d_Sha_digest_46 : decode c_Sha_digest 46 = .ok (.idiv, 1) := by decide +kernel
theorem d_Sha_digest_47 : decode c_Sha_digest 47 = .ok (.iconst 1, 1) := by decide +kernel
theorem d_Sha_digest_48 : decode c_Sha_digest 48 = .ok (.iadd, 1) := by decide +kernel
theorem d_Sha_digest_49 : decode c_Sha_digest 49 = .ok (.istore 4, 2) := by decide +kernel
theorem d_Sha_digest_51 : decode c_Sha_digest 51 = .ok (.iconst 0, 1) := by decide +kernel
theorem d_Sha_digest_52 : decode c_Sha_digest 52 = .ok (.istore 5, 2) := by decide +kernel
theorem d_Sha_digest_54 : decode c_Sha_digest 54 = .ok (.iload 5, 2) := by decide +kernel
theorem d_Sha_digest_56 : decode c_Sha_digest 56 = .ok (.iload 4, 2) := by decide +kernel
theorem d_Sha_digest_58 : decode c_Sha_digest 58 = .ok (.if_icmp .ge 72, 3) := by decide +kernel
theorem d_Sha_digest_61 : decode c_Sha_digest 61 = .ok (.iconst 0, 1) := by decide +kernel
theorem d_Sha_digest_62 : decode c_Sha_digest 62 = .ok (.istore 6, 2) := by decide +kernel
theorem d_Sha_digest_64 : decode c_Sha_digest 64 = .ok (.iload 6, 2) := by decide +kernel
theorem d_Sha_digest_66 : decode c_Sha_digest 66 = .ok (.bipush 16, 2) := by decide +kernel
theorem d_Sha_digest_68 : decode c_Sha_digest 68 = .ok (.if_icmp .ge 32, 3) := by decide +kernel
theorem d_Sha_digest_71 : decode c_Sha_digest 71 = .ok (.aload_n 0, 1) := by decide +kernel
theorem d_Sha_digest_72 : decode c_Sha_digest 72 = .ok (.getfield 15, 3) := by decide +kernel
theorem d_Sha_digest_75 : decode c_Sha_digest 75 = .ok (.iload 6, 2) := by decide +kernel
theorem d_Sha_digest_77 : decode c_Sha_digest 77 = .ok (.aload_n 1, 1) := by decide +kernel
theorem d_Sha_digest_78 : decode c_Sha_digest 78 = .ok (.iload_n 2, 1) := by decide +kernel
theorem d_Sha_digest_79 : decode c_Sha_digest 79 = .ok (.iload_n 3, 1) := by decide +kernel
theorem d_Sha_digest_80 : decode c_Sha_digest 80 = .ok (.iload 5, 2) := by decide +kernel
theorem d_Sha_digest_82 : decode c_Sha_digest 82 = .ok (.bipush 64, 2) := by decide +kernel
theorem d_Sha_digest_84 : decode c_Sha_digest 84 = .ok (.imul, 1) := by decide +kernel
theorem d_Sha_digest_85 : decode c_Sha_digest 85 = .ok (.iload 6, 2) := by decide +kernel
theorem d_Sha_digest_87 : decode c_Sha_digest 87 = .ok (.iconst 4, 1) := by decide +kernel
theorem d_Sha_digest_88 : decode c_Sha_digest 88 = .ok (.imul, 1) := by decide +kernel
theorem d_Sha_digest_89 : decode c_Sha_digest 89 = .ok (.iadd, 1) := by decide +kernel
theorem d_Sha_digest_90 : decode c_Sha_digest 90 = .ok (.invokestatic 23, 3) := by decide +kernel
theorem d_Sha_digest_93 : decode c_Sha_digest 93 = .ok (.iastore, 1) := by decide +kernel
theorem d_Sha_digest_94 : decode c_Sha_digest 94 = .ok (.iinc 6 1, 3) := by decide +kernel
theorem d_Sha_digest_97 : decode c_Sha_digest 97 = .ok (.goto (-33), 3) := by decide +kernel
theorem d_Sha_digest_100 : decode c_Sha_digest 100 = .ok (.iload 5, 2) := by decide +kernel
theorem d_Sha_digest_102 : decode c_Sha_digest 102 = .ok (.iload 4, 2) := by decide +kernel
theorem d_Sha_digest_104 : decode c_Sha_digest 104 = .ok (.iconst 1, 1) := by decide +kernel
theorem d_Sha_digest_105 : decode c_Sha_digest 105 = .ok (.isub, 1) := by decide +kernel
theorem d_Sha_digest_106 : decode c_Sha_digest 106 = .ok (.if_icmp .ne 14, 3) := by decide +kernel
theorem d_Sha_digest_109 : decode c_Sha_digest 109 = .ok (.aload_n 0, 1) := by decide +kernel
theorem d_Sha_digest_110 : decode c_Sha_digest 110 = .ok (.getfield 15, 3) := by decide +kernel
theorem d_Sha_digest_113 : decode c_Sha_digest 113 = .ok (.bipush 15, 2) := by decide +kernel
theorem d_Sha_digest_115 : decode c_Sha_digest 115 = .ok (.iload_n 3, 1) := by decide +kernel
theorem d_Sha_digest_116 : decode c_Sha_digest 116 = .ok (.bipush 8, 2) := by decide +kernel
theorem d_Sha_digest_118 : decode c_Sha_digest 118 = .ok (.imul, 1) := by decide +kernel
theorem d_Sha_digest_119 : decode c_Sha_digest 119 = .ok (.iastore, 1) := by decide +kernel
theorem d_Sha_digest_120 : decode c_Sha_digest 120 = .ok (.aload_n 0, 1) := by decide +kernel
theorem d_Sha_digest_121 : decode c_Sha_digest 121 = .ok (.invokevirtual 27, 3) := by decide +kernel
theorem d_Sha_digest_124 : decode c_Sha_digest 124 = .ok (.iinc 5 1, 3) := by decide +kernel
theorem d_Sha_digest_127 : decode c_Sha_digest 127 = .ok (.goto (-73), 3) := by decide +kernel
theorem d_Sha_digest_130 : decode c_Sha_digest 130 = .ok (.return_, 1) := by decide +kernel
abbrev c_Sha_paddedWord : ByteArray := prog_9_method_3_code
def y_Sha_paddedWord : MethodName := ⟨"EpochServer$Sha", "paddedWord", "([BIII)I"⟩
theorem d_Sha_paddedWord_0 : decode c_Sha_paddedWord 0 = .ok (.iconst 0, 1) := by decide +kernel
theorem d_Sha_paddedWord_1 : decode c_Sha_paddedWord 1 = .ok (.istore 4, 2) := by decide +kernel
theorem d_Sha_paddedWord_3 : decode c_Sha_paddedWord 3 = .ok (.iload_n 3, 1) := by decide +kernel
theorem d_Sha_paddedWord_4 : decode c_Sha_paddedWord 4 = .ok (.istore 5, 2) := by decide +kernel
theorem d_Sha_paddedWord_6 : decode c_Sha_paddedWord 6 = .ok (.iload 5, 2) := by decide +kernel
theorem d_Sha_paddedWord_8 : decode c_Sha_paddedWord 8 = .ok (.iload_n 3, 1) := by decide +kernel
theorem d_Sha_paddedWord_9 : decode c_Sha_paddedWord 9 = .ok (.iconst 4, 1) := by decide +kernel
theorem d_Sha_paddedWord_10 : decode c_Sha_paddedWord 10 = .ok (.iadd, 1) := by decide +kernel
theorem d_Sha_paddedWord_11 : decode c_Sha_paddedWord 11 = .ok (.if_icmp .ge 68, 3) := by decide +kernel
theorem d_Sha_paddedWord_14 : decode c_Sha_paddedWord 14 = .ok (.iload_n 1, 1) := by decide +kernel
theorem d_Sha_paddedWord_15 : decode c_Sha_paddedWord 15 = .ok (.iload 5, 2) := by decide +kernel
theorem d_Sha_paddedWord_17 : decode c_Sha_paddedWord 17 = .ok (.iadd, 1) := by decide +kernel
theorem d_Sha_paddedWord_18 : decode c_Sha_paddedWord 18 = .ok (.istore 6, 2) := by decide +kernel
theorem d_Sha_paddedWord_20 : decode c_Sha_paddedWord 20 = .ok (.iload 5, 2) := by decide +kernel
theorem d_Sha_paddedWord_22 : decode c_Sha_paddedWord 22 = .ok (.iload_n 2, 1) := by decide +kernel
theorem d_Sha_paddedWord_23 : decode c_Sha_paddedWord 23 = .ok (.if_icmp .ne 9, 3) := by decide +kernel
theorem d_Sha_paddedWord_26 : decode c_Sha_paddedWord 26 = .ok (.sipush 128, 3) := by decide +kernel
theorem d_Sha_paddedWord_29 : decode c_Sha_paddedWord 29 = .ok (.goto 4, 3) := by decide +kernel
theorem d_Sha_paddedWord_32 : decode c_Sha_paddedWord 32 = .ok (.iconst 0, 1) := by decide +kernel
theorem d_Sha_paddedWord_33 : decode c_Sha_paddedWord 33 = .ok (.istore 7, 2) := by decide +kernel
theorem d_Sha_paddedWord_35 : decode c_Sha_paddedWord 35 = .ok (.iload 5, 2) := by decide +kernel
theorem d_Sha_paddedWord_37 : decode c_Sha_paddedWord 37 = .ok (.iload_n 2, 1) := by decide +kernel
theorem d_Sha_paddedWord_38 : decode c_Sha_paddedWord 38 = .ok (.if_icmp .ge 25, 3) := by decide +kernel
theorem d_Sha_paddedWord_41 : decode c_Sha_paddedWord 41 = .ok (.iload 6, 2) := by decide +kernel
theorem d_Sha_paddedWord_43 : decode c_Sha_paddedWord 43 = .ok (.ifCond .lt 20, 3) := by decide +kernel
theorem d_Sha_paddedWord_46 : decode c_Sha_paddedWord 46 = .ok (.iload 6, 2) := by decide +kernel
theorem d_Sha_paddedWord_48 : decode c_Sha_paddedWord 48 = .ok (.aload_n 0, 1) := by decide +kernel
theorem d_Sha_paddedWord_49 : decode c_Sha_paddedWord 49 = .ok (.arraylength, 1) := by decide +kernel
theorem d_Sha_paddedWord_50 : decode c_Sha_paddedWord 50 = .ok (.if_icmp .ge 13, 3) := by decide +kernel
theorem d_Sha_paddedWord_53 : decode c_Sha_paddedWord 53 = .ok (.aload_n 0, 1) := by decide +kernel
theorem d_Sha_paddedWord_54 : decode c_Sha_paddedWord 54 = .ok (.iload 6, 2) := by decide +kernel
theorem d_Sha_paddedWord_56 : decode c_Sha_paddedWord 56 = .ok (.baload, 1) := by decide +kernel
theorem d_Sha_paddedWord_57 : decode c_Sha_paddedWord 57 = .ok (.sipush 255, 3) := by decide +kernel
theorem d_Sha_paddedWord_60 : decode c_Sha_paddedWord 60 = .ok (.iand, 1) := by decide +kernel
theorem d_Sha_paddedWord_61 : decode c_Sha_paddedWord 61 = .ok (.istore 7, 2) := by decide +kernel
theorem d_Sha_paddedWord_63 : decode c_Sha_paddedWord 63 = .ok (.iload 4, 2) := by decide +kernel
theorem d_Sha_paddedWord_65 : decode c_Sha_paddedWord 65 = .ok (.bipush 8, 2) := by decide +kernel
theorem d_Sha_paddedWord_67 : decode c_Sha_paddedWord 67 = .ok (.ishl, 1) := by decide +kernel
theorem d_Sha_paddedWord_68 : decode c_Sha_paddedWord 68 = .ok (.iload 7, 2) := by decide +kernel
theorem d_Sha_paddedWord_70 : decode c_Sha_paddedWord 70 = .ok (.ior, 1) := by decide +kernel
theorem d_Sha_paddedWord_71 : decode c_Sha_paddedWord 71 = .ok (.istore 4, 2) := by decide +kernel
theorem d_Sha_paddedWord_73 : decode c_Sha_paddedWord 73 = .ok (.iinc 5 1, 3) := by decide +kernel
theorem d_Sha_paddedWord_76 : decode c_Sha_paddedWord 76 = .ok (.goto (-70), 3) := by decide +kernel
theorem d_Sha_paddedWord_79 : decode c_Sha_paddedWord 79 = .ok (.iload 4, 2) := by decide +kernel
theorem d_Sha_paddedWord_81 : decode c_Sha_paddedWord 81 = .ok (.ireturn, 1) := by decide +kernel
abbrev c_Sha_mix : ByteArray := prog_9_method_4_code
def y_Sha_mix : MethodName := ⟨"EpochServer$Sha", "mix", "()V"⟩
theorem d_Sha_mix_0 : decode c_Sha_mix 0 = .ok (.bipush 16, 2) := by decide +kernel
theorem d_Sha_mix_2 : decode c_Sha_mix 2 = .ok (.istore_n 1, 1) := by decide +kernel
theorem d_Sha_mix_3 : decode c_Sha_mix 3 = .ok (.iload_n 1, 1) := by decide +kernel
theorem d_Sha_mix_4 : decode c_Sha_mix 4 = .ok (.bipush 80, 2) := by decide +kernel
theorem d_Sha_mix_6 : decode c_Sha_mix 6 = .ok (.if_icmp .ge 62, 3) := by decide +kernel
theorem d_Sha_mix_9 : decode c_Sha_mix 9 = .ok (.aload_n 0, 1) := by decide +kernel
theorem d_Sha_mix_10 : decode c_Sha_mix 10 = .ok (.getfield 15, 3) := by decide +kernel
theorem d_Sha_mix_13 : decode c_Sha_mix 13 = .ok (.iload_n 1, 1) := by decide +kernel
theorem d_Sha_mix_14 : decode c_Sha_mix 14 = .ok (.iconst 3, 1) := by decide +kernel
theorem d_Sha_mix_15 : decode c_Sha_mix 15 = .ok (.isub, 1) := by decide +kernel
theorem d_Sha_mix_16 : decode c_Sha_mix 16 = .ok (.iaload, 1) := by decide +kernel
theorem d_Sha_mix_17 : decode c_Sha_mix 17 = .ok (.aload_n 0, 1) := by decide +kernel
theorem d_Sha_mix_18 : decode c_Sha_mix 18 = .ok (.getfield 15, 3) := by decide +kernel
theorem d_Sha_mix_21 : decode c_Sha_mix 21 = .ok (.iload_n 1, 1) := by decide +kernel
theorem d_Sha_mix_22 : decode c_Sha_mix 22 = .ok (.bipush 8, 2) := by decide +kernel
theorem d_Sha_mix_24 : decode c_Sha_mix 24 = .ok (.isub, 1) := by decide +kernel
theorem d_Sha_mix_25 : decode c_Sha_mix 25 = .ok (.iaload, 1) := by decide +kernel
theorem d_Sha_mix_26 : decode c_Sha_mix 26 = .ok (.ixor, 1) := by decide +kernel
theorem d_Sha_mix_27 : decode c_Sha_mix 27 = .ok (.aload_n 0, 1) := by decide +kernel
theorem d_Sha_mix_28 : decode c_Sha_mix 28 = .ok (.getfield 15, 3) := by decide +kernel
theorem d_Sha_mix_31 : decode c_Sha_mix 31 = .ok (.iload_n 1, 1) := by decide +kernel
theorem d_Sha_mix_32 : decode c_Sha_mix 32 = .ok (.bipush 14, 2) := by decide +kernel
theorem d_Sha_mix_34 : decode c_Sha_mix 34 = .ok (.isub, 1) := by decide +kernel
theorem d_Sha_mix_35 : decode c_Sha_mix 35 = .ok (.iaload, 1) := by decide +kernel
theorem d_Sha_mix_36 : decode c_Sha_mix 36 = .ok (.ixor, 1) := by decide +kernel
theorem d_Sha_mix_37 : decode c_Sha_mix 37 = .ok (.aload_n 0, 1) := by decide +kernel
theorem d_Sha_mix_38 : decode c_Sha_mix 38 = .ok (.getfield 15, 3) := by decide +kernel
theorem d_Sha_mix_41 : decode c_Sha_mix 41 = .ok (.iload_n 1, 1) := by decide +kernel
theorem d_Sha_mix_42 : decode c_Sha_mix 42 = .ok (.bipush 16, 2) := by decide +kernel
theorem d_Sha_mix_44 : decode c_Sha_mix 44 = .ok (.isub, 1) := by decide +kernel
theorem d_Sha_mix_45 : decode c_Sha_mix 45 = .ok (.iaload, 1) := by decide +kernel
theorem d_Sha_mix_46 : decode c_Sha_mix 46 = .ok (.ixor, 1) := by decide +kernel
theorem d_Sha_mix_47 : decode c_Sha_mix 47 = .ok (.istore_n 2, 1) := by decide +kernel
theorem d_Sha_mix_48 : decode c_Sha_mix 48 = .ok (.aload_n 0, 1) := by decide +kernel
theorem d_Sha_mix_49 : decode c_Sha_mix 49 = .ok (.getfield 15, 3) := by decide +kernel
theorem d_Sha_mix_52 : decode c_Sha_mix 52 = .ok (.iload_n 1, 1) := by decide +kernel
theorem d_Sha_mix_53 : decode c_Sha_mix 53 = .ok (.iload_n 2, 1) := by decide +kernel
theorem d_Sha_mix_54 : decode c_Sha_mix 54 = .ok (.iconst 1, 1) := by decide +kernel
theorem d_Sha_mix_55 : decode c_Sha_mix 55 = .ok (.ishl, 1) := by decide +kernel
theorem d_Sha_mix_56 : decode c_Sha_mix 56 = .ok (.iload_n 2, 1) := by decide +kernel
theorem d_Sha_mix_57 : decode c_Sha_mix 57 = .ok (.bipush 31, 2) := by decide +kernel
theorem d_Sha_mix_59 : decode c_Sha_mix 59 = .ok (.iushr, 1) := by decide +kernel
theorem d_Sha_mix_60 : decode c_Sha_mix 60 = .ok (.ior, 1) := by decide +kernel
theorem d_Sha_mix_61 : decode c_Sha_mix 61 = .ok (.iastore, 1) := by decide +kernel
theorem d_Sha_mix_62 : decode c_Sha_mix 62 = .ok (.iinc 1 1, 3) := by decide +kernel
theorem d_Sha_mix_65 : decode c_Sha_mix 65 = .ok (.goto (-62), 3) := by decide +kernel
theorem d_Sha_mix_68 : decode c_Sha_mix 68 = .ok (.aload_n 0, 1) := by decide +kernel
theorem d_Sha_mix_69 : decode c_Sha_mix 69 = .ok (.getfield 9, 3) := by decide +kernel
theorem d_Sha_mix_72 : decode c_Sha_mix 72 = .ok (.iconst 0, 1) := by decide +kernel
theorem d_Sha_mix_73 : decode c_Sha_mix 73 = .ok (.iaload, 1) := by decide +kernel
theorem d_Sha_mix_74 : decode c_Sha_mix 74 = .ok (.istore_n 1, 1) := by decide +kernel
theorem d_Sha_mix_75 : decode c_Sha_mix 75 = .ok (.aload_n 0, 1) := by decide +kernel
theorem d_Sha_mix_76 : decode c_Sha_mix 76 = .ok (.getfield 9, 3) := by decide +kernel
theorem d_Sha_mix_79 : decode c_Sha_mix 79 = .ok (.iconst 1, 1) := by decide +kernel
theorem d_Sha_mix_80 : decode c_Sha_mix 80 = .ok (.iaload, 1) := by decide +kernel
theorem d_Sha_mix_81 : decode c_Sha_mix 81 = .ok (.istore_n 2, 1) := by decide +kernel
theorem d_Sha_mix_82 : decode c_Sha_mix 82 = .ok (.aload_n 0, 1) := by decide +kernel
theorem d_Sha_mix_83 : decode c_Sha_mix 83 = .ok (.getfield 9, 3) := by decide +kernel
theorem d_Sha_mix_86 : decode c_Sha_mix 86 = .ok (.iconst 2, 1) := by decide +kernel
theorem d_Sha_mix_87 : decode c_Sha_mix 87 = .ok (.iaload, 1) := by decide +kernel
theorem d_Sha_mix_88 : decode c_Sha_mix 88 = .ok (.istore_n 3, 1) := by decide +kernel
theorem d_Sha_mix_89 : decode c_Sha_mix 89 = .ok (.aload_n 0, 1) := by decide +kernel
theorem d_Sha_mix_90 : decode c_Sha_mix 90 = .ok (.getfield 9, 3) := by decide +kernel
theorem d_Sha_mix_93 : decode c_Sha_mix 93 = .ok (.iconst 3, 1) := by decide +kernel
theorem d_Sha_mix_94 : decode c_Sha_mix 94 = .ok (.iaload, 1) := by decide +kernel
theorem d_Sha_mix_95 : decode c_Sha_mix 95 = .ok (.istore 4, 2) := by decide +kernel
theorem d_Sha_mix_97 : decode c_Sha_mix 97 = .ok (.aload_n 0, 1) := by decide +kernel
theorem d_Sha_mix_98 : decode c_Sha_mix 98 = .ok (.getfield 9, 3) := by decide +kernel
theorem d_Sha_mix_101 : decode c_Sha_mix 101 = .ok (.iconst 4, 1) := by decide +kernel
theorem d_Sha_mix_102 : decode c_Sha_mix 102 = .ok (.iaload, 1) := by decide +kernel
theorem d_Sha_mix_103 : decode c_Sha_mix 103 = .ok (.istore 5, 2) := by decide +kernel
theorem d_Sha_mix_105 : decode c_Sha_mix 105 = .ok (.iconst 0, 1) := by decide +kernel
theorem d_Sha_mix_106 : decode c_Sha_mix 106 = .ok (.istore 6, 2) := by decide +kernel
theorem d_Sha_mix_108 : decode c_Sha_mix 108 = .ok (.iload 6, 2) := by decide +kernel
theorem d_Sha_mix_110 : decode c_Sha_mix 110 = .ok (.bipush 80, 2) := by decide +kernel
theorem d_Sha_mix_112 : decode c_Sha_mix 112 = .ok (.if_icmp .ge 61, 3) := by decide +kernel
theorem d_Sha_mix_115 : decode c_Sha_mix 115 = .ok (.iload_n 1, 1) := by decide +kernel
theorem d_Sha_mix_116 : decode c_Sha_mix 116 = .ok (.iconst 5, 1) := by decide +kernel
theorem d_Sha_mix_117 : decode c_Sha_mix 117 = .ok (.ishl, 1) := by decide +kernel
theorem d_Sha_mix_118 : decode c_Sha_mix 118 = .ok (.iload_n 1, 1) := by decide +kernel
theorem d_Sha_mix_119 : decode c_Sha_mix 119 = .ok (.bipush 27, 2) := by decide +kernel
theorem d_Sha_mix_121 : decode c_Sha_mix 121 = .ok (.iushr, 1) := by decide +kernel
theorem d_Sha_mix_122 : decode c_Sha_mix 122 = .ok (.ior, 1) := by decide +kernel
theorem d_Sha_mix_123 : decode c_Sha_mix 123 = .ok (.iload 6, 2) := by decide +kernel
theorem d_Sha_mix_125 : decode c_Sha_mix 125 = .ok (.iload_n 2, 1) := by decide +kernel
theorem d_Sha_mix_126 : decode c_Sha_mix 126 = .ok (.iload_n 3, 1) := by decide +kernel
theorem d_Sha_mix_127 : decode c_Sha_mix 127 = .ok (.iload 4, 2) := by decide +kernel
theorem d_Sha_mix_129 : decode c_Sha_mix 129 = .ok (.invokestatic 30, 3) := by decide +kernel
theorem d_Sha_mix_132 : decode c_Sha_mix 132 = .ok (.iadd, 1) := by decide +kernel
theorem d_Sha_mix_133 : decode c_Sha_mix 133 = .ok (.iload 5, 2) := by decide +kernel
theorem d_Sha_mix_135 : decode c_Sha_mix 135 = .ok (.iadd, 1) := by decide +kernel
theorem d_Sha_mix_136 : decode c_Sha_mix 136 = .ok (.aload_n 0, 1) := by decide +kernel
theorem d_Sha_mix_137 : decode c_Sha_mix 137 = .ok (.getfield 15, 3) := by decide +kernel
theorem d_Sha_mix_140 : decode c_Sha_mix 140 = .ok (.iload 6, 2) := by decide +kernel
theorem d_Sha_mix_142 : decode c_Sha_mix 142 = .ok (.iaload, 1) := by decide +kernel
theorem d_Sha_mix_143 : decode c_Sha_mix 143 = .ok (.iadd, 1) := by decide +kernel
theorem d_Sha_mix_144 : decode c_Sha_mix 144 = .ok (.istore 7, 2) := by decide +kernel
theorem d_Sha_mix_146 : decode c_Sha_mix 146 = .ok (.iload 4, 2) := by decide +kernel
theorem d_Sha_mix_148 : decode c_Sha_mix 148 = .ok (.istore 5, 2) := by decide +kernel
theorem d_Sha_mix_150 : decode c_Sha_mix 150 = .ok (.iload_n 3, 1) := by decide +kernel
theorem d_Sha_mix_151 : decode c_Sha_mix 151 = .ok (.istore 4, 2) := by decide +kernel
theorem d_Sha_mix_153 : decode c_Sha_mix 153 = .ok (.iload_n 2, 1) := by decide +kernel
theorem d_Sha_mix_154 : decode c_Sha_mix 154 = .ok (.bipush 30, 2) := by decide +kernel
theorem d_Sha_mix_156 : decode c_Sha_mix 156 = .ok (.ishl, 1) := by decide +kernel
theorem d_Sha_mix_157 : decode c_Sha_mix 157 = .ok (.iload_n 2, 1) := by decide +kernel
theorem d_Sha_mix_158 : decode c_Sha_mix 158 = .ok (.iconst 2, 1) := by decide +kernel
theorem d_Sha_mix_159 : decode c_Sha_mix 159 = .ok (.iushr, 1) := by decide +kernel
theorem d_Sha_mix_160 : decode c_Sha_mix 160 = .ok (.ior, 1) := by decide +kernel
theorem d_Sha_mix_161 : decode c_Sha_mix 161 = .ok (.istore_n 3, 1) := by decide +kernel
theorem d_Sha_mix_162 : decode c_Sha_mix 162 = .ok (.iload_n 1, 1) := by decide +kernel
theorem d_Sha_mix_163 : decode c_Sha_mix 163 = .ok (.istore_n 2, 1) := by decide +kernel
theorem d_Sha_mix_164 : decode c_Sha_mix 164 = .ok (.iload 7, 2) := by decide +kernel
theorem d_Sha_mix_166 : decode c_Sha_mix 166 = .ok (.istore_n 1, 1) := by decide +kernel
theorem d_Sha_mix_167 : decode c_Sha_mix 167 = .ok (.iinc 6 1, 3) := by decide +kernel
theorem d_Sha_mix_170 : decode c_Sha_mix 170 = .ok (.goto (-62), 3) := by decide +kernel
theorem d_Sha_mix_173 : decode c_Sha_mix 173 = .ok (.aload_n 0, 1) := by decide +kernel
theorem d_Sha_mix_174 : decode c_Sha_mix 174 = .ok (.getfield 9, 3) := by decide +kernel
theorem d_Sha_mix_177 : decode c_Sha_mix 177 = .ok (.iconst 0, 1) := by decide +kernel
theorem d_Sha_mix_178 : decode c_Sha_mix 178 = .ok (.dup2, 1) := by decide +kernel
theorem d_Sha_mix_179 : decode c_Sha_mix 179 = .ok (.iaload, 1) := by decide +kernel
theorem d_Sha_mix_180 : decode c_Sha_mix 180 = .ok (.iload_n 1, 1) := by decide +kernel
theorem d_Sha_mix_181 : decode c_Sha_mix 181 = .ok (.iadd, 1) := by decide +kernel
theorem d_Sha_mix_182 : decode c_Sha_mix 182 = .ok (.iastore, 1) := by decide +kernel
theorem d_Sha_mix_183 : decode c_Sha_mix 183 = .ok (.aload_n 0, 1) := by decide +kernel
theorem d_Sha_mix_184 : decode c_Sha_mix 184 = .ok (.getfield 9, 3) := by decide +kernel
theorem d_Sha_mix_187 : decode c_Sha_mix 187 = .ok (.iconst 1, 1) := by decide +kernel
theorem d_Sha_mix_188 : decode c_Sha_mix 188 = .ok (.dup2, 1) := by decide +kernel
theorem d_Sha_mix_189 : decode c_Sha_mix 189 = .ok (.iaload, 1) := by decide +kernel
theorem d_Sha_mix_190 : decode c_Sha_mix 190 = .ok (.iload_n 2, 1) := by decide +kernel
theorem d_Sha_mix_191 : decode c_Sha_mix 191 = .ok (.iadd, 1) := by decide +kernel
theorem d_Sha_mix_192 : decode c_Sha_mix 192 = .ok (.iastore, 1) := by decide +kernel
theorem d_Sha_mix_193 : decode c_Sha_mix 193 = .ok (.aload_n 0, 1) := by decide +kernel
theorem d_Sha_mix_194 : decode c_Sha_mix 194 = .ok (.getfield 9, 3) := by decide +kernel
theorem d_Sha_mix_197 : decode c_Sha_mix 197 = .ok (.iconst 2, 1) := by decide +kernel
theorem d_Sha_mix_198 : decode c_Sha_mix 198 = .ok (.dup2, 1) := by decide +kernel
theorem d_Sha_mix_199 : decode c_Sha_mix 199 = .ok (.iaload, 1) := by decide +kernel
theorem d_Sha_mix_200 : decode c_Sha_mix 200 = .ok (.iload_n 3, 1) := by decide +kernel
theorem d_Sha_mix_201 : decode c_Sha_mix 201 = .ok (.iadd, 1) := by decide +kernel
theorem d_Sha_mix_202 : decode c_Sha_mix 202 = .ok (.iastore, 1) := by decide +kernel
theorem d_Sha_mix_203 : decode c_Sha_mix 203 = .ok (.aload_n 0, 1) := by decide +kernel
theorem d_Sha_mix_204 : decode c_Sha_mix 204 = .ok (.getfield 9, 3) := by decide +kernel
theorem d_Sha_mix_207 : decode c_Sha_mix 207 = .ok (.iconst 3, 1) := by decide +kernel
theorem d_Sha_mix_208 : decode c_Sha_mix 208 = .ok (.dup2, 1) := by decide +kernel
theorem d_Sha_mix_209 : decode c_Sha_mix 209 = .ok (.iaload, 1) := by decide +kernel
theorem d_Sha_mix_210 : decode c_Sha_mix 210 = .ok (.iload 4, 2) := by decide +kernel
theorem d_Sha_mix_212 : decode c_Sha_mix 212 = .ok (.iadd, 1) := by decide +kernel
theorem d_Sha_mix_213 : decode c_Sha_mix 213 = .ok (.iastore, 1) := by decide +kernel
theorem d_Sha_mix_214 : decode c_Sha_mix 214 = .ok (.aload_n 0, 1) := by decide +kernel
theorem d_Sha_mix_215 : decode c_Sha_mix 215 = .ok (.getfield 9, 3) := by decide +kernel
theorem d_Sha_mix_218 : decode c_Sha_mix 218 = .ok (.iconst 4, 1) := by decide +kernel
theorem d_Sha_mix_219 : decode c_Sha_mix 219 = .ok (.dup2, 1) := by decide +kernel
theorem d_Sha_mix_220 : decode c_Sha_mix 220 = .ok (.iaload, 1) := by decide +kernel
theorem d_Sha_mix_221 : decode c_Sha_mix 221 = .ok (.iload 5, 2) := by decide +kernel
theorem d_Sha_mix_223 : decode c_Sha_mix 223 = .ok (.iadd, 1) := by decide +kernel
theorem d_Sha_mix_224 : decode c_Sha_mix 224 = .ok (.iastore, 1) := by decide +kernel
theorem d_Sha_mix_225 : decode c_Sha_mix 225 = .ok (.return_, 1) := by decide +kernel
abbrev c_Sha_blend : ByteArray := prog_9_method_5_code
def y_Sha_blend : MethodName := ⟨"EpochServer$Sha", "blend", "(IIII)I"⟩
theorem d_Sha_blend_0 : decode c_Sha_blend 0 = .ok (.iload_n 0, 1) := by decide +kernel
theorem d_Sha_blend_1 : decode c_Sha_blend 1 = .ok (.bipush 20, 2) := by decide +kernel
theorem d_Sha_blend_3 : decode c_Sha_blend 3 = .ok (.if_icmp .ge 16, 3) := by decide +kernel
theorem d_Sha_blend_6 : decode c_Sha_blend 6 = .ok (.iload_n 1, 1) := by decide +kernel
theorem d_Sha_blend_7 : decode c_Sha_blend 7 = .ok (.iload_n 2, 1) := by decide +kernel
theorem d_Sha_blend_8 : decode c_Sha_blend 8 = .ok (.iand, 1) := by decide +kernel
theorem d_Sha_blend_9 : decode c_Sha_blend 9 = .ok (.iload_n 1, 1) := by decide +kernel
theorem d_Sha_blend_10 : decode c_Sha_blend 10 = .ok (.iconst (-1), 1) := by decide +kernel
theorem d_Sha_blend_11 : decode c_Sha_blend 11 = .ok (.ixor, 1) := by decide +kernel
theorem d_Sha_blend_12 : decode c_Sha_blend 12 = .ok (.iload_n 3, 1) := by decide +kernel
theorem d_Sha_blend_13 : decode c_Sha_blend 13 = .ok (.iand, 1) := by decide +kernel
theorem d_Sha_blend_14 : decode c_Sha_blend 14 = .ok (.ior, 1) := by decide +kernel
theorem d_Sha_blend_15 : decode c_Sha_blend 15 = .ok (.ldc 34, 2) := by decide +kernel
theorem d_Sha_blend_17 : decode c_Sha_blend 17 = .ok (.iadd, 1) := by decide +kernel
theorem d_Sha_blend_18 : decode c_Sha_blend 18 = .ok (.ireturn, 1) := by decide +kernel
theorem d_Sha_blend_19 : decode c_Sha_blend 19 = .ok (.iload_n 0, 1) := by decide +kernel
theorem d_Sha_blend_20 : decode c_Sha_blend 20 = .ok (.bipush 40, 2) := by decide +kernel
theorem d_Sha_blend_22 : decode c_Sha_blend 22 = .ok (.if_icmp .ge 12, 3) := by decide +kernel
theorem d_Sha_blend_25 : decode c_Sha_blend 25 = .ok (.iload_n 1, 1) := by decide +kernel
theorem d_Sha_blend_26 : decode c_Sha_blend 26 = .ok (.iload_n 2, 1) := by decide +kernel
theorem d_Sha_blend_27 : decode c_Sha_blend 27 = .ok (.ixor, 1) := by decide +kernel
theorem d_Sha_blend_28 : decode c_Sha_blend 28 = .ok (.iload_n 3, 1) := by decide +kernel
theorem d_Sha_blend_29 : decode c_Sha_blend 29 = .ok (.ixor, 1) := by decide +kernel
theorem d_Sha_blend_30 : decode c_Sha_blend 30 = .ok (.ldc 35, 2) := by decide +kernel
theorem d_Sha_blend_32 : decode c_Sha_blend 32 = .ok (.iadd, 1) := by decide +kernel
theorem d_Sha_blend_33 : decode c_Sha_blend 33 = .ok (.ireturn, 1) := by decide +kernel
theorem d_Sha_blend_34 : decode c_Sha_blend 34 = .ok (.iload_n 0, 1) := by decide +kernel
theorem d_Sha_blend_35 : decode c_Sha_blend 35 = .ok (.bipush 60, 2) := by decide +kernel
theorem d_Sha_blend_37 : decode c_Sha_blend 37 = .ok (.if_icmp .ge 18, 3) := by decide +kernel
theorem d_Sha_blend_40 : decode c_Sha_blend 40 = .ok (.iload_n 1, 1) := by decide +kernel
theorem d_Sha_blend_41 : decode c_Sha_blend 41 = .ok (.iload_n 2, 1) := by decide +kernel
theorem d_Sha_blend_42 : decode c_Sha_blend 42 = .ok (.iand, 1) := by decide +kernel
theorem d_Sha_blend_43 : decode c_Sha_blend 43 = .ok (.iload_n 1, 1) := by decide +kernel
theorem d_Sha_blend_44 : decode c_Sha_blend 44 = .ok (.iload_n 3, 1) := by decide +kernel
theorem d_Sha_blend_45 : decode c_Sha_blend 45 = .ok (.iand, 1) := by decide +kernel
theorem d_Sha_blend_46 : decode c_Sha_blend 46 = .ok (.ior, 1) := by decide +kernel
theorem d_Sha_blend_47 : decode c_Sha_blend 47 = .ok (.iload_n 2, 1) := by decide +kernel
theorem d_Sha_blend_48 : decode c_Sha_blend 48 = .ok (.iload_n 3, 1) := by decide +kernel
theorem d_Sha_blend_49 : decode c_Sha_blend 49 = .ok (.iand, 1) := by decide +kernel
theorem d_Sha_blend_50 : decode c_Sha_blend 50 = .ok (.ior, 1) := by decide +kernel
theorem d_Sha_blend_51 : decode c_Sha_blend 51 = .ok (.ldc 36, 2) := by decide +kernel
theorem d_Sha_blend_53 : decode c_Sha_blend 53 = .ok (.iadd, 1) := by decide +kernel
theorem d_Sha_blend_54 : decode c_Sha_blend 54 = .ok (.ireturn, 1) := by decide +kernel
theorem d_Sha_blend_55 : decode c_Sha_blend 55 = .ok (.iload_n 1, 1) := by decide +kernel
theorem d_Sha_blend_56 : decode c_Sha_blend 56 = .ok (.iload_n 2, 1) := by decide +kernel
theorem d_Sha_blend_57 : decode c_Sha_blend 57 = .ok (.ixor, 1) := by decide +kernel
theorem d_Sha_blend_58 : decode c_Sha_blend 58 = .ok (.iload_n 3, 1) := by decide +kernel
theorem d_Sha_blend_59 : decode c_Sha_blend 59 = .ok (.ixor, 1) := by decide +kernel
theorem d_Sha_blend_60 : decode c_Sha_blend 60 = .ok (.ldc 37, 2) := by decide +kernel
theorem d_Sha_blend_62 : decode c_Sha_blend 62 = .ok (.iadd, 1) := by decide +kernel
theorem d_Sha_blend_63 : decode c_Sha_blend 63 = .ok (.ireturn, 1) := by decide +kernel
abbrev c_Snapshots_init : ByteArray := prog_10_method_1_code
def y_Snapshots_init : MethodName := ⟨"EpochServer$Snapshots", "<init>", "()V"⟩
theorem d_Snapshots_init_0 : decode c_Snapshots_init 0 = .ok (.aload_n 0, 1) := by decide +kernel
theorem d_Snapshots_init_1 : decode c_Snapshots_init 1 = .ok (.invokespecial 3, 3) := by decide +kernel
theorem d_Snapshots_init_4 : decode c_Snapshots_init 4 = .ok (.aload_n 0, 1) := by decide +kernel
theorem d_Snapshots_init_5 : decode c_Snapshots_init 5 = .ok (.bipush 30, 2) := by decide +kernel
theorem d_Snapshots_init_7 : decode c_Snapshots_init 7 = .ok (.newarray .int, 2) := by decide +kernel
theorem d_Snapshots_init_9 : decode c_Snapshots_init 9 = .ok (.putfield 9, 3) := by decide +kernel
theorem d_Snapshots_init_12 : decode c_Snapshots_init 12 = .ok (.aload_n 0, 1) := by decide +kernel
theorem d_Snapshots_init_13 : decode c_Snapshots_init 13 = .ok (.bipush 6, 2) := by decide +kernel
theorem d_Snapshots_init_15 : decode c_Snapshots_init 15 = .ok (.anewarray 15, 3) := by decide +kernel
theorem d_Snapshots_init_18 : decode c_Snapshots_init 18 = .ok (.putfield 17, 3) := by decide +kernel
theorem d_Snapshots_init_21 : decode c_Snapshots_init 21 = .ok (.aload_n 0, 1) := by decide +kernel
theorem d_Snapshots_init_22 : decode c_Snapshots_init 22 = .ok (.bipush 6, 2) := by decide +kernel
theorem d_Snapshots_init_24 : decode c_Snapshots_init 24 = .ok (.newarray .boolean, 2) := by decide +kernel
theorem d_Snapshots_init_26 : decode c_Snapshots_init 26 = .ok (.putfield 21, 3) := by decide +kernel
theorem d_Snapshots_init_29 : decode c_Snapshots_init 29 = .ok (.aload_n 0, 1) := by decide +kernel
theorem d_Snapshots_init_30 : decode c_Snapshots_init 30 = .ok (.iconst 0, 1) := by decide +kernel
theorem d_Snapshots_init_31 : decode c_Snapshots_init 31 = .ok (.putfield 25, 3) := by decide +kernel
theorem d_Snapshots_init_34 : decode c_Snapshots_init 34 = .ok (.return_, 1) := by decide +kernel
abbrev c_Snapshots_size : ByteArray := prog_10_method_2_code
def y_Snapshots_size : MethodName := ⟨"EpochServer$Snapshots", "size", "()I"⟩
theorem d_Snapshots_size_0 : decode c_Snapshots_size 0 = .ok (.aload_n 0, 1) := by decide +kernel
theorem d_Snapshots_size_1 : decode c_Snapshots_size 1 = .ok (.getfield 25, 3) := by decide +kernel
theorem d_Snapshots_size_4 : decode c_Snapshots_size 4 = .ok (.ireturn, 1) := by decide +kernel
abbrev c_Snapshots_take : ByteArray := prog_10_method_3_code
def y_Snapshots_take : MethodName := ⟨"EpochServer$Snapshots", "take", "(LEpochServer$Tree;)I"⟩
theorem d_Snapshots_take_0 : decode c_Snapshots_take 0 = .ok (.aload_n 0, 1) := by decide +kernel
theorem d_Snapshots_take_1 : decode c_Snapshots_take 1 = .ok (.getfield 25, 3) := by decide +kernel
theorem d_Snapshots_take_4 : decode c_Snapshots_take 4 = .ok (.bipush 6, 2) := by decide +kernel
theorem d_Snapshots_take_6 : decode c_Snapshots_take 6 = .ok (.if_icmp .lt 5, 3) := by decide +kernel
theorem d_Snapshots_take_9 : decode c_Snapshots_take 9 = .ok (.iconst (-1), 1) := by decide +kernel
theorem d_Snapshots_take_10 : decode c_Snapshots_take 10 = .ok (.ireturn, 1) := by decide +kernel
theorem d_Snapshots_take_11 : decode c_Snapshots_take 11 = .ok (.new 15, 3) := by decide +kernel
theorem d_Snapshots_take_14 : decode c_Snapshots_take 14 = .ok (.dup, 1) := by decide +kernel
theorem d_Snapshots_take_15 : decode c_Snapshots_take 15 = .ok (.invokespecial 29, 3) := by decide +kernel
theorem d_Snapshots_take_18 : decode c_Snapshots_take 18 = .ok (.astore_n 2, 1) := by decide +kernel
theorem d_Snapshots_take_19 : decode c_Snapshots_take 19 = .ok (.aload_n 2, 1) := by decide +kernel
theorem d_Snapshots_take_20 : decode c_Snapshots_take 20 = .ok (.aload_n 1, 1) := by decide +kernel
theorem d_Snapshots_take_21 : decode c_Snapshots_take 21 = .ok (.invokevirtual 30, 3) := by decide +kernel
theorem d_Snapshots_take_24 : decode c_Snapshots_take 24 = .ok (.aload_n 0, 1) := by decide +kernel
theorem d_Snapshots_take_25 : decode c_Snapshots_take 25 = .ok (.getfield 17, 3) := by decide +kernel
theorem d_Snapshots_take_28 : decode c_Snapshots_take 28 = .ok (.aload_n 0, 1) := by decide +kernel
theorem d_Snapshots_take_29 : decode c_Snapshots_take 29 = .ok (.getfield 25, 3) := by decide +kernel
theorem d_Snapshots_take_32 : decode c_Snapshots_take 32 = .ok (.aload_n 2, 1) := by decide +kernel
theorem d_Snapshots_take_33 : decode c_Snapshots_take 33 = .ok (.aastore, 1) := by decide +kernel
theorem d_Snapshots_take_34 : decode c_Snapshots_take 34 = .ok (.aload_n 0, 1) := by decide +kernel
theorem d_Snapshots_take_35 : decode c_Snapshots_take 35 = .ok (.dup, 1) := by decide +kernel
theorem d_Snapshots_take_36 : decode c_Snapshots_take 36 = .ok (.getfield 25, 3) := by decide +kernel
theorem d_Snapshots_take_39 : decode c_Snapshots_take 39 = .ok (.iconst 1, 1) := by decide +kernel
theorem d_Snapshots_take_40 : decode c_Snapshots_take 40 = .ok (.iadd, 1) := by decide +kernel
theorem d_Snapshots_take_41 : decode c_Snapshots_take 41 = .ok (.putfield 25, 3) := by decide +kernel
theorem d_Snapshots_take_44 : decode c_Snapshots_take 44 = .ok (.aload_n 0, 1) := by decide +kernel
theorem d_Snapshots_take_45 : decode c_Snapshots_take 45 = .ok (.getfield 25, 3) := by decide +kernel
theorem d_Snapshots_take_48 : decode c_Snapshots_take 48 = .ok (.iconst 1, 1) := by decide +kernel
theorem d_Snapshots_take_49 : decode c_Snapshots_take 49 = .ok (.isub, 1) := by decide +kernel
theorem d_Snapshots_take_50 : decode c_Snapshots_take 50 = .ok (.ireturn, 1) := by decide +kernel
abbrev c_Snapshots_tree : ByteArray := prog_10_method_4_code
def y_Snapshots_tree : MethodName := ⟨"EpochServer$Snapshots", "tree", "(I)LEpochServer$Tree;"⟩
theorem d_Snapshots_tree_0 : decode c_Snapshots_tree 0 = .ok (.iload_n 1, 1) := by decide +kernel
theorem d_Snapshots_tree_1 : decode c_Snapshots_tree 1 = .ok (.ifCond .lt 11, 3) := by decide +kernel
theorem d_Snapshots_tree_4 : decode c_Snapshots_tree 4 = .ok (.iload_n 1, 1) := by decide +kernel
theorem d_Snapshots_tree_5 : decode c_Snapshots_tree 5 = .ok (.aload_n 0, 1) := by decide +kernel
theorem d_Snapshots_tree_6 : decode c_Snapshots_tree 6 = .ok (.getfield 25, 3) := by decide +kernel
theorem d_Snapshots_tree_9 : decode c_Snapshots_tree 9 = .ok (.if_icmp .lt 7, 3) := by decide +kernel
theorem d_Snapshots_tree_12 : decode c_Snapshots_tree 12 = .ok (.aconst_null, 1) := by decide +kernel
theorem d_Snapshots_tree_13 : decode c_Snapshots_tree 13 = .ok (.goto 9, 3) := by decide +kernel
theorem d_Snapshots_tree_16 : decode c_Snapshots_tree 16 = .ok (.aload_n 0, 1) := by decide +kernel
theorem d_Snapshots_tree_17 : decode c_Snapshots_tree 17 = .ok (.getfield 17, 3) := by decide +kernel
theorem d_Snapshots_tree_20 : decode c_Snapshots_tree 20 = .ok (.iload_n 1, 1) := by decide +kernel
theorem d_Snapshots_tree_21 : decode c_Snapshots_tree 21 = .ok (.aaload, 1) := by decide +kernel
theorem d_Snapshots_tree_22 : decode c_Snapshots_tree 22 = .ok (.areturn, 1) := by decide +kernel
abbrev c_Snapshots_isScored : ByteArray := prog_10_method_5_code
def y_Snapshots_isScored : MethodName := ⟨"EpochServer$Snapshots", "isScored", "(I)Z"⟩
theorem d_Snapshots_isScored_0 : decode c_Snapshots_isScored 0 = .ok (.iload_n 1, 1) := by decide +kernel
theorem d_Snapshots_isScored_1 : decode c_Snapshots_isScored 1 = .ok (.ifCond .lt 24, 3) := by decide +kernel
theorem d_Snapshots_isScored_4 : decode c_Snapshots_isScored 4 = .ok (.iload_n 1, 1) := by decide +kernel
theorem d_Snapshots_isScored_5 : decode c_Snapshots_isScored 5 = .ok (.aload_n 0, 1) := by decide +kernel
theorem d_Snapshots_isScored_6 : decode c_Snapshots_isScored 6 = .ok (.getfield 25, 3) := by decide +kernel
theorem d_Snapshots_isScored_9 : decode c_Snapshots_isScored 9 = .ok (.if_icmp .ge 16, 3) := by decide +kernel
theorem d_Snapshots_isScored_12 : decode c_Snapshots_isScored 12 = .ok (.aload_n 0, 1) := by decide +kernel
theorem d_Snapshots_isScored_13 : decode c_Snapshots_isScored 13 = .ok (.getfield 21, 3) := by decide +kernel
theorem d_Snapshots_isScored_16 : decode c_Snapshots_isScored 16 = .ok (.iload_n 1, 1) := by decide +kernel
theorem d_Snapshots_isScored_17 : decode c_Snapshots_isScored 17 = .ok (.baload, 1) := by decide +kernel
theorem d_Snapshots_isScored_18 : decode c_Snapshots_isScored 18 = .ok (.ifCond .eq 7, 3) := by decide +kernel
theorem d_Snapshots_isScored_21 : decode c_Snapshots_isScored 21 = .ok (.iconst 1, 1) := by decide +kernel
theorem d_Snapshots_isScored_22 : decode c_Snapshots_isScored 22 = .ok (.goto 4, 3) := by decide +kernel
theorem d_Snapshots_isScored_25 : decode c_Snapshots_isScored 25 = .ok (.iconst 0, 1) := by decide +kernel
theorem d_Snapshots_isScored_26 : decode c_Snapshots_isScored 26 = .ok (.ireturn, 1) := by decide +kernel
abbrev c_Snapshots_setScored : ByteArray := prog_10_method_6_code
def y_Snapshots_setScored : MethodName := ⟨"EpochServer$Snapshots", "setScored", "(I)V"⟩
theorem d_Snapshots_setScored_0 : decode c_Snapshots_setScored 0 = .ok (.iload_n 1, 1) := by decide +kernel
theorem d_Snapshots_setScored_1 : decode c_Snapshots_setScored 1 = .ok (.ifCond .lt 18, 3) := by decide +kernel
theorem d_Snapshots_setScored_4 : decode c_Snapshots_setScored 4 = .ok (.iload_n 1, 1) := by decide +kernel
theorem d_Snapshots_setScored_5 : decode c_Snapshots_setScored 5 = .ok (.aload_n 0, 1) := by decide +kernel
theorem d_Snapshots_setScored_6 : decode c_Snapshots_setScored 6 = .ok (.getfield 25, 3) := by decide +kernel
theorem d_Snapshots_setScored_9 : decode c_Snapshots_setScored 9 = .ok (.if_icmp .ge 10, 3) := by decide +kernel
theorem d_Snapshots_setScored_12 : decode c_Snapshots_setScored 12 = .ok (.aload_n 0, 1) := by decide +kernel
theorem d_Snapshots_setScored_13 : decode c_Snapshots_setScored 13 = .ok (.getfield 21, 3) := by decide +kernel
theorem d_Snapshots_setScored_16 : decode c_Snapshots_setScored 16 = .ok (.iload_n 1, 1) := by decide +kernel
theorem d_Snapshots_setScored_17 : decode c_Snapshots_setScored 17 = .ok (.iconst 1, 1) := by decide +kernel
theorem d_Snapshots_setScored_18 : decode c_Snapshots_setScored 18 = .ok (.bastore, 1) := by decide +kernel
theorem d_Snapshots_setScored_19 : decode c_Snapshots_setScored 19 = .ok (.return_, 1) := by decide +kernel
abbrev c_Snapshots_scoreByte : ByteArray := prog_10_method_7_code
def y_Snapshots_scoreByte : MethodName := ⟨"EpochServer$Snapshots", "scoreByte", "(II)I"⟩
theorem d_Snapshots_scoreByte_0 : decode c_Snapshots_scoreByte 0 = .ok (.iload_n 1, 1) := by decide +kernel
theorem d_Snapshots_scoreByte_1 : decode c_Snapshots_scoreByte 1 = .ok (.ifCond .lt 21, 3) := by decide +kernel
theorem d_Snapshots_scoreByte_4 : decode c_Snapshots_scoreByte 4 = .ok (.iload_n 1, 1) := by decide +kernel
theorem d_Snapshots_scoreByte_5 : decode c_Snapshots_scoreByte 5 = .ok (.aload_n 0, 1) := by decide +kernel
theorem d_Snapshots_scoreByte_6 : decode c_Snapshots_scoreByte 6 = .ok (.getfield 25, 3) := by decide +kernel
theorem d_Snapshots_scoreByte_9 : decode c_Snapshots_scoreByte 9 = .ok (.if_icmp .ge 13, 3) := by decide +kernel
theorem d_Snapshots_scoreByte_12 : decode c_Snapshots_scoreByte 12 = .ok (.iload_n 2, 1) := by decide +kernel
theorem d_Snapshots_scoreByte_13 : decode c_Snapshots_scoreByte 13 = .ok (.ifCond .lt 9, 3) := by decide +kernel
theorem d_Snapshots_scoreByte_16 : decode c_Snapshots_scoreByte 16 = .ok (.iload_n 2, 1) := by decide +kernel
theorem d_Snapshots_scoreByte_17 : decode c_Snapshots_scoreByte 17 = .ok (.bipush 20, 2) := by decide +kernel
theorem d_Snapshots_scoreByte_19 : decode c_Snapshots_scoreByte 19 = .ok (.if_icmp .lt 5, 3) := by decide +kernel
theorem d_Snapshots_scoreByte_22 : decode c_Snapshots_scoreByte 22 = .ok (.iconst (-1), 1) := by decide +kernel
theorem d_Snapshots_scoreByte_23 : decode c_Snapshots_scoreByte 23 = .ok (.ireturn, 1) := by decide +kernel
theorem d_Snapshots_scoreByte_24 : decode c_Snapshots_scoreByte 24 = .ok (.aload_n 0, 1) := by decide +kernel
theorem d_Snapshots_scoreByte_25 : decode c_Snapshots_scoreByte 25 = .ok (.getfield 9, 3) := by decide +kernel
theorem d_Snapshots_scoreByte_28 : decode c_Snapshots_scoreByte 28 = .ok (.iload_n 1, 1) := by decide +kernel
theorem d_Snapshots_scoreByte_29 : decode c_Snapshots_scoreByte 29 = .ok (.iconst 5, 1) := by decide +kernel
theorem d_Snapshots_scoreByte_30 : decode c_Snapshots_scoreByte 30 = .ok (.imul, 1) := by decide +kernel
theorem d_Snapshots_scoreByte_31 : decode c_Snapshots_scoreByte 31 = .ok (.iload_n 2, 1) := by decide +kernel
theorem d_Snapshots_scoreByte_32 : decode c_Snapshots_scoreByte 32 = .ok (.iconst 4, 1) := by decide +kernel
theorem d_Snapshots_scoreByte_33 : decode c_Snapshots_scoreByte 33 = .ok (.idiv, 1) := by decide +kernel
theorem d_Snapshots_scoreByte_34 : decode c_Snapshots_scoreByte 34 = .ok (.iadd, 1) := by decide +kernel
theorem d_Snapshots_scoreByte_35 : decode c_Snapshots_scoreByte 35 = .ok (.iaload, 1) := by decide +kernel
theorem d_Snapshots_scoreByte_36 : decode c_Snapshots_scoreByte 36 = .ok (.bipush 24, 2) := by decide +kernel
theorem d_Snapshots_scoreByte_38 : decode c_Snapshots_scoreByte 38 = .ok (.bipush 8, 2) := by decide +kernel
theorem d_Snapshots_scoreByte_40 : decode c_Snapshots_scoreByte 40 = .ok (.iload_n 2, 1) := by decide +kernel
theorem d_Snapshots_scoreByte_41 : decode c_Snapshots_scoreByte 41 = .ok (.iconst 4, 1) := by decide +kernel
theorem d_Snapshots_scoreByte_42 : decode c_Snapshots_scoreByte 42 = .ok (.irem, 1) := by decide +kernel
theorem d_Snapshots_scoreByte_43 : decode c_Snapshots_scoreByte 43 = .ok (.imul, 1) := by decide +kernel
theorem d_Snapshots_scoreByte_44 : decode c_Snapshots_scoreByte 44 = .ok (.isub, 1) := by decide +kernel
theorem d_Snapshots_scoreByte_45 : decode c_Snapshots_scoreByte 45 = .ok (.iushr, 1) := by decide +kernel
theorem d_Snapshots_scoreByte_46 : decode c_Snapshots_scoreByte 46 = .ok (.sipush 255, 3) := by decide +kernel
theorem d_Snapshots_scoreByte_49 : decode c_Snapshots_scoreByte 49 = .ok (.iand, 1) := by decide +kernel
theorem d_Snapshots_scoreByte_50 : decode c_Snapshots_scoreByte 50 = .ok (.ireturn, 1) := by decide +kernel
abbrev c_Store_init : ByteArray := prog_11_method_1_code
def y_Store_init : MethodName := ⟨"EpochServer$Store", "<init>", "()V"⟩
theorem d_Store_init_0 : decode c_Store_init 0 = .ok (.aload_n 0, 1) := by decide +kernel
theorem d_Store_init_1 : decode c_Store_init 1 = .ok (.invokespecial 3, 3) := by decide +kernel
theorem d_Store_init_4 : decode c_Store_init 4 = .ok (.aload_n 0, 1) := by decide +kernel
theorem d_Store_init_5 : decode c_Store_init 5 = .ok (.iconst 0, 1) := by decide +kernel
theorem d_Store_init_6 : decode c_Store_init 6 = .ok (.putfield 9, 3) := by decide +kernel
theorem d_Store_init_9 : decode c_Store_init 9 = .ok (.aload_n 0, 1) := by decide +kernel
theorem d_Store_init_10 : decode c_Store_init 10 = .ok (.iconst 0, 1) := by decide +kernel
theorem d_Store_init_11 : decode c_Store_init 11 = .ok (.putfield 15, 3) := by decide +kernel
theorem d_Store_init_14 : decode c_Store_init 14 = .ok (.aload_n 0, 1) := by decide +kernel
theorem d_Store_init_15 : decode c_Store_init 15 = .ok (.sipush 3000, 3) := by decide +kernel
theorem d_Store_init_18 : decode c_Store_init 18 = .ok (.newarray .int, 2) := by decide +kernel
theorem d_Store_init_20 : decode c_Store_init 20 = .ok (.putfield 18, 3) := by decide +kernel
theorem d_Store_init_23 : decode c_Store_init 23 = .ok (.return_, 1) := by decide +kernel
abbrev c_Store_holds : ByteArray := prog_11_method_2_code
def y_Store_holds : MethodName := ⟨"EpochServer$Store", "holds", "([I)Z"⟩
theorem d_Store_holds_0 : decode c_Store_holds 0 = .ok (.iconst 0, 1) := by decide +kernel
theorem d_Store_holds_1 : decode c_Store_holds 1 = .ok (.istore_n 2, 1) := by decide +kernel
theorem d_Store_holds_2 : decode c_Store_holds 2 = .ok (.iload_n 2, 1) := by decide +kernel
theorem d_Store_holds_3 : decode c_Store_holds 3 = .ok (.aload_n 0, 1) := by decide +kernel
theorem d_Store_holds_4 : decode c_Store_holds 4 = .ok (.getfield 9, 3) := by decide +kernel
theorem d_Store_holds_7 : decode c_Store_holds 7 = .ok (.if_icmp .ge 54, 3) := by decide +kernel
theorem d_Store_holds_10 : decode c_Store_holds 10 = .ok (.iconst 0, 1) := by decide +kernel
theorem d_Store_holds_11 : decode c_Store_holds 11 = .ok (.istore_n 3, 1) := by decide +kernel
theorem d_Store_holds_12 : decode c_Store_holds 12 = .ok (.iconst 0, 1) := by decide +kernel
theorem d_Store_holds_13 : decode c_Store_holds 13 = .ok (.istore 4, 2) := by decide +kernel
theorem d_Store_holds_15 : decode c_Store_holds 15 = .ok (.iload 4, 2) := by decide +kernel
theorem d_Store_holds_17 : decode c_Store_holds 17 = .ok (.iconst 5, 1) := by decide +kernel
theorem d_Store_holds_18 : decode c_Store_holds 18 = .ok (.if_icmp .ge 30, 3) := by decide +kernel
theorem d_Store_holds_21 : decode c_Store_holds 21 = .ok (.aload_n 0, 1) := by decide +kernel
theorem d_Store_holds_22 : decode c_Store_holds 22 = .ok (.getfield 18, 3) := by decide +kernel
theorem d_Store_holds_25 : decode c_Store_holds 25 = .ok (.iload_n 2, 1) := by decide +kernel
theorem d_Store_holds_26 : decode c_Store_holds 26 = .ok (.iconst 5, 1) := by decide +kernel
theorem d_Store_holds_27 : decode c_Store_holds 27 = .ok (.imul, 1) := by decide +kernel
theorem d_Store_holds_28 : decode c_Store_holds 28 = .ok (.iload 4, 2) := by decide +kernel
theorem d_Store_holds_30 : decode c_Store_holds 30 = .ok (.iadd, 1) := by decide +kernel
theorem d_Store_holds_31 : decode c_Store_holds 31 = .ok (.iaload, 1) := by decide +kernel
theorem d_Store_holds_32 : decode c_Store_holds 32 = .ok (.aload_n 1, 1) := by decide +kernel
theorem d_Store_holds_33 : decode c_Store_holds 33 = .ok (.iload 4, 2) := by decide +kernel
theorem d_Store_holds_35 : decode c_Store_holds 35 = .ok (.iaload, 1) := by decide +kernel
theorem d_Store_holds_36 : decode c_Store_holds 36 = .ok (.if_icmp .ne 12, 3) := by decide +kernel
theorem d_Store_holds_39 : decode c_Store_holds 39 = .ok (.iinc 3 1, 3) := by decide +kernel
theorem d_Store_holds_42 : decode c_Store_holds 42 = .ok (.iinc 4 1, 3) := by decide +kernel
theorem d_Store_holds_45 : decode c_Store_holds 45 = .ok (.goto (-30), 3) := by decide +kernel
theorem d_Store_holds_48 : decode c_Store_holds 48 = .ok (.iload_n 3, 1) := by decide +kernel
theorem d_Store_holds_49 : decode c_Store_holds 49 = .ok (.iconst 5, 1) := by decide +kernel
theorem d_Store_holds_50 : decode c_Store_holds 50 = .ok (.if_icmp .ne 5, 3) := by decide +kernel
theorem d_Store_holds_53 : decode c_Store_holds 53 = .ok (.iconst 1, 1) := by decide +kernel
theorem d_Store_holds_54 : decode c_Store_holds 54 = .ok (.ireturn, 1) := by decide +kernel
theorem d_Store_holds_55 : decode c_Store_holds 55 = .ok (.iinc 2 1, 3) := by decide +kernel
theorem d_Store_holds_58 : decode c_Store_holds 58 = .ok (.goto (-56), 3) := by decide +kernel
theorem d_Store_holds_61 : decode c_Store_holds 61 = .ok (.iconst 0, 1) := by decide +kernel
theorem d_Store_holds_62 : decode c_Store_holds 62 = .ok (.ireturn, 1) := by decide +kernel
abbrev c_Store_put : ByteArray := prog_11_method_3_code
def y_Store_put : MethodName := ⟨"EpochServer$Store", "put", "([II)Z"⟩
theorem d_Store_put_0 : decode c_Store_put 0 = .ok (.aload_n 0, 1) := by decide +kernel
theorem d_Store_put_1 : decode c_Store_put 1 = .ok (.aload_n 1, 1) := by decide +kernel
theorem d_Store_put_2 : decode c_Store_put 2 = .ok (.invokevirtual 22, 3) := by decide +kernel
theorem d_Store_put_5 : decode c_Store_put 5 = .ok (.ifCond .eq 5, 3) := by decide +kernel
theorem d_Store_put_8 : decode c_Store_put 8 = .ok (.iconst 1, 1) := by decide +kernel
theorem d_Store_put_9 : decode c_Store_put 9 = .ok (.ireturn, 1) := by decide +kernel
theorem d_Store_put_10 : decode c_Store_put 10 = .ok (.aload_n 0, 1) := by decide +kernel
theorem d_Store_put_11 : decode c_Store_put 11 = .ok (.getfield 9, 3) := by decide +kernel
theorem d_Store_put_14 : decode c_Store_put 14 = .ok (.sipush 600, 3) := by decide +kernel
theorem d_Store_put_17 : decode c_Store_put 17 = .ok (.if_icmp .lt 5, 3) := by decide +kernel
theorem d_Store_put_20 : decode c_Store_put 20 = .ok (.iconst 0, 1) := by decide +kernel
theorem d_Store_put_21 : decode c_Store_put 21 = .ok (.ireturn, 1) := by decide +kernel
theorem d_Store_put_22 : decode c_Store_put 22 = .ok (.iconst 0, 1) := by decide +kernel
theorem d_Store_put_23 : decode c_Store_put 23 = .ok (.istore_n 3, 1) := by decide +kernel
theorem d_Store_put_24 : decode c_Store_put 24 = .ok (.iload_n 3, 1) := by decide +kernel
theorem d_Store_put_25 : decode c_Store_put 25 = .ok (.iconst 5, 1) := by decide +kernel
theorem d_Store_put_26 : decode c_Store_put 26 = .ok (.if_icmp .ge 25, 3) := by decide +kernel
theorem d_Store_put_29 : decode c_Store_put 29 = .ok (.aload_n 0, 1) := by decide +kernel
theorem d_Store_put_30 : decode c_Store_put 30 = .ok (.getfield 18, 3) := by decide +kernel
theorem d_Store_put_33 : decode c_Store_put 33 = .ok (.aload_n 0, 1) := by decide +kernel
theorem d_Store_put_34 : decode c_Store_put 34 = .ok (.getfield 9, 3) := by decide +kernel
theorem d_Store_put_37 : decode c_Store_put 37 = .ok (.iconst 5, 1) := by decide +kernel
theorem d_Store_put_38 : decode c_Store_put 38 = .ok (.imul, 1) := by decide +kernel
theorem d_Store_put_39 : decode c_Store_put 39 = .ok (.iload_n 3, 1) := by decide +kernel
theorem d_Store_put_40 : decode c_Store_put 40 = .ok (.iadd, 1) := by decide +kernel
theorem d_Store_put_41 : decode c_Store_put 41 = .ok (.aload_n 1, 1) := by decide +kernel
theorem d_Store_put_42 : decode c_Store_put 42 = .ok (.iload_n 3, 1) := by decide +kernel
theorem d_Store_put_43 : decode c_Store_put 43 = .ok (.iaload, 1) := by decide +kernel
theorem d_Store_put_44 : decode c_Store_put 44 = .ok (.iastore, 1) := by decide +kernel
theorem d_Store_put_45 : decode c_Store_put 45 = .ok (.iinc 3 1, 3) := by decide +kernel
theorem d_Store_put_48 : decode c_Store_put 48 = .ok (.goto (-24), 3) := by decide +kernel
theorem d_Store_put_51 : decode c_Store_put 51 = .ok (.aload_n 0, 1) := by decide +kernel
theorem d_Store_put_52 : decode c_Store_put 52 = .ok (.dup, 1) := by decide +kernel
theorem d_Store_put_53 : decode c_Store_put 53 = .ok (.getfield 9, 3) := by decide +kernel
theorem d_Store_put_56 : decode c_Store_put 56 = .ok (.iconst 1, 1) := by decide +kernel
theorem d_Store_put_57 : decode c_Store_put 57 = .ok (.iadd, 1) := by decide +kernel
theorem d_Store_put_58 : decode c_Store_put 58 = .ok (.putfield 9, 3) := by decide +kernel
theorem d_Store_put_61 : decode c_Store_put 61 = .ok (.aload_n 0, 1) := by decide +kernel
theorem d_Store_put_62 : decode c_Store_put 62 = .ok (.dup, 1) := by decide +kernel
theorem d_Store_put_63 : decode c_Store_put 63 = .ok (.getfield 15, 3) := by decide +kernel
theorem d_Store_put_66 : decode c_Store_put 66 = .ok (.iload_n 2, 1) := by decide +kernel
theorem d_Store_put_67 : decode c_Store_put 67 = .ok (.iadd, 1) := by decide +kernel
theorem d_Store_put_68 : decode c_Store_put 68 = .ok (.putfield 15, 3) := by decide +kernel
theorem d_Store_put_71 : decode c_Store_put 71 = .ok (.iconst 1, 1) := by decide +kernel
theorem d_Store_put_72 : decode c_Store_put 72 = .ok (.ireturn, 1) := by decide +kernel
abbrev c_Store_goBackTo : ByteArray := prog_11_method_4_code
def y_Store_goBackTo : MethodName := ⟨"EpochServer$Store", "goBackTo", "(II)V"⟩
theorem d_Store_goBackTo_0 : decode c_Store_goBackTo 0 = .ok (.aload_n 0, 1) := by decide +kernel
theorem d_Store_goBackTo_1 : decode c_Store_goBackTo 1 = .ok (.iload_n 1, 1) := by decide +kernel
theorem d_Store_goBackTo_2 : decode c_Store_goBackTo 2 = .ok (.putfield 9, 3) := by decide +kernel
theorem d_Store_goBackTo_5 : decode c_Store_goBackTo 5 = .ok (.aload_n 0, 1) := by decide +kernel
theorem d_Store_goBackTo_6 : decode c_Store_goBackTo 6 = .ok (.iload_n 2, 1) := by decide +kernel
theorem d_Store_goBackTo_7 : decode c_Store_goBackTo 7 = .ok (.putfield 15, 3) := by decide +kernel
theorem d_Store_goBackTo_10 : decode c_Store_goBackTo 10 = .ok (.return_, 1) := by decide +kernel
abbrev c_Tree_init : ByteArray := prog_12_method_1_code
def y_Tree_init : MethodName := ⟨"EpochServer$Tree", "<init>", "()V"⟩
theorem d_Tree_init_0 : decode c_Tree_init 0 = .ok (.aload_n 0, 1) := by decide +kernel
theorem d_Tree_init_1 : decode c_Tree_init 1 = .ok (.invokespecial 3, 3) := by decide +kernel
theorem d_Tree_init_4 : decode c_Tree_init 4 = .ok (.aload_n 0, 1) := by decide +kernel
theorem d_Tree_init_5 : decode c_Tree_init 5 = .ok (.bipush 60, 2) := by decide +kernel
theorem d_Tree_init_7 : decode c_Tree_init 7 = .ok (.anewarray 9, 3) := by decide +kernel
theorem d_Tree_init_10 : decode c_Tree_init 10 = .ok (.putfield 11, 3) := by decide +kernel
theorem d_Tree_init_13 : decode c_Tree_init 13 = .ok (.return_, 1) := by decide +kernel
abbrev c_Tree_at : ByteArray := prog_12_method_2_code
def y_Tree_at : MethodName := ⟨"EpochServer$Tree", "at", "(I)LEpochServer$Node;"⟩
theorem d_Tree_at_0 : decode c_Tree_at 0 = .ok (.iload_n 1, 1) := by decide +kernel
theorem d_Tree_at_1 : decode c_Tree_at 1 = .ok (.ifCond .lt 9, 3) := by decide +kernel
theorem d_Tree_at_4 : decode c_Tree_at 4 = .ok (.iload_n 1, 1) := by decide +kernel
theorem d_Tree_at_5 : decode c_Tree_at 5 = .ok (.bipush 60, 2) := by decide +kernel
theorem d_Tree_at_7 : decode c_Tree_at 7 = .ok (.if_icmp .lt 7, 3) := by decide +kernel
theorem d_Tree_at_10 : decode c_Tree_at 10 = .ok (.aconst_null, 1) := by decide +kernel
theorem d_Tree_at_11 : decode c_Tree_at 11 = .ok (.goto 9, 3) := by decide +kernel
theorem d_Tree_at_14 : decode c_Tree_at 14 = .ok (.aload_n 0, 1) := by decide +kernel
theorem d_Tree_at_15 : decode c_Tree_at 15 = .ok (.getfield 11, 3) := by decide +kernel
theorem d_Tree_at_18 : decode c_Tree_at 18 = .ok (.iload_n 1, 1) := by decide +kernel
theorem d_Tree_at_19 : decode c_Tree_at 19 = .ok (.aaload, 1) := by decide +kernel
theorem d_Tree_at_20 : decode c_Tree_at 20 = .ok (.areturn, 1) := by decide +kernel
abbrev c_Tree_put : ByteArray := prog_12_method_3_code
def y_Tree_put : MethodName := ⟨"EpochServer$Tree", "put", "(LEpochServer$Node;)V"⟩
theorem d_Tree_put_0 : decode c_Tree_put 0 = .ok (.aload_n 1, 1) := by decide +kernel
theorem d_Tree_put_1 : decode c_Tree_put 1 = .ok (.getfield 17, 3) := by decide +kernel
theorem d_Tree_put_4 : decode c_Tree_put 4 = .ok (.ifCond .lt 22, 3) := by decide +kernel
theorem d_Tree_put_7 : decode c_Tree_put 7 = .ok (.aload_n 1, 1) := by decide +kernel
theorem d_Tree_put_8 : decode c_Tree_put 8 = .ok (.getfield 17, 3) := by decide +kernel
theorem d_Tree_put_11 : decode c_Tree_put 11 = .ok (.bipush 60, 2) := by decide +kernel
theorem d_Tree_put_13 : decode c_Tree_put 13 = .ok (.if_icmp .ge 13, 3) := by decide +kernel
theorem d_Tree_put_16 : decode c_Tree_put 16 = .ok (.aload_n 0, 1) := by decide +kernel
theorem d_Tree_put_17 : decode c_Tree_put 17 = .ok (.getfield 11, 3) := by decide +kernel
theorem d_Tree_put_20 : decode c_Tree_put 20 = .ok (.aload_n 1, 1) := by decide +kernel
theorem d_Tree_put_21 : decode c_Tree_put 21 = .ok (.getfield 17, 3) := by decide +kernel
theorem d_Tree_put_24 : decode c_Tree_put 24 = .ok (.aload_n 1, 1) := by decide +kernel
theorem d_Tree_put_25 : decode c_Tree_put 25 = .ok (.aastore, 1) := by decide +kernel
theorem d_Tree_put_26 : decode c_Tree_put 26 = .ok (.return_, 1) := by decide +kernel
abbrev c_Tree_drop : ByteArray := prog_12_method_4_code
def y_Tree_drop : MethodName := ⟨"EpochServer$Tree", "drop", "(I)V"⟩
theorem d_Tree_drop_0 : decode c_Tree_drop 0 = .ok (.iload_n 1, 1) := by decide +kernel
theorem d_Tree_drop_1 : decode c_Tree_drop 1 = .ok (.ifCond .lt 16, 3) := by decide +kernel
theorem d_Tree_drop_4 : decode c_Tree_drop 4 = .ok (.iload_n 1, 1) := by decide +kernel
theorem d_Tree_drop_5 : decode c_Tree_drop 5 = .ok (.bipush 60, 2) := by decide +kernel
theorem d_Tree_drop_7 : decode c_Tree_drop 7 = .ok (.if_icmp .ge 10, 3) := by decide +kernel
theorem d_Tree_drop_10 : decode c_Tree_drop 10 = .ok (.aload_n 0, 1) := by decide +kernel
theorem d_Tree_drop_11 : decode c_Tree_drop 11 = .ok (.getfield 11, 3) := by decide +kernel
theorem d_Tree_drop_14 : decode c_Tree_drop 14 = .ok (.iload_n 1, 1) := by decide +kernel
theorem d_Tree_drop_15 : decode c_Tree_drop 15 = .ok (.aconst_null, 1) := by decide +kernel
theorem d_Tree_drop_16 : decode c_Tree_drop 16 = .ok (.aastore, 1) := by decide +kernel
theorem d_Tree_drop_17 : decode c_Tree_drop 17 = .ok (.return_, 1) := by decide +kernel
abbrev c_Tree_takeOver : ByteArray := prog_12_method_5_code
def y_Tree_takeOver : MethodName := ⟨"EpochServer$Tree", "takeOver", "(LEpochServer$Tree;)V"⟩
theorem d_Tree_takeOver_0 : decode c_Tree_takeOver 0 = .ok (.iconst 0, 1) := by decide +kernel
theorem d_Tree_takeOver_1 : decode c_Tree_takeOver 1 = .ok (.istore_n 2, 1) := by decide +kernel
theorem d_Tree_takeOver_2 : decode c_Tree_takeOver 2 = .ok (.iload_n 2, 1) := by decide +kernel
theorem d_Tree_takeOver_3 : decode c_Tree_takeOver 3 = .ok (.bipush 60, 2) := by decide +kernel
theorem d_Tree_takeOver_5 : decode c_Tree_takeOver 5 = .ok (.if_icmp .ge 21, 3) := by decide +kernel
theorem d_Tree_takeOver_8 : decode c_Tree_takeOver 8 = .ok (.aload_n 0, 1) := by decide +kernel
theorem d_Tree_takeOver_9 : decode c_Tree_takeOver 9 = .ok (.getfield 11, 3) := by decide +kernel
theorem d_Tree_takeOver_12 : decode c_Tree_takeOver 12 = .ok (.iload_n 2, 1) := by decide +kernel
theorem d_Tree_takeOver_13 : decode c_Tree_takeOver 13 = .ok (.aload_n 1, 1) := by decide +kernel
theorem d_Tree_takeOver_14 : decode c_Tree_takeOver 14 = .ok (.getfield 11, 3) := by decide +kernel
theorem d_Tree_takeOver_17 : decode c_Tree_takeOver 17 = .ok (.iload_n 2, 1) := by decide +kernel
theorem d_Tree_takeOver_18 : decode c_Tree_takeOver 18 = .ok (.aaload, 1) := by decide +kernel
theorem d_Tree_takeOver_19 : decode c_Tree_takeOver 19 = .ok (.aastore, 1) := by decide +kernel
theorem d_Tree_takeOver_20 : decode c_Tree_takeOver 20 = .ok (.iinc 2 1, 3) := by decide +kernel
theorem d_Tree_takeOver_23 : decode c_Tree_takeOver 23 = .ok (.goto (-21), 3) := by decide +kernel
theorem d_Tree_takeOver_26 : decode c_Tree_takeOver 26 = .ok (.return_, 1) := by decide +kernel
abbrev c_Tree_size : ByteArray := prog_12_method_6_code
def y_Tree_size : MethodName := ⟨"EpochServer$Tree", "size", "()I"⟩
theorem d_Tree_size_0 : decode c_Tree_size 0 = .ok (.iconst 0, 1) := by decide +kernel
theorem d_Tree_size_1 : decode c_Tree_size 1 = .ok (.istore_n 1, 1) := by decide +kernel
theorem d_Tree_size_2 : decode c_Tree_size 2 = .ok (.iconst 0, 1) := by decide +kernel
theorem d_Tree_size_3 : decode c_Tree_size 3 = .ok (.istore_n 2, 1) := by decide +kernel
theorem d_Tree_size_4 : decode c_Tree_size 4 = .ok (.iload_n 2, 1) := by decide +kernel
theorem d_Tree_size_5 : decode c_Tree_size 5 = .ok (.bipush 60, 2) := by decide +kernel
theorem d_Tree_size_7 : decode c_Tree_size 7 = .ok (.if_icmp .ge 26, 3) := by decide +kernel
theorem d_Tree_size_10 : decode c_Tree_size 10 = .ok (.iload_n 1, 1) := by decide +kernel
theorem d_Tree_size_11 : decode c_Tree_size 11 = .ok (.aload_n 0, 1) := by decide +kernel
theorem d_Tree_size_12 : decode c_Tree_size 12 = .ok (.getfield 11, 3) := by decide +kernel
theorem d_Tree_size_15 : decode c_Tree_size 15 = .ok (.iload_n 2, 1) := by decide +kernel
theorem d_Tree_size_16 : decode c_Tree_size 16 = .ok (.aaload, 1) := by decide +kernel
theorem d_Tree_size_17 : decode c_Tree_size 17 = .ok (.ifnonnull 7, 3) := by decide +kernel
theorem d_Tree_size_20 : decode c_Tree_size 20 = .ok (.iconst 0, 1) := by decide +kernel
theorem d_Tree_size_21 : decode c_Tree_size 21 = .ok (.goto 4, 3) := by decide +kernel
theorem d_Tree_size_24 : decode c_Tree_size 24 = .ok (.iconst 1, 1) := by decide +kernel
theorem d_Tree_size_25 : decode c_Tree_size 25 = .ok (.iadd, 1) := by decide +kernel
theorem d_Tree_size_26 : decode c_Tree_size 26 = .ok (.istore_n 1, 1) := by decide +kernel
theorem d_Tree_size_27 : decode c_Tree_size 27 = .ok (.iinc 2 1, 3) := by decide +kernel
theorem d_Tree_size_30 : decode c_Tree_size 30 = .ok (.goto (-26), 3) := by decide +kernel
theorem d_Tree_size_33 : decode c_Tree_size 33 = .ok (.iload_n 1, 1) := by decide +kernel
theorem d_Tree_size_34 : decode c_Tree_size 34 = .ok (.ireturn, 1) := by decide +kernel
abbrev c_Tree_in : ByteArray := prog_12_method_7_code
def y_Tree_in : MethodName := ⟨"EpochServer$Tree", "in", "(II)LEpochServer$Node;"⟩
theorem d_Tree_in_0 : decode c_Tree_in 0 = .ok (.aload_n 0, 1) := by decide +kernel
theorem d_Tree_in_1 : decode c_Tree_in 1 = .ok (.iload_n 2, 1) := by decide +kernel
theorem d_Tree_in_2 : decode c_Tree_in 2 = .ok (.invokevirtual 21, 3) := by decide +kernel
theorem d_Tree_in_5 : decode c_Tree_in 5 = .ok (.astore_n 3, 1) := by decide +kernel
theorem d_Tree_in_6 : decode c_Tree_in 6 = .ok (.aload_n 3, 1) := by decide +kernel
theorem d_Tree_in_7 : decode c_Tree_in 7 = .ok (.ifnull 15, 3) := by decide +kernel
theorem d_Tree_in_10 : decode c_Tree_in 10 = .ok (.iload_n 2, 1) := by decide +kernel
theorem d_Tree_in_11 : decode c_Tree_in 11 = .ok (.ifCond .eq 11, 3) := by decide +kernel
theorem d_Tree_in_14 : decode c_Tree_in 14 = .ok (.aload_n 3, 1) := by decide +kernel
theorem d_Tree_in_15 : decode c_Tree_in 15 = .ok (.getfield 25, 3) := by decide +kernel
theorem d_Tree_in_18 : decode c_Tree_in 18 = .ok (.iload_n 1, 1) := by decide +kernel
theorem d_Tree_in_19 : decode c_Tree_in 19 = .ok (.if_icmp .eq 7, 3) := by decide +kernel
theorem d_Tree_in_22 : decode c_Tree_in 22 = .ok (.aconst_null, 1) := by decide +kernel
theorem d_Tree_in_23 : decode c_Tree_in 23 = .ok (.goto 4, 3) := by decide +kernel
theorem d_Tree_in_26 : decode c_Tree_in 26 = .ok (.aload_n 3, 1) := by decide +kernel
theorem d_Tree_in_27 : decode c_Tree_in 27 = .ok (.areturn, 1) := by decide +kernel
abbrev c_Tree_nextIn : ByteArray := prog_12_method_8_code
def y_Tree_nextIn : MethodName := ⟨"EpochServer$Tree", "nextIn", "(II)LEpochServer$Node;"⟩
theorem d_Tree_nextIn_0 : decode c_Tree_nextIn 0 = .ok (.iload_n 2, 1) := by decide +kernel
theorem d_Tree_nextIn_1 : decode c_Tree_nextIn 1 = .ok (.iconst 1, 1) := by decide +kernel
theorem d_Tree_nextIn_2 : decode c_Tree_nextIn 2 = .ok (.iadd, 1) := by decide +kernel
theorem d_Tree_nextIn_3 : decode c_Tree_nextIn 3 = .ok (.istore_n 3, 1) := by decide +kernel
theorem d_Tree_nextIn_4 : decode c_Tree_nextIn 4 = .ok (.iload_n 3, 1) := by decide +kernel
theorem d_Tree_nextIn_5 : decode c_Tree_nextIn 5 = .ok (.bipush 60, 2) := by decide +kernel
theorem d_Tree_nextIn_7 : decode c_Tree_nextIn 7 = .ok (.if_icmp .ge 25, 3) := by decide +kernel
theorem d_Tree_nextIn_10 : decode c_Tree_nextIn 10 = .ok (.aload_n 0, 1) := by decide +kernel
theorem d_Tree_nextIn_11 : decode c_Tree_nextIn 11 = .ok (.iload_n 1, 1) := by decide +kernel
theorem d_Tree_nextIn_12 : decode c_Tree_nextIn 12 = .ok (.iload_n 3, 1) := by decide +kernel
theorem d_Tree_nextIn_13 : decode c_Tree_nextIn 13 = .ok (.invokevirtual 28, 3) := by decide +kernel
theorem d_Tree_nextIn_16 : decode c_Tree_nextIn 16 = .ok (.astore 4, 2) := by decide +kernel
theorem d_Tree_nextIn_18 : decode c_Tree_nextIn 18 = .ok (.aload 4, 2) := by decide +kernel
theorem d_Tree_nextIn_20 : decode c_Tree_nextIn 20 = .ok (.ifnull 6, 3) := by decide +kernel
theorem d_Tree_nextIn_23 : decode c_Tree_nextIn 23 = .ok (.aload 4, 2) := by decide +kernel
theorem d_Tree_nextIn_25 : decode c_Tree_nextIn 25 = .ok (.areturn, 1) := by decide +kernel
theorem d_Tree_nextIn_26 : decode c_Tree_nextIn 26 = .ok (.iinc 3 1, 3) := by decide +kernel
theorem d_Tree_nextIn_29 : decode c_Tree_nextIn 29 = .ok (.goto (-25), 3) := by decide +kernel
theorem d_Tree_nextIn_32 : decode c_Tree_nextIn 32 = .ok (.aconst_null, 1) := by decide +kernel
theorem d_Tree_nextIn_33 : decode c_Tree_nextIn 33 = .ok (.areturn, 1) := by decide +kernel
abbrev c_Tree_listInnermostFirst : ByteArray := prog_12_method_9_code
def y_Tree_listInnermostFirst : MethodName := ⟨"EpochServer$Tree", "listInnermostFirst", "([I)I"⟩
theorem d_Tree_listInnermostFirst_0 : decode c_Tree_listInnermostFirst 0 = .ok (.iconst 0, 1) := by decide +kernel
theorem d_Tree_listInnermostFirst_1 : decode c_Tree_listInnermostFirst 1 = .ok (.istore_n 2, 1) := by decide +kernel
theorem d_Tree_listInnermostFirst_2 : decode c_Tree_listInnermostFirst 2 = .ok (.iconst 0, 1) := by decide +kernel
theorem d_Tree_listInnermostFirst_3 : decode c_Tree_listInnermostFirst 3 = .ok (.istore_n 3, 1) := by decide +kernel
theorem d_Tree_listInnermostFirst_4 : decode c_Tree_listInnermostFirst 4 = .ok (.aload_n 0, 1) := by decide +kernel
theorem d_Tree_listInnermostFirst_5 : decode c_Tree_listInnermostFirst 5 = .ok (.iconst 0, 1) := by decide +kernel
theorem d_Tree_listInnermostFirst_6 : decode c_Tree_listInnermostFirst 6 = .ok (.invokevirtual 21, 3) := by decide +kernel
theorem d_Tree_listInnermostFirst_9 : decode c_Tree_listInnermostFirst 9 = .ok (.astore 4, 2) := by decide +kernel
theorem d_Tree_listInnermostFirst_11 : decode c_Tree_listInnermostFirst 11 = .ok (.iconst 0, 1) := by decide +kernel
theorem d_Tree_listInnermostFirst_12 : decode c_Tree_listInnermostFirst 12 = .ok (.istore 5, 2) := by decide +kernel
theorem d_Tree_listInnermostFirst_14 : decode c_Tree_listInnermostFirst 14 = .ok (.iload 5, 2) := by decide +kernel
theorem d_Tree_listInnermostFirst_16 : decode c_Tree_listInnermostFirst 16 = .ok (.bipush 120, 2) := by decide +kernel
theorem d_Tree_listInnermostFirst_18 : decode c_Tree_listInnermostFirst 18 = .ok (.if_icmp .ge 110, 3) := by decide +kernel
theorem d_Tree_listInnermostFirst_21 : decode c_Tree_listInnermostFirst 21 = .ok (.aload 4, 2) := by decide +kernel
theorem d_Tree_listInnermostFirst_23 : decode c_Tree_listInnermostFirst 23 = .ok (.ifnull 105, 3) := by decide +kernel
theorem d_Tree_listInnermostFirst_26 : decode c_Tree_listInnermostFirst 26 = .ok (.aload_n 0, 1) := by decide +kernel
theorem d_Tree_listInnermostFirst_27 : decode c_Tree_listInnermostFirst 27 = .ok (.aload 4, 2) := by decide +kernel
theorem d_Tree_listInnermostFirst_29 : decode c_Tree_listInnermostFirst 29 = .ok (.getfield 17, 3) := by decide +kernel
theorem d_Tree_listInnermostFirst_32 : decode c_Tree_listInnermostFirst 32 = .ok (.iload_n 3, 1) := by decide +kernel
theorem d_Tree_listInnermostFirst_33 : decode c_Tree_listInnermostFirst 33 = .ok (.invokevirtual 32, 3) := by decide +kernel
theorem d_Tree_listInnermostFirst_36 : decode c_Tree_listInnermostFirst 36 = .ok (.astore 6, 2) := by decide +kernel
theorem d_Tree_listInnermostFirst_38 : decode c_Tree_listInnermostFirst 38 = .ok (.aload 6, 2) := by decide +kernel
theorem d_Tree_listInnermostFirst_40 : decode c_Tree_listInnermostFirst 40 = .ok (.ifnull 20, 3) := by decide +kernel
theorem d_Tree_listInnermostFirst_43 : decode c_Tree_listInnermostFirst 43 = .ok (.aload 6, 2) := by decide +kernel
theorem d_Tree_listInnermostFirst_45 : decode c_Tree_listInnermostFirst 45 = .ok (.invokevirtual 35, 3) := by decide +kernel
theorem d_Tree_listInnermostFirst_48 : decode c_Tree_listInnermostFirst 48 = .ok (.ifCond .eq 12, 3) := by decide +kernel
theorem d_Tree_listInnermostFirst_51 : decode c_Tree_listInnermostFirst 51 = .ok (.aload 6, 2) := by decide +kernel
theorem d_Tree_listInnermostFirst_53 : decode c_Tree_listInnermostFirst 53 = .ok (.astore 4, 2) := by decide +kernel
theorem d_Tree_listInnermostFirst_55 : decode c_Tree_listInnermostFirst 55 = .ok (.iconst 0, 1) := by decide +kernel
theorem d_Tree_listInnermostFirst_56 : decode c_Tree_listInnermostFirst 56 = .ok (.istore_n 3, 1) := by decide +kernel
theorem d_Tree_listInnermostFirst_57 : decode c_Tree_listInnermostFirst 57 = .ok (.goto 65, 3) := by decide +kernel
theorem d_Tree_listInnermostFirst_60 : decode c_Tree_listInnermostFirst 60 = .ok (.aload 6, 2) := by decide +kernel
theorem d_Tree_listInnermostFirst_62 : decode c_Tree_listInnermostFirst 62 = .ok (.ifnonnull 11, 3) := by decide +kernel
theorem d_Tree_listInnermostFirst_65 : decode c_Tree_listInnermostFirst 65 = .ok (.aload 4, 2) := by decide +kernel
theorem d_Tree_listInnermostFirst_67 : decode c_Tree_listInnermostFirst 67 = .ok (.getfield 17, 3) := by decide +kernel
theorem d_Tree_listInnermostFirst_70 : decode c_Tree_listInnermostFirst 70 = .ok (.goto 8, 3) := by decide +kernel
theorem d_Tree_listInnermostFirst_73 : decode c_Tree_listInnermostFirst 73 = .ok (.aload 6, 2) := by decide +kernel
theorem d_Tree_listInnermostFirst_75 : decode c_Tree_listInnermostFirst 75 = .ok (.getfield 17, 3) := by decide +kernel
theorem d_Tree_listInnermostFirst_78 : decode c_Tree_listInnermostFirst 78 = .ok (.istore 7, 2) := by decide +kernel
theorem d_Tree_listInnermostFirst_80 : decode c_Tree_listInnermostFirst 80 = .ok (.iload_n 2, 1) := by decide +kernel
theorem d_Tree_listInnermostFirst_81 : decode c_Tree_listInnermostFirst 81 = .ok (.aload_n 1, 1) := by decide +kernel
theorem d_Tree_listInnermostFirst_82 : decode c_Tree_listInnermostFirst 82 = .ok (.arraylength, 1) := by decide +kernel
theorem d_Tree_listInnermostFirst_83 : decode c_Tree_listInnermostFirst 83 = .ok (.if_icmp .ge 11, 3) := by decide +kernel
theorem d_Tree_listInnermostFirst_86 : decode c_Tree_listInnermostFirst 86 = .ok (.aload_n 1, 1) := by decide +kernel
theorem d_Tree_listInnermostFirst_87 : decode c_Tree_listInnermostFirst 87 = .ok (.iload_n 2, 1) := by decide +kernel
theorem d_Tree_listInnermostFirst_88 : decode c_Tree_listInnermostFirst 88 = .ok (.iload 7, 2) := by decide +kernel
theorem d_Tree_listInnermostFirst_90 : decode c_Tree_listInnermostFirst 90 = .ok (.iastore, 1) := by decide +kernel
theorem d_Tree_listInnermostFirst_91 : decode c_Tree_listInnermostFirst 91 = .ok (.iinc 2 1, 3) := by decide +kernel
theorem d_Tree_listInnermostFirst_94 : decode c_Tree_listInnermostFirst 94 = .ok (.aload 6, 2) := by decide +kernel
theorem d_Tree_listInnermostFirst_96 : decode c_Tree_listInnermostFirst 96 = .ok (.ifnonnull 23, 3) := by decide +kernel
theorem d_Tree_listInnermostFirst_99 : decode c_Tree_listInnermostFirst 99 = .ok (.iload 7, 2) := by decide +kernel
theorem d_Tree_listInnermostFirst_101 : decode c_Tree_listInnermostFirst 101 = .ok (.ifCond .ne 7, 3) := by decide +kernel
theorem d_Tree_listInnermostFirst_104 : decode c_Tree_listInnermostFirst 104 = .ok (.aconst_null, 1) := by decide +kernel
theorem d_Tree_listInnermostFirst_105 : decode c_Tree_listInnermostFirst 105 = .ok (.goto 12, 3) := by decide +kernel
theorem d_Tree_listInnermostFirst_108 : decode c_Tree_listInnermostFirst 108 = .ok (.aload_n 0, 1) := by decide +kernel
theorem d_Tree_listInnermostFirst_109 : decode c_Tree_listInnermostFirst 109 = .ok (.aload 4, 2) := by decide +kernel
theorem d_Tree_listInnermostFirst_111 : decode c_Tree_listInnermostFirst 111 = .ok (.getfield 25, 3) := by decide +kernel
theorem d_Tree_listInnermostFirst_114 : decode c_Tree_listInnermostFirst 114 = .ok (.invokevirtual 21, 3) := by decide +kernel
theorem d_Tree_listInnermostFirst_117 : decode c_Tree_listInnermostFirst 117 = .ok (.astore 4, 2) := by decide +kernel
theorem d_Tree_listInnermostFirst_119 : decode c_Tree_listInnermostFirst 119 = .ok (.iload 7, 2) := by decide +kernel
theorem d_Tree_listInnermostFirst_121 : decode c_Tree_listInnermostFirst 121 = .ok (.istore_n 3, 1) := by decide +kernel
theorem d_Tree_listInnermostFirst_122 : decode c_Tree_listInnermostFirst 122 = .ok (.iinc 5 1, 3) := by decide +kernel
theorem d_Tree_listInnermostFirst_125 : decode c_Tree_listInnermostFirst 125 = .ok (.goto (-111), 3) := by decide +kernel
theorem d_Tree_listInnermostFirst_128 : decode c_Tree_listInnermostFirst 128 = .ok (.iload_n 2, 1) := by decide +kernel
theorem d_Tree_listInnermostFirst_129 : decode c_Tree_listInnermostFirst 129 = .ok (.ireturn, 1) := by decide +kernel
abbrev c_Tree_sizeOf : ByteArray := prog_12_method_10_code
def y_Tree_sizeOf : MethodName := ⟨"EpochServer$Tree", "sizeOf", "(I)I"⟩
theorem d_Tree_sizeOf_0 : decode c_Tree_sizeOf 0 = .ok (.iconst 0, 1) := by decide +kernel
theorem d_Tree_sizeOf_1 : decode c_Tree_sizeOf 1 = .ok (.istore_n 2, 1) := by decide +kernel
theorem d_Tree_sizeOf_2 : decode c_Tree_sizeOf 2 = .ok (.iconst 0, 1) := by decide +kernel
theorem d_Tree_sizeOf_3 : decode c_Tree_sizeOf 3 = .ok (.istore_n 3, 1) := by decide +kernel
theorem d_Tree_sizeOf_4 : decode c_Tree_sizeOf 4 = .ok (.iload_n 3, 1) := by decide +kernel
theorem d_Tree_sizeOf_5 : decode c_Tree_sizeOf 5 = .ok (.bipush 60, 2) := by decide +kernel
theorem d_Tree_sizeOf_7 : decode c_Tree_sizeOf 7 = .ok (.if_icmp .ge 26, 3) := by decide +kernel
theorem d_Tree_sizeOf_10 : decode c_Tree_sizeOf 10 = .ok (.iload_n 2, 1) := by decide +kernel
theorem d_Tree_sizeOf_11 : decode c_Tree_sizeOf 11 = .ok (.aload_n 0, 1) := by decide +kernel
theorem d_Tree_sizeOf_12 : decode c_Tree_sizeOf 12 = .ok (.iload_n 1, 1) := by decide +kernel
theorem d_Tree_sizeOf_13 : decode c_Tree_sizeOf 13 = .ok (.iload_n 3, 1) := by decide +kernel
theorem d_Tree_sizeOf_14 : decode c_Tree_sizeOf 14 = .ok (.invokevirtual 28, 3) := by decide +kernel
theorem d_Tree_sizeOf_17 : decode c_Tree_sizeOf 17 = .ok (.ifnonnull 7, 3) := by decide +kernel
theorem d_Tree_sizeOf_20 : decode c_Tree_sizeOf 20 = .ok (.iconst 0, 1) := by decide +kernel
theorem d_Tree_sizeOf_21 : decode c_Tree_sizeOf 21 = .ok (.goto 4, 3) := by decide +kernel
theorem d_Tree_sizeOf_24 : decode c_Tree_sizeOf 24 = .ok (.iconst 1, 1) := by decide +kernel
theorem d_Tree_sizeOf_25 : decode c_Tree_sizeOf 25 = .ok (.iadd, 1) := by decide +kernel
theorem d_Tree_sizeOf_26 : decode c_Tree_sizeOf 26 = .ok (.istore_n 2, 1) := by decide +kernel
theorem d_Tree_sizeOf_27 : decode c_Tree_sizeOf 27 = .ok (.iinc 3 1, 3) := by decide +kernel
theorem d_Tree_sizeOf_30 : decode c_Tree_sizeOf 30 = .ok (.goto (-26), 3) := by decide +kernel
theorem d_Tree_sizeOf_33 : decode c_Tree_sizeOf 33 = .ok (.iload_n 2, 1) := by decide +kernel
theorem d_Tree_sizeOf_34 : decode c_Tree_sizeOf 34 = .ok (.ireturn, 1) := by decide +kernel
abbrev c_Tree_named : ByteArray := prog_12_method_11_code
def y_Tree_named : MethodName := ⟨"EpochServer$Tree", "named", "(ILEpochServer$Request;)LEpochServer$Node;"⟩
theorem d_Tree_named_0 : decode c_Tree_named 0 = .ok (.iconst 0, 1) := by decide +kernel
theorem d_Tree_named_1 : decode c_Tree_named 1 = .ok (.istore_n 3, 1) := by decide +kernel
theorem d_Tree_named_2 : decode c_Tree_named 2 = .ok (.iload_n 3, 1) := by decide +kernel
theorem d_Tree_named_3 : decode c_Tree_named 3 = .ok (.bipush 60, 2) := by decide +kernel
theorem d_Tree_named_5 : decode c_Tree_named 5 = .ok (.if_icmp .ge 50, 3) := by decide +kernel
theorem d_Tree_named_8 : decode c_Tree_named 8 = .ok (.aload_n 0, 1) := by decide +kernel
theorem d_Tree_named_9 : decode c_Tree_named 9 = .ok (.iload_n 1, 1) := by decide +kernel
theorem d_Tree_named_10 : decode c_Tree_named 10 = .ok (.iload_n 3, 1) := by decide +kernel
theorem d_Tree_named_11 : decode c_Tree_named 11 = .ok (.invokevirtual 28, 3) := by decide +kernel
theorem d_Tree_named_14 : decode c_Tree_named 14 = .ok (.astore 4, 2) := by decide +kernel
theorem d_Tree_named_16 : decode c_Tree_named 16 = .ok (.aload 4, 2) := by decide +kernel
theorem d_Tree_named_18 : decode c_Tree_named 18 = .ok (.ifnull 31, 3) := by decide +kernel
theorem d_Tree_named_21 : decode c_Tree_named 21 = .ok (.aload 4, 2) := by decide +kernel
theorem d_Tree_named_23 : decode c_Tree_named 23 = .ok (.getfield 39, 3) := by decide +kernel
theorem d_Tree_named_26 : decode c_Tree_named 26 = .ok (.arraylength, 1) := by decide +kernel
theorem d_Tree_named_27 : decode c_Tree_named 27 = .ok (.aload_n 2, 1) := by decide +kernel
theorem d_Tree_named_28 : decode c_Tree_named 28 = .ok (.getfield 43, 3) := by decide +kernel
theorem d_Tree_named_31 : decode c_Tree_named 31 = .ok (.if_icmp .ne 18, 3) := by decide +kernel
theorem d_Tree_named_34 : decode c_Tree_named 34 = .ok (.aload_n 2, 1) := by decide +kernel
theorem d_Tree_named_35 : decode c_Tree_named 35 = .ok (.aload 4, 2) := by decide +kernel
theorem d_Tree_named_37 : decode c_Tree_named 37 = .ok (.getfield 39, 3) := by decide +kernel
theorem d_Tree_named_40 : decode c_Tree_named 40 = .ok (.invokevirtual 48, 3) := by decide +kernel
theorem d_Tree_named_43 : decode c_Tree_named 43 = .ok (.ifCond .eq 6, 3) := by decide +kernel
theorem d_Tree_named_46 : decode c_Tree_named 46 = .ok (.aload 4, 2) := by decide +kernel
theorem d_Tree_named_48 : decode c_Tree_named 48 = .ok (.areturn, 1) := by decide +kernel
theorem d_Tree_named_49 : decode c_Tree_named 49 = .ok (.iinc 3 1, 3) := by decide +kernel
theorem d_Tree_named_52 : decode c_Tree_named 52 = .ok (.goto (-50), 3) := by decide +kernel
theorem d_Tree_named_55 : decode c_Tree_named 55 = .ok (.aconst_null, 1) := by decide +kernel
theorem d_Tree_named_56 : decode c_Tree_named 56 = .ok (.areturn, 1) := by decide +kernel
