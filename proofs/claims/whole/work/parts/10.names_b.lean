abbrev c_Server_init : ByteArray := prog_1_method_1_code
def y_Server_init : MethodName := ⟨"EpochServer", "<init>", "()V"⟩
theorem d_Server_init_0 : decode c_Server_init 0 = .ok (.aload_n 0, 1) := by decide +kernel
theorem d_Server_init_1 : decode c_Server_init 1 = .ok (.invokespecial 1, 3) := by decide +kernel
theorem d_Server_init_4 : decode c_Server_init 4 = .ok (.aload_n 0, 1) := by decide +kernel
theorem d_Server_init_5 : decode c_Server_init 5 = .ok (.new 7, 3) := by decide +kernel
theorem d_Server_init_8 : decode c_Server_init 8 = .ok (.dup, 1) := by decide +kernel
theorem d_Server_init_9 : decode c_Server_init 9 = .ok (.sipush 1400, 3) := by decide +kernel
theorem d_Server_init_12 : decode c_Server_init 12 = .ok (.invokespecial 11, 3) := by decide +kernel
theorem d_Server_init_15 : decode c_Server_init 15 = .ok (.putfield 14, 3) := by decide +kernel
theorem d_Server_init_18 : decode c_Server_init 18 = .ok (.aload_n 0, 1) := by decide +kernel
theorem d_Server_init_19 : decode c_Server_init 19 = .ok (.new 7, 3) := by decide +kernel
theorem d_Server_init_22 : decode c_Server_init 22 = .ok (.dup, 1) := by decide +kernel
theorem d_Server_init_23 : decode c_Server_init 23 = .ok (.sipush 1000, 3) := by decide +kernel
theorem d_Server_init_26 : decode c_Server_init 26 = .ok (.invokespecial 11, 3) := by decide +kernel
theorem d_Server_init_29 : decode c_Server_init 29 = .ok (.putfield 18, 3) := by decide +kernel
theorem d_Server_init_32 : decode c_Server_init 32 = .ok (.aload_n 0, 1) := by decide +kernel
theorem d_Server_init_33 : decode c_Server_init 33 = .ok (.new 21, 3) := by decide +kernel
theorem d_Server_init_36 : decode c_Server_init 36 = .ok (.dup, 1) := by decide +kernel
theorem d_Server_init_37 : decode c_Server_init 37 = .ok (.aload_n 0, 1) := by decide +kernel
theorem d_Server_init_38 : decode c_Server_init 38 = .ok (.getfield 14, 3) := by decide +kernel
theorem d_Server_init_41 : decode c_Server_init 41 = .ok (.invokespecial 23, 3) := by decide +kernel
theorem d_Server_init_44 : decode c_Server_init 44 = .ok (.putfield 26, 3) := by decide +kernel
theorem d_Server_init_47 : decode c_Server_init 47 = .ok (.aload_n 0, 1) := by decide +kernel
theorem d_Server_init_48 : decode c_Server_init 48 = .ok (.new 30, 3) := by decide +kernel
theorem d_Server_init_51 : decode c_Server_init 51 = .ok (.dup, 1) := by decide +kernel
theorem d_Server_init_52 : decode c_Server_init 52 = .ok (.invokespecial 32, 3) := by decide +kernel
theorem d_Server_init_55 : decode c_Server_init 55 = .ok (.putfield 33, 3) := by decide +kernel
theorem d_Server_init_58 : decode c_Server_init 58 = .ok (.aload_n 0, 1) := by decide +kernel
theorem d_Server_init_59 : decode c_Server_init 59 = .ok (.new 37, 3) := by decide +kernel
theorem d_Server_init_62 : decode c_Server_init 62 = .ok (.dup, 1) := by decide +kernel
theorem d_Server_init_63 : decode c_Server_init 63 = .ok (.invokespecial 39, 3) := by decide +kernel
theorem d_Server_init_66 : decode c_Server_init 66 = .ok (.putfield 40, 3) := by decide +kernel
theorem d_Server_init_69 : decode c_Server_init 69 = .ok (.aload_n 0, 1) := by decide +kernel
theorem d_Server_init_70 : decode c_Server_init 70 = .ok (.new 44, 3) := by decide +kernel
theorem d_Server_init_73 : decode c_Server_init 73 = .ok (.dup, 1) := by decide +kernel
theorem d_Server_init_74 : decode c_Server_init 74 = .ok (.invokespecial 46, 3) := by decide +kernel
theorem d_Server_init_77 : decode c_Server_init 77 = .ok (.putfield 47, 3) := by decide +kernel
theorem d_Server_init_80 : decode c_Server_init 80 = .ok (.aload_n 0, 1) := by decide +kernel
theorem d_Server_init_81 : decode c_Server_init 81 = .ok (.new 51, 3) := by decide +kernel
theorem d_Server_init_84 : decode c_Server_init 84 = .ok (.dup, 1) := by decide +kernel
theorem d_Server_init_85 : decode c_Server_init 85 = .ok (.invokespecial 53, 3) := by decide +kernel
theorem d_Server_init_88 : decode c_Server_init 88 = .ok (.putfield 54, 3) := by decide +kernel
theorem d_Server_init_91 : decode c_Server_init 91 = .ok (.aload_n 0, 1) := by decide +kernel
theorem d_Server_init_92 : decode c_Server_init 92 = .ok (.new 58, 3) := by decide +kernel
theorem d_Server_init_95 : decode c_Server_init 95 = .ok (.dup, 1) := by decide +kernel
theorem d_Server_init_96 : decode c_Server_init 96 = .ok (.invokespecial 60, 3) := by decide +kernel
theorem d_Server_init_99 : decode c_Server_init 99 = .ok (.putfield 61, 3) := by decide +kernel
theorem d_Server_init_102 : decode c_Server_init 102 = .ok (.aload_n 0, 1) := by decide +kernel
theorem d_Server_init_103 : decode c_Server_init 103 = .ok (.iconst 1, 1) := by decide +kernel
theorem d_Server_init_104 : decode c_Server_init 104 = .ok (.putfield 65, 3) := by decide +kernel
theorem d_Server_init_107 : decode c_Server_init 107 = .ok (.aload_n 0, 1) := by decide +kernel
theorem d_Server_init_108 : decode c_Server_init 108 = .ok (.iconst 0, 1) := by decide +kernel
theorem d_Server_init_109 : decode c_Server_init 109 = .ok (.putfield 69, 3) := by decide +kernel
theorem d_Server_init_112 : decode c_Server_init 112 = .ok (.aload_n 0, 1) := by decide +kernel
theorem d_Server_init_113 : decode c_Server_init 113 = .ok (.iconst 0, 1) := by decide +kernel
theorem d_Server_init_114 : decode c_Server_init 114 = .ok (.putfield 72, 3) := by decide +kernel
theorem d_Server_init_117 : decode c_Server_init 117 = .ok (.aload_n 0, 1) := by decide +kernel
theorem d_Server_init_118 : decode c_Server_init 118 = .ok (.iconst 0, 1) := by decide +kernel
theorem d_Server_init_119 : decode c_Server_init 119 = .ok (.putfield 75, 3) := by decide +kernel
theorem d_Server_init_122 : decode c_Server_init 122 = .ok (.aload_n 0, 1) := by decide +kernel
theorem d_Server_init_123 : decode c_Server_init 123 = .ok (.iconst 0, 1) := by decide +kernel
theorem d_Server_init_124 : decode c_Server_init 124 = .ok (.putfield 78, 3) := by decide +kernel
theorem d_Server_init_127 : decode c_Server_init 127 = .ok (.aload_n 0, 1) := by decide +kernel
theorem d_Server_init_128 : decode c_Server_init 128 = .ok (.getfield 40, 3) := by decide +kernel
theorem d_Server_init_131 : decode c_Server_init 131 = .ok (.new 81, 3) := by decide +kernel
theorem d_Server_init_134 : decode c_Server_init 134 = .ok (.dup, 1) := by decide +kernel
theorem d_Server_init_135 : decode c_Server_init 135 = .ok (.iconst 0, 1) := by decide +kernel
theorem d_Server_init_136 : decode c_Server_init 136 = .ok (.iconst 0, 1) := by decide +kernel
theorem d_Server_init_137 : decode c_Server_init 137 = .ok (.getstatic 83, 3) := by decide +kernel
theorem d_Server_init_140 : decode c_Server_init 140 = .ok (.ldc 87, 2) := by decide +kernel
theorem d_Server_init_142 : decode c_Server_init 142 = .ok (.iconst 0, 1) := by decide +kernel
theorem d_Server_init_143 : decode c_Server_init 143 = .ok (.iconst 0, 1) := by decide +kernel
theorem d_Server_init_144 : decode c_Server_init 144 = .ok (.getstatic 88, 3) := by decide +kernel
theorem d_Server_init_147 : decode c_Server_init 147 = .ok (.invokespecial 91, 3) := by decide +kernel
theorem d_Server_init_150 : decode c_Server_init 150 = .ok (.invokevirtual 94, 3) := by decide +kernel
theorem d_Server_init_153 : decode c_Server_init 153 = .ok (.return_, 1) := by decide +kernel
abbrev c_Server_feed : ByteArray := prog_1_method_2_code
def y_Server_feed : MethodName := ⟨"EpochServer", "feed", "(IIIII)I"⟩
theorem d_Server_feed_0 : decode c_Server_feed 0 = .ok (.aload_n 0, 1) := by decide +kernel
theorem d_Server_feed_1 : decode c_Server_feed 1 = .ok (.getfield 14, 3) := by decide +kernel
theorem d_Server_feed_4 : decode c_Server_feed 4 = .ok (.invokevirtual 98, 3) := by decide +kernel
theorem d_Server_feed_7 : decode c_Server_feed 7 = .ok (.bipush 20, 2) := by decide +kernel
theorem d_Server_feed_9 : decode c_Server_feed 9 = .ok (.if_icmp .ge 5, 3) := by decide +kernel
theorem d_Server_feed_12 : decode c_Server_feed 12 = .ok (.iconst (-1), 1) := by decide +kernel
theorem d_Server_feed_13 : decode c_Server_feed 13 = .ok (.ireturn, 1) := by decide +kernel
theorem d_Server_feed_14 : decode c_Server_feed 14 = .ok (.aload_n 0, 1) := by decide +kernel
theorem d_Server_feed_15 : decode c_Server_feed 15 = .ok (.getfield 14, 3) := by decide +kernel
theorem d_Server_feed_18 : decode c_Server_feed 18 = .ok (.iload_n 1, 1) := by decide +kernel
theorem d_Server_feed_19 : decode c_Server_feed 19 = .ok (.invokevirtual 102, 3) := by decide +kernel
theorem d_Server_feed_22 : decode c_Server_feed 22 = .ok (.aload_n 0, 1) := by decide +kernel
theorem d_Server_feed_23 : decode c_Server_feed 23 = .ok (.getfield 14, 3) := by decide +kernel
theorem d_Server_feed_26 : decode c_Server_feed 26 = .ok (.iload_n 2, 1) := by decide +kernel
theorem d_Server_feed_27 : decode c_Server_feed 27 = .ok (.invokevirtual 102, 3) := by decide +kernel
theorem d_Server_feed_30 : decode c_Server_feed 30 = .ok (.aload_n 0, 1) := by decide +kernel
theorem d_Server_feed_31 : decode c_Server_feed 31 = .ok (.getfield 14, 3) := by decide +kernel
theorem d_Server_feed_34 : decode c_Server_feed 34 = .ok (.iload_n 3, 1) := by decide +kernel
theorem d_Server_feed_35 : decode c_Server_feed 35 = .ok (.invokevirtual 102, 3) := by decide +kernel
theorem d_Server_feed_38 : decode c_Server_feed 38 = .ok (.aload_n 0, 1) := by decide +kernel
theorem d_Server_feed_39 : decode c_Server_feed 39 = .ok (.getfield 14, 3) := by decide +kernel
theorem d_Server_feed_42 : decode c_Server_feed 42 = .ok (.iload 4, 2) := by decide +kernel
theorem d_Server_feed_44 : decode c_Server_feed 44 = .ok (.invokevirtual 102, 3) := by decide +kernel
theorem d_Server_feed_47 : decode c_Server_feed 47 = .ok (.aload_n 0, 1) := by decide +kernel
theorem d_Server_feed_48 : decode c_Server_feed 48 = .ok (.getfield 14, 3) := by decide +kernel
theorem d_Server_feed_51 : decode c_Server_feed 51 = .ok (.iload 5, 2) := by decide +kernel
theorem d_Server_feed_53 : decode c_Server_feed 53 = .ok (.invokevirtual 102, 3) := by decide +kernel
theorem d_Server_feed_56 : decode c_Server_feed 56 = .ok (.aload_n 0, 1) := by decide +kernel
theorem d_Server_feed_57 : decode c_Server_feed 57 = .ok (.getfield 14, 3) := by decide +kernel
theorem d_Server_feed_60 : decode c_Server_feed 60 = .ok (.invokevirtual 105, 3) := by decide +kernel
theorem d_Server_feed_63 : decode c_Server_feed 63 = .ok (.ireturn, 1) := by decide +kernel
abbrev c_Server_bend : ByteArray := prog_1_method_3_code
def y_Server_bend : MethodName := ⟨"EpochServer", "bend", "(II)I"⟩
theorem d_Server_bend_0 : decode c_Server_bend 0 = .ok (.aload_n 0, 1) := by decide +kernel
theorem d_Server_bend_1 : decode c_Server_bend 1 = .ok (.getfield 14, 3) := by decide +kernel
theorem d_Server_bend_4 : decode c_Server_bend 4 = .ok (.iload_n 1, 1) := by decide +kernel
theorem d_Server_bend_5 : decode c_Server_bend 5 = .ok (.invokevirtual 108, 3) := by decide +kernel
theorem d_Server_bend_8 : decode c_Server_bend 8 = .ok (.istore_n 3, 1) := by decide +kernel
theorem d_Server_bend_9 : decode c_Server_bend 9 = .ok (.aload_n 0, 1) := by decide +kernel
theorem d_Server_bend_10 : decode c_Server_bend 10 = .ok (.getfield 14, 3) := by decide +kernel
theorem d_Server_bend_13 : decode c_Server_bend 13 = .ok (.iload_n 1, 1) := by decide +kernel
theorem d_Server_bend_14 : decode c_Server_bend 14 = .ok (.iload_n 2, 1) := by decide +kernel
theorem d_Server_bend_15 : decode c_Server_bend 15 = .ok (.iconst 1, 1) := by decide +kernel
theorem d_Server_bend_16 : decode c_Server_bend 16 = .ok (.invokevirtual 112, 3) := by decide +kernel
theorem d_Server_bend_19 : decode c_Server_bend 19 = .ok (.iload_n 3, 1) := by decide +kernel
theorem d_Server_bend_20 : decode c_Server_bend 20 = .ok (.ireturn, 1) := by decide +kernel
abbrev c_Server_message : ByteArray := prog_1_method_4_code
def y_Server_message : MethodName := ⟨"EpochServer", "message", "(I)I"⟩
theorem d_Server_message_0 : decode c_Server_message 0 = .ok (.iload_n 1, 1) := by decide +kernel
theorem d_Server_message_1 : decode c_Server_message 1 = .ok (.ifCond .lt 14, 3) := by decide +kernel
theorem d_Server_message_4 : decode c_Server_message 4 = .ok (.iload_n 1, 1) := by decide +kernel
theorem d_Server_message_5 : decode c_Server_message 5 = .ok (.aload_n 0, 1) := by decide +kernel
theorem d_Server_message_6 : decode c_Server_message 6 = .ok (.getfield 14, 3) := by decide +kernel
theorem d_Server_message_9 : decode c_Server_message 9 = .ok (.invokevirtual 105, 3) := by decide +kernel
theorem d_Server_message_12 : decode c_Server_message 12 = .ok (.if_icmp .le 6, 3) := by decide +kernel
theorem d_Server_message_15 : decode c_Server_message 15 = .ok (.bipush (-2), 2) := by decide +kernel
theorem d_Server_message_17 : decode c_Server_message 17 = .ok (.ireturn, 1) := by decide +kernel
theorem d_Server_message_18 : decode c_Server_message 18 = .ok (.aload_n 0, 1) := by decide +kernel
theorem d_Server_message_19 : decode c_Server_message 19 = .ok (.getfield 26, 3) := by decide +kernel
theorem d_Server_message_22 : decode c_Server_message 22 = .ok (.iload_n 1, 1) := by decide +kernel
theorem d_Server_message_23 : decode c_Server_message 23 = .ok (.invokevirtual 116, 3) := by decide +kernel
theorem d_Server_message_26 : decode c_Server_message 26 = .ok (.istore_n 2, 1) := by decide +kernel
theorem d_Server_message_27 : decode c_Server_message 27 = .ok (.iload_n 2, 1) := by decide +kernel
theorem d_Server_message_28 : decode c_Server_message 28 = .ok (.ifCond .eq 92, 3) := by decide +kernel
theorem d_Server_message_31 : decode c_Server_message 31 = .ok (.aload_n 0, 1) := by decide +kernel
theorem d_Server_message_32 : decode c_Server_message 32 = .ok (.dup, 1) := by decide +kernel
theorem d_Server_message_33 : decode c_Server_message 33 = .ok (.getfield 69, 3) := by decide +kernel
theorem d_Server_message_36 : decode c_Server_message 36 = .ok (.iconst 1, 1) := by decide +kernel
theorem d_Server_message_37 : decode c_Server_message 37 = .ok (.iadd, 1) := by decide +kernel
theorem d_Server_message_38 : decode c_Server_message 38 = .ok (.putfield 69, 3) := by decide +kernel
theorem d_Server_message_41 : decode c_Server_message 41 = .ok (.aload_n 0, 1) := by decide +kernel
theorem d_Server_message_42 : decode c_Server_message 42 = .ok (.aload_n 0, 1) := by decide +kernel
theorem d_Server_message_43 : decode c_Server_message 43 = .ok (.getfield 26, 3) := by decide +kernel
theorem d_Server_message_46 : decode c_Server_message 46 = .ok (.getfield 120, 3) := by decide +kernel
theorem d_Server_message_49 : decode c_Server_message 49 = .ok (.iconst 1, 1) := by decide +kernel
theorem d_Server_message_50 : decode c_Server_message 50 = .ok (.iadd, 1) := by decide +kernel
theorem d_Server_message_51 : decode c_Server_message 51 = .ok (.invokevirtual 123, 3) := by decide +kernel
theorem d_Server_message_54 : decode c_Server_message 54 = .ok (.aload_n 0, 1) := by decide +kernel
theorem d_Server_message_55 : decode c_Server_message 55 = .ok (.invokevirtual 126, 3) := by decide +kernel
theorem d_Server_message_58 : decode c_Server_message 58 = .ok (.istore_n 3, 1) := by decide +kernel
theorem d_Server_message_59 : decode c_Server_message 59 = .ok (.iload_n 3, 1) := by decide +kernel
theorem d_Server_message_60 : decode c_Server_message 60 = .ok (.ifCond .eq 41, 3) := by decide +kernel
theorem d_Server_message_63 : decode c_Server_message 63 = .ok (.aload_n 0, 1) := by decide +kernel
theorem d_Server_message_64 : decode c_Server_message 64 = .ok (.dup, 1) := by decide +kernel
theorem d_Server_message_65 : decode c_Server_message 65 = .ok (.getfield 78, 3) := by decide +kernel
theorem d_Server_message_68 : decode c_Server_message 68 = .ok (.iconst 1, 1) := by decide +kernel
theorem d_Server_message_69 : decode c_Server_message 69 = .ok (.iadd, 1) := by decide +kernel
theorem d_Server_message_70 : decode c_Server_message 70 = .ok (.putfield 78, 3) := by decide +kernel
theorem d_Server_message_73 : decode c_Server_message 73 = .ok (.aload_n 0, 1) := by decide +kernel
theorem d_Server_message_74 : decode c_Server_message 74 = .ok (.bipush 107, 2) := by decide +kernel
theorem d_Server_message_76 : decode c_Server_message 76 = .ok (.invokevirtual 123, 3) := by decide +kernel
theorem d_Server_message_79 : decode c_Server_message 79 = .ok (.aload_n 0, 1) := by decide +kernel
theorem d_Server_message_80 : decode c_Server_message 80 = .ok (.getfield 18, 3) := by decide +kernel
theorem d_Server_message_83 : decode c_Server_message 83 = .ok (.lconst 1, 1) := by decide +kernel
theorem d_Server_message_84 : decode c_Server_message 84 = .ok (.iconst 2, 1) := by decide +kernel
theorem d_Server_message_85 : decode c_Server_message 85 = .ok (.invokevirtual 129, 3) := by decide +kernel
theorem d_Server_message_88 : decode c_Server_message 88 = .ok (.aload_n 0, 1) := by decide +kernel
theorem d_Server_message_89 : decode c_Server_message 89 = .ok (.getfield 18, 3) := by decide +kernel
theorem d_Server_message_92 : decode c_Server_message 92 = .ok (.bipush 48, 2) := by decide +kernel
theorem d_Server_message_94 : decode c_Server_message 94 = .ok (.iload_n 3, 1) := by decide +kernel
theorem d_Server_message_95 : decode c_Server_message 95 = .ok (.iadd, 1) := by decide +kernel
theorem d_Server_message_96 : decode c_Server_message 96 = .ok (.i2l, 1) := by decide +kernel
theorem d_Server_message_97 : decode c_Server_message 97 = .ok (.iconst 1, 1) := by decide +kernel
theorem d_Server_message_98 : decode c_Server_message 98 = .ok (.invokevirtual 129, 3) := by decide +kernel
theorem d_Server_message_101 : decode c_Server_message 101 = .ok (.aload_n 0, 1) := by decide +kernel
theorem d_Server_message_102 : decode c_Server_message 102 = .ok (.getfield 18, 3) := by decide +kernel
theorem d_Server_message_105 : decode c_Server_message 105 = .ok (.iconst 0, 1) := by decide +kernel
theorem d_Server_message_106 : decode c_Server_message 106 = .ok (.aload_n 0, 1) := by decide +kernel
theorem d_Server_message_107 : decode c_Server_message 107 = .ok (.getfield 18, 3) := by decide +kernel
theorem d_Server_message_110 : decode c_Server_message 110 = .ok (.invokevirtual 105, 3) := by decide +kernel
theorem d_Server_message_113 : decode c_Server_message 113 = .ok (.iconst 4, 1) := by decide +kernel
theorem d_Server_message_114 : decode c_Server_message 114 = .ok (.invokevirtual 112, 3) := by decide +kernel
theorem d_Server_message_117 : decode c_Server_message 117 = .ok (.goto 13, 3) := by decide +kernel
theorem d_Server_message_120 : decode c_Server_message 120 = .ok (.aload_n 0, 1) := by decide +kernel
theorem d_Server_message_121 : decode c_Server_message 121 = .ok (.dup, 1) := by decide +kernel
theorem d_Server_message_122 : decode c_Server_message 122 = .ok (.getfield 75, 3) := by decide +kernel
theorem d_Server_message_125 : decode c_Server_message 125 = .ok (.iconst 1, 1) := by decide +kernel
theorem d_Server_message_126 : decode c_Server_message 126 = .ok (.iadd, 1) := by decide +kernel
theorem d_Server_message_127 : decode c_Server_message 127 = .ok (.putfield 75, 3) := by decide +kernel
theorem d_Server_message_130 : decode c_Server_message 130 = .ok (.aload_n 0, 1) := by decide +kernel
theorem d_Server_message_131 : decode c_Server_message 131 = .ok (.getfield 14, 3) := by decide +kernel
theorem d_Server_message_134 : decode c_Server_message 134 = .ok (.invokevirtual 132, 3) := by decide +kernel
theorem d_Server_message_137 : decode c_Server_message 137 = .ok (.iload_n 2, 1) := by decide +kernel
theorem d_Server_message_138 : decode c_Server_message 138 = .ok (.ifCond .eq 13, 3) := by decide +kernel
theorem d_Server_message_141 : decode c_Server_message 141 = .ok (.aload_n 0, 1) := by decide +kernel
theorem d_Server_message_142 : decode c_Server_message 142 = .ok (.getfield 18, 3) := by decide +kernel
theorem d_Server_message_145 : decode c_Server_message 145 = .ok (.invokevirtual 105, 3) := by decide +kernel
theorem d_Server_message_148 : decode c_Server_message 148 = .ok (.goto 4, 3) := by decide +kernel
theorem d_Server_message_151 : decode c_Server_message 151 = .ok (.iconst (-1), 1) := by decide +kernel
theorem d_Server_message_152 : decode c_Server_message 152 = .ok (.ireturn, 1) := by decide +kernel
abbrev c_Server_answer : ByteArray := prog_1_method_5_code
def y_Server_answer : MethodName := ⟨"EpochServer", "answer", "(I)I"⟩
theorem d_Server_answer_0 : decode c_Server_answer 0 = .ok (.aload_n 0, 1) := by decide +kernel
theorem d_Server_answer_1 : decode c_Server_answer 1 = .ok (.getfield 18, 3) := by decide +kernel
theorem d_Server_answer_4 : decode c_Server_answer 4 = .ok (.iload_n 1, 1) := by decide +kernel
theorem d_Server_answer_5 : decode c_Server_answer 5 = .ok (.invokevirtual 108, 3) := by decide +kernel
theorem d_Server_answer_8 : decode c_Server_answer 8 = .ok (.ireturn, 1) := by decide +kernel
abbrev c_Server_word : ByteArray := prog_1_method_6_code
def y_Server_word : MethodName := ⟨"EpochServer", "word", "(I)I"⟩
theorem d_Server_word_0 : decode c_Server_word 0 = .ok (.iload_n 1, 1) := by decide +kernel
theorem d_Server_word_1 : decode c_Server_word 1 = .ok (.ifCond .lt 14, 3) := by decide +kernel
theorem d_Server_word_4 : decode c_Server_word 4 = .ok (.iload_n 1, 1) := by decide +kernel
theorem d_Server_word_5 : decode c_Server_word 5 = .ok (.aload_n 0, 1) := by decide +kernel
theorem d_Server_word_6 : decode c_Server_word 6 = .ok (.getfield 18, 3) := by decide +kernel
theorem d_Server_word_9 : decode c_Server_word 9 = .ok (.invokevirtual 105, 3) := by decide +kernel
theorem d_Server_word_12 : decode c_Server_word 12 = .ok (.if_icmp .lt 5, 3) := by decide +kernel
theorem d_Server_word_15 : decode c_Server_word 15 = .ok (.iconst 0, 1) := by decide +kernel
theorem d_Server_word_16 : decode c_Server_word 16 = .ok (.ireturn, 1) := by decide +kernel
theorem d_Server_word_17 : decode c_Server_word 17 = .ok (.iconst 0, 1) := by decide +kernel
theorem d_Server_word_18 : decode c_Server_word 18 = .ok (.istore_n 2, 1) := by decide +kernel
theorem d_Server_word_19 : decode c_Server_word 19 = .ok (.iconst 3, 1) := by decide +kernel
theorem d_Server_word_20 : decode c_Server_word 20 = .ok (.istore_n 3, 1) := by decide +kernel
theorem d_Server_word_21 : decode c_Server_word 21 = .ok (.iload_n 3, 1) := by decide +kernel
theorem d_Server_word_22 : decode c_Server_word 22 = .ok (.ifCond .lt 29, 3) := by decide +kernel
theorem d_Server_word_25 : decode c_Server_word 25 = .ok (.iload_n 2, 1) := by decide +kernel
theorem d_Server_word_26 : decode c_Server_word 26 = .ok (.bipush 8, 2) := by decide +kernel
theorem d_Server_word_28 : decode c_Server_word 28 = .ok (.ishl, 1) := by decide +kernel
theorem d_Server_word_29 : decode c_Server_word 29 = .ok (.iconst 0, 1) := by decide +kernel
theorem d_Server_word_30 : decode c_Server_word 30 = .ok (.aload_n 0, 1) := by decide +kernel
theorem d_Server_word_31 : decode c_Server_word 31 = .ok (.getfield 18, 3) := by decide +kernel
theorem d_Server_word_34 : decode c_Server_word 34 = .ok (.iload_n 1, 1) := by decide +kernel
theorem d_Server_word_35 : decode c_Server_word 35 = .ok (.iload_n 3, 1) := by decide +kernel
theorem d_Server_word_36 : decode c_Server_word 36 = .ok (.iadd, 1) := by decide +kernel
theorem d_Server_word_37 : decode c_Server_word 37 = .ok (.invokevirtual 108, 3) := by decide +kernel
theorem d_Server_word_40 : decode c_Server_word 40 = .ok (.invokestatic 135, 3) := by decide +kernel
theorem d_Server_word_43 : decode c_Server_word 43 = .ok (.ior, 1) := by decide +kernel
theorem d_Server_word_44 : decode c_Server_word 44 = .ok (.istore_n 2, 1) := by decide +kernel
theorem d_Server_word_45 : decode c_Server_word 45 = .ok (.iinc 3 (-1), 3) := by decide +kernel
theorem d_Server_word_48 : decode c_Server_word 48 = .ok (.goto (-27), 3) := by decide +kernel
theorem d_Server_word_51 : decode c_Server_word 51 = .ok (.iload_n 2, 1) := by decide +kernel
theorem d_Server_word_52 : decode c_Server_word 52 = .ok (.ireturn, 1) := by decide +kernel
abbrev c_Server_snap : ByteArray := prog_1_method_7_code
def y_Server_snap : MethodName := ⟨"EpochServer", "snap", "()I"⟩
theorem d_Server_snap_0 : decode c_Server_snap 0 = .ok (.aload_n 0, 1) := by decide +kernel
theorem d_Server_snap_1 : decode c_Server_snap 1 = .ok (.getfield 54, 3) := by decide +kernel
theorem d_Server_snap_4 : decode c_Server_snap 4 = .ok (.aload_n 0, 1) := by decide +kernel
theorem d_Server_snap_5 : decode c_Server_snap 5 = .ok (.getfield 40, 3) := by decide +kernel
theorem d_Server_snap_8 : decode c_Server_snap 8 = .ok (.invokevirtual 141, 3) := by decide +kernel
theorem d_Server_snap_11 : decode c_Server_snap 11 = .ok (.ireturn, 1) := by decide +kernel
abbrev c_Server_archive : ByteArray := prog_1_method_8_code
def y_Server_archive : MethodName := ⟨"EpochServer", "archive", "(I)I"⟩
theorem d_Server_archive_0 : decode c_Server_archive 0 = .ok (.aload_n 0, 1) := by decide +kernel
theorem d_Server_archive_1 : decode c_Server_archive 1 = .ok (.getfield 54, 3) := by decide +kernel
theorem d_Server_archive_4 : decode c_Server_archive 4 = .ok (.iload_n 1, 1) := by decide +kernel
theorem d_Server_archive_5 : decode c_Server_archive 5 = .ok (.invokevirtual 145, 3) := by decide +kernel
theorem d_Server_archive_8 : decode c_Server_archive 8 = .ok (.astore_n 2, 1) := by decide +kernel
theorem d_Server_archive_9 : decode c_Server_archive 9 = .ok (.aload_n 2, 1) := by decide +kernel
theorem d_Server_archive_10 : decode c_Server_archive 10 = .ok (.ifnonnull 7, 3) := by decide +kernel
theorem d_Server_archive_13 : decode c_Server_archive 13 = .ok (.iconst (-1), 1) := by decide +kernel
theorem d_Server_archive_14 : decode c_Server_archive 14 = .ok (.goto 11, 3) := by decide +kernel
theorem d_Server_archive_17 : decode c_Server_archive 17 = .ok (.aload_n 0, 1) := by decide +kernel
theorem d_Server_archive_18 : decode c_Server_archive 18 = .ok (.getfield 61, 3) := by decide +kernel
theorem d_Server_archive_21 : decode c_Server_archive 21 = .ok (.aload_n 2, 1) := by decide +kernel
theorem d_Server_archive_22 : decode c_Server_archive 22 = .ok (.invokevirtual 149, 3) := by decide +kernel
theorem d_Server_archive_25 : decode c_Server_archive 25 = .ok (.ireturn, 1) := by decide +kernel
abbrev c_Server_score : ByteArray := prog_1_method_9_code
def y_Server_score : MethodName := ⟨"EpochServer", "score", "(II)I"⟩
theorem d_Server_score_0 : decode c_Server_score 0 = .ok (.aload_n 0, 1) := by decide +kernel
theorem d_Server_score_1 : decode c_Server_score 1 = .ok (.getfield 54, 3) := by decide +kernel
theorem d_Server_score_4 : decode c_Server_score 4 = .ok (.iload_n 1, 1) := by decide +kernel
theorem d_Server_score_5 : decode c_Server_score 5 = .ok (.invokevirtual 145, 3) := by decide +kernel
theorem d_Server_score_8 : decode c_Server_score 8 = .ok (.astore_n 3, 1) := by decide +kernel
theorem d_Server_score_9 : decode c_Server_score 9 = .ok (.aload_n 3, 1) := by decide +kernel
theorem d_Server_score_10 : decode c_Server_score 10 = .ok (.ifnull 13, 3) := by decide +kernel
theorem d_Server_score_13 : decode c_Server_score 13 = .ok (.iload_n 2, 1) := by decide +kernel
theorem d_Server_score_14 : decode c_Server_score 14 = .ok (.ifCond .lt 9, 3) := by decide +kernel
theorem d_Server_score_17 : decode c_Server_score 17 = .ok (.iload_n 2, 1) := by decide +kernel
theorem d_Server_score_18 : decode c_Server_score 18 = .ok (.bipush 20, 2) := by decide +kernel
theorem d_Server_score_20 : decode c_Server_score 20 = .ok (.if_icmp .lt 5, 3) := by decide +kernel
theorem d_Server_score_23 : decode c_Server_score 23 = .ok (.iconst (-1), 1) := by decide +kernel
theorem d_Server_score_24 : decode c_Server_score 24 = .ok (.ireturn, 1) := by decide +kernel
theorem d_Server_score_25 : decode c_Server_score 25 = .ok (.aload_n 0, 1) := by decide +kernel
theorem d_Server_score_26 : decode c_Server_score 26 = .ok (.getfield 54, 3) := by decide +kernel
theorem d_Server_score_29 : decode c_Server_score 29 = .ok (.iload_n 1, 1) := by decide +kernel
theorem d_Server_score_30 : decode c_Server_score 30 = .ok (.invokevirtual 152, 3) := by decide +kernel
theorem d_Server_score_33 : decode c_Server_score 33 = .ok (.ifCond .ne 36, 3) := by decide +kernel
theorem d_Server_score_36 : decode c_Server_score 36 = .ok (.aload_n 0, 1) := by decide +kernel
theorem d_Server_score_37 : decode c_Server_score 37 = .ok (.getfield 61, 3) := by decide +kernel
theorem d_Server_score_40 : decode c_Server_score 40 = .ok (.aload_n 3, 1) := by decide +kernel
theorem d_Server_score_41 : decode c_Server_score 41 = .ok (.invokevirtual 155, 3) := by decide +kernel
theorem d_Server_score_44 : decode c_Server_score 44 = .ok (.aload_n 0, 1) := by decide +kernel
theorem d_Server_score_45 : decode c_Server_score 45 = .ok (.getfield 61, 3) := by decide +kernel
theorem d_Server_score_48 : decode c_Server_score 48 = .ok (.aload_n 0, 1) := by decide +kernel
theorem d_Server_score_49 : decode c_Server_score 49 = .ok (.getfield 54, 3) := by decide +kernel
theorem d_Server_score_52 : decode c_Server_score 52 = .ok (.getfield 159, 3) := by decide +kernel
theorem d_Server_score_55 : decode c_Server_score 55 = .ok (.iload_n 1, 1) := by decide +kernel
theorem d_Server_score_56 : decode c_Server_score 56 = .ok (.iconst 5, 1) := by decide +kernel
theorem d_Server_score_57 : decode c_Server_score 57 = .ok (.imul, 1) := by decide +kernel
theorem d_Server_score_58 : decode c_Server_score 58 = .ok (.invokevirtual 163, 3) := by decide +kernel
theorem d_Server_score_61 : decode c_Server_score 61 = .ok (.aload_n 0, 1) := by decide +kernel
theorem d_Server_score_62 : decode c_Server_score 62 = .ok (.getfield 54, 3) := by decide +kernel
theorem d_Server_score_65 : decode c_Server_score 65 = .ok (.iload_n 1, 1) := by decide +kernel
theorem d_Server_score_66 : decode c_Server_score 66 = .ok (.invokevirtual 167, 3) := by decide +kernel
theorem d_Server_score_69 : decode c_Server_score 69 = .ok (.aload_n 0, 1) := by decide +kernel
theorem d_Server_score_70 : decode c_Server_score 70 = .ok (.getfield 54, 3) := by decide +kernel
theorem d_Server_score_73 : decode c_Server_score 73 = .ok (.iload_n 1, 1) := by decide +kernel
theorem d_Server_score_74 : decode c_Server_score 74 = .ok (.iload_n 2, 1) := by decide +kernel
theorem d_Server_score_75 : decode c_Server_score 75 = .ok (.invokevirtual 170, 3) := by decide +kernel
theorem d_Server_score_78 : decode c_Server_score 78 = .ok (.ireturn, 1) := by decide +kernel
abbrev c_Server_crash : ByteArray := prog_1_method_10_code
def y_Server_crash : MethodName := ⟨"EpochServer", "crash", "(I)I"⟩
theorem d_Server_crash_0 : decode c_Server_crash 0 = .ok (.iload_n 1, 1) := by decide +kernel
theorem d_Server_crash_1 : decode c_Server_crash 1 = .ok (.ifCond .lt 14, 3) := by decide +kernel
theorem d_Server_crash_4 : decode c_Server_crash 4 = .ok (.iload_n 1, 1) := by decide +kernel
theorem d_Server_crash_5 : decode c_Server_crash 5 = .ok (.aload_n 0, 1) := by decide +kernel
theorem d_Server_crash_6 : decode c_Server_crash 6 = .ok (.getfield 47, 3) := by decide +kernel
theorem d_Server_crash_9 : decode c_Server_crash 9 = .ok (.invokevirtual 173, 3) := by decide +kernel
theorem d_Server_crash_12 : decode c_Server_crash 12 = .ok (.if_icmp .le 5, 3) := by decide +kernel
theorem d_Server_crash_15 : decode c_Server_crash 15 = .ok (.iconst (-1), 1) := by decide +kernel
theorem d_Server_crash_16 : decode c_Server_crash 16 = .ok (.ireturn, 1) := by decide +kernel
theorem d_Server_crash_17 : decode c_Server_crash 17 = .ok (.aload_n 0, 1) := by decide +kernel
theorem d_Server_crash_18 : decode c_Server_crash 18 = .ok (.getfield 47, 3) := by decide +kernel
theorem d_Server_crash_21 : decode c_Server_crash 21 = .ok (.iload_n 1, 1) := by decide +kernel
theorem d_Server_crash_22 : decode c_Server_crash 22 = .ok (.invokevirtual 174, 3) := by decide +kernel
theorem d_Server_crash_25 : decode c_Server_crash 25 = .ok (.astore_n 2, 1) := by decide +kernel
theorem d_Server_crash_26 : decode c_Server_crash 26 = .ok (.aload_n 2, 1) := by decide +kernel
theorem d_Server_crash_27 : decode c_Server_crash 27 = .ok (.ifnull 11, 3) := by decide +kernel
theorem d_Server_crash_30 : decode c_Server_crash 30 = .ok (.aload_n 0, 1) := by decide +kernel
theorem d_Server_crash_31 : decode c_Server_crash 31 = .ok (.getfield 40, 3) := by decide +kernel
theorem d_Server_crash_34 : decode c_Server_crash 34 = .ok (.aload_n 2, 1) := by decide +kernel
theorem d_Server_crash_35 : decode c_Server_crash 35 = .ok (.invokevirtual 177, 3) := by decide +kernel
theorem d_Server_crash_38 : decode c_Server_crash 38 = .ok (.aload_n 0, 1) := by decide +kernel
theorem d_Server_crash_39 : decode c_Server_crash 39 = .ok (.getfield 47, 3) := by decide +kernel
theorem d_Server_crash_42 : decode c_Server_crash 42 = .ok (.invokevirtual 180, 3) := by decide +kernel
theorem d_Server_crash_45 : decode c_Server_crash 45 = .ok (.aload_n 0, 1) := by decide +kernel
theorem d_Server_crash_46 : decode c_Server_crash 46 = .ok (.getfield 33, 3) := by decide +kernel
theorem d_Server_crash_49 : decode c_Server_crash 49 = .ok (.invokevirtual 181, 3) := by decide +kernel
theorem d_Server_crash_52 : decode c_Server_crash 52 = .ok (.aload_n 0, 1) := by decide +kernel
theorem d_Server_crash_53 : decode c_Server_crash 53 = .ok (.iconst 0, 1) := by decide +kernel
theorem d_Server_crash_54 : decode c_Server_crash 54 = .ok (.putfield 72, 3) := by decide +kernel
theorem d_Server_crash_57 : decode c_Server_crash 57 = .ok (.iconst 1, 1) := by decide +kernel
theorem d_Server_crash_58 : decode c_Server_crash 58 = .ok (.ireturn, 1) := by decide +kernel
abbrev c_Server_file : ByteArray := prog_1_method_11_code
def y_Server_file : MethodName := ⟨"EpochServer", "file", "(III)I"⟩
theorem d_Server_file_0 : decode c_Server_file 0 = .ok (.aload_n 0, 1) := by decide +kernel
theorem d_Server_file_1 : decode c_Server_file 1 = .ok (.iload_n 1, 1) := by decide +kernel
theorem d_Server_file_2 : decode c_Server_file 2 = .ok (.invokevirtual 182, 3) := by decide +kernel
theorem d_Server_file_5 : decode c_Server_file 5 = .ok (.astore 4, 2) := by decide +kernel
theorem d_Server_file_7 : decode c_Server_file 7 = .ok (.aload 4, 2) := by decide +kernel
theorem d_Server_file_9 : decode c_Server_file 9 = .ok (.ifnonnull 7, 3) := by decide +kernel
theorem d_Server_file_12 : decode c_Server_file 12 = .ok (.aconst_null, 1) := by decide +kernel
theorem d_Server_file_13 : decode c_Server_file 13 = .ok (.goto 9, 3) := by decide +kernel
theorem d_Server_file_16 : decode c_Server_file 16 = .ok (.aload 4, 2) := by decide +kernel
theorem d_Server_file_18 : decode c_Server_file 18 = .ok (.iload_n 2, 1) := by decide +kernel
theorem d_Server_file_19 : decode c_Server_file 19 = .ok (.invokevirtual 185, 3) := by decide +kernel
theorem d_Server_file_22 : decode c_Server_file 22 = .ok (.astore 5, 2) := by decide +kernel
theorem d_Server_file_24 : decode c_Server_file 24 = .ok (.aload 5, 2) := by decide +kernel
theorem d_Server_file_26 : decode c_Server_file 26 = .ok (.ifnonnull 6, 3) := by decide +kernel
theorem d_Server_file_29 : decode c_Server_file 29 = .ok (.bipush (-9), 2) := by decide +kernel
theorem d_Server_file_31 : decode c_Server_file 31 = .ok (.ireturn, 1) := by decide +kernel
theorem d_Server_file_32 : decode c_Server_file 32 = .ok (.iload_n 3, 1) := by decide +kernel
theorem d_Server_file_33 : decode c_Server_file 33 = .ok (.tableswitch 94 0 5 #[39, 45, 51, 57, 63, 87], 39) := by decide +kernel
theorem d_Server_file_72 : decode c_Server_file 72 = .ok (.aload 5, 2) := by decide +kernel
theorem d_Server_file_74 : decode c_Server_file 74 = .ok (.getfield 188, 3) := by decide +kernel
theorem d_Server_file_77 : decode c_Server_file 77 = .ok (.ireturn, 1) := by decide +kernel
theorem d_Server_file_78 : decode c_Server_file 78 = .ok (.aload 5, 2) := by decide +kernel
theorem d_Server_file_80 : decode c_Server_file 80 = .ok (.getfield 191, 3) := by decide +kernel
theorem d_Server_file_83 : decode c_Server_file 83 = .ok (.ireturn, 1) := by decide +kernel
theorem d_Server_file_84 : decode c_Server_file 84 = .ok (.aload 5, 2) := by decide +kernel
theorem d_Server_file_86 : decode c_Server_file 86 = .ok (.getfield 194, 3) := by decide +kernel
theorem d_Server_file_89 : decode c_Server_file 89 = .ok (.ireturn, 1) := by decide +kernel
theorem d_Server_file_90 : decode c_Server_file 90 = .ok (.aload 5, 2) := by decide +kernel
theorem d_Server_file_92 : decode c_Server_file 92 = .ok (.getfield 197, 3) := by decide +kernel
theorem d_Server_file_95 : decode c_Server_file 95 = .ok (.ireturn, 1) := by decide +kernel
theorem d_Server_file_96 : decode c_Server_file 96 = .ok (.aload 5, 2) := by decide +kernel
theorem d_Server_file_98 : decode c_Server_file 98 = .ok (.invokevirtual 200, 3) := by decide +kernel
theorem d_Server_file_101 : decode c_Server_file 101 = .ok (.ifCond .eq 12, 3) := by decide +kernel
theorem d_Server_file_104 : decode c_Server_file 104 = .ok (.aload 4, 2) := by decide +kernel
theorem d_Server_file_106 : decode c_Server_file 106 = .ok (.iload_n 2, 1) := by decide +kernel
theorem d_Server_file_107 : decode c_Server_file 107 = .ok (.invokevirtual 204, 3) := by decide +kernel
theorem d_Server_file_110 : decode c_Server_file 110 = .ok (.goto 9, 3) := by decide +kernel
theorem d_Server_file_113 : decode c_Server_file 113 = .ok (.aload 5, 2) := by decide +kernel
theorem d_Server_file_115 : decode c_Server_file 115 = .ok (.getfield 207, 3) := by decide +kernel
theorem d_Server_file_118 : decode c_Server_file 118 = .ok (.arraylength, 1) := by decide +kernel
theorem d_Server_file_119 : decode c_Server_file 119 = .ok (.ireturn, 1) := by decide +kernel
theorem d_Server_file_120 : decode c_Server_file 120 = .ok (.aload 5, 2) := by decide +kernel
theorem d_Server_file_122 : decode c_Server_file 122 = .ok (.getfield 210, 3) := by decide +kernel
theorem d_Server_file_125 : decode c_Server_file 125 = .ok (.arraylength, 1) := by decide +kernel
theorem d_Server_file_126 : decode c_Server_file 126 = .ok (.ireturn, 1) := by decide +kernel
theorem d_Server_file_127 : decode c_Server_file 127 = .ok (.bipush (-9), 2) := by decide +kernel
theorem d_Server_file_129 : decode c_Server_file 129 = .ok (.ireturn, 1) := by decide +kernel
abbrev c_Server_fid : ByteArray := prog_1_method_12_code
def y_Server_fid : MethodName := ⟨"EpochServer", "fid", "(II)I"⟩
theorem d_Server_fid_0 : decode c_Server_fid 0 = .ok (.aload_n 0, 1) := by decide +kernel
theorem d_Server_fid_1 : decode c_Server_fid 1 = .ok (.getfield 33, 3) := by decide +kernel
theorem d_Server_fid_4 : decode c_Server_fid 4 = .ok (.iload_n 1, 1) := by decide +kernel
theorem d_Server_fid_5 : decode c_Server_fid 5 = .ok (.invokevirtual 213, 3) := by decide +kernel
theorem d_Server_fid_8 : decode c_Server_fid 8 = .ok (.astore_n 3, 1) := by decide +kernel
theorem d_Server_fid_9 : decode c_Server_fid 9 = .ok (.aload_n 3, 1) := by decide +kernel
theorem d_Server_fid_10 : decode c_Server_fid 10 = .ok (.ifnonnull 6, 3) := by decide +kernel
theorem d_Server_fid_13 : decode c_Server_fid 13 = .ok (.bipush (-9), 2) := by decide +kernel
theorem d_Server_fid_15 : decode c_Server_fid 15 = .ok (.ireturn, 1) := by decide +kernel
theorem d_Server_fid_16 : decode c_Server_fid 16 = .ok (.iload_n 2, 1) := by decide +kernel
theorem d_Server_fid_17 : decode c_Server_fid 17 = .ok (.tableswitch 77 0 4 #[35, 40, 45, 58, 63], 35) := by decide +kernel
theorem d_Server_fid_52 : decode c_Server_fid 52 = .ok (.aload_n 3, 1) := by decide +kernel
theorem d_Server_fid_53 : decode c_Server_fid 53 = .ok (.getfield 217, 3) := by decide +kernel
theorem d_Server_fid_56 : decode c_Server_fid 56 = .ok (.ireturn, 1) := by decide +kernel
theorem d_Server_fid_57 : decode c_Server_fid 57 = .ok (.aload_n 3, 1) := by decide +kernel
theorem d_Server_fid_58 : decode c_Server_fid 58 = .ok (.getfield 221, 3) := by decide +kernel
theorem d_Server_fid_61 : decode c_Server_fid 61 = .ok (.ireturn, 1) := by decide +kernel
theorem d_Server_fid_62 : decode c_Server_fid 62 = .ok (.aload_n 3, 1) := by decide +kernel
theorem d_Server_fid_63 : decode c_Server_fid 63 = .ok (.getfield 224, 3) := by decide +kernel
theorem d_Server_fid_66 : decode c_Server_fid 66 = .ok (.ifCond .eq 7, 3) := by decide +kernel
theorem d_Server_fid_69 : decode c_Server_fid 69 = .ok (.iconst 1, 1) := by decide +kernel
theorem d_Server_fid_70 : decode c_Server_fid 70 = .ok (.goto 4, 3) := by decide +kernel
theorem d_Server_fid_73 : decode c_Server_fid 73 = .ok (.iconst 0, 1) := by decide +kernel
theorem d_Server_fid_74 : decode c_Server_fid 74 = .ok (.ireturn, 1) := by decide +kernel
theorem d_Server_fid_75 : decode c_Server_fid 75 = .ok (.aload_n 3, 1) := by decide +kernel
theorem d_Server_fid_76 : decode c_Server_fid 76 = .ok (.getfield 228, 3) := by decide +kernel
theorem d_Server_fid_79 : decode c_Server_fid 79 = .ok (.ireturn, 1) := by decide +kernel
theorem d_Server_fid_80 : decode c_Server_fid 80 = .ok (.aload_n 0, 1) := by decide +kernel
theorem d_Server_fid_81 : decode c_Server_fid 81 = .ok (.aload_n 3, 1) := by decide +kernel
theorem d_Server_fid_82 : decode c_Server_fid 82 = .ok (.invokevirtual 229, 3) := by decide +kernel
theorem d_Server_fid_85 : decode c_Server_fid 85 = .ok (.ifnonnull 7, 3) := by decide +kernel
theorem d_Server_fid_88 : decode c_Server_fid 88 = .ok (.iconst 1, 1) := by decide +kernel
theorem d_Server_fid_89 : decode c_Server_fid 89 = .ok (.goto 4, 3) := by decide +kernel
theorem d_Server_fid_92 : decode c_Server_fid 92 = .ok (.iconst 0, 1) := by decide +kernel
theorem d_Server_fid_93 : decode c_Server_fid 93 = .ok (.ireturn, 1) := by decide +kernel
theorem d_Server_fid_94 : decode c_Server_fid 94 = .ok (.bipush (-9), 2) := by decide +kernel
theorem d_Server_fid_96 : decode c_Server_fid 96 = .ok (.ireturn, 1) := by decide +kernel
abbrev c_Server_count : ByteArray := prog_1_method_13_code
def y_Server_count : MethodName := ⟨"EpochServer", "count", "(I)I"⟩
theorem d_Server_count_0 : decode c_Server_count 0 = .ok (.iload_n 1, 1) := by decide +kernel
theorem d_Server_count_1 : decode c_Server_count 1 = .ok (.tableswitch 162 0 12 #[67, 72, 80, 85, 93, 101, 109, 120, 131, 136, 144, 152, 157], 67) := by decide +kernel
theorem d_Server_count_68 : decode c_Server_count 68 = .ok (.aload_n 0, 1) := by decide +kernel
theorem d_Server_count_69 : decode c_Server_count 69 = .ok (.getfield 69, 3) := by decide +kernel
theorem d_Server_count_72 : decode c_Server_count 72 = .ok (.ireturn, 1) := by decide +kernel
theorem d_Server_count_73 : decode c_Server_count 73 = .ok (.aload_n 0, 1) := by decide +kernel
theorem d_Server_count_74 : decode c_Server_count 74 = .ok (.getfield 40, 3) := by decide +kernel
theorem d_Server_count_77 : decode c_Server_count 77 = .ok (.invokevirtual 233, 3) := by decide +kernel
theorem d_Server_count_80 : decode c_Server_count 80 = .ok (.ireturn, 1) := by decide +kernel
theorem d_Server_count_81 : decode c_Server_count 81 = .ok (.aload_n 0, 1) := by decide +kernel
theorem d_Server_count_82 : decode c_Server_count 82 = .ok (.getfield 65, 3) := by decide +kernel
theorem d_Server_count_85 : decode c_Server_count 85 = .ok (.ireturn, 1) := by decide +kernel
theorem d_Server_count_86 : decode c_Server_count 86 = .ok (.aload_n 0, 1) := by decide +kernel
theorem d_Server_count_87 : decode c_Server_count 87 = .ok (.getfield 33, 3) := by decide +kernel
theorem d_Server_count_90 : decode c_Server_count 90 = .ok (.invokevirtual 234, 3) := by decide +kernel
theorem d_Server_count_93 : decode c_Server_count 93 = .ok (.ireturn, 1) := by decide +kernel
theorem d_Server_count_94 : decode c_Server_count 94 = .ok (.aload_n 0, 1) := by decide +kernel
theorem d_Server_count_95 : decode c_Server_count 95 = .ok (.getfield 54, 3) := by decide +kernel
theorem d_Server_count_98 : decode c_Server_count 98 = .ok (.invokevirtual 235, 3) := by decide +kernel
theorem d_Server_count_101 : decode c_Server_count 101 = .ok (.ireturn, 1) := by decide +kernel
theorem d_Server_count_102 : decode c_Server_count 102 = .ok (.aload_n 0, 1) := by decide +kernel
theorem d_Server_count_103 : decode c_Server_count 103 = .ok (.getfield 47, 3) := by decide +kernel
theorem d_Server_count_106 : decode c_Server_count 106 = .ok (.invokevirtual 173, 3) := by decide +kernel
theorem d_Server_count_109 : decode c_Server_count 109 = .ok (.ireturn, 1) := by decide +kernel
theorem d_Server_count_110 : decode c_Server_count 110 = .ok (.aload_n 0, 1) := by decide +kernel
theorem d_Server_count_111 : decode c_Server_count 111 = .ok (.getfield 61, 3) := by decide +kernel
theorem d_Server_count_114 : decode c_Server_count 114 = .ok (.getfield 236, 3) := by decide +kernel
theorem d_Server_count_117 : decode c_Server_count 117 = .ok (.getfield 240, 3) := by decide +kernel
theorem d_Server_count_120 : decode c_Server_count 120 = .ok (.ireturn, 1) := by decide +kernel
theorem d_Server_count_121 : decode c_Server_count 121 = .ok (.aload_n 0, 1) := by decide +kernel
theorem d_Server_count_122 : decode c_Server_count 122 = .ok (.getfield 61, 3) := by decide +kernel
theorem d_Server_count_125 : decode c_Server_count 125 = .ok (.getfield 236, 3) := by decide +kernel
theorem d_Server_count_128 : decode c_Server_count 128 = .ok (.getfield 244, 3) := by decide +kernel
theorem d_Server_count_131 : decode c_Server_count 131 = .ok (.ireturn, 1) := by decide +kernel
theorem d_Server_count_132 : decode c_Server_count 132 = .ok (.aload_n 0, 1) := by decide +kernel
theorem d_Server_count_133 : decode c_Server_count 133 = .ok (.getfield 72, 3) := by decide +kernel
theorem d_Server_count_136 : decode c_Server_count 136 = .ok (.ireturn, 1) := by decide +kernel
theorem d_Server_count_137 : decode c_Server_count 137 = .ok (.aload_n 0, 1) := by decide +kernel
theorem d_Server_count_138 : decode c_Server_count 138 = .ok (.getfield 14, 3) := by decide +kernel
theorem d_Server_count_141 : decode c_Server_count 141 = .ok (.invokevirtual 105, 3) := by decide +kernel
theorem d_Server_count_144 : decode c_Server_count 144 = .ok (.ireturn, 1) := by decide +kernel
theorem d_Server_count_145 : decode c_Server_count 145 = .ok (.aload_n 0, 1) := by decide +kernel
theorem d_Server_count_146 : decode c_Server_count 146 = .ok (.getfield 18, 3) := by decide +kernel
theorem d_Server_count_149 : decode c_Server_count 149 = .ok (.invokevirtual 105, 3) := by decide +kernel
theorem d_Server_count_152 : decode c_Server_count 152 = .ok (.ireturn, 1) := by decide +kernel
theorem d_Server_count_153 : decode c_Server_count 153 = .ok (.aload_n 0, 1) := by decide +kernel
theorem d_Server_count_154 : decode c_Server_count 154 = .ok (.getfield 75, 3) := by decide +kernel
theorem d_Server_count_157 : decode c_Server_count 157 = .ok (.ireturn, 1) := by decide +kernel
theorem d_Server_count_158 : decode c_Server_count 158 = .ok (.aload_n 0, 1) := by decide +kernel
theorem d_Server_count_159 : decode c_Server_count 159 = .ok (.getfield 78, 3) := by decide +kernel
theorem d_Server_count_162 : decode c_Server_count 162 = .ok (.ireturn, 1) := by decide +kernel
theorem d_Server_count_163 : decode c_Server_count 163 = .ok (.bipush (-9), 2) := by decide +kernel
theorem d_Server_count_165 : decode c_Server_count 165 = .ok (.ireturn, 1) := by decide +kernel
abbrev c_Server_treeOf : ByteArray := prog_1_method_14_code
def y_Server_treeOf : MethodName := ⟨"EpochServer", "treeOf", "(I)LEpochServer$Tree;"⟩
theorem d_Server_treeOf_0 : decode c_Server_treeOf 0 = .ok (.iload_n 1, 1) := by decide +kernel
theorem d_Server_treeOf_1 : decode c_Server_treeOf 1 = .ok (.iconst (-1), 1) := by decide +kernel
theorem d_Server_treeOf_2 : decode c_Server_treeOf 2 = .ok (.if_icmp .ne 10, 3) := by decide +kernel
theorem d_Server_treeOf_5 : decode c_Server_treeOf 5 = .ok (.aload_n 0, 1) := by decide +kernel
theorem d_Server_treeOf_6 : decode c_Server_treeOf 6 = .ok (.getfield 40, 3) := by decide +kernel
theorem d_Server_treeOf_9 : decode c_Server_treeOf 9 = .ok (.goto 11, 3) := by decide +kernel
theorem d_Server_treeOf_12 : decode c_Server_treeOf 12 = .ok (.aload_n 0, 1) := by decide +kernel
theorem d_Server_treeOf_13 : decode c_Server_treeOf 13 = .ok (.getfield 54, 3) := by decide +kernel
theorem d_Server_treeOf_16 : decode c_Server_treeOf 16 = .ok (.iload_n 1, 1) := by decide +kernel
theorem d_Server_treeOf_17 : decode c_Server_treeOf 17 = .ok (.invokevirtual 145, 3) := by decide +kernel
theorem d_Server_treeOf_20 : decode c_Server_treeOf 20 = .ok (.areturn, 1) := by decide +kernel
abbrev c_Server_nodeOf : ByteArray := prog_1_method_15_code
def y_Server_nodeOf : MethodName := ⟨"EpochServer", "nodeOf", "(LEpochServer$Fid;)LEpochServer$Node;"⟩
theorem d_Server_nodeOf_0 : decode c_Server_nodeOf 0 = .ok (.aload_n 0, 1) := by decide +kernel
theorem d_Server_nodeOf_1 : decode c_Server_nodeOf 1 = .ok (.aload_n 1, 1) := by decide +kernel
theorem d_Server_nodeOf_2 : decode c_Server_nodeOf 2 = .ok (.getfield 217, 3) := by decide +kernel
theorem d_Server_nodeOf_5 : decode c_Server_nodeOf 5 = .ok (.invokevirtual 182, 3) := by decide +kernel
theorem d_Server_nodeOf_8 : decode c_Server_nodeOf 8 = .ok (.astore_n 2, 1) := by decide +kernel
theorem d_Server_nodeOf_9 : decode c_Server_nodeOf 9 = .ok (.aload_n 2, 1) := by decide +kernel
theorem d_Server_nodeOf_10 : decode c_Server_nodeOf 10 = .ok (.ifnonnull 7, 3) := by decide +kernel
theorem d_Server_nodeOf_13 : decode c_Server_nodeOf 13 = .ok (.aconst_null, 1) := by decide +kernel
theorem d_Server_nodeOf_14 : decode c_Server_nodeOf 14 = .ok (.goto 11, 3) := by decide +kernel
theorem d_Server_nodeOf_17 : decode c_Server_nodeOf 17 = .ok (.aload_n 2, 1) := by decide +kernel
theorem d_Server_nodeOf_18 : decode c_Server_nodeOf 18 = .ok (.aload_n 1, 1) := by decide +kernel
theorem d_Server_nodeOf_19 : decode c_Server_nodeOf 19 = .ok (.getfield 221, 3) := by decide +kernel
theorem d_Server_nodeOf_22 : decode c_Server_nodeOf 22 = .ok (.invokevirtual 185, 3) := by decide +kernel
theorem d_Server_nodeOf_25 : decode c_Server_nodeOf 25 = .ok (.areturn, 1) := by decide +kernel
abbrev c_Server_startReply : ByteArray := prog_1_method_16_code
def y_Server_startReply : MethodName := ⟨"EpochServer", "startReply", "(I)V"⟩
theorem d_Server_startReply_0 : decode c_Server_startReply 0 = .ok (.aload_n 0, 1) := by decide +kernel
theorem d_Server_startReply_1 : decode c_Server_startReply 1 = .ok (.getfield 18, 3) := by decide +kernel
theorem d_Server_startReply_4 : decode c_Server_startReply 4 = .ok (.invokevirtual 132, 3) := by decide +kernel
theorem d_Server_startReply_7 : decode c_Server_startReply 7 = .ok (.aload_n 0, 1) := by decide +kernel
theorem d_Server_startReply_8 : decode c_Server_startReply 8 = .ok (.getfield 18, 3) := by decide +kernel
theorem d_Server_startReply_11 : decode c_Server_startReply 11 = .ok (.lconst 0, 1) := by decide +kernel
theorem d_Server_startReply_12 : decode c_Server_startReply 12 = .ok (.iconst 4, 1) := by decide +kernel
theorem d_Server_startReply_13 : decode c_Server_startReply 13 = .ok (.invokevirtual 129, 3) := by decide +kernel
theorem d_Server_startReply_16 : decode c_Server_startReply 16 = .ok (.aload_n 0, 1) := by decide +kernel
theorem d_Server_startReply_17 : decode c_Server_startReply 17 = .ok (.getfield 18, 3) := by decide +kernel
theorem d_Server_startReply_20 : decode c_Server_startReply 20 = .ok (.iload_n 1, 1) := by decide +kernel
theorem d_Server_startReply_21 : decode c_Server_startReply 21 = .ok (.i2l, 1) := by decide +kernel
theorem d_Server_startReply_22 : decode c_Server_startReply 22 = .ok (.iconst 1, 1) := by decide +kernel
theorem d_Server_startReply_23 : decode c_Server_startReply 23 = .ok (.invokevirtual 129, 3) := by decide +kernel
theorem d_Server_startReply_26 : decode c_Server_startReply 26 = .ok (.aload_n 0, 1) := by decide +kernel
theorem d_Server_startReply_27 : decode c_Server_startReply 27 = .ok (.getfield 18, 3) := by decide +kernel
theorem d_Server_startReply_30 : decode c_Server_startReply 30 = .ok (.aload_n 0, 1) := by decide +kernel
theorem d_Server_startReply_31 : decode c_Server_startReply 31 = .ok (.getfield 26, 3) := by decide +kernel
theorem d_Server_startReply_34 : decode c_Server_startReply 34 = .ok (.getfield 247, 3) := by decide +kernel
theorem d_Server_startReply_37 : decode c_Server_startReply 37 = .ok (.i2l, 1) := by decide +kernel
theorem d_Server_startReply_38 : decode c_Server_startReply 38 = .ok (.iconst 2, 1) := by decide +kernel
theorem d_Server_startReply_39 : decode c_Server_startReply 39 = .ok (.invokevirtual 129, 3) := by decide +kernel
theorem d_Server_startReply_42 : decode c_Server_startReply 42 = .ok (.return_, 1) := by decide +kernel
abbrev c_Server_serve : ByteArray := prog_1_method_17_code
def y_Server_serve : MethodName := ⟨"EpochServer", "serve", "()I"⟩
theorem d_Server_serve_0 : decode c_Server_serve 0 = .ok (.aload_n 0, 1) := by decide +kernel
theorem d_Server_serve_1 : decode c_Server_serve 1 = .ok (.getfield 26, 3) := by decide +kernel
theorem d_Server_serve_4 : decode c_Server_serve 4 = .ok (.getfield 120, 3) := by decide +kernel
theorem d_Server_serve_7 : decode c_Server_serve 7 = .ok (.bipush 100, 2) := by decide +kernel
theorem d_Server_serve_9 : decode c_Server_serve 9 = .ok (.if_icmp .ne 8, 3) := by decide +kernel
theorem d_Server_serve_12 : decode c_Server_serve 12 = .ok (.aload_n 0, 1) := by decide +kernel
theorem d_Server_serve_13 : decode c_Server_serve 13 = .ok (.invokevirtual 250, 3) := by decide +kernel
theorem d_Server_serve_16 : decode c_Server_serve 16 = .ok (.ireturn, 1) := by decide +kernel
theorem d_Server_serve_17 : decode c_Server_serve 17 = .ok (.aload_n 0, 1) := by decide +kernel
theorem d_Server_serve_18 : decode c_Server_serve 18 = .ok (.getfield 72, 3) := by decide +kernel
theorem d_Server_serve_21 : decode c_Server_serve 21 = .ok (.ifCond .ne 5, 3) := by decide +kernel
theorem d_Server_serve_24 : decode c_Server_serve 24 = .ok (.iconst 1, 1) := by decide +kernel
theorem d_Server_serve_25 : decode c_Server_serve 25 = .ok (.ireturn, 1) := by decide +kernel
theorem d_Server_serve_26 : decode c_Server_serve 26 = .ok (.aload_n 0, 1) := by decide +kernel
theorem d_Server_serve_27 : decode c_Server_serve 27 = .ok (.getfield 26, 3) := by decide +kernel
theorem d_Server_serve_30 : decode c_Server_serve 30 = .ok (.getfield 120, 3) := by decide +kernel
theorem d_Server_serve_33 : decode c_Server_serve 33 = .ok (.lookupswitch 44 #[(102, 35), (104, 37), (108, 42)], 35) := by decide +kernel
theorem d_Server_serve_68 : decode c_Server_serve 68 = .ok (.iconst 3, 1) := by decide +kernel
theorem d_Server_serve_69 : decode c_Server_serve 69 = .ok (.ireturn, 1) := by decide +kernel
theorem d_Server_serve_70 : decode c_Server_serve 70 = .ok (.aload_n 0, 1) := by decide +kernel
theorem d_Server_serve_71 : decode c_Server_serve 71 = .ok (.invokevirtual 253, 3) := by decide +kernel
theorem d_Server_serve_74 : decode c_Server_serve 74 = .ok (.ireturn, 1) := by decide +kernel
theorem d_Server_serve_75 : decode c_Server_serve 75 = .ok (.iconst 0, 1) := by decide +kernel
theorem d_Server_serve_76 : decode c_Server_serve 76 = .ok (.ireturn, 1) := by decide +kernel
theorem d_Server_serve_77 : decode c_Server_serve 77 = .ok (.aload_n 0, 1) := by decide +kernel
theorem d_Server_serve_78 : decode c_Server_serve 78 = .ok (.getfield 33, 3) := by decide +kernel
theorem d_Server_serve_81 : decode c_Server_serve 81 = .ok (.aload_n 0, 1) := by decide +kernel
theorem d_Server_serve_82 : decode c_Server_serve 82 = .ok (.getfield 26, 3) := by decide +kernel
theorem d_Server_serve_85 : decode c_Server_serve 85 = .ok (.getfield 256, 3) := by decide +kernel
theorem d_Server_serve_88 : decode c_Server_serve 88 = .ok (.invokevirtual 213, 3) := by decide +kernel
theorem d_Server_serve_91 : decode c_Server_serve 91 = .ok (.astore_n 1, 1) := by decide +kernel
theorem d_Server_serve_92 : decode c_Server_serve 92 = .ok (.aload_n 1, 1) := by decide +kernel
theorem d_Server_serve_93 : decode c_Server_serve 93 = .ok (.ifnonnull 7, 3) := by decide +kernel
theorem d_Server_serve_96 : decode c_Server_serve 96 = .ok (.iconst 2, 1) := by decide +kernel
theorem d_Server_serve_97 : decode c_Server_serve 97 = .ok (.goto 8, 3) := by decide +kernel
theorem d_Server_serve_100 : decode c_Server_serve 100 = .ok (.aload_n 0, 1) := by decide +kernel
theorem d_Server_serve_101 : decode c_Server_serve 101 = .ok (.aload_n 1, 1) := by decide +kernel
theorem d_Server_serve_102 : decode c_Server_serve 102 = .ok (.invokevirtual 259, 3) := by decide +kernel
theorem d_Server_serve_105 : decode c_Server_serve 105 = .ok (.ireturn, 1) := by decide +kernel
abbrev c_Server_serveFid : ByteArray := prog_1_method_18_code
def y_Server_serveFid : MethodName := ⟨"EpochServer", "serveFid", "(LEpochServer$Fid;)I"⟩
theorem d_Server_serveFid_0 : decode c_Server_serveFid 0 = .ok (.aload_n 0, 1) := by decide +kernel
theorem d_Server_serveFid_1 : decode c_Server_serveFid 1 = .ok (.aload_n 1, 1) := by decide +kernel
theorem d_Server_serveFid_2 : decode c_Server_serveFid 2 = .ok (.getfield 217, 3) := by decide +kernel
theorem d_Server_serveFid_5 : decode c_Server_serveFid 5 = .ok (.invokevirtual 182, 3) := by decide +kernel
theorem d_Server_serveFid_8 : decode c_Server_serveFid 8 = .ok (.astore_n 2, 1) := by decide +kernel
theorem d_Server_serveFid_9 : decode c_Server_serveFid 9 = .ok (.aload_n 0, 1) := by decide +kernel
theorem d_Server_serveFid_10 : decode c_Server_serveFid 10 = .ok (.aload_n 1, 1) := by decide +kernel
theorem d_Server_serveFid_11 : decode c_Server_serveFid 11 = .ok (.invokevirtual 229, 3) := by decide +kernel
theorem d_Server_serveFid_14 : decode c_Server_serveFid 14 = .ok (.astore_n 3, 1) := by decide +kernel
theorem d_Server_serveFid_15 : decode c_Server_serveFid 15 = .ok (.aload_n 0, 1) := by decide +kernel
theorem d_Server_serveFid_16 : decode c_Server_serveFid 16 = .ok (.getfield 26, 3) := by decide +kernel
theorem d_Server_serveFid_19 : decode c_Server_serveFid 19 = .ok (.getfield 120, 3) := by decide +kernel
theorem d_Server_serveFid_22 : decode c_Server_serveFid 22 = .ok (.bipush 120, 2) := by decide +kernel
theorem d_Server_serveFid_24 : decode c_Server_serveFid 24 = .ok (.if_icmp .ne 10, 3) := by decide +kernel
theorem d_Server_serveFid_27 : decode c_Server_serveFid 27 = .ok (.aload_n 0, 1) := by decide +kernel
theorem d_Server_serveFid_28 : decode c_Server_serveFid 28 = .ok (.aload_n 1, 1) := by decide +kernel
theorem d_Server_serveFid_29 : decode c_Server_serveFid 29 = .ok (.aload_n 3, 1) := by decide +kernel
theorem d_Server_serveFid_30 : decode c_Server_serveFid 30 = .ok (.invokevirtual 263, 3) := by decide +kernel
theorem d_Server_serveFid_33 : decode c_Server_serveFid 33 = .ok (.ireturn, 1) := by decide +kernel
theorem d_Server_serveFid_34 : decode c_Server_serveFid 34 = .ok (.aload_n 0, 1) := by decide +kernel
theorem d_Server_serveFid_35 : decode c_Server_serveFid 35 = .ok (.getfield 26, 3) := by decide +kernel
theorem d_Server_serveFid_38 : decode c_Server_serveFid 38 = .ok (.getfield 120, 3) := by decide +kernel
theorem d_Server_serveFid_41 : decode c_Server_serveFid 41 = .ok (.bipush 122, 2) := by decide +kernel
theorem d_Server_serveFid_43 : decode c_Server_serveFid 43 = .ok (.if_icmp .ne 10, 3) := by decide +kernel
theorem d_Server_serveFid_46 : decode c_Server_serveFid 46 = .ok (.aload_n 0, 1) := by decide +kernel
theorem d_Server_serveFid_47 : decode c_Server_serveFid 47 = .ok (.aload_n 1, 1) := by decide +kernel
theorem d_Server_serveFid_48 : decode c_Server_serveFid 48 = .ok (.aload_n 3, 1) := by decide +kernel
theorem d_Server_serveFid_49 : decode c_Server_serveFid 49 = .ok (.invokevirtual 267, 3) := by decide +kernel
theorem d_Server_serveFid_52 : decode c_Server_serveFid 52 = .ok (.ireturn, 1) := by decide +kernel
theorem d_Server_serveFid_53 : decode c_Server_serveFid 53 = .ok (.aload_n 2, 1) := by decide +kernel
theorem d_Server_serveFid_54 : decode c_Server_serveFid 54 = .ok (.ifnull 7, 3) := by decide +kernel
theorem d_Server_serveFid_57 : decode c_Server_serveFid 57 = .ok (.aload_n 3, 1) := by decide +kernel
theorem d_Server_serveFid_58 : decode c_Server_serveFid 58 = .ok (.ifnonnull 5, 3) := by decide +kernel
theorem d_Server_serveFid_61 : decode c_Server_serveFid 61 = .ok (.iconst 4, 1) := by decide +kernel
theorem d_Server_serveFid_62 : decode c_Server_serveFid 62 = .ok (.ireturn, 1) := by decide +kernel
theorem d_Server_serveFid_63 : decode c_Server_serveFid 63 = .ok (.aload_n 0, 1) := by decide +kernel
theorem d_Server_serveFid_64 : decode c_Server_serveFid 64 = .ok (.getfield 26, 3) := by decide +kernel
theorem d_Server_serveFid_67 : decode c_Server_serveFid 67 = .ok (.getfield 120, 3) := by decide +kernel
theorem d_Server_serveFid_70 : decode c_Server_serveFid 70 = .ok (.tableswitch 147 110 126 #[82, 147, 90, 147, 97, 147, 104, 147, 127, 147, 147, 147, 147, 147, 134, 147, 140], 82) := by decide +kernel
theorem d_Server_serveFid_152 : decode c_Server_serveFid 152 = .ok (.aload_n 0, 1) := by decide +kernel
theorem d_Server_serveFid_153 : decode c_Server_serveFid 153 = .ok (.aload_n 1, 1) := by decide +kernel
theorem d_Server_serveFid_154 : decode c_Server_serveFid 154 = .ok (.aload_n 2, 1) := by decide +kernel
theorem d_Server_serveFid_155 : decode c_Server_serveFid 155 = .ok (.aload_n 3, 1) := by decide +kernel
theorem d_Server_serveFid_156 : decode c_Server_serveFid 156 = .ok (.invokevirtual 270, 3) := by decide +kernel
theorem d_Server_serveFid_159 : decode c_Server_serveFid 159 = .ok (.ireturn, 1) := by decide +kernel
theorem d_Server_serveFid_160 : decode c_Server_serveFid 160 = .ok (.aload_n 0, 1) := by decide +kernel
theorem d_Server_serveFid_161 : decode c_Server_serveFid 161 = .ok (.aload_n 1, 1) := by decide +kernel
theorem d_Server_serveFid_162 : decode c_Server_serveFid 162 = .ok (.aload_n 3, 1) := by decide +kernel
theorem d_Server_serveFid_163 : decode c_Server_serveFid 163 = .ok (.invokevirtual 274, 3) := by decide +kernel
theorem d_Server_serveFid_166 : decode c_Server_serveFid 166 = .ok (.ireturn, 1) := by decide +kernel
theorem d_Server_serveFid_167 : decode c_Server_serveFid 167 = .ok (.aload_n 0, 1) := by decide +kernel
theorem d_Server_serveFid_168 : decode c_Server_serveFid 168 = .ok (.aload_n 1, 1) := by decide +kernel
theorem d_Server_serveFid_169 : decode c_Server_serveFid 169 = .ok (.aload_n 3, 1) := by decide +kernel
theorem d_Server_serveFid_170 : decode c_Server_serveFid 170 = .ok (.invokevirtual 276, 3) := by decide +kernel
theorem d_Server_serveFid_173 : decode c_Server_serveFid 173 = .ok (.ireturn, 1) := by decide +kernel
theorem d_Server_serveFid_174 : decode c_Server_serveFid 174 = .ok (.aload_n 3, 1) := by decide +kernel
theorem d_Server_serveFid_175 : decode c_Server_serveFid 175 = .ok (.invokevirtual 200, 3) := by decide +kernel
theorem d_Server_serveFid_178 : decode c_Server_serveFid 178 = .ok (.ifCond .eq 12, 3) := by decide +kernel
theorem d_Server_serveFid_181 : decode c_Server_serveFid 181 = .ok (.aload_n 0, 1) := by decide +kernel
theorem d_Server_serveFid_182 : decode c_Server_serveFid 182 = .ok (.aload_n 1, 1) := by decide +kernel
theorem d_Server_serveFid_183 : decode c_Server_serveFid 183 = .ok (.aload_n 2, 1) := by decide +kernel
theorem d_Server_serveFid_184 : decode c_Server_serveFid 184 = .ok (.invokevirtual 279, 3) := by decide +kernel
theorem d_Server_serveFid_187 : decode c_Server_serveFid 187 = .ok (.goto 9, 3) := by decide +kernel
theorem d_Server_serveFid_190 : decode c_Server_serveFid 190 = .ok (.aload_n 0, 1) := by decide +kernel
theorem d_Server_serveFid_191 : decode c_Server_serveFid 191 = .ok (.aload_n 1, 1) := by decide +kernel
theorem d_Server_serveFid_192 : decode c_Server_serveFid 192 = .ok (.aload_n 3, 1) := by decide +kernel
theorem d_Server_serveFid_193 : decode c_Server_serveFid 193 = .ok (.invokevirtual 283, 3) := by decide +kernel
theorem d_Server_serveFid_196 : decode c_Server_serveFid 196 = .ok (.ireturn, 1) := by decide +kernel
theorem d_Server_serveFid_197 : decode c_Server_serveFid 197 = .ok (.aload_n 0, 1) := by decide +kernel
theorem d_Server_serveFid_198 : decode c_Server_serveFid 198 = .ok (.aload_n 1, 1) := by decide +kernel
theorem d_Server_serveFid_199 : decode c_Server_serveFid 199 = .ok (.aload_n 3, 1) := by decide +kernel
theorem d_Server_serveFid_200 : decode c_Server_serveFid 200 = .ok (.invokevirtual 286, 3) := by decide +kernel
theorem d_Server_serveFid_203 : decode c_Server_serveFid 203 = .ok (.ireturn, 1) := by decide +kernel
theorem d_Server_serveFid_204 : decode c_Server_serveFid 204 = .ok (.aload_n 0, 1) := by decide +kernel
theorem d_Server_serveFid_205 : decode c_Server_serveFid 205 = .ok (.aload_n 3, 1) := by decide +kernel
theorem d_Server_serveFid_206 : decode c_Server_serveFid 206 = .ok (.invokevirtual 289, 3) := by decide +kernel
theorem d_Server_serveFid_209 : decode c_Server_serveFid 209 = .ok (.ireturn, 1) := by decide +kernel
theorem d_Server_serveFid_210 : decode c_Server_serveFid 210 = .ok (.aload_n 0, 1) := by decide +kernel
theorem d_Server_serveFid_211 : decode c_Server_serveFid 211 = .ok (.aload_n 1, 1) := by decide +kernel
theorem d_Server_serveFid_212 : decode c_Server_serveFid 212 = .ok (.aload_n 3, 1) := by decide +kernel
theorem d_Server_serveFid_213 : decode c_Server_serveFid 213 = .ok (.invokevirtual 293, 3) := by decide +kernel
theorem d_Server_serveFid_216 : decode c_Server_serveFid 216 = .ok (.ireturn, 1) := by decide +kernel
theorem d_Server_serveFid_217 : decode c_Server_serveFid 217 = .ok (.iconst 0, 1) := by decide +kernel
theorem d_Server_serveFid_218 : decode c_Server_serveFid 218 = .ok (.ireturn, 1) := by decide +kernel
abbrev c_Server_agreeOnVersion : ByteArray := prog_1_method_19_code
def y_Server_agreeOnVersion : MethodName := ⟨"EpochServer", "agreeOnVersion", "()I"⟩
theorem d_Server_agreeOnVersion_0 : decode c_Server_agreeOnVersion 0 = .ok (.aload_n 0, 1) := by decide +kernel
theorem d_Server_agreeOnVersion_1 : decode c_Server_agreeOnVersion 1 = .ok (.getfield 33, 3) := by decide +kernel
theorem d_Server_agreeOnVersion_4 : decode c_Server_agreeOnVersion 4 = .ok (.invokevirtual 181, 3) := by decide +kernel
theorem d_Server_agreeOnVersion_7 : decode c_Server_agreeOnVersion 7 = .ok (.aload_n 0, 1) := by decide +kernel
theorem d_Server_agreeOnVersion_8 : decode c_Server_agreeOnVersion 8 = .ok (.iconst 0, 1) := by decide +kernel
theorem d_Server_agreeOnVersion_9 : decode c_Server_agreeOnVersion 9 = .ok (.putfield 72, 3) := by decide +kernel
theorem d_Server_agreeOnVersion_12 : decode c_Server_agreeOnVersion 12 = .ok (.aload_n 0, 1) := by decide +kernel
theorem d_Server_agreeOnVersion_13 : decode c_Server_agreeOnVersion 13 = .ok (.getfield 26, 3) := by decide +kernel
theorem d_Server_agreeOnVersion_16 : decode c_Server_agreeOnVersion 16 = .ok (.getfield 296, 3) := by decide +kernel
theorem d_Server_agreeOnVersion_19 : decode c_Server_agreeOnVersion 19 = .ok (.i2l, 1) := by decide +kernel
theorem d_Server_agreeOnVersion_20 : decode c_Server_agreeOnVersion 20 = .ok (.ldc2_w 299, 3) := by decide +kernel
theorem d_Server_agreeOnVersion_23 : decode c_Server_agreeOnVersion 23 = .ok (.land, 1) := by decide +kernel
theorem d_Server_agreeOnVersion_24 : decode c_Server_agreeOnVersion 24 = .ok (.lstore_n 1, 1) := by decide +kernel
theorem d_Server_agreeOnVersion_25 : decode c_Server_agreeOnVersion 25 = .ok (.lload_n 1, 1) := by decide +kernel
theorem d_Server_agreeOnVersion_26 : decode c_Server_agreeOnVersion 26 = .ok (.ldc2_w 301, 3) := by decide +kernel
theorem d_Server_agreeOnVersion_29 : decode c_Server_agreeOnVersion 29 = .ok (.lcmp, 1) := by decide +kernel
theorem d_Server_agreeOnVersion_30 : decode c_Server_agreeOnVersion 30 = .ok (.ifCond .ge 5, 3) := by decide +kernel
theorem d_Server_agreeOnVersion_33 : decode c_Server_agreeOnVersion 33 = .ok (.iconst 3, 1) := by decide +kernel
theorem d_Server_agreeOnVersion_34 : decode c_Server_agreeOnVersion 34 = .ok (.ireturn, 1) := by decide +kernel
theorem d_Server_agreeOnVersion_35 : decode c_Server_agreeOnVersion 35 = .ok (.lload_n 1, 1) := by decide +kernel
theorem d_Server_agreeOnVersion_36 : decode c_Server_agreeOnVersion 36 = .ok (.ldc2_w 303, 3) := by decide +kernel
theorem d_Server_agreeOnVersion_39 : decode c_Server_agreeOnVersion 39 = .ok (.invokestatic 305, 3) := by decide +kernel
theorem d_Server_agreeOnVersion_42 : decode c_Server_agreeOnVersion 42 = .ok (.l2i, 1) := by decide +kernel
theorem d_Server_agreeOnVersion_43 : decode c_Server_agreeOnVersion 43 = .ok (.istore_n 3, 1) := by decide +kernel
theorem d_Server_agreeOnVersion_44 : decode c_Server_agreeOnVersion 44 = .ok (.aload_n 0, 1) := by decide +kernel
theorem d_Server_agreeOnVersion_45 : decode c_Server_agreeOnVersion 45 = .ok (.getfield 26, 3) := by decide +kernel
theorem d_Server_agreeOnVersion_48 : decode c_Server_agreeOnVersion 48 = .ok (.getstatic 309, 3) := by decide +kernel
theorem d_Server_agreeOnVersion_51 : decode c_Server_agreeOnVersion 51 = .ok (.invokevirtual 312, 3) := by decide +kernel
theorem d_Server_agreeOnVersion_54 : decode c_Server_agreeOnVersion 54 = .ok (.istore 4, 2) := by decide +kernel
theorem d_Server_agreeOnVersion_56 : decode c_Server_agreeOnVersion 56 = .ok (.aload_n 0, 1) := by decide +kernel
theorem d_Server_agreeOnVersion_57 : decode c_Server_agreeOnVersion 57 = .ok (.getfield 18, 3) := by decide +kernel
theorem d_Server_agreeOnVersion_60 : decode c_Server_agreeOnVersion 60 = .ok (.iload_n 3, 1) := by decide +kernel
theorem d_Server_agreeOnVersion_61 : decode c_Server_agreeOnVersion 61 = .ok (.i2l, 1) := by decide +kernel
theorem d_Server_agreeOnVersion_62 : decode c_Server_agreeOnVersion 62 = .ok (.iconst 4, 1) := by decide +kernel
theorem d_Server_agreeOnVersion_63 : decode c_Server_agreeOnVersion 63 = .ok (.invokevirtual 129, 3) := by decide +kernel
theorem d_Server_agreeOnVersion_66 : decode c_Server_agreeOnVersion 66 = .ok (.aload_n 0, 1) := by decide +kernel
theorem d_Server_agreeOnVersion_67 : decode c_Server_agreeOnVersion 67 = .ok (.getfield 18, 3) := by decide +kernel
theorem d_Server_agreeOnVersion_70 : decode c_Server_agreeOnVersion 70 = .ok (.iload 4, 2) := by decide +kernel
theorem d_Server_agreeOnVersion_72 : decode c_Server_agreeOnVersion 72 = .ok (.ifCond .eq 9, 3) := by decide +kernel
theorem d_Server_agreeOnVersion_75 : decode c_Server_agreeOnVersion 75 = .ok (.getstatic 309, 3) := by decide +kernel
theorem d_Server_agreeOnVersion_78 : decode c_Server_agreeOnVersion 78 = .ok (.goto 6, 3) := by decide +kernel
theorem d_Server_agreeOnVersion_81 : decode c_Server_agreeOnVersion 81 = .ok (.getstatic 316, 3) := by decide +kernel
theorem d_Server_agreeOnVersion_84 : decode c_Server_agreeOnVersion 84 = .ok (.invokevirtual 319, 3) := by decide +kernel
theorem d_Server_agreeOnVersion_87 : decode c_Server_agreeOnVersion 87 = .ok (.iload 4, 2) := by decide +kernel
theorem d_Server_agreeOnVersion_89 : decode c_Server_agreeOnVersion 89 = .ok (.ifCond .eq 8, 3) := by decide +kernel
theorem d_Server_agreeOnVersion_92 : decode c_Server_agreeOnVersion 92 = .ok (.aload_n 0, 1) := by decide +kernel
theorem d_Server_agreeOnVersion_93 : decode c_Server_agreeOnVersion 93 = .ok (.iload_n 3, 1) := by decide +kernel
theorem d_Server_agreeOnVersion_94 : decode c_Server_agreeOnVersion 94 = .ok (.putfield 72, 3) := by decide +kernel
theorem d_Server_agreeOnVersion_97 : decode c_Server_agreeOnVersion 97 = .ok (.iconst 0, 1) := by decide +kernel
theorem d_Server_agreeOnVersion_98 : decode c_Server_agreeOnVersion 98 = .ok (.ireturn, 1) := by decide +kernel
abbrev c_Server_attach : ByteArray := prog_1_method_20_code
def y_Server_attach : MethodName := ⟨"EpochServer", "attach", "()I"⟩
theorem d_Server_attach_0 : decode c_Server_attach 0 = .ok (.aload_n 0, 1) := by decide +kernel
theorem d_Server_attach_1 : decode c_Server_attach 1 = .ok (.getfield 26, 3) := by decide +kernel
theorem d_Server_attach_4 : decode c_Server_attach 4 = .ok (.getfield 296, 3) := by decide +kernel
theorem d_Server_attach_7 : decode c_Server_attach 7 = .ok (.iconst (-1), 1) := by decide +kernel
theorem d_Server_attach_8 : decode c_Server_attach 8 = .ok (.if_icmp .eq 5, 3) := by decide +kernel
theorem d_Server_attach_11 : decode c_Server_attach 11 = .ok (.iconst 3, 1) := by decide +kernel
theorem d_Server_attach_12 : decode c_Server_attach 12 = .ok (.ireturn, 1) := by decide +kernel
theorem d_Server_attach_13 : decode c_Server_attach 13 = .ok (.aload_n 0, 1) := by decide +kernel
theorem d_Server_attach_14 : decode c_Server_attach 14 = .ok (.getfield 33, 3) := by decide +kernel
theorem d_Server_attach_17 : decode c_Server_attach 17 = .ok (.aload_n 0, 1) := by decide +kernel
theorem d_Server_attach_18 : decode c_Server_attach 18 = .ok (.getfield 26, 3) := by decide +kernel
theorem d_Server_attach_21 : decode c_Server_attach 21 = .ok (.getfield 256, 3) := by decide +kernel
theorem d_Server_attach_24 : decode c_Server_attach 24 = .ok (.invokevirtual 213, 3) := by decide +kernel
theorem d_Server_attach_27 : decode c_Server_attach 27 = .ok (.ifnull 5, 3) := by decide +kernel
theorem d_Server_attach_30 : decode c_Server_attach 30 = .ok (.iconst 5, 1) := by decide +kernel
theorem d_Server_attach_31 : decode c_Server_attach 31 = .ok (.ireturn, 1) := by decide +kernel
theorem d_Server_attach_32 : decode c_Server_attach 32 = .ok (.aload_n 0, 1) := by decide +kernel
theorem d_Server_attach_33 : decode c_Server_attach 33 = .ok (.getfield 26, 3) := by decide +kernel
theorem d_Server_attach_36 : decode c_Server_attach 36 = .ok (.invokevirtual 323, 3) := by decide +kernel
theorem d_Server_attach_39 : decode c_Server_attach 39 = .ok (.istore_n 1, 1) := by decide +kernel
theorem d_Server_attach_40 : decode c_Server_attach 40 = .ok (.aload_n 0, 1) := by decide +kernel
theorem d_Server_attach_41 : decode c_Server_attach 41 = .ok (.iload_n 1, 1) := by decide +kernel
theorem d_Server_attach_42 : decode c_Server_attach 42 = .ok (.invokevirtual 182, 3) := by decide +kernel
theorem d_Server_attach_45 : decode c_Server_attach 45 = .ok (.astore_n 2, 1) := by decide +kernel
theorem d_Server_attach_46 : decode c_Server_attach 46 = .ok (.aload_n 2, 1) := by decide +kernel
theorem d_Server_attach_47 : decode c_Server_attach 47 = .ok (.ifnonnull 7, 3) := by decide +kernel
theorem d_Server_attach_50 : decode c_Server_attach 50 = .ok (.aconst_null, 1) := by decide +kernel
theorem d_Server_attach_51 : decode c_Server_attach 51 = .ok (.goto 8, 3) := by decide +kernel
theorem d_Server_attach_54 : decode c_Server_attach 54 = .ok (.aload_n 2, 1) := by decide +kernel
theorem d_Server_attach_55 : decode c_Server_attach 55 = .ok (.iconst 0, 1) := by decide +kernel
theorem d_Server_attach_56 : decode c_Server_attach 56 = .ok (.invokevirtual 185, 3) := by decide +kernel
theorem d_Server_attach_59 : decode c_Server_attach 59 = .ok (.astore_n 3, 1) := by decide +kernel
theorem d_Server_attach_60 : decode c_Server_attach 60 = .ok (.aload_n 3, 1) := by decide +kernel
theorem d_Server_attach_61 : decode c_Server_attach 61 = .ok (.ifnonnull 6, 3) := by decide +kernel
theorem d_Server_attach_64 : decode c_Server_attach 64 = .ok (.bipush 6, 2) := by decide +kernel
theorem d_Server_attach_66 : decode c_Server_attach 66 = .ok (.ireturn, 1) := by decide +kernel
theorem d_Server_attach_67 : decode c_Server_attach 67 = .ok (.aload_n 0, 1) := by decide +kernel
theorem d_Server_attach_68 : decode c_Server_attach 68 = .ok (.getfield 33, 3) := by decide +kernel
theorem d_Server_attach_71 : decode c_Server_attach 71 = .ok (.aload_n 0, 1) := by decide +kernel
theorem d_Server_attach_72 : decode c_Server_attach 72 = .ok (.getfield 26, 3) := by decide +kernel
theorem d_Server_attach_75 : decode c_Server_attach 75 = .ok (.getfield 256, 3) := by decide +kernel
theorem d_Server_attach_78 : decode c_Server_attach 78 = .ok (.iload_n 1, 1) := by decide +kernel
theorem d_Server_attach_79 : decode c_Server_attach 79 = .ok (.iconst 0, 1) := by decide +kernel
theorem d_Server_attach_80 : decode c_Server_attach 80 = .ok (.invokevirtual 326, 3) := by decide +kernel
theorem d_Server_attach_83 : decode c_Server_attach 83 = .ok (.ifCond .ne 6, 3) := by decide +kernel
theorem d_Server_attach_86 : decode c_Server_attach 86 = .ok (.bipush 7, 2) := by decide +kernel
theorem d_Server_attach_88 : decode c_Server_attach 88 = .ok (.ireturn, 1) := by decide +kernel
theorem d_Server_attach_89 : decode c_Server_attach 89 = .ok (.aload_n 0, 1) := by decide +kernel
theorem d_Server_attach_90 : decode c_Server_attach 90 = .ok (.getfield 18, 3) := by decide +kernel
theorem d_Server_attach_93 : decode c_Server_attach 93 = .ok (.aload_n 3, 1) := by decide +kernel
theorem d_Server_attach_94 : decode c_Server_attach 94 = .ok (.invokevirtual 330, 3) := by decide +kernel
theorem d_Server_attach_97 : decode c_Server_attach 97 = .ok (.iconst 0, 1) := by decide +kernel
theorem d_Server_attach_98 : decode c_Server_attach 98 = .ok (.ireturn, 1) := by decide +kernel
abbrev c_Server_walk : ByteArray := prog_1_method_21_code
def y_Server_walk : MethodName := ⟨"EpochServer", "walk", "(LEpochServer$Fid;LEpochServer$Tree;LEpochServer$Node;)I"⟩
theorem d_Server_walk_0 : decode c_Server_walk 0 = .ok (.aload_n 0, 1) := by decide +kernel
theorem d_Server_walk_1 : decode c_Server_walk 1 = .ok (.getfield 26, 3) := by decide +kernel
theorem d_Server_walk_4 : decode c_Server_walk 4 = .ok (.getfield 296, 3) := by decide +kernel
theorem d_Server_walk_7 : decode c_Server_walk 7 = .ok (.aload_n 0, 1) := by decide +kernel
theorem d_Server_walk_8 : decode c_Server_walk 8 = .ok (.getfield 26, 3) := by decide +kernel
theorem d_Server_walk_11 : decode c_Server_walk 11 = .ok (.getfield 256, 3) := by decide +kernel
theorem d_Server_walk_14 : decode c_Server_walk 14 = .ok (.if_icmp .ne 7, 3) := by decide +kernel
theorem d_Server_walk_17 : decode c_Server_walk 17 = .ok (.iconst 1, 1) := by decide +kernel
theorem d_Server_walk_18 : decode c_Server_walk 18 = .ok (.goto 4, 3) := by decide +kernel
theorem d_Server_walk_21 : decode c_Server_walk 21 = .ok (.iconst 0, 1) := by decide +kernel
theorem d_Server_walk_22 : decode c_Server_walk 22 = .ok (.istore 4, 2) := by decide +kernel
theorem d_Server_walk_24 : decode c_Server_walk 24 = .ok (.aload_n 1, 1) := by decide +kernel
theorem d_Server_walk_25 : decode c_Server_walk 25 = .ok (.getfield 224, 3) := by decide +kernel
theorem d_Server_walk_28 : decode c_Server_walk 28 = .ok (.ifCond .eq 5, 3) := by decide +kernel
theorem d_Server_walk_31 : decode c_Server_walk 31 = .ok (.iconst 3, 1) := by decide +kernel
theorem d_Server_walk_32 : decode c_Server_walk 32 = .ok (.ireturn, 1) := by decide +kernel
theorem d_Server_walk_33 : decode c_Server_walk 33 = .ok (.iload 4, 2) := by decide +kernel
theorem d_Server_walk_35 : decode c_Server_walk 35 = .ok (.ifCond .ne 22, 3) := by decide +kernel
theorem d_Server_walk_38 : decode c_Server_walk 38 = .ok (.aload_n 0, 1) := by decide +kernel
theorem d_Server_walk_39 : decode c_Server_walk 39 = .ok (.getfield 33, 3) := by decide +kernel
theorem d_Server_walk_42 : decode c_Server_walk 42 = .ok (.aload_n 0, 1) := by decide +kernel
theorem d_Server_walk_43 : decode c_Server_walk 43 = .ok (.getfield 26, 3) := by decide +kernel
theorem d_Server_walk_46 : decode c_Server_walk 46 = .ok (.getfield 296, 3) := by decide +kernel
theorem d_Server_walk_49 : decode c_Server_walk 49 = .ok (.invokevirtual 213, 3) := by decide +kernel
theorem d_Server_walk_52 : decode c_Server_walk 52 = .ok (.ifnull 5, 3) := by decide +kernel
theorem d_Server_walk_55 : decode c_Server_walk 55 = .ok (.iconst 5, 1) := by decide +kernel
theorem d_Server_walk_56 : decode c_Server_walk 56 = .ok (.ireturn, 1) := by decide +kernel
theorem d_Server_walk_57 : decode c_Server_walk 57 = .ok (.aload_n 0, 1) := by decide +kernel
theorem d_Server_walk_58 : decode c_Server_walk 58 = .ok (.getfield 26, 3) := by decide +kernel
theorem d_Server_walk_61 : decode c_Server_walk 61 = .ok (.getfield 333, 3) := by decide +kernel
theorem d_Server_walk_64 : decode c_Server_walk 64 = .ok (.bipush 16, 2) := by decide +kernel
theorem d_Server_walk_66 : decode c_Server_walk 66 = .ok (.if_icmp .le 6, 3) := by decide +kernel
theorem d_Server_walk_69 : decode c_Server_walk 69 = .ok (.bipush 6, 2) := by decide +kernel
theorem d_Server_walk_71 : decode c_Server_walk 71 = .ok (.ireturn, 1) := by decide +kernel
theorem d_Server_walk_72 : decode c_Server_walk 72 = .ok (.iload 4, 2) := by decide +kernel
theorem d_Server_walk_74 : decode c_Server_walk 74 = .ok (.ifCond .ne 18, 3) := by decide +kernel
theorem d_Server_walk_77 : decode c_Server_walk 77 = .ok (.aload_n 0, 1) := by decide +kernel
theorem d_Server_walk_78 : decode c_Server_walk 78 = .ok (.getfield 33, 3) := by decide +kernel
theorem d_Server_walk_81 : decode c_Server_walk 81 = .ok (.invokevirtual 234, 3) := by decide +kernel
theorem d_Server_walk_84 : decode c_Server_walk 84 = .ok (.bipush 24, 2) := by decide +kernel
theorem d_Server_walk_86 : decode c_Server_walk 86 = .ok (.if_icmp .lt 6, 3) := by decide +kernel
theorem d_Server_walk_89 : decode c_Server_walk 89 = .ok (.bipush 7, 2) := by decide +kernel
theorem d_Server_walk_91 : decode c_Server_walk 91 = .ok (.ireturn, 1) := by decide +kernel
theorem d_Server_walk_92 : decode c_Server_walk 92 = .ok (.aload_n 3, 1) := by decide +kernel
theorem d_Server_walk_93 : decode c_Server_walk 93 = .ok (.astore 5, 2) := by decide +kernel
theorem d_Server_walk_95 : decode c_Server_walk 95 = .ok (.iconst 0, 1) := by decide +kernel
theorem d_Server_walk_96 : decode c_Server_walk 96 = .ok (.istore 6, 2) := by decide +kernel
theorem d_Server_walk_98 : decode c_Server_walk 98 = .ok (.aload_n 0, 1) := by decide +kernel
theorem d_Server_walk_99 : decode c_Server_walk 99 = .ok (.getfield 18, 3) := by decide +kernel
theorem d_Server_walk_102 : decode c_Server_walk 102 = .ok (.lconst 0, 1) := by decide +kernel
theorem d_Server_walk_103 : decode c_Server_walk 103 = .ok (.iconst 2, 1) := by decide +kernel
theorem d_Server_walk_104 : decode c_Server_walk 104 = .ok (.invokevirtual 129, 3) := by decide +kernel
theorem d_Server_walk_107 : decode c_Server_walk 107 = .ok (.aload_n 0, 1) := by decide +kernel
theorem d_Server_walk_108 : decode c_Server_walk 108 = .ok (.getfield 26, 3) := by decide +kernel
theorem d_Server_walk_111 : decode c_Server_walk 111 = .ok (.invokevirtual 336, 3) := by decide +kernel
theorem d_Server_walk_114 : decode c_Server_walk 114 = .ok (.iconst 0, 1) := by decide +kernel
theorem d_Server_walk_115 : decode c_Server_walk 115 = .ok (.istore 7, 2) := by decide +kernel
theorem d_Server_walk_117 : decode c_Server_walk 117 = .ok (.iload 7, 2) := by decide +kernel
theorem d_Server_walk_119 : decode c_Server_walk 119 = .ok (.aload_n 0, 1) := by decide +kernel
theorem d_Server_walk_120 : decode c_Server_walk 120 = .ok (.getfield 26, 3) := by decide +kernel
theorem d_Server_walk_123 : decode c_Server_walk 123 = .ok (.getfield 333, 3) := by decide +kernel
theorem d_Server_walk_126 : decode c_Server_walk 126 = .ok (.if_icmp .ge 49, 3) := by decide +kernel
theorem d_Server_walk_129 : decode c_Server_walk 129 = .ok (.aload_n 0, 1) := by decide +kernel
theorem d_Server_walk_130 : decode c_Server_walk 130 = .ok (.getfield 26, 3) := by decide +kernel
theorem d_Server_walk_133 : decode c_Server_walk 133 = .ok (.invokevirtual 339, 3) := by decide +kernel
theorem d_Server_walk_136 : decode c_Server_walk 136 = .ok (.aload_n 0, 1) := by decide +kernel
theorem d_Server_walk_137 : decode c_Server_walk 137 = .ok (.aload_n 2, 1) := by decide +kernel
theorem d_Server_walk_138 : decode c_Server_walk 138 = .ok (.aload 5, 2) := by decide +kernel
theorem d_Server_walk_140 : decode c_Server_walk 140 = .ok (.invokevirtual 342, 3) := by decide +kernel
theorem d_Server_walk_143 : decode c_Server_walk 143 = .ok (.astore 8, 2) := by decide +kernel
theorem d_Server_walk_145 : decode c_Server_walk 145 = .ok (.aload 8, 2) := by decide +kernel
theorem d_Server_walk_147 : decode c_Server_walk 147 = .ok (.ifnonnull 6, 3) := by decide +kernel
theorem d_Server_walk_150 : decode c_Server_walk 150 = .ok (.goto 25, 3) := by decide +kernel
theorem d_Server_walk_153 : decode c_Server_walk 153 = .ok (.aload 8, 2) := by decide +kernel
theorem d_Server_walk_155 : decode c_Server_walk 155 = .ok (.astore 5, 2) := by decide +kernel
theorem d_Server_walk_157 : decode c_Server_walk 157 = .ok (.iinc 6 1, 3) := by decide +kernel
theorem d_Server_walk_160 : decode c_Server_walk 160 = .ok (.aload_n 0, 1) := by decide +kernel
theorem d_Server_walk_161 : decode c_Server_walk 161 = .ok (.getfield 18, 3) := by decide +kernel
theorem d_Server_walk_164 : decode c_Server_walk 164 = .ok (.aload 5, 2) := by decide +kernel
theorem d_Server_walk_166 : decode c_Server_walk 166 = .ok (.invokevirtual 330, 3) := by decide +kernel
theorem d_Server_walk_169 : decode c_Server_walk 169 = .ok (.iinc 7 1, 3) := by decide +kernel
theorem d_Server_walk_172 : decode c_Server_walk 172 = .ok (.goto (-55), 3) := by decide +kernel
theorem d_Server_walk_175 : decode c_Server_walk 175 = .ok (.iload 6, 2) := by decide +kernel
theorem d_Server_walk_177 : decode c_Server_walk 177 = .ok (.ifCond .ne 16, 3) := by decide +kernel
theorem d_Server_walk_180 : decode c_Server_walk 180 = .ok (.aload_n 0, 1) := by decide +kernel
theorem d_Server_walk_181 : decode c_Server_walk 181 = .ok (.getfield 26, 3) := by decide +kernel
theorem d_Server_walk_184 : decode c_Server_walk 184 = .ok (.getfield 333, 3) := by decide +kernel
theorem d_Server_walk_187 : decode c_Server_walk 187 = .ok (.ifCond .le 6, 3) := by decide +kernel
theorem d_Server_walk_190 : decode c_Server_walk 190 = .ok (.bipush 8, 2) := by decide +kernel
theorem d_Server_walk_192 : decode c_Server_walk 192 = .ok (.ireturn, 1) := by decide +kernel
theorem d_Server_walk_193 : decode c_Server_walk 193 = .ok (.aload_n 0, 1) := by decide +kernel
theorem d_Server_walk_194 : decode c_Server_walk 194 = .ok (.getfield 18, 3) := by decide +kernel
theorem d_Server_walk_197 : decode c_Server_walk 197 = .ok (.bipush 7, 2) := by decide +kernel
theorem d_Server_walk_199 : decode c_Server_walk 199 = .ok (.iload 6, 2) := by decide +kernel
theorem d_Server_walk_201 : decode c_Server_walk 201 = .ok (.iconst 2, 1) := by decide +kernel
theorem d_Server_walk_202 : decode c_Server_walk 202 = .ok (.invokevirtual 112, 3) := by decide +kernel
theorem d_Server_walk_205 : decode c_Server_walk 205 = .ok (.iload 6, 2) := by decide +kernel
theorem d_Server_walk_207 : decode c_Server_walk 207 = .ok (.aload_n 0, 1) := by decide +kernel
theorem d_Server_walk_208 : decode c_Server_walk 208 = .ok (.getfield 26, 3) := by decide +kernel
theorem d_Server_walk_211 : decode c_Server_walk 211 = .ok (.getfield 333, 3) := by decide +kernel
theorem d_Server_walk_214 : decode c_Server_walk 214 = .ok (.if_icmp .ne 15, 3) := by decide +kernel
theorem d_Server_walk_217 : decode c_Server_walk 217 = .ok (.aload_n 0, 1) := by decide +kernel
theorem d_Server_walk_218 : decode c_Server_walk 218 = .ok (.aload_n 1, 1) := by decide +kernel
theorem d_Server_walk_219 : decode c_Server_walk 219 = .ok (.iload 4, 2) := by decide +kernel
theorem d_Server_walk_221 : decode c_Server_walk 221 = .ok (.aload 5, 2) := by decide +kernel
theorem d_Server_walk_223 : decode c_Server_walk 223 = .ok (.getfield 346, 3) := by decide +kernel
theorem d_Server_walk_226 : decode c_Server_walk 226 = .ok (.invokevirtual 347, 3) := by decide +kernel
theorem d_Server_walk_229 : decode c_Server_walk 229 = .ok (.iconst 0, 1) := by decide +kernel
theorem d_Server_walk_230 : decode c_Server_walk 230 = .ok (.ireturn, 1) := by decide +kernel
abbrev c_Server_step : ByteArray := prog_1_method_22_code
def y_Server_step : MethodName := ⟨"EpochServer", "step", "(LEpochServer$Tree;LEpochServer$Node;)LEpochServer$Node;"⟩
theorem d_Server_step_0 : decode c_Server_step 0 = .ok (.aload_n 2, 1) := by decide +kernel
theorem d_Server_step_1 : decode c_Server_step 1 = .ok (.invokevirtual 200, 3) := by decide +kernel
theorem d_Server_step_4 : decode c_Server_step 4 = .ok (.ifCond .ne 5, 3) := by decide +kernel
theorem d_Server_step_7 : decode c_Server_step 7 = .ok (.aconst_null, 1) := by decide +kernel
theorem d_Server_step_8 : decode c_Server_step 8 = .ok (.areturn, 1) := by decide +kernel
theorem d_Server_step_9 : decode c_Server_step 9 = .ok (.aload_n 0, 1) := by decide +kernel
theorem d_Server_step_10 : decode c_Server_step 10 = .ok (.getfield 26, 3) := by decide +kernel
theorem d_Server_step_13 : decode c_Server_step 13 = .ok (.invokevirtual 351, 3) := by decide +kernel
theorem d_Server_step_16 : decode c_Server_step 16 = .ok (.ifCond .eq 14, 3) := by decide +kernel
theorem d_Server_step_19 : decode c_Server_step 19 = .ok (.aload_n 1, 1) := by decide +kernel
theorem d_Server_step_20 : decode c_Server_step 20 = .ok (.aload_n 2, 1) := by decide +kernel
theorem d_Server_step_21 : decode c_Server_step 21 = .ok (.getfield 188, 3) := by decide +kernel
theorem d_Server_step_24 : decode c_Server_step 24 = .ok (.invokevirtual 185, 3) := by decide +kernel
theorem d_Server_step_27 : decode c_Server_step 27 = .ok (.goto 15, 3) := by decide +kernel
theorem d_Server_step_30 : decode c_Server_step 30 = .ok (.aload_n 1, 1) := by decide +kernel
theorem d_Server_step_31 : decode c_Server_step 31 = .ok (.aload_n 2, 1) := by decide +kernel
theorem d_Server_step_32 : decode c_Server_step 32 = .ok (.getfield 346, 3) := by decide +kernel
theorem d_Server_step_35 : decode c_Server_step 35 = .ok (.aload_n 0, 1) := by decide +kernel
theorem d_Server_step_36 : decode c_Server_step 36 = .ok (.getfield 26, 3) := by decide +kernel
theorem d_Server_step_39 : decode c_Server_step 39 = .ok (.invokevirtual 354, 3) := by decide +kernel
theorem d_Server_step_42 : decode c_Server_step 42 = .ok (.areturn, 1) := by decide +kernel
abbrev c_Server_settle : ByteArray := prog_1_method_23_code
def y_Server_settle : MethodName := ⟨"EpochServer", "settle", "(LEpochServer$Fid;ZI)V"⟩
theorem d_Server_settle_0 : decode c_Server_settle 0 = .ok (.iload_n 2, 1) := by decide +kernel
theorem d_Server_settle_1 : decode c_Server_settle 1 = .ok (.ifCond .eq 11, 3) := by decide +kernel
theorem d_Server_settle_4 : decode c_Server_settle 4 = .ok (.aload_n 1, 1) := by decide +kernel
theorem d_Server_settle_5 : decode c_Server_settle 5 = .ok (.iload_n 3, 1) := by decide +kernel
theorem d_Server_settle_6 : decode c_Server_settle 6 = .ok (.putfield 221, 3) := by decide +kernel
theorem d_Server_settle_9 : decode c_Server_settle 9 = .ok (.goto 23, 3) := by decide +kernel
theorem d_Server_settle_12 : decode c_Server_settle 12 = .ok (.aload_n 0, 1) := by decide +kernel
theorem d_Server_settle_13 : decode c_Server_settle 13 = .ok (.getfield 33, 3) := by decide +kernel
theorem d_Server_settle_16 : decode c_Server_settle 16 = .ok (.aload_n 0, 1) := by decide +kernel
theorem d_Server_settle_17 : decode c_Server_settle 17 = .ok (.getfield 26, 3) := by decide +kernel
theorem d_Server_settle_20 : decode c_Server_settle 20 = .ok (.getfield 296, 3) := by decide +kernel
theorem d_Server_settle_23 : decode c_Server_settle 23 = .ok (.aload_n 1, 1) := by decide +kernel
theorem d_Server_settle_24 : decode c_Server_settle 24 = .ok (.getfield 217, 3) := by decide +kernel
theorem d_Server_settle_27 : decode c_Server_settle 27 = .ok (.iload_n 3, 1) := by decide +kernel
theorem d_Server_settle_28 : decode c_Server_settle 28 = .ok (.invokevirtual 326, 3) := by decide +kernel
theorem d_Server_settle_31 : decode c_Server_settle 31 = .ok (.pop, 1) := by decide +kernel
theorem d_Server_settle_32 : decode c_Server_settle 32 = .ok (.return_, 1) := by decide +kernel
abbrev c_Server_open : ByteArray := prog_1_method_24_code
def y_Server_open : MethodName := ⟨"EpochServer", "open", "(LEpochServer$Fid;LEpochServer$Node;)I"⟩
theorem d_Server_open_0 : decode c_Server_open 0 = .ok (.aload_n 0, 1) := by decide +kernel
theorem d_Server_open_1 : decode c_Server_open 1 = .ok (.getfield 26, 3) := by decide +kernel
theorem d_Server_open_4 : decode c_Server_open 4 = .ok (.getfield 358, 3) := by decide +kernel
theorem d_Server_open_7 : decode c_Server_open 7 = .ok (.istore_n 3, 1) := by decide +kernel
theorem d_Server_open_8 : decode c_Server_open 8 = .ok (.aload_n 1, 1) := by decide +kernel
theorem d_Server_open_9 : decode c_Server_open 9 = .ok (.getfield 224, 3) := by decide +kernel
theorem d_Server_open_12 : decode c_Server_open 12 = .ok (.ifCond .eq 5, 3) := by decide +kernel
theorem d_Server_open_15 : decode c_Server_open 15 = .ok (.iconst 3, 1) := by decide +kernel
theorem d_Server_open_16 : decode c_Server_open 16 = .ok (.ireturn, 1) := by decide +kernel
theorem d_Server_open_17 : decode c_Server_open 17 = .ok (.iload_n 3, 1) := by decide +kernel
theorem d_Server_open_18 : decode c_Server_open 18 = .ok (.invokestatic 359, 3) := by decide +kernel
theorem d_Server_open_21 : decode c_Server_open 21 = .ok (.ifCond .eq 5, 3) := by decide +kernel
theorem d_Server_open_24 : decode c_Server_open 24 = .ok (.iconst 5, 1) := by decide +kernel
theorem d_Server_open_25 : decode c_Server_open 25 = .ok (.ireturn, 1) := by decide +kernel
theorem d_Server_open_26 : decode c_Server_open 26 = .ok (.iload_n 3, 1) := by decide +kernel
theorem d_Server_open_27 : decode c_Server_open 27 = .ok (.ifCond .eq 21, 3) := by decide +kernel
theorem d_Server_open_30 : decode c_Server_open 30 = .ok (.aload_n 2, 1) := by decide +kernel
theorem d_Server_open_31 : decode c_Server_open 31 = .ok (.invokevirtual 200, 3) := by decide +kernel
theorem d_Server_open_34 : decode c_Server_open 34 = .ok (.ifCond .ne 11, 3) := by decide +kernel
theorem d_Server_open_37 : decode c_Server_open 37 = .ok (.aload_n 1, 1) := by decide +kernel
theorem d_Server_open_38 : decode c_Server_open 38 = .ok (.getfield 217, 3) := by decide +kernel
theorem d_Server_open_41 : decode c_Server_open 41 = .ok (.iconst (-1), 1) := by decide +kernel
theorem d_Server_open_42 : decode c_Server_open 42 = .ok (.if_icmp .eq 6, 3) := by decide +kernel
theorem d_Server_open_45 : decode c_Server_open 45 = .ok (.bipush 6, 2) := by decide +kernel
theorem d_Server_open_47 : decode c_Server_open 47 = .ok (.ireturn, 1) := by decide +kernel
theorem d_Server_open_48 : decode c_Server_open 48 = .ok (.aload_n 2, 1) := by decide +kernel
theorem d_Server_open_49 : decode c_Server_open 49 = .ok (.getfield 194, 3) := by decide +kernel
theorem d_Server_open_52 : decode c_Server_open 52 = .ok (.iload_n 3, 1) := by decide +kernel
theorem d_Server_open_53 : decode c_Server_open 53 = .ok (.invokestatic 362, 3) := by decide +kernel
theorem d_Server_open_56 : decode c_Server_open 56 = .ok (.ifCond .eq 6, 3) := by decide +kernel
theorem d_Server_open_59 : decode c_Server_open 59 = .ok (.bipush 7, 2) := by decide +kernel
theorem d_Server_open_61 : decode c_Server_open 61 = .ok (.ireturn, 1) := by decide +kernel
theorem d_Server_open_62 : decode c_Server_open 62 = .ok (.aload_n 1, 1) := by decide +kernel
theorem d_Server_open_63 : decode c_Server_open 63 = .ok (.iload_n 3, 1) := by decide +kernel
theorem d_Server_open_64 : decode c_Server_open 64 = .ok (.invokevirtual 366, 3) := by decide +kernel
theorem d_Server_open_67 : decode c_Server_open 67 = .ok (.aload_n 2, 1) := by decide +kernel
theorem d_Server_open_68 : decode c_Server_open 68 = .ok (.astore 4, 2) := by decide +kernel
theorem d_Server_open_70 : decode c_Server_open 70 = .ok (.iload_n 3, 1) := by decide +kernel
theorem d_Server_open_71 : decode c_Server_open 71 = .ok (.bipush 16, 2) := by decide +kernel
theorem d_Server_open_73 : decode c_Server_open 73 = .ok (.iand, 1) := by decide +kernel
theorem d_Server_open_74 : decode c_Server_open 74 = .ok (.ifCond .eq 44, 3) := by decide +kernel
theorem d_Server_open_77 : decode c_Server_open 77 = .ok (.aload_n 2, 1) := by decide +kernel
theorem d_Server_open_78 : decode c_Server_open 78 = .ok (.getfield 207, 3) := by decide +kernel
theorem d_Server_open_81 : decode c_Server_open 81 = .ok (.arraylength, 1) := by decide +kernel
theorem d_Server_open_82 : decode c_Server_open 82 = .ok (.ifCond .le 36, 3) := by decide +kernel
theorem d_Server_open_85 : decode c_Server_open 85 = .ok (.aload_n 2, 1) := by decide +kernel
theorem d_Server_open_86 : decode c_Server_open 86 = .ok (.getstatic 88, 3) := by decide +kernel
theorem d_Server_open_89 : decode c_Server_open 89 = .ok (.aload_n 0, 1) := by decide +kernel
theorem d_Server_open_90 : decode c_Server_open 90 = .ok (.getfield 69, 3) := by decide +kernel
theorem d_Server_open_93 : decode c_Server_open 93 = .ok (.invokevirtual 369, 3) := by decide +kernel
theorem d_Server_open_96 : decode c_Server_open 96 = .ok (.astore 4, 2) := by decide +kernel
theorem d_Server_open_98 : decode c_Server_open 98 = .ok (.aload_n 0, 1) := by decide +kernel
theorem d_Server_open_99 : decode c_Server_open 99 = .ok (.getfield 47, 3) := by decide +kernel
theorem d_Server_open_102 : decode c_Server_open 102 = .ok (.aload_n 0, 1) := by decide +kernel
theorem d_Server_open_103 : decode c_Server_open 103 = .ok (.getfield 40, 3) := by decide +kernel
theorem d_Server_open_106 : decode c_Server_open 106 = .ok (.invokevirtual 373, 3) := by decide +kernel
theorem d_Server_open_109 : decode c_Server_open 109 = .ok (.aload_n 0, 1) := by decide +kernel
theorem d_Server_open_110 : decode c_Server_open 110 = .ok (.getfield 40, 3) := by decide +kernel
theorem d_Server_open_113 : decode c_Server_open 113 = .ok (.aload 4, 2) := by decide +kernel
theorem d_Server_open_115 : decode c_Server_open 115 = .ok (.invokevirtual 94, 3) := by decide +kernel
theorem d_Server_open_118 : decode c_Server_open 118 = .ok (.aload_n 0, 1) := by decide +kernel
theorem d_Server_open_119 : decode c_Server_open 119 = .ok (.getfield 18, 3) := by decide +kernel
theorem d_Server_open_122 : decode c_Server_open 122 = .ok (.aload 4, 2) := by decide +kernel
theorem d_Server_open_124 : decode c_Server_open 124 = .ok (.invokevirtual 330, 3) := by decide +kernel
theorem d_Server_open_127 : decode c_Server_open 127 = .ok (.aload_n 0, 1) := by decide +kernel
theorem d_Server_open_128 : decode c_Server_open 128 = .ok (.getfield 18, 3) := by decide +kernel
theorem d_Server_open_131 : decode c_Server_open 131 = .ok (.lconst 0, 1) := by decide +kernel
theorem d_Server_open_132 : decode c_Server_open 132 = .ok (.iconst 4, 1) := by decide +kernel
theorem d_Server_open_133 : decode c_Server_open 133 = .ok (.invokevirtual 129, 3) := by decide +kernel
theorem d_Server_open_136 : decode c_Server_open 136 = .ok (.iconst 0, 1) := by decide +kernel
theorem d_Server_open_137 : decode c_Server_open 137 = .ok (.ireturn, 1) := by decide +kernel
abbrev c_Server_isBadMode : ByteArray := prog_1_method_25_code
def y_Server_isBadMode : MethodName := ⟨"EpochServer", "isBadMode", "(I)Z"⟩
theorem d_Server_isBadMode_0 : decode c_Server_isBadMode 0 = .ok (.iload_n 0, 1) := by decide +kernel
theorem d_Server_isBadMode_1 : decode c_Server_isBadMode 1 = .ok (.bipush (-84), 2) := by decide +kernel
theorem d_Server_isBadMode_3 : decode c_Server_isBadMode 3 = .ok (.iand, 1) := by decide +kernel
theorem d_Server_isBadMode_4 : decode c_Server_isBadMode 4 = .ok (.ifCond .ne 10, 3) := by decide +kernel
theorem d_Server_isBadMode_7 : decode c_Server_isBadMode 7 = .ok (.iload_n 0, 1) := by decide +kernel
theorem d_Server_isBadMode_8 : decode c_Server_isBadMode 8 = .ok (.iconst 3, 1) := by decide +kernel
theorem d_Server_isBadMode_9 : decode c_Server_isBadMode 9 = .ok (.iand, 1) := by decide +kernel
theorem d_Server_isBadMode_10 : decode c_Server_isBadMode 10 = .ok (.iconst 3, 1) := by decide +kernel
theorem d_Server_isBadMode_11 : decode c_Server_isBadMode 11 = .ok (.if_icmp .ne 7, 3) := by decide +kernel
theorem d_Server_isBadMode_14 : decode c_Server_isBadMode 14 = .ok (.iconst 1, 1) := by decide +kernel
theorem d_Server_isBadMode_15 : decode c_Server_isBadMode 15 = .ok (.goto 4, 3) := by decide +kernel
theorem d_Server_isBadMode_18 : decode c_Server_isBadMode 18 = .ok (.iconst 0, 1) := by decide +kernel
theorem d_Server_isBadMode_19 : decode c_Server_isBadMode 19 = .ok (.ireturn, 1) := by decide +kernel
abbrev c_Server_lacks : ByteArray := prog_1_method_26_code
def y_Server_lacks : MethodName := ⟨"EpochServer", "lacks", "(II)Z"⟩
theorem d_Server_lacks_0 : decode c_Server_lacks 0 = .ok (.iload_n 1, 1) := by decide +kernel
theorem d_Server_lacks_1 : decode c_Server_lacks 1 = .ok (.iconst 3, 1) := by decide +kernel
theorem d_Server_lacks_2 : decode c_Server_lacks 2 = .ok (.iand, 1) := by decide +kernel
theorem d_Server_lacks_3 : decode c_Server_lacks 3 = .ok (.iconst 1, 1) := by decide +kernel
theorem d_Server_lacks_4 : decode c_Server_lacks 4 = .ok (.if_icmp .eq 7, 3) := by decide +kernel
theorem d_Server_lacks_7 : decode c_Server_lacks 7 = .ok (.iconst 1, 1) := by decide +kernel
theorem d_Server_lacks_8 : decode c_Server_lacks 8 = .ok (.goto 4, 3) := by decide +kernel
theorem d_Server_lacks_11 : decode c_Server_lacks 11 = .ok (.iconst 0, 1) := by decide +kernel
theorem d_Server_lacks_12 : decode c_Server_lacks 12 = .ok (.istore_n 2, 1) := by decide +kernel
theorem d_Server_lacks_13 : decode c_Server_lacks 13 = .ok (.iload_n 1, 1) := by decide +kernel
theorem d_Server_lacks_14 : decode c_Server_lacks 14 = .ok (.iconst 3, 1) := by decide +kernel
theorem d_Server_lacks_15 : decode c_Server_lacks 15 = .ok (.iand, 1) := by decide +kernel
theorem d_Server_lacks_16 : decode c_Server_lacks 16 = .ok (.ifCond .ne 10, 3) := by decide +kernel
theorem d_Server_lacks_19 : decode c_Server_lacks 19 = .ok (.iload_n 1, 1) := by decide +kernel
theorem d_Server_lacks_20 : decode c_Server_lacks 20 = .ok (.bipush 16, 2) := by decide +kernel
theorem d_Server_lacks_22 : decode c_Server_lacks 22 = .ok (.iand, 1) := by decide +kernel
theorem d_Server_lacks_23 : decode c_Server_lacks 23 = .ok (.ifCond .eq 7, 3) := by decide +kernel
theorem d_Server_lacks_26 : decode c_Server_lacks 26 = .ok (.iconst 1, 1) := by decide +kernel
theorem d_Server_lacks_27 : decode c_Server_lacks 27 = .ok (.goto 4, 3) := by decide +kernel
theorem d_Server_lacks_30 : decode c_Server_lacks 30 = .ok (.iconst 0, 1) := by decide +kernel
theorem d_Server_lacks_31 : decode c_Server_lacks 31 = .ok (.istore_n 3, 1) := by decide +kernel
theorem d_Server_lacks_32 : decode c_Server_lacks 32 = .ok (.iload_n 2, 1) := by decide +kernel
theorem d_Server_lacks_33 : decode c_Server_lacks 33 = .ok (.ifCond .eq 11, 3) := by decide +kernel
theorem d_Server_lacks_36 : decode c_Server_lacks 36 = .ok (.iload_n 0, 1) := by decide +kernel
theorem d_Server_lacks_37 : decode c_Server_lacks 37 = .ok (.sipush 256, 3) := by decide +kernel
theorem d_Server_lacks_40 : decode c_Server_lacks 40 = .ok (.iand, 1) := by decide +kernel
theorem d_Server_lacks_41 : decode c_Server_lacks 41 = .ok (.ifCond .eq 15, 3) := by decide +kernel
theorem d_Server_lacks_44 : decode c_Server_lacks 44 = .ok (.iload_n 3, 1) := by decide +kernel
theorem d_Server_lacks_45 : decode c_Server_lacks 45 = .ok (.ifCond .eq 15, 3) := by decide +kernel
theorem d_Server_lacks_48 : decode c_Server_lacks 48 = .ok (.iload_n 0, 1) := by decide +kernel
theorem d_Server_lacks_49 : decode c_Server_lacks 49 = .ok (.sipush 128, 3) := by decide +kernel
theorem d_Server_lacks_52 : decode c_Server_lacks 52 = .ok (.iand, 1) := by decide +kernel
theorem d_Server_lacks_53 : decode c_Server_lacks 53 = .ok (.ifCond .ne 7, 3) := by decide +kernel
theorem d_Server_lacks_56 : decode c_Server_lacks 56 = .ok (.iconst 1, 1) := by decide +kernel
theorem d_Server_lacks_57 : decode c_Server_lacks 57 = .ok (.goto 4, 3) := by decide +kernel
theorem d_Server_lacks_60 : decode c_Server_lacks 60 = .ok (.iconst 0, 1) := by decide +kernel
theorem d_Server_lacks_61 : decode c_Server_lacks 61 = .ok (.ireturn, 1) := by decide +kernel
abbrev c_Server_create : ByteArray := prog_1_method_27_code
def y_Server_create : MethodName := ⟨"EpochServer", "create", "(LEpochServer$Fid;LEpochServer$Node;)I"⟩
theorem d_Server_create_0 : decode c_Server_create 0 = .ok (.aload_n 1, 1) := by decide +kernel
theorem d_Server_create_1 : decode c_Server_create 1 = .ok (.getfield 224, 3) := by decide +kernel
theorem d_Server_create_4 : decode c_Server_create 4 = .ok (.ifCond .eq 5, 3) := by decide +kernel
theorem d_Server_create_7 : decode c_Server_create 7 = .ok (.iconst 3, 1) := by decide +kernel
theorem d_Server_create_8 : decode c_Server_create 8 = .ok (.ireturn, 1) := by decide +kernel
theorem d_Server_create_9 : decode c_Server_create 9 = .ok (.aload_n 2, 1) := by decide +kernel
theorem d_Server_create_10 : decode c_Server_create 10 = .ok (.invokevirtual 200, 3) := by decide +kernel
theorem d_Server_create_13 : decode c_Server_create 13 = .ok (.ifCond .eq 11, 3) := by decide +kernel
theorem d_Server_create_16 : decode c_Server_create 16 = .ok (.aload_n 1, 1) := by decide +kernel
theorem d_Server_create_17 : decode c_Server_create 17 = .ok (.getfield 217, 3) := by decide +kernel
theorem d_Server_create_20 : decode c_Server_create 20 = .ok (.iconst (-1), 1) := by decide +kernel
theorem d_Server_create_21 : decode c_Server_create 21 = .ok (.if_icmp .eq 5, 3) := by decide +kernel
theorem d_Server_create_24 : decode c_Server_create 24 = .ok (.iconst 5, 1) := by decide +kernel
theorem d_Server_create_25 : decode c_Server_create 25 = .ok (.ireturn, 1) := by decide +kernel
theorem d_Server_create_26 : decode c_Server_create 26 = .ok (.aload_n 0, 1) := by decide +kernel
theorem d_Server_create_27 : decode c_Server_create 27 = .ok (.getfield 26, 3) := by decide +kernel
theorem d_Server_create_30 : decode c_Server_create 30 = .ok (.invokevirtual 376, 3) := by decide +kernel
theorem d_Server_create_33 : decode c_Server_create 33 = .ok (.ifCond .ne 6, 3) := by decide +kernel
theorem d_Server_create_36 : decode c_Server_create 36 = .ok (.bipush 6, 2) := by decide +kernel
theorem d_Server_create_38 : decode c_Server_create 38 = .ok (.ireturn, 1) := by decide +kernel
theorem d_Server_create_39 : decode c_Server_create 39 = .ok (.aload_n 0, 1) := by decide +kernel
theorem d_Server_create_40 : decode c_Server_create 40 = .ok (.getfield 40, 3) := by decide +kernel
theorem d_Server_create_43 : decode c_Server_create 43 = .ok (.aload_n 2, 1) := by decide +kernel
theorem d_Server_create_44 : decode c_Server_create 44 = .ok (.getfield 346, 3) := by decide +kernel
theorem d_Server_create_47 : decode c_Server_create 47 = .ok (.aload_n 0, 1) := by decide +kernel
theorem d_Server_create_48 : decode c_Server_create 48 = .ok (.getfield 26, 3) := by decide +kernel
theorem d_Server_create_51 : decode c_Server_create 51 = .ok (.invokevirtual 354, 3) := by decide +kernel
theorem d_Server_create_54 : decode c_Server_create 54 = .ok (.ifnull 6, 3) := by decide +kernel
theorem d_Server_create_57 : decode c_Server_create 57 = .ok (.bipush 7, 2) := by decide +kernel
theorem d_Server_create_59 : decode c_Server_create 59 = .ok (.ireturn, 1) := by decide +kernel
theorem d_Server_create_60 : decode c_Server_create 60 = .ok (.aload_n 0, 1) := by decide +kernel
theorem d_Server_create_61 : decode c_Server_create 61 = .ok (.getfield 26, 3) := by decide +kernel
theorem d_Server_create_64 : decode c_Server_create 64 = .ok (.getfield 358, 3) := by decide +kernel
theorem d_Server_create_67 : decode c_Server_create 67 = .ok (.invokestatic 359, 3) := by decide +kernel
theorem d_Server_create_70 : decode c_Server_create 70 = .ok (.ifCond .ne 23, 3) := by decide +kernel
theorem d_Server_create_73 : decode c_Server_create 73 = .ok (.aload_n 0, 1) := by decide +kernel
theorem d_Server_create_74 : decode c_Server_create 74 = .ok (.getfield 26, 3) := by decide +kernel
theorem d_Server_create_77 : decode c_Server_create 77 = .ok (.getfield 379, 3) := by decide +kernel
theorem d_Server_create_80 : decode c_Server_create 80 = .ok (.ifCond .ge 16, 3) := by decide +kernel
theorem d_Server_create_83 : decode c_Server_create 83 = .ok (.aload_n 0, 1) := by decide +kernel
theorem d_Server_create_84 : decode c_Server_create 84 = .ok (.getfield 26, 3) := by decide +kernel
theorem d_Server_create_87 : decode c_Server_create 87 = .ok (.getfield 358, 3) := by decide +kernel
theorem d_Server_create_90 : decode c_Server_create 90 = .ok (.ifCond .eq 6, 3) := by decide +kernel
theorem d_Server_create_93 : decode c_Server_create 93 = .ok (.bipush 8, 2) := by decide +kernel
theorem d_Server_create_95 : decode c_Server_create 95 = .ok (.ireturn, 1) := by decide +kernel
theorem d_Server_create_96 : decode c_Server_create 96 = .ok (.aload_n 0, 1) := by decide +kernel
theorem d_Server_create_97 : decode c_Server_create 97 = .ok (.getfield 65, 3) := by decide +kernel
theorem d_Server_create_100 : decode c_Server_create 100 = .ok (.bipush 60, 2) := by decide +kernel
theorem d_Server_create_102 : decode c_Server_create 102 = .ok (.if_icmp .lt 6, 3) := by decide +kernel
theorem d_Server_create_105 : decode c_Server_create 105 = .ok (.bipush 9, 2) := by decide +kernel
theorem d_Server_create_107 : decode c_Server_create 107 = .ok (.ireturn, 1) := by decide +kernel
theorem d_Server_create_108 : decode c_Server_create 108 = .ok (.aload_n 0, 1) := by decide +kernel
theorem d_Server_create_109 : decode c_Server_create 109 = .ok (.getfield 47, 3) := by decide +kernel
theorem d_Server_create_112 : decode c_Server_create 112 = .ok (.aload_n 0, 1) := by decide +kernel
theorem d_Server_create_113 : decode c_Server_create 113 = .ok (.getfield 40, 3) := by decide +kernel
theorem d_Server_create_116 : decode c_Server_create 116 = .ok (.invokevirtual 373, 3) := by decide +kernel
theorem d_Server_create_119 : decode c_Server_create 119 = .ok (.new 81, 3) := by decide +kernel
theorem d_Server_create_122 : decode c_Server_create 122 = .ok (.dup, 1) := by decide +kernel
theorem d_Server_create_123 : decode c_Server_create 123 = .ok (.aload_n 0, 1) := by decide +kernel
theorem d_Server_create_124 : decode c_Server_create 124 = .ok (.getfield 65, 3) := by decide +kernel
theorem d_Server_create_127 : decode c_Server_create 127 = .ok (.aload_n 2, 1) := by decide +kernel
theorem d_Server_create_128 : decode c_Server_create 128 = .ok (.getfield 346, 3) := by decide +kernel
theorem d_Server_create_131 : decode c_Server_create 131 = .ok (.aload_n 0, 1) := by decide +kernel
theorem d_Server_create_132 : decode c_Server_create 132 = .ok (.getfield 26, 3) := by decide +kernel
theorem d_Server_create_135 : decode c_Server_create 135 = .ok (.invokevirtual 382, 3) := by decide +kernel
theorem d_Server_create_138 : decode c_Server_create 138 = .ok (.aload_n 0, 1) := by decide +kernel
theorem d_Server_create_139 : decode c_Server_create 139 = .ok (.getfield 26, 3) := by decide +kernel
theorem d_Server_create_142 : decode c_Server_create 142 = .ok (.getfield 379, 3) := by decide +kernel
theorem d_Server_create_145 : decode c_Server_create 145 = .ok (.ldc 87, 2) := by decide +kernel
theorem d_Server_create_147 : decode c_Server_create 147 = .ok (.iand, 1) := by decide +kernel
theorem d_Server_create_148 : decode c_Server_create 148 = .ok (.iconst 0, 1) := by decide +kernel
theorem d_Server_create_149 : decode c_Server_create 149 = .ok (.aload_n 0, 1) := by decide +kernel
theorem d_Server_create_150 : decode c_Server_create 150 = .ok (.getfield 69, 3) := by decide +kernel
theorem d_Server_create_153 : decode c_Server_create 153 = .ok (.getstatic 88, 3) := by decide +kernel
theorem d_Server_create_156 : decode c_Server_create 156 = .ok (.invokespecial 91, 3) := by decide +kernel
theorem d_Server_create_159 : decode c_Server_create 159 = .ok (.astore_n 3, 1) := by decide +kernel
theorem d_Server_create_160 : decode c_Server_create 160 = .ok (.aload_n 0, 1) := by decide +kernel
theorem d_Server_create_161 : decode c_Server_create 161 = .ok (.dup, 1) := by decide +kernel
theorem d_Server_create_162 : decode c_Server_create 162 = .ok (.getfield 65, 3) := by decide +kernel
theorem d_Server_create_165 : decode c_Server_create 165 = .ok (.iconst 1, 1) := by decide +kernel
theorem d_Server_create_166 : decode c_Server_create 166 = .ok (.iadd, 1) := by decide +kernel
theorem d_Server_create_167 : decode c_Server_create 167 = .ok (.putfield 65, 3) := by decide +kernel
theorem d_Server_create_170 : decode c_Server_create 170 = .ok (.aload_n 0, 1) := by decide +kernel
theorem d_Server_create_171 : decode c_Server_create 171 = .ok (.getfield 40, 3) := by decide +kernel
theorem d_Server_create_174 : decode c_Server_create 174 = .ok (.aload_n 3, 1) := by decide +kernel
theorem d_Server_create_175 : decode c_Server_create 175 = .ok (.invokevirtual 94, 3) := by decide +kernel
theorem d_Server_create_178 : decode c_Server_create 178 = .ok (.aload_n 0, 1) := by decide +kernel
theorem d_Server_create_179 : decode c_Server_create 179 = .ok (.getfield 40, 3) := by decide +kernel
theorem d_Server_create_182 : decode c_Server_create 182 = .ok (.aload_n 2, 1) := by decide +kernel
theorem d_Server_create_183 : decode c_Server_create 183 = .ok (.aload_n 2, 1) := by decide +kernel
theorem d_Server_create_184 : decode c_Server_create 184 = .ok (.getfield 207, 3) := by decide +kernel
theorem d_Server_create_187 : decode c_Server_create 187 = .ok (.aload_n 0, 1) := by decide +kernel
theorem d_Server_create_188 : decode c_Server_create 188 = .ok (.getfield 69, 3) := by decide +kernel
theorem d_Server_create_191 : decode c_Server_create 191 = .ok (.invokevirtual 369, 3) := by decide +kernel
theorem d_Server_create_194 : decode c_Server_create 194 = .ok (.invokevirtual 94, 3) := by decide +kernel
theorem d_Server_create_197 : decode c_Server_create 197 = .ok (.aload_n 1, 1) := by decide +kernel
theorem d_Server_create_198 : decode c_Server_create 198 = .ok (.aload_n 3, 1) := by decide +kernel
theorem d_Server_create_199 : decode c_Server_create 199 = .ok (.getfield 346, 3) := by decide +kernel
theorem d_Server_create_202 : decode c_Server_create 202 = .ok (.putfield 221, 3) := by decide +kernel
theorem d_Server_create_205 : decode c_Server_create 205 = .ok (.aload_n 1, 1) := by decide +kernel
theorem d_Server_create_206 : decode c_Server_create 206 = .ok (.aload_n 0, 1) := by decide +kernel
theorem d_Server_create_207 : decode c_Server_create 207 = .ok (.getfield 26, 3) := by decide +kernel
theorem d_Server_create_210 : decode c_Server_create 210 = .ok (.getfield 358, 3) := by decide +kernel
theorem d_Server_create_213 : decode c_Server_create 213 = .ok (.invokevirtual 366, 3) := by decide +kernel
theorem d_Server_create_216 : decode c_Server_create 216 = .ok (.aload_n 0, 1) := by decide +kernel
theorem d_Server_create_217 : decode c_Server_create 217 = .ok (.getfield 18, 3) := by decide +kernel
theorem d_Server_create_220 : decode c_Server_create 220 = .ok (.aload_n 3, 1) := by decide +kernel
theorem d_Server_create_221 : decode c_Server_create 221 = .ok (.invokevirtual 330, 3) := by decide +kernel
theorem d_Server_create_224 : decode c_Server_create 224 = .ok (.aload_n 0, 1) := by decide +kernel
theorem d_Server_create_225 : decode c_Server_create 225 = .ok (.getfield 18, 3) := by decide +kernel
theorem d_Server_create_228 : decode c_Server_create 228 = .ok (.lconst 0, 1) := by decide +kernel
theorem d_Server_create_229 : decode c_Server_create 229 = .ok (.iconst 4, 1) := by decide +kernel
theorem d_Server_create_230 : decode c_Server_create 230 = .ok (.invokevirtual 129, 3) := by decide +kernel
theorem d_Server_create_233 : decode c_Server_create 233 = .ok (.iconst 0, 1) := by decide +kernel
theorem d_Server_create_234 : decode c_Server_create 234 = .ok (.ireturn, 1) := by decide +kernel
abbrev c_Server_readData : ByteArray := prog_1_method_28_code
def y_Server_readData : MethodName := ⟨"EpochServer", "readData", "(LEpochServer$Fid;LEpochServer$Node;)I"⟩
theorem d_Server_readData_0 : decode c_Server_readData 0 = .ok (.aload_n 1, 1) := by decide +kernel
theorem d_Server_readData_1 : decode c_Server_readData 1 = .ok (.invokevirtual 386, 3) := by decide +kernel
theorem d_Server_readData_4 : decode c_Server_readData 4 = .ok (.ifCond .ne 5, 3) := by decide +kernel
theorem d_Server_readData_7 : decode c_Server_readData 7 = .ok (.iconst 3, 1) := by decide +kernel
theorem d_Server_readData_8 : decode c_Server_readData 8 = .ok (.ireturn, 1) := by decide +kernel
theorem d_Server_readData_9 : decode c_Server_readData 9 = .ok (.aload_n 2, 1) := by decide +kernel
theorem d_Server_readData_10 : decode c_Server_readData 10 = .ok (.getfield 207, 3) := by decide +kernel
theorem d_Server_readData_13 : decode c_Server_readData 13 = .ok (.arraylength, 1) := by decide +kernel
theorem d_Server_readData_14 : decode c_Server_readData 14 = .ok (.istore_n 3, 1) := by decide +kernel
theorem d_Server_readData_15 : decode c_Server_readData 15 = .ok (.aload_n 0, 1) := by decide +kernel
theorem d_Server_readData_16 : decode c_Server_readData 16 = .ok (.getfield 26, 3) := by decide +kernel
theorem d_Server_readData_19 : decode c_Server_readData 19 = .ok (.getfield 389, 3) := by decide +kernel
theorem d_Server_readData_22 : decode c_Server_readData 22 = .ok (.iload_n 3, 1) := by decide +kernel
theorem d_Server_readData_23 : decode c_Server_readData 23 = .ok (.invokestatic 393, 3) := by decide +kernel
theorem d_Server_readData_26 : decode c_Server_readData 26 = .ok (.ifCond .eq 7, 3) := by decide +kernel
theorem d_Server_readData_29 : decode c_Server_readData 29 = .ok (.iload_n 3, 1) := by decide +kernel
theorem d_Server_readData_30 : decode c_Server_readData 30 = .ok (.goto 11, 3) := by decide +kernel
theorem d_Server_readData_33 : decode c_Server_readData 33 = .ok (.aload_n 0, 1) := by decide +kernel
theorem d_Server_readData_34 : decode c_Server_readData 34 = .ok (.getfield 26, 3) := by decide +kernel
theorem d_Server_readData_37 : decode c_Server_readData 37 = .ok (.getfield 389, 3) := by decide +kernel
theorem d_Server_readData_40 : decode c_Server_readData 40 = .ok (.l2i, 1) := by decide +kernel
theorem d_Server_readData_41 : decode c_Server_readData 41 = .ok (.istore 4, 2) := by decide +kernel
theorem d_Server_readData_43 : decode c_Server_readData 43 = .ok (.aload_n 0, 1) := by decide +kernel
theorem d_Server_readData_44 : decode c_Server_readData 44 = .ok (.invokevirtual 397, 3) := by decide +kernel
theorem d_Server_readData_47 : decode c_Server_readData 47 = .ok (.iload_n 3, 1) := by decide +kernel
theorem d_Server_readData_48 : decode c_Server_readData 48 = .ok (.iload 4, 2) := by decide +kernel
theorem d_Server_readData_50 : decode c_Server_readData 50 = .ok (.isub, 1) := by decide +kernel
theorem d_Server_readData_51 : decode c_Server_readData 51 = .ok (.invokestatic 400, 3) := by decide +kernel
theorem d_Server_readData_54 : decode c_Server_readData 54 = .ok (.istore 5, 2) := by decide +kernel
theorem d_Server_readData_56 : decode c_Server_readData 56 = .ok (.aload_n 0, 1) := by decide +kernel
theorem d_Server_readData_57 : decode c_Server_readData 57 = .ok (.getfield 18, 3) := by decide +kernel
theorem d_Server_readData_60 : decode c_Server_readData 60 = .ok (.iload 5, 2) := by decide +kernel
theorem d_Server_readData_62 : decode c_Server_readData 62 = .ok (.i2l, 1) := by decide +kernel
theorem d_Server_readData_63 : decode c_Server_readData 63 = .ok (.iconst 4, 1) := by decide +kernel
theorem d_Server_readData_64 : decode c_Server_readData 64 = .ok (.invokevirtual 129, 3) := by decide +kernel
theorem d_Server_readData_67 : decode c_Server_readData 67 = .ok (.aload_n 0, 1) := by decide +kernel
theorem d_Server_readData_68 : decode c_Server_readData 68 = .ok (.getfield 18, 3) := by decide +kernel
theorem d_Server_readData_71 : decode c_Server_readData 71 = .ok (.aload_n 2, 1) := by decide +kernel
theorem d_Server_readData_72 : decode c_Server_readData 72 = .ok (.getfield 207, 3) := by decide +kernel
theorem d_Server_readData_75 : decode c_Server_readData 75 = .ok (.iload 4, 2) := by decide +kernel
theorem d_Server_readData_77 : decode c_Server_readData 77 = .ok (.iload 5, 2) := by decide +kernel
theorem d_Server_readData_79 : decode c_Server_readData 79 = .ok (.invokevirtual 402, 3) := by decide +kernel
theorem d_Server_readData_82 : decode c_Server_readData 82 = .ok (.iconst 0, 1) := by decide +kernel
theorem d_Server_readData_83 : decode c_Server_readData 83 = .ok (.ireturn, 1) := by decide +kernel
abbrev c_Server_readDirectory : ByteArray := prog_1_method_29_code
def y_Server_readDirectory : MethodName := ⟨"EpochServer", "readDirectory", "(LEpochServer$Fid;LEpochServer$Tree;)I"⟩
theorem d_Server_readDirectory_0 : decode c_Server_readDirectory 0 = .ok (.aload_n 1, 1) := by decide +kernel
theorem d_Server_readDirectory_1 : decode c_Server_readDirectory 1 = .ok (.invokevirtual 386, 3) := by decide +kernel
theorem d_Server_readDirectory_4 : decode c_Server_readDirectory 4 = .ok (.ifCond .ne 5, 3) := by decide +kernel
theorem d_Server_readDirectory_7 : decode c_Server_readDirectory 7 = .ok (.iconst 3, 1) := by decide +kernel
theorem d_Server_readDirectory_8 : decode c_Server_readDirectory 8 = .ok (.ireturn, 1) := by decide +kernel
theorem d_Server_readDirectory_9 : decode c_Server_readDirectory 9 = .ok (.aload_n 0, 1) := by decide +kernel
theorem d_Server_readDirectory_10 : decode c_Server_readDirectory 10 = .ok (.getfield 26, 3) := by decide +kernel
theorem d_Server_readDirectory_13 : decode c_Server_readDirectory 13 = .ok (.getfield 389, 3) := by decide +kernel
theorem d_Server_readDirectory_16 : decode c_Server_readDirectory 16 = .ok (.lconst 0, 1) := by decide +kernel
theorem d_Server_readDirectory_17 : decode c_Server_readDirectory 17 = .ok (.lcmp, 1) := by decide +kernel
theorem d_Server_readDirectory_18 : decode c_Server_readDirectory 18 = .ok (.ifCond .eq 21, 3) := by decide +kernel
theorem d_Server_readDirectory_21 : decode c_Server_readDirectory 21 = .ok (.aload_n 0, 1) := by decide +kernel
theorem d_Server_readDirectory_22 : decode c_Server_readDirectory 22 = .ok (.getfield 26, 3) := by decide +kernel
theorem d_Server_readDirectory_25 : decode c_Server_readDirectory 25 = .ok (.getfield 389, 3) := by decide +kernel
theorem d_Server_readDirectory_28 : decode c_Server_readDirectory 28 = .ok (.aload_n 1, 1) := by decide +kernel
theorem d_Server_readDirectory_29 : decode c_Server_readDirectory 29 = .ok (.getfield 406, 3) := by decide +kernel
theorem d_Server_readDirectory_32 : decode c_Server_readDirectory 32 = .ok (.i2l, 1) := by decide +kernel
theorem d_Server_readDirectory_33 : decode c_Server_readDirectory 33 = .ok (.lcmp, 1) := by decide +kernel
theorem d_Server_readDirectory_34 : decode c_Server_readDirectory 34 = .ok (.ifCond .eq 5, 3) := by decide +kernel
theorem d_Server_readDirectory_37 : decode c_Server_readDirectory 37 = .ok (.iconst 5, 1) := by decide +kernel
theorem d_Server_readDirectory_38 : decode c_Server_readDirectory 38 = .ok (.ireturn, 1) := by decide +kernel
theorem d_Server_readDirectory_39 : decode c_Server_readDirectory 39 = .ok (.aload_n 0, 1) := by decide +kernel
theorem d_Server_readDirectory_40 : decode c_Server_readDirectory 40 = .ok (.getfield 26, 3) := by decide +kernel
theorem d_Server_readDirectory_43 : decode c_Server_readDirectory 43 = .ok (.getfield 389, 3) := by decide +kernel
theorem d_Server_readDirectory_46 : decode c_Server_readDirectory 46 = .ok (.lconst 0, 1) := by decide +kernel
theorem d_Server_readDirectory_47 : decode c_Server_readDirectory 47 = .ok (.lcmp, 1) := by decide +kernel
theorem d_Server_readDirectory_48 : decode c_Server_readDirectory 48 = .ok (.ifCond .ne 7, 3) := by decide +kernel
theorem d_Server_readDirectory_51 : decode c_Server_readDirectory 51 = .ok (.aload_n 1, 1) := by decide +kernel
theorem d_Server_readDirectory_52 : decode c_Server_readDirectory 52 = .ok (.invokevirtual 409, 3) := by decide +kernel
theorem d_Server_readDirectory_55 : decode c_Server_readDirectory 55 = .ok (.aload_n 0, 1) := by decide +kernel
theorem d_Server_readDirectory_56 : decode c_Server_readDirectory 56 = .ok (.invokevirtual 397, 3) := by decide +kernel
theorem d_Server_readDirectory_59 : decode c_Server_readDirectory 59 = .ok (.istore_n 3, 1) := by decide +kernel
theorem d_Server_readDirectory_60 : decode c_Server_readDirectory 60 = .ok (.iconst 0, 1) := by decide +kernel
theorem d_Server_readDirectory_61 : decode c_Server_readDirectory 61 = .ok (.istore 4, 2) := by decide +kernel
theorem d_Server_readDirectory_63 : decode c_Server_readDirectory 63 = .ok (.aload_n 0, 1) := by decide +kernel
theorem d_Server_readDirectory_64 : decode c_Server_readDirectory 64 = .ok (.getfield 18, 3) := by decide +kernel
theorem d_Server_readDirectory_67 : decode c_Server_readDirectory 67 = .ok (.lconst 0, 1) := by decide +kernel
theorem d_Server_readDirectory_68 : decode c_Server_readDirectory 68 = .ok (.iconst 4, 1) := by decide +kernel
theorem d_Server_readDirectory_69 : decode c_Server_readDirectory 69 = .ok (.invokevirtual 129, 3) := by decide +kernel
theorem d_Server_readDirectory_72 : decode c_Server_readDirectory 72 = .ok (.aload_n 1, 1) := by decide +kernel
theorem d_Server_readDirectory_73 : decode c_Server_readDirectory 73 = .ok (.getfield 412, 3) := by decide +kernel
theorem d_Server_readDirectory_76 : decode c_Server_readDirectory 76 = .ok (.iconst 1, 1) := by decide +kernel
theorem d_Server_readDirectory_77 : decode c_Server_readDirectory 77 = .ok (.iadd, 1) := by decide +kernel
theorem d_Server_readDirectory_78 : decode c_Server_readDirectory 78 = .ok (.istore 5, 2) := by decide +kernel
theorem d_Server_readDirectory_80 : decode c_Server_readDirectory 80 = .ok (.iload 5, 2) := by decide +kernel
theorem d_Server_readDirectory_82 : decode c_Server_readDirectory 82 = .ok (.bipush 60, 2) := by decide +kernel
theorem d_Server_readDirectory_84 : decode c_Server_readDirectory 84 = .ok (.if_icmp .ge 69, 3) := by decide +kernel
theorem d_Server_readDirectory_87 : decode c_Server_readDirectory 87 = .ok (.aload_n 2, 1) := by decide +kernel
theorem d_Server_readDirectory_88 : decode c_Server_readDirectory 88 = .ok (.aload_n 1, 1) := by decide +kernel
theorem d_Server_readDirectory_89 : decode c_Server_readDirectory 89 = .ok (.getfield 221, 3) := by decide +kernel
theorem d_Server_readDirectory_92 : decode c_Server_readDirectory 92 = .ok (.iload 5, 2) := by decide +kernel
theorem d_Server_readDirectory_94 : decode c_Server_readDirectory 94 = .ok (.invokevirtual 415, 3) := by decide +kernel
theorem d_Server_readDirectory_97 : decode c_Server_readDirectory 97 = .ok (.astore 6, 2) := by decide +kernel
theorem d_Server_readDirectory_99 : decode c_Server_readDirectory 99 = .ok (.aload 6, 2) := by decide +kernel
theorem d_Server_readDirectory_101 : decode c_Server_readDirectory 101 = .ok (.ifnonnull 6, 3) := by decide +kernel
theorem d_Server_readDirectory_104 : decode c_Server_readDirectory 104 = .ok (.goto 43, 3) := by decide +kernel
theorem d_Server_readDirectory_107 : decode c_Server_readDirectory 107 = .ok (.aload 6, 2) := by decide +kernel
theorem d_Server_readDirectory_109 : decode c_Server_readDirectory 109 = .ok (.invokevirtual 419, 3) := by decide +kernel
theorem d_Server_readDirectory_112 : decode c_Server_readDirectory 112 = .ok (.iload_n 3, 1) := by decide +kernel
theorem d_Server_readDirectory_113 : decode c_Server_readDirectory 113 = .ok (.iload 4, 2) := by decide +kernel
theorem d_Server_readDirectory_115 : decode c_Server_readDirectory 115 = .ok (.isub, 1) := by decide +kernel
theorem d_Server_readDirectory_116 : decode c_Server_readDirectory 116 = .ok (.if_icmp .le 6, 3) := by decide +kernel
theorem d_Server_readDirectory_119 : decode c_Server_readDirectory 119 = .ok (.goto 34, 3) := by decide +kernel
theorem d_Server_readDirectory_122 : decode c_Server_readDirectory 122 = .ok (.aload_n 0, 1) := by decide +kernel
theorem d_Server_readDirectory_123 : decode c_Server_readDirectory 123 = .ok (.getfield 18, 3) := by decide +kernel
theorem d_Server_readDirectory_126 : decode c_Server_readDirectory 126 = .ok (.aload 6, 2) := by decide +kernel
theorem d_Server_readDirectory_128 : decode c_Server_readDirectory 128 = .ok (.invokevirtual 422, 3) := by decide +kernel
theorem d_Server_readDirectory_131 : decode c_Server_readDirectory 131 = .ok (.iload 4, 2) := by decide +kernel
theorem d_Server_readDirectory_133 : decode c_Server_readDirectory 133 = .ok (.aload 6, 2) := by decide +kernel
theorem d_Server_readDirectory_135 : decode c_Server_readDirectory 135 = .ok (.invokevirtual 419, 3) := by decide +kernel
theorem d_Server_readDirectory_138 : decode c_Server_readDirectory 138 = .ok (.iadd, 1) := by decide +kernel
theorem d_Server_readDirectory_139 : decode c_Server_readDirectory 139 = .ok (.istore 4, 2) := by decide +kernel
theorem d_Server_readDirectory_141 : decode c_Server_readDirectory 141 = .ok (.aload_n 1, 1) := by decide +kernel
theorem d_Server_readDirectory_142 : decode c_Server_readDirectory 142 = .ok (.iload 5, 2) := by decide +kernel
theorem d_Server_readDirectory_144 : decode c_Server_readDirectory 144 = .ok (.putfield 412, 3) := by decide +kernel
theorem d_Server_readDirectory_147 : decode c_Server_readDirectory 147 = .ok (.iinc 5 1, 3) := by decide +kernel
theorem d_Server_readDirectory_150 : decode c_Server_readDirectory 150 = .ok (.goto (-70), 3) := by decide +kernel
theorem d_Server_readDirectory_153 : decode c_Server_readDirectory 153 = .ok (.aload_n 0, 1) := by decide +kernel
theorem d_Server_readDirectory_154 : decode c_Server_readDirectory 154 = .ok (.getfield 18, 3) := by decide +kernel
theorem d_Server_readDirectory_157 : decode c_Server_readDirectory 157 = .ok (.bipush 7, 2) := by decide +kernel
theorem d_Server_readDirectory_159 : decode c_Server_readDirectory 159 = .ok (.iload 4, 2) := by decide +kernel
theorem d_Server_readDirectory_161 : decode c_Server_readDirectory 161 = .ok (.iconst 4, 1) := by decide +kernel
theorem d_Server_readDirectory_162 : decode c_Server_readDirectory 162 = .ok (.invokevirtual 112, 3) := by decide +kernel
theorem d_Server_readDirectory_165 : decode c_Server_readDirectory 165 = .ok (.aload_n 1, 1) := by decide +kernel
theorem d_Server_readDirectory_166 : decode c_Server_readDirectory 166 = .ok (.dup, 1) := by decide +kernel
theorem d_Server_readDirectory_167 : decode c_Server_readDirectory 167 = .ok (.getfield 406, 3) := by decide +kernel
theorem d_Server_readDirectory_170 : decode c_Server_readDirectory 170 = .ok (.iload 4, 2) := by decide +kernel
theorem d_Server_readDirectory_172 : decode c_Server_readDirectory 172 = .ok (.iadd, 1) := by decide +kernel
theorem d_Server_readDirectory_173 : decode c_Server_readDirectory 173 = .ok (.putfield 406, 3) := by decide +kernel
theorem d_Server_readDirectory_176 : decode c_Server_readDirectory 176 = .ok (.iconst 0, 1) := by decide +kernel
theorem d_Server_readDirectory_177 : decode c_Server_readDirectory 177 = .ok (.ireturn, 1) := by decide +kernel
abbrev c_Server_roomToRead : ByteArray := prog_1_method_30_code
def y_Server_roomToRead : MethodName := ⟨"EpochServer", "roomToRead", "()I"⟩
theorem d_Server_roomToRead_0 : decode c_Server_roomToRead 0 = .ok (.aload_n 0, 1) := by decide +kernel
theorem d_Server_roomToRead_1 : decode c_Server_roomToRead 1 = .ok (.getfield 26, 3) := by decide +kernel
theorem d_Server_roomToRead_4 : decode c_Server_roomToRead 4 = .ok (.getfield 333, 3) := by decide +kernel
theorem d_Server_roomToRead_7 : decode c_Server_roomToRead 7 = .ok (.i2l, 1) := by decide +kernel
theorem d_Server_roomToRead_8 : decode c_Server_roomToRead 8 = .ok (.ldc2_w 299, 3) := by decide +kernel
theorem d_Server_roomToRead_11 : decode c_Server_roomToRead 11 = .ok (.land, 1) := by decide +kernel
theorem d_Server_roomToRead_12 : decode c_Server_roomToRead 12 = .ok (.aload_n 0, 1) := by decide +kernel
theorem d_Server_roomToRead_13 : decode c_Server_roomToRead 13 = .ok (.getfield 72, 3) := by decide +kernel
theorem d_Server_roomToRead_16 : decode c_Server_roomToRead 16 = .ok (.bipush 11, 2) := by decide +kernel
theorem d_Server_roomToRead_18 : decode c_Server_roomToRead 18 = .ok (.isub, 1) := by decide +kernel
theorem d_Server_roomToRead_19 : decode c_Server_roomToRead 19 = .ok (.i2l, 1) := by decide +kernel
theorem d_Server_roomToRead_20 : decode c_Server_roomToRead 20 = .ok (.invokestatic 305, 3) := by decide +kernel
theorem d_Server_roomToRead_23 : decode c_Server_roomToRead 23 = .ok (.l2i, 1) := by decide +kernel
theorem d_Server_roomToRead_24 : decode c_Server_roomToRead 24 = .ok (.ireturn, 1) := by decide +kernel
abbrev c_Server_write : ByteArray := prog_1_method_31_code
def y_Server_write : MethodName := ⟨"EpochServer", "write", "(LEpochServer$Fid;LEpochServer$Node;)I"⟩
theorem d_Server_write_0 : decode c_Server_write 0 = .ok (.aload_n 1, 1) := by decide +kernel
theorem d_Server_write_1 : decode c_Server_write 1 = .ok (.invokevirtual 425, 3) := by decide +kernel
theorem d_Server_write_4 : decode c_Server_write 4 = .ok (.ifCond .ne 5, 3) := by decide +kernel
theorem d_Server_write_7 : decode c_Server_write 7 = .ok (.iconst 3, 1) := by decide +kernel
theorem d_Server_write_8 : decode c_Server_write 8 = .ok (.ireturn, 1) := by decide +kernel
theorem d_Server_write_9 : decode c_Server_write 9 = .ok (.aload_n 0, 1) := by decide +kernel
theorem d_Server_write_10 : decode c_Server_write 10 = .ok (.getfield 26, 3) := by decide +kernel
theorem d_Server_write_13 : decode c_Server_write 13 = .ok (.getfield 333, 3) := by decide +kernel
theorem d_Server_write_16 : decode c_Server_write 16 = .ok (.istore_n 3, 1) := by decide +kernel
theorem d_Server_write_17 : decode c_Server_write 17 = .ok (.aload_n 0, 1) := by decide +kernel
theorem d_Server_write_18 : decode c_Server_write 18 = .ok (.getfield 26, 3) := by decide +kernel
theorem d_Server_write_21 : decode c_Server_write 21 = .ok (.getfield 389, 3) := by decide +kernel
theorem d_Server_write_24 : decode c_Server_write 24 = .ok (.sipush 512, 3) := by decide +kernel
theorem d_Server_write_27 : decode c_Server_write 27 = .ok (.invokestatic 393, 3) := by decide +kernel
theorem d_Server_write_30 : decode c_Server_write 30 = .ok (.ifCond .ne 19, 3) := by decide +kernel
theorem d_Server_write_33 : decode c_Server_write 33 = .ok (.iload_n 3, 1) := by decide +kernel
theorem d_Server_write_34 : decode c_Server_write 34 = .ok (.sipush 512, 3) := by decide +kernel
theorem d_Server_write_37 : decode c_Server_write 37 = .ok (.aload_n 0, 1) := by decide +kernel
theorem d_Server_write_38 : decode c_Server_write 38 = .ok (.getfield 26, 3) := by decide +kernel
theorem d_Server_write_41 : decode c_Server_write 41 = .ok (.getfield 389, 3) := by decide +kernel
theorem d_Server_write_44 : decode c_Server_write 44 = .ok (.l2i, 1) := by decide +kernel
theorem d_Server_write_45 : decode c_Server_write 45 = .ok (.isub, 1) := by decide +kernel
theorem d_Server_write_46 : decode c_Server_write 46 = .ok (.if_icmp .le 5, 3) := by decide +kernel
theorem d_Server_write_49 : decode c_Server_write 49 = .ok (.iconst 5, 1) := by decide +kernel
theorem d_Server_write_50 : decode c_Server_write 50 = .ok (.ireturn, 1) := by decide +kernel
theorem d_Server_write_51 : decode c_Server_write 51 = .ok (.aload_n 0, 1) := by decide +kernel
theorem d_Server_write_52 : decode c_Server_write 52 = .ok (.getfield 18, 3) := by decide +kernel
theorem d_Server_write_55 : decode c_Server_write 55 = .ok (.iload_n 3, 1) := by decide +kernel
theorem d_Server_write_56 : decode c_Server_write 56 = .ok (.i2l, 1) := by decide +kernel
theorem d_Server_write_57 : decode c_Server_write 57 = .ok (.iconst 4, 1) := by decide +kernel
theorem d_Server_write_58 : decode c_Server_write 58 = .ok (.invokevirtual 129, 3) := by decide +kernel
theorem d_Server_write_61 : decode c_Server_write 61 = .ok (.iload_n 3, 1) := by decide +kernel
theorem d_Server_write_62 : decode c_Server_write 62 = .ok (.ifCond .le 73, 3) := by decide +kernel
theorem d_Server_write_65 : decode c_Server_write 65 = .ok (.aload_n 0, 1) := by decide +kernel
theorem d_Server_write_66 : decode c_Server_write 66 = .ok (.getfield 26, 3) := by decide +kernel
theorem d_Server_write_69 : decode c_Server_write 69 = .ok (.getfield 389, 3) := by decide +kernel
theorem d_Server_write_72 : decode c_Server_write 72 = .ok (.l2i, 1) := by decide +kernel
theorem d_Server_write_73 : decode c_Server_write 73 = .ok (.istore 4, 2) := by decide +kernel
theorem d_Server_write_75 : decode c_Server_write 75 = .ok (.aload_n 2, 1) := by decide +kernel
theorem d_Server_write_76 : decode c_Server_write 76 = .ok (.getfield 207, 3) := by decide +kernel
theorem d_Server_write_79 : decode c_Server_write 79 = .ok (.aload_n 2, 1) := by decide +kernel
theorem d_Server_write_80 : decode c_Server_write 80 = .ok (.getfield 207, 3) := by decide +kernel
theorem d_Server_write_83 : decode c_Server_write 83 = .ok (.arraylength, 1) := by decide +kernel
theorem d_Server_write_84 : decode c_Server_write 84 = .ok (.iload 4, 2) := by decide +kernel
theorem d_Server_write_86 : decode c_Server_write 86 = .ok (.iload_n 3, 1) := by decide +kernel
theorem d_Server_write_87 : decode c_Server_write 87 = .ok (.iadd, 1) := by decide +kernel
theorem d_Server_write_88 : decode c_Server_write 88 = .ok (.invokestatic 135, 3) := by decide +kernel
theorem d_Server_write_91 : decode c_Server_write 91 = .ok (.invokestatic 428, 3) := by decide +kernel
theorem d_Server_write_94 : decode c_Server_write 94 = .ok (.astore 5, 2) := by decide +kernel
theorem d_Server_write_96 : decode c_Server_write 96 = .ok (.aload_n 0, 1) := by decide +kernel
theorem d_Server_write_97 : decode c_Server_write 97 = .ok (.getfield 26, 3) := by decide +kernel
theorem d_Server_write_100 : decode c_Server_write 100 = .ok (.aload 5, 2) := by decide +kernel
theorem d_Server_write_102 : decode c_Server_write 102 = .ok (.iload 4, 2) := by decide +kernel
theorem d_Server_write_104 : decode c_Server_write 104 = .ok (.invokevirtual 434, 3) := by decide +kernel
theorem d_Server_write_107 : decode c_Server_write 107 = .ok (.aload_n 0, 1) := by decide +kernel
theorem d_Server_write_108 : decode c_Server_write 108 = .ok (.getfield 47, 3) := by decide +kernel
theorem d_Server_write_111 : decode c_Server_write 111 = .ok (.aload_n 0, 1) := by decide +kernel
theorem d_Server_write_112 : decode c_Server_write 112 = .ok (.getfield 40, 3) := by decide +kernel
theorem d_Server_write_115 : decode c_Server_write 115 = .ok (.invokevirtual 373, 3) := by decide +kernel
theorem d_Server_write_118 : decode c_Server_write 118 = .ok (.aload_n 0, 1) := by decide +kernel
theorem d_Server_write_119 : decode c_Server_write 119 = .ok (.getfield 40, 3) := by decide +kernel
theorem d_Server_write_122 : decode c_Server_write 122 = .ok (.aload_n 2, 1) := by decide +kernel
theorem d_Server_write_123 : decode c_Server_write 123 = .ok (.aload 5, 2) := by decide +kernel
theorem d_Server_write_125 : decode c_Server_write 125 = .ok (.aload_n 0, 1) := by decide +kernel
theorem d_Server_write_126 : decode c_Server_write 126 = .ok (.getfield 69, 3) := by decide +kernel
theorem d_Server_write_129 : decode c_Server_write 129 = .ok (.invokevirtual 369, 3) := by decide +kernel
theorem d_Server_write_132 : decode c_Server_write 132 = .ok (.invokevirtual 94, 3) := by decide +kernel
theorem d_Server_write_135 : decode c_Server_write 135 = .ok (.iconst 0, 1) := by decide +kernel
theorem d_Server_write_136 : decode c_Server_write 136 = .ok (.ireturn, 1) := by decide +kernel
abbrev c_Server_isAbove : ByteArray := prog_1_method_32_code
def y_Server_isAbove : MethodName := ⟨"EpochServer", "isAbove", "(JI)Z"⟩
theorem d_Server_isAbove_0 : decode c_Server_isAbove 0 = .ok (.lload_n 0, 1) := by decide +kernel
theorem d_Server_isAbove_1 : decode c_Server_isAbove 1 = .ok (.lconst 0, 1) := by decide +kernel
theorem d_Server_isAbove_2 : decode c_Server_isAbove 2 = .ok (.lcmp, 1) := by decide +kernel
theorem d_Server_isAbove_3 : decode c_Server_isAbove 3 = .ok (.ifCond .lt 10, 3) := by decide +kernel
theorem d_Server_isAbove_6 : decode c_Server_isAbove 6 = .ok (.lload_n 0, 1) := by decide +kernel
theorem d_Server_isAbove_7 : decode c_Server_isAbove 7 = .ok (.iload_n 2, 1) := by decide +kernel
theorem d_Server_isAbove_8 : decode c_Server_isAbove 8 = .ok (.i2l, 1) := by decide +kernel
theorem d_Server_isAbove_9 : decode c_Server_isAbove 9 = .ok (.lcmp, 1) := by decide +kernel
theorem d_Server_isAbove_10 : decode c_Server_isAbove 10 = .ok (.ifCond .le 7, 3) := by decide +kernel
theorem d_Server_isAbove_13 : decode c_Server_isAbove 13 = .ok (.iconst 1, 1) := by decide +kernel
theorem d_Server_isAbove_14 : decode c_Server_isAbove 14 = .ok (.goto 4, 3) := by decide +kernel
theorem d_Server_isAbove_17 : decode c_Server_isAbove 17 = .ok (.iconst 0, 1) := by decide +kernel
theorem d_Server_isAbove_18 : decode c_Server_isAbove 18 = .ok (.ireturn, 1) := by decide +kernel
abbrev c_Server_clunk : ByteArray := prog_1_method_33_code
def y_Server_clunk : MethodName := ⟨"EpochServer", "clunk", "(LEpochServer$Fid;LEpochServer$Node;)I"⟩
theorem d_Server_clunk_0 : decode c_Server_clunk 0 = .ok (.aload_n 1, 1) := by decide +kernel
theorem d_Server_clunk_1 : decode c_Server_clunk 1 = .ok (.getfield 224, 3) := by decide +kernel
theorem d_Server_clunk_4 : decode c_Server_clunk 4 = .ok (.ifCond .eq 17, 3) := by decide +kernel
theorem d_Server_clunk_7 : decode c_Server_clunk 7 = .ok (.aload_n 1, 1) := by decide +kernel
theorem d_Server_clunk_8 : decode c_Server_clunk 8 = .ok (.getfield 228, 3) := by decide +kernel
theorem d_Server_clunk_11 : decode c_Server_clunk 11 = .ok (.bipush 64, 2) := by decide +kernel
theorem d_Server_clunk_13 : decode c_Server_clunk 13 = .ok (.iand, 1) := by decide +kernel
theorem d_Server_clunk_14 : decode c_Server_clunk 14 = .ok (.ifCond .eq 7, 3) := by decide +kernel
theorem d_Server_clunk_17 : decode c_Server_clunk 17 = .ok (.iconst 1, 1) := by decide +kernel
theorem d_Server_clunk_18 : decode c_Server_clunk 18 = .ok (.goto 4, 3) := by decide +kernel
theorem d_Server_clunk_21 : decode c_Server_clunk 21 = .ok (.iconst 0, 1) := by decide +kernel
theorem d_Server_clunk_22 : decode c_Server_clunk 22 = .ok (.istore_n 3, 1) := by decide +kernel
theorem d_Server_clunk_23 : decode c_Server_clunk 23 = .ok (.aload_n 1, 1) := by decide +kernel
theorem d_Server_clunk_24 : decode c_Server_clunk 24 = .ok (.iconst 0, 1) := by decide +kernel
theorem d_Server_clunk_25 : decode c_Server_clunk 25 = .ok (.putfield 438, 3) := by decide +kernel
theorem d_Server_clunk_28 : decode c_Server_clunk 28 = .ok (.iload_n 3, 1) := by decide +kernel
theorem d_Server_clunk_29 : decode c_Server_clunk 29 = .ok (.ifCond .eq 20, 3) := by decide +kernel
theorem d_Server_clunk_32 : decode c_Server_clunk 32 = .ok (.aload_n 0, 1) := by decide +kernel
theorem d_Server_clunk_33 : decode c_Server_clunk 33 = .ok (.aload_n 1, 1) := by decide +kernel
theorem d_Server_clunk_34 : decode c_Server_clunk 34 = .ok (.getfield 217, 3) := by decide +kernel
theorem d_Server_clunk_37 : decode c_Server_clunk 37 = .ok (.aload_n 2, 1) := by decide +kernel
theorem d_Server_clunk_38 : decode c_Server_clunk 38 = .ok (.invokevirtual 441, 3) := by decide +kernel
theorem d_Server_clunk_41 : decode c_Server_clunk 41 = .ok (.ifCond .ne 8, 3) := by decide +kernel
theorem d_Server_clunk_44 : decode c_Server_clunk 44 = .ok (.aload_n 0, 1) := by decide +kernel
theorem d_Server_clunk_45 : decode c_Server_clunk 45 = .ok (.aload_n 2, 1) := by decide +kernel
theorem d_Server_clunk_46 : decode c_Server_clunk 46 = .ok (.invokevirtual 445, 3) := by decide +kernel
theorem d_Server_clunk_49 : decode c_Server_clunk 49 = .ok (.iconst 0, 1) := by decide +kernel
theorem d_Server_clunk_50 : decode c_Server_clunk 50 = .ok (.ireturn, 1) := by decide +kernel
abbrev c_Server_remove : ByteArray := prog_1_method_34_code
def y_Server_remove : MethodName := ⟨"EpochServer", "remove", "(LEpochServer$Fid;LEpochServer$Node;)I"⟩
theorem d_Server_remove_0 : decode c_Server_remove 0 = .ok (.aload_n 1, 1) := by decide +kernel
theorem d_Server_remove_1 : decode c_Server_remove 1 = .ok (.iconst 0, 1) := by decide +kernel
theorem d_Server_remove_2 : decode c_Server_remove 2 = .ok (.putfield 438, 3) := by decide +kernel
theorem d_Server_remove_5 : decode c_Server_remove 5 = .ok (.aload_n 0, 1) := by decide +kernel
theorem d_Server_remove_6 : decode c_Server_remove 6 = .ok (.aload_n 1, 1) := by decide +kernel
theorem d_Server_remove_7 : decode c_Server_remove 7 = .ok (.getfield 217, 3) := by decide +kernel
theorem d_Server_remove_10 : decode c_Server_remove 10 = .ok (.aload_n 2, 1) := by decide +kernel
theorem d_Server_remove_11 : decode c_Server_remove 11 = .ok (.invokevirtual 441, 3) := by decide +kernel
theorem d_Server_remove_14 : decode c_Server_remove 14 = .ok (.istore_n 3, 1) := by decide +kernel
theorem d_Server_remove_15 : decode c_Server_remove 15 = .ok (.iload_n 3, 1) := by decide +kernel
theorem d_Server_remove_16 : decode c_Server_remove 16 = .ok (.ifCond .ne 8, 3) := by decide +kernel
theorem d_Server_remove_19 : decode c_Server_remove 19 = .ok (.aload_n 0, 1) := by decide +kernel
theorem d_Server_remove_20 : decode c_Server_remove 20 = .ok (.aload_n 2, 1) := by decide +kernel
theorem d_Server_remove_21 : decode c_Server_remove 21 = .ok (.invokevirtual 445, 3) := by decide +kernel
theorem d_Server_remove_24 : decode c_Server_remove 24 = .ok (.iload_n 3, 1) := by decide +kernel
theorem d_Server_remove_25 : decode c_Server_remove 25 = .ok (.ireturn, 1) := by decide +kernel
abbrev c_Server_whyNotRemoved : ByteArray := prog_1_method_35_code
def y_Server_whyNotRemoved : MethodName := ⟨"EpochServer", "whyNotRemoved", "(ILEpochServer$Node;)I"⟩
theorem d_Server_whyNotRemoved_0 : decode c_Server_whyNotRemoved 0 = .ok (.aload_n 2, 1) := by decide +kernel
theorem d_Server_whyNotRemoved_1 : decode c_Server_whyNotRemoved 1 = .ok (.ifnonnull 5, 3) := by decide +kernel
theorem d_Server_whyNotRemoved_4 : decode c_Server_whyNotRemoved 4 = .ok (.iconst 4, 1) := by decide +kernel
theorem d_Server_whyNotRemoved_5 : decode c_Server_whyNotRemoved 5 = .ok (.ireturn, 1) := by decide +kernel
theorem d_Server_whyNotRemoved_6 : decode c_Server_whyNotRemoved 6 = .ok (.aload_n 2, 1) := by decide +kernel
theorem d_Server_whyNotRemoved_7 : decode c_Server_whyNotRemoved 7 = .ok (.getfield 346, 3) := by decide +kernel
theorem d_Server_whyNotRemoved_10 : decode c_Server_whyNotRemoved 10 = .ok (.ifCond .eq 8, 3) := by decide +kernel
theorem d_Server_whyNotRemoved_13 : decode c_Server_whyNotRemoved 13 = .ok (.iload_n 1, 1) := by decide +kernel
theorem d_Server_whyNotRemoved_14 : decode c_Server_whyNotRemoved 14 = .ok (.iconst (-1), 1) := by decide +kernel
theorem d_Server_whyNotRemoved_15 : decode c_Server_whyNotRemoved 15 = .ok (.if_icmp .eq 5, 3) := by decide +kernel
theorem d_Server_whyNotRemoved_18 : decode c_Server_whyNotRemoved 18 = .ok (.iconst 3, 1) := by decide +kernel
theorem d_Server_whyNotRemoved_19 : decode c_Server_whyNotRemoved 19 = .ok (.ireturn, 1) := by decide +kernel
theorem d_Server_whyNotRemoved_20 : decode c_Server_whyNotRemoved 20 = .ok (.aload_n 2, 1) := by decide +kernel
theorem d_Server_whyNotRemoved_21 : decode c_Server_whyNotRemoved 21 = .ok (.invokevirtual 200, 3) := by decide +kernel
theorem d_Server_whyNotRemoved_24 : decode c_Server_whyNotRemoved 24 = .ok (.ifCond .eq 21, 3) := by decide +kernel
theorem d_Server_whyNotRemoved_27 : decode c_Server_whyNotRemoved 27 = .ok (.aload_n 0, 1) := by decide +kernel
theorem d_Server_whyNotRemoved_28 : decode c_Server_whyNotRemoved 28 = .ok (.getfield 40, 3) := by decide +kernel
theorem d_Server_whyNotRemoved_31 : decode c_Server_whyNotRemoved 31 = .ok (.aload_n 2, 1) := by decide +kernel
theorem d_Server_whyNotRemoved_32 : decode c_Server_whyNotRemoved 32 = .ok (.getfield 346, 3) := by decide +kernel
theorem d_Server_whyNotRemoved_35 : decode c_Server_whyNotRemoved 35 = .ok (.invokevirtual 204, 3) := by decide +kernel
theorem d_Server_whyNotRemoved_38 : decode c_Server_whyNotRemoved 38 = .ok (.ifCond .le 7, 3) := by decide +kernel
theorem d_Server_whyNotRemoved_41 : decode c_Server_whyNotRemoved 41 = .ok (.iconst 5, 1) := by decide +kernel
theorem d_Server_whyNotRemoved_42 : decode c_Server_whyNotRemoved 42 = .ok (.goto 4, 3) := by decide +kernel
theorem d_Server_whyNotRemoved_45 : decode c_Server_whyNotRemoved 45 = .ok (.iconst 0, 1) := by decide +kernel
theorem d_Server_whyNotRemoved_46 : decode c_Server_whyNotRemoved 46 = .ok (.ireturn, 1) := by decide +kernel
abbrev c_Server_drop : ByteArray := prog_1_method_36_code
def y_Server_drop : MethodName := ⟨"EpochServer", "drop", "(LEpochServer$Node;)V"⟩
theorem d_Server_drop_0 : decode c_Server_drop 0 = .ok (.aload_n 0, 1) := by decide +kernel
theorem d_Server_drop_1 : decode c_Server_drop 1 = .ok (.getfield 47, 3) := by decide +kernel
theorem d_Server_drop_4 : decode c_Server_drop 4 = .ok (.aload_n 0, 1) := by decide +kernel
theorem d_Server_drop_5 : decode c_Server_drop 5 = .ok (.getfield 40, 3) := by decide +kernel
theorem d_Server_drop_8 : decode c_Server_drop 8 = .ok (.invokevirtual 373, 3) := by decide +kernel
theorem d_Server_drop_11 : decode c_Server_drop 11 = .ok (.aload_n 0, 1) := by decide +kernel
theorem d_Server_drop_12 : decode c_Server_drop 12 = .ok (.getfield 40, 3) := by decide +kernel
theorem d_Server_drop_15 : decode c_Server_drop 15 = .ok (.aload_n 1, 1) := by decide +kernel
theorem d_Server_drop_16 : decode c_Server_drop 16 = .ok (.getfield 346, 3) := by decide +kernel
theorem d_Server_drop_19 : decode c_Server_drop 19 = .ok (.invokevirtual 448, 3) := by decide +kernel
theorem d_Server_drop_22 : decode c_Server_drop 22 = .ok (.aload_n 0, 1) := by decide +kernel
theorem d_Server_drop_23 : decode c_Server_drop 23 = .ok (.getfield 40, 3) := by decide +kernel
theorem d_Server_drop_26 : decode c_Server_drop 26 = .ok (.aload_n 1, 1) := by decide +kernel
theorem d_Server_drop_27 : decode c_Server_drop 27 = .ok (.getfield 188, 3) := by decide +kernel
theorem d_Server_drop_30 : decode c_Server_drop 30 = .ok (.invokevirtual 185, 3) := by decide +kernel
theorem d_Server_drop_33 : decode c_Server_drop 33 = .ok (.astore_n 2, 1) := by decide +kernel
theorem d_Server_drop_34 : decode c_Server_drop 34 = .ok (.aload_n 2, 1) := by decide +kernel
theorem d_Server_drop_35 : decode c_Server_drop 35 = .ok (.ifnull 22, 3) := by decide +kernel
theorem d_Server_drop_38 : decode c_Server_drop 38 = .ok (.aload_n 0, 1) := by decide +kernel
theorem d_Server_drop_39 : decode c_Server_drop 39 = .ok (.getfield 40, 3) := by decide +kernel
theorem d_Server_drop_42 : decode c_Server_drop 42 = .ok (.aload_n 2, 1) := by decide +kernel
theorem d_Server_drop_43 : decode c_Server_drop 43 = .ok (.aload_n 2, 1) := by decide +kernel
theorem d_Server_drop_44 : decode c_Server_drop 44 = .ok (.getfield 207, 3) := by decide +kernel
theorem d_Server_drop_47 : decode c_Server_drop 47 = .ok (.aload_n 0, 1) := by decide +kernel
theorem d_Server_drop_48 : decode c_Server_drop 48 = .ok (.getfield 69, 3) := by decide +kernel
theorem d_Server_drop_51 : decode c_Server_drop 51 = .ok (.invokevirtual 369, 3) := by decide +kernel
theorem d_Server_drop_54 : decode c_Server_drop 54 = .ok (.invokevirtual 94, 3) := by decide +kernel
theorem d_Server_drop_57 : decode c_Server_drop 57 = .ok (.return_, 1) := by decide +kernel
abbrev c_Server_stat : ByteArray := prog_1_method_37_code
def y_Server_stat : MethodName := ⟨"EpochServer", "stat", "(LEpochServer$Node;)I"⟩
theorem d_Server_stat_0 : decode c_Server_stat 0 = .ok (.aload_n 0, 1) := by decide +kernel
theorem d_Server_stat_1 : decode c_Server_stat 1 = .ok (.getfield 18, 3) := by decide +kernel
theorem d_Server_stat_4 : decode c_Server_stat 4 = .ok (.aload_n 1, 1) := by decide +kernel
theorem d_Server_stat_5 : decode c_Server_stat 5 = .ok (.invokevirtual 419, 3) := by decide +kernel
theorem d_Server_stat_8 : decode c_Server_stat 8 = .ok (.i2l, 1) := by decide +kernel
theorem d_Server_stat_9 : decode c_Server_stat 9 = .ok (.iconst 2, 1) := by decide +kernel
theorem d_Server_stat_10 : decode c_Server_stat 10 = .ok (.invokevirtual 129, 3) := by decide +kernel
theorem d_Server_stat_13 : decode c_Server_stat 13 = .ok (.aload_n 0, 1) := by decide +kernel
theorem d_Server_stat_14 : decode c_Server_stat 14 = .ok (.getfield 18, 3) := by decide +kernel
theorem d_Server_stat_17 : decode c_Server_stat 17 = .ok (.aload_n 1, 1) := by decide +kernel
theorem d_Server_stat_18 : decode c_Server_stat 18 = .ok (.invokevirtual 422, 3) := by decide +kernel
theorem d_Server_stat_21 : decode c_Server_stat 21 = .ok (.iconst 0, 1) := by decide +kernel
theorem d_Server_stat_22 : decode c_Server_stat 22 = .ok (.ireturn, 1) := by decide +kernel
abbrev c_Server_wstat : ByteArray := prog_1_method_38_code
def y_Server_wstat : MethodName := ⟨"EpochServer", "wstat", "(LEpochServer$Fid;LEpochServer$Node;)I"⟩
theorem d_Server_wstat_0 : decode c_Server_wstat 0 = .ok (.aload_n 0, 1) := by decide +kernel
theorem d_Server_wstat_1 : decode c_Server_wstat 1 = .ok (.aload_n 1, 1) := by decide +kernel
theorem d_Server_wstat_2 : decode c_Server_wstat 2 = .ok (.aload_n 2, 1) := by decide +kernel
theorem d_Server_wstat_3 : decode c_Server_wstat 3 = .ok (.invokevirtual 450, 3) := by decide +kernel
theorem d_Server_wstat_6 : decode c_Server_wstat 6 = .ok (.istore_n 3, 1) := by decide +kernel
theorem d_Server_wstat_7 : decode c_Server_wstat 7 = .ok (.iload_n 3, 1) := by decide +kernel
theorem d_Server_wstat_8 : decode c_Server_wstat 8 = .ok (.ifCond .eq 5, 3) := by decide +kernel
theorem d_Server_wstat_11 : decode c_Server_wstat 11 = .ok (.iload_n 3, 1) := by decide +kernel
theorem d_Server_wstat_12 : decode c_Server_wstat 12 = .ok (.ireturn, 1) := by decide +kernel
theorem d_Server_wstat_13 : decode c_Server_wstat 13 = .ok (.aload_n 0, 1) := by decide +kernel
theorem d_Server_wstat_14 : decode c_Server_wstat 14 = .ok (.getfield 26, 3) := by decide +kernel
theorem d_Server_wstat_17 : decode c_Server_wstat 17 = .ok (.invokevirtual 453, 3) := by decide +kernel
theorem d_Server_wstat_20 : decode c_Server_wstat 20 = .ok (.ifCond .eq 12, 3) := by decide +kernel
theorem d_Server_wstat_23 : decode c_Server_wstat 23 = .ok (.aload_n 0, 1) := by decide +kernel
theorem d_Server_wstat_24 : decode c_Server_wstat 24 = .ok (.getfield 47, 3) := by decide +kernel
theorem d_Server_wstat_27 : decode c_Server_wstat 27 = .ok (.invokevirtual 180, 3) := by decide +kernel
theorem d_Server_wstat_30 : decode c_Server_wstat 30 = .ok (.iconst 0, 1) := by decide +kernel
theorem d_Server_wstat_31 : decode c_Server_wstat 31 = .ok (.ireturn, 1) := by decide +kernel
theorem d_Server_wstat_32 : decode c_Server_wstat 32 = .ok (.aload_n 0, 1) := by decide +kernel
theorem d_Server_wstat_33 : decode c_Server_wstat 33 = .ok (.aload_n 2, 1) := by decide +kernel
theorem d_Server_wstat_34 : decode c_Server_wstat 34 = .ok (.invokevirtual 456, 3) := by decide +kernel
theorem d_Server_wstat_37 : decode c_Server_wstat 37 = .ok (.astore 4, 2) := by decide +kernel
theorem d_Server_wstat_39 : decode c_Server_wstat 39 = .ok (.aload 4, 2) := by decide +kernel
theorem d_Server_wstat_41 : decode c_Server_wstat 41 = .ok (.aload_n 2, 1) := by decide +kernel
theorem d_Server_wstat_42 : decode c_Server_wstat 42 = .ok (.invokevirtual 460, 3) := by decide +kernel
theorem d_Server_wstat_45 : decode c_Server_wstat 45 = .ok (.ifCond .ne 23, 3) := by decide +kernel
theorem d_Server_wstat_48 : decode c_Server_wstat 48 = .ok (.aload_n 0, 1) := by decide +kernel
theorem d_Server_wstat_49 : decode c_Server_wstat 49 = .ok (.getfield 47, 3) := by decide +kernel
theorem d_Server_wstat_52 : decode c_Server_wstat 52 = .ok (.aload_n 0, 1) := by decide +kernel
theorem d_Server_wstat_53 : decode c_Server_wstat 53 = .ok (.getfield 40, 3) := by decide +kernel
theorem d_Server_wstat_56 : decode c_Server_wstat 56 = .ok (.invokevirtual 373, 3) := by decide +kernel
theorem d_Server_wstat_59 : decode c_Server_wstat 59 = .ok (.aload_n 0, 1) := by decide +kernel
theorem d_Server_wstat_60 : decode c_Server_wstat 60 = .ok (.getfield 40, 3) := by decide +kernel
theorem d_Server_wstat_63 : decode c_Server_wstat 63 = .ok (.aload 4, 2) := by decide +kernel
theorem d_Server_wstat_65 : decode c_Server_wstat 65 = .ok (.invokevirtual 94, 3) := by decide +kernel
theorem d_Server_wstat_68 : decode c_Server_wstat 68 = .ok (.iconst 0, 1) := by decide +kernel
theorem d_Server_wstat_69 : decode c_Server_wstat 69 = .ok (.ireturn, 1) := by decide +kernel
abbrev c_Server_whyNotBent : ByteArray := prog_1_method_39_code
def y_Server_whyNotBent : MethodName := ⟨"EpochServer", "whyNotBent", "(LEpochServer$Fid;LEpochServer$Node;)I"⟩
theorem d_Server_whyNotBent_0 : decode c_Server_whyNotBent 0 = .ok (.aload_n 1, 1) := by decide +kernel
theorem d_Server_whyNotBent_1 : decode c_Server_whyNotBent 1 = .ok (.getfield 217, 3) := by decide +kernel
theorem d_Server_whyNotBent_4 : decode c_Server_whyNotBent 4 = .ok (.iconst (-1), 1) := by decide +kernel
theorem d_Server_whyNotBent_5 : decode c_Server_whyNotBent 5 = .ok (.if_icmp .eq 5, 3) := by decide +kernel
theorem d_Server_whyNotBent_8 : decode c_Server_whyNotBent 8 = .ok (.iconst 3, 1) := by decide +kernel
theorem d_Server_whyNotBent_9 : decode c_Server_whyNotBent 9 = .ok (.ireturn, 1) := by decide +kernel
theorem d_Server_whyNotBent_10 : decode c_Server_whyNotBent 10 = .ok (.aload_n 0, 1) := by decide +kernel
theorem d_Server_whyNotBent_11 : decode c_Server_whyNotBent 11 = .ok (.getfield 26, 3) := by decide +kernel
theorem d_Server_whyNotBent_14 : decode c_Server_whyNotBent 14 = .ok (.getfield 464, 3) := by decide +kernel
theorem d_Server_whyNotBent_17 : decode c_Server_whyNotBent 17 = .ok (.ifCond .ne 5, 3) := by decide +kernel
theorem d_Server_whyNotBent_20 : decode c_Server_whyNotBent 20 = .ok (.iconst 5, 1) := by decide +kernel
theorem d_Server_whyNotBent_21 : decode c_Server_whyNotBent 21 = .ok (.ireturn, 1) := by decide +kernel
theorem d_Server_whyNotBent_22 : decode c_Server_whyNotBent 22 = .ok (.aload_n 0, 1) := by decide +kernel
theorem d_Server_whyNotBent_23 : decode c_Server_whyNotBent 23 = .ok (.getfield 26, 3) := by decide +kernel
theorem d_Server_whyNotBent_26 : decode c_Server_whyNotBent 26 = .ok (.getfield 467, 3) := by decide +kernel
theorem d_Server_whyNotBent_29 : decode c_Server_whyNotBent 29 = .ok (.ifCond .le 57, 3) := by decide +kernel
theorem d_Server_whyNotBent_32 : decode c_Server_whyNotBent 32 = .ok (.aload_n 2, 1) := by decide +kernel
theorem d_Server_whyNotBent_33 : decode c_Server_whyNotBent 33 = .ok (.getfield 346, 3) := by decide +kernel
theorem d_Server_whyNotBent_36 : decode c_Server_whyNotBent 36 = .ok (.ifCond .eq 13, 3) := by decide +kernel
theorem d_Server_whyNotBent_39 : decode c_Server_whyNotBent 39 = .ok (.aload_n 0, 1) := by decide +kernel
theorem d_Server_whyNotBent_40 : decode c_Server_whyNotBent 40 = .ok (.getfield 26, 3) := by decide +kernel
theorem d_Server_whyNotBent_43 : decode c_Server_whyNotBent 43 = .ok (.invokevirtual 376, 3) := by decide +kernel
theorem d_Server_whyNotBent_46 : decode c_Server_whyNotBent 46 = .ok (.ifCond .ne 6, 3) := by decide +kernel
theorem d_Server_whyNotBent_49 : decode c_Server_whyNotBent 49 = .ok (.bipush 6, 2) := by decide +kernel
theorem d_Server_whyNotBent_51 : decode c_Server_whyNotBent 51 = .ok (.ireturn, 1) := by decide +kernel
theorem d_Server_whyNotBent_52 : decode c_Server_whyNotBent 52 = .ok (.aload_n 0, 1) := by decide +kernel
theorem d_Server_whyNotBent_53 : decode c_Server_whyNotBent 53 = .ok (.getfield 40, 3) := by decide +kernel
theorem d_Server_whyNotBent_56 : decode c_Server_whyNotBent 56 = .ok (.aload_n 2, 1) := by decide +kernel
theorem d_Server_whyNotBent_57 : decode c_Server_whyNotBent 57 = .ok (.getfield 188, 3) := by decide +kernel
theorem d_Server_whyNotBent_60 : decode c_Server_whyNotBent 60 = .ok (.aload_n 0, 1) := by decide +kernel
theorem d_Server_whyNotBent_61 : decode c_Server_whyNotBent 61 = .ok (.getfield 26, 3) := by decide +kernel
theorem d_Server_whyNotBent_64 : decode c_Server_whyNotBent 64 = .ok (.invokevirtual 354, 3) := by decide +kernel
theorem d_Server_whyNotBent_67 : decode c_Server_whyNotBent 67 = .ok (.astore_n 3, 1) := by decide +kernel
theorem d_Server_whyNotBent_68 : decode c_Server_whyNotBent 68 = .ok (.aload_n 3, 1) := by decide +kernel
theorem d_Server_whyNotBent_69 : decode c_Server_whyNotBent 69 = .ok (.ifnull 17, 3) := by decide +kernel
theorem d_Server_whyNotBent_72 : decode c_Server_whyNotBent 72 = .ok (.aload_n 3, 1) := by decide +kernel
theorem d_Server_whyNotBent_73 : decode c_Server_whyNotBent 73 = .ok (.getfield 346, 3) := by decide +kernel
theorem d_Server_whyNotBent_76 : decode c_Server_whyNotBent 76 = .ok (.aload_n 2, 1) := by decide +kernel
theorem d_Server_whyNotBent_77 : decode c_Server_whyNotBent 77 = .ok (.getfield 346, 3) := by decide +kernel
theorem d_Server_whyNotBent_80 : decode c_Server_whyNotBent 80 = .ok (.if_icmp .eq 6, 3) := by decide +kernel
theorem d_Server_whyNotBent_83 : decode c_Server_whyNotBent 83 = .ok (.bipush 7, 2) := by decide +kernel
theorem d_Server_whyNotBent_85 : decode c_Server_whyNotBent 85 = .ok (.ireturn, 1) := by decide +kernel
theorem d_Server_whyNotBent_86 : decode c_Server_whyNotBent 86 = .ok (.aload_n 0, 1) := by decide +kernel
theorem d_Server_whyNotBent_87 : decode c_Server_whyNotBent 87 = .ok (.getfield 26, 3) := by decide +kernel
theorem d_Server_whyNotBent_90 : decode c_Server_whyNotBent 90 = .ok (.getfield 379, 3) := by decide +kernel
theorem d_Server_whyNotBent_93 : decode c_Server_whyNotBent 93 = .ok (.iconst (-1), 1) := by decide +kernel
theorem d_Server_whyNotBent_94 : decode c_Server_whyNotBent 94 = .ok (.if_icmp .eq 35, 3) := by decide +kernel
theorem d_Server_whyNotBent_97 : decode c_Server_whyNotBent 97 = .ok (.aload_n 0, 1) := by decide +kernel
theorem d_Server_whyNotBent_98 : decode c_Server_whyNotBent 98 = .ok (.getfield 26, 3) := by decide +kernel
theorem d_Server_whyNotBent_101 : decode c_Server_whyNotBent 101 = .ok (.getfield 379, 3) := by decide +kernel
theorem d_Server_whyNotBent_104 : decode c_Server_whyNotBent 104 = .ok (.aload_n 2, 1) := by decide +kernel
theorem d_Server_whyNotBent_105 : decode c_Server_whyNotBent 105 = .ok (.getfield 194, 3) := by decide +kernel
theorem d_Server_whyNotBent_108 : decode c_Server_whyNotBent 108 = .ok (.ixor, 1) := by decide +kernel
theorem d_Server_whyNotBent_109 : decode c_Server_whyNotBent 109 = .ok (.ifCond .lt 17, 3) := by decide +kernel
theorem d_Server_whyNotBent_112 : decode c_Server_whyNotBent 112 = .ok (.aload_n 0, 1) := by decide +kernel
theorem d_Server_whyNotBent_113 : decode c_Server_whyNotBent 113 = .ok (.getfield 26, 3) := by decide +kernel
theorem d_Server_whyNotBent_116 : decode c_Server_whyNotBent 116 = .ok (.getfield 379, 3) := by decide +kernel
theorem d_Server_whyNotBent_119 : decode c_Server_whyNotBent 119 = .ok (.ldc_w 470, 3) := by decide +kernel
theorem d_Server_whyNotBent_122 : decode c_Server_whyNotBent 122 = .ok (.iand, 1) := by decide +kernel
theorem d_Server_whyNotBent_123 : decode c_Server_whyNotBent 123 = .ok (.ifCond .eq 6, 3) := by decide +kernel
theorem d_Server_whyNotBent_126 : decode c_Server_whyNotBent 126 = .ok (.bipush 8, 2) := by decide +kernel
theorem d_Server_whyNotBent_128 : decode c_Server_whyNotBent 128 = .ok (.ireturn, 1) := by decide +kernel
theorem d_Server_whyNotBent_129 : decode c_Server_whyNotBent 129 = .ok (.aload_n 0, 1) := by decide +kernel
theorem d_Server_whyNotBent_130 : decode c_Server_whyNotBent 130 = .ok (.getfield 26, 3) := by decide +kernel
theorem d_Server_whyNotBent_133 : decode c_Server_whyNotBent 133 = .ok (.getfield 389, 3) := by decide +kernel
theorem d_Server_whyNotBent_136 : decode c_Server_whyNotBent 136 = .ok (.ldc2_w 471, 3) := by decide +kernel
theorem d_Server_whyNotBent_139 : decode c_Server_whyNotBent 139 = .ok (.lcmp, 1) := by decide +kernel
theorem d_Server_whyNotBent_140 : decode c_Server_whyNotBent 140 = .ok (.ifCond .eq 29, 3) := by decide +kernel
theorem d_Server_whyNotBent_143 : decode c_Server_whyNotBent 143 = .ok (.aload_n 2, 1) := by decide +kernel
theorem d_Server_whyNotBent_144 : decode c_Server_whyNotBent 144 = .ok (.invokevirtual 200, 3) := by decide +kernel
theorem d_Server_whyNotBent_147 : decode c_Server_whyNotBent 147 = .ok (.ifCond .ne 19, 3) := by decide +kernel
theorem d_Server_whyNotBent_150 : decode c_Server_whyNotBent 150 = .ok (.aload_n 0, 1) := by decide +kernel
theorem d_Server_whyNotBent_151 : decode c_Server_whyNotBent 151 = .ok (.getfield 26, 3) := by decide +kernel
theorem d_Server_whyNotBent_154 : decode c_Server_whyNotBent 154 = .ok (.getfield 389, 3) := by decide +kernel
theorem d_Server_whyNotBent_157 : decode c_Server_whyNotBent 157 = .ok (.sipush 512, 3) := by decide +kernel
theorem d_Server_whyNotBent_160 : decode c_Server_whyNotBent 160 = .ok (.invokestatic 393, 3) := by decide +kernel
theorem d_Server_whyNotBent_163 : decode c_Server_whyNotBent 163 = .ok (.ifCond .eq 6, 3) := by decide +kernel
theorem d_Server_whyNotBent_166 : decode c_Server_whyNotBent 166 = .ok (.bipush 9, 2) := by decide +kernel
theorem d_Server_whyNotBent_168 : decode c_Server_whyNotBent 168 = .ok (.ireturn, 1) := by decide +kernel
theorem d_Server_whyNotBent_169 : decode c_Server_whyNotBent 169 = .ok (.iconst 0, 1) := by decide +kernel
theorem d_Server_whyNotBent_170 : decode c_Server_whyNotBent 170 = .ok (.ireturn, 1) := by decide +kernel
abbrev c_Server_bent : ByteArray := prog_1_method_40_code
def y_Server_bent : MethodName := ⟨"EpochServer", "bent", "(LEpochServer$Node;)LEpochServer$Node;"⟩
theorem d_Server_bent_0 : decode c_Server_bent 0 = .ok (.aload_n 1, 1) := by decide +kernel
theorem d_Server_bent_1 : decode c_Server_bent 1 = .ok (.astore_n 2, 1) := by decide +kernel
theorem d_Server_bent_2 : decode c_Server_bent 2 = .ok (.aload_n 0, 1) := by decide +kernel
theorem d_Server_bent_3 : decode c_Server_bent 3 = .ok (.getfield 26, 3) := by decide +kernel
theorem d_Server_bent_6 : decode c_Server_bent 6 = .ok (.getfield 389, 3) := by decide +kernel
theorem d_Server_bent_9 : decode c_Server_bent 9 = .ok (.ldc2_w 471, 3) := by decide +kernel
theorem d_Server_bent_12 : decode c_Server_bent 12 = .ok (.lcmp, 1) := by decide +kernel
theorem d_Server_bent_13 : decode c_Server_bent 13 = .ok (.ifCond .eq 60, 3) := by decide +kernel
theorem d_Server_bent_16 : decode c_Server_bent 16 = .ok (.aload_n 0, 1) := by decide +kernel
theorem d_Server_bent_17 : decode c_Server_bent 17 = .ok (.getfield 26, 3) := by decide +kernel
theorem d_Server_bent_20 : decode c_Server_bent 20 = .ok (.getfield 389, 3) := by decide +kernel
theorem d_Server_bent_23 : decode c_Server_bent 23 = .ok (.aload_n 1, 1) := by decide +kernel
theorem d_Server_bent_24 : decode c_Server_bent 24 = .ok (.getfield 207, 3) := by decide +kernel
theorem d_Server_bent_27 : decode c_Server_bent 27 = .ok (.arraylength, 1) := by decide +kernel
theorem d_Server_bent_28 : decode c_Server_bent 28 = .ok (.i2l, 1) := by decide +kernel
theorem d_Server_bent_29 : decode c_Server_bent 29 = .ok (.lcmp, 1) := by decide +kernel
theorem d_Server_bent_30 : decode c_Server_bent 30 = .ok (.ifCond .eq 43, 3) := by decide +kernel
theorem d_Server_bent_33 : decode c_Server_bent 33 = .ok (.aload_n 0, 1) := by decide +kernel
theorem d_Server_bent_34 : decode c_Server_bent 34 = .ok (.getfield 26, 3) := by decide +kernel
theorem d_Server_bent_37 : decode c_Server_bent 37 = .ok (.getfield 389, 3) := by decide +kernel
theorem d_Server_bent_40 : decode c_Server_bent 40 = .ok (.sipush 512, 3) := by decide +kernel
theorem d_Server_bent_43 : decode c_Server_bent 43 = .ok (.invokestatic 393, 3) := by decide +kernel
theorem d_Server_bent_46 : decode c_Server_bent 46 = .ok (.ifCond .ne 27, 3) := by decide +kernel
theorem d_Server_bent_49 : decode c_Server_bent 49 = .ok (.aload_n 1, 1) := by decide +kernel
theorem d_Server_bent_50 : decode c_Server_bent 50 = .ok (.aload_n 1, 1) := by decide +kernel
theorem d_Server_bent_51 : decode c_Server_bent 51 = .ok (.getfield 207, 3) := by decide +kernel
theorem d_Server_bent_54 : decode c_Server_bent 54 = .ok (.aload_n 0, 1) := by decide +kernel
theorem d_Server_bent_55 : decode c_Server_bent 55 = .ok (.getfield 26, 3) := by decide +kernel
theorem d_Server_bent_58 : decode c_Server_bent 58 = .ok (.getfield 389, 3) := by decide +kernel
theorem d_Server_bent_61 : decode c_Server_bent 61 = .ok (.l2i, 1) := by decide +kernel
theorem d_Server_bent_62 : decode c_Server_bent 62 = .ok (.invokestatic 428, 3) := by decide +kernel
theorem d_Server_bent_65 : decode c_Server_bent 65 = .ok (.aload_n 0, 1) := by decide +kernel
theorem d_Server_bent_66 : decode c_Server_bent 66 = .ok (.getfield 69, 3) := by decide +kernel
theorem d_Server_bent_69 : decode c_Server_bent 69 = .ok (.invokevirtual 369, 3) := by decide +kernel
theorem d_Server_bent_72 : decode c_Server_bent 72 = .ok (.astore_n 2, 1) := by decide +kernel
theorem d_Server_bent_73 : decode c_Server_bent 73 = .ok (.aload_n 0, 1) := by decide +kernel
theorem d_Server_bent_74 : decode c_Server_bent 74 = .ok (.getfield 26, 3) := by decide +kernel
theorem d_Server_bent_77 : decode c_Server_bent 77 = .ok (.getfield 467, 3) := by decide +kernel
theorem d_Server_bent_80 : decode c_Server_bent 80 = .ok (.ifCond .le 13, 3) := by decide +kernel
theorem d_Server_bent_83 : decode c_Server_bent 83 = .ok (.aload_n 0, 1) := by decide +kernel
theorem d_Server_bent_84 : decode c_Server_bent 84 = .ok (.getfield 26, 3) := by decide +kernel
theorem d_Server_bent_87 : decode c_Server_bent 87 = .ok (.invokevirtual 382, 3) := by decide +kernel
theorem d_Server_bent_90 : decode c_Server_bent 90 = .ok (.goto 7, 3) := by decide +kernel
theorem d_Server_bent_93 : decode c_Server_bent 93 = .ok (.aload_n 2, 1) := by decide +kernel
theorem d_Server_bent_94 : decode c_Server_bent 94 = .ok (.getfield 210, 3) := by decide +kernel
theorem d_Server_bent_97 : decode c_Server_bent 97 = .ok (.astore_n 3, 1) := by decide +kernel
theorem d_Server_bent_98 : decode c_Server_bent 98 = .ok (.aload_n 0, 1) := by decide +kernel
theorem d_Server_bent_99 : decode c_Server_bent 99 = .ok (.getfield 26, 3) := by decide +kernel
theorem d_Server_bent_102 : decode c_Server_bent 102 = .ok (.getfield 379, 3) := by decide +kernel
theorem d_Server_bent_105 : decode c_Server_bent 105 = .ok (.iconst (-1), 1) := by decide +kernel
theorem d_Server_bent_106 : decode c_Server_bent 106 = .ok (.if_icmp .eq 13, 3) := by decide +kernel
theorem d_Server_bent_109 : decode c_Server_bent 109 = .ok (.aload_n 0, 1) := by decide +kernel
theorem d_Server_bent_110 : decode c_Server_bent 110 = .ok (.getfield 26, 3) := by decide +kernel
theorem d_Server_bent_113 : decode c_Server_bent 113 = .ok (.getfield 379, 3) := by decide +kernel
theorem d_Server_bent_116 : decode c_Server_bent 116 = .ok (.goto 7, 3) := by decide +kernel
theorem d_Server_bent_119 : decode c_Server_bent 119 = .ok (.aload_n 2, 1) := by decide +kernel
theorem d_Server_bent_120 : decode c_Server_bent 120 = .ok (.getfield 194, 3) := by decide +kernel
theorem d_Server_bent_123 : decode c_Server_bent 123 = .ok (.istore 4, 2) := by decide +kernel
theorem d_Server_bent_125 : decode c_Server_bent 125 = .ok (.aload_n 0, 1) := by decide +kernel
theorem d_Server_bent_126 : decode c_Server_bent 126 = .ok (.getfield 26, 3) := by decide +kernel
theorem d_Server_bent_129 : decode c_Server_bent 129 = .ok (.getfield 473, 3) := by decide +kernel
theorem d_Server_bent_132 : decode c_Server_bent 132 = .ok (.iconst (-1), 1) := by decide +kernel
theorem d_Server_bent_133 : decode c_Server_bent 133 = .ok (.if_icmp .eq 13, 3) := by decide +kernel
theorem d_Server_bent_136 : decode c_Server_bent 136 = .ok (.aload_n 0, 1) := by decide +kernel
theorem d_Server_bent_137 : decode c_Server_bent 137 = .ok (.getfield 26, 3) := by decide +kernel
theorem d_Server_bent_140 : decode c_Server_bent 140 = .ok (.getfield 473, 3) := by decide +kernel
theorem d_Server_bent_143 : decode c_Server_bent 143 = .ok (.goto 7, 3) := by decide +kernel
theorem d_Server_bent_146 : decode c_Server_bent 146 = .ok (.aload_n 2, 1) := by decide +kernel
theorem d_Server_bent_147 : decode c_Server_bent 147 = .ok (.getfield 197, 3) := by decide +kernel
theorem d_Server_bent_150 : decode c_Server_bent 150 = .ok (.istore 5, 2) := by decide +kernel
theorem d_Server_bent_152 : decode c_Server_bent 152 = .ok (.new 81, 3) := by decide +kernel
theorem d_Server_bent_155 : decode c_Server_bent 155 = .ok (.dup, 1) := by decide +kernel
theorem d_Server_bent_156 : decode c_Server_bent 156 = .ok (.aload_n 2, 1) := by decide +kernel
theorem d_Server_bent_157 : decode c_Server_bent 157 = .ok (.getfield 346, 3) := by decide +kernel
theorem d_Server_bent_160 : decode c_Server_bent 160 = .ok (.aload_n 2, 1) := by decide +kernel
theorem d_Server_bent_161 : decode c_Server_bent 161 = .ok (.getfield 188, 3) := by decide +kernel
theorem d_Server_bent_164 : decode c_Server_bent 164 = .ok (.aload_n 3, 1) := by decide +kernel
theorem d_Server_bent_165 : decode c_Server_bent 165 = .ok (.iload 4, 2) := by decide +kernel
theorem d_Server_bent_167 : decode c_Server_bent 167 = .ok (.aload_n 2, 1) := by decide +kernel
theorem d_Server_bent_168 : decode c_Server_bent 168 = .ok (.getfield 191, 3) := by decide +kernel
theorem d_Server_bent_171 : decode c_Server_bent 171 = .ok (.iload 5, 2) := by decide +kernel
theorem d_Server_bent_173 : decode c_Server_bent 173 = .ok (.aload_n 2, 1) := by decide +kernel
theorem d_Server_bent_174 : decode c_Server_bent 174 = .ok (.getfield 207, 3) := by decide +kernel
theorem d_Server_bent_177 : decode c_Server_bent 177 = .ok (.invokespecial 91, 3) := by decide +kernel
theorem d_Server_bent_180 : decode c_Server_bent 180 = .ok (.areturn, 1) := by decide +kernel
