abbrev c_String_charAt_5068e : ByteArray := prog_17_method_56_code
def y_String_charAt_5068e : MethodName := ⟨"java/lang/String", "charAt", "(I)C"⟩
theorem d_String_charAt_5068e_0 : decode c_String_charAt_5068e 0 = .ok (.aload_n 0, 1) := by decide +kernel
theorem d_String_charAt_5068e_1 : decode c_String_charAt_5068e 1 = .ok (.invokevirtual 492, 3) := by decide +kernel
theorem d_String_charAt_5068e_4 : decode c_String_charAt_5068e 4 = .ok (.ifCond .eq 12, 3) := by decide +kernel
theorem d_String_charAt_5068e_7 : decode c_String_charAt_5068e 7 = .ok (.aload_n 0, 1) := by decide +kernel
theorem d_String_charAt_5068e_8 : decode c_String_charAt_5068e 8 = .ok (.getfield 9, 3) := by decide +kernel
theorem d_String_charAt_5068e_11 : decode c_String_charAt_5068e 11 = .ok (.iload_n 1, 1) := by decide +kernel
theorem d_String_charAt_5068e_12 : decode c_String_charAt_5068e 12 = .ok (.invokestatic 495, 3) := by decide +kernel
theorem d_String_charAt_5068e_15 : decode c_String_charAt_5068e 15 = .ok (.ireturn, 1) := by decide +kernel
theorem d_String_charAt_5068e_16 : decode c_String_charAt_5068e 16 = .ok (.aload_n 0, 1) := by decide +kernel
theorem d_String_charAt_5068e_17 : decode c_String_charAt_5068e 17 = .ok (.getfield 9, 3) := by decide +kernel
theorem d_String_charAt_5068e_20 : decode c_String_charAt_5068e 20 = .ok (.iload_n 1, 1) := by decide +kernel
theorem d_String_charAt_5068e_21 : decode c_String_charAt_5068e 21 = .ok (.invokestatic 498, 3) := by decide +kernel
theorem d_String_charAt_5068e_24 : decode c_String_charAt_5068e 24 = .ok (.ireturn, 1) := by decide +kernel
abbrev c_Model_init : ByteArray := prog_14_method_1_code
def y_Model_init : MethodName := ⟨"EpochServerModel", "<init>", "()V"⟩
theorem d_Model_init_0 : decode c_Model_init 0 = .ok (.aload_n 0, 1) := by decide +kernel
theorem d_Model_init_1 : decode c_Model_init 1 = .ok (.invokespecial 1, 3) := by decide +kernel
theorem d_Model_init_4 : decode c_Model_init 4 = .ok (.aload_n 0, 1) := by decide +kernel
theorem d_Model_init_5 : decode c_Model_init 5 = .ok (.sipush 1680, 3) := by decide +kernel
theorem d_Model_init_8 : decode c_Model_init 8 = .ok (.newarray .boolean, 2) := by decide +kernel
theorem d_Model_init_10 : decode c_Model_init 10 = .ok (.putfield 9, 3) := by decide +kernel
theorem d_Model_init_13 : decode c_Model_init 13 = .ok (.aload_n 0, 1) := by decide +kernel
theorem d_Model_init_14 : decode c_Model_init 14 = .ok (.sipush 1680, 3) := by decide +kernel
theorem d_Model_init_17 : decode c_Model_init 17 = .ok (.newarray .int, 2) := by decide +kernel
theorem d_Model_init_19 : decode c_Model_init 19 = .ok (.putfield 13, 3) := by decide +kernel
theorem d_Model_init_22 : decode c_Model_init 22 = .ok (.aload_n 0, 1) := by decide +kernel
theorem d_Model_init_23 : decode c_Model_init 23 = .ok (.sipush 1680, 3) := by decide +kernel
theorem d_Model_init_26 : decode c_Model_init 26 = .ok (.newarray .int, 2) := by decide +kernel
theorem d_Model_init_28 : decode c_Model_init 28 = .ok (.putfield 17, 3) := by decide +kernel
theorem d_Model_init_31 : decode c_Model_init 31 = .ok (.aload_n 0, 1) := by decide +kernel
theorem d_Model_init_32 : decode c_Model_init 32 = .ok (.sipush 1680, 3) := by decide +kernel
theorem d_Model_init_35 : decode c_Model_init 35 = .ok (.newarray .int, 2) := by decide +kernel
theorem d_Model_init_37 : decode c_Model_init 37 = .ok (.putfield 20, 3) := by decide +kernel
theorem d_Model_init_40 : decode c_Model_init 40 = .ok (.aload_n 0, 1) := by decide +kernel
theorem d_Model_init_41 : decode c_Model_init 41 = .ok (.sipush 1680, 3) := by decide +kernel
theorem d_Model_init_44 : decode c_Model_init 44 = .ok (.newarray .int, 2) := by decide +kernel
theorem d_Model_init_46 : decode c_Model_init 46 = .ok (.putfield 23, 3) := by decide +kernel
theorem d_Model_init_49 : decode c_Model_init 49 = .ok (.aload_n 0, 1) := by decide +kernel
theorem d_Model_init_50 : decode c_Model_init 50 = .ok (.sipush 1680, 3) := by decide +kernel
theorem d_Model_init_53 : decode c_Model_init 53 = .ok (.newarray .int, 2) := by decide +kernel
theorem d_Model_init_55 : decode c_Model_init 55 = .ok (.putfield 26, 3) := by decide +kernel
theorem d_Model_init_58 : decode c_Model_init 58 = .ok (.aload_n 0, 1) := by decide +kernel
theorem d_Model_init_59 : decode c_Model_init 59 = .ok (.sipush 1680, 3) := by decide +kernel
theorem d_Model_init_62 : decode c_Model_init 62 = .ok (.newarray .int, 2) := by decide +kernel
theorem d_Model_init_64 : decode c_Model_init 64 = .ok (.putfield 29, 3) := by decide +kernel
theorem d_Model_init_67 : decode c_Model_init 67 = .ok (.aload_n 0, 1) := by decide +kernel
theorem d_Model_init_68 : decode c_Model_init 68 = .ok (.ldc 32, 2) := by decide +kernel
theorem d_Model_init_70 : decode c_Model_init 70 = .ok (.newarray .int, 2) := by decide +kernel
theorem d_Model_init_72 : decode c_Model_init 72 = .ok (.putfield 33, 3) := by decide +kernel
theorem d_Model_init_75 : decode c_Model_init 75 = .ok (.aload_n 0, 1) := by decide +kernel
theorem d_Model_init_76 : decode c_Model_init 76 = .ok (.ldc 36, 2) := by decide +kernel
theorem d_Model_init_78 : decode c_Model_init 78 = .ok (.newarray .int, 2) := by decide +kernel
theorem d_Model_init_80 : decode c_Model_init 80 = .ok (.putfield 37, 3) := by decide +kernel
theorem d_Model_init_83 : decode c_Model_init 83 = .ok (.aload_n 0, 1) := by decide +kernel
theorem d_Model_init_84 : decode c_Model_init 84 = .ok (.iconst 1, 1) := by decide +kernel
theorem d_Model_init_85 : decode c_Model_init 85 = .ok (.putfield 40, 3) := by decide +kernel
theorem d_Model_init_88 : decode c_Model_init 88 = .ok (.aload_n 0, 1) := by decide +kernel
theorem d_Model_init_89 : decode c_Model_init 89 = .ok (.sipush 1400, 3) := by decide +kernel
theorem d_Model_init_92 : decode c_Model_init 92 = .ok (.newarray .int, 2) := by decide +kernel
theorem d_Model_init_94 : decode c_Model_init 94 = .ok (.putfield 44, 3) := by decide +kernel
theorem d_Model_init_97 : decode c_Model_init 97 = .ok (.aload_n 0, 1) := by decide +kernel
theorem d_Model_init_98 : decode c_Model_init 98 = .ok (.sipush 1500, 3) := by decide +kernel
theorem d_Model_init_101 : decode c_Model_init 101 = .ok (.newarray .int, 2) := by decide +kernel
theorem d_Model_init_103 : decode c_Model_init 103 = .ok (.putfield 47, 3) := by decide +kernel
theorem d_Model_init_106 : decode c_Model_init 106 = .ok (.aload_n 0, 1) := by decide +kernel
theorem d_Model_init_107 : decode c_Model_init 107 = .ok (.bipush 24, 2) := by decide +kernel
theorem d_Model_init_109 : decode c_Model_init 109 = .ok (.newarray .int, 2) := by decide +kernel
theorem d_Model_init_111 : decode c_Model_init 111 = .ok (.putfield 50, 3) := by decide +kernel
theorem d_Model_init_114 : decode c_Model_init 114 = .ok (.aload_n 0, 1) := by decide +kernel
theorem d_Model_init_115 : decode c_Model_init 115 = .ok (.bipush 24, 2) := by decide +kernel
theorem d_Model_init_117 : decode c_Model_init 117 = .ok (.newarray .int, 2) := by decide +kernel
theorem d_Model_init_119 : decode c_Model_init 119 = .ok (.putfield 53, 3) := by decide +kernel
theorem d_Model_init_122 : decode c_Model_init 122 = .ok (.aload_n 0, 1) := by decide +kernel
theorem d_Model_init_123 : decode c_Model_init 123 = .ok (.bipush 24, 2) := by decide +kernel
theorem d_Model_init_125 : decode c_Model_init 125 = .ok (.newarray .int, 2) := by decide +kernel
theorem d_Model_init_127 : decode c_Model_init 127 = .ok (.putfield 56, 3) := by decide +kernel
theorem d_Model_init_130 : decode c_Model_init 130 = .ok (.aload_n 0, 1) := by decide +kernel
theorem d_Model_init_131 : decode c_Model_init 131 = .ok (.bipush 24, 2) := by decide +kernel
theorem d_Model_init_133 : decode c_Model_init 133 = .ok (.newarray .int, 2) := by decide +kernel
theorem d_Model_init_135 : decode c_Model_init 135 = .ok (.putfield 59, 3) := by decide +kernel
theorem d_Model_init_138 : decode c_Model_init 138 = .ok (.aload_n 0, 1) := by decide +kernel
theorem d_Model_init_139 : decode c_Model_init 139 = .ok (.bipush 24, 2) := by decide +kernel
theorem d_Model_init_141 : decode c_Model_init 141 = .ok (.newarray .int, 2) := by decide +kernel
theorem d_Model_init_143 : decode c_Model_init 143 = .ok (.putfield 62, 3) := by decide +kernel
theorem d_Model_init_146 : decode c_Model_init 146 = .ok (.aload_n 0, 1) := by decide +kernel
theorem d_Model_init_147 : decode c_Model_init 147 = .ok (.bipush 24, 2) := by decide +kernel
theorem d_Model_init_149 : decode c_Model_init 149 = .ok (.newarray .int, 2) := by decide +kernel
theorem d_Model_init_151 : decode c_Model_init 151 = .ok (.putfield 65, 3) := by decide +kernel
theorem d_Model_init_154 : decode c_Model_init 154 = .ok (.aload_n 0, 1) := by decide +kernel
theorem d_Model_init_155 : decode c_Model_init 155 = .ok (.sipush 1400, 3) := by decide +kernel
theorem d_Model_init_158 : decode c_Model_init 158 = .ok (.newarray .int, 2) := by decide +kernel
theorem d_Model_init_160 : decode c_Model_init 160 = .ok (.putfield 68, 3) := by decide +kernel
theorem d_Model_init_163 : decode c_Model_init 163 = .ok (.aload_n 0, 1) := by decide +kernel
theorem d_Model_init_164 : decode c_Model_init 164 = .ok (.sipush 1400, 3) := by decide +kernel
theorem d_Model_init_167 : decode c_Model_init 167 = .ok (.newarray .int, 2) := by decide +kernel
theorem d_Model_init_169 : decode c_Model_init 169 = .ok (.putfield 71, 3) := by decide +kernel
theorem d_Model_init_172 : decode c_Model_init 172 = .ok (.aload_n 0, 1) := by decide +kernel
theorem d_Model_init_173 : decode c_Model_init 173 = .ok (.iconst 2, 1) := by decide +kernel
theorem d_Model_init_174 : decode c_Model_init 174 = .ok (.newarray .boolean, 2) := by decide +kernel
theorem d_Model_init_176 : decode c_Model_init 176 = .ok (.putfield 74, 3) := by decide +kernel
theorem d_Model_init_179 : decode c_Model_init 179 = .ok (.aload_n 0, 1) := by decide +kernel
theorem d_Model_init_180 : decode c_Model_init 180 = .ok (.sipush 3000, 3) := by decide +kernel
theorem d_Model_init_183 : decode c_Model_init 183 = .ok (.newarray .int, 2) := by decide +kernel
theorem d_Model_init_185 : decode c_Model_init 185 = .ok (.putfield 77, 3) := by decide +kernel
theorem d_Model_init_188 : decode c_Model_init 188 = .ok (.aload_n 0, 1) := by decide +kernel
theorem d_Model_init_189 : decode c_Model_init 189 = .ok (.sipush 6080, 3) := by decide +kernel
theorem d_Model_init_192 : decode c_Model_init 192 = .ok (.newarray .int, 2) := by decide +kernel
theorem d_Model_init_194 : decode c_Model_init 194 = .ok (.putfield 80, 3) := by decide +kernel
theorem d_Model_init_197 : decode c_Model_init 197 = .ok (.aload_n 0, 1) := by decide +kernel
theorem d_Model_init_198 : decode c_Model_init 198 = .ok (.bipush 80, 2) := by decide +kernel
theorem d_Model_init_200 : decode c_Model_init 200 = .ok (.newarray .int, 2) := by decide +kernel
theorem d_Model_init_202 : decode c_Model_init 202 = .ok (.putfield 83, 3) := by decide +kernel
theorem d_Model_init_205 : decode c_Model_init 205 = .ok (.aload_n 0, 1) := by decide +kernel
theorem d_Model_init_206 : decode c_Model_init 206 = .ok (.iconst 5, 1) := by decide +kernel
theorem d_Model_init_207 : decode c_Model_init 207 = .ok (.newarray .int, 2) := by decide +kernel
theorem d_Model_init_209 : decode c_Model_init 209 = .ok (.putfield 86, 3) := by decide +kernel
theorem d_Model_init_212 : decode c_Model_init 212 = .ok (.aload_n 0, 1) := by decide +kernel
theorem d_Model_init_213 : decode c_Model_init 213 = .ok (.sipush 300, 3) := by decide +kernel
theorem d_Model_init_216 : decode c_Model_init 216 = .ok (.newarray .int, 2) := by decide +kernel
theorem d_Model_init_218 : decode c_Model_init 218 = .ok (.putfield 89, 3) := by decide +kernel
theorem d_Model_init_221 : decode c_Model_init 221 = .ok (.aload_n 0, 1) := by decide +kernel
theorem d_Model_init_222 : decode c_Model_init 222 = .ok (.bipush 40, 2) := by decide +kernel
theorem d_Model_init_224 : decode c_Model_init 224 = .ok (.newarray .int, 2) := by decide +kernel
theorem d_Model_init_226 : decode c_Model_init 226 = .ok (.putfield 92, 3) := by decide +kernel
theorem d_Model_init_229 : decode c_Model_init 229 = .ok (.aload_n 0, 1) := by decide +kernel
theorem d_Model_init_230 : decode c_Model_init 230 = .ok (.getfield 9, 3) := by decide +kernel
theorem d_Model_init_233 : decode c_Model_init 233 = .ok (.iconst 0, 1) := by decide +kernel
theorem d_Model_init_234 : decode c_Model_init 234 = .ok (.iconst 1, 1) := by decide +kernel
theorem d_Model_init_235 : decode c_Model_init 235 = .ok (.bastore, 1) := by decide +kernel
theorem d_Model_init_236 : decode c_Model_init 236 = .ok (.aload_n 0, 1) := by decide +kernel
theorem d_Model_init_237 : decode c_Model_init 237 = .ok (.getfield 17, 3) := by decide +kernel
theorem d_Model_init_240 : decode c_Model_init 240 = .ok (.iconst 0, 1) := by decide +kernel
theorem d_Model_init_241 : decode c_Model_init 241 = .ok (.ldc 95, 2) := by decide +kernel
theorem d_Model_init_243 : decode c_Model_init 243 = .ok (.iastore, 1) := by decide +kernel
theorem d_Model_init_244 : decode c_Model_init 244 = .ok (.aload_n 0, 1) := by decide +kernel
theorem d_Model_init_245 : decode c_Model_init 245 = .ok (.getfield 29, 3) := by decide +kernel
theorem d_Model_init_248 : decode c_Model_init 248 = .ok (.iconst 0, 1) := by decide +kernel
theorem d_Model_init_249 : decode c_Model_init 249 = .ok (.iconst 1, 1) := by decide +kernel
theorem d_Model_init_250 : decode c_Model_init 250 = .ok (.iastore, 1) := by decide +kernel
theorem d_Model_init_251 : decode c_Model_init 251 = .ok (.aload_n 0, 1) := by decide +kernel
theorem d_Model_init_252 : decode c_Model_init 252 = .ok (.getfield 33, 3) := by decide +kernel
theorem d_Model_init_255 : decode c_Model_init 255 = .ok (.iconst 0, 1) := by decide +kernel
theorem d_Model_init_256 : decode c_Model_init 256 = .ok (.bipush 47, 2) := by decide +kernel
theorem d_Model_init_258 : decode c_Model_init 258 = .ok (.iastore, 1) := by decide +kernel
theorem d_Model_init_259 : decode c_Model_init 259 = .ok (.return_, 1) := by decide +kernel
abbrev c_Model_isIn : ByteArray := prog_14_method_2_code
def y_Model_isIn : MethodName := ⟨"EpochServerModel", "isIn", "(II)Z"⟩
theorem d_Model_isIn_0 : decode c_Model_isIn 0 = .ok (.iload_n 0, 1) := by decide +kernel
theorem d_Model_isIn_1 : decode c_Model_isIn 1 = .ok (.ifCond .lt 12, 3) := by decide +kernel
theorem d_Model_isIn_4 : decode c_Model_isIn 4 = .ok (.iload_n 0, 1) := by decide +kernel
theorem d_Model_isIn_5 : decode c_Model_isIn 5 = .ok (.iload_n 1, 1) := by decide +kernel
theorem d_Model_isIn_6 : decode c_Model_isIn 6 = .ok (.if_icmp .ge 7, 3) := by decide +kernel
theorem d_Model_isIn_9 : decode c_Model_isIn 9 = .ok (.iconst 1, 1) := by decide +kernel
theorem d_Model_isIn_10 : decode c_Model_isIn 10 = .ok (.goto 4, 3) := by decide +kernel
theorem d_Model_isIn_13 : decode c_Model_isIn 13 = .ok (.iconst 0, 1) := by decide +kernel
theorem d_Model_isIn_14 : decode c_Model_isIn 14 = .ok (.ireturn, 1) := by decide +kernel
abbrev c_Model_spot : ByteArray := prog_14_method_3_code
def y_Model_spot : MethodName := ⟨"EpochServerModel", "spot", "(II)I"⟩
theorem d_Model_spot_0 : decode c_Model_spot 0 = .ok (.bipush 60, 2) := by decide +kernel
theorem d_Model_spot_2 : decode c_Model_spot 2 = .ok (.iload_n 0, 1) := by decide +kernel
theorem d_Model_spot_3 : decode c_Model_spot 3 = .ok (.imul, 1) := by decide +kernel
theorem d_Model_spot_4 : decode c_Model_spot 4 = .ok (.iload_n 1, 1) := by decide +kernel
theorem d_Model_spot_5 : decode c_Model_spot 5 = .ok (.iadd, 1) := by decide +kernel
theorem d_Model_spot_6 : decode c_Model_spot 6 = .ok (.ireturn, 1) := by decide +kernel
abbrev c_Model_copy : ByteArray := prog_14_method_4_code
def y_Model_copy : MethodName := ⟨"EpochServerModel", "copy", "(II)V"⟩
theorem d_Model_copy_0 : decode c_Model_copy 0 = .ok (.iconst 0, 1) := by decide +kernel
theorem d_Model_copy_1 : decode c_Model_copy 1 = .ok (.istore_n 3, 1) := by decide +kernel
theorem d_Model_copy_2 : decode c_Model_copy 2 = .ok (.iload_n 3, 1) := by decide +kernel
theorem d_Model_copy_3 : decode c_Model_copy 3 = .ok (.bipush 60, 2) := by decide +kernel
theorem d_Model_copy_5 : decode c_Model_copy 5 = .ok (.if_icmp .ge 230, 3) := by decide +kernel
theorem d_Model_copy_8 : decode c_Model_copy 8 = .ok (.iload_n 1, 1) := by decide +kernel
theorem d_Model_copy_9 : decode c_Model_copy 9 = .ok (.iload_n 3, 1) := by decide +kernel
theorem d_Model_copy_10 : decode c_Model_copy 10 = .ok (.invokestatic 96, 3) := by decide +kernel
theorem d_Model_copy_13 : decode c_Model_copy 13 = .ok (.istore 4, 2) := by decide +kernel
theorem d_Model_copy_15 : decode c_Model_copy 15 = .ok (.iload_n 2, 1) := by decide +kernel
theorem d_Model_copy_16 : decode c_Model_copy 16 = .ok (.iload_n 3, 1) := by decide +kernel
theorem d_Model_copy_17 : decode c_Model_copy 17 = .ok (.invokestatic 96, 3) := by decide +kernel
theorem d_Model_copy_20 : decode c_Model_copy 20 = .ok (.istore 5, 2) := by decide +kernel
theorem d_Model_copy_22 : decode c_Model_copy 22 = .ok (.aload_n 0, 1) := by decide +kernel
theorem d_Model_copy_23 : decode c_Model_copy 23 = .ok (.getfield 9, 3) := by decide +kernel
theorem d_Model_copy_26 : decode c_Model_copy 26 = .ok (.iload 5, 2) := by decide +kernel
theorem d_Model_copy_28 : decode c_Model_copy 28 = .ok (.aload_n 0, 1) := by decide +kernel
theorem d_Model_copy_29 : decode c_Model_copy 29 = .ok (.getfield 9, 3) := by decide +kernel
theorem d_Model_copy_32 : decode c_Model_copy 32 = .ok (.iload 4, 2) := by decide +kernel
theorem d_Model_copy_34 : decode c_Model_copy 34 = .ok (.baload, 1) := by decide +kernel
theorem d_Model_copy_35 : decode c_Model_copy 35 = .ok (.bastore, 1) := by decide +kernel
theorem d_Model_copy_36 : decode c_Model_copy 36 = .ok (.aload_n 0, 1) := by decide +kernel
theorem d_Model_copy_37 : decode c_Model_copy 37 = .ok (.getfield 9, 3) := by decide +kernel
theorem d_Model_copy_40 : decode c_Model_copy 40 = .ok (.iload 4, 2) := by decide +kernel
theorem d_Model_copy_42 : decode c_Model_copy 42 = .ok (.baload, 1) := by decide +kernel
theorem d_Model_copy_43 : decode c_Model_copy 43 = .ok (.ifCond .ne 6, 3) := by decide +kernel
theorem d_Model_copy_46 : decode c_Model_copy 46 = .ok (.goto 183, 3) := by decide +kernel
theorem d_Model_copy_49 : decode c_Model_copy 49 = .ok (.aload_n 0, 1) := by decide +kernel
theorem d_Model_copy_50 : decode c_Model_copy 50 = .ok (.getfield 13, 3) := by decide +kernel
theorem d_Model_copy_53 : decode c_Model_copy 53 = .ok (.iload 5, 2) := by decide +kernel
theorem d_Model_copy_55 : decode c_Model_copy 55 = .ok (.aload_n 0, 1) := by decide +kernel
theorem d_Model_copy_56 : decode c_Model_copy 56 = .ok (.getfield 13, 3) := by decide +kernel
theorem d_Model_copy_59 : decode c_Model_copy 59 = .ok (.iload 4, 2) := by decide +kernel
theorem d_Model_copy_61 : decode c_Model_copy 61 = .ok (.iaload, 1) := by decide +kernel
theorem d_Model_copy_62 : decode c_Model_copy 62 = .ok (.iastore, 1) := by decide +kernel
theorem d_Model_copy_63 : decode c_Model_copy 63 = .ok (.aload_n 0, 1) := by decide +kernel
theorem d_Model_copy_64 : decode c_Model_copy 64 = .ok (.getfield 17, 3) := by decide +kernel
theorem d_Model_copy_67 : decode c_Model_copy 67 = .ok (.iload 5, 2) := by decide +kernel
theorem d_Model_copy_69 : decode c_Model_copy 69 = .ok (.aload_n 0, 1) := by decide +kernel
theorem d_Model_copy_70 : decode c_Model_copy 70 = .ok (.getfield 17, 3) := by decide +kernel
theorem d_Model_copy_73 : decode c_Model_copy 73 = .ok (.iload 4, 2) := by decide +kernel
theorem d_Model_copy_75 : decode c_Model_copy 75 = .ok (.iaload, 1) := by decide +kernel
theorem d_Model_copy_76 : decode c_Model_copy 76 = .ok (.iastore, 1) := by decide +kernel
theorem d_Model_copy_77 : decode c_Model_copy 77 = .ok (.aload_n 0, 1) := by decide +kernel
theorem d_Model_copy_78 : decode c_Model_copy 78 = .ok (.getfield 20, 3) := by decide +kernel
theorem d_Model_copy_81 : decode c_Model_copy 81 = .ok (.iload 5, 2) := by decide +kernel
theorem d_Model_copy_83 : decode c_Model_copy 83 = .ok (.aload_n 0, 1) := by decide +kernel
theorem d_Model_copy_84 : decode c_Model_copy 84 = .ok (.getfield 20, 3) := by decide +kernel
theorem d_Model_copy_87 : decode c_Model_copy 87 = .ok (.iload 4, 2) := by decide +kernel
theorem d_Model_copy_89 : decode c_Model_copy 89 = .ok (.iaload, 1) := by decide +kernel
theorem d_Model_copy_90 : decode c_Model_copy 90 = .ok (.iastore, 1) := by decide +kernel
theorem d_Model_copy_91 : decode c_Model_copy 91 = .ok (.aload_n 0, 1) := by decide +kernel
theorem d_Model_copy_92 : decode c_Model_copy 92 = .ok (.getfield 23, 3) := by decide +kernel
theorem d_Model_copy_95 : decode c_Model_copy 95 = .ok (.iload 5, 2) := by decide +kernel
theorem d_Model_copy_97 : decode c_Model_copy 97 = .ok (.aload_n 0, 1) := by decide +kernel
theorem d_Model_copy_98 : decode c_Model_copy 98 = .ok (.getfield 23, 3) := by decide +kernel
theorem d_Model_copy_101 : decode c_Model_copy 101 = .ok (.iload 4, 2) := by decide +kernel
theorem d_Model_copy_103 : decode c_Model_copy 103 = .ok (.iaload, 1) := by decide +kernel
theorem d_Model_copy_104 : decode c_Model_copy 104 = .ok (.iastore, 1) := by decide +kernel
theorem d_Model_copy_105 : decode c_Model_copy 105 = .ok (.aload_n 0, 1) := by decide +kernel
theorem d_Model_copy_106 : decode c_Model_copy 106 = .ok (.getfield 26, 3) := by decide +kernel
theorem d_Model_copy_109 : decode c_Model_copy 109 = .ok (.iload 5, 2) := by decide +kernel
theorem d_Model_copy_111 : decode c_Model_copy 111 = .ok (.aload_n 0, 1) := by decide +kernel
theorem d_Model_copy_112 : decode c_Model_copy 112 = .ok (.getfield 26, 3) := by decide +kernel
theorem d_Model_copy_115 : decode c_Model_copy 115 = .ok (.iload 4, 2) := by decide +kernel
theorem d_Model_copy_117 : decode c_Model_copy 117 = .ok (.iaload, 1) := by decide +kernel
theorem d_Model_copy_118 : decode c_Model_copy 118 = .ok (.iastore, 1) := by decide +kernel
theorem d_Model_copy_119 : decode c_Model_copy 119 = .ok (.aload_n 0, 1) := by decide +kernel
theorem d_Model_copy_120 : decode c_Model_copy 120 = .ok (.getfield 29, 3) := by decide +kernel
theorem d_Model_copy_123 : decode c_Model_copy 123 = .ok (.iload 5, 2) := by decide +kernel
theorem d_Model_copy_125 : decode c_Model_copy 125 = .ok (.aload_n 0, 1) := by decide +kernel
theorem d_Model_copy_126 : decode c_Model_copy 126 = .ok (.getfield 29, 3) := by decide +kernel
theorem d_Model_copy_129 : decode c_Model_copy 129 = .ok (.iload 4, 2) := by decide +kernel
theorem d_Model_copy_131 : decode c_Model_copy 131 = .ok (.iaload, 1) := by decide +kernel
theorem d_Model_copy_132 : decode c_Model_copy 132 = .ok (.iastore, 1) := by decide +kernel
theorem d_Model_copy_133 : decode c_Model_copy 133 = .ok (.iconst 0, 1) := by decide +kernel
theorem d_Model_copy_134 : decode c_Model_copy 134 = .ok (.istore 6, 2) := by decide +kernel
theorem d_Model_copy_136 : decode c_Model_copy 136 = .ok (.iload 6, 2) := by decide +kernel
theorem d_Model_copy_138 : decode c_Model_copy 138 = .ok (.aload_n 0, 1) := by decide +kernel
theorem d_Model_copy_139 : decode c_Model_copy 139 = .ok (.getfield 29, 3) := by decide +kernel
theorem d_Model_copy_142 : decode c_Model_copy 142 = .ok (.iload 4, 2) := by decide +kernel
theorem d_Model_copy_144 : decode c_Model_copy 144 = .ok (.iaload, 1) := by decide +kernel
theorem d_Model_copy_145 : decode c_Model_copy 145 = .ok (.if_icmp .ge 35, 3) := by decide +kernel
theorem d_Model_copy_148 : decode c_Model_copy 148 = .ok (.aload_n 0, 1) := by decide +kernel
theorem d_Model_copy_149 : decode c_Model_copy 149 = .ok (.getfield 33, 3) := by decide +kernel
theorem d_Model_copy_152 : decode c_Model_copy 152 = .ok (.bipush 20, 2) := by decide +kernel
theorem d_Model_copy_154 : decode c_Model_copy 154 = .ok (.iload 5, 2) := by decide +kernel
theorem d_Model_copy_156 : decode c_Model_copy 156 = .ok (.imul, 1) := by decide +kernel
theorem d_Model_copy_157 : decode c_Model_copy 157 = .ok (.iload 6, 2) := by decide +kernel
theorem d_Model_copy_159 : decode c_Model_copy 159 = .ok (.iadd, 1) := by decide +kernel
theorem d_Model_copy_160 : decode c_Model_copy 160 = .ok (.aload_n 0, 1) := by decide +kernel
theorem d_Model_copy_161 : decode c_Model_copy 161 = .ok (.getfield 33, 3) := by decide +kernel
theorem d_Model_copy_164 : decode c_Model_copy 164 = .ok (.bipush 20, 2) := by decide +kernel
theorem d_Model_copy_166 : decode c_Model_copy 166 = .ok (.iload 4, 2) := by decide +kernel
theorem d_Model_copy_168 : decode c_Model_copy 168 = .ok (.imul, 1) := by decide +kernel
theorem d_Model_copy_169 : decode c_Model_copy 169 = .ok (.iload 6, 2) := by decide +kernel
theorem d_Model_copy_171 : decode c_Model_copy 171 = .ok (.iadd, 1) := by decide +kernel
theorem d_Model_copy_172 : decode c_Model_copy 172 = .ok (.iaload, 1) := by decide +kernel
theorem d_Model_copy_173 : decode c_Model_copy 173 = .ok (.iastore, 1) := by decide +kernel
theorem d_Model_copy_174 : decode c_Model_copy 174 = .ok (.iinc 6 1, 3) := by decide +kernel
theorem d_Model_copy_177 : decode c_Model_copy 177 = .ok (.goto (-41), 3) := by decide +kernel
theorem d_Model_copy_180 : decode c_Model_copy 180 = .ok (.iconst 0, 1) := by decide +kernel
theorem d_Model_copy_181 : decode c_Model_copy 181 = .ok (.istore 6, 2) := by decide +kernel
theorem d_Model_copy_183 : decode c_Model_copy 183 = .ok (.iload 6, 2) := by decide +kernel
theorem d_Model_copy_185 : decode c_Model_copy 185 = .ok (.aload_n 0, 1) := by decide +kernel
theorem d_Model_copy_186 : decode c_Model_copy 186 = .ok (.getfield 26, 3) := by decide +kernel
theorem d_Model_copy_189 : decode c_Model_copy 189 = .ok (.iload 4, 2) := by decide +kernel
theorem d_Model_copy_191 : decode c_Model_copy 191 = .ok (.iaload, 1) := by decide +kernel
theorem d_Model_copy_192 : decode c_Model_copy 192 = .ok (.if_icmp .ge 37, 3) := by decide +kernel
theorem d_Model_copy_195 : decode c_Model_copy 195 = .ok (.aload_n 0, 1) := by decide +kernel
theorem d_Model_copy_196 : decode c_Model_copy 196 = .ok (.getfield 37, 3) := by decide +kernel
theorem d_Model_copy_199 : decode c_Model_copy 199 = .ok (.sipush 512, 3) := by decide +kernel
theorem d_Model_copy_202 : decode c_Model_copy 202 = .ok (.iload 5, 2) := by decide +kernel
theorem d_Model_copy_204 : decode c_Model_copy 204 = .ok (.imul, 1) := by decide +kernel
theorem d_Model_copy_205 : decode c_Model_copy 205 = .ok (.iload 6, 2) := by decide +kernel
theorem d_Model_copy_207 : decode c_Model_copy 207 = .ok (.iadd, 1) := by decide +kernel
theorem d_Model_copy_208 : decode c_Model_copy 208 = .ok (.aload_n 0, 1) := by decide +kernel
theorem d_Model_copy_209 : decode c_Model_copy 209 = .ok (.getfield 37, 3) := by decide +kernel
theorem d_Model_copy_212 : decode c_Model_copy 212 = .ok (.sipush 512, 3) := by decide +kernel
theorem d_Model_copy_215 : decode c_Model_copy 215 = .ok (.iload 4, 2) := by decide +kernel
theorem d_Model_copy_217 : decode c_Model_copy 217 = .ok (.imul, 1) := by decide +kernel
theorem d_Model_copy_218 : decode c_Model_copy 218 = .ok (.iload 6, 2) := by decide +kernel
theorem d_Model_copy_220 : decode c_Model_copy 220 = .ok (.iadd, 1) := by decide +kernel
theorem d_Model_copy_221 : decode c_Model_copy 221 = .ok (.iaload, 1) := by decide +kernel
theorem d_Model_copy_222 : decode c_Model_copy 222 = .ok (.iastore, 1) := by decide +kernel
theorem d_Model_copy_223 : decode c_Model_copy 223 = .ok (.iinc 6 1, 3) := by decide +kernel
theorem d_Model_copy_226 : decode c_Model_copy 226 = .ok (.goto (-43), 3) := by decide +kernel
theorem d_Model_copy_229 : decode c_Model_copy 229 = .ok (.iinc 3 1, 3) := by decide +kernel
theorem d_Model_copy_232 : decode c_Model_copy 232 = .ok (.goto (-230), 3) := by decide +kernel
theorem d_Model_copy_235 : decode c_Model_copy 235 = .ok (.return_, 1) := by decide +kernel
abbrev c_Model_isSame : ByteArray := prog_14_method_5_code
def y_Model_isSame : MethodName := ⟨"EpochServerModel", "isSame", "(II)Z"⟩
theorem d_Model_isSame_0 : decode c_Model_isSame 0 = .ok (.iconst 0, 1) := by decide +kernel
theorem d_Model_isSame_1 : decode c_Model_isSame 1 = .ok (.istore_n 3, 1) := by decide +kernel
theorem d_Model_isSame_2 : decode c_Model_isSame 2 = .ok (.iload_n 3, 1) := by decide +kernel
theorem d_Model_isSame_3 : decode c_Model_isSame 3 = .ok (.bipush 60, 2) := by decide +kernel
theorem d_Model_isSame_5 : decode c_Model_isSame 5 = .ok (.if_icmp .ge 265, 3) := by decide +kernel
theorem d_Model_isSame_8 : decode c_Model_isSame 8 = .ok (.iload_n 1, 1) := by decide +kernel
theorem d_Model_isSame_9 : decode c_Model_isSame 9 = .ok (.iload_n 3, 1) := by decide +kernel
theorem d_Model_isSame_10 : decode c_Model_isSame 10 = .ok (.invokestatic 96, 3) := by decide +kernel
theorem d_Model_isSame_13 : decode c_Model_isSame 13 = .ok (.istore 4, 2) := by decide +kernel
theorem d_Model_isSame_15 : decode c_Model_isSame 15 = .ok (.iload_n 2, 1) := by decide +kernel
theorem d_Model_isSame_16 : decode c_Model_isSame 16 = .ok (.iload_n 3, 1) := by decide +kernel
theorem d_Model_isSame_17 : decode c_Model_isSame 17 = .ok (.invokestatic 96, 3) := by decide +kernel
theorem d_Model_isSame_20 : decode c_Model_isSame 20 = .ok (.istore 5, 2) := by decide +kernel
theorem d_Model_isSame_22 : decode c_Model_isSame 22 = .ok (.aload_n 0, 1) := by decide +kernel
theorem d_Model_isSame_23 : decode c_Model_isSame 23 = .ok (.getfield 9, 3) := by decide +kernel
theorem d_Model_isSame_26 : decode c_Model_isSame 26 = .ok (.iload 4, 2) := by decide +kernel
theorem d_Model_isSame_28 : decode c_Model_isSame 28 = .ok (.baload, 1) := by decide +kernel
theorem d_Model_isSame_29 : decode c_Model_isSame 29 = .ok (.aload_n 0, 1) := by decide +kernel
theorem d_Model_isSame_30 : decode c_Model_isSame 30 = .ok (.getfield 9, 3) := by decide +kernel
theorem d_Model_isSame_33 : decode c_Model_isSame 33 = .ok (.iload 5, 2) := by decide +kernel
theorem d_Model_isSame_35 : decode c_Model_isSame 35 = .ok (.baload, 1) := by decide +kernel
theorem d_Model_isSame_36 : decode c_Model_isSame 36 = .ok (.if_icmp .eq 5, 3) := by decide +kernel
theorem d_Model_isSame_39 : decode c_Model_isSame 39 = .ok (.iconst 0, 1) := by decide +kernel
theorem d_Model_isSame_40 : decode c_Model_isSame 40 = .ok (.ireturn, 1) := by decide +kernel
theorem d_Model_isSame_41 : decode c_Model_isSame 41 = .ok (.aload_n 0, 1) := by decide +kernel
theorem d_Model_isSame_42 : decode c_Model_isSame 42 = .ok (.getfield 9, 3) := by decide +kernel
theorem d_Model_isSame_45 : decode c_Model_isSame 45 = .ok (.iload 4, 2) := by decide +kernel
theorem d_Model_isSame_47 : decode c_Model_isSame 47 = .ok (.baload, 1) := by decide +kernel
theorem d_Model_isSame_48 : decode c_Model_isSame 48 = .ok (.ifCond .ne 6, 3) := by decide +kernel
theorem d_Model_isSame_51 : decode c_Model_isSame 51 = .ok (.goto 213, 3) := by decide +kernel
theorem d_Model_isSame_54 : decode c_Model_isSame 54 = .ok (.aload_n 0, 1) := by decide +kernel
theorem d_Model_isSame_55 : decode c_Model_isSame 55 = .ok (.getfield 13, 3) := by decide +kernel
theorem d_Model_isSame_58 : decode c_Model_isSame 58 = .ok (.iload 4, 2) := by decide +kernel
theorem d_Model_isSame_60 : decode c_Model_isSame 60 = .ok (.iaload, 1) := by decide +kernel
theorem d_Model_isSame_61 : decode c_Model_isSame 61 = .ok (.aload_n 0, 1) := by decide +kernel
theorem d_Model_isSame_62 : decode c_Model_isSame 62 = .ok (.getfield 13, 3) := by decide +kernel
theorem d_Model_isSame_65 : decode c_Model_isSame 65 = .ok (.iload 5, 2) := by decide +kernel
theorem d_Model_isSame_67 : decode c_Model_isSame 67 = .ok (.iaload, 1) := by decide +kernel
theorem d_Model_isSame_68 : decode c_Model_isSame 68 = .ok (.if_icmp .ne 88, 3) := by decide +kernel
theorem d_Model_isSame_71 : decode c_Model_isSame 71 = .ok (.aload_n 0, 1) := by decide +kernel
theorem d_Model_isSame_72 : decode c_Model_isSame 72 = .ok (.getfield 17, 3) := by decide +kernel
theorem d_Model_isSame_75 : decode c_Model_isSame 75 = .ok (.iload 4, 2) := by decide +kernel
theorem d_Model_isSame_77 : decode c_Model_isSame 77 = .ok (.iaload, 1) := by decide +kernel
theorem d_Model_isSame_78 : decode c_Model_isSame 78 = .ok (.aload_n 0, 1) := by decide +kernel
theorem d_Model_isSame_79 : decode c_Model_isSame 79 = .ok (.getfield 17, 3) := by decide +kernel
theorem d_Model_isSame_82 : decode c_Model_isSame 82 = .ok (.iload 5, 2) := by decide +kernel
theorem d_Model_isSame_84 : decode c_Model_isSame 84 = .ok (.iaload, 1) := by decide +kernel
theorem d_Model_isSame_85 : decode c_Model_isSame 85 = .ok (.if_icmp .ne 71, 3) := by decide +kernel
theorem d_Model_isSame_88 : decode c_Model_isSame 88 = .ok (.aload_n 0, 1) := by decide +kernel
theorem d_Model_isSame_89 : decode c_Model_isSame 89 = .ok (.getfield 20, 3) := by decide +kernel
theorem d_Model_isSame_92 : decode c_Model_isSame 92 = .ok (.iload 4, 2) := by decide +kernel
theorem d_Model_isSame_94 : decode c_Model_isSame 94 = .ok (.iaload, 1) := by decide +kernel
theorem d_Model_isSame_95 : decode c_Model_isSame 95 = .ok (.aload_n 0, 1) := by decide +kernel
theorem d_Model_isSame_96 : decode c_Model_isSame 96 = .ok (.getfield 20, 3) := by decide +kernel
theorem d_Model_isSame_99 : decode c_Model_isSame 99 = .ok (.iload 5, 2) := by decide +kernel
theorem d_Model_isSame_101 : decode c_Model_isSame 101 = .ok (.iaload, 1) := by decide +kernel
theorem d_Model_isSame_102 : decode c_Model_isSame 102 = .ok (.if_icmp .ne 54, 3) := by decide +kernel
theorem d_Model_isSame_105 : decode c_Model_isSame 105 = .ok (.aload_n 0, 1) := by decide +kernel
theorem d_Model_isSame_106 : decode c_Model_isSame 106 = .ok (.getfield 23, 3) := by decide +kernel
theorem d_Model_isSame_109 : decode c_Model_isSame 109 = .ok (.iload 4, 2) := by decide +kernel
theorem d_Model_isSame_111 : decode c_Model_isSame 111 = .ok (.iaload, 1) := by decide +kernel
theorem d_Model_isSame_112 : decode c_Model_isSame 112 = .ok (.aload_n 0, 1) := by decide +kernel
theorem d_Model_isSame_113 : decode c_Model_isSame 113 = .ok (.getfield 23, 3) := by decide +kernel
theorem d_Model_isSame_116 : decode c_Model_isSame 116 = .ok (.iload 5, 2) := by decide +kernel
theorem d_Model_isSame_118 : decode c_Model_isSame 118 = .ok (.iaload, 1) := by decide +kernel
theorem d_Model_isSame_119 : decode c_Model_isSame 119 = .ok (.if_icmp .ne 37, 3) := by decide +kernel
theorem d_Model_isSame_122 : decode c_Model_isSame 122 = .ok (.aload_n 0, 1) := by decide +kernel
theorem d_Model_isSame_123 : decode c_Model_isSame 123 = .ok (.getfield 26, 3) := by decide +kernel
theorem d_Model_isSame_126 : decode c_Model_isSame 126 = .ok (.iload 4, 2) := by decide +kernel
theorem d_Model_isSame_128 : decode c_Model_isSame 128 = .ok (.iaload, 1) := by decide +kernel
theorem d_Model_isSame_129 : decode c_Model_isSame 129 = .ok (.aload_n 0, 1) := by decide +kernel
theorem d_Model_isSame_130 : decode c_Model_isSame 130 = .ok (.getfield 26, 3) := by decide +kernel
theorem d_Model_isSame_133 : decode c_Model_isSame 133 = .ok (.iload 5, 2) := by decide +kernel
theorem d_Model_isSame_135 : decode c_Model_isSame 135 = .ok (.iaload, 1) := by decide +kernel
theorem d_Model_isSame_136 : decode c_Model_isSame 136 = .ok (.if_icmp .ne 20, 3) := by decide +kernel
theorem d_Model_isSame_139 : decode c_Model_isSame 139 = .ok (.aload_n 0, 1) := by decide +kernel
theorem d_Model_isSame_140 : decode c_Model_isSame 140 = .ok (.getfield 29, 3) := by decide +kernel
theorem d_Model_isSame_143 : decode c_Model_isSame 143 = .ok (.iload 4, 2) := by decide +kernel
theorem d_Model_isSame_145 : decode c_Model_isSame 145 = .ok (.iaload, 1) := by decide +kernel
theorem d_Model_isSame_146 : decode c_Model_isSame 146 = .ok (.aload_n 0, 1) := by decide +kernel
theorem d_Model_isSame_147 : decode c_Model_isSame 147 = .ok (.getfield 29, 3) := by decide +kernel
theorem d_Model_isSame_150 : decode c_Model_isSame 150 = .ok (.iload 5, 2) := by decide +kernel
theorem d_Model_isSame_152 : decode c_Model_isSame 152 = .ok (.iaload, 1) := by decide +kernel
theorem d_Model_isSame_153 : decode c_Model_isSame 153 = .ok (.if_icmp .eq 5, 3) := by decide +kernel
theorem d_Model_isSame_156 : decode c_Model_isSame 156 = .ok (.iconst 0, 1) := by decide +kernel
theorem d_Model_isSame_157 : decode c_Model_isSame 157 = .ok (.ireturn, 1) := by decide +kernel
theorem d_Model_isSame_158 : decode c_Model_isSame 158 = .ok (.iconst 0, 1) := by decide +kernel
theorem d_Model_isSame_159 : decode c_Model_isSame 159 = .ok (.istore 6, 2) := by decide +kernel
theorem d_Model_isSame_161 : decode c_Model_isSame 161 = .ok (.iload 6, 2) := by decide +kernel
theorem d_Model_isSame_163 : decode c_Model_isSame 163 = .ok (.aload_n 0, 1) := by decide +kernel
theorem d_Model_isSame_164 : decode c_Model_isSame 164 = .ok (.getfield 29, 3) := by decide +kernel
theorem d_Model_isSame_167 : decode c_Model_isSame 167 = .ok (.iload 4, 2) := by decide +kernel
theorem d_Model_isSame_169 : decode c_Model_isSame 169 = .ok (.iaload, 1) := by decide +kernel
theorem d_Model_isSame_170 : decode c_Model_isSame 170 = .ok (.if_icmp .ge 40, 3) := by decide +kernel
theorem d_Model_isSame_173 : decode c_Model_isSame 173 = .ok (.aload_n 0, 1) := by decide +kernel
theorem d_Model_isSame_174 : decode c_Model_isSame 174 = .ok (.getfield 33, 3) := by decide +kernel
theorem d_Model_isSame_177 : decode c_Model_isSame 177 = .ok (.bipush 20, 2) := by decide +kernel
theorem d_Model_isSame_179 : decode c_Model_isSame 179 = .ok (.iload 4, 2) := by decide +kernel
theorem d_Model_isSame_181 : decode c_Model_isSame 181 = .ok (.imul, 1) := by decide +kernel
theorem d_Model_isSame_182 : decode c_Model_isSame 182 = .ok (.iload 6, 2) := by decide +kernel
theorem d_Model_isSame_184 : decode c_Model_isSame 184 = .ok (.iadd, 1) := by decide +kernel
theorem d_Model_isSame_185 : decode c_Model_isSame 185 = .ok (.iaload, 1) := by decide +kernel
theorem d_Model_isSame_186 : decode c_Model_isSame 186 = .ok (.aload_n 0, 1) := by decide +kernel
theorem d_Model_isSame_187 : decode c_Model_isSame 187 = .ok (.getfield 33, 3) := by decide +kernel
theorem d_Model_isSame_190 : decode c_Model_isSame 190 = .ok (.bipush 20, 2) := by decide +kernel
theorem d_Model_isSame_192 : decode c_Model_isSame 192 = .ok (.iload 5, 2) := by decide +kernel
theorem d_Model_isSame_194 : decode c_Model_isSame 194 = .ok (.imul, 1) := by decide +kernel
theorem d_Model_isSame_195 : decode c_Model_isSame 195 = .ok (.iload 6, 2) := by decide +kernel
theorem d_Model_isSame_197 : decode c_Model_isSame 197 = .ok (.iadd, 1) := by decide +kernel
theorem d_Model_isSame_198 : decode c_Model_isSame 198 = .ok (.iaload, 1) := by decide +kernel
theorem d_Model_isSame_199 : decode c_Model_isSame 199 = .ok (.if_icmp .eq 5, 3) := by decide +kernel
theorem d_Model_isSame_202 : decode c_Model_isSame 202 = .ok (.iconst 0, 1) := by decide +kernel
theorem d_Model_isSame_203 : decode c_Model_isSame 203 = .ok (.ireturn, 1) := by decide +kernel
theorem d_Model_isSame_204 : decode c_Model_isSame 204 = .ok (.iinc 6 1, 3) := by decide +kernel
theorem d_Model_isSame_207 : decode c_Model_isSame 207 = .ok (.goto (-46), 3) := by decide +kernel
theorem d_Model_isSame_210 : decode c_Model_isSame 210 = .ok (.iconst 0, 1) := by decide +kernel
theorem d_Model_isSame_211 : decode c_Model_isSame 211 = .ok (.istore 6, 2) := by decide +kernel
theorem d_Model_isSame_213 : decode c_Model_isSame 213 = .ok (.iload 6, 2) := by decide +kernel
theorem d_Model_isSame_215 : decode c_Model_isSame 215 = .ok (.aload_n 0, 1) := by decide +kernel
theorem d_Model_isSame_216 : decode c_Model_isSame 216 = .ok (.getfield 26, 3) := by decide +kernel
theorem d_Model_isSame_219 : decode c_Model_isSame 219 = .ok (.iload 4, 2) := by decide +kernel
theorem d_Model_isSame_221 : decode c_Model_isSame 221 = .ok (.iaload, 1) := by decide +kernel
theorem d_Model_isSame_222 : decode c_Model_isSame 222 = .ok (.if_icmp .ge 42, 3) := by decide +kernel
theorem d_Model_isSame_225 : decode c_Model_isSame 225 = .ok (.aload_n 0, 1) := by decide +kernel
theorem d_Model_isSame_226 : decode c_Model_isSame 226 = .ok (.getfield 37, 3) := by decide +kernel
theorem d_Model_isSame_229 : decode c_Model_isSame 229 = .ok (.sipush 512, 3) := by decide +kernel
theorem d_Model_isSame_232 : decode c_Model_isSame 232 = .ok (.iload 4, 2) := by decide +kernel
theorem d_Model_isSame_234 : decode c_Model_isSame 234 = .ok (.imul, 1) := by decide +kernel
theorem d_Model_isSame_235 : decode c_Model_isSame 235 = .ok (.iload 6, 2) := by decide +kernel
theorem d_Model_isSame_237 : decode c_Model_isSame 237 = .ok (.iadd, 1) := by decide +kernel
theorem d_Model_isSame_238 : decode c_Model_isSame 238 = .ok (.iaload, 1) := by decide +kernel
theorem d_Model_isSame_239 : decode c_Model_isSame 239 = .ok (.aload_n 0, 1) := by decide +kernel
theorem d_Model_isSame_240 : decode c_Model_isSame 240 = .ok (.getfield 37, 3) := by decide +kernel
theorem d_Model_isSame_243 : decode c_Model_isSame 243 = .ok (.sipush 512, 3) := by decide +kernel
theorem d_Model_isSame_246 : decode c_Model_isSame 246 = .ok (.iload 5, 2) := by decide +kernel
theorem d_Model_isSame_248 : decode c_Model_isSame 248 = .ok (.imul, 1) := by decide +kernel
theorem d_Model_isSame_249 : decode c_Model_isSame 249 = .ok (.iload 6, 2) := by decide +kernel
theorem d_Model_isSame_251 : decode c_Model_isSame 251 = .ok (.iadd, 1) := by decide +kernel
theorem d_Model_isSame_252 : decode c_Model_isSame 252 = .ok (.iaload, 1) := by decide +kernel
theorem d_Model_isSame_253 : decode c_Model_isSame 253 = .ok (.if_icmp .eq 5, 3) := by decide +kernel
theorem d_Model_isSame_256 : decode c_Model_isSame 256 = .ok (.iconst 0, 1) := by decide +kernel
theorem d_Model_isSame_257 : decode c_Model_isSame 257 = .ok (.ireturn, 1) := by decide +kernel
theorem d_Model_isSame_258 : decode c_Model_isSame 258 = .ok (.iinc 6 1, 3) := by decide +kernel
theorem d_Model_isSame_261 : decode c_Model_isSame 261 = .ok (.goto (-48), 3) := by decide +kernel
theorem d_Model_isSame_264 : decode c_Model_isSame 264 = .ok (.iinc 3 1, 3) := by decide +kernel
theorem d_Model_isSame_267 : decode c_Model_isSame 267 = .ok (.goto (-265), 3) := by decide +kernel
theorem d_Model_isSame_270 : decode c_Model_isSame 270 = .ok (.iconst 1, 1) := by decide +kernel
theorem d_Model_isSame_271 : decode c_Model_isSame 271 = .ok (.ireturn, 1) := by decide +kernel
abbrev c_Model_isDirectory : ByteArray := prog_14_method_6_code
def y_Model_isDirectory : MethodName := ⟨"EpochServerModel", "isDirectory", "(I)Z"⟩
theorem d_Model_isDirectory_0 : decode c_Model_isDirectory 0 = .ok (.aload_n 0, 1) := by decide +kernel
theorem d_Model_isDirectory_1 : decode c_Model_isDirectory 1 = .ok (.getfield 17, 3) := by decide +kernel
theorem d_Model_isDirectory_4 : decode c_Model_isDirectory 4 = .ok (.iload_n 1, 1) := by decide +kernel
theorem d_Model_isDirectory_5 : decode c_Model_isDirectory 5 = .ok (.iaload, 1) := by decide +kernel
theorem d_Model_isDirectory_6 : decode c_Model_isDirectory 6 = .ok (.ifCond .ge 7, 3) := by decide +kernel
theorem d_Model_isDirectory_9 : decode c_Model_isDirectory 9 = .ok (.iconst 1, 1) := by decide +kernel
theorem d_Model_isDirectory_10 : decode c_Model_isDirectory 10 = .ok (.goto 4, 3) := by decide +kernel
theorem d_Model_isDirectory_13 : decode c_Model_isDirectory 13 = .ok (.iconst 0, 1) := by decide +kernel
theorem d_Model_isDirectory_14 : decode c_Model_isDirectory 14 = .ok (.ireturn, 1) := by decide +kernel
abbrev c_Model_filesIn : ByteArray := prog_14_method_7_code
def y_Model_filesIn : MethodName := ⟨"EpochServerModel", "filesIn", "(II)I"⟩
theorem d_Model_filesIn_0 : decode c_Model_filesIn 0 = .ok (.iconst 0, 1) := by decide +kernel
theorem d_Model_filesIn_1 : decode c_Model_filesIn 1 = .ok (.istore_n 3, 1) := by decide +kernel
theorem d_Model_filesIn_2 : decode c_Model_filesIn 2 = .ok (.iconst 1, 1) := by decide +kernel
theorem d_Model_filesIn_3 : decode c_Model_filesIn 3 = .ok (.istore 4, 2) := by decide +kernel
theorem d_Model_filesIn_5 : decode c_Model_filesIn 5 = .ok (.iload 4, 2) := by decide +kernel
theorem d_Model_filesIn_7 : decode c_Model_filesIn 7 = .ok (.bipush 60, 2) := by decide +kernel
theorem d_Model_filesIn_9 : decode c_Model_filesIn 9 = .ok (.if_icmp .ge 46, 3) := by decide +kernel
theorem d_Model_filesIn_12 : decode c_Model_filesIn 12 = .ok (.iload_n 3, 1) := by decide +kernel
theorem d_Model_filesIn_13 : decode c_Model_filesIn 13 = .ok (.aload_n 0, 1) := by decide +kernel
theorem d_Model_filesIn_14 : decode c_Model_filesIn 14 = .ok (.getfield 9, 3) := by decide +kernel
theorem d_Model_filesIn_17 : decode c_Model_filesIn 17 = .ok (.iload_n 1, 1) := by decide +kernel
theorem d_Model_filesIn_18 : decode c_Model_filesIn 18 = .ok (.iload 4, 2) := by decide +kernel
theorem d_Model_filesIn_20 : decode c_Model_filesIn 20 = .ok (.invokestatic 96, 3) := by decide +kernel
theorem d_Model_filesIn_23 : decode c_Model_filesIn 23 = .ok (.baload, 1) := by decide +kernel
theorem d_Model_filesIn_24 : decode c_Model_filesIn 24 = .ok (.ifCond .eq 22, 3) := by decide +kernel
theorem d_Model_filesIn_27 : decode c_Model_filesIn 27 = .ok (.aload_n 0, 1) := by decide +kernel
theorem d_Model_filesIn_28 : decode c_Model_filesIn 28 = .ok (.getfield 13, 3) := by decide +kernel
theorem d_Model_filesIn_31 : decode c_Model_filesIn 31 = .ok (.iload_n 1, 1) := by decide +kernel
theorem d_Model_filesIn_32 : decode c_Model_filesIn 32 = .ok (.iload 4, 2) := by decide +kernel
theorem d_Model_filesIn_34 : decode c_Model_filesIn 34 = .ok (.invokestatic 96, 3) := by decide +kernel
theorem d_Model_filesIn_37 : decode c_Model_filesIn 37 = .ok (.iaload, 1) := by decide +kernel
theorem d_Model_filesIn_38 : decode c_Model_filesIn 38 = .ok (.iload_n 2, 1) := by decide +kernel
theorem d_Model_filesIn_39 : decode c_Model_filesIn 39 = .ok (.if_icmp .ne 7, 3) := by decide +kernel
theorem d_Model_filesIn_42 : decode c_Model_filesIn 42 = .ok (.iconst 1, 1) := by decide +kernel
theorem d_Model_filesIn_43 : decode c_Model_filesIn 43 = .ok (.goto 4, 3) := by decide +kernel
theorem d_Model_filesIn_46 : decode c_Model_filesIn 46 = .ok (.iconst 0, 1) := by decide +kernel
theorem d_Model_filesIn_47 : decode c_Model_filesIn 47 = .ok (.iadd, 1) := by decide +kernel
theorem d_Model_filesIn_48 : decode c_Model_filesIn 48 = .ok (.istore_n 3, 1) := by decide +kernel
theorem d_Model_filesIn_49 : decode c_Model_filesIn 49 = .ok (.iinc 4 1, 3) := by decide +kernel
theorem d_Model_filesIn_52 : decode c_Model_filesIn 52 = .ok (.goto (-47), 3) := by decide +kernel
theorem d_Model_filesIn_55 : decode c_Model_filesIn 55 = .ok (.iload_n 3, 1) := by decide +kernel
theorem d_Model_filesIn_56 : decode c_Model_filesIn 56 = .ok (.ireturn, 1) := by decide +kernel
abbrev c_Model_changed : ByteArray := prog_14_method_8_code
def y_Model_changed : MethodName := ⟨"EpochServerModel", "changed", "(I)V"⟩
theorem d_Model_changed_0 : decode c_Model_changed 0 = .ok (.aload_n 0, 1) := by decide +kernel
theorem d_Model_changed_1 : decode c_Model_changed 1 = .ok (.getfield 20, 3) := by decide +kernel
theorem d_Model_changed_4 : decode c_Model_changed 4 = .ok (.iload_n 1, 1) := by decide +kernel
theorem d_Model_changed_5 : decode c_Model_changed 5 = .ok (.dup2, 1) := by decide +kernel
theorem d_Model_changed_6 : decode c_Model_changed 6 = .ok (.iaload, 1) := by decide +kernel
theorem d_Model_changed_7 : decode c_Model_changed 7 = .ok (.iconst 1, 1) := by decide +kernel
theorem d_Model_changed_8 : decode c_Model_changed 8 = .ok (.iadd, 1) := by decide +kernel
theorem d_Model_changed_9 : decode c_Model_changed 9 = .ok (.iastore, 1) := by decide +kernel
theorem d_Model_changed_10 : decode c_Model_changed 10 = .ok (.aload_n 0, 1) := by decide +kernel
theorem d_Model_changed_11 : decode c_Model_changed 11 = .ok (.getfield 23, 3) := by decide +kernel
theorem d_Model_changed_14 : decode c_Model_changed 14 = .ok (.iload_n 1, 1) := by decide +kernel
theorem d_Model_changed_15 : decode c_Model_changed 15 = .ok (.aload_n 0, 1) := by decide +kernel
theorem d_Model_changed_16 : decode c_Model_changed 16 = .ok (.getfield 100, 3) := by decide +kernel
theorem d_Model_changed_19 : decode c_Model_changed 19 = .ok (.iastore, 1) := by decide +kernel
theorem d_Model_changed_20 : decode c_Model_changed 20 = .ok (.return_, 1) := by decide +kernel
abbrev c_Model_feed : ByteArray := prog_14_method_9_code
def y_Model_feed : MethodName := ⟨"EpochServerModel", "feed", "(IIIII)I"⟩
theorem d_Model_feed_0 : decode c_Model_feed 0 = .ok (.aload_n 0, 1) := by decide +kernel
theorem d_Model_feed_1 : decode c_Model_feed 1 = .ok (.getfield 103, 3) := by decide +kernel
theorem d_Model_feed_4 : decode c_Model_feed 4 = .ok (.bipush 20, 2) := by decide +kernel
theorem d_Model_feed_6 : decode c_Model_feed 6 = .ok (.iadd, 1) := by decide +kernel
theorem d_Model_feed_7 : decode c_Model_feed 7 = .ok (.sipush 1400, 3) := by decide +kernel
theorem d_Model_feed_10 : decode c_Model_feed 10 = .ok (.if_icmp .le 5, 3) := by decide +kernel
theorem d_Model_feed_13 : decode c_Model_feed 13 = .ok (.iconst (-1), 1) := by decide +kernel
theorem d_Model_feed_14 : decode c_Model_feed 14 = .ok (.ireturn, 1) := by decide +kernel
theorem d_Model_feed_15 : decode c_Model_feed 15 = .ok (.aload_n 0, 1) := by decide +kernel
theorem d_Model_feed_16 : decode c_Model_feed 16 = .ok (.iload_n 1, 1) := by decide +kernel
theorem d_Model_feed_17 : decode c_Model_feed 17 = .ok (.invokevirtual 106, 3) := by decide +kernel
theorem d_Model_feed_20 : decode c_Model_feed 20 = .ok (.aload_n 0, 1) := by decide +kernel
theorem d_Model_feed_21 : decode c_Model_feed 21 = .ok (.iload_n 2, 1) := by decide +kernel
theorem d_Model_feed_22 : decode c_Model_feed 22 = .ok (.invokevirtual 106, 3) := by decide +kernel
theorem d_Model_feed_25 : decode c_Model_feed 25 = .ok (.aload_n 0, 1) := by decide +kernel
theorem d_Model_feed_26 : decode c_Model_feed 26 = .ok (.iload_n 3, 1) := by decide +kernel
theorem d_Model_feed_27 : decode c_Model_feed 27 = .ok (.invokevirtual 106, 3) := by decide +kernel
theorem d_Model_feed_30 : decode c_Model_feed 30 = .ok (.aload_n 0, 1) := by decide +kernel
theorem d_Model_feed_31 : decode c_Model_feed 31 = .ok (.iload 4, 2) := by decide +kernel
theorem d_Model_feed_33 : decode c_Model_feed 33 = .ok (.invokevirtual 106, 3) := by decide +kernel
theorem d_Model_feed_36 : decode c_Model_feed 36 = .ok (.aload_n 0, 1) := by decide +kernel
theorem d_Model_feed_37 : decode c_Model_feed 37 = .ok (.iload 5, 2) := by decide +kernel
theorem d_Model_feed_39 : decode c_Model_feed 39 = .ok (.invokevirtual 106, 3) := by decide +kernel
theorem d_Model_feed_42 : decode c_Model_feed 42 = .ok (.aload_n 0, 1) := by decide +kernel
theorem d_Model_feed_43 : decode c_Model_feed 43 = .ok (.getfield 103, 3) := by decide +kernel
theorem d_Model_feed_46 : decode c_Model_feed 46 = .ok (.ireturn, 1) := by decide +kernel
abbrev c_Model_feeds : ByteArray := prog_14_method_10_code
def y_Model_feeds : MethodName := ⟨"EpochServerModel", "feeds", "(I)V"⟩
theorem d_Model_feeds_0 : decode c_Model_feeds 0 = .ok (.bipush 24, 2) := by decide +kernel
theorem d_Model_feeds_2 : decode c_Model_feeds 2 = .ok (.istore_n 2, 1) := by decide +kernel
theorem d_Model_feeds_3 : decode c_Model_feeds 3 = .ok (.iload_n 2, 1) := by decide +kernel
theorem d_Model_feeds_4 : decode c_Model_feeds 4 = .ok (.ifCond .lt 35, 3) := by decide +kernel
theorem d_Model_feeds_7 : decode c_Model_feeds 7 = .ok (.aload_n 0, 1) := by decide +kernel
theorem d_Model_feeds_8 : decode c_Model_feeds 8 = .ok (.getfield 44, 3) := by decide +kernel
theorem d_Model_feeds_11 : decode c_Model_feeds 11 = .ok (.aload_n 0, 1) := by decide +kernel
theorem d_Model_feeds_12 : decode c_Model_feeds 12 = .ok (.getfield 103, 3) := by decide +kernel
theorem d_Model_feeds_15 : decode c_Model_feeds 15 = .ok (.iload_n 1, 1) := by decide +kernel
theorem d_Model_feeds_16 : decode c_Model_feeds 16 = .ok (.iload_n 2, 1) := by decide +kernel
theorem d_Model_feeds_17 : decode c_Model_feeds 17 = .ok (.ishr, 1) := by decide +kernel
theorem d_Model_feeds_18 : decode c_Model_feeds 18 = .ok (.sipush 255, 3) := by decide +kernel
theorem d_Model_feeds_21 : decode c_Model_feeds 21 = .ok (.iand, 1) := by decide +kernel
theorem d_Model_feeds_22 : decode c_Model_feeds 22 = .ok (.iastore, 1) := by decide +kernel
theorem d_Model_feeds_23 : decode c_Model_feeds 23 = .ok (.aload_n 0, 1) := by decide +kernel
theorem d_Model_feeds_24 : decode c_Model_feeds 24 = .ok (.dup, 1) := by decide +kernel
theorem d_Model_feeds_25 : decode c_Model_feeds 25 = .ok (.getfield 103, 3) := by decide +kernel
theorem d_Model_feeds_28 : decode c_Model_feeds 28 = .ok (.iconst 1, 1) := by decide +kernel
theorem d_Model_feeds_29 : decode c_Model_feeds 29 = .ok (.iadd, 1) := by decide +kernel
theorem d_Model_feeds_30 : decode c_Model_feeds 30 = .ok (.putfield 103, 3) := by decide +kernel
theorem d_Model_feeds_33 : decode c_Model_feeds 33 = .ok (.iinc 2 (-8), 3) := by decide +kernel
theorem d_Model_feeds_36 : decode c_Model_feeds 36 = .ok (.goto (-33), 3) := by decide +kernel
theorem d_Model_feeds_39 : decode c_Model_feeds 39 = .ok (.return_, 1) := by decide +kernel
abbrev c_Model_bend : ByteArray := prog_14_method_11_code
def y_Model_bend : MethodName := ⟨"EpochServerModel", "bend", "(II)I"⟩
theorem d_Model_bend_0 : decode c_Model_bend 0 = .ok (.iload_n 1, 1) := by decide +kernel
theorem d_Model_bend_1 : decode c_Model_bend 1 = .ok (.aload_n 0, 1) := by decide +kernel
theorem d_Model_bend_2 : decode c_Model_bend 2 = .ok (.getfield 103, 3) := by decide +kernel
theorem d_Model_bend_5 : decode c_Model_bend 5 = .ok (.invokestatic 110, 3) := by decide +kernel
theorem d_Model_bend_8 : decode c_Model_bend 8 = .ok (.ifCond .ne 5, 3) := by decide +kernel
theorem d_Model_bend_11 : decode c_Model_bend 11 = .ok (.iconst (-1), 1) := by decide +kernel
theorem d_Model_bend_12 : decode c_Model_bend 12 = .ok (.ireturn, 1) := by decide +kernel
theorem d_Model_bend_13 : decode c_Model_bend 13 = .ok (.aload_n 0, 1) := by decide +kernel
theorem d_Model_bend_14 : decode c_Model_bend 14 = .ok (.getfield 44, 3) := by decide +kernel
theorem d_Model_bend_17 : decode c_Model_bend 17 = .ok (.iload_n 1, 1) := by decide +kernel
theorem d_Model_bend_18 : decode c_Model_bend 18 = .ok (.iaload, 1) := by decide +kernel
theorem d_Model_bend_19 : decode c_Model_bend 19 = .ok (.istore_n 3, 1) := by decide +kernel
theorem d_Model_bend_20 : decode c_Model_bend 20 = .ok (.aload_n 0, 1) := by decide +kernel
theorem d_Model_bend_21 : decode c_Model_bend 21 = .ok (.getfield 44, 3) := by decide +kernel
theorem d_Model_bend_24 : decode c_Model_bend 24 = .ok (.iload_n 1, 1) := by decide +kernel
theorem d_Model_bend_25 : decode c_Model_bend 25 = .ok (.iload_n 2, 1) := by decide +kernel
theorem d_Model_bend_26 : decode c_Model_bend 26 = .ok (.sipush 255, 3) := by decide +kernel
theorem d_Model_bend_29 : decode c_Model_bend 29 = .ok (.iand, 1) := by decide +kernel
theorem d_Model_bend_30 : decode c_Model_bend 30 = .ok (.iastore, 1) := by decide +kernel
theorem d_Model_bend_31 : decode c_Model_bend 31 = .ok (.iload_n 3, 1) := by decide +kernel
theorem d_Model_bend_32 : decode c_Model_bend 32 = .ok (.ireturn, 1) := by decide +kernel
abbrev c_Model_number : ByteArray := prog_14_method_12_code
def y_Model_number : MethodName := ⟨"EpochServerModel", "number", "(I)J"⟩
theorem d_Model_number_0 : decode c_Model_number 0 = .ok (.aload_n 0, 1) := by decide +kernel
theorem d_Model_number_1 : decode c_Model_number 1 = .ok (.getfield 114, 3) := by decide +kernel
theorem d_Model_number_4 : decode c_Model_number 4 = .ok (.iload_n 1, 1) := by decide +kernel
theorem d_Model_number_5 : decode c_Model_number 5 = .ok (.iadd, 1) := by decide +kernel
theorem d_Model_number_6 : decode c_Model_number 6 = .ok (.aload_n 0, 1) := by decide +kernel
theorem d_Model_number_7 : decode c_Model_number 7 = .ok (.getfield 117, 3) := by decide +kernel
theorem d_Model_number_10 : decode c_Model_number 10 = .ok (.if_icmp .le 10, 3) := by decide +kernel
theorem d_Model_number_13 : decode c_Model_number 13 = .ok (.aload_n 0, 1) := by decide +kernel
theorem d_Model_number_14 : decode c_Model_number 14 = .ok (.iconst 0, 1) := by decide +kernel
theorem d_Model_number_15 : decode c_Model_number 15 = .ok (.putfield 120, 3) := by decide +kernel
theorem d_Model_number_18 : decode c_Model_number 18 = .ok (.lconst 0, 1) := by decide +kernel
theorem d_Model_number_19 : decode c_Model_number 19 = .ok (.lreturn, 1) := by decide +kernel
theorem d_Model_number_20 : decode c_Model_number 20 = .ok (.lconst 0, 1) := by decide +kernel
theorem d_Model_number_21 : decode c_Model_number 21 = .ok (.lstore_n 2, 1) := by decide +kernel
theorem d_Model_number_22 : decode c_Model_number 22 = .ok (.iload_n 1, 1) := by decide +kernel
theorem d_Model_number_23 : decode c_Model_number 23 = .ok (.iconst 1, 1) := by decide +kernel
theorem d_Model_number_24 : decode c_Model_number 24 = .ok (.isub, 1) := by decide +kernel
theorem d_Model_number_25 : decode c_Model_number 25 = .ok (.istore 4, 2) := by decide +kernel
theorem d_Model_number_27 : decode c_Model_number 27 = .ok (.iload 4, 2) := by decide +kernel
theorem d_Model_number_29 : decode c_Model_number 29 = .ok (.ifCond .lt 28, 3) := by decide +kernel
theorem d_Model_number_32 : decode c_Model_number 32 = .ok (.lload_n 2, 1) := by decide +kernel
theorem d_Model_number_33 : decode c_Model_number 33 = .ok (.bipush 8, 2) := by decide +kernel
theorem d_Model_number_35 : decode c_Model_number 35 = .ok (.lshl, 1) := by decide +kernel
theorem d_Model_number_36 : decode c_Model_number 36 = .ok (.aload_n 0, 1) := by decide +kernel
theorem d_Model_number_37 : decode c_Model_number 37 = .ok (.getfield 44, 3) := by decide +kernel
theorem d_Model_number_40 : decode c_Model_number 40 = .ok (.aload_n 0, 1) := by decide +kernel
theorem d_Model_number_41 : decode c_Model_number 41 = .ok (.getfield 114, 3) := by decide +kernel
theorem d_Model_number_44 : decode c_Model_number 44 = .ok (.iload 4, 2) := by decide +kernel
theorem d_Model_number_46 : decode c_Model_number 46 = .ok (.iadd, 1) := by decide +kernel
theorem d_Model_number_47 : decode c_Model_number 47 = .ok (.iaload, 1) := by decide +kernel
theorem d_Model_number_48 : decode c_Model_number 48 = .ok (.i2l, 1) := by decide +kernel
theorem d_Model_number_49 : decode c_Model_number 49 = .ok (.lor, 1) := by decide +kernel
theorem d_Model_number_50 : decode c_Model_number 50 = .ok (.lstore_n 2, 1) := by decide +kernel
theorem d_Model_number_51 : decode c_Model_number 51 = .ok (.iinc 4 (-1), 3) := by decide +kernel
theorem d_Model_number_54 : decode c_Model_number 54 = .ok (.goto (-27), 3) := by decide +kernel
theorem d_Model_number_57 : decode c_Model_number 57 = .ok (.aload_n 0, 1) := by decide +kernel
theorem d_Model_number_58 : decode c_Model_number 58 = .ok (.dup, 1) := by decide +kernel
theorem d_Model_number_59 : decode c_Model_number 59 = .ok (.getfield 114, 3) := by decide +kernel
theorem d_Model_number_62 : decode c_Model_number 62 = .ok (.iload_n 1, 1) := by decide +kernel
theorem d_Model_number_63 : decode c_Model_number 63 = .ok (.iadd, 1) := by decide +kernel
theorem d_Model_number_64 : decode c_Model_number 64 = .ok (.putfield 114, 3) := by decide +kernel
theorem d_Model_number_67 : decode c_Model_number 67 = .ok (.lload_n 2, 1) := by decide +kernel
theorem d_Model_number_68 : decode c_Model_number 68 = .ok (.lreturn, 1) := by decide +kernel
abbrev c_Model_text : ByteArray := prog_14_method_13_code
def y_Model_text : MethodName := ⟨"EpochServerModel", "text", "()V"⟩
theorem d_Model_text_0 : decode c_Model_text 0 = .ok (.aload_n 0, 1) := by decide +kernel
theorem d_Model_text_1 : decode c_Model_text 1 = .ok (.aload_n 0, 1) := by decide +kernel
theorem d_Model_text_2 : decode c_Model_text 2 = .ok (.iconst 2, 1) := by decide +kernel
theorem d_Model_text_3 : decode c_Model_text 3 = .ok (.invokevirtual 124, 3) := by decide +kernel
theorem d_Model_text_6 : decode c_Model_text 6 = .ok (.l2i, 1) := by decide +kernel
theorem d_Model_text_7 : decode c_Model_text 7 = .ok (.putfield 128, 3) := by decide +kernel
theorem d_Model_text_10 : decode c_Model_text 10 = .ok (.aload_n 0, 1) := by decide +kernel
theorem d_Model_text_11 : decode c_Model_text 11 = .ok (.aload_n 0, 1) := by decide +kernel
theorem d_Model_text_12 : decode c_Model_text 12 = .ok (.getfield 114, 3) := by decide +kernel
theorem d_Model_text_15 : decode c_Model_text 15 = .ok (.putfield 131, 3) := by decide +kernel
theorem d_Model_text_18 : decode c_Model_text 18 = .ok (.aload_n 0, 1) := by decide +kernel
theorem d_Model_text_19 : decode c_Model_text 19 = .ok (.getfield 128, 3) := by decide +kernel
theorem d_Model_text_22 : decode c_Model_text 22 = .ok (.aload_n 0, 1) := by decide +kernel
theorem d_Model_text_23 : decode c_Model_text 23 = .ok (.getfield 117, 3) := by decide +kernel
theorem d_Model_text_26 : decode c_Model_text 26 = .ok (.aload_n 0, 1) := by decide +kernel
theorem d_Model_text_27 : decode c_Model_text 27 = .ok (.getfield 114, 3) := by decide +kernel
theorem d_Model_text_30 : decode c_Model_text 30 = .ok (.isub, 1) := by decide +kernel
theorem d_Model_text_31 : decode c_Model_text 31 = .ok (.if_icmp .le 8, 3) := by decide +kernel
theorem d_Model_text_34 : decode c_Model_text 34 = .ok (.aload_n 0, 1) := by decide +kernel
theorem d_Model_text_35 : decode c_Model_text 35 = .ok (.iconst 0, 1) := by decide +kernel
theorem d_Model_text_36 : decode c_Model_text 36 = .ok (.putfield 120, 3) := by decide +kernel
theorem d_Model_text_39 : decode c_Model_text 39 = .ok (.aload_n 0, 1) := by decide +kernel
theorem d_Model_text_40 : decode c_Model_text 40 = .ok (.dup, 1) := by decide +kernel
theorem d_Model_text_41 : decode c_Model_text 41 = .ok (.getfield 114, 3) := by decide +kernel
theorem d_Model_text_44 : decode c_Model_text 44 = .ok (.aload_n 0, 1) := by decide +kernel
theorem d_Model_text_45 : decode c_Model_text 45 = .ok (.getfield 120, 3) := by decide +kernel
theorem d_Model_text_48 : decode c_Model_text 48 = .ok (.ifCond .eq 10, 3) := by decide +kernel
theorem d_Model_text_51 : decode c_Model_text 51 = .ok (.aload_n 0, 1) := by decide +kernel
theorem d_Model_text_52 : decode c_Model_text 52 = .ok (.getfield 128, 3) := by decide +kernel
theorem d_Model_text_55 : decode c_Model_text 55 = .ok (.goto 4, 3) := by decide +kernel
theorem d_Model_text_58 : decode c_Model_text 58 = .ok (.iconst 0, 1) := by decide +kernel
theorem d_Model_text_59 : decode c_Model_text 59 = .ok (.iadd, 1) := by decide +kernel
theorem d_Model_text_60 : decode c_Model_text 60 = .ok (.putfield 114, 3) := by decide +kernel
theorem d_Model_text_63 : decode c_Model_text 63 = .ok (.return_, 1) := by decide +kernel
abbrev c_Model_reads : ByteArray := prog_14_method_14_code
def y_Model_reads : MethodName := ⟨"EpochServerModel", "reads", "(I)V"⟩
theorem d_Model_reads_0 : decode c_Model_reads 0 = .ok (.iload_n 1, 1) := by decide +kernel
theorem d_Model_reads_1 : decode c_Model_reads 1 = .ok (.tableswitch 536 100 126 #[123, 536, 155, 536, 176, 536, 536, 536, 223, 536, 236, 536, 333, 536, 356, 536, 409, 536, 409, 536, 506, 536, 506, 536, 506, 536, 519], 123) := by decide +kernel
theorem d_Model_reads_124 : decode c_Model_reads 124 = .ok (.aload_n 0, 1) := by decide +kernel
theorem d_Model_reads_125 : decode c_Model_reads 125 = .ok (.aload_n 0, 1) := by decide +kernel
theorem d_Model_reads_126 : decode c_Model_reads 126 = .ok (.iconst 4, 1) := by decide +kernel
theorem d_Model_reads_127 : decode c_Model_reads 127 = .ok (.invokevirtual 124, 3) := by decide +kernel
theorem d_Model_reads_130 : decode c_Model_reads 130 = .ok (.putfield 134, 3) := by decide +kernel
theorem d_Model_reads_133 : decode c_Model_reads 133 = .ok (.aload_n 0, 1) := by decide +kernel
theorem d_Model_reads_134 : decode c_Model_reads 134 = .ok (.invokevirtual 138, 3) := by decide +kernel
theorem d_Model_reads_137 : decode c_Model_reads 137 = .ok (.aload_n 0, 1) := by decide +kernel
theorem d_Model_reads_138 : decode c_Model_reads 138 = .ok (.aload_n 0, 1) := by decide +kernel
theorem d_Model_reads_139 : decode c_Model_reads 139 = .ok (.getfield 131, 3) := by decide +kernel
theorem d_Model_reads_142 : decode c_Model_reads 142 = .ok (.putfield 141, 3) := by decide +kernel
theorem d_Model_reads_145 : decode c_Model_reads 145 = .ok (.aload_n 0, 1) := by decide +kernel
theorem d_Model_reads_146 : decode c_Model_reads 146 = .ok (.aload_n 0, 1) := by decide +kernel
theorem d_Model_reads_147 : decode c_Model_reads 147 = .ok (.getfield 128, 3) := by decide +kernel
theorem d_Model_reads_150 : decode c_Model_reads 150 = .ok (.putfield 144, 3) := by decide +kernel
theorem d_Model_reads_153 : decode c_Model_reads 153 = .ok (.goto 389, 3) := by decide +kernel
theorem d_Model_reads_156 : decode c_Model_reads 156 = .ok (.aload_n 0, 1) := by decide +kernel
theorem d_Model_reads_157 : decode c_Model_reads 157 = .ok (.aload_n 0, 1) := by decide +kernel
theorem d_Model_reads_158 : decode c_Model_reads 158 = .ok (.iconst 4, 1) := by decide +kernel
theorem d_Model_reads_159 : decode c_Model_reads 159 = .ok (.invokevirtual 124, 3) := by decide +kernel
theorem d_Model_reads_162 : decode c_Model_reads 162 = .ok (.l2i, 1) := by decide +kernel
theorem d_Model_reads_163 : decode c_Model_reads 163 = .ok (.putfield 147, 3) := by decide +kernel
theorem d_Model_reads_166 : decode c_Model_reads 166 = .ok (.aload_n 0, 1) := by decide +kernel
theorem d_Model_reads_167 : decode c_Model_reads 167 = .ok (.invokevirtual 138, 3) := by decide +kernel
theorem d_Model_reads_170 : decode c_Model_reads 170 = .ok (.aload_n 0, 1) := by decide +kernel
theorem d_Model_reads_171 : decode c_Model_reads 171 = .ok (.invokevirtual 138, 3) := by decide +kernel
theorem d_Model_reads_174 : decode c_Model_reads 174 = .ok (.goto 368, 3) := by decide +kernel
theorem d_Model_reads_177 : decode c_Model_reads 177 = .ok (.aload_n 0, 1) := by decide +kernel
theorem d_Model_reads_178 : decode c_Model_reads 178 = .ok (.aload_n 0, 1) := by decide +kernel
theorem d_Model_reads_179 : decode c_Model_reads 179 = .ok (.iconst 4, 1) := by decide +kernel
theorem d_Model_reads_180 : decode c_Model_reads 180 = .ok (.invokevirtual 124, 3) := by decide +kernel
theorem d_Model_reads_183 : decode c_Model_reads 183 = .ok (.l2i, 1) := by decide +kernel
theorem d_Model_reads_184 : decode c_Model_reads 184 = .ok (.putfield 147, 3) := by decide +kernel
theorem d_Model_reads_187 : decode c_Model_reads 187 = .ok (.aload_n 0, 1) := by decide +kernel
theorem d_Model_reads_188 : decode c_Model_reads 188 = .ok (.aload_n 0, 1) := by decide +kernel
theorem d_Model_reads_189 : decode c_Model_reads 189 = .ok (.iconst 4, 1) := by decide +kernel
theorem d_Model_reads_190 : decode c_Model_reads 190 = .ok (.invokevirtual 124, 3) := by decide +kernel
theorem d_Model_reads_193 : decode c_Model_reads 193 = .ok (.l2i, 1) := by decide +kernel
theorem d_Model_reads_194 : decode c_Model_reads 194 = .ok (.putfield 150, 3) := by decide +kernel
theorem d_Model_reads_197 : decode c_Model_reads 197 = .ok (.aload_n 0, 1) := by decide +kernel
theorem d_Model_reads_198 : decode c_Model_reads 198 = .ok (.invokevirtual 138, 3) := by decide +kernel
theorem d_Model_reads_201 : decode c_Model_reads 201 = .ok (.aload_n 0, 1) := by decide +kernel
theorem d_Model_reads_202 : decode c_Model_reads 202 = .ok (.invokevirtual 138, 3) := by decide +kernel
theorem d_Model_reads_205 : decode c_Model_reads 205 = .ok (.aload_n 0, 1) := by decide +kernel
theorem d_Model_reads_206 : decode c_Model_reads 206 = .ok (.aload_n 0, 1) := by decide +kernel
theorem d_Model_reads_207 : decode c_Model_reads 207 = .ok (.getfield 131, 3) := by decide +kernel
theorem d_Model_reads_210 : decode c_Model_reads 210 = .ok (.putfield 141, 3) := by decide +kernel
theorem d_Model_reads_213 : decode c_Model_reads 213 = .ok (.aload_n 0, 1) := by decide +kernel
theorem d_Model_reads_214 : decode c_Model_reads 214 = .ok (.aload_n 0, 1) := by decide +kernel
theorem d_Model_reads_215 : decode c_Model_reads 215 = .ok (.getfield 128, 3) := by decide +kernel
theorem d_Model_reads_218 : decode c_Model_reads 218 = .ok (.putfield 144, 3) := by decide +kernel
theorem d_Model_reads_221 : decode c_Model_reads 221 = .ok (.goto 321, 3) := by decide +kernel
theorem d_Model_reads_224 : decode c_Model_reads 224 = .ok (.aload_n 0, 1) := by decide +kernel
theorem d_Model_reads_225 : decode c_Model_reads 225 = .ok (.aload_n 0, 1) := by decide +kernel
theorem d_Model_reads_226 : decode c_Model_reads 226 = .ok (.iconst 2, 1) := by decide +kernel
theorem d_Model_reads_227 : decode c_Model_reads 227 = .ok (.invokevirtual 124, 3) := by decide +kernel
theorem d_Model_reads_230 : decode c_Model_reads 230 = .ok (.l2i, 1) := by decide +kernel
theorem d_Model_reads_231 : decode c_Model_reads 231 = .ok (.putfield 153, 3) := by decide +kernel
theorem d_Model_reads_234 : decode c_Model_reads 234 = .ok (.goto 308, 3) := by decide +kernel
theorem d_Model_reads_237 : decode c_Model_reads 237 = .ok (.aload_n 0, 1) := by decide +kernel
theorem d_Model_reads_238 : decode c_Model_reads 238 = .ok (.aload_n 0, 1) := by decide +kernel
theorem d_Model_reads_239 : decode c_Model_reads 239 = .ok (.iconst 4, 1) := by decide +kernel
theorem d_Model_reads_240 : decode c_Model_reads 240 = .ok (.invokevirtual 124, 3) := by decide +kernel
theorem d_Model_reads_243 : decode c_Model_reads 243 = .ok (.l2i, 1) := by decide +kernel
theorem d_Model_reads_244 : decode c_Model_reads 244 = .ok (.putfield 147, 3) := by decide +kernel
theorem d_Model_reads_247 : decode c_Model_reads 247 = .ok (.aload_n 0, 1) := by decide +kernel
theorem d_Model_reads_248 : decode c_Model_reads 248 = .ok (.aload_n 0, 1) := by decide +kernel
theorem d_Model_reads_249 : decode c_Model_reads 249 = .ok (.iconst 4, 1) := by decide +kernel
theorem d_Model_reads_250 : decode c_Model_reads 250 = .ok (.invokevirtual 124, 3) := by decide +kernel
theorem d_Model_reads_253 : decode c_Model_reads 253 = .ok (.l2i, 1) := by decide +kernel
theorem d_Model_reads_254 : decode c_Model_reads 254 = .ok (.putfield 150, 3) := by decide +kernel
theorem d_Model_reads_257 : decode c_Model_reads 257 = .ok (.aload_n 0, 1) := by decide +kernel
theorem d_Model_reads_258 : decode c_Model_reads 258 = .ok (.aload_n 0, 1) := by decide +kernel
theorem d_Model_reads_259 : decode c_Model_reads 259 = .ok (.iconst 2, 1) := by decide +kernel
theorem d_Model_reads_260 : decode c_Model_reads 260 = .ok (.invokevirtual 124, 3) := by decide +kernel
theorem d_Model_reads_263 : decode c_Model_reads 263 = .ok (.l2i, 1) := by decide +kernel
theorem d_Model_reads_264 : decode c_Model_reads 264 = .ok (.putfield 153, 3) := by decide +kernel
theorem d_Model_reads_267 : decode c_Model_reads 267 = .ok (.iconst 0, 1) := by decide +kernel
theorem d_Model_reads_268 : decode c_Model_reads 268 = .ok (.istore_n 2, 1) := by decide +kernel
theorem d_Model_reads_269 : decode c_Model_reads 269 = .ok (.iload_n 2, 1) := by decide +kernel
theorem d_Model_reads_270 : decode c_Model_reads 270 = .ok (.aload_n 0, 1) := by decide +kernel
theorem d_Model_reads_271 : decode c_Model_reads 271 = .ok (.getfield 153, 3) := by decide +kernel
theorem d_Model_reads_274 : decode c_Model_reads 274 = .ok (.if_icmp .ge 57, 3) := by decide +kernel
theorem d_Model_reads_277 : decode c_Model_reads 277 = .ok (.aload_n 0, 1) := by decide +kernel
theorem d_Model_reads_278 : decode c_Model_reads 278 = .ok (.getfield 120, 3) := by decide +kernel
theorem d_Model_reads_281 : decode c_Model_reads 281 = .ok (.ifCond .eq 50, 3) := by decide +kernel
theorem d_Model_reads_284 : decode c_Model_reads 284 = .ok (.aload_n 0, 1) := by decide +kernel
theorem d_Model_reads_285 : decode c_Model_reads 285 = .ok (.invokevirtual 138, 3) := by decide +kernel
theorem d_Model_reads_288 : decode c_Model_reads 288 = .ok (.aload_n 0, 1) := by decide +kernel
theorem d_Model_reads_289 : decode c_Model_reads 289 = .ok (.getfield 120, 3) := by decide +kernel
theorem d_Model_reads_292 : decode c_Model_reads 292 = .ok (.ifCond .eq 33, 3) := by decide +kernel
theorem d_Model_reads_295 : decode c_Model_reads 295 = .ok (.iload_n 2, 1) := by decide +kernel
theorem d_Model_reads_296 : decode c_Model_reads 296 = .ok (.sipush 1400, 3) := by decide +kernel
theorem d_Model_reads_299 : decode c_Model_reads 299 = .ok (.if_icmp .lt 6, 3) := by decide +kernel
theorem d_Model_reads_302 : decode c_Model_reads 302 = .ok (.goto 23, 3) := by decide +kernel
theorem d_Model_reads_305 : decode c_Model_reads 305 = .ok (.aload_n 0, 1) := by decide +kernel
theorem d_Model_reads_306 : decode c_Model_reads 306 = .ok (.getfield 68, 3) := by decide +kernel
theorem d_Model_reads_309 : decode c_Model_reads 309 = .ok (.iload_n 2, 1) := by decide +kernel
theorem d_Model_reads_310 : decode c_Model_reads 310 = .ok (.aload_n 0, 1) := by decide +kernel
theorem d_Model_reads_311 : decode c_Model_reads 311 = .ok (.getfield 131, 3) := by decide +kernel
theorem d_Model_reads_314 : decode c_Model_reads 314 = .ok (.iastore, 1) := by decide +kernel
theorem d_Model_reads_315 : decode c_Model_reads 315 = .ok (.aload_n 0, 1) := by decide +kernel
theorem d_Model_reads_316 : decode c_Model_reads 316 = .ok (.getfield 71, 3) := by decide +kernel
theorem d_Model_reads_319 : decode c_Model_reads 319 = .ok (.iload_n 2, 1) := by decide +kernel
theorem d_Model_reads_320 : decode c_Model_reads 320 = .ok (.aload_n 0, 1) := by decide +kernel
theorem d_Model_reads_321 : decode c_Model_reads 321 = .ok (.getfield 128, 3) := by decide +kernel
theorem d_Model_reads_324 : decode c_Model_reads 324 = .ok (.iastore, 1) := by decide +kernel
theorem d_Model_reads_325 : decode c_Model_reads 325 = .ok (.iinc 2 1, 3) := by decide +kernel
theorem d_Model_reads_328 : decode c_Model_reads 328 = .ok (.goto (-59), 3) := by decide +kernel
theorem d_Model_reads_331 : decode c_Model_reads 331 = .ok (.goto 211, 3) := by decide +kernel
theorem d_Model_reads_334 : decode c_Model_reads 334 = .ok (.aload_n 0, 1) := by decide +kernel
theorem d_Model_reads_335 : decode c_Model_reads 335 = .ok (.aload_n 0, 1) := by decide +kernel
theorem d_Model_reads_336 : decode c_Model_reads 336 = .ok (.iconst 4, 1) := by decide +kernel
theorem d_Model_reads_337 : decode c_Model_reads 337 = .ok (.invokevirtual 124, 3) := by decide +kernel
theorem d_Model_reads_340 : decode c_Model_reads 340 = .ok (.l2i, 1) := by decide +kernel
theorem d_Model_reads_341 : decode c_Model_reads 341 = .ok (.putfield 147, 3) := by decide +kernel
theorem d_Model_reads_344 : decode c_Model_reads 344 = .ok (.aload_n 0, 1) := by decide +kernel
theorem d_Model_reads_345 : decode c_Model_reads 345 = .ok (.aload_n 0, 1) := by decide +kernel
theorem d_Model_reads_346 : decode c_Model_reads 346 = .ok (.iconst 1, 1) := by decide +kernel
theorem d_Model_reads_347 : decode c_Model_reads 347 = .ok (.invokevirtual 124, 3) := by decide +kernel
theorem d_Model_reads_350 : decode c_Model_reads 350 = .ok (.l2i, 1) := by decide +kernel
theorem d_Model_reads_351 : decode c_Model_reads 351 = .ok (.putfield 156, 3) := by decide +kernel
theorem d_Model_reads_354 : decode c_Model_reads 354 = .ok (.goto 188, 3) := by decide +kernel
theorem d_Model_reads_357 : decode c_Model_reads 357 = .ok (.aload_n 0, 1) := by decide +kernel
theorem d_Model_reads_358 : decode c_Model_reads 358 = .ok (.aload_n 0, 1) := by decide +kernel
theorem d_Model_reads_359 : decode c_Model_reads 359 = .ok (.iconst 4, 1) := by decide +kernel
theorem d_Model_reads_360 : decode c_Model_reads 360 = .ok (.invokevirtual 124, 3) := by decide +kernel
theorem d_Model_reads_363 : decode c_Model_reads 363 = .ok (.l2i, 1) := by decide +kernel
theorem d_Model_reads_364 : decode c_Model_reads 364 = .ok (.putfield 147, 3) := by decide +kernel
theorem d_Model_reads_367 : decode c_Model_reads 367 = .ok (.aload_n 0, 1) := by decide +kernel
theorem d_Model_reads_368 : decode c_Model_reads 368 = .ok (.invokevirtual 138, 3) := by decide +kernel
theorem d_Model_reads_371 : decode c_Model_reads 371 = .ok (.aload_n 0, 1) := by decide +kernel
theorem d_Model_reads_372 : decode c_Model_reads 372 = .ok (.aload_n 0, 1) := by decide +kernel
theorem d_Model_reads_373 : decode c_Model_reads 373 = .ok (.getfield 131, 3) := by decide +kernel
theorem d_Model_reads_376 : decode c_Model_reads 376 = .ok (.putfield 141, 3) := by decide +kernel
theorem d_Model_reads_379 : decode c_Model_reads 379 = .ok (.aload_n 0, 1) := by decide +kernel
theorem d_Model_reads_380 : decode c_Model_reads 380 = .ok (.aload_n 0, 1) := by decide +kernel
theorem d_Model_reads_381 : decode c_Model_reads 381 = .ok (.getfield 128, 3) := by decide +kernel
theorem d_Model_reads_384 : decode c_Model_reads 384 = .ok (.putfield 144, 3) := by decide +kernel
theorem d_Model_reads_387 : decode c_Model_reads 387 = .ok (.aload_n 0, 1) := by decide +kernel
theorem d_Model_reads_388 : decode c_Model_reads 388 = .ok (.aload_n 0, 1) := by decide +kernel
theorem d_Model_reads_389 : decode c_Model_reads 389 = .ok (.iconst 4, 1) := by decide +kernel
theorem d_Model_reads_390 : decode c_Model_reads 390 = .ok (.invokevirtual 124, 3) := by decide +kernel
theorem d_Model_reads_393 : decode c_Model_reads 393 = .ok (.l2i, 1) := by decide +kernel
theorem d_Model_reads_394 : decode c_Model_reads 394 = .ok (.putfield 159, 3) := by decide +kernel
theorem d_Model_reads_397 : decode c_Model_reads 397 = .ok (.aload_n 0, 1) := by decide +kernel
theorem d_Model_reads_398 : decode c_Model_reads 398 = .ok (.aload_n 0, 1) := by decide +kernel
theorem d_Model_reads_399 : decode c_Model_reads 399 = .ok (.iconst 1, 1) := by decide +kernel
theorem d_Model_reads_400 : decode c_Model_reads 400 = .ok (.invokevirtual 124, 3) := by decide +kernel
theorem d_Model_reads_403 : decode c_Model_reads 403 = .ok (.l2i, 1) := by decide +kernel
theorem d_Model_reads_404 : decode c_Model_reads 404 = .ok (.putfield 156, 3) := by decide +kernel
theorem d_Model_reads_407 : decode c_Model_reads 407 = .ok (.goto 135, 3) := by decide +kernel
theorem d_Model_reads_410 : decode c_Model_reads 410 = .ok (.aload_n 0, 1) := by decide +kernel
theorem d_Model_reads_411 : decode c_Model_reads 411 = .ok (.aload_n 0, 1) := by decide +kernel
theorem d_Model_reads_412 : decode c_Model_reads 412 = .ok (.iconst 4, 1) := by decide +kernel
theorem d_Model_reads_413 : decode c_Model_reads 413 = .ok (.invokevirtual 124, 3) := by decide +kernel
theorem d_Model_reads_416 : decode c_Model_reads 416 = .ok (.l2i, 1) := by decide +kernel
theorem d_Model_reads_417 : decode c_Model_reads 417 = .ok (.putfield 147, 3) := by decide +kernel
theorem d_Model_reads_420 : decode c_Model_reads 420 = .ok (.aload_n 0, 1) := by decide +kernel
theorem d_Model_reads_421 : decode c_Model_reads 421 = .ok (.aload_n 0, 1) := by decide +kernel
theorem d_Model_reads_422 : decode c_Model_reads 422 = .ok (.bipush 8, 2) := by decide +kernel
theorem d_Model_reads_424 : decode c_Model_reads 424 = .ok (.invokevirtual 124, 3) := by decide +kernel
theorem d_Model_reads_427 : decode c_Model_reads 427 = .ok (.putfield 162, 3) := by decide +kernel
theorem d_Model_reads_430 : decode c_Model_reads 430 = .ok (.aload_n 0, 1) := by decide +kernel
theorem d_Model_reads_431 : decode c_Model_reads 431 = .ok (.aload_n 0, 1) := by decide +kernel
theorem d_Model_reads_432 : decode c_Model_reads 432 = .ok (.iconst 4, 1) := by decide +kernel
theorem d_Model_reads_433 : decode c_Model_reads 433 = .ok (.invokevirtual 124, 3) := by decide +kernel
theorem d_Model_reads_436 : decode c_Model_reads 436 = .ok (.putfield 134, 3) := by decide +kernel
theorem d_Model_reads_439 : decode c_Model_reads 439 = .ok (.iload_n 1, 1) := by decide +kernel
theorem d_Model_reads_440 : decode c_Model_reads 440 = .ok (.bipush 116, 2) := by decide +kernel
theorem d_Model_reads_442 : decode c_Model_reads 442 = .ok (.if_icmp .ne 6, 3) := by decide +kernel
theorem d_Model_reads_445 : decode c_Model_reads 445 = .ok (.goto 97, 3) := by decide +kernel
theorem d_Model_reads_448 : decode c_Model_reads 448 = .ok (.aload_n 0, 1) := by decide +kernel
theorem d_Model_reads_449 : decode c_Model_reads 449 = .ok (.aload_n 0, 1) := by decide +kernel
theorem d_Model_reads_450 : decode c_Model_reads 450 = .ok (.getfield 114, 3) := by decide +kernel
theorem d_Model_reads_453 : decode c_Model_reads 453 = .ok (.putfield 165, 3) := by decide +kernel
theorem d_Model_reads_456 : decode c_Model_reads 456 = .ok (.aload_n 0, 1) := by decide +kernel
theorem d_Model_reads_457 : decode c_Model_reads 457 = .ok (.getfield 134, 3) := by decide +kernel
theorem d_Model_reads_460 : decode c_Model_reads 460 = .ok (.aload_n 0, 1) := by decide +kernel
theorem d_Model_reads_461 : decode c_Model_reads 461 = .ok (.getfield 117, 3) := by decide +kernel
theorem d_Model_reads_464 : decode c_Model_reads 464 = .ok (.aload_n 0, 1) := by decide +kernel
theorem d_Model_reads_465 : decode c_Model_reads 465 = .ok (.getfield 114, 3) := by decide +kernel
theorem d_Model_reads_468 : decode c_Model_reads 468 = .ok (.isub, 1) := by decide +kernel
theorem d_Model_reads_469 : decode c_Model_reads 469 = .ok (.i2l, 1) := by decide +kernel
theorem d_Model_reads_470 : decode c_Model_reads 470 = .ok (.lcmp, 1) := by decide +kernel
theorem d_Model_reads_471 : decode c_Model_reads 471 = .ok (.ifCond .le 8, 3) := by decide +kernel
theorem d_Model_reads_474 : decode c_Model_reads 474 = .ok (.aload_n 0, 1) := by decide +kernel
theorem d_Model_reads_475 : decode c_Model_reads 475 = .ok (.iconst 0, 1) := by decide +kernel
theorem d_Model_reads_476 : decode c_Model_reads 476 = .ok (.putfield 120, 3) := by decide +kernel
theorem d_Model_reads_479 : decode c_Model_reads 479 = .ok (.aload_n 0, 1) := by decide +kernel
theorem d_Model_reads_480 : decode c_Model_reads 480 = .ok (.dup, 1) := by decide +kernel
theorem d_Model_reads_481 : decode c_Model_reads 481 = .ok (.getfield 114, 3) := by decide +kernel
theorem d_Model_reads_484 : decode c_Model_reads 484 = .ok (.aload_n 0, 1) := by decide +kernel
theorem d_Model_reads_485 : decode c_Model_reads 485 = .ok (.getfield 120, 3) := by decide +kernel
theorem d_Model_reads_488 : decode c_Model_reads 488 = .ok (.ifCond .eq 11, 3) := by decide +kernel
theorem d_Model_reads_491 : decode c_Model_reads 491 = .ok (.aload_n 0, 1) := by decide +kernel
theorem d_Model_reads_492 : decode c_Model_reads 492 = .ok (.getfield 134, 3) := by decide +kernel
theorem d_Model_reads_495 : decode c_Model_reads 495 = .ok (.l2i, 1) := by decide +kernel
theorem d_Model_reads_496 : decode c_Model_reads 496 = .ok (.goto 4, 3) := by decide +kernel
theorem d_Model_reads_499 : decode c_Model_reads 499 = .ok (.iconst 0, 1) := by decide +kernel
theorem d_Model_reads_500 : decode c_Model_reads 500 = .ok (.iadd, 1) := by decide +kernel
theorem d_Model_reads_501 : decode c_Model_reads 501 = .ok (.putfield 114, 3) := by decide +kernel
theorem d_Model_reads_504 : decode c_Model_reads 504 = .ok (.goto 38, 3) := by decide +kernel
theorem d_Model_reads_507 : decode c_Model_reads 507 = .ok (.aload_n 0, 1) := by decide +kernel
theorem d_Model_reads_508 : decode c_Model_reads 508 = .ok (.aload_n 0, 1) := by decide +kernel
theorem d_Model_reads_509 : decode c_Model_reads 509 = .ok (.iconst 4, 1) := by decide +kernel
theorem d_Model_reads_510 : decode c_Model_reads 510 = .ok (.invokevirtual 124, 3) := by decide +kernel
theorem d_Model_reads_513 : decode c_Model_reads 513 = .ok (.l2i, 1) := by decide +kernel
theorem d_Model_reads_514 : decode c_Model_reads 514 = .ok (.putfield 147, 3) := by decide +kernel
theorem d_Model_reads_517 : decode c_Model_reads 517 = .ok (.goto 25, 3) := by decide +kernel
theorem d_Model_reads_520 : decode c_Model_reads 520 = .ok (.aload_n 0, 1) := by decide +kernel
theorem d_Model_reads_521 : decode c_Model_reads 521 = .ok (.aload_n 0, 1) := by decide +kernel
theorem d_Model_reads_522 : decode c_Model_reads 522 = .ok (.iconst 4, 1) := by decide +kernel
theorem d_Model_reads_523 : decode c_Model_reads 523 = .ok (.invokevirtual 124, 3) := by decide +kernel
theorem d_Model_reads_526 : decode c_Model_reads 526 = .ok (.l2i, 1) := by decide +kernel
theorem d_Model_reads_527 : decode c_Model_reads 527 = .ok (.putfield 147, 3) := by decide +kernel
theorem d_Model_reads_530 : decode c_Model_reads 530 = .ok (.aload_n 0, 1) := by decide +kernel
theorem d_Model_reads_531 : decode c_Model_reads 531 = .ok (.invokevirtual 168, 3) := by decide +kernel
theorem d_Model_reads_534 : decode c_Model_reads 534 = .ok (.goto 8, 3) := by decide +kernel
theorem d_Model_reads_537 : decode c_Model_reads 537 = .ok (.aload_n 0, 1) := by decide +kernel
theorem d_Model_reads_538 : decode c_Model_reads 538 = .ok (.iconst 0, 1) := by decide +kernel
theorem d_Model_reads_539 : decode c_Model_reads 539 = .ok (.putfield 120, 3) := by decide +kernel
theorem d_Model_reads_542 : decode c_Model_reads 542 = .ok (.return_, 1) := by decide +kernel
abbrev c_Model_isOnes : ByteArray := prog_14_method_15_code
def y_Model_isOnes : MethodName := ⟨"EpochServerModel", "isOnes", "(I)Z"⟩
theorem d_Model_isOnes_0 : decode c_Model_isOnes 0 = .ok (.aload_n 0, 1) := by decide +kernel
theorem d_Model_isOnes_1 : decode c_Model_isOnes 1 = .ok (.getfield 114, 3) := by decide +kernel
theorem d_Model_isOnes_4 : decode c_Model_isOnes 4 = .ok (.iload_n 1, 1) := by decide +kernel
theorem d_Model_isOnes_5 : decode c_Model_isOnes 5 = .ok (.iadd, 1) := by decide +kernel
theorem d_Model_isOnes_6 : decode c_Model_isOnes 6 = .ok (.aload_n 0, 1) := by decide +kernel
theorem d_Model_isOnes_7 : decode c_Model_isOnes 7 = .ok (.getfield 117, 3) := by decide +kernel
theorem d_Model_isOnes_10 : decode c_Model_isOnes 10 = .ok (.if_icmp .gt 7, 3) := by decide +kernel
theorem d_Model_isOnes_13 : decode c_Model_isOnes 13 = .ok (.iconst 1, 1) := by decide +kernel
theorem d_Model_isOnes_14 : decode c_Model_isOnes 14 = .ok (.goto 4, 3) := by decide +kernel
theorem d_Model_isOnes_17 : decode c_Model_isOnes 17 = .ok (.iconst 0, 1) := by decide +kernel
theorem d_Model_isOnes_18 : decode c_Model_isOnes 18 = .ok (.istore_n 2, 1) := by decide +kernel
theorem d_Model_isOnes_19 : decode c_Model_isOnes 19 = .ok (.iconst 0, 1) := by decide +kernel
theorem d_Model_isOnes_20 : decode c_Model_isOnes 20 = .ok (.istore_n 3, 1) := by decide +kernel
theorem d_Model_isOnes_21 : decode c_Model_isOnes 21 = .ok (.iload_n 3, 1) := by decide +kernel
theorem d_Model_isOnes_22 : decode c_Model_isOnes 22 = .ok (.iload_n 1, 1) := by decide +kernel
theorem d_Model_isOnes_23 : decode c_Model_isOnes 23 = .ok (.if_icmp .ge 36, 3) := by decide +kernel
theorem d_Model_isOnes_26 : decode c_Model_isOnes 26 = .ok (.iload_n 2, 1) := by decide +kernel
theorem d_Model_isOnes_27 : decode c_Model_isOnes 27 = .ok (.ifCond .eq 32, 3) := by decide +kernel
theorem d_Model_isOnes_30 : decode c_Model_isOnes 30 = .ok (.aload_n 0, 1) := by decide +kernel
theorem d_Model_isOnes_31 : decode c_Model_isOnes 31 = .ok (.getfield 44, 3) := by decide +kernel
theorem d_Model_isOnes_34 : decode c_Model_isOnes 34 = .ok (.aload_n 0, 1) := by decide +kernel
theorem d_Model_isOnes_35 : decode c_Model_isOnes 35 = .ok (.getfield 114, 3) := by decide +kernel
theorem d_Model_isOnes_38 : decode c_Model_isOnes 38 = .ok (.iload_n 3, 1) := by decide +kernel
theorem d_Model_isOnes_39 : decode c_Model_isOnes 39 = .ok (.iadd, 1) := by decide +kernel
theorem d_Model_isOnes_40 : decode c_Model_isOnes 40 = .ok (.iaload, 1) := by decide +kernel
theorem d_Model_isOnes_41 : decode c_Model_isOnes 41 = .ok (.sipush 255, 3) := by decide +kernel
theorem d_Model_isOnes_44 : decode c_Model_isOnes 44 = .ok (.if_icmp .ne 7, 3) := by decide +kernel
theorem d_Model_isOnes_47 : decode c_Model_isOnes 47 = .ok (.iconst 1, 1) := by decide +kernel
theorem d_Model_isOnes_48 : decode c_Model_isOnes 48 = .ok (.goto 4, 3) := by decide +kernel
theorem d_Model_isOnes_51 : decode c_Model_isOnes 51 = .ok (.iconst 0, 1) := by decide +kernel
theorem d_Model_isOnes_52 : decode c_Model_isOnes 52 = .ok (.istore_n 2, 1) := by decide +kernel
theorem d_Model_isOnes_53 : decode c_Model_isOnes 53 = .ok (.iinc 3 1, 3) := by decide +kernel
theorem d_Model_isOnes_56 : decode c_Model_isOnes 56 = .ok (.goto (-35), 3) := by decide +kernel
theorem d_Model_isOnes_59 : decode c_Model_isOnes 59 = .ok (.aload_n 0, 1) := by decide +kernel
theorem d_Model_isOnes_60 : decode c_Model_isOnes 60 = .ok (.getfield 114, 3) := by decide +kernel
theorem d_Model_isOnes_63 : decode c_Model_isOnes 63 = .ok (.iload_n 1, 1) := by decide +kernel
theorem d_Model_isOnes_64 : decode c_Model_isOnes 64 = .ok (.iadd, 1) := by decide +kernel
theorem d_Model_isOnes_65 : decode c_Model_isOnes 65 = .ok (.aload_n 0, 1) := by decide +kernel
theorem d_Model_isOnes_66 : decode c_Model_isOnes 66 = .ok (.getfield 117, 3) := by decide +kernel
theorem d_Model_isOnes_69 : decode c_Model_isOnes 69 = .ok (.if_icmp .le 8, 3) := by decide +kernel
theorem d_Model_isOnes_72 : decode c_Model_isOnes 72 = .ok (.aload_n 0, 1) := by decide +kernel
theorem d_Model_isOnes_73 : decode c_Model_isOnes 73 = .ok (.iconst 0, 1) := by decide +kernel
theorem d_Model_isOnes_74 : decode c_Model_isOnes 74 = .ok (.putfield 120, 3) := by decide +kernel
theorem d_Model_isOnes_77 : decode c_Model_isOnes 77 = .ok (.aload_n 0, 1) := by decide +kernel
theorem d_Model_isOnes_78 : decode c_Model_isOnes 78 = .ok (.dup, 1) := by decide +kernel
theorem d_Model_isOnes_79 : decode c_Model_isOnes 79 = .ok (.getfield 114, 3) := by decide +kernel
theorem d_Model_isOnes_82 : decode c_Model_isOnes 82 = .ok (.iload_n 1, 1) := by decide +kernel
theorem d_Model_isOnes_83 : decode c_Model_isOnes 83 = .ok (.iadd, 1) := by decide +kernel
theorem d_Model_isOnes_84 : decode c_Model_isOnes 84 = .ok (.putfield 114, 3) := by decide +kernel
theorem d_Model_isOnes_87 : decode c_Model_isOnes 87 = .ok (.iload_n 2, 1) := by decide +kernel
theorem d_Model_isOnes_88 : decode c_Model_isOnes 88 = .ok (.ireturn, 1) := by decide +kernel
abbrev c_Model_readsStat : ByteArray := prog_14_method_16_code
def y_Model_readsStat : MethodName := ⟨"EpochServerModel", "readsStat", "()V"⟩
theorem d_Model_readsStat_0 : decode c_Model_readsStat 0 = .ok (.aload_n 0, 1) := by decide +kernel
theorem d_Model_readsStat_1 : decode c_Model_readsStat 1 = .ok (.iconst 2, 1) := by decide +kernel
theorem d_Model_readsStat_2 : decode c_Model_readsStat 2 = .ok (.invokevirtual 124, 3) := by decide +kernel
theorem d_Model_readsStat_5 : decode c_Model_readsStat 5 = .ok (.l2i, 1) := by decide +kernel
theorem d_Model_readsStat_6 : decode c_Model_readsStat 6 = .ok (.istore_n 1, 1) := by decide +kernel
theorem d_Model_readsStat_7 : decode c_Model_readsStat 7 = .ok (.iload_n 1, 1) := by decide +kernel
theorem d_Model_readsStat_8 : decode c_Model_readsStat 8 = .ok (.aload_n 0, 1) := by decide +kernel
theorem d_Model_readsStat_9 : decode c_Model_readsStat 9 = .ok (.getfield 117, 3) := by decide +kernel
theorem d_Model_readsStat_12 : decode c_Model_readsStat 12 = .ok (.aload_n 0, 1) := by decide +kernel
theorem d_Model_readsStat_13 : decode c_Model_readsStat 13 = .ok (.getfield 114, 3) := by decide +kernel
theorem d_Model_readsStat_16 : decode c_Model_readsStat 16 = .ok (.isub, 1) := by decide +kernel
theorem d_Model_readsStat_17 : decode c_Model_readsStat 17 = .ok (.if_icmp .ne 16, 3) := by decide +kernel
theorem d_Model_readsStat_20 : decode c_Model_readsStat 20 = .ok (.aload_n 0, 1) := by decide +kernel
theorem d_Model_readsStat_21 : decode c_Model_readsStat 21 = .ok (.iconst 2, 1) := by decide +kernel
theorem d_Model_readsStat_22 : decode c_Model_readsStat 22 = .ok (.invokevirtual 124, 3) := by decide +kernel
theorem d_Model_readsStat_25 : decode c_Model_readsStat 25 = .ok (.iload_n 1, 1) := by decide +kernel
theorem d_Model_readsStat_26 : decode c_Model_readsStat 26 = .ok (.iconst 2, 1) := by decide +kernel
theorem d_Model_readsStat_27 : decode c_Model_readsStat 27 = .ok (.isub, 1) := by decide +kernel
theorem d_Model_readsStat_28 : decode c_Model_readsStat 28 = .ok (.i2l, 1) := by decide +kernel
theorem d_Model_readsStat_29 : decode c_Model_readsStat 29 = .ok (.lcmp, 1) := by decide +kernel
theorem d_Model_readsStat_30 : decode c_Model_readsStat 30 = .ok (.ifCond .eq 9, 3) := by decide +kernel
theorem d_Model_readsStat_33 : decode c_Model_readsStat 33 = .ok (.aload_n 0, 1) := by decide +kernel
theorem d_Model_readsStat_34 : decode c_Model_readsStat 34 = .ok (.iconst 0, 1) := by decide +kernel
theorem d_Model_readsStat_35 : decode c_Model_readsStat 35 = .ok (.putfield 120, 3) := by decide +kernel
theorem d_Model_readsStat_38 : decode c_Model_readsStat 38 = .ok (.return_, 1) := by decide +kernel
theorem d_Model_readsStat_39 : decode c_Model_readsStat 39 = .ok (.aload_n 0, 1) := by decide +kernel
theorem d_Model_readsStat_40 : decode c_Model_readsStat 40 = .ok (.aload_n 0, 1) := by decide +kernel
theorem d_Model_readsStat_41 : decode c_Model_readsStat 41 = .ok (.iconst 2, 1) := by decide +kernel
theorem d_Model_readsStat_42 : decode c_Model_readsStat 42 = .ok (.invokevirtual 171, 3) := by decide +kernel
theorem d_Model_readsStat_45 : decode c_Model_readsStat 45 = .ok (.putfield 175, 3) := by decide +kernel
theorem d_Model_readsStat_48 : decode c_Model_readsStat 48 = .ok (.aload_n 0, 1) := by decide +kernel
theorem d_Model_readsStat_49 : decode c_Model_readsStat 49 = .ok (.dup, 1) := by decide +kernel
theorem d_Model_readsStat_50 : decode c_Model_readsStat 50 = .ok (.getfield 175, 3) := by decide +kernel
theorem d_Model_readsStat_53 : decode c_Model_readsStat 53 = .ok (.aload_n 0, 1) := by decide +kernel
theorem d_Model_readsStat_54 : decode c_Model_readsStat 54 = .ok (.iconst 4, 1) := by decide +kernel
theorem d_Model_readsStat_55 : decode c_Model_readsStat 55 = .ok (.invokevirtual 171, 3) := by decide +kernel
theorem d_Model_readsStat_58 : decode c_Model_readsStat 58 = .ok (.iand, 1) := by decide +kernel
theorem d_Model_readsStat_59 : decode c_Model_readsStat 59 = .ok (.putfield 175, 3) := by decide +kernel
theorem d_Model_readsStat_62 : decode c_Model_readsStat 62 = .ok (.aload_n 0, 1) := by decide +kernel
theorem d_Model_readsStat_63 : decode c_Model_readsStat 63 = .ok (.dup, 1) := by decide +kernel
theorem d_Model_readsStat_64 : decode c_Model_readsStat 64 = .ok (.getfield 175, 3) := by decide +kernel
theorem d_Model_readsStat_67 : decode c_Model_readsStat 67 = .ok (.aload_n 0, 1) := by decide +kernel
theorem d_Model_readsStat_68 : decode c_Model_readsStat 68 = .ok (.bipush 13, 2) := by decide +kernel
theorem d_Model_readsStat_70 : decode c_Model_readsStat 70 = .ok (.invokevirtual 171, 3) := by decide +kernel
theorem d_Model_readsStat_73 : decode c_Model_readsStat 73 = .ok (.iand, 1) := by decide +kernel
theorem d_Model_readsStat_74 : decode c_Model_readsStat 74 = .ok (.putfield 175, 3) := by decide +kernel
theorem d_Model_readsStat_77 : decode c_Model_readsStat 77 = .ok (.aload_n 0, 1) := by decide +kernel
theorem d_Model_readsStat_78 : decode c_Model_readsStat 78 = .ok (.aload_n 0, 1) := by decide +kernel
theorem d_Model_readsStat_79 : decode c_Model_readsStat 79 = .ok (.iconst 4, 1) := by decide +kernel
theorem d_Model_readsStat_80 : decode c_Model_readsStat 80 = .ok (.invokevirtual 124, 3) := by decide +kernel
theorem d_Model_readsStat_83 : decode c_Model_readsStat 83 = .ok (.l2i, 1) := by decide +kernel
theorem d_Model_readsStat_84 : decode c_Model_readsStat 84 = .ok (.putfield 178, 3) := by decide +kernel
theorem d_Model_readsStat_87 : decode c_Model_readsStat 87 = .ok (.aload_n 0, 1) := by decide +kernel
theorem d_Model_readsStat_88 : decode c_Model_readsStat 88 = .ok (.dup, 1) := by decide +kernel
theorem d_Model_readsStat_89 : decode c_Model_readsStat 89 = .ok (.getfield 175, 3) := by decide +kernel
theorem d_Model_readsStat_92 : decode c_Model_readsStat 92 = .ok (.aload_n 0, 1) := by decide +kernel
theorem d_Model_readsStat_93 : decode c_Model_readsStat 93 = .ok (.iconst 4, 1) := by decide +kernel
theorem d_Model_readsStat_94 : decode c_Model_readsStat 94 = .ok (.invokevirtual 171, 3) := by decide +kernel
theorem d_Model_readsStat_97 : decode c_Model_readsStat 97 = .ok (.iand, 1) := by decide +kernel
theorem d_Model_readsStat_98 : decode c_Model_readsStat 98 = .ok (.putfield 175, 3) := by decide +kernel
theorem d_Model_readsStat_101 : decode c_Model_readsStat 101 = .ok (.aload_n 0, 1) := by decide +kernel
theorem d_Model_readsStat_102 : decode c_Model_readsStat 102 = .ok (.aload_n 0, 1) := by decide +kernel
theorem d_Model_readsStat_103 : decode c_Model_readsStat 103 = .ok (.iconst 4, 1) := by decide +kernel
theorem d_Model_readsStat_104 : decode c_Model_readsStat 104 = .ok (.invokevirtual 124, 3) := by decide +kernel
theorem d_Model_readsStat_107 : decode c_Model_readsStat 107 = .ok (.l2i, 1) := by decide +kernel
theorem d_Model_readsStat_108 : decode c_Model_readsStat 108 = .ok (.putfield 181, 3) := by decide +kernel
theorem d_Model_readsStat_111 : decode c_Model_readsStat 111 = .ok (.aload_n 0, 1) := by decide +kernel
theorem d_Model_readsStat_112 : decode c_Model_readsStat 112 = .ok (.aload_n 0, 1) := by decide +kernel
theorem d_Model_readsStat_113 : decode c_Model_readsStat 113 = .ok (.bipush 8, 2) := by decide +kernel
theorem d_Model_readsStat_115 : decode c_Model_readsStat 115 = .ok (.invokevirtual 124, 3) := by decide +kernel
theorem d_Model_readsStat_118 : decode c_Model_readsStat 118 = .ok (.putfield 184, 3) := by decide +kernel
theorem d_Model_readsStat_121 : decode c_Model_readsStat 121 = .ok (.aload_n 0, 1) := by decide +kernel
theorem d_Model_readsStat_122 : decode c_Model_readsStat 122 = .ok (.invokevirtual 138, 3) := by decide +kernel
theorem d_Model_readsStat_125 : decode c_Model_readsStat 125 = .ok (.aload_n 0, 1) := by decide +kernel
theorem d_Model_readsStat_126 : decode c_Model_readsStat 126 = .ok (.aload_n 0, 1) := by decide +kernel
theorem d_Model_readsStat_127 : decode c_Model_readsStat 127 = .ok (.getfield 131, 3) := by decide +kernel
theorem d_Model_readsStat_130 : decode c_Model_readsStat 130 = .ok (.putfield 141, 3) := by decide +kernel
theorem d_Model_readsStat_133 : decode c_Model_readsStat 133 = .ok (.aload_n 0, 1) := by decide +kernel
theorem d_Model_readsStat_134 : decode c_Model_readsStat 134 = .ok (.aload_n 0, 1) := by decide +kernel
theorem d_Model_readsStat_135 : decode c_Model_readsStat 135 = .ok (.getfield 128, 3) := by decide +kernel
theorem d_Model_readsStat_138 : decode c_Model_readsStat 138 = .ok (.putfield 144, 3) := by decide +kernel
theorem d_Model_readsStat_141 : decode c_Model_readsStat 141 = .ok (.iconst 0, 1) := by decide +kernel
theorem d_Model_readsStat_142 : decode c_Model_readsStat 142 = .ok (.istore_n 2, 1) := by decide +kernel
theorem d_Model_readsStat_143 : decode c_Model_readsStat 143 = .ok (.iload_n 2, 1) := by decide +kernel
theorem d_Model_readsStat_144 : decode c_Model_readsStat 144 = .ok (.iconst 3, 1) := by decide +kernel
theorem d_Model_readsStat_145 : decode c_Model_readsStat 145 = .ok (.if_icmp .ge 34, 3) := by decide +kernel
theorem d_Model_readsStat_148 : decode c_Model_readsStat 148 = .ok (.aload_n 0, 1) := by decide +kernel
theorem d_Model_readsStat_149 : decode c_Model_readsStat 149 = .ok (.invokevirtual 138, 3) := by decide +kernel
theorem d_Model_readsStat_152 : decode c_Model_readsStat 152 = .ok (.aload_n 0, 1) := by decide +kernel
theorem d_Model_readsStat_153 : decode c_Model_readsStat 153 = .ok (.dup, 1) := by decide +kernel
theorem d_Model_readsStat_154 : decode c_Model_readsStat 154 = .ok (.getfield 175, 3) := by decide +kernel
theorem d_Model_readsStat_157 : decode c_Model_readsStat 157 = .ok (.aload_n 0, 1) := by decide +kernel
theorem d_Model_readsStat_158 : decode c_Model_readsStat 158 = .ok (.getfield 128, 3) := by decide +kernel
theorem d_Model_readsStat_161 : decode c_Model_readsStat 161 = .ok (.ifCond .ne 7, 3) := by decide +kernel
theorem d_Model_readsStat_164 : decode c_Model_readsStat 164 = .ok (.iconst 1, 1) := by decide +kernel
theorem d_Model_readsStat_165 : decode c_Model_readsStat 165 = .ok (.goto 4, 3) := by decide +kernel
theorem d_Model_readsStat_168 : decode c_Model_readsStat 168 = .ok (.iconst 0, 1) := by decide +kernel
theorem d_Model_readsStat_169 : decode c_Model_readsStat 169 = .ok (.iand, 1) := by decide +kernel
theorem d_Model_readsStat_170 : decode c_Model_readsStat 170 = .ok (.putfield 175, 3) := by decide +kernel
theorem d_Model_readsStat_173 : decode c_Model_readsStat 173 = .ok (.iinc 2 1, 3) := by decide +kernel
theorem d_Model_readsStat_176 : decode c_Model_readsStat 176 = .ok (.goto (-33), 3) := by decide +kernel
theorem d_Model_readsStat_179 : decode c_Model_readsStat 179 = .ok (.return_, 1) := by decide +kernel
abbrev c_Model_message : ByteArray := prog_14_method_17_code
def y_Model_message : MethodName := ⟨"EpochServerModel", "message", "(I)I"⟩
theorem d_Model_message_0 : decode c_Model_message 0 = .ok (.iload_n 1, 1) := by decide +kernel
theorem d_Model_message_1 : decode c_Model_message 1 = .ok (.ifCond .lt 11, 3) := by decide +kernel
theorem d_Model_message_4 : decode c_Model_message 4 = .ok (.iload_n 1, 1) := by decide +kernel
theorem d_Model_message_5 : decode c_Model_message 5 = .ok (.aload_n 0, 1) := by decide +kernel
theorem d_Model_message_6 : decode c_Model_message 6 = .ok (.getfield 103, 3) := by decide +kernel
theorem d_Model_message_9 : decode c_Model_message 9 = .ok (.if_icmp .le 6, 3) := by decide +kernel
theorem d_Model_message_12 : decode c_Model_message 12 = .ok (.bipush (-2), 2) := by decide +kernel
theorem d_Model_message_14 : decode c_Model_message 14 = .ok (.ireturn, 1) := by decide +kernel
theorem d_Model_message_15 : decode c_Model_message 15 = .ok (.aload_n 0, 1) := by decide +kernel
theorem d_Model_message_16 : decode c_Model_message 16 = .ok (.iconst 0, 1) := by decide +kernel
theorem d_Model_message_17 : decode c_Model_message 17 = .ok (.putfield 114, 3) := by decide +kernel
theorem d_Model_message_20 : decode c_Model_message 20 = .ok (.aload_n 0, 1) := by decide +kernel
theorem d_Model_message_21 : decode c_Model_message 21 = .ok (.iload_n 1, 1) := by decide +kernel
theorem d_Model_message_22 : decode c_Model_message 22 = .ok (.putfield 117, 3) := by decide +kernel
theorem d_Model_message_25 : decode c_Model_message 25 = .ok (.aload_n 0, 1) := by decide +kernel
theorem d_Model_message_26 : decode c_Model_message 26 = .ok (.iconst 1, 1) := by decide +kernel
theorem d_Model_message_27 : decode c_Model_message 27 = .ok (.putfield 120, 3) := by decide +kernel
theorem d_Model_message_30 : decode c_Model_message 30 = .ok (.aload_n 0, 1) := by decide +kernel
theorem d_Model_message_31 : decode c_Model_message 31 = .ok (.iconst 4, 1) := by decide +kernel
theorem d_Model_message_32 : decode c_Model_message 32 = .ok (.invokevirtual 124, 3) := by decide +kernel
theorem d_Model_message_35 : decode c_Model_message 35 = .ok (.lstore_n 2, 1) := by decide +kernel
theorem d_Model_message_36 : decode c_Model_message 36 = .ok (.aload_n 0, 1) := by decide +kernel
theorem d_Model_message_37 : decode c_Model_message 37 = .ok (.iconst 1, 1) := by decide +kernel
theorem d_Model_message_38 : decode c_Model_message 38 = .ok (.invokevirtual 124, 3) := by decide +kernel
theorem d_Model_message_41 : decode c_Model_message 41 = .ok (.l2i, 1) := by decide +kernel
theorem d_Model_message_42 : decode c_Model_message 42 = .ok (.istore 4, 2) := by decide +kernel
theorem d_Model_message_44 : decode c_Model_message 44 = .ok (.aload_n 0, 1) := by decide +kernel
theorem d_Model_message_45 : decode c_Model_message 45 = .ok (.iconst 2, 1) := by decide +kernel
theorem d_Model_message_46 : decode c_Model_message 46 = .ok (.invokevirtual 124, 3) := by decide +kernel
theorem d_Model_message_49 : decode c_Model_message 49 = .ok (.l2i, 1) := by decide +kernel
theorem d_Model_message_50 : decode c_Model_message 50 = .ok (.istore 5, 2) := by decide +kernel
theorem d_Model_message_52 : decode c_Model_message 52 = .ok (.aload_n 0, 1) := by decide +kernel
theorem d_Model_message_53 : decode c_Model_message 53 = .ok (.getfield 120, 3) := by decide +kernel
theorem d_Model_message_56 : decode c_Model_message 56 = .ok (.ifCond .eq 9, 3) := by decide +kernel
theorem d_Model_message_59 : decode c_Model_message 59 = .ok (.aload_n 0, 1) := by decide +kernel
theorem d_Model_message_60 : decode c_Model_message 60 = .ok (.iload 4, 2) := by decide +kernel
theorem d_Model_message_62 : decode c_Model_message 62 = .ok (.invokevirtual 187, 3) := by decide +kernel
theorem d_Model_message_65 : decode c_Model_message 65 = .ok (.aload_n 0, 1) := by decide +kernel
theorem d_Model_message_66 : decode c_Model_message 66 = .ok (.iconst 0, 1) := by decide +kernel
theorem d_Model_message_67 : decode c_Model_message 67 = .ok (.putfield 103, 3) := by decide +kernel
theorem d_Model_message_70 : decode c_Model_message 70 = .ok (.aload_n 0, 1) := by decide +kernel
theorem d_Model_message_71 : decode c_Model_message 71 = .ok (.getfield 120, 3) := by decide +kernel
theorem d_Model_message_74 : decode c_Model_message 74 = .ok (.ifCond .eq 18, 3) := by decide +kernel
theorem d_Model_message_77 : decode c_Model_message 77 = .ok (.lload_n 2, 1) := by decide +kernel
theorem d_Model_message_78 : decode c_Model_message 78 = .ok (.iload_n 1, 1) := by decide +kernel
theorem d_Model_message_79 : decode c_Model_message 79 = .ok (.i2l, 1) := by decide +kernel
theorem d_Model_message_80 : decode c_Model_message 80 = .ok (.lcmp, 1) := by decide +kernel
theorem d_Model_message_81 : decode c_Model_message 81 = .ok (.ifCond .ne 11, 3) := by decide +kernel
theorem d_Model_message_84 : decode c_Model_message 84 = .ok (.aload_n 0, 1) := by decide +kernel
theorem d_Model_message_85 : decode c_Model_message 85 = .ok (.getfield 114, 3) := by decide +kernel
theorem d_Model_message_88 : decode c_Model_message 88 = .ok (.iload_n 1, 1) := by decide +kernel
theorem d_Model_message_89 : decode c_Model_message 89 = .ok (.if_icmp .eq 15, 3) := by decide +kernel
theorem d_Model_message_92 : decode c_Model_message 92 = .ok (.aload_n 0, 1) := by decide +kernel
theorem d_Model_message_93 : decode c_Model_message 93 = .ok (.dup, 1) := by decide +kernel
theorem d_Model_message_94 : decode c_Model_message 94 = .ok (.getfield 190, 3) := by decide +kernel
theorem d_Model_message_97 : decode c_Model_message 97 = .ok (.iconst 1, 1) := by decide +kernel
theorem d_Model_message_98 : decode c_Model_message 98 = .ok (.iadd, 1) := by decide +kernel
theorem d_Model_message_99 : decode c_Model_message 99 = .ok (.putfield 190, 3) := by decide +kernel
theorem d_Model_message_102 : decode c_Model_message 102 = .ok (.iconst (-1), 1) := by decide +kernel
theorem d_Model_message_103 : decode c_Model_message 103 = .ok (.ireturn, 1) := by decide +kernel
theorem d_Model_message_104 : decode c_Model_message 104 = .ok (.aload_n 0, 1) := by decide +kernel
theorem d_Model_message_105 : decode c_Model_message 105 = .ok (.dup, 1) := by decide +kernel
theorem d_Model_message_106 : decode c_Model_message 106 = .ok (.getfield 100, 3) := by decide +kernel
theorem d_Model_message_109 : decode c_Model_message 109 = .ok (.iconst 1, 1) := by decide +kernel
theorem d_Model_message_110 : decode c_Model_message 110 = .ok (.iadd, 1) := by decide +kernel
theorem d_Model_message_111 : decode c_Model_message 111 = .ok (.putfield 100, 3) := by decide +kernel
theorem d_Model_message_114 : decode c_Model_message 114 = .ok (.aload_n 0, 1) := by decide +kernel
theorem d_Model_message_115 : decode c_Model_message 115 = .ok (.iconst 0, 1) := by decide +kernel
theorem d_Model_message_116 : decode c_Model_message 116 = .ok (.bipush 27, 2) := by decide +kernel
theorem d_Model_message_118 : decode c_Model_message 118 = .ok (.invokevirtual 193, 3) := by decide +kernel
theorem d_Model_message_121 : decode c_Model_message 121 = .ok (.aload_n 0, 1) := by decide +kernel
theorem d_Model_message_122 : decode c_Model_message 122 = .ok (.bipush 7, 2) := by decide +kernel
theorem d_Model_message_124 : decode c_Model_message 124 = .ok (.putfield 197, 3) := by decide +kernel
theorem d_Model_message_127 : decode c_Model_message 127 = .ok (.aload_n 0, 1) := by decide +kernel
theorem d_Model_message_128 : decode c_Model_message 128 = .ok (.iconst 0, 1) := by decide +kernel
theorem d_Model_message_129 : decode c_Model_message 129 = .ok (.putfield 200, 3) := by decide +kernel
theorem d_Model_message_132 : decode c_Model_message 132 = .ok (.aload_n 0, 1) := by decide +kernel
theorem d_Model_message_133 : decode c_Model_message 133 = .ok (.iconst 0, 1) := by decide +kernel
theorem d_Model_message_134 : decode c_Model_message 134 = .ok (.putfield 203, 3) := by decide +kernel
theorem d_Model_message_137 : decode c_Model_message 137 = .ok (.aload_n 0, 1) := by decide +kernel
theorem d_Model_message_138 : decode c_Model_message 138 = .ok (.iload 4, 2) := by decide +kernel
theorem d_Model_message_140 : decode c_Model_message 140 = .ok (.invokevirtual 206, 3) := by decide +kernel
theorem d_Model_message_143 : decode c_Model_message 143 = .ok (.aload_n 0, 1) := by decide +kernel
theorem d_Model_message_144 : decode c_Model_message 144 = .ok (.getfield 200, 3) := by decide +kernel
theorem d_Model_message_147 : decode c_Model_message 147 = .ok (.ifCond .eq 42, 3) := by decide +kernel
theorem d_Model_message_150 : decode c_Model_message 150 = .ok (.aload_n 0, 1) := by decide +kernel
theorem d_Model_message_151 : decode c_Model_message 151 = .ok (.dup, 1) := by decide +kernel
theorem d_Model_message_152 : decode c_Model_message 152 = .ok (.getfield 209, 3) := by decide +kernel
theorem d_Model_message_155 : decode c_Model_message 155 = .ok (.iconst 1, 1) := by decide +kernel
theorem d_Model_message_156 : decode c_Model_message 156 = .ok (.iadd, 1) := by decide +kernel
theorem d_Model_message_157 : decode c_Model_message 157 = .ok (.putfield 209, 3) := by decide +kernel
theorem d_Model_message_160 : decode c_Model_message 160 = .ok (.aload_n 0, 1) := by decide +kernel
theorem d_Model_message_161 : decode c_Model_message 161 = .ok (.bipush 7, 2) := by decide +kernel
theorem d_Model_message_163 : decode c_Model_message 163 = .ok (.putfield 197, 3) := by decide +kernel
theorem d_Model_message_166 : decode c_Model_message 166 = .ok (.aload_n 0, 1) := by decide +kernel
theorem d_Model_message_167 : decode c_Model_message 167 = .ok (.lconst 1, 1) := by decide +kernel
theorem d_Model_message_168 : decode c_Model_message 168 = .ok (.iconst 2, 1) := by decide +kernel
theorem d_Model_message_169 : decode c_Model_message 169 = .ok (.invokevirtual 212, 3) := by decide +kernel
theorem d_Model_message_172 : decode c_Model_message 172 = .ok (.aload_n 0, 1) := by decide +kernel
theorem d_Model_message_173 : decode c_Model_message 173 = .ok (.bipush 48, 2) := by decide +kernel
theorem d_Model_message_175 : decode c_Model_message 175 = .ok (.aload_n 0, 1) := by decide +kernel
theorem d_Model_message_176 : decode c_Model_message 176 = .ok (.getfield 200, 3) := by decide +kernel
theorem d_Model_message_179 : decode c_Model_message 179 = .ok (.iadd, 1) := by decide +kernel
theorem d_Model_message_180 : decode c_Model_message 180 = .ok (.i2l, 1) := by decide +kernel
theorem d_Model_message_181 : decode c_Model_message 181 = .ok (.iconst 1, 1) := by decide +kernel
theorem d_Model_message_182 : decode c_Model_message 182 = .ok (.invokevirtual 212, 3) := by decide +kernel
theorem d_Model_message_185 : decode c_Model_message 185 = .ok (.bipush 106, 2) := by decide +kernel
theorem d_Model_message_187 : decode c_Model_message 187 = .ok (.istore 4, 2) := by decide +kernel
theorem d_Model_message_189 : decode c_Model_message 189 = .ok (.aload_n 0, 1) := by decide +kernel
theorem d_Model_message_190 : decode c_Model_message 190 = .ok (.getfield 47, 3) := by decide +kernel
theorem d_Model_message_193 : decode c_Model_message 193 = .ok (.iconst 4, 1) := by decide +kernel
theorem d_Model_message_194 : decode c_Model_message 194 = .ok (.iload 4, 2) := by decide +kernel
theorem d_Model_message_196 : decode c_Model_message 196 = .ok (.iconst 1, 1) := by decide +kernel
theorem d_Model_message_197 : decode c_Model_message 197 = .ok (.iadd, 1) := by decide +kernel
theorem d_Model_message_198 : decode c_Model_message 198 = .ok (.iastore, 1) := by decide +kernel
theorem d_Model_message_199 : decode c_Model_message 199 = .ok (.aload_n 0, 1) := by decide +kernel
theorem d_Model_message_200 : decode c_Model_message 200 = .ok (.getfield 47, 3) := by decide +kernel
theorem d_Model_message_203 : decode c_Model_message 203 = .ok (.iconst 5, 1) := by decide +kernel
theorem d_Model_message_204 : decode c_Model_message 204 = .ok (.iload 5, 2) := by decide +kernel
theorem d_Model_message_206 : decode c_Model_message 206 = .ok (.sipush 255, 3) := by decide +kernel
theorem d_Model_message_209 : decode c_Model_message 209 = .ok (.iand, 1) := by decide +kernel
theorem d_Model_message_210 : decode c_Model_message 210 = .ok (.iastore, 1) := by decide +kernel
theorem d_Model_message_211 : decode c_Model_message 211 = .ok (.aload_n 0, 1) := by decide +kernel
theorem d_Model_message_212 : decode c_Model_message 212 = .ok (.getfield 47, 3) := by decide +kernel
theorem d_Model_message_215 : decode c_Model_message 215 = .ok (.bipush 6, 2) := by decide +kernel
theorem d_Model_message_217 : decode c_Model_message 217 = .ok (.iload 5, 2) := by decide +kernel
theorem d_Model_message_219 : decode c_Model_message 219 = .ok (.bipush 8, 2) := by decide +kernel
theorem d_Model_message_221 : decode c_Model_message 221 = .ok (.ishr, 1) := by decide +kernel
theorem d_Model_message_222 : decode c_Model_message 222 = .ok (.iastore, 1) := by decide +kernel
theorem d_Model_message_223 : decode c_Model_message 223 = .ok (.iconst 0, 1) := by decide +kernel
theorem d_Model_message_224 : decode c_Model_message 224 = .ok (.istore 6, 2) := by decide +kernel
theorem d_Model_message_226 : decode c_Model_message 226 = .ok (.iload 6, 2) := by decide +kernel
theorem d_Model_message_228 : decode c_Model_message 228 = .ok (.iconst 4, 1) := by decide +kernel
theorem d_Model_message_229 : decode c_Model_message 229 = .ok (.if_icmp .ge 30, 3) := by decide +kernel
theorem d_Model_message_232 : decode c_Model_message 232 = .ok (.aload_n 0, 1) := by decide +kernel
theorem d_Model_message_233 : decode c_Model_message 233 = .ok (.getfield 47, 3) := by decide +kernel
theorem d_Model_message_236 : decode c_Model_message 236 = .ok (.iload 6, 2) := by decide +kernel
theorem d_Model_message_238 : decode c_Model_message 238 = .ok (.aload_n 0, 1) := by decide +kernel
theorem d_Model_message_239 : decode c_Model_message 239 = .ok (.getfield 197, 3) := by decide +kernel
theorem d_Model_message_242 : decode c_Model_message 242 = .ok (.bipush 8, 2) := by decide +kernel
theorem d_Model_message_244 : decode c_Model_message 244 = .ok (.iload 6, 2) := by decide +kernel
theorem d_Model_message_246 : decode c_Model_message 246 = .ok (.imul, 1) := by decide +kernel
theorem d_Model_message_247 : decode c_Model_message 247 = .ok (.ishr, 1) := by decide +kernel
theorem d_Model_message_248 : decode c_Model_message 248 = .ok (.sipush 255, 3) := by decide +kernel
theorem d_Model_message_251 : decode c_Model_message 251 = .ok (.iand, 1) := by decide +kernel
theorem d_Model_message_252 : decode c_Model_message 252 = .ok (.iastore, 1) := by decide +kernel
theorem d_Model_message_253 : decode c_Model_message 253 = .ok (.iinc 6 1, 3) := by decide +kernel
theorem d_Model_message_256 : decode c_Model_message 256 = .ok (.goto (-30), 3) := by decide +kernel
theorem d_Model_message_259 : decode c_Model_message 259 = .ok (.aload_n 0, 1) := by decide +kernel
theorem d_Model_message_260 : decode c_Model_message 260 = .ok (.iconst 0, 1) := by decide +kernel
theorem d_Model_message_261 : decode c_Model_message 261 = .ok (.bipush 27, 2) := by decide +kernel
theorem d_Model_message_263 : decode c_Model_message 263 = .ok (.invokevirtual 216, 3) := by decide +kernel
theorem d_Model_message_266 : decode c_Model_message 266 = .ok (.ifCond .ne 7, 3) := by decide +kernel
theorem d_Model_message_269 : decode c_Model_message 269 = .ok (.aload_n 0, 1) := by decide +kernel
theorem d_Model_message_270 : decode c_Model_message 270 = .ok (.invokevirtual 219, 3) := by decide +kernel
theorem d_Model_message_273 : decode c_Model_message 273 = .ok (.aload_n 0, 1) := by decide +kernel
theorem d_Model_message_274 : decode c_Model_message 274 = .ok (.getfield 203, 3) := by decide +kernel
theorem d_Model_message_277 : decode c_Model_message 277 = .ok (.ifCond .eq 8, 3) := by decide +kernel
theorem d_Model_message_280 : decode c_Model_message 280 = .ok (.aload_n 0, 1) := by decide +kernel
theorem d_Model_message_281 : decode c_Model_message 281 = .ok (.iconst 0, 1) := by decide +kernel
theorem d_Model_message_282 : decode c_Model_message 282 = .ok (.putfield 222, 3) := by decide +kernel
theorem d_Model_message_285 : decode c_Model_message 285 = .ok (.aload_n 0, 1) := by decide +kernel
theorem d_Model_message_286 : decode c_Model_message 286 = .ok (.getfield 197, 3) := by decide +kernel
theorem d_Model_message_289 : decode c_Model_message 289 = .ok (.ireturn, 1) := by decide +kernel
abbrev c_Model_keep : ByteArray := prog_14_method_18_code
def y_Model_keep : MethodName := ⟨"EpochServerModel", "keep", "()V"⟩
theorem d_Model_keep_0 : decode c_Model_keep 0 = .ok (.aload_n 0, 1) := by decide +kernel
theorem d_Model_keep_1 : decode c_Model_keep 1 = .ok (.getfield 225, 3) := by decide +kernel
theorem d_Model_keep_4 : decode c_Model_keep 4 = .ok (.aload_n 0, 1) := by decide +kernel
theorem d_Model_keep_5 : decode c_Model_keep 5 = .ok (.getfield 222, 3) := by decide +kernel
theorem d_Model_keep_8 : decode c_Model_keep 8 = .ok (.iadd, 1) := by decide +kernel
theorem d_Model_keep_9 : decode c_Model_keep 9 = .ok (.bipush 20, 2) := by decide +kernel
theorem d_Model_keep_11 : decode c_Model_keep 11 = .ok (.irem, 1) := by decide +kernel
theorem d_Model_keep_12 : decode c_Model_keep 12 = .ok (.istore_n 1, 1) := by decide +kernel
theorem d_Model_keep_13 : decode c_Model_keep 13 = .ok (.aload_n 0, 1) := by decide +kernel
theorem d_Model_keep_14 : decode c_Model_keep 14 = .ok (.getfield 222, 3) := by decide +kernel
theorem d_Model_keep_17 : decode c_Model_keep 17 = .ok (.bipush 20, 2) := by decide +kernel
theorem d_Model_keep_19 : decode c_Model_keep 19 = .ok (.if_icmp .ne 19, 3) := by decide +kernel
theorem d_Model_keep_22 : decode c_Model_keep 22 = .ok (.aload_n 0, 1) := by decide +kernel
theorem d_Model_keep_23 : decode c_Model_keep 23 = .ok (.aload_n 0, 1) := by decide +kernel
theorem d_Model_keep_24 : decode c_Model_keep 24 = .ok (.getfield 225, 3) := by decide +kernel
theorem d_Model_keep_27 : decode c_Model_keep 27 = .ok (.iconst 1, 1) := by decide +kernel
theorem d_Model_keep_28 : decode c_Model_keep 28 = .ok (.iadd, 1) := by decide +kernel
theorem d_Model_keep_29 : decode c_Model_keep 29 = .ok (.bipush 20, 2) := by decide +kernel
theorem d_Model_keep_31 : decode c_Model_keep 31 = .ok (.irem, 1) := by decide +kernel
theorem d_Model_keep_32 : decode c_Model_keep 32 = .ok (.putfield 225, 3) := by decide +kernel
theorem d_Model_keep_35 : decode c_Model_keep 35 = .ok (.goto 13, 3) := by decide +kernel
theorem d_Model_keep_38 : decode c_Model_keep 38 = .ok (.aload_n 0, 1) := by decide +kernel
theorem d_Model_keep_39 : decode c_Model_keep 39 = .ok (.dup, 1) := by decide +kernel
theorem d_Model_keep_40 : decode c_Model_keep 40 = .ok (.getfield 222, 3) := by decide +kernel
theorem d_Model_keep_43 : decode c_Model_keep 43 = .ok (.iconst 1, 1) := by decide +kernel
theorem d_Model_keep_44 : decode c_Model_keep 44 = .ok (.iadd, 1) := by decide +kernel
theorem d_Model_keep_45 : decode c_Model_keep 45 = .ok (.putfield 222, 3) := by decide +kernel
theorem d_Model_keep_48 : decode c_Model_keep 48 = .ok (.aload_n 0, 1) := by decide +kernel
theorem d_Model_keep_49 : decode c_Model_keep 49 = .ok (.bipush 27, 2) := by decide +kernel
theorem d_Model_keep_51 : decode c_Model_keep 51 = .ok (.bipush 7, 2) := by decide +kernel
theorem d_Model_keep_53 : decode c_Model_keep 53 = .ok (.iload_n 1, 1) := by decide +kernel
theorem d_Model_keep_54 : decode c_Model_keep 54 = .ok (.iadd, 1) := by decide +kernel
theorem d_Model_keep_55 : decode c_Model_keep 55 = .ok (.invokevirtual 193, 3) := by decide +kernel
theorem d_Model_keep_58 : decode c_Model_keep 58 = .ok (.return_, 1) := by decide +kernel
abbrev c_Model_put : ByteArray := prog_14_method_19_code
def y_Model_put : MethodName := ⟨"EpochServerModel", "put", "(JI)V"⟩
theorem d_Model_put_0 : decode c_Model_put 0 = .ok (.iconst 0, 1) := by decide +kernel
theorem d_Model_put_1 : decode c_Model_put 1 = .ok (.istore 4, 2) := by decide +kernel
theorem d_Model_put_3 : decode c_Model_put 3 = .ok (.iload 4, 2) := by decide +kernel
theorem d_Model_put_5 : decode c_Model_put 5 = .ok (.iload_n 3, 1) := by decide +kernel
theorem d_Model_put_6 : decode c_Model_put 6 = .ok (.if_icmp .ge 40, 3) := by decide +kernel
theorem d_Model_put_9 : decode c_Model_put 9 = .ok (.aload_n 0, 1) := by decide +kernel
theorem d_Model_put_10 : decode c_Model_put 10 = .ok (.getfield 47, 3) := by decide +kernel
theorem d_Model_put_13 : decode c_Model_put 13 = .ok (.aload_n 0, 1) := by decide +kernel
theorem d_Model_put_14 : decode c_Model_put 14 = .ok (.getfield 197, 3) := by decide +kernel
theorem d_Model_put_17 : decode c_Model_put 17 = .ok (.lload_n 1, 1) := by decide +kernel
theorem d_Model_put_18 : decode c_Model_put 18 = .ok (.bipush 8, 2) := by decide +kernel
theorem d_Model_put_20 : decode c_Model_put 20 = .ok (.iload 4, 2) := by decide +kernel
theorem d_Model_put_22 : decode c_Model_put 22 = .ok (.imul, 1) := by decide +kernel
theorem d_Model_put_23 : decode c_Model_put 23 = .ok (.lshr, 1) := by decide +kernel
theorem d_Model_put_24 : decode c_Model_put 24 = .ok (.ldc2_w 228, 3) := by decide +kernel
theorem d_Model_put_27 : decode c_Model_put 27 = .ok (.land, 1) := by decide +kernel
theorem d_Model_put_28 : decode c_Model_put 28 = .ok (.l2i, 1) := by decide +kernel
theorem d_Model_put_29 : decode c_Model_put 29 = .ok (.iastore, 1) := by decide +kernel
theorem d_Model_put_30 : decode c_Model_put 30 = .ok (.aload_n 0, 1) := by decide +kernel
theorem d_Model_put_31 : decode c_Model_put 31 = .ok (.dup, 1) := by decide +kernel
theorem d_Model_put_32 : decode c_Model_put 32 = .ok (.getfield 197, 3) := by decide +kernel
theorem d_Model_put_35 : decode c_Model_put 35 = .ok (.iconst 1, 1) := by decide +kernel
theorem d_Model_put_36 : decode c_Model_put 36 = .ok (.iadd, 1) := by decide +kernel
theorem d_Model_put_37 : decode c_Model_put 37 = .ok (.putfield 197, 3) := by decide +kernel
theorem d_Model_put_40 : decode c_Model_put 40 = .ok (.iinc 4 1, 3) := by decide +kernel
theorem d_Model_put_43 : decode c_Model_put 43 = .ok (.goto (-40), 3) := by decide +kernel
theorem d_Model_put_46 : decode c_Model_put 46 = .ok (.return_, 1) := by decide +kernel
abbrev c_Model_fails : ByteArray := prog_14_method_20_code
def y_Model_fails : MethodName := ⟨"EpochServerModel", "fails", "(ZI)Z"⟩
theorem d_Model_fails_0 : decode c_Model_fails 0 = .ok (.iload_n 1, 1) := by decide +kernel
theorem d_Model_fails_1 : decode c_Model_fails 1 = .ok (.ifCond .eq 8, 3) := by decide +kernel
theorem d_Model_fails_4 : decode c_Model_fails 4 = .ok (.aload_n 0, 1) := by decide +kernel
theorem d_Model_fails_5 : decode c_Model_fails 5 = .ok (.iload_n 2, 1) := by decide +kernel
theorem d_Model_fails_6 : decode c_Model_fails 6 = .ok (.putfield 200, 3) := by decide +kernel
theorem d_Model_fails_9 : decode c_Model_fails 9 = .ok (.iload_n 1, 1) := by decide +kernel
theorem d_Model_fails_10 : decode c_Model_fails 10 = .ok (.ireturn, 1) := by decide +kernel
abbrev c_Model_qid : ByteArray := prog_14_method_21_code
def y_Model_qid : MethodName := ⟨"EpochServerModel", "qid", "(II)V"⟩
theorem d_Model_qid_0 : decode c_Model_qid 0 = .ok (.iload_n 1, 1) := by decide +kernel
theorem d_Model_qid_1 : decode c_Model_qid 1 = .ok (.iload_n 2, 1) := by decide +kernel
theorem d_Model_qid_2 : decode c_Model_qid 2 = .ok (.invokestatic 96, 3) := by decide +kernel
theorem d_Model_qid_5 : decode c_Model_qid 5 = .ok (.istore_n 3, 1) := by decide +kernel
theorem d_Model_qid_6 : decode c_Model_qid 6 = .ok (.aload_n 0, 1) := by decide +kernel
theorem d_Model_qid_7 : decode c_Model_qid 7 = .ok (.aload_n 0, 1) := by decide +kernel
theorem d_Model_qid_8 : decode c_Model_qid 8 = .ok (.iload_n 3, 1) := by decide +kernel
theorem d_Model_qid_9 : decode c_Model_qid 9 = .ok (.invokevirtual 230, 3) := by decide +kernel
theorem d_Model_qid_12 : decode c_Model_qid 12 = .ok (.ifCond .eq 9, 3) := by decide +kernel
theorem d_Model_qid_15 : decode c_Model_qid 15 = .ok (.ldc2_w 233, 3) := by decide +kernel
theorem d_Model_qid_18 : decode c_Model_qid 18 = .ok (.goto 4, 3) := by decide +kernel
theorem d_Model_qid_21 : decode c_Model_qid 21 = .ok (.lconst 0, 1) := by decide +kernel
theorem d_Model_qid_22 : decode c_Model_qid 22 = .ok (.iconst 1, 1) := by decide +kernel
theorem d_Model_qid_23 : decode c_Model_qid 23 = .ok (.invokevirtual 212, 3) := by decide +kernel
theorem d_Model_qid_26 : decode c_Model_qid 26 = .ok (.aload_n 0, 1) := by decide +kernel
theorem d_Model_qid_27 : decode c_Model_qid 27 = .ok (.aload_n 0, 1) := by decide +kernel
theorem d_Model_qid_28 : decode c_Model_qid 28 = .ok (.getfield 20, 3) := by decide +kernel
theorem d_Model_qid_31 : decode c_Model_qid 31 = .ok (.iload_n 3, 1) := by decide +kernel
theorem d_Model_qid_32 : decode c_Model_qid 32 = .ok (.iaload, 1) := by decide +kernel
theorem d_Model_qid_33 : decode c_Model_qid 33 = .ok (.i2l, 1) := by decide +kernel
theorem d_Model_qid_34 : decode c_Model_qid 34 = .ok (.iconst 4, 1) := by decide +kernel
theorem d_Model_qid_35 : decode c_Model_qid 35 = .ok (.invokevirtual 212, 3) := by decide +kernel
theorem d_Model_qid_38 : decode c_Model_qid 38 = .ok (.aload_n 0, 1) := by decide +kernel
theorem d_Model_qid_39 : decode c_Model_qid 39 = .ok (.iload_n 2, 1) := by decide +kernel
theorem d_Model_qid_40 : decode c_Model_qid 40 = .ok (.i2l, 1) := by decide +kernel
theorem d_Model_qid_41 : decode c_Model_qid 41 = .ok (.bipush 8, 2) := by decide +kernel
theorem d_Model_qid_43 : decode c_Model_qid 43 = .ok (.invokevirtual 212, 3) := by decide +kernel
theorem d_Model_qid_46 : decode c_Model_qid 46 = .ok (.return_, 1) := by decide +kernel
abbrev c_Model_stat : ByteArray := prog_14_method_22_code
def y_Model_stat : MethodName := ⟨"EpochServerModel", "stat", "(II)V"⟩
theorem d_Model_stat_0 : decode c_Model_stat 0 = .ok (.iload_n 1, 1) := by decide +kernel
theorem d_Model_stat_1 : decode c_Model_stat 1 = .ok (.iload_n 2, 1) := by decide +kernel
theorem d_Model_stat_2 : decode c_Model_stat 2 = .ok (.invokestatic 96, 3) := by decide +kernel
theorem d_Model_stat_5 : decode c_Model_stat 5 = .ok (.istore_n 3, 1) := by decide +kernel
theorem d_Model_stat_6 : decode c_Model_stat 6 = .ok (.aload_n 0, 1) := by decide +kernel
theorem d_Model_stat_7 : decode c_Model_stat 7 = .ok (.bipush 50, 2) := by decide +kernel
theorem d_Model_stat_9 : decode c_Model_stat 9 = .ok (.aload_n 0, 1) := by decide +kernel
theorem d_Model_stat_10 : decode c_Model_stat 10 = .ok (.getfield 29, 3) := by decide +kernel
theorem d_Model_stat_13 : decode c_Model_stat 13 = .ok (.iload_n 3, 1) := by decide +kernel
theorem d_Model_stat_14 : decode c_Model_stat 14 = .ok (.iaload, 1) := by decide +kernel
theorem d_Model_stat_15 : decode c_Model_stat 15 = .ok (.iadd, 1) := by decide +kernel
theorem d_Model_stat_16 : decode c_Model_stat 16 = .ok (.i2l, 1) := by decide +kernel
theorem d_Model_stat_17 : decode c_Model_stat 17 = .ok (.iconst 2, 1) := by decide +kernel
theorem d_Model_stat_18 : decode c_Model_stat 18 = .ok (.invokevirtual 212, 3) := by decide +kernel
theorem d_Model_stat_21 : decode c_Model_stat 21 = .ok (.aload_n 0, 1) := by decide +kernel
theorem d_Model_stat_22 : decode c_Model_stat 22 = .ok (.lconst 0, 1) := by decide +kernel
theorem d_Model_stat_23 : decode c_Model_stat 23 = .ok (.bipush 6, 2) := by decide +kernel
theorem d_Model_stat_25 : decode c_Model_stat 25 = .ok (.invokevirtual 212, 3) := by decide +kernel
theorem d_Model_stat_28 : decode c_Model_stat 28 = .ok (.aload_n 0, 1) := by decide +kernel
theorem d_Model_stat_29 : decode c_Model_stat 29 = .ok (.iload_n 1, 1) := by decide +kernel
theorem d_Model_stat_30 : decode c_Model_stat 30 = .ok (.iload_n 2, 1) := by decide +kernel
theorem d_Model_stat_31 : decode c_Model_stat 31 = .ok (.invokevirtual 235, 3) := by decide +kernel
theorem d_Model_stat_34 : decode c_Model_stat 34 = .ok (.aload_n 0, 1) := by decide +kernel
theorem d_Model_stat_35 : decode c_Model_stat 35 = .ok (.aload_n 0, 1) := by decide +kernel
theorem d_Model_stat_36 : decode c_Model_stat 36 = .ok (.getfield 17, 3) := by decide +kernel
theorem d_Model_stat_39 : decode c_Model_stat 39 = .ok (.iload_n 3, 1) := by decide +kernel
theorem d_Model_stat_40 : decode c_Model_stat 40 = .ok (.iaload, 1) := by decide +kernel
theorem d_Model_stat_41 : decode c_Model_stat 41 = .ok (.i2l, 1) := by decide +kernel
theorem d_Model_stat_42 : decode c_Model_stat 42 = .ok (.iconst 4, 1) := by decide +kernel
theorem d_Model_stat_43 : decode c_Model_stat 43 = .ok (.invokevirtual 212, 3) := by decide +kernel
theorem d_Model_stat_46 : decode c_Model_stat 46 = .ok (.aload_n 0, 1) := by decide +kernel
theorem d_Model_stat_47 : decode c_Model_stat 47 = .ok (.aload_n 0, 1) := by decide +kernel
theorem d_Model_stat_48 : decode c_Model_stat 48 = .ok (.getfield 23, 3) := by decide +kernel
theorem d_Model_stat_51 : decode c_Model_stat 51 = .ok (.iload_n 3, 1) := by decide +kernel
theorem d_Model_stat_52 : decode c_Model_stat 52 = .ok (.iaload, 1) := by decide +kernel
theorem d_Model_stat_53 : decode c_Model_stat 53 = .ok (.i2l, 1) := by decide +kernel
theorem d_Model_stat_54 : decode c_Model_stat 54 = .ok (.iconst 4, 1) := by decide +kernel
theorem d_Model_stat_55 : decode c_Model_stat 55 = .ok (.invokevirtual 212, 3) := by decide +kernel
theorem d_Model_stat_58 : decode c_Model_stat 58 = .ok (.aload_n 0, 1) := by decide +kernel
theorem d_Model_stat_59 : decode c_Model_stat 59 = .ok (.aload_n 0, 1) := by decide +kernel
theorem d_Model_stat_60 : decode c_Model_stat 60 = .ok (.getfield 23, 3) := by decide +kernel
theorem d_Model_stat_63 : decode c_Model_stat 63 = .ok (.iload_n 3, 1) := by decide +kernel
theorem d_Model_stat_64 : decode c_Model_stat 64 = .ok (.iaload, 1) := by decide +kernel
theorem d_Model_stat_65 : decode c_Model_stat 65 = .ok (.i2l, 1) := by decide +kernel
theorem d_Model_stat_66 : decode c_Model_stat 66 = .ok (.iconst 4, 1) := by decide +kernel
theorem d_Model_stat_67 : decode c_Model_stat 67 = .ok (.invokevirtual 212, 3) := by decide +kernel
theorem d_Model_stat_70 : decode c_Model_stat 70 = .ok (.aload_n 0, 1) := by decide +kernel
theorem d_Model_stat_71 : decode c_Model_stat 71 = .ok (.aload_n 0, 1) := by decide +kernel
theorem d_Model_stat_72 : decode c_Model_stat 72 = .ok (.iload_n 3, 1) := by decide +kernel
theorem d_Model_stat_73 : decode c_Model_stat 73 = .ok (.invokevirtual 230, 3) := by decide +kernel
theorem d_Model_stat_76 : decode c_Model_stat 76 = .ok (.ifCond .eq 7, 3) := by decide +kernel
theorem d_Model_stat_79 : decode c_Model_stat 79 = .ok (.lconst 0, 1) := by decide +kernel
theorem d_Model_stat_80 : decode c_Model_stat 80 = .ok (.goto 10, 3) := by decide +kernel
theorem d_Model_stat_83 : decode c_Model_stat 83 = .ok (.aload_n 0, 1) := by decide +kernel
theorem d_Model_stat_84 : decode c_Model_stat 84 = .ok (.getfield 26, 3) := by decide +kernel
theorem d_Model_stat_87 : decode c_Model_stat 87 = .ok (.iload_n 3, 1) := by decide +kernel
theorem d_Model_stat_88 : decode c_Model_stat 88 = .ok (.iaload, 1) := by decide +kernel
theorem d_Model_stat_89 : decode c_Model_stat 89 = .ok (.i2l, 1) := by decide +kernel
theorem d_Model_stat_90 : decode c_Model_stat 90 = .ok (.bipush 8, 2) := by decide +kernel
theorem d_Model_stat_92 : decode c_Model_stat 92 = .ok (.invokevirtual 212, 3) := by decide +kernel
theorem d_Model_stat_95 : decode c_Model_stat 95 = .ok (.aload_n 0, 1) := by decide +kernel
theorem d_Model_stat_96 : decode c_Model_stat 96 = .ok (.aload_n 0, 1) := by decide +kernel
theorem d_Model_stat_97 : decode c_Model_stat 97 = .ok (.getfield 29, 3) := by decide +kernel
theorem d_Model_stat_100 : decode c_Model_stat 100 = .ok (.iload_n 3, 1) := by decide +kernel
theorem d_Model_stat_101 : decode c_Model_stat 101 = .ok (.iaload, 1) := by decide +kernel
theorem d_Model_stat_102 : decode c_Model_stat 102 = .ok (.i2l, 1) := by decide +kernel
theorem d_Model_stat_103 : decode c_Model_stat 103 = .ok (.iconst 2, 1) := by decide +kernel
theorem d_Model_stat_104 : decode c_Model_stat 104 = .ok (.invokevirtual 212, 3) := by decide +kernel
theorem d_Model_stat_107 : decode c_Model_stat 107 = .ok (.iconst 0, 1) := by decide +kernel
theorem d_Model_stat_108 : decode c_Model_stat 108 = .ok (.istore 4, 2) := by decide +kernel
theorem d_Model_stat_110 : decode c_Model_stat 110 = .ok (.iload 4, 2) := by decide +kernel
theorem d_Model_stat_112 : decode c_Model_stat 112 = .ok (.aload_n 0, 1) := by decide +kernel
theorem d_Model_stat_113 : decode c_Model_stat 113 = .ok (.getfield 29, 3) := by decide +kernel
theorem d_Model_stat_116 : decode c_Model_stat 116 = .ok (.iload_n 3, 1) := by decide +kernel
theorem d_Model_stat_117 : decode c_Model_stat 117 = .ok (.iaload, 1) := by decide +kernel
theorem d_Model_stat_118 : decode c_Model_stat 118 = .ok (.if_icmp .ge 27, 3) := by decide +kernel
theorem d_Model_stat_121 : decode c_Model_stat 121 = .ok (.aload_n 0, 1) := by decide +kernel
theorem d_Model_stat_122 : decode c_Model_stat 122 = .ok (.aload_n 0, 1) := by decide +kernel
theorem d_Model_stat_123 : decode c_Model_stat 123 = .ok (.getfield 33, 3) := by decide +kernel
theorem d_Model_stat_126 : decode c_Model_stat 126 = .ok (.bipush 20, 2) := by decide +kernel
theorem d_Model_stat_128 : decode c_Model_stat 128 = .ok (.iload_n 3, 1) := by decide +kernel
theorem d_Model_stat_129 : decode c_Model_stat 129 = .ok (.imul, 1) := by decide +kernel
theorem d_Model_stat_130 : decode c_Model_stat 130 = .ok (.iload 4, 2) := by decide +kernel
theorem d_Model_stat_132 : decode c_Model_stat 132 = .ok (.iadd, 1) := by decide +kernel
theorem d_Model_stat_133 : decode c_Model_stat 133 = .ok (.iaload, 1) := by decide +kernel
theorem d_Model_stat_134 : decode c_Model_stat 134 = .ok (.i2l, 1) := by decide +kernel
theorem d_Model_stat_135 : decode c_Model_stat 135 = .ok (.iconst 1, 1) := by decide +kernel
theorem d_Model_stat_136 : decode c_Model_stat 136 = .ok (.invokevirtual 212, 3) := by decide +kernel
theorem d_Model_stat_139 : decode c_Model_stat 139 = .ok (.iinc 4 1, 3) := by decide +kernel
theorem d_Model_stat_142 : decode c_Model_stat 142 = .ok (.goto (-32), 3) := by decide +kernel
theorem d_Model_stat_145 : decode c_Model_stat 145 = .ok (.iconst 0, 1) := by decide +kernel
theorem d_Model_stat_146 : decode c_Model_stat 146 = .ok (.istore 4, 2) := by decide +kernel
theorem d_Model_stat_148 : decode c_Model_stat 148 = .ok (.iload 4, 2) := by decide +kernel
theorem d_Model_stat_150 : decode c_Model_stat 150 = .ok (.iconst 3, 1) := by decide +kernel
theorem d_Model_stat_151 : decode c_Model_stat 151 = .ok (.if_icmp .ge 23, 3) := by decide +kernel
theorem d_Model_stat_154 : decode c_Model_stat 154 = .ok (.aload_n 0, 1) := by decide +kernel
theorem d_Model_stat_155 : decode c_Model_stat 155 = .ok (.lconst 1, 1) := by decide +kernel
theorem d_Model_stat_156 : decode c_Model_stat 156 = .ok (.iconst 2, 1) := by decide +kernel
theorem d_Model_stat_157 : decode c_Model_stat 157 = .ok (.invokevirtual 212, 3) := by decide +kernel
theorem d_Model_stat_160 : decode c_Model_stat 160 = .ok (.aload_n 0, 1) := by decide +kernel
theorem d_Model_stat_161 : decode c_Model_stat 161 = .ok (.ldc2_w 238, 3) := by decide +kernel
theorem d_Model_stat_164 : decode c_Model_stat 164 = .ok (.iconst 1, 1) := by decide +kernel
theorem d_Model_stat_165 : decode c_Model_stat 165 = .ok (.invokevirtual 212, 3) := by decide +kernel
theorem d_Model_stat_168 : decode c_Model_stat 168 = .ok (.iinc 4 1, 3) := by decide +kernel
theorem d_Model_stat_171 : decode c_Model_stat 171 = .ok (.goto (-23), 3) := by decide +kernel
theorem d_Model_stat_174 : decode c_Model_stat 174 = .ok (.return_, 1) := by decide +kernel
abbrev c_Model_fidOf : ByteArray := prog_14_method_23_code
def y_Model_fidOf : MethodName := ⟨"EpochServerModel", "fidOf", "(I)I"⟩
theorem d_Model_fidOf_0 : decode c_Model_fidOf 0 = .ok (.iconst 0, 1) := by decide +kernel
theorem d_Model_fidOf_1 : decode c_Model_fidOf 1 = .ok (.istore_n 2, 1) := by decide +kernel
theorem d_Model_fidOf_2 : decode c_Model_fidOf 2 = .ok (.iload_n 2, 1) := by decide +kernel
theorem d_Model_fidOf_3 : decode c_Model_fidOf 3 = .ok (.aload_n 0, 1) := by decide +kernel
theorem d_Model_fidOf_4 : decode c_Model_fidOf 4 = .ok (.getfield 240, 3) := by decide +kernel
theorem d_Model_fidOf_7 : decode c_Model_fidOf 7 = .ok (.if_icmp .ge 21, 3) := by decide +kernel
theorem d_Model_fidOf_10 : decode c_Model_fidOf 10 = .ok (.aload_n 0, 1) := by decide +kernel
theorem d_Model_fidOf_11 : decode c_Model_fidOf 11 = .ok (.getfield 50, 3) := by decide +kernel
theorem d_Model_fidOf_14 : decode c_Model_fidOf 14 = .ok (.iload_n 2, 1) := by decide +kernel
theorem d_Model_fidOf_15 : decode c_Model_fidOf 15 = .ok (.iaload, 1) := by decide +kernel
theorem d_Model_fidOf_16 : decode c_Model_fidOf 16 = .ok (.iload_n 1, 1) := by decide +kernel
theorem d_Model_fidOf_17 : decode c_Model_fidOf 17 = .ok (.if_icmp .ne 5, 3) := by decide +kernel
theorem d_Model_fidOf_20 : decode c_Model_fidOf 20 = .ok (.iload_n 2, 1) := by decide +kernel
theorem d_Model_fidOf_21 : decode c_Model_fidOf 21 = .ok (.ireturn, 1) := by decide +kernel
theorem d_Model_fidOf_22 : decode c_Model_fidOf 22 = .ok (.iinc 2 1, 3) := by decide +kernel
theorem d_Model_fidOf_25 : decode c_Model_fidOf 25 = .ok (.goto (-23), 3) := by decide +kernel
theorem d_Model_fidOf_28 : decode c_Model_fidOf 28 = .ok (.iconst (-1), 1) := by decide +kernel
theorem d_Model_fidOf_29 : decode c_Model_fidOf 29 = .ok (.ireturn, 1) := by decide +kernel
abbrev c_Model_gone : ByteArray := prog_14_method_24_code
def y_Model_gone : MethodName := ⟨"EpochServerModel", "gone", "(I)V"⟩
theorem d_Model_gone_0 : decode c_Model_gone 0 = .ok (.aload_n 0, 1) := by decide +kernel
theorem d_Model_gone_1 : decode c_Model_gone 1 = .ok (.dup, 1) := by decide +kernel
theorem d_Model_gone_2 : decode c_Model_gone 2 = .ok (.getfield 240, 3) := by decide +kernel
theorem d_Model_gone_5 : decode c_Model_gone 5 = .ok (.iconst 1, 1) := by decide +kernel
theorem d_Model_gone_6 : decode c_Model_gone 6 = .ok (.isub, 1) := by decide +kernel
theorem d_Model_gone_7 : decode c_Model_gone 7 = .ok (.putfield 240, 3) := by decide +kernel
theorem d_Model_gone_10 : decode c_Model_gone 10 = .ok (.iload_n 1, 1) := by decide +kernel
theorem d_Model_gone_11 : decode c_Model_gone 11 = .ok (.istore_n 2, 1) := by decide +kernel
theorem d_Model_gone_12 : decode c_Model_gone 12 = .ok (.iload_n 2, 1) := by decide +kernel
theorem d_Model_gone_13 : decode c_Model_gone 13 = .ok (.aload_n 0, 1) := by decide +kernel
theorem d_Model_gone_14 : decode c_Model_gone 14 = .ok (.getfield 240, 3) := by decide +kernel
theorem d_Model_gone_17 : decode c_Model_gone 17 = .ok (.if_icmp .ge 93, 3) := by decide +kernel
theorem d_Model_gone_20 : decode c_Model_gone 20 = .ok (.aload_n 0, 1) := by decide +kernel
theorem d_Model_gone_21 : decode c_Model_gone 21 = .ok (.getfield 50, 3) := by decide +kernel
theorem d_Model_gone_24 : decode c_Model_gone 24 = .ok (.iload_n 2, 1) := by decide +kernel
theorem d_Model_gone_25 : decode c_Model_gone 25 = .ok (.aload_n 0, 1) := by decide +kernel
theorem d_Model_gone_26 : decode c_Model_gone 26 = .ok (.getfield 50, 3) := by decide +kernel
theorem d_Model_gone_29 : decode c_Model_gone 29 = .ok (.iload_n 2, 1) := by decide +kernel
theorem d_Model_gone_30 : decode c_Model_gone 30 = .ok (.iconst 1, 1) := by decide +kernel
theorem d_Model_gone_31 : decode c_Model_gone 31 = .ok (.iadd, 1) := by decide +kernel
theorem d_Model_gone_32 : decode c_Model_gone 32 = .ok (.iaload, 1) := by decide +kernel
theorem d_Model_gone_33 : decode c_Model_gone 33 = .ok (.iastore, 1) := by decide +kernel
theorem d_Model_gone_34 : decode c_Model_gone 34 = .ok (.aload_n 0, 1) := by decide +kernel
theorem d_Model_gone_35 : decode c_Model_gone 35 = .ok (.getfield 53, 3) := by decide +kernel
theorem d_Model_gone_38 : decode c_Model_gone 38 = .ok (.iload_n 2, 1) := by decide +kernel
theorem d_Model_gone_39 : decode c_Model_gone 39 = .ok (.aload_n 0, 1) := by decide +kernel
theorem d_Model_gone_40 : decode c_Model_gone 40 = .ok (.getfield 53, 3) := by decide +kernel
theorem d_Model_gone_43 : decode c_Model_gone 43 = .ok (.iload_n 2, 1) := by decide +kernel
theorem d_Model_gone_44 : decode c_Model_gone 44 = .ok (.iconst 1, 1) := by decide +kernel
theorem d_Model_gone_45 : decode c_Model_gone 45 = .ok (.iadd, 1) := by decide +kernel
theorem d_Model_gone_46 : decode c_Model_gone 46 = .ok (.iaload, 1) := by decide +kernel
theorem d_Model_gone_47 : decode c_Model_gone 47 = .ok (.iastore, 1) := by decide +kernel
theorem d_Model_gone_48 : decode c_Model_gone 48 = .ok (.aload_n 0, 1) := by decide +kernel
theorem d_Model_gone_49 : decode c_Model_gone 49 = .ok (.getfield 56, 3) := by decide +kernel
theorem d_Model_gone_52 : decode c_Model_gone 52 = .ok (.iload_n 2, 1) := by decide +kernel
theorem d_Model_gone_53 : decode c_Model_gone 53 = .ok (.aload_n 0, 1) := by decide +kernel
theorem d_Model_gone_54 : decode c_Model_gone 54 = .ok (.getfield 56, 3) := by decide +kernel
theorem d_Model_gone_57 : decode c_Model_gone 57 = .ok (.iload_n 2, 1) := by decide +kernel
theorem d_Model_gone_58 : decode c_Model_gone 58 = .ok (.iconst 1, 1) := by decide +kernel
theorem d_Model_gone_59 : decode c_Model_gone 59 = .ok (.iadd, 1) := by decide +kernel
theorem d_Model_gone_60 : decode c_Model_gone 60 = .ok (.iaload, 1) := by decide +kernel
theorem d_Model_gone_61 : decode c_Model_gone 61 = .ok (.iastore, 1) := by decide +kernel
theorem d_Model_gone_62 : decode c_Model_gone 62 = .ok (.aload_n 0, 1) := by decide +kernel
theorem d_Model_gone_63 : decode c_Model_gone 63 = .ok (.getfield 59, 3) := by decide +kernel
theorem d_Model_gone_66 : decode c_Model_gone 66 = .ok (.iload_n 2, 1) := by decide +kernel
theorem d_Model_gone_67 : decode c_Model_gone 67 = .ok (.aload_n 0, 1) := by decide +kernel
theorem d_Model_gone_68 : decode c_Model_gone 68 = .ok (.getfield 59, 3) := by decide +kernel
theorem d_Model_gone_71 : decode c_Model_gone 71 = .ok (.iload_n 2, 1) := by decide +kernel
theorem d_Model_gone_72 : decode c_Model_gone 72 = .ok (.iconst 1, 1) := by decide +kernel
theorem d_Model_gone_73 : decode c_Model_gone 73 = .ok (.iadd, 1) := by decide +kernel
theorem d_Model_gone_74 : decode c_Model_gone 74 = .ok (.iaload, 1) := by decide +kernel
theorem d_Model_gone_75 : decode c_Model_gone 75 = .ok (.iastore, 1) := by decide +kernel
theorem d_Model_gone_76 : decode c_Model_gone 76 = .ok (.aload_n 0, 1) := by decide +kernel
theorem d_Model_gone_77 : decode c_Model_gone 77 = .ok (.getfield 62, 3) := by decide +kernel
theorem d_Model_gone_80 : decode c_Model_gone 80 = .ok (.iload_n 2, 1) := by decide +kernel
theorem d_Model_gone_81 : decode c_Model_gone 81 = .ok (.aload_n 0, 1) := by decide +kernel
theorem d_Model_gone_82 : decode c_Model_gone 82 = .ok (.getfield 62, 3) := by decide +kernel
theorem d_Model_gone_85 : decode c_Model_gone 85 = .ok (.iload_n 2, 1) := by decide +kernel
theorem d_Model_gone_86 : decode c_Model_gone 86 = .ok (.iconst 1, 1) := by decide +kernel
theorem d_Model_gone_87 : decode c_Model_gone 87 = .ok (.iadd, 1) := by decide +kernel
theorem d_Model_gone_88 : decode c_Model_gone 88 = .ok (.iaload, 1) := by decide +kernel
theorem d_Model_gone_89 : decode c_Model_gone 89 = .ok (.iastore, 1) := by decide +kernel
theorem d_Model_gone_90 : decode c_Model_gone 90 = .ok (.aload_n 0, 1) := by decide +kernel
theorem d_Model_gone_91 : decode c_Model_gone 91 = .ok (.getfield 65, 3) := by decide +kernel
theorem d_Model_gone_94 : decode c_Model_gone 94 = .ok (.iload_n 2, 1) := by decide +kernel
theorem d_Model_gone_95 : decode c_Model_gone 95 = .ok (.aload_n 0, 1) := by decide +kernel
theorem d_Model_gone_96 : decode c_Model_gone 96 = .ok (.getfield 65, 3) := by decide +kernel
theorem d_Model_gone_99 : decode c_Model_gone 99 = .ok (.iload_n 2, 1) := by decide +kernel
theorem d_Model_gone_100 : decode c_Model_gone 100 = .ok (.iconst 1, 1) := by decide +kernel
theorem d_Model_gone_101 : decode c_Model_gone 101 = .ok (.iadd, 1) := by decide +kernel
theorem d_Model_gone_102 : decode c_Model_gone 102 = .ok (.iaload, 1) := by decide +kernel
theorem d_Model_gone_103 : decode c_Model_gone 103 = .ok (.iastore, 1) := by decide +kernel
theorem d_Model_gone_104 : decode c_Model_gone 104 = .ok (.iinc 2 1, 3) := by decide +kernel
theorem d_Model_gone_107 : decode c_Model_gone 107 = .ok (.goto (-95), 3) := by decide +kernel
theorem d_Model_gone_110 : decode c_Model_gone 110 = .ok (.return_, 1) := by decide +kernel
abbrev c_Model_place : ByteArray := prog_14_method_25_code
def y_Model_place : MethodName := ⟨"EpochServerModel", "place", "(IIII)V"⟩
theorem d_Model_place_0 : decode c_Model_place 0 = .ok (.aload_n 0, 1) := by decide +kernel
theorem d_Model_place_1 : decode c_Model_place 1 = .ok (.getfield 50, 3) := by decide +kernel
theorem d_Model_place_4 : decode c_Model_place 4 = .ok (.iload_n 1, 1) := by decide +kernel
theorem d_Model_place_5 : decode c_Model_place 5 = .ok (.iload_n 2, 1) := by decide +kernel
theorem d_Model_place_6 : decode c_Model_place 6 = .ok (.iastore, 1) := by decide +kernel
theorem d_Model_place_7 : decode c_Model_place 7 = .ok (.aload_n 0, 1) := by decide +kernel
theorem d_Model_place_8 : decode c_Model_place 8 = .ok (.getfield 53, 3) := by decide +kernel
theorem d_Model_place_11 : decode c_Model_place 11 = .ok (.iload_n 1, 1) := by decide +kernel
theorem d_Model_place_12 : decode c_Model_place 12 = .ok (.iload_n 3, 1) := by decide +kernel
theorem d_Model_place_13 : decode c_Model_place 13 = .ok (.iastore, 1) := by decide +kernel
theorem d_Model_place_14 : decode c_Model_place 14 = .ok (.aload_n 0, 1) := by decide +kernel
theorem d_Model_place_15 : decode c_Model_place 15 = .ok (.getfield 56, 3) := by decide +kernel
theorem d_Model_place_18 : decode c_Model_place 18 = .ok (.iload_n 1, 1) := by decide +kernel
theorem d_Model_place_19 : decode c_Model_place 19 = .ok (.iload 4, 2) := by decide +kernel
theorem d_Model_place_21 : decode c_Model_place 21 = .ok (.iastore, 1) := by decide +kernel
theorem d_Model_place_22 : decode c_Model_place 22 = .ok (.aload_n 0, 1) := by decide +kernel
theorem d_Model_place_23 : decode c_Model_place 23 = .ok (.getfield 59, 3) := by decide +kernel
theorem d_Model_place_26 : decode c_Model_place 26 = .ok (.iload_n 1, 1) := by decide +kernel
theorem d_Model_place_27 : decode c_Model_place 27 = .ok (.iconst (-1), 1) := by decide +kernel
theorem d_Model_place_28 : decode c_Model_place 28 = .ok (.iastore, 1) := by decide +kernel
theorem d_Model_place_29 : decode c_Model_place 29 = .ok (.aload_n 0, 1) := by decide +kernel
theorem d_Model_place_30 : decode c_Model_place 30 = .ok (.getfield 62, 3) := by decide +kernel
theorem d_Model_place_33 : decode c_Model_place 33 = .ok (.iload_n 1, 1) := by decide +kernel
theorem d_Model_place_34 : decode c_Model_place 34 = .ok (.iconst 0, 1) := by decide +kernel
theorem d_Model_place_35 : decode c_Model_place 35 = .ok (.iastore, 1) := by decide +kernel
theorem d_Model_place_36 : decode c_Model_place 36 = .ok (.aload_n 0, 1) := by decide +kernel
theorem d_Model_place_37 : decode c_Model_place 37 = .ok (.getfield 65, 3) := by decide +kernel
theorem d_Model_place_40 : decode c_Model_place 40 = .ok (.iload_n 1, 1) := by decide +kernel
theorem d_Model_place_41 : decode c_Model_place 41 = .ok (.iconst (-1), 1) := by decide +kernel
theorem d_Model_place_42 : decode c_Model_place 42 = .ok (.iastore, 1) := by decide +kernel
theorem d_Model_place_43 : decode c_Model_place 43 = .ok (.return_, 1) := by decide +kernel
abbrev c_Model_isLost : ByteArray := prog_14_method_26_code
def y_Model_isLost : MethodName := ⟨"EpochServerModel", "isLost", "(I)Z"⟩
theorem d_Model_isLost_0 : decode c_Model_isLost 0 = .ok (.aload_n 0, 1) := by decide +kernel
theorem d_Model_isLost_1 : decode c_Model_isLost 1 = .ok (.getfield 53, 3) := by decide +kernel
theorem d_Model_isLost_4 : decode c_Model_isLost 4 = .ok (.iload_n 1, 1) := by decide +kernel
theorem d_Model_isLost_5 : decode c_Model_isLost 5 = .ok (.iaload, 1) := by decide +kernel
theorem d_Model_isLost_6 : decode c_Model_isLost 6 = .ok (.ifCond .ne 25, 3) := by decide +kernel
theorem d_Model_isLost_9 : decode c_Model_isLost 9 = .ok (.aload_n 0, 1) := by decide +kernel
theorem d_Model_isLost_10 : decode c_Model_isLost 10 = .ok (.getfield 9, 3) := by decide +kernel
theorem d_Model_isLost_13 : decode c_Model_isLost 13 = .ok (.iconst 0, 1) := by decide +kernel
theorem d_Model_isLost_14 : decode c_Model_isLost 14 = .ok (.aload_n 0, 1) := by decide +kernel
theorem d_Model_isLost_15 : decode c_Model_isLost 15 = .ok (.getfield 56, 3) := by decide +kernel
theorem d_Model_isLost_18 : decode c_Model_isLost 18 = .ok (.iload_n 1, 1) := by decide +kernel
theorem d_Model_isLost_19 : decode c_Model_isLost 19 = .ok (.iaload, 1) := by decide +kernel
theorem d_Model_isLost_20 : decode c_Model_isLost 20 = .ok (.invokestatic 96, 3) := by decide +kernel
theorem d_Model_isLost_23 : decode c_Model_isLost 23 = .ok (.baload, 1) := by decide +kernel
theorem d_Model_isLost_24 : decode c_Model_isLost 24 = .ok (.ifCond .ne 7, 3) := by decide +kernel
theorem d_Model_isLost_27 : decode c_Model_isLost 27 = .ok (.iconst 1, 1) := by decide +kernel
theorem d_Model_isLost_28 : decode c_Model_isLost 28 = .ok (.goto 4, 3) := by decide +kernel
theorem d_Model_isLost_31 : decode c_Model_isLost 31 = .ok (.iconst 0, 1) := by decide +kernel
theorem d_Model_isLost_32 : decode c_Model_isLost 32 = .ok (.ireturn, 1) := by decide +kernel
abbrev c_Model_does : ByteArray := prog_14_method_27_code
def y_Model_does : MethodName := ⟨"EpochServerModel", "does", "(I)V"⟩
theorem d_Model_does_0 : decode c_Model_does 0 = .ok (.iload_n 1, 1) := by decide +kernel
theorem d_Model_does_1 : decode c_Model_does 1 = .ok (.bipush 100, 2) := by decide +kernel
theorem d_Model_does_3 : decode c_Model_does 3 = .ok (.if_icmp .ne 8, 3) := by decide +kernel
theorem d_Model_does_6 : decode c_Model_does 6 = .ok (.aload_n 0, 1) := by decide +kernel
theorem d_Model_does_7 : decode c_Model_does 7 = .ok (.invokevirtual 243, 3) := by decide +kernel
theorem d_Model_does_10 : decode c_Model_does 10 = .ok (.return_, 1) := by decide +kernel
theorem d_Model_does_11 : decode c_Model_does 11 = .ok (.aload_n 0, 1) := by decide +kernel
theorem d_Model_does_12 : decode c_Model_does 12 = .ok (.aload_n 0, 1) := by decide +kernel
theorem d_Model_does_13 : decode c_Model_does 13 = .ok (.getfield 246, 3) := by decide +kernel
theorem d_Model_does_16 : decode c_Model_does 16 = .ok (.ifCond .ne 7, 3) := by decide +kernel
theorem d_Model_does_19 : decode c_Model_does 19 = .ok (.iconst 1, 1) := by decide +kernel
theorem d_Model_does_20 : decode c_Model_does 20 = .ok (.goto 4, 3) := by decide +kernel
theorem d_Model_does_23 : decode c_Model_does 23 = .ok (.iconst 0, 1) := by decide +kernel
theorem d_Model_does_24 : decode c_Model_does 24 = .ok (.iconst 1, 1) := by decide +kernel
theorem d_Model_does_25 : decode c_Model_does 25 = .ok (.invokevirtual 249, 3) := by decide +kernel
theorem d_Model_does_28 : decode c_Model_does 28 = .ok (.ifCond .eq 4, 3) := by decide +kernel
theorem d_Model_does_31 : decode c_Model_does 31 = .ok (.return_, 1) := by decide +kernel
theorem d_Model_does_32 : decode c_Model_does 32 = .ok (.iload_n 1, 1) := by decide +kernel
theorem d_Model_does_33 : decode c_Model_does 33 = .ok (.bipush 102, 2) := by decide +kernel
theorem d_Model_does_35 : decode c_Model_does 35 = .ok (.if_icmp .ne 9, 3) := by decide +kernel
theorem d_Model_does_38 : decode c_Model_does 38 = .ok (.aload_n 0, 1) := by decide +kernel
theorem d_Model_does_39 : decode c_Model_does 39 = .ok (.iconst 3, 1) := by decide +kernel
theorem d_Model_does_40 : decode c_Model_does 40 = .ok (.putfield 200, 3) := by decide +kernel
theorem d_Model_does_43 : decode c_Model_does 43 = .ok (.return_, 1) := by decide +kernel
theorem d_Model_does_44 : decode c_Model_does 44 = .ok (.iload_n 1, 1) := by decide +kernel
theorem d_Model_does_45 : decode c_Model_does 45 = .ok (.bipush 108, 2) := by decide +kernel
theorem d_Model_does_47 : decode c_Model_does 47 = .ok (.if_icmp .ne 4, 3) := by decide +kernel
theorem d_Model_does_50 : decode c_Model_does 50 = .ok (.return_, 1) := by decide +kernel
theorem d_Model_does_51 : decode c_Model_does 51 = .ok (.iload_n 1, 1) := by decide +kernel
theorem d_Model_does_52 : decode c_Model_does 52 = .ok (.bipush 104, 2) := by decide +kernel
theorem d_Model_does_54 : decode c_Model_does 54 = .ok (.if_icmp .ne 8, 3) := by decide +kernel
theorem d_Model_does_57 : decode c_Model_does 57 = .ok (.aload_n 0, 1) := by decide +kernel
theorem d_Model_does_58 : decode c_Model_does 58 = .ok (.invokevirtual 253, 3) := by decide +kernel
theorem d_Model_does_61 : decode c_Model_does 61 = .ok (.return_, 1) := by decide +kernel
theorem d_Model_does_62 : decode c_Model_does 62 = .ok (.aload_n 0, 1) := by decide +kernel
theorem d_Model_does_63 : decode c_Model_does 63 = .ok (.aload_n 0, 1) := by decide +kernel
theorem d_Model_does_64 : decode c_Model_does 64 = .ok (.getfield 147, 3) := by decide +kernel
theorem d_Model_does_67 : decode c_Model_does 67 = .ok (.invokevirtual 256, 3) := by decide +kernel
theorem d_Model_does_70 : decode c_Model_does 70 = .ok (.istore_n 2, 1) := by decide +kernel
theorem d_Model_does_71 : decode c_Model_does 71 = .ok (.aload_n 0, 1) := by decide +kernel
theorem d_Model_does_72 : decode c_Model_does 72 = .ok (.iload_n 2, 1) := by decide +kernel
theorem d_Model_does_73 : decode c_Model_does 73 = .ok (.ifCond .ge 7, 3) := by decide +kernel
theorem d_Model_does_76 : decode c_Model_does 76 = .ok (.iconst 1, 1) := by decide +kernel
theorem d_Model_does_77 : decode c_Model_does 77 = .ok (.goto 4, 3) := by decide +kernel
theorem d_Model_does_80 : decode c_Model_does 80 = .ok (.iconst 0, 1) := by decide +kernel
theorem d_Model_does_81 : decode c_Model_does 81 = .ok (.iconst 2, 1) := by decide +kernel
theorem d_Model_does_82 : decode c_Model_does 82 = .ok (.invokevirtual 249, 3) := by decide +kernel
theorem d_Model_does_85 : decode c_Model_does 85 = .ok (.ifCond .eq 4, 3) := by decide +kernel
theorem d_Model_does_88 : decode c_Model_does 88 = .ok (.return_, 1) := by decide +kernel
theorem d_Model_does_89 : decode c_Model_does 89 = .ok (.aload_n 0, 1) := by decide +kernel
theorem d_Model_does_90 : decode c_Model_does 90 = .ok (.iload_n 2, 1) := by decide +kernel
theorem d_Model_does_91 : decode c_Model_does 91 = .ok (.invokevirtual 260, 3) := by decide +kernel
theorem d_Model_does_94 : decode c_Model_does 94 = .ok (.istore_n 3, 1) := by decide +kernel
theorem d_Model_does_95 : decode c_Model_does 95 = .ok (.iload_n 1, 1) := by decide +kernel
theorem d_Model_does_96 : decode c_Model_does 96 = .ok (.bipush 122, 2) := by decide +kernel
theorem d_Model_does_98 : decode c_Model_does 98 = .ok (.if_icmp .ne 10, 3) := by decide +kernel
theorem d_Model_does_101 : decode c_Model_does 101 = .ok (.aload_n 0, 1) := by decide +kernel
theorem d_Model_does_102 : decode c_Model_does 102 = .ok (.iload_n 2, 1) := by decide +kernel
theorem d_Model_does_103 : decode c_Model_does 103 = .ok (.iload_n 3, 1) := by decide +kernel
theorem d_Model_does_104 : decode c_Model_does 104 = .ok (.invokevirtual 263, 3) := by decide +kernel
theorem d_Model_does_107 : decode c_Model_does 107 = .ok (.return_, 1) := by decide +kernel
theorem d_Model_does_108 : decode c_Model_does 108 = .ok (.iload_n 1, 1) := by decide +kernel
theorem d_Model_does_109 : decode c_Model_does 109 = .ok (.bipush 120, 2) := by decide +kernel
theorem d_Model_does_111 : decode c_Model_does 111 = .ok (.if_icmp .ne 68, 3) := by decide +kernel
theorem d_Model_does_114 : decode c_Model_does 114 = .ok (.iload_n 3, 1) := by decide +kernel
theorem d_Model_does_115 : decode c_Model_does 115 = .ok (.ifCond .ne 36, 3) := by decide +kernel
theorem d_Model_does_118 : decode c_Model_does 118 = .ok (.aload_n 0, 1) := by decide +kernel
theorem d_Model_does_119 : decode c_Model_does 119 = .ok (.getfield 59, 3) := by decide +kernel
theorem d_Model_does_122 : decode c_Model_does 122 = .ok (.iload_n 2, 1) := by decide +kernel
theorem d_Model_does_123 : decode c_Model_does 123 = .ok (.iaload, 1) := by decide +kernel
theorem d_Model_does_124 : decode c_Model_does 124 = .ok (.ifCond .lt 27, 3) := by decide +kernel
theorem d_Model_does_127 : decode c_Model_does 127 = .ok (.aload_n 0, 1) := by decide +kernel
theorem d_Model_does_128 : decode c_Model_does 128 = .ok (.getfield 59, 3) := by decide +kernel
theorem d_Model_does_131 : decode c_Model_does 131 = .ok (.iload_n 2, 1) := by decide +kernel
theorem d_Model_does_132 : decode c_Model_does 132 = .ok (.iaload, 1) := by decide +kernel
theorem d_Model_does_133 : decode c_Model_does 133 = .ok (.bipush 64, 2) := by decide +kernel
theorem d_Model_does_135 : decode c_Model_does 135 = .ok (.iand, 1) := by decide +kernel
theorem d_Model_does_136 : decode c_Model_does 136 = .ok (.ifCond .eq 15, 3) := by decide +kernel
theorem d_Model_does_139 : decode c_Model_does 139 = .ok (.aload_n 0, 1) := by decide +kernel
theorem d_Model_does_140 : decode c_Model_does 140 = .ok (.iload_n 2, 1) := by decide +kernel
theorem d_Model_does_141 : decode c_Model_does 141 = .ok (.invokevirtual 267, 3) := by decide +kernel
theorem d_Model_does_144 : decode c_Model_does 144 = .ok (.ifCond .ne 7, 3) := by decide +kernel
theorem d_Model_does_147 : decode c_Model_does 147 = .ok (.iconst 1, 1) := by decide +kernel
theorem d_Model_does_148 : decode c_Model_does 148 = .ok (.goto 4, 3) := by decide +kernel
theorem d_Model_does_151 : decode c_Model_does 151 = .ok (.iconst 0, 1) := by decide +kernel
theorem d_Model_does_152 : decode c_Model_does 152 = .ok (.istore 4, 2) := by decide +kernel
theorem d_Model_does_154 : decode c_Model_does 154 = .ok (.aload_n 0, 1) := by decide +kernel
theorem d_Model_does_155 : decode c_Model_does 155 = .ok (.getfield 56, 3) := by decide +kernel
theorem d_Model_does_158 : decode c_Model_does 158 = .ok (.iload_n 2, 1) := by decide +kernel
theorem d_Model_does_159 : decode c_Model_does 159 = .ok (.iaload, 1) := by decide +kernel
theorem d_Model_does_160 : decode c_Model_does 160 = .ok (.istore 5, 2) := by decide +kernel
theorem d_Model_does_162 : decode c_Model_does 162 = .ok (.aload_n 0, 1) := by decide +kernel
theorem d_Model_does_163 : decode c_Model_does 163 = .ok (.iload_n 2, 1) := by decide +kernel
theorem d_Model_does_164 : decode c_Model_does 164 = .ok (.invokevirtual 270, 3) := by decide +kernel
theorem d_Model_does_167 : decode c_Model_does 167 = .ok (.iload 4, 2) := by decide +kernel
theorem d_Model_does_169 : decode c_Model_does 169 = .ok (.ifCond .eq 9, 3) := by decide +kernel
theorem d_Model_does_172 : decode c_Model_does 172 = .ok (.aload_n 0, 1) := by decide +kernel
theorem d_Model_does_173 : decode c_Model_does 173 = .ok (.iload 5, 2) := by decide +kernel
theorem d_Model_does_175 : decode c_Model_does 175 = .ok (.invokevirtual 273, 3) := by decide +kernel
theorem d_Model_does_178 : decode c_Model_does 178 = .ok (.return_, 1) := by decide +kernel
theorem d_Model_does_179 : decode c_Model_does 179 = .ok (.aload_n 0, 1) := by decide +kernel
theorem d_Model_does_180 : decode c_Model_does 180 = .ok (.iload_n 3, 1) := by decide +kernel
theorem d_Model_does_181 : decode c_Model_does 181 = .ok (.iconst 4, 1) := by decide +kernel
theorem d_Model_does_182 : decode c_Model_does 182 = .ok (.invokevirtual 249, 3) := by decide +kernel
theorem d_Model_does_185 : decode c_Model_does 185 = .ok (.ifCond .eq 4, 3) := by decide +kernel
theorem d_Model_does_188 : decode c_Model_does 188 = .ok (.return_, 1) := by decide +kernel
theorem d_Model_does_189 : decode c_Model_does 189 = .ok (.iload_n 1, 1) := by decide +kernel
theorem d_Model_does_190 : decode c_Model_does 190 = .ok (.tableswitch 149 110 124 #[74, 149, 80, 149, 86, 149, 92, 149, 98, 149, 149, 149, 149, 149, 104], 74) := by decide +kernel
theorem d_Model_does_264 : decode c_Model_does 264 = .ok (.aload_n 0, 1) := by decide +kernel
theorem d_Model_does_265 : decode c_Model_does 265 = .ok (.iload_n 2, 1) := by decide +kernel
theorem d_Model_does_266 : decode c_Model_does 266 = .ok (.invokevirtual 276, 3) := by decide +kernel
theorem d_Model_does_269 : decode c_Model_does 269 = .ok (.return_, 1) := by decide +kernel
theorem d_Model_does_270 : decode c_Model_does 270 = .ok (.aload_n 0, 1) := by decide +kernel
theorem d_Model_does_271 : decode c_Model_does 271 = .ok (.iload_n 2, 1) := by decide +kernel
theorem d_Model_does_272 : decode c_Model_does 272 = .ok (.invokevirtual 279, 3) := by decide +kernel
theorem d_Model_does_275 : decode c_Model_does 275 = .ok (.return_, 1) := by decide +kernel
theorem d_Model_does_276 : decode c_Model_does 276 = .ok (.aload_n 0, 1) := by decide +kernel
theorem d_Model_does_277 : decode c_Model_does 277 = .ok (.iload_n 2, 1) := by decide +kernel
theorem d_Model_does_278 : decode c_Model_does 278 = .ok (.invokevirtual 282, 3) := by decide +kernel
theorem d_Model_does_281 : decode c_Model_does 281 = .ok (.return_, 1) := by decide +kernel
theorem d_Model_does_282 : decode c_Model_does 282 = .ok (.aload_n 0, 1) := by decide +kernel
theorem d_Model_does_283 : decode c_Model_does 283 = .ok (.iload_n 2, 1) := by decide +kernel
theorem d_Model_does_284 : decode c_Model_does 284 = .ok (.invokevirtual 285, 3) := by decide +kernel
theorem d_Model_does_287 : decode c_Model_does 287 = .ok (.return_, 1) := by decide +kernel
theorem d_Model_does_288 : decode c_Model_does 288 = .ok (.aload_n 0, 1) := by decide +kernel
theorem d_Model_does_289 : decode c_Model_does 289 = .ok (.iload_n 2, 1) := by decide +kernel
theorem d_Model_does_290 : decode c_Model_does 290 = .ok (.invokevirtual 288, 3) := by decide +kernel
theorem d_Model_does_293 : decode c_Model_does 293 = .ok (.return_, 1) := by decide +kernel
theorem d_Model_does_294 : decode c_Model_does 294 = .ok (.aload_n 0, 1) := by decide +kernel
theorem d_Model_does_295 : decode c_Model_does 295 = .ok (.lconst 0, 1) := by decide +kernel
theorem d_Model_does_296 : decode c_Model_does 296 = .ok (.iconst 2, 1) := by decide +kernel
theorem d_Model_does_297 : decode c_Model_does 297 = .ok (.invokevirtual 212, 3) := by decide +kernel
theorem d_Model_does_300 : decode c_Model_does 300 = .ok (.aload_n 0, 1) := by decide +kernel
theorem d_Model_does_301 : decode c_Model_does 301 = .ok (.getfield 197, 3) := by decide +kernel
theorem d_Model_does_304 : decode c_Model_does 304 = .ok (.istore 4, 2) := by decide +kernel
theorem d_Model_does_306 : decode c_Model_does 306 = .ok (.aload_n 0, 1) := by decide +kernel
theorem d_Model_does_307 : decode c_Model_does 307 = .ok (.aload_n 0, 1) := by decide +kernel
theorem d_Model_does_308 : decode c_Model_does 308 = .ok (.getfield 53, 3) := by decide +kernel
theorem d_Model_does_311 : decode c_Model_does 311 = .ok (.iload_n 2, 1) := by decide +kernel
theorem d_Model_does_312 : decode c_Model_does 312 = .ok (.iaload, 1) := by decide +kernel
theorem d_Model_does_313 : decode c_Model_does 313 = .ok (.aload_n 0, 1) := by decide +kernel
theorem d_Model_does_314 : decode c_Model_does 314 = .ok (.getfield 56, 3) := by decide +kernel
theorem d_Model_does_317 : decode c_Model_does 317 = .ok (.iload_n 2, 1) := by decide +kernel
theorem d_Model_does_318 : decode c_Model_does 318 = .ok (.iaload, 1) := by decide +kernel
theorem d_Model_does_319 : decode c_Model_does 319 = .ok (.invokevirtual 291, 3) := by decide +kernel
theorem d_Model_does_322 : decode c_Model_does 322 = .ok (.aload_n 0, 1) := by decide +kernel
theorem d_Model_does_323 : decode c_Model_does 323 = .ok (.getfield 47, 3) := by decide +kernel
theorem d_Model_does_326 : decode c_Model_does 326 = .ok (.iload 4, 2) := by decide +kernel
theorem d_Model_does_328 : decode c_Model_does 328 = .ok (.iconst 2, 1) := by decide +kernel
theorem d_Model_does_329 : decode c_Model_does 329 = .ok (.isub, 1) := by decide +kernel
theorem d_Model_does_330 : decode c_Model_does 330 = .ok (.aload_n 0, 1) := by decide +kernel
theorem d_Model_does_331 : decode c_Model_does 331 = .ok (.getfield 197, 3) := by decide +kernel
theorem d_Model_does_334 : decode c_Model_does 334 = .ok (.iload 4, 2) := by decide +kernel
theorem d_Model_does_336 : decode c_Model_does 336 = .ok (.isub, 1) := by decide +kernel
theorem d_Model_does_337 : decode c_Model_does 337 = .ok (.iastore, 1) := by decide +kernel
theorem d_Model_does_338 : decode c_Model_does 338 = .ok (.return_, 1) := by decide +kernel
theorem d_Model_does_339 : decode c_Model_does 339 = .ok (.aload_n 0, 1) := by decide +kernel
theorem d_Model_does_340 : decode c_Model_does 340 = .ok (.iload_n 2, 1) := by decide +kernel
theorem d_Model_does_341 : decode c_Model_does 341 = .ok (.invokevirtual 294, 3) := by decide +kernel
theorem d_Model_does_344 : decode c_Model_does 344 = .ok (.return_, 1) := by decide +kernel
abbrev c_Model_versions : ByteArray := prog_14_method_28_code
def y_Model_versions : MethodName := ⟨"EpochServerModel", "versions", "()V"⟩
theorem d_Model_versions_0 : decode c_Model_versions 0 = .ok (.aload_n 0, 1) := by decide +kernel
theorem d_Model_versions_1 : decode c_Model_versions 1 = .ok (.iconst 0, 1) := by decide +kernel
theorem d_Model_versions_2 : decode c_Model_versions 2 = .ok (.putfield 240, 3) := by decide +kernel
theorem d_Model_versions_5 : decode c_Model_versions 5 = .ok (.aload_n 0, 1) := by decide +kernel
theorem d_Model_versions_6 : decode c_Model_versions 6 = .ok (.iconst 0, 1) := by decide +kernel
theorem d_Model_versions_7 : decode c_Model_versions 7 = .ok (.putfield 246, 3) := by decide +kernel
theorem d_Model_versions_10 : decode c_Model_versions 10 = .ok (.aload_n 0, 1) := by decide +kernel
theorem d_Model_versions_11 : decode c_Model_versions 11 = .ok (.aload_n 0, 1) := by decide +kernel
theorem d_Model_versions_12 : decode c_Model_versions 12 = .ok (.getfield 134, 3) := by decide +kernel
theorem d_Model_versions_15 : decode c_Model_versions 15 = .ok (.ldc2_w 297, 3) := by decide +kernel
theorem d_Model_versions_18 : decode c_Model_versions 18 = .ok (.lcmp, 1) := by decide +kernel
theorem d_Model_versions_19 : decode c_Model_versions 19 = .ok (.ifCond .ge 7, 3) := by decide +kernel
theorem d_Model_versions_22 : decode c_Model_versions 22 = .ok (.iconst 1, 1) := by decide +kernel
theorem d_Model_versions_23 : decode c_Model_versions 23 = .ok (.goto 4, 3) := by decide +kernel
theorem d_Model_versions_26 : decode c_Model_versions 26 = .ok (.iconst 0, 1) := by decide +kernel
theorem d_Model_versions_27 : decode c_Model_versions 27 = .ok (.iconst 3, 1) := by decide +kernel
theorem d_Model_versions_28 : decode c_Model_versions 28 = .ok (.invokevirtual 249, 3) := by decide +kernel
theorem d_Model_versions_31 : decode c_Model_versions 31 = .ok (.ifCond .eq 4, 3) := by decide +kernel
theorem d_Model_versions_34 : decode c_Model_versions 34 = .ok (.return_, 1) := by decide +kernel
theorem d_Model_versions_35 : decode c_Model_versions 35 = .ok (.aload_n 0, 1) := by decide +kernel
theorem d_Model_versions_36 : decode c_Model_versions 36 = .ok (.getfield 134, 3) := by decide +kernel
theorem d_Model_versions_39 : decode c_Model_versions 39 = .ok (.ldc2_w 299, 3) := by decide +kernel
theorem d_Model_versions_42 : decode c_Model_versions 42 = .ok (.lcmp, 1) := by decide +kernel
theorem d_Model_versions_43 : decode c_Model_versions 43 = .ok (.ifCond .le 9, 3) := by decide +kernel
theorem d_Model_versions_46 : decode c_Model_versions 46 = .ok (.sipush 1000, 3) := by decide +kernel
theorem d_Model_versions_49 : decode c_Model_versions 49 = .ok (.goto 8, 3) := by decide +kernel
theorem d_Model_versions_52 : decode c_Model_versions 52 = .ok (.aload_n 0, 1) := by decide +kernel
theorem d_Model_versions_53 : decode c_Model_versions 53 = .ok (.getfield 134, 3) := by decide +kernel
theorem d_Model_versions_56 : decode c_Model_versions 56 = .ok (.l2i, 1) := by decide +kernel
theorem d_Model_versions_57 : decode c_Model_versions 57 = .ok (.istore_n 1, 1) := by decide +kernel
theorem d_Model_versions_58 : decode c_Model_versions 58 = .ok (.aload_n 0, 1) := by decide +kernel
theorem d_Model_versions_59 : decode c_Model_versions 59 = .ok (.getfield 144, 3) := by decide +kernel
theorem d_Model_versions_62 : decode c_Model_versions 62 = .ok (.bipush 6, 2) := by decide +kernel
theorem d_Model_versions_64 : decode c_Model_versions 64 = .ok (.if_icmp .lt 7, 3) := by decide +kernel
theorem d_Model_versions_67 : decode c_Model_versions 67 = .ok (.iconst 1, 1) := by decide +kernel
theorem d_Model_versions_68 : decode c_Model_versions 68 = .ok (.goto 4, 3) := by decide +kernel
theorem d_Model_versions_71 : decode c_Model_versions 71 = .ok (.iconst 0, 1) := by decide +kernel
theorem d_Model_versions_72 : decode c_Model_versions 72 = .ok (.istore_n 2, 1) := by decide +kernel
theorem d_Model_versions_73 : decode c_Model_versions 73 = .ok (.iconst 0, 1) := by decide +kernel
theorem d_Model_versions_74 : decode c_Model_versions 74 = .ok (.istore_n 3, 1) := by decide +kernel
theorem d_Model_versions_75 : decode c_Model_versions 75 = .ok (.iload_n 3, 1) := by decide +kernel
theorem d_Model_versions_76 : decode c_Model_versions 76 = .ok (.bipush 6, 2) := by decide +kernel
theorem d_Model_versions_78 : decode c_Model_versions 78 = .ok (.if_icmp .ge 40, 3) := by decide +kernel
theorem d_Model_versions_81 : decode c_Model_versions 81 = .ok (.iload_n 2, 1) := by decide +kernel
theorem d_Model_versions_82 : decode c_Model_versions 82 = .ok (.ifCond .eq 36, 3) := by decide +kernel
theorem d_Model_versions_85 : decode c_Model_versions 85 = .ok (.aload_n 0, 1) := by decide +kernel
theorem d_Model_versions_86 : decode c_Model_versions 86 = .ok (.getfield 44, 3) := by decide +kernel
theorem d_Model_versions_89 : decode c_Model_versions 89 = .ok (.aload_n 0, 1) := by decide +kernel
theorem d_Model_versions_90 : decode c_Model_versions 90 = .ok (.getfield 141, 3) := by decide +kernel
theorem d_Model_versions_93 : decode c_Model_versions 93 = .ok (.iload_n 3, 1) := by decide +kernel
theorem d_Model_versions_94 : decode c_Model_versions 94 = .ok (.iadd, 1) := by decide +kernel
theorem d_Model_versions_95 : decode c_Model_versions 95 = .ok (.iaload, 1) := by decide +kernel
theorem d_Model_versions_96 : decode c_Model_versions 96 = .ok (.ldc_w 301, 3) := by decide +kernel
theorem d_Model_versions_99 : decode c_Model_versions 99 = .ok (.iload_n 3, 1) := by decide +kernel
theorem d_Model_versions_100 : decode c_Model_versions 100 = .ok (.invokevirtual 303, 3) := by decide +kernel
theorem d_Model_versions_103 : decode c_Model_versions 103 = .ok (.if_icmp .ne 7, 3) := by decide +kernel
theorem d_Model_versions_106 : decode c_Model_versions 106 = .ok (.iconst 1, 1) := by decide +kernel
theorem d_Model_versions_107 : decode c_Model_versions 107 = .ok (.goto 4, 3) := by decide +kernel
theorem d_Model_versions_110 : decode c_Model_versions 110 = .ok (.iconst 0, 1) := by decide +kernel
theorem d_Model_versions_111 : decode c_Model_versions 111 = .ok (.istore_n 2, 1) := by decide +kernel
theorem d_Model_versions_112 : decode c_Model_versions 112 = .ok (.iinc 3 1, 3) := by decide +kernel
theorem d_Model_versions_115 : decode c_Model_versions 115 = .ok (.goto (-40), 3) := by decide +kernel
theorem d_Model_versions_118 : decode c_Model_versions 118 = .ok (.aload_n 0, 1) := by decide +kernel
theorem d_Model_versions_119 : decode c_Model_versions 119 = .ok (.iload_n 1, 1) := by decide +kernel
theorem d_Model_versions_120 : decode c_Model_versions 120 = .ok (.i2l, 1) := by decide +kernel
theorem d_Model_versions_121 : decode c_Model_versions 121 = .ok (.iconst 4, 1) := by decide +kernel
theorem d_Model_versions_122 : decode c_Model_versions 122 = .ok (.invokevirtual 212, 3) := by decide +kernel
theorem d_Model_versions_125 : decode c_Model_versions 125 = .ok (.aload_n 0, 1) := by decide +kernel
theorem d_Model_versions_126 : decode c_Model_versions 126 = .ok (.iload_n 2, 1) := by decide +kernel
theorem d_Model_versions_127 : decode c_Model_versions 127 = .ok (.ifCond .eq 9, 3) := by decide +kernel
theorem d_Model_versions_130 : decode c_Model_versions 130 = .ok (.ldc2_w 309, 3) := by decide +kernel
theorem d_Model_versions_133 : decode c_Model_versions 133 = .ok (.goto 6, 3) := by decide +kernel
theorem d_Model_versions_136 : decode c_Model_versions 136 = .ok (.ldc2_w 311, 3) := by decide +kernel
theorem d_Model_versions_139 : decode c_Model_versions 139 = .ok (.iconst 2, 1) := by decide +kernel
theorem d_Model_versions_140 : decode c_Model_versions 140 = .ok (.invokevirtual 212, 3) := by decide +kernel
theorem d_Model_versions_143 : decode c_Model_versions 143 = .ok (.iconst 0, 1) := by decide +kernel
theorem d_Model_versions_144 : decode c_Model_versions 144 = .ok (.istore_n 3, 1) := by decide +kernel
theorem d_Model_versions_145 : decode c_Model_versions 145 = .ok (.iload_n 3, 1) := by decide +kernel
theorem d_Model_versions_146 : decode c_Model_versions 146 = .ok (.iload_n 2, 1) := by decide +kernel
theorem d_Model_versions_147 : decode c_Model_versions 147 = .ok (.ifCond .eq 8, 3) := by decide +kernel
theorem d_Model_versions_150 : decode c_Model_versions 150 = .ok (.bipush 6, 2) := by decide +kernel
theorem d_Model_versions_152 : decode c_Model_versions 152 = .ok (.goto 5, 3) := by decide +kernel
theorem d_Model_versions_155 : decode c_Model_versions 155 = .ok (.bipush 7, 2) := by decide +kernel
theorem d_Model_versions_157 : decode c_Model_versions 157 = .ok (.if_icmp .ge 37, 3) := by decide +kernel
theorem d_Model_versions_160 : decode c_Model_versions 160 = .ok (.aload_n 0, 1) := by decide +kernel
theorem d_Model_versions_161 : decode c_Model_versions 161 = .ok (.iload_n 2, 1) := by decide +kernel
theorem d_Model_versions_162 : decode c_Model_versions 162 = .ok (.ifCond .eq 14, 3) := by decide +kernel
theorem d_Model_versions_165 : decode c_Model_versions 165 = .ok (.ldc_w 301, 3) := by decide +kernel
theorem d_Model_versions_168 : decode c_Model_versions 168 = .ok (.iload_n 3, 1) := by decide +kernel
theorem d_Model_versions_169 : decode c_Model_versions 169 = .ok (.invokevirtual 303, 3) := by decide +kernel
theorem d_Model_versions_172 : decode c_Model_versions 172 = .ok (.i2l, 1) := by decide +kernel
theorem d_Model_versions_173 : decode c_Model_versions 173 = .ok (.goto 11, 3) := by decide +kernel
theorem d_Model_versions_176 : decode c_Model_versions 176 = .ok (.ldc_w 313, 3) := by decide +kernel
theorem d_Model_versions_179 : decode c_Model_versions 179 = .ok (.iload_n 3, 1) := by decide +kernel
theorem d_Model_versions_180 : decode c_Model_versions 180 = .ok (.invokevirtual 303, 3) := by decide +kernel
theorem d_Model_versions_183 : decode c_Model_versions 183 = .ok (.i2l, 1) := by decide +kernel
theorem d_Model_versions_184 : decode c_Model_versions 184 = .ok (.iconst 1, 1) := by decide +kernel
theorem d_Model_versions_185 : decode c_Model_versions 185 = .ok (.invokevirtual 212, 3) := by decide +kernel
theorem d_Model_versions_188 : decode c_Model_versions 188 = .ok (.iinc 3 1, 3) := by decide +kernel
theorem d_Model_versions_191 : decode c_Model_versions 191 = .ok (.goto (-46), 3) := by decide +kernel
theorem d_Model_versions_194 : decode c_Model_versions 194 = .ok (.iload_n 2, 1) := by decide +kernel
theorem d_Model_versions_195 : decode c_Model_versions 195 = .ok (.ifCond .eq 8, 3) := by decide +kernel
theorem d_Model_versions_198 : decode c_Model_versions 198 = .ok (.aload_n 0, 1) := by decide +kernel
theorem d_Model_versions_199 : decode c_Model_versions 199 = .ok (.iload_n 1, 1) := by decide +kernel
theorem d_Model_versions_200 : decode c_Model_versions 200 = .ok (.putfield 246, 3) := by decide +kernel
theorem d_Model_versions_203 : decode c_Model_versions 203 = .ok (.return_, 1) := by decide +kernel
abbrev c_Model_attaches : ByteArray := prog_14_method_29_code
def y_Model_attaches : MethodName := ⟨"EpochServerModel", "attaches", "()V"⟩
theorem d_Model_attaches_0 : decode c_Model_attaches 0 = .ok (.aload_n 0, 1) := by decide +kernel
theorem d_Model_attaches_1 : decode c_Model_attaches 1 = .ok (.aload_n 0, 1) := by decide +kernel
theorem d_Model_attaches_2 : decode c_Model_attaches 2 = .ok (.getfield 150, 3) := by decide +kernel
theorem d_Model_attaches_5 : decode c_Model_attaches 5 = .ok (.iconst (-1), 1) := by decide +kernel
theorem d_Model_attaches_6 : decode c_Model_attaches 6 = .ok (.if_icmp .eq 7, 3) := by decide +kernel
theorem d_Model_attaches_9 : decode c_Model_attaches 9 = .ok (.iconst 1, 1) := by decide +kernel
theorem d_Model_attaches_10 : decode c_Model_attaches 10 = .ok (.goto 4, 3) := by decide +kernel
theorem d_Model_attaches_13 : decode c_Model_attaches 13 = .ok (.iconst 0, 1) := by decide +kernel
theorem d_Model_attaches_14 : decode c_Model_attaches 14 = .ok (.iconst 3, 1) := by decide +kernel
theorem d_Model_attaches_15 : decode c_Model_attaches 15 = .ok (.invokevirtual 249, 3) := by decide +kernel
theorem d_Model_attaches_18 : decode c_Model_attaches 18 = .ok (.ifCond .ne 27, 3) := by decide +kernel
theorem d_Model_attaches_21 : decode c_Model_attaches 21 = .ok (.aload_n 0, 1) := by decide +kernel
theorem d_Model_attaches_22 : decode c_Model_attaches 22 = .ok (.aload_n 0, 1) := by decide +kernel
theorem d_Model_attaches_23 : decode c_Model_attaches 23 = .ok (.aload_n 0, 1) := by decide +kernel
theorem d_Model_attaches_24 : decode c_Model_attaches 24 = .ok (.getfield 147, 3) := by decide +kernel
theorem d_Model_attaches_27 : decode c_Model_attaches 27 = .ok (.invokevirtual 256, 3) := by decide +kernel
theorem d_Model_attaches_30 : decode c_Model_attaches 30 = .ok (.ifCond .lt 7, 3) := by decide +kernel
theorem d_Model_attaches_33 : decode c_Model_attaches 33 = .ok (.iconst 1, 1) := by decide +kernel
theorem d_Model_attaches_34 : decode c_Model_attaches 34 = .ok (.goto 4, 3) := by decide +kernel
theorem d_Model_attaches_37 : decode c_Model_attaches 37 = .ok (.iconst 0, 1) := by decide +kernel
theorem d_Model_attaches_38 : decode c_Model_attaches 38 = .ok (.iconst 5, 1) := by decide +kernel
theorem d_Model_attaches_39 : decode c_Model_attaches 39 = .ok (.invokevirtual 249, 3) := by decide +kernel
theorem d_Model_attaches_42 : decode c_Model_attaches 42 = .ok (.ifCond .eq 4, 3) := by decide +kernel
theorem d_Model_attaches_45 : decode c_Model_attaches 45 = .ok (.return_, 1) := by decide +kernel
theorem d_Model_attaches_46 : decode c_Model_attaches 46 = .ok (.iconst (-1), 1) := by decide +kernel
theorem d_Model_attaches_47 : decode c_Model_attaches 47 = .ok (.istore_n 1, 1) := by decide +kernel
theorem d_Model_attaches_48 : decode c_Model_attaches 48 = .ok (.aload_n 0, 1) := by decide +kernel
theorem d_Model_attaches_49 : decode c_Model_attaches 49 = .ok (.getfield 144, 3) := by decide +kernel
theorem d_Model_attaches_52 : decode c_Model_attaches 52 = .ok (.ifCond .ne 8, 3) := by decide +kernel
theorem d_Model_attaches_55 : decode c_Model_attaches 55 = .ok (.iconst 0, 1) := by decide +kernel
theorem d_Model_attaches_56 : decode c_Model_attaches 56 = .ok (.istore_n 1, 1) := by decide +kernel
theorem d_Model_attaches_57 : decode c_Model_attaches 57 = .ok (.goto 70, 3) := by decide +kernel
theorem d_Model_attaches_60 : decode c_Model_attaches 60 = .ok (.aload_n 0, 1) := by decide +kernel
theorem d_Model_attaches_61 : decode c_Model_attaches 61 = .ok (.getfield 144, 3) := by decide +kernel
theorem d_Model_attaches_64 : decode c_Model_attaches 64 = .ok (.iconst 2, 1) := by decide +kernel
theorem d_Model_attaches_65 : decode c_Model_attaches 65 = .ok (.if_icmp .ne 62, 3) := by decide +kernel
theorem d_Model_attaches_68 : decode c_Model_attaches 68 = .ok (.aload_n 0, 1) := by decide +kernel
theorem d_Model_attaches_69 : decode c_Model_attaches 69 = .ok (.getfield 44, 3) := by decide +kernel
theorem d_Model_attaches_72 : decode c_Model_attaches 72 = .ok (.aload_n 0, 1) := by decide +kernel
theorem d_Model_attaches_73 : decode c_Model_attaches 73 = .ok (.getfield 141, 3) := by decide +kernel
theorem d_Model_attaches_76 : decode c_Model_attaches 76 = .ok (.iaload, 1) := by decide +kernel
theorem d_Model_attaches_77 : decode c_Model_attaches 77 = .ok (.bipush 115, 2) := by decide +kernel
theorem d_Model_attaches_79 : decode c_Model_attaches 79 = .ok (.if_icmp .ne 48, 3) := by decide +kernel
theorem d_Model_attaches_82 : decode c_Model_attaches 82 = .ok (.aload_n 0, 1) := by decide +kernel
theorem d_Model_attaches_83 : decode c_Model_attaches 83 = .ok (.getfield 44, 3) := by decide +kernel
theorem d_Model_attaches_86 : decode c_Model_attaches 86 = .ok (.aload_n 0, 1) := by decide +kernel
theorem d_Model_attaches_87 : decode c_Model_attaches 87 = .ok (.getfield 141, 3) := by decide +kernel
theorem d_Model_attaches_90 : decode c_Model_attaches 90 = .ok (.iconst 1, 1) := by decide +kernel
theorem d_Model_attaches_91 : decode c_Model_attaches 91 = .ok (.iadd, 1) := by decide +kernel
theorem d_Model_attaches_92 : decode c_Model_attaches 92 = .ok (.iaload, 1) := by decide +kernel
theorem d_Model_attaches_93 : decode c_Model_attaches 93 = .ok (.bipush 48, 2) := by decide +kernel
theorem d_Model_attaches_95 : decode c_Model_attaches 95 = .ok (.isub, 1) := by decide +kernel
theorem d_Model_attaches_96 : decode c_Model_attaches 96 = .ok (.aload_n 0, 1) := by decide +kernel
theorem d_Model_attaches_97 : decode c_Model_attaches 97 = .ok (.getfield 315, 3) := by decide +kernel
theorem d_Model_attaches_100 : decode c_Model_attaches 100 = .ok (.invokestatic 110, 3) := by decide +kernel
theorem d_Model_attaches_103 : decode c_Model_attaches 103 = .ok (.ifCond .eq 22, 3) := by decide +kernel
theorem d_Model_attaches_106 : decode c_Model_attaches 106 = .ok (.iconst 1, 1) := by decide +kernel
theorem d_Model_attaches_107 : decode c_Model_attaches 107 = .ok (.aload_n 0, 1) := by decide +kernel
theorem d_Model_attaches_108 : decode c_Model_attaches 108 = .ok (.getfield 44, 3) := by decide +kernel
theorem d_Model_attaches_111 : decode c_Model_attaches 111 = .ok (.aload_n 0, 1) := by decide +kernel
theorem d_Model_attaches_112 : decode c_Model_attaches 112 = .ok (.getfield 141, 3) := by decide +kernel
theorem d_Model_attaches_115 : decode c_Model_attaches 115 = .ok (.iconst 1, 1) := by decide +kernel
theorem d_Model_attaches_116 : decode c_Model_attaches 116 = .ok (.iadd, 1) := by decide +kernel
theorem d_Model_attaches_117 : decode c_Model_attaches 117 = .ok (.iaload, 1) := by decide +kernel
theorem d_Model_attaches_118 : decode c_Model_attaches 118 = .ok (.iadd, 1) := by decide +kernel
theorem d_Model_attaches_119 : decode c_Model_attaches 119 = .ok (.bipush 48, 2) := by decide +kernel
theorem d_Model_attaches_121 : decode c_Model_attaches 121 = .ok (.isub, 1) := by decide +kernel
theorem d_Model_attaches_122 : decode c_Model_attaches 122 = .ok (.goto 4, 3) := by decide +kernel
theorem d_Model_attaches_125 : decode c_Model_attaches 125 = .ok (.iconst (-1), 1) := by decide +kernel
theorem d_Model_attaches_126 : decode c_Model_attaches 126 = .ok (.istore_n 1, 1) := by decide +kernel
theorem d_Model_attaches_127 : decode c_Model_attaches 127 = .ok (.aload_n 0, 1) := by decide +kernel
theorem d_Model_attaches_128 : decode c_Model_attaches 128 = .ok (.iload_n 1, 1) := by decide +kernel
theorem d_Model_attaches_129 : decode c_Model_attaches 129 = .ok (.ifCond .ge 7, 3) := by decide +kernel
theorem d_Model_attaches_132 : decode c_Model_attaches 132 = .ok (.iconst 1, 1) := by decide +kernel
theorem d_Model_attaches_133 : decode c_Model_attaches 133 = .ok (.goto 4, 3) := by decide +kernel
theorem d_Model_attaches_136 : decode c_Model_attaches 136 = .ok (.iconst 0, 1) := by decide +kernel
theorem d_Model_attaches_137 : decode c_Model_attaches 137 = .ok (.bipush 6, 2) := by decide +kernel
theorem d_Model_attaches_139 : decode c_Model_attaches 139 = .ok (.invokevirtual 249, 3) := by decide +kernel
theorem d_Model_attaches_142 : decode c_Model_attaches 142 = .ok (.ifCond .ne 26, 3) := by decide +kernel
theorem d_Model_attaches_145 : decode c_Model_attaches 145 = .ok (.aload_n 0, 1) := by decide +kernel
theorem d_Model_attaches_146 : decode c_Model_attaches 146 = .ok (.aload_n 0, 1) := by decide +kernel
theorem d_Model_attaches_147 : decode c_Model_attaches 147 = .ok (.getfield 240, 3) := by decide +kernel
theorem d_Model_attaches_150 : decode c_Model_attaches 150 = .ok (.bipush 24, 2) := by decide +kernel
theorem d_Model_attaches_152 : decode c_Model_attaches 152 = .ok (.if_icmp .ne 7, 3) := by decide +kernel
theorem d_Model_attaches_155 : decode c_Model_attaches 155 = .ok (.iconst 1, 1) := by decide +kernel
theorem d_Model_attaches_156 : decode c_Model_attaches 156 = .ok (.goto 4, 3) := by decide +kernel
theorem d_Model_attaches_159 : decode c_Model_attaches 159 = .ok (.iconst 0, 1) := by decide +kernel
theorem d_Model_attaches_160 : decode c_Model_attaches 160 = .ok (.bipush 7, 2) := by decide +kernel
theorem d_Model_attaches_162 : decode c_Model_attaches 162 = .ok (.invokevirtual 249, 3) := by decide +kernel
theorem d_Model_attaches_165 : decode c_Model_attaches 165 = .ok (.ifCond .eq 4, 3) := by decide +kernel
theorem d_Model_attaches_168 : decode c_Model_attaches 168 = .ok (.return_, 1) := by decide +kernel
theorem d_Model_attaches_169 : decode c_Model_attaches 169 = .ok (.aload_n 0, 1) := by decide +kernel
theorem d_Model_attaches_170 : decode c_Model_attaches 170 = .ok (.aload_n 0, 1) := by decide +kernel
theorem d_Model_attaches_171 : decode c_Model_attaches 171 = .ok (.getfield 240, 3) := by decide +kernel
theorem d_Model_attaches_174 : decode c_Model_attaches 174 = .ok (.aload_n 0, 1) := by decide +kernel
theorem d_Model_attaches_175 : decode c_Model_attaches 175 = .ok (.getfield 147, 3) := by decide +kernel
theorem d_Model_attaches_178 : decode c_Model_attaches 178 = .ok (.iload_n 1, 1) := by decide +kernel
theorem d_Model_attaches_179 : decode c_Model_attaches 179 = .ok (.iconst 0, 1) := by decide +kernel
theorem d_Model_attaches_180 : decode c_Model_attaches 180 = .ok (.invokevirtual 318, 3) := by decide +kernel
theorem d_Model_attaches_183 : decode c_Model_attaches 183 = .ok (.aload_n 0, 1) := by decide +kernel
theorem d_Model_attaches_184 : decode c_Model_attaches 184 = .ok (.dup, 1) := by decide +kernel
theorem d_Model_attaches_185 : decode c_Model_attaches 185 = .ok (.getfield 240, 3) := by decide +kernel
theorem d_Model_attaches_188 : decode c_Model_attaches 188 = .ok (.iconst 1, 1) := by decide +kernel
theorem d_Model_attaches_189 : decode c_Model_attaches 189 = .ok (.iadd, 1) := by decide +kernel
theorem d_Model_attaches_190 : decode c_Model_attaches 190 = .ok (.putfield 240, 3) := by decide +kernel
theorem d_Model_attaches_193 : decode c_Model_attaches 193 = .ok (.aload_n 0, 1) := by decide +kernel
theorem d_Model_attaches_194 : decode c_Model_attaches 194 = .ok (.iload_n 1, 1) := by decide +kernel
theorem d_Model_attaches_195 : decode c_Model_attaches 195 = .ok (.iconst 0, 1) := by decide +kernel
theorem d_Model_attaches_196 : decode c_Model_attaches 196 = .ok (.invokevirtual 235, 3) := by decide +kernel
theorem d_Model_attaches_199 : decode c_Model_attaches 199 = .ok (.return_, 1) := by decide +kernel
abbrev c_Model_isText : ByteArray := prog_14_method_30_code
def y_Model_isText : MethodName := ⟨"EpochServerModel", "isText", "(III)Z"⟩
theorem d_Model_isText_0 : decode c_Model_isText 0 = .ok (.aload_n 0, 1) := by decide +kernel
theorem d_Model_isText_1 : decode c_Model_isText 1 = .ok (.getfield 29, 3) := by decide +kernel
theorem d_Model_isText_4 : decode c_Model_isText 4 = .ok (.iload_n 1, 1) := by decide +kernel
theorem d_Model_isText_5 : decode c_Model_isText 5 = .ok (.iaload, 1) := by decide +kernel
theorem d_Model_isText_6 : decode c_Model_isText 6 = .ok (.iload_n 3, 1) := by decide +kernel
theorem d_Model_isText_7 : decode c_Model_isText 7 = .ok (.if_icmp .ne 7, 3) := by decide +kernel
theorem d_Model_isText_10 : decode c_Model_isText 10 = .ok (.iconst 1, 1) := by decide +kernel
theorem d_Model_isText_11 : decode c_Model_isText 11 = .ok (.goto 4, 3) := by decide +kernel
theorem d_Model_isText_14 : decode c_Model_isText 14 = .ok (.iconst 0, 1) := by decide +kernel
theorem d_Model_isText_15 : decode c_Model_isText 15 = .ok (.istore 4, 2) := by decide +kernel
theorem d_Model_isText_17 : decode c_Model_isText 17 = .ok (.iconst 0, 1) := by decide +kernel
theorem d_Model_isText_18 : decode c_Model_isText 18 = .ok (.istore 5, 2) := by decide +kernel
theorem d_Model_isText_20 : decode c_Model_isText 20 = .ok (.iload 5, 2) := by decide +kernel
theorem d_Model_isText_22 : decode c_Model_isText 22 = .ok (.iload_n 3, 1) := by decide +kernel
theorem d_Model_isText_23 : decode c_Model_isText 23 = .ok (.if_icmp .ge 45, 3) := by decide +kernel
theorem d_Model_isText_26 : decode c_Model_isText 26 = .ok (.iload 4, 2) := by decide +kernel
theorem d_Model_isText_28 : decode c_Model_isText 28 = .ok (.ifCond .eq 40, 3) := by decide +kernel
theorem d_Model_isText_31 : decode c_Model_isText 31 = .ok (.aload_n 0, 1) := by decide +kernel
theorem d_Model_isText_32 : decode c_Model_isText 32 = .ok (.getfield 33, 3) := by decide +kernel
theorem d_Model_isText_35 : decode c_Model_isText 35 = .ok (.bipush 20, 2) := by decide +kernel
theorem d_Model_isText_37 : decode c_Model_isText 37 = .ok (.iload_n 1, 1) := by decide +kernel
theorem d_Model_isText_38 : decode c_Model_isText 38 = .ok (.imul, 1) := by decide +kernel
theorem d_Model_isText_39 : decode c_Model_isText 39 = .ok (.iload 5, 2) := by decide +kernel
theorem d_Model_isText_41 : decode c_Model_isText 41 = .ok (.iadd, 1) := by decide +kernel
theorem d_Model_isText_42 : decode c_Model_isText 42 = .ok (.iaload, 1) := by decide +kernel
theorem d_Model_isText_43 : decode c_Model_isText 43 = .ok (.aload_n 0, 1) := by decide +kernel
theorem d_Model_isText_44 : decode c_Model_isText 44 = .ok (.getfield 44, 3) := by decide +kernel
theorem d_Model_isText_47 : decode c_Model_isText 47 = .ok (.iload_n 2, 1) := by decide +kernel
theorem d_Model_isText_48 : decode c_Model_isText 48 = .ok (.iload 5, 2) := by decide +kernel
theorem d_Model_isText_50 : decode c_Model_isText 50 = .ok (.iadd, 1) := by decide +kernel
theorem d_Model_isText_51 : decode c_Model_isText 51 = .ok (.iaload, 1) := by decide +kernel
theorem d_Model_isText_52 : decode c_Model_isText 52 = .ok (.if_icmp .ne 7, 3) := by decide +kernel
theorem d_Model_isText_55 : decode c_Model_isText 55 = .ok (.iconst 1, 1) := by decide +kernel
theorem d_Model_isText_56 : decode c_Model_isText 56 = .ok (.goto 4, 3) := by decide +kernel
theorem d_Model_isText_59 : decode c_Model_isText 59 = .ok (.iconst 0, 1) := by decide +kernel
theorem d_Model_isText_60 : decode c_Model_isText 60 = .ok (.istore 4, 2) := by decide +kernel
theorem d_Model_isText_62 : decode c_Model_isText 62 = .ok (.iinc 5 1, 3) := by decide +kernel
theorem d_Model_isText_65 : decode c_Model_isText 65 = .ok (.goto (-45), 3) := by decide +kernel
theorem d_Model_isText_68 : decode c_Model_isText 68 = .ok (.iload 4, 2) := by decide +kernel
theorem d_Model_isText_70 : decode c_Model_isText 70 = .ok (.ireturn, 1) := by decide +kernel
abbrev c_Model_child : ByteArray := prog_14_method_31_code
def y_Model_child : MethodName := ⟨"EpochServerModel", "child", "(IIII)I"⟩
theorem d_Model_child_0 : decode c_Model_child 0 = .ok (.iconst 1, 1) := by decide +kernel
theorem d_Model_child_1 : decode c_Model_child 1 = .ok (.istore 5, 2) := by decide +kernel
theorem d_Model_child_3 : decode c_Model_child 3 = .ok (.iload 5, 2) := by decide +kernel
theorem d_Model_child_5 : decode c_Model_child 5 = .ok (.bipush 60, 2) := by decide +kernel
theorem d_Model_child_7 : decode c_Model_child 7 = .ok (.if_icmp .ge 57, 3) := by decide +kernel
theorem d_Model_child_10 : decode c_Model_child 10 = .ok (.aload_n 0, 1) := by decide +kernel
theorem d_Model_child_11 : decode c_Model_child 11 = .ok (.getfield 9, 3) := by decide +kernel
theorem d_Model_child_14 : decode c_Model_child 14 = .ok (.iload_n 1, 1) := by decide +kernel
theorem d_Model_child_15 : decode c_Model_child 15 = .ok (.iload 5, 2) := by decide +kernel
theorem d_Model_child_17 : decode c_Model_child 17 = .ok (.invokestatic 96, 3) := by decide +kernel
theorem d_Model_child_20 : decode c_Model_child 20 = .ok (.baload, 1) := by decide +kernel
theorem d_Model_child_21 : decode c_Model_child 21 = .ok (.ifCond .eq 37, 3) := by decide +kernel
theorem d_Model_child_24 : decode c_Model_child 24 = .ok (.aload_n 0, 1) := by decide +kernel
theorem d_Model_child_25 : decode c_Model_child 25 = .ok (.getfield 13, 3) := by decide +kernel
theorem d_Model_child_28 : decode c_Model_child 28 = .ok (.iload_n 1, 1) := by decide +kernel
theorem d_Model_child_29 : decode c_Model_child 29 = .ok (.iload 5, 2) := by decide +kernel
theorem d_Model_child_31 : decode c_Model_child 31 = .ok (.invokestatic 96, 3) := by decide +kernel
theorem d_Model_child_34 : decode c_Model_child 34 = .ok (.iaload, 1) := by decide +kernel
theorem d_Model_child_35 : decode c_Model_child 35 = .ok (.iload_n 2, 1) := by decide +kernel
theorem d_Model_child_36 : decode c_Model_child 36 = .ok (.if_icmp .ne 22, 3) := by decide +kernel
theorem d_Model_child_39 : decode c_Model_child 39 = .ok (.aload_n 0, 1) := by decide +kernel
theorem d_Model_child_40 : decode c_Model_child 40 = .ok (.iload_n 1, 1) := by decide +kernel
theorem d_Model_child_41 : decode c_Model_child 41 = .ok (.iload 5, 2) := by decide +kernel
theorem d_Model_child_43 : decode c_Model_child 43 = .ok (.invokestatic 96, 3) := by decide +kernel
theorem d_Model_child_46 : decode c_Model_child 46 = .ok (.iload_n 3, 1) := by decide +kernel
theorem d_Model_child_47 : decode c_Model_child 47 = .ok (.iload 4, 2) := by decide +kernel
theorem d_Model_child_49 : decode c_Model_child 49 = .ok (.invokevirtual 322, 3) := by decide +kernel
theorem d_Model_child_52 : decode c_Model_child 52 = .ok (.ifCond .eq 6, 3) := by decide +kernel
theorem d_Model_child_55 : decode c_Model_child 55 = .ok (.iload 5, 2) := by decide +kernel
theorem d_Model_child_57 : decode c_Model_child 57 = .ok (.ireturn, 1) := by decide +kernel
theorem d_Model_child_58 : decode c_Model_child 58 = .ok (.iinc 5 1, 3) := by decide +kernel
theorem d_Model_child_61 : decode c_Model_child 61 = .ok (.goto (-58), 3) := by decide +kernel
theorem d_Model_child_64 : decode c_Model_child 64 = .ok (.iconst (-1), 1) := by decide +kernel
theorem d_Model_child_65 : decode c_Model_child 65 = .ok (.ireturn, 1) := by decide +kernel
abbrev c_Model_walks : ByteArray := prog_14_method_32_code
def y_Model_walks : MethodName := ⟨"EpochServerModel", "walks", "(I)V"⟩
theorem d_Model_walks_0 : decode c_Model_walks 0 = .ok (.aload_n 0, 1) := by decide +kernel
theorem d_Model_walks_1 : decode c_Model_walks 1 = .ok (.aload_n 0, 1) := by decide +kernel
theorem d_Model_walks_2 : decode c_Model_walks 2 = .ok (.getfield 59, 3) := by decide +kernel
theorem d_Model_walks_5 : decode c_Model_walks 5 = .ok (.iload_n 1, 1) := by decide +kernel
theorem d_Model_walks_6 : decode c_Model_walks 6 = .ok (.iaload, 1) := by decide +kernel
theorem d_Model_walks_7 : decode c_Model_walks 7 = .ok (.ifCond .lt 7, 3) := by decide +kernel
theorem d_Model_walks_10 : decode c_Model_walks 10 = .ok (.iconst 1, 1) := by decide +kernel
theorem d_Model_walks_11 : decode c_Model_walks 11 = .ok (.goto 4, 3) := by decide +kernel
theorem d_Model_walks_14 : decode c_Model_walks 14 = .ok (.iconst 0, 1) := by decide +kernel
theorem d_Model_walks_15 : decode c_Model_walks 15 = .ok (.iconst 3, 1) := by decide +kernel
theorem d_Model_walks_16 : decode c_Model_walks 16 = .ok (.invokevirtual 249, 3) := by decide +kernel
theorem d_Model_walks_19 : decode c_Model_walks 19 = .ok (.ifCond .eq 4, 3) := by decide +kernel
theorem d_Model_walks_22 : decode c_Model_walks 22 = .ok (.return_, 1) := by decide +kernel
theorem d_Model_walks_23 : decode c_Model_walks 23 = .ok (.aload_n 0, 1) := by decide +kernel
theorem d_Model_walks_24 : decode c_Model_walks 24 = .ok (.aload_n 0, 1) := by decide +kernel
theorem d_Model_walks_25 : decode c_Model_walks 25 = .ok (.getfield 150, 3) := by decide +kernel
theorem d_Model_walks_28 : decode c_Model_walks 28 = .ok (.invokevirtual 256, 3) := by decide +kernel
theorem d_Model_walks_31 : decode c_Model_walks 31 = .ok (.istore_n 2, 1) := by decide +kernel
theorem d_Model_walks_32 : decode c_Model_walks 32 = .ok (.aload_n 0, 1) := by decide +kernel
theorem d_Model_walks_33 : decode c_Model_walks 33 = .ok (.iload_n 2, 1) := by decide +kernel
theorem d_Model_walks_34 : decode c_Model_walks 34 = .ok (.ifCond .lt 12, 3) := by decide +kernel
theorem d_Model_walks_37 : decode c_Model_walks 37 = .ok (.iload_n 2, 1) := by decide +kernel
theorem d_Model_walks_38 : decode c_Model_walks 38 = .ok (.iload_n 1, 1) := by decide +kernel
theorem d_Model_walks_39 : decode c_Model_walks 39 = .ok (.if_icmp .eq 7, 3) := by decide +kernel
theorem d_Model_walks_42 : decode c_Model_walks 42 = .ok (.iconst 1, 1) := by decide +kernel
theorem d_Model_walks_43 : decode c_Model_walks 43 = .ok (.goto 4, 3) := by decide +kernel
theorem d_Model_walks_46 : decode c_Model_walks 46 = .ok (.iconst 0, 1) := by decide +kernel
theorem d_Model_walks_47 : decode c_Model_walks 47 = .ok (.iconst 5, 1) := by decide +kernel
theorem d_Model_walks_48 : decode c_Model_walks 48 = .ok (.invokevirtual 249, 3) := by decide +kernel
theorem d_Model_walks_51 : decode c_Model_walks 51 = .ok (.ifCond .ne 53, 3) := by decide +kernel
theorem d_Model_walks_54 : decode c_Model_walks 54 = .ok (.aload_n 0, 1) := by decide +kernel
theorem d_Model_walks_55 : decode c_Model_walks 55 = .ok (.aload_n 0, 1) := by decide +kernel
theorem d_Model_walks_56 : decode c_Model_walks 56 = .ok (.getfield 153, 3) := by decide +kernel
theorem d_Model_walks_59 : decode c_Model_walks 59 = .ok (.bipush 16, 2) := by decide +kernel
theorem d_Model_walks_61 : decode c_Model_walks 61 = .ok (.if_icmp .le 7, 3) := by decide +kernel
theorem d_Model_walks_64 : decode c_Model_walks 64 = .ok (.iconst 1, 1) := by decide +kernel
theorem d_Model_walks_65 : decode c_Model_walks 65 = .ok (.goto 4, 3) := by decide +kernel
theorem d_Model_walks_68 : decode c_Model_walks 68 = .ok (.iconst 0, 1) := by decide +kernel
theorem d_Model_walks_69 : decode c_Model_walks 69 = .ok (.bipush 6, 2) := by decide +kernel
theorem d_Model_walks_71 : decode c_Model_walks 71 = .ok (.invokevirtual 249, 3) := by decide +kernel
theorem d_Model_walks_74 : decode c_Model_walks 74 = .ok (.ifCond .ne 30, 3) := by decide +kernel
theorem d_Model_walks_77 : decode c_Model_walks 77 = .ok (.aload_n 0, 1) := by decide +kernel
theorem d_Model_walks_78 : decode c_Model_walks 78 = .ok (.iload_n 2, 1) := by decide +kernel
theorem d_Model_walks_79 : decode c_Model_walks 79 = .ok (.ifCond .ge 16, 3) := by decide +kernel
theorem d_Model_walks_82 : decode c_Model_walks 82 = .ok (.aload_n 0, 1) := by decide +kernel
theorem d_Model_walks_83 : decode c_Model_walks 83 = .ok (.getfield 240, 3) := by decide +kernel
theorem d_Model_walks_86 : decode c_Model_walks 86 = .ok (.bipush 24, 2) := by decide +kernel
theorem d_Model_walks_88 : decode c_Model_walks 88 = .ok (.if_icmp .ne 7, 3) := by decide +kernel
theorem d_Model_walks_91 : decode c_Model_walks 91 = .ok (.iconst 1, 1) := by decide +kernel
theorem d_Model_walks_92 : decode c_Model_walks 92 = .ok (.goto 4, 3) := by decide +kernel
theorem d_Model_walks_95 : decode c_Model_walks 95 = .ok (.iconst 0, 1) := by decide +kernel
theorem d_Model_walks_96 : decode c_Model_walks 96 = .ok (.bipush 7, 2) := by decide +kernel
theorem d_Model_walks_98 : decode c_Model_walks 98 = .ok (.invokevirtual 249, 3) := by decide +kernel
theorem d_Model_walks_101 : decode c_Model_walks 101 = .ok (.ifCond .eq 4, 3) := by decide +kernel
theorem d_Model_walks_104 : decode c_Model_walks 104 = .ok (.return_, 1) := by decide +kernel
theorem d_Model_walks_105 : decode c_Model_walks 105 = .ok (.aload_n 0, 1) := by decide +kernel
theorem d_Model_walks_106 : decode c_Model_walks 106 = .ok (.getfield 53, 3) := by decide +kernel
theorem d_Model_walks_109 : decode c_Model_walks 109 = .ok (.iload_n 1, 1) := by decide +kernel
theorem d_Model_walks_110 : decode c_Model_walks 110 = .ok (.iaload, 1) := by decide +kernel
theorem d_Model_walks_111 : decode c_Model_walks 111 = .ok (.istore_n 3, 1) := by decide +kernel
theorem d_Model_walks_112 : decode c_Model_walks 112 = .ok (.aload_n 0, 1) := by decide +kernel
theorem d_Model_walks_113 : decode c_Model_walks 113 = .ok (.getfield 56, 3) := by decide +kernel
theorem d_Model_walks_116 : decode c_Model_walks 116 = .ok (.iload_n 1, 1) := by decide +kernel
theorem d_Model_walks_117 : decode c_Model_walks 117 = .ok (.iaload, 1) := by decide +kernel
theorem d_Model_walks_118 : decode c_Model_walks 118 = .ok (.istore 4, 2) := by decide +kernel
theorem d_Model_walks_120 : decode c_Model_walks 120 = .ok (.aload_n 0, 1) := by decide +kernel
theorem d_Model_walks_121 : decode c_Model_walks 121 = .ok (.lconst 0, 1) := by decide +kernel
theorem d_Model_walks_122 : decode c_Model_walks 122 = .ok (.iconst 2, 1) := by decide +kernel
theorem d_Model_walks_123 : decode c_Model_walks 123 = .ok (.invokevirtual 212, 3) := by decide +kernel
theorem d_Model_walks_126 : decode c_Model_walks 126 = .ok (.iconst 0, 1) := by decide +kernel
theorem d_Model_walks_127 : decode c_Model_walks 127 = .ok (.istore 5, 2) := by decide +kernel
theorem d_Model_walks_129 : decode c_Model_walks 129 = .ok (.iconst 0, 1) := by decide +kernel
theorem d_Model_walks_130 : decode c_Model_walks 130 = .ok (.istore 6, 2) := by decide +kernel
theorem d_Model_walks_132 : decode c_Model_walks 132 = .ok (.iload 6, 2) := by decide +kernel
theorem d_Model_walks_134 : decode c_Model_walks 134 = .ok (.aload_n 0, 1) := by decide +kernel
theorem d_Model_walks_135 : decode c_Model_walks 135 = .ok (.getfield 153, 3) := by decide +kernel
theorem d_Model_walks_138 : decode c_Model_walks 138 = .ok (.if_icmp .ge 143, 3) := by decide +kernel
theorem d_Model_walks_141 : decode c_Model_walks 141 = .ok (.iconst (-1), 1) := by decide +kernel
theorem d_Model_walks_142 : decode c_Model_walks 142 = .ok (.istore 7, 2) := by decide +kernel
theorem d_Model_walks_144 : decode c_Model_walks 144 = .ok (.aload_n 0, 1) := by decide +kernel
theorem d_Model_walks_145 : decode c_Model_walks 145 = .ok (.iload_n 3, 1) := by decide +kernel
theorem d_Model_walks_146 : decode c_Model_walks 146 = .ok (.iload 4, 2) := by decide +kernel
theorem d_Model_walks_148 : decode c_Model_walks 148 = .ok (.invokestatic 96, 3) := by decide +kernel
theorem d_Model_walks_151 : decode c_Model_walks 151 = .ok (.invokevirtual 230, 3) := by decide +kernel
theorem d_Model_walks_154 : decode c_Model_walks 154 = .ok (.ifCond .eq 99, 3) := by decide +kernel
theorem d_Model_walks_157 : decode c_Model_walks 157 = .ok (.aload_n 0, 1) := by decide +kernel
theorem d_Model_walks_158 : decode c_Model_walks 158 = .ok (.getfield 71, 3) := by decide +kernel
theorem d_Model_walks_161 : decode c_Model_walks 161 = .ok (.iload 6, 2) := by decide +kernel
theorem d_Model_walks_163 : decode c_Model_walks 163 = .ok (.iaload, 1) := by decide +kernel
theorem d_Model_walks_164 : decode c_Model_walks 164 = .ok (.iconst 2, 1) := by decide +kernel
theorem d_Model_walks_165 : decode c_Model_walks 165 = .ok (.if_icmp .ne 43, 3) := by decide +kernel
theorem d_Model_walks_168 : decode c_Model_walks 168 = .ok (.aload_n 0, 1) := by decide +kernel
theorem d_Model_walks_169 : decode c_Model_walks 169 = .ok (.getfield 44, 3) := by decide +kernel
theorem d_Model_walks_172 : decode c_Model_walks 172 = .ok (.aload_n 0, 1) := by decide +kernel
theorem d_Model_walks_173 : decode c_Model_walks 173 = .ok (.getfield 68, 3) := by decide +kernel
theorem d_Model_walks_176 : decode c_Model_walks 176 = .ok (.iload 6, 2) := by decide +kernel
theorem d_Model_walks_178 : decode c_Model_walks 178 = .ok (.iaload, 1) := by decide +kernel
theorem d_Model_walks_179 : decode c_Model_walks 179 = .ok (.iaload, 1) := by decide +kernel
theorem d_Model_walks_180 : decode c_Model_walks 180 = .ok (.bipush 46, 2) := by decide +kernel
theorem d_Model_walks_182 : decode c_Model_walks 182 = .ok (.if_icmp .ne 26, 3) := by decide +kernel
theorem d_Model_walks_185 : decode c_Model_walks 185 = .ok (.aload_n 0, 1) := by decide +kernel
theorem d_Model_walks_186 : decode c_Model_walks 186 = .ok (.getfield 44, 3) := by decide +kernel
theorem d_Model_walks_189 : decode c_Model_walks 189 = .ok (.aload_n 0, 1) := by decide +kernel
theorem d_Model_walks_190 : decode c_Model_walks 190 = .ok (.getfield 68, 3) := by decide +kernel
theorem d_Model_walks_193 : decode c_Model_walks 193 = .ok (.iload 6, 2) := by decide +kernel
theorem d_Model_walks_195 : decode c_Model_walks 195 = .ok (.iaload, 1) := by decide +kernel
theorem d_Model_walks_196 : decode c_Model_walks 196 = .ok (.iconst 1, 1) := by decide +kernel
theorem d_Model_walks_197 : decode c_Model_walks 197 = .ok (.iadd, 1) := by decide +kernel
theorem d_Model_walks_198 : decode c_Model_walks 198 = .ok (.iaload, 1) := by decide +kernel
theorem d_Model_walks_199 : decode c_Model_walks 199 = .ok (.bipush 46, 2) := by decide +kernel
theorem d_Model_walks_201 : decode c_Model_walks 201 = .ok (.if_icmp .ne 7, 3) := by decide +kernel
theorem d_Model_walks_204 : decode c_Model_walks 204 = .ok (.iconst 1, 1) := by decide +kernel
theorem d_Model_walks_205 : decode c_Model_walks 205 = .ok (.goto 4, 3) := by decide +kernel
theorem d_Model_walks_208 : decode c_Model_walks 208 = .ok (.iconst 0, 1) := by decide +kernel
theorem d_Model_walks_209 : decode c_Model_walks 209 = .ok (.istore 8, 2) := by decide +kernel
theorem d_Model_walks_211 : decode c_Model_walks 211 = .ok (.iload 8, 2) := by decide +kernel
theorem d_Model_walks_213 : decode c_Model_walks 213 = .ok (.ifCond .eq 17, 3) := by decide +kernel
theorem d_Model_walks_216 : decode c_Model_walks 216 = .ok (.aload_n 0, 1) := by decide +kernel
theorem d_Model_walks_217 : decode c_Model_walks 217 = .ok (.getfield 13, 3) := by decide +kernel
theorem d_Model_walks_220 : decode c_Model_walks 220 = .ok (.iload_n 3, 1) := by decide +kernel
theorem d_Model_walks_221 : decode c_Model_walks 221 = .ok (.iload 4, 2) := by decide +kernel
theorem d_Model_walks_223 : decode c_Model_walks 223 = .ok (.invokestatic 96, 3) := by decide +kernel
theorem d_Model_walks_226 : decode c_Model_walks 226 = .ok (.iaload, 1) := by decide +kernel
theorem d_Model_walks_227 : decode c_Model_walks 227 = .ok (.goto 24, 3) := by decide +kernel
theorem d_Model_walks_230 : decode c_Model_walks 230 = .ok (.aload_n 0, 1) := by decide +kernel
theorem d_Model_walks_231 : decode c_Model_walks 231 = .ok (.iload_n 3, 1) := by decide +kernel
theorem d_Model_walks_232 : decode c_Model_walks 232 = .ok (.iload 4, 2) := by decide +kernel
theorem d_Model_walks_234 : decode c_Model_walks 234 = .ok (.aload_n 0, 1) := by decide +kernel
theorem d_Model_walks_235 : decode c_Model_walks 235 = .ok (.getfield 68, 3) := by decide +kernel
theorem d_Model_walks_238 : decode c_Model_walks 238 = .ok (.iload 6, 2) := by decide +kernel
theorem d_Model_walks_240 : decode c_Model_walks 240 = .ok (.iaload, 1) := by decide +kernel
theorem d_Model_walks_241 : decode c_Model_walks 241 = .ok (.aload_n 0, 1) := by decide +kernel
theorem d_Model_walks_242 : decode c_Model_walks 242 = .ok (.getfield 71, 3) := by decide +kernel
theorem d_Model_walks_245 : decode c_Model_walks 245 = .ok (.iload 6, 2) := by decide +kernel
theorem d_Model_walks_247 : decode c_Model_walks 247 = .ok (.iaload, 1) := by decide +kernel
theorem d_Model_walks_248 : decode c_Model_walks 248 = .ok (.invokevirtual 326, 3) := by decide +kernel
theorem d_Model_walks_251 : decode c_Model_walks 251 = .ok (.istore 7, 2) := by decide +kernel
theorem d_Model_walks_253 : decode c_Model_walks 253 = .ok (.iload 7, 2) := by decide +kernel
theorem d_Model_walks_255 : decode c_Model_walks 255 = .ok (.ifCond .ge 6, 3) := by decide +kernel
theorem d_Model_walks_258 : decode c_Model_walks 258 = .ok (.goto 23, 3) := by decide +kernel
theorem d_Model_walks_261 : decode c_Model_walks 261 = .ok (.iload 7, 2) := by decide +kernel
theorem d_Model_walks_263 : decode c_Model_walks 263 = .ok (.istore 4, 2) := by decide +kernel
theorem d_Model_walks_265 : decode c_Model_walks 265 = .ok (.iinc 5 1, 3) := by decide +kernel
theorem d_Model_walks_268 : decode c_Model_walks 268 = .ok (.aload_n 0, 1) := by decide +kernel
theorem d_Model_walks_269 : decode c_Model_walks 269 = .ok (.iload_n 3, 1) := by decide +kernel
theorem d_Model_walks_270 : decode c_Model_walks 270 = .ok (.iload 4, 2) := by decide +kernel
theorem d_Model_walks_272 : decode c_Model_walks 272 = .ok (.invokevirtual 235, 3) := by decide +kernel
theorem d_Model_walks_275 : decode c_Model_walks 275 = .ok (.iinc 6 1, 3) := by decide +kernel
theorem d_Model_walks_278 : decode c_Model_walks 278 = .ok (.goto (-146), 3) := by decide +kernel
theorem d_Model_walks_281 : decode c_Model_walks 281 = .ok (.aload_n 0, 1) := by decide +kernel
theorem d_Model_walks_282 : decode c_Model_walks 282 = .ok (.iload 5, 2) := by decide +kernel
theorem d_Model_walks_284 : decode c_Model_walks 284 = .ok (.ifCond .ne 14, 3) := by decide +kernel
theorem d_Model_walks_287 : decode c_Model_walks 287 = .ok (.aload_n 0, 1) := by decide +kernel
theorem d_Model_walks_288 : decode c_Model_walks 288 = .ok (.getfield 153, 3) := by decide +kernel
theorem d_Model_walks_291 : decode c_Model_walks 291 = .ok (.ifCond .le 7, 3) := by decide +kernel
theorem d_Model_walks_294 : decode c_Model_walks 294 = .ok (.iconst 1, 1) := by decide +kernel
theorem d_Model_walks_295 : decode c_Model_walks 295 = .ok (.goto 4, 3) := by decide +kernel
theorem d_Model_walks_298 : decode c_Model_walks 298 = .ok (.iconst 0, 1) := by decide +kernel
theorem d_Model_walks_299 : decode c_Model_walks 299 = .ok (.bipush 8, 2) := by decide +kernel
theorem d_Model_walks_301 : decode c_Model_walks 301 = .ok (.invokevirtual 249, 3) := by decide +kernel
theorem d_Model_walks_304 : decode c_Model_walks 304 = .ok (.ifCond .eq 4, 3) := by decide +kernel
theorem d_Model_walks_307 : decode c_Model_walks 307 = .ok (.return_, 1) := by decide +kernel
theorem d_Model_walks_308 : decode c_Model_walks 308 = .ok (.aload_n 0, 1) := by decide +kernel
theorem d_Model_walks_309 : decode c_Model_walks 309 = .ok (.getfield 47, 3) := by decide +kernel
theorem d_Model_walks_312 : decode c_Model_walks 312 = .ok (.bipush 7, 2) := by decide +kernel
theorem d_Model_walks_314 : decode c_Model_walks 314 = .ok (.iload 5, 2) := by decide +kernel
theorem d_Model_walks_316 : decode c_Model_walks 316 = .ok (.iastore, 1) := by decide +kernel
theorem d_Model_walks_317 : decode c_Model_walks 317 = .ok (.iload 5, 2) := by decide +kernel
theorem d_Model_walks_319 : decode c_Model_walks 319 = .ok (.aload_n 0, 1) := by decide +kernel
theorem d_Model_walks_320 : decode c_Model_walks 320 = .ok (.getfield 153, 3) := by decide +kernel
theorem d_Model_walks_323 : decode c_Model_walks 323 = .ok (.if_icmp .ge 4, 3) := by decide +kernel
theorem d_Model_walks_326 : decode c_Model_walks 326 = .ok (.return_, 1) := by decide +kernel
theorem d_Model_walks_327 : decode c_Model_walks 327 = .ok (.iload_n 2, 1) := by decide +kernel
theorem d_Model_walks_328 : decode c_Model_walks 328 = .ok (.ifCond .ge 10, 3) := by decide +kernel
theorem d_Model_walks_331 : decode c_Model_walks 331 = .ok (.aload_n 0, 1) := by decide +kernel
theorem d_Model_walks_332 : decode c_Model_walks 332 = .ok (.getfield 240, 3) := by decide +kernel
theorem d_Model_walks_335 : decode c_Model_walks 335 = .ok (.goto 4, 3) := by decide +kernel
theorem d_Model_walks_338 : decode c_Model_walks 338 = .ok (.iload_n 2, 1) := by decide +kernel
theorem d_Model_walks_339 : decode c_Model_walks 339 = .ok (.istore 6, 2) := by decide +kernel
theorem d_Model_walks_341 : decode c_Model_walks 341 = .ok (.iload_n 2, 1) := by decide +kernel
theorem d_Model_walks_342 : decode c_Model_walks 342 = .ok (.ifCond .ge 13, 3) := by decide +kernel
theorem d_Model_walks_345 : decode c_Model_walks 345 = .ok (.aload_n 0, 1) := by decide +kernel
theorem d_Model_walks_346 : decode c_Model_walks 346 = .ok (.dup, 1) := by decide +kernel
theorem d_Model_walks_347 : decode c_Model_walks 347 = .ok (.getfield 240, 3) := by decide +kernel
theorem d_Model_walks_350 : decode c_Model_walks 350 = .ok (.iconst 1, 1) := by decide +kernel
theorem d_Model_walks_351 : decode c_Model_walks 351 = .ok (.iadd, 1) := by decide +kernel
theorem d_Model_walks_352 : decode c_Model_walks 352 = .ok (.putfield 240, 3) := by decide +kernel
theorem d_Model_walks_355 : decode c_Model_walks 355 = .ok (.aload_n 0, 1) := by decide +kernel
theorem d_Model_walks_356 : decode c_Model_walks 356 = .ok (.iload 6, 2) := by decide +kernel
theorem d_Model_walks_358 : decode c_Model_walks 358 = .ok (.aload_n 0, 1) := by decide +kernel
theorem d_Model_walks_359 : decode c_Model_walks 359 = .ok (.getfield 150, 3) := by decide +kernel
theorem d_Model_walks_362 : decode c_Model_walks 362 = .ok (.iload_n 3, 1) := by decide +kernel
theorem d_Model_walks_363 : decode c_Model_walks 363 = .ok (.iload 4, 2) := by decide +kernel
theorem d_Model_walks_365 : decode c_Model_walks 365 = .ok (.invokevirtual 318, 3) := by decide +kernel
theorem d_Model_walks_368 : decode c_Model_walks 368 = .ok (.return_, 1) := by decide +kernel
abbrev c_Model_isOddMode : ByteArray := prog_14_method_33_code
def y_Model_isOddMode : MethodName := ⟨"EpochServerModel", "isOddMode", "()Z"⟩
theorem d_Model_isOddMode_0 : decode c_Model_isOddMode 0 = .ok (.aload_n 0, 1) := by decide +kernel
theorem d_Model_isOddMode_1 : decode c_Model_isOddMode 1 = .ok (.getfield 156, 3) := by decide +kernel
theorem d_Model_isOddMode_4 : decode c_Model_isOddMode 4 = .ok (.bipush (-84), 2) := by decide +kernel
theorem d_Model_isOddMode_6 : decode c_Model_isOddMode 6 = .ok (.iand, 1) := by decide +kernel
theorem d_Model_isOddMode_7 : decode c_Model_isOddMode 7 = .ok (.ifCond .ne 13, 3) := by decide +kernel
theorem d_Model_isOddMode_10 : decode c_Model_isOddMode 10 = .ok (.aload_n 0, 1) := by decide +kernel
theorem d_Model_isOddMode_11 : decode c_Model_isOddMode 11 = .ok (.getfield 156, 3) := by decide +kernel
theorem d_Model_isOddMode_14 : decode c_Model_isOddMode 14 = .ok (.iconst 3, 1) := by decide +kernel
theorem d_Model_isOddMode_15 : decode c_Model_isOddMode 15 = .ok (.iand, 1) := by decide +kernel
theorem d_Model_isOddMode_16 : decode c_Model_isOddMode 16 = .ok (.iconst 3, 1) := by decide +kernel
theorem d_Model_isOddMode_17 : decode c_Model_isOddMode 17 = .ok (.if_icmp .ne 7, 3) := by decide +kernel
theorem d_Model_isOddMode_20 : decode c_Model_isOddMode 20 = .ok (.iconst 1, 1) := by decide +kernel
theorem d_Model_isOddMode_21 : decode c_Model_isOddMode 21 = .ok (.goto 4, 3) := by decide +kernel
theorem d_Model_isOddMode_24 : decode c_Model_isOddMode 24 = .ok (.iconst 0, 1) := by decide +kernel
theorem d_Model_isOddMode_25 : decode c_Model_isOddMode 25 = .ok (.ireturn, 1) := by decide +kernel
abbrev c_Model_opens : ByteArray := prog_14_method_34_code
def y_Model_opens : MethodName := ⟨"EpochServerModel", "opens", "(I)V"⟩
theorem d_Model_opens_0 : decode c_Model_opens 0 = .ok (.aload_n 0, 1) := by decide +kernel
theorem d_Model_opens_1 : decode c_Model_opens 1 = .ok (.aload_n 0, 1) := by decide +kernel
theorem d_Model_opens_2 : decode c_Model_opens 2 = .ok (.getfield 59, 3) := by decide +kernel
theorem d_Model_opens_5 : decode c_Model_opens 5 = .ok (.iload_n 1, 1) := by decide +kernel
theorem d_Model_opens_6 : decode c_Model_opens 6 = .ok (.iaload, 1) := by decide +kernel
theorem d_Model_opens_7 : decode c_Model_opens 7 = .ok (.ifCond .lt 7, 3) := by decide +kernel
theorem d_Model_opens_10 : decode c_Model_opens 10 = .ok (.iconst 1, 1) := by decide +kernel
theorem d_Model_opens_11 : decode c_Model_opens 11 = .ok (.goto 4, 3) := by decide +kernel
theorem d_Model_opens_14 : decode c_Model_opens 14 = .ok (.iconst 0, 1) := by decide +kernel
theorem d_Model_opens_15 : decode c_Model_opens 15 = .ok (.iconst 3, 1) := by decide +kernel
theorem d_Model_opens_16 : decode c_Model_opens 16 = .ok (.invokevirtual 249, 3) := by decide +kernel
theorem d_Model_opens_19 : decode c_Model_opens 19 = .ok (.ifCond .ne 15, 3) := by decide +kernel
theorem d_Model_opens_22 : decode c_Model_opens 22 = .ok (.aload_n 0, 1) := by decide +kernel
theorem d_Model_opens_23 : decode c_Model_opens 23 = .ok (.aload_n 0, 1) := by decide +kernel
theorem d_Model_opens_24 : decode c_Model_opens 24 = .ok (.invokevirtual 330, 3) := by decide +kernel
theorem d_Model_opens_27 : decode c_Model_opens 27 = .ok (.iconst 5, 1) := by decide +kernel
theorem d_Model_opens_28 : decode c_Model_opens 28 = .ok (.invokevirtual 249, 3) := by decide +kernel
theorem d_Model_opens_31 : decode c_Model_opens 31 = .ok (.ifCond .eq 4, 3) := by decide +kernel
theorem d_Model_opens_34 : decode c_Model_opens 34 = .ok (.return_, 1) := by decide +kernel
theorem d_Model_opens_35 : decode c_Model_opens 35 = .ok (.aload_n 0, 1) := by decide +kernel
theorem d_Model_opens_36 : decode c_Model_opens 36 = .ok (.getfield 53, 3) := by decide +kernel
theorem d_Model_opens_39 : decode c_Model_opens 39 = .ok (.iload_n 1, 1) := by decide +kernel
theorem d_Model_opens_40 : decode c_Model_opens 40 = .ok (.iaload, 1) := by decide +kernel
theorem d_Model_opens_41 : decode c_Model_opens 41 = .ok (.aload_n 0, 1) := by decide +kernel
theorem d_Model_opens_42 : decode c_Model_opens 42 = .ok (.getfield 56, 3) := by decide +kernel
theorem d_Model_opens_45 : decode c_Model_opens 45 = .ok (.iload_n 1, 1) := by decide +kernel
theorem d_Model_opens_46 : decode c_Model_opens 46 = .ok (.iaload, 1) := by decide +kernel
theorem d_Model_opens_47 : decode c_Model_opens 47 = .ok (.invokestatic 96, 3) := by decide +kernel
theorem d_Model_opens_50 : decode c_Model_opens 50 = .ok (.istore_n 2, 1) := by decide +kernel
theorem d_Model_opens_51 : decode c_Model_opens 51 = .ok (.aload_n 0, 1) := by decide +kernel
theorem d_Model_opens_52 : decode c_Model_opens 52 = .ok (.aload_n 0, 1) := by decide +kernel
theorem d_Model_opens_53 : decode c_Model_opens 53 = .ok (.iload_n 2, 1) := by decide +kernel
theorem d_Model_opens_54 : decode c_Model_opens 54 = .ok (.invokevirtual 230, 3) := by decide +kernel
theorem d_Model_opens_57 : decode c_Model_opens 57 = .ok (.ifCond .ne 12, 3) := by decide +kernel
theorem d_Model_opens_60 : decode c_Model_opens 60 = .ok (.aload_n 0, 1) := by decide +kernel
theorem d_Model_opens_61 : decode c_Model_opens 61 = .ok (.getfield 53, 3) := by decide +kernel
theorem d_Model_opens_64 : decode c_Model_opens 64 = .ok (.iload_n 1, 1) := by decide +kernel
theorem d_Model_opens_65 : decode c_Model_opens 65 = .ok (.iaload, 1) := by decide +kernel
theorem d_Model_opens_66 : decode c_Model_opens 66 = .ok (.ifCond .eq 14, 3) := by decide +kernel
theorem d_Model_opens_69 : decode c_Model_opens 69 = .ok (.aload_n 0, 1) := by decide +kernel
theorem d_Model_opens_70 : decode c_Model_opens 70 = .ok (.getfield 156, 3) := by decide +kernel
theorem d_Model_opens_73 : decode c_Model_opens 73 = .ok (.ifCond .eq 7, 3) := by decide +kernel
theorem d_Model_opens_76 : decode c_Model_opens 76 = .ok (.iconst 1, 1) := by decide +kernel
theorem d_Model_opens_77 : decode c_Model_opens 77 = .ok (.goto 4, 3) := by decide +kernel
theorem d_Model_opens_80 : decode c_Model_opens 80 = .ok (.iconst 0, 1) := by decide +kernel
theorem d_Model_opens_81 : decode c_Model_opens 81 = .ok (.bipush 6, 2) := by decide +kernel
theorem d_Model_opens_83 : decode c_Model_opens 83 = .ok (.invokevirtual 249, 3) := by decide +kernel
theorem d_Model_opens_86 : decode c_Model_opens 86 = .ok (.ifCond .eq 4, 3) := by decide +kernel
theorem d_Model_opens_89 : decode c_Model_opens 89 = .ok (.return_, 1) := by decide +kernel
theorem d_Model_opens_90 : decode c_Model_opens 90 = .ok (.aload_n 0, 1) := by decide +kernel
theorem d_Model_opens_91 : decode c_Model_opens 91 = .ok (.getfield 156, 3) := by decide +kernel
theorem d_Model_opens_94 : decode c_Model_opens 94 = .ok (.iconst 3, 1) := by decide +kernel
theorem d_Model_opens_95 : decode c_Model_opens 95 = .ok (.iand, 1) := by decide +kernel
theorem d_Model_opens_96 : decode c_Model_opens 96 = .ok (.istore_n 3, 1) := by decide +kernel
theorem d_Model_opens_97 : decode c_Model_opens 97 = .ok (.iload_n 3, 1) := by decide +kernel
theorem d_Model_opens_98 : decode c_Model_opens 98 = .ok (.ifCond .eq 8, 3) := by decide +kernel
theorem d_Model_opens_101 : decode c_Model_opens 101 = .ok (.iload_n 3, 1) := by decide +kernel
theorem d_Model_opens_102 : decode c_Model_opens 102 = .ok (.iconst 2, 1) := by decide +kernel
theorem d_Model_opens_103 : decode c_Model_opens 103 = .ok (.if_icmp .ne 7, 3) := by decide +kernel
theorem d_Model_opens_106 : decode c_Model_opens 106 = .ok (.iconst 1, 1) := by decide +kernel
theorem d_Model_opens_107 : decode c_Model_opens 107 = .ok (.goto 4, 3) := by decide +kernel
theorem d_Model_opens_110 : decode c_Model_opens 110 = .ok (.iconst 0, 1) := by decide +kernel
theorem d_Model_opens_111 : decode c_Model_opens 111 = .ok (.istore 4, 2) := by decide +kernel
theorem d_Model_opens_113 : decode c_Model_opens 113 = .ok (.iload_n 3, 1) := by decide +kernel
theorem d_Model_opens_114 : decode c_Model_opens 114 = .ok (.iconst 1, 1) := by decide +kernel
theorem d_Model_opens_115 : decode c_Model_opens 115 = .ok (.if_icmp .eq 18, 3) := by decide +kernel
theorem d_Model_opens_118 : decode c_Model_opens 118 = .ok (.iload_n 3, 1) := by decide +kernel
theorem d_Model_opens_119 : decode c_Model_opens 119 = .ok (.iconst 2, 1) := by decide +kernel
theorem d_Model_opens_120 : decode c_Model_opens 120 = .ok (.if_icmp .eq 13, 3) := by decide +kernel
theorem d_Model_opens_123 : decode c_Model_opens 123 = .ok (.aload_n 0, 1) := by decide +kernel
theorem d_Model_opens_124 : decode c_Model_opens 124 = .ok (.getfield 156, 3) := by decide +kernel
theorem d_Model_opens_127 : decode c_Model_opens 127 = .ok (.bipush 16, 2) := by decide +kernel
theorem d_Model_opens_129 : decode c_Model_opens 129 = .ok (.iand, 1) := by decide +kernel
theorem d_Model_opens_130 : decode c_Model_opens 130 = .ok (.ifCond .eq 7, 3) := by decide +kernel
theorem d_Model_opens_133 : decode c_Model_opens 133 = .ok (.iconst 1, 1) := by decide +kernel
theorem d_Model_opens_134 : decode c_Model_opens 134 = .ok (.goto 4, 3) := by decide +kernel
theorem d_Model_opens_137 : decode c_Model_opens 137 = .ok (.iconst 0, 1) := by decide +kernel
theorem d_Model_opens_138 : decode c_Model_opens 138 = .ok (.istore 5, 2) := by decide +kernel
theorem d_Model_opens_140 : decode c_Model_opens 140 = .ok (.aload_n 0, 1) := by decide +kernel
theorem d_Model_opens_141 : decode c_Model_opens 141 = .ok (.iload 4, 2) := by decide +kernel
theorem d_Model_opens_143 : decode c_Model_opens 143 = .ok (.ifCond .eq 16, 3) := by decide +kernel
theorem d_Model_opens_146 : decode c_Model_opens 146 = .ok (.aload_n 0, 1) := by decide +kernel
theorem d_Model_opens_147 : decode c_Model_opens 147 = .ok (.getfield 17, 3) := by decide +kernel
theorem d_Model_opens_150 : decode c_Model_opens 150 = .ok (.iload_n 2, 1) := by decide +kernel
theorem d_Model_opens_151 : decode c_Model_opens 151 = .ok (.iaload, 1) := by decide +kernel
theorem d_Model_opens_152 : decode c_Model_opens 152 = .ok (.sipush 256, 3) := by decide +kernel
theorem d_Model_opens_155 : decode c_Model_opens 155 = .ok (.iand, 1) := by decide +kernel
theorem d_Model_opens_156 : decode c_Model_opens 156 = .ok (.ifCond .eq 21, 3) := by decide +kernel
theorem d_Model_opens_159 : decode c_Model_opens 159 = .ok (.iload 5, 2) := by decide +kernel
theorem d_Model_opens_161 : decode c_Model_opens 161 = .ok (.ifCond .eq 20, 3) := by decide +kernel
theorem d_Model_opens_164 : decode c_Model_opens 164 = .ok (.aload_n 0, 1) := by decide +kernel
theorem d_Model_opens_165 : decode c_Model_opens 165 = .ok (.getfield 17, 3) := by decide +kernel
theorem d_Model_opens_168 : decode c_Model_opens 168 = .ok (.iload_n 2, 1) := by decide +kernel
theorem d_Model_opens_169 : decode c_Model_opens 169 = .ok (.iaload, 1) := by decide +kernel
theorem d_Model_opens_170 : decode c_Model_opens 170 = .ok (.sipush 128, 3) := by decide +kernel
theorem d_Model_opens_173 : decode c_Model_opens 173 = .ok (.iand, 1) := by decide +kernel
theorem d_Model_opens_174 : decode c_Model_opens 174 = .ok (.ifCond .ne 7, 3) := by decide +kernel
theorem d_Model_opens_177 : decode c_Model_opens 177 = .ok (.iconst 1, 1) := by decide +kernel
theorem d_Model_opens_178 : decode c_Model_opens 178 = .ok (.goto 4, 3) := by decide +kernel
theorem d_Model_opens_181 : decode c_Model_opens 181 = .ok (.iconst 0, 1) := by decide +kernel
theorem d_Model_opens_182 : decode c_Model_opens 182 = .ok (.bipush 7, 2) := by decide +kernel
theorem d_Model_opens_184 : decode c_Model_opens 184 = .ok (.invokevirtual 249, 3) := by decide +kernel
theorem d_Model_opens_187 : decode c_Model_opens 187 = .ok (.ifCond .eq 4, 3) := by decide +kernel
theorem d_Model_opens_190 : decode c_Model_opens 190 = .ok (.return_, 1) := by decide +kernel
theorem d_Model_opens_191 : decode c_Model_opens 191 = .ok (.aload_n 0, 1) := by decide +kernel
theorem d_Model_opens_192 : decode c_Model_opens 192 = .ok (.getfield 59, 3) := by decide +kernel
theorem d_Model_opens_195 : decode c_Model_opens 195 = .ok (.iload_n 1, 1) := by decide +kernel
theorem d_Model_opens_196 : decode c_Model_opens 196 = .ok (.aload_n 0, 1) := by decide +kernel
theorem d_Model_opens_197 : decode c_Model_opens 197 = .ok (.getfield 156, 3) := by decide +kernel
theorem d_Model_opens_200 : decode c_Model_opens 200 = .ok (.iastore, 1) := by decide +kernel
theorem d_Model_opens_201 : decode c_Model_opens 201 = .ok (.aload_n 0, 1) := by decide +kernel
theorem d_Model_opens_202 : decode c_Model_opens 202 = .ok (.getfield 62, 3) := by decide +kernel
theorem d_Model_opens_205 : decode c_Model_opens 205 = .ok (.iload_n 1, 1) := by decide +kernel
theorem d_Model_opens_206 : decode c_Model_opens 206 = .ok (.iconst 0, 1) := by decide +kernel
theorem d_Model_opens_207 : decode c_Model_opens 207 = .ok (.iastore, 1) := by decide +kernel
theorem d_Model_opens_208 : decode c_Model_opens 208 = .ok (.aload_n 0, 1) := by decide +kernel
theorem d_Model_opens_209 : decode c_Model_opens 209 = .ok (.getfield 65, 3) := by decide +kernel
theorem d_Model_opens_212 : decode c_Model_opens 212 = .ok (.iload_n 1, 1) := by decide +kernel
theorem d_Model_opens_213 : decode c_Model_opens 213 = .ok (.iconst (-1), 1) := by decide +kernel
theorem d_Model_opens_214 : decode c_Model_opens 214 = .ok (.iastore, 1) := by decide +kernel
theorem d_Model_opens_215 : decode c_Model_opens 215 = .ok (.aload_n 0, 1) := by decide +kernel
theorem d_Model_opens_216 : decode c_Model_opens 216 = .ok (.getfield 156, 3) := by decide +kernel
theorem d_Model_opens_219 : decode c_Model_opens 219 = .ok (.bipush 16, 2) := by decide +kernel
theorem d_Model_opens_221 : decode c_Model_opens 221 = .ok (.iand, 1) := by decide +kernel
theorem d_Model_opens_222 : decode c_Model_opens 222 = .ok (.ifCond .eq 24, 3) := by decide +kernel
theorem d_Model_opens_225 : decode c_Model_opens 225 = .ok (.aload_n 0, 1) := by decide +kernel
theorem d_Model_opens_226 : decode c_Model_opens 226 = .ok (.getfield 26, 3) := by decide +kernel
theorem d_Model_opens_229 : decode c_Model_opens 229 = .ok (.iload_n 2, 1) := by decide +kernel
theorem d_Model_opens_230 : decode c_Model_opens 230 = .ok (.iaload, 1) := by decide +kernel
theorem d_Model_opens_231 : decode c_Model_opens 231 = .ok (.ifCond .le 15, 3) := by decide +kernel
theorem d_Model_opens_234 : decode c_Model_opens 234 = .ok (.aload_n 0, 1) := by decide +kernel
theorem d_Model_opens_235 : decode c_Model_opens 235 = .ok (.getfield 26, 3) := by decide +kernel
theorem d_Model_opens_238 : decode c_Model_opens 238 = .ok (.iload_n 2, 1) := by decide +kernel
theorem d_Model_opens_239 : decode c_Model_opens 239 = .ok (.iconst 0, 1) := by decide +kernel
theorem d_Model_opens_240 : decode c_Model_opens 240 = .ok (.iastore, 1) := by decide +kernel
theorem d_Model_opens_241 : decode c_Model_opens 241 = .ok (.aload_n 0, 1) := by decide +kernel
theorem d_Model_opens_242 : decode c_Model_opens 242 = .ok (.iload_n 2, 1) := by decide +kernel
theorem d_Model_opens_243 : decode c_Model_opens 243 = .ok (.invokevirtual 334, 3) := by decide +kernel
theorem d_Model_opens_246 : decode c_Model_opens 246 = .ok (.aload_n 0, 1) := by decide +kernel
theorem d_Model_opens_247 : decode c_Model_opens 247 = .ok (.aload_n 0, 1) := by decide +kernel
theorem d_Model_opens_248 : decode c_Model_opens 248 = .ok (.getfield 53, 3) := by decide +kernel
theorem d_Model_opens_251 : decode c_Model_opens 251 = .ok (.iload_n 1, 1) := by decide +kernel
theorem d_Model_opens_252 : decode c_Model_opens 252 = .ok (.iaload, 1) := by decide +kernel
theorem d_Model_opens_253 : decode c_Model_opens 253 = .ok (.aload_n 0, 1) := by decide +kernel
theorem d_Model_opens_254 : decode c_Model_opens 254 = .ok (.getfield 56, 3) := by decide +kernel
theorem d_Model_opens_257 : decode c_Model_opens 257 = .ok (.iload_n 1, 1) := by decide +kernel
theorem d_Model_opens_258 : decode c_Model_opens 258 = .ok (.iaload, 1) := by decide +kernel
theorem d_Model_opens_259 : decode c_Model_opens 259 = .ok (.invokevirtual 235, 3) := by decide +kernel
theorem d_Model_opens_262 : decode c_Model_opens 262 = .ok (.aload_n 0, 1) := by decide +kernel
theorem d_Model_opens_263 : decode c_Model_opens 263 = .ok (.lconst 0, 1) := by decide +kernel
theorem d_Model_opens_264 : decode c_Model_opens 264 = .ok (.iconst 4, 1) := by decide +kernel
theorem d_Model_opens_265 : decode c_Model_opens 265 = .ok (.invokevirtual 212, 3) := by decide +kernel
theorem d_Model_opens_268 : decode c_Model_opens 268 = .ok (.return_, 1) := by decide +kernel
abbrev c_Model_isName : ByteArray := prog_14_method_35_code
def y_Model_isName : MethodName := ⟨"EpochServerModel", "isName", "(II)Z"⟩
theorem d_Model_isName_0 : decode c_Model_isName 0 = .ok (.iload_n 2, 1) := by decide +kernel
theorem d_Model_isName_1 : decode c_Model_isName 1 = .ok (.iconst 1, 1) := by decide +kernel
theorem d_Model_isName_2 : decode c_Model_isName 2 = .ok (.if_icmp .lt 40, 3) := by decide +kernel
theorem d_Model_isName_5 : decode c_Model_isName 5 = .ok (.iload_n 2, 1) := by decide +kernel
theorem d_Model_isName_6 : decode c_Model_isName 6 = .ok (.bipush 20, 2) := by decide +kernel
theorem d_Model_isName_8 : decode c_Model_isName 8 = .ok (.if_icmp .gt 34, 3) := by decide +kernel
theorem d_Model_isName_11 : decode c_Model_isName 11 = .ok (.iload_n 2, 1) := by decide +kernel
theorem d_Model_isName_12 : decode c_Model_isName 12 = .ok (.iconst 3, 1) := by decide +kernel
theorem d_Model_isName_13 : decode c_Model_isName 13 = .ok (.if_icmp .ge 31, 3) := by decide +kernel
theorem d_Model_isName_16 : decode c_Model_isName 16 = .ok (.aload_n 0, 1) := by decide +kernel
theorem d_Model_isName_17 : decode c_Model_isName 17 = .ok (.getfield 44, 3) := by decide +kernel
theorem d_Model_isName_20 : decode c_Model_isName 20 = .ok (.iload_n 1, 1) := by decide +kernel
theorem d_Model_isName_21 : decode c_Model_isName 21 = .ok (.iaload, 1) := by decide +kernel
theorem d_Model_isName_22 : decode c_Model_isName 22 = .ok (.bipush 46, 2) := by decide +kernel
theorem d_Model_isName_24 : decode c_Model_isName 24 = .ok (.if_icmp .ne 20, 3) := by decide +kernel
theorem d_Model_isName_27 : decode c_Model_isName 27 = .ok (.aload_n 0, 1) := by decide +kernel
theorem d_Model_isName_28 : decode c_Model_isName 28 = .ok (.getfield 44, 3) := by decide +kernel
theorem d_Model_isName_31 : decode c_Model_isName 31 = .ok (.iload_n 1, 1) := by decide +kernel
theorem d_Model_isName_32 : decode c_Model_isName 32 = .ok (.iload_n 2, 1) := by decide +kernel
theorem d_Model_isName_33 : decode c_Model_isName 33 = .ok (.iadd, 1) := by decide +kernel
theorem d_Model_isName_34 : decode c_Model_isName 34 = .ok (.iconst 1, 1) := by decide +kernel
theorem d_Model_isName_35 : decode c_Model_isName 35 = .ok (.isub, 1) := by decide +kernel
theorem d_Model_isName_36 : decode c_Model_isName 36 = .ok (.iaload, 1) := by decide +kernel
theorem d_Model_isName_37 : decode c_Model_isName 37 = .ok (.bipush 46, 2) := by decide +kernel
theorem d_Model_isName_39 : decode c_Model_isName 39 = .ok (.if_icmp .ne 5, 3) := by decide +kernel
theorem d_Model_isName_42 : decode c_Model_isName 42 = .ok (.iconst 0, 1) := by decide +kernel
theorem d_Model_isName_43 : decode c_Model_isName 43 = .ok (.ireturn, 1) := by decide +kernel
theorem d_Model_isName_44 : decode c_Model_isName 44 = .ok (.iconst 1, 1) := by decide +kernel
theorem d_Model_isName_45 : decode c_Model_isName 45 = .ok (.istore_n 3, 1) := by decide +kernel
theorem d_Model_isName_46 : decode c_Model_isName 46 = .ok (.iconst 0, 1) := by decide +kernel
theorem d_Model_isName_47 : decode c_Model_isName 47 = .ok (.istore 4, 2) := by decide +kernel
theorem d_Model_isName_49 : decode c_Model_isName 49 = .ok (.iload 4, 2) := by decide +kernel
theorem d_Model_isName_51 : decode c_Model_isName 51 = .ok (.iload_n 2, 1) := by decide +kernel
theorem d_Model_isName_52 : decode c_Model_isName 52 = .ok (.if_icmp .ge 45, 3) := by decide +kernel
theorem d_Model_isName_55 : decode c_Model_isName 55 = .ok (.iload_n 3, 1) := by decide +kernel
theorem d_Model_isName_56 : decode c_Model_isName 56 = .ok (.ifCond .eq 41, 3) := by decide +kernel
theorem d_Model_isName_59 : decode c_Model_isName 59 = .ok (.aload_n 0, 1) := by decide +kernel
theorem d_Model_isName_60 : decode c_Model_isName 60 = .ok (.getfield 44, 3) := by decide +kernel
theorem d_Model_isName_63 : decode c_Model_isName 63 = .ok (.iload_n 1, 1) := by decide +kernel
theorem d_Model_isName_64 : decode c_Model_isName 64 = .ok (.iload 4, 2) := by decide +kernel
theorem d_Model_isName_66 : decode c_Model_isName 66 = .ok (.iadd, 1) := by decide +kernel
theorem d_Model_isName_67 : decode c_Model_isName 67 = .ok (.iaload, 1) := by decide +kernel
theorem d_Model_isName_68 : decode c_Model_isName 68 = .ok (.ifCond .eq 21, 3) := by decide +kernel
theorem d_Model_isName_71 : decode c_Model_isName 71 = .ok (.aload_n 0, 1) := by decide +kernel
theorem d_Model_isName_72 : decode c_Model_isName 72 = .ok (.getfield 44, 3) := by decide +kernel
theorem d_Model_isName_75 : decode c_Model_isName 75 = .ok (.iload_n 1, 1) := by decide +kernel
theorem d_Model_isName_76 : decode c_Model_isName 76 = .ok (.iload 4, 2) := by decide +kernel
theorem d_Model_isName_78 : decode c_Model_isName 78 = .ok (.iadd, 1) := by decide +kernel
theorem d_Model_isName_79 : decode c_Model_isName 79 = .ok (.iaload, 1) := by decide +kernel
theorem d_Model_isName_80 : decode c_Model_isName 80 = .ok (.bipush 47, 2) := by decide +kernel
theorem d_Model_isName_82 : decode c_Model_isName 82 = .ok (.if_icmp .eq 7, 3) := by decide +kernel
theorem d_Model_isName_85 : decode c_Model_isName 85 = .ok (.iconst 1, 1) := by decide +kernel
theorem d_Model_isName_86 : decode c_Model_isName 86 = .ok (.goto 4, 3) := by decide +kernel
theorem d_Model_isName_89 : decode c_Model_isName 89 = .ok (.iconst 0, 1) := by decide +kernel
theorem d_Model_isName_90 : decode c_Model_isName 90 = .ok (.istore_n 3, 1) := by decide +kernel
theorem d_Model_isName_91 : decode c_Model_isName 91 = .ok (.iinc 4 1, 3) := by decide +kernel
theorem d_Model_isName_94 : decode c_Model_isName 94 = .ok (.goto (-45), 3) := by decide +kernel
theorem d_Model_isName_97 : decode c_Model_isName 97 = .ok (.iload_n 3, 1) := by decide +kernel
theorem d_Model_isName_98 : decode c_Model_isName 98 = .ok (.ireturn, 1) := by decide +kernel
abbrev c_Model_names : ByteArray := prog_14_method_36_code
def y_Model_names : MethodName := ⟨"EpochServerModel", "names", "(III)V"⟩
theorem d_Model_names_0 : decode c_Model_names 0 = .ok (.aload_n 0, 1) := by decide +kernel
theorem d_Model_names_1 : decode c_Model_names 1 = .ok (.getfield 29, 3) := by decide +kernel
theorem d_Model_names_4 : decode c_Model_names 4 = .ok (.iload_n 1, 1) := by decide +kernel
theorem d_Model_names_5 : decode c_Model_names 5 = .ok (.iload_n 3, 1) := by decide +kernel
theorem d_Model_names_6 : decode c_Model_names 6 = .ok (.iastore, 1) := by decide +kernel
theorem d_Model_names_7 : decode c_Model_names 7 = .ok (.iconst 0, 1) := by decide +kernel
theorem d_Model_names_8 : decode c_Model_names 8 = .ok (.istore 4, 2) := by decide +kernel
theorem d_Model_names_10 : decode c_Model_names 10 = .ok (.iload 4, 2) := by decide +kernel
theorem d_Model_names_12 : decode c_Model_names 12 = .ok (.iload_n 3, 1) := by decide +kernel
theorem d_Model_names_13 : decode c_Model_names 13 = .ok (.if_icmp .ge 30, 3) := by decide +kernel
theorem d_Model_names_16 : decode c_Model_names 16 = .ok (.aload_n 0, 1) := by decide +kernel
theorem d_Model_names_17 : decode c_Model_names 17 = .ok (.getfield 33, 3) := by decide +kernel
theorem d_Model_names_20 : decode c_Model_names 20 = .ok (.bipush 20, 2) := by decide +kernel
theorem d_Model_names_22 : decode c_Model_names 22 = .ok (.iload_n 1, 1) := by decide +kernel
theorem d_Model_names_23 : decode c_Model_names 23 = .ok (.imul, 1) := by decide +kernel
theorem d_Model_names_24 : decode c_Model_names 24 = .ok (.iload 4, 2) := by decide +kernel
theorem d_Model_names_26 : decode c_Model_names 26 = .ok (.iadd, 1) := by decide +kernel
theorem d_Model_names_27 : decode c_Model_names 27 = .ok (.aload_n 0, 1) := by decide +kernel
theorem d_Model_names_28 : decode c_Model_names 28 = .ok (.getfield 44, 3) := by decide +kernel
theorem d_Model_names_31 : decode c_Model_names 31 = .ok (.iload_n 2, 1) := by decide +kernel
theorem d_Model_names_32 : decode c_Model_names 32 = .ok (.iload 4, 2) := by decide +kernel
theorem d_Model_names_34 : decode c_Model_names 34 = .ok (.iadd, 1) := by decide +kernel
theorem d_Model_names_35 : decode c_Model_names 35 = .ok (.iaload, 1) := by decide +kernel
theorem d_Model_names_36 : decode c_Model_names 36 = .ok (.iastore, 1) := by decide +kernel
theorem d_Model_names_37 : decode c_Model_names 37 = .ok (.iinc 4 1, 3) := by decide +kernel
theorem d_Model_names_40 : decode c_Model_names 40 = .ok (.goto (-30), 3) := by decide +kernel
theorem d_Model_names_43 : decode c_Model_names 43 = .ok (.return_, 1) := by decide +kernel
abbrev c_Model_creates : ByteArray := prog_14_method_37_code
def y_Model_creates : MethodName := ⟨"EpochServerModel", "creates", "(I)V"⟩
theorem d_Model_creates_0 : decode c_Model_creates 0 = .ok (.aload_n 0, 1) := by decide +kernel
theorem d_Model_creates_1 : decode c_Model_creates 1 = .ok (.getfield 53, 3) := by decide +kernel
theorem d_Model_creates_4 : decode c_Model_creates 4 = .ok (.iload_n 1, 1) := by decide +kernel
theorem d_Model_creates_5 : decode c_Model_creates 5 = .ok (.iaload, 1) := by decide +kernel
theorem d_Model_creates_6 : decode c_Model_creates 6 = .ok (.aload_n 0, 1) := by decide +kernel
theorem d_Model_creates_7 : decode c_Model_creates 7 = .ok (.getfield 56, 3) := by decide +kernel
theorem d_Model_creates_10 : decode c_Model_creates 10 = .ok (.iload_n 1, 1) := by decide +kernel
theorem d_Model_creates_11 : decode c_Model_creates 11 = .ok (.iaload, 1) := by decide +kernel
theorem d_Model_creates_12 : decode c_Model_creates 12 = .ok (.invokestatic 96, 3) := by decide +kernel
theorem d_Model_creates_15 : decode c_Model_creates 15 = .ok (.istore_n 2, 1) := by decide +kernel
theorem d_Model_creates_16 : decode c_Model_creates 16 = .ok (.aload_n 0, 1) := by decide +kernel
theorem d_Model_creates_17 : decode c_Model_creates 17 = .ok (.aload_n 0, 1) := by decide +kernel
theorem d_Model_creates_18 : decode c_Model_creates 18 = .ok (.getfield 59, 3) := by decide +kernel
theorem d_Model_creates_21 : decode c_Model_creates 21 = .ok (.iload_n 1, 1) := by decide +kernel
theorem d_Model_creates_22 : decode c_Model_creates 22 = .ok (.iaload, 1) := by decide +kernel
theorem d_Model_creates_23 : decode c_Model_creates 23 = .ok (.ifCond .lt 7, 3) := by decide +kernel
theorem d_Model_creates_26 : decode c_Model_creates 26 = .ok (.iconst 1, 1) := by decide +kernel
theorem d_Model_creates_27 : decode c_Model_creates 27 = .ok (.goto 4, 3) := by decide +kernel
theorem d_Model_creates_30 : decode c_Model_creates 30 = .ok (.iconst 0, 1) := by decide +kernel
theorem d_Model_creates_31 : decode c_Model_creates 31 = .ok (.iconst 3, 1) := by decide +kernel
theorem d_Model_creates_32 : decode c_Model_creates 32 = .ok (.invokevirtual 249, 3) := by decide +kernel
theorem d_Model_creates_35 : decode c_Model_creates 35 = .ok (.ifCond .ne 62, 3) := by decide +kernel
theorem d_Model_creates_38 : decode c_Model_creates 38 = .ok (.aload_n 0, 1) := by decide +kernel
theorem d_Model_creates_39 : decode c_Model_creates 39 = .ok (.aload_n 0, 1) := by decide +kernel
theorem d_Model_creates_40 : decode c_Model_creates 40 = .ok (.iload_n 2, 1) := by decide +kernel
theorem d_Model_creates_41 : decode c_Model_creates 41 = .ok (.invokevirtual 230, 3) := by decide +kernel
theorem d_Model_creates_44 : decode c_Model_creates 44 = .ok (.ifCond .eq 12, 3) := by decide +kernel
theorem d_Model_creates_47 : decode c_Model_creates 47 = .ok (.aload_n 0, 1) := by decide +kernel
theorem d_Model_creates_48 : decode c_Model_creates 48 = .ok (.getfield 53, 3) := by decide +kernel
theorem d_Model_creates_51 : decode c_Model_creates 51 = .ok (.iload_n 1, 1) := by decide +kernel
theorem d_Model_creates_52 : decode c_Model_creates 52 = .ok (.iaload, 1) := by decide +kernel
theorem d_Model_creates_53 : decode c_Model_creates 53 = .ok (.ifCond .eq 7, 3) := by decide +kernel
theorem d_Model_creates_56 : decode c_Model_creates 56 = .ok (.iconst 1, 1) := by decide +kernel
theorem d_Model_creates_57 : decode c_Model_creates 57 = .ok (.goto 4, 3) := by decide +kernel
theorem d_Model_creates_60 : decode c_Model_creates 60 = .ok (.iconst 0, 1) := by decide +kernel
theorem d_Model_creates_61 : decode c_Model_creates 61 = .ok (.iconst 5, 1) := by decide +kernel
theorem d_Model_creates_62 : decode c_Model_creates 62 = .ok (.invokevirtual 249, 3) := by decide +kernel
theorem d_Model_creates_65 : decode c_Model_creates 65 = .ok (.ifCond .ne 32, 3) := by decide +kernel
theorem d_Model_creates_68 : decode c_Model_creates 68 = .ok (.aload_n 0, 1) := by decide +kernel
theorem d_Model_creates_69 : decode c_Model_creates 69 = .ok (.aload_n 0, 1) := by decide +kernel
theorem d_Model_creates_70 : decode c_Model_creates 70 = .ok (.aload_n 0, 1) := by decide +kernel
theorem d_Model_creates_71 : decode c_Model_creates 71 = .ok (.getfield 141, 3) := by decide +kernel
theorem d_Model_creates_74 : decode c_Model_creates 74 = .ok (.aload_n 0, 1) := by decide +kernel
theorem d_Model_creates_75 : decode c_Model_creates 75 = .ok (.getfield 144, 3) := by decide +kernel
theorem d_Model_creates_78 : decode c_Model_creates 78 = .ok (.invokevirtual 337, 3) := by decide +kernel
theorem d_Model_creates_81 : decode c_Model_creates 81 = .ok (.ifCond .ne 7, 3) := by decide +kernel
theorem d_Model_creates_84 : decode c_Model_creates 84 = .ok (.iconst 1, 1) := by decide +kernel
theorem d_Model_creates_85 : decode c_Model_creates 85 = .ok (.goto 4, 3) := by decide +kernel
theorem d_Model_creates_88 : decode c_Model_creates 88 = .ok (.iconst 0, 1) := by decide +kernel
theorem d_Model_creates_89 : decode c_Model_creates 89 = .ok (.bipush 6, 2) := by decide +kernel
theorem d_Model_creates_91 : decode c_Model_creates 91 = .ok (.invokevirtual 249, 3) := by decide +kernel
theorem d_Model_creates_94 : decode c_Model_creates 94 = .ok (.ifCond .eq 4, 3) := by decide +kernel
theorem d_Model_creates_97 : decode c_Model_creates 97 = .ok (.return_, 1) := by decide +kernel
theorem d_Model_creates_98 : decode c_Model_creates 98 = .ok (.aload_n 0, 1) := by decide +kernel
theorem d_Model_creates_99 : decode c_Model_creates 99 = .ok (.aload_n 0, 1) := by decide +kernel
theorem d_Model_creates_100 : decode c_Model_creates 100 = .ok (.iconst 0, 1) := by decide +kernel
theorem d_Model_creates_101 : decode c_Model_creates 101 = .ok (.aload_n 0, 1) := by decide +kernel
theorem d_Model_creates_102 : decode c_Model_creates 102 = .ok (.getfield 56, 3) := by decide +kernel
theorem d_Model_creates_105 : decode c_Model_creates 105 = .ok (.iload_n 1, 1) := by decide +kernel
theorem d_Model_creates_106 : decode c_Model_creates 106 = .ok (.iaload, 1) := by decide +kernel
theorem d_Model_creates_107 : decode c_Model_creates 107 = .ok (.aload_n 0, 1) := by decide +kernel
theorem d_Model_creates_108 : decode c_Model_creates 108 = .ok (.getfield 141, 3) := by decide +kernel
theorem d_Model_creates_111 : decode c_Model_creates 111 = .ok (.aload_n 0, 1) := by decide +kernel
theorem d_Model_creates_112 : decode c_Model_creates 112 = .ok (.getfield 144, 3) := by decide +kernel
theorem d_Model_creates_115 : decode c_Model_creates 115 = .ok (.invokevirtual 326, 3) := by decide +kernel
theorem d_Model_creates_118 : decode c_Model_creates 118 = .ok (.ifCond .lt 7, 3) := by decide +kernel
theorem d_Model_creates_121 : decode c_Model_creates 121 = .ok (.iconst 1, 1) := by decide +kernel
theorem d_Model_creates_122 : decode c_Model_creates 122 = .ok (.goto 4, 3) := by decide +kernel
theorem d_Model_creates_125 : decode c_Model_creates 125 = .ok (.iconst 0, 1) := by decide +kernel
theorem d_Model_creates_126 : decode c_Model_creates 126 = .ok (.bipush 7, 2) := by decide +kernel
theorem d_Model_creates_128 : decode c_Model_creates 128 = .ok (.invokevirtual 249, 3) := by decide +kernel
theorem d_Model_creates_131 : decode c_Model_creates 131 = .ok (.ifCond .ne 61, 3) := by decide +kernel
theorem d_Model_creates_134 : decode c_Model_creates 134 = .ok (.aload_n 0, 1) := by decide +kernel
theorem d_Model_creates_135 : decode c_Model_creates 135 = .ok (.aload_n 0, 1) := by decide +kernel
theorem d_Model_creates_136 : decode c_Model_creates 136 = .ok (.invokevirtual 330, 3) := by decide +kernel
theorem d_Model_creates_139 : decode c_Model_creates 139 = .ok (.ifCond .ne 17, 3) := by decide +kernel
theorem d_Model_creates_142 : decode c_Model_creates 142 = .ok (.aload_n 0, 1) := by decide +kernel
theorem d_Model_creates_143 : decode c_Model_creates 143 = .ok (.getfield 159, 3) := by decide +kernel
theorem d_Model_creates_146 : decode c_Model_creates 146 = .ok (.ifCond .ge 14, 3) := by decide +kernel
theorem d_Model_creates_149 : decode c_Model_creates 149 = .ok (.aload_n 0, 1) := by decide +kernel
theorem d_Model_creates_150 : decode c_Model_creates 150 = .ok (.getfield 156, 3) := by decide +kernel
theorem d_Model_creates_153 : decode c_Model_creates 153 = .ok (.ifCond .eq 7, 3) := by decide +kernel
theorem d_Model_creates_156 : decode c_Model_creates 156 = .ok (.iconst 1, 1) := by decide +kernel
theorem d_Model_creates_157 : decode c_Model_creates 157 = .ok (.goto 4, 3) := by decide +kernel
theorem d_Model_creates_160 : decode c_Model_creates 160 = .ok (.iconst 0, 1) := by decide +kernel
theorem d_Model_creates_161 : decode c_Model_creates 161 = .ok (.bipush 8, 2) := by decide +kernel
theorem d_Model_creates_163 : decode c_Model_creates 163 = .ok (.invokevirtual 249, 3) := by decide +kernel
theorem d_Model_creates_166 : decode c_Model_creates 166 = .ok (.ifCond .ne 26, 3) := by decide +kernel
theorem d_Model_creates_169 : decode c_Model_creates 169 = .ok (.aload_n 0, 1) := by decide +kernel
theorem d_Model_creates_170 : decode c_Model_creates 170 = .ok (.aload_n 0, 1) := by decide +kernel
theorem d_Model_creates_171 : decode c_Model_creates 171 = .ok (.getfield 40, 3) := by decide +kernel
theorem d_Model_creates_174 : decode c_Model_creates 174 = .ok (.bipush 60, 2) := by decide +kernel
theorem d_Model_creates_176 : decode c_Model_creates 176 = .ok (.if_icmp .ne 7, 3) := by decide +kernel
theorem d_Model_creates_179 : decode c_Model_creates 179 = .ok (.iconst 1, 1) := by decide +kernel
theorem d_Model_creates_180 : decode c_Model_creates 180 = .ok (.goto 4, 3) := by decide +kernel
theorem d_Model_creates_183 : decode c_Model_creates 183 = .ok (.iconst 0, 1) := by decide +kernel
theorem d_Model_creates_184 : decode c_Model_creates 184 = .ok (.bipush 9, 2) := by decide +kernel
theorem d_Model_creates_186 : decode c_Model_creates 186 = .ok (.invokevirtual 249, 3) := by decide +kernel
theorem d_Model_creates_189 : decode c_Model_creates 189 = .ok (.ifCond .eq 4, 3) := by decide +kernel
theorem d_Model_creates_192 : decode c_Model_creates 192 = .ok (.return_, 1) := by decide +kernel
theorem d_Model_creates_193 : decode c_Model_creates 193 = .ok (.iconst 0, 1) := by decide +kernel
theorem d_Model_creates_194 : decode c_Model_creates 194 = .ok (.aload_n 0, 1) := by decide +kernel
theorem d_Model_creates_195 : decode c_Model_creates 195 = .ok (.getfield 40, 3) := by decide +kernel
theorem d_Model_creates_198 : decode c_Model_creates 198 = .ok (.invokestatic 96, 3) := by decide +kernel
theorem d_Model_creates_201 : decode c_Model_creates 201 = .ok (.istore_n 3, 1) := by decide +kernel
theorem d_Model_creates_202 : decode c_Model_creates 202 = .ok (.aload_n 0, 1) := by decide +kernel
theorem d_Model_creates_203 : decode c_Model_creates 203 = .ok (.getfield 9, 3) := by decide +kernel
theorem d_Model_creates_206 : decode c_Model_creates 206 = .ok (.iload_n 3, 1) := by decide +kernel
theorem d_Model_creates_207 : decode c_Model_creates 207 = .ok (.iconst 1, 1) := by decide +kernel
theorem d_Model_creates_208 : decode c_Model_creates 208 = .ok (.bastore, 1) := by decide +kernel
theorem d_Model_creates_209 : decode c_Model_creates 209 = .ok (.aload_n 0, 1) := by decide +kernel
theorem d_Model_creates_210 : decode c_Model_creates 210 = .ok (.getfield 13, 3) := by decide +kernel
theorem d_Model_creates_213 : decode c_Model_creates 213 = .ok (.iload_n 3, 1) := by decide +kernel
theorem d_Model_creates_214 : decode c_Model_creates 214 = .ok (.aload_n 0, 1) := by decide +kernel
theorem d_Model_creates_215 : decode c_Model_creates 215 = .ok (.getfield 56, 3) := by decide +kernel
theorem d_Model_creates_218 : decode c_Model_creates 218 = .ok (.iload_n 1, 1) := by decide +kernel
theorem d_Model_creates_219 : decode c_Model_creates 219 = .ok (.iaload, 1) := by decide +kernel
theorem d_Model_creates_220 : decode c_Model_creates 220 = .ok (.iastore, 1) := by decide +kernel
theorem d_Model_creates_221 : decode c_Model_creates 221 = .ok (.aload_n 0, 1) := by decide +kernel
theorem d_Model_creates_222 : decode c_Model_creates 222 = .ok (.getfield 17, 3) := by decide +kernel
theorem d_Model_creates_225 : decode c_Model_creates 225 = .ok (.iload_n 3, 1) := by decide +kernel
theorem d_Model_creates_226 : decode c_Model_creates 226 = .ok (.aload_n 0, 1) := by decide +kernel
theorem d_Model_creates_227 : decode c_Model_creates 227 = .ok (.getfield 159, 3) := by decide +kernel
theorem d_Model_creates_230 : decode c_Model_creates 230 = .ok (.ldc 95, 2) := by decide +kernel
theorem d_Model_creates_232 : decode c_Model_creates 232 = .ok (.iand, 1) := by decide +kernel
theorem d_Model_creates_233 : decode c_Model_creates 233 = .ok (.iastore, 1) := by decide +kernel
theorem d_Model_creates_234 : decode c_Model_creates 234 = .ok (.aload_n 0, 1) := by decide +kernel
theorem d_Model_creates_235 : decode c_Model_creates 235 = .ok (.getfield 20, 3) := by decide +kernel
theorem d_Model_creates_238 : decode c_Model_creates 238 = .ok (.iload_n 3, 1) := by decide +kernel
theorem d_Model_creates_239 : decode c_Model_creates 239 = .ok (.iconst 0, 1) := by decide +kernel
theorem d_Model_creates_240 : decode c_Model_creates 240 = .ok (.iastore, 1) := by decide +kernel
theorem d_Model_creates_241 : decode c_Model_creates 241 = .ok (.aload_n 0, 1) := by decide +kernel
theorem d_Model_creates_242 : decode c_Model_creates 242 = .ok (.getfield 23, 3) := by decide +kernel
theorem d_Model_creates_245 : decode c_Model_creates 245 = .ok (.iload_n 3, 1) := by decide +kernel
theorem d_Model_creates_246 : decode c_Model_creates 246 = .ok (.aload_n 0, 1) := by decide +kernel
theorem d_Model_creates_247 : decode c_Model_creates 247 = .ok (.getfield 100, 3) := by decide +kernel
theorem d_Model_creates_250 : decode c_Model_creates 250 = .ok (.iastore, 1) := by decide +kernel
theorem d_Model_creates_251 : decode c_Model_creates 251 = .ok (.aload_n 0, 1) := by decide +kernel
theorem d_Model_creates_252 : decode c_Model_creates 252 = .ok (.getfield 26, 3) := by decide +kernel
theorem d_Model_creates_255 : decode c_Model_creates 255 = .ok (.iload_n 3, 1) := by decide +kernel
theorem d_Model_creates_256 : decode c_Model_creates 256 = .ok (.iconst 0, 1) := by decide +kernel
theorem d_Model_creates_257 : decode c_Model_creates 257 = .ok (.iastore, 1) := by decide +kernel
theorem d_Model_creates_258 : decode c_Model_creates 258 = .ok (.aload_n 0, 1) := by decide +kernel
theorem d_Model_creates_259 : decode c_Model_creates 259 = .ok (.iload_n 3, 1) := by decide +kernel
theorem d_Model_creates_260 : decode c_Model_creates 260 = .ok (.aload_n 0, 1) := by decide +kernel
theorem d_Model_creates_261 : decode c_Model_creates 261 = .ok (.getfield 141, 3) := by decide +kernel
theorem d_Model_creates_264 : decode c_Model_creates 264 = .ok (.aload_n 0, 1) := by decide +kernel
theorem d_Model_creates_265 : decode c_Model_creates 265 = .ok (.getfield 144, 3) := by decide +kernel
theorem d_Model_creates_268 : decode c_Model_creates 268 = .ok (.invokevirtual 340, 3) := by decide +kernel
theorem d_Model_creates_271 : decode c_Model_creates 271 = .ok (.aload_n 0, 1) := by decide +kernel
theorem d_Model_creates_272 : decode c_Model_creates 272 = .ok (.iload_n 2, 1) := by decide +kernel
theorem d_Model_creates_273 : decode c_Model_creates 273 = .ok (.invokevirtual 334, 3) := by decide +kernel
theorem d_Model_creates_276 : decode c_Model_creates 276 = .ok (.aload_n 0, 1) := by decide +kernel
theorem d_Model_creates_277 : decode c_Model_creates 277 = .ok (.iload_n 1, 1) := by decide +kernel
theorem d_Model_creates_278 : decode c_Model_creates 278 = .ok (.aload_n 0, 1) := by decide +kernel
theorem d_Model_creates_279 : decode c_Model_creates 279 = .ok (.getfield 50, 3) := by decide +kernel
theorem d_Model_creates_282 : decode c_Model_creates 282 = .ok (.iload_n 1, 1) := by decide +kernel
theorem d_Model_creates_283 : decode c_Model_creates 283 = .ok (.iaload, 1) := by decide +kernel
theorem d_Model_creates_284 : decode c_Model_creates 284 = .ok (.iconst 0, 1) := by decide +kernel
theorem d_Model_creates_285 : decode c_Model_creates 285 = .ok (.aload_n 0, 1) := by decide +kernel
theorem d_Model_creates_286 : decode c_Model_creates 286 = .ok (.getfield 40, 3) := by decide +kernel
theorem d_Model_creates_289 : decode c_Model_creates 289 = .ok (.invokevirtual 318, 3) := by decide +kernel
theorem d_Model_creates_292 : decode c_Model_creates 292 = .ok (.aload_n 0, 1) := by decide +kernel
theorem d_Model_creates_293 : decode c_Model_creates 293 = .ok (.getfield 59, 3) := by decide +kernel
theorem d_Model_creates_296 : decode c_Model_creates 296 = .ok (.iload_n 1, 1) := by decide +kernel
theorem d_Model_creates_297 : decode c_Model_creates 297 = .ok (.aload_n 0, 1) := by decide +kernel
theorem d_Model_creates_298 : decode c_Model_creates 298 = .ok (.getfield 156, 3) := by decide +kernel
theorem d_Model_creates_301 : decode c_Model_creates 301 = .ok (.iastore, 1) := by decide +kernel
theorem d_Model_creates_302 : decode c_Model_creates 302 = .ok (.aload_n 0, 1) := by decide +kernel
theorem d_Model_creates_303 : decode c_Model_creates 303 = .ok (.dup, 1) := by decide +kernel
theorem d_Model_creates_304 : decode c_Model_creates 304 = .ok (.getfield 40, 3) := by decide +kernel
theorem d_Model_creates_307 : decode c_Model_creates 307 = .ok (.iconst 1, 1) := by decide +kernel
theorem d_Model_creates_308 : decode c_Model_creates 308 = .ok (.iadd, 1) := by decide +kernel
theorem d_Model_creates_309 : decode c_Model_creates 309 = .ok (.putfield 40, 3) := by decide +kernel
theorem d_Model_creates_312 : decode c_Model_creates 312 = .ok (.aload_n 0, 1) := by decide +kernel
theorem d_Model_creates_313 : decode c_Model_creates 313 = .ok (.iconst 0, 1) := by decide +kernel
theorem d_Model_creates_314 : decode c_Model_creates 314 = .ok (.aload_n 0, 1) := by decide +kernel
theorem d_Model_creates_315 : decode c_Model_creates 315 = .ok (.getfield 56, 3) := by decide +kernel
theorem d_Model_creates_318 : decode c_Model_creates 318 = .ok (.iload_n 1, 1) := by decide +kernel
theorem d_Model_creates_319 : decode c_Model_creates 319 = .ok (.iaload, 1) := by decide +kernel
theorem d_Model_creates_320 : decode c_Model_creates 320 = .ok (.invokevirtual 235, 3) := by decide +kernel
theorem d_Model_creates_323 : decode c_Model_creates 323 = .ok (.aload_n 0, 1) := by decide +kernel
theorem d_Model_creates_324 : decode c_Model_creates 324 = .ok (.lconst 0, 1) := by decide +kernel
theorem d_Model_creates_325 : decode c_Model_creates 325 = .ok (.iconst 4, 1) := by decide +kernel
theorem d_Model_creates_326 : decode c_Model_creates 326 = .ok (.invokevirtual 212, 3) := by decide +kernel
theorem d_Model_creates_329 : decode c_Model_creates 329 = .ok (.return_, 1) := by decide +kernel
abbrev c_Model_readsOf : ByteArray := prog_14_method_38_code
def y_Model_readsOf : MethodName := ⟨"EpochServerModel", "readsOf", "(I)V"⟩
theorem d_Model_readsOf_0 : decode c_Model_readsOf 0 = .ok (.aload_n 0, 1) := by decide +kernel
theorem d_Model_readsOf_1 : decode c_Model_readsOf 1 = .ok (.aload_n 0, 1) := by decide +kernel
theorem d_Model_readsOf_2 : decode c_Model_readsOf 2 = .ok (.getfield 59, 3) := by decide +kernel
theorem d_Model_readsOf_5 : decode c_Model_readsOf 5 = .ok (.iload_n 1, 1) := by decide +kernel
theorem d_Model_readsOf_6 : decode c_Model_readsOf 6 = .ok (.iaload, 1) := by decide +kernel
theorem d_Model_readsOf_7 : decode c_Model_readsOf 7 = .ok (.ifCond .lt 15, 3) := by decide +kernel
theorem d_Model_readsOf_10 : decode c_Model_readsOf 10 = .ok (.aload_n 0, 1) := by decide +kernel
theorem d_Model_readsOf_11 : decode c_Model_readsOf 11 = .ok (.getfield 59, 3) := by decide +kernel
theorem d_Model_readsOf_14 : decode c_Model_readsOf 14 = .ok (.iload_n 1, 1) := by decide +kernel
theorem d_Model_readsOf_15 : decode c_Model_readsOf 15 = .ok (.iaload, 1) := by decide +kernel
theorem d_Model_readsOf_16 : decode c_Model_readsOf 16 = .ok (.iconst 3, 1) := by decide +kernel
theorem d_Model_readsOf_17 : decode c_Model_readsOf 17 = .ok (.iand, 1) := by decide +kernel
theorem d_Model_readsOf_18 : decode c_Model_readsOf 18 = .ok (.iconst 1, 1) := by decide +kernel
theorem d_Model_readsOf_19 : decode c_Model_readsOf 19 = .ok (.if_icmp .ne 7, 3) := by decide +kernel
theorem d_Model_readsOf_22 : decode c_Model_readsOf 22 = .ok (.iconst 1, 1) := by decide +kernel
theorem d_Model_readsOf_23 : decode c_Model_readsOf 23 = .ok (.goto 4, 3) := by decide +kernel
theorem d_Model_readsOf_26 : decode c_Model_readsOf 26 = .ok (.iconst 0, 1) := by decide +kernel
theorem d_Model_readsOf_27 : decode c_Model_readsOf 27 = .ok (.iconst 3, 1) := by decide +kernel
theorem d_Model_readsOf_28 : decode c_Model_readsOf 28 = .ok (.invokevirtual 249, 3) := by decide +kernel
theorem d_Model_readsOf_31 : decode c_Model_readsOf 31 = .ok (.ifCond .eq 4, 3) := by decide +kernel
theorem d_Model_readsOf_34 : decode c_Model_readsOf 34 = .ok (.return_, 1) := by decide +kernel
theorem d_Model_readsOf_35 : decode c_Model_readsOf 35 = .ok (.aload_n 0, 1) := by decide +kernel
theorem d_Model_readsOf_36 : decode c_Model_readsOf 36 = .ok (.getfield 134, 3) := by decide +kernel
theorem d_Model_readsOf_39 : decode c_Model_readsOf 39 = .ok (.aload_n 0, 1) := by decide +kernel
theorem d_Model_readsOf_40 : decode c_Model_readsOf 40 = .ok (.getfield 246, 3) := by decide +kernel
theorem d_Model_readsOf_43 : decode c_Model_readsOf 43 = .ok (.bipush 11, 2) := by decide +kernel
theorem d_Model_readsOf_45 : decode c_Model_readsOf 45 = .ok (.isub, 1) := by decide +kernel
theorem d_Model_readsOf_46 : decode c_Model_readsOf 46 = .ok (.i2l, 1) := by decide +kernel
theorem d_Model_readsOf_47 : decode c_Model_readsOf 47 = .ok (.lcmp, 1) := by decide +kernel
theorem d_Model_readsOf_48 : decode c_Model_readsOf 48 = .ok (.ifCond .le 13, 3) := by decide +kernel
theorem d_Model_readsOf_51 : decode c_Model_readsOf 51 = .ok (.aload_n 0, 1) := by decide +kernel
theorem d_Model_readsOf_52 : decode c_Model_readsOf 52 = .ok (.getfield 246, 3) := by decide +kernel
theorem d_Model_readsOf_55 : decode c_Model_readsOf 55 = .ok (.bipush 11, 2) := by decide +kernel
theorem d_Model_readsOf_57 : decode c_Model_readsOf 57 = .ok (.isub, 1) := by decide +kernel
theorem d_Model_readsOf_58 : decode c_Model_readsOf 58 = .ok (.goto 8, 3) := by decide +kernel
theorem d_Model_readsOf_61 : decode c_Model_readsOf 61 = .ok (.aload_n 0, 1) := by decide +kernel
theorem d_Model_readsOf_62 : decode c_Model_readsOf 62 = .ok (.getfield 134, 3) := by decide +kernel
theorem d_Model_readsOf_65 : decode c_Model_readsOf 65 = .ok (.l2i, 1) := by decide +kernel
theorem d_Model_readsOf_66 : decode c_Model_readsOf 66 = .ok (.istore_n 2, 1) := by decide +kernel
theorem d_Model_readsOf_67 : decode c_Model_readsOf 67 = .ok (.aload_n 0, 1) := by decide +kernel
theorem d_Model_readsOf_68 : decode c_Model_readsOf 68 = .ok (.getfield 53, 3) := by decide +kernel
theorem d_Model_readsOf_71 : decode c_Model_readsOf 71 = .ok (.iload_n 1, 1) := by decide +kernel
theorem d_Model_readsOf_72 : decode c_Model_readsOf 72 = .ok (.iaload, 1) := by decide +kernel
theorem d_Model_readsOf_73 : decode c_Model_readsOf 73 = .ok (.aload_n 0, 1) := by decide +kernel
theorem d_Model_readsOf_74 : decode c_Model_readsOf 74 = .ok (.getfield 56, 3) := by decide +kernel
theorem d_Model_readsOf_77 : decode c_Model_readsOf 77 = .ok (.iload_n 1, 1) := by decide +kernel
theorem d_Model_readsOf_78 : decode c_Model_readsOf 78 = .ok (.iaload, 1) := by decide +kernel
theorem d_Model_readsOf_79 : decode c_Model_readsOf 79 = .ok (.invokestatic 96, 3) := by decide +kernel
theorem d_Model_readsOf_82 : decode c_Model_readsOf 82 = .ok (.istore_n 3, 1) := by decide +kernel
theorem d_Model_readsOf_83 : decode c_Model_readsOf 83 = .ok (.aload_n 0, 1) := by decide +kernel
theorem d_Model_readsOf_84 : decode c_Model_readsOf 84 = .ok (.getfield 197, 3) := by decide +kernel
theorem d_Model_readsOf_87 : decode c_Model_readsOf 87 = .ok (.istore 4, 2) := by decide +kernel
theorem d_Model_readsOf_89 : decode c_Model_readsOf 89 = .ok (.aload_n 0, 1) := by decide +kernel
theorem d_Model_readsOf_90 : decode c_Model_readsOf 90 = .ok (.iload_n 3, 1) := by decide +kernel
theorem d_Model_readsOf_91 : decode c_Model_readsOf 91 = .ok (.invokevirtual 230, 3) := by decide +kernel
theorem d_Model_readsOf_94 : decode c_Model_readsOf 94 = .ok (.ifCond .ne 82, 3) := by decide +kernel
theorem d_Model_readsOf_97 : decode c_Model_readsOf 97 = .ok (.aload_n 0, 1) := by decide +kernel
theorem d_Model_readsOf_98 : decode c_Model_readsOf 98 = .ok (.lconst 0, 1) := by decide +kernel
theorem d_Model_readsOf_99 : decode c_Model_readsOf 99 = .ok (.iconst 4, 1) := by decide +kernel
theorem d_Model_readsOf_100 : decode c_Model_readsOf 100 = .ok (.invokevirtual 212, 3) := by decide +kernel
theorem d_Model_readsOf_103 : decode c_Model_readsOf 103 = .ok (.aload_n 0, 1) := by decide +kernel
theorem d_Model_readsOf_104 : decode c_Model_readsOf 104 = .ok (.getfield 162, 3) := by decide +kernel
theorem d_Model_readsOf_107 : decode c_Model_readsOf 107 = .ok (.lstore 5, 2) := by decide +kernel
theorem d_Model_readsOf_109 : decode c_Model_readsOf 109 = .ok (.aload_n 0, 1) := by decide +kernel
theorem d_Model_readsOf_110 : decode c_Model_readsOf 110 = .ok (.getfield 162, 3) := by decide +kernel
theorem d_Model_readsOf_113 : decode c_Model_readsOf 113 = .ok (.lconst 0, 1) := by decide +kernel
theorem d_Model_readsOf_114 : decode c_Model_readsOf 114 = .ok (.lcmp, 1) := by decide +kernel
theorem d_Model_readsOf_115 : decode c_Model_readsOf 115 = .ok (.ifCond .lt 58, 3) := by decide +kernel
theorem d_Model_readsOf_118 : decode c_Model_readsOf 118 = .ok (.lload 5, 2) := by decide +kernel
theorem d_Model_readsOf_120 : decode c_Model_readsOf 120 = .ok (.aload_n 0, 1) := by decide +kernel
theorem d_Model_readsOf_121 : decode c_Model_readsOf 121 = .ok (.getfield 26, 3) := by decide +kernel
theorem d_Model_readsOf_124 : decode c_Model_readsOf 124 = .ok (.iload_n 3, 1) := by decide +kernel
theorem d_Model_readsOf_125 : decode c_Model_readsOf 125 = .ok (.iaload, 1) := by decide +kernel
theorem d_Model_readsOf_126 : decode c_Model_readsOf 126 = .ok (.i2l, 1) := by decide +kernel
theorem d_Model_readsOf_127 : decode c_Model_readsOf 127 = .ok (.lcmp, 1) := by decide +kernel
theorem d_Model_readsOf_128 : decode c_Model_readsOf 128 = .ok (.ifCond .ge 45, 3) := by decide +kernel
theorem d_Model_readsOf_131 : decode c_Model_readsOf 131 = .ok (.lload 5, 2) := by decide +kernel
theorem d_Model_readsOf_133 : decode c_Model_readsOf 133 = .ok (.aload_n 0, 1) := by decide +kernel
theorem d_Model_readsOf_134 : decode c_Model_readsOf 134 = .ok (.getfield 162, 3) := by decide +kernel
theorem d_Model_readsOf_137 : decode c_Model_readsOf 137 = .ok (.lsub, 1) := by decide +kernel
theorem d_Model_readsOf_138 : decode c_Model_readsOf 138 = .ok (.iload_n 2, 1) := by decide +kernel
theorem d_Model_readsOf_139 : decode c_Model_readsOf 139 = .ok (.i2l, 1) := by decide +kernel
theorem d_Model_readsOf_140 : decode c_Model_readsOf 140 = .ok (.lcmp, 1) := by decide +kernel
theorem d_Model_readsOf_141 : decode c_Model_readsOf 141 = .ok (.ifCond .ge 32, 3) := by decide +kernel
theorem d_Model_readsOf_144 : decode c_Model_readsOf 144 = .ok (.aload_n 0, 1) := by decide +kernel
theorem d_Model_readsOf_145 : decode c_Model_readsOf 145 = .ok (.aload_n 0, 1) := by decide +kernel
theorem d_Model_readsOf_146 : decode c_Model_readsOf 146 = .ok (.getfield 37, 3) := by decide +kernel
theorem d_Model_readsOf_149 : decode c_Model_readsOf 149 = .ok (.sipush 512, 3) := by decide +kernel
theorem d_Model_readsOf_152 : decode c_Model_readsOf 152 = .ok (.iload_n 3, 1) := by decide +kernel
theorem d_Model_readsOf_153 : decode c_Model_readsOf 153 = .ok (.imul, 1) := by decide +kernel
theorem d_Model_readsOf_154 : decode c_Model_readsOf 154 = .ok (.lload 5, 2) := by decide +kernel
theorem d_Model_readsOf_156 : decode c_Model_readsOf 156 = .ok (.l2i, 1) := by decide +kernel
theorem d_Model_readsOf_157 : decode c_Model_readsOf 157 = .ok (.iadd, 1) := by decide +kernel
theorem d_Model_readsOf_158 : decode c_Model_readsOf 158 = .ok (.iaload, 1) := by decide +kernel
theorem d_Model_readsOf_159 : decode c_Model_readsOf 159 = .ok (.i2l, 1) := by decide +kernel
theorem d_Model_readsOf_160 : decode c_Model_readsOf 160 = .ok (.iconst 1, 1) := by decide +kernel
theorem d_Model_readsOf_161 : decode c_Model_readsOf 161 = .ok (.invokevirtual 212, 3) := by decide +kernel
theorem d_Model_readsOf_164 : decode c_Model_readsOf 164 = .ok (.lload 5, 2) := by decide +kernel
theorem d_Model_readsOf_166 : decode c_Model_readsOf 166 = .ok (.lconst 1, 1) := by decide +kernel
theorem d_Model_readsOf_167 : decode c_Model_readsOf 167 = .ok (.ladd, 1) := by decide +kernel
theorem d_Model_readsOf_168 : decode c_Model_readsOf 168 = .ok (.lstore 5, 2) := by decide +kernel
theorem d_Model_readsOf_170 : decode c_Model_readsOf 170 = .ok (.goto (-61), 3) := by decide +kernel
theorem d_Model_readsOf_173 : decode c_Model_readsOf 173 = .ok (.goto 204, 3) := by decide +kernel
theorem d_Model_readsOf_176 : decode c_Model_readsOf 176 = .ok (.aload_n 0, 1) := by decide +kernel
theorem d_Model_readsOf_177 : decode c_Model_readsOf 177 = .ok (.aload_n 0, 1) := by decide +kernel
theorem d_Model_readsOf_178 : decode c_Model_readsOf 178 = .ok (.getfield 162, 3) := by decide +kernel
theorem d_Model_readsOf_181 : decode c_Model_readsOf 181 = .ok (.lconst 0, 1) := by decide +kernel
theorem d_Model_readsOf_182 : decode c_Model_readsOf 182 = .ok (.lcmp, 1) := by decide +kernel
theorem d_Model_readsOf_183 : decode c_Model_readsOf 183 = .ok (.ifCond .eq 22, 3) := by decide +kernel
theorem d_Model_readsOf_186 : decode c_Model_readsOf 186 = .ok (.aload_n 0, 1) := by decide +kernel
theorem d_Model_readsOf_187 : decode c_Model_readsOf 187 = .ok (.getfield 162, 3) := by decide +kernel
theorem d_Model_readsOf_190 : decode c_Model_readsOf 190 = .ok (.aload_n 0, 1) := by decide +kernel
theorem d_Model_readsOf_191 : decode c_Model_readsOf 191 = .ok (.getfield 62, 3) := by decide +kernel
theorem d_Model_readsOf_194 : decode c_Model_readsOf 194 = .ok (.iload_n 1, 1) := by decide +kernel
theorem d_Model_readsOf_195 : decode c_Model_readsOf 195 = .ok (.iaload, 1) := by decide +kernel
theorem d_Model_readsOf_196 : decode c_Model_readsOf 196 = .ok (.i2l, 1) := by decide +kernel
theorem d_Model_readsOf_197 : decode c_Model_readsOf 197 = .ok (.lcmp, 1) := by decide +kernel
theorem d_Model_readsOf_198 : decode c_Model_readsOf 198 = .ok (.ifCond .eq 7, 3) := by decide +kernel
theorem d_Model_readsOf_201 : decode c_Model_readsOf 201 = .ok (.iconst 1, 1) := by decide +kernel
theorem d_Model_readsOf_202 : decode c_Model_readsOf 202 = .ok (.goto 4, 3) := by decide +kernel
theorem d_Model_readsOf_205 : decode c_Model_readsOf 205 = .ok (.iconst 0, 1) := by decide +kernel
theorem d_Model_readsOf_206 : decode c_Model_readsOf 206 = .ok (.iconst 5, 1) := by decide +kernel
theorem d_Model_readsOf_207 : decode c_Model_readsOf 207 = .ok (.invokevirtual 249, 3) := by decide +kernel
theorem d_Model_readsOf_210 : decode c_Model_readsOf 210 = .ok (.ifCond .eq 4, 3) := by decide +kernel
theorem d_Model_readsOf_213 : decode c_Model_readsOf 213 = .ok (.return_, 1) := by decide +kernel
theorem d_Model_readsOf_214 : decode c_Model_readsOf 214 = .ok (.aload_n 0, 1) := by decide +kernel
theorem d_Model_readsOf_215 : decode c_Model_readsOf 215 = .ok (.getfield 162, 3) := by decide +kernel
theorem d_Model_readsOf_218 : decode c_Model_readsOf 218 = .ok (.lconst 0, 1) := by decide +kernel
theorem d_Model_readsOf_219 : decode c_Model_readsOf 219 = .ok (.lcmp, 1) := by decide +kernel
theorem d_Model_readsOf_220 : decode c_Model_readsOf 220 = .ok (.ifCond .ne 17, 3) := by decide +kernel
theorem d_Model_readsOf_223 : decode c_Model_readsOf 223 = .ok (.aload_n 0, 1) := by decide +kernel
theorem d_Model_readsOf_224 : decode c_Model_readsOf 224 = .ok (.getfield 62, 3) := by decide +kernel
theorem d_Model_readsOf_227 : decode c_Model_readsOf 227 = .ok (.iload_n 1, 1) := by decide +kernel
theorem d_Model_readsOf_228 : decode c_Model_readsOf 228 = .ok (.iconst 0, 1) := by decide +kernel
theorem d_Model_readsOf_229 : decode c_Model_readsOf 229 = .ok (.iastore, 1) := by decide +kernel
theorem d_Model_readsOf_230 : decode c_Model_readsOf 230 = .ok (.aload_n 0, 1) := by decide +kernel
theorem d_Model_readsOf_231 : decode c_Model_readsOf 231 = .ok (.getfield 65, 3) := by decide +kernel
theorem d_Model_readsOf_234 : decode c_Model_readsOf 234 = .ok (.iload_n 1, 1) := by decide +kernel
theorem d_Model_readsOf_235 : decode c_Model_readsOf 235 = .ok (.iconst (-1), 1) := by decide +kernel
theorem d_Model_readsOf_236 : decode c_Model_readsOf 236 = .ok (.iastore, 1) := by decide +kernel
theorem d_Model_readsOf_237 : decode c_Model_readsOf 237 = .ok (.aload_n 0, 1) := by decide +kernel
theorem d_Model_readsOf_238 : decode c_Model_readsOf 238 = .ok (.lconst 0, 1) := by decide +kernel
theorem d_Model_readsOf_239 : decode c_Model_readsOf 239 = .ok (.iconst 4, 1) := by decide +kernel
theorem d_Model_readsOf_240 : decode c_Model_readsOf 240 = .ok (.invokevirtual 212, 3) := by decide +kernel
theorem d_Model_readsOf_243 : decode c_Model_readsOf 243 = .ok (.iconst 1, 1) := by decide +kernel
theorem d_Model_readsOf_244 : decode c_Model_readsOf 244 = .ok (.istore 5, 2) := by decide +kernel
theorem d_Model_readsOf_246 : decode c_Model_readsOf 246 = .ok (.iload 5, 2) := by decide +kernel
theorem d_Model_readsOf_248 : decode c_Model_readsOf 248 = .ok (.bipush 60, 2) := by decide +kernel
theorem d_Model_readsOf_250 : decode c_Model_readsOf 250 = .ok (.if_icmp .ge 109, 3) := by decide +kernel
theorem d_Model_readsOf_253 : decode c_Model_readsOf 253 = .ok (.aload_n 0, 1) := by decide +kernel
theorem d_Model_readsOf_254 : decode c_Model_readsOf 254 = .ok (.getfield 53, 3) := by decide +kernel
theorem d_Model_readsOf_257 : decode c_Model_readsOf 257 = .ok (.iload_n 1, 1) := by decide +kernel
theorem d_Model_readsOf_258 : decode c_Model_readsOf 258 = .ok (.iaload, 1) := by decide +kernel
theorem d_Model_readsOf_259 : decode c_Model_readsOf 259 = .ok (.iload 5, 2) := by decide +kernel
theorem d_Model_readsOf_261 : decode c_Model_readsOf 261 = .ok (.invokestatic 96, 3) := by decide +kernel
theorem d_Model_readsOf_264 : decode c_Model_readsOf 264 = .ok (.istore 6, 2) := by decide +kernel
theorem d_Model_readsOf_266 : decode c_Model_readsOf 266 = .ok (.iload 5, 2) := by decide +kernel
theorem d_Model_readsOf_268 : decode c_Model_readsOf 268 = .ok (.aload_n 0, 1) := by decide +kernel
theorem d_Model_readsOf_269 : decode c_Model_readsOf 269 = .ok (.getfield 65, 3) := by decide +kernel
theorem d_Model_readsOf_272 : decode c_Model_readsOf 272 = .ok (.iload_n 1, 1) := by decide +kernel
theorem d_Model_readsOf_273 : decode c_Model_readsOf 273 = .ok (.iaload, 1) := by decide +kernel
theorem d_Model_readsOf_274 : decode c_Model_readsOf 274 = .ok (.if_icmp .le 79, 3) := by decide +kernel
theorem d_Model_readsOf_277 : decode c_Model_readsOf 277 = .ok (.aload_n 0, 1) := by decide +kernel
theorem d_Model_readsOf_278 : decode c_Model_readsOf 278 = .ok (.getfield 9, 3) := by decide +kernel
theorem d_Model_readsOf_281 : decode c_Model_readsOf 281 = .ok (.iload 6, 2) := by decide +kernel
theorem d_Model_readsOf_283 : decode c_Model_readsOf 283 = .ok (.baload, 1) := by decide +kernel
theorem d_Model_readsOf_284 : decode c_Model_readsOf 284 = .ok (.ifCond .eq 69, 3) := by decide +kernel
theorem d_Model_readsOf_287 : decode c_Model_readsOf 287 = .ok (.aload_n 0, 1) := by decide +kernel
theorem d_Model_readsOf_288 : decode c_Model_readsOf 288 = .ok (.getfield 13, 3) := by decide +kernel
theorem d_Model_readsOf_291 : decode c_Model_readsOf 291 = .ok (.iload 6, 2) := by decide +kernel
theorem d_Model_readsOf_293 : decode c_Model_readsOf 293 = .ok (.iaload, 1) := by decide +kernel
theorem d_Model_readsOf_294 : decode c_Model_readsOf 294 = .ok (.aload_n 0, 1) := by decide +kernel
theorem d_Model_readsOf_295 : decode c_Model_readsOf 295 = .ok (.getfield 56, 3) := by decide +kernel
theorem d_Model_readsOf_298 : decode c_Model_readsOf 298 = .ok (.iload_n 1, 1) := by decide +kernel
theorem d_Model_readsOf_299 : decode c_Model_readsOf 299 = .ok (.iaload, 1) := by decide +kernel
theorem d_Model_readsOf_300 : decode c_Model_readsOf 300 = .ok (.if_icmp .eq 6, 3) := by decide +kernel
theorem d_Model_readsOf_303 : decode c_Model_readsOf 303 = .ok (.goto 50, 3) := by decide +kernel
theorem d_Model_readsOf_306 : decode c_Model_readsOf 306 = .ok (.aload_n 0, 1) := by decide +kernel
theorem d_Model_readsOf_307 : decode c_Model_readsOf 307 = .ok (.getfield 197, 3) := by decide +kernel
theorem d_Model_readsOf_310 : decode c_Model_readsOf 310 = .ok (.iload 4, 2) := by decide +kernel
theorem d_Model_readsOf_312 : decode c_Model_readsOf 312 = .ok (.isub, 1) := by decide +kernel
theorem d_Model_readsOf_313 : decode c_Model_readsOf 313 = .ok (.iconst 4, 1) := by decide +kernel
theorem d_Model_readsOf_314 : decode c_Model_readsOf 314 = .ok (.isub, 1) := by decide +kernel
theorem d_Model_readsOf_315 : decode c_Model_readsOf 315 = .ok (.bipush 52, 2) := by decide +kernel
theorem d_Model_readsOf_317 : decode c_Model_readsOf 317 = .ok (.iadd, 1) := by decide +kernel
theorem d_Model_readsOf_318 : decode c_Model_readsOf 318 = .ok (.aload_n 0, 1) := by decide +kernel
theorem d_Model_readsOf_319 : decode c_Model_readsOf 319 = .ok (.getfield 29, 3) := by decide +kernel
theorem d_Model_readsOf_322 : decode c_Model_readsOf 322 = .ok (.iload 6, 2) := by decide +kernel
theorem d_Model_readsOf_324 : decode c_Model_readsOf 324 = .ok (.iaload, 1) := by decide +kernel
theorem d_Model_readsOf_325 : decode c_Model_readsOf 325 = .ok (.iadd, 1) := by decide +kernel
theorem d_Model_readsOf_326 : decode c_Model_readsOf 326 = .ok (.iload_n 2, 1) := by decide +kernel
theorem d_Model_readsOf_327 : decode c_Model_readsOf 327 = .ok (.if_icmp .le 6, 3) := by decide +kernel
theorem d_Model_readsOf_330 : decode c_Model_readsOf 330 = .ok (.goto 29, 3) := by decide +kernel
theorem d_Model_readsOf_333 : decode c_Model_readsOf 333 = .ok (.aload_n 0, 1) := by decide +kernel
theorem d_Model_readsOf_334 : decode c_Model_readsOf 334 = .ok (.aload_n 0, 1) := by decide +kernel
theorem d_Model_readsOf_335 : decode c_Model_readsOf 335 = .ok (.getfield 53, 3) := by decide +kernel
theorem d_Model_readsOf_338 : decode c_Model_readsOf 338 = .ok (.iload_n 1, 1) := by decide +kernel
theorem d_Model_readsOf_339 : decode c_Model_readsOf 339 = .ok (.iaload, 1) := by decide +kernel
theorem d_Model_readsOf_340 : decode c_Model_readsOf 340 = .ok (.iload 5, 2) := by decide +kernel
theorem d_Model_readsOf_342 : decode c_Model_readsOf 342 = .ok (.invokevirtual 291, 3) := by decide +kernel
theorem d_Model_readsOf_345 : decode c_Model_readsOf 345 = .ok (.aload_n 0, 1) := by decide +kernel
theorem d_Model_readsOf_346 : decode c_Model_readsOf 346 = .ok (.getfield 65, 3) := by decide +kernel
theorem d_Model_readsOf_349 : decode c_Model_readsOf 349 = .ok (.iload_n 1, 1) := by decide +kernel
theorem d_Model_readsOf_350 : decode c_Model_readsOf 350 = .ok (.iload 5, 2) := by decide +kernel
theorem d_Model_readsOf_352 : decode c_Model_readsOf 352 = .ok (.iastore, 1) := by decide +kernel
theorem d_Model_readsOf_353 : decode c_Model_readsOf 353 = .ok (.iinc 5 1, 3) := by decide +kernel
theorem d_Model_readsOf_356 : decode c_Model_readsOf 356 = .ok (.goto (-110), 3) := by decide +kernel
theorem d_Model_readsOf_359 : decode c_Model_readsOf 359 = .ok (.aload_n 0, 1) := by decide +kernel
theorem d_Model_readsOf_360 : decode c_Model_readsOf 360 = .ok (.getfield 62, 3) := by decide +kernel
theorem d_Model_readsOf_363 : decode c_Model_readsOf 363 = .ok (.iload_n 1, 1) := by decide +kernel
theorem d_Model_readsOf_364 : decode c_Model_readsOf 364 = .ok (.dup2, 1) := by decide +kernel
theorem d_Model_readsOf_365 : decode c_Model_readsOf 365 = .ok (.iaload, 1) := by decide +kernel
theorem d_Model_readsOf_366 : decode c_Model_readsOf 366 = .ok (.aload_n 0, 1) := by decide +kernel
theorem d_Model_readsOf_367 : decode c_Model_readsOf 367 = .ok (.getfield 197, 3) := by decide +kernel
theorem d_Model_readsOf_370 : decode c_Model_readsOf 370 = .ok (.iload 4, 2) := by decide +kernel
theorem d_Model_readsOf_372 : decode c_Model_readsOf 372 = .ok (.isub, 1) := by decide +kernel
theorem d_Model_readsOf_373 : decode c_Model_readsOf 373 = .ok (.iconst 4, 1) := by decide +kernel
theorem d_Model_readsOf_374 : decode c_Model_readsOf 374 = .ok (.isub, 1) := by decide +kernel
theorem d_Model_readsOf_375 : decode c_Model_readsOf 375 = .ok (.iadd, 1) := by decide +kernel
theorem d_Model_readsOf_376 : decode c_Model_readsOf 376 = .ok (.iastore, 1) := by decide +kernel
theorem d_Model_readsOf_377 : decode c_Model_readsOf 377 = .ok (.aload_n 0, 1) := by decide +kernel
theorem d_Model_readsOf_378 : decode c_Model_readsOf 378 = .ok (.getfield 197, 3) := by decide +kernel
theorem d_Model_readsOf_381 : decode c_Model_readsOf 381 = .ok (.iload 4, 2) := by decide +kernel
theorem d_Model_readsOf_383 : decode c_Model_readsOf 383 = .ok (.isub, 1) := by decide +kernel
theorem d_Model_readsOf_384 : decode c_Model_readsOf 384 = .ok (.iconst 4, 1) := by decide +kernel
theorem d_Model_readsOf_385 : decode c_Model_readsOf 385 = .ok (.isub, 1) := by decide +kernel
theorem d_Model_readsOf_386 : decode c_Model_readsOf 386 = .ok (.istore 5, 2) := by decide +kernel
theorem d_Model_readsOf_388 : decode c_Model_readsOf 388 = .ok (.iconst 0, 1) := by decide +kernel
theorem d_Model_readsOf_389 : decode c_Model_readsOf 389 = .ok (.istore 6, 2) := by decide +kernel
theorem d_Model_readsOf_391 : decode c_Model_readsOf 391 = .ok (.iload 6, 2) := by decide +kernel
theorem d_Model_readsOf_393 : decode c_Model_readsOf 393 = .ok (.iconst 4, 1) := by decide +kernel
theorem d_Model_readsOf_394 : decode c_Model_readsOf 394 = .ok (.if_icmp .ge 31, 3) := by decide +kernel
theorem d_Model_readsOf_397 : decode c_Model_readsOf 397 = .ok (.aload_n 0, 1) := by decide +kernel
theorem d_Model_readsOf_398 : decode c_Model_readsOf 398 = .ok (.getfield 47, 3) := by decide +kernel
theorem d_Model_readsOf_401 : decode c_Model_readsOf 401 = .ok (.iload 4, 2) := by decide +kernel
theorem d_Model_readsOf_403 : decode c_Model_readsOf 403 = .ok (.iload 6, 2) := by decide +kernel
theorem d_Model_readsOf_405 : decode c_Model_readsOf 405 = .ok (.iadd, 1) := by decide +kernel
theorem d_Model_readsOf_406 : decode c_Model_readsOf 406 = .ok (.iload 5, 2) := by decide +kernel
theorem d_Model_readsOf_408 : decode c_Model_readsOf 408 = .ok (.bipush 8, 2) := by decide +kernel
theorem d_Model_readsOf_410 : decode c_Model_readsOf 410 = .ok (.iload 6, 2) := by decide +kernel
theorem d_Model_readsOf_412 : decode c_Model_readsOf 412 = .ok (.imul, 1) := by decide +kernel
theorem d_Model_readsOf_413 : decode c_Model_readsOf 413 = .ok (.ishr, 1) := by decide +kernel
theorem d_Model_readsOf_414 : decode c_Model_readsOf 414 = .ok (.sipush 255, 3) := by decide +kernel
theorem d_Model_readsOf_417 : decode c_Model_readsOf 417 = .ok (.iand, 1) := by decide +kernel
theorem d_Model_readsOf_418 : decode c_Model_readsOf 418 = .ok (.iastore, 1) := by decide +kernel
theorem d_Model_readsOf_419 : decode c_Model_readsOf 419 = .ok (.iinc 6 1, 3) := by decide +kernel
theorem d_Model_readsOf_422 : decode c_Model_readsOf 422 = .ok (.goto (-31), 3) := by decide +kernel
theorem d_Model_readsOf_425 : decode c_Model_readsOf 425 = .ok (.return_, 1) := by decide +kernel
abbrev c_Model_sizes : ByteArray := prog_14_method_39_code
def y_Model_sizes : MethodName := ⟨"EpochServerModel", "sizes", "(II)V"⟩
theorem d_Model_sizes_0 : decode c_Model_sizes 0 = .ok (.aload_n 0, 1) := by decide +kernel
theorem d_Model_sizes_1 : decode c_Model_sizes 1 = .ok (.getfield 26, 3) := by decide +kernel
theorem d_Model_sizes_4 : decode c_Model_sizes 4 = .ok (.iload_n 1, 1) := by decide +kernel
theorem d_Model_sizes_5 : decode c_Model_sizes 5 = .ok (.iaload, 1) := by decide +kernel
theorem d_Model_sizes_6 : decode c_Model_sizes 6 = .ok (.istore_n 3, 1) := by decide +kernel
theorem d_Model_sizes_7 : decode c_Model_sizes 7 = .ok (.iload_n 3, 1) := by decide +kernel
theorem d_Model_sizes_8 : decode c_Model_sizes 8 = .ok (.iload_n 2, 1) := by decide +kernel
theorem d_Model_sizes_9 : decode c_Model_sizes 9 = .ok (.if_icmp .ge 22, 3) := by decide +kernel
theorem d_Model_sizes_12 : decode c_Model_sizes 12 = .ok (.aload_n 0, 1) := by decide +kernel
theorem d_Model_sizes_13 : decode c_Model_sizes 13 = .ok (.getfield 37, 3) := by decide +kernel
theorem d_Model_sizes_16 : decode c_Model_sizes 16 = .ok (.sipush 512, 3) := by decide +kernel
theorem d_Model_sizes_19 : decode c_Model_sizes 19 = .ok (.iload_n 1, 1) := by decide +kernel
theorem d_Model_sizes_20 : decode c_Model_sizes 20 = .ok (.imul, 1) := by decide +kernel
theorem d_Model_sizes_21 : decode c_Model_sizes 21 = .ok (.iload_n 3, 1) := by decide +kernel
theorem d_Model_sizes_22 : decode c_Model_sizes 22 = .ok (.iadd, 1) := by decide +kernel
theorem d_Model_sizes_23 : decode c_Model_sizes 23 = .ok (.iconst 0, 1) := by decide +kernel
theorem d_Model_sizes_24 : decode c_Model_sizes 24 = .ok (.iastore, 1) := by decide +kernel
theorem d_Model_sizes_25 : decode c_Model_sizes 25 = .ok (.iinc 3 1, 3) := by decide +kernel
theorem d_Model_sizes_28 : decode c_Model_sizes 28 = .ok (.goto (-21), 3) := by decide +kernel
theorem d_Model_sizes_31 : decode c_Model_sizes 31 = .ok (.aload_n 0, 1) := by decide +kernel
theorem d_Model_sizes_32 : decode c_Model_sizes 32 = .ok (.getfield 26, 3) := by decide +kernel
theorem d_Model_sizes_35 : decode c_Model_sizes 35 = .ok (.iload_n 1, 1) := by decide +kernel
theorem d_Model_sizes_36 : decode c_Model_sizes 36 = .ok (.iload_n 2, 1) := by decide +kernel
theorem d_Model_sizes_37 : decode c_Model_sizes 37 = .ok (.iastore, 1) := by decide +kernel
theorem d_Model_sizes_38 : decode c_Model_sizes 38 = .ok (.return_, 1) := by decide +kernel
abbrev c_Model_writes : ByteArray := prog_14_method_40_code
def y_Model_writes : MethodName := ⟨"EpochServerModel", "writes", "(I)V"⟩
theorem d_Model_writes_0 : decode c_Model_writes 0 = .ok (.aload_n 0, 1) := by decide +kernel
theorem d_Model_writes_1 : decode c_Model_writes 1 = .ok (.getfield 59, 3) := by decide +kernel
theorem d_Model_writes_4 : decode c_Model_writes 4 = .ok (.iload_n 1, 1) := by decide +kernel
theorem d_Model_writes_5 : decode c_Model_writes 5 = .ok (.iaload, 1) := by decide +kernel
theorem d_Model_writes_6 : decode c_Model_writes 6 = .ok (.iconst 3, 1) := by decide +kernel
theorem d_Model_writes_7 : decode c_Model_writes 7 = .ok (.iand, 1) := by decide +kernel
theorem d_Model_writes_8 : decode c_Model_writes 8 = .ok (.istore_n 2, 1) := by decide +kernel
theorem d_Model_writes_9 : decode c_Model_writes 9 = .ok (.aload_n 0, 1) := by decide +kernel
theorem d_Model_writes_10 : decode c_Model_writes 10 = .ok (.aload_n 0, 1) := by decide +kernel
theorem d_Model_writes_11 : decode c_Model_writes 11 = .ok (.getfield 59, 3) := by decide +kernel
theorem d_Model_writes_14 : decode c_Model_writes 14 = .ok (.iload_n 1, 1) := by decide +kernel
theorem d_Model_writes_15 : decode c_Model_writes 15 = .ok (.iaload, 1) := by decide +kernel
theorem d_Model_writes_16 : decode c_Model_writes 16 = .ok (.ifCond .lt 7, 3) := by decide +kernel
theorem d_Model_writes_19 : decode c_Model_writes 19 = .ok (.iload_n 2, 1) := by decide +kernel
theorem d_Model_writes_20 : decode c_Model_writes 20 = .ok (.ifCond .ne 7, 3) := by decide +kernel
theorem d_Model_writes_23 : decode c_Model_writes 23 = .ok (.iconst 1, 1) := by decide +kernel
theorem d_Model_writes_24 : decode c_Model_writes 24 = .ok (.goto 4, 3) := by decide +kernel
theorem d_Model_writes_27 : decode c_Model_writes 27 = .ok (.iconst 0, 1) := by decide +kernel
theorem d_Model_writes_28 : decode c_Model_writes 28 = .ok (.iconst 3, 1) := by decide +kernel
theorem d_Model_writes_29 : decode c_Model_writes 29 = .ok (.invokevirtual 249, 3) := by decide +kernel
theorem d_Model_writes_32 : decode c_Model_writes 32 = .ok (.ifCond .ne 52, 3) := by decide +kernel
theorem d_Model_writes_35 : decode c_Model_writes 35 = .ok (.aload_n 0, 1) := by decide +kernel
theorem d_Model_writes_36 : decode c_Model_writes 36 = .ok (.aload_n 0, 1) := by decide +kernel
theorem d_Model_writes_37 : decode c_Model_writes 37 = .ok (.getfield 162, 3) := by decide +kernel
theorem d_Model_writes_40 : decode c_Model_writes 40 = .ok (.lconst 0, 1) := by decide +kernel
theorem d_Model_writes_41 : decode c_Model_writes 41 = .ok (.lcmp, 1) := by decide +kernel
theorem d_Model_writes_42 : decode c_Model_writes 42 = .ok (.ifCond .lt 30, 3) := by decide +kernel
theorem d_Model_writes_45 : decode c_Model_writes 45 = .ok (.aload_n 0, 1) := by decide +kernel
theorem d_Model_writes_46 : decode c_Model_writes 46 = .ok (.getfield 162, 3) := by decide +kernel
theorem d_Model_writes_49 : decode c_Model_writes 49 = .ok (.ldc2_w 344, 3) := by decide +kernel
theorem d_Model_writes_52 : decode c_Model_writes 52 = .ok (.lcmp, 1) := by decide +kernel
theorem d_Model_writes_53 : decode c_Model_writes 53 = .ok (.ifCond .gt 19, 3) := by decide +kernel
theorem d_Model_writes_56 : decode c_Model_writes 56 = .ok (.aload_n 0, 1) := by decide +kernel
theorem d_Model_writes_57 : decode c_Model_writes 57 = .ok (.getfield 162, 3) := by decide +kernel
theorem d_Model_writes_60 : decode c_Model_writes 60 = .ok (.aload_n 0, 1) := by decide +kernel
theorem d_Model_writes_61 : decode c_Model_writes 61 = .ok (.getfield 134, 3) := by decide +kernel
theorem d_Model_writes_64 : decode c_Model_writes 64 = .ok (.ladd, 1) := by decide +kernel
theorem d_Model_writes_65 : decode c_Model_writes 65 = .ok (.ldc2_w 344, 3) := by decide +kernel
theorem d_Model_writes_68 : decode c_Model_writes 68 = .ok (.lcmp, 1) := by decide +kernel
theorem d_Model_writes_69 : decode c_Model_writes 69 = .ok (.ifCond .le 7, 3) := by decide +kernel
theorem d_Model_writes_72 : decode c_Model_writes 72 = .ok (.iconst 1, 1) := by decide +kernel
theorem d_Model_writes_73 : decode c_Model_writes 73 = .ok (.goto 4, 3) := by decide +kernel
theorem d_Model_writes_76 : decode c_Model_writes 76 = .ok (.iconst 0, 1) := by decide +kernel
theorem d_Model_writes_77 : decode c_Model_writes 77 = .ok (.iconst 5, 1) := by decide +kernel
theorem d_Model_writes_78 : decode c_Model_writes 78 = .ok (.invokevirtual 249, 3) := by decide +kernel
theorem d_Model_writes_81 : decode c_Model_writes 81 = .ok (.ifCond .eq 4, 3) := by decide +kernel
theorem d_Model_writes_84 : decode c_Model_writes 84 = .ok (.return_, 1) := by decide +kernel
theorem d_Model_writes_85 : decode c_Model_writes 85 = .ok (.iconst 0, 1) := by decide +kernel
theorem d_Model_writes_86 : decode c_Model_writes 86 = .ok (.aload_n 0, 1) := by decide +kernel
theorem d_Model_writes_87 : decode c_Model_writes 87 = .ok (.getfield 56, 3) := by decide +kernel
theorem d_Model_writes_90 : decode c_Model_writes 90 = .ok (.iload_n 1, 1) := by decide +kernel
theorem d_Model_writes_91 : decode c_Model_writes 91 = .ok (.iaload, 1) := by decide +kernel
theorem d_Model_writes_92 : decode c_Model_writes 92 = .ok (.invokestatic 96, 3) := by decide +kernel
theorem d_Model_writes_95 : decode c_Model_writes 95 = .ok (.istore_n 3, 1) := by decide +kernel
theorem d_Model_writes_96 : decode c_Model_writes 96 = .ok (.aload_n 0, 1) := by decide +kernel
theorem d_Model_writes_97 : decode c_Model_writes 97 = .ok (.getfield 134, 3) := by decide +kernel
theorem d_Model_writes_100 : decode c_Model_writes 100 = .ok (.l2i, 1) := by decide +kernel
theorem d_Model_writes_101 : decode c_Model_writes 101 = .ok (.istore 4, 2) := by decide +kernel
theorem d_Model_writes_103 : decode c_Model_writes 103 = .ok (.aload_n 0, 1) := by decide +kernel
theorem d_Model_writes_104 : decode c_Model_writes 104 = .ok (.getfield 162, 3) := by decide +kernel
theorem d_Model_writes_107 : decode c_Model_writes 107 = .ok (.l2i, 1) := by decide +kernel
theorem d_Model_writes_108 : decode c_Model_writes 108 = .ok (.istore 5, 2) := by decide +kernel
theorem d_Model_writes_110 : decode c_Model_writes 110 = .ok (.iload 4, 2) := by decide +kernel
theorem d_Model_writes_112 : decode c_Model_writes 112 = .ok (.ifCond .le 76, 3) := by decide +kernel
theorem d_Model_writes_115 : decode c_Model_writes 115 = .ok (.iload 5, 2) := by decide +kernel
theorem d_Model_writes_117 : decode c_Model_writes 117 = .ok (.iload 4, 2) := by decide +kernel
theorem d_Model_writes_119 : decode c_Model_writes 119 = .ok (.iadd, 1) := by decide +kernel
theorem d_Model_writes_120 : decode c_Model_writes 120 = .ok (.aload_n 0, 1) := by decide +kernel
theorem d_Model_writes_121 : decode c_Model_writes 121 = .ok (.getfield 26, 3) := by decide +kernel
theorem d_Model_writes_124 : decode c_Model_writes 124 = .ok (.iload_n 3, 1) := by decide +kernel
theorem d_Model_writes_125 : decode c_Model_writes 125 = .ok (.iaload, 1) := by decide +kernel
theorem d_Model_writes_126 : decode c_Model_writes 126 = .ok (.if_icmp .le 13, 3) := by decide +kernel
theorem d_Model_writes_129 : decode c_Model_writes 129 = .ok (.aload_n 0, 1) := by decide +kernel
theorem d_Model_writes_130 : decode c_Model_writes 130 = .ok (.iload_n 3, 1) := by decide +kernel
theorem d_Model_writes_131 : decode c_Model_writes 131 = .ok (.iload 5, 2) := by decide +kernel
theorem d_Model_writes_133 : decode c_Model_writes 133 = .ok (.iload 4, 2) := by decide +kernel
theorem d_Model_writes_135 : decode c_Model_writes 135 = .ok (.iadd, 1) := by decide +kernel
theorem d_Model_writes_136 : decode c_Model_writes 136 = .ok (.invokevirtual 346, 3) := by decide +kernel
theorem d_Model_writes_139 : decode c_Model_writes 139 = .ok (.iconst 0, 1) := by decide +kernel
theorem d_Model_writes_140 : decode c_Model_writes 140 = .ok (.istore 6, 2) := by decide +kernel
theorem d_Model_writes_142 : decode c_Model_writes 142 = .ok (.iload 6, 2) := by decide +kernel
theorem d_Model_writes_144 : decode c_Model_writes 144 = .ok (.iload 4, 2) := by decide +kernel
theorem d_Model_writes_146 : decode c_Model_writes 146 = .ok (.if_icmp .ge 37, 3) := by decide +kernel
theorem d_Model_writes_149 : decode c_Model_writes 149 = .ok (.aload_n 0, 1) := by decide +kernel
theorem d_Model_writes_150 : decode c_Model_writes 150 = .ok (.getfield 37, 3) := by decide +kernel
theorem d_Model_writes_153 : decode c_Model_writes 153 = .ok (.sipush 512, 3) := by decide +kernel
theorem d_Model_writes_156 : decode c_Model_writes 156 = .ok (.iload_n 3, 1) := by decide +kernel
theorem d_Model_writes_157 : decode c_Model_writes 157 = .ok (.imul, 1) := by decide +kernel
theorem d_Model_writes_158 : decode c_Model_writes 158 = .ok (.iload 5, 2) := by decide +kernel
theorem d_Model_writes_160 : decode c_Model_writes 160 = .ok (.iadd, 1) := by decide +kernel
theorem d_Model_writes_161 : decode c_Model_writes 161 = .ok (.iload 6, 2) := by decide +kernel
theorem d_Model_writes_163 : decode c_Model_writes 163 = .ok (.iadd, 1) := by decide +kernel
theorem d_Model_writes_164 : decode c_Model_writes 164 = .ok (.aload_n 0, 1) := by decide +kernel
theorem d_Model_writes_165 : decode c_Model_writes 165 = .ok (.getfield 44, 3) := by decide +kernel
theorem d_Model_writes_168 : decode c_Model_writes 168 = .ok (.aload_n 0, 1) := by decide +kernel
theorem d_Model_writes_169 : decode c_Model_writes 169 = .ok (.getfield 165, 3) := by decide +kernel
theorem d_Model_writes_172 : decode c_Model_writes 172 = .ok (.iload 6, 2) := by decide +kernel
theorem d_Model_writes_174 : decode c_Model_writes 174 = .ok (.iadd, 1) := by decide +kernel
theorem d_Model_writes_175 : decode c_Model_writes 175 = .ok (.iaload, 1) := by decide +kernel
theorem d_Model_writes_176 : decode c_Model_writes 176 = .ok (.iastore, 1) := by decide +kernel
theorem d_Model_writes_177 : decode c_Model_writes 177 = .ok (.iinc 6 1, 3) := by decide +kernel
theorem d_Model_writes_180 : decode c_Model_writes 180 = .ok (.goto (-38), 3) := by decide +kernel
theorem d_Model_writes_183 : decode c_Model_writes 183 = .ok (.aload_n 0, 1) := by decide +kernel
theorem d_Model_writes_184 : decode c_Model_writes 184 = .ok (.iload_n 3, 1) := by decide +kernel
theorem d_Model_writes_185 : decode c_Model_writes 185 = .ok (.invokevirtual 334, 3) := by decide +kernel
theorem d_Model_writes_188 : decode c_Model_writes 188 = .ok (.aload_n 0, 1) := by decide +kernel
theorem d_Model_writes_189 : decode c_Model_writes 189 = .ok (.iload 4, 2) := by decide +kernel
theorem d_Model_writes_191 : decode c_Model_writes 191 = .ok (.i2l, 1) := by decide +kernel
theorem d_Model_writes_192 : decode c_Model_writes 192 = .ok (.iconst 4, 1) := by decide +kernel
theorem d_Model_writes_193 : decode c_Model_writes 193 = .ok (.invokevirtual 212, 3) := by decide +kernel
theorem d_Model_writes_196 : decode c_Model_writes 196 = .ok (.return_, 1) := by decide +kernel
abbrev c_Model_whyNot : ByteArray := prog_14_method_41_code
def y_Model_whyNot : MethodName := ⟨"EpochServerModel", "whyNot", "(I)I"⟩
theorem d_Model_whyNot_0 : decode c_Model_whyNot 0 = .ok (.aload_n 0, 1) := by decide +kernel
theorem d_Model_whyNot_1 : decode c_Model_whyNot 1 = .ok (.getfield 53, 3) := by decide +kernel
theorem d_Model_whyNot_4 : decode c_Model_whyNot 4 = .ok (.iload_n 1, 1) := by decide +kernel
theorem d_Model_whyNot_5 : decode c_Model_whyNot 5 = .ok (.iaload, 1) := by decide +kernel
theorem d_Model_whyNot_6 : decode c_Model_whyNot 6 = .ok (.ifCond .ne 12, 3) := by decide +kernel
theorem d_Model_whyNot_9 : decode c_Model_whyNot 9 = .ok (.aload_n 0, 1) := by decide +kernel
theorem d_Model_whyNot_10 : decode c_Model_whyNot 10 = .ok (.getfield 56, 3) := by decide +kernel
theorem d_Model_whyNot_13 : decode c_Model_whyNot 13 = .ok (.iload_n 1, 1) := by decide +kernel
theorem d_Model_whyNot_14 : decode c_Model_whyNot 14 = .ok (.iaload, 1) := by decide +kernel
theorem d_Model_whyNot_15 : decode c_Model_whyNot 15 = .ok (.ifCond .ne 5, 3) := by decide +kernel
theorem d_Model_whyNot_18 : decode c_Model_whyNot 18 = .ok (.iconst 3, 1) := by decide +kernel
theorem d_Model_whyNot_19 : decode c_Model_whyNot 19 = .ok (.ireturn, 1) := by decide +kernel
theorem d_Model_whyNot_20 : decode c_Model_whyNot 20 = .ok (.aload_n 0, 1) := by decide +kernel
theorem d_Model_whyNot_21 : decode c_Model_whyNot 21 = .ok (.iconst 0, 1) := by decide +kernel
theorem d_Model_whyNot_22 : decode c_Model_whyNot 22 = .ok (.aload_n 0, 1) := by decide +kernel
theorem d_Model_whyNot_23 : decode c_Model_whyNot 23 = .ok (.getfield 56, 3) := by decide +kernel
theorem d_Model_whyNot_26 : decode c_Model_whyNot 26 = .ok (.iload_n 1, 1) := by decide +kernel
theorem d_Model_whyNot_27 : decode c_Model_whyNot 27 = .ok (.iaload, 1) := by decide +kernel
theorem d_Model_whyNot_28 : decode c_Model_whyNot 28 = .ok (.invokestatic 96, 3) := by decide +kernel
theorem d_Model_whyNot_31 : decode c_Model_whyNot 31 = .ok (.invokevirtual 230, 3) := by decide +kernel
theorem d_Model_whyNot_34 : decode c_Model_whyNot 34 = .ok (.ifCond .eq 21, 3) := by decide +kernel
theorem d_Model_whyNot_37 : decode c_Model_whyNot 37 = .ok (.aload_n 0, 1) := by decide +kernel
theorem d_Model_whyNot_38 : decode c_Model_whyNot 38 = .ok (.iconst 0, 1) := by decide +kernel
theorem d_Model_whyNot_39 : decode c_Model_whyNot 39 = .ok (.aload_n 0, 1) := by decide +kernel
theorem d_Model_whyNot_40 : decode c_Model_whyNot 40 = .ok (.getfield 56, 3) := by decide +kernel
theorem d_Model_whyNot_43 : decode c_Model_whyNot 43 = .ok (.iload_n 1, 1) := by decide +kernel
theorem d_Model_whyNot_44 : decode c_Model_whyNot 44 = .ok (.iaload, 1) := by decide +kernel
theorem d_Model_whyNot_45 : decode c_Model_whyNot 45 = .ok (.invokevirtual 349, 3) := by decide +kernel
theorem d_Model_whyNot_48 : decode c_Model_whyNot 48 = .ok (.ifCond .le 7, 3) := by decide +kernel
theorem d_Model_whyNot_51 : decode c_Model_whyNot 51 = .ok (.iconst 5, 1) := by decide +kernel
theorem d_Model_whyNot_52 : decode c_Model_whyNot 52 = .ok (.goto 4, 3) := by decide +kernel
theorem d_Model_whyNot_55 : decode c_Model_whyNot 55 = .ok (.iconst 0, 1) := by decide +kernel
theorem d_Model_whyNot_56 : decode c_Model_whyNot 56 = .ok (.ireturn, 1) := by decide +kernel
abbrev c_Model_leaves : ByteArray := prog_14_method_42_code
def y_Model_leaves : MethodName := ⟨"EpochServerModel", "leaves", "(I)V"⟩
theorem d_Model_leaves_0 : decode c_Model_leaves 0 = .ok (.iconst 0, 1) := by decide +kernel
theorem d_Model_leaves_1 : decode c_Model_leaves 1 = .ok (.iload_n 1, 1) := by decide +kernel
theorem d_Model_leaves_2 : decode c_Model_leaves 2 = .ok (.invokestatic 96, 3) := by decide +kernel
theorem d_Model_leaves_5 : decode c_Model_leaves 5 = .ok (.istore_n 2, 1) := by decide +kernel
theorem d_Model_leaves_6 : decode c_Model_leaves 6 = .ok (.aload_n 0, 1) := by decide +kernel
theorem d_Model_leaves_7 : decode c_Model_leaves 7 = .ok (.getfield 9, 3) := by decide +kernel
theorem d_Model_leaves_10 : decode c_Model_leaves 10 = .ok (.iload_n 2, 1) := by decide +kernel
theorem d_Model_leaves_11 : decode c_Model_leaves 11 = .ok (.iconst 0, 1) := by decide +kernel
theorem d_Model_leaves_12 : decode c_Model_leaves 12 = .ok (.bastore, 1) := by decide +kernel
theorem d_Model_leaves_13 : decode c_Model_leaves 13 = .ok (.aload_n 0, 1) := by decide +kernel
theorem d_Model_leaves_14 : decode c_Model_leaves 14 = .ok (.iconst 0, 1) := by decide +kernel
theorem d_Model_leaves_15 : decode c_Model_leaves 15 = .ok (.aload_n 0, 1) := by decide +kernel
theorem d_Model_leaves_16 : decode c_Model_leaves 16 = .ok (.getfield 13, 3) := by decide +kernel
theorem d_Model_leaves_19 : decode c_Model_leaves 19 = .ok (.iload_n 2, 1) := by decide +kernel
theorem d_Model_leaves_20 : decode c_Model_leaves 20 = .ok (.iaload, 1) := by decide +kernel
theorem d_Model_leaves_21 : decode c_Model_leaves 21 = .ok (.invokestatic 96, 3) := by decide +kernel
theorem d_Model_leaves_24 : decode c_Model_leaves 24 = .ok (.invokevirtual 334, 3) := by decide +kernel
theorem d_Model_leaves_27 : decode c_Model_leaves 27 = .ok (.return_, 1) := by decide +kernel
abbrev c_Model_removes : ByteArray := prog_14_method_43_code
def y_Model_removes : MethodName := ⟨"EpochServerModel", "removes", "(IZ)V"⟩
theorem d_Model_removes_0 : decode c_Model_removes 0 = .ok (.iload_n 2, 1) := by decide +kernel
theorem d_Model_removes_1 : decode c_Model_removes 1 = .ok (.ifCond .eq 7, 3) := by decide +kernel
theorem d_Model_removes_4 : decode c_Model_removes 4 = .ok (.iconst 4, 1) := by decide +kernel
theorem d_Model_removes_5 : decode c_Model_removes 5 = .ok (.goto 8, 3) := by decide +kernel
theorem d_Model_removes_8 : decode c_Model_removes 8 = .ok (.aload_n 0, 1) := by decide +kernel
theorem d_Model_removes_9 : decode c_Model_removes 9 = .ok (.iload_n 1, 1) := by decide +kernel
theorem d_Model_removes_10 : decode c_Model_removes 10 = .ok (.invokevirtual 267, 3) := by decide +kernel
theorem d_Model_removes_13 : decode c_Model_removes 13 = .ok (.istore_n 3, 1) := by decide +kernel
theorem d_Model_removes_14 : decode c_Model_removes 14 = .ok (.aload_n 0, 1) := by decide +kernel
theorem d_Model_removes_15 : decode c_Model_removes 15 = .ok (.getfield 56, 3) := by decide +kernel
theorem d_Model_removes_18 : decode c_Model_removes 18 = .ok (.iload_n 1, 1) := by decide +kernel
theorem d_Model_removes_19 : decode c_Model_removes 19 = .ok (.iaload, 1) := by decide +kernel
theorem d_Model_removes_20 : decode c_Model_removes 20 = .ok (.istore 4, 2) := by decide +kernel
theorem d_Model_removes_22 : decode c_Model_removes 22 = .ok (.aload_n 0, 1) := by decide +kernel
theorem d_Model_removes_23 : decode c_Model_removes 23 = .ok (.iload_n 1, 1) := by decide +kernel
theorem d_Model_removes_24 : decode c_Model_removes 24 = .ok (.invokevirtual 270, 3) := by decide +kernel
theorem d_Model_removes_27 : decode c_Model_removes 27 = .ok (.aload_n 0, 1) := by decide +kernel
theorem d_Model_removes_28 : decode c_Model_removes 28 = .ok (.iload_n 3, 1) := by decide +kernel
theorem d_Model_removes_29 : decode c_Model_removes 29 = .ok (.ifCond .eq 7, 3) := by decide +kernel
theorem d_Model_removes_32 : decode c_Model_removes 32 = .ok (.iconst 1, 1) := by decide +kernel
theorem d_Model_removes_33 : decode c_Model_removes 33 = .ok (.goto 4, 3) := by decide +kernel
theorem d_Model_removes_36 : decode c_Model_removes 36 = .ok (.iconst 0, 1) := by decide +kernel
theorem d_Model_removes_37 : decode c_Model_removes 37 = .ok (.iload_n 3, 1) := by decide +kernel
theorem d_Model_removes_38 : decode c_Model_removes 38 = .ok (.invokevirtual 249, 3) := by decide +kernel
theorem d_Model_removes_41 : decode c_Model_removes 41 = .ok (.ifCond .eq 4, 3) := by decide +kernel
theorem d_Model_removes_44 : decode c_Model_removes 44 = .ok (.return_, 1) := by decide +kernel
theorem d_Model_removes_45 : decode c_Model_removes 45 = .ok (.aload_n 0, 1) := by decide +kernel
theorem d_Model_removes_46 : decode c_Model_removes 46 = .ok (.iload 4, 2) := by decide +kernel
theorem d_Model_removes_48 : decode c_Model_removes 48 = .ok (.invokevirtual 273, 3) := by decide +kernel
theorem d_Model_removes_51 : decode c_Model_removes 51 = .ok (.return_, 1) := by decide +kernel
abbrev c_Model_wstats : ByteArray := prog_14_method_44_code
def y_Model_wstats : MethodName := ⟨"EpochServerModel", "wstats", "(I)V"⟩
theorem d_Model_wstats_0 : decode c_Model_wstats 0 = .ok (.aload_n 0, 1) := by decide +kernel
theorem d_Model_wstats_1 : decode c_Model_wstats 1 = .ok (.getfield 56, 3) := by decide +kernel
theorem d_Model_wstats_4 : decode c_Model_wstats 4 = .ok (.iload_n 1, 1) := by decide +kernel
theorem d_Model_wstats_5 : decode c_Model_wstats 5 = .ok (.iaload, 1) := by decide +kernel
theorem d_Model_wstats_6 : decode c_Model_wstats 6 = .ok (.istore_n 2, 1) := by decide +kernel
theorem d_Model_wstats_7 : decode c_Model_wstats 7 = .ok (.iconst 0, 1) := by decide +kernel
theorem d_Model_wstats_8 : decode c_Model_wstats 8 = .ok (.iload_n 2, 1) := by decide +kernel
theorem d_Model_wstats_9 : decode c_Model_wstats 9 = .ok (.invokestatic 96, 3) := by decide +kernel
theorem d_Model_wstats_12 : decode c_Model_wstats 12 = .ok (.istore_n 3, 1) := by decide +kernel
theorem d_Model_wstats_13 : decode c_Model_wstats 13 = .ok (.aload_n 0, 1) := by decide +kernel
theorem d_Model_wstats_14 : decode c_Model_wstats 14 = .ok (.aload_n 0, 1) := by decide +kernel
theorem d_Model_wstats_15 : decode c_Model_wstats 15 = .ok (.getfield 53, 3) := by decide +kernel
theorem d_Model_wstats_18 : decode c_Model_wstats 18 = .ok (.iload_n 1, 1) := by decide +kernel
theorem d_Model_wstats_19 : decode c_Model_wstats 19 = .ok (.iaload, 1) := by decide +kernel
theorem d_Model_wstats_20 : decode c_Model_wstats 20 = .ok (.ifCond .eq 7, 3) := by decide +kernel
theorem d_Model_wstats_23 : decode c_Model_wstats 23 = .ok (.iconst 1, 1) := by decide +kernel
theorem d_Model_wstats_24 : decode c_Model_wstats 24 = .ok (.goto 4, 3) := by decide +kernel
theorem d_Model_wstats_27 : decode c_Model_wstats 27 = .ok (.iconst 0, 1) := by decide +kernel
theorem d_Model_wstats_28 : decode c_Model_wstats 28 = .ok (.iconst 3, 1) := by decide +kernel
theorem d_Model_wstats_29 : decode c_Model_wstats 29 = .ok (.invokevirtual 249, 3) := by decide +kernel
theorem d_Model_wstats_32 : decode c_Model_wstats 32 = .ok (.ifCond .ne 63, 3) := by decide +kernel
theorem d_Model_wstats_35 : decode c_Model_wstats 35 = .ok (.aload_n 0, 1) := by decide +kernel
theorem d_Model_wstats_36 : decode c_Model_wstats 36 = .ok (.aload_n 0, 1) := by decide +kernel
theorem d_Model_wstats_37 : decode c_Model_wstats 37 = .ok (.getfield 175, 3) := by decide +kernel
theorem d_Model_wstats_40 : decode c_Model_wstats 40 = .ok (.ifCond .ne 7, 3) := by decide +kernel
theorem d_Model_wstats_43 : decode c_Model_wstats 43 = .ok (.iconst 1, 1) := by decide +kernel
theorem d_Model_wstats_44 : decode c_Model_wstats 44 = .ok (.goto 4, 3) := by decide +kernel
theorem d_Model_wstats_47 : decode c_Model_wstats 47 = .ok (.iconst 0, 1) := by decide +kernel
theorem d_Model_wstats_48 : decode c_Model_wstats 48 = .ok (.iconst 5, 1) := by decide +kernel
theorem d_Model_wstats_49 : decode c_Model_wstats 49 = .ok (.invokevirtual 249, 3) := by decide +kernel
theorem d_Model_wstats_52 : decode c_Model_wstats 52 = .ok (.ifCond .ne 43, 3) := by decide +kernel
theorem d_Model_wstats_55 : decode c_Model_wstats 55 = .ok (.aload_n 0, 1) := by decide +kernel
theorem d_Model_wstats_56 : decode c_Model_wstats 56 = .ok (.aload_n 0, 1) := by decide +kernel
theorem d_Model_wstats_57 : decode c_Model_wstats 57 = .ok (.getfield 144, 3) := by decide +kernel
theorem d_Model_wstats_60 : decode c_Model_wstats 60 = .ok (.ifCond .le 26, 3) := by decide +kernel
theorem d_Model_wstats_63 : decode c_Model_wstats 63 = .ok (.iload_n 2, 1) := by decide +kernel
theorem d_Model_wstats_64 : decode c_Model_wstats 64 = .ok (.ifCond .eq 18, 3) := by decide +kernel
theorem d_Model_wstats_67 : decode c_Model_wstats 67 = .ok (.aload_n 0, 1) := by decide +kernel
theorem d_Model_wstats_68 : decode c_Model_wstats 68 = .ok (.aload_n 0, 1) := by decide +kernel
theorem d_Model_wstats_69 : decode c_Model_wstats 69 = .ok (.getfield 141, 3) := by decide +kernel
theorem d_Model_wstats_72 : decode c_Model_wstats 72 = .ok (.aload_n 0, 1) := by decide +kernel
theorem d_Model_wstats_73 : decode c_Model_wstats 73 = .ok (.getfield 144, 3) := by decide +kernel
theorem d_Model_wstats_76 : decode c_Model_wstats 76 = .ok (.invokevirtual 337, 3) := by decide +kernel
theorem d_Model_wstats_79 : decode c_Model_wstats 79 = .ok (.ifCond .ne 7, 3) := by decide +kernel
theorem d_Model_wstats_82 : decode c_Model_wstats 82 = .ok (.iconst 1, 1) := by decide +kernel
theorem d_Model_wstats_83 : decode c_Model_wstats 83 = .ok (.goto 4, 3) := by decide +kernel
theorem d_Model_wstats_86 : decode c_Model_wstats 86 = .ok (.iconst 0, 1) := by decide +kernel
theorem d_Model_wstats_87 : decode c_Model_wstats 87 = .ok (.bipush 6, 2) := by decide +kernel
theorem d_Model_wstats_89 : decode c_Model_wstats 89 = .ok (.invokevirtual 249, 3) := by decide +kernel
theorem d_Model_wstats_92 : decode c_Model_wstats 92 = .ok (.ifCond .eq 4, 3) := by decide +kernel
theorem d_Model_wstats_95 : decode c_Model_wstats 95 = .ok (.return_, 1) := by decide +kernel
theorem d_Model_wstats_96 : decode c_Model_wstats 96 = .ok (.aload_n 0, 1) := by decide +kernel
theorem d_Model_wstats_97 : decode c_Model_wstats 97 = .ok (.getfield 144, 3) := by decide +kernel
theorem d_Model_wstats_100 : decode c_Model_wstats 100 = .ok (.ifCond .le 50, 3) := by decide +kernel
theorem d_Model_wstats_103 : decode c_Model_wstats 103 = .ok (.aload_n 0, 1) := by decide +kernel
theorem d_Model_wstats_104 : decode c_Model_wstats 104 = .ok (.iconst 0, 1) := by decide +kernel
theorem d_Model_wstats_105 : decode c_Model_wstats 105 = .ok (.aload_n 0, 1) := by decide +kernel
theorem d_Model_wstats_106 : decode c_Model_wstats 106 = .ok (.getfield 13, 3) := by decide +kernel
theorem d_Model_wstats_109 : decode c_Model_wstats 109 = .ok (.iload_n 3, 1) := by decide +kernel
theorem d_Model_wstats_110 : decode c_Model_wstats 110 = .ok (.iaload, 1) := by decide +kernel
theorem d_Model_wstats_111 : decode c_Model_wstats 111 = .ok (.aload_n 0, 1) := by decide +kernel
theorem d_Model_wstats_112 : decode c_Model_wstats 112 = .ok (.getfield 141, 3) := by decide +kernel
theorem d_Model_wstats_115 : decode c_Model_wstats 115 = .ok (.aload_n 0, 1) := by decide +kernel
theorem d_Model_wstats_116 : decode c_Model_wstats 116 = .ok (.getfield 144, 3) := by decide +kernel
theorem d_Model_wstats_119 : decode c_Model_wstats 119 = .ok (.invokevirtual 326, 3) := by decide +kernel
theorem d_Model_wstats_122 : decode c_Model_wstats 122 = .ok (.istore 4, 2) := by decide +kernel
theorem d_Model_wstats_124 : decode c_Model_wstats 124 = .ok (.aload_n 0, 1) := by decide +kernel
theorem d_Model_wstats_125 : decode c_Model_wstats 125 = .ok (.iload 4, 2) := by decide +kernel
theorem d_Model_wstats_127 : decode c_Model_wstats 127 = .ok (.ifCond .lt 13, 3) := by decide +kernel
theorem d_Model_wstats_130 : decode c_Model_wstats 130 = .ok (.iload 4, 2) := by decide +kernel
theorem d_Model_wstats_132 : decode c_Model_wstats 132 = .ok (.iload_n 2, 1) := by decide +kernel
theorem d_Model_wstats_133 : decode c_Model_wstats 133 = .ok (.if_icmp .eq 7, 3) := by decide +kernel
theorem d_Model_wstats_136 : decode c_Model_wstats 136 = .ok (.iconst 1, 1) := by decide +kernel
theorem d_Model_wstats_137 : decode c_Model_wstats 137 = .ok (.goto 4, 3) := by decide +kernel
theorem d_Model_wstats_140 : decode c_Model_wstats 140 = .ok (.iconst 0, 1) := by decide +kernel
theorem d_Model_wstats_141 : decode c_Model_wstats 141 = .ok (.bipush 7, 2) := by decide +kernel
theorem d_Model_wstats_143 : decode c_Model_wstats 143 = .ok (.invokevirtual 249, 3) := by decide +kernel
theorem d_Model_wstats_146 : decode c_Model_wstats 146 = .ok (.ifCond .eq 4, 3) := by decide +kernel
theorem d_Model_wstats_149 : decode c_Model_wstats 149 = .ok (.return_, 1) := by decide +kernel
theorem d_Model_wstats_150 : decode c_Model_wstats 150 = .ok (.aload_n 0, 1) := by decide +kernel
theorem d_Model_wstats_151 : decode c_Model_wstats 151 = .ok (.getfield 178, 3) := by decide +kernel
theorem d_Model_wstats_154 : decode c_Model_wstats 154 = .ok (.iconst (-1), 1) := by decide +kernel
theorem d_Model_wstats_155 : decode c_Model_wstats 155 = .ok (.if_icmp .eq 7, 3) := by decide +kernel
theorem d_Model_wstats_158 : decode c_Model_wstats 158 = .ok (.iconst 1, 1) := by decide +kernel
theorem d_Model_wstats_159 : decode c_Model_wstats 159 = .ok (.goto 4, 3) := by decide +kernel
theorem d_Model_wstats_162 : decode c_Model_wstats 162 = .ok (.iconst 0, 1) := by decide +kernel
theorem d_Model_wstats_163 : decode c_Model_wstats 163 = .ok (.istore 4, 2) := by decide +kernel
theorem d_Model_wstats_165 : decode c_Model_wstats 165 = .ok (.aload_n 0, 1) := by decide +kernel
theorem d_Model_wstats_166 : decode c_Model_wstats 166 = .ok (.iload 4, 2) := by decide +kernel
theorem d_Model_wstats_168 : decode c_Model_wstats 168 = .ok (.ifCond .eq 38, 3) := by decide +kernel
theorem d_Model_wstats_171 : decode c_Model_wstats 171 = .ok (.aload_n 0, 1) := by decide +kernel
theorem d_Model_wstats_172 : decode c_Model_wstats 172 = .ok (.getfield 178, 3) := by decide +kernel
theorem d_Model_wstats_175 : decode c_Model_wstats 175 = .ok (.ifCond .ge 7, 3) := by decide +kernel
theorem d_Model_wstats_178 : decode c_Model_wstats 178 = .ok (.iconst 1, 1) := by decide +kernel
theorem d_Model_wstats_179 : decode c_Model_wstats 179 = .ok (.goto 4, 3) := by decide +kernel
theorem d_Model_wstats_182 : decode c_Model_wstats 182 = .ok (.iconst 0, 1) := by decide +kernel
theorem d_Model_wstats_183 : decode c_Model_wstats 183 = .ok (.aload_n 0, 1) := by decide +kernel
theorem d_Model_wstats_184 : decode c_Model_wstats 184 = .ok (.iload_n 3, 1) := by decide +kernel
theorem d_Model_wstats_185 : decode c_Model_wstats 185 = .ok (.invokevirtual 230, 3) := by decide +kernel
theorem d_Model_wstats_188 : decode c_Model_wstats 188 = .ok (.if_icmp .ne 14, 3) := by decide +kernel
theorem d_Model_wstats_191 : decode c_Model_wstats 191 = .ok (.aload_n 0, 1) := by decide +kernel
theorem d_Model_wstats_192 : decode c_Model_wstats 192 = .ok (.getfield 178, 3) := by decide +kernel
theorem d_Model_wstats_195 : decode c_Model_wstats 195 = .ok (.ldc_w 352, 3) := by decide +kernel
theorem d_Model_wstats_198 : decode c_Model_wstats 198 = .ok (.iand, 1) := by decide +kernel
theorem d_Model_wstats_199 : decode c_Model_wstats 199 = .ok (.ifCond .eq 7, 3) := by decide +kernel
theorem d_Model_wstats_202 : decode c_Model_wstats 202 = .ok (.iconst 1, 1) := by decide +kernel
theorem d_Model_wstats_203 : decode c_Model_wstats 203 = .ok (.goto 4, 3) := by decide +kernel
theorem d_Model_wstats_206 : decode c_Model_wstats 206 = .ok (.iconst 0, 1) := by decide +kernel
theorem d_Model_wstats_207 : decode c_Model_wstats 207 = .ok (.bipush 8, 2) := by decide +kernel
theorem d_Model_wstats_209 : decode c_Model_wstats 209 = .ok (.invokevirtual 249, 3) := by decide +kernel
theorem d_Model_wstats_212 : decode c_Model_wstats 212 = .ok (.ifCond .eq 4, 3) := by decide +kernel
theorem d_Model_wstats_215 : decode c_Model_wstats 215 = .ok (.return_, 1) := by decide +kernel
theorem d_Model_wstats_216 : decode c_Model_wstats 216 = .ok (.aload_n 0, 1) := by decide +kernel
theorem d_Model_wstats_217 : decode c_Model_wstats 217 = .ok (.getfield 184, 3) := by decide +kernel
theorem d_Model_wstats_220 : decode c_Model_wstats 220 = .ok (.ldc2_w 353, 3) := by decide +kernel
theorem d_Model_wstats_223 : decode c_Model_wstats 223 = .ok (.lcmp, 1) := by decide +kernel
theorem d_Model_wstats_224 : decode c_Model_wstats 224 = .ok (.ifCond .eq 7, 3) := by decide +kernel
theorem d_Model_wstats_227 : decode c_Model_wstats 227 = .ok (.iconst 1, 1) := by decide +kernel
theorem d_Model_wstats_228 : decode c_Model_wstats 228 = .ok (.goto 4, 3) := by decide +kernel
theorem d_Model_wstats_231 : decode c_Model_wstats 231 = .ok (.iconst 0, 1) := by decide +kernel
theorem d_Model_wstats_232 : decode c_Model_wstats 232 = .ok (.istore 5, 2) := by decide +kernel
theorem d_Model_wstats_234 : decode c_Model_wstats 234 = .ok (.aload_n 0, 1) := by decide +kernel
theorem d_Model_wstats_235 : decode c_Model_wstats 235 = .ok (.iload 5, 2) := by decide +kernel
theorem d_Model_wstats_237 : decode c_Model_wstats 237 = .ok (.ifCond .eq 35, 3) := by decide +kernel
theorem d_Model_wstats_240 : decode c_Model_wstats 240 = .ok (.aload_n 0, 1) := by decide +kernel
theorem d_Model_wstats_241 : decode c_Model_wstats 241 = .ok (.iload_n 3, 1) := by decide +kernel
theorem d_Model_wstats_242 : decode c_Model_wstats 242 = .ok (.invokevirtual 230, 3) := by decide +kernel
theorem d_Model_wstats_245 : decode c_Model_wstats 245 = .ok (.ifCond .ne 23, 3) := by decide +kernel
theorem d_Model_wstats_248 : decode c_Model_wstats 248 = .ok (.aload_n 0, 1) := by decide +kernel
theorem d_Model_wstats_249 : decode c_Model_wstats 249 = .ok (.getfield 184, 3) := by decide +kernel
theorem d_Model_wstats_252 : decode c_Model_wstats 252 = .ok (.lconst 0, 1) := by decide +kernel
theorem d_Model_wstats_253 : decode c_Model_wstats 253 = .ok (.lcmp, 1) := by decide +kernel
theorem d_Model_wstats_254 : decode c_Model_wstats 254 = .ok (.ifCond .lt 14, 3) := by decide +kernel
theorem d_Model_wstats_257 : decode c_Model_wstats 257 = .ok (.aload_n 0, 1) := by decide +kernel
theorem d_Model_wstats_258 : decode c_Model_wstats 258 = .ok (.getfield 184, 3) := by decide +kernel
theorem d_Model_wstats_261 : decode c_Model_wstats 261 = .ok (.ldc2_w 344, 3) := by decide +kernel
theorem d_Model_wstats_264 : decode c_Model_wstats 264 = .ok (.lcmp, 1) := by decide +kernel
theorem d_Model_wstats_265 : decode c_Model_wstats 265 = .ok (.ifCond .le 7, 3) := by decide +kernel
theorem d_Model_wstats_268 : decode c_Model_wstats 268 = .ok (.iconst 1, 1) := by decide +kernel
theorem d_Model_wstats_269 : decode c_Model_wstats 269 = .ok (.goto 4, 3) := by decide +kernel
theorem d_Model_wstats_272 : decode c_Model_wstats 272 = .ok (.iconst 0, 1) := by decide +kernel
theorem d_Model_wstats_273 : decode c_Model_wstats 273 = .ok (.bipush 9, 2) := by decide +kernel
theorem d_Model_wstats_275 : decode c_Model_wstats 275 = .ok (.invokevirtual 249, 3) := by decide +kernel
theorem d_Model_wstats_278 : decode c_Model_wstats 278 = .ok (.ifCond .eq 4, 3) := by decide +kernel
theorem d_Model_wstats_281 : decode c_Model_wstats 281 = .ok (.return_, 1) := by decide +kernel
theorem d_Model_wstats_282 : decode c_Model_wstats 282 = .ok (.aload_n 0, 1) := by decide +kernel
theorem d_Model_wstats_283 : decode c_Model_wstats 283 = .ok (.aload_n 0, 1) := by decide +kernel
theorem d_Model_wstats_284 : decode c_Model_wstats 284 = .ok (.getfield 144, 3) := by decide +kernel
theorem d_Model_wstats_287 : decode c_Model_wstats 287 = .ok (.ifCond .ne 25, 3) := by decide +kernel
theorem d_Model_wstats_290 : decode c_Model_wstats 290 = .ok (.iload 4, 2) := by decide +kernel
theorem d_Model_wstats_292 : decode c_Model_wstats 292 = .ok (.ifCond .ne 20, 3) := by decide +kernel
theorem d_Model_wstats_295 : decode c_Model_wstats 295 = .ok (.iload 5, 2) := by decide +kernel
theorem d_Model_wstats_297 : decode c_Model_wstats 297 = .ok (.ifCond .ne 15, 3) := by decide +kernel
theorem d_Model_wstats_300 : decode c_Model_wstats 300 = .ok (.aload_n 0, 1) := by decide +kernel
theorem d_Model_wstats_301 : decode c_Model_wstats 301 = .ok (.getfield 181, 3) := by decide +kernel
theorem d_Model_wstats_304 : decode c_Model_wstats 304 = .ok (.iconst (-1), 1) := by decide +kernel
theorem d_Model_wstats_305 : decode c_Model_wstats 305 = .ok (.if_icmp .ne 7, 3) := by decide +kernel
theorem d_Model_wstats_308 : decode c_Model_wstats 308 = .ok (.iconst 1, 1) := by decide +kernel
theorem d_Model_wstats_309 : decode c_Model_wstats 309 = .ok (.goto 4, 3) := by decide +kernel
theorem d_Model_wstats_312 : decode c_Model_wstats 312 = .ok (.iconst 0, 1) := by decide +kernel
theorem d_Model_wstats_313 : decode c_Model_wstats 313 = .ok (.putfield 203, 3) := by decide +kernel
theorem d_Model_wstats_316 : decode c_Model_wstats 316 = .ok (.aload_n 0, 1) := by decide +kernel
theorem d_Model_wstats_317 : decode c_Model_wstats 317 = .ok (.getfield 144, 3) := by decide +kernel
theorem d_Model_wstats_320 : decode c_Model_wstats 320 = .ok (.ifCond .le 16, 3) := by decide +kernel
theorem d_Model_wstats_323 : decode c_Model_wstats 323 = .ok (.aload_n 0, 1) := by decide +kernel
theorem d_Model_wstats_324 : decode c_Model_wstats 324 = .ok (.iload_n 3, 1) := by decide +kernel
theorem d_Model_wstats_325 : decode c_Model_wstats 325 = .ok (.aload_n 0, 1) := by decide +kernel
theorem d_Model_wstats_326 : decode c_Model_wstats 326 = .ok (.getfield 141, 3) := by decide +kernel
theorem d_Model_wstats_329 : decode c_Model_wstats 329 = .ok (.aload_n 0, 1) := by decide +kernel
theorem d_Model_wstats_330 : decode c_Model_wstats 330 = .ok (.getfield 144, 3) := by decide +kernel
theorem d_Model_wstats_333 : decode c_Model_wstats 333 = .ok (.invokevirtual 340, 3) := by decide +kernel
theorem d_Model_wstats_336 : decode c_Model_wstats 336 = .ok (.iload 4, 2) := by decide +kernel
theorem d_Model_wstats_338 : decode c_Model_wstats 338 = .ok (.ifCond .eq 13, 3) := by decide +kernel
theorem d_Model_wstats_341 : decode c_Model_wstats 341 = .ok (.aload_n 0, 1) := by decide +kernel
theorem d_Model_wstats_342 : decode c_Model_wstats 342 = .ok (.getfield 17, 3) := by decide +kernel
theorem d_Model_wstats_345 : decode c_Model_wstats 345 = .ok (.iload_n 3, 1) := by decide +kernel
theorem d_Model_wstats_346 : decode c_Model_wstats 346 = .ok (.aload_n 0, 1) := by decide +kernel
theorem d_Model_wstats_347 : decode c_Model_wstats 347 = .ok (.getfield 178, 3) := by decide +kernel
theorem d_Model_wstats_350 : decode c_Model_wstats 350 = .ok (.iastore, 1) := by decide +kernel
theorem d_Model_wstats_351 : decode c_Model_wstats 351 = .ok (.iload 5, 2) := by decide +kernel
theorem d_Model_wstats_353 : decode c_Model_wstats 353 = .ok (.ifCond .eq 33, 3) := by decide +kernel
theorem d_Model_wstats_356 : decode c_Model_wstats 356 = .ok (.aload_n 0, 1) := by decide +kernel
theorem d_Model_wstats_357 : decode c_Model_wstats 357 = .ok (.getfield 184, 3) := by decide +kernel
theorem d_Model_wstats_360 : decode c_Model_wstats 360 = .ok (.aload_n 0, 1) := by decide +kernel
theorem d_Model_wstats_361 : decode c_Model_wstats 361 = .ok (.getfield 26, 3) := by decide +kernel
theorem d_Model_wstats_364 : decode c_Model_wstats 364 = .ok (.iload_n 3, 1) := by decide +kernel
theorem d_Model_wstats_365 : decode c_Model_wstats 365 = .ok (.iaload, 1) := by decide +kernel
theorem d_Model_wstats_366 : decode c_Model_wstats 366 = .ok (.i2l, 1) := by decide +kernel
theorem d_Model_wstats_367 : decode c_Model_wstats 367 = .ok (.lcmp, 1) := by decide +kernel
theorem d_Model_wstats_368 : decode c_Model_wstats 368 = .ok (.ifCond .eq 18, 3) := by decide +kernel
theorem d_Model_wstats_371 : decode c_Model_wstats 371 = .ok (.aload_n 0, 1) := by decide +kernel
theorem d_Model_wstats_372 : decode c_Model_wstats 372 = .ok (.iload_n 3, 1) := by decide +kernel
theorem d_Model_wstats_373 : decode c_Model_wstats 373 = .ok (.aload_n 0, 1) := by decide +kernel
theorem d_Model_wstats_374 : decode c_Model_wstats 374 = .ok (.getfield 184, 3) := by decide +kernel
theorem d_Model_wstats_377 : decode c_Model_wstats 377 = .ok (.l2i, 1) := by decide +kernel
theorem d_Model_wstats_378 : decode c_Model_wstats 378 = .ok (.invokevirtual 346, 3) := by decide +kernel
theorem d_Model_wstats_381 : decode c_Model_wstats 381 = .ok (.aload_n 0, 1) := by decide +kernel
theorem d_Model_wstats_382 : decode c_Model_wstats 382 = .ok (.iload_n 3, 1) := by decide +kernel
theorem d_Model_wstats_383 : decode c_Model_wstats 383 = .ok (.invokevirtual 334, 3) := by decide +kernel
theorem d_Model_wstats_386 : decode c_Model_wstats 386 = .ok (.aload_n 0, 1) := by decide +kernel
theorem d_Model_wstats_387 : decode c_Model_wstats 387 = .ok (.getfield 181, 3) := by decide +kernel
theorem d_Model_wstats_390 : decode c_Model_wstats 390 = .ok (.iconst (-1), 1) := by decide +kernel
theorem d_Model_wstats_391 : decode c_Model_wstats 391 = .ok (.if_icmp .eq 13, 3) := by decide +kernel
theorem d_Model_wstats_394 : decode c_Model_wstats 394 = .ok (.aload_n 0, 1) := by decide +kernel
theorem d_Model_wstats_395 : decode c_Model_wstats 395 = .ok (.getfield 23, 3) := by decide +kernel
theorem d_Model_wstats_398 : decode c_Model_wstats 398 = .ok (.iload_n 3, 1) := by decide +kernel
theorem d_Model_wstats_399 : decode c_Model_wstats 399 = .ok (.aload_n 0, 1) := by decide +kernel
theorem d_Model_wstats_400 : decode c_Model_wstats 400 = .ok (.getfield 181, 3) := by decide +kernel
theorem d_Model_wstats_403 : decode c_Model_wstats 403 = .ok (.iastore, 1) := by decide +kernel
theorem d_Model_wstats_404 : decode c_Model_wstats 404 = .ok (.return_, 1) := by decide +kernel
abbrev c_Model_answer : ByteArray := prog_14_method_45_code
def y_Model_answer : MethodName := ⟨"EpochServerModel", "answer", "(I)I"⟩
theorem d_Model_answer_0 : decode c_Model_answer 0 = .ok (.iload_n 1, 1) := by decide +kernel
theorem d_Model_answer_1 : decode c_Model_answer 1 = .ok (.aload_n 0, 1) := by decide +kernel
theorem d_Model_answer_2 : decode c_Model_answer 2 = .ok (.getfield 197, 3) := by decide +kernel
theorem d_Model_answer_5 : decode c_Model_answer 5 = .ok (.invokestatic 110, 3) := by decide +kernel
theorem d_Model_answer_8 : decode c_Model_answer 8 = .ok (.ifCond .eq 12, 3) := by decide +kernel
theorem d_Model_answer_11 : decode c_Model_answer 11 = .ok (.aload_n 0, 1) := by decide +kernel
theorem d_Model_answer_12 : decode c_Model_answer 12 = .ok (.getfield 47, 3) := by decide +kernel
theorem d_Model_answer_15 : decode c_Model_answer 15 = .ok (.iload_n 1, 1) := by decide +kernel
theorem d_Model_answer_16 : decode c_Model_answer 16 = .ok (.iaload, 1) := by decide +kernel
theorem d_Model_answer_17 : decode c_Model_answer 17 = .ok (.goto 4, 3) := by decide +kernel
theorem d_Model_answer_20 : decode c_Model_answer 20 = .ok (.iconst (-1), 1) := by decide +kernel
theorem d_Model_answer_21 : decode c_Model_answer 21 = .ok (.ireturn, 1) := by decide +kernel
abbrev c_Model_word : ByteArray := prog_14_method_46_code
def y_Model_word : MethodName := ⟨"EpochServerModel", "word", "(I)I"⟩
theorem d_Model_word_0 : decode c_Model_word 0 = .ok (.iload_n 1, 1) := by decide +kernel
theorem d_Model_word_1 : decode c_Model_word 1 = .ok (.ifCond .ge 5, 3) := by decide +kernel
theorem d_Model_word_4 : decode c_Model_word 4 = .ok (.iconst 0, 1) := by decide +kernel
theorem d_Model_word_5 : decode c_Model_word 5 = .ok (.ireturn, 1) := by decide +kernel
theorem d_Model_word_6 : decode c_Model_word 6 = .ok (.iconst 0, 1) := by decide +kernel
theorem d_Model_word_7 : decode c_Model_word 7 = .ok (.istore_n 2, 1) := by decide +kernel
theorem d_Model_word_8 : decode c_Model_word 8 = .ok (.iconst 3, 1) := by decide +kernel
theorem d_Model_word_9 : decode c_Model_word 9 = .ok (.istore_n 3, 1) := by decide +kernel
theorem d_Model_word_10 : decode c_Model_word 10 = .ok (.iload_n 3, 1) := by decide +kernel
theorem d_Model_word_11 : decode c_Model_word 11 = .ok (.ifCond .lt 37, 3) := by decide +kernel
theorem d_Model_word_14 : decode c_Model_word 14 = .ok (.iload_n 2, 1) := by decide +kernel
theorem d_Model_word_15 : decode c_Model_word 15 = .ok (.bipush 8, 2) := by decide +kernel
theorem d_Model_word_17 : decode c_Model_word 17 = .ok (.ishl, 1) := by decide +kernel
theorem d_Model_word_18 : decode c_Model_word 18 = .ok (.iload_n 1, 1) := by decide +kernel
theorem d_Model_word_19 : decode c_Model_word 19 = .ok (.aload_n 0, 1) := by decide +kernel
theorem d_Model_word_20 : decode c_Model_word 20 = .ok (.getfield 197, 3) := by decide +kernel
theorem d_Model_word_23 : decode c_Model_word 23 = .ok (.iload_n 3, 1) := by decide +kernel
theorem d_Model_word_24 : decode c_Model_word 24 = .ok (.isub, 1) := by decide +kernel
theorem d_Model_word_25 : decode c_Model_word 25 = .ok (.if_icmp .ge 14, 3) := by decide +kernel
theorem d_Model_word_28 : decode c_Model_word 28 = .ok (.aload_n 0, 1) := by decide +kernel
theorem d_Model_word_29 : decode c_Model_word 29 = .ok (.getfield 47, 3) := by decide +kernel
theorem d_Model_word_32 : decode c_Model_word 32 = .ok (.iload_n 1, 1) := by decide +kernel
theorem d_Model_word_33 : decode c_Model_word 33 = .ok (.iload_n 3, 1) := by decide +kernel
theorem d_Model_word_34 : decode c_Model_word 34 = .ok (.iadd, 1) := by decide +kernel
theorem d_Model_word_35 : decode c_Model_word 35 = .ok (.iaload, 1) := by decide +kernel
theorem d_Model_word_36 : decode c_Model_word 36 = .ok (.goto 4, 3) := by decide +kernel
theorem d_Model_word_39 : decode c_Model_word 39 = .ok (.iconst 0, 1) := by decide +kernel
theorem d_Model_word_40 : decode c_Model_word 40 = .ok (.ior, 1) := by decide +kernel
theorem d_Model_word_41 : decode c_Model_word 41 = .ok (.istore_n 2, 1) := by decide +kernel
theorem d_Model_word_42 : decode c_Model_word 42 = .ok (.iinc 3 (-1), 3) := by decide +kernel
theorem d_Model_word_45 : decode c_Model_word 45 = .ok (.goto (-35), 3) := by decide +kernel
theorem d_Model_word_48 : decode c_Model_word 48 = .ok (.iload_n 2, 1) := by decide +kernel
theorem d_Model_word_49 : decode c_Model_word 49 = .ok (.ireturn, 1) := by decide +kernel
abbrev c_Model_snap : ByteArray := prog_14_method_47_code
def y_Model_snap : MethodName := ⟨"EpochServerModel", "snap", "()I"⟩
theorem d_Model_snap_0 : decode c_Model_snap 0 = .ok (.aload_n 0, 1) := by decide +kernel
theorem d_Model_snap_1 : decode c_Model_snap 1 = .ok (.getfield 315, 3) := by decide +kernel
theorem d_Model_snap_4 : decode c_Model_snap 4 = .ok (.bipush 6, 2) := by decide +kernel
theorem d_Model_snap_6 : decode c_Model_snap 6 = .ok (.if_icmp .ne 5, 3) := by decide +kernel
theorem d_Model_snap_9 : decode c_Model_snap 9 = .ok (.iconst (-1), 1) := by decide +kernel
theorem d_Model_snap_10 : decode c_Model_snap 10 = .ok (.ireturn, 1) := by decide +kernel
theorem d_Model_snap_11 : decode c_Model_snap 11 = .ok (.aload_n 0, 1) := by decide +kernel
theorem d_Model_snap_12 : decode c_Model_snap 12 = .ok (.dup, 1) := by decide +kernel
theorem d_Model_snap_13 : decode c_Model_snap 13 = .ok (.getfield 315, 3) := by decide +kernel
theorem d_Model_snap_16 : decode c_Model_snap 16 = .ok (.iconst 1, 1) := by decide +kernel
theorem d_Model_snap_17 : decode c_Model_snap 17 = .ok (.iadd, 1) := by decide +kernel
theorem d_Model_snap_18 : decode c_Model_snap 18 = .ok (.putfield 315, 3) := by decide +kernel
theorem d_Model_snap_21 : decode c_Model_snap 21 = .ok (.aload_n 0, 1) := by decide +kernel
theorem d_Model_snap_22 : decode c_Model_snap 22 = .ok (.iconst 0, 1) := by decide +kernel
theorem d_Model_snap_23 : decode c_Model_snap 23 = .ok (.aload_n 0, 1) := by decide +kernel
theorem d_Model_snap_24 : decode c_Model_snap 24 = .ok (.getfield 315, 3) := by decide +kernel
theorem d_Model_snap_27 : decode c_Model_snap 27 = .ok (.invokevirtual 193, 3) := by decide +kernel
theorem d_Model_snap_30 : decode c_Model_snap 30 = .ok (.aload_n 0, 1) := by decide +kernel
theorem d_Model_snap_31 : decode c_Model_snap 31 = .ok (.getfield 315, 3) := by decide +kernel
theorem d_Model_snap_34 : decode c_Model_snap 34 = .ok (.iconst 1, 1) := by decide +kernel
theorem d_Model_snap_35 : decode c_Model_snap 35 = .ok (.isub, 1) := by decide +kernel
theorem d_Model_snap_36 : decode c_Model_snap 36 = .ok (.ireturn, 1) := by decide +kernel
abbrev c_Model_crash : ByteArray := prog_14_method_48_code
def y_Model_crash : MethodName := ⟨"EpochServerModel", "crash", "(I)I"⟩
theorem d_Model_crash_0 : decode c_Model_crash 0 = .ok (.iload_n 1, 1) := by decide +kernel
theorem d_Model_crash_1 : decode c_Model_crash 1 = .ok (.ifCond .lt 11, 3) := by decide +kernel
theorem d_Model_crash_4 : decode c_Model_crash 4 = .ok (.iload_n 1, 1) := by decide +kernel
theorem d_Model_crash_5 : decode c_Model_crash 5 = .ok (.aload_n 0, 1) := by decide +kernel
theorem d_Model_crash_6 : decode c_Model_crash 6 = .ok (.getfield 222, 3) := by decide +kernel
theorem d_Model_crash_9 : decode c_Model_crash 9 = .ok (.if_icmp .le 5, 3) := by decide +kernel
theorem d_Model_crash_12 : decode c_Model_crash 12 = .ok (.iconst (-1), 1) := by decide +kernel
theorem d_Model_crash_13 : decode c_Model_crash 13 = .ok (.ireturn, 1) := by decide +kernel
theorem d_Model_crash_14 : decode c_Model_crash 14 = .ok (.iload_n 1, 1) := by decide +kernel
theorem d_Model_crash_15 : decode c_Model_crash 15 = .ok (.ifCond .le 25, 3) := by decide +kernel
theorem d_Model_crash_18 : decode c_Model_crash 18 = .ok (.aload_n 0, 1) := by decide +kernel
theorem d_Model_crash_19 : decode c_Model_crash 19 = .ok (.bipush 7, 2) := by decide +kernel
theorem d_Model_crash_21 : decode c_Model_crash 21 = .ok (.aload_n 0, 1) := by decide +kernel
theorem d_Model_crash_22 : decode c_Model_crash 22 = .ok (.getfield 225, 3) := by decide +kernel
theorem d_Model_crash_25 : decode c_Model_crash 25 = .ok (.aload_n 0, 1) := by decide +kernel
theorem d_Model_crash_26 : decode c_Model_crash 26 = .ok (.getfield 222, 3) := by decide +kernel
theorem d_Model_crash_29 : decode c_Model_crash 29 = .ok (.iadd, 1) := by decide +kernel
theorem d_Model_crash_30 : decode c_Model_crash 30 = .ok (.iload_n 1, 1) := by decide +kernel
theorem d_Model_crash_31 : decode c_Model_crash 31 = .ok (.isub, 1) := by decide +kernel
theorem d_Model_crash_32 : decode c_Model_crash 32 = .ok (.bipush 20, 2) := by decide +kernel
theorem d_Model_crash_34 : decode c_Model_crash 34 = .ok (.irem, 1) := by decide +kernel
theorem d_Model_crash_35 : decode c_Model_crash 35 = .ok (.iadd, 1) := by decide +kernel
theorem d_Model_crash_36 : decode c_Model_crash 36 = .ok (.iconst 0, 1) := by decide +kernel
theorem d_Model_crash_37 : decode c_Model_crash 37 = .ok (.invokevirtual 193, 3) := by decide +kernel
theorem d_Model_crash_40 : decode c_Model_crash 40 = .ok (.aload_n 0, 1) := by decide +kernel
theorem d_Model_crash_41 : decode c_Model_crash 41 = .ok (.iconst 0, 1) := by decide +kernel
theorem d_Model_crash_42 : decode c_Model_crash 42 = .ok (.putfield 240, 3) := by decide +kernel
theorem d_Model_crash_45 : decode c_Model_crash 45 = .ok (.aload_n 0, 1) := by decide +kernel
theorem d_Model_crash_46 : decode c_Model_crash 46 = .ok (.iconst 0, 1) := by decide +kernel
theorem d_Model_crash_47 : decode c_Model_crash 47 = .ok (.putfield 246, 3) := by decide +kernel
theorem d_Model_crash_50 : decode c_Model_crash 50 = .ok (.aload_n 0, 1) := by decide +kernel
theorem d_Model_crash_51 : decode c_Model_crash 51 = .ok (.iconst 0, 1) := by decide +kernel
theorem d_Model_crash_52 : decode c_Model_crash 52 = .ok (.putfield 222, 3) := by decide +kernel
theorem d_Model_crash_55 : decode c_Model_crash 55 = .ok (.iconst 1, 1) := by decide +kernel
theorem d_Model_crash_56 : decode c_Model_crash 56 = .ok (.ireturn, 1) := by decide +kernel
abbrev c_Model_file : ByteArray := prog_14_method_49_code
def y_Model_file : MethodName := ⟨"EpochServerModel", "file", "(III)I"⟩
theorem d_Model_file_0 : decode c_Model_file 0 = .ok (.iload_n 1, 1) := by decide +kernel
theorem d_Model_file_1 : decode c_Model_file 1 = .ok (.iconst (-1), 1) := by decide +kernel
theorem d_Model_file_2 : decode c_Model_file 2 = .ok (.if_icmp .lt 35, 3) := by decide +kernel
theorem d_Model_file_5 : decode c_Model_file 5 = .ok (.iload_n 1, 1) := by decide +kernel
theorem d_Model_file_6 : decode c_Model_file 6 = .ok (.aload_n 0, 1) := by decide +kernel
theorem d_Model_file_7 : decode c_Model_file 7 = .ok (.getfield 315, 3) := by decide +kernel
theorem d_Model_file_10 : decode c_Model_file 10 = .ok (.if_icmp .ge 27, 3) := by decide +kernel
theorem d_Model_file_13 : decode c_Model_file 13 = .ok (.iload_n 2, 1) := by decide +kernel
theorem d_Model_file_14 : decode c_Model_file 14 = .ok (.bipush 60, 2) := by decide +kernel
theorem d_Model_file_16 : decode c_Model_file 16 = .ok (.invokestatic 110, 3) := by decide +kernel
theorem d_Model_file_19 : decode c_Model_file 19 = .ok (.ifCond .eq 18, 3) := by decide +kernel
theorem d_Model_file_22 : decode c_Model_file 22 = .ok (.aload_n 0, 1) := by decide +kernel
theorem d_Model_file_23 : decode c_Model_file 23 = .ok (.getfield 9, 3) := by decide +kernel
theorem d_Model_file_26 : decode c_Model_file 26 = .ok (.iload_n 1, 1) := by decide +kernel
theorem d_Model_file_27 : decode c_Model_file 27 = .ok (.iconst 1, 1) := by decide +kernel
theorem d_Model_file_28 : decode c_Model_file 28 = .ok (.iadd, 1) := by decide +kernel
theorem d_Model_file_29 : decode c_Model_file 29 = .ok (.iload_n 2, 1) := by decide +kernel
theorem d_Model_file_30 : decode c_Model_file 30 = .ok (.invokestatic 96, 3) := by decide +kernel
theorem d_Model_file_33 : decode c_Model_file 33 = .ok (.baload, 1) := by decide +kernel
theorem d_Model_file_34 : decode c_Model_file 34 = .ok (.ifCond .ne 6, 3) := by decide +kernel
theorem d_Model_file_37 : decode c_Model_file 37 = .ok (.bipush (-9), 2) := by decide +kernel
theorem d_Model_file_39 : decode c_Model_file 39 = .ok (.ireturn, 1) := by decide +kernel
theorem d_Model_file_40 : decode c_Model_file 40 = .ok (.iload_n 1, 1) := by decide +kernel
theorem d_Model_file_41 : decode c_Model_file 41 = .ok (.iconst 1, 1) := by decide +kernel
theorem d_Model_file_42 : decode c_Model_file 42 = .ok (.iadd, 1) := by decide +kernel
theorem d_Model_file_43 : decode c_Model_file 43 = .ok (.iload_n 2, 1) := by decide +kernel
theorem d_Model_file_44 : decode c_Model_file 44 = .ok (.invokestatic 96, 3) := by decide +kernel
theorem d_Model_file_47 : decode c_Model_file 47 = .ok (.istore 4, 2) := by decide +kernel
theorem d_Model_file_49 : decode c_Model_file 49 = .ok (.iload_n 3, 1) := by decide +kernel
theorem d_Model_file_50 : decode c_Model_file 50 = .ok (.tableswitch 106 0 5 #[38, 46, 54, 62, 70, 98], 38) := by decide +kernel
theorem d_Model_file_88 : decode c_Model_file 88 = .ok (.aload_n 0, 1) := by decide +kernel
theorem d_Model_file_89 : decode c_Model_file 89 = .ok (.getfield 13, 3) := by decide +kernel
theorem d_Model_file_92 : decode c_Model_file 92 = .ok (.iload 4, 2) := by decide +kernel
theorem d_Model_file_94 : decode c_Model_file 94 = .ok (.iaload, 1) := by decide +kernel
theorem d_Model_file_95 : decode c_Model_file 95 = .ok (.ireturn, 1) := by decide +kernel
theorem d_Model_file_96 : decode c_Model_file 96 = .ok (.aload_n 0, 1) := by decide +kernel
theorem d_Model_file_97 : decode c_Model_file 97 = .ok (.getfield 20, 3) := by decide +kernel
theorem d_Model_file_100 : decode c_Model_file 100 = .ok (.iload 4, 2) := by decide +kernel
theorem d_Model_file_102 : decode c_Model_file 102 = .ok (.iaload, 1) := by decide +kernel
theorem d_Model_file_103 : decode c_Model_file 103 = .ok (.ireturn, 1) := by decide +kernel
theorem d_Model_file_104 : decode c_Model_file 104 = .ok (.aload_n 0, 1) := by decide +kernel
theorem d_Model_file_105 : decode c_Model_file 105 = .ok (.getfield 17, 3) := by decide +kernel
theorem d_Model_file_108 : decode c_Model_file 108 = .ok (.iload 4, 2) := by decide +kernel
theorem d_Model_file_110 : decode c_Model_file 110 = .ok (.iaload, 1) := by decide +kernel
theorem d_Model_file_111 : decode c_Model_file 111 = .ok (.ireturn, 1) := by decide +kernel
theorem d_Model_file_112 : decode c_Model_file 112 = .ok (.aload_n 0, 1) := by decide +kernel
theorem d_Model_file_113 : decode c_Model_file 113 = .ok (.getfield 23, 3) := by decide +kernel
theorem d_Model_file_116 : decode c_Model_file 116 = .ok (.iload 4, 2) := by decide +kernel
theorem d_Model_file_118 : decode c_Model_file 118 = .ok (.iaload, 1) := by decide +kernel
theorem d_Model_file_119 : decode c_Model_file 119 = .ok (.ireturn, 1) := by decide +kernel
theorem d_Model_file_120 : decode c_Model_file 120 = .ok (.aload_n 0, 1) := by decide +kernel
theorem d_Model_file_121 : decode c_Model_file 121 = .ok (.iload 4, 2) := by decide +kernel
theorem d_Model_file_123 : decode c_Model_file 123 = .ok (.invokevirtual 230, 3) := by decide +kernel
theorem d_Model_file_126 : decode c_Model_file 126 = .ok (.ifCond .eq 14, 3) := by decide +kernel
theorem d_Model_file_129 : decode c_Model_file 129 = .ok (.aload_n 0, 1) := by decide +kernel
theorem d_Model_file_130 : decode c_Model_file 130 = .ok (.iload_n 1, 1) := by decide +kernel
theorem d_Model_file_131 : decode c_Model_file 131 = .ok (.iconst 1, 1) := by decide +kernel
theorem d_Model_file_132 : decode c_Model_file 132 = .ok (.iadd, 1) := by decide +kernel
theorem d_Model_file_133 : decode c_Model_file 133 = .ok (.iload_n 2, 1) := by decide +kernel
theorem d_Model_file_134 : decode c_Model_file 134 = .ok (.invokevirtual 349, 3) := by decide +kernel
theorem d_Model_file_137 : decode c_Model_file 137 = .ok (.goto 10, 3) := by decide +kernel
theorem d_Model_file_140 : decode c_Model_file 140 = .ok (.aload_n 0, 1) := by decide +kernel
theorem d_Model_file_141 : decode c_Model_file 141 = .ok (.getfield 26, 3) := by decide +kernel
theorem d_Model_file_144 : decode c_Model_file 144 = .ok (.iload 4, 2) := by decide +kernel
theorem d_Model_file_146 : decode c_Model_file 146 = .ok (.iaload, 1) := by decide +kernel
theorem d_Model_file_147 : decode c_Model_file 147 = .ok (.ireturn, 1) := by decide +kernel
theorem d_Model_file_148 : decode c_Model_file 148 = .ok (.aload_n 0, 1) := by decide +kernel
theorem d_Model_file_149 : decode c_Model_file 149 = .ok (.getfield 29, 3) := by decide +kernel
theorem d_Model_file_152 : decode c_Model_file 152 = .ok (.iload 4, 2) := by decide +kernel
theorem d_Model_file_154 : decode c_Model_file 154 = .ok (.iaload, 1) := by decide +kernel
theorem d_Model_file_155 : decode c_Model_file 155 = .ok (.ireturn, 1) := by decide +kernel
theorem d_Model_file_156 : decode c_Model_file 156 = .ok (.bipush (-9), 2) := by decide +kernel
theorem d_Model_file_158 : decode c_Model_file 158 = .ok (.ireturn, 1) := by decide +kernel
abbrev c_Model_fid : ByteArray := prog_14_method_50_code
def y_Model_fid : MethodName := ⟨"EpochServerModel", "fid", "(II)I"⟩
theorem d_Model_fid_0 : decode c_Model_fid 0 = .ok (.aload_n 0, 1) := by decide +kernel
theorem d_Model_fid_1 : decode c_Model_fid 1 = .ok (.iload_n 1, 1) := by decide +kernel
theorem d_Model_fid_2 : decode c_Model_fid 2 = .ok (.invokevirtual 256, 3) := by decide +kernel
theorem d_Model_fid_5 : decode c_Model_fid 5 = .ok (.istore_n 3, 1) := by decide +kernel
theorem d_Model_fid_6 : decode c_Model_fid 6 = .ok (.iload_n 3, 1) := by decide +kernel
theorem d_Model_fid_7 : decode c_Model_fid 7 = .ok (.ifCond .ge 6, 3) := by decide +kernel
theorem d_Model_fid_10 : decode c_Model_fid 10 = .ok (.bipush (-9), 2) := by decide +kernel
theorem d_Model_fid_12 : decode c_Model_fid 12 = .ok (.ireturn, 1) := by decide +kernel
theorem d_Model_fid_13 : decode c_Model_fid 13 = .ok (.iload_n 2, 1) := by decide +kernel
theorem d_Model_fid_14 : decode c_Model_fid 14 = .ok (.tableswitch 99 0 4 #[34, 43, 50, 65, 85], 34) := by decide +kernel
theorem d_Model_fid_48 : decode c_Model_fid 48 = .ok (.aload_n 0, 1) := by decide +kernel
theorem d_Model_fid_49 : decode c_Model_fid 49 = .ok (.getfield 53, 3) := by decide +kernel
theorem d_Model_fid_52 : decode c_Model_fid 52 = .ok (.iload_n 3, 1) := by decide +kernel
theorem d_Model_fid_53 : decode c_Model_fid 53 = .ok (.iaload, 1) := by decide +kernel
theorem d_Model_fid_54 : decode c_Model_fid 54 = .ok (.iconst 1, 1) := by decide +kernel
theorem d_Model_fid_55 : decode c_Model_fid 55 = .ok (.isub, 1) := by decide +kernel
theorem d_Model_fid_56 : decode c_Model_fid 56 = .ok (.ireturn, 1) := by decide +kernel
theorem d_Model_fid_57 : decode c_Model_fid 57 = .ok (.aload_n 0, 1) := by decide +kernel
theorem d_Model_fid_58 : decode c_Model_fid 58 = .ok (.getfield 56, 3) := by decide +kernel
theorem d_Model_fid_61 : decode c_Model_fid 61 = .ok (.iload_n 3, 1) := by decide +kernel
theorem d_Model_fid_62 : decode c_Model_fid 62 = .ok (.iaload, 1) := by decide +kernel
theorem d_Model_fid_63 : decode c_Model_fid 63 = .ok (.ireturn, 1) := by decide +kernel
theorem d_Model_fid_64 : decode c_Model_fid 64 = .ok (.aload_n 0, 1) := by decide +kernel
theorem d_Model_fid_65 : decode c_Model_fid 65 = .ok (.getfield 59, 3) := by decide +kernel
theorem d_Model_fid_68 : decode c_Model_fid 68 = .ok (.iload_n 3, 1) := by decide +kernel
theorem d_Model_fid_69 : decode c_Model_fid 69 = .ok (.iaload, 1) := by decide +kernel
theorem d_Model_fid_70 : decode c_Model_fid 70 = .ok (.ifCond .ge 7, 3) := by decide +kernel
theorem d_Model_fid_73 : decode c_Model_fid 73 = .ok (.iconst 0, 1) := by decide +kernel
theorem d_Model_fid_74 : decode c_Model_fid 74 = .ok (.goto 4, 3) := by decide +kernel
theorem d_Model_fid_77 : decode c_Model_fid 77 = .ok (.iconst 1, 1) := by decide +kernel
theorem d_Model_fid_78 : decode c_Model_fid 78 = .ok (.ireturn, 1) := by decide +kernel
theorem d_Model_fid_79 : decode c_Model_fid 79 = .ok (.aload_n 0, 1) := by decide +kernel
theorem d_Model_fid_80 : decode c_Model_fid 80 = .ok (.getfield 59, 3) := by decide +kernel
theorem d_Model_fid_83 : decode c_Model_fid 83 = .ok (.iload_n 3, 1) := by decide +kernel
theorem d_Model_fid_84 : decode c_Model_fid 84 = .ok (.iaload, 1) := by decide +kernel
theorem d_Model_fid_85 : decode c_Model_fid 85 = .ok (.ifCond .ge 7, 3) := by decide +kernel
theorem d_Model_fid_88 : decode c_Model_fid 88 = .ok (.iconst 0, 1) := by decide +kernel
theorem d_Model_fid_89 : decode c_Model_fid 89 = .ok (.goto 9, 3) := by decide +kernel
theorem d_Model_fid_92 : decode c_Model_fid 92 = .ok (.aload_n 0, 1) := by decide +kernel
theorem d_Model_fid_93 : decode c_Model_fid 93 = .ok (.getfield 59, 3) := by decide +kernel
theorem d_Model_fid_96 : decode c_Model_fid 96 = .ok (.iload_n 3, 1) := by decide +kernel
theorem d_Model_fid_97 : decode c_Model_fid 97 = .ok (.iaload, 1) := by decide +kernel
theorem d_Model_fid_98 : decode c_Model_fid 98 = .ok (.ireturn, 1) := by decide +kernel
theorem d_Model_fid_99 : decode c_Model_fid 99 = .ok (.aload_n 0, 1) := by decide +kernel
theorem d_Model_fid_100 : decode c_Model_fid 100 = .ok (.iload_n 3, 1) := by decide +kernel
theorem d_Model_fid_101 : decode c_Model_fid 101 = .ok (.invokevirtual 260, 3) := by decide +kernel
theorem d_Model_fid_104 : decode c_Model_fid 104 = .ok (.ifCond .eq 7, 3) := by decide +kernel
theorem d_Model_fid_107 : decode c_Model_fid 107 = .ok (.iconst 1, 1) := by decide +kernel
theorem d_Model_fid_108 : decode c_Model_fid 108 = .ok (.goto 4, 3) := by decide +kernel
theorem d_Model_fid_111 : decode c_Model_fid 111 = .ok (.iconst 0, 1) := by decide +kernel
theorem d_Model_fid_112 : decode c_Model_fid 112 = .ok (.ireturn, 1) := by decide +kernel
theorem d_Model_fid_113 : decode c_Model_fid 113 = .ok (.bipush (-9), 2) := by decide +kernel
theorem d_Model_fid_115 : decode c_Model_fid 115 = .ok (.ireturn, 1) := by decide +kernel
abbrev c_Model_count : ByteArray := prog_14_method_51_code
def y_Model_count : MethodName := ⟨"EpochServerModel", "count", "(I)I"⟩
theorem d_Model_count_0 : decode c_Model_count 0 = .ok (.iconst 0, 1) := by decide +kernel
theorem d_Model_count_1 : decode c_Model_count 1 = .ok (.istore_n 2, 1) := by decide +kernel
theorem d_Model_count_2 : decode c_Model_count 2 = .ok (.iload_n 1, 1) := by decide +kernel
theorem d_Model_count_3 : decode c_Model_count 3 = .ok (.tableswitch 158 0 12 #[65, 70, 103, 108, 113, 118, 123, 128, 133, 138, 143, 148, 153], 65) := by decide +kernel
theorem d_Model_count_68 : decode c_Model_count 68 = .ok (.aload_n 0, 1) := by decide +kernel
theorem d_Model_count_69 : decode c_Model_count 69 = .ok (.getfield 100, 3) := by decide +kernel
theorem d_Model_count_72 : decode c_Model_count 72 = .ok (.ireturn, 1) := by decide +kernel
theorem d_Model_count_73 : decode c_Model_count 73 = .ok (.iconst 0, 1) := by decide +kernel
theorem d_Model_count_74 : decode c_Model_count 74 = .ok (.istore_n 3, 1) := by decide +kernel
theorem d_Model_count_75 : decode c_Model_count 75 = .ok (.iload_n 3, 1) := by decide +kernel
theorem d_Model_count_76 : decode c_Model_count 76 = .ok (.bipush 60, 2) := by decide +kernel
theorem d_Model_count_78 : decode c_Model_count 78 = .ok (.if_icmp .ge 26, 3) := by decide +kernel
theorem d_Model_count_81 : decode c_Model_count 81 = .ok (.iload_n 2, 1) := by decide +kernel
theorem d_Model_count_82 : decode c_Model_count 82 = .ok (.aload_n 0, 1) := by decide +kernel
theorem d_Model_count_83 : decode c_Model_count 83 = .ok (.getfield 9, 3) := by decide +kernel
theorem d_Model_count_86 : decode c_Model_count 86 = .ok (.iload_n 3, 1) := by decide +kernel
theorem d_Model_count_87 : decode c_Model_count 87 = .ok (.baload, 1) := by decide +kernel
theorem d_Model_count_88 : decode c_Model_count 88 = .ok (.ifCond .eq 7, 3) := by decide +kernel
theorem d_Model_count_91 : decode c_Model_count 91 = .ok (.iconst 1, 1) := by decide +kernel
theorem d_Model_count_92 : decode c_Model_count 92 = .ok (.goto 4, 3) := by decide +kernel
theorem d_Model_count_95 : decode c_Model_count 95 = .ok (.iconst 0, 1) := by decide +kernel
theorem d_Model_count_96 : decode c_Model_count 96 = .ok (.iadd, 1) := by decide +kernel
theorem d_Model_count_97 : decode c_Model_count 97 = .ok (.istore_n 2, 1) := by decide +kernel
theorem d_Model_count_98 : decode c_Model_count 98 = .ok (.iinc 3 1, 3) := by decide +kernel
theorem d_Model_count_101 : decode c_Model_count 101 = .ok (.goto (-26), 3) := by decide +kernel
theorem d_Model_count_104 : decode c_Model_count 104 = .ok (.iload_n 2, 1) := by decide +kernel
theorem d_Model_count_105 : decode c_Model_count 105 = .ok (.ireturn, 1) := by decide +kernel
theorem d_Model_count_106 : decode c_Model_count 106 = .ok (.aload_n 0, 1) := by decide +kernel
theorem d_Model_count_107 : decode c_Model_count 107 = .ok (.getfield 40, 3) := by decide +kernel
theorem d_Model_count_110 : decode c_Model_count 110 = .ok (.ireturn, 1) := by decide +kernel
theorem d_Model_count_111 : decode c_Model_count 111 = .ok (.aload_n 0, 1) := by decide +kernel
theorem d_Model_count_112 : decode c_Model_count 112 = .ok (.getfield 240, 3) := by decide +kernel
theorem d_Model_count_115 : decode c_Model_count 115 = .ok (.ireturn, 1) := by decide +kernel
theorem d_Model_count_116 : decode c_Model_count 116 = .ok (.aload_n 0, 1) := by decide +kernel
theorem d_Model_count_117 : decode c_Model_count 117 = .ok (.getfield 315, 3) := by decide +kernel
theorem d_Model_count_120 : decode c_Model_count 120 = .ok (.ireturn, 1) := by decide +kernel
theorem d_Model_count_121 : decode c_Model_count 121 = .ok (.aload_n 0, 1) := by decide +kernel
theorem d_Model_count_122 : decode c_Model_count 122 = .ok (.getfield 222, 3) := by decide +kernel
theorem d_Model_count_125 : decode c_Model_count 125 = .ok (.ireturn, 1) := by decide +kernel
theorem d_Model_count_126 : decode c_Model_count 126 = .ok (.aload_n 0, 1) := by decide +kernel
theorem d_Model_count_127 : decode c_Model_count 127 = .ok (.getfield 355, 3) := by decide +kernel
theorem d_Model_count_130 : decode c_Model_count 130 = .ok (.ireturn, 1) := by decide +kernel
theorem d_Model_count_131 : decode c_Model_count 131 = .ok (.aload_n 0, 1) := by decide +kernel
theorem d_Model_count_132 : decode c_Model_count 132 = .ok (.getfield 358, 3) := by decide +kernel
theorem d_Model_count_135 : decode c_Model_count 135 = .ok (.ireturn, 1) := by decide +kernel
theorem d_Model_count_136 : decode c_Model_count 136 = .ok (.aload_n 0, 1) := by decide +kernel
theorem d_Model_count_137 : decode c_Model_count 137 = .ok (.getfield 246, 3) := by decide +kernel
theorem d_Model_count_140 : decode c_Model_count 140 = .ok (.ireturn, 1) := by decide +kernel
theorem d_Model_count_141 : decode c_Model_count 141 = .ok (.aload_n 0, 1) := by decide +kernel
theorem d_Model_count_142 : decode c_Model_count 142 = .ok (.getfield 103, 3) := by decide +kernel
theorem d_Model_count_145 : decode c_Model_count 145 = .ok (.ireturn, 1) := by decide +kernel
theorem d_Model_count_146 : decode c_Model_count 146 = .ok (.aload_n 0, 1) := by decide +kernel
theorem d_Model_count_147 : decode c_Model_count 147 = .ok (.getfield 197, 3) := by decide +kernel
theorem d_Model_count_150 : decode c_Model_count 150 = .ok (.ireturn, 1) := by decide +kernel
theorem d_Model_count_151 : decode c_Model_count 151 = .ok (.aload_n 0, 1) := by decide +kernel
theorem d_Model_count_152 : decode c_Model_count 152 = .ok (.getfield 190, 3) := by decide +kernel
theorem d_Model_count_155 : decode c_Model_count 155 = .ok (.ireturn, 1) := by decide +kernel
theorem d_Model_count_156 : decode c_Model_count 156 = .ok (.aload_n 0, 1) := by decide +kernel
theorem d_Model_count_157 : decode c_Model_count 157 = .ok (.getfield 209, 3) := by decide +kernel
theorem d_Model_count_160 : decode c_Model_count 160 = .ok (.ireturn, 1) := by decide +kernel
theorem d_Model_count_161 : decode c_Model_count 161 = .ok (.bipush (-9), 2) := by decide +kernel
theorem d_Model_count_163 : decode c_Model_count 163 = .ok (.ireturn, 1) := by decide +kernel
abbrev c_Model_turn : ByteArray := prog_14_method_52_code
def y_Model_turn : MethodName := ⟨"EpochServerModel", "turn", "(II)I"⟩
theorem d_Model_turn_0 : decode c_Model_turn 0 = .ok (.iload_n 0, 1) := by decide +kernel
theorem d_Model_turn_1 : decode c_Model_turn 1 = .ok (.iload_n 1, 1) := by decide +kernel
theorem d_Model_turn_2 : decode c_Model_turn 2 = .ok (.ishl, 1) := by decide +kernel
theorem d_Model_turn_3 : decode c_Model_turn 3 = .ok (.iload_n 0, 1) := by decide +kernel
theorem d_Model_turn_4 : decode c_Model_turn 4 = .ok (.bipush 32, 2) := by decide +kernel
theorem d_Model_turn_6 : decode c_Model_turn 6 = .ok (.iload_n 1, 1) := by decide +kernel
theorem d_Model_turn_7 : decode c_Model_turn 7 = .ok (.isub, 1) := by decide +kernel
theorem d_Model_turn_8 : decode c_Model_turn 8 = .ok (.iushr, 1) := by decide +kernel
theorem d_Model_turn_9 : decode c_Model_turn 9 = .ok (.ior, 1) := by decide +kernel
theorem d_Model_turn_10 : decode c_Model_turn 10 = .ok (.ireturn, 1) := by decide +kernel
abbrev c_Model_hashes : ByteArray := prog_14_method_53_code
def y_Model_hashes : MethodName := ⟨"EpochServerModel", "hashes", "(I)V"⟩
theorem d_Model_hashes_0 : decode c_Model_hashes 0 = .ok (.aload_n 0, 1) := by decide +kernel
theorem d_Model_hashes_1 : decode c_Model_hashes 1 = .ok (.getfield 86, 3) := by decide +kernel
theorem d_Model_hashes_4 : decode c_Model_hashes 4 = .ok (.iconst 0, 1) := by decide +kernel
theorem d_Model_hashes_5 : decode c_Model_hashes 5 = .ok (.ldc_w 361, 3) := by decide +kernel
theorem d_Model_hashes_8 : decode c_Model_hashes 8 = .ok (.iastore, 1) := by decide +kernel
theorem d_Model_hashes_9 : decode c_Model_hashes 9 = .ok (.aload_n 0, 1) := by decide +kernel
theorem d_Model_hashes_10 : decode c_Model_hashes 10 = .ok (.getfield 86, 3) := by decide +kernel
theorem d_Model_hashes_13 : decode c_Model_hashes 13 = .ok (.iconst 1, 1) := by decide +kernel
theorem d_Model_hashes_14 : decode c_Model_hashes 14 = .ok (.ldc_w 362, 3) := by decide +kernel
theorem d_Model_hashes_17 : decode c_Model_hashes 17 = .ok (.iastore, 1) := by decide +kernel
theorem d_Model_hashes_18 : decode c_Model_hashes 18 = .ok (.aload_n 0, 1) := by decide +kernel
theorem d_Model_hashes_19 : decode c_Model_hashes 19 = .ok (.getfield 86, 3) := by decide +kernel
theorem d_Model_hashes_22 : decode c_Model_hashes 22 = .ok (.iconst 2, 1) := by decide +kernel
theorem d_Model_hashes_23 : decode c_Model_hashes 23 = .ok (.ldc_w 363, 3) := by decide +kernel
theorem d_Model_hashes_26 : decode c_Model_hashes 26 = .ok (.iastore, 1) := by decide +kernel
theorem d_Model_hashes_27 : decode c_Model_hashes 27 = .ok (.aload_n 0, 1) := by decide +kernel
theorem d_Model_hashes_28 : decode c_Model_hashes 28 = .ok (.getfield 86, 3) := by decide +kernel
theorem d_Model_hashes_31 : decode c_Model_hashes 31 = .ok (.iconst 3, 1) := by decide +kernel
theorem d_Model_hashes_32 : decode c_Model_hashes 32 = .ok (.ldc_w 364, 3) := by decide +kernel
theorem d_Model_hashes_35 : decode c_Model_hashes 35 = .ok (.iastore, 1) := by decide +kernel
theorem d_Model_hashes_36 : decode c_Model_hashes 36 = .ok (.aload_n 0, 1) := by decide +kernel
theorem d_Model_hashes_37 : decode c_Model_hashes 37 = .ok (.getfield 86, 3) := by decide +kernel
theorem d_Model_hashes_40 : decode c_Model_hashes 40 = .ok (.iconst 4, 1) := by decide +kernel
theorem d_Model_hashes_41 : decode c_Model_hashes 41 = .ok (.ldc_w 365, 3) := by decide +kernel
theorem d_Model_hashes_44 : decode c_Model_hashes 44 = .ok (.iastore, 1) := by decide +kernel
theorem d_Model_hashes_45 : decode c_Model_hashes 45 = .ok (.iload_n 1, 1) := by decide +kernel
theorem d_Model_hashes_46 : decode c_Model_hashes 46 = .ok (.bipush 8, 2) := by decide +kernel
theorem d_Model_hashes_48 : decode c_Model_hashes 48 = .ok (.iadd, 1) := by decide +kernel
theorem d_Model_hashes_49 : decode c_Model_hashes 49 = .ok (.bipush 64, 2) := by decide +kernel
theorem d_Model_hashes_51 : decode c_Model_hashes 51 = .ok (.idiv, 1) := by decide +kernel
theorem d_Model_hashes_52 : decode c_Model_hashes 52 = .ok (.bipush 64, 2) := by decide +kernel
theorem d_Model_hashes_54 : decode c_Model_hashes 54 = .ok (.imul, 1) := by decide +kernel
theorem d_Model_hashes_55 : decode c_Model_hashes 55 = .ok (.bipush 64, 2) := by decide +kernel
theorem d_Model_hashes_57 : decode c_Model_hashes 57 = .ok (.iadd, 1) := by decide +kernel
theorem d_Model_hashes_58 : decode c_Model_hashes 58 = .ok (.istore_n 2, 1) := by decide +kernel
theorem d_Model_hashes_59 : decode c_Model_hashes 59 = .ok (.iload_n 1, 1) := by decide +kernel
theorem d_Model_hashes_60 : decode c_Model_hashes 60 = .ok (.istore_n 3, 1) := by decide +kernel
theorem d_Model_hashes_61 : decode c_Model_hashes 61 = .ok (.iload_n 3, 1) := by decide +kernel
theorem d_Model_hashes_62 : decode c_Model_hashes 62 = .ok (.iload_n 2, 1) := by decide +kernel
theorem d_Model_hashes_63 : decode c_Model_hashes 63 = .ok (.if_icmp .ge 27, 3) := by decide +kernel
theorem d_Model_hashes_66 : decode c_Model_hashes 66 = .ok (.aload_n 0, 1) := by decide +kernel
theorem d_Model_hashes_67 : decode c_Model_hashes 67 = .ok (.getfield 80, 3) := by decide +kernel
theorem d_Model_hashes_70 : decode c_Model_hashes 70 = .ok (.iload_n 3, 1) := by decide +kernel
theorem d_Model_hashes_71 : decode c_Model_hashes 71 = .ok (.iload_n 3, 1) := by decide +kernel
theorem d_Model_hashes_72 : decode c_Model_hashes 72 = .ok (.iload_n 1, 1) := by decide +kernel
theorem d_Model_hashes_73 : decode c_Model_hashes 73 = .ok (.if_icmp .ne 9, 3) := by decide +kernel
theorem d_Model_hashes_76 : decode c_Model_hashes 76 = .ok (.sipush 128, 3) := by decide +kernel
theorem d_Model_hashes_79 : decode c_Model_hashes 79 = .ok (.goto 4, 3) := by decide +kernel
theorem d_Model_hashes_82 : decode c_Model_hashes 82 = .ok (.iconst 0, 1) := by decide +kernel
theorem d_Model_hashes_83 : decode c_Model_hashes 83 = .ok (.iastore, 1) := by decide +kernel
theorem d_Model_hashes_84 : decode c_Model_hashes 84 = .ok (.iinc 3 1, 3) := by decide +kernel
theorem d_Model_hashes_87 : decode c_Model_hashes 87 = .ok (.goto (-26), 3) := by decide +kernel
theorem d_Model_hashes_90 : decode c_Model_hashes 90 = .ok (.iconst 0, 1) := by decide +kernel
theorem d_Model_hashes_91 : decode c_Model_hashes 91 = .ok (.istore_n 3, 1) := by decide +kernel
theorem d_Model_hashes_92 : decode c_Model_hashes 92 = .ok (.iload_n 3, 1) := by decide +kernel
theorem d_Model_hashes_93 : decode c_Model_hashes 93 = .ok (.iconst 4, 1) := by decide +kernel
theorem d_Model_hashes_94 : decode c_Model_hashes 94 = .ok (.if_icmp .ge 32, 3) := by decide +kernel
theorem d_Model_hashes_97 : decode c_Model_hashes 97 = .ok (.aload_n 0, 1) := by decide +kernel
theorem d_Model_hashes_98 : decode c_Model_hashes 98 = .ok (.getfield 80, 3) := by decide +kernel
theorem d_Model_hashes_101 : decode c_Model_hashes 101 = .ok (.iload_n 2, 1) := by decide +kernel
theorem d_Model_hashes_102 : decode c_Model_hashes 102 = .ok (.iconst 1, 1) := by decide +kernel
theorem d_Model_hashes_103 : decode c_Model_hashes 103 = .ok (.isub, 1) := by decide +kernel
theorem d_Model_hashes_104 : decode c_Model_hashes 104 = .ok (.iload_n 3, 1) := by decide +kernel
theorem d_Model_hashes_105 : decode c_Model_hashes 105 = .ok (.isub, 1) := by decide +kernel
theorem d_Model_hashes_106 : decode c_Model_hashes 106 = .ok (.bipush 8, 2) := by decide +kernel
theorem d_Model_hashes_108 : decode c_Model_hashes 108 = .ok (.iload_n 1, 1) := by decide +kernel
theorem d_Model_hashes_109 : decode c_Model_hashes 109 = .ok (.imul, 1) := by decide +kernel
theorem d_Model_hashes_110 : decode c_Model_hashes 110 = .ok (.bipush 8, 2) := by decide +kernel
theorem d_Model_hashes_112 : decode c_Model_hashes 112 = .ok (.iload_n 3, 1) := by decide +kernel
theorem d_Model_hashes_113 : decode c_Model_hashes 113 = .ok (.imul, 1) := by decide +kernel
theorem d_Model_hashes_114 : decode c_Model_hashes 114 = .ok (.ishr, 1) := by decide +kernel
theorem d_Model_hashes_115 : decode c_Model_hashes 115 = .ok (.sipush 255, 3) := by decide +kernel
theorem d_Model_hashes_118 : decode c_Model_hashes 118 = .ok (.iand, 1) := by decide +kernel
theorem d_Model_hashes_119 : decode c_Model_hashes 119 = .ok (.iastore, 1) := by decide +kernel
theorem d_Model_hashes_120 : decode c_Model_hashes 120 = .ok (.iinc 3 1, 3) := by decide +kernel
theorem d_Model_hashes_123 : decode c_Model_hashes 123 = .ok (.goto (-31), 3) := by decide +kernel
theorem d_Model_hashes_126 : decode c_Model_hashes 126 = .ok (.iconst 0, 1) := by decide +kernel
theorem d_Model_hashes_127 : decode c_Model_hashes 127 = .ok (.istore_n 3, 1) := by decide +kernel
theorem d_Model_hashes_128 : decode c_Model_hashes 128 = .ok (.iload_n 3, 1) := by decide +kernel
theorem d_Model_hashes_129 : decode c_Model_hashes 129 = .ok (.iload_n 2, 1) := by decide +kernel
theorem d_Model_hashes_130 : decode c_Model_hashes 130 = .ok (.if_icmp .ge 14, 3) := by decide +kernel
theorem d_Model_hashes_133 : decode c_Model_hashes 133 = .ok (.aload_n 0, 1) := by decide +kernel
theorem d_Model_hashes_134 : decode c_Model_hashes 134 = .ok (.iload_n 3, 1) := by decide +kernel
theorem d_Model_hashes_135 : decode c_Model_hashes 135 = .ok (.invokevirtual 366, 3) := by decide +kernel
theorem d_Model_hashes_138 : decode c_Model_hashes 138 = .ok (.iinc 3 64, 3) := by decide +kernel
theorem d_Model_hashes_141 : decode c_Model_hashes 141 = .ok (.goto (-13), 3) := by decide +kernel
theorem d_Model_hashes_144 : decode c_Model_hashes 144 = .ok (.return_, 1) := by decide +kernel
abbrev c_Model_rounds : ByteArray := prog_14_method_54_code
def y_Model_rounds : MethodName := ⟨"EpochServerModel", "rounds", "(I)V"⟩
theorem d_Model_rounds_0 : decode c_Model_rounds 0 = .ok (.iconst 0, 1) := by decide +kernel
theorem d_Model_rounds_1 : decode c_Model_rounds 1 = .ok (.istore_n 2, 1) := by decide +kernel
theorem d_Model_rounds_2 : decode c_Model_rounds 2 = .ok (.iload_n 2, 1) := by decide +kernel
theorem d_Model_rounds_3 : decode c_Model_rounds 3 = .ok (.bipush 16, 2) := by decide +kernel
theorem d_Model_rounds_5 : decode c_Model_rounds 5 = .ok (.if_icmp .ge 73, 3) := by decide +kernel
theorem d_Model_rounds_8 : decode c_Model_rounds 8 = .ok (.aload_n 0, 1) := by decide +kernel
theorem d_Model_rounds_9 : decode c_Model_rounds 9 = .ok (.getfield 83, 3) := by decide +kernel
theorem d_Model_rounds_12 : decode c_Model_rounds 12 = .ok (.iload_n 2, 1) := by decide +kernel
theorem d_Model_rounds_13 : decode c_Model_rounds 13 = .ok (.aload_n 0, 1) := by decide +kernel
theorem d_Model_rounds_14 : decode c_Model_rounds 14 = .ok (.getfield 80, 3) := by decide +kernel
theorem d_Model_rounds_17 : decode c_Model_rounds 17 = .ok (.iload_n 1, 1) := by decide +kernel
theorem d_Model_rounds_18 : decode c_Model_rounds 18 = .ok (.iconst 4, 1) := by decide +kernel
theorem d_Model_rounds_19 : decode c_Model_rounds 19 = .ok (.iload_n 2, 1) := by decide +kernel
theorem d_Model_rounds_20 : decode c_Model_rounds 20 = .ok (.imul, 1) := by decide +kernel
theorem d_Model_rounds_21 : decode c_Model_rounds 21 = .ok (.iadd, 1) := by decide +kernel
theorem d_Model_rounds_22 : decode c_Model_rounds 22 = .ok (.iaload, 1) := by decide +kernel
theorem d_Model_rounds_23 : decode c_Model_rounds 23 = .ok (.bipush 24, 2) := by decide +kernel
theorem d_Model_rounds_25 : decode c_Model_rounds 25 = .ok (.ishl, 1) := by decide +kernel
theorem d_Model_rounds_26 : decode c_Model_rounds 26 = .ok (.aload_n 0, 1) := by decide +kernel
theorem d_Model_rounds_27 : decode c_Model_rounds 27 = .ok (.getfield 80, 3) := by decide +kernel
theorem d_Model_rounds_30 : decode c_Model_rounds 30 = .ok (.iload_n 1, 1) := by decide +kernel
theorem d_Model_rounds_31 : decode c_Model_rounds 31 = .ok (.iconst 4, 1) := by decide +kernel
theorem d_Model_rounds_32 : decode c_Model_rounds 32 = .ok (.iload_n 2, 1) := by decide +kernel
theorem d_Model_rounds_33 : decode c_Model_rounds 33 = .ok (.imul, 1) := by decide +kernel
theorem d_Model_rounds_34 : decode c_Model_rounds 34 = .ok (.iadd, 1) := by decide +kernel
theorem d_Model_rounds_35 : decode c_Model_rounds 35 = .ok (.iconst 1, 1) := by decide +kernel
theorem d_Model_rounds_36 : decode c_Model_rounds 36 = .ok (.iadd, 1) := by decide +kernel
theorem d_Model_rounds_37 : decode c_Model_rounds 37 = .ok (.iaload, 1) := by decide +kernel
theorem d_Model_rounds_38 : decode c_Model_rounds 38 = .ok (.bipush 16, 2) := by decide +kernel
theorem d_Model_rounds_40 : decode c_Model_rounds 40 = .ok (.ishl, 1) := by decide +kernel
theorem d_Model_rounds_41 : decode c_Model_rounds 41 = .ok (.ior, 1) := by decide +kernel
theorem d_Model_rounds_42 : decode c_Model_rounds 42 = .ok (.aload_n 0, 1) := by decide +kernel
theorem d_Model_rounds_43 : decode c_Model_rounds 43 = .ok (.getfield 80, 3) := by decide +kernel
theorem d_Model_rounds_46 : decode c_Model_rounds 46 = .ok (.iload_n 1, 1) := by decide +kernel
theorem d_Model_rounds_47 : decode c_Model_rounds 47 = .ok (.iconst 4, 1) := by decide +kernel
theorem d_Model_rounds_48 : decode c_Model_rounds 48 = .ok (.iload_n 2, 1) := by decide +kernel
theorem d_Model_rounds_49 : decode c_Model_rounds 49 = .ok (.imul, 1) := by decide +kernel
theorem d_Model_rounds_50 : decode c_Model_rounds 50 = .ok (.iadd, 1) := by decide +kernel
theorem d_Model_rounds_51 : decode c_Model_rounds 51 = .ok (.iconst 2, 1) := by decide +kernel
theorem d_Model_rounds_52 : decode c_Model_rounds 52 = .ok (.iadd, 1) := by decide +kernel
theorem d_Model_rounds_53 : decode c_Model_rounds 53 = .ok (.iaload, 1) := by decide +kernel
theorem d_Model_rounds_54 : decode c_Model_rounds 54 = .ok (.bipush 8, 2) := by decide +kernel
theorem d_Model_rounds_56 : decode c_Model_rounds 56 = .ok (.ishl, 1) := by decide +kernel
theorem d_Model_rounds_57 : decode c_Model_rounds 57 = .ok (.ior, 1) := by decide +kernel
theorem d_Model_rounds_58 : decode c_Model_rounds 58 = .ok (.aload_n 0, 1) := by decide +kernel
theorem d_Model_rounds_59 : decode c_Model_rounds 59 = .ok (.getfield 80, 3) := by decide +kernel
theorem d_Model_rounds_62 : decode c_Model_rounds 62 = .ok (.iload_n 1, 1) := by decide +kernel
theorem d_Model_rounds_63 : decode c_Model_rounds 63 = .ok (.iconst 4, 1) := by decide +kernel
theorem d_Model_rounds_64 : decode c_Model_rounds 64 = .ok (.iload_n 2, 1) := by decide +kernel
theorem d_Model_rounds_65 : decode c_Model_rounds 65 = .ok (.imul, 1) := by decide +kernel
theorem d_Model_rounds_66 : decode c_Model_rounds 66 = .ok (.iadd, 1) := by decide +kernel
theorem d_Model_rounds_67 : decode c_Model_rounds 67 = .ok (.iconst 3, 1) := by decide +kernel
theorem d_Model_rounds_68 : decode c_Model_rounds 68 = .ok (.iadd, 1) := by decide +kernel
theorem d_Model_rounds_69 : decode c_Model_rounds 69 = .ok (.iaload, 1) := by decide +kernel
theorem d_Model_rounds_70 : decode c_Model_rounds 70 = .ok (.ior, 1) := by decide +kernel
theorem d_Model_rounds_71 : decode c_Model_rounds 71 = .ok (.iastore, 1) := by decide +kernel
theorem d_Model_rounds_72 : decode c_Model_rounds 72 = .ok (.iinc 2 1, 3) := by decide +kernel
theorem d_Model_rounds_75 : decode c_Model_rounds 75 = .ok (.goto (-73), 3) := by decide +kernel
theorem d_Model_rounds_78 : decode c_Model_rounds 78 = .ok (.bipush 16, 2) := by decide +kernel
theorem d_Model_rounds_80 : decode c_Model_rounds 80 = .ok (.istore_n 2, 1) := by decide +kernel
theorem d_Model_rounds_81 : decode c_Model_rounds 81 = .ok (.iload_n 2, 1) := by decide +kernel
theorem d_Model_rounds_82 : decode c_Model_rounds 82 = .ok (.bipush 80, 2) := by decide +kernel
theorem d_Model_rounds_84 : decode c_Model_rounds 84 = .ok (.if_icmp .ge 57, 3) := by decide +kernel
theorem d_Model_rounds_87 : decode c_Model_rounds 87 = .ok (.aload_n 0, 1) := by decide +kernel
theorem d_Model_rounds_88 : decode c_Model_rounds 88 = .ok (.getfield 83, 3) := by decide +kernel
theorem d_Model_rounds_91 : decode c_Model_rounds 91 = .ok (.iload_n 2, 1) := by decide +kernel
theorem d_Model_rounds_92 : decode c_Model_rounds 92 = .ok (.aload_n 0, 1) := by decide +kernel
theorem d_Model_rounds_93 : decode c_Model_rounds 93 = .ok (.getfield 83, 3) := by decide +kernel
theorem d_Model_rounds_96 : decode c_Model_rounds 96 = .ok (.iload_n 2, 1) := by decide +kernel
theorem d_Model_rounds_97 : decode c_Model_rounds 97 = .ok (.iconst 3, 1) := by decide +kernel
theorem d_Model_rounds_98 : decode c_Model_rounds 98 = .ok (.isub, 1) := by decide +kernel
theorem d_Model_rounds_99 : decode c_Model_rounds 99 = .ok (.iaload, 1) := by decide +kernel
theorem d_Model_rounds_100 : decode c_Model_rounds 100 = .ok (.aload_n 0, 1) := by decide +kernel
theorem d_Model_rounds_101 : decode c_Model_rounds 101 = .ok (.getfield 83, 3) := by decide +kernel
theorem d_Model_rounds_104 : decode c_Model_rounds 104 = .ok (.iload_n 2, 1) := by decide +kernel
theorem d_Model_rounds_105 : decode c_Model_rounds 105 = .ok (.bipush 8, 2) := by decide +kernel
theorem d_Model_rounds_107 : decode c_Model_rounds 107 = .ok (.isub, 1) := by decide +kernel
theorem d_Model_rounds_108 : decode c_Model_rounds 108 = .ok (.iaload, 1) := by decide +kernel
theorem d_Model_rounds_109 : decode c_Model_rounds 109 = .ok (.ixor, 1) := by decide +kernel
theorem d_Model_rounds_110 : decode c_Model_rounds 110 = .ok (.aload_n 0, 1) := by decide +kernel
theorem d_Model_rounds_111 : decode c_Model_rounds 111 = .ok (.getfield 83, 3) := by decide +kernel
theorem d_Model_rounds_114 : decode c_Model_rounds 114 = .ok (.iload_n 2, 1) := by decide +kernel
theorem d_Model_rounds_115 : decode c_Model_rounds 115 = .ok (.bipush 14, 2) := by decide +kernel
theorem d_Model_rounds_117 : decode c_Model_rounds 117 = .ok (.isub, 1) := by decide +kernel
theorem d_Model_rounds_118 : decode c_Model_rounds 118 = .ok (.iaload, 1) := by decide +kernel
theorem d_Model_rounds_119 : decode c_Model_rounds 119 = .ok (.ixor, 1) := by decide +kernel
theorem d_Model_rounds_120 : decode c_Model_rounds 120 = .ok (.aload_n 0, 1) := by decide +kernel
theorem d_Model_rounds_121 : decode c_Model_rounds 121 = .ok (.getfield 83, 3) := by decide +kernel
theorem d_Model_rounds_124 : decode c_Model_rounds 124 = .ok (.iload_n 2, 1) := by decide +kernel
theorem d_Model_rounds_125 : decode c_Model_rounds 125 = .ok (.bipush 16, 2) := by decide +kernel
theorem d_Model_rounds_127 : decode c_Model_rounds 127 = .ok (.isub, 1) := by decide +kernel
theorem d_Model_rounds_128 : decode c_Model_rounds 128 = .ok (.iaload, 1) := by decide +kernel
theorem d_Model_rounds_129 : decode c_Model_rounds 129 = .ok (.ixor, 1) := by decide +kernel
theorem d_Model_rounds_130 : decode c_Model_rounds 130 = .ok (.iconst 1, 1) := by decide +kernel
theorem d_Model_rounds_131 : decode c_Model_rounds 131 = .ok (.invokestatic 369, 3) := by decide +kernel
theorem d_Model_rounds_134 : decode c_Model_rounds 134 = .ok (.iastore, 1) := by decide +kernel
theorem d_Model_rounds_135 : decode c_Model_rounds 135 = .ok (.iinc 2 1, 3) := by decide +kernel
theorem d_Model_rounds_138 : decode c_Model_rounds 138 = .ok (.goto (-57), 3) := by decide +kernel
theorem d_Model_rounds_141 : decode c_Model_rounds 141 = .ok (.aload_n 0, 1) := by decide +kernel
theorem d_Model_rounds_142 : decode c_Model_rounds 142 = .ok (.getfield 86, 3) := by decide +kernel
theorem d_Model_rounds_145 : decode c_Model_rounds 145 = .ok (.iconst 0, 1) := by decide +kernel
theorem d_Model_rounds_146 : decode c_Model_rounds 146 = .ok (.iaload, 1) := by decide +kernel
theorem d_Model_rounds_147 : decode c_Model_rounds 147 = .ok (.istore_n 2, 1) := by decide +kernel
theorem d_Model_rounds_148 : decode c_Model_rounds 148 = .ok (.aload_n 0, 1) := by decide +kernel
theorem d_Model_rounds_149 : decode c_Model_rounds 149 = .ok (.getfield 86, 3) := by decide +kernel
theorem d_Model_rounds_152 : decode c_Model_rounds 152 = .ok (.iconst 1, 1) := by decide +kernel
theorem d_Model_rounds_153 : decode c_Model_rounds 153 = .ok (.iaload, 1) := by decide +kernel
theorem d_Model_rounds_154 : decode c_Model_rounds 154 = .ok (.istore_n 3, 1) := by decide +kernel
theorem d_Model_rounds_155 : decode c_Model_rounds 155 = .ok (.aload_n 0, 1) := by decide +kernel
theorem d_Model_rounds_156 : decode c_Model_rounds 156 = .ok (.getfield 86, 3) := by decide +kernel
theorem d_Model_rounds_159 : decode c_Model_rounds 159 = .ok (.iconst 2, 1) := by decide +kernel
theorem d_Model_rounds_160 : decode c_Model_rounds 160 = .ok (.iaload, 1) := by decide +kernel
theorem d_Model_rounds_161 : decode c_Model_rounds 161 = .ok (.istore 4, 2) := by decide +kernel
theorem d_Model_rounds_163 : decode c_Model_rounds 163 = .ok (.aload_n 0, 1) := by decide +kernel
theorem d_Model_rounds_164 : decode c_Model_rounds 164 = .ok (.getfield 86, 3) := by decide +kernel
theorem d_Model_rounds_167 : decode c_Model_rounds 167 = .ok (.iconst 3, 1) := by decide +kernel
theorem d_Model_rounds_168 : decode c_Model_rounds 168 = .ok (.iaload, 1) := by decide +kernel
theorem d_Model_rounds_169 : decode c_Model_rounds 169 = .ok (.istore 5, 2) := by decide +kernel
theorem d_Model_rounds_171 : decode c_Model_rounds 171 = .ok (.aload_n 0, 1) := by decide +kernel
theorem d_Model_rounds_172 : decode c_Model_rounds 172 = .ok (.getfield 86, 3) := by decide +kernel
theorem d_Model_rounds_175 : decode c_Model_rounds 175 = .ok (.iconst 4, 1) := by decide +kernel
theorem d_Model_rounds_176 : decode c_Model_rounds 176 = .ok (.iaload, 1) := by decide +kernel
theorem d_Model_rounds_177 : decode c_Model_rounds 177 = .ok (.istore 6, 2) := by decide +kernel
theorem d_Model_rounds_179 : decode c_Model_rounds 179 = .ok (.iconst 0, 1) := by decide +kernel
theorem d_Model_rounds_180 : decode c_Model_rounds 180 = .ok (.istore 7, 2) := by decide +kernel
theorem d_Model_rounds_182 : decode c_Model_rounds 182 = .ok (.iload 7, 2) := by decide +kernel
theorem d_Model_rounds_184 : decode c_Model_rounds 184 = .ok (.bipush 80, 2) := by decide +kernel
theorem d_Model_rounds_186 : decode c_Model_rounds 186 = .ok (.if_icmp .ge 170, 3) := by decide +kernel
theorem d_Model_rounds_189 : decode c_Model_rounds 189 = .ok (.iload 7, 2) := by decide +kernel
theorem d_Model_rounds_191 : decode c_Model_rounds 191 = .ok (.bipush 20, 2) := by decide +kernel
theorem d_Model_rounds_193 : decode c_Model_rounds 193 = .ok (.if_icmp .ge 17, 3) := by decide +kernel
theorem d_Model_rounds_196 : decode c_Model_rounds 196 = .ok (.iload_n 3, 1) := by decide +kernel
theorem d_Model_rounds_197 : decode c_Model_rounds 197 = .ok (.iload 4, 2) := by decide +kernel
theorem d_Model_rounds_199 : decode c_Model_rounds 199 = .ok (.iand, 1) := by decide +kernel
theorem d_Model_rounds_200 : decode c_Model_rounds 200 = .ok (.iload_n 3, 1) := by decide +kernel
theorem d_Model_rounds_201 : decode c_Model_rounds 201 = .ok (.iconst (-1), 1) := by decide +kernel
theorem d_Model_rounds_202 : decode c_Model_rounds 202 = .ok (.ixor, 1) := by decide +kernel
theorem d_Model_rounds_203 : decode c_Model_rounds 203 = .ok (.iload 5, 2) := by decide +kernel
theorem d_Model_rounds_205 : decode c_Model_rounds 205 = .ok (.iand, 1) := by decide +kernel
theorem d_Model_rounds_206 : decode c_Model_rounds 206 = .ok (.ior, 1) := by decide +kernel
theorem d_Model_rounds_207 : decode c_Model_rounds 207 = .ok (.goto 52, 3) := by decide +kernel
theorem d_Model_rounds_210 : decode c_Model_rounds 210 = .ok (.iload 7, 2) := by decide +kernel
theorem d_Model_rounds_212 : decode c_Model_rounds 212 = .ok (.bipush 40, 2) := by decide +kernel
theorem d_Model_rounds_214 : decode c_Model_rounds 214 = .ok (.if_icmp .ge 13, 3) := by decide +kernel
theorem d_Model_rounds_217 : decode c_Model_rounds 217 = .ok (.iload_n 3, 1) := by decide +kernel
theorem d_Model_rounds_218 : decode c_Model_rounds 218 = .ok (.iload 4, 2) := by decide +kernel
theorem d_Model_rounds_220 : decode c_Model_rounds 220 = .ok (.ixor, 1) := by decide +kernel
theorem d_Model_rounds_221 : decode c_Model_rounds 221 = .ok (.iload 5, 2) := by decide +kernel
theorem d_Model_rounds_223 : decode c_Model_rounds 223 = .ok (.ixor, 1) := by decide +kernel
theorem d_Model_rounds_224 : decode c_Model_rounds 224 = .ok (.goto 35, 3) := by decide +kernel
theorem d_Model_rounds_227 : decode c_Model_rounds 227 = .ok (.iload 7, 2) := by decide +kernel
theorem d_Model_rounds_229 : decode c_Model_rounds 229 = .ok (.bipush 60, 2) := by decide +kernel
theorem d_Model_rounds_231 : decode c_Model_rounds 231 = .ok (.if_icmp .ge 21, 3) := by decide +kernel
theorem d_Model_rounds_234 : decode c_Model_rounds 234 = .ok (.iload_n 3, 1) := by decide +kernel
theorem d_Model_rounds_235 : decode c_Model_rounds 235 = .ok (.iload 4, 2) := by decide +kernel
theorem d_Model_rounds_237 : decode c_Model_rounds 237 = .ok (.iand, 1) := by decide +kernel
theorem d_Model_rounds_238 : decode c_Model_rounds 238 = .ok (.iload_n 3, 1) := by decide +kernel
theorem d_Model_rounds_239 : decode c_Model_rounds 239 = .ok (.iload 5, 2) := by decide +kernel
theorem d_Model_rounds_241 : decode c_Model_rounds 241 = .ok (.iand, 1) := by decide +kernel
theorem d_Model_rounds_242 : decode c_Model_rounds 242 = .ok (.ior, 1) := by decide +kernel
theorem d_Model_rounds_243 : decode c_Model_rounds 243 = .ok (.iload 4, 2) := by decide +kernel
theorem d_Model_rounds_245 : decode c_Model_rounds 245 = .ok (.iload 5, 2) := by decide +kernel
theorem d_Model_rounds_247 : decode c_Model_rounds 247 = .ok (.iand, 1) := by decide +kernel
theorem d_Model_rounds_248 : decode c_Model_rounds 248 = .ok (.ior, 1) := by decide +kernel
theorem d_Model_rounds_249 : decode c_Model_rounds 249 = .ok (.goto 10, 3) := by decide +kernel
theorem d_Model_rounds_252 : decode c_Model_rounds 252 = .ok (.iload_n 3, 1) := by decide +kernel
theorem d_Model_rounds_253 : decode c_Model_rounds 253 = .ok (.iload 4, 2) := by decide +kernel
theorem d_Model_rounds_255 : decode c_Model_rounds 255 = .ok (.ixor, 1) := by decide +kernel
theorem d_Model_rounds_256 : decode c_Model_rounds 256 = .ok (.iload 5, 2) := by decide +kernel
theorem d_Model_rounds_258 : decode c_Model_rounds 258 = .ok (.ixor, 1) := by decide +kernel
theorem d_Model_rounds_259 : decode c_Model_rounds 259 = .ok (.istore 8, 2) := by decide +kernel
theorem d_Model_rounds_261 : decode c_Model_rounds 261 = .ok (.iload 7, 2) := by decide +kernel
theorem d_Model_rounds_263 : decode c_Model_rounds 263 = .ok (.bipush 20, 2) := by decide +kernel
theorem d_Model_rounds_265 : decode c_Model_rounds 265 = .ok (.if_icmp .ge 9, 3) := by decide +kernel
theorem d_Model_rounds_268 : decode c_Model_rounds 268 = .ok (.ldc_w 372, 3) := by decide +kernel
theorem d_Model_rounds_271 : decode c_Model_rounds 271 = .ok (.goto 32, 3) := by decide +kernel
theorem d_Model_rounds_274 : decode c_Model_rounds 274 = .ok (.iload 7, 2) := by decide +kernel
theorem d_Model_rounds_276 : decode c_Model_rounds 276 = .ok (.bipush 40, 2) := by decide +kernel
theorem d_Model_rounds_278 : decode c_Model_rounds 278 = .ok (.if_icmp .ge 9, 3) := by decide +kernel
theorem d_Model_rounds_281 : decode c_Model_rounds 281 = .ok (.ldc_w 373, 3) := by decide +kernel
theorem d_Model_rounds_284 : decode c_Model_rounds 284 = .ok (.goto 19, 3) := by decide +kernel
theorem d_Model_rounds_287 : decode c_Model_rounds 287 = .ok (.iload 7, 2) := by decide +kernel
theorem d_Model_rounds_289 : decode c_Model_rounds 289 = .ok (.bipush 60, 2) := by decide +kernel
theorem d_Model_rounds_291 : decode c_Model_rounds 291 = .ok (.if_icmp .ge 9, 3) := by decide +kernel
theorem d_Model_rounds_294 : decode c_Model_rounds 294 = .ok (.ldc_w 374, 3) := by decide +kernel
theorem d_Model_rounds_297 : decode c_Model_rounds 297 = .ok (.goto 6, 3) := by decide +kernel
theorem d_Model_rounds_300 : decode c_Model_rounds 300 = .ok (.ldc_w 375, 3) := by decide +kernel
theorem d_Model_rounds_303 : decode c_Model_rounds 303 = .ok (.istore 9, 2) := by decide +kernel
theorem d_Model_rounds_305 : decode c_Model_rounds 305 = .ok (.iload_n 2, 1) := by decide +kernel
theorem d_Model_rounds_306 : decode c_Model_rounds 306 = .ok (.iconst 5, 1) := by decide +kernel
theorem d_Model_rounds_307 : decode c_Model_rounds 307 = .ok (.invokestatic 369, 3) := by decide +kernel
theorem d_Model_rounds_310 : decode c_Model_rounds 310 = .ok (.iload 8, 2) := by decide +kernel
theorem d_Model_rounds_312 : decode c_Model_rounds 312 = .ok (.iadd, 1) := by decide +kernel
theorem d_Model_rounds_313 : decode c_Model_rounds 313 = .ok (.iload 6, 2) := by decide +kernel
theorem d_Model_rounds_315 : decode c_Model_rounds 315 = .ok (.iadd, 1) := by decide +kernel
theorem d_Model_rounds_316 : decode c_Model_rounds 316 = .ok (.iload 9, 2) := by decide +kernel
theorem d_Model_rounds_318 : decode c_Model_rounds 318 = .ok (.iadd, 1) := by decide +kernel
theorem d_Model_rounds_319 : decode c_Model_rounds 319 = .ok (.aload_n 0, 1) := by decide +kernel
theorem d_Model_rounds_320 : decode c_Model_rounds 320 = .ok (.getfield 83, 3) := by decide +kernel
theorem d_Model_rounds_323 : decode c_Model_rounds 323 = .ok (.iload 7, 2) := by decide +kernel
theorem d_Model_rounds_325 : decode c_Model_rounds 325 = .ok (.iaload, 1) := by decide +kernel
theorem d_Model_rounds_326 : decode c_Model_rounds 326 = .ok (.iadd, 1) := by decide +kernel
theorem d_Model_rounds_327 : decode c_Model_rounds 327 = .ok (.istore 10, 2) := by decide +kernel
theorem d_Model_rounds_329 : decode c_Model_rounds 329 = .ok (.iload 5, 2) := by decide +kernel
theorem d_Model_rounds_331 : decode c_Model_rounds 331 = .ok (.istore 6, 2) := by decide +kernel
theorem d_Model_rounds_333 : decode c_Model_rounds 333 = .ok (.iload 4, 2) := by decide +kernel
theorem d_Model_rounds_335 : decode c_Model_rounds 335 = .ok (.istore 5, 2) := by decide +kernel
theorem d_Model_rounds_337 : decode c_Model_rounds 337 = .ok (.iload_n 3, 1) := by decide +kernel
theorem d_Model_rounds_338 : decode c_Model_rounds 338 = .ok (.bipush 30, 2) := by decide +kernel
theorem d_Model_rounds_340 : decode c_Model_rounds 340 = .ok (.invokestatic 369, 3) := by decide +kernel
theorem d_Model_rounds_343 : decode c_Model_rounds 343 = .ok (.istore 4, 2) := by decide +kernel
theorem d_Model_rounds_345 : decode c_Model_rounds 345 = .ok (.iload_n 2, 1) := by decide +kernel
theorem d_Model_rounds_346 : decode c_Model_rounds 346 = .ok (.istore_n 3, 1) := by decide +kernel
theorem d_Model_rounds_347 : decode c_Model_rounds 347 = .ok (.iload 10, 2) := by decide +kernel
theorem d_Model_rounds_349 : decode c_Model_rounds 349 = .ok (.istore_n 2, 1) := by decide +kernel
theorem d_Model_rounds_350 : decode c_Model_rounds 350 = .ok (.iinc 7 1, 3) := by decide +kernel
theorem d_Model_rounds_353 : decode c_Model_rounds 353 = .ok (.goto (-171), 3) := by decide +kernel
theorem d_Model_rounds_356 : decode c_Model_rounds 356 = .ok (.aload_n 0, 1) := by decide +kernel
theorem d_Model_rounds_357 : decode c_Model_rounds 357 = .ok (.getfield 86, 3) := by decide +kernel
theorem d_Model_rounds_360 : decode c_Model_rounds 360 = .ok (.iconst 0, 1) := by decide +kernel
theorem d_Model_rounds_361 : decode c_Model_rounds 361 = .ok (.dup2, 1) := by decide +kernel
theorem d_Model_rounds_362 : decode c_Model_rounds 362 = .ok (.iaload, 1) := by decide +kernel
theorem d_Model_rounds_363 : decode c_Model_rounds 363 = .ok (.iload_n 2, 1) := by decide +kernel
theorem d_Model_rounds_364 : decode c_Model_rounds 364 = .ok (.iadd, 1) := by decide +kernel
theorem d_Model_rounds_365 : decode c_Model_rounds 365 = .ok (.iastore, 1) := by decide +kernel
theorem d_Model_rounds_366 : decode c_Model_rounds 366 = .ok (.aload_n 0, 1) := by decide +kernel
theorem d_Model_rounds_367 : decode c_Model_rounds 367 = .ok (.getfield 86, 3) := by decide +kernel
theorem d_Model_rounds_370 : decode c_Model_rounds 370 = .ok (.iconst 1, 1) := by decide +kernel
theorem d_Model_rounds_371 : decode c_Model_rounds 371 = .ok (.dup2, 1) := by decide +kernel
theorem d_Model_rounds_372 : decode c_Model_rounds 372 = .ok (.iaload, 1) := by decide +kernel
theorem d_Model_rounds_373 : decode c_Model_rounds 373 = .ok (.iload_n 3, 1) := by decide +kernel
theorem d_Model_rounds_374 : decode c_Model_rounds 374 = .ok (.iadd, 1) := by decide +kernel
theorem d_Model_rounds_375 : decode c_Model_rounds 375 = .ok (.iastore, 1) := by decide +kernel
theorem d_Model_rounds_376 : decode c_Model_rounds 376 = .ok (.aload_n 0, 1) := by decide +kernel
theorem d_Model_rounds_377 : decode c_Model_rounds 377 = .ok (.getfield 86, 3) := by decide +kernel
theorem d_Model_rounds_380 : decode c_Model_rounds 380 = .ok (.iconst 2, 1) := by decide +kernel
theorem d_Model_rounds_381 : decode c_Model_rounds 381 = .ok (.dup2, 1) := by decide +kernel
theorem d_Model_rounds_382 : decode c_Model_rounds 382 = .ok (.iaload, 1) := by decide +kernel
theorem d_Model_rounds_383 : decode c_Model_rounds 383 = .ok (.iload 4, 2) := by decide +kernel
theorem d_Model_rounds_385 : decode c_Model_rounds 385 = .ok (.iadd, 1) := by decide +kernel
theorem d_Model_rounds_386 : decode c_Model_rounds 386 = .ok (.iastore, 1) := by decide +kernel
theorem d_Model_rounds_387 : decode c_Model_rounds 387 = .ok (.aload_n 0, 1) := by decide +kernel
theorem d_Model_rounds_388 : decode c_Model_rounds 388 = .ok (.getfield 86, 3) := by decide +kernel
theorem d_Model_rounds_391 : decode c_Model_rounds 391 = .ok (.iconst 3, 1) := by decide +kernel
theorem d_Model_rounds_392 : decode c_Model_rounds 392 = .ok (.dup2, 1) := by decide +kernel
theorem d_Model_rounds_393 : decode c_Model_rounds 393 = .ok (.iaload, 1) := by decide +kernel
theorem d_Model_rounds_394 : decode c_Model_rounds 394 = .ok (.iload 5, 2) := by decide +kernel
theorem d_Model_rounds_396 : decode c_Model_rounds 396 = .ok (.iadd, 1) := by decide +kernel
theorem d_Model_rounds_397 : decode c_Model_rounds 397 = .ok (.iastore, 1) := by decide +kernel
theorem d_Model_rounds_398 : decode c_Model_rounds 398 = .ok (.aload_n 0, 1) := by decide +kernel
theorem d_Model_rounds_399 : decode c_Model_rounds 399 = .ok (.getfield 86, 3) := by decide +kernel
theorem d_Model_rounds_402 : decode c_Model_rounds 402 = .ok (.iconst 4, 1) := by decide +kernel
theorem d_Model_rounds_403 : decode c_Model_rounds 403 = .ok (.dup2, 1) := by decide +kernel
theorem d_Model_rounds_404 : decode c_Model_rounds 404 = .ok (.iaload, 1) := by decide +kernel
theorem d_Model_rounds_405 : decode c_Model_rounds 405 = .ok (.iload 6, 2) := by decide +kernel
theorem d_Model_rounds_407 : decode c_Model_rounds 407 = .ok (.iadd, 1) := by decide +kernel
theorem d_Model_rounds_408 : decode c_Model_rounds 408 = .ok (.iastore, 1) := by decide +kernel
theorem d_Model_rounds_409 : decode c_Model_rounds 409 = .ok (.return_, 1) := by decide +kernel
abbrev c_Model_puts : ByteArray := prog_14_method_55_code
def y_Model_puts : MethodName := ⟨"EpochServerModel", "puts", "(I)V"⟩
theorem d_Model_puts_0 : decode c_Model_puts 0 = .ok (.aload_n 0, 1) := by decide +kernel
theorem d_Model_puts_1 : decode c_Model_puts 1 = .ok (.iload_n 1, 1) := by decide +kernel
theorem d_Model_puts_2 : decode c_Model_puts 2 = .ok (.invokevirtual 376, 3) := by decide +kernel
theorem d_Model_puts_5 : decode c_Model_puts 5 = .ok (.aload_n 0, 1) := by decide +kernel
theorem d_Model_puts_6 : decode c_Model_puts 6 = .ok (.getfield 379, 3) := by decide +kernel
theorem d_Model_puts_9 : decode c_Model_puts 9 = .ok (.ifCond .eq 10, 3) := by decide +kernel
theorem d_Model_puts_12 : decode c_Model_puts 12 = .ok (.aload_n 0, 1) := by decide +kernel
theorem d_Model_puts_13 : decode c_Model_puts 13 = .ok (.getfield 382, 3) := by decide +kernel
theorem d_Model_puts_16 : decode c_Model_puts 16 = .ok (.ifCond .eq 4, 3) := by decide +kernel
theorem d_Model_puts_19 : decode c_Model_puts 19 = .ok (.return_, 1) := by decide +kernel
theorem d_Model_puts_20 : decode c_Model_puts 20 = .ok (.iconst 0, 1) := by decide +kernel
theorem d_Model_puts_21 : decode c_Model_puts 21 = .ok (.istore_n 2, 1) := by decide +kernel
theorem d_Model_puts_22 : decode c_Model_puts 22 = .ok (.iload_n 2, 1) := by decide +kernel
theorem d_Model_puts_23 : decode c_Model_puts 23 = .ok (.aload_n 0, 1) := by decide +kernel
theorem d_Model_puts_24 : decode c_Model_puts 24 = .ok (.getfield 355, 3) := by decide +kernel
theorem d_Model_puts_27 : decode c_Model_puts 27 = .ok (.if_icmp .ge 62, 3) := by decide +kernel
theorem d_Model_puts_30 : decode c_Model_puts 30 = .ok (.iconst 1, 1) := by decide +kernel
theorem d_Model_puts_31 : decode c_Model_puts 31 = .ok (.istore_n 3, 1) := by decide +kernel
theorem d_Model_puts_32 : decode c_Model_puts 32 = .ok (.iconst 0, 1) := by decide +kernel
theorem d_Model_puts_33 : decode c_Model_puts 33 = .ok (.istore 4, 2) := by decide +kernel
theorem d_Model_puts_35 : decode c_Model_puts 35 = .ok (.iload 4, 2) := by decide +kernel
theorem d_Model_puts_37 : decode c_Model_puts 37 = .ok (.iconst 5, 1) := by decide +kernel
theorem d_Model_puts_38 : decode c_Model_puts 38 = .ok (.if_icmp .ge 40, 3) := by decide +kernel
theorem d_Model_puts_41 : decode c_Model_puts 41 = .ok (.iload_n 3, 1) := by decide +kernel
theorem d_Model_puts_42 : decode c_Model_puts 42 = .ok (.ifCond .eq 36, 3) := by decide +kernel
theorem d_Model_puts_45 : decode c_Model_puts 45 = .ok (.aload_n 0, 1) := by decide +kernel
theorem d_Model_puts_46 : decode c_Model_puts 46 = .ok (.getfield 77, 3) := by decide +kernel
theorem d_Model_puts_49 : decode c_Model_puts 49 = .ok (.iconst 5, 1) := by decide +kernel
theorem d_Model_puts_50 : decode c_Model_puts 50 = .ok (.iload_n 2, 1) := by decide +kernel
theorem d_Model_puts_51 : decode c_Model_puts 51 = .ok (.imul, 1) := by decide +kernel
theorem d_Model_puts_52 : decode c_Model_puts 52 = .ok (.iload 4, 2) := by decide +kernel
theorem d_Model_puts_54 : decode c_Model_puts 54 = .ok (.iadd, 1) := by decide +kernel
theorem d_Model_puts_55 : decode c_Model_puts 55 = .ok (.iaload, 1) := by decide +kernel
theorem d_Model_puts_56 : decode c_Model_puts 56 = .ok (.aload_n 0, 1) := by decide +kernel
theorem d_Model_puts_57 : decode c_Model_puts 57 = .ok (.getfield 86, 3) := by decide +kernel
theorem d_Model_puts_60 : decode c_Model_puts 60 = .ok (.iload 4, 2) := by decide +kernel
theorem d_Model_puts_62 : decode c_Model_puts 62 = .ok (.iaload, 1) := by decide +kernel
theorem d_Model_puts_63 : decode c_Model_puts 63 = .ok (.if_icmp .ne 7, 3) := by decide +kernel
theorem d_Model_puts_66 : decode c_Model_puts 66 = .ok (.iconst 1, 1) := by decide +kernel
theorem d_Model_puts_67 : decode c_Model_puts 67 = .ok (.goto 4, 3) := by decide +kernel
theorem d_Model_puts_70 : decode c_Model_puts 70 = .ok (.iconst 0, 1) := by decide +kernel
theorem d_Model_puts_71 : decode c_Model_puts 71 = .ok (.istore_n 3, 1) := by decide +kernel
theorem d_Model_puts_72 : decode c_Model_puts 72 = .ok (.iinc 4 1, 3) := by decide +kernel
theorem d_Model_puts_75 : decode c_Model_puts 75 = .ok (.goto (-40), 3) := by decide +kernel
theorem d_Model_puts_78 : decode c_Model_puts 78 = .ok (.iload_n 3, 1) := by decide +kernel
theorem d_Model_puts_79 : decode c_Model_puts 79 = .ok (.ifCond .eq 4, 3) := by decide +kernel
theorem d_Model_puts_82 : decode c_Model_puts 82 = .ok (.return_, 1) := by decide +kernel
theorem d_Model_puts_83 : decode c_Model_puts 83 = .ok (.iinc 2 1, 3) := by decide +kernel
theorem d_Model_puts_86 : decode c_Model_puts 86 = .ok (.goto (-64), 3) := by decide +kernel
theorem d_Model_puts_89 : decode c_Model_puts 89 = .ok (.aload_n 0, 1) := by decide +kernel
theorem d_Model_puts_90 : decode c_Model_puts 90 = .ok (.getfield 355, 3) := by decide +kernel
theorem d_Model_puts_93 : decode c_Model_puts 93 = .ok (.sipush 600, 3) := by decide +kernel
theorem d_Model_puts_96 : decode c_Model_puts 96 = .ok (.if_icmp .ne 9, 3) := by decide +kernel
theorem d_Model_puts_99 : decode c_Model_puts 99 = .ok (.aload_n 0, 1) := by decide +kernel
theorem d_Model_puts_100 : decode c_Model_puts 100 = .ok (.iconst 1, 1) := by decide +kernel
theorem d_Model_puts_101 : decode c_Model_puts 101 = .ok (.putfield 382, 3) := by decide +kernel
theorem d_Model_puts_104 : decode c_Model_puts 104 = .ok (.return_, 1) := by decide +kernel
theorem d_Model_puts_105 : decode c_Model_puts 105 = .ok (.iconst 0, 1) := by decide +kernel
theorem d_Model_puts_106 : decode c_Model_puts 106 = .ok (.istore_n 2, 1) := by decide +kernel
theorem d_Model_puts_107 : decode c_Model_puts 107 = .ok (.iload_n 2, 1) := by decide +kernel
theorem d_Model_puts_108 : decode c_Model_puts 108 = .ok (.iconst 5, 1) := by decide +kernel
theorem d_Model_puts_109 : decode c_Model_puts 109 = .ok (.if_icmp .ge 28, 3) := by decide +kernel
theorem d_Model_puts_112 : decode c_Model_puts 112 = .ok (.aload_n 0, 1) := by decide +kernel
theorem d_Model_puts_113 : decode c_Model_puts 113 = .ok (.getfield 77, 3) := by decide +kernel
theorem d_Model_puts_116 : decode c_Model_puts 116 = .ok (.iconst 5, 1) := by decide +kernel
theorem d_Model_puts_117 : decode c_Model_puts 117 = .ok (.aload_n 0, 1) := by decide +kernel
theorem d_Model_puts_118 : decode c_Model_puts 118 = .ok (.getfield 355, 3) := by decide +kernel
theorem d_Model_puts_121 : decode c_Model_puts 121 = .ok (.imul, 1) := by decide +kernel
theorem d_Model_puts_122 : decode c_Model_puts 122 = .ok (.iload_n 2, 1) := by decide +kernel
theorem d_Model_puts_123 : decode c_Model_puts 123 = .ok (.iadd, 1) := by decide +kernel
theorem d_Model_puts_124 : decode c_Model_puts 124 = .ok (.aload_n 0, 1) := by decide +kernel
theorem d_Model_puts_125 : decode c_Model_puts 125 = .ok (.getfield 86, 3) := by decide +kernel
theorem d_Model_puts_128 : decode c_Model_puts 128 = .ok (.iload_n 2, 1) := by decide +kernel
theorem d_Model_puts_129 : decode c_Model_puts 129 = .ok (.iaload, 1) := by decide +kernel
theorem d_Model_puts_130 : decode c_Model_puts 130 = .ok (.iastore, 1) := by decide +kernel
theorem d_Model_puts_131 : decode c_Model_puts 131 = .ok (.iinc 2 1, 3) := by decide +kernel
theorem d_Model_puts_134 : decode c_Model_puts 134 = .ok (.goto (-27), 3) := by decide +kernel
theorem d_Model_puts_137 : decode c_Model_puts 137 = .ok (.aload_n 0, 1) := by decide +kernel
theorem d_Model_puts_138 : decode c_Model_puts 138 = .ok (.dup, 1) := by decide +kernel
theorem d_Model_puts_139 : decode c_Model_puts 139 = .ok (.getfield 355, 3) := by decide +kernel
theorem d_Model_puts_142 : decode c_Model_puts 142 = .ok (.iconst 1, 1) := by decide +kernel
theorem d_Model_puts_143 : decode c_Model_puts 143 = .ok (.iadd, 1) := by decide +kernel
theorem d_Model_puts_144 : decode c_Model_puts 144 = .ok (.putfield 355, 3) := by decide +kernel
theorem d_Model_puts_147 : decode c_Model_puts 147 = .ok (.aload_n 0, 1) := by decide +kernel
theorem d_Model_puts_148 : decode c_Model_puts 148 = .ok (.dup, 1) := by decide +kernel
theorem d_Model_puts_149 : decode c_Model_puts 149 = .ok (.getfield 358, 3) := by decide +kernel
theorem d_Model_puts_152 : decode c_Model_puts 152 = .ok (.iload_n 1, 1) := by decide +kernel
theorem d_Model_puts_153 : decode c_Model_puts 153 = .ok (.iadd, 1) := by decide +kernel
theorem d_Model_puts_154 : decode c_Model_puts 154 = .ok (.putfield 358, 3) := by decide +kernel
theorem d_Model_puts_157 : decode c_Model_puts 157 = .ok (.return_, 1) := by decide +kernel
abbrev c_Model_layScore : ByteArray := prog_14_method_56_code
def y_Model_layScore : MethodName := ⟨"EpochServerModel", "layScore", "(I[II)I"⟩
theorem d_Model_layScore_0 : decode c_Model_layScore 0 = .ok (.iconst 0, 1) := by decide +kernel
theorem d_Model_layScore_1 : decode c_Model_layScore 1 = .ok (.istore 4, 2) := by decide +kernel
theorem d_Model_layScore_3 : decode c_Model_layScore 3 = .ok (.iload 4, 2) := by decide +kernel
theorem d_Model_layScore_5 : decode c_Model_layScore 5 = .ok (.iconst 5, 1) := by decide +kernel
theorem d_Model_layScore_6 : decode c_Model_layScore 6 = .ok (.if_icmp .ge 57, 3) := by decide +kernel
theorem d_Model_layScore_9 : decode c_Model_layScore 9 = .ok (.iconst 0, 1) := by decide +kernel
theorem d_Model_layScore_10 : decode c_Model_layScore 10 = .ok (.istore 5, 2) := by decide +kernel
theorem d_Model_layScore_12 : decode c_Model_layScore 12 = .ok (.iload 5, 2) := by decide +kernel
theorem d_Model_layScore_14 : decode c_Model_layScore 14 = .ok (.iconst 4, 1) := by decide +kernel
theorem d_Model_layScore_15 : decode c_Model_layScore 15 = .ok (.if_icmp .ge 42, 3) := by decide +kernel
theorem d_Model_layScore_18 : decode c_Model_layScore 18 = .ok (.aload_n 0, 1) := by decide +kernel
theorem d_Model_layScore_19 : decode c_Model_layScore 19 = .ok (.getfield 80, 3) := by decide +kernel
theorem d_Model_layScore_22 : decode c_Model_layScore 22 = .ok (.iload_n 1, 1) := by decide +kernel
theorem d_Model_layScore_23 : decode c_Model_layScore 23 = .ok (.iconst 4, 1) := by decide +kernel
theorem d_Model_layScore_24 : decode c_Model_layScore 24 = .ok (.iload 4, 2) := by decide +kernel
theorem d_Model_layScore_26 : decode c_Model_layScore 26 = .ok (.imul, 1) := by decide +kernel
theorem d_Model_layScore_27 : decode c_Model_layScore 27 = .ok (.iadd, 1) := by decide +kernel
theorem d_Model_layScore_28 : decode c_Model_layScore 28 = .ok (.iload 5, 2) := by decide +kernel
theorem d_Model_layScore_30 : decode c_Model_layScore 30 = .ok (.iadd, 1) := by decide +kernel
theorem d_Model_layScore_31 : decode c_Model_layScore 31 = .ok (.aload_n 2, 1) := by decide +kernel
theorem d_Model_layScore_32 : decode c_Model_layScore 32 = .ok (.iload_n 3, 1) := by decide +kernel
theorem d_Model_layScore_33 : decode c_Model_layScore 33 = .ok (.iload 4, 2) := by decide +kernel
theorem d_Model_layScore_35 : decode c_Model_layScore 35 = .ok (.iadd, 1) := by decide +kernel
theorem d_Model_layScore_36 : decode c_Model_layScore 36 = .ok (.iaload, 1) := by decide +kernel
theorem d_Model_layScore_37 : decode c_Model_layScore 37 = .ok (.bipush 24, 2) := by decide +kernel
theorem d_Model_layScore_39 : decode c_Model_layScore 39 = .ok (.bipush 8, 2) := by decide +kernel
theorem d_Model_layScore_41 : decode c_Model_layScore 41 = .ok (.iload 5, 2) := by decide +kernel
theorem d_Model_layScore_43 : decode c_Model_layScore 43 = .ok (.imul, 1) := by decide +kernel
theorem d_Model_layScore_44 : decode c_Model_layScore 44 = .ok (.isub, 1) := by decide +kernel
theorem d_Model_layScore_45 : decode c_Model_layScore 45 = .ok (.ishr, 1) := by decide +kernel
theorem d_Model_layScore_46 : decode c_Model_layScore 46 = .ok (.sipush 255, 3) := by decide +kernel
theorem d_Model_layScore_49 : decode c_Model_layScore 49 = .ok (.iand, 1) := by decide +kernel
theorem d_Model_layScore_50 : decode c_Model_layScore 50 = .ok (.iastore, 1) := by decide +kernel
theorem d_Model_layScore_51 : decode c_Model_layScore 51 = .ok (.iinc 5 1, 3) := by decide +kernel
theorem d_Model_layScore_54 : decode c_Model_layScore 54 = .ok (.goto (-42), 3) := by decide +kernel
theorem d_Model_layScore_57 : decode c_Model_layScore 57 = .ok (.iinc 4 1, 3) := by decide +kernel
theorem d_Model_layScore_60 : decode c_Model_layScore 60 = .ok (.goto (-57), 3) := by decide +kernel
theorem d_Model_layScore_63 : decode c_Model_layScore 63 = .ok (.iload_n 1, 1) := by decide +kernel
theorem d_Model_layScore_64 : decode c_Model_layScore 64 = .ok (.bipush 20, 2) := by decide +kernel
theorem d_Model_layScore_66 : decode c_Model_layScore 66 = .ok (.iadd, 1) := by decide +kernel
theorem d_Model_layScore_67 : decode c_Model_layScore 67 = .ok (.ireturn, 1) := by decide +kernel
abbrev c_Model_scoreFile : ByteArray := prog_14_method_57_code
def y_Model_scoreFile : MethodName := ⟨"EpochServerModel", "scoreFile", "(II)V"⟩
theorem d_Model_scoreFile_0 : decode c_Model_scoreFile 0 = .ok (.iload_n 1, 1) := by decide +kernel
theorem d_Model_scoreFile_1 : decode c_Model_scoreFile 1 = .ok (.iload_n 2, 1) := by decide +kernel
theorem d_Model_scoreFile_2 : decode c_Model_scoreFile 2 = .ok (.invokestatic 96, 3) := by decide +kernel
theorem d_Model_scoreFile_5 : decode c_Model_scoreFile 5 = .ok (.istore_n 3, 1) := by decide +kernel
theorem d_Model_scoreFile_6 : decode c_Model_scoreFile 6 = .ok (.iconst 0, 1) := by decide +kernel
theorem d_Model_scoreFile_7 : decode c_Model_scoreFile 7 = .ok (.istore 4, 2) := by decide +kernel
theorem d_Model_scoreFile_9 : decode c_Model_scoreFile 9 = .ok (.iconst 0, 1) := by decide +kernel
theorem d_Model_scoreFile_10 : decode c_Model_scoreFile 10 = .ok (.istore 5, 2) := by decide +kernel
theorem d_Model_scoreFile_12 : decode c_Model_scoreFile 12 = .ok (.iload 5, 2) := by decide +kernel
theorem d_Model_scoreFile_14 : decode c_Model_scoreFile 14 = .ok (.aload_n 0, 1) := by decide +kernel
theorem d_Model_scoreFile_15 : decode c_Model_scoreFile 15 = .ok (.getfield 26, 3) := by decide +kernel
theorem d_Model_scoreFile_18 : decode c_Model_scoreFile 18 = .ok (.iload_n 3, 1) := by decide +kernel
theorem d_Model_scoreFile_19 : decode c_Model_scoreFile 19 = .ok (.iaload, 1) := by decide +kernel
theorem d_Model_scoreFile_20 : decode c_Model_scoreFile 20 = .ok (.if_icmp .ge 107, 3) := by decide +kernel
theorem d_Model_scoreFile_23 : decode c_Model_scoreFile 23 = .ok (.bipush 64, 2) := by decide +kernel
theorem d_Model_scoreFile_25 : decode c_Model_scoreFile 25 = .ok (.aload_n 0, 1) := by decide +kernel
theorem d_Model_scoreFile_26 : decode c_Model_scoreFile 26 = .ok (.getfield 26, 3) := by decide +kernel
theorem d_Model_scoreFile_29 : decode c_Model_scoreFile 29 = .ok (.iload_n 3, 1) := by decide +kernel
theorem d_Model_scoreFile_30 : decode c_Model_scoreFile 30 = .ok (.iaload, 1) := by decide +kernel
theorem d_Model_scoreFile_31 : decode c_Model_scoreFile 31 = .ok (.iload 5, 2) := by decide +kernel
theorem d_Model_scoreFile_33 : decode c_Model_scoreFile 33 = .ok (.isub, 1) := by decide +kernel
theorem d_Model_scoreFile_34 : decode c_Model_scoreFile 34 = .ok (.invokestatic 385, 3) := by decide +kernel
theorem d_Model_scoreFile_37 : decode c_Model_scoreFile 37 = .ok (.istore 6, 2) := by decide +kernel
theorem d_Model_scoreFile_39 : decode c_Model_scoreFile 39 = .ok (.iconst 0, 1) := by decide +kernel
theorem d_Model_scoreFile_40 : decode c_Model_scoreFile 40 = .ok (.istore 7, 2) := by decide +kernel
theorem d_Model_scoreFile_42 : decode c_Model_scoreFile 42 = .ok (.iload 7, 2) := by decide +kernel
theorem d_Model_scoreFile_44 : decode c_Model_scoreFile 44 = .ok (.iload 6, 2) := by decide +kernel
theorem d_Model_scoreFile_46 : decode c_Model_scoreFile 46 = .ok (.if_icmp .ge 32, 3) := by decide +kernel
theorem d_Model_scoreFile_49 : decode c_Model_scoreFile 49 = .ok (.aload_n 0, 1) := by decide +kernel
theorem d_Model_scoreFile_50 : decode c_Model_scoreFile 50 = .ok (.getfield 80, 3) := by decide +kernel
theorem d_Model_scoreFile_53 : decode c_Model_scoreFile 53 = .ok (.iload 7, 2) := by decide +kernel
theorem d_Model_scoreFile_55 : decode c_Model_scoreFile 55 = .ok (.aload_n 0, 1) := by decide +kernel
theorem d_Model_scoreFile_56 : decode c_Model_scoreFile 56 = .ok (.getfield 37, 3) := by decide +kernel
theorem d_Model_scoreFile_59 : decode c_Model_scoreFile 59 = .ok (.sipush 512, 3) := by decide +kernel
theorem d_Model_scoreFile_62 : decode c_Model_scoreFile 62 = .ok (.iload_n 3, 1) := by decide +kernel
theorem d_Model_scoreFile_63 : decode c_Model_scoreFile 63 = .ok (.imul, 1) := by decide +kernel
theorem d_Model_scoreFile_64 : decode c_Model_scoreFile 64 = .ok (.iload 5, 2) := by decide +kernel
theorem d_Model_scoreFile_66 : decode c_Model_scoreFile 66 = .ok (.iadd, 1) := by decide +kernel
theorem d_Model_scoreFile_67 : decode c_Model_scoreFile 67 = .ok (.iload 7, 2) := by decide +kernel
theorem d_Model_scoreFile_69 : decode c_Model_scoreFile 69 = .ok (.iadd, 1) := by decide +kernel
theorem d_Model_scoreFile_70 : decode c_Model_scoreFile 70 = .ok (.iaload, 1) := by decide +kernel
theorem d_Model_scoreFile_71 : decode c_Model_scoreFile 71 = .ok (.iastore, 1) := by decide +kernel
theorem d_Model_scoreFile_72 : decode c_Model_scoreFile 72 = .ok (.iinc 7 1, 3) := by decide +kernel
theorem d_Model_scoreFile_75 : decode c_Model_scoreFile 75 = .ok (.goto (-33), 3) := by decide +kernel
theorem d_Model_scoreFile_78 : decode c_Model_scoreFile 78 = .ok (.aload_n 0, 1) := by decide +kernel
theorem d_Model_scoreFile_79 : decode c_Model_scoreFile 79 = .ok (.iload 6, 2) := by decide +kernel
theorem d_Model_scoreFile_81 : decode c_Model_scoreFile 81 = .ok (.invokevirtual 390, 3) := by decide +kernel
theorem d_Model_scoreFile_84 : decode c_Model_scoreFile 84 = .ok (.iconst 0, 1) := by decide +kernel
theorem d_Model_scoreFile_85 : decode c_Model_scoreFile 85 = .ok (.istore 7, 2) := by decide +kernel
theorem d_Model_scoreFile_87 : decode c_Model_scoreFile 87 = .ok (.iload 7, 2) := by decide +kernel
theorem d_Model_scoreFile_89 : decode c_Model_scoreFile 89 = .ok (.iconst 5, 1) := by decide +kernel
theorem d_Model_scoreFile_90 : decode c_Model_scoreFile 90 = .ok (.if_icmp .ge 28, 3) := by decide +kernel
theorem d_Model_scoreFile_93 : decode c_Model_scoreFile 93 = .ok (.aload_n 0, 1) := by decide +kernel
theorem d_Model_scoreFile_94 : decode c_Model_scoreFile 94 = .ok (.getfield 92, 3) := by decide +kernel
theorem d_Model_scoreFile_97 : decode c_Model_scoreFile 97 = .ok (.iconst 5, 1) := by decide +kernel
theorem d_Model_scoreFile_98 : decode c_Model_scoreFile 98 = .ok (.iload 4, 2) := by decide +kernel
theorem d_Model_scoreFile_100 : decode c_Model_scoreFile 100 = .ok (.imul, 1) := by decide +kernel
theorem d_Model_scoreFile_101 : decode c_Model_scoreFile 101 = .ok (.iload 7, 2) := by decide +kernel
theorem d_Model_scoreFile_103 : decode c_Model_scoreFile 103 = .ok (.iadd, 1) := by decide +kernel
theorem d_Model_scoreFile_104 : decode c_Model_scoreFile 104 = .ok (.aload_n 0, 1) := by decide +kernel
theorem d_Model_scoreFile_105 : decode c_Model_scoreFile 105 = .ok (.getfield 86, 3) := by decide +kernel
theorem d_Model_scoreFile_108 : decode c_Model_scoreFile 108 = .ok (.iload 7, 2) := by decide +kernel
theorem d_Model_scoreFile_110 : decode c_Model_scoreFile 110 = .ok (.iaload, 1) := by decide +kernel
theorem d_Model_scoreFile_111 : decode c_Model_scoreFile 111 = .ok (.iastore, 1) := by decide +kernel
theorem d_Model_scoreFile_112 : decode c_Model_scoreFile 112 = .ok (.iinc 7 1, 3) := by decide +kernel
theorem d_Model_scoreFile_115 : decode c_Model_scoreFile 115 = .ok (.goto (-28), 3) := by decide +kernel
theorem d_Model_scoreFile_118 : decode c_Model_scoreFile 118 = .ok (.iinc 4 1, 3) := by decide +kernel
theorem d_Model_scoreFile_121 : decode c_Model_scoreFile 121 = .ok (.iinc 5 64, 3) := by decide +kernel
theorem d_Model_scoreFile_124 : decode c_Model_scoreFile 124 = .ok (.goto (-112), 3) := by decide +kernel
theorem d_Model_scoreFile_127 : decode c_Model_scoreFile 127 = .ok (.iconst 0, 1) := by decide +kernel
theorem d_Model_scoreFile_128 : decode c_Model_scoreFile 128 = .ok (.istore 5, 2) := by decide +kernel
theorem d_Model_scoreFile_130 : decode c_Model_scoreFile 130 = .ok (.iconst 0, 1) := by decide +kernel
theorem d_Model_scoreFile_131 : decode c_Model_scoreFile 131 = .ok (.istore 6, 2) := by decide +kernel
theorem d_Model_scoreFile_133 : decode c_Model_scoreFile 133 = .ok (.iload 6, 2) := by decide +kernel
theorem d_Model_scoreFile_135 : decode c_Model_scoreFile 135 = .ok (.iload 4, 2) := by decide +kernel
theorem d_Model_scoreFile_137 : decode c_Model_scoreFile 137 = .ok (.if_icmp .ge 25, 3) := by decide +kernel
theorem d_Model_scoreFile_140 : decode c_Model_scoreFile 140 = .ok (.aload_n 0, 1) := by decide +kernel
theorem d_Model_scoreFile_141 : decode c_Model_scoreFile 141 = .ok (.iload 5, 2) := by decide +kernel
theorem d_Model_scoreFile_143 : decode c_Model_scoreFile 143 = .ok (.aload_n 0, 1) := by decide +kernel
theorem d_Model_scoreFile_144 : decode c_Model_scoreFile 144 = .ok (.getfield 92, 3) := by decide +kernel
theorem d_Model_scoreFile_147 : decode c_Model_scoreFile 147 = .ok (.iconst 5, 1) := by decide +kernel
theorem d_Model_scoreFile_148 : decode c_Model_scoreFile 148 = .ok (.iload 6, 2) := by decide +kernel
theorem d_Model_scoreFile_150 : decode c_Model_scoreFile 150 = .ok (.imul, 1) := by decide +kernel
theorem d_Model_scoreFile_151 : decode c_Model_scoreFile 151 = .ok (.invokevirtual 393, 3) := by decide +kernel
theorem d_Model_scoreFile_154 : decode c_Model_scoreFile 154 = .ok (.istore 5, 2) := by decide +kernel
theorem d_Model_scoreFile_156 : decode c_Model_scoreFile 156 = .ok (.iinc 6 1, 3) := by decide +kernel
theorem d_Model_scoreFile_159 : decode c_Model_scoreFile 159 = .ok (.goto (-26), 3) := by decide +kernel
theorem d_Model_scoreFile_162 : decode c_Model_scoreFile 162 = .ok (.aload_n 0, 1) := by decide +kernel
theorem d_Model_scoreFile_163 : decode c_Model_scoreFile 163 = .ok (.iload 5, 2) := by decide +kernel
theorem d_Model_scoreFile_165 : decode c_Model_scoreFile 165 = .ok (.invokevirtual 390, 3) := by decide +kernel
theorem d_Model_scoreFile_168 : decode c_Model_scoreFile 168 = .ok (.return_, 1) := by decide +kernel
abbrev c_Model_scores : ByteArray := prog_14_method_58_code
def y_Model_scores : MethodName := ⟨"EpochServerModel", "scores", "(II)V"⟩
theorem d_Model_scores_0 : decode c_Model_scores 0 = .ok (.iload_n 1, 1) := by decide +kernel
theorem d_Model_scores_1 : decode c_Model_scores 1 = .ok (.iload_n 2, 1) := by decide +kernel
theorem d_Model_scores_2 : decode c_Model_scores 2 = .ok (.invokestatic 96, 3) := by decide +kernel
theorem d_Model_scores_5 : decode c_Model_scores 5 = .ok (.istore_n 3, 1) := by decide +kernel
theorem d_Model_scores_6 : decode c_Model_scores 6 = .ok (.aload_n 0, 1) := by decide +kernel
theorem d_Model_scores_7 : decode c_Model_scores 7 = .ok (.iload_n 3, 1) := by decide +kernel
theorem d_Model_scores_8 : decode c_Model_scores 8 = .ok (.invokevirtual 230, 3) := by decide +kernel
theorem d_Model_scores_11 : decode c_Model_scores 11 = .ok (.ifCond .ne 12, 3) := by decide +kernel
theorem d_Model_scores_14 : decode c_Model_scores 14 = .ok (.aload_n 0, 1) := by decide +kernel
theorem d_Model_scores_15 : decode c_Model_scores 15 = .ok (.iload_n 1, 1) := by decide +kernel
theorem d_Model_scores_16 : decode c_Model_scores 16 = .ok (.iload_n 2, 1) := by decide +kernel
theorem d_Model_scores_17 : decode c_Model_scores 17 = .ok (.invokevirtual 397, 3) := by decide +kernel
theorem d_Model_scores_20 : decode c_Model_scores 20 = .ok (.goto 191, 3) := by decide +kernel
theorem d_Model_scores_23 : decode c_Model_scores 23 = .ok (.iconst 1, 1) := by decide +kernel
theorem d_Model_scores_24 : decode c_Model_scores 24 = .ok (.istore 4, 2) := by decide +kernel
theorem d_Model_scores_26 : decode c_Model_scores 26 = .ok (.iload 4, 2) := by decide +kernel
theorem d_Model_scores_28 : decode c_Model_scores 28 = .ok (.bipush 60, 2) := by decide +kernel
theorem d_Model_scores_30 : decode c_Model_scores 30 = .ok (.if_icmp .ge 45, 3) := by decide +kernel
theorem d_Model_scores_33 : decode c_Model_scores 33 = .ok (.aload_n 0, 1) := by decide +kernel
theorem d_Model_scores_34 : decode c_Model_scores 34 = .ok (.getfield 9, 3) := by decide +kernel
theorem d_Model_scores_37 : decode c_Model_scores 37 = .ok (.iload_n 1, 1) := by decide +kernel
theorem d_Model_scores_38 : decode c_Model_scores 38 = .ok (.iload 4, 2) := by decide +kernel
theorem d_Model_scores_40 : decode c_Model_scores 40 = .ok (.invokestatic 96, 3) := by decide +kernel
theorem d_Model_scores_43 : decode c_Model_scores 43 = .ok (.baload, 1) := by decide +kernel
theorem d_Model_scores_44 : decode c_Model_scores 44 = .ok (.ifCond .eq 25, 3) := by decide +kernel
theorem d_Model_scores_47 : decode c_Model_scores 47 = .ok (.aload_n 0, 1) := by decide +kernel
theorem d_Model_scores_48 : decode c_Model_scores 48 = .ok (.getfield 13, 3) := by decide +kernel
theorem d_Model_scores_51 : decode c_Model_scores 51 = .ok (.iload_n 1, 1) := by decide +kernel
theorem d_Model_scores_52 : decode c_Model_scores 52 = .ok (.iload 4, 2) := by decide +kernel
theorem d_Model_scores_54 : decode c_Model_scores 54 = .ok (.invokestatic 96, 3) := by decide +kernel
theorem d_Model_scores_57 : decode c_Model_scores 57 = .ok (.iaload, 1) := by decide +kernel
theorem d_Model_scores_58 : decode c_Model_scores 58 = .ok (.iload_n 2, 1) := by decide +kernel
theorem d_Model_scores_59 : decode c_Model_scores 59 = .ok (.if_icmp .ne 10, 3) := by decide +kernel
theorem d_Model_scores_62 : decode c_Model_scores 62 = .ok (.aload_n 0, 1) := by decide +kernel
theorem d_Model_scores_63 : decode c_Model_scores 63 = .ok (.iload_n 1, 1) := by decide +kernel
theorem d_Model_scores_64 : decode c_Model_scores 64 = .ok (.iload 4, 2) := by decide +kernel
theorem d_Model_scores_66 : decode c_Model_scores 66 = .ok (.invokevirtual 400, 3) := by decide +kernel
theorem d_Model_scores_69 : decode c_Model_scores 69 = .ok (.iinc 4 1, 3) := by decide +kernel
theorem d_Model_scores_72 : decode c_Model_scores 72 = .ok (.goto (-46), 3) := by decide +kernel
theorem d_Model_scores_75 : decode c_Model_scores 75 = .ok (.iconst 0, 1) := by decide +kernel
theorem d_Model_scores_76 : decode c_Model_scores 76 = .ok (.istore 4, 2) := by decide +kernel
theorem d_Model_scores_78 : decode c_Model_scores 78 = .ok (.aload_n 0, 1) := by decide +kernel
theorem d_Model_scores_79 : decode c_Model_scores 79 = .ok (.getfield 197, 3) := by decide +kernel
theorem d_Model_scores_82 : decode c_Model_scores 82 = .ok (.istore 5, 2) := by decide +kernel
theorem d_Model_scores_84 : decode c_Model_scores 84 = .ok (.iconst 1, 1) := by decide +kernel
theorem d_Model_scores_85 : decode c_Model_scores 85 = .ok (.istore 6, 2) := by decide +kernel
theorem d_Model_scores_87 : decode c_Model_scores 87 = .ok (.iload 6, 2) := by decide +kernel
theorem d_Model_scores_89 : decode c_Model_scores 89 = .ok (.bipush 60, 2) := by decide +kernel
theorem d_Model_scores_91 : decode c_Model_scores 91 = .ok (.if_icmp .ge 108, 3) := by decide +kernel
theorem d_Model_scores_94 : decode c_Model_scores 94 = .ok (.aload_n 0, 1) := by decide +kernel
theorem d_Model_scores_95 : decode c_Model_scores 95 = .ok (.getfield 9, 3) := by decide +kernel
theorem d_Model_scores_98 : decode c_Model_scores 98 = .ok (.iload_n 1, 1) := by decide +kernel
theorem d_Model_scores_99 : decode c_Model_scores 99 = .ok (.iload 6, 2) := by decide +kernel
theorem d_Model_scores_101 : decode c_Model_scores 101 = .ok (.invokestatic 96, 3) := by decide +kernel
theorem d_Model_scores_104 : decode c_Model_scores 104 = .ok (.baload, 1) := by decide +kernel
theorem d_Model_scores_105 : decode c_Model_scores 105 = .ok (.ifCond .eq 88, 3) := by decide +kernel
theorem d_Model_scores_108 : decode c_Model_scores 108 = .ok (.aload_n 0, 1) := by decide +kernel
theorem d_Model_scores_109 : decode c_Model_scores 109 = .ok (.getfield 13, 3) := by decide +kernel
theorem d_Model_scores_112 : decode c_Model_scores 112 = .ok (.iload_n 1, 1) := by decide +kernel
theorem d_Model_scores_113 : decode c_Model_scores 113 = .ok (.iload 6, 2) := by decide +kernel
theorem d_Model_scores_115 : decode c_Model_scores 115 = .ok (.invokestatic 96, 3) := by decide +kernel
theorem d_Model_scores_118 : decode c_Model_scores 118 = .ok (.iaload, 1) := by decide +kernel
theorem d_Model_scores_119 : decode c_Model_scores 119 = .ok (.iload_n 2, 1) := by decide +kernel
theorem d_Model_scores_120 : decode c_Model_scores 120 = .ok (.if_icmp .eq 6, 3) := by decide +kernel
theorem d_Model_scores_123 : decode c_Model_scores 123 = .ok (.goto 70, 3) := by decide +kernel
theorem d_Model_scores_126 : decode c_Model_scores 126 = .ok (.aload_n 0, 1) := by decide +kernel
theorem d_Model_scores_127 : decode c_Model_scores 127 = .ok (.sipush 1400, 3) := by decide +kernel
theorem d_Model_scores_130 : decode c_Model_scores 130 = .ok (.putfield 197, 3) := by decide +kernel
theorem d_Model_scores_133 : decode c_Model_scores 133 = .ok (.aload_n 0, 1) := by decide +kernel
theorem d_Model_scores_134 : decode c_Model_scores 134 = .ok (.iload_n 1, 1) := by decide +kernel
theorem d_Model_scores_135 : decode c_Model_scores 135 = .ok (.iload 6, 2) := by decide +kernel
theorem d_Model_scores_137 : decode c_Model_scores 137 = .ok (.invokevirtual 291, 3) := by decide +kernel
theorem d_Model_scores_140 : decode c_Model_scores 140 = .ok (.sipush 1400, 3) := by decide +kernel
theorem d_Model_scores_143 : decode c_Model_scores 143 = .ok (.istore 7, 2) := by decide +kernel
theorem d_Model_scores_145 : decode c_Model_scores 145 = .ok (.iload 7, 2) := by decide +kernel
theorem d_Model_scores_147 : decode c_Model_scores 147 = .ok (.aload_n 0, 1) := by decide +kernel
theorem d_Model_scores_148 : decode c_Model_scores 148 = .ok (.getfield 197, 3) := by decide +kernel
theorem d_Model_scores_151 : decode c_Model_scores 151 = .ok (.if_icmp .ge 26, 3) := by decide +kernel
theorem d_Model_scores_154 : decode c_Model_scores 154 = .ok (.aload_n 0, 1) := by decide +kernel
theorem d_Model_scores_155 : decode c_Model_scores 155 = .ok (.getfield 80, 3) := by decide +kernel
theorem d_Model_scores_158 : decode c_Model_scores 158 = .ok (.iload 4, 2) := by decide +kernel
theorem d_Model_scores_160 : decode c_Model_scores 160 = .ok (.aload_n 0, 1) := by decide +kernel
theorem d_Model_scores_161 : decode c_Model_scores 161 = .ok (.getfield 47, 3) := by decide +kernel
theorem d_Model_scores_164 : decode c_Model_scores 164 = .ok (.iload 7, 2) := by decide +kernel
theorem d_Model_scores_166 : decode c_Model_scores 166 = .ok (.iaload, 1) := by decide +kernel
theorem d_Model_scores_167 : decode c_Model_scores 167 = .ok (.iastore, 1) := by decide +kernel
theorem d_Model_scores_168 : decode c_Model_scores 168 = .ok (.iinc 4 1, 3) := by decide +kernel
theorem d_Model_scores_171 : decode c_Model_scores 171 = .ok (.iinc 7 1, 3) := by decide +kernel
theorem d_Model_scores_174 : decode c_Model_scores 174 = .ok (.goto (-29), 3) := by decide +kernel
theorem d_Model_scores_177 : decode c_Model_scores 177 = .ok (.aload_n 0, 1) := by decide +kernel
theorem d_Model_scores_178 : decode c_Model_scores 178 = .ok (.iload 4, 2) := by decide +kernel
theorem d_Model_scores_180 : decode c_Model_scores 180 = .ok (.aload_n 0, 1) := by decide +kernel
theorem d_Model_scores_181 : decode c_Model_scores 181 = .ok (.getfield 89, 3) := by decide +kernel
theorem d_Model_scores_184 : decode c_Model_scores 184 = .ok (.iconst 5, 1) := by decide +kernel
theorem d_Model_scores_185 : decode c_Model_scores 185 = .ok (.iload 6, 2) := by decide +kernel
theorem d_Model_scores_187 : decode c_Model_scores 187 = .ok (.imul, 1) := by decide +kernel
theorem d_Model_scores_188 : decode c_Model_scores 188 = .ok (.invokevirtual 393, 3) := by decide +kernel
theorem d_Model_scores_191 : decode c_Model_scores 191 = .ok (.istore 4, 2) := by decide +kernel
theorem d_Model_scores_193 : decode c_Model_scores 193 = .ok (.iinc 6 1, 3) := by decide +kernel
theorem d_Model_scores_196 : decode c_Model_scores 196 = .ok (.goto (-109), 3) := by decide +kernel
theorem d_Model_scores_199 : decode c_Model_scores 199 = .ok (.aload_n 0, 1) := by decide +kernel
theorem d_Model_scores_200 : decode c_Model_scores 200 = .ok (.iload 5, 2) := by decide +kernel
theorem d_Model_scores_202 : decode c_Model_scores 202 = .ok (.putfield 197, 3) := by decide +kernel
theorem d_Model_scores_205 : decode c_Model_scores 205 = .ok (.aload_n 0, 1) := by decide +kernel
theorem d_Model_scores_206 : decode c_Model_scores 206 = .ok (.iload 4, 2) := by decide +kernel
theorem d_Model_scores_208 : decode c_Model_scores 208 = .ok (.invokevirtual 390, 3) := by decide +kernel
theorem d_Model_scores_211 : decode c_Model_scores 211 = .ok (.iconst 0, 1) := by decide +kernel
theorem d_Model_scores_212 : decode c_Model_scores 212 = .ok (.istore 4, 2) := by decide +kernel
theorem d_Model_scores_214 : decode c_Model_scores 214 = .ok (.iload 4, 2) := by decide +kernel
theorem d_Model_scores_216 : decode c_Model_scores 216 = .ok (.iconst 5, 1) := by decide +kernel
theorem d_Model_scores_217 : decode c_Model_scores 217 = .ok (.if_icmp .ge 27, 3) := by decide +kernel
theorem d_Model_scores_220 : decode c_Model_scores 220 = .ok (.aload_n 0, 1) := by decide +kernel
theorem d_Model_scores_221 : decode c_Model_scores 221 = .ok (.getfield 89, 3) := by decide +kernel
theorem d_Model_scores_224 : decode c_Model_scores 224 = .ok (.iconst 5, 1) := by decide +kernel
theorem d_Model_scores_225 : decode c_Model_scores 225 = .ok (.iload_n 2, 1) := by decide +kernel
theorem d_Model_scores_226 : decode c_Model_scores 226 = .ok (.imul, 1) := by decide +kernel
theorem d_Model_scores_227 : decode c_Model_scores 227 = .ok (.iload 4, 2) := by decide +kernel
theorem d_Model_scores_229 : decode c_Model_scores 229 = .ok (.iadd, 1) := by decide +kernel
theorem d_Model_scores_230 : decode c_Model_scores 230 = .ok (.aload_n 0, 1) := by decide +kernel
theorem d_Model_scores_231 : decode c_Model_scores 231 = .ok (.getfield 86, 3) := by decide +kernel
theorem d_Model_scores_234 : decode c_Model_scores 234 = .ok (.iload 4, 2) := by decide +kernel
theorem d_Model_scores_236 : decode c_Model_scores 236 = .ok (.iaload, 1) := by decide +kernel
theorem d_Model_scores_237 : decode c_Model_scores 237 = .ok (.iastore, 1) := by decide +kernel
theorem d_Model_scores_238 : decode c_Model_scores 238 = .ok (.iinc 4 1, 3) := by decide +kernel
theorem d_Model_scores_241 : decode c_Model_scores 241 = .ok (.goto (-27), 3) := by decide +kernel
theorem d_Model_scores_244 : decode c_Model_scores 244 = .ok (.return_, 1) := by decide +kernel
abbrev c_Model_archive : ByteArray := prog_14_method_59_code
def y_Model_archive : MethodName := ⟨"EpochServerModel", "archive", "(I)I"⟩
theorem d_Model_archive_0 : decode c_Model_archive 0 = .ok (.iload_n 1, 1) := by decide +kernel
theorem d_Model_archive_1 : decode c_Model_archive 1 = .ok (.aload_n 0, 1) := by decide +kernel
theorem d_Model_archive_2 : decode c_Model_archive 2 = .ok (.getfield 315, 3) := by decide +kernel
theorem d_Model_archive_5 : decode c_Model_archive 5 = .ok (.invokestatic 110, 3) := by decide +kernel
theorem d_Model_archive_8 : decode c_Model_archive 8 = .ok (.ifCond .ne 5, 3) := by decide +kernel
theorem d_Model_archive_11 : decode c_Model_archive 11 = .ok (.iconst (-1), 1) := by decide +kernel
theorem d_Model_archive_12 : decode c_Model_archive 12 = .ok (.ireturn, 1) := by decide +kernel
theorem d_Model_archive_13 : decode c_Model_archive 13 = .ok (.aload_n 0, 1) := by decide +kernel
theorem d_Model_archive_14 : decode c_Model_archive 14 = .ok (.getfield 355, 3) := by decide +kernel
theorem d_Model_archive_17 : decode c_Model_archive 17 = .ok (.istore_n 2, 1) := by decide +kernel
theorem d_Model_archive_18 : decode c_Model_archive 18 = .ok (.aload_n 0, 1) := by decide +kernel
theorem d_Model_archive_19 : decode c_Model_archive 19 = .ok (.getfield 358, 3) := by decide +kernel
theorem d_Model_archive_22 : decode c_Model_archive 22 = .ok (.istore_n 3, 1) := by decide +kernel
theorem d_Model_archive_23 : decode c_Model_archive 23 = .ok (.aload_n 0, 1) := by decide +kernel
theorem d_Model_archive_24 : decode c_Model_archive 24 = .ok (.iconst 1, 1) := by decide +kernel
theorem d_Model_archive_25 : decode c_Model_archive 25 = .ok (.putfield 379, 3) := by decide +kernel
theorem d_Model_archive_28 : decode c_Model_archive 28 = .ok (.aload_n 0, 1) := by decide +kernel
theorem d_Model_archive_29 : decode c_Model_archive 29 = .ok (.iconst 0, 1) := by decide +kernel
theorem d_Model_archive_30 : decode c_Model_archive 30 = .ok (.putfield 382, 3) := by decide +kernel
theorem d_Model_archive_33 : decode c_Model_archive 33 = .ok (.aload_n 0, 1) := by decide +kernel
theorem d_Model_archive_34 : decode c_Model_archive 34 = .ok (.iload_n 1, 1) := by decide +kernel
theorem d_Model_archive_35 : decode c_Model_archive 35 = .ok (.iconst 1, 1) := by decide +kernel
theorem d_Model_archive_36 : decode c_Model_archive 36 = .ok (.iadd, 1) := by decide +kernel
theorem d_Model_archive_37 : decode c_Model_archive 37 = .ok (.iconst 0, 1) := by decide +kernel
theorem d_Model_archive_38 : decode c_Model_archive 38 = .ok (.invokevirtual 400, 3) := by decide +kernel
theorem d_Model_archive_41 : decode c_Model_archive 41 = .ok (.aload_n 0, 1) := by decide +kernel
theorem d_Model_archive_42 : decode c_Model_archive 42 = .ok (.getfield 382, 3) := by decide +kernel
theorem d_Model_archive_45 : decode c_Model_archive 45 = .ok (.ifCond .ne 10, 3) := by decide +kernel
theorem d_Model_archive_48 : decode c_Model_archive 48 = .ok (.aload_n 0, 1) := by decide +kernel
theorem d_Model_archive_49 : decode c_Model_archive 49 = .ok (.getfield 355, 3) := by decide +kernel
theorem d_Model_archive_52 : decode c_Model_archive 52 = .ok (.iload_n 2, 1) := by decide +kernel
theorem d_Model_archive_53 : decode c_Model_archive 53 = .ok (.isub, 1) := by decide +kernel
theorem d_Model_archive_54 : decode c_Model_archive 54 = .ok (.ireturn, 1) := by decide +kernel
theorem d_Model_archive_55 : decode c_Model_archive 55 = .ok (.aload_n 0, 1) := by decide +kernel
theorem d_Model_archive_56 : decode c_Model_archive 56 = .ok (.iload_n 2, 1) := by decide +kernel
theorem d_Model_archive_57 : decode c_Model_archive 57 = .ok (.putfield 355, 3) := by decide +kernel
theorem d_Model_archive_60 : decode c_Model_archive 60 = .ok (.aload_n 0, 1) := by decide +kernel
theorem d_Model_archive_61 : decode c_Model_archive 61 = .ok (.iload_n 3, 1) := by decide +kernel
theorem d_Model_archive_62 : decode c_Model_archive 62 = .ok (.putfield 358, 3) := by decide +kernel
theorem d_Model_archive_65 : decode c_Model_archive 65 = .ok (.bipush (-2), 2) := by decide +kernel
theorem d_Model_archive_67 : decode c_Model_archive 67 = .ok (.ireturn, 1) := by decide +kernel
abbrev c_Model_score : ByteArray := prog_14_method_60_code
def y_Model_score : MethodName := ⟨"EpochServerModel", "score", "(II)I"⟩
theorem d_Model_score_0 : decode c_Model_score 0 = .ok (.iload_n 1, 1) := by decide +kernel
theorem d_Model_score_1 : decode c_Model_score 1 = .ok (.aload_n 0, 1) := by decide +kernel
theorem d_Model_score_2 : decode c_Model_score 2 = .ok (.getfield 315, 3) := by decide +kernel
theorem d_Model_score_5 : decode c_Model_score 5 = .ok (.invokestatic 110, 3) := by decide +kernel
theorem d_Model_score_8 : decode c_Model_score 8 = .ok (.ifCond .eq 12, 3) := by decide +kernel
theorem d_Model_score_11 : decode c_Model_score 11 = .ok (.iload_n 2, 1) := by decide +kernel
theorem d_Model_score_12 : decode c_Model_score 12 = .ok (.bipush 20, 2) := by decide +kernel
theorem d_Model_score_14 : decode c_Model_score 14 = .ok (.invokestatic 110, 3) := by decide +kernel
theorem d_Model_score_17 : decode c_Model_score 17 = .ok (.ifCond .ne 5, 3) := by decide +kernel
theorem d_Model_score_20 : decode c_Model_score 20 = .ok (.iconst (-1), 1) := by decide +kernel
theorem d_Model_score_21 : decode c_Model_score 21 = .ok (.ireturn, 1) := by decide +kernel
theorem d_Model_score_22 : decode c_Model_score 22 = .ok (.aload_n 0, 1) := by decide +kernel
theorem d_Model_score_23 : decode c_Model_score 23 = .ok (.iconst 0, 1) := by decide +kernel
theorem d_Model_score_24 : decode c_Model_score 24 = .ok (.putfield 379, 3) := by decide +kernel
theorem d_Model_score_27 : decode c_Model_score 27 = .ok (.aload_n 0, 1) := by decide +kernel
theorem d_Model_score_28 : decode c_Model_score 28 = .ok (.iload_n 1, 1) := by decide +kernel
theorem d_Model_score_29 : decode c_Model_score 29 = .ok (.iconst 1, 1) := by decide +kernel
theorem d_Model_score_30 : decode c_Model_score 30 = .ok (.iadd, 1) := by decide +kernel
theorem d_Model_score_31 : decode c_Model_score 31 = .ok (.iconst 0, 1) := by decide +kernel
theorem d_Model_score_32 : decode c_Model_score 32 = .ok (.invokevirtual 400, 3) := by decide +kernel
theorem d_Model_score_35 : decode c_Model_score 35 = .ok (.aload_n 0, 1) := by decide +kernel
theorem d_Model_score_36 : decode c_Model_score 36 = .ok (.getfield 86, 3) := by decide +kernel
theorem d_Model_score_39 : decode c_Model_score 39 = .ok (.iload_n 2, 1) := by decide +kernel
theorem d_Model_score_40 : decode c_Model_score 40 = .ok (.iconst 4, 1) := by decide +kernel
theorem d_Model_score_41 : decode c_Model_score 41 = .ok (.idiv, 1) := by decide +kernel
theorem d_Model_score_42 : decode c_Model_score 42 = .ok (.iaload, 1) := by decide +kernel
theorem d_Model_score_43 : decode c_Model_score 43 = .ok (.bipush 24, 2) := by decide +kernel
theorem d_Model_score_45 : decode c_Model_score 45 = .ok (.bipush 8, 2) := by decide +kernel
theorem d_Model_score_47 : decode c_Model_score 47 = .ok (.iload_n 2, 1) := by decide +kernel
theorem d_Model_score_48 : decode c_Model_score 48 = .ok (.iconst 4, 1) := by decide +kernel
theorem d_Model_score_49 : decode c_Model_score 49 = .ok (.irem, 1) := by decide +kernel
theorem d_Model_score_50 : decode c_Model_score 50 = .ok (.imul, 1) := by decide +kernel
theorem d_Model_score_51 : decode c_Model_score 51 = .ok (.isub, 1) := by decide +kernel
theorem d_Model_score_52 : decode c_Model_score 52 = .ok (.ishr, 1) := by decide +kernel
theorem d_Model_score_53 : decode c_Model_score 53 = .ok (.sipush 255, 3) := by decide +kernel
theorem d_Model_score_56 : decode c_Model_score 56 = .ok (.iand, 1) := by decide +kernel
theorem d_Model_score_57 : decode c_Model_score 57 = .ok (.ireturn, 1) := by decide +kernel
