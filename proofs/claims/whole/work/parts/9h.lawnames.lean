/-! THE CLAIM OUT OF ONE WALK OF THE LAW'S BODY. Your part is whole_start (and what it stands on); all else here is the same for every law, but numbers. -/
def R_law : String := "EpochServerLaw"
def lw_P (b : Addr) (xs : List Int32) (args : Array Value) (s : State) : Prop := args = #[.ref b] ∧ s.IntsAt b xs ∧ xs.length ≤ 3072 ∧ (Jvm.Cond.and given_1 narrow_1).before args s = true
def lw_Q (_ : Array Value) (s : State) (o : Outcome) (t : State) : Prop := o = .returned (some (.int 1)) ∧ Framed s o t [] 600000 7302250
def lw_Z (below : List Frame) (a : Array Value) (s : State) : State → Prop := fun t => ∃ o, t.status = .running ∧ Ended t below o ∧ lw_Q a s o t
/-- the law's own end, with 1 on the stack, nothing written that was there before, its room as the claim has it -/
theorem lw_ret {p : Program} {l : Launch} {e : Env} {s : State} {m : MethodId} {below : List Frame} {meth : Method} {c : Code} {b : Nat} (hx : p.tables.exec = Jvm.exec) (hb : c.code = code) (hr : meth.sig.returnType = ret) (hlocks : meth.locks = false) {pc : Nat} {H : Heap} {ls : Array Slot} (hdg : decode code pc = .ok (.ireturn, 1)) : W p l e room_1 s m #[Value.ref b] below meth c H [] 600000 7302250 (lw_Z below #[Value.ref b] s) (F0 m pc ls [.int 1]) := by
  intro T hT X
  obtain ⟨fs, hret, hrun, hended, hW, hframe⟩ := X.leave (v := some (.int 1)) (hlocks := hlocks) (fun h => by rw [hr] at h; cases h)
  have hmeth' : T.vm.method? m = some meth := X.method'
  refine ⟨T.setFrames fs, ?_, .returned (some (.int 1)), hrun, hended, rfl, ⟨_, rfl⟩, hW, hframe⟩
  jvm_step X.here [X.here.top, hx, hb, hdg, hmeth', hr, ret, narrow_b1]
  (try refine ⟨rfl, ?_⟩); (try refine ⟨rfl, ?_⟩)
  first | (intro acts; rw [hret _ acts rfl rfl rfl]) | rw [hret _ _ rfl rfl rfl]
  exact Steps.refl _
/-- what holds at the law's entry: the machine, the code, the tables' words (any of lw_tbl by 'hts w (by decide +kernel)'), the script of L ints xs at the cell b, what the Statement gives of the start (any of its parts by flat_of_before) -/
def lw_At (p : Program) (s : State) (m : MethodId) (meth : Method) (c : Code) (b L : Nat) (xs : Nat → Int32) : Prop :=
  p.tables.exec = Jvm.exec ∧ c.code = code ∧ meth.sig.returnType = ret ∧ c.maxLocals = 4 ∧ s.vm.findClass R_law = some m.cls ∧ (∀ w ∈ lw_tbl, w.before #[Value.ref b] s = true) ∧ va_X b L xs s s.heap ∧ b < s.heap.size ∧ meth.locks = false ∧ (Jvm.Cond.and given_1 narrow_1).before #[Value.ref b] s = true
theorem d_law_0 : decode code 0 = .ok (.new 7, 3) := by decide +kernel
theorem d_law_3 : decode code 3 = .ok (.dup, 1) := by decide +kernel
theorem d_law_4 : decode code 4 = .ok (.invokespecial 9, 3) := by decide +kernel
theorem d_law_7 : decode code 7 = .ok (.astore_n 1, 1) := by decide +kernel
theorem d_law_8 : decode code 8 = .ok (.new 10, 3) := by decide +kernel
theorem d_law_11 : decode code 11 = .ok (.dup, 1) := by decide +kernel
theorem d_law_12 : decode code 12 = .ok (.invokespecial 12, 3) := by decide +kernel
theorem d_law_15 : decode code 15 = .ok (.astore_n 2, 1) := by decide +kernel
theorem d_law_16 : decode code 16 = .ok (.iconst 0, 1) := by decide +kernel
theorem d_law_17 : decode code 17 = .ok (.istore_n 3, 1) := by decide +kernel
theorem d_law_18 : decode code 18 = .ok (.iload_n 3, 1) := by decide +kernel
theorem d_law_19 : decode code 19 = .ok (.aload_n 0, 1) := by decide +kernel
theorem d_law_20 : decode code 20 = .ok (.arraylength, 1) := by decide +kernel
theorem d_law_21 : decode code 21 = .ok (.bipush 6, 2) := by decide +kernel
theorem d_law_23 : decode code 23 = .ok (.isub, 1) := by decide +kernel
theorem d_law_24 : decode code 24 = .ok (.if_icmp .gt 434, 3) := by decide +kernel
theorem d_law_27 : decode code 27 = .ok (.aload_n 0, 1) := by decide +kernel
theorem d_law_28 : decode code 28 = .ok (.iload_n 3, 1) := by decide +kernel
theorem d_law_29 : decode code 29 = .ok (.iaload, 1) := by decide +kernel
theorem d_law_30 : decode code 30 = .ok (.bipush 15, 2) := by decide +kernel
theorem d_law_32 : decode code 32 = .ok (.iand, 1) := by decide +kernel
theorem d_law_33 : decode code 33 = .ok (.tableswitch 419 0 11 #[63, 126, 159, 182, 205, 228, 241, 264, 297, 320, 363, 396], 63) := by decide +kernel
theorem d_law_96 : decode code 96 = .ok (.aload_n 1, 1) := by decide +kernel
theorem d_law_97 : decode code 97 = .ok (.aload_n 0, 1) := by decide +kernel
theorem d_law_98 : decode code 98 = .ok (.iload_n 3, 1) := by decide +kernel
theorem d_law_99 : decode code 99 = .ok (.iconst 1, 1) := by decide +kernel
theorem d_law_100 : decode code 100 = .ok (.iadd, 1) := by decide +kernel
theorem d_law_101 : decode code 101 = .ok (.iaload, 1) := by decide +kernel
theorem d_law_102 : decode code 102 = .ok (.aload_n 0, 1) := by decide +kernel
theorem d_law_103 : decode code 103 = .ok (.iload_n 3, 1) := by decide +kernel
theorem d_law_104 : decode code 104 = .ok (.iconst 2, 1) := by decide +kernel
theorem d_law_105 : decode code 105 = .ok (.iadd, 1) := by decide +kernel
theorem d_law_106 : decode code 106 = .ok (.iaload, 1) := by decide +kernel
theorem d_law_107 : decode code 107 = .ok (.aload_n 0, 1) := by decide +kernel
theorem d_law_108 : decode code 108 = .ok (.iload_n 3, 1) := by decide +kernel
theorem d_law_109 : decode code 109 = .ok (.iconst 3, 1) := by decide +kernel
theorem d_law_110 : decode code 110 = .ok (.iadd, 1) := by decide +kernel
theorem d_law_111 : decode code 111 = .ok (.iaload, 1) := by decide +kernel
theorem d_law_112 : decode code 112 = .ok (.aload_n 0, 1) := by decide +kernel
theorem d_law_113 : decode code 113 = .ok (.iload_n 3, 1) := by decide +kernel
theorem d_law_114 : decode code 114 = .ok (.iconst 4, 1) := by decide +kernel
theorem d_law_115 : decode code 115 = .ok (.iadd, 1) := by decide +kernel
theorem d_law_116 : decode code 116 = .ok (.iaload, 1) := by decide +kernel
theorem d_law_117 : decode code 117 = .ok (.aload_n 0, 1) := by decide +kernel
theorem d_law_118 : decode code 118 = .ok (.iload_n 3, 1) := by decide +kernel
theorem d_law_119 : decode code 119 = .ok (.iconst 5, 1) := by decide +kernel
theorem d_law_120 : decode code 120 = .ok (.iadd, 1) := by decide +kernel
theorem d_law_121 : decode code 121 = .ok (.iaload, 1) := by decide +kernel
theorem d_law_122 : decode code 122 = .ok (.invokevirtual 13, 3) := by decide +kernel
theorem d_law_125 : decode code 125 = .ok (.aload_n 2, 1) := by decide +kernel
theorem d_law_126 : decode code 126 = .ok (.aload_n 0, 1) := by decide +kernel
theorem d_law_127 : decode code 127 = .ok (.iload_n 3, 1) := by decide +kernel
theorem d_law_128 : decode code 128 = .ok (.iconst 1, 1) := by decide +kernel
theorem d_law_129 : decode code 129 = .ok (.iadd, 1) := by decide +kernel
theorem d_law_130 : decode code 130 = .ok (.iaload, 1) := by decide +kernel
theorem d_law_131 : decode code 131 = .ok (.aload_n 0, 1) := by decide +kernel
theorem d_law_132 : decode code 132 = .ok (.iload_n 3, 1) := by decide +kernel
theorem d_law_133 : decode code 133 = .ok (.iconst 2, 1) := by decide +kernel
theorem d_law_134 : decode code 134 = .ok (.iadd, 1) := by decide +kernel
theorem d_law_135 : decode code 135 = .ok (.iaload, 1) := by decide +kernel
theorem d_law_136 : decode code 136 = .ok (.aload_n 0, 1) := by decide +kernel
theorem d_law_137 : decode code 137 = .ok (.iload_n 3, 1) := by decide +kernel
theorem d_law_138 : decode code 138 = .ok (.iconst 3, 1) := by decide +kernel
theorem d_law_139 : decode code 139 = .ok (.iadd, 1) := by decide +kernel
theorem d_law_140 : decode code 140 = .ok (.iaload, 1) := by decide +kernel
theorem d_law_141 : decode code 141 = .ok (.aload_n 0, 1) := by decide +kernel
theorem d_law_142 : decode code 142 = .ok (.iload_n 3, 1) := by decide +kernel
theorem d_law_143 : decode code 143 = .ok (.iconst 4, 1) := by decide +kernel
theorem d_law_144 : decode code 144 = .ok (.iadd, 1) := by decide +kernel
theorem d_law_145 : decode code 145 = .ok (.iaload, 1) := by decide +kernel
theorem d_law_146 : decode code 146 = .ok (.aload_n 0, 1) := by decide +kernel
theorem d_law_147 : decode code 147 = .ok (.iload_n 3, 1) := by decide +kernel
theorem d_law_148 : decode code 148 = .ok (.iconst 5, 1) := by decide +kernel
theorem d_law_149 : decode code 149 = .ok (.iadd, 1) := by decide +kernel
theorem d_law_150 : decode code 150 = .ok (.iaload, 1) := by decide +kernel
theorem d_law_151 : decode code 151 = .ok (.invokevirtual 17, 3) := by decide +kernel
theorem d_law_154 : decode code 154 = .ok (.if_icmp .eq 298, 3) := by decide +kernel
theorem d_law_157 : decode code 157 = .ok (.iconst 0, 1) := by decide +kernel
theorem d_law_158 : decode code 158 = .ok (.ireturn, 1) := by decide +kernel
theorem d_law_159 : decode code 159 = .ok (.aload_n 1, 1) := by decide +kernel
theorem d_law_160 : decode code 160 = .ok (.aload_n 0, 1) := by decide +kernel
theorem d_law_161 : decode code 161 = .ok (.iload_n 3, 1) := by decide +kernel
theorem d_law_162 : decode code 162 = .ok (.iconst 1, 1) := by decide +kernel
theorem d_law_163 : decode code 163 = .ok (.iadd, 1) := by decide +kernel
theorem d_law_164 : decode code 164 = .ok (.iaload, 1) := by decide +kernel
theorem d_law_165 : decode code 165 = .ok (.aload_n 0, 1) := by decide +kernel
theorem d_law_166 : decode code 166 = .ok (.iload_n 3, 1) := by decide +kernel
theorem d_law_167 : decode code 167 = .ok (.iconst 2, 1) := by decide +kernel
theorem d_law_168 : decode code 168 = .ok (.iadd, 1) := by decide +kernel
theorem d_law_169 : decode code 169 = .ok (.iaload, 1) := by decide +kernel
theorem d_law_170 : decode code 170 = .ok (.invokevirtual 18, 3) := by decide +kernel
theorem d_law_173 : decode code 173 = .ok (.aload_n 2, 1) := by decide +kernel
theorem d_law_174 : decode code 174 = .ok (.aload_n 0, 1) := by decide +kernel
theorem d_law_175 : decode code 175 = .ok (.iload_n 3, 1) := by decide +kernel
theorem d_law_176 : decode code 176 = .ok (.iconst 1, 1) := by decide +kernel
theorem d_law_177 : decode code 177 = .ok (.iadd, 1) := by decide +kernel
theorem d_law_178 : decode code 178 = .ok (.iaload, 1) := by decide +kernel
theorem d_law_179 : decode code 179 = .ok (.aload_n 0, 1) := by decide +kernel
theorem d_law_180 : decode code 180 = .ok (.iload_n 3, 1) := by decide +kernel
theorem d_law_181 : decode code 181 = .ok (.iconst 2, 1) := by decide +kernel
theorem d_law_182 : decode code 182 = .ok (.iadd, 1) := by decide +kernel
theorem d_law_183 : decode code 183 = .ok (.iaload, 1) := by decide +kernel
theorem d_law_184 : decode code 184 = .ok (.invokevirtual 22, 3) := by decide +kernel
theorem d_law_187 : decode code 187 = .ok (.if_icmp .eq 265, 3) := by decide +kernel
theorem d_law_190 : decode code 190 = .ok (.iconst 0, 1) := by decide +kernel
theorem d_law_191 : decode code 191 = .ok (.ireturn, 1) := by decide +kernel
theorem d_law_192 : decode code 192 = .ok (.aload_n 1, 1) := by decide +kernel
theorem d_law_193 : decode code 193 = .ok (.aload_n 0, 1) := by decide +kernel
theorem d_law_194 : decode code 194 = .ok (.iload_n 3, 1) := by decide +kernel
theorem d_law_195 : decode code 195 = .ok (.iconst 1, 1) := by decide +kernel
theorem d_law_196 : decode code 196 = .ok (.iadd, 1) := by decide +kernel
theorem d_law_197 : decode code 197 = .ok (.iaload, 1) := by decide +kernel
theorem d_law_198 : decode code 198 = .ok (.invokevirtual 23, 3) := by decide +kernel
theorem d_law_201 : decode code 201 = .ok (.aload_n 2, 1) := by decide +kernel
theorem d_law_202 : decode code 202 = .ok (.aload_n 0, 1) := by decide +kernel
theorem d_law_203 : decode code 203 = .ok (.iload_n 3, 1) := by decide +kernel
theorem d_law_204 : decode code 204 = .ok (.iconst 1, 1) := by decide +kernel
theorem d_law_205 : decode code 205 = .ok (.iadd, 1) := by decide +kernel
theorem d_law_206 : decode code 206 = .ok (.iaload, 1) := by decide +kernel
theorem d_law_207 : decode code 207 = .ok (.invokevirtual 27, 3) := by decide +kernel
theorem d_law_210 : decode code 210 = .ok (.if_icmp .eq 242, 3) := by decide +kernel
theorem d_law_213 : decode code 213 = .ok (.iconst 0, 1) := by decide +kernel
theorem d_law_214 : decode code 214 = .ok (.ireturn, 1) := by decide +kernel
theorem d_law_215 : decode code 215 = .ok (.aload_n 1, 1) := by decide +kernel
theorem d_law_216 : decode code 216 = .ok (.aload_n 0, 1) := by decide +kernel
theorem d_law_217 : decode code 217 = .ok (.iload_n 3, 1) := by decide +kernel
theorem d_law_218 : decode code 218 = .ok (.iconst 1, 1) := by decide +kernel
theorem d_law_219 : decode code 219 = .ok (.iadd, 1) := by decide +kernel
theorem d_law_220 : decode code 220 = .ok (.iaload, 1) := by decide +kernel
theorem d_law_221 : decode code 221 = .ok (.invokevirtual 28, 3) := by decide +kernel
theorem d_law_224 : decode code 224 = .ok (.aload_n 2, 1) := by decide +kernel
theorem d_law_225 : decode code 225 = .ok (.aload_n 0, 1) := by decide +kernel
theorem d_law_226 : decode code 226 = .ok (.iload_n 3, 1) := by decide +kernel
theorem d_law_227 : decode code 227 = .ok (.iconst 1, 1) := by decide +kernel
theorem d_law_228 : decode code 228 = .ok (.iadd, 1) := by decide +kernel
theorem d_law_229 : decode code 229 = .ok (.iaload, 1) := by decide +kernel
theorem d_law_230 : decode code 230 = .ok (.invokevirtual 31, 3) := by decide +kernel
theorem d_law_233 : decode code 233 = .ok (.if_icmp .eq 219, 3) := by decide +kernel
theorem d_law_236 : decode code 236 = .ok (.iconst 0, 1) := by decide +kernel
theorem d_law_237 : decode code 237 = .ok (.ireturn, 1) := by decide +kernel
theorem d_law_238 : decode code 238 = .ok (.aload_n 1, 1) := by decide +kernel
theorem d_law_239 : decode code 239 = .ok (.aload_n 0, 1) := by decide +kernel
theorem d_law_240 : decode code 240 = .ok (.iload_n 3, 1) := by decide +kernel
theorem d_law_241 : decode code 241 = .ok (.iconst 1, 1) := by decide +kernel
theorem d_law_242 : decode code 242 = .ok (.iadd, 1) := by decide +kernel
theorem d_law_243 : decode code 243 = .ok (.iaload, 1) := by decide +kernel
theorem d_law_244 : decode code 244 = .ok (.invokevirtual 32, 3) := by decide +kernel
theorem d_law_247 : decode code 247 = .ok (.aload_n 2, 1) := by decide +kernel
theorem d_law_248 : decode code 248 = .ok (.aload_n 0, 1) := by decide +kernel
theorem d_law_249 : decode code 249 = .ok (.iload_n 3, 1) := by decide +kernel
theorem d_law_250 : decode code 250 = .ok (.iconst 1, 1) := by decide +kernel
theorem d_law_251 : decode code 251 = .ok (.iadd, 1) := by decide +kernel
theorem d_law_252 : decode code 252 = .ok (.iaload, 1) := by decide +kernel
theorem d_law_253 : decode code 253 = .ok (.invokevirtual 35, 3) := by decide +kernel
theorem d_law_256 : decode code 256 = .ok (.if_icmp .eq 196, 3) := by decide +kernel
theorem d_law_259 : decode code 259 = .ok (.iconst 0, 1) := by decide +kernel
theorem d_law_260 : decode code 260 = .ok (.ireturn, 1) := by decide +kernel
theorem d_law_261 : decode code 261 = .ok (.aload_n 1, 1) := by decide +kernel
theorem d_law_262 : decode code 262 = .ok (.invokevirtual 36, 3) := by decide +kernel
theorem d_law_265 : decode code 265 = .ok (.aload_n 2, 1) := by decide +kernel
theorem d_law_266 : decode code 266 = .ok (.invokevirtual 40, 3) := by decide +kernel
theorem d_law_269 : decode code 269 = .ok (.if_icmp .eq 183, 3) := by decide +kernel
theorem d_law_272 : decode code 272 = .ok (.iconst 0, 1) := by decide +kernel
theorem d_law_273 : decode code 273 = .ok (.ireturn, 1) := by decide +kernel
theorem d_law_274 : decode code 274 = .ok (.aload_n 1, 1) := by decide +kernel
theorem d_law_275 : decode code 275 = .ok (.aload_n 0, 1) := by decide +kernel
theorem d_law_276 : decode code 276 = .ok (.iload_n 3, 1) := by decide +kernel
theorem d_law_277 : decode code 277 = .ok (.iconst 1, 1) := by decide +kernel
theorem d_law_278 : decode code 278 = .ok (.iadd, 1) := by decide +kernel
theorem d_law_279 : decode code 279 = .ok (.iaload, 1) := by decide +kernel
theorem d_law_280 : decode code 280 = .ok (.invokevirtual 41, 3) := by decide +kernel
theorem d_law_283 : decode code 283 = .ok (.aload_n 2, 1) := by decide +kernel
theorem d_law_284 : decode code 284 = .ok (.aload_n 0, 1) := by decide +kernel
theorem d_law_285 : decode code 285 = .ok (.iload_n 3, 1) := by decide +kernel
theorem d_law_286 : decode code 286 = .ok (.iconst 1, 1) := by decide +kernel
theorem d_law_287 : decode code 287 = .ok (.iadd, 1) := by decide +kernel
theorem d_law_288 : decode code 288 = .ok (.iaload, 1) := by decide +kernel
theorem d_law_289 : decode code 289 = .ok (.invokevirtual 44, 3) := by decide +kernel
theorem d_law_292 : decode code 292 = .ok (.if_icmp .eq 160, 3) := by decide +kernel
theorem d_law_295 : decode code 295 = .ok (.iconst 0, 1) := by decide +kernel
theorem d_law_296 : decode code 296 = .ok (.ireturn, 1) := by decide +kernel
theorem d_law_297 : decode code 297 = .ok (.aload_n 1, 1) := by decide +kernel
theorem d_law_298 : decode code 298 = .ok (.aload_n 0, 1) := by decide +kernel
theorem d_law_299 : decode code 299 = .ok (.iload_n 3, 1) := by decide +kernel
theorem d_law_300 : decode code 300 = .ok (.iconst 1, 1) := by decide +kernel
theorem d_law_301 : decode code 301 = .ok (.iadd, 1) := by decide +kernel
theorem d_law_302 : decode code 302 = .ok (.iaload, 1) := by decide +kernel
theorem d_law_303 : decode code 303 = .ok (.aload_n 0, 1) := by decide +kernel
theorem d_law_304 : decode code 304 = .ok (.iload_n 3, 1) := by decide +kernel
theorem d_law_305 : decode code 305 = .ok (.iconst 2, 1) := by decide +kernel
theorem d_law_306 : decode code 306 = .ok (.iadd, 1) := by decide +kernel
theorem d_law_307 : decode code 307 = .ok (.iaload, 1) := by decide +kernel
theorem d_law_308 : decode code 308 = .ok (.invokevirtual 45, 3) := by decide +kernel
theorem d_law_311 : decode code 311 = .ok (.aload_n 2, 1) := by decide +kernel
theorem d_law_312 : decode code 312 = .ok (.aload_n 0, 1) := by decide +kernel
theorem d_law_313 : decode code 313 = .ok (.iload_n 3, 1) := by decide +kernel
theorem d_law_314 : decode code 314 = .ok (.iconst 1, 1) := by decide +kernel
theorem d_law_315 : decode code 315 = .ok (.iadd, 1) := by decide +kernel
theorem d_law_316 : decode code 316 = .ok (.iaload, 1) := by decide +kernel
theorem d_law_317 : decode code 317 = .ok (.aload_n 0, 1) := by decide +kernel
theorem d_law_318 : decode code 318 = .ok (.iload_n 3, 1) := by decide +kernel
theorem d_law_319 : decode code 319 = .ok (.iconst 2, 1) := by decide +kernel
theorem d_law_320 : decode code 320 = .ok (.iadd, 1) := by decide +kernel
theorem d_law_321 : decode code 321 = .ok (.iaload, 1) := by decide +kernel
theorem d_law_322 : decode code 322 = .ok (.invokevirtual 48, 3) := by decide +kernel
theorem d_law_325 : decode code 325 = .ok (.if_icmp .eq 127, 3) := by decide +kernel
theorem d_law_328 : decode code 328 = .ok (.iconst 0, 1) := by decide +kernel
theorem d_law_329 : decode code 329 = .ok (.ireturn, 1) := by decide +kernel
theorem d_law_330 : decode code 330 = .ok (.aload_n 1, 1) := by decide +kernel
theorem d_law_331 : decode code 331 = .ok (.aload_n 0, 1) := by decide +kernel
theorem d_law_332 : decode code 332 = .ok (.iload_n 3, 1) := by decide +kernel
theorem d_law_333 : decode code 333 = .ok (.iconst 1, 1) := by decide +kernel
theorem d_law_334 : decode code 334 = .ok (.iadd, 1) := by decide +kernel
theorem d_law_335 : decode code 335 = .ok (.iaload, 1) := by decide +kernel
theorem d_law_336 : decode code 336 = .ok (.invokevirtual 49, 3) := by decide +kernel
theorem d_law_339 : decode code 339 = .ok (.aload_n 2, 1) := by decide +kernel
theorem d_law_340 : decode code 340 = .ok (.aload_n 0, 1) := by decide +kernel
theorem d_law_341 : decode code 341 = .ok (.iload_n 3, 1) := by decide +kernel
theorem d_law_342 : decode code 342 = .ok (.iconst 1, 1) := by decide +kernel
theorem d_law_343 : decode code 343 = .ok (.iadd, 1) := by decide +kernel
theorem d_law_344 : decode code 344 = .ok (.iaload, 1) := by decide +kernel
theorem d_law_345 : decode code 345 = .ok (.invokevirtual 52, 3) := by decide +kernel
theorem d_law_348 : decode code 348 = .ok (.if_icmp .eq 104, 3) := by decide +kernel
theorem d_law_351 : decode code 351 = .ok (.iconst 0, 1) := by decide +kernel
theorem d_law_352 : decode code 352 = .ok (.ireturn, 1) := by decide +kernel
theorem d_law_353 : decode code 353 = .ok (.aload_n 1, 1) := by decide +kernel
theorem d_law_354 : decode code 354 = .ok (.aload_n 0, 1) := by decide +kernel
theorem d_law_355 : decode code 355 = .ok (.iload_n 3, 1) := by decide +kernel
theorem d_law_356 : decode code 356 = .ok (.iconst 1, 1) := by decide +kernel
theorem d_law_357 : decode code 357 = .ok (.iadd, 1) := by decide +kernel
theorem d_law_358 : decode code 358 = .ok (.iaload, 1) := by decide +kernel
theorem d_law_359 : decode code 359 = .ok (.aload_n 0, 1) := by decide +kernel
theorem d_law_360 : decode code 360 = .ok (.iload_n 3, 1) := by decide +kernel
theorem d_law_361 : decode code 361 = .ok (.iconst 2, 1) := by decide +kernel
theorem d_law_362 : decode code 362 = .ok (.iadd, 1) := by decide +kernel
theorem d_law_363 : decode code 363 = .ok (.iaload, 1) := by decide +kernel
theorem d_law_364 : decode code 364 = .ok (.aload_n 0, 1) := by decide +kernel
theorem d_law_365 : decode code 365 = .ok (.iload_n 3, 1) := by decide +kernel
theorem d_law_366 : decode code 366 = .ok (.iconst 3, 1) := by decide +kernel
theorem d_law_367 : decode code 367 = .ok (.iadd, 1) := by decide +kernel
theorem d_law_368 : decode code 368 = .ok (.iaload, 1) := by decide +kernel
theorem d_law_369 : decode code 369 = .ok (.invokevirtual 53, 3) := by decide +kernel
theorem d_law_372 : decode code 372 = .ok (.aload_n 2, 1) := by decide +kernel
theorem d_law_373 : decode code 373 = .ok (.aload_n 0, 1) := by decide +kernel
theorem d_law_374 : decode code 374 = .ok (.iload_n 3, 1) := by decide +kernel
theorem d_law_375 : decode code 375 = .ok (.iconst 1, 1) := by decide +kernel
theorem d_law_376 : decode code 376 = .ok (.iadd, 1) := by decide +kernel
theorem d_law_377 : decode code 377 = .ok (.iaload, 1) := by decide +kernel
theorem d_law_378 : decode code 378 = .ok (.aload_n 0, 1) := by decide +kernel
theorem d_law_379 : decode code 379 = .ok (.iload_n 3, 1) := by decide +kernel
theorem d_law_380 : decode code 380 = .ok (.iconst 2, 1) := by decide +kernel
theorem d_law_381 : decode code 381 = .ok (.iadd, 1) := by decide +kernel
theorem d_law_382 : decode code 382 = .ok (.iaload, 1) := by decide +kernel
theorem d_law_383 : decode code 383 = .ok (.aload_n 0, 1) := by decide +kernel
theorem d_law_384 : decode code 384 = .ok (.iload_n 3, 1) := by decide +kernel
theorem d_law_385 : decode code 385 = .ok (.iconst 3, 1) := by decide +kernel
theorem d_law_386 : decode code 386 = .ok (.iadd, 1) := by decide +kernel
theorem d_law_387 : decode code 387 = .ok (.iaload, 1) := by decide +kernel
theorem d_law_388 : decode code 388 = .ok (.invokevirtual 57, 3) := by decide +kernel
theorem d_law_391 : decode code 391 = .ok (.if_icmp .eq 61, 3) := by decide +kernel
theorem d_law_394 : decode code 394 = .ok (.iconst 0, 1) := by decide +kernel
theorem d_law_395 : decode code 395 = .ok (.ireturn, 1) := by decide +kernel
theorem d_law_396 : decode code 396 = .ok (.aload_n 1, 1) := by decide +kernel
theorem d_law_397 : decode code 397 = .ok (.aload_n 0, 1) := by decide +kernel
theorem d_law_398 : decode code 398 = .ok (.iload_n 3, 1) := by decide +kernel
theorem d_law_399 : decode code 399 = .ok (.iconst 1, 1) := by decide +kernel
theorem d_law_400 : decode code 400 = .ok (.iadd, 1) := by decide +kernel
theorem d_law_401 : decode code 401 = .ok (.iaload, 1) := by decide +kernel
theorem d_law_402 : decode code 402 = .ok (.aload_n 0, 1) := by decide +kernel
theorem d_law_403 : decode code 403 = .ok (.iload_n 3, 1) := by decide +kernel
theorem d_law_404 : decode code 404 = .ok (.iconst 2, 1) := by decide +kernel
theorem d_law_405 : decode code 405 = .ok (.iadd, 1) := by decide +kernel
theorem d_law_406 : decode code 406 = .ok (.iaload, 1) := by decide +kernel
theorem d_law_407 : decode code 407 = .ok (.invokevirtual 58, 3) := by decide +kernel
theorem d_law_410 : decode code 410 = .ok (.aload_n 2, 1) := by decide +kernel
theorem d_law_411 : decode code 411 = .ok (.aload_n 0, 1) := by decide +kernel
theorem d_law_412 : decode code 412 = .ok (.iload_n 3, 1) := by decide +kernel
theorem d_law_413 : decode code 413 = .ok (.iconst 1, 1) := by decide +kernel
theorem d_law_414 : decode code 414 = .ok (.iadd, 1) := by decide +kernel
theorem d_law_415 : decode code 415 = .ok (.iaload, 1) := by decide +kernel
theorem d_law_416 : decode code 416 = .ok (.aload_n 0, 1) := by decide +kernel
theorem d_law_417 : decode code 417 = .ok (.iload_n 3, 1) := by decide +kernel
theorem d_law_418 : decode code 418 = .ok (.iconst 2, 1) := by decide +kernel
theorem d_law_419 : decode code 419 = .ok (.iadd, 1) := by decide +kernel
theorem d_law_420 : decode code 420 = .ok (.iaload, 1) := by decide +kernel
theorem d_law_421 : decode code 421 = .ok (.invokevirtual 61, 3) := by decide +kernel
theorem d_law_424 : decode code 424 = .ok (.if_icmp .eq 28, 3) := by decide +kernel
theorem d_law_427 : decode code 427 = .ok (.iconst 0, 1) := by decide +kernel
theorem d_law_428 : decode code 428 = .ok (.ireturn, 1) := by decide +kernel
theorem d_law_429 : decode code 429 = .ok (.aload_n 1, 1) := by decide +kernel
theorem d_law_430 : decode code 430 = .ok (.aload_n 0, 1) := by decide +kernel
theorem d_law_431 : decode code 431 = .ok (.iload_n 3, 1) := by decide +kernel
theorem d_law_432 : decode code 432 = .ok (.iconst 1, 1) := by decide +kernel
theorem d_law_433 : decode code 433 = .ok (.iadd, 1) := by decide +kernel
theorem d_law_434 : decode code 434 = .ok (.iaload, 1) := by decide +kernel
theorem d_law_435 : decode code 435 = .ok (.invokevirtual 62, 3) := by decide +kernel
theorem d_law_438 : decode code 438 = .ok (.aload_n 2, 1) := by decide +kernel
theorem d_law_439 : decode code 439 = .ok (.aload_n 0, 1) := by decide +kernel
theorem d_law_440 : decode code 440 = .ok (.iload_n 3, 1) := by decide +kernel
theorem d_law_441 : decode code 441 = .ok (.iconst 1, 1) := by decide +kernel
theorem d_law_442 : decode code 442 = .ok (.iadd, 1) := by decide +kernel
theorem d_law_443 : decode code 443 = .ok (.iaload, 1) := by decide +kernel
theorem d_law_444 : decode code 444 = .ok (.invokevirtual 65, 3) := by decide +kernel
theorem d_law_447 : decode code 447 = .ok (.if_icmp .eq 5, 3) := by decide +kernel
theorem d_law_450 : decode code 450 = .ok (.iconst 0, 1) := by decide +kernel
theorem d_law_451 : decode code 451 = .ok (.ireturn, 1) := by decide +kernel
theorem d_law_452 : decode code 452 = .ok (.iinc 3 6, 3) := by decide +kernel
theorem d_law_455 : decode code 455 = .ok (.goto (-437), 3) := by decide +kernel
theorem d_law_458 : decode code 458 = .ok (.iconst 1, 1) := by decide +kernel
theorem d_law_459 : decode code 459 = .ok (.ireturn, 1) := by decide +kernel
theorem cv_Law_9 : cvB "EpochServerLaw" 9 y_Server_init c_Server_init 1 none 0 := ⟨gw_of (tw_1 (List.mem_of_getElem? (i := 23) rfl)) rfl, gw_of (tw_1 (List.mem_of_getElem? (i := 1) rfl)) rfl, gw_of (tw_1 (List.mem_of_getElem? (i := 25) rfl)) rfl, by decide, by decide, by decide +kernel⟩
theorem cv_Law_12 : cvB "EpochServerLaw" 12 y_Model_init c_Model_init 1 none 0 := ⟨gw_of (tw_4 (List.mem_of_getElem? (i := 190) rfl)) rfl, gw_of (tw_1 (List.mem_of_getElem? (i := 14) rfl)) rfl, gw_of (tw_4 (List.mem_of_getElem? (i := 192) rfl)) rfl, by decide, by decide, by decide +kernel⟩
theorem cv_Law_13 : cvB "EpochServerLaw" 13 y_Server_feed c_Server_feed 6 (some (.int)) 5 := ⟨gw_of (tw_2 (List.mem_of_getElem? (i := 145) rfl)) rfl, gw_of (tw_1 (List.mem_of_getElem? (i := 1) rfl)) rfl, gw_of (tw_2 (List.mem_of_getElem? (i := 148) rfl)) rfl, by decide, by decide, by decide +kernel⟩
theorem cv_Law_17 : cvB "EpochServerLaw" 17 y_Model_feed c_Model_feed 6 (some (.int)) 5 := ⟨gw_of (tw_5 (List.mem_of_getElem? (i := 152) rfl)) rfl, gw_of (tw_1 (List.mem_of_getElem? (i := 14) rfl)) rfl, gw_of (tw_5 (List.mem_of_getElem? (i := 155) rfl)) rfl, by decide, by decide, by decide +kernel⟩
theorem cv_Law_18 : cvB "EpochServerLaw" 18 y_Server_bend c_Server_bend 4 (some (.int)) 2 := ⟨gw_of (tw_2 (List.mem_of_getElem? (i := 165) rfl)) rfl, gw_of (tw_1 (List.mem_of_getElem? (i := 1) rfl)) rfl, gw_of (tw_2 (List.mem_of_getElem? (i := 168) rfl)) rfl, by decide, by decide, by decide +kernel⟩
theorem cv_Law_22 : cvB "EpochServerLaw" 22 y_Model_bend c_Model_bend 4 (some (.int)) 2 := ⟨gw_of (tw_5 (List.mem_of_getElem? (i := 160) rfl)) rfl, gw_of (tw_1 (List.mem_of_getElem? (i := 14) rfl)) rfl, gw_of (tw_5 (List.mem_of_getElem? (i := 163) rfl)) rfl, by decide, by decide, by decide +kernel⟩
theorem cv_Law_23 : cvB "EpochServerLaw" 23 y_Server_message c_Server_message 4 (some (.int)) 1 := ⟨gw_of (tw_2 (List.mem_of_getElem? (i := 177) rfl)) rfl, gw_of (tw_1 (List.mem_of_getElem? (i := 1) rfl)) rfl, gw_of (tw_2 (List.mem_of_getElem? (i := 180) rfl)) rfl, by decide, by decide, by decide +kernel⟩
theorem cv_Law_27 : cvB "EpochServerLaw" 27 y_Model_message c_Model_message 7 (some (.int)) 1 := ⟨gw_of (tw_5 (List.mem_of_getElem? (i := 167) rfl)) rfl, gw_of (tw_1 (List.mem_of_getElem? (i := 14) rfl)) rfl, gw_of (tw_5 (List.mem_of_getElem? (i := 170) rfl)) rfl, by decide, by decide, by decide +kernel⟩
theorem cv_Law_28 : cvB "EpochServerLaw" 28 y_Server_answer c_Server_answer 2 (some (.int)) 1 := ⟨gw_of (tw_4 (List.mem_of_getElem? (i := 37) rfl)) rfl, gw_of (tw_1 (List.mem_of_getElem? (i := 1) rfl)) rfl, gw_of (tw_4 (List.mem_of_getElem? (i := 40) rfl)) rfl, by decide, by decide, by decide +kernel⟩
theorem cv_Law_31 : cvB "EpochServerLaw" 31 y_Model_answer c_Model_answer 2 (some (.int)) 1 := ⟨gw_of (tw_6 (List.mem_of_getElem? (i := 134) rfl)) rfl, gw_of (tw_1 (List.mem_of_getElem? (i := 14) rfl)) rfl, gw_of (tw_6 (List.mem_of_getElem? (i := 137) rfl)) rfl, by decide, by decide, by decide +kernel⟩
theorem cv_Law_32 : cvB "EpochServerLaw" 32 y_Server_word c_Server_word 4 (some (.int)) 1 := ⟨gw_of (tw_4 (List.mem_of_getElem? (i := 41) rfl)) rfl, gw_of (tw_1 (List.mem_of_getElem? (i := 1) rfl)) rfl, gw_of (tw_4 (List.mem_of_getElem? (i := 44) rfl)) rfl, by decide, by decide, by decide +kernel⟩
theorem cv_Law_35 : cvB "EpochServerLaw" 35 y_Model_word c_Model_word 4 (some (.int)) 1 := ⟨gw_of (tw_6 (List.mem_of_getElem? (i := 138) rfl)) rfl, gw_of (tw_1 (List.mem_of_getElem? (i := 14) rfl)) rfl, gw_of (tw_6 (List.mem_of_getElem? (i := 141) rfl)) rfl, by decide, by decide, by decide +kernel⟩
theorem cv_Law_36 : cvB "EpochServerLaw" 36 y_Server_snap c_Server_snap 1 (some (.int)) 0 := ⟨gw_of (tw_4 (List.mem_of_getElem? (i := 45) rfl)) rfl, gw_of (tw_1 (List.mem_of_getElem? (i := 1) rfl)) rfl, gw_of (tw_4 (List.mem_of_getElem? (i := 48) rfl)) rfl, by decide, by decide, by decide +kernel⟩
theorem cv_Law_40 : cvB "EpochServerLaw" 40 y_Model_snap c_Model_snap 1 (some (.int)) 0 := ⟨gw_of (tw_6 (List.mem_of_getElem? (i := 142) rfl)) rfl, gw_of (tw_1 (List.mem_of_getElem? (i := 14) rfl)) rfl, gw_of (tw_6 (List.mem_of_getElem? (i := 145) rfl)) rfl, by decide, by decide, by decide +kernel⟩
theorem cv_Law_41 : cvB "EpochServerLaw" 41 y_Server_archive c_Server_archive 3 (some (.int)) 1 := ⟨gw_of (tw_4 (List.mem_of_getElem? (i := 55) rfl)) rfl, gw_of (tw_1 (List.mem_of_getElem? (i := 1) rfl)) rfl, gw_of (tw_4 (List.mem_of_getElem? (i := 58) rfl)) rfl, by decide, by decide, by decide +kernel⟩
theorem cv_Law_44 : cvB "EpochServerLaw" 44 y_Model_archive c_Model_archive 4 (some (.int)) 1 := ⟨gw_of (tw_6 (List.mem_of_getElem? (i := 162) rfl)) rfl, gw_of (tw_1 (List.mem_of_getElem? (i := 14) rfl)) rfl, gw_of (tw_6 (List.mem_of_getElem? (i := 165) rfl)) rfl, by decide, by decide, by decide +kernel⟩
theorem cv_Law_45 : cvB "EpochServerLaw" 45 y_Server_score c_Server_score 4 (some (.int)) 2 := ⟨gw_of (tw_4 (List.mem_of_getElem? (i := 131) rfl)) rfl, gw_of (tw_1 (List.mem_of_getElem? (i := 1) rfl)) rfl, gw_of (tw_4 (List.mem_of_getElem? (i := 134) rfl)) rfl, by decide, by decide, by decide +kernel⟩
theorem cv_Law_48 : cvB "EpochServerLaw" 48 y_Model_score c_Model_score 3 (some (.int)) 2 := ⟨gw_of (tw_6 (List.mem_of_getElem? (i := 203) rfl)) rfl, gw_of (tw_1 (List.mem_of_getElem? (i := 14) rfl)) rfl, gw_of (tw_6 (List.mem_of_getElem? (i := 206) rfl)) rfl, by decide, by decide, by decide +kernel⟩
theorem cv_Law_49 : cvB "EpochServerLaw" 49 y_Server_crash c_Server_crash 3 (some (.int)) 1 := ⟨gw_of (tw_4 (List.mem_of_getElem? (i := 155) rfl)) rfl, gw_of (tw_1 (List.mem_of_getElem? (i := 1) rfl)) rfl, gw_of (tw_4 (List.mem_of_getElem? (i := 158) rfl)) rfl, by decide, by decide, by decide +kernel⟩
theorem cv_Law_52 : cvB "EpochServerLaw" 52 y_Model_crash c_Model_crash 2 (some (.int)) 1 := ⟨gw_of (tw_6 (List.mem_of_getElem? (i := 146) rfl)) rfl, gw_of (tw_1 (List.mem_of_getElem? (i := 14) rfl)) rfl, gw_of (tw_6 (List.mem_of_getElem? (i := 149) rfl)) rfl, by decide, by decide, by decide +kernel⟩
theorem cv_Law_53 : cvB "EpochServerLaw" 53 y_Server_file c_Server_file 6 (some (.int)) 3 := ⟨gw_of (tw_4 (List.mem_of_getElem? (i := 168) rfl)) rfl, gw_of (tw_1 (List.mem_of_getElem? (i := 1) rfl)) rfl, gw_of (tw_4 (List.mem_of_getElem? (i := 171) rfl)) rfl, by decide, by decide, by decide +kernel⟩
theorem cv_Law_57 : cvB "EpochServerLaw" 57 y_Model_file c_Model_file 5 (some (.int)) 3 := ⟨gw_of (tw_6 (List.mem_of_getElem? (i := 150) rfl)) rfl, gw_of (tw_1 (List.mem_of_getElem? (i := 14) rfl)) rfl, gw_of (tw_6 (List.mem_of_getElem? (i := 153) rfl)) rfl, by decide, by decide, by decide +kernel⟩
theorem cv_Law_58 : cvB "EpochServerLaw" 58 y_Server_fid c_Server_fid 4 (some (.int)) 2 := ⟨gw_of (tw_4 (List.mem_of_getElem? (i := 172) rfl)) rfl, gw_of (tw_1 (List.mem_of_getElem? (i := 1) rfl)) rfl, gw_of (tw_4 (List.mem_of_getElem? (i := 175) rfl)) rfl, by decide, by decide, by decide +kernel⟩
theorem cv_Law_61 : cvB "EpochServerLaw" 61 y_Model_fid c_Model_fid 4 (some (.int)) 2 := ⟨gw_of (tw_6 (List.mem_of_getElem? (i := 154) rfl)) rfl, gw_of (tw_1 (List.mem_of_getElem? (i := 14) rfl)) rfl, gw_of (tw_6 (List.mem_of_getElem? (i := 157) rfl)) rfl, by decide, by decide, by decide +kernel⟩
theorem cv_Law_62 : cvB "EpochServerLaw" 62 y_Server_count c_Server_count 2 (some (.int)) 1 := ⟨gw_of (tw_4 (List.mem_of_getElem? (i := 176) rfl)) rfl, gw_of (tw_1 (List.mem_of_getElem? (i := 1) rfl)) rfl, gw_of (tw_4 (List.mem_of_getElem? (i := 179) rfl)) rfl, by decide, by decide, by decide +kernel⟩
theorem cv_Law_65 : cvB "EpochServerLaw" 65 y_Model_count c_Model_count 4 (some (.int)) 1 := ⟨gw_of (tw_6 (List.mem_of_getElem? (i := 158) rfl)) rfl, gw_of (tw_1 (List.mem_of_getElem? (i := 14) rfl)) rfl, gw_of (tw_6 (List.mem_of_getElem? (i := 161) rfl)) rfl, by decide, by decide, by decide +kernel⟩
