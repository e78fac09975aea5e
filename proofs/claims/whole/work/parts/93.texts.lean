/-! constant texts: ldc_w, String.charAt -/
abbrev c_String_isLatin1_aae02 : ByteArray := prog_17_method_154_code
def y_String_isLatin1_aae02 : MethodName := ⟨"java/lang/String", "isLatin1", "()Z"⟩
theorem d_String_isLatin1_aae02_0 : decode c_String_isLatin1_aae02 0 = .ok (.getstatic 38, 3) := by decide +kernel
theorem d_String_isLatin1_aae02_3 : decode c_String_isLatin1_aae02 3 = .ok (.ifCond .eq 14, 3) := by decide +kernel
theorem d_String_isLatin1_aae02_6 : decode c_String_isLatin1_aae02 6 = .ok (.aload_n 0, 1) := by decide +kernel
theorem d_String_isLatin1_aae02_7 : decode c_String_isLatin1_aae02 7 = .ok (.getfield 15, 3) := by decide +kernel
theorem d_String_isLatin1_aae02_10 : decode c_String_isLatin1_aae02 10 = .ok (.ifCond .ne 7, 3) := by decide +kernel
theorem d_String_isLatin1_aae02_13 : decode c_String_isLatin1_aae02 13 = .ok (.iconst 1, 1) := by decide +kernel
theorem d_String_isLatin1_aae02_14 : decode c_String_isLatin1_aae02 14 = .ok (.goto 4, 3) := by decide +kernel
theorem d_String_isLatin1_aae02_17 : decode c_String_isLatin1_aae02 17 = .ok (.iconst 0, 1) := by decide +kernel
theorem d_String_isLatin1_aae02_18 : decode c_String_isLatin1_aae02 18 = .ok (.ireturn, 1) := by decide +kernel
abbrev c_String_checkIndex_df160 : ByteArray := prog_17_method_155_code
def y_String_checkIndex_df160 : MethodName := ⟨"java/lang/String", "checkIndex", "(II)V"⟩
theorem d_String_checkIndex_df160_0 : decode c_String_checkIndex_df160 0 = .ok (.iload_n 0, 1) := by decide +kernel
theorem d_String_checkIndex_df160_1 : decode c_String_checkIndex_df160 1 = .ok (.iload_n 1, 1) := by decide +kernel
theorem d_String_checkIndex_df160_2 : decode c_String_checkIndex_df160 2 = .ok (.getstatic 1053, 3) := by decide +kernel
theorem d_String_checkIndex_df160_5 : decode c_String_checkIndex_df160 5 = .ok (.invokestatic 1059, 3) := by decide +kernel
theorem d_String_checkIndex_df160_8 : decode c_String_checkIndex_df160 8 = .ok (.pop, 1) := by decide +kernel
theorem d_String_checkIndex_df160_9 : decode c_String_checkIndex_df160 9 = .ok (.return_, 1) := by decide +kernel
abbrev c_Latin1_charAt_3b067 : ByteArray := prog_18_method_2_code
def y_Latin1_charAt_3b067 : MethodName := ⟨"java/lang/StringLatin1", "charAt", "([BI)C"⟩
theorem d_Latin1_charAt_3b067_0 : decode c_Latin1_charAt_3b067 0 = .ok (.iload_n 1, 1) := by decide +kernel
theorem d_Latin1_charAt_3b067_1 : decode c_Latin1_charAt_3b067 1 = .ok (.aload_n 0, 1) := by decide +kernel
theorem d_Latin1_charAt_3b067_2 : decode c_Latin1_charAt_3b067 2 = .ok (.arraylength, 1) := by decide +kernel
theorem d_Latin1_charAt_3b067_3 : decode c_Latin1_charAt_3b067 3 = .ok (.invokestatic 9, 3) := by decide +kernel
theorem d_Latin1_charAt_3b067_6 : decode c_Latin1_charAt_3b067 6 = .ok (.aload_n 0, 1) := by decide +kernel
theorem d_Latin1_charAt_3b067_7 : decode c_Latin1_charAt_3b067 7 = .ok (.iload_n 1, 1) := by decide +kernel
theorem d_Latin1_charAt_3b067_8 : decode c_Latin1_charAt_3b067 8 = .ok (.baload, 1) := by decide +kernel
theorem d_Latin1_charAt_3b067_9 : decode c_Latin1_charAt_3b067 9 = .ok (.sipush 255, 3) := by decide +kernel
theorem d_Latin1_charAt_3b067_12 : decode c_Latin1_charAt_3b067 12 = .ok (.iand, 1) := by decide +kernel
theorem d_Latin1_charAt_3b067_13 : decode c_Latin1_charAt_3b067 13 = .ok (.i2c, 1) := by decide +kernel
theorem d_Latin1_charAt_3b067_14 : decode c_Latin1_charAt_3b067 14 = .ok (.ireturn, 1) := by decide +kernel
abbrev c_Precond_checkIndex_8e157 : ByteArray := prog_22_method_11_code
def y_Precond_checkIndex_8e157 : MethodName := ⟨"jdk/internal/util/Preconditions", "checkIndex", "(IILjava/util/function/BiFunction;)I"⟩
theorem d_Precond_checkIndex_8e157_0 : decode c_Precond_checkIndex_8e157 0 = .ok (.iload_n 0, 1) := by decide +kernel
theorem d_Precond_checkIndex_8e157_1 : decode c_Precond_checkIndex_8e157 1 = .ok (.ifCond .lt 8, 3) := by decide +kernel
theorem d_Precond_checkIndex_8e157_4 : decode c_Precond_checkIndex_8e157 4 = .ok (.iload_n 0, 1) := by decide +kernel
theorem d_Precond_checkIndex_8e157_5 : decode c_Precond_checkIndex_8e157 5 = .ok (.iload_n 1, 1) := by decide +kernel
theorem d_Precond_checkIndex_8e157_6 : decode c_Precond_checkIndex_8e157 6 = .ok (.if_icmp .lt 10, 3) := by decide +kernel
theorem d_Precond_checkIndex_8e157_9 : decode c_Precond_checkIndex_8e157 9 = .ok (.aload_n 2, 1) := by decide +kernel
theorem d_Precond_checkIndex_8e157_10 : decode c_Precond_checkIndex_8e157 10 = .ok (.iload_n 0, 1) := by decide +kernel
theorem d_Precond_checkIndex_8e157_11 : decode c_Precond_checkIndex_8e157 11 = .ok (.iload_n 1, 1) := by decide +kernel
theorem d_Precond_checkIndex_8e157_12 : decode c_Precond_checkIndex_8e157 12 = .ok (.invokestatic 95, 3) := by decide +kernel
theorem d_Precond_checkIndex_8e157_15 : decode c_Precond_checkIndex_8e157 15 = .ok (.athrow, 1) := by decide +kernel
theorem d_Precond_checkIndex_8e157_16 : decode c_Precond_checkIndex_8e157 16 = .ok (.iload_n 0, 1) := by decide +kernel
theorem d_Precond_checkIndex_8e157_17 : decode c_Precond_checkIndex_8e157 17 = .ok (.ireturn, 1) := by decide +kernel
theorem cv_String_492 : cvB "java/lang/String" 492 y_String_isLatin1_aae02 c_String_isLatin1_aae02 1 (some (.boolean)) 0 := ⟨gw_of (tw_5 (List.mem_of_getElem? (i := 217) rfl)) rfl, gw_of (tw_1 (List.mem_of_getElem? (i := 17) rfl)) rfl, gw_of (tw_5 (List.mem_of_getElem? (i := 220) rfl)) rfl, by decide, by decide, by decide +kernel⟩
theorem cv_String_495 : cvB "java/lang/String" 495 y_Latin1_charAt_3b067 c_Latin1_charAt_3b067 2 (some (.char)) 2 := ⟨gw_of (tw_5 (List.mem_of_getElem? (i := 223) rfl)) rfl, gw_of (tw_1 (List.mem_of_getElem? (i := 18) rfl)) rfl, gw_of (tw_5 (List.mem_of_getElem? (i := 225) rfl)) rfl, by decide, by decide, by decide +kernel⟩
theorem cv_Latin1_9 : cvB "java/lang/StringLatin1" 9 y_String_checkIndex_df160 c_String_checkIndex_df160 2 none 2 := ⟨gw_of (tw_5 (List.mem_of_getElem? (i := 226) rfl)) rfl, gw_of (tw_1 (List.mem_of_getElem? (i := 17) rfl)) rfl, gw_of (tw_5 (List.mem_of_getElem? (i := 228) rfl)) rfl, by decide, by decide, by decide +kernel⟩
theorem cv_String_1059 : cvB "java/lang/String" 1059 y_Precond_checkIndex_8e157 c_Precond_checkIndex_8e157 3 (some (.int)) 3 := ⟨gw_of (tw_5 (List.mem_of_getElem? (i := 231) rfl)) rfl, gw_of (tw_1 (List.mem_of_getElem? (i := 19) rfl)) rfl, gw_of (tw_5 (List.mem_of_getElem? (i := 233) rfl)) rfl, by decide, by decide, by decide +kernel⟩
section VT
variable {E : mm_E} {own : String} {cc : ByteArray} {nL cs sl pc : Nat} {ret : Option FieldType} {rm : Room} {h : mm_M} {lv lv' : List (Nat × Value)} {rest : List Value}
theorem V_ldcT {index j : Nat} {r : String × Nat × String} (hc : cx E own cc nL ret rm) (hj : sgl[j]? = some r) (hr : r.1 = own) (hi : r.2.1 = index) (hd : decode cc pc = .ok (.ldc_w index, 3))
    (k : V E nL cs sl h (pc + 3) lv (va_rf (some (mm_ge (eG E) (j + 101))) :: rest)) : V E nL cs sl h pc lv rest := by
  obtain ⟨G, p, e, R, s, m, args, below, meth, c, Q⟩ := E
  obtain ⟨hx, hb, hml, hret, hlk, hown, hts, hK, hbs, hX, hG, hRm⟩ := hc
  subst hr
  subst hi
  intro H locs ls hR hS hlv
  have hZ := ((hG.2 s hX).2.2.1 j r hj).1
  intro T hT X
  obtain ⟨t, a1, b1⟩ := k H locs ls hR hS hlv T hT X
  exact ⟨t, X.ldcStringW hx (own := r.1) (text := r.2.2) (index := r.2.1) (a := mm_gA G (j + 200)) hown hZ.1 hZ.2 (g := F0 m pc ls rest) rfl (by rw [hb]; exact hd) t a1, b1⟩
theorem V_i2c (hc : cx E own cc nL ret rm) {x : Int32} (hd : decode cc pc = .ok (.i2c, 1))
    (k : V E nL cs sl h (pc + 1) lv (.int (x.toUInt32 % 65536).toInt32 :: rest)) : V E nL cs sl h pc lv (.int x :: rest) := by
  obtain ⟨G, p, e, R, s, m, args, below, meth, c, Q⟩ := E
  obtain ⟨hx, hb, hml, hret, hlk, hown, hts, hK, hbs, hX, hG, hRm⟩ := hc
  intro H locs ls hR hS hlv
  exact lv_i2c hx hb hd rfl (k H locs ls hR hS hlv)
theorem V_txtV {j : Nat} {r : String × Nat × String} (hc : cx E "java/lang/String" cc nL ret rm) (hj : sgl[j]? = some r) (hd : decode cc pc = .ok (.getfield 9, 3))
    (k : V E nL cs sl h (pc + 3) lv (va_rf (some (mm_ge (eG E) (j + 201))) :: rest)) : V E nL cs sl h pc lv (va_rf (some (mm_ge (eG E) (j + 101))) :: rest) := by
  obtain ⟨G, p, e, R, s, m, args, below, meth, c, Q⟩ := E
  obtain ⟨hx, hb, hml, hret, hlk, hown, hts, hK, hbs, hX, hG, hRm⟩ := hc
  intro H locs ls hR hS hlv
  exact vk_getf hx hb ((hG.2 s hX).2.2.1 j r hj).2.2.2 hS hown (hts _ (gw_of (tw_6 (List.mem_of_getElem? (i := 208) rfl)) rfl)) (fun _ h9 => h9) hd (k H locs ls hR hS hlv)
theorem V_txtC {j : Nat} {r : String × Nat × String} (hc : cx E "java/lang/String" cc nL ret rm) (hj : sgl[j]? = some r) (hd : decode cc pc = .ok (.getfield 15, 3))
    (k : V E nL cs sl h (pc + 3) lv (.int 0 :: rest)) : V E nL cs sl h pc lv (va_rf (some (mm_ge (eG E) (j + 101))) :: rest) := by
  obtain ⟨G, p, e, R, s, m, args, below, meth, c, Q⟩ := E
  obtain ⟨hx, hb, hml, hret, hlk, hown, hts, hK, hbs, hX, hG, hRm⟩ := hc
  intro H locs ls hR hS hlv
  exact vk_getf hx hb ((hG.2 s hX).2.2.1 j r hj).2.2.1 hS hown (hts _ (gw_of (tw_6 (List.mem_of_getElem? (i := 207) rfl)) rfl)) (fun _ h9 => h9) hd (k H locs ls hR hS hlv)
theorem V_getsC (hc : cx E "java/lang/String" cc nL ret rm) (hd : decode cc pc = .ok (.getstatic 38, 3))
    (k : V E nL cs sl h (pc + 3) lv (.int 1 :: rest)) : V E nL cs sl h pc lv rest := by
  obtain ⟨G, p, e, R, s, m, args, below, meth, c, Q⟩ := E
  obtain ⟨hx, hb, hml, hret, hlk, hown, hts, hK, hbs, hX, hG, hRm⟩ := hc
  intro H locs ls hR hS hlv
  exact va_gets hx hb (hG.2 s hX).2.2.2.1 hS hown (hts _ (gw_of (tw_5 (List.mem_of_getElem? (i := 221) rfl)) rfl)) (fun _ h9 => h9) hd (k H locs ls hR hS hlv)
theorem V_getsF (hc : cx E "java/lang/String" cc nL ret rm) (hd : decode cc pc = .ok (.getstatic 1053, 3))
    (k : ∀ x : Option Nat, V E nL cs sl h (pc + 3) lv (va_rf x :: rest)) : V E nL cs sl h pc lv rest := by
  obtain ⟨G, p, e, R, s, m, args, below, meth, c, Q⟩ := E
  obtain ⟨hx, hb, hml, hret, hlk, hown, hts, hK, hbs, hX, hG, hRm⟩ := hc
  intro H locs ls hR hS hlv
  rcases (hG.2 s hX).2.2.2.2.1 with z | ⟨t, z⟩
  · exact va_gets hx hb z hS hown (hts _ (gw_of (tw_5 (List.mem_of_getElem? (i := 229) rfl)) rfl)) (fun _ h9 => h9) hd (k none H locs ls hR hS hlv)
  · exact va_gets hx hb z hS hown (hts _ (gw_of (tw_5 (List.mem_of_getElem? (i := 229) rfl)) rfl)) (fun _ h9 => h9) hd (k (some t) H locs ls hR hS hlv)
/-- a call of a method of a constant text -/
theorem V_callT {index n maxL j : Nat} {r : String × Nat × String} {y : MethodName} {bytes : ByteArray} {ret' : Option FieldType} {rm' : Room} {As : List Value} {st0 : List Value} {post : Option Value → mm_M → Prop} (hc : cx E own cc nL ret rm) (hj : sgl[j]? = some r) (hy : y.cls = "java/lang/String") (hM : mm_Met (eG E) y bytes maxL ret' rm' (va_rf (some (mm_ge (eG E) (j + 101))) :: As) h post) (hv : cvB own index y bytes maxL ret' n) (hi : Cond.instanceMethod y ∈ gw) (hs : Cond.selects y.cls y y ∈ gw)
    (hn : As.length = n) (hrm : rmOk rm rm' maxL) (hcs : cs + rm'.cells ≤ rm.cells) (hsl : sl + rm'.slots ≤ rm.slots) (hst : st0 = As.reverse ++ va_rf (some (mm_ge (eG E) (j + 101))) :: rest) (h8 : (rest.map fun v => v.category).sum ≤ 8) (hd : decode cc pc = .ok (.invokevirtual index, 3))
    (k : ∀ r h', post r h' → V E nL (cs + rm'.cells) (sl + rm'.slots) h' (pc + 3) lv (r.toList ++ rest)) : V E nL cs sl h pc lv st0 := by
  subst hst
  obtain ⟨G, p, e, R, s, m, args, below, meth, c, Q⟩ := E
  have hc0 := hc
  obtain ⟨hx, hb, hml, hret, hlk, hown, hts, hK, hbs, hX, hG, hRm⟩ := hc
  subst hRm
  intro H locs ls hR hS hlv
  obtain ⟨v1, v2, v3, v4, v5, v6⟩ := hv
  have hcell : ∃ cellB : Cell, H[mm_gA G (j + 200)]? = some cellB ∧ cellB.vm.isStatics = false ∧ s.vm.findClass y.cls = some cellB.cls := by
    obtain ⟨cell, q1, q2, q3, q4⟩ := ((hG.2 s hX).2.2.1 j r hj).2.1
    exact ⟨cell, by rw [hS.2.1 _ (Array.getElem?_eq_some_iff.mp q1).1 q4]; exact q1, q2, by rw [hy]; exact q3⟩
  exact V_back hlv hS (va_runV (As := As) (rest := rest) (C := y.cls) ⟨hx, hb, hml, hown, hts⟩ hM ⟨callB_of n hts (cv_ws v3) rfl rfl rfl (hts _ v2) (hts _ v1) ⟨v4, v5, v6⟩ hrm, hts _ hi, hts _ hs⟩ ⟨mm_blind _ _ _, hcell, cx_pre hc0 hR hS _⟩ rfl hn hlv.1 rfl (lv_room h8) hd ⟨hcs, hsl⟩) k
end VT
abbrev rm_Precond : Room := { frames := 0, cells := 0, slots := 0, locals := 0 }
theorem sat_Precond (G : mm_G) (i n : Int32) (x : Option Nat) (h : mm_M) (Z : Int32 → mm_M → Prop) (h0 : ¬ i < 0) (h1 : i < n) (hZ : Z i h) : mm_Met G y_Precond_checkIndex_8e157 c_Precond_checkIndex_8e157 3 (some (.int)) rm_Precond [.int i, .int n, va_rf x] h (pI Z) := by
  refine mm_intro (own := "jdk/internal/util/Preconditions") (by decide) rfl (by simp [lg_sl, cat_rf, cat_i, cat_l]) (fun E e1 hc hq hi => ?_)
  subst e1
  have e2 : lv_args 0 [.int i, .int n, va_rf x] = [(0, .int i), (1, .int n), (2, va_rf x)] := by simp [lv_args, cat_rf, cat_i, cat_l]
  rw [e2]
  refine V_iload_n hc 0 d_Precond_checkIndex_8e157_0 rfl rfl ?_
  refine V_if_lt (tgt := 9) hc d_Precond_checkIndex_8e157_1 (by decide) (fun q => absurd q h0) (fun _ => ?_)
  refine V_iload_n hc 0 d_Precond_checkIndex_8e157_4 rfl rfl ?_
  refine V_iload_n hc 1 d_Precond_checkIndex_8e157_5 rfl rfl ?_
  refine V_icmp_lt (tgt := 16) hc d_Precond_checkIndex_8e157_6 (by decide) (fun _ => ?_) (fun q => absurd h1 q)
  refine V_iload_n hc 0 d_Precond_checkIndex_8e157_16 rfl rfl ?_
  exact V_iret hc hq ⟨_, rfl, hZ⟩ (by decide) (by decide) d_Precond_checkIndex_8e157_17
abbrev rm_chk : Room := { frames := 1, cells := 0, slots := 0, locals := 22 }
theorem sat_chk (G : mm_G) (i n : Int32) (h : mm_M) (Z : mm_M → Prop) (h0 : ¬ i < 0) (h1 : i < n) (hZ : Z h) : mm_Met G y_String_checkIndex_df160 c_String_checkIndex_df160 2 none rm_chk [.int i, .int n] h (pV Z) := by
  refine mm_intro (own := "java/lang/String") (by decide) rfl (by simp [lg_sl, cat_rf, cat_i, cat_l]) (fun E e1 hc hq hi => ?_)
  subst e1
  have e2 : lv_args 0 [.int i, .int n] = [(0, .int i), (1, .int n)] := by simp [lv_args, cat_rf, cat_i, cat_l]
  rw [e2]
  refine V_iload_n hc 0 d_String_checkIndex_df160_0 rfl rfl ?_
  refine V_iload_n hc 1 d_String_checkIndex_df160_1 rfl rfl ?_
  refine V_getsF hc d_String_checkIndex_df160_2 (fun x => ?_)
  refine V_callS (rm' := rm_Precond) (As := [.int i, .int n, va_rf x]) (rest := []) (n := 3) hc (sat_Precond (eG E) i n x h (fun _ h' => h' = h) h0 h1 rfl) cv_String_1059 (gw_of (tw_5 (List.mem_of_getElem? (i := 232) rfl)) rfl) rfl ⟨by decide, by decide⟩ (by decide) (by decide) rfl (by simp [cat_rf, cat_i, cat_l]) d_String_checkIndex_df160_5 (fun r0 h1 hw => ?_)
  obtain ⟨x0, rfl, rfl⟩ := hw
  refine V_pop hc d_String_checkIndex_df160_8 rfl ?_
  exact V_vret hc hq ⟨rfl, hZ⟩ (by decide) (by decide) d_String_checkIndex_df160_9
theorem and255_c (x : Int32) : ((x &&& 255).toUInt32 % 65536).toInt32 = x &&& 255 := by
  apply Int32.toBitVec_inj.mp
  show ((x &&& 255).toBitVec % 65536#32) = _
  apply BitVec.eq_of_toNat_eq
  rw [BitVec.toNat_umod]
  have : (x &&& 255).toBitVec.toNat ≤ 255 := by
    show (x.toBitVec &&& 255#32).toNat ≤ 255
    rw [BitVec.toNat_and]
    exact Nat.and_le_right
  exact Nat.mod_eq_of_lt (Nat.lt_of_le_of_lt this (by decide))
theorem and255_n (x : Int32) : narrow .char (.int (x &&& 255)) = .int (x &&& 255) := by
  show Value.int _ = Value.int _
  congr 1
  exact and255_c x
abbrev rm_lat : Room := { frames := 2, cells := 0, slots := 0, locals := 43 }
theorem sat_lat (G : mm_G) (a : Nat) (i : Int32) (h : mm_M) (Z : Int32 → mm_M → Prop) (hk : mm_k h a = ka_B) (hn : mm_n h a < 2 ^ 31) (hi : vp_in i (mm_n h a)) (hZ : Z (mm_I h a i.toNatClampNeg &&& 255) h) : mm_Met G y_Latin1_charAt_3b067 c_Latin1_charAt_3b067 2 (some (.char)) rm_lat [va_rf (some a), .int i] h (pI Z) := by
  refine mm_intro (own := "java/lang/StringLatin1") (by decide) rfl (by simp [lg_sl, cat_rf, cat_i, cat_l]) (fun E e1 hc hq hin => ?_)
  subst e1
  have e2 : lv_args 0 [va_rf (some a), .int i] = [(0, va_rf (some a)), (1, .int i)] := by simp [lv_args, cat_rf, cat_i, cat_l]
  rw [e2]
  have h0 : ¬ i < 0 := fun q => hi (Or.inl q)
  have h1 : i < Nat.toInt32 (mm_n h a) := by
    obtain ⟨j, hj, rfl⟩ := nI_of h0
    have hlt : j < mm_n h a := Nat.not_le.mp fun q => hi (Or.inr (by rw [nI_clamp hj]; exact q))
    exact nI_lt hlt hn
  refine V_iload_n hc 1 d_Latin1_charAt_3b067_0 rfl rfl ?_
  refine V_aload_n hc 0 d_Latin1_charAt_3b067_1 rfl rfl ?_
  refine V_alen (t := 1) (ty := .byte) hc rfl rfl hk d_Latin1_charAt_3b067_2 ?_
  refine V_callS (rm' := rm_chk) (As := [.int i, .int (Nat.toInt32 (mm_n h a))]) (rest := []) (n := 2) hc (sat_chk (eG E) i (Nat.toInt32 (mm_n h a)) h (fun h' => h' = h) h0 h1 rfl) cv_Latin1_9 (gw_of (tw_5 (List.mem_of_getElem? (i := 227) rfl)) rfl) rfl ⟨by decide, by decide⟩ (by decide) (by decide) rfl (by simp [cat_rf, cat_i, cat_l]) d_Latin1_charAt_3b067_3 (fun r0 h1 hw => ?_)
  obtain ⟨rfl, rfl⟩ := hw
  refine V_aload_n hc 0 d_Latin1_charAt_3b067_6 rfl rfl ?_
  refine V_iload_n hc 1 d_Latin1_charAt_3b067_7 rfl rfl ?_
  refine V_bald hc rfl hk hi d_Latin1_charAt_3b067_8 ?_
  refine V_sipush (v := 255) hc d_Latin1_charAt_3b067_9 (by decide) ?_
  refine V_iand hc d_Latin1_charAt_3b067_12 ?_
  refine V_i2c hc d_Latin1_charAt_3b067_13 ?_
  rw [and255_c]
  exact V_zret hc hq (and255_n _) ⟨_, rfl, hZ⟩ (by decide) (by decide) d_Latin1_charAt_3b067_14
abbrev rm_isl : Room := { frames := 0, cells := 0, slots := 0, locals := 0 }
theorem sat_isl (G : mm_G) {j : Nat} {r : String × Nat × String} (hj : sgl[j]? = some r) (h : mm_M) (Z : Int32 → mm_M → Prop) (hZ : Z 1 h) : mm_Met G y_String_isLatin1_aae02 c_String_isLatin1_aae02 1 (some (.boolean)) rm_isl [va_rf (some (mm_ge G (j + 101)))] h (pI Z) := by
  refine mm_intro (own := "java/lang/String") (by decide) rfl (by simp [lg_sl, cat_rf, cat_i, cat_l]) (fun E e1 hc hq hi => ?_)
  subst e1
  have e2 : lv_args 0 [va_rf (some (mm_ge (eG E) (j + 101)))] = [(0, va_rf (some (mm_ge (eG E) (j + 101))))] := by simp [lv_args, cat_rf, cat_i, cat_l]
  rw [e2]
  refine V_getsC hc d_String_isLatin1_aae02_0 ?_
  refine V_if_eq (tgt := 17) hc d_String_isLatin1_aae02_3 (by decide) (fun q => absurd q (by decide)) (fun _ => ?_)
  refine V_aload_n hc 0 d_String_isLatin1_aae02_6 rfl rfl ?_
  refine V_txtC hc hj d_String_isLatin1_aae02_7 ?_
  refine V_if_ne (tgt := 17) hc d_String_isLatin1_aae02_10 (by decide) (fun q => absurd rfl q) (fun _ => ?_)
  refine V_iconst (v := 1) hc d_String_isLatin1_aae02_13 (by decide) ?_
  refine V_goto (tgt := 18) hc d_String_isLatin1_aae02_14 (by decide) ?_
  exact V_zret hc hq (by decide) ⟨_, rfl, hZ⟩ (by decide) (by decide) d_String_isLatin1_aae02_18
abbrev rm_String_charAt_5068e : Room := { frames := 3, cells := 0, slots := 0, locals := 64 }
theorem sat_charAt (G : mm_G) {j : Nat} {r : String × Nat × String} (hj : sgl[j]? = some r) (i : Int32) (h : mm_M) (Z : Int32 → mm_M → Prop) (hk : mm_k h (mm_ge G (j + 201)) = ka_B) (hn : mm_n h (mm_ge G (j + 201)) < 2 ^ 31) (hi : vp_in i (mm_n h (mm_ge G (j + 201)))) (hZ : Z (mm_I h (mm_ge G (j + 201)) i.toNatClampNeg &&& 255) h) : mm_Met G y_String_charAt_5068e c_String_charAt_5068e 2 (some (.char)) rm_String_charAt_5068e [va_rf (some (mm_ge G (j + 101))), .int i] h (pI Z) := by
  refine mm_intro (own := "java/lang/String") (by decide) rfl (by simp [lg_sl, cat_rf, cat_i, cat_l]) (fun E e1 hc hq hin => ?_)
  subst e1
  have e2 : lv_args 0 [va_rf (some (mm_ge (eG E) (j + 101))), .int i] = [(0, va_rf (some (mm_ge (eG E) (j + 101)))), (1, .int i)] := by simp [lv_args, cat_rf, cat_i, cat_l]
  rw [e2]
  refine V_aload_n hc 0 d_String_charAt_5068e_0 rfl rfl ?_
  refine V_callT (rm' := rm_isl) (As := []) (rest := []) (n := 0) hc hj rfl (sat_isl (eG E) hj h (fun x h' => x = 1 ∧ h' = h) ⟨rfl, rfl⟩) cv_String_492 (gw_of (tw_5 (List.mem_of_getElem? (i := 218) rfl)) rfl) (gw_of (tw_5 (List.mem_of_getElem? (i := 219) rfl)) rfl) rfl ⟨by decide, by decide⟩ (by decide) (by decide) rfl (by simp [cat_rf, cat_i, cat_l]) d_String_charAt_5068e_1 (fun r0 h1 hw => ?_)
  obtain ⟨x0, rfl, ex, eh⟩ := hw
  rw [ex, eh]
  refine V_if_eq (tgt := 16) hc d_String_charAt_5068e_4 (by decide) (fun q => absurd q (by decide)) (fun _ => ?_)
  refine V_aload_n hc 0 d_String_charAt_5068e_7 rfl rfl ?_
  refine V_txtV hc hj d_String_charAt_5068e_8 ?_
  refine V_iload_n hc 1 d_String_charAt_5068e_11 rfl rfl ?_
  refine V_callS (rm' := rm_lat) (As := [va_rf (some (mm_ge (eG E) (j + 201))), .int i]) (rest := []) (n := 2) hc (sat_lat (eG E) (mm_ge (eG E) (j + 201)) i h (fun x h' => x = (mm_I h (mm_ge (eG E) (j + 201)) i.toNatClampNeg &&& 255) ∧ h' = h) hk hn hi ⟨rfl, rfl⟩) cv_String_495 (gw_of (tw_5 (List.mem_of_getElem? (i := 224) rfl)) rfl) rfl ⟨by decide, by decide⟩ (by decide) (by decide) rfl (by simp [cat_rf, cat_i, cat_l]) d_String_charAt_5068e_12 (fun r0 h1 hw => ?_)
  obtain ⟨x0, rfl, rfl, rfl⟩ := hw
  exact V_zret hc hq (and255_n _) ⟨_, rfl, hZ⟩ (by decide) (by decide) d_String_charAt_5068e_15
section VT2
variable {E : mm_E} {own : String} {cc : ByteArray} {nL cs sl pc : Nat} {ret : Option FieldType} {rm : Room} {h : mm_M} {lv lv' : List (Nat × Value)} {rest : List Value}
/-- charAt of a constant text, within the reference -/
theorem V_charAt (j : Nat) {r : String × Nat × String} {i : Int32} (hc : cx E "EpochServerModel" cc nL ret rm) (hj : sgl[j]? = some r) (hk : mm_k h (mm_ge (eG E) (j + 201)) = ka_B) (hn : mm_n h (mm_ge (eG E) (j + 201)) < 2 ^ 31) (hi : vp_in i (mm_n h (mm_ge (eG E) (j + 201)))) (hrm : rmOk rm rm_String_charAt_5068e 2) (hcs : cs ≤ rm.cells) (hsl : sl ≤ rm.slots) (h8 : (rest.map fun v => v.category).sum ≤ 8) (hd : decode cc pc = .ok (.invokevirtual 303, 3))
    (k : V E nL cs sl h (pc + 3) lv (.int (mm_I h (mm_ge (eG E) (j + 201)) i.toNatClampNeg &&& 255) :: rest)) : V E nL cs sl h pc lv (.int i :: va_rf (some (mm_ge (eG E) (j + 101))) :: rest) := by
  refine V_callT (rm' := rm_String_charAt_5068e) (As := [.int i]) (rest := rest) (n := 1) hc hj rfl (sat_charAt (eG E) hj i h (fun x h' => x = (mm_I h (mm_ge (eG E) (j + 201)) i.toNatClampNeg &&& 255) ∧ h' = h) hk hn hi ⟨rfl, rfl⟩) cv_Model_303 (gw_of (tw_5 (List.mem_of_getElem? (i := 214) rfl)) rfl) (gw_of (tw_5 (List.mem_of_getElem? (i := 215) rfl)) rfl) rfl hrm hcs hsl rfl h8 hd (fun r0 h1 hw => ?_)
  obtain ⟨x0, rfl, rfl, rfl⟩ := hw
  exact k
end VT2
