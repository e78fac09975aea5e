/-! Model.creates(I)V -/
abbrev rm_Model_creates : Room := { frames := 2, cells := 0, slots := 0, locals := 50 }
def wq_Model_creates_97  (ge : Nat → Nat)  (h : mm_M) (Z : mm_M → Prop) : Prop :=
  Z h
def wq_Model_creates_192  (ge : Nat → Nat)  (h : mm_M) (Z : mm_M → Prop) : Prop :=
  Z h
def wq_Model_creates_184  (ge : Nat → Nat) (v0 : Nat) (v1 : Int32) (v2 : Int32) (s0 : Option Nat) (s1 : Int32) (h : mm_M) (Z : mm_M → Prop) : Prop :=
  ∃ a1, s0 = some a1 ∧ mm_k h (a1) = kd_Model ∧ wq_Model_fails ge (a1) (s1) (9) h (fun (r5 : Int32) (h4 : mm_M) => (((r5) = 0 → mm_k h4 (v0) = kd_Model ∧ wq_Model_spot ge (0) (mm_I h4 v0 9) h4 (fun (r8 : Int32) (h7 : mm_M) => mm_k h7 (v0) = kd_Model ∧ ∃ a10, mm_P h7 v0 0 = some a10 ∧ mm_k h7 (a10) = ka_Z ∧ vp_in (r8) (mm_n h7 a10) ∧ ge 0 ≤ a10 ∧ ∀ h15 : mm_M, h15 = mm_uI h7 a10 (Int32.toNatClampNeg (r8)) (vp_nar .boolean (1)) → mm_k h15 (v0) = kd_Model ∧ ∃ a17, mm_P h15 v0 23 = some a17 ∧ mm_k h15 (a17) = ka_I ∧ vp_in (v1) (mm_n h15 a17) ∧ ∃ a21, mm_P h15 v0 1 = some a21 ∧ mm_k h15 (a21) = ka_I ∧ vp_in (r8) (mm_n h15 a21) ∧ ge 0 ≤ a21 ∧ ∀ h26 : mm_M, h26 = mm_uI h15 a21 (Int32.toNatClampNeg (r8)) (mm_I h15 a17 (Int32.toNatClampNeg (v1))) → mm_k h26 (v0) = kd_Model ∧ ∃ a28, mm_P h26 v0 2 = some a28 ∧ mm_k h26 (a28) = ka_I ∧ vp_in (r8) (mm_n h26 a28) ∧ ge 0 ≤ a28 ∧ ∀ h33 : mm_M, h33 = mm_uI h26 a28 (Int32.toNatClampNeg (r8)) ((mm_I h26 v0 36) &&& ((-2147483137) : Int32)) → mm_k h33 (v0) = kd_Model ∧ ∃ a35, mm_P h33 v0 3 = some a35 ∧ mm_k h33 (a35) = ka_I ∧ vp_in (r8) (mm_n h33 a35) ∧ ge 0 ≤ a35 ∧ ∀ h40 : mm_M, h40 = mm_uI h33 a35 (Int32.toNatClampNeg (r8)) (0) → mm_k h40 (v0) = kd_Model ∧ ∃ a42, mm_P h40 v0 4 = some a42 ∧ mm_k h40 (a42) = ka_I ∧ vp_in (r8) (mm_n h40 a42) ∧ ge 0 ≤ a42 ∧ ∀ h47 : mm_M, h47 = mm_uI h40 a42 (Int32.toNatClampNeg (r8)) (mm_I h40 v0 10) → mm_k h47 (v0) = kd_Model ∧ ∃ a49, mm_P h47 v0 5 = some a49 ∧ mm_k h47 (a49) = ka_I ∧ vp_in (r8) (mm_n h47 a49) ∧ ge 0 ≤ a49 ∧ ∀ h54 : mm_M, h54 = mm_uI h47 a49 (Int32.toNatClampNeg (r8)) (0) → mm_k h54 (v0) = kd_Model ∧ wq_Model_names ge (v0) (r8) (mm_I h54 v0 38) (mm_I h54 v0 39) h54 (fun h56 : mm_M => mm_k h56 (v0) = kd_Model ∧ wq_Model_changed ge (v0) (v2) h56 (fun h59 : mm_M => mm_k h59 (v0) = kd_Model ∧ ∃ a62, mm_P h59 v0 21 = some a62 ∧ mm_k h59 (a62) = ka_I ∧ vp_in (v1) (mm_n h59 a62) ∧ wq_Model_place ge (v0) (v1) (mm_I h59 a62 (Int32.toNatClampNeg (v1))) (0) (mm_I h59 v0 9) h59 (fun h66 : mm_M => mm_k h66 (v0) = kd_Model ∧ ∃ a69, mm_P h66 v0 24 = some a69 ∧ mm_k h66 (a69) = ka_I ∧ vp_in (v1) (mm_n h66 a69) ∧ ge 0 ≤ a69 ∧ ∀ h74 : mm_M, h74 = mm_uI h66 a69 (Int32.toNatClampNeg (v1)) (mm_I h66 v0 35) → mm_k h74 (v0) = kd_Model ∧ ge 0 ≤ v0 ∧ ∀ h77 : mm_M, h77 = mm_uI h74 (v0) 9 ((mm_I h74 v0 9) + (1 : Int32)) → mm_k h77 (v0) = kd_Model ∧ ∃ a79, mm_P h77 v0 23 = some a79 ∧ mm_k h77 (a79) = ka_I ∧ vp_in (v1) (mm_n h77 a79) ∧ wq_Model_qid ge (v0) (0) (mm_I h77 a79 (Int32.toNatClampNeg (v1))) h77 (fun h83 : mm_M => mm_k h83 (v0) = kd_Model ∧ wq_Model_put ge (v0) (0) (4) h83 (fun h86 : mm_M => Z h86))))))) ∧ (¬ (r5) = 0 → wq_Model_creates_192  ge h4 Z)))
def wq_Model_creates_161  (ge : Nat → Nat) (v0 : Nat) (v1 : Int32) (v2 : Int32) (s0 : Option Nat) (s1 : Int32) (h : mm_M) (Z : mm_M → Prop) : Prop :=
  ∃ a1, s0 = some a1 ∧ mm_k h (a1) = kd_Model ∧ wq_Model_fails ge (a1) (s1) (8) h (fun (r5 : Int32) (h4 : mm_M) => ((¬ (r5) = 0 → wq_Model_creates_192  ge h4 Z) ∧ ((r5) = 0 → mm_k h4 (v0) = kd_Model ∧ ((¬ (mm_I h4 v0 9 : Int32) = (60 : Int32) → wq_Model_creates_184  ge (v0) (v1) (v2) (some v0) (0) h4 Z) ∧ ((mm_I h4 v0 9 : Int32) = (60 : Int32) → wq_Model_creates_184  ge (v0) (v1) (v2) (some v0) (1) h4 Z)))))
def wq_Model_creates_156  (ge : Nat → Nat) (v0 : Nat) (v1 : Int32) (v2 : Int32) (s0 : Option Nat) (h : mm_M) (Z : mm_M → Prop) : Prop :=
  wq_Model_creates_161  ge (v0) (v1) (v2) (s0) (1) h Z
def wq_Model_creates_160  (ge : Nat → Nat) (v0 : Nat) (v1 : Int32) (v2 : Int32) (s0 : Option Nat) (h : mm_M) (Z : mm_M → Prop) : Prop :=
  wq_Model_creates_161  ge (v0) (v1) (v2) (s0) (0) h Z
def wq_Model_creates_126  (ge : Nat → Nat) (v0 : Nat) (v1 : Int32) (v2 : Int32) (s0 : Option Nat) (s1 : Int32) (h : mm_M) (Z : mm_M → Prop) : Prop :=
  ∃ a1, s0 = some a1 ∧ mm_k h (a1) = kd_Model ∧ wq_Model_fails ge (a1) (s1) (7) h (fun (r5 : Int32) (h4 : mm_M) => ((¬ (r5) = 0 → wq_Model_creates_192  ge h4 Z) ∧ ((r5) = 0 → mm_k h4 (v0) = kd_Model ∧ wq_Model_isOddMode ge (v0) h4 (fun (r8 : Int32) (h7 : mm_M) => ((¬ (r8) = 0 → wq_Model_creates_156  ge (v0) (v1) (v2) (some v0) h7 Z) ∧ ((r8) = 0 → mm_k h7 (v0) = kd_Model ∧ ((0 ≤ (mm_I h7 v0 36) → wq_Model_creates_160  ge (v0) (v1) (v2) (some v0) h7 Z) ∧ (¬ 0 ≤ (mm_I h7 v0 36) → (((mm_I h7 v0 35) = 0 → wq_Model_creates_160  ge (v0) (v1) (v2) (some v0) h7 Z) ∧ (¬ (mm_I h7 v0 35) = 0 → wq_Model_creates_156  ge (v0) (v1) (v2) (some v0) h7 Z))))))))))
def wq_Model_creates_89  (ge : Nat → Nat) (v0 : Nat) (v1 : Int32) (v2 : Int32) (s0 : Option Nat) (s1 : Int32) (h : mm_M) (Z : mm_M → Prop) : Prop :=
  ∃ a1, s0 = some a1 ∧ mm_k h (a1) = kd_Model ∧ wq_Model_fails ge (a1) (s1) (6) h (fun (r5 : Int32) (h4 : mm_M) => (((r5) = 0 → mm_k h4 (v0) = kd_Model ∧ ∃ a7, mm_P h4 v0 23 = some a7 ∧ mm_k h4 (a7) = ka_I ∧ vp_in (v1) (mm_n h4 a7) ∧ wq_Model_child ge (v0) (0) (mm_I h4 a7 (Int32.toNatClampNeg (v1))) (mm_I h4 v0 38) (mm_I h4 v0 39) h4 (fun (r12 : Int32) (h11 : mm_M) => (((r12) < 0 → wq_Model_creates_126  ge (v0) (v1) (v2) (some v0) (0) h11 Z) ∧ (¬ (r12) < 0 → wq_Model_creates_126  ge (v0) (v1) (v2) (some v0) (1) h11 Z)))) ∧ (¬ (r5) = 0 → wq_Model_creates_97  ge h4 Z)))
def wq_Model_creates_61  (ge : Nat → Nat) (v0 : Nat) (v1 : Int32) (v2 : Int32) (s0 : Option Nat) (s1 : Int32) (h : mm_M) (Z : mm_M → Prop) : Prop :=
  ∃ a1, s0 = some a1 ∧ mm_k h (a1) = kd_Model ∧ wq_Model_fails ge (a1) (s1) (5) h (fun (r5 : Int32) (h4 : mm_M) => ((¬ (r5) = 0 → wq_Model_creates_97  ge h4 Z) ∧ ((r5) = 0 → mm_k h4 (v0) = kd_Model ∧ wq_Model_isName ge (v0) (mm_I h4 v0 38) (mm_I h4 v0 39) h4 (fun (r8 : Int32) (h7 : mm_M) => ((¬ (r8) = 0 → wq_Model_creates_89  ge (v0) (v1) (v2) (some v0) (0) h7 Z) ∧ ((r8) = 0 → wq_Model_creates_89  ge (v0) (v1) (v2) (some v0) (1) h7 Z))))))
def wq_Model_creates_56  (ge : Nat → Nat) (v0 : Nat) (v1 : Int32) (v2 : Int32) (s0 : Option Nat) (h : mm_M) (Z : mm_M → Prop) : Prop :=
  wq_Model_creates_61  ge (v0) (v1) (v2) (s0) (1) h Z
def wq_Model_creates_31  (ge : Nat → Nat) (v0 : Nat) (v1 : Int32) (v2 : Int32) (s0 : Option Nat) (s1 : Int32) (h : mm_M) (Z : mm_M → Prop) : Prop :=
  ∃ a1, s0 = some a1 ∧ mm_k h (a1) = kd_Model ∧ wq_Model_fails ge (a1) (s1) (3) h (fun (r5 : Int32) (h4 : mm_M) => ((¬ (r5) = 0 → wq_Model_creates_97  ge h4 Z) ∧ ((r5) = 0 → mm_k h4 (v0) = kd_Model ∧ wq_Model_isDirectory ge (v0) (v2) h4 (fun (r8 : Int32) (h7 : mm_M) => (((r8) = 0 → wq_Model_creates_56  ge (v0) (v1) (v2) (some v0) h7 Z) ∧ (¬ (r8) = 0 → mm_k h7 (v0) = kd_Model ∧ ∃ a10, mm_P h7 v0 22 = some a10 ∧ mm_k h7 (a10) = ka_I ∧ vp_in (v1) (mm_n h7 a10) ∧ (((mm_I h7 a10 (Int32.toNatClampNeg (v1))) = 0 → wq_Model_creates_61  ge (v0) (v1) (v2) (some v0) (0) h7 Z) ∧ (¬ (mm_I h7 a10 (Int32.toNatClampNeg (v1))) = 0 → wq_Model_creates_56  ge (v0) (v1) (v2) (some v0) h7 Z))))))))
def wq_Model_creates_0  (ge : Nat → Nat) (v0 : Nat) (v1 : Int32) (h : mm_M) (Z : mm_M → Prop) : Prop :=
  mm_k h (v0) = kd_Model ∧ ∃ a2, mm_P h v0 22 = some a2 ∧ mm_k h (a2) = ka_I ∧ vp_in (v1) (mm_n h a2) ∧ ∃ a6, mm_P h v0 23 = some a6 ∧ mm_k h (a6) = ka_I ∧ vp_in (v1) (mm_n h a6) ∧ wq_Model_spot ge (mm_I h a2 (Int32.toNatClampNeg (v1))) (mm_I h a6 (Int32.toNatClampNeg (v1))) h (fun (r11 : Int32) (h10 : mm_M) => mm_k h10 (v0) = kd_Model ∧ ∃ a13, mm_P h10 v0 24 = some a13 ∧ mm_k h10 (a13) = ka_I ∧ vp_in (v1) (mm_n h10 a13) ∧ (((mm_I h10 a13 (Int32.toNatClampNeg (v1))) < 0 → wq_Model_creates_31  ge (v0) (v1) (r11) (some v0) (0) h10 Z) ∧ (¬ (mm_I h10 a13 (Int32.toNatClampNeg (v1))) < 0 → wq_Model_creates_31  ge (v0) (v1) (r11) (some v0) (1) h10 Z)))
set_option maxRecDepth 100000 in
set_option maxHeartbeats 4000000 in
theorem vb_Model_creates_97 {E : mm_E} {Z : mm_M → Prop} (hc : cx E "EpochServerModel" c_Model_creates 4 none rm_Model_creates) (hq : cq E rm_Model_creates (pV Z))   (h : mm_M) (hw : wq_Model_creates_97  (mm_ge (eG E))  h Z) : V E 4 0 0 h 97 [] [] := by
  unfold wq_Model_creates_97 at hw
  exact V_vret hc hq ⟨rfl, hw⟩ (by decide) (by decide) d_Model_creates_97
set_option maxRecDepth 100000 in
set_option maxHeartbeats 4000000 in
theorem vb_Model_creates_192 {E : mm_E} {Z : mm_M → Prop} (hc : cx E "EpochServerModel" c_Model_creates 4 none rm_Model_creates) (hq : cq E rm_Model_creates (pV Z))   (h : mm_M) (hw : wq_Model_creates_192  (mm_ge (eG E))  h Z) : V E 4 0 0 h 192 [] [] := by
  unfold wq_Model_creates_192 at hw
  exact V_vret hc hq ⟨rfl, hw⟩ (by decide) (by decide) d_Model_creates_192
set_option maxRecDepth 100000 in
set_option maxHeartbeats 4000000 in
theorem vb_Model_creates_184 {E : mm_E} {Z : mm_M → Prop} (hc : cx E "EpochServerModel" c_Model_creates 4 none rm_Model_creates) (hq : cq E rm_Model_creates (pV Z))  (v0 : Nat) (v1 : Int32) (v2 : Int32) (s0 : Option Nat) (s1 : Int32) (h : mm_M) (hw : wq_Model_creates_184  (mm_ge (eG E)) v0 v1 v2 s0 s1 h Z) : V E 4 0 0 h 184 [(0, va_rf (some v0)), (1, .int (v1)), (2, .int (v2))] [.int (s1), va_rf (s0)] := by
  unfold wq_Model_creates_184 at hw
  refine V_bipush (v := 9) hc d_Model_creates_184 (by decide) ?_
  obtain ⟨a1, q2, hw⟩ := hw
  obtain ⟨q3, hw⟩ := hw
  refine V_callV (rm' := rm_Model_fails) (As := [.int (s1), .int (9)]) (rest := []) (n := 2) (cn := 0) hc q2 q3 (sat_Model_fails (eG E) _ _ _ _ _ hw) rfl cv_Model_249 (gw_of (tw_5 (List.mem_of_getElem? (i := 209) rfl)) rfl) ss_Model_fails rfl ⟨by decide, by decide⟩ (by decide) (by decide) rfl (by simp [cat_rf, cat_i, cat_l]) d_Model_creates_186 (fun r0 h4 hw => ?_)
  obtain ⟨r5, rfl, hw⟩ := hw
  refine V_wide (cs' := 0) (sl' := 0) (by decide) (by decide) ?_
  refine V_st (st' := [.int (r5)]) rfl ?_
  refine V_if_eq (tgt := 193) hc d_Model_creates_189 (by decide) (fun hq1 => ?_) (fun hq1 => ?_)
  · replace hw := hw.1 hq1
    refine V_iconst (v := 0) hc d_Model_creates_193 (by decide) ?_
    refine V_aload_n hc 0 d_Model_creates_194 rfl rfl ?_
    obtain ⟨q6, hw⟩ := hw
    refine V_get (v := .int (mm_I h4 v0 9)) hc gf_Model_40 rfl q6 rfl d_Model_creates_195 ?_
    refine V_callS (rm' := rm_Model_spot) (As := [.int (0), .int (mm_I h4 v0 9)]) (rest := []) (n := 2) hc (sat_Model_spot (eG E) _ _ _ _ hw) cv_Model_96 (gw_of (tw_5 (List.mem_of_getElem? (i := 196) rfl)) rfl) rfl ⟨by decide, by decide⟩ (by decide) (by decide) rfl (by simp [cat_rf, cat_i, cat_l]) d_Model_creates_198 (fun r0 h7 hw => ?_)
    obtain ⟨r8, rfl, hw⟩ := hw
    refine V_wide (cs' := 0) (sl' := 0) (by decide) (by decide) ?_
    refine V_st (st' := [.int (r8)]) rfl ?_
    refine V_istore_n (i := 3) (lv' := [(3, .int (r8)), (0, va_rf (some v0)), (1, .int (v1)), (2, .int (v2))]) hc d_Model_creates_201 rfl (by decide) rfl ?_
    refine V_aload_n hc 1 d_Model_creates_202 rfl rfl ?_
    obtain ⟨q9, hw⟩ := hw
    refine V_get (v := va_rf (mm_P h7 v0 0)) hc gf_Model_9 rfl q9 rfl d_Model_creates_203 ?_
    refine V_iload_n hc 0 d_Model_creates_206 rfl rfl ?_
    refine V_iconst (v := 1) hc d_Model_creates_207 (by decide) ?_
    obtain ⟨a10, q11, hw⟩ := hw
    obtain ⟨q12, hw⟩ := hw
    obtain ⟨q13, hw⟩ := hw
    obtain ⟨q14, hw⟩ := hw
    obtain ⟨h15, eq_h15⟩ : ∃ x, x = mm_uI h7 a10 (Int32.toNatClampNeg (r8)) (vp_nar .boolean (1)) := ⟨_, rfl⟩
    replace hw := hw _ eq_h15
    refine V_zast hc q11 q12 q13 q14 d_Model_creates_208 ?_
    rw [← eq_h15]
    refine V_aload_n hc 1 d_Model_creates_209 rfl rfl ?_
    obtain ⟨q16, hw⟩ := hw
    refine V_get (v := va_rf (mm_P h15 v0 1)) hc gf_Model_13 rfl q16 rfl d_Model_creates_210 ?_
    refine V_iload_n hc 0 d_Model_creates_213 rfl rfl ?_
    refine V_aload_n hc 1 d_Model_creates_214 rfl rfl ?_
    refine V_get (v := va_rf (mm_P h15 v0 23)) hc gf_Model_56 rfl q16 rfl d_Model_creates_215 ?_
    refine V_iload_n hc 2 d_Model_creates_218 rfl rfl ?_
    obtain ⟨a17, q18, hw⟩ := hw
    obtain ⟨q19, hw⟩ := hw
    obtain ⟨q20, hw⟩ := hw
    refine V_iald hc q18 q19 q20 d_Model_creates_219 ?_
    obtain ⟨a21, q22, hw⟩ := hw
    obtain ⟨q23, hw⟩ := hw
    obtain ⟨q24, hw⟩ := hw
    obtain ⟨q25, hw⟩ := hw
    obtain ⟨h26, eq_h26⟩ : ∃ x, x = mm_uI h15 a21 (Int32.toNatClampNeg (r8)) (mm_I h15 a17 (Int32.toNatClampNeg (v1))) := ⟨_, rfl⟩
    replace hw := hw _ eq_h26
    refine V_iast hc q22 q23 q24 q25 d_Model_creates_220 ?_
    rw [← eq_h26]
    refine V_aload_n hc 1 d_Model_creates_221 rfl rfl ?_
    obtain ⟨q27, hw⟩ := hw
    refine V_get (v := va_rf (mm_P h26 v0 2)) hc gf_Model_17 rfl q27 rfl d_Model_creates_222 ?_
    refine V_iload_n hc 0 d_Model_creates_225 rfl rfl ?_
    refine V_aload_n hc 1 d_Model_creates_226 rfl rfl ?_
    refine V_get (v := .int (mm_I h26 v0 36)) hc gf_Model_159 rfl q27 rfl d_Model_creates_227 ?_
    refine V_ldc (v := (-2147483137)) hc (gw_of (tw_4 (List.mem_of_getElem? (i := 196) rfl)) rfl) d_Model_creates_230 ?_
    refine V_iand hc d_Model_creates_232 ?_
    obtain ⟨a28, q29, hw⟩ := hw
    obtain ⟨q30, hw⟩ := hw
    obtain ⟨q31, hw⟩ := hw
    obtain ⟨q32, hw⟩ := hw
    obtain ⟨h33, eq_h33⟩ : ∃ x, x = mm_uI h26 a28 (Int32.toNatClampNeg (r8)) ((mm_I h26 v0 36) &&& ((-2147483137) : Int32)) := ⟨_, rfl⟩
    replace hw := hw _ eq_h33
    refine V_iast hc q29 q30 q31 q32 d_Model_creates_233 ?_
    rw [← eq_h33]
    refine V_aload_n hc 1 d_Model_creates_234 rfl rfl ?_
    obtain ⟨q34, hw⟩ := hw
    refine V_get (v := va_rf (mm_P h33 v0 3)) hc gf_Model_20 rfl q34 rfl d_Model_creates_235 ?_
    refine V_iload_n hc 0 d_Model_creates_238 rfl rfl ?_
    refine V_iconst (v := 0) hc d_Model_creates_239 (by decide) ?_
    obtain ⟨a35, q36, hw⟩ := hw
    obtain ⟨q37, hw⟩ := hw
    obtain ⟨q38, hw⟩ := hw
    obtain ⟨q39, hw⟩ := hw
    obtain ⟨h40, eq_h40⟩ : ∃ x, x = mm_uI h33 a35 (Int32.toNatClampNeg (r8)) (0) := ⟨_, rfl⟩
    replace hw := hw _ eq_h40
    refine V_iast hc q36 q37 q38 q39 d_Model_creates_240 ?_
    rw [← eq_h40]
    refine V_aload_n hc 1 d_Model_creates_241 rfl rfl ?_
    obtain ⟨q41, hw⟩ := hw
    refine V_get (v := va_rf (mm_P h40 v0 4)) hc gf_Model_23 rfl q41 rfl d_Model_creates_242 ?_
    refine V_iload_n hc 0 d_Model_creates_245 rfl rfl ?_
    refine V_aload_n hc 1 d_Model_creates_246 rfl rfl ?_
    refine V_get (v := .int (mm_I h40 v0 10)) hc gf_Model_100 rfl q41 rfl d_Model_creates_247 ?_
    obtain ⟨a42, q43, hw⟩ := hw
    obtain ⟨q44, hw⟩ := hw
    obtain ⟨q45, hw⟩ := hw
    obtain ⟨q46, hw⟩ := hw
    obtain ⟨h47, eq_h47⟩ : ∃ x, x = mm_uI h40 a42 (Int32.toNatClampNeg (r8)) (mm_I h40 v0 10) := ⟨_, rfl⟩
    replace hw := hw _ eq_h47
    refine V_iast hc q43 q44 q45 q46 d_Model_creates_250 ?_
    rw [← eq_h47]
    refine V_aload_n hc 1 d_Model_creates_251 rfl rfl ?_
    obtain ⟨q48, hw⟩ := hw
    refine V_get (v := va_rf (mm_P h47 v0 5)) hc gf_Model_26 rfl q48 rfl d_Model_creates_252 ?_
    refine V_iload_n hc 0 d_Model_creates_255 rfl rfl ?_
    refine V_iconst (v := 0) hc d_Model_creates_256 (by decide) ?_
    obtain ⟨a49, q50, hw⟩ := hw
    obtain ⟨q51, hw⟩ := hw
    obtain ⟨q52, hw⟩ := hw
    obtain ⟨q53, hw⟩ := hw
    obtain ⟨h54, eq_h54⟩ : ∃ x, x = mm_uI h47 a49 (Int32.toNatClampNeg (r8)) (0) := ⟨_, rfl⟩
    replace hw := hw _ eq_h54
    refine V_iast hc q50 q51 q52 q53 d_Model_creates_257 ?_
    rw [← eq_h54]
    refine V_aload_n hc 1 d_Model_creates_258 rfl rfl ?_
    refine V_iload_n hc 0 d_Model_creates_259 rfl rfl ?_
    refine V_aload_n hc 1 d_Model_creates_260 rfl rfl ?_
    obtain ⟨q55, hw⟩ := hw
    refine V_get (v := .int (mm_I h54 v0 38)) hc gf_Model_141 rfl q55 rfl d_Model_creates_261 ?_
    refine V_aload_n hc 1 d_Model_creates_264 rfl rfl ?_
    refine V_get (v := .int (mm_I h54 v0 39)) hc gf_Model_144 rfl q55 rfl d_Model_creates_265 ?_
    refine V_callV (rm' := rm_Model_names) (As := [.int (r8), .int (mm_I h54 v0 38), .int (mm_I h54 v0 39)]) (rest := []) (n := 3) (cn := 0) hc rfl q55 (sat_Model_names (eG E) _ _ _ _ _ _ hw) rfl cv_Model_340 (gw_of (tw_6 (List.mem_of_getElem? (i := 100) rfl)) rfl) ss_Model_names rfl ⟨by decide, by decide⟩ (by decide) (by decide) rfl (by simp [cat_rf, cat_i, cat_l]) d_Model_creates_268 (fun r0 h56 hw => ?_)
    obtain ⟨rfl, hw⟩ := hw
    refine V_wide (cs' := 0) (sl' := 0) (by decide) (by decide) ?_
    refine V_st (st' := []) rfl ?_
    refine V_aload_n hc 1 d_Model_creates_271 rfl rfl ?_
    refine V_iload_n hc 3 d_Model_creates_272 rfl rfl ?_
    obtain ⟨q58, hw⟩ := hw
    refine V_callV (rm' := rm_Model_changed) (As := [.int (v2)]) (rest := []) (n := 1) (cn := 0) hc rfl q58 (sat_Model_changed (eG E) _ _ _ _ hw) rfl cv_Model_334 (gw_of (tw_6 (List.mem_of_getElem? (i := 68) rfl)) rfl) ss_Model_changed rfl ⟨by decide, by decide⟩ (by decide) (by decide) rfl (by simp [cat_rf, cat_i, cat_l]) d_Model_creates_273 (fun r0 h59 hw => ?_)
    obtain ⟨rfl, hw⟩ := hw
    refine V_wide (cs' := 0) (sl' := 0) (by decide) (by decide) ?_
    refine V_st (st' := []) rfl ?_
    refine V_aload_n hc 1 d_Model_creates_276 rfl rfl ?_
    refine V_iload_n hc 2 d_Model_creates_277 rfl rfl ?_
    refine V_aload_n hc 1 d_Model_creates_278 rfl rfl ?_
    obtain ⟨q61, hw⟩ := hw
    refine V_get (v := va_rf (mm_P h59 v0 21)) hc gf_Model_50 rfl q61 rfl d_Model_creates_279 ?_
    refine V_iload_n hc 2 d_Model_creates_282 rfl rfl ?_
    obtain ⟨a62, q63, hw⟩ := hw
    obtain ⟨q64, hw⟩ := hw
    obtain ⟨q65, hw⟩ := hw
    refine V_iald hc q63 q64 q65 d_Model_creates_283 ?_
    refine V_iconst (v := 0) hc d_Model_creates_284 (by decide) ?_
    refine V_aload_n hc 1 d_Model_creates_285 rfl rfl ?_
    refine V_get (v := .int (mm_I h59 v0 9)) hc gf_Model_40 rfl q61 rfl d_Model_creates_286 ?_
    refine V_callV (rm' := rm_Model_place) (As := [.int (v1), .int (mm_I h59 a62 (Int32.toNatClampNeg (v1))), .int (0), .int (mm_I h59 v0 9)]) (rest := []) (n := 4) (cn := 0) hc rfl q61 (sat_Model_place (eG E) _ _ _ _ _ _ _ hw) rfl cv_Model_318 (gw_of (tw_6 (List.mem_of_getElem? (i := 31) rfl)) rfl) ss_Model_place rfl ⟨by decide, by decide⟩ (by decide) (by decide) rfl (by simp [cat_rf, cat_i, cat_l]) d_Model_creates_289 (fun r0 h66 hw => ?_)
    obtain ⟨rfl, hw⟩ := hw
    refine V_wide (cs' := 0) (sl' := 0) (by decide) (by decide) ?_
    refine V_st (st' := []) rfl ?_
    refine V_aload_n hc 1 d_Model_creates_292 rfl rfl ?_
    obtain ⟨q68, hw⟩ := hw
    refine V_get (v := va_rf (mm_P h66 v0 24)) hc gf_Model_59 rfl q68 rfl d_Model_creates_293 ?_
    refine V_iload_n hc 2 d_Model_creates_296 rfl rfl ?_
    refine V_aload_n hc 1 d_Model_creates_297 rfl rfl ?_
    refine V_get (v := .int (mm_I h66 v0 35)) hc gf_Model_156 rfl q68 rfl d_Model_creates_298 ?_
    obtain ⟨a69, q70, hw⟩ := hw
    obtain ⟨q71, hw⟩ := hw
    obtain ⟨q72, hw⟩ := hw
    obtain ⟨q73, hw⟩ := hw
    obtain ⟨h74, eq_h74⟩ : ∃ x, x = mm_uI h66 a69 (Int32.toNatClampNeg (v1)) (mm_I h66 v0 35) := ⟨_, rfl⟩
    replace hw := hw _ eq_h74
    refine V_iast hc q70 q71 q72 q73 d_Model_creates_301 ?_
    rw [← eq_h74]
    refine V_aload_n hc 1 d_Model_creates_302 rfl rfl ?_
    refine V_dup hc d_Model_creates_303 (cat_rf _) ?_
    obtain ⟨q75, hw⟩ := hw
    refine V_get (v := .int (mm_I h74 v0 9)) hc gf_Model_40 rfl q75 rfl d_Model_creates_304 ?_
    refine V_iconst (v := 1) hc d_Model_creates_307 (by decide) ?_
    refine V_iadd hc d_Model_creates_308 ?_
    obtain ⟨q76, hw⟩ := hw
    obtain ⟨h77, eq_h77⟩ : ∃ x, x = mm_uI h74 (v0) 9 ((mm_I h74 v0 9) + (1 : Int32)) := ⟨_, rfl⟩
    replace hw := hw _ eq_h77
    refine V_put (h' := h77) hc gf_Model_40 rfl rfl q75 q76 (by rw [eq_h77]; exact mm_Up_I _ _ _ _) (by rw [eq_h77]; exact up_vI rfl) (vp_nar_int _) rfl d_Model_creates_309 ?_
    refine V_aload_n hc 1 d_Model_creates_312 rfl rfl ?_
    refine V_iconst (v := 0) hc d_Model_creates_313 (by decide) ?_
    refine V_aload_n hc 1 d_Model_creates_314 rfl rfl ?_
    obtain ⟨q78, hw⟩ := hw
    refine V_get (v := va_rf (mm_P h77 v0 23)) hc gf_Model_56 rfl q78 rfl d_Model_creates_315 ?_
    refine V_iload_n hc 2 d_Model_creates_318 rfl rfl ?_
    obtain ⟨a79, q80, hw⟩ := hw
    obtain ⟨q81, hw⟩ := hw
    obtain ⟨q82, hw⟩ := hw
    refine V_iald hc q80 q81 q82 d_Model_creates_319 ?_
    refine V_callV (rm' := rm_Model_qid) (As := [.int (0), .int (mm_I h77 a79 (Int32.toNatClampNeg (v1)))]) (rest := []) (n := 2) (cn := 0) hc rfl q78 (sat_Model_qid (eG E) _ _ _ _ _ hw) rfl cv_Model_235 (gw_of (tw_6 (List.mem_of_getElem? (i := 35) rfl)) rfl) ss_Model_qid rfl ⟨by decide, by decide⟩ (by decide) (by decide) rfl (by simp [cat_rf, cat_i, cat_l]) d_Model_creates_320 (fun r0 h83 hw => ?_)
    obtain ⟨rfl, hw⟩ := hw
    refine V_wide (cs' := 0) (sl' := 0) (by decide) (by decide) ?_
    refine V_st (st' := []) rfl ?_
    refine V_aload_n hc 1 d_Model_creates_323 rfl rfl ?_
    refine V_lconst (v := 0) hc d_Model_creates_324 (by decide) ?_
    refine V_iconst (v := 4) hc d_Model_creates_325 (by decide) ?_
    obtain ⟨q85, hw⟩ := hw
    refine V_callV (rm' := rm_Model_put) (As := [.long (0), .int (4)]) (rest := []) (n := 2) (cn := 0) hc rfl q85 (sat_Model_put (eG E) _ _ _ _ _ hw) rfl cv_Model_212 (gw_of (tw_6 (List.mem_of_getElem? (i := 15) rfl)) rfl) ss_Model_put rfl ⟨by decide, by decide⟩ (by decide) (by decide) rfl (by simp [cat_rf, cat_i, cat_l]) d_Model_creates_326 (fun r0 h86 hw => ?_)
    obtain ⟨rfl, hw⟩ := hw
    refine V_wide (cs' := 0) (sl' := 0) (by decide) (by decide) ?_
    refine V_st (st' := []) rfl ?_
    exact V_vret hc hq ⟨rfl, hw⟩ (by decide) (by decide) d_Model_creates_329
  · replace hw := hw.2 hq1
    refine V_sub (lv' := []) [] rfl ?_
    exact vb_Model_creates_192 hc hq  _ hw
set_option maxRecDepth 100000 in
set_option maxHeartbeats 4000000 in
theorem vb_Model_creates_161 {E : mm_E} {Z : mm_M → Prop} (hc : cx E "EpochServerModel" c_Model_creates 4 none rm_Model_creates) (hq : cq E rm_Model_creates (pV Z))  (v0 : Nat) (v1 : Int32) (v2 : Int32) (s0 : Option Nat) (s1 : Int32) (h : mm_M) (hw : wq_Model_creates_161  (mm_ge (eG E)) v0 v1 v2 s0 s1 h Z) : V E 4 0 0 h 161 [(0, va_rf (some v0)), (1, .int (v1)), (2, .int (v2))] [.int (s1), va_rf (s0)] := by
  unfold wq_Model_creates_161 at hw
  refine V_bipush (v := 8) hc d_Model_creates_161 (by decide) ?_
  obtain ⟨a1, q2, hw⟩ := hw
  obtain ⟨q3, hw⟩ := hw
  refine V_callV (rm' := rm_Model_fails) (As := [.int (s1), .int (8)]) (rest := []) (n := 2) (cn := 0) hc q2 q3 (sat_Model_fails (eG E) _ _ _ _ _ hw) rfl cv_Model_249 (gw_of (tw_5 (List.mem_of_getElem? (i := 209) rfl)) rfl) ss_Model_fails rfl ⟨by decide, by decide⟩ (by decide) (by decide) rfl (by simp [cat_rf, cat_i, cat_l]) d_Model_creates_163 (fun r0 h4 hw => ?_)
  obtain ⟨r5, rfl, hw⟩ := hw
  refine V_wide (cs' := 0) (sl' := 0) (by decide) (by decide) ?_
  refine V_st (st' := [.int (r5)]) rfl ?_
  refine V_if_ne (tgt := 192) hc d_Model_creates_166 (by decide) (fun hq1 => ?_) (fun hq1 => ?_)
  · replace hw := hw.1 hq1
    refine V_sub (lv' := []) [] rfl ?_
    exact vb_Model_creates_192 hc hq  _ hw
  · replace hw := hw.2 hq1
    refine V_aload_n hc 0 d_Model_creates_169 rfl rfl ?_
    refine V_aload_n hc 0 d_Model_creates_170 rfl rfl ?_
    obtain ⟨q6, hw⟩ := hw
    refine V_get (v := .int (mm_I h4 v0 9)) hc gf_Model_40 rfl q6 rfl d_Model_creates_171 ?_
    refine V_bipush (v := 60) hc d_Model_creates_174 (by decide) ?_
    refine V_icmp_ne (tgt := 183) hc d_Model_creates_176 (by decide) (fun hq1 => ?_) (fun hq1 => ?_)
    · replace hw := hw.1 hq1
      refine V_iconst (v := 0) hc d_Model_creates_183 (by decide) ?_
      refine V_sub (lv' := [(0, va_rf (some v0)), (1, .int (v1)), (2, .int (v2))]) [0, 1, 2] rfl ?_
      exact vb_Model_creates_184 hc hq  _ _ _ _ _ _ hw
    · replace hw := hw.2 hq1
      refine V_iconst (v := 1) hc d_Model_creates_179 (by decide) ?_
      refine V_goto (tgt := 184) hc d_Model_creates_180 (by decide) ?_
      refine V_sub (lv' := [(0, va_rf (some v0)), (1, .int (v1)), (2, .int (v2))]) [0, 1, 2] rfl ?_
      exact vb_Model_creates_184 hc hq  _ _ _ _ _ _ hw
set_option maxRecDepth 100000 in
set_option maxHeartbeats 4000000 in
theorem vb_Model_creates_156 {E : mm_E} {Z : mm_M → Prop} (hc : cx E "EpochServerModel" c_Model_creates 4 none rm_Model_creates) (hq : cq E rm_Model_creates (pV Z))  (v0 : Nat) (v1 : Int32) (v2 : Int32) (s0 : Option Nat) (h : mm_M) (hw : wq_Model_creates_156  (mm_ge (eG E)) v0 v1 v2 s0 h Z) : V E 4 0 0 h 156 [(0, va_rf (some v0)), (1, .int (v1)), (2, .int (v2))] [va_rf (s0)] := by
  unfold wq_Model_creates_156 at hw
  refine V_iconst (v := 1) hc d_Model_creates_156 (by decide) ?_
  refine V_goto (tgt := 161) hc d_Model_creates_157 (by decide) ?_
  refine V_sub (lv' := [(0, va_rf (some v0)), (1, .int (v1)), (2, .int (v2))]) [0, 1, 2] rfl ?_
  exact vb_Model_creates_161 hc hq  _ _ _ _ _ _ hw
set_option maxRecDepth 100000 in
set_option maxHeartbeats 4000000 in
theorem vb_Model_creates_160 {E : mm_E} {Z : mm_M → Prop} (hc : cx E "EpochServerModel" c_Model_creates 4 none rm_Model_creates) (hq : cq E rm_Model_creates (pV Z))  (v0 : Nat) (v1 : Int32) (v2 : Int32) (s0 : Option Nat) (h : mm_M) (hw : wq_Model_creates_160  (mm_ge (eG E)) v0 v1 v2 s0 h Z) : V E 4 0 0 h 160 [(0, va_rf (some v0)), (1, .int (v1)), (2, .int (v2))] [va_rf (s0)] := by
  unfold wq_Model_creates_160 at hw
  refine V_iconst (v := 0) hc d_Model_creates_160 (by decide) ?_
  refine V_sub (lv' := [(0, va_rf (some v0)), (1, .int (v1)), (2, .int (v2))]) [0, 1, 2] rfl ?_
  exact vb_Model_creates_161 hc hq  _ _ _ _ _ _ hw
set_option maxRecDepth 100000 in
set_option maxHeartbeats 4000000 in
theorem vb_Model_creates_126 {E : mm_E} {Z : mm_M → Prop} (hc : cx E "EpochServerModel" c_Model_creates 4 none rm_Model_creates) (hq : cq E rm_Model_creates (pV Z))  (v0 : Nat) (v1 : Int32) (v2 : Int32) (s0 : Option Nat) (s1 : Int32) (h : mm_M) (hw : wq_Model_creates_126  (mm_ge (eG E)) v0 v1 v2 s0 s1 h Z) : V E 4 0 0 h 126 [(0, va_rf (some v0)), (1, .int (v1)), (2, .int (v2))] [.int (s1), va_rf (s0)] := by
  unfold wq_Model_creates_126 at hw
  refine V_bipush (v := 7) hc d_Model_creates_126 (by decide) ?_
  obtain ⟨a1, q2, hw⟩ := hw
  obtain ⟨q3, hw⟩ := hw
  refine V_callV (rm' := rm_Model_fails) (As := [.int (s1), .int (7)]) (rest := []) (n := 2) (cn := 0) hc q2 q3 (sat_Model_fails (eG E) _ _ _ _ _ hw) rfl cv_Model_249 (gw_of (tw_5 (List.mem_of_getElem? (i := 209) rfl)) rfl) ss_Model_fails rfl ⟨by decide, by decide⟩ (by decide) (by decide) rfl (by simp [cat_rf, cat_i, cat_l]) d_Model_creates_128 (fun r0 h4 hw => ?_)
  obtain ⟨r5, rfl, hw⟩ := hw
  refine V_wide (cs' := 0) (sl' := 0) (by decide) (by decide) ?_
  refine V_st (st' := [.int (r5)]) rfl ?_
  refine V_if_ne (tgt := 192) hc d_Model_creates_131 (by decide) (fun hq1 => ?_) (fun hq1 => ?_)
  · replace hw := hw.1 hq1
    refine V_sub (lv' := []) [] rfl ?_
    exact vb_Model_creates_192 hc hq  _ hw
  · replace hw := hw.2 hq1
    refine V_aload_n hc 0 d_Model_creates_134 rfl rfl ?_
    refine V_aload_n hc 0 d_Model_creates_135 rfl rfl ?_
    obtain ⟨q6, hw⟩ := hw
    refine V_callV (rm' := rm_Model_isOddMode) (As := []) (rest := [va_rf (some v0)]) (n := 0) (cn := 0) hc rfl q6 (sat_Model_isOddMode (eG E) _ _ _ hw) rfl cv_Model_330 (gw_of (tw_6 (List.mem_of_getElem? (i := 88) rfl)) rfl) ss_Model_isOddMode rfl ⟨by decide, by decide⟩ (by decide) (by decide) rfl (by simp [cat_rf, cat_i, cat_l]) d_Model_creates_136 (fun r0 h7 hw => ?_)
    obtain ⟨r8, rfl, hw⟩ := hw
    refine V_wide (cs' := 0) (sl' := 0) (by decide) (by decide) ?_
    refine V_st (st' := [.int (r8), va_rf (some v0)]) rfl ?_
    refine V_if_ne (tgt := 156) hc d_Model_creates_139 (by decide) (fun hq1 => ?_) (fun hq1 => ?_)
    · replace hw := hw.1 hq1
      refine V_sub (lv' := [(0, va_rf (some v0)), (1, .int (v1)), (2, .int (v2))]) [0, 1, 2] rfl ?_
      exact vb_Model_creates_156 hc hq  _ _ _ _ _ hw
    · replace hw := hw.2 hq1
      refine V_aload_n hc 0 d_Model_creates_142 rfl rfl ?_
      obtain ⟨q9, hw⟩ := hw
      refine V_get (v := .int (mm_I h7 v0 36)) hc gf_Model_159 rfl q9 rfl d_Model_creates_143 ?_
      refine V_if_ge (tgt := 160) hc d_Model_creates_146 (by decide) (fun hq1 => ?_) (fun hq1 => ?_)
      · replace hw := hw.1 hq1
        refine V_sub (lv' := [(0, va_rf (some v0)), (1, .int (v1)), (2, .int (v2))]) [0, 1, 2] rfl ?_
        exact vb_Model_creates_160 hc hq  _ _ _ _ _ hw
      · replace hw := hw.2 hq1
        refine V_aload_n hc 0 d_Model_creates_149 rfl rfl ?_
        refine V_get (v := .int (mm_I h7 v0 35)) hc gf_Model_156 rfl q9 rfl d_Model_creates_150 ?_
        refine V_if_eq (tgt := 160) hc d_Model_creates_153 (by decide) (fun hq1 => ?_) (fun hq1 => ?_)
        · replace hw := hw.1 hq1
          refine V_sub (lv' := [(0, va_rf (some v0)), (1, .int (v1)), (2, .int (v2))]) [0, 1, 2] rfl ?_
          exact vb_Model_creates_160 hc hq  _ _ _ _ _ hw
        · replace hw := hw.2 hq1
          refine V_sub (lv' := [(0, va_rf (some v0)), (1, .int (v1)), (2, .int (v2))]) [0, 1, 2] rfl ?_
          exact vb_Model_creates_156 hc hq  _ _ _ _ _ hw
set_option maxRecDepth 100000 in
set_option maxHeartbeats 4000000 in
theorem vb_Model_creates_89 {E : mm_E} {Z : mm_M → Prop} (hc : cx E "EpochServerModel" c_Model_creates 4 none rm_Model_creates) (hq : cq E rm_Model_creates (pV Z))  (v0 : Nat) (v1 : Int32) (v2 : Int32) (s0 : Option Nat) (s1 : Int32) (h : mm_M) (hw : wq_Model_creates_89  (mm_ge (eG E)) v0 v1 v2 s0 s1 h Z) : V E 4 0 0 h 89 [(0, va_rf (some v0)), (1, .int (v1)), (2, .int (v2))] [.int (s1), va_rf (s0)] := by
  unfold wq_Model_creates_89 at hw
  refine V_bipush (v := 6) hc d_Model_creates_89 (by decide) ?_
  obtain ⟨a1, q2, hw⟩ := hw
  obtain ⟨q3, hw⟩ := hw
  refine V_callV (rm' := rm_Model_fails) (As := [.int (s1), .int (6)]) (rest := []) (n := 2) (cn := 0) hc q2 q3 (sat_Model_fails (eG E) _ _ _ _ _ hw) rfl cv_Model_249 (gw_of (tw_5 (List.mem_of_getElem? (i := 209) rfl)) rfl) ss_Model_fails rfl ⟨by decide, by decide⟩ (by decide) (by decide) rfl (by simp [cat_rf, cat_i, cat_l]) d_Model_creates_91 (fun r0 h4 hw => ?_)
  obtain ⟨r5, rfl, hw⟩ := hw
  refine V_wide (cs' := 0) (sl' := 0) (by decide) (by decide) ?_
  refine V_st (st' := [.int (r5)]) rfl ?_
  refine V_if_eq (tgt := 98) hc d_Model_creates_94 (by decide) (fun hq1 => ?_) (fun hq1 => ?_)
  · replace hw := hw.1 hq1
    refine V_aload_n hc 0 d_Model_creates_98 rfl rfl ?_
    refine V_aload_n hc 0 d_Model_creates_99 rfl rfl ?_
    refine V_iconst (v := 0) hc d_Model_creates_100 (by decide) ?_
    refine V_aload_n hc 0 d_Model_creates_101 rfl rfl ?_
    obtain ⟨q6, hw⟩ := hw
    refine V_get (v := va_rf (mm_P h4 v0 23)) hc gf_Model_56 rfl q6 rfl d_Model_creates_102 ?_
    refine V_iload_n hc 1 d_Model_creates_105 rfl rfl ?_
    obtain ⟨a7, q8, hw⟩ := hw
    obtain ⟨q9, hw⟩ := hw
    obtain ⟨q10, hw⟩ := hw
    refine V_iald hc q8 q9 q10 d_Model_creates_106 ?_
    refine V_aload_n hc 0 d_Model_creates_107 rfl rfl ?_
    refine V_get (v := .int (mm_I h4 v0 38)) hc gf_Model_141 rfl q6 rfl d_Model_creates_108 ?_
    refine V_aload_n hc 0 d_Model_creates_111 rfl rfl ?_
    refine V_get (v := .int (mm_I h4 v0 39)) hc gf_Model_144 rfl q6 rfl d_Model_creates_112 ?_
    refine V_callV (rm' := rm_Model_child) (As := [.int (0), .int (mm_I h4 a7 (Int32.toNatClampNeg (v1))), .int (mm_I h4 v0 38), .int (mm_I h4 v0 39)]) (rest := [va_rf (some v0)]) (n := 4) (cn := 0) hc rfl q6 (sat_Model_child (eG E) _ _ _ _ _ _ _ hw) rfl cv_Model_326 (gw_of (tw_6 (List.mem_of_getElem? (i := 76) rfl)) rfl) ss_Model_child rfl ⟨by decide, by decide⟩ (by decide) (by decide) rfl (by simp [cat_rf, cat_i, cat_l]) d_Model_creates_115 (fun r0 h11 hw => ?_)
    obtain ⟨r12, rfl, hw⟩ := hw
    refine V_wide (cs' := 0) (sl' := 0) (by decide) (by decide) ?_
    refine V_st (st' := [.int (r12), va_rf (some v0)]) rfl ?_
    refine V_if_lt (tgt := 125) hc d_Model_creates_118 (by decide) (fun hq1 => ?_) (fun hq1 => ?_)
    · replace hw := hw.1 hq1
      refine V_iconst (v := 0) hc d_Model_creates_125 (by decide) ?_
      refine V_sub (lv' := [(0, va_rf (some v0)), (1, .int (v1)), (2, .int (v2))]) [0, 1, 2] rfl ?_
      exact vb_Model_creates_126 hc hq  _ _ _ _ _ _ hw
    · replace hw := hw.2 hq1
      refine V_iconst (v := 1) hc d_Model_creates_121 (by decide) ?_
      refine V_goto (tgt := 126) hc d_Model_creates_122 (by decide) ?_
      refine V_sub (lv' := [(0, va_rf (some v0)), (1, .int (v1)), (2, .int (v2))]) [0, 1, 2] rfl ?_
      exact vb_Model_creates_126 hc hq  _ _ _ _ _ _ hw
  · replace hw := hw.2 hq1
    refine V_sub (lv' := []) [] rfl ?_
    exact vb_Model_creates_97 hc hq  _ hw
set_option maxRecDepth 100000 in
set_option maxHeartbeats 4000000 in
theorem vb_Model_creates_61 {E : mm_E} {Z : mm_M → Prop} (hc : cx E "EpochServerModel" c_Model_creates 4 none rm_Model_creates) (hq : cq E rm_Model_creates (pV Z))  (v0 : Nat) (v1 : Int32) (v2 : Int32) (s0 : Option Nat) (s1 : Int32) (h : mm_M) (hw : wq_Model_creates_61  (mm_ge (eG E)) v0 v1 v2 s0 s1 h Z) : V E 4 0 0 h 61 [(0, va_rf (some v0)), (1, .int (v1)), (2, .int (v2))] [.int (s1), va_rf (s0)] := by
  unfold wq_Model_creates_61 at hw
  refine V_iconst (v := 5) hc d_Model_creates_61 (by decide) ?_
  obtain ⟨a1, q2, hw⟩ := hw
  obtain ⟨q3, hw⟩ := hw
  refine V_callV (rm' := rm_Model_fails) (As := [.int (s1), .int (5)]) (rest := []) (n := 2) (cn := 0) hc q2 q3 (sat_Model_fails (eG E) _ _ _ _ _ hw) rfl cv_Model_249 (gw_of (tw_5 (List.mem_of_getElem? (i := 209) rfl)) rfl) ss_Model_fails rfl ⟨by decide, by decide⟩ (by decide) (by decide) rfl (by simp [cat_rf, cat_i, cat_l]) d_Model_creates_62 (fun r0 h4 hw => ?_)
  obtain ⟨r5, rfl, hw⟩ := hw
  refine V_wide (cs' := 0) (sl' := 0) (by decide) (by decide) ?_
  refine V_st (st' := [.int (r5)]) rfl ?_
  refine V_if_ne (tgt := 97) hc d_Model_creates_65 (by decide) (fun hq1 => ?_) (fun hq1 => ?_)
  · replace hw := hw.1 hq1
    refine V_sub (lv' := []) [] rfl ?_
    exact vb_Model_creates_97 hc hq  _ hw
  · replace hw := hw.2 hq1
    refine V_aload_n hc 0 d_Model_creates_68 rfl rfl ?_
    refine V_aload_n hc 0 d_Model_creates_69 rfl rfl ?_
    refine V_aload_n hc 0 d_Model_creates_70 rfl rfl ?_
    obtain ⟨q6, hw⟩ := hw
    refine V_get (v := .int (mm_I h4 v0 38)) hc gf_Model_141 rfl q6 rfl d_Model_creates_71 ?_
    refine V_aload_n hc 0 d_Model_creates_74 rfl rfl ?_
    refine V_get (v := .int (mm_I h4 v0 39)) hc gf_Model_144 rfl q6 rfl d_Model_creates_75 ?_
    refine V_callV (rm' := rm_Model_isName) (As := [.int (mm_I h4 v0 38), .int (mm_I h4 v0 39)]) (rest := [va_rf (some v0)]) (n := 2) (cn := 0) hc rfl q6 (sat_Model_isName (eG E) _ _ _ _ _ hw) rfl cv_Model_337 (gw_of (tw_6 (List.mem_of_getElem? (i := 96) rfl)) rfl) ss_Model_isName rfl ⟨by decide, by decide⟩ (by decide) (by decide) rfl (by simp [cat_rf, cat_i, cat_l]) d_Model_creates_78 (fun r0 h7 hw => ?_)
    obtain ⟨r8, rfl, hw⟩ := hw
    refine V_wide (cs' := 0) (sl' := 0) (by decide) (by decide) ?_
    refine V_st (st' := [.int (r8), va_rf (some v0)]) rfl ?_
    refine V_if_ne (tgt := 88) hc d_Model_creates_81 (by decide) (fun hq1 => ?_) (fun hq1 => ?_)
    · replace hw := hw.1 hq1
      refine V_iconst (v := 0) hc d_Model_creates_88 (by decide) ?_
      refine V_sub (lv' := [(0, va_rf (some v0)), (1, .int (v1)), (2, .int (v2))]) [0, 1, 2] rfl ?_
      exact vb_Model_creates_89 hc hq  _ _ _ _ _ _ hw
    · replace hw := hw.2 hq1
      refine V_iconst (v := 1) hc d_Model_creates_84 (by decide) ?_
      refine V_goto (tgt := 89) hc d_Model_creates_85 (by decide) ?_
      refine V_sub (lv' := [(0, va_rf (some v0)), (1, .int (v1)), (2, .int (v2))]) [0, 1, 2] rfl ?_
      exact vb_Model_creates_89 hc hq  _ _ _ _ _ _ hw
set_option maxRecDepth 100000 in
set_option maxHeartbeats 4000000 in
theorem vb_Model_creates_56 {E : mm_E} {Z : mm_M → Prop} (hc : cx E "EpochServerModel" c_Model_creates 4 none rm_Model_creates) (hq : cq E rm_Model_creates (pV Z))  (v0 : Nat) (v1 : Int32) (v2 : Int32) (s0 : Option Nat) (h : mm_M) (hw : wq_Model_creates_56  (mm_ge (eG E)) v0 v1 v2 s0 h Z) : V E 4 0 0 h 56 [(0, va_rf (some v0)), (1, .int (v1)), (2, .int (v2))] [va_rf (s0)] := by
  unfold wq_Model_creates_56 at hw
  refine V_iconst (v := 1) hc d_Model_creates_56 (by decide) ?_
  refine V_goto (tgt := 61) hc d_Model_creates_57 (by decide) ?_
  refine V_sub (lv' := [(0, va_rf (some v0)), (1, .int (v1)), (2, .int (v2))]) [0, 1, 2] rfl ?_
  exact vb_Model_creates_61 hc hq  _ _ _ _ _ _ hw
set_option maxRecDepth 100000 in
set_option maxHeartbeats 4000000 in
theorem vb_Model_creates_31 {E : mm_E} {Z : mm_M → Prop} (hc : cx E "EpochServerModel" c_Model_creates 4 none rm_Model_creates) (hq : cq E rm_Model_creates (pV Z))  (v0 : Nat) (v1 : Int32) (v2 : Int32) (s0 : Option Nat) (s1 : Int32) (h : mm_M) (hw : wq_Model_creates_31  (mm_ge (eG E)) v0 v1 v2 s0 s1 h Z) : V E 4 0 0 h 31 [(0, va_rf (some v0)), (1, .int (v1)), (2, .int (v2))] [.int (s1), va_rf (s0)] := by
  unfold wq_Model_creates_31 at hw
  refine V_iconst (v := 3) hc d_Model_creates_31 (by decide) ?_
  obtain ⟨a1, q2, hw⟩ := hw
  obtain ⟨q3, hw⟩ := hw
  refine V_callV (rm' := rm_Model_fails) (As := [.int (s1), .int (3)]) (rest := []) (n := 2) (cn := 0) hc q2 q3 (sat_Model_fails (eG E) _ _ _ _ _ hw) rfl cv_Model_249 (gw_of (tw_5 (List.mem_of_getElem? (i := 209) rfl)) rfl) ss_Model_fails rfl ⟨by decide, by decide⟩ (by decide) (by decide) rfl (by simp [cat_rf, cat_i, cat_l]) d_Model_creates_32 (fun r0 h4 hw => ?_)
  obtain ⟨r5, rfl, hw⟩ := hw
  refine V_wide (cs' := 0) (sl' := 0) (by decide) (by decide) ?_
  refine V_st (st' := [.int (r5)]) rfl ?_
  refine V_if_ne (tgt := 97) hc d_Model_creates_35 (by decide) (fun hq1 => ?_) (fun hq1 => ?_)
  · replace hw := hw.1 hq1
    refine V_sub (lv' := []) [] rfl ?_
    exact vb_Model_creates_97 hc hq  _ hw
  · replace hw := hw.2 hq1
    refine V_aload_n hc 0 d_Model_creates_38 rfl rfl ?_
    refine V_aload_n hc 0 d_Model_creates_39 rfl rfl ?_
    refine V_iload_n hc 2 d_Model_creates_40 rfl rfl ?_
    obtain ⟨q6, hw⟩ := hw
    refine V_callV (rm' := rm_Model_isDirectory) (As := [.int (v2)]) (rest := [va_rf (some v0)]) (n := 1) (cn := 0) hc rfl q6 (sat_Model_isDirectory (eG E) _ _ _ _ hw) rfl cv_Model_230 (gw_of (tw_6 (List.mem_of_getElem? (i := 39) rfl)) rfl) ss_Model_isDirectory rfl ⟨by decide, by decide⟩ (by decide) (by decide) rfl (by simp [cat_rf, cat_i, cat_l]) d_Model_creates_41 (fun r0 h7 hw => ?_)
    obtain ⟨r8, rfl, hw⟩ := hw
    refine V_wide (cs' := 0) (sl' := 0) (by decide) (by decide) ?_
    refine V_st (st' := [.int (r8), va_rf (some v0)]) rfl ?_
    refine V_if_eq (tgt := 56) hc d_Model_creates_44 (by decide) (fun hq1 => ?_) (fun hq1 => ?_)
    · replace hw := hw.1 hq1
      refine V_sub (lv' := [(0, va_rf (some v0)), (1, .int (v1)), (2, .int (v2))]) [0, 1, 2] rfl ?_
      exact vb_Model_creates_56 hc hq  _ _ _ _ _ hw
    · replace hw := hw.2 hq1
      refine V_aload_n hc 0 d_Model_creates_47 rfl rfl ?_
      obtain ⟨q9, hw⟩ := hw
      refine V_get (v := va_rf (mm_P h7 v0 22)) hc gf_Model_53 rfl q9 rfl d_Model_creates_48 ?_
      refine V_iload_n hc 1 d_Model_creates_51 rfl rfl ?_
      obtain ⟨a10, q11, hw⟩ := hw
      obtain ⟨q12, hw⟩ := hw
      obtain ⟨q13, hw⟩ := hw
      refine V_iald hc q11 q12 q13 d_Model_creates_52 ?_
      refine V_if_eq (tgt := 60) hc d_Model_creates_53 (by decide) (fun hq1 => ?_) (fun hq1 => ?_)
      · replace hw := hw.1 hq1
        refine V_iconst (v := 0) hc d_Model_creates_60 (by decide) ?_
        refine V_sub (lv' := [(0, va_rf (some v0)), (1, .int (v1)), (2, .int (v2))]) [0, 1, 2] rfl ?_
        exact vb_Model_creates_61 hc hq  _ _ _ _ _ _ hw
      · replace hw := hw.2 hq1
        refine V_sub (lv' := [(0, va_rf (some v0)), (1, .int (v1)), (2, .int (v2))]) [0, 1, 2] rfl ?_
        exact vb_Model_creates_56 hc hq  _ _ _ _ _ hw
set_option maxRecDepth 100000 in
set_option maxHeartbeats 4000000 in
theorem vb_Model_creates_0 {E : mm_E} {Z : mm_M → Prop} (hc : cx E "EpochServerModel" c_Model_creates 4 none rm_Model_creates) (hq : cq E rm_Model_creates (pV Z))  (v0 : Nat) (v1 : Int32) (h : mm_M) (hw : wq_Model_creates_0  (mm_ge (eG E)) v0 v1 h Z) : V E 4 0 0 h 0 [(0, va_rf (some v0)), (1, .int (v1))] [] := by
  unfold wq_Model_creates_0 at hw
  refine V_aload_n hc 0 d_Model_creates_0 rfl rfl ?_
  obtain ⟨q1, hw⟩ := hw
  refine V_get (v := va_rf (mm_P h v0 22)) hc gf_Model_53 rfl q1 rfl d_Model_creates_1 ?_
  refine V_iload_n hc 1 d_Model_creates_4 rfl rfl ?_
  obtain ⟨a2, q3, hw⟩ := hw
  obtain ⟨q4, hw⟩ := hw
  obtain ⟨q5, hw⟩ := hw
  refine V_iald hc q3 q4 q5 d_Model_creates_5 ?_
  refine V_aload_n hc 0 d_Model_creates_6 rfl rfl ?_
  refine V_get (v := va_rf (mm_P h v0 23)) hc gf_Model_56 rfl q1 rfl d_Model_creates_7 ?_
  refine V_iload_n hc 1 d_Model_creates_10 rfl rfl ?_
  obtain ⟨a6, q7, hw⟩ := hw
  obtain ⟨q8, hw⟩ := hw
  obtain ⟨q9, hw⟩ := hw
  refine V_iald hc q7 q8 q9 d_Model_creates_11 ?_
  refine V_callS (rm' := rm_Model_spot) (As := [.int (mm_I h a2 (Int32.toNatClampNeg (v1))), .int (mm_I h a6 (Int32.toNatClampNeg (v1)))]) (rest := []) (n := 2) hc (sat_Model_spot (eG E) _ _ _ _ hw) cv_Model_96 (gw_of (tw_5 (List.mem_of_getElem? (i := 196) rfl)) rfl) rfl ⟨by decide, by decide⟩ (by decide) (by decide) rfl (by simp [cat_rf, cat_i, cat_l]) d_Model_creates_12 (fun r0 h10 hw => ?_)
  obtain ⟨r11, rfl, hw⟩ := hw
  refine V_wide (cs' := 0) (sl' := 0) (by decide) (by decide) ?_
  refine V_st (st' := [.int (r11)]) rfl ?_
  refine V_istore_n (i := 2) (lv' := [(2, .int (r11)), (0, va_rf (some v0)), (1, .int (v1))]) hc d_Model_creates_15 rfl (by decide) rfl ?_
  refine V_aload_n hc 1 d_Model_creates_16 rfl rfl ?_
  refine V_aload_n hc 1 d_Model_creates_17 rfl rfl ?_
  obtain ⟨q12, hw⟩ := hw
  refine V_get (v := va_rf (mm_P h10 v0 24)) hc gf_Model_59 rfl q12 rfl d_Model_creates_18 ?_
  refine V_iload_n hc 2 d_Model_creates_21 rfl rfl ?_
  obtain ⟨a13, q14, hw⟩ := hw
  obtain ⟨q15, hw⟩ := hw
  obtain ⟨q16, hw⟩ := hw
  refine V_iald hc q14 q15 q16 d_Model_creates_22 ?_
  refine V_if_lt (tgt := 30) hc d_Model_creates_23 (by decide) (fun hq1 => ?_) (fun hq1 => ?_)
  · replace hw := hw.1 hq1
    refine V_iconst (v := 0) hc d_Model_creates_30 (by decide) ?_
    refine V_sub (lv' := [(0, va_rf (some v0)), (1, .int (v1)), (2, .int (r11))]) [1, 2, 0] rfl ?_
    exact vb_Model_creates_31 hc hq  _ _ _ _ _ _ hw
  · replace hw := hw.2 hq1
    refine V_iconst (v := 1) hc d_Model_creates_26 (by decide) ?_
    refine V_goto (tgt := 31) hc d_Model_creates_27 (by decide) ?_
    refine V_sub (lv' := [(0, va_rf (some v0)), (1, .int (v1)), (2, .int (r11))]) [1, 2, 0] rfl ?_
    exact vb_Model_creates_31 hc hq  _ _ _ _ _ _ hw
def wq_Model_creates (ge : Nat → Nat) (v0 : Nat) (v1 : Int32) (h : mm_M) (Z : mm_M → Prop) : Prop := wq_Model_creates_0 ge v0 v1 h Z
theorem sat_Model_creates (G : mm_G) (v0 : Nat) (v1 : Int32) (h : mm_M) (Z : mm_M → Prop) (hw : wq_Model_creates (mm_ge G) v0 v1 h Z) : mm_Met G y_Model_creates c_Model_creates 4 none rm_Model_creates [va_rf (some v0), .int (v1)] h (pV Z) := by
  refine mm_intro (own := "EpochServerModel") (by decide) rfl (by simp [lg_sl, cat_rf, cat_i, cat_l]) (fun E e1 hc hq hi => ?_)
  subst e1
  have e2 : lv_args 0 [va_rf (some v0), .int (v1)] = [(0, va_rf (some v0)), (1, .int (v1))] := by simp [lv_args, cat_rf, cat_i, cat_l]
  rw [e2]
  refine V_sub (lv' := [(0, va_rf (some v0)), (1, .int (v1))]) [0, 1] rfl ?_
  exact vb_Model_creates_0 hc hq v0 v1 h hw
/-! Model.stat(II)V -/
abbrev rm_Model_stat : Room := { frames := 2, cells := 0, slots := 0, locals := 47 }
def wq_Model_stat_148 (X148 : Nat → Int32 → mm_M → Prop) (ge : Nat → Nat) (v0 : Nat) (v4 : Int32) (h : mm_M) (Z : mm_M → Prop) : Prop :=
  (((3 : Int32) ≤ (v4 : Int32) → Z h) ∧ (¬ (3 : Int32) ≤ (v4 : Int32) → mm_k h (v0) = kd_Model ∧ wq_Model_put ge (v0) (1) (2) h (fun h2 : mm_M => mm_k h2 (v0) = kd_Model ∧ wq_Model_put ge (v0) (103) (1) h2 (fun h5 : mm_M => X148 (v0) (v4 + 1) h5))))
def lp_Model_stat_148  (ge : Nat → Nat) (v0 : Nat) (v4 : Int32) (h : mm_M) (Z : mm_M → Prop) : Prop :=
  ∀ X148 : Nat → Int32 → mm_M → Prop, (∀ (v0 : Nat) (v4 : Int32) (h : mm_M), wq_Model_stat_148 X148 ge v0 v4 h Z → X148 v0 v4 h) → X148 v0 v4 h
def wq_Model_stat_110 (X110 : Nat → Int32 → Int32 → mm_M → Prop) (ge : Nat → Nat) (v0 : Nat) (v3 : Int32) (v4 : Int32) (h : mm_M) (Z : mm_M → Prop) : Prop :=
  mm_k h (v0) = kd_Model ∧ ∃ a2, mm_P h v0 6 = some a2 ∧ mm_k h (a2) = ka_I ∧ vp_in (v3) (mm_n h a2) ∧ (((mm_I h a2 (Int32.toNatClampNeg (v3)) : Int32) ≤ (v4 : Int32) → lp_Model_stat_148  ge (v0) (0) h Z) ∧ (¬ (mm_I h a2 (Int32.toNatClampNeg (v3)) : Int32) ≤ (v4 : Int32) → ∃ a6, mm_P h v0 7 = some a6 ∧ mm_k h (a6) = ka_I ∧ vp_in (((20 : Int32) * (v3)) + (v4)) (mm_n h a6) ∧ wq_Model_put ge (v0) (Int32.toInt64 (mm_I h a6 (Int32.toNatClampNeg (((20 : Int32) * (v3)) + (v4))))) (1) h (fun h10 : mm_M => X110 (v0) (v3) (v4 + 1) h10)))
def lp_Model_stat_110  (ge : Nat → Nat) (v0 : Nat) (v3 : Int32) (v4 : Int32) (h : mm_M) (Z : mm_M → Prop) : Prop :=
  ∀ X110 : Nat → Int32 → Int32 → mm_M → Prop, (∀ (v0 : Nat) (v3 : Int32) (v4 : Int32) (h : mm_M), wq_Model_stat_110 X110 ge v0 v3 v4 h Z → X110 v0 v3 v4 h) → X110 v0 v3 v4 h
def wq_Model_stat_90  (ge : Nat → Nat) (v0 : Nat) (v3 : Int32) (s0 : Option Nat) (s1 : Int64) (h : mm_M) (Z : mm_M → Prop) : Prop :=
  ∃ a1, s0 = some a1 ∧ mm_k h (a1) = kd_Model ∧ wq_Model_put ge (a1) (s1) (8) h (fun h4 : mm_M => mm_k h4 (v0) = kd_Model ∧ ∃ a7, mm_P h4 v0 6 = some a7 ∧ mm_k h4 (a7) = ka_I ∧ vp_in (v3) (mm_n h4 a7) ∧ wq_Model_put ge (v0) (Int32.toInt64 (mm_I h4 a7 (Int32.toNatClampNeg (v3)))) (2) h4 (fun h11 : mm_M => lp_Model_stat_110  ge (v0) (v3) (0) h11 Z))
def wq_Model_stat_0  (ge : Nat → Nat) (v0 : Nat) (v1 : Int32) (v2 : Int32) (h : mm_M) (Z : mm_M → Prop) : Prop :=
  wq_Model_spot ge (v1) (v2) h (fun (r2 : Int32) (h1 : mm_M) => mm_k h1 (v0) = kd_Model ∧ ∃ a4, mm_P h1 v0 6 = some a4 ∧ mm_k h1 (a4) = ka_I ∧ vp_in (r2) (mm_n h1 a4) ∧ wq_Model_put ge (v0) (Int32.toInt64 ((50 : Int32) + (mm_I h1 a4 (Int32.toNatClampNeg (r2))))) (2) h1 (fun h8 : mm_M => mm_k h8 (v0) = kd_Model ∧ wq_Model_put ge (v0) (0) (6) h8 (fun h11 : mm_M => mm_k h11 (v0) = kd_Model ∧ wq_Model_qid ge (v0) (v1) (v2) h11 (fun h14 : mm_M => mm_k h14 (v0) = kd_Model ∧ ∃ a17, mm_P h14 v0 2 = some a17 ∧ mm_k h14 (a17) = ka_I ∧ vp_in (r2) (mm_n h14 a17) ∧ wq_Model_put ge (v0) (Int32.toInt64 (mm_I h14 a17 (Int32.toNatClampNeg (r2)))) (4) h14 (fun h21 : mm_M => mm_k h21 (v0) = kd_Model ∧ ∃ a24, mm_P h21 v0 4 = some a24 ∧ mm_k h21 (a24) = ka_I ∧ vp_in (r2) (mm_n h21 a24) ∧ wq_Model_put ge (v0) (Int32.toInt64 (mm_I h21 a24 (Int32.toNatClampNeg (r2)))) (4) h21 (fun h28 : mm_M => mm_k h28 (v0) = kd_Model ∧ ∃ a31, mm_P h28 v0 4 = some a31 ∧ mm_k h28 (a31) = ka_I ∧ vp_in (r2) (mm_n h28 a31) ∧ wq_Model_put ge (v0) (Int32.toInt64 (mm_I h28 a31 (Int32.toNatClampNeg (r2)))) (4) h28 (fun h35 : mm_M => mm_k h35 (v0) = kd_Model ∧ wq_Model_isDirectory ge (v0) (r2) h35 (fun (r39 : Int32) (h38 : mm_M) => (((r39) = 0 → mm_k h38 (v0) = kd_Model ∧ ∃ a41, mm_P h38 v0 5 = some a41 ∧ mm_k h38 (a41) = ka_I ∧ vp_in (r2) (mm_n h38 a41) ∧ wq_Model_stat_90  ge (v0) (r2) (some v0) (Int32.toInt64 (mm_I h38 a41 (Int32.toNatClampNeg (r2)))) h38 Z) ∧ (¬ (r39) = 0 → wq_Model_stat_90  ge (v0) (r2) (some v0) (0) h38 Z))))))))))
set_option maxRecDepth 100000 in
set_option maxHeartbeats 4000000 in
theorem vb_Model_stat_148 {E : mm_E} {Z : mm_M → Prop} (hc : cx E "EpochServerModel" c_Model_stat 5 none rm_Model_stat) (hq : cq E rm_Model_stat (pV Z)) (X148 : Nat → Int32 → mm_M → Prop) (hX148 : ∀ (v0 : Nat) (v4 : Int32) (h : mm_M), X148 v0 v4 h → V E 5 0 0 h 148 [(0, va_rf (some v0)), (4, .int (v4))] []) (v0 : Nat) (v4 : Int32) (h : mm_M) (hw : wq_Model_stat_148 X148 (mm_ge (eG E)) v0 v4 h Z) : V E 5 0 0 h 148 [(0, va_rf (some v0)), (4, .int (v4))] [] := by
  unfold wq_Model_stat_148 at hw
  refine V_iload hc 1 d_Model_stat_148 rfl ?_
  refine V_iconst (v := 3) hc d_Model_stat_150 (by decide) ?_
  refine V_icmp_ge (tgt := 174) hc d_Model_stat_151 (by decide) (fun hq1 => ?_) (fun hq1 => ?_)
  · replace hw := hw.1 hq1
    exact V_vret hc hq ⟨rfl, hw⟩ (by decide) (by decide) d_Model_stat_174
  · replace hw := hw.2 hq1
    refine V_aload_n hc 0 d_Model_stat_154 rfl rfl ?_
    refine V_lconst (v := 1) hc d_Model_stat_155 (by decide) ?_
    refine V_iconst (v := 2) hc d_Model_stat_156 (by decide) ?_
    obtain ⟨q1, hw⟩ := hw
    refine V_callV (rm' := rm_Model_put) (As := [.long (1), .int (2)]) (rest := []) (n := 2) (cn := 0) hc rfl q1 (sat_Model_put (eG E) _ _ _ _ _ hw) rfl cv_Model_212 (gw_of (tw_6 (List.mem_of_getElem? (i := 15) rfl)) rfl) ss_Model_put rfl ⟨by decide, by decide⟩ (by decide) (by decide) rfl (by simp [cat_rf, cat_i, cat_l]) d_Model_stat_157 (fun r0 h2 hw => ?_)
    obtain ⟨rfl, hw⟩ := hw
    refine V_wide (cs' := 0) (sl' := 0) (by decide) (by decide) ?_
    refine V_st (st' := []) rfl ?_
    refine V_aload_n hc 0 d_Model_stat_160 rfl rfl ?_
    refine V_ldc2 (v := 103) hc (gw_of (tw_6 (List.mem_of_getElem? (i := 110) rfl)) rfl) d_Model_stat_161 ?_
    refine V_iconst (v := 1) hc d_Model_stat_164 (by decide) ?_
    obtain ⟨q4, hw⟩ := hw
    refine V_callV (rm' := rm_Model_put) (As := [.long (103), .int (1)]) (rest := []) (n := 2) (cn := 0) hc rfl q4 (sat_Model_put (eG E) _ _ _ _ _ hw) rfl cv_Model_212 (gw_of (tw_6 (List.mem_of_getElem? (i := 15) rfl)) rfl) ss_Model_put rfl ⟨by decide, by decide⟩ (by decide) (by decide) rfl (by simp [cat_rf, cat_i, cat_l]) d_Model_stat_165 (fun r0 h5 hw => ?_)
    obtain ⟨rfl, hw⟩ := hw
    refine V_wide (cs' := 0) (sl' := 0) (by decide) (by decide) ?_
    refine V_st (st' := []) rfl ?_
    refine V_iinc (v := v4 + 1) (lv' := [(4, .int (v4 + 1)), (0, va_rf (some v0))]) hc 1 d_Model_stat_168 rfl rfl (by decide) rfl ?_
    refine V_goto (tgt := 148) hc d_Model_stat_171 (by decide) ?_
    refine V_sub (lv' := [(0, va_rf (some v0)), (4, .int (v4 + 1))]) [1, 0] rfl ?_
    exact hX148 _ _ _ hw
theorem vl_Model_stat_148 {E : mm_E} {Z : mm_M → Prop} (hc : cx E "EpochServerModel" c_Model_stat 5 none rm_Model_stat) (hq : cq E rm_Model_stat (pV Z))  (v0 : Nat) (v4 : Int32) (h : mm_M) (hw : lp_Model_stat_148  (mm_ge (eG E)) v0 v4 h Z) : V E 5 0 0 h 148 [(0, va_rf (some v0)), (4, .int (v4))] [] :=
  hw (fun v0 v4 h => V E 5 0 0 h 148 [(0, va_rf (some v0)), (4, .int (v4))] []) (fun v0 v4 h hb => vb_Model_stat_148 hc hq  _ (fun _ _ _ q => q) v0 v4 h hb)
set_option maxRecDepth 100000 in
set_option maxHeartbeats 4000000 in
theorem vb_Model_stat_110 {E : mm_E} {Z : mm_M → Prop} (hc : cx E "EpochServerModel" c_Model_stat 5 none rm_Model_stat) (hq : cq E rm_Model_stat (pV Z)) (X110 : Nat → Int32 → Int32 → mm_M → Prop) (hX110 : ∀ (v0 : Nat) (v3 : Int32) (v4 : Int32) (h : mm_M), X110 v0 v3 v4 h → V E 5 0 0 h 110 [(0, va_rf (some v0)), (3, .int (v3)), (4, .int (v4))] []) (v0 : Nat) (v3 : Int32) (v4 : Int32) (h : mm_M) (hw : wq_Model_stat_110 X110 (mm_ge (eG E)) v0 v3 v4 h Z) : V E 5 0 0 h 110 [(0, va_rf (some v0)), (3, .int (v3)), (4, .int (v4))] [] := by
  unfold wq_Model_stat_110 at hw
  refine V_iload hc 2 d_Model_stat_110 rfl ?_
  refine V_aload_n hc 0 d_Model_stat_112 rfl rfl ?_
  obtain ⟨q1, hw⟩ := hw
  refine V_get (v := va_rf (mm_P h v0 6)) hc gf_Model_29 rfl q1 rfl d_Model_stat_113 ?_
  refine V_iload_n hc 1 d_Model_stat_116 rfl rfl ?_
  obtain ⟨a2, q3, hw⟩ := hw
  obtain ⟨q4, hw⟩ := hw
  obtain ⟨q5, hw⟩ := hw
  refine V_iald hc q3 q4 q5 d_Model_stat_117 ?_
  refine V_icmp_ge (tgt := 145) hc d_Model_stat_118 (by decide) (fun hq1 => ?_) (fun hq1 => ?_)
  · replace hw := hw.1 hq1
    refine V_iconst (v := 0) hc d_Model_stat_145 (by decide) ?_
    refine V_istore (i := 4) (lv' := [(4, .int (0)), (0, va_rf (some v0)), (3, .int (v3))]) hc d_Model_stat_146 (by decide) rfl ?_
    refine V_sub (lv' := [(0, va_rf (some v0)), (4, .int (0))]) [1, 0] rfl ?_
    exact vl_Model_stat_148 hc hq  _ _ _ hw
  · replace hw := hw.2 hq1
    refine V_aload_n hc 0 d_Model_stat_121 rfl rfl ?_
    refine V_aload_n hc 0 d_Model_stat_122 rfl rfl ?_
    refine V_get (v := va_rf (mm_P h v0 7)) hc gf_Model_33 rfl q1 rfl d_Model_stat_123 ?_
    refine V_bipush (v := 20) hc d_Model_stat_126 (by decide) ?_
    refine V_iload_n hc 1 d_Model_stat_128 rfl rfl ?_
    refine V_imul hc d_Model_stat_129 ?_
    refine V_iload hc 2 d_Model_stat_130 rfl ?_
    refine V_iadd hc d_Model_stat_132 ?_
    obtain ⟨a6, q7, hw⟩ := hw
    obtain ⟨q8, hw⟩ := hw
    obtain ⟨q9, hw⟩ := hw
    refine V_iald hc q7 q8 q9 d_Model_stat_133 ?_
    refine V_i2l hc d_Model_stat_134 ?_
    refine V_iconst (v := 1) hc d_Model_stat_135 (by decide) ?_
    refine V_callV (rm' := rm_Model_put) (As := [.long (Int32.toInt64 (mm_I h a6 (Int32.toNatClampNeg (((20 : Int32) * (v3)) + (v4))))), .int (1)]) (rest := []) (n := 2) (cn := 0) hc rfl q1 (sat_Model_put (eG E) _ _ _ _ _ hw) rfl cv_Model_212 (gw_of (tw_6 (List.mem_of_getElem? (i := 15) rfl)) rfl) ss_Model_put rfl ⟨by decide, by decide⟩ (by decide) (by decide) rfl (by simp [cat_rf, cat_i, cat_l]) d_Model_stat_136 (fun r0 h10 hw => ?_)
    obtain ⟨rfl, hw⟩ := hw
    refine V_wide (cs' := 0) (sl' := 0) (by decide) (by decide) ?_
    refine V_st (st' := []) rfl ?_
    refine V_iinc (v := v4 + 1) (lv' := [(4, .int (v4 + 1)), (0, va_rf (some v0)), (3, .int (v3))]) hc 2 d_Model_stat_139 rfl rfl (by decide) rfl ?_
    refine V_goto (tgt := 110) hc d_Model_stat_142 (by decide) ?_
    refine V_sub (lv' := [(0, va_rf (some v0)), (3, .int (v3)), (4, .int (v4 + 1))]) [1, 2, 0] rfl ?_
    exact hX110 _ _ _ _ hw
theorem vl_Model_stat_110 {E : mm_E} {Z : mm_M → Prop} (hc : cx E "EpochServerModel" c_Model_stat 5 none rm_Model_stat) (hq : cq E rm_Model_stat (pV Z))  (v0 : Nat) (v3 : Int32) (v4 : Int32) (h : mm_M) (hw : lp_Model_stat_110  (mm_ge (eG E)) v0 v3 v4 h Z) : V E 5 0 0 h 110 [(0, va_rf (some v0)), (3, .int (v3)), (4, .int (v4))] [] :=
  hw (fun v0 v3 v4 h => V E 5 0 0 h 110 [(0, va_rf (some v0)), (3, .int (v3)), (4, .int (v4))] []) (fun v0 v3 v4 h hb => vb_Model_stat_110 hc hq  _ (fun _ _ _ _ q => q) v0 v3 v4 h hb)
set_option maxRecDepth 100000 in
set_option maxHeartbeats 4000000 in
theorem vb_Model_stat_90 {E : mm_E} {Z : mm_M → Prop} (hc : cx E "EpochServerModel" c_Model_stat 5 none rm_Model_stat) (hq : cq E rm_Model_stat (pV Z))  (v0 : Nat) (v3 : Int32) (s0 : Option Nat) (s1 : Int64) (h : mm_M) (hw : wq_Model_stat_90  (mm_ge (eG E)) v0 v3 s0 s1 h Z) : V E 5 0 0 h 90 [(0, va_rf (some v0)), (3, .int (v3))] [.long (s1), va_rf (s0)] := by
  unfold wq_Model_stat_90 at hw
  refine V_bipush (v := 8) hc d_Model_stat_90 (by decide) ?_
  obtain ⟨a1, q2, hw⟩ := hw
  obtain ⟨q3, hw⟩ := hw
  refine V_callV (rm' := rm_Model_put) (As := [.long (s1), .int (8)]) (rest := []) (n := 2) (cn := 0) hc q2 q3 (sat_Model_put (eG E) _ _ _ _ _ hw) rfl cv_Model_212 (gw_of (tw_6 (List.mem_of_getElem? (i := 15) rfl)) rfl) ss_Model_put rfl ⟨by decide, by decide⟩ (by decide) (by decide) rfl (by simp [cat_rf, cat_i, cat_l]) d_Model_stat_92 (fun r0 h4 hw => ?_)
  obtain ⟨rfl, hw⟩ := hw
  refine V_wide (cs' := 0) (sl' := 0) (by decide) (by decide) ?_
  refine V_st (st' := []) rfl ?_
  refine V_aload_n hc 0 d_Model_stat_95 rfl rfl ?_
  refine V_aload_n hc 0 d_Model_stat_96 rfl rfl ?_
  obtain ⟨q6, hw⟩ := hw
  refine V_get (v := va_rf (mm_P h4 v0 6)) hc gf_Model_29 rfl q6 rfl d_Model_stat_97 ?_
  refine V_iload_n hc 1 d_Model_stat_100 rfl rfl ?_
  obtain ⟨a7, q8, hw⟩ := hw
  obtain ⟨q9, hw⟩ := hw
  obtain ⟨q10, hw⟩ := hw
  refine V_iald hc q8 q9 q10 d_Model_stat_101 ?_
  refine V_i2l hc d_Model_stat_102 ?_
  refine V_iconst (v := 2) hc d_Model_stat_103 (by decide) ?_
  refine V_callV (rm' := rm_Model_put) (As := [.long (Int32.toInt64 (mm_I h4 a7 (Int32.toNatClampNeg (v3)))), .int (2)]) (rest := []) (n := 2) (cn := 0) hc rfl q6 (sat_Model_put (eG E) _ _ _ _ _ hw) rfl cv_Model_212 (gw_of (tw_6 (List.mem_of_getElem? (i := 15) rfl)) rfl) ss_Model_put rfl ⟨by decide, by decide⟩ (by decide) (by decide) rfl (by simp [cat_rf, cat_i, cat_l]) d_Model_stat_104 (fun r0 h11 hw => ?_)
  obtain ⟨rfl, hw⟩ := hw
  refine V_wide (cs' := 0) (sl' := 0) (by decide) (by decide) ?_
  refine V_st (st' := []) rfl ?_
  refine V_iconst (v := 0) hc d_Model_stat_107 (by decide) ?_
  refine V_istore (i := 4) (lv' := [(4, .int (0)), (0, va_rf (some v0)), (3, .int (v3))]) hc d_Model_stat_108 (by decide) rfl ?_
  refine V_sub (lv' := [(0, va_rf (some v0)), (3, .int (v3)), (4, .int (0))]) [1, 2, 0] rfl ?_
  exact vl_Model_stat_110 hc hq  _ _ _ _ hw
set_option maxRecDepth 100000 in
set_option maxHeartbeats 4000000 in
theorem vb_Model_stat_0 {E : mm_E} {Z : mm_M → Prop} (hc : cx E "EpochServerModel" c_Model_stat 5 none rm_Model_stat) (hq : cq E rm_Model_stat (pV Z))  (v0 : Nat) (v1 : Int32) (v2 : Int32) (h : mm_M) (hw : wq_Model_stat_0  (mm_ge (eG E)) v0 v1 v2 h Z) : V E 5 0 0 h 0 [(0, va_rf (some v0)), (1, .int (v1)), (2, .int (v2))] [] := by
  unfold wq_Model_stat_0 at hw
  refine V_iload_n hc 1 d_Model_stat_0 rfl rfl ?_
  refine V_iload_n hc 2 d_Model_stat_1 rfl rfl ?_
  refine V_callS (rm' := rm_Model_spot) (As := [.int (v1), .int (v2)]) (rest := []) (n := 2) hc (sat_Model_spot (eG E) _ _ _ _ hw) cv_Model_96 (gw_of (tw_5 (List.mem_of_getElem? (i := 196) rfl)) rfl) rfl ⟨by decide, by decide⟩ (by decide) (by decide) rfl (by simp [cat_rf, cat_i, cat_l]) d_Model_stat_2 (fun r0 h1 hw => ?_)
  obtain ⟨r2, rfl, hw⟩ := hw
  refine V_wide (cs' := 0) (sl' := 0) (by decide) (by decide) ?_
  refine V_st (st' := [.int (r2)]) rfl ?_
  refine V_istore_n (i := 3) (lv' := [(3, .int (r2)), (0, va_rf (some v0)), (1, .int (v1)), (2, .int (v2))]) hc d_Model_stat_5 rfl (by decide) rfl ?_
  refine V_aload_n hc 1 d_Model_stat_6 rfl rfl ?_
  refine V_bipush (v := 50) hc d_Model_stat_7 (by decide) ?_
  refine V_aload_n hc 1 d_Model_stat_9 rfl rfl ?_
  obtain ⟨q3, hw⟩ := hw
  refine V_get (v := va_rf (mm_P h1 v0 6)) hc gf_Model_29 rfl q3 rfl d_Model_stat_10 ?_
  refine V_iload_n hc 0 d_Model_stat_13 rfl rfl ?_
  obtain ⟨a4, q5, hw⟩ := hw
  obtain ⟨q6, hw⟩ := hw
  obtain ⟨q7, hw⟩ := hw
  refine V_iald hc q5 q6 q7 d_Model_stat_14 ?_
  refine V_iadd hc d_Model_stat_15 ?_
  refine V_i2l hc d_Model_stat_16 ?_
  refine V_iconst (v := 2) hc d_Model_stat_17 (by decide) ?_
  refine V_callV (rm' := rm_Model_put) (As := [.long (Int32.toInt64 ((50 : Int32) + (mm_I h1 a4 (Int32.toNatClampNeg (r2))))), .int (2)]) (rest := []) (n := 2) (cn := 0) hc rfl q3 (sat_Model_put (eG E) _ _ _ _ _ hw) rfl cv_Model_212 (gw_of (tw_6 (List.mem_of_getElem? (i := 15) rfl)) rfl) ss_Model_put rfl ⟨by decide, by decide⟩ (by decide) (by decide) rfl (by simp [cat_rf, cat_i, cat_l]) d_Model_stat_18 (fun r0 h8 hw => ?_)
  obtain ⟨rfl, hw⟩ := hw
  refine V_wide (cs' := 0) (sl' := 0) (by decide) (by decide) ?_
  refine V_st (st' := []) rfl ?_
  refine V_aload_n hc 1 d_Model_stat_21 rfl rfl ?_
  refine V_lconst (v := 0) hc d_Model_stat_22 (by decide) ?_
  refine V_bipush (v := 6) hc d_Model_stat_23 (by decide) ?_
  obtain ⟨q10, hw⟩ := hw
  refine V_callV (rm' := rm_Model_put) (As := [.long (0), .int (6)]) (rest := []) (n := 2) (cn := 0) hc rfl q10 (sat_Model_put (eG E) _ _ _ _ _ hw) rfl cv_Model_212 (gw_of (tw_6 (List.mem_of_getElem? (i := 15) rfl)) rfl) ss_Model_put rfl ⟨by decide, by decide⟩ (by decide) (by decide) rfl (by simp [cat_rf, cat_i, cat_l]) d_Model_stat_25 (fun r0 h11 hw => ?_)
  obtain ⟨rfl, hw⟩ := hw
  refine V_wide (cs' := 0) (sl' := 0) (by decide) (by decide) ?_
  refine V_st (st' := []) rfl ?_
  refine V_aload_n hc 1 d_Model_stat_28 rfl rfl ?_
  refine V_iload_n hc 2 d_Model_stat_29 rfl rfl ?_
  refine V_iload_n hc 3 d_Model_stat_30 rfl rfl ?_
  obtain ⟨q13, hw⟩ := hw
  refine V_callV (rm' := rm_Model_qid) (As := [.int (v1), .int (v2)]) (rest := []) (n := 2) (cn := 0) hc rfl q13 (sat_Model_qid (eG E) _ _ _ _ _ hw) rfl cv_Model_235 (gw_of (tw_6 (List.mem_of_getElem? (i := 35) rfl)) rfl) ss_Model_qid rfl ⟨by decide, by decide⟩ (by decide) (by decide) rfl (by simp [cat_rf, cat_i, cat_l]) d_Model_stat_31 (fun r0 h14 hw => ?_)
  obtain ⟨rfl, hw⟩ := hw
  refine V_wide (cs' := 0) (sl' := 0) (by decide) (by decide) ?_
  refine V_st (st' := []) rfl ?_
  refine V_aload_n hc 1 d_Model_stat_34 rfl rfl ?_
  refine V_aload_n hc 1 d_Model_stat_35 rfl rfl ?_
  obtain ⟨q16, hw⟩ := hw
  refine V_get (v := va_rf (mm_P h14 v0 2)) hc gf_Model_17 rfl q16 rfl d_Model_stat_36 ?_
  refine V_iload_n hc 0 d_Model_stat_39 rfl rfl ?_
  obtain ⟨a17, q18, hw⟩ := hw
  obtain ⟨q19, hw⟩ := hw
  obtain ⟨q20, hw⟩ := hw
  refine V_iald hc q18 q19 q20 d_Model_stat_40 ?_
  refine V_i2l hc d_Model_stat_41 ?_
  refine V_iconst (v := 4) hc d_Model_stat_42 (by decide) ?_
  refine V_callV (rm' := rm_Model_put) (As := [.long (Int32.toInt64 (mm_I h14 a17 (Int32.toNatClampNeg (r2)))), .int (4)]) (rest := []) (n := 2) (cn := 0) hc rfl q16 (sat_Model_put (eG E) _ _ _ _ _ hw) rfl cv_Model_212 (gw_of (tw_6 (List.mem_of_getElem? (i := 15) rfl)) rfl) ss_Model_put rfl ⟨by decide, by decide⟩ (by decide) (by decide) rfl (by simp [cat_rf, cat_i, cat_l]) d_Model_stat_43 (fun r0 h21 hw => ?_)
  obtain ⟨rfl, hw⟩ := hw
  refine V_wide (cs' := 0) (sl' := 0) (by decide) (by decide) ?_
  refine V_st (st' := []) rfl ?_
  refine V_aload_n hc 1 d_Model_stat_46 rfl rfl ?_
  refine V_aload_n hc 1 d_Model_stat_47 rfl rfl ?_
  obtain ⟨q23, hw⟩ := hw
  refine V_get (v := va_rf (mm_P h21 v0 4)) hc gf_Model_23 rfl q23 rfl d_Model_stat_48 ?_
  refine V_iload_n hc 0 d_Model_stat_51 rfl rfl ?_
  obtain ⟨a24, q25, hw⟩ := hw
  obtain ⟨q26, hw⟩ := hw
  obtain ⟨q27, hw⟩ := hw
  refine V_iald hc q25 q26 q27 d_Model_stat_52 ?_
  refine V_i2l hc d_Model_stat_53 ?_
  refine V_iconst (v := 4) hc d_Model_stat_54 (by decide) ?_
  refine V_callV (rm' := rm_Model_put) (As := [.long (Int32.toInt64 (mm_I h21 a24 (Int32.toNatClampNeg (r2)))), .int (4)]) (rest := []) (n := 2) (cn := 0) hc rfl q23 (sat_Model_put (eG E) _ _ _ _ _ hw) rfl cv_Model_212 (gw_of (tw_6 (List.mem_of_getElem? (i := 15) rfl)) rfl) ss_Model_put rfl ⟨by decide, by decide⟩ (by decide) (by decide) rfl (by simp [cat_rf, cat_i, cat_l]) d_Model_stat_55 (fun r0 h28 hw => ?_)
  obtain ⟨rfl, hw⟩ := hw
  refine V_wide (cs' := 0) (sl' := 0) (by decide) (by decide) ?_
  refine V_st (st' := []) rfl ?_
  refine V_aload_n hc 1 d_Model_stat_58 rfl rfl ?_
  refine V_aload_n hc 1 d_Model_stat_59 rfl rfl ?_
  obtain ⟨q30, hw⟩ := hw
  refine V_get (v := va_rf (mm_P h28 v0 4)) hc gf_Model_23 rfl q30 rfl d_Model_stat_60 ?_
  refine V_iload_n hc 0 d_Model_stat_63 rfl rfl ?_
  obtain ⟨a31, q32, hw⟩ := hw
  obtain ⟨q33, hw⟩ := hw
  obtain ⟨q34, hw⟩ := hw
  refine V_iald hc q32 q33 q34 d_Model_stat_64 ?_
  refine V_i2l hc d_Model_stat_65 ?_
  refine V_iconst (v := 4) hc d_Model_stat_66 (by decide) ?_
  refine V_callV (rm' := rm_Model_put) (As := [.long (Int32.toInt64 (mm_I h28 a31 (Int32.toNatClampNeg (r2)))), .int (4)]) (rest := []) (n := 2) (cn := 0) hc rfl q30 (sat_Model_put (eG E) _ _ _ _ _ hw) rfl cv_Model_212 (gw_of (tw_6 (List.mem_of_getElem? (i := 15) rfl)) rfl) ss_Model_put rfl ⟨by decide, by decide⟩ (by decide) (by decide) rfl (by simp [cat_rf, cat_i, cat_l]) d_Model_stat_67 (fun r0 h35 hw => ?_)
  obtain ⟨rfl, hw⟩ := hw
  refine V_wide (cs' := 0) (sl' := 0) (by decide) (by decide) ?_
  refine V_st (st' := []) rfl ?_
  refine V_aload_n hc 1 d_Model_stat_70 rfl rfl ?_
  refine V_aload_n hc 1 d_Model_stat_71 rfl rfl ?_
  refine V_iload_n hc 0 d_Model_stat_72 rfl rfl ?_
  obtain ⟨q37, hw⟩ := hw
  refine V_callV (rm' := rm_Model_isDirectory) (As := [.int (r2)]) (rest := [va_rf (some v0)]) (n := 1) (cn := 0) hc rfl q37 (sat_Model_isDirectory (eG E) _ _ _ _ hw) rfl cv_Model_230 (gw_of (tw_6 (List.mem_of_getElem? (i := 39) rfl)) rfl) ss_Model_isDirectory rfl ⟨by decide, by decide⟩ (by decide) (by decide) rfl (by simp [cat_rf, cat_i, cat_l]) d_Model_stat_73 (fun r0 h38 hw => ?_)
  obtain ⟨r39, rfl, hw⟩ := hw
  refine V_wide (cs' := 0) (sl' := 0) (by decide) (by decide) ?_
  refine V_st (st' := [.int (r39), va_rf (some v0)]) rfl ?_
  refine V_if_eq (tgt := 83) hc d_Model_stat_76 (by decide) (fun hq1 => ?_) (fun hq1 => ?_)
  · replace hw := hw.1 hq1
    refine V_aload_n hc 1 d_Model_stat_83 rfl rfl ?_
    obtain ⟨q40, hw⟩ := hw
    refine V_get (v := va_rf (mm_P h38 v0 5)) hc gf_Model_26 rfl q40 rfl d_Model_stat_84 ?_
    refine V_iload_n hc 0 d_Model_stat_87 rfl rfl ?_
    obtain ⟨a41, q42, hw⟩ := hw
    obtain ⟨q43, hw⟩ := hw
    obtain ⟨q44, hw⟩ := hw
    refine V_iald hc q42 q43 q44 d_Model_stat_88 ?_
    refine V_i2l hc d_Model_stat_89 ?_
    refine V_sub (lv' := [(0, va_rf (some v0)), (3, .int (r2))]) [1, 0] rfl ?_
    exact vb_Model_stat_90 hc hq  _ _ _ _ _ hw
  · replace hw := hw.2 hq1
    refine V_lconst (v := 0) hc d_Model_stat_79 (by decide) ?_
    refine V_goto (tgt := 90) hc d_Model_stat_80 (by decide) ?_
    refine V_sub (lv' := [(0, va_rf (some v0)), (3, .int (r2))]) [1, 0] rfl ?_
    exact vb_Model_stat_90 hc hq  _ _ _ _ _ hw
def wq_Model_stat (ge : Nat → Nat) (v0 : Nat) (v1 : Int32) (v2 : Int32) (h : mm_M) (Z : mm_M → Prop) : Prop := wq_Model_stat_0 ge v0 v1 v2 h Z
theorem sat_Model_stat (G : mm_G) (v0 : Nat) (v1 : Int32) (v2 : Int32) (h : mm_M) (Z : mm_M → Prop) (hw : wq_Model_stat (mm_ge G) v0 v1 v2 h Z) : mm_Met G y_Model_stat c_Model_stat 5 none rm_Model_stat [va_rf (some v0), .int (v1), .int (v2)] h (pV Z) := by
  refine mm_intro (own := "EpochServerModel") (by decide) rfl (by simp [lg_sl, cat_rf, cat_i, cat_l]) (fun E e1 hc hq hi => ?_)
  subst e1
  have e2 : lv_args 0 [va_rf (some v0), .int (v1), .int (v2)] = [(0, va_rf (some v0)), (1, .int (v1)), (2, .int (v2))] := by simp [lv_args, cat_rf, cat_i, cat_l]
  rw [e2]
  refine V_sub (lv' := [(0, va_rf (some v0)), (1, .int (v1)), (2, .int (v2))]) [0, 1, 2] rfl ?_
  exact vb_Model_stat_0 hc hq v0 v1 v2 h hw
