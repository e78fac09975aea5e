/-! Model.opens(I)V -/
abbrev rm_Model_opens : Room := { frames := 2, cells := 0, slots := 0, locals := 47 }
def wq_Model_opens_34  (ge : Nat → Nat)  (h : mm_M) (Z : mm_M → Prop) : Prop :=
  Z h
def wq_Model_opens_246  (ge : Nat → Nat) (v0 : Nat) (v1 : Int32) (h : mm_M) (Z : mm_M → Prop) : Prop :=
  mm_k h (v0) = kd_Model ∧ ∃ a2, mm_P h v0 22 = some a2 ∧ mm_k h (a2) = ka_I ∧ vp_in (v1) (mm_n h a2) ∧ ∃ a6, mm_P h v0 23 = some a6 ∧ mm_k h (a6) = ka_I ∧ vp_in (v1) (mm_n h a6) ∧ wq_Model_qid ge (v0) (mm_I h a2 (Int32.toNatClampNeg (v1))) (mm_I h a6 (Int32.toNatClampNeg (v1))) h (fun h10 : mm_M => mm_k h10 (v0) = kd_Model ∧ wq_Model_put ge (v0) (0) (4) h10 (fun h13 : mm_M => Z h13))
def wq_Model_opens_182  (ge : Nat → Nat) (v0 : Nat) (v1 : Int32) (v2 : Int32) (s0 : Option Nat) (s1 : Int32) (h : mm_M) (Z : mm_M → Prop) : Prop :=
  ∃ a1, s0 = some a1 ∧ mm_k h (a1) = kd_Model ∧ wq_Model_fails ge (a1) (s1) (7) h (fun (r5 : Int32) (h4 : mm_M) => (((r5) = 0 → mm_k h4 (v0) = kd_Model ∧ ∃ a7, mm_P h4 v0 24 = some a7 ∧ mm_k h4 (a7) = ka_I ∧ vp_in (v1) (mm_n h4 a7) ∧ ge 0 ≤ a7 ∧ ∀ h12 : mm_M, h12 = mm_uI h4 a7 (Int32.toNatClampNeg (v1)) (mm_I h4 v0 35) → mm_k h12 (v0) = kd_Model ∧ ∃ a14, mm_P h12 v0 25 = some a14 ∧ mm_k h12 (a14) = ka_I ∧ vp_in (v1) (mm_n h12 a14) ∧ ge 0 ≤ a14 ∧ ∀ h19 : mm_M, h19 = mm_uI h12 a14 (Int32.toNatClampNeg (v1)) (0) → mm_k h19 (v0) = kd_Model ∧ ∃ a21, mm_P h19 v0 26 = some a21 ∧ mm_k h19 (a21) = ka_I ∧ vp_in (v1) (mm_n h19 a21) ∧ ge 0 ≤ a21 ∧ ∀ h26 : mm_M, h26 = mm_uI h19 a21 (Int32.toNatClampNeg (v1)) ((-1)) → mm_k h26 (v0) = kd_Model ∧ ((((mm_I h26 v0 35) &&& (16 : Int32)) = 0 → wq_Model_opens_246  ge (v0) (v1) h26 Z) ∧ (¬ ((mm_I h26 v0 35) &&& (16 : Int32)) = 0 → ∃ a28, mm_P h26 v0 5 = some a28 ∧ mm_k h26 (a28) = ka_I ∧ vp_in (v2) (mm_n h26 a28) ∧ (((mm_I h26 a28 (Int32.toNatClampNeg (v2))) ≤ 0 → wq_Model_opens_246  ge (v0) (v1) h26 Z) ∧ (¬ (mm_I h26 a28 (Int32.toNatClampNeg (v2))) ≤ 0 → vp_in (v2) (mm_n h26 a28) ∧ ge 0 ≤ a28 ∧ ∀ h34 : mm_M, h34 = mm_uI h26 a28 (Int32.toNatClampNeg (v2)) (0) → mm_k h34 (v0) = kd_Model ∧ wq_Model_changed ge (v0) (v2) h34 (fun h36 : mm_M => wq_Model_opens_246  ge (v0) (v1) h36 Z)))))) ∧ (¬ (r5) = 0 → Z h4)))
def wq_Model_opens_181  (ge : Nat → Nat) (v0 : Nat) (v1 : Int32) (v2 : Int32) (s0 : Option Nat) (h : mm_M) (Z : mm_M → Prop) : Prop :=
  wq_Model_opens_182  ge (v0) (v1) (v2) (s0) (0) h Z
def wq_Model_opens_177  (ge : Nat → Nat) (v0 : Nat) (v1 : Int32) (v2 : Int32) (s0 : Option Nat) (h : mm_M) (Z : mm_M → Prop) : Prop :=
  wq_Model_opens_182  ge (v0) (v1) (v2) (s0) (1) h Z
def wq_Model_opens_159  (ge : Nat → Nat) (v0 : Nat) (v1 : Int32) (v2 : Int32) (v5 : Int32) (s0 : Option Nat) (h : mm_M) (Z : mm_M → Prop) : Prop :=
  (((v5) = 0 → wq_Model_opens_181  ge (v0) (v1) (v2) (s0) h Z) ∧ (¬ (v5) = 0 → mm_k h (v0) = kd_Model ∧ ∃ a2, mm_P h v0 2 = some a2 ∧ mm_k h (a2) = ka_I ∧ vp_in (v2) (mm_n h a2) ∧ ((¬ ((mm_I h a2 (Int32.toNatClampNeg (v2))) &&& (128 : Int32)) = 0 → wq_Model_opens_181  ge (v0) (v1) (v2) (s0) h Z) ∧ (((mm_I h a2 (Int32.toNatClampNeg (v2))) &&& (128 : Int32)) = 0 → wq_Model_opens_177  ge (v0) (v1) (v2) (s0) h Z))))
def wq_Model_opens_138  (ge : Nat → Nat) (v0 : Nat) (v1 : Int32) (v2 : Int32) (v4 : Int32) (s0 : Int32) (h : mm_M) (Z : mm_M → Prop) : Prop :=
  (((v4) = 0 → wq_Model_opens_159  ge (v0) (v1) (v2) (s0) (some v0) h Z) ∧ (¬ (v4) = 0 → mm_k h (v0) = kd_Model ∧ ∃ a2, mm_P h v0 2 = some a2 ∧ mm_k h (a2) = ka_I ∧ vp_in (v2) (mm_n h a2) ∧ ((((mm_I h a2 (Int32.toNatClampNeg (v2))) &&& (256 : Int32)) = 0 → wq_Model_opens_177  ge (v0) (v1) (v2) (some v0) h Z) ∧ (¬ ((mm_I h a2 (Int32.toNatClampNeg (v2))) &&& (256 : Int32)) = 0 → wq_Model_opens_159  ge (v0) (v1) (v2) (s0) (some v0) h Z))))
def wq_Model_opens_133  (ge : Nat → Nat) (v0 : Nat) (v1 : Int32) (v2 : Int32) (v4 : Int32) (h : mm_M) (Z : mm_M → Prop) : Prop :=
  wq_Model_opens_138  ge (v0) (v1) (v2) (v4) (1) h Z
def wq_Model_opens_111  (ge : Nat → Nat) (v0 : Nat) (v1 : Int32) (v2 : Int32) (v3 : Int32) (s0 : Int32) (h : mm_M) (Z : mm_M → Prop) : Prop :=
  (((v3 : Int32) = (1 : Int32) → wq_Model_opens_133  ge (v0) (v1) (v2) (s0) h Z) ∧ (¬ (v3 : Int32) = (1 : Int32) → (((v3 : Int32) = (2 : Int32) → wq_Model_opens_133  ge (v0) (v1) (v2) (s0) h Z) ∧ (¬ (v3 : Int32) = (2 : Int32) → mm_k h (v0) = kd_Model ∧ ((((mm_I h v0 35) &&& (16 : Int32)) = 0 → wq_Model_opens_138  ge (v0) (v1) (v2) (s0) (0) h Z) ∧ (¬ ((mm_I h v0 35) &&& (16 : Int32)) = 0 → wq_Model_opens_133  ge (v0) (v1) (v2) (s0) h Z))))))
def wq_Model_opens_106  (ge : Nat → Nat) (v0 : Nat) (v1 : Int32) (v2 : Int32) (v3 : Int32) (h : mm_M) (Z : mm_M → Prop) : Prop :=
  wq_Model_opens_111  ge (v0) (v1) (v2) (v3) (1) h Z
def wq_Model_opens_81  (ge : Nat → Nat) (v0 : Nat) (v1 : Int32) (v2 : Int32) (s0 : Option Nat) (s1 : Int32) (h : mm_M) (Z : mm_M → Prop) : Prop :=
  ∃ a1, s0 = some a1 ∧ mm_k h (a1) = kd_Model ∧ wq_Model_fails ge (a1) (s1) (6) h (fun (r5 : Int32) (h4 : mm_M) => (((r5) = 0 → mm_k h4 (v0) = kd_Model ∧ ((((mm_I h4 v0 35) &&& (3 : Int32)) = 0 → wq_Model_opens_106  ge (v0) (v1) (v2) ((mm_I h4 v0 35) &&& (3 : Int32)) h4 Z) ∧ (¬ ((mm_I h4 v0 35) &&& (3 : Int32)) = 0 → ((¬ ((mm_I h4 v0 35) &&& (3 : Int32) : Int32) = (2 : Int32) → wq_Model_opens_111  ge (v0) (v1) (v2) ((mm_I h4 v0 35) &&& (3 : Int32)) (0) h4 Z) ∧ (((mm_I h4 v0 35) &&& (3 : Int32) : Int32) = (2 : Int32) → wq_Model_opens_106  ge (v0) (v1) (v2) ((mm_I h4 v0 35) &&& (3 : Int32)) h4 Z))))) ∧ (¬ (r5) = 0 → Z h4)))
def wq_Model_opens_80  (ge : Nat → Nat) (v0 : Nat) (v1 : Int32) (v2 : Int32) (s0 : Option Nat) (h : mm_M) (Z : mm_M → Prop) : Prop :=
  wq_Model_opens_81  ge (v0) (v1) (v2) (s0) (0) h Z
def wq_Model_opens_69  (ge : Nat → Nat) (v0 : Nat) (v1 : Int32) (v2 : Int32) (s0 : Option Nat) (h : mm_M) (Z : mm_M → Prop) : Prop :=
  mm_k h (v0) = kd_Model ∧ (((mm_I h v0 35) = 0 → wq_Model_opens_80  ge (v0) (v1) (v2) (s0) h Z) ∧ (¬ (mm_I h v0 35) = 0 → wq_Model_opens_81  ge (v0) (v1) (v2) (s0) (1) h Z))
def wq_Model_opens_15  (ge : Nat → Nat) (v0 : Nat) (v1 : Int32) (s0 : Option Nat) (s1 : Int32) (h : mm_M) (Z : mm_M → Prop) : Prop :=
  ∃ a1, s0 = some a1 ∧ mm_k h (a1) = kd_Model ∧ wq_Model_fails ge (a1) (s1) (3) h (fun (r5 : Int32) (h4 : mm_M) => ((¬ (r5) = 0 → wq_Model_opens_34  ge h4 Z) ∧ ((r5) = 0 → mm_k h4 (v0) = kd_Model ∧ wq_Model_isOddMode ge (v0) h4 (fun (r8 : Int32) (h7 : mm_M) => mm_k h7 (v0) = kd_Model ∧ wq_Model_fails ge (v0) (r8) (5) h7 (fun (r11 : Int32) (h10 : mm_M) => (((r11) = 0 → mm_k h10 (v0) = kd_Model ∧ ∃ a13, mm_P h10 v0 22 = some a13 ∧ mm_k h10 (a13) = ka_I ∧ vp_in (v1) (mm_n h10 a13) ∧ ∃ a17, mm_P h10 v0 23 = some a17 ∧ mm_k h10 (a17) = ka_I ∧ vp_in (v1) (mm_n h10 a17) ∧ wq_Model_spot ge (mm_I h10 a13 (Int32.toNatClampNeg (v1))) (mm_I h10 a17 (Int32.toNatClampNeg (v1))) h10 (fun (r22 : Int32) (h21 : mm_M) => mm_k h21 (v0) = kd_Model ∧ wq_Model_isDirectory ge (v0) (r22) h21 (fun (r25 : Int32) (h24 : mm_M) => ((¬ (r25) = 0 → wq_Model_opens_69  ge (v0) (v1) (r22) (some v0) h24 Z) ∧ ((r25) = 0 → mm_k h24 (v0) = kd_Model ∧ ∃ a27, mm_P h24 v0 22 = some a27 ∧ mm_k h24 (a27) = ka_I ∧ vp_in (v1) (mm_n h24 a27) ∧ (((mm_I h24 a27 (Int32.toNatClampNeg (v1))) = 0 → wq_Model_opens_80  ge (v0) (v1) (r22) (some v0) h24 Z) ∧ (¬ (mm_I h24 a27 (Int32.toNatClampNeg (v1))) = 0 → wq_Model_opens_69  ge (v0) (v1) (r22) (some v0) h24 Z))))))) ∧ (¬ (r11) = 0 → wq_Model_opens_34  ge h10 Z)))))))
def wq_Model_opens_0  (ge : Nat → Nat) (v0 : Nat) (v1 : Int32) (h : mm_M) (Z : mm_M → Prop) : Prop :=
  mm_k h (v0) = kd_Model ∧ ∃ a2, mm_P h v0 24 = some a2 ∧ mm_k h (a2) = ka_I ∧ vp_in (v1) (mm_n h a2) ∧ (((mm_I h a2 (Int32.toNatClampNeg (v1))) < 0 → wq_Model_opens_15  ge (v0) (v1) (some v0) (0) h Z) ∧ (¬ (mm_I h a2 (Int32.toNatClampNeg (v1))) < 0 → wq_Model_opens_15  ge (v0) (v1) (some v0) (1) h Z))
set_option maxRecDepth 100000 in
set_option maxHeartbeats 4000000 in
theorem vb_Model_opens_34 {E : mm_E} {Z : mm_M → Prop} (hc : cx E "EpochServerModel" c_Model_opens 6 none rm_Model_opens) (hq : cq E rm_Model_opens (pV Z))   (h : mm_M) (hw : wq_Model_opens_34  (mm_ge (eG E))  h Z) : V E 6 0 0 h 34 [] [] := by
  unfold wq_Model_opens_34 at hw
  exact V_vret hc hq ⟨rfl, hw⟩ (by decide) (by decide) d_Model_opens_34
set_option maxRecDepth 100000 in
set_option maxHeartbeats 4000000 in
theorem vb_Model_opens_246 {E : mm_E} {Z : mm_M → Prop} (hc : cx E "EpochServerModel" c_Model_opens 6 none rm_Model_opens) (hq : cq E rm_Model_opens (pV Z))  (v0 : Nat) (v1 : Int32) (h : mm_M) (hw : wq_Model_opens_246  (mm_ge (eG E)) v0 v1 h Z) : V E 6 0 0 h 246 [(0, va_rf (some v0)), (1, .int (v1))] [] := by
  unfold wq_Model_opens_246 at hw
  refine V_aload_n hc 0 d_Model_opens_246 rfl rfl ?_
  refine V_aload_n hc 0 d_Model_opens_247 rfl rfl ?_
  obtain ⟨q1, hw⟩ := hw
  refine V_get (v := va_rf (mm_P h v0 22)) hc gf_Model_53 rfl q1 rfl d_Model_opens_248 ?_
  refine V_iload_n hc 1 d_Model_opens_251 rfl rfl ?_
  obtain ⟨a2, q3, hw⟩ := hw
  obtain ⟨q4, hw⟩ := hw
  obtain ⟨q5, hw⟩ := hw
  refine V_iald hc q3 q4 q5 d_Model_opens_252 ?_
  refine V_aload_n hc 0 d_Model_opens_253 rfl rfl ?_
  refine V_get (v := va_rf (mm_P h v0 23)) hc gf_Model_56 rfl q1 rfl d_Model_opens_254 ?_
  refine V_iload_n hc 1 d_Model_opens_257 rfl rfl ?_
  obtain ⟨a6, q7, hw⟩ := hw
  obtain ⟨q8, hw⟩ := hw
  obtain ⟨q9, hw⟩ := hw
  refine V_iald hc q7 q8 q9 d_Model_opens_258 ?_
  refine V_callV (rm' := rm_Model_qid) (As := [.int (mm_I h a2 (Int32.toNatClampNeg (v1))), .int (mm_I h a6 (Int32.toNatClampNeg (v1)))]) (rest := []) (n := 2) (cn := 0) hc rfl q1 (sat_Model_qid (eG E) _ _ _ _ _ hw) rfl cv_Model_235 (gw_of (tw_6 (List.mem_of_getElem? (i := 35) rfl)) rfl) ss_Model_qid rfl ⟨by decide, by decide⟩ (by decide) (by decide) rfl (by simp [cat_rf, cat_i, cat_l]) d_Model_opens_259 (fun r0 h10 hw => ?_)
  obtain ⟨rfl, hw⟩ := hw
  refine V_wide (cs' := 0) (sl' := 0) (by decide) (by decide) ?_
  refine V_st (st' := []) rfl ?_
  refine V_aload_n hc 0 d_Model_opens_262 rfl rfl ?_
  refine V_lconst (v := 0) hc d_Model_opens_263 (by decide) ?_
  refine V_iconst (v := 4) hc d_Model_opens_264 (by decide) ?_
  obtain ⟨q12, hw⟩ := hw
  refine V_callV (rm' := rm_Model_put) (As := [.long (0), .int (4)]) (rest := []) (n := 2) (cn := 0) hc rfl q12 (sat_Model_put (eG E) _ _ _ _ _ hw) rfl cv_Model_212 (gw_of (tw_6 (List.mem_of_getElem? (i := 15) rfl)) rfl) ss_Model_put rfl ⟨by decide, by decide⟩ (by decide) (by decide) rfl (by simp [cat_rf, cat_i, cat_l]) d_Model_opens_265 (fun r0 h13 hw => ?_)
  obtain ⟨rfl, hw⟩ := hw
  refine V_wide (cs' := 0) (sl' := 0) (by decide) (by decide) ?_
  refine V_st (st' := []) rfl ?_
  exact V_vret hc hq ⟨rfl, hw⟩ (by decide) (by decide) d_Model_opens_268
set_option maxRecDepth 100000 in
set_option maxHeartbeats 4000000 in
theorem vb_Model_opens_182 {E : mm_E} {Z : mm_M → Prop} (hc : cx E "EpochServerModel" c_Model_opens 6 none rm_Model_opens) (hq : cq E rm_Model_opens (pV Z))  (v0 : Nat) (v1 : Int32) (v2 : Int32) (s0 : Option Nat) (s1 : Int32) (h : mm_M) (hw : wq_Model_opens_182  (mm_ge (eG E)) v0 v1 v2 s0 s1 h Z) : V E 6 0 0 h 182 [(0, va_rf (some v0)), (1, .int (v1)), (2, .int (v2))] [.int (s1), va_rf (s0)] := by
  unfold wq_Model_opens_182 at hw
  refine V_bipush (v := 7) hc d_Model_opens_182 (by decide) ?_
  obtain ⟨a1, q2, hw⟩ := hw
  obtain ⟨q3, hw⟩ := hw
  refine V_callV (rm' := rm_Model_fails) (As := [.int (s1), .int (7)]) (rest := []) (n := 2) (cn := 0) hc q2 q3 (sat_Model_fails (eG E) _ _ _ _ _ hw) rfl cv_Model_249 (gw_of (tw_5 (List.mem_of_getElem? (i := 209) rfl)) rfl) ss_Model_fails rfl ⟨by decide, by decide⟩ (by decide) (by decide) rfl (by simp [cat_rf, cat_i, cat_l]) d_Model_opens_184 (fun r0 h4 hw => ?_)
  obtain ⟨r5, rfl, hw⟩ := hw
  refine V_wide (cs' := 0) (sl' := 0) (by decide) (by decide) ?_
  refine V_st (st' := [.int (r5)]) rfl ?_
  refine V_if_eq (tgt := 191) hc d_Model_opens_187 (by decide) (fun hq1 => ?_) (fun hq1 => ?_)
  · replace hw := hw.1 hq1
    refine V_aload_n hc 0 d_Model_opens_191 rfl rfl ?_
    obtain ⟨q6, hw⟩ := hw
    refine V_get (v := va_rf (mm_P h4 v0 24)) hc gf_Model_59 rfl q6 rfl d_Model_opens_192 ?_
    refine V_iload_n hc 1 d_Model_opens_195 rfl rfl ?_
    refine V_aload_n hc 0 d_Model_opens_196 rfl rfl ?_
    refine V_get (v := .int (mm_I h4 v0 35)) hc gf_Model_156 rfl q6 rfl d_Model_opens_197 ?_
    obtain ⟨a7, q8, hw⟩ := hw
    obtain ⟨q9, hw⟩ := hw
    obtain ⟨q10, hw⟩ := hw
    obtain ⟨q11, hw⟩ := hw
    obtain ⟨h12, eq_h12⟩ : ∃ x, x = mm_uI h4 a7 (Int32.toNatClampNeg (v1)) (mm_I h4 v0 35) := ⟨_, rfl⟩
    replace hw := hw _ eq_h12
    refine V_iast hc q8 q9 q10 q11 d_Model_opens_200 ?_
    rw [← eq_h12]
    refine V_aload_n hc 0 d_Model_opens_201 rfl rfl ?_
    obtain ⟨q13, hw⟩ := hw
    refine V_get (v := va_rf (mm_P h12 v0 25)) hc gf_Model_62 rfl q13 rfl d_Model_opens_202 ?_
    refine V_iload_n hc 1 d_Model_opens_205 rfl rfl ?_
    refine V_iconst (v := 0) hc d_Model_opens_206 (by decide) ?_
    obtain ⟨a14, q15, hw⟩ := hw
    obtain ⟨q16, hw⟩ := hw
    obtain ⟨q17, hw⟩ := hw
    obtain ⟨q18, hw⟩ := hw
    obtain ⟨h19, eq_h19⟩ : ∃ x, x = mm_uI h12 a14 (Int32.toNatClampNeg (v1)) (0) := ⟨_, rfl⟩
    replace hw := hw _ eq_h19
    refine V_iast hc q15 q16 q17 q18 d_Model_opens_207 ?_
    rw [← eq_h19]
    refine V_aload_n hc 0 d_Model_opens_208 rfl rfl ?_
    obtain ⟨q20, hw⟩ := hw
    refine V_get (v := va_rf (mm_P h19 v0 26)) hc gf_Model_65 rfl q20 rfl d_Model_opens_209 ?_
    refine V_iload_n hc 1 d_Model_opens_212 rfl rfl ?_
    refine V_iconst (v := (-1)) hc d_Model_opens_213 (by decide) ?_
    obtain ⟨a21, q22, hw⟩ := hw
    obtain ⟨q23, hw⟩ := hw
    obtain ⟨q24, hw⟩ := hw
    obtain ⟨q25, hw⟩ := hw
    obtain ⟨h26, eq_h26⟩ : ∃ x, x = mm_uI h19 a21 (Int32.toNatClampNeg (v1)) ((-1)) := ⟨_, rfl⟩
    replace hw := hw _ eq_h26
    refine V_iast hc q22 q23 q24 q25 d_Model_opens_214 ?_
    rw [← eq_h26]
    refine V_aload_n hc 0 d_Model_opens_215 rfl rfl ?_
    obtain ⟨q27, hw⟩ := hw
    refine V_get (v := .int (mm_I h26 v0 35)) hc gf_Model_156 rfl q27 rfl d_Model_opens_216 ?_
    refine V_bipush (v := 16) hc d_Model_opens_219 (by decide) ?_
    refine V_iand hc d_Model_opens_221 ?_
    refine V_if_eq (tgt := 246) hc d_Model_opens_222 (by decide) (fun hq1 => ?_) (fun hq1 => ?_)
    · replace hw := hw.1 hq1
      refine V_sub (lv' := [(0, va_rf (some v0)), (1, .int (v1))]) [0, 1] rfl ?_
      exact vb_Model_opens_246 hc hq  _ _ _ hw
    · replace hw := hw.2 hq1
      refine V_aload_n hc 0 d_Model_opens_225 rfl rfl ?_
      refine V_get (v := va_rf (mm_P h26 v0 5)) hc gf_Model_26 rfl q27 rfl d_Model_opens_226 ?_
      refine V_iload_n hc 2 d_Model_opens_229 rfl rfl ?_
      obtain ⟨a28, q29, hw⟩ := hw
      obtain ⟨q30, hw⟩ := hw
      obtain ⟨q31, hw⟩ := hw
      refine V_iald hc q29 q30 q31 d_Model_opens_230 ?_
      refine V_if_le (tgt := 246) hc d_Model_opens_231 (by decide) (fun hq1 => ?_) (fun hq1 => ?_)
      · replace hw := hw.1 hq1
        refine V_sub (lv' := [(0, va_rf (some v0)), (1, .int (v1))]) [0, 1] rfl ?_
        exact vb_Model_opens_246 hc hq  _ _ _ hw
      · replace hw := hw.2 hq1
        refine V_aload_n hc 0 d_Model_opens_234 rfl rfl ?_
        refine V_get (v := va_rf (mm_P h26 v0 5)) hc gf_Model_26 rfl q27 rfl d_Model_opens_235 ?_
        refine V_iload_n hc 2 d_Model_opens_238 rfl rfl ?_
        refine V_iconst (v := 0) hc d_Model_opens_239 (by decide) ?_
        obtain ⟨q32, hw⟩ := hw
        obtain ⟨q33, hw⟩ := hw
        obtain ⟨h34, eq_h34⟩ : ∃ x, x = mm_uI h26 a28 (Int32.toNatClampNeg (v2)) (0) := ⟨_, rfl⟩
        replace hw := hw _ eq_h34
        refine V_iast hc q29 q30 q32 q33 d_Model_opens_240 ?_
        rw [← eq_h34]
        refine V_aload_n hc 0 d_Model_opens_241 rfl rfl ?_
        refine V_iload_n hc 2 d_Model_opens_242 rfl rfl ?_
        obtain ⟨q35, hw⟩ := hw
        refine V_callV (rm' := rm_Model_changed) (As := [.int (v2)]) (rest := []) (n := 1) (cn := 0) hc rfl q35 (sat_Model_changed (eG E) _ _ _ _ hw) rfl cv_Model_334 (gw_of (tw_6 (List.mem_of_getElem? (i := 68) rfl)) rfl) ss_Model_changed rfl ⟨by decide, by decide⟩ (by decide) (by decide) rfl (by simp [cat_rf, cat_i, cat_l]) d_Model_opens_243 (fun r0 h36 hw => ?_)
        obtain ⟨rfl, hw⟩ := hw
        refine V_wide (cs' := 0) (sl' := 0) (by decide) (by decide) ?_
        refine V_st (st' := []) rfl ?_
        refine V_sub (lv' := [(0, va_rf (some v0)), (1, .int (v1))]) [0, 1] rfl ?_
        exact vb_Model_opens_246 hc hq  _ _ _ hw
  · replace hw := hw.2 hq1
    exact V_vret hc hq ⟨rfl, hw⟩ (by decide) (by decide) d_Model_opens_190
set_option maxRecDepth 100000 in
set_option maxHeartbeats 4000000 in
theorem vb_Model_opens_181 {E : mm_E} {Z : mm_M → Prop} (hc : cx E "EpochServerModel" c_Model_opens 6 none rm_Model_opens) (hq : cq E rm_Model_opens (pV Z))  (v0 : Nat) (v1 : Int32) (v2 : Int32) (s0 : Option Nat) (h : mm_M) (hw : wq_Model_opens_181  (mm_ge (eG E)) v0 v1 v2 s0 h Z) : V E 6 0 0 h 181 [(0, va_rf (some v0)), (1, .int (v1)), (2, .int (v2))] [va_rf (s0)] := by
  unfold wq_Model_opens_181 at hw
  refine V_iconst (v := 0) hc d_Model_opens_181 (by decide) ?_
  refine V_sub (lv' := [(0, va_rf (some v0)), (1, .int (v1)), (2, .int (v2))]) [0, 1, 2] rfl ?_
  exact vb_Model_opens_182 hc hq  _ _ _ _ _ _ hw
set_option maxRecDepth 100000 in
set_option maxHeartbeats 4000000 in
theorem vb_Model_opens_177 {E : mm_E} {Z : mm_M → Prop} (hc : cx E "EpochServerModel" c_Model_opens 6 none rm_Model_opens) (hq : cq E rm_Model_opens (pV Z))  (v0 : Nat) (v1 : Int32) (v2 : Int32) (s0 : Option Nat) (h : mm_M) (hw : wq_Model_opens_177  (mm_ge (eG E)) v0 v1 v2 s0 h Z) : V E 6 0 0 h 177 [(0, va_rf (some v0)), (1, .int (v1)), (2, .int (v2))] [va_rf (s0)] := by
  unfold wq_Model_opens_177 at hw
  refine V_iconst (v := 1) hc d_Model_opens_177 (by decide) ?_
  refine V_goto (tgt := 182) hc d_Model_opens_178 (by decide) ?_
  refine V_sub (lv' := [(0, va_rf (some v0)), (1, .int (v1)), (2, .int (v2))]) [0, 1, 2] rfl ?_
  exact vb_Model_opens_182 hc hq  _ _ _ _ _ _ hw
set_option maxRecDepth 100000 in
set_option maxHeartbeats 4000000 in
theorem vb_Model_opens_159 {E : mm_E} {Z : mm_M → Prop} (hc : cx E "EpochServerModel" c_Model_opens 6 none rm_Model_opens) (hq : cq E rm_Model_opens (pV Z))  (v0 : Nat) (v1 : Int32) (v2 : Int32) (v5 : Int32) (s0 : Option Nat) (h : mm_M) (hw : wq_Model_opens_159  (mm_ge (eG E)) v0 v1 v2 v5 s0 h Z) : V E 6 0 0 h 159 [(0, va_rf (some v0)), (1, .int (v1)), (2, .int (v2)), (5, .int (v5))] [va_rf (s0)] := by
  unfold wq_Model_opens_159 at hw
  refine V_iload hc 3 d_Model_opens_159 rfl ?_
  refine V_if_eq (tgt := 181) hc d_Model_opens_161 (by decide) (fun hq1 => ?_) (fun hq1 => ?_)
  · replace hw := hw.1 hq1
    refine V_sub (lv' := [(0, va_rf (some v0)), (1, .int (v1)), (2, .int (v2))]) [0, 1, 2] rfl ?_
    exact vb_Model_opens_181 hc hq  _ _ _ _ _ hw
  · replace hw := hw.2 hq1
    refine V_aload_n hc 0 d_Model_opens_164 rfl rfl ?_
    obtain ⟨q1, hw⟩ := hw
    refine V_get (v := va_rf (mm_P h v0 2)) hc gf_Model_17 rfl q1 rfl d_Model_opens_165 ?_
    refine V_iload_n hc 2 d_Model_opens_168 rfl rfl ?_
    obtain ⟨a2, q3, hw⟩ := hw
    obtain ⟨q4, hw⟩ := hw
    obtain ⟨q5, hw⟩ := hw
    refine V_iald hc q3 q4 q5 d_Model_opens_169 ?_
    refine V_sipush (v := 128) hc d_Model_opens_170 (by decide) ?_
    refine V_iand hc d_Model_opens_173 ?_
    refine V_if_ne (tgt := 181) hc d_Model_opens_174 (by decide) (fun hq1 => ?_) (fun hq1 => ?_)
    · replace hw := hw.1 hq1
      refine V_sub (lv' := [(0, va_rf (some v0)), (1, .int (v1)), (2, .int (v2))]) [0, 1, 2] rfl ?_
      exact vb_Model_opens_181 hc hq  _ _ _ _ _ hw
    · replace hw := hw.2 hq1
      refine V_sub (lv' := [(0, va_rf (some v0)), (1, .int (v1)), (2, .int (v2))]) [0, 1, 2] rfl ?_
      exact vb_Model_opens_177 hc hq  _ _ _ _ _ hw
set_option maxRecDepth 100000 in
set_option maxHeartbeats 4000000 in
theorem vb_Model_opens_138 {E : mm_E} {Z : mm_M → Prop} (hc : cx E "EpochServerModel" c_Model_opens 6 none rm_Model_opens) (hq : cq E rm_Model_opens (pV Z))  (v0 : Nat) (v1 : Int32) (v2 : Int32) (v4 : Int32) (s0 : Int32) (h : mm_M) (hw : wq_Model_opens_138  (mm_ge (eG E)) v0 v1 v2 v4 s0 h Z) : V E 6 0 0 h 138 [(0, va_rf (some v0)), (1, .int (v1)), (2, .int (v2)), (4, .int (v4))] [.int (s0)] := by
  unfold wq_Model_opens_138 at hw
  refine V_istore (i := 5) (lv' := [(5, .int (s0)), (0, va_rf (some v0)), (1, .int (v1)), (2, .int (v2)), (4, .int (v4))]) hc d_Model_opens_138 (by decide) rfl ?_
  refine V_aload_n hc 1 d_Model_opens_140 rfl rfl ?_
  refine V_iload hc 4 d_Model_opens_141 rfl ?_
  refine V_if_eq (tgt := 159) hc d_Model_opens_143 (by decide) (fun hq1 => ?_) (fun hq1 => ?_)
  · replace hw := hw.1 hq1
    refine V_sub (lv' := [(0, va_rf (some v0)), (1, .int (v1)), (2, .int (v2)), (5, .int (s0))]) [1, 2, 3, 0] rfl ?_
    exact vb_Model_opens_159 hc hq  _ _ _ _ _ _ hw
  · replace hw := hw.2 hq1
    refine V_aload_n hc 1 d_Model_opens_146 rfl rfl ?_
    obtain ⟨q1, hw⟩ := hw
    refine V_get (v := va_rf (mm_P h v0 2)) hc gf_Model_17 rfl q1 rfl d_Model_opens_147 ?_
    refine V_iload_n hc 3 d_Model_opens_150 rfl rfl ?_
    obtain ⟨a2, q3, hw⟩ := hw
    obtain ⟨q4, hw⟩ := hw
    obtain ⟨q5, hw⟩ := hw
    refine V_iald hc q3 q4 q5 d_Model_opens_151 ?_
    refine V_sipush (v := 256) hc d_Model_opens_152 (by decide) ?_
    refine V_iand hc d_Model_opens_155 ?_
    refine V_if_eq (tgt := 177) hc d_Model_opens_156 (by decide) (fun hq1 => ?_) (fun hq1 => ?_)
    · replace hw := hw.1 hq1
      refine V_sub (lv' := [(0, va_rf (some v0)), (1, .int (v1)), (2, .int (v2))]) [1, 2, 3] rfl ?_
      exact vb_Model_opens_177 hc hq  _ _ _ _ _ hw
    · replace hw := hw.2 hq1
      refine V_sub (lv' := [(0, va_rf (some v0)), (1, .int (v1)), (2, .int (v2)), (5, .int (s0))]) [1, 2, 3, 0] rfl ?_
      exact vb_Model_opens_159 hc hq  _ _ _ _ _ _ hw
set_option maxRecDepth 100000 in
set_option maxHeartbeats 4000000 in
theorem vb_Model_opens_133 {E : mm_E} {Z : mm_M → Prop} (hc : cx E "EpochServerModel" c_Model_opens 6 none rm_Model_opens) (hq : cq E rm_Model_opens (pV Z))  (v0 : Nat) (v1 : Int32) (v2 : Int32) (v4 : Int32) (h : mm_M) (hw : wq_Model_opens_133  (mm_ge (eG E)) v0 v1 v2 v4 h Z) : V E 6 0 0 h 133 [(0, va_rf (some v0)), (1, .int (v1)), (2, .int (v2)), (4, .int (v4))] [] := by
  unfold wq_Model_opens_133 at hw
  refine V_iconst (v := 1) hc d_Model_opens_133 (by decide) ?_
  refine V_goto (tgt := 138) hc d_Model_opens_134 (by decide) ?_
  refine V_sub (lv' := [(0, va_rf (some v0)), (1, .int (v1)), (2, .int (v2)), (4, .int (v4))]) [0, 1, 2, 3] rfl ?_
  exact vb_Model_opens_138 hc hq  _ _ _ _ _ _ hw
set_option maxRecDepth 100000 in
set_option maxHeartbeats 4000000 in
theorem vb_Model_opens_111 {E : mm_E} {Z : mm_M → Prop} (hc : cx E "EpochServerModel" c_Model_opens 6 none rm_Model_opens) (hq : cq E rm_Model_opens (pV Z))  (v0 : Nat) (v1 : Int32) (v2 : Int32) (v3 : Int32) (s0 : Int32) (h : mm_M) (hw : wq_Model_opens_111  (mm_ge (eG E)) v0 v1 v2 v3 s0 h Z) : V E 6 0 0 h 111 [(0, va_rf (some v0)), (1, .int (v1)), (2, .int (v2)), (3, .int (v3))] [.int (s0)] := by
  unfold wq_Model_opens_111 at hw
  refine V_istore (i := 4) (lv' := [(4, .int (s0)), (0, va_rf (some v0)), (1, .int (v1)), (2, .int (v2)), (3, .int (v3))]) hc d_Model_opens_111 (by decide) rfl ?_
  refine V_iload_n hc 4 d_Model_opens_113 rfl rfl ?_
  refine V_iconst (v := 1) hc d_Model_opens_114 (by decide) ?_
  refine V_icmp_eq (tgt := 133) hc d_Model_opens_115 (by decide) (fun hq1 => ?_) (fun hq1 => ?_)
  · replace hw := hw.1 hq1
    refine V_sub (lv' := [(0, va_rf (some v0)), (1, .int (v1)), (2, .int (v2)), (4, .int (s0))]) [1, 2, 3, 0] rfl ?_
    exact vb_Model_opens_133 hc hq  _ _ _ _ _ hw
  · replace hw := hw.2 hq1
    refine V_iload_n hc 4 d_Model_opens_118 rfl rfl ?_
    refine V_iconst (v := 2) hc d_Model_opens_119 (by decide) ?_
    refine V_icmp_eq (tgt := 133) hc d_Model_opens_120 (by decide) (fun hq1 => ?_) (fun hq1 => ?_)
    · replace hw := hw.1 hq1
      refine V_sub (lv' := [(0, va_rf (some v0)), (1, .int (v1)), (2, .int (v2)), (4, .int (s0))]) [1, 2, 3, 0] rfl ?_
      exact vb_Model_opens_133 hc hq  _ _ _ _ _ hw
    · replace hw := hw.2 hq1
      refine V_aload_n hc 1 d_Model_opens_123 rfl rfl ?_
      obtain ⟨q1, hw⟩ := hw
      refine V_get (v := .int (mm_I h v0 35)) hc gf_Model_156 rfl q1 rfl d_Model_opens_124 ?_
      refine V_bipush (v := 16) hc d_Model_opens_127 (by decide) ?_
      refine V_iand hc d_Model_opens_129 ?_
      refine V_if_eq (tgt := 137) hc d_Model_opens_130 (by decide) (fun hq1 => ?_) (fun hq1 => ?_)
      · replace hw := hw.1 hq1
        refine V_iconst (v := 0) hc d_Model_opens_137 (by decide) ?_
        refine V_sub (lv' := [(0, va_rf (some v0)), (1, .int (v1)), (2, .int (v2)), (4, .int (s0))]) [1, 2, 3, 0] rfl ?_
        exact vb_Model_opens_138 hc hq  _ _ _ _ _ _ hw
      · replace hw := hw.2 hq1
        refine V_sub (lv' := [(0, va_rf (some v0)), (1, .int (v1)), (2, .int (v2)), (4, .int (s0))]) [1, 2, 3, 0] rfl ?_
        exact vb_Model_opens_133 hc hq  _ _ _ _ _ hw
set_option maxRecDepth 100000 in
set_option maxHeartbeats 4000000 in
theorem vb_Model_opens_106 {E : mm_E} {Z : mm_M → Prop} (hc : cx E "EpochServerModel" c_Model_opens 6 none rm_Model_opens) (hq : cq E rm_Model_opens (pV Z))  (v0 : Nat) (v1 : Int32) (v2 : Int32) (v3 : Int32) (h : mm_M) (hw : wq_Model_opens_106  (mm_ge (eG E)) v0 v1 v2 v3 h Z) : V E 6 0 0 h 106 [(0, va_rf (some v0)), (1, .int (v1)), (2, .int (v2)), (3, .int (v3))] [] := by
  unfold wq_Model_opens_106 at hw
  refine V_iconst (v := 1) hc d_Model_opens_106 (by decide) ?_
  refine V_goto (tgt := 111) hc d_Model_opens_107 (by decide) ?_
  refine V_sub (lv' := [(0, va_rf (some v0)), (1, .int (v1)), (2, .int (v2)), (3, .int (v3))]) [0, 1, 2, 3] rfl ?_
  exact vb_Model_opens_111 hc hq  _ _ _ _ _ _ hw
set_option maxRecDepth 100000 in
set_option maxHeartbeats 4000000 in
theorem vb_Model_opens_81 {E : mm_E} {Z : mm_M → Prop} (hc : cx E "EpochServerModel" c_Model_opens 6 none rm_Model_opens) (hq : cq E rm_Model_opens (pV Z))  (v0 : Nat) (v1 : Int32) (v2 : Int32) (s0 : Option Nat) (s1 : Int32) (h : mm_M) (hw : wq_Model_opens_81  (mm_ge (eG E)) v0 v1 v2 s0 s1 h Z) : V E 6 0 0 h 81 [(0, va_rf (some v0)), (1, .int (v1)), (2, .int (v2))] [.int (s1), va_rf (s0)] := by
  unfold wq_Model_opens_81 at hw
  refine V_bipush (v := 6) hc d_Model_opens_81 (by decide) ?_
  obtain ⟨a1, q2, hw⟩ := hw
  obtain ⟨q3, hw⟩ := hw
  refine V_callV (rm' := rm_Model_fails) (As := [.int (s1), .int (6)]) (rest := []) (n := 2) (cn := 0) hc q2 q3 (sat_Model_fails (eG E) _ _ _ _ _ hw) rfl cv_Model_249 (gw_of (tw_5 (List.mem_of_getElem? (i := 209) rfl)) rfl) ss_Model_fails rfl ⟨by decide, by decide⟩ (by decide) (by decide) rfl (by simp [cat_rf, cat_i, cat_l]) d_Model_opens_83 (fun r0 h4 hw => ?_)
  obtain ⟨r5, rfl, hw⟩ := hw
  refine V_wide (cs' := 0) (sl' := 0) (by decide) (by decide) ?_
  refine V_st (st' := [.int (r5)]) rfl ?_
  refine V_if_eq (tgt := 90) hc d_Model_opens_86 (by decide) (fun hq1 => ?_) (fun hq1 => ?_)
  · replace hw := hw.1 hq1
    refine V_aload_n hc 0 d_Model_opens_90 rfl rfl ?_
    obtain ⟨q6, hw⟩ := hw
    refine V_get (v := .int (mm_I h4 v0 35)) hc gf_Model_156 rfl q6 rfl d_Model_opens_91 ?_
    refine V_iconst (v := 3) hc d_Model_opens_94 (by decide) ?_
    refine V_iand hc d_Model_opens_95 ?_
    refine V_istore_n (i := 3) (lv' := [(3, .int ((mm_I h4 v0 35) &&& (3 : Int32))), (0, va_rf (some v0)), (1, .int (v1)), (2, .int (v2))]) hc d_Model_opens_96 rfl (by decide) rfl ?_
    refine V_iload_n hc 0 d_Model_opens_97 rfl rfl ?_
    refine V_if_eq (tgt := 106) hc d_Model_opens_98 (by decide) (fun hq1 => ?_) (fun hq1 => ?_)
    · replace hw := hw.1 hq1
      refine V_sub (lv' := [(0, va_rf (some v0)), (1, .int (v1)), (2, .int (v2)), (3, .int ((mm_I h4 v0 35) &&& (3 : Int32)))]) [1, 2, 3, 0] rfl ?_
      exact vb_Model_opens_106 hc hq  _ _ _ _ _ hw
    · replace hw := hw.2 hq1
      refine V_iload_n hc 0 d_Model_opens_101 rfl rfl ?_
      refine V_iconst (v := 2) hc d_Model_opens_102 (by decide) ?_
      refine V_icmp_ne (tgt := 110) hc d_Model_opens_103 (by decide) (fun hq1 => ?_) (fun hq1 => ?_)
      · replace hw := hw.1 hq1
        refine V_iconst (v := 0) hc d_Model_opens_110 (by decide) ?_
        refine V_sub (lv' := [(0, va_rf (some v0)), (1, .int (v1)), (2, .int (v2)), (3, .int ((mm_I h4 v0 35) &&& (3 : Int32)))]) [1, 2, 3, 0] rfl ?_
        exact vb_Model_opens_111 hc hq  _ _ _ _ _ _ hw
      · replace hw := hw.2 hq1
        refine V_sub (lv' := [(0, va_rf (some v0)), (1, .int (v1)), (2, .int (v2)), (3, .int ((mm_I h4 v0 35) &&& (3 : Int32)))]) [1, 2, 3, 0] rfl ?_
        exact vb_Model_opens_106 hc hq  _ _ _ _ _ hw
  · replace hw := hw.2 hq1
    exact V_vret hc hq ⟨rfl, hw⟩ (by decide) (by decide) d_Model_opens_89
set_option maxRecDepth 100000 in
set_option maxHeartbeats 4000000 in
theorem vb_Model_opens_80 {E : mm_E} {Z : mm_M → Prop} (hc : cx E "EpochServerModel" c_Model_opens 6 none rm_Model_opens) (hq : cq E rm_Model_opens (pV Z))  (v0 : Nat) (v1 : Int32) (v2 : Int32) (s0 : Option Nat) (h : mm_M) (hw : wq_Model_opens_80  (mm_ge (eG E)) v0 v1 v2 s0 h Z) : V E 6 0 0 h 80 [(0, va_rf (some v0)), (1, .int (v1)), (2, .int (v2))] [va_rf (s0)] := by
  unfold wq_Model_opens_80 at hw
  refine V_iconst (v := 0) hc d_Model_opens_80 (by decide) ?_
  refine V_sub (lv' := [(0, va_rf (some v0)), (1, .int (v1)), (2, .int (v2))]) [0, 1, 2] rfl ?_
  exact vb_Model_opens_81 hc hq  _ _ _ _ _ _ hw
set_option maxRecDepth 100000 in
set_option maxHeartbeats 4000000 in
theorem vb_Model_opens_69 {E : mm_E} {Z : mm_M → Prop} (hc : cx E "EpochServerModel" c_Model_opens 6 none rm_Model_opens) (hq : cq E rm_Model_opens (pV Z))  (v0 : Nat) (v1 : Int32) (v2 : Int32) (s0 : Option Nat) (h : mm_M) (hw : wq_Model_opens_69  (mm_ge (eG E)) v0 v1 v2 s0 h Z) : V E 6 0 0 h 69 [(0, va_rf (some v0)), (1, .int (v1)), (2, .int (v2))] [va_rf (s0)] := by
  unfold wq_Model_opens_69 at hw
  refine V_aload_n hc 0 d_Model_opens_69 rfl rfl ?_
  obtain ⟨q1, hw⟩ := hw
  refine V_get (v := .int (mm_I h v0 35)) hc gf_Model_156 rfl q1 rfl d_Model_opens_70 ?_
  refine V_if_eq (tgt := 80) hc d_Model_opens_73 (by decide) (fun hq1 => ?_) (fun hq1 => ?_)
  · replace hw := hw.1 hq1
    refine V_sub (lv' := [(0, va_rf (some v0)), (1, .int (v1)), (2, .int (v2))]) [0, 1, 2] rfl ?_
    exact vb_Model_opens_80 hc hq  _ _ _ _ _ hw
  · replace hw := hw.2 hq1
    refine V_iconst (v := 1) hc d_Model_opens_76 (by decide) ?_
    refine V_goto (tgt := 81) hc d_Model_opens_77 (by decide) ?_
    refine V_sub (lv' := [(0, va_rf (some v0)), (1, .int (v1)), (2, .int (v2))]) [0, 1, 2] rfl ?_
    exact vb_Model_opens_81 hc hq  _ _ _ _ _ _ hw
set_option maxRecDepth 100000 in
set_option maxHeartbeats 4000000 in
theorem vb_Model_opens_15 {E : mm_E} {Z : mm_M → Prop} (hc : cx E "EpochServerModel" c_Model_opens 6 none rm_Model_opens) (hq : cq E rm_Model_opens (pV Z))  (v0 : Nat) (v1 : Int32) (s0 : Option Nat) (s1 : Int32) (h : mm_M) (hw : wq_Model_opens_15  (mm_ge (eG E)) v0 v1 s0 s1 h Z) : V E 6 0 0 h 15 [(0, va_rf (some v0)), (1, .int (v1))] [.int (s1), va_rf (s0)] := by
  unfold wq_Model_opens_15 at hw
  refine V_iconst (v := 3) hc d_Model_opens_15 (by decide) ?_
  obtain ⟨a1, q2, hw⟩ := hw
  obtain ⟨q3, hw⟩ := hw
  refine V_callV (rm' := rm_Model_fails) (As := [.int (s1), .int (3)]) (rest := []) (n := 2) (cn := 0) hc q2 q3 (sat_Model_fails (eG E) _ _ _ _ _ hw) rfl cv_Model_249 (gw_of (tw_5 (List.mem_of_getElem? (i := 209) rfl)) rfl) ss_Model_fails rfl ⟨by decide, by decide⟩ (by decide) (by decide) rfl (by simp [cat_rf, cat_i, cat_l]) d_Model_opens_16 (fun r0 h4 hw => ?_)
  obtain ⟨r5, rfl, hw⟩ := hw
  refine V_wide (cs' := 0) (sl' := 0) (by decide) (by decide) ?_
  refine V_st (st' := [.int (r5)]) rfl ?_
  refine V_if_ne (tgt := 34) hc d_Model_opens_19 (by decide) (fun hq1 => ?_) (fun hq1 => ?_)
  · replace hw := hw.1 hq1
    refine V_sub (lv' := []) [] rfl ?_
    exact vb_Model_opens_34 hc hq  _ hw
  · replace hw := hw.2 hq1
    refine V_aload_n hc 0 d_Model_opens_22 rfl rfl ?_
    refine V_aload_n hc 0 d_Model_opens_23 rfl rfl ?_
    obtain ⟨q6, hw⟩ := hw
    refine V_callV (rm' := rm_Model_isOddMode) (As := []) (rest := [va_rf (some v0)]) (n := 0) (cn := 0) hc rfl q6 (sat_Model_isOddMode (eG E) _ _ _ hw) rfl cv_Model_330 (gw_of (tw_6 (List.mem_of_getElem? (i := 88) rfl)) rfl) ss_Model_isOddMode rfl ⟨by decide, by decide⟩ (by decide) (by decide) rfl (by simp [cat_rf, cat_i, cat_l]) d_Model_opens_24 (fun r0 h7 hw => ?_)
    obtain ⟨r8, rfl, hw⟩ := hw
    refine V_wide (cs' := 0) (sl' := 0) (by decide) (by decide) ?_
    refine V_st (st' := [.int (r8), va_rf (some v0)]) rfl ?_
    refine V_iconst (v := 5) hc d_Model_opens_27 (by decide) ?_
    obtain ⟨q9, hw⟩ := hw
    refine V_callV (rm' := rm_Model_fails) (As := [.int (r8), .int (5)]) (rest := []) (n := 2) (cn := 0) hc rfl q9 (sat_Model_fails (eG E) _ _ _ _ _ hw) rfl cv_Model_249 (gw_of (tw_5 (List.mem_of_getElem? (i := 209) rfl)) rfl) ss_Model_fails rfl ⟨by decide, by decide⟩ (by decide) (by decide) rfl (by simp [cat_rf, cat_i, cat_l]) d_Model_opens_28 (fun r0 h10 hw => ?_)
    obtain ⟨r11, rfl, hw⟩ := hw
    refine V_wide (cs' := 0) (sl' := 0) (by decide) (by decide) ?_
    refine V_st (st' := [.int (r11)]) rfl ?_
    refine V_if_eq (tgt := 35) hc d_Model_opens_31 (by decide) (fun hq1 => ?_) (fun hq1 => ?_)
    · replace hw := hw.1 hq1
      refine V_aload_n hc 0 d_Model_opens_35 rfl rfl ?_
      obtain ⟨q12, hw⟩ := hw
      refine V_get (v := va_rf (mm_P h10 v0 22)) hc gf_Model_53 rfl q12 rfl d_Model_opens_36 ?_
      refine V_iload_n hc 1 d_Model_opens_39 rfl rfl ?_
      obtain ⟨a13, q14, hw⟩ := hw
      obtain ⟨q15, hw⟩ := hw
      obtain ⟨q16, hw⟩ := hw
      refine V_iald hc q14 q15 q16 d_Model_opens_40 ?_
      refine V_aload_n hc 0 d_Model_opens_41 rfl rfl ?_
      refine V_get (v := va_rf (mm_P h10 v0 23)) hc gf_Model_56 rfl q12 rfl d_Model_opens_42 ?_
      refine V_iload_n hc 1 d_Model_opens_45 rfl rfl ?_
      obtain ⟨a17, q18, hw⟩ := hw
      obtain ⟨q19, hw⟩ := hw
      obtain ⟨q20, hw⟩ := hw
      refine V_iald hc q18 q19 q20 d_Model_opens_46 ?_
      refine V_callS (rm' := rm_Model_spot) (As := [.int (mm_I h10 a13 (Int32.toNatClampNeg (v1))), .int (mm_I h10 a17 (Int32.toNatClampNeg (v1)))]) (rest := []) (n := 2) hc (sat_Model_spot (eG E) _ _ _ _ hw) cv_Model_96 (gw_of (tw_5 (List.mem_of_getElem? (i := 196) rfl)) rfl) rfl ⟨by decide, by decide⟩ (by decide) (by decide) rfl (by simp [cat_rf, cat_i, cat_l]) d_Model_opens_47 (fun r0 h21 hw => ?_)
      obtain ⟨r22, rfl, hw⟩ := hw
      refine V_wide (cs' := 0) (sl' := 0) (by decide) (by decide) ?_
      refine V_st (st' := [.int (r22)]) rfl ?_
      refine V_istore_n (i := 2) (lv' := [(2, .int (r22)), (0, va_rf (some v0)), (1, .int (v1))]) hc d_Model_opens_50 rfl (by decide) rfl ?_
      refine V_aload_n hc 1 d_Model_opens_51 rfl rfl ?_
      refine V_aload_n hc 1 d_Model_opens_52 rfl rfl ?_
      refine V_iload_n hc 0 d_Model_opens_53 rfl rfl ?_
      obtain ⟨q23, hw⟩ := hw
      refine V_callV (rm' := rm_Model_isDirectory) (As := [.int (r22)]) (rest := [va_rf (some v0)]) (n := 1) (cn := 0) hc rfl q23 (sat_Model_isDirectory (eG E) _ _ _ _ hw) rfl cv_Model_230 (gw_of (tw_6 (List.mem_of_getElem? (i := 39) rfl)) rfl) ss_Model_isDirectory rfl ⟨by decide, by decide⟩ (by decide) (by decide) rfl (by simp [cat_rf, cat_i, cat_l]) d_Model_opens_54 (fun r0 h24 hw => ?_)
      obtain ⟨r25, rfl, hw⟩ := hw
      refine V_wide (cs' := 0) (sl' := 0) (by decide) (by decide) ?_
      refine V_st (st' := [.int (r25), va_rf (some v0)]) rfl ?_
      refine V_if_ne (tgt := 69) hc d_Model_opens_57 (by decide) (fun hq1 => ?_) (fun hq1 => ?_)
      · replace hw := hw.1 hq1
        refine V_sub (lv' := [(0, va_rf (some v0)), (1, .int (v1)), (2, .int (r22))]) [1, 2, 0] rfl ?_
        exact vb_Model_opens_69 hc hq  _ _ _ _ _ hw
      · replace hw := hw.2 hq1
        refine V_aload_n hc 1 d_Model_opens_60 rfl rfl ?_
        obtain ⟨q26, hw⟩ := hw
        refine V_get (v := va_rf (mm_P h24 v0 22)) hc gf_Model_53 rfl q26 rfl d_Model_opens_61 ?_
        refine V_iload_n hc 2 d_Model_opens_64 rfl rfl ?_
        obtain ⟨a27, q28, hw⟩ := hw
        obtain ⟨q29, hw⟩ := hw
        obtain ⟨q30, hw⟩ := hw
        refine V_iald hc q28 q29 q30 d_Model_opens_65 ?_
        refine V_if_eq (tgt := 80) hc d_Model_opens_66 (by decide) (fun hq1 => ?_) (fun hq1 => ?_)
        · replace hw := hw.1 hq1
          refine V_sub (lv' := [(0, va_rf (some v0)), (1, .int (v1)), (2, .int (r22))]) [1, 2, 0] rfl ?_
          exact vb_Model_opens_80 hc hq  _ _ _ _ _ hw
        · replace hw := hw.2 hq1
          refine V_sub (lv' := [(0, va_rf (some v0)), (1, .int (v1)), (2, .int (r22))]) [1, 2, 0] rfl ?_
          exact vb_Model_opens_69 hc hq  _ _ _ _ _ hw
    · replace hw := hw.2 hq1
      refine V_sub (lv' := []) [] rfl ?_
      exact vb_Model_opens_34 hc hq  _ hw
set_option maxRecDepth 100000 in
set_option maxHeartbeats 4000000 in
theorem vb_Model_opens_0 {E : mm_E} {Z : mm_M → Prop} (hc : cx E "EpochServerModel" c_Model_opens 6 none rm_Model_opens) (hq : cq E rm_Model_opens (pV Z))  (v0 : Nat) (v1 : Int32) (h : mm_M) (hw : wq_Model_opens_0  (mm_ge (eG E)) v0 v1 h Z) : V E 6 0 0 h 0 [(0, va_rf (some v0)), (1, .int (v1))] [] := by
  unfold wq_Model_opens_0 at hw
  refine V_aload_n hc 0 d_Model_opens_0 rfl rfl ?_
  refine V_aload_n hc 0 d_Model_opens_1 rfl rfl ?_
  obtain ⟨q1, hw⟩ := hw
  refine V_get (v := va_rf (mm_P h v0 24)) hc gf_Model_59 rfl q1 rfl d_Model_opens_2 ?_
  refine V_iload_n hc 1 d_Model_opens_5 rfl rfl ?_
  obtain ⟨a2, q3, hw⟩ := hw
  obtain ⟨q4, hw⟩ := hw
  obtain ⟨q5, hw⟩ := hw
  refine V_iald hc q3 q4 q5 d_Model_opens_6 ?_
  refine V_if_lt (tgt := 14) hc d_Model_opens_7 (by decide) (fun hq1 => ?_) (fun hq1 => ?_)
  · replace hw := hw.1 hq1
    refine V_iconst (v := 0) hc d_Model_opens_14 (by decide) ?_
    refine V_sub (lv' := [(0, va_rf (some v0)), (1, .int (v1))]) [0, 1] rfl ?_
    exact vb_Model_opens_15 hc hq  _ _ _ _ _ hw
  · replace hw := hw.2 hq1
    refine V_iconst (v := 1) hc d_Model_opens_10 (by decide) ?_
    refine V_goto (tgt := 15) hc d_Model_opens_11 (by decide) ?_
    refine V_sub (lv' := [(0, va_rf (some v0)), (1, .int (v1))]) [0, 1] rfl ?_
    exact vb_Model_opens_15 hc hq  _ _ _ _ _ hw
def wq_Model_opens (ge : Nat → Nat) (v0 : Nat) (v1 : Int32) (h : mm_M) (Z : mm_M → Prop) : Prop := wq_Model_opens_0 ge v0 v1 h Z
theorem sat_Model_opens (G : mm_G) (v0 : Nat) (v1 : Int32) (h : mm_M) (Z : mm_M → Prop) (hw : wq_Model_opens (mm_ge G) v0 v1 h Z) : mm_Met G y_Model_opens c_Model_opens 6 none rm_Model_opens [va_rf (some v0), .int (v1)] h (pV Z) := by
  refine mm_intro (own := "EpochServerModel") (by decide) rfl (by simp [lg_sl, cat_rf, cat_i, cat_l]) (fun E e1 hc hq hi => ?_)
  subst e1
  have e2 : lv_args 0 [va_rf (some v0), .int (v1)] = [(0, va_rf (some v0)), (1, .int (v1))] := by simp [lv_args, cat_rf, cat_i, cat_l]
  rw [e2]
  refine V_sub (lv' := [(0, va_rf (some v0)), (1, .int (v1))]) [0, 1] rfl ?_
  exact vb_Model_opens_0 hc hq v0 v1 h hw
/-! Model.isName(II)Z -/
abbrev rm_Model_isName : Room := { frames := 0, cells := 0, slots := 0, locals := 0 }
def wq_Model_isName_42  (ge : Nat → Nat)  (h : mm_M) (Z : Int32 → mm_M → Prop) : Prop :=
  Z (0) h
def wq_Model_isName_97  (ge : Nat → Nat) (v3 : Int32) (h : mm_M) (Z : Int32 → mm_M → Prop) : Prop :=
  ((v3) = 0 ∨ (v3) = 1) ∧ Z (v3) h
def wq_Model_isName_90 (X49 : Nat → Int32 → Int32 → Int32 → Int32 → mm_M → Prop) (ge : Nat → Nat) (v0 : Nat) (v1 : Int32) (v2 : Int32) (v4 : Int32) (s0 : Int32) (h : mm_M) (Z : Int32 → mm_M → Prop) : Prop :=
  X49 (v0) (v1) (v2) (s0) (v4 + 1) h
def wq_Model_isName_89 (X49 : Nat → Int32 → Int32 → Int32 → Int32 → mm_M → Prop) (ge : Nat → Nat) (v0 : Nat) (v1 : Int32) (v2 : Int32) (v4 : Int32) (h : mm_M) (Z : Int32 → mm_M → Prop) : Prop :=
  wq_Model_isName_90 X49 ge (v0) (v1) (v2) (v4) (0) h Z
def wq_Model_isName_49 (X49 : Nat → Int32 → Int32 → Int32 → Int32 → mm_M → Prop) (ge : Nat → Nat) (v0 : Nat) (v1 : Int32) (v2 : Int32) (v3 : Int32) (v4 : Int32) (h : mm_M) (Z : Int32 → mm_M → Prop) : Prop :=
  (((v2 : Int32) ≤ (v4 : Int32) → wq_Model_isName_97  ge (v3) h Z) ∧ (¬ (v2 : Int32) ≤ (v4 : Int32) → (((v3) = 0 → wq_Model_isName_97  ge (v3) h Z) ∧ (¬ (v3) = 0 → mm_k h (v0) = kd_Model ∧ ∃ a2, mm_P h v0 14 = some a2 ∧ mm_k h (a2) = ka_I ∧ vp_in ((v1) + (v4)) (mm_n h a2) ∧ (((mm_I h a2 (Int32.toNatClampNeg ((v1) + (v4)))) = 0 → wq_Model_isName_89 X49 ge (v0) (v1) (v2) (v4) h Z) ∧ (¬ (mm_I h a2 (Int32.toNatClampNeg ((v1) + (v4)))) = 0 → vp_in ((v1) + (v4)) (mm_n h a2) ∧ (((mm_I h a2 (Int32.toNatClampNeg ((v1) + (v4))) : Int32) = (47 : Int32) → wq_Model_isName_89 X49 ge (v0) (v1) (v2) (v4) h Z) ∧ (¬ (mm_I h a2 (Int32.toNatClampNeg ((v1) + (v4))) : Int32) = (47 : Int32) → wq_Model_isName_90 X49 ge (v0) (v1) (v2) (v4) (1) h Z))))))))
def lp_Model_isName_49  (ge : Nat → Nat) (v0 : Nat) (v1 : Int32) (v2 : Int32) (v3 : Int32) (v4 : Int32) (h : mm_M) (Z : Int32 → mm_M → Prop) : Prop :=
  ∀ X49 : Nat → Int32 → Int32 → Int32 → Int32 → mm_M → Prop, (∀ (v0 : Nat) (v1 : Int32) (v2 : Int32) (v3 : Int32) (v4 : Int32) (h : mm_M), wq_Model_isName_49 X49 ge v0 v1 v2 v3 v4 h Z → X49 v0 v1 v2 v3 v4 h) → X49 v0 v1 v2 v3 v4 h
def wq_Model_isName_44  (ge : Nat → Nat) (v0 : Nat) (v1 : Int32) (v2 : Int32) (h : mm_M) (Z : Int32 → mm_M → Prop) : Prop :=
  lp_Model_isName_49  ge (v0) (v1) (v2) (1) (0) h Z
def wq_Model_isName_0  (ge : Nat → Nat) (v0 : Nat) (v1 : Int32) (v2 : Int32) (h : mm_M) (Z : Int32 → mm_M → Prop) : Prop :=
  (((v2 : Int32) < (1 : Int32) → wq_Model_isName_42  ge h Z) ∧ (¬ (v2 : Int32) < (1 : Int32) → (((20 : Int32) < (v2 : Int32) → wq_Model_isName_42  ge h Z) ∧ (¬ (20 : Int32) < (v2 : Int32) → (((3 : Int32) ≤ (v2 : Int32) → wq_Model_isName_44  ge (v0) (v1) (v2) h Z) ∧ (¬ (3 : Int32) ≤ (v2 : Int32) → mm_k h (v0) = kd_Model ∧ ∃ a2, mm_P h v0 14 = some a2 ∧ mm_k h (a2) = ka_I ∧ vp_in (v1) (mm_n h a2) ∧ ((¬ (mm_I h a2 (Int32.toNatClampNeg (v1)) : Int32) = (46 : Int32) → wq_Model_isName_44  ge (v0) (v1) (v2) h Z) ∧ ((mm_I h a2 (Int32.toNatClampNeg (v1)) : Int32) = (46 : Int32) → vp_in (((v1) + (v2)) - (1 : Int32)) (mm_n h a2) ∧ ((¬ (mm_I h a2 (Int32.toNatClampNeg (((v1) + (v2)) - (1 : Int32))) : Int32) = (46 : Int32) → wq_Model_isName_44  ge (v0) (v1) (v2) h Z) ∧ ((mm_I h a2 (Int32.toNatClampNeg (((v1) + (v2)) - (1 : Int32))) : Int32) = (46 : Int32) → wq_Model_isName_42  ge h Z))))))))))
set_option maxRecDepth 100000 in
set_option maxHeartbeats 4000000 in
theorem vb_Model_isName_42 {E : mm_E} {Z : Int32 → mm_M → Prop} (hc : cx E "EpochServerModel" c_Model_isName 5 (some (.boolean)) rm_Model_isName) (hq : cq E rm_Model_isName (pI Z))   (h : mm_M) (hw : wq_Model_isName_42  (mm_ge (eG E))  h Z) : V E 5 0 0 h 42 [] [] := by
  unfold wq_Model_isName_42 at hw
  refine V_iconst (v := 0) hc d_Model_isName_42 (by decide) ?_
  exact V_zret hc hq (by decide) ⟨_, rfl, hw⟩ (by decide) (by decide) d_Model_isName_43
set_option maxRecDepth 100000 in
set_option maxHeartbeats 4000000 in
theorem vb_Model_isName_97 {E : mm_E} {Z : Int32 → mm_M → Prop} (hc : cx E "EpochServerModel" c_Model_isName 5 (some (.boolean)) rm_Model_isName) (hq : cq E rm_Model_isName (pI Z))  (v3 : Int32) (h : mm_M) (hw : wq_Model_isName_97  (mm_ge (eG E)) v3 h Z) : V E 5 0 0 h 97 [(3, .int (v3))] [] := by
  unfold wq_Model_isName_97 at hw
  refine V_iload_n hc 0 d_Model_isName_97 rfl rfl ?_
  obtain ⟨q1, hw⟩ := hw
  exact V_zret hc hq (zz_nar q1) ⟨_, rfl, hw⟩ (by decide) (by decide) d_Model_isName_98
set_option maxRecDepth 100000 in
set_option maxHeartbeats 4000000 in
theorem vb_Model_isName_90 {E : mm_E} {Z : Int32 → mm_M → Prop} (hc : cx E "EpochServerModel" c_Model_isName 5 (some (.boolean)) rm_Model_isName) (hq : cq E rm_Model_isName (pI Z)) (X49 : Nat → Int32 → Int32 → Int32 → Int32 → mm_M → Prop) (hX49 : ∀ (v0 : Nat) (v1 : Int32) (v2 : Int32) (v3 : Int32) (v4 : Int32) (h : mm_M), X49 v0 v1 v2 v3 v4 h → V E 5 0 0 h 49 [(0, va_rf (some v0)), (1, .int (v1)), (2, .int (v2)), (3, .int (v3)), (4, .int (v4))] []) (v0 : Nat) (v1 : Int32) (v2 : Int32) (v4 : Int32) (s0 : Int32) (h : mm_M) (hw : wq_Model_isName_90 X49 (mm_ge (eG E)) v0 v1 v2 v4 s0 h Z) : V E 5 0 0 h 90 [(0, va_rf (some v0)), (1, .int (v1)), (2, .int (v2)), (4, .int (v4))] [.int (s0)] := by
  unfold wq_Model_isName_90 at hw
  refine V_istore_n (i := 3) (lv' := [(3, .int (s0)), (0, va_rf (some v0)), (1, .int (v1)), (2, .int (v2)), (4, .int (v4))]) hc d_Model_isName_90 rfl (by decide) rfl ?_
  refine V_iinc (v := v4 + 1) (lv' := [(4, .int (v4 + 1)), (3, .int (s0)), (0, va_rf (some v0)), (1, .int (v1)), (2, .int (v2))]) hc 4 d_Model_isName_91 rfl rfl (by decide) rfl ?_
  refine V_goto (tgt := 49) hc d_Model_isName_94 (by decide) ?_
  refine V_sub (lv' := [(0, va_rf (some v0)), (1, .int (v1)), (2, .int (v2)), (3, .int (s0)), (4, .int (v4 + 1))]) [2, 3, 4, 1, 0] rfl ?_
  exact hX49 _ _ _ _ _ _ hw
set_option maxRecDepth 100000 in
set_option maxHeartbeats 4000000 in
theorem vb_Model_isName_89 {E : mm_E} {Z : Int32 → mm_M → Prop} (hc : cx E "EpochServerModel" c_Model_isName 5 (some (.boolean)) rm_Model_isName) (hq : cq E rm_Model_isName (pI Z)) (X49 : Nat → Int32 → Int32 → Int32 → Int32 → mm_M → Prop) (hX49 : ∀ (v0 : Nat) (v1 : Int32) (v2 : Int32) (v3 : Int32) (v4 : Int32) (h : mm_M), X49 v0 v1 v2 v3 v4 h → V E 5 0 0 h 49 [(0, va_rf (some v0)), (1, .int (v1)), (2, .int (v2)), (3, .int (v3)), (4, .int (v4))] []) (v0 : Nat) (v1 : Int32) (v2 : Int32) (v4 : Int32) (h : mm_M) (hw : wq_Model_isName_89 X49 (mm_ge (eG E)) v0 v1 v2 v4 h Z) : V E 5 0 0 h 89 [(0, va_rf (some v0)), (1, .int (v1)), (2, .int (v2)), (4, .int (v4))] [] := by
  unfold wq_Model_isName_89 at hw
  refine V_iconst (v := 0) hc d_Model_isName_89 (by decide) ?_
  refine V_sub (lv' := [(0, va_rf (some v0)), (1, .int (v1)), (2, .int (v2)), (4, .int (v4))]) [0, 1, 2, 3] rfl ?_
  exact vb_Model_isName_90 hc hq X49 hX49 _ _ _ _ _ _ hw
set_option maxRecDepth 100000 in
set_option maxHeartbeats 4000000 in
theorem vb_Model_isName_49 {E : mm_E} {Z : Int32 → mm_M → Prop} (hc : cx E "EpochServerModel" c_Model_isName 5 (some (.boolean)) rm_Model_isName) (hq : cq E rm_Model_isName (pI Z)) (X49 : Nat → Int32 → Int32 → Int32 → Int32 → mm_M → Prop) (hX49 : ∀ (v0 : Nat) (v1 : Int32) (v2 : Int32) (v3 : Int32) (v4 : Int32) (h : mm_M), X49 v0 v1 v2 v3 v4 h → V E 5 0 0 h 49 [(0, va_rf (some v0)), (1, .int (v1)), (2, .int (v2)), (3, .int (v3)), (4, .int (v4))] []) (v0 : Nat) (v1 : Int32) (v2 : Int32) (v3 : Int32) (v4 : Int32) (h : mm_M) (hw : wq_Model_isName_49 X49 (mm_ge (eG E)) v0 v1 v2 v3 v4 h Z) : V E 5 0 0 h 49 [(0, va_rf (some v0)), (1, .int (v1)), (2, .int (v2)), (3, .int (v3)), (4, .int (v4))] [] := by
  unfold wq_Model_isName_49 at hw
  refine V_iload hc 4 d_Model_isName_49 rfl ?_
  refine V_iload_n hc 2 d_Model_isName_51 rfl rfl ?_
  refine V_icmp_ge (tgt := 97) hc d_Model_isName_52 (by decide) (fun hq1 => ?_) (fun hq1 => ?_)
  · replace hw := hw.1 hq1
    refine V_sub (lv' := [(3, .int (v3))]) [3] rfl ?_
    exact vb_Model_isName_97 hc hq  _ _ hw
  · replace hw := hw.2 hq1
    refine V_iload_n hc 3 d_Model_isName_55 rfl rfl ?_
    refine V_if_eq (tgt := 97) hc d_Model_isName_56 (by decide) (fun hq1 => ?_) (fun hq1 => ?_)
    · replace hw := hw.1 hq1
      refine V_sub (lv' := [(3, .int (v3))]) [3] rfl ?_
      exact vb_Model_isName_97 hc hq  _ _ hw
    · replace hw := hw.2 hq1
      refine V_aload_n hc 0 d_Model_isName_59 rfl rfl ?_
      obtain ⟨q1, hw⟩ := hw
      refine V_get (v := va_rf (mm_P h v0 14)) hc gf_Model_44 rfl q1 rfl d_Model_isName_60 ?_
      refine V_iload_n hc 1 d_Model_isName_63 rfl rfl ?_
      refine V_iload hc 4 d_Model_isName_64 rfl ?_
      refine V_iadd hc d_Model_isName_66 ?_
      obtain ⟨a2, q3, hw⟩ := hw
      obtain ⟨q4, hw⟩ := hw
      obtain ⟨q5, hw⟩ := hw
      refine V_iald hc q3 q4 q5 d_Model_isName_67 ?_
      refine V_if_eq (tgt := 89) hc d_Model_isName_68 (by decide) (fun hq1 => ?_) (fun hq1 => ?_)
      · replace hw := hw.1 hq1
        refine V_sub (lv' := [(0, va_rf (some v0)), (1, .int (v1)), (2, .int (v2)), (4, .int (v4))]) [0, 1, 2, 4] rfl ?_
        exact vb_Model_isName_89 hc hq X49 hX49 _ _ _ _ _ hw
      · replace hw := hw.2 hq1
        refine V_aload_n hc 0 d_Model_isName_71 rfl rfl ?_
        refine V_get (v := va_rf (mm_P h v0 14)) hc gf_Model_44 rfl q1 rfl d_Model_isName_72 ?_
        refine V_iload_n hc 1 d_Model_isName_75 rfl rfl ?_
        refine V_iload hc 4 d_Model_isName_76 rfl ?_
        refine V_iadd hc d_Model_isName_78 ?_
        obtain ⟨q6, hw⟩ := hw
        refine V_iald hc q3 q4 q6 d_Model_isName_79 ?_
        refine V_bipush (v := 47) hc d_Model_isName_80 (by decide) ?_
        refine V_icmp_eq (tgt := 89) hc d_Model_isName_82 (by decide) (fun hq1 => ?_) (fun hq1 => ?_)
        · replace hw := hw.1 hq1
          refine V_sub (lv' := [(0, va_rf (some v0)), (1, .int (v1)), (2, .int (v2)), (4, .int (v4))]) [0, 1, 2, 4] rfl ?_
          exact vb_Model_isName_89 hc hq X49 hX49 _ _ _ _ _ hw
        · replace hw := hw.2 hq1
          refine V_iconst (v := 1) hc d_Model_isName_85 (by decide) ?_
          refine V_goto (tgt := 90) hc d_Model_isName_86 (by decide) ?_
          refine V_sub (lv' := [(0, va_rf (some v0)), (1, .int (v1)), (2, .int (v2)), (4, .int (v4))]) [0, 1, 2, 4] rfl ?_
          exact vb_Model_isName_90 hc hq X49 hX49 _ _ _ _ _ _ hw
theorem vl_Model_isName_49 {E : mm_E} {Z : Int32 → mm_M → Prop} (hc : cx E "EpochServerModel" c_Model_isName 5 (some (.boolean)) rm_Model_isName) (hq : cq E rm_Model_isName (pI Z))  (v0 : Nat) (v1 : Int32) (v2 : Int32) (v3 : Int32) (v4 : Int32) (h : mm_M) (hw : lp_Model_isName_49  (mm_ge (eG E)) v0 v1 v2 v3 v4 h Z) : V E 5 0 0 h 49 [(0, va_rf (some v0)), (1, .int (v1)), (2, .int (v2)), (3, .int (v3)), (4, .int (v4))] [] :=
  hw (fun v0 v1 v2 v3 v4 h => V E 5 0 0 h 49 [(0, va_rf (some v0)), (1, .int (v1)), (2, .int (v2)), (3, .int (v3)), (4, .int (v4))] []) (fun v0 v1 v2 v3 v4 h hb => vb_Model_isName_49 hc hq  _ (fun _ _ _ _ _ _ q => q) v0 v1 v2 v3 v4 h hb)
set_option maxRecDepth 100000 in
set_option maxHeartbeats 4000000 in
theorem vb_Model_isName_44 {E : mm_E} {Z : Int32 → mm_M → Prop} (hc : cx E "EpochServerModel" c_Model_isName 5 (some (.boolean)) rm_Model_isName) (hq : cq E rm_Model_isName (pI Z))  (v0 : Nat) (v1 : Int32) (v2 : Int32) (h : mm_M) (hw : wq_Model_isName_44  (mm_ge (eG E)) v0 v1 v2 h Z) : V E 5 0 0 h 44 [(0, va_rf (some v0)), (1, .int (v1)), (2, .int (v2))] [] := by
  unfold wq_Model_isName_44 at hw
  refine V_iconst (v := 1) hc d_Model_isName_44 (by decide) ?_
  refine V_istore_n (i := 3) (lv' := [(3, .int (1)), (0, va_rf (some v0)), (1, .int (v1)), (2, .int (v2))]) hc d_Model_isName_45 rfl (by decide) rfl ?_
  refine V_iconst (v := 0) hc d_Model_isName_46 (by decide) ?_
  refine V_istore (i := 4) (lv' := [(4, .int (0)), (3, .int (1)), (0, va_rf (some v0)), (1, .int (v1)), (2, .int (v2))]) hc d_Model_isName_47 (by decide) rfl ?_
  refine V_sub (lv' := [(0, va_rf (some v0)), (1, .int (v1)), (2, .int (v2)), (3, .int (1)), (4, .int (0))]) [2, 3, 4, 1, 0] rfl ?_
  exact vl_Model_isName_49 hc hq  _ _ _ _ _ _ hw
set_option maxRecDepth 100000 in
set_option maxHeartbeats 4000000 in
theorem vb_Model_isName_0 {E : mm_E} {Z : Int32 → mm_M → Prop} (hc : cx E "EpochServerModel" c_Model_isName 5 (some (.boolean)) rm_Model_isName) (hq : cq E rm_Model_isName (pI Z))  (v0 : Nat) (v1 : Int32) (v2 : Int32) (h : mm_M) (hw : wq_Model_isName_0  (mm_ge (eG E)) v0 v1 v2 h Z) : V E 5 0 0 h 0 [(0, va_rf (some v0)), (1, .int (v1)), (2, .int (v2))] [] := by
  unfold wq_Model_isName_0 at hw
  refine V_iload_n hc 2 d_Model_isName_0 rfl rfl ?_
  refine V_iconst (v := 1) hc d_Model_isName_1 (by decide) ?_
  refine V_icmp_lt (tgt := 42) hc d_Model_isName_2 (by decide) (fun hq1 => ?_) (fun hq1 => ?_)
  · replace hw := hw.1 hq1
    refine V_sub (lv' := []) [] rfl ?_
    exact vb_Model_isName_42 hc hq  _ hw
  · replace hw := hw.2 hq1
    refine V_iload_n hc 2 d_Model_isName_5 rfl rfl ?_
    refine V_bipush (v := 20) hc d_Model_isName_6 (by decide) ?_
    refine V_icmp_gt (tgt := 42) hc d_Model_isName_8 (by decide) (fun hq1 => ?_) (fun hq1 => ?_)
    · replace hw := hw.1 hq1
      refine V_sub (lv' := []) [] rfl ?_
      exact vb_Model_isName_42 hc hq  _ hw
    · replace hw := hw.2 hq1
      refine V_iload_n hc 2 d_Model_isName_11 rfl rfl ?_
      refine V_iconst (v := 3) hc d_Model_isName_12 (by decide) ?_
      refine V_icmp_ge (tgt := 44) hc d_Model_isName_13 (by decide) (fun hq1 => ?_) (fun hq1 => ?_)
      · replace hw := hw.1 hq1
        refine V_sub (lv' := [(0, va_rf (some v0)), (1, .int (v1)), (2, .int (v2))]) [0, 1, 2] rfl ?_
        exact vb_Model_isName_44 hc hq  _ _ _ _ hw
      · replace hw := hw.2 hq1
        refine V_aload_n hc 0 d_Model_isName_16 rfl rfl ?_
        obtain ⟨q1, hw⟩ := hw
        refine V_get (v := va_rf (mm_P h v0 14)) hc gf_Model_44 rfl q1 rfl d_Model_isName_17 ?_
        refine V_iload_n hc 1 d_Model_isName_20 rfl rfl ?_
        obtain ⟨a2, q3, hw⟩ := hw
        obtain ⟨q4, hw⟩ := hw
        obtain ⟨q5, hw⟩ := hw
        refine V_iald hc q3 q4 q5 d_Model_isName_21 ?_
        refine V_bipush (v := 46) hc d_Model_isName_22 (by decide) ?_
        refine V_icmp_ne (tgt := 44) hc d_Model_isName_24 (by decide) (fun hq1 => ?_) (fun hq1 => ?_)
        · replace hw := hw.1 hq1
          refine V_sub (lv' := [(0, va_rf (some v0)), (1, .int (v1)), (2, .int (v2))]) [0, 1, 2] rfl ?_
          exact vb_Model_isName_44 hc hq  _ _ _ _ hw
        · replace hw := hw.2 hq1
          refine V_aload_n hc 0 d_Model_isName_27 rfl rfl ?_
          refine V_get (v := va_rf (mm_P h v0 14)) hc gf_Model_44 rfl q1 rfl d_Model_isName_28 ?_
          refine V_iload_n hc 1 d_Model_isName_31 rfl rfl ?_
          refine V_iload_n hc 2 d_Model_isName_32 rfl rfl ?_
          refine V_iadd hc d_Model_isName_33 ?_
          refine V_iconst (v := 1) hc d_Model_isName_34 (by decide) ?_
          refine V_isub hc d_Model_isName_35 ?_
          obtain ⟨q6, hw⟩ := hw
          refine V_iald hc q3 q4 q6 d_Model_isName_36 ?_
          refine V_bipush (v := 46) hc d_Model_isName_37 (by decide) ?_
          refine V_icmp_ne (tgt := 44) hc d_Model_isName_39 (by decide) (fun hq1 => ?_) (fun hq1 => ?_)
          · replace hw := hw.1 hq1
            refine V_sub (lv' := [(0, va_rf (some v0)), (1, .int (v1)), (2, .int (v2))]) [0, 1, 2] rfl ?_
            exact vb_Model_isName_44 hc hq  _ _ _ _ hw
          · replace hw := hw.2 hq1
            refine V_sub (lv' := []) [] rfl ?_
            exact vb_Model_isName_42 hc hq  _ hw
def wq_Model_isName (ge : Nat → Nat) (v0 : Nat) (v1 : Int32) (v2 : Int32) (h : mm_M) (Z : Int32 → mm_M → Prop) : Prop := wq_Model_isName_0 ge v0 v1 v2 h Z
theorem sat_Model_isName (G : mm_G) (v0 : Nat) (v1 : Int32) (v2 : Int32) (h : mm_M) (Z : Int32 → mm_M → Prop) (hw : wq_Model_isName (mm_ge G) v0 v1 v2 h Z) : mm_Met G y_Model_isName c_Model_isName 5 (some (.boolean)) rm_Model_isName [va_rf (some v0), .int (v1), .int (v2)] h (pI Z) := by
  refine mm_intro (own := "EpochServerModel") (by decide) rfl (by simp [lg_sl, cat_rf, cat_i, cat_l]) (fun E e1 hc hq hi => ?_)
  subst e1
  have e2 : lv_args 0 [va_rf (some v0), .int (v1), .int (v2)] = [(0, va_rf (some v0)), (1, .int (v1)), (2, .int (v2))] := by simp [lv_args, cat_rf, cat_i, cat_l]
  rw [e2]
  refine V_sub (lv' := [(0, va_rf (some v0)), (1, .int (v1)), (2, .int (v2))]) [0, 1, 2] rfl ?_
  exact vb_Model_isName_0 hc hq v0 v1 v2 h hw
/-! Model.names(III)V -/
abbrev rm_Model_names : Room := { frames := 0, cells := 0, slots := 0, locals := 0 }
def wq_Model_names_10 (X10 : Nat → Int32 → Int32 → Int32 → Int32 → mm_M → Prop) (ge : Nat → Nat) (v0 : Nat) (v1 : Int32) (v2 : Int32) (v3 : Int32) (v4 : Int32) (h : mm_M) (Z : mm_M → Prop) : Prop :=
  (((v3 : Int32) ≤ (v4 : Int32) → Z h) ∧ (¬ (v3 : Int32) ≤ (v4 : Int32) → mm_k h (v0) = kd_Model ∧ ∃ a2, mm_P h v0 14 = some a2 ∧ mm_k h (a2) = ka_I ∧ vp_in ((v2) + (v4)) (mm_n h a2) ∧ ∃ a6, mm_P h v0 7 = some a6 ∧ mm_k h (a6) = ka_I ∧ vp_in (((20 : Int32) * (v1)) + (v4)) (mm_n h a6) ∧ ge 0 ≤ a6 ∧ ∀ h11 : mm_M, h11 = mm_uI h a6 (Int32.toNatClampNeg (((20 : Int32) * (v1)) + (v4))) (mm_I h a2 (Int32.toNatClampNeg ((v2) + (v4)))) → X10 (v0) (v1) (v2) (v3) (v4 + 1) h11))
def lp_Model_names_10  (ge : Nat → Nat) (v0 : Nat) (v1 : Int32) (v2 : Int32) (v3 : Int32) (v4 : Int32) (h : mm_M) (Z : mm_M → Prop) : Prop :=
  ∀ X10 : Nat → Int32 → Int32 → Int32 → Int32 → mm_M → Prop, (∀ (v0 : Nat) (v1 : Int32) (v2 : Int32) (v3 : Int32) (v4 : Int32) (h : mm_M), wq_Model_names_10 X10 ge v0 v1 v2 v3 v4 h Z → X10 v0 v1 v2 v3 v4 h) → X10 v0 v1 v2 v3 v4 h
def wq_Model_names_0  (ge : Nat → Nat) (v0 : Nat) (v1 : Int32) (v2 : Int32) (v3 : Int32) (h : mm_M) (Z : mm_M → Prop) : Prop :=
  mm_k h (v0) = kd_Model ∧ ∃ a2, mm_P h v0 6 = some a2 ∧ mm_k h (a2) = ka_I ∧ vp_in (v1) (mm_n h a2) ∧ ge 0 ≤ a2 ∧ ∀ h7 : mm_M, h7 = mm_uI h a2 (Int32.toNatClampNeg (v1)) (v3) → lp_Model_names_10  ge (v0) (v1) (v2) (v3) (0) h7 Z
set_option maxRecDepth 100000 in
set_option maxHeartbeats 4000000 in
theorem vb_Model_names_10 {E : mm_E} {Z : mm_M → Prop} (hc : cx E "EpochServerModel" c_Model_names 5 none rm_Model_names) (hq : cq E rm_Model_names (pV Z)) (X10 : Nat → Int32 → Int32 → Int32 → Int32 → mm_M → Prop) (hX10 : ∀ (v0 : Nat) (v1 : Int32) (v2 : Int32) (v3 : Int32) (v4 : Int32) (h : mm_M), X10 v0 v1 v2 v3 v4 h → V E 5 0 0 h 10 [(0, va_rf (some v0)), (1, .int (v1)), (2, .int (v2)), (3, .int (v3)), (4, .int (v4))] []) (v0 : Nat) (v1 : Int32) (v2 : Int32) (v3 : Int32) (v4 : Int32) (h : mm_M) (hw : wq_Model_names_10 X10 (mm_ge (eG E)) v0 v1 v2 v3 v4 h Z) : V E 5 0 0 h 10 [(0, va_rf (some v0)), (1, .int (v1)), (2, .int (v2)), (3, .int (v3)), (4, .int (v4))] [] := by
  unfold wq_Model_names_10 at hw
  refine V_iload hc 4 d_Model_names_10 rfl ?_
  refine V_iload_n hc 3 d_Model_names_12 rfl rfl ?_
  refine V_icmp_ge (tgt := 43) hc d_Model_names_13 (by decide) (fun hq1 => ?_) (fun hq1 => ?_)
  · replace hw := hw.1 hq1
    exact V_vret hc hq ⟨rfl, hw⟩ (by decide) (by decide) d_Model_names_43
  · replace hw := hw.2 hq1
    refine V_aload_n hc 0 d_Model_names_16 rfl rfl ?_
    obtain ⟨q1, hw⟩ := hw
    refine V_get (v := va_rf (mm_P h v0 7)) hc gf_Model_33 rfl q1 rfl d_Model_names_17 ?_
    refine V_bipush (v := 20) hc d_Model_names_20 (by decide) ?_
    refine V_iload_n hc 1 d_Model_names_22 rfl rfl ?_
    refine V_imul hc d_Model_names_23 ?_
    refine V_iload hc 4 d_Model_names_24 rfl ?_
    refine V_iadd hc d_Model_names_26 ?_
    refine V_aload_n hc 0 d_Model_names_27 rfl rfl ?_
    refine V_get (v := va_rf (mm_P h v0 14)) hc gf_Model_44 rfl q1 rfl d_Model_names_28 ?_
    refine V_iload_n hc 2 d_Model_names_31 rfl rfl ?_
    refine V_iload hc 4 d_Model_names_32 rfl ?_
    refine V_iadd hc d_Model_names_34 ?_
    obtain ⟨a2, q3, hw⟩ := hw
    obtain ⟨q4, hw⟩ := hw
    obtain ⟨q5, hw⟩ := hw
    refine V_iald hc q3 q4 q5 d_Model_names_35 ?_
    obtain ⟨a6, q7, hw⟩ := hw
    obtain ⟨q8, hw⟩ := hw
    obtain ⟨q9, hw⟩ := hw
    obtain ⟨q10, hw⟩ := hw
    obtain ⟨h11, eq_h11⟩ : ∃ x, x = mm_uI h a6 (Int32.toNatClampNeg (((20 : Int32) * (v1)) + (v4))) (mm_I h a2 (Int32.toNatClampNeg ((v2) + (v4)))) := ⟨_, rfl⟩
    replace hw := hw _ eq_h11
    refine V_iast hc q7 q8 q9 q10 d_Model_names_36 ?_
    rw [← eq_h11]
    refine V_iinc (v := v4 + 1) (lv' := [(4, .int (v4 + 1)), (0, va_rf (some v0)), (1, .int (v1)), (2, .int (v2)), (3, .int (v3))]) hc 4 d_Model_names_37 rfl rfl (by decide) rfl ?_
    refine V_goto (tgt := 10) hc d_Model_names_40 (by decide) ?_
    refine V_sub (lv' := [(0, va_rf (some v0)), (1, .int (v1)), (2, .int (v2)), (3, .int (v3)), (4, .int (v4 + 1))]) [1, 2, 3, 4, 0] rfl ?_
    exact hX10 _ _ _ _ _ _ hw
theorem vl_Model_names_10 {E : mm_E} {Z : mm_M → Prop} (hc : cx E "EpochServerModel" c_Model_names 5 none rm_Model_names) (hq : cq E rm_Model_names (pV Z))  (v0 : Nat) (v1 : Int32) (v2 : Int32) (v3 : Int32) (v4 : Int32) (h : mm_M) (hw : lp_Model_names_10  (mm_ge (eG E)) v0 v1 v2 v3 v4 h Z) : V E 5 0 0 h 10 [(0, va_rf (some v0)), (1, .int (v1)), (2, .int (v2)), (3, .int (v3)), (4, .int (v4))] [] :=
  hw (fun v0 v1 v2 v3 v4 h => V E 5 0 0 h 10 [(0, va_rf (some v0)), (1, .int (v1)), (2, .int (v2)), (3, .int (v3)), (4, .int (v4))] []) (fun v0 v1 v2 v3 v4 h hb => vb_Model_names_10 hc hq  _ (fun _ _ _ _ _ _ q => q) v0 v1 v2 v3 v4 h hb)
set_option maxRecDepth 100000 in
set_option maxHeartbeats 4000000 in
theorem vb_Model_names_0 {E : mm_E} {Z : mm_M → Prop} (hc : cx E "EpochServerModel" c_Model_names 5 none rm_Model_names) (hq : cq E rm_Model_names (pV Z))  (v0 : Nat) (v1 : Int32) (v2 : Int32) (v3 : Int32) (h : mm_M) (hw : wq_Model_names_0  (mm_ge (eG E)) v0 v1 v2 v3 h Z) : V E 5 0 0 h 0 [(0, va_rf (some v0)), (1, .int (v1)), (2, .int (v2)), (3, .int (v3))] [] := by
  unfold wq_Model_names_0 at hw
  refine V_aload_n hc 0 d_Model_names_0 rfl rfl ?_
  obtain ⟨q1, hw⟩ := hw
  refine V_get (v := va_rf (mm_P h v0 6)) hc gf_Model_29 rfl q1 rfl d_Model_names_1 ?_
  refine V_iload_n hc 1 d_Model_names_4 rfl rfl ?_
  refine V_iload_n hc 3 d_Model_names_5 rfl rfl ?_
  obtain ⟨a2, q3, hw⟩ := hw
  obtain ⟨q4, hw⟩ := hw
  obtain ⟨q5, hw⟩ := hw
  obtain ⟨q6, hw⟩ := hw
  obtain ⟨h7, eq_h7⟩ : ∃ x, x = mm_uI h a2 (Int32.toNatClampNeg (v1)) (v3) := ⟨_, rfl⟩
  replace hw := hw _ eq_h7
  refine V_iast hc q3 q4 q5 q6 d_Model_names_6 ?_
  rw [← eq_h7]
  refine V_iconst (v := 0) hc d_Model_names_7 (by decide) ?_
  refine V_istore (i := 4) (lv' := [(4, .int (0)), (0, va_rf (some v0)), (1, .int (v1)), (2, .int (v2)), (3, .int (v3))]) hc d_Model_names_8 (by decide) rfl ?_
  refine V_sub (lv' := [(0, va_rf (some v0)), (1, .int (v1)), (2, .int (v2)), (3, .int (v3)), (4, .int (0))]) [1, 2, 3, 4, 0] rfl ?_
  exact vl_Model_names_10 hc hq  _ _ _ _ _ _ hw
def wq_Model_names (ge : Nat → Nat) (v0 : Nat) (v1 : Int32) (v2 : Int32) (v3 : Int32) (h : mm_M) (Z : mm_M → Prop) : Prop := wq_Model_names_0 ge v0 v1 v2 v3 h Z
theorem sat_Model_names (G : mm_G) (v0 : Nat) (v1 : Int32) (v2 : Int32) (v3 : Int32) (h : mm_M) (Z : mm_M → Prop) (hw : wq_Model_names (mm_ge G) v0 v1 v2 v3 h Z) : mm_Met G y_Model_names c_Model_names 5 none rm_Model_names [va_rf (some v0), .int (v1), .int (v2), .int (v3)] h (pV Z) := by
  refine mm_intro (own := "EpochServerModel") (by decide) rfl (by simp [lg_sl, cat_rf, cat_i, cat_l]) (fun E e1 hc hq hi => ?_)
  subst e1
  have e2 : lv_args 0 [va_rf (some v0), .int (v1), .int (v2), .int (v3)] = [(0, va_rf (some v0)), (1, .int (v1)), (2, .int (v2)), (3, .int (v3))] := by simp [lv_args, cat_rf, cat_i, cat_l]
  rw [e2]
  refine V_sub (lv' := [(0, va_rf (some v0)), (1, .int (v1)), (2, .int (v2)), (3, .int (v3))]) [0, 1, 2, 3] rfl ?_
  exact vb_Model_names_0 hc hq v0 v1 v2 v3 h hw
