/-! Model.readsOf(I)V -/
abbrev rm_Model_readsOf : Room := { frames := 3, cells := 0, slots := 0, locals := 71 }
def wq_Model_readsOf_391 (X391 : Nat → Int32 → Int32 → Int32 → mm_M → Prop) (ge : Nat → Nat) (v0 : Nat) (v4 : Int32) (v5 : Int32) (v6 : Int32) (h : mm_M) (Z : mm_M → Prop) : Prop :=
  (((4 : Int32) ≤ (v6 : Int32) → Z h) ∧ (¬ (4 : Int32) ≤ (v6 : Int32) → mm_k h (v0) = kd_Model ∧ ∃ a2, mm_P h v0 15 = some a2 ∧ mm_k h (a2) = ka_I ∧ vp_in ((v4) + (v6)) (mm_n h a2) ∧ ge 0 ≤ a2 ∧ ∀ h7 : mm_M, h7 = mm_uI h a2 (Int32.toNatClampNeg ((v4) + (v6))) (((v5) >>> (((8 : Int32) * (v6)) &&& 31)) &&& (255 : Int32)) → X391 (v0) (v4) (v5) (v6 + 1) h7))
def lp_Model_readsOf_391  (ge : Nat → Nat) (v0 : Nat) (v4 : Int32) (v5 : Int32) (v6 : Int32) (h : mm_M) (Z : mm_M → Prop) : Prop :=
  ∀ X391 : Nat → Int32 → Int32 → Int32 → mm_M → Prop, (∀ (v0 : Nat) (v4 : Int32) (v5 : Int32) (v6 : Int32) (h : mm_M), wq_Model_readsOf_391 X391 ge v0 v4 v5 v6 h Z → X391 v0 v4 v5 v6 h) → X391 v0 v4 v5 v6 h
def wq_Model_readsOf_377  (ge : Nat → Nat) (v0 : Nat) (v4 : Int32) (h : mm_M) (Z : mm_M → Prop) : Prop :=
  mm_k h (v0) = kd_Model ∧ lp_Model_readsOf_391  ge (v0) (v4) (((mm_I h v0 17) - (v4)) - (4 : Int32)) (0) h Z
def wq_Model_readsOf_359  (ge : Nat → Nat) (v0 : Nat) (v1 : Int32) (v4 : Int32) (h : mm_M) (Z : mm_M → Prop) : Prop :=
  mm_k h (v0) = kd_Model ∧ ∃ a2, mm_P h v0 25 = some a2 ∧ mm_k h (a2) = ka_I ∧ vp_in (v1) (mm_n h a2) ∧ vp_in (v1) (mm_n h a2) ∧ ge 0 ≤ a2 ∧ ∀ h8 : mm_M, h8 = mm_uI h a2 (Int32.toNatClampNeg (v1)) ((mm_I h a2 (Int32.toNatClampNeg (v1))) + (((mm_I h v0 17) - (v4)) - (4 : Int32))) → wq_Model_readsOf_377  ge (v0) (v4) h8 Z
def wq_Model_readsOf_353 (X246 : Nat → Int32 → Int32 → Int32 → Int32 → mm_M → Prop) (ge : Nat → Nat) (v0 : Nat) (v1 : Int32) (v2 : Int32) (v4 : Int32) (v5 : Int32) (h : mm_M) (Z : mm_M → Prop) : Prop :=
  X246 (v0) (v1) (v2) (v4) (v5 + 1) h
def wq_Model_readsOf_246 (X246 : Nat → Int32 → Int32 → Int32 → Int32 → mm_M → Prop) (ge : Nat → Nat) (v0 : Nat) (v1 : Int32) (v2 : Int32) (v4 : Int32) (v5 : Int32) (h : mm_M) (Z : mm_M → Prop) : Prop :=
  (((60 : Int32) ≤ (v5 : Int32) → wq_Model_readsOf_359  ge (v0) (v1) (v4) h Z) ∧ (¬ (60 : Int32) ≤ (v5 : Int32) → mm_k h (v0) = kd_Model ∧ ∃ a2, mm_P h v0 22 = some a2 ∧ mm_k h (a2) = ka_I ∧ vp_in (v1) (mm_n h a2) ∧ wq_Model_spot ge (mm_I h a2 (Int32.toNatClampNeg (v1))) (v5) h (fun (r7 : Int32) (h6 : mm_M) => mm_k h6 (v0) = kd_Model ∧ ∃ a9, mm_P h6 v0 26 = some a9 ∧ mm_k h6 (a9) = ka_I ∧ vp_in (v1) (mm_n h6 a9) ∧ (((v5 : Int32) ≤ (mm_I h6 a9 (Int32.toNatClampNeg (v1)) : Int32) → wq_Model_readsOf_353 X246 ge (v0) (v1) (v2) (v4) (v5) h6 Z) ∧ (¬ (v5 : Int32) ≤ (mm_I h6 a9 (Int32.toNatClampNeg (v1)) : Int32) → ∃ a13, mm_P h6 v0 0 = some a13 ∧ mm_k h6 (a13) = ka_Z ∧ vp_in (r7) (mm_n h6 a13) ∧ (((mm_I h6 a13 (Int32.toNatClampNeg (r7))) = 0 → wq_Model_readsOf_353 X246 ge (v0) (v1) (v2) (v4) (v5) h6 Z) ∧ (¬ (mm_I h6 a13 (Int32.toNatClampNeg (r7))) = 0 → ∃ a17, mm_P h6 v0 1 = some a17 ∧ mm_k h6 (a17) = ka_I ∧ vp_in (r7) (mm_n h6 a17) ∧ ∃ a21, mm_P h6 v0 23 = some a21 ∧ mm_k h6 (a21) = ka_I ∧ vp_in (v1) (mm_n h6 a21) ∧ (((mm_I h6 a17 (Int32.toNatClampNeg (r7)) : Int32) = (mm_I h6 a21 (Int32.toNatClampNeg (v1)) : Int32) → ∃ a25, mm_P h6 v0 6 = some a25 ∧ mm_k h6 (a25) = ka_I ∧ vp_in (r7) (mm_n h6 a25) ∧ (((((((mm_I h6 v0 17) - (v4)) - (4 : Int32)) + (52 : Int32)) + (mm_I h6 a25 (Int32.toNatClampNeg (r7))) : Int32) ≤ (v2 : Int32) → ∃ a29, mm_P h6 v0 22 = some a29 ∧ mm_k h6 (a29) = ka_I ∧ vp_in (v1) (mm_n h6 a29) ∧ wq_Model_stat ge (v0) (mm_I h6 a29 (Int32.toNatClampNeg (v1))) (v5) h6 (fun h33 : mm_M => mm_k h33 (v0) = kd_Model ∧ ∃ a36, mm_P h33 v0 26 = some a36 ∧ mm_k h33 (a36) = ka_I ∧ vp_in (v1) (mm_n h33 a36) ∧ ge 0 ≤ a36 ∧ ∀ h41 : mm_M, h41 = mm_uI h33 a36 (Int32.toNatClampNeg (v1)) (v5) → wq_Model_readsOf_353 X246 ge (v0) (v1) (v2) (v4) (v5) h41 Z)) ∧ (¬ (((((mm_I h6 v0 17) - (v4)) - (4 : Int32)) + (52 : Int32)) + (mm_I h6 a25 (Int32.toNatClampNeg (r7))) : Int32) ≤ (v2 : Int32) → wq_Model_readsOf_359  ge (v0) (v1) (v4) h6 Z))) ∧ (¬ (mm_I h6 a17 (Int32.toNatClampNeg (r7)) : Int32) = (mm_I h6 a21 (Int32.toNatClampNeg (v1)) : Int32) → wq_Model_readsOf_353 X246 ge (v0) (v1) (v2) (v4) (v5) h6 Z)))))))))
def lp_Model_readsOf_246  (ge : Nat → Nat) (v0 : Nat) (v1 : Int32) (v2 : Int32) (v4 : Int32) (v5 : Int32) (h : mm_M) (Z : mm_M → Prop) : Prop :=
  ∀ X246 : Nat → Int32 → Int32 → Int32 → Int32 → mm_M → Prop, (∀ (v0 : Nat) (v1 : Int32) (v2 : Int32) (v4 : Int32) (v5 : Int32) (h : mm_M), wq_Model_readsOf_246 X246 ge v0 v1 v2 v4 v5 h Z → X246 v0 v1 v2 v4 v5 h) → X246 v0 v1 v2 v4 v5 h
def wq_Model_readsOf_237  (ge : Nat → Nat) (v0 : Nat) (v1 : Int32) (v2 : Int32) (v4 : Int32) (h : mm_M) (Z : mm_M → Prop) : Prop :=
  mm_k h (v0) = kd_Model ∧ wq_Model_put ge (v0) (0) (4) h (fun h2 : mm_M => lp_Model_readsOf_246  ge (v0) (v1) (v2) (v4) (1) h2 Z)
def wq_Model_readsOf_206  (ge : Nat → Nat) (v0 : Nat) (v1 : Int32) (v2 : Int32) (v4 : Int32) (s0 : Option Nat) (s1 : Int32) (h : mm_M) (Z : mm_M → Prop) : Prop :=
  ∃ a1, s0 = some a1 ∧ mm_k h (a1) = kd_Model ∧ wq_Model_fails ge (a1) (s1) (5) h (fun (r5 : Int32) (h4 : mm_M) => (((r5) = 0 → mm_k h4 (v0) = kd_Model ∧ ((¬ (lg_cmp (mm_L h4 v0 43) (0)) = 0 → wq_Model_readsOf_237  ge (v0) (v1) (v2) (v4) h4 Z) ∧ ((lg_cmp (mm_L h4 v0 43) (0)) = 0 → ∃ a7, mm_P h4 v0 25 = some a7 ∧ mm_k h4 (a7) = ka_I ∧ vp_in (v1) (mm_n h4 a7) ∧ ge 0 ≤ a7 ∧ ∀ h12 : mm_M, h12 = mm_uI h4 a7 (Int32.toNatClampNeg (v1)) (0) → mm_k h12 (v0) = kd_Model ∧ ∃ a14, mm_P h12 v0 26 = some a14 ∧ mm_k h12 (a14) = ka_I ∧ vp_in (v1) (mm_n h12 a14) ∧ ge 0 ≤ a14 ∧ ∀ h19 : mm_M, h19 = mm_uI h12 a14 (Int32.toNatClampNeg (v1)) ((-1)) → wq_Model_readsOf_237  ge (v0) (v1) (v2) (v4) h19 Z))) ∧ (¬ (r5) = 0 → Z h4)))
def wq_Model_readsOf_205  (ge : Nat → Nat) (v0 : Nat) (v1 : Int32) (v2 : Int32) (v4 : Int32) (s0 : Option Nat) (h : mm_M) (Z : mm_M → Prop) : Prop :=
  wq_Model_readsOf_206  ge (v0) (v1) (v2) (v4) (s0) (0) h Z
def wq_Model_readsOf_173  (ge : Nat → Nat) (v0 : Nat) (v4 : Int32) (h : mm_M) (Z : mm_M → Prop) : Prop :=
  wq_Model_readsOf_377  ge (v0) (v4) h Z
def wq_Model_readsOf_109 (X109 : Nat → Int32 → Int32 → Int32 → Int64 → mm_M → Prop) (ge : Nat → Nat) (v0 : Nat) (v2 : Int32) (v3 : Int32) (v4 : Int32) (v5 : Int64) (h : mm_M) (Z : mm_M → Prop) : Prop :=
  mm_k h (v0) = kd_Model ∧ (((lg_cmp (mm_L h v0 43) (0)) < 0 → wq_Model_readsOf_173  ge (v0) (v4) h Z) ∧ (¬ (lg_cmp (mm_L h v0 43) (0)) < 0 → ∃ a2, mm_P h v0 5 = some a2 ∧ mm_k h (a2) = ka_I ∧ vp_in (v3) (mm_n h a2) ∧ ((0 ≤ (lg_cmp (v5) (Int32.toInt64 (mm_I h a2 (Int32.toNatClampNeg (v3))))) → wq_Model_readsOf_173  ge (v0) (v4) h Z) ∧ (¬ 0 ≤ (lg_cmp (v5) (Int32.toInt64 (mm_I h a2 (Int32.toNatClampNeg (v3))))) → ((0 ≤ (lg_cmp ((v5) - (mm_L h v0 43)) (Int32.toInt64 (v2))) → wq_Model_readsOf_173  ge (v0) (v4) h Z) ∧ (¬ 0 ≤ (lg_cmp ((v5) - (mm_L h v0 43)) (Int32.toInt64 (v2))) → ∃ a6, mm_P h v0 8 = some a6 ∧ mm_k h (a6) = ka_I ∧ vp_in (((512 : Int32) * (v3)) + (Int64.toInt32 (v5))) (mm_n h a6) ∧ wq_Model_put ge (v0) (Int32.toInt64 (mm_I h a6 (Int32.toNatClampNeg (((512 : Int32) * (v3)) + (Int64.toInt32 (v5)))))) (1) h (fun h10 : mm_M => X109 (v0) (v2) (v3) (v4) ((v5) + (1 : Int64)) h10)))))))
def lp_Model_readsOf_109  (ge : Nat → Nat) (v0 : Nat) (v2 : Int32) (v3 : Int32) (v4 : Int32) (v5 : Int64) (h : mm_M) (Z : mm_M → Prop) : Prop :=
  ∀ X109 : Nat → Int32 → Int32 → Int32 → Int64 → mm_M → Prop, (∀ (v0 : Nat) (v2 : Int32) (v3 : Int32) (v4 : Int32) (v5 : Int64) (h : mm_M), wq_Model_readsOf_109 X109 ge v0 v2 v3 v4 v5 h Z → X109 v0 v2 v3 v4 v5 h) → X109 v0 v2 v3 v4 v5 h
def wq_Model_readsOf_66  (ge : Nat → Nat) (v0 : Nat) (v1 : Int32) (s0 : Int32) (h : mm_M) (Z : mm_M → Prop) : Prop :=
  mm_k h (v0) = kd_Model ∧ ∃ a2, mm_P h v0 22 = some a2 ∧ mm_k h (a2) = ka_I ∧ vp_in (v1) (mm_n h a2) ∧ ∃ a6, mm_P h v0 23 = some a6 ∧ mm_k h (a6) = ka_I ∧ vp_in (v1) (mm_n h a6) ∧ wq_Model_spot ge (mm_I h a2 (Int32.toNatClampNeg (v1))) (mm_I h a6 (Int32.toNatClampNeg (v1))) h (fun (r11 : Int32) (h10 : mm_M) => mm_k h10 (v0) = kd_Model ∧ wq_Model_isDirectory ge (v0) (r11) h10 (fun (r14 : Int32) (h13 : mm_M) => ((¬ (r14) = 0 → mm_k h13 (v0) = kd_Model ∧ (((lg_cmp (mm_L h13 v0 43) (0)) = 0 → wq_Model_readsOf_205  ge (v0) (v1) (s0) (mm_I h10 v0 17) (some v0) h13 Z) ∧ (¬ (lg_cmp (mm_L h13 v0 43) (0)) = 0 → ∃ a16, mm_P h13 v0 25 = some a16 ∧ mm_k h13 (a16) = ka_I ∧ vp_in (v1) (mm_n h13 a16) ∧ (((lg_cmp (mm_L h13 v0 43) (Int32.toInt64 (mm_I h13 a16 (Int32.toNatClampNeg (v1))))) = 0 → wq_Model_readsOf_205  ge (v0) (v1) (s0) (mm_I h10 v0 17) (some v0) h13 Z) ∧ (¬ (lg_cmp (mm_L h13 v0 43) (Int32.toInt64 (mm_I h13 a16 (Int32.toNatClampNeg (v1))))) = 0 → wq_Model_readsOf_206  ge (v0) (v1) (s0) (mm_I h10 v0 17) (some v0) (1) h13 Z))))) ∧ ((r14) = 0 → mm_k h13 (v0) = kd_Model ∧ wq_Model_put ge (v0) (0) (4) h13 (fun h21 : mm_M => mm_k h21 (v0) = kd_Model ∧ lp_Model_readsOf_109  ge (v0) (s0) (r11) (mm_I h10 v0 17) (mm_L h21 v0 43) h21 Z)))))
def wq_Model_readsOf_27  (ge : Nat → Nat) (v0 : Nat) (v1 : Int32) (s0 : Option Nat) (s1 : Int32) (h : mm_M) (Z : mm_M → Prop) : Prop :=
  ∃ a1, s0 = some a1 ∧ mm_k h (a1) = kd_Model ∧ wq_Model_fails ge (a1) (s1) (3) h (fun (r5 : Int32) (h4 : mm_M) => (((r5) = 0 → mm_k h4 (v0) = kd_Model ∧ (((lg_cmp (mm_L h4 v0 44) (Int32.toInt64 ((mm_I h4 v0 20) - (11 : Int32)))) ≤ 0 → wq_Model_readsOf_66  ge (v0) (v1) (Int64.toInt32 (mm_L h4 v0 44)) h4 Z) ∧ (¬ (lg_cmp (mm_L h4 v0 44) (Int32.toInt64 ((mm_I h4 v0 20) - (11 : Int32)))) ≤ 0 → wq_Model_readsOf_66  ge (v0) (v1) ((mm_I h4 v0 20) - (11 : Int32)) h4 Z))) ∧ (¬ (r5) = 0 → Z h4)))
def wq_Model_readsOf_22  (ge : Nat → Nat) (v0 : Nat) (v1 : Int32) (s0 : Option Nat) (h : mm_M) (Z : mm_M → Prop) : Prop :=
  wq_Model_readsOf_27  ge (v0) (v1) (s0) (1) h Z
def wq_Model_readsOf_0  (ge : Nat → Nat) (v0 : Nat) (v1 : Int32) (h : mm_M) (Z : mm_M → Prop) : Prop :=
  mm_k h (v0) = kd_Model ∧ ∃ a2, mm_P h v0 24 = some a2 ∧ mm_k h (a2) = ka_I ∧ vp_in (v1) (mm_n h a2) ∧ (((mm_I h a2 (Int32.toNatClampNeg (v1))) < 0 → wq_Model_readsOf_22  ge (v0) (v1) (some v0) h Z) ∧ (¬ (mm_I h a2 (Int32.toNatClampNeg (v1))) < 0 → vp_in (v1) (mm_n h a2) ∧ ((¬ ((mm_I h a2 (Int32.toNatClampNeg (v1))) &&& (3 : Int32) : Int32) = (1 : Int32) → wq_Model_readsOf_27  ge (v0) (v1) (some v0) (0) h Z) ∧ (((mm_I h a2 (Int32.toNatClampNeg (v1))) &&& (3 : Int32) : Int32) = (1 : Int32) → wq_Model_readsOf_22  ge (v0) (v1) (some v0) h Z))))
set_option maxRecDepth 100000 in
set_option maxHeartbeats 4000000 in
theorem vb_Model_readsOf_391 {E : mm_E} {Z : mm_M → Prop} (hc : cx E "EpochServerModel" c_Model_readsOf 7 none rm_Model_readsOf) (hq : cq E rm_Model_readsOf (pV Z)) (X391 : Nat → Int32 → Int32 → Int32 → mm_M → Prop) (hX391 : ∀ (v0 : Nat) (v4 : Int32) (v5 : Int32) (v6 : Int32) (h : mm_M), X391 v0 v4 v5 v6 h → V E 7 0 0 h 391 [(0, va_rf (some v0)), (4, .int (v4)), (5, .int (v5)), (6, .int (v6))] []) (v0 : Nat) (v4 : Int32) (v5 : Int32) (v6 : Int32) (h : mm_M) (hw : wq_Model_readsOf_391 X391 (mm_ge (eG E)) v0 v4 v5 v6 h Z) : V E 7 0 0 h 391 [(0, va_rf (some v0)), (4, .int (v4)), (5, .int (v5)), (6, .int (v6))] [] := by
  unfold wq_Model_readsOf_391 at hw
  refine V_iload hc 3 d_Model_readsOf_391 rfl ?_
  refine V_iconst (v := 4) hc d_Model_readsOf_393 (by decide) ?_
  refine V_icmp_ge (tgt := 425) hc d_Model_readsOf_394 (by decide) (fun hq1 => ?_) (fun hq1 => ?_)
  · replace hw := hw.1 hq1
    exact V_vret hc hq ⟨rfl, hw⟩ (by decide) (by decide) d_Model_readsOf_425
  · replace hw := hw.2 hq1
    refine V_aload_n hc 0 d_Model_readsOf_397 rfl rfl ?_
    obtain ⟨q1, hw⟩ := hw
    refine V_get (v := va_rf (mm_P h v0 15)) hc gf_Model_47 rfl q1 rfl d_Model_readsOf_398 ?_
    refine V_iload hc 1 d_Model_readsOf_401 rfl ?_
    refine V_iload hc 3 d_Model_readsOf_403 rfl ?_
    refine V_iadd hc d_Model_readsOf_405 ?_
    refine V_iload hc 2 d_Model_readsOf_406 rfl ?_
    refine V_bipush (v := 8) hc d_Model_readsOf_408 (by decide) ?_
    refine V_iload hc 3 d_Model_readsOf_410 rfl ?_
    refine V_imul hc d_Model_readsOf_412 ?_
    refine V_ishr hc d_Model_readsOf_413 ?_
    refine V_sipush (v := 255) hc d_Model_readsOf_414 (by decide) ?_
    refine V_iand hc d_Model_readsOf_417 ?_
    obtain ⟨a2, q3, hw⟩ := hw
    obtain ⟨q4, hw⟩ := hw
    obtain ⟨q5, hw⟩ := hw
    obtain ⟨q6, hw⟩ := hw
    obtain ⟨h7, eq_h7⟩ : ∃ x, x = mm_uI h a2 (Int32.toNatClampNeg ((v4) + (v6))) (((v5) >>> (((8 : Int32) * (v6)) &&& 31)) &&& (255 : Int32)) := ⟨_, rfl⟩
    replace hw := hw _ eq_h7
    refine V_iast hc q3 q4 q5 q6 d_Model_readsOf_418 ?_
    rw [← eq_h7]
    refine V_iinc (v := v6 + 1) (lv' := [(6, .int (v6 + 1)), (0, va_rf (some v0)), (4, .int (v4)), (5, .int (v5))]) hc 3 d_Model_readsOf_419 rfl rfl (by decide) rfl ?_
    refine V_goto (tgt := 391) hc d_Model_readsOf_422 (by decide) ?_
    refine V_sub (lv' := [(0, va_rf (some v0)), (4, .int (v4)), (5, .int (v5)), (6, .int (v6 + 1))]) [1, 2, 3, 0] rfl ?_
    exact hX391 _ _ _ _ _ hw
theorem vl_Model_readsOf_391 {E : mm_E} {Z : mm_M → Prop} (hc : cx E "EpochServerModel" c_Model_readsOf 7 none rm_Model_readsOf) (hq : cq E rm_Model_readsOf (pV Z))  (v0 : Nat) (v4 : Int32) (v5 : Int32) (v6 : Int32) (h : mm_M) (hw : lp_Model_readsOf_391  (mm_ge (eG E)) v0 v4 v5 v6 h Z) : V E 7 0 0 h 391 [(0, va_rf (some v0)), (4, .int (v4)), (5, .int (v5)), (6, .int (v6))] [] :=
  hw (fun v0 v4 v5 v6 h => V E 7 0 0 h 391 [(0, va_rf (some v0)), (4, .int (v4)), (5, .int (v5)), (6, .int (v6))] []) (fun v0 v4 v5 v6 h hb => vb_Model_readsOf_391 hc hq  _ (fun _ _ _ _ _ q => q) v0 v4 v5 v6 h hb)
set_option maxRecDepth 100000 in
set_option maxHeartbeats 4000000 in
theorem vb_Model_readsOf_377 {E : mm_E} {Z : mm_M → Prop} (hc : cx E "EpochServerModel" c_Model_readsOf 7 none rm_Model_readsOf) (hq : cq E rm_Model_readsOf (pV Z))  (v0 : Nat) (v4 : Int32) (h : mm_M) (hw : wq_Model_readsOf_377  (mm_ge (eG E)) v0 v4 h Z) : V E 7 0 0 h 377 [(0, va_rf (some v0)), (4, .int (v4))] [] := by
  unfold wq_Model_readsOf_377 at hw
  refine V_aload_n hc 0 d_Model_readsOf_377 rfl rfl ?_
  obtain ⟨q1, hw⟩ := hw
  refine V_get (v := .int (mm_I h v0 17)) hc gf_Model_197 rfl q1 rfl d_Model_readsOf_378 ?_
  refine V_iload hc 1 d_Model_readsOf_381 rfl ?_
  refine V_isub hc d_Model_readsOf_383 ?_
  refine V_iconst (v := 4) hc d_Model_readsOf_384 (by decide) ?_
  refine V_isub hc d_Model_readsOf_385 ?_
  refine V_istore (i := 5) (lv' := [(5, .int (((mm_I h v0 17) - (v4)) - (4 : Int32))), (0, va_rf (some v0)), (4, .int (v4))]) hc d_Model_readsOf_386 (by decide) rfl ?_
  refine V_iconst (v := 0) hc d_Model_readsOf_388 (by decide) ?_
  refine V_istore (i := 6) (lv' := [(6, .int (0)), (5, .int (((mm_I h v0 17) - (v4)) - (4 : Int32))), (0, va_rf (some v0)), (4, .int (v4))]) hc d_Model_readsOf_389 (by decide) rfl ?_
  refine V_sub (lv' := [(0, va_rf (some v0)), (4, .int (v4)), (5, .int (((mm_I h v0 17) - (v4)) - (4 : Int32))), (6, .int (0))]) [2, 3, 1, 0] rfl ?_
  exact vl_Model_readsOf_391 hc hq  _ _ _ _ _ hw
set_option maxRecDepth 100000 in
set_option maxHeartbeats 4000000 in
theorem vb_Model_readsOf_359 {E : mm_E} {Z : mm_M → Prop} (hc : cx E "EpochServerModel" c_Model_readsOf 7 none rm_Model_readsOf) (hq : cq E rm_Model_readsOf (pV Z))  (v0 : Nat) (v1 : Int32) (v4 : Int32) (h : mm_M) (hw : wq_Model_readsOf_359  (mm_ge (eG E)) v0 v1 v4 h Z) : V E 7 0 0 h 359 [(0, va_rf (some v0)), (1, .int (v1)), (4, .int (v4))] [] := by
  unfold wq_Model_readsOf_359 at hw
  refine V_aload_n hc 0 d_Model_readsOf_359 rfl rfl ?_
  obtain ⟨q1, hw⟩ := hw
  refine V_get (v := va_rf (mm_P h v0 25)) hc gf_Model_62 rfl q1 rfl d_Model_readsOf_360 ?_
  refine V_iload_n hc 1 d_Model_readsOf_363 rfl rfl ?_
  refine V_dup2 hc d_Model_readsOf_364 rfl (cat_rf _) ?_
  obtain ⟨a2, q3, hw⟩ := hw
  obtain ⟨q4, hw⟩ := hw
  obtain ⟨q5, hw⟩ := hw
  refine V_iald hc q3 q4 q5 d_Model_readsOf_365 ?_
  refine V_aload_n hc 0 d_Model_readsOf_366 rfl rfl ?_
  refine V_get (v := .int (mm_I h v0 17)) hc gf_Model_197 rfl q1 rfl d_Model_readsOf_367 ?_
  refine V_iload hc 2 d_Model_readsOf_370 rfl ?_
  refine V_isub hc d_Model_readsOf_372 ?_
  refine V_iconst (v := 4) hc d_Model_readsOf_373 (by decide) ?_
  refine V_isub hc d_Model_readsOf_374 ?_
  refine V_iadd hc d_Model_readsOf_375 ?_
  obtain ⟨q6, hw⟩ := hw
  obtain ⟨q7, hw⟩ := hw
  obtain ⟨h8, eq_h8⟩ : ∃ x, x = mm_uI h a2 (Int32.toNatClampNeg (v1)) ((mm_I h a2 (Int32.toNatClampNeg (v1))) + (((mm_I h v0 17) - (v4)) - (4 : Int32))) := ⟨_, rfl⟩
  replace hw := hw _ eq_h8
  refine V_iast hc q3 q4 q6 q7 d_Model_readsOf_376 ?_
  rw [← eq_h8]
  refine V_sub (lv' := [(0, va_rf (some v0)), (4, .int (v4))]) [0, 2] rfl ?_
  exact vb_Model_readsOf_377 hc hq  _ _ _ hw
set_option maxRecDepth 100000 in
set_option maxHeartbeats 4000000 in
theorem vb_Model_readsOf_353 {E : mm_E} {Z : mm_M → Prop} (hc : cx E "EpochServerModel" c_Model_readsOf 7 none rm_Model_readsOf) (hq : cq E rm_Model_readsOf (pV Z)) (X246 : Nat → Int32 → Int32 → Int32 → Int32 → mm_M → Prop) (hX246 : ∀ (v0 : Nat) (v1 : Int32) (v2 : Int32) (v4 : Int32) (v5 : Int32) (h : mm_M), X246 v0 v1 v2 v4 v5 h → V E 7 0 0 h 246 [(0, va_rf (some v0)), (1, .int (v1)), (2, .int (v2)), (4, .int (v4)), (5, .int (v5))] []) (v0 : Nat) (v1 : Int32) (v2 : Int32) (v4 : Int32) (v5 : Int32) (h : mm_M) (hw : wq_Model_readsOf_353 X246 (mm_ge (eG E)) v0 v1 v2 v4 v5 h Z) : V E 7 0 0 h 353 [(0, va_rf (some v0)), (1, .int (v1)), (2, .int (v2)), (4, .int (v4)), (5, .int (v5))] [] := by
  unfold wq_Model_readsOf_353 at hw
  refine V_iinc (v := v5 + 1) (lv' := [(5, .int (v5 + 1)), (0, va_rf (some v0)), (1, .int (v1)), (2, .int (v2)), (4, .int (v4))]) hc 4 d_Model_readsOf_353 rfl rfl (by decide) rfl ?_
  refine V_goto (tgt := 246) hc d_Model_readsOf_356 (by decide) ?_
  refine V_sub (lv' := [(0, va_rf (some v0)), (1, .int (v1)), (2, .int (v2)), (4, .int (v4)), (5, .int (v5 + 1))]) [1, 2, 3, 4, 0] rfl ?_
  exact hX246 _ _ _ _ _ _ hw
set_option maxRecDepth 100000 in
set_option maxHeartbeats 4000000 in
theorem vb_Model_readsOf_246 {E : mm_E} {Z : mm_M → Prop} (hc : cx E "EpochServerModel" c_Model_readsOf 7 none rm_Model_readsOf) (hq : cq E rm_Model_readsOf (pV Z)) (X246 : Nat → Int32 → Int32 → Int32 → Int32 → mm_M → Prop) (hX246 : ∀ (v0 : Nat) (v1 : Int32) (v2 : Int32) (v4 : Int32) (v5 : Int32) (h : mm_M), X246 v0 v1 v2 v4 v5 h → V E 7 0 0 h 246 [(0, va_rf (some v0)), (1, .int (v1)), (2, .int (v2)), (4, .int (v4)), (5, .int (v5))] []) (v0 : Nat) (v1 : Int32) (v2 : Int32) (v4 : Int32) (v5 : Int32) (h : mm_M) (hw : wq_Model_readsOf_246 X246 (mm_ge (eG E)) v0 v1 v2 v4 v5 h Z) : V E 7 0 0 h 246 [(0, va_rf (some v0)), (1, .int (v1)), (2, .int (v2)), (4, .int (v4)), (5, .int (v5))] [] := by
  unfold wq_Model_readsOf_246 at hw
  refine V_iload hc 4 d_Model_readsOf_246 rfl ?_
  refine V_bipush (v := 60) hc d_Model_readsOf_248 (by decide) ?_
  refine V_icmp_ge (tgt := 359) hc d_Model_readsOf_250 (by decide) (fun hq1 => ?_) (fun hq1 => ?_)
  · replace hw := hw.1 hq1
    refine V_sub (lv' := [(0, va_rf (some v0)), (1, .int (v1)), (4, .int (v4))]) [0, 1, 3] rfl ?_
    exact vb_Model_readsOf_359 hc hq  _ _ _ _ hw
  · replace hw := hw.2 hq1
    refine V_aload_n hc 0 d_Model_readsOf_253 rfl rfl ?_
    obtain ⟨q1, hw⟩ := hw
    refine V_get (v := va_rf (mm_P h v0 22)) hc gf_Model_53 rfl q1 rfl d_Model_readsOf_254 ?_
    refine V_iload_n hc 1 d_Model_readsOf_257 rfl rfl ?_
    obtain ⟨a2, q3, hw⟩ := hw
    obtain ⟨q4, hw⟩ := hw
    obtain ⟨q5, hw⟩ := hw
    refine V_iald hc q3 q4 q5 d_Model_readsOf_258 ?_
    refine V_iload hc 4 d_Model_readsOf_259 rfl ?_
    refine V_callS (rm' := rm_Model_spot) (As := [.int (mm_I h a2 (Int32.toNatClampNeg (v1))), .int (v5)]) (rest := []) (n := 2) hc (sat_Model_spot (eG E) _ _ _ _ hw) cv_Model_96 (gw_of (tw_5 (List.mem_of_getElem? (i := 196) rfl)) rfl) rfl ⟨by decide, by decide⟩ (by decide) (by decide) rfl (by simp [cat_rf, cat_i, cat_l]) d_Model_readsOf_261 (fun r0 h6 hw => ?_)
    obtain ⟨r7, rfl, hw⟩ := hw
    refine V_wide (cs' := 0) (sl' := 0) (by decide) (by decide) ?_
    refine V_st (st' := [.int (r7)]) rfl ?_
    refine V_istore (i := 6) (lv' := [(6, .int (r7)), (0, va_rf (some v0)), (1, .int (v1)), (2, .int (v2)), (4, .int (v4)), (5, .int (v5))]) hc d_Model_readsOf_264 (by decide) rfl ?_
    refine V_iload hc 5 d_Model_readsOf_266 rfl ?_
    refine V_aload_n hc 1 d_Model_readsOf_268 rfl rfl ?_
    obtain ⟨q8, hw⟩ := hw
    refine V_get (v := va_rf (mm_P h6 v0 26)) hc gf_Model_65 rfl q8 rfl d_Model_readsOf_269 ?_
    refine V_iload_n hc 2 d_Model_readsOf_272 rfl rfl ?_
    obtain ⟨a9, q10, hw⟩ := hw
    obtain ⟨q11, hw⟩ := hw
    obtain ⟨q12, hw⟩ := hw
    refine V_iald hc q10 q11 q12 d_Model_readsOf_273 ?_
    refine V_icmp_le (tgt := 353) hc d_Model_readsOf_274 (by decide) (fun hq1 => ?_) (fun hq1 => ?_)
    · replace hw := hw.1 hq1
      refine V_sub (lv' := [(0, va_rf (some v0)), (1, .int (v1)), (2, .int (v2)), (4, .int (v4)), (5, .int (v5))]) [1, 2, 3, 4, 5] rfl ?_
      exact vb_Model_readsOf_353 hc hq X246 hX246 _ _ _ _ _ _ hw
    · replace hw := hw.2 hq1
      refine V_aload_n hc 1 d_Model_readsOf_277 rfl rfl ?_
      refine V_get (v := va_rf (mm_P h6 v0 0)) hc gf_Model_9 rfl q8 rfl d_Model_readsOf_278 ?_
      refine V_iload hc 0 d_Model_readsOf_281 rfl ?_
      obtain ⟨a13, q14, hw⟩ := hw
      obtain ⟨q15, hw⟩ := hw
      obtain ⟨q16, hw⟩ := hw
      refine V_zald hc q14 q15 q16 d_Model_readsOf_283 ?_
      refine V_if_eq (tgt := 353) hc d_Model_readsOf_284 (by decide) (fun hq1 => ?_) (fun hq1 => ?_)
      · replace hw := hw.1 hq1
        refine V_sub (lv' := [(0, va_rf (some v0)), (1, .int (v1)), (2, .int (v2)), (4, .int (v4)), (5, .int (v5))]) [1, 2, 3, 4, 5] rfl ?_
        exact vb_Model_readsOf_353 hc hq X246 hX246 _ _ _ _ _ _ hw
      · replace hw := hw.2 hq1
        refine V_aload_n hc 1 d_Model_readsOf_287 rfl rfl ?_
        refine V_get (v := va_rf (mm_P h6 v0 1)) hc gf_Model_13 rfl q8 rfl d_Model_readsOf_288 ?_
        refine V_iload hc 0 d_Model_readsOf_291 rfl ?_
        obtain ⟨a17, q18, hw⟩ := hw
        obtain ⟨q19, hw⟩ := hw
        obtain ⟨q20, hw⟩ := hw
        refine V_iald hc q18 q19 q20 d_Model_readsOf_293 ?_
        refine V_aload_n hc 1 d_Model_readsOf_294 rfl rfl ?_
        refine V_get (v := va_rf (mm_P h6 v0 23)) hc gf_Model_56 rfl q8 rfl d_Model_readsOf_295 ?_
        refine V_iload_n hc 2 d_Model_readsOf_298 rfl rfl ?_
        obtain ⟨a21, q22, hw⟩ := hw
        obtain ⟨q23, hw⟩ := hw
        obtain ⟨q24, hw⟩ := hw
        refine V_iald hc q22 q23 q24 d_Model_readsOf_299 ?_
        refine V_icmp_eq (tgt := 306) hc d_Model_readsOf_300 (by decide) (fun hq1 => ?_) (fun hq1 => ?_)
        · replace hw := hw.1 hq1
          refine V_aload_n hc 1 d_Model_readsOf_306 rfl rfl ?_
          refine V_get (v := .int (mm_I h6 v0 17)) hc gf_Model_197 rfl q8 rfl d_Model_readsOf_307 ?_
          refine V_iload hc 4 d_Model_readsOf_310 rfl ?_
          refine V_isub hc d_Model_readsOf_312 ?_
          refine V_iconst (v := 4) hc d_Model_readsOf_313 (by decide) ?_
          refine V_isub hc d_Model_readsOf_314 ?_
          refine V_bipush (v := 52) hc d_Model_readsOf_315 (by decide) ?_
          refine V_iadd hc d_Model_readsOf_317 ?_
          refine V_aload_n hc 1 d_Model_readsOf_318 rfl rfl ?_
          refine V_get (v := va_rf (mm_P h6 v0 6)) hc gf_Model_29 rfl q8 rfl d_Model_readsOf_319 ?_
          refine V_iload hc 0 d_Model_readsOf_322 rfl ?_
          obtain ⟨a25, q26, hw⟩ := hw
          obtain ⟨q27, hw⟩ := hw
          obtain ⟨q28, hw⟩ := hw
          refine V_iald hc q26 q27 q28 d_Model_readsOf_324 ?_
          refine V_iadd hc d_Model_readsOf_325 ?_
          refine V_iload_n hc 3 d_Model_readsOf_326 rfl rfl ?_
          refine V_icmp_le (tgt := 333) hc d_Model_readsOf_327 (by decide) (fun hq1 => ?_) (fun hq1 => ?_)
          · replace hw := hw.1 hq1
            refine V_aload_n hc 1 d_Model_readsOf_333 rfl rfl ?_
            refine V_aload_n hc 1 d_Model_readsOf_334 rfl rfl ?_
            refine V_get (v := va_rf (mm_P h6 v0 22)) hc gf_Model_53 rfl q8 rfl d_Model_readsOf_335 ?_
            refine V_iload_n hc 2 d_Model_readsOf_338 rfl rfl ?_
            obtain ⟨a29, q30, hw⟩ := hw
            obtain ⟨q31, hw⟩ := hw
            obtain ⟨q32, hw⟩ := hw
            refine V_iald hc q30 q31 q32 d_Model_readsOf_339 ?_
            refine V_iload hc 5 d_Model_readsOf_340 rfl ?_
            refine V_callV (rm' := rm_Model_stat) (As := [.int (mm_I h6 a29 (Int32.toNatClampNeg (v1))), .int (v5)]) (rest := []) (n := 2) (cn := 0) hc rfl q8 (sat_Model_stat (eG E) _ _ _ _ _ hw) rfl cv_Model_291 (gw_of (tw_6 (List.mem_of_getElem? (i := 108) rfl)) rfl) ss_Model_stat rfl ⟨by decide, by decide⟩ (by decide) (by decide) rfl (by simp [cat_rf, cat_i, cat_l]) d_Model_readsOf_342 (fun r0 h33 hw => ?_)
            obtain ⟨rfl, hw⟩ := hw
            refine V_wide (cs' := 0) (sl' := 0) (by decide) (by decide) ?_
            refine V_st (st' := []) rfl ?_
            refine V_aload_n hc 1 d_Model_readsOf_345 rfl rfl ?_
            obtain ⟨q35, hw⟩ := hw
            refine V_get (v := va_rf (mm_P h33 v0 26)) hc gf_Model_65 rfl q35 rfl d_Model_readsOf_346 ?_
            refine V_iload_n hc 2 d_Model_readsOf_349 rfl rfl ?_
            refine V_iload hc 5 d_Model_readsOf_350 rfl ?_
            obtain ⟨a36, q37, hw⟩ := hw
            obtain ⟨q38, hw⟩ := hw
            obtain ⟨q39, hw⟩ := hw
            obtain ⟨q40, hw⟩ := hw
            obtain ⟨h41, eq_h41⟩ : ∃ x, x = mm_uI h33 a36 (Int32.toNatClampNeg (v1)) (v5) := ⟨_, rfl⟩
            replace hw := hw _ eq_h41
            refine V_iast hc q37 q38 q39 q40 d_Model_readsOf_352 ?_
            rw [← eq_h41]
            refine V_sub (lv' := [(0, va_rf (some v0)), (1, .int (v1)), (2, .int (v2)), (4, .int (v4)), (5, .int (v5))]) [1, 2, 3, 4, 5] rfl ?_
            exact vb_Model_readsOf_353 hc hq X246 hX246 _ _ _ _ _ _ hw
          · replace hw := hw.2 hq1
            refine V_goto (tgt := 359) hc d_Model_readsOf_330 (by decide) ?_
            refine V_sub (lv' := [(0, va_rf (some v0)), (1, .int (v1)), (4, .int (v4))]) [1, 2, 4] rfl ?_
            exact vb_Model_readsOf_359 hc hq  _ _ _ _ hw
        · replace hw := hw.2 hq1
          refine V_goto (tgt := 353) hc d_Model_readsOf_303 (by decide) ?_
          refine V_sub (lv' := [(0, va_rf (some v0)), (1, .int (v1)), (2, .int (v2)), (4, .int (v4)), (5, .int (v5))]) [1, 2, 3, 4, 5] rfl ?_
          exact vb_Model_readsOf_353 hc hq X246 hX246 _ _ _ _ _ _ hw
theorem vl_Model_readsOf_246 {E : mm_E} {Z : mm_M → Prop} (hc : cx E "EpochServerModel" c_Model_readsOf 7 none rm_Model_readsOf) (hq : cq E rm_Model_readsOf (pV Z))  (v0 : Nat) (v1 : Int32) (v2 : Int32) (v4 : Int32) (v5 : Int32) (h : mm_M) (hw : lp_Model_readsOf_246  (mm_ge (eG E)) v0 v1 v2 v4 v5 h Z) : V E 7 0 0 h 246 [(0, va_rf (some v0)), (1, .int (v1)), (2, .int (v2)), (4, .int (v4)), (5, .int (v5))] [] :=
  hw (fun v0 v1 v2 v4 v5 h => V E 7 0 0 h 246 [(0, va_rf (some v0)), (1, .int (v1)), (2, .int (v2)), (4, .int (v4)), (5, .int (v5))] []) (fun v0 v1 v2 v4 v5 h hb => vb_Model_readsOf_246 hc hq  _ (fun _ _ _ _ _ _ q => q) v0 v1 v2 v4 v5 h hb)
set_option maxRecDepth 100000 in
set_option maxHeartbeats 4000000 in
theorem vb_Model_readsOf_237 {E : mm_E} {Z : mm_M → Prop} (hc : cx E "EpochServerModel" c_Model_readsOf 7 none rm_Model_readsOf) (hq : cq E rm_Model_readsOf (pV Z))  (v0 : Nat) (v1 : Int32) (v2 : Int32) (v4 : Int32) (h : mm_M) (hw : wq_Model_readsOf_237  (mm_ge (eG E)) v0 v1 v2 v4 h Z) : V E 7 0 0 h 237 [(0, va_rf (some v0)), (1, .int (v1)), (2, .int (v2)), (4, .int (v4))] [] := by
  unfold wq_Model_readsOf_237 at hw
  refine V_aload_n hc 0 d_Model_readsOf_237 rfl rfl ?_
  refine V_lconst (v := 0) hc d_Model_readsOf_238 (by decide) ?_
  refine V_iconst (v := 4) hc d_Model_readsOf_239 (by decide) ?_
  obtain ⟨q1, hw⟩ := hw
  refine V_callV (rm' := rm_Model_put) (As := [.long (0), .int (4)]) (rest := []) (n := 2) (cn := 0) hc rfl q1 (sat_Model_put (eG E) _ _ _ _ _ hw) rfl cv_Model_212 (gw_of (tw_6 (List.mem_of_getElem? (i := 15) rfl)) rfl) ss_Model_put rfl ⟨by decide, by decide⟩ (by decide) (by decide) rfl (by simp [cat_rf, cat_i, cat_l]) d_Model_readsOf_240 (fun r0 h2 hw => ?_)
  obtain ⟨rfl, hw⟩ := hw
  refine V_wide (cs' := 0) (sl' := 0) (by decide) (by decide) ?_
  refine V_st (st' := []) rfl ?_
  refine V_iconst (v := 1) hc d_Model_readsOf_243 (by decide) ?_
  refine V_istore (i := 5) (lv' := [(5, .int (1)), (0, va_rf (some v0)), (1, .int (v1)), (2, .int (v2)), (4, .int (v4))]) hc d_Model_readsOf_244 (by decide) rfl ?_
  refine V_sub (lv' := [(0, va_rf (some v0)), (1, .int (v1)), (2, .int (v2)), (4, .int (v4)), (5, .int (1))]) [1, 2, 3, 4, 0] rfl ?_
  exact vl_Model_readsOf_246 hc hq  _ _ _ _ _ _ hw
set_option maxRecDepth 100000 in
set_option maxHeartbeats 4000000 in
theorem vb_Model_readsOf_206 {E : mm_E} {Z : mm_M → Prop} (hc : cx E "EpochServerModel" c_Model_readsOf 7 none rm_Model_readsOf) (hq : cq E rm_Model_readsOf (pV Z))  (v0 : Nat) (v1 : Int32) (v2 : Int32) (v4 : Int32) (s0 : Option Nat) (s1 : Int32) (h : mm_M) (hw : wq_Model_readsOf_206  (mm_ge (eG E)) v0 v1 v2 v4 s0 s1 h Z) : V E 7 0 0 h 206 [(0, va_rf (some v0)), (1, .int (v1)), (2, .int (v2)), (4, .int (v4))] [.int (s1), va_rf (s0)] := by
  unfold wq_Model_readsOf_206 at hw
  refine V_iconst (v := 5) hc d_Model_readsOf_206 (by decide) ?_
  obtain ⟨a1, q2, hw⟩ := hw
  obtain ⟨q3, hw⟩ := hw
  refine V_callV (rm' := rm_Model_fails) (As := [.int (s1), .int (5)]) (rest := []) (n := 2) (cn := 0) hc q2 q3 (sat_Model_fails (eG E) _ _ _ _ _ hw) rfl cv_Model_249 (gw_of (tw_5 (List.mem_of_getElem? (i := 209) rfl)) rfl) ss_Model_fails rfl ⟨by decide, by decide⟩ (by decide) (by decide) rfl (by simp [cat_rf, cat_i, cat_l]) d_Model_readsOf_207 (fun r0 h4 hw => ?_)
  obtain ⟨r5, rfl, hw⟩ := hw
  refine V_wide (cs' := 0) (sl' := 0) (by decide) (by decide) ?_
  refine V_st (st' := [.int (r5)]) rfl ?_
  refine V_if_eq (tgt := 214) hc d_Model_readsOf_210 (by decide) (fun hq1 => ?_) (fun hq1 => ?_)
  · replace hw := hw.1 hq1
    refine V_aload_n hc 0 d_Model_readsOf_214 rfl rfl ?_
    obtain ⟨q6, hw⟩ := hw
    refine V_get (v := .long (mm_L h4 v0 43)) hc gf_Model_162 rfl q6 rfl d_Model_readsOf_215 ?_
    refine V_lconst (v := 0) hc d_Model_readsOf_218 (by decide) ?_
    refine V_lcmp hc d_Model_readsOf_219 ?_
    refine V_if_ne (tgt := 237) hc d_Model_readsOf_220 (by decide) (fun hq1 => ?_) (fun hq1 => ?_)
    · replace hw := hw.1 hq1
      refine V_sub (lv' := [(0, va_rf (some v0)), (1, .int (v1)), (2, .int (v2)), (4, .int (v4))]) [0, 1, 2, 3] rfl ?_
      exact vb_Model_readsOf_237 hc hq  _ _ _ _ _ hw
    · replace hw := hw.2 hq1
      refine V_aload_n hc 0 d_Model_readsOf_223 rfl rfl ?_
      refine V_get (v := va_rf (mm_P h4 v0 25)) hc gf_Model_62 rfl q6 rfl d_Model_readsOf_224 ?_
      refine V_iload_n hc 1 d_Model_readsOf_227 rfl rfl ?_
      refine V_iconst (v := 0) hc d_Model_readsOf_228 (by decide) ?_
      obtain ⟨a7, q8, hw⟩ := hw
      obtain ⟨q9, hw⟩ := hw
      obtain ⟨q10, hw⟩ := hw
      obtain ⟨q11, hw⟩ := hw
      obtain ⟨h12, eq_h12⟩ : ∃ x, x = mm_uI h4 a7 (Int32.toNatClampNeg (v1)) (0) := ⟨_, rfl⟩
      replace hw := hw _ eq_h12
      refine V_iast hc q8 q9 q10 q11 d_Model_readsOf_229 ?_
      rw [← eq_h12]
      refine V_aload_n hc 0 d_Model_readsOf_230 rfl rfl ?_
      obtain ⟨q13, hw⟩ := hw
      refine V_get (v := va_rf (mm_P h12 v0 26)) hc gf_Model_65 rfl q13 rfl d_Model_readsOf_231 ?_
      refine V_iload_n hc 1 d_Model_readsOf_234 rfl rfl ?_
      refine V_iconst (v := (-1)) hc d_Model_readsOf_235 (by decide) ?_
      obtain ⟨a14, q15, hw⟩ := hw
      obtain ⟨q16, hw⟩ := hw
      obtain ⟨q17, hw⟩ := hw
      obtain ⟨q18, hw⟩ := hw
      obtain ⟨h19, eq_h19⟩ : ∃ x, x = mm_uI h12 a14 (Int32.toNatClampNeg (v1)) ((-1)) := ⟨_, rfl⟩
      replace hw := hw _ eq_h19
      refine V_iast hc q15 q16 q17 q18 d_Model_readsOf_236 ?_
      rw [← eq_h19]
      refine V_sub (lv' := [(0, va_rf (some v0)), (1, .int (v1)), (2, .int (v2)), (4, .int (v4))]) [0, 1, 2, 3] rfl ?_
      exact vb_Model_readsOf_237 hc hq  _ _ _ _ _ hw
  · replace hw := hw.2 hq1
    exact V_vret hc hq ⟨rfl, hw⟩ (by decide) (by decide) d_Model_readsOf_213
set_option maxRecDepth 100000 in
set_option maxHeartbeats 4000000 in
theorem vb_Model_readsOf_205 {E : mm_E} {Z : mm_M → Prop} (hc : cx E "EpochServerModel" c_Model_readsOf 7 none rm_Model_readsOf) (hq : cq E rm_Model_readsOf (pV Z))  (v0 : Nat) (v1 : Int32) (v2 : Int32) (v4 : Int32) (s0 : Option Nat) (h : mm_M) (hw : wq_Model_readsOf_205  (mm_ge (eG E)) v0 v1 v2 v4 s0 h Z) : V E 7 0 0 h 205 [(0, va_rf (some v0)), (1, .int (v1)), (2, .int (v2)), (4, .int (v4))] [va_rf (s0)] := by
  unfold wq_Model_readsOf_205 at hw
  refine V_iconst (v := 0) hc d_Model_readsOf_205 (by decide) ?_
  refine V_sub (lv' := [(0, va_rf (some v0)), (1, .int (v1)), (2, .int (v2)), (4, .int (v4))]) [0, 1, 2, 3] rfl ?_
  exact vb_Model_readsOf_206 hc hq  _ _ _ _ _ _ _ hw
set_option maxRecDepth 100000 in
set_option maxHeartbeats 4000000 in
theorem vb_Model_readsOf_173 {E : mm_E} {Z : mm_M → Prop} (hc : cx E "EpochServerModel" c_Model_readsOf 7 none rm_Model_readsOf) (hq : cq E rm_Model_readsOf (pV Z))  (v0 : Nat) (v4 : Int32) (h : mm_M) (hw : wq_Model_readsOf_173  (mm_ge (eG E)) v0 v4 h Z) : V E 7 0 0 h 173 [(0, va_rf (some v0)), (4, .int (v4))] [] := by
  unfold wq_Model_readsOf_173 at hw
  refine V_goto (tgt := 377) hc d_Model_readsOf_173 (by decide) ?_
  refine V_sub (lv' := [(0, va_rf (some v0)), (4, .int (v4))]) [0, 1] rfl ?_
  exact vb_Model_readsOf_377 hc hq  _ _ _ hw
set_option maxRecDepth 100000 in
set_option maxHeartbeats 4000000 in
theorem vb_Model_readsOf_109 {E : mm_E} {Z : mm_M → Prop} (hc : cx E "EpochServerModel" c_Model_readsOf 7 none rm_Model_readsOf) (hq : cq E rm_Model_readsOf (pV Z)) (X109 : Nat → Int32 → Int32 → Int32 → Int64 → mm_M → Prop) (hX109 : ∀ (v0 : Nat) (v2 : Int32) (v3 : Int32) (v4 : Int32) (v5 : Int64) (h : mm_M), X109 v0 v2 v3 v4 v5 h → V E 7 0 0 h 109 [(0, va_rf (some v0)), (2, .int (v2)), (3, .int (v3)), (4, .int (v4)), (5, .long (v5))] []) (v0 : Nat) (v2 : Int32) (v3 : Int32) (v4 : Int32) (v5 : Int64) (h : mm_M) (hw : wq_Model_readsOf_109 X109 (mm_ge (eG E)) v0 v2 v3 v4 v5 h Z) : V E 7 0 0 h 109 [(0, va_rf (some v0)), (2, .int (v2)), (3, .int (v3)), (4, .int (v4)), (5, .long (v5))] [] := by
  unfold wq_Model_readsOf_109 at hw
  refine V_aload_n hc 0 d_Model_readsOf_109 rfl rfl ?_
  obtain ⟨q1, hw⟩ := hw
  refine V_get (v := .long (mm_L h v0 43)) hc gf_Model_162 rfl q1 rfl d_Model_readsOf_110 ?_
  refine V_lconst (v := 0) hc d_Model_readsOf_113 (by decide) ?_
  refine V_lcmp hc d_Model_readsOf_114 ?_
  refine V_if_lt (tgt := 173) hc d_Model_readsOf_115 (by decide) (fun hq1 => ?_) (fun hq1 => ?_)
  · replace hw := hw.1 hq1
    refine V_sub (lv' := [(0, va_rf (some v0)), (4, .int (v4))]) [0, 3] rfl ?_
    exact vb_Model_readsOf_173 hc hq  _ _ _ hw
  · replace hw := hw.2 hq1
    refine V_lload hc 4 d_Model_readsOf_118 rfl ?_
    refine V_aload_n hc 0 d_Model_readsOf_120 rfl rfl ?_
    refine V_get (v := va_rf (mm_P h v0 5)) hc gf_Model_26 rfl q1 rfl d_Model_readsOf_121 ?_
    refine V_iload_n hc 2 d_Model_readsOf_124 rfl rfl ?_
    obtain ⟨a2, q3, hw⟩ := hw
    obtain ⟨q4, hw⟩ := hw
    obtain ⟨q5, hw⟩ := hw
    refine V_iald hc q3 q4 q5 d_Model_readsOf_125 ?_
    refine V_i2l hc d_Model_readsOf_126 ?_
    refine V_lcmp hc d_Model_readsOf_127 ?_
    refine V_if_ge (tgt := 173) hc d_Model_readsOf_128 (by decide) (fun hq1 => ?_) (fun hq1 => ?_)
    · replace hw := hw.1 hq1
      refine V_sub (lv' := [(0, va_rf (some v0)), (4, .int (v4))]) [0, 3] rfl ?_
      exact vb_Model_readsOf_173 hc hq  _ _ _ hw
    · replace hw := hw.2 hq1
      refine V_lload hc 4 d_Model_readsOf_131 rfl ?_
      refine V_aload_n hc 0 d_Model_readsOf_133 rfl rfl ?_
      refine V_get (v := .long (mm_L h v0 43)) hc gf_Model_162 rfl q1 rfl d_Model_readsOf_134 ?_
      refine V_lsub hc d_Model_readsOf_137 ?_
      refine V_iload_n hc 1 d_Model_readsOf_138 rfl rfl ?_
      refine V_i2l hc d_Model_readsOf_139 ?_
      refine V_lcmp hc d_Model_readsOf_140 ?_
      refine V_if_ge (tgt := 173) hc d_Model_readsOf_141 (by decide) (fun hq1 => ?_) (fun hq1 => ?_)
      · replace hw := hw.1 hq1
        refine V_sub (lv' := [(0, va_rf (some v0)), (4, .int (v4))]) [0, 3] rfl ?_
        exact vb_Model_readsOf_173 hc hq  _ _ _ hw
      · replace hw := hw.2 hq1
        refine V_aload_n hc 0 d_Model_readsOf_144 rfl rfl ?_
        refine V_aload_n hc 0 d_Model_readsOf_145 rfl rfl ?_
        refine V_get (v := va_rf (mm_P h v0 8)) hc gf_Model_37 rfl q1 rfl d_Model_readsOf_146 ?_
        refine V_sipush (v := 512) hc d_Model_readsOf_149 (by decide) ?_
        refine V_iload_n hc 2 d_Model_readsOf_152 rfl rfl ?_
        refine V_imul hc d_Model_readsOf_153 ?_
        refine V_lload hc 4 d_Model_readsOf_154 rfl ?_
        refine V_l2i hc d_Model_readsOf_156 ?_
        refine V_iadd hc d_Model_readsOf_157 ?_
        obtain ⟨a6, q7, hw⟩ := hw
        obtain ⟨q8, hw⟩ := hw
        obtain ⟨q9, hw⟩ := hw
        refine V_iald hc q7 q8 q9 d_Model_readsOf_158 ?_
        refine V_i2l hc d_Model_readsOf_159 ?_
        refine V_iconst (v := 1) hc d_Model_readsOf_160 (by decide) ?_
        refine V_callV (rm' := rm_Model_put) (As := [.long (Int32.toInt64 (mm_I h a6 (Int32.toNatClampNeg (((512 : Int32) * (v3)) + (Int64.toInt32 (v5)))))), .int (1)]) (rest := []) (n := 2) (cn := 0) hc rfl q1 (sat_Model_put (eG E) _ _ _ _ _ hw) rfl cv_Model_212 (gw_of (tw_6 (List.mem_of_getElem? (i := 15) rfl)) rfl) ss_Model_put rfl ⟨by decide, by decide⟩ (by decide) (by decide) rfl (by simp [cat_rf, cat_i, cat_l]) d_Model_readsOf_161 (fun r0 h10 hw => ?_)
        obtain ⟨rfl, hw⟩ := hw
        refine V_wide (cs' := 0) (sl' := 0) (by decide) (by decide) ?_
        refine V_st (st' := []) rfl ?_
        refine V_lload hc 4 d_Model_readsOf_164 rfl ?_
        refine V_lconst (v := 1) hc d_Model_readsOf_166 (by decide) ?_
        refine V_ladd hc d_Model_readsOf_167 ?_
        refine V_lstore (i := 5) (lv' := [(5, .long ((v5) + (1 : Int64))), (0, va_rf (some v0)), (2, .int (v2)), (3, .int (v3)), (4, .int (v4))]) hc d_Model_readsOf_168 (by decide) rfl ?_
        refine V_goto (tgt := 109) hc d_Model_readsOf_170 (by decide) ?_
        refine V_sub (lv' := [(0, va_rf (some v0)), (2, .int (v2)), (3, .int (v3)), (4, .int (v4)), (5, .long ((v5) + (1 : Int64)))]) [1, 2, 3, 4, 0] rfl ?_
        exact hX109 _ _ _ _ _ _ hw
theorem vl_Model_readsOf_109 {E : mm_E} {Z : mm_M → Prop} (hc : cx E "EpochServerModel" c_Model_readsOf 7 none rm_Model_readsOf) (hq : cq E rm_Model_readsOf (pV Z))  (v0 : Nat) (v2 : Int32) (v3 : Int32) (v4 : Int32) (v5 : Int64) (h : mm_M) (hw : lp_Model_readsOf_109  (mm_ge (eG E)) v0 v2 v3 v4 v5 h Z) : V E 7 0 0 h 109 [(0, va_rf (some v0)), (2, .int (v2)), (3, .int (v3)), (4, .int (v4)), (5, .long (v5))] [] :=
  hw (fun v0 v2 v3 v4 v5 h => V E 7 0 0 h 109 [(0, va_rf (some v0)), (2, .int (v2)), (3, .int (v3)), (4, .int (v4)), (5, .long (v5))] []) (fun v0 v2 v3 v4 v5 h hb => vb_Model_readsOf_109 hc hq  _ (fun _ _ _ _ _ _ q => q) v0 v2 v3 v4 v5 h hb)
set_option maxRecDepth 100000 in
set_option maxHeartbeats 4000000 in
theorem vb_Model_readsOf_66 {E : mm_E} {Z : mm_M → Prop} (hc : cx E "EpochServerModel" c_Model_readsOf 7 none rm_Model_readsOf) (hq : cq E rm_Model_readsOf (pV Z))  (v0 : Nat) (v1 : Int32) (s0 : Int32) (h : mm_M) (hw : wq_Model_readsOf_66  (mm_ge (eG E)) v0 v1 s0 h Z) : V E 7 0 0 h 66 [(0, va_rf (some v0)), (1, .int (v1))] [.int (s0)] := by
  unfold wq_Model_readsOf_66 at hw
  refine V_istore_n (i := 2) (lv' := [(2, .int (s0)), (0, va_rf (some v0)), (1, .int (v1))]) hc d_Model_readsOf_66 rfl (by decide) rfl ?_
  refine V_aload_n hc 1 d_Model_readsOf_67 rfl rfl ?_
  obtain ⟨q1, hw⟩ := hw
  refine V_get (v := va_rf (mm_P h v0 22)) hc gf_Model_53 rfl q1 rfl d_Model_readsOf_68 ?_
  refine V_iload_n hc 2 d_Model_readsOf_71 rfl rfl ?_
  obtain ⟨a2, q3, hw⟩ := hw
  obtain ⟨q4, hw⟩ := hw
  obtain ⟨q5, hw⟩ := hw
  refine V_iald hc q3 q4 q5 d_Model_readsOf_72 ?_
  refine V_aload_n hc 1 d_Model_readsOf_73 rfl rfl ?_
  refine V_get (v := va_rf (mm_P h v0 23)) hc gf_Model_56 rfl q1 rfl d_Model_readsOf_74 ?_
  refine V_iload_n hc 2 d_Model_readsOf_77 rfl rfl ?_
  obtain ⟨a6, q7, hw⟩ := hw
  obtain ⟨q8, hw⟩ := hw
  obtain ⟨q9, hw⟩ := hw
  refine V_iald hc q7 q8 q9 d_Model_readsOf_78 ?_
  refine V_callS (rm' := rm_Model_spot) (As := [.int (mm_I h a2 (Int32.toNatClampNeg (v1))), .int (mm_I h a6 (Int32.toNatClampNeg (v1)))]) (rest := []) (n := 2) hc (sat_Model_spot (eG E) _ _ _ _ hw) cv_Model_96 (gw_of (tw_5 (List.mem_of_getElem? (i := 196) rfl)) rfl) rfl ⟨by decide, by decide⟩ (by decide) (by decide) rfl (by simp [cat_rf, cat_i, cat_l]) d_Model_readsOf_79 (fun r0 h10 hw => ?_)
  obtain ⟨r11, rfl, hw⟩ := hw
  refine V_wide (cs' := 0) (sl' := 0) (by decide) (by decide) ?_
  refine V_st (st' := [.int (r11)]) rfl ?_
  refine V_istore_n (i := 3) (lv' := [(3, .int (r11)), (2, .int (s0)), (0, va_rf (some v0)), (1, .int (v1))]) hc d_Model_readsOf_82 rfl (by decide) rfl ?_
  refine V_aload_n hc 2 d_Model_readsOf_83 rfl rfl ?_
  obtain ⟨q12, hw⟩ := hw
  refine V_get (v := .int (mm_I h10 v0 17)) hc gf_Model_197 rfl q12 rfl d_Model_readsOf_84 ?_
  refine V_istore (i := 4) (lv' := [(4, .int (mm_I h10 v0 17)), (3, .int (r11)), (2, .int (s0)), (0, va_rf (some v0)), (1, .int (v1))]) hc d_Model_readsOf_87 (by decide) rfl ?_
  refine V_aload_n hc 3 d_Model_readsOf_89 rfl rfl ?_
  refine V_iload_n hc 1 d_Model_readsOf_90 rfl rfl ?_
  refine V_callV (rm' := rm_Model_isDirectory) (As := [.int (r11)]) (rest := []) (n := 1) (cn := 0) hc rfl q12 (sat_Model_isDirectory (eG E) _ _ _ _ hw) rfl cv_Model_230 (gw_of (tw_6 (List.mem_of_getElem? (i := 39) rfl)) rfl) ss_Model_isDirectory rfl ⟨by decide, by decide⟩ (by decide) (by decide) rfl (by simp [cat_rf, cat_i, cat_l]) d_Model_readsOf_91 (fun r0 h13 hw => ?_)
  obtain ⟨r14, rfl, hw⟩ := hw
  refine V_wide (cs' := 0) (sl' := 0) (by decide) (by decide) ?_
  refine V_st (st' := [.int (r14)]) rfl ?_
  refine V_if_ne (tgt := 176) hc d_Model_readsOf_94 (by decide) (fun hq1 => ?_) (fun hq1 => ?_)
  · replace hw := hw.1 hq1
    refine V_aload_n hc 3 d_Model_readsOf_176 rfl rfl ?_
    refine V_aload_n hc 3 d_Model_readsOf_177 rfl rfl ?_
    obtain ⟨q15, hw⟩ := hw
    refine V_get (v := .long (mm_L h13 v0 43)) hc gf_Model_162 rfl q15 rfl d_Model_readsOf_178 ?_
    refine V_lconst (v := 0) hc d_Model_readsOf_181 (by decide) ?_
    refine V_lcmp hc d_Model_readsOf_182 ?_
    refine V_if_eq (tgt := 205) hc d_Model_readsOf_183 (by decide) (fun hq1 => ?_) (fun hq1 => ?_)
    · replace hw := hw.1 hq1
      refine V_sub (lv' := [(0, va_rf (some v0)), (1, .int (v1)), (2, .int (s0)), (4, .int (mm_I h10 v0 17))]) [3, 4, 2, 0] rfl ?_
      exact vb_Model_readsOf_205 hc hq  _ _ _ _ _ _ hw
    · replace hw := hw.2 hq1
      refine V_aload_n hc 3 d_Model_readsOf_186 rfl rfl ?_
      refine V_get (v := .long (mm_L h13 v0 43)) hc gf_Model_162 rfl q15 rfl d_Model_readsOf_187 ?_
      refine V_aload_n hc 3 d_Model_readsOf_190 rfl rfl ?_
      refine V_get (v := va_rf (mm_P h13 v0 25)) hc gf_Model_62 rfl q15 rfl d_Model_readsOf_191 ?_
      refine V_iload_n hc 4 d_Model_readsOf_194 rfl rfl ?_
      obtain ⟨a16, q17, hw⟩ := hw
      obtain ⟨q18, hw⟩ := hw
      obtain ⟨q19, hw⟩ := hw
      refine V_iald hc q17 q18 q19 d_Model_readsOf_195 ?_
      refine V_i2l hc d_Model_readsOf_196 ?_
      refine V_lcmp hc d_Model_readsOf_197 ?_
      refine V_if_eq (tgt := 205) hc d_Model_readsOf_198 (by decide) (fun hq1 => ?_) (fun hq1 => ?_)
      · replace hw := hw.1 hq1
        refine V_sub (lv' := [(0, va_rf (some v0)), (1, .int (v1)), (2, .int (s0)), (4, .int (mm_I h10 v0 17))]) [3, 4, 2, 0] rfl ?_
        exact vb_Model_readsOf_205 hc hq  _ _ _ _ _ _ hw
      · replace hw := hw.2 hq1
        refine V_iconst (v := 1) hc d_Model_readsOf_201 (by decide) ?_
        refine V_goto (tgt := 206) hc d_Model_readsOf_202 (by decide) ?_
        refine V_sub (lv' := [(0, va_rf (some v0)), (1, .int (v1)), (2, .int (s0)), (4, .int (mm_I h10 v0 17))]) [3, 4, 2, 0] rfl ?_
        exact vb_Model_readsOf_206 hc hq  _ _ _ _ _ _ _ hw
  · replace hw := hw.2 hq1
    refine V_aload_n hc 3 d_Model_readsOf_97 rfl rfl ?_
    refine V_lconst (v := 0) hc d_Model_readsOf_98 (by decide) ?_
    refine V_iconst (v := 4) hc d_Model_readsOf_99 (by decide) ?_
    obtain ⟨q20, hw⟩ := hw
    refine V_callV (rm' := rm_Model_put) (As := [.long (0), .int (4)]) (rest := []) (n := 2) (cn := 0) hc rfl q20 (sat_Model_put (eG E) _ _ _ _ _ hw) rfl cv_Model_212 (gw_of (tw_6 (List.mem_of_getElem? (i := 15) rfl)) rfl) ss_Model_put rfl ⟨by decide, by decide⟩ (by decide) (by decide) rfl (by simp [cat_rf, cat_i, cat_l]) d_Model_readsOf_100 (fun r0 h21 hw => ?_)
    obtain ⟨rfl, hw⟩ := hw
    refine V_wide (cs' := 0) (sl' := 0) (by decide) (by decide) ?_
    refine V_st (st' := []) rfl ?_
    refine V_aload_n hc 3 d_Model_readsOf_103 rfl rfl ?_
    obtain ⟨q23, hw⟩ := hw
    refine V_get (v := .long (mm_L h21 v0 43)) hc gf_Model_162 rfl q23 rfl d_Model_readsOf_104 ?_
    refine V_lstore (i := 5) (lv' := [(5, .long (mm_L h21 v0 43)), (4, .int (mm_I h10 v0 17)), (3, .int (r11)), (2, .int (s0)), (0, va_rf (some v0)), (1, .int (v1))]) hc d_Model_readsOf_107 (by decide) rfl ?_
    refine V_sub (lv' := [(0, va_rf (some v0)), (2, .int (s0)), (3, .int (r11)), (4, .int (mm_I h10 v0 17)), (5, .long (mm_L h21 v0 43))]) [4, 3, 2, 1, 0] rfl ?_
    exact vl_Model_readsOf_109 hc hq  _ _ _ _ _ _ hw
set_option maxRecDepth 100000 in
set_option maxHeartbeats 4000000 in
theorem vb_Model_readsOf_27 {E : mm_E} {Z : mm_M → Prop} (hc : cx E "EpochServerModel" c_Model_readsOf 7 none rm_Model_readsOf) (hq : cq E rm_Model_readsOf (pV Z))  (v0 : Nat) (v1 : Int32) (s0 : Option Nat) (s1 : Int32) (h : mm_M) (hw : wq_Model_readsOf_27  (mm_ge (eG E)) v0 v1 s0 s1 h Z) : V E 7 0 0 h 27 [(0, va_rf (some v0)), (1, .int (v1))] [.int (s1), va_rf (s0)] := by
  unfold wq_Model_readsOf_27 at hw
  refine V_iconst (v := 3) hc d_Model_readsOf_27 (by decide) ?_
  obtain ⟨a1, q2, hw⟩ := hw
  obtain ⟨q3, hw⟩ := hw
  refine V_callV (rm' := rm_Model_fails) (As := [.int (s1), .int (3)]) (rest := []) (n := 2) (cn := 0) hc q2 q3 (sat_Model_fails (eG E) _ _ _ _ _ hw) rfl cv_Model_249 (gw_of (tw_5 (List.mem_of_getElem? (i := 209) rfl)) rfl) ss_Model_fails rfl ⟨by decide, by decide⟩ (by decide) (by decide) rfl (by simp [cat_rf, cat_i, cat_l]) d_Model_readsOf_28 (fun r0 h4 hw => ?_)
  obtain ⟨r5, rfl, hw⟩ := hw
  refine V_wide (cs' := 0) (sl' := 0) (by decide) (by decide) ?_
  refine V_st (st' := [.int (r5)]) rfl ?_
  refine V_if_eq (tgt := 35) hc d_Model_readsOf_31 (by decide) (fun hq1 => ?_) (fun hq1 => ?_)
  · replace hw := hw.1 hq1
    refine V_aload_n hc 0 d_Model_readsOf_35 rfl rfl ?_
    obtain ⟨q6, hw⟩ := hw
    refine V_get (v := .long (mm_L h4 v0 44)) hc gf_Model_134 rfl q6 rfl d_Model_readsOf_36 ?_
    refine V_aload_n hc 0 d_Model_readsOf_39 rfl rfl ?_
    refine V_get (v := .int (mm_I h4 v0 20)) hc gf_Model_246 rfl q6 rfl d_Model_readsOf_40 ?_
    refine V_bipush (v := 11) hc d_Model_readsOf_43 (by decide) ?_
    refine V_isub hc d_Model_readsOf_45 ?_
    refine V_i2l hc d_Model_readsOf_46 ?_
    refine V_lcmp hc d_Model_readsOf_47 ?_
    refine V_if_le (tgt := 61) hc d_Model_readsOf_48 (by decide) (fun hq1 => ?_) (fun hq1 => ?_)
    · replace hw := hw.1 hq1
      refine V_aload_n hc 0 d_Model_readsOf_61 rfl rfl ?_
      refine V_get (v := .long (mm_L h4 v0 44)) hc gf_Model_134 rfl q6 rfl d_Model_readsOf_62 ?_
      refine V_l2i hc d_Model_readsOf_65 ?_
      refine V_sub (lv' := [(0, va_rf (some v0)), (1, .int (v1))]) [0, 1] rfl ?_
      exact vb_Model_readsOf_66 hc hq  _ _ _ _ hw
    · replace hw := hw.2 hq1
      refine V_aload_n hc 0 d_Model_readsOf_51 rfl rfl ?_
      refine V_get (v := .int (mm_I h4 v0 20)) hc gf_Model_246 rfl q6 rfl d_Model_readsOf_52 ?_
      refine V_bipush (v := 11) hc d_Model_readsOf_55 (by decide) ?_
      refine V_isub hc d_Model_readsOf_57 ?_
      refine V_goto (tgt := 66) hc d_Model_readsOf_58 (by decide) ?_
      refine V_sub (lv' := [(0, va_rf (some v0)), (1, .int (v1))]) [0, 1] rfl ?_
      exact vb_Model_readsOf_66 hc hq  _ _ _ _ hw
  · replace hw := hw.2 hq1
    exact V_vret hc hq ⟨rfl, hw⟩ (by decide) (by decide) d_Model_readsOf_34
set_option maxRecDepth 100000 in
set_option maxHeartbeats 4000000 in
theorem vb_Model_readsOf_22 {E : mm_E} {Z : mm_M → Prop} (hc : cx E "EpochServerModel" c_Model_readsOf 7 none rm_Model_readsOf) (hq : cq E rm_Model_readsOf (pV Z))  (v0 : Nat) (v1 : Int32) (s0 : Option Nat) (h : mm_M) (hw : wq_Model_readsOf_22  (mm_ge (eG E)) v0 v1 s0 h Z) : V E 7 0 0 h 22 [(0, va_rf (some v0)), (1, .int (v1))] [va_rf (s0)] := by
  unfold wq_Model_readsOf_22 at hw
  refine V_iconst (v := 1) hc d_Model_readsOf_22 (by decide) ?_
  refine V_goto (tgt := 27) hc d_Model_readsOf_23 (by decide) ?_
  refine V_sub (lv' := [(0, va_rf (some v0)), (1, .int (v1))]) [0, 1] rfl ?_
  exact vb_Model_readsOf_27 hc hq  _ _ _ _ _ hw
set_option maxRecDepth 100000 in
set_option maxHeartbeats 4000000 in
theorem vb_Model_readsOf_0 {E : mm_E} {Z : mm_M → Prop} (hc : cx E "EpochServerModel" c_Model_readsOf 7 none rm_Model_readsOf) (hq : cq E rm_Model_readsOf (pV Z))  (v0 : Nat) (v1 : Int32) (h : mm_M) (hw : wq_Model_readsOf_0  (mm_ge (eG E)) v0 v1 h Z) : V E 7 0 0 h 0 [(0, va_rf (some v0)), (1, .int (v1))] [] := by
  unfold wq_Model_readsOf_0 at hw
  refine V_aload_n hc 0 d_Model_readsOf_0 rfl rfl ?_
  refine V_aload_n hc 0 d_Model_readsOf_1 rfl rfl ?_
  obtain ⟨q1, hw⟩ := hw
  refine V_get (v := va_rf (mm_P h v0 24)) hc gf_Model_59 rfl q1 rfl d_Model_readsOf_2 ?_
  refine V_iload_n hc 1 d_Model_readsOf_5 rfl rfl ?_
  obtain ⟨a2, q3, hw⟩ := hw
  obtain ⟨q4, hw⟩ := hw
  obtain ⟨q5, hw⟩ := hw
  refine V_iald hc q3 q4 q5 d_Model_readsOf_6 ?_
  refine V_if_lt (tgt := 22) hc d_Model_readsOf_7 (by decide) (fun hq1 => ?_) (fun hq1 => ?_)
  · replace hw := hw.1 hq1
    refine V_sub (lv' := [(0, va_rf (some v0)), (1, .int (v1))]) [0, 1] rfl ?_
    exact vb_Model_readsOf_22 hc hq  _ _ _ _ hw
  · replace hw := hw.2 hq1
    refine V_aload_n hc 0 d_Model_readsOf_10 rfl rfl ?_
    refine V_get (v := va_rf (mm_P h v0 24)) hc gf_Model_59 rfl q1 rfl d_Model_readsOf_11 ?_
    refine V_iload_n hc 1 d_Model_readsOf_14 rfl rfl ?_
    obtain ⟨q6, hw⟩ := hw
    refine V_iald hc q3 q4 q6 d_Model_readsOf_15 ?_
    refine V_iconst (v := 3) hc d_Model_readsOf_16 (by decide) ?_
    refine V_iand hc d_Model_readsOf_17 ?_
    refine V_iconst (v := 1) hc d_Model_readsOf_18 (by decide) ?_
    refine V_icmp_ne (tgt := 26) hc d_Model_readsOf_19 (by decide) (fun hq1 => ?_) (fun hq1 => ?_)
    · replace hw := hw.1 hq1
      refine V_iconst (v := 0) hc d_Model_readsOf_26 (by decide) ?_
      refine V_sub (lv' := [(0, va_rf (some v0)), (1, .int (v1))]) [0, 1] rfl ?_
      exact vb_Model_readsOf_27 hc hq  _ _ _ _ _ hw
    · replace hw := hw.2 hq1
      refine V_sub (lv' := [(0, va_rf (some v0)), (1, .int (v1))]) [0, 1] rfl ?_
      exact vb_Model_readsOf_22 hc hq  _ _ _ _ hw
def wq_Model_readsOf (ge : Nat → Nat) (v0 : Nat) (v1 : Int32) (h : mm_M) (Z : mm_M → Prop) : Prop := wq_Model_readsOf_0 ge v0 v1 h Z
theorem sat_Model_readsOf (G : mm_G) (v0 : Nat) (v1 : Int32) (h : mm_M) (Z : mm_M → Prop) (hw : wq_Model_readsOf (mm_ge G) v0 v1 h Z) : mm_Met G y_Model_readsOf c_Model_readsOf 7 none rm_Model_readsOf [va_rf (some v0), .int (v1)] h (pV Z) := by
  refine mm_intro (own := "EpochServerModel") (by decide) rfl (by simp [lg_sl, cat_rf, cat_i, cat_l]) (fun E e1 hc hq hi => ?_)
  subst e1
  have e2 : lv_args 0 [va_rf (some v0), .int (v1)] = [(0, va_rf (some v0)), (1, .int (v1))] := by simp [lv_args, cat_rf, cat_i, cat_l]
  rw [e2]
  refine V_sub (lv' := [(0, va_rf (some v0)), (1, .int (v1))]) [0, 1] rfl ?_
  exact vb_Model_readsOf_0 hc hq v0 v1 h hw
/-! Model.sizes(II)V -/
abbrev rm_Model_sizes : Room := { frames := 0, cells := 0, slots := 0, locals := 0 }
def wq_Model_sizes_7 (X7 : Nat → Int32 → Int32 → Int32 → mm_M → Prop) (ge : Nat → Nat) (v0 : Nat) (v1 : Int32) (v2 : Int32) (v3 : Int32) (h : mm_M) (Z : mm_M → Prop) : Prop :=
  (((v2 : Int32) ≤ (v3 : Int32) → mm_k h (v0) = kd_Model ∧ ∃ a2, mm_P h v0 5 = some a2 ∧ mm_k h (a2) = ka_I ∧ vp_in (v1) (mm_n h a2) ∧ ge 0 ≤ a2 ∧ ∀ h7 : mm_M, h7 = mm_uI h a2 (Int32.toNatClampNeg (v1)) (v2) → Z h7) ∧ (¬ (v2 : Int32) ≤ (v3 : Int32) → mm_k h (v0) = kd_Model ∧ ∃ a9, mm_P h v0 8 = some a9 ∧ mm_k h (a9) = ka_I ∧ vp_in (((512 : Int32) * (v1)) + (v3)) (mm_n h a9) ∧ ge 0 ≤ a9 ∧ ∀ h14 : mm_M, h14 = mm_uI h a9 (Int32.toNatClampNeg (((512 : Int32) * (v1)) + (v3))) (0) → X7 (v0) (v1) (v2) (v3 + 1) h14))
def lp_Model_sizes_7  (ge : Nat → Nat) (v0 : Nat) (v1 : Int32) (v2 : Int32) (v3 : Int32) (h : mm_M) (Z : mm_M → Prop) : Prop :=
  ∀ X7 : Nat → Int32 → Int32 → Int32 → mm_M → Prop, (∀ (v0 : Nat) (v1 : Int32) (v2 : Int32) (v3 : Int32) (h : mm_M), wq_Model_sizes_7 X7 ge v0 v1 v2 v3 h Z → X7 v0 v1 v2 v3 h) → X7 v0 v1 v2 v3 h
def wq_Model_sizes_0  (ge : Nat → Nat) (v0 : Nat) (v1 : Int32) (v2 : Int32) (h : mm_M) (Z : mm_M → Prop) : Prop :=
  mm_k h (v0) = kd_Model ∧ ∃ a2, mm_P h v0 5 = some a2 ∧ mm_k h (a2) = ka_I ∧ vp_in (v1) (mm_n h a2) ∧ lp_Model_sizes_7  ge (v0) (v1) (v2) (mm_I h a2 (Int32.toNatClampNeg (v1))) h Z
set_option maxRecDepth 100000 in
set_option maxHeartbeats 4000000 in
theorem vb_Model_sizes_7 {E : mm_E} {Z : mm_M → Prop} (hc : cx E "EpochServerModel" c_Model_sizes 4 none rm_Model_sizes) (hq : cq E rm_Model_sizes (pV Z)) (X7 : Nat → Int32 → Int32 → Int32 → mm_M → Prop) (hX7 : ∀ (v0 : Nat) (v1 : Int32) (v2 : Int32) (v3 : Int32) (h : mm_M), X7 v0 v1 v2 v3 h → V E 4 0 0 h 7 [(0, va_rf (some v0)), (1, .int (v1)), (2, .int (v2)), (3, .int (v3))] []) (v0 : Nat) (v1 : Int32) (v2 : Int32) (v3 : Int32) (h : mm_M) (hw : wq_Model_sizes_7 X7 (mm_ge (eG E)) v0 v1 v2 v3 h Z) : V E 4 0 0 h 7 [(0, va_rf (some v0)), (1, .int (v1)), (2, .int (v2)), (3, .int (v3))] [] := by
  unfold wq_Model_sizes_7 at hw
  refine V_iload_n hc 3 d_Model_sizes_7 rfl rfl ?_
  refine V_iload_n hc 2 d_Model_sizes_8 rfl rfl ?_
  refine V_icmp_ge (tgt := 31) hc d_Model_sizes_9 (by decide) (fun hq1 => ?_) (fun hq1 => ?_)
  · replace hw := hw.1 hq1
    refine V_aload_n hc 0 d_Model_sizes_31 rfl rfl ?_
    obtain ⟨q1, hw⟩ := hw
    refine V_get (v := va_rf (mm_P h v0 5)) hc gf_Model_26 rfl q1 rfl d_Model_sizes_32 ?_
    refine V_iload_n hc 1 d_Model_sizes_35 rfl rfl ?_
    refine V_iload_n hc 2 d_Model_sizes_36 rfl rfl ?_
    obtain ⟨a2, q3, hw⟩ := hw
    obtain ⟨q4, hw⟩ := hw
    obtain ⟨q5, hw⟩ := hw
    obtain ⟨q6, hw⟩ := hw
    obtain ⟨h7, eq_h7⟩ : ∃ x, x = mm_uI h a2 (Int32.toNatClampNeg (v1)) (v2) := ⟨_, rfl⟩
    replace hw := hw _ eq_h7
    refine V_iast hc q3 q4 q5 q6 d_Model_sizes_37 ?_
    rw [← eq_h7]
    exact V_vret hc hq ⟨rfl, hw⟩ (by decide) (by decide) d_Model_sizes_38
  · replace hw := hw.2 hq1
    refine V_aload_n hc 0 d_Model_sizes_12 rfl rfl ?_
    obtain ⟨q8, hw⟩ := hw
    refine V_get (v := va_rf (mm_P h v0 8)) hc gf_Model_37 rfl q8 rfl d_Model_sizes_13 ?_
    refine V_sipush (v := 512) hc d_Model_sizes_16 (by decide) ?_
    refine V_iload_n hc 1 d_Model_sizes_19 rfl rfl ?_
    refine V_imul hc d_Model_sizes_20 ?_
    refine V_iload_n hc 3 d_Model_sizes_21 rfl rfl ?_
    refine V_iadd hc d_Model_sizes_22 ?_
    refine V_iconst (v := 0) hc d_Model_sizes_23 (by decide) ?_
    obtain ⟨a9, q10, hw⟩ := hw
    obtain ⟨q11, hw⟩ := hw
    obtain ⟨q12, hw⟩ := hw
    obtain ⟨q13, hw⟩ := hw
    obtain ⟨h14, eq_h14⟩ : ∃ x, x = mm_uI h a9 (Int32.toNatClampNeg (((512 : Int32) * (v1)) + (v3))) (0) := ⟨_, rfl⟩
    replace hw := hw _ eq_h14
    refine V_iast hc q10 q11 q12 q13 d_Model_sizes_24 ?_
    rw [← eq_h14]
    refine V_iinc (v := v3 + 1) (lv' := [(3, .int (v3 + 1)), (0, va_rf (some v0)), (1, .int (v1)), (2, .int (v2))]) hc 3 d_Model_sizes_25 rfl rfl (by decide) rfl ?_
    refine V_goto (tgt := 7) hc d_Model_sizes_28 (by decide) ?_
    refine V_sub (lv' := [(0, va_rf (some v0)), (1, .int (v1)), (2, .int (v2)), (3, .int (v3 + 1))]) [1, 2, 3, 0] rfl ?_
    exact hX7 _ _ _ _ _ hw
theorem vl_Model_sizes_7 {E : mm_E} {Z : mm_M → Prop} (hc : cx E "EpochServerModel" c_Model_sizes 4 none rm_Model_sizes) (hq : cq E rm_Model_sizes (pV Z))  (v0 : Nat) (v1 : Int32) (v2 : Int32) (v3 : Int32) (h : mm_M) (hw : lp_Model_sizes_7  (mm_ge (eG E)) v0 v1 v2 v3 h Z) : V E 4 0 0 h 7 [(0, va_rf (some v0)), (1, .int (v1)), (2, .int (v2)), (3, .int (v3))] [] :=
  hw (fun v0 v1 v2 v3 h => V E 4 0 0 h 7 [(0, va_rf (some v0)), (1, .int (v1)), (2, .int (v2)), (3, .int (v3))] []) (fun v0 v1 v2 v3 h hb => vb_Model_sizes_7 hc hq  _ (fun _ _ _ _ _ q => q) v0 v1 v2 v3 h hb)
set_option maxRecDepth 100000 in
set_option maxHeartbeats 4000000 in
theorem vb_Model_sizes_0 {E : mm_E} {Z : mm_M → Prop} (hc : cx E "EpochServerModel" c_Model_sizes 4 none rm_Model_sizes) (hq : cq E rm_Model_sizes (pV Z))  (v0 : Nat) (v1 : Int32) (v2 : Int32) (h : mm_M) (hw : wq_Model_sizes_0  (mm_ge (eG E)) v0 v1 v2 h Z) : V E 4 0 0 h 0 [(0, va_rf (some v0)), (1, .int (v1)), (2, .int (v2))] [] := by
  unfold wq_Model_sizes_0 at hw
  refine V_aload_n hc 0 d_Model_sizes_0 rfl rfl ?_
  obtain ⟨q1, hw⟩ := hw
  refine V_get (v := va_rf (mm_P h v0 5)) hc gf_Model_26 rfl q1 rfl d_Model_sizes_1 ?_
  refine V_iload_n hc 1 d_Model_sizes_4 rfl rfl ?_
  obtain ⟨a2, q3, hw⟩ := hw
  obtain ⟨q4, hw⟩ := hw
  obtain ⟨q5, hw⟩ := hw
  refine V_iald hc q3 q4 q5 d_Model_sizes_5 ?_
  refine V_istore_n (i := 3) (lv' := [(3, .int (mm_I h a2 (Int32.toNatClampNeg (v1)))), (0, va_rf (some v0)), (1, .int (v1)), (2, .int (v2))]) hc d_Model_sizes_6 rfl (by decide) rfl ?_
  refine V_sub (lv' := [(0, va_rf (some v0)), (1, .int (v1)), (2, .int (v2)), (3, .int (mm_I h a2 (Int32.toNatClampNeg (v1))))]) [1, 2, 3, 0] rfl ?_
  exact vl_Model_sizes_7 hc hq  _ _ _ _ _ hw
def wq_Model_sizes (ge : Nat → Nat) (v0 : Nat) (v1 : Int32) (v2 : Int32) (h : mm_M) (Z : mm_M → Prop) : Prop := wq_Model_sizes_0 ge v0 v1 v2 h Z
theorem sat_Model_sizes (G : mm_G) (v0 : Nat) (v1 : Int32) (v2 : Int32) (h : mm_M) (Z : mm_M → Prop) (hw : wq_Model_sizes (mm_ge G) v0 v1 v2 h Z) : mm_Met G y_Model_sizes c_Model_sizes 4 none rm_Model_sizes [va_rf (some v0), .int (v1), .int (v2)] h (pV Z) := by
  refine mm_intro (own := "EpochServerModel") (by decide) rfl (by simp [lg_sl, cat_rf, cat_i, cat_l]) (fun E e1 hc hq hi => ?_)
  subst e1
  have e2 : lv_args 0 [va_rf (some v0), .int (v1), .int (v2)] = [(0, va_rf (some v0)), (1, .int (v1)), (2, .int (v2))] := by simp [lv_args, cat_rf, cat_i, cat_l]
  rw [e2]
  refine V_sub (lv' := [(0, va_rf (some v0)), (1, .int (v1)), (2, .int (v2))]) [0, 1, 2] rfl ?_
  exact vb_Model_sizes_0 hc hq v0 v1 v2 h hw
/-! Model.writes(I)V -/
abbrev rm_Model_writes : Room := { frames := 1, cells := 0, slots := 0, locals := 24 }
def wq_Model_writes_84  (ge : Nat → Nat)  (h : mm_M) (Z : mm_M → Prop) : Prop :=
  Z h
def wq_Model_writes_188  (ge : Nat → Nat) (v0 : Nat) (v4 : Int32) (h : mm_M) (Z : mm_M → Prop) : Prop :=
  mm_k h (v0) = kd_Model ∧ wq_Model_put ge (v0) (Int32.toInt64 (v4)) (4) h (fun h2 : mm_M => Z h2)
def wq_Model_writes_142 (X142 : Nat → Int32 → Int32 → Int32 → Int32 → mm_M → Prop) (ge : Nat → Nat) (v0 : Nat) (v3 : Int32) (v4 : Int32) (v5 : Int32) (v6 : Int32) (h : mm_M) (Z : mm_M → Prop) : Prop :=
  (((v4 : Int32) ≤ (v6 : Int32) → mm_k h (v0) = kd_Model ∧ wq_Model_changed ge (v0) (v3) h (fun h2 : mm_M => wq_Model_writes_188  ge (v0) (v4) h2 Z)) ∧ (¬ (v4 : Int32) ≤ (v6 : Int32) → mm_k h (v0) = kd_Model ∧ ∃ a5, mm_P h v0 14 = some a5 ∧ mm_k h (a5) = ka_I ∧ vp_in ((mm_I h v0 42) + (v6)) (mm_n h a5) ∧ ∃ a9, mm_P h v0 8 = some a9 ∧ mm_k h (a9) = ka_I ∧ vp_in ((((512 : Int32) * (v3)) + (v5)) + (v6)) (mm_n h a9) ∧ ge 0 ≤ a9 ∧ ∀ h14 : mm_M, h14 = mm_uI h a9 (Int32.toNatClampNeg ((((512 : Int32) * (v3)) + (v5)) + (v6))) (mm_I h a5 (Int32.toNatClampNeg ((mm_I h v0 42) + (v6)))) → X142 (v0) (v3) (v4) (v5) (v6 + 1) h14))
def lp_Model_writes_142  (ge : Nat → Nat) (v0 : Nat) (v3 : Int32) (v4 : Int32) (v5 : Int32) (v6 : Int32) (h : mm_M) (Z : mm_M → Prop) : Prop :=
  ∀ X142 : Nat → Int32 → Int32 → Int32 → Int32 → mm_M → Prop, (∀ (v0 : Nat) (v3 : Int32) (v4 : Int32) (v5 : Int32) (v6 : Int32) (h : mm_M), wq_Model_writes_142 X142 ge v0 v3 v4 v5 v6 h Z → X142 v0 v3 v4 v5 v6 h) → X142 v0 v3 v4 v5 v6 h
def wq_Model_writes_139  (ge : Nat → Nat) (v0 : Nat) (v3 : Int32) (v4 : Int32) (v5 : Int32) (h : mm_M) (Z : mm_M → Prop) : Prop :=
  lp_Model_writes_142  ge (v0) (v3) (v4) (v5) (0) h Z
def wq_Model_writes_77  (ge : Nat → Nat) (v0 : Nat) (v1 : Int32) (s0 : Option Nat) (s1 : Int32) (h : mm_M) (Z : mm_M → Prop) : Prop :=
  ∃ a1, s0 = some a1 ∧ mm_k h (a1) = kd_Model ∧ wq_Model_fails ge (a1) (s1) (5) h (fun (r5 : Int32) (h4 : mm_M) => (((r5) = 0 → mm_k h4 (v0) = kd_Model ∧ ∃ a7, mm_P h4 v0 23 = some a7 ∧ mm_k h4 (a7) = ka_I ∧ vp_in (v1) (mm_n h4 a7) ∧ wq_Model_spot ge (0) (mm_I h4 a7 (Int32.toNatClampNeg (v1))) h4 (fun (r12 : Int32) (h11 : mm_M) => mm_k h11 (v0) = kd_Model ∧ (((Int64.toInt32 (mm_L h11 v0 44)) ≤ 0 → wq_Model_writes_188  ge (v0) (Int64.toInt32 (mm_L h11 v0 44)) h11 Z) ∧ (¬ (Int64.toInt32 (mm_L h11 v0 44)) ≤ 0 → ∃ a14, mm_P h11 v0 5 = some a14 ∧ mm_k h11 (a14) = ka_I ∧ vp_in (r12) (mm_n h11 a14) ∧ ((((Int64.toInt32 (mm_L h11 v0 43)) + (Int64.toInt32 (mm_L h11 v0 44)) : Int32) ≤ (mm_I h11 a14 (Int32.toNatClampNeg (r12)) : Int32) → wq_Model_writes_139  ge (v0) (r12) (Int64.toInt32 (mm_L h11 v0 44)) (Int64.toInt32 (mm_L h11 v0 43)) h11 Z) ∧ (¬ ((Int64.toInt32 (mm_L h11 v0 43)) + (Int64.toInt32 (mm_L h11 v0 44)) : Int32) ≤ (mm_I h11 a14 (Int32.toNatClampNeg (r12)) : Int32) → wq_Model_sizes ge (v0) (r12) ((Int64.toInt32 (mm_L h11 v0 43)) + (Int64.toInt32 (mm_L h11 v0 44))) h11 (fun h18 : mm_M => wq_Model_writes_139  ge (v0) (r12) (Int64.toInt32 (mm_L h11 v0 44)) (Int64.toInt32 (mm_L h11 v0 43)) h18 Z))))))) ∧ (¬ (r5) = 0 → wq_Model_writes_84  ge h4 Z)))
def wq_Model_writes_72  (ge : Nat → Nat) (v0 : Nat) (v1 : Int32) (s0 : Option Nat) (h : mm_M) (Z : mm_M → Prop) : Prop :=
  wq_Model_writes_77  ge (v0) (v1) (s0) (1) h Z
def wq_Model_writes_28  (ge : Nat → Nat) (v0 : Nat) (v1 : Int32) (s0 : Option Nat) (s1 : Int32) (h : mm_M) (Z : mm_M → Prop) : Prop :=
  ∃ a1, s0 = some a1 ∧ mm_k h (a1) = kd_Model ∧ wq_Model_fails ge (a1) (s1) (3) h (fun (r5 : Int32) (h4 : mm_M) => ((¬ (r5) = 0 → wq_Model_writes_84  ge h4 Z) ∧ ((r5) = 0 → mm_k h4 (v0) = kd_Model ∧ (((lg_cmp (mm_L h4 v0 43) (0)) < 0 → wq_Model_writes_72  ge (v0) (v1) (some v0) h4 Z) ∧ (¬ (lg_cmp (mm_L h4 v0 43) (0)) < 0 → ((0 < (lg_cmp (mm_L h4 v0 43) (512)) → wq_Model_writes_72  ge (v0) (v1) (some v0) h4 Z) ∧ (¬ 0 < (lg_cmp (mm_L h4 v0 43) (512)) → (((lg_cmp ((mm_L h4 v0 43) + (mm_L h4 v0 44)) (512)) ≤ 0 → wq_Model_writes_77  ge (v0) (v1) (some v0) (0) h4 Z) ∧ (¬ (lg_cmp ((mm_L h4 v0 43) + (mm_L h4 v0 44)) (512)) ≤ 0 → wq_Model_writes_72  ge (v0) (v1) (some v0) h4 Z)))))))))
def wq_Model_writes_23  (ge : Nat → Nat) (v0 : Nat) (v1 : Int32) (s0 : Option Nat) (h : mm_M) (Z : mm_M → Prop) : Prop :=
  wq_Model_writes_28  ge (v0) (v1) (s0) (1) h Z
def wq_Model_writes_0  (ge : Nat → Nat) (v0 : Nat) (v1 : Int32) (h : mm_M) (Z : mm_M → Prop) : Prop :=
  mm_k h (v0) = kd_Model ∧ ∃ a2, mm_P h v0 24 = some a2 ∧ mm_k h (a2) = ka_I ∧ vp_in (v1) (mm_n h a2) ∧ vp_in (v1) (mm_n h a2) ∧ (((mm_I h a2 (Int32.toNatClampNeg (v1))) < 0 → wq_Model_writes_23  ge (v0) (v1) (some v0) h Z) ∧ (¬ (mm_I h a2 (Int32.toNatClampNeg (v1))) < 0 → ((¬ ((mm_I h a2 (Int32.toNatClampNeg (v1))) &&& (3 : Int32)) = 0 → wq_Model_writes_28  ge (v0) (v1) (some v0) (0) h Z) ∧ (((mm_I h a2 (Int32.toNatClampNeg (v1))) &&& (3 : Int32)) = 0 → wq_Model_writes_23  ge (v0) (v1) (some v0) h Z))))
set_option maxRecDepth 100000 in
set_option maxHeartbeats 4000000 in
theorem vb_Model_writes_84 {E : mm_E} {Z : mm_M → Prop} (hc : cx E "EpochServerModel" c_Model_writes 7 none rm_Model_writes) (hq : cq E rm_Model_writes (pV Z))   (h : mm_M) (hw : wq_Model_writes_84  (mm_ge (eG E))  h Z) : V E 7 0 0 h 84 [] [] := by
  unfold wq_Model_writes_84 at hw
  exact V_vret hc hq ⟨rfl, hw⟩ (by decide) (by decide) d_Model_writes_84
set_option maxRecDepth 100000 in
set_option maxHeartbeats 4000000 in
theorem vb_Model_writes_188 {E : mm_E} {Z : mm_M → Prop} (hc : cx E "EpochServerModel" c_Model_writes 7 none rm_Model_writes) (hq : cq E rm_Model_writes (pV Z))  (v0 : Nat) (v4 : Int32) (h : mm_M) (hw : wq_Model_writes_188  (mm_ge (eG E)) v0 v4 h Z) : V E 7 0 0 h 188 [(0, va_rf (some v0)), (4, .int (v4))] [] := by
  unfold wq_Model_writes_188 at hw
  refine V_aload_n hc 0 d_Model_writes_188 rfl rfl ?_
  refine V_iload hc 1 d_Model_writes_189 rfl ?_
  refine V_i2l hc d_Model_writes_191 ?_
  refine V_iconst (v := 4) hc d_Model_writes_192 (by decide) ?_
  obtain ⟨q1, hw⟩ := hw
  refine V_callV (rm' := rm_Model_put) (As := [.long (Int32.toInt64 (v4)), .int (4)]) (rest := []) (n := 2) (cn := 0) hc rfl q1 (sat_Model_put (eG E) _ _ _ _ _ hw) rfl cv_Model_212 (gw_of (tw_6 (List.mem_of_getElem? (i := 15) rfl)) rfl) ss_Model_put rfl ⟨by decide, by decide⟩ (by decide) (by decide) rfl (by simp [cat_rf, cat_i, cat_l]) d_Model_writes_193 (fun r0 h2 hw => ?_)
  obtain ⟨rfl, hw⟩ := hw
  refine V_wide (cs' := 0) (sl' := 0) (by decide) (by decide) ?_
  refine V_st (st' := []) rfl ?_
  exact V_vret hc hq ⟨rfl, hw⟩ (by decide) (by decide) d_Model_writes_196
set_option maxRecDepth 100000 in
set_option maxHeartbeats 4000000 in
theorem vb_Model_writes_142 {E : mm_E} {Z : mm_M → Prop} (hc : cx E "EpochServerModel" c_Model_writes 7 none rm_Model_writes) (hq : cq E rm_Model_writes (pV Z)) (X142 : Nat → Int32 → Int32 → Int32 → Int32 → mm_M → Prop) (hX142 : ∀ (v0 : Nat) (v3 : Int32) (v4 : Int32) (v5 : Int32) (v6 : Int32) (h : mm_M), X142 v0 v3 v4 v5 v6 h → V E 7 0 0 h 142 [(0, va_rf (some v0)), (3, .int (v3)), (4, .int (v4)), (5, .int (v5)), (6, .int (v6))] []) (v0 : Nat) (v3 : Int32) (v4 : Int32) (v5 : Int32) (v6 : Int32) (h : mm_M) (hw : wq_Model_writes_142 X142 (mm_ge (eG E)) v0 v3 v4 v5 v6 h Z) : V E 7 0 0 h 142 [(0, va_rf (some v0)), (3, .int (v3)), (4, .int (v4)), (5, .int (v5)), (6, .int (v6))] [] := by
  unfold wq_Model_writes_142 at hw
  refine V_iload hc 4 d_Model_writes_142 rfl ?_
  refine V_iload hc 2 d_Model_writes_144 rfl ?_
  refine V_icmp_ge (tgt := 183) hc d_Model_writes_146 (by decide) (fun hq1 => ?_) (fun hq1 => ?_)
  · replace hw := hw.1 hq1
    refine V_aload_n hc 0 d_Model_writes_183 rfl rfl ?_
    refine V_iload_n hc 1 d_Model_writes_184 rfl rfl ?_
    obtain ⟨q1, hw⟩ := hw
    refine V_callV (rm' := rm_Model_changed) (As := [.int (v3)]) (rest := []) (n := 1) (cn := 0) hc rfl q1 (sat_Model_changed (eG E) _ _ _ _ hw) rfl cv_Model_334 (gw_of (tw_6 (List.mem_of_getElem? (i := 68) rfl)) rfl) ss_Model_changed rfl ⟨by decide, by decide⟩ (by decide) (by decide) rfl (by simp [cat_rf, cat_i, cat_l]) d_Model_writes_185 (fun r0 h2 hw => ?_)
    obtain ⟨rfl, hw⟩ := hw
    refine V_wide (cs' := 0) (sl' := 0) (by decide) (by decide) ?_
    refine V_st (st' := []) rfl ?_
    refine V_sub (lv' := [(0, va_rf (some v0)), (4, .int (v4))]) [0, 2] rfl ?_
    exact vb_Model_writes_188 hc hq  _ _ _ hw
  · replace hw := hw.2 hq1
    refine V_aload_n hc 0 d_Model_writes_149 rfl rfl ?_
    obtain ⟨q4, hw⟩ := hw
    refine V_get (v := va_rf (mm_P h v0 8)) hc gf_Model_37 rfl q4 rfl d_Model_writes_150 ?_
    refine V_sipush (v := 512) hc d_Model_writes_153 (by decide) ?_
    refine V_iload_n hc 1 d_Model_writes_156 rfl rfl ?_
    refine V_imul hc d_Model_writes_157 ?_
    refine V_iload hc 3 d_Model_writes_158 rfl ?_
    refine V_iadd hc d_Model_writes_160 ?_
    refine V_iload hc 4 d_Model_writes_161 rfl ?_
    refine V_iadd hc d_Model_writes_163 ?_
    refine V_aload_n hc 0 d_Model_writes_164 rfl rfl ?_
    refine V_get (v := va_rf (mm_P h v0 14)) hc gf_Model_44 rfl q4 rfl d_Model_writes_165 ?_
    refine V_aload_n hc 0 d_Model_writes_168 rfl rfl ?_
    refine V_get (v := .int (mm_I h v0 42)) hc gf_Model_165 rfl q4 rfl d_Model_writes_169 ?_
    refine V_iload hc 4 d_Model_writes_172 rfl ?_
    refine V_iadd hc d_Model_writes_174 ?_
    obtain ⟨a5, q6, hw⟩ := hw
    obtain ⟨q7, hw⟩ := hw
    obtain ⟨q8, hw⟩ := hw
    refine V_iald hc q6 q7 q8 d_Model_writes_175 ?_
    obtain ⟨a9, q10, hw⟩ := hw
    obtain ⟨q11, hw⟩ := hw
    obtain ⟨q12, hw⟩ := hw
    obtain ⟨q13, hw⟩ := hw
    obtain ⟨h14, eq_h14⟩ : ∃ x, x = mm_uI h a9 (Int32.toNatClampNeg ((((512 : Int32) * (v3)) + (v5)) + (v6))) (mm_I h a5 (Int32.toNatClampNeg ((mm_I h v0 42) + (v6)))) := ⟨_, rfl⟩
    replace hw := hw _ eq_h14
    refine V_iast hc q10 q11 q12 q13 d_Model_writes_176 ?_
    rw [← eq_h14]
    refine V_iinc (v := v6 + 1) (lv' := [(6, .int (v6 + 1)), (0, va_rf (some v0)), (3, .int (v3)), (4, .int (v4)), (5, .int (v5))]) hc 4 d_Model_writes_177 rfl rfl (by decide) rfl ?_
    refine V_goto (tgt := 142) hc d_Model_writes_180 (by decide) ?_
    refine V_sub (lv' := [(0, va_rf (some v0)), (3, .int (v3)), (4, .int (v4)), (5, .int (v5)), (6, .int (v6 + 1))]) [1, 2, 3, 4, 0] rfl ?_
    exact hX142 _ _ _ _ _ _ hw
theorem vl_Model_writes_142 {E : mm_E} {Z : mm_M → Prop} (hc : cx E "EpochServerModel" c_Model_writes 7 none rm_Model_writes) (hq : cq E rm_Model_writes (pV Z))  (v0 : Nat) (v3 : Int32) (v4 : Int32) (v5 : Int32) (v6 : Int32) (h : mm_M) (hw : lp_Model_writes_142  (mm_ge (eG E)) v0 v3 v4 v5 v6 h Z) : V E 7 0 0 h 142 [(0, va_rf (some v0)), (3, .int (v3)), (4, .int (v4)), (5, .int (v5)), (6, .int (v6))] [] :=
  hw (fun v0 v3 v4 v5 v6 h => V E 7 0 0 h 142 [(0, va_rf (some v0)), (3, .int (v3)), (4, .int (v4)), (5, .int (v5)), (6, .int (v6))] []) (fun v0 v3 v4 v5 v6 h hb => vb_Model_writes_142 hc hq  _ (fun _ _ _ _ _ _ q => q) v0 v3 v4 v5 v6 h hb)
set_option maxRecDepth 100000 in
set_option maxHeartbeats 4000000 in
theorem vb_Model_writes_139 {E : mm_E} {Z : mm_M → Prop} (hc : cx E "EpochServerModel" c_Model_writes 7 none rm_Model_writes) (hq : cq E rm_Model_writes (pV Z))  (v0 : Nat) (v3 : Int32) (v4 : Int32) (v5 : Int32) (h : mm_M) (hw : wq_Model_writes_139  (mm_ge (eG E)) v0 v3 v4 v5 h Z) : V E 7 0 0 h 139 [(0, va_rf (some v0)), (3, .int (v3)), (4, .int (v4)), (5, .int (v5))] [] := by
  unfold wq_Model_writes_139 at hw
  refine V_iconst (v := 0) hc d_Model_writes_139 (by decide) ?_
  refine V_istore (i := 6) (lv' := [(6, .int (0)), (0, va_rf (some v0)), (3, .int (v3)), (4, .int (v4)), (5, .int (v5))]) hc d_Model_writes_140 (by decide) rfl ?_
  refine V_sub (lv' := [(0, va_rf (some v0)), (3, .int (v3)), (4, .int (v4)), (5, .int (v5)), (6, .int (0))]) [1, 2, 3, 4, 0] rfl ?_
  exact vl_Model_writes_142 hc hq  _ _ _ _ _ _ hw
set_option maxRecDepth 100000 in
set_option maxHeartbeats 4000000 in
theorem vb_Model_writes_77 {E : mm_E} {Z : mm_M → Prop} (hc : cx E "EpochServerModel" c_Model_writes 7 none rm_Model_writes) (hq : cq E rm_Model_writes (pV Z))  (v0 : Nat) (v1 : Int32) (s0 : Option Nat) (s1 : Int32) (h : mm_M) (hw : wq_Model_writes_77  (mm_ge (eG E)) v0 v1 s0 s1 h Z) : V E 7 0 0 h 77 [(0, va_rf (some v0)), (1, .int (v1))] [.int (s1), va_rf (s0)] := by
  unfold wq_Model_writes_77 at hw
  refine V_iconst (v := 5) hc d_Model_writes_77 (by decide) ?_
  obtain ⟨a1, q2, hw⟩ := hw
  obtain ⟨q3, hw⟩ := hw
  refine V_callV (rm' := rm_Model_fails) (As := [.int (s1), .int (5)]) (rest := []) (n := 2) (cn := 0) hc q2 q3 (sat_Model_fails (eG E) _ _ _ _ _ hw) rfl cv_Model_249 (gw_of (tw_5 (List.mem_of_getElem? (i := 209) rfl)) rfl) ss_Model_fails rfl ⟨by decide, by decide⟩ (by decide) (by decide) rfl (by simp [cat_rf, cat_i, cat_l]) d_Model_writes_78 (fun r0 h4 hw => ?_)
  obtain ⟨r5, rfl, hw⟩ := hw
  refine V_wide (cs' := 0) (sl' := 0) (by decide) (by decide) ?_
  refine V_st (st' := [.int (r5)]) rfl ?_
  refine V_if_eq (tgt := 85) hc d_Model_writes_81 (by decide) (fun hq1 => ?_) (fun hq1 => ?_)
  · replace hw := hw.1 hq1
    refine V_iconst (v := 0) hc d_Model_writes_85 (by decide) ?_
    refine V_aload_n hc 0 d_Model_writes_86 rfl rfl ?_
    obtain ⟨q6, hw⟩ := hw
    refine V_get (v := va_rf (mm_P h4 v0 23)) hc gf_Model_56 rfl q6 rfl d_Model_writes_87 ?_
    refine V_iload_n hc 1 d_Model_writes_90 rfl rfl ?_
    obtain ⟨a7, q8, hw⟩ := hw
    obtain ⟨q9, hw⟩ := hw
    obtain ⟨q10, hw⟩ := hw
    refine V_iald hc q8 q9 q10 d_Model_writes_91 ?_
    refine V_callS (rm' := rm_Model_spot) (As := [.int (0), .int (mm_I h4 a7 (Int32.toNatClampNeg (v1)))]) (rest := []) (n := 2) hc (sat_Model_spot (eG E) _ _ _ _ hw) cv_Model_96 (gw_of (tw_5 (List.mem_of_getElem? (i := 196) rfl)) rfl) rfl ⟨by decide, by decide⟩ (by decide) (by decide) rfl (by simp [cat_rf, cat_i, cat_l]) d_Model_writes_92 (fun r0 h11 hw => ?_)
    obtain ⟨r12, rfl, hw⟩ := hw
    refine V_wide (cs' := 0) (sl' := 0) (by decide) (by decide) ?_
    refine V_st (st' := [.int (r12)]) rfl ?_
    refine V_istore_n (i := 3) (lv' := [(3, .int (r12)), (0, va_rf (some v0)), (1, .int (v1))]) hc d_Model_writes_95 rfl (by decide) rfl ?_
    refine V_aload_n hc 1 d_Model_writes_96 rfl rfl ?_
    obtain ⟨q13, hw⟩ := hw
    refine V_get (v := .long (mm_L h11 v0 44)) hc gf_Model_134 rfl q13 rfl d_Model_writes_97 ?_
    refine V_l2i hc d_Model_writes_100 ?_
    refine V_istore (i := 4) (lv' := [(4, .int (Int64.toInt32 (mm_L h11 v0 44))), (3, .int (r12)), (0, va_rf (some v0)), (1, .int (v1))]) hc d_Model_writes_101 (by decide) rfl ?_
    refine V_aload_n hc 2 d_Model_writes_103 rfl rfl ?_
    refine V_get (v := .long (mm_L h11 v0 43)) hc gf_Model_162 rfl q13 rfl d_Model_writes_104 ?_
    refine V_l2i hc d_Model_writes_107 ?_
    refine V_istore (i := 5) (lv' := [(5, .int (Int64.toInt32 (mm_L h11 v0 43))), (4, .int (Int64.toInt32 (mm_L h11 v0 44))), (3, .int (r12)), (0, va_rf (some v0)), (1, .int (v1))]) hc d_Model_writes_108 (by decide) rfl ?_
    refine V_iload hc 1 d_Model_writes_110 rfl ?_
    refine V_if_le (tgt := 188) hc d_Model_writes_112 (by decide) (fun hq1 => ?_) (fun hq1 => ?_)
    · replace hw := hw.1 hq1
      refine V_sub (lv' := [(0, va_rf (some v0)), (4, .int (Int64.toInt32 (mm_L h11 v0 44)))]) [3, 1] rfl ?_
      exact vb_Model_writes_188 hc hq  _ _ _ hw
    · replace hw := hw.2 hq1
      refine V_iload hc 0 d_Model_writes_115 rfl ?_
      refine V_iload hc 1 d_Model_writes_117 rfl ?_
      refine V_iadd hc d_Model_writes_119 ?_
      refine V_aload_n hc 3 d_Model_writes_120 rfl rfl ?_
      refine V_get (v := va_rf (mm_P h11 v0 5)) hc gf_Model_26 rfl q13 rfl d_Model_writes_121 ?_
      refine V_iload_n hc 2 d_Model_writes_124 rfl rfl ?_
      obtain ⟨a14, q15, hw⟩ := hw
      obtain ⟨q16, hw⟩ := hw
      obtain ⟨q17, hw⟩ := hw
      refine V_iald hc q15 q16 q17 d_Model_writes_125 ?_
      refine V_icmp_le (tgt := 139) hc d_Model_writes_126 (by decide) (fun hq1 => ?_) (fun hq1 => ?_)
      · replace hw := hw.1 hq1
        refine V_sub (lv' := [(0, va_rf (some v0)), (3, .int (r12)), (4, .int (Int64.toInt32 (mm_L h11 v0 44))), (5, .int (Int64.toInt32 (mm_L h11 v0 43)))]) [3, 2, 1, 0] rfl ?_
        exact vb_Model_writes_139 hc hq  _ _ _ _ _ hw
      · replace hw := hw.2 hq1
        refine V_aload_n hc 3 d_Model_writes_129 rfl rfl ?_
        refine V_iload_n hc 2 d_Model_writes_130 rfl rfl ?_
        refine V_iload hc 0 d_Model_writes_131 rfl ?_
        refine V_iload hc 1 d_Model_writes_133 rfl ?_
        refine V_iadd hc d_Model_writes_135 ?_
        refine V_callV (rm' := rm_Model_sizes) (As := [.int (r12), .int ((Int64.toInt32 (mm_L h11 v0 43)) + (Int64.toInt32 (mm_L h11 v0 44)))]) (rest := []) (n := 2) (cn := 0) hc rfl q13 (sat_Model_sizes (eG E) _ _ _ _ _ hw) rfl cv_Model_346 (gw_of (tw_6 (List.mem_of_getElem? (i := 118) rfl)) rfl) ss_Model_sizes rfl ⟨by decide, by decide⟩ (by decide) (by decide) rfl (by simp [cat_rf, cat_i, cat_l]) d_Model_writes_136 (fun r0 h18 hw => ?_)
        obtain ⟨rfl, hw⟩ := hw
        refine V_wide (cs' := 0) (sl' := 0) (by decide) (by decide) ?_
        refine V_st (st' := []) rfl ?_
        refine V_sub (lv' := [(0, va_rf (some v0)), (3, .int (r12)), (4, .int (Int64.toInt32 (mm_L h11 v0 44))), (5, .int (Int64.toInt32 (mm_L h11 v0 43)))]) [3, 2, 1, 0] rfl ?_
        exact vb_Model_writes_139 hc hq  _ _ _ _ _ hw
  · replace hw := hw.2 hq1
    refine V_sub (lv' := []) [] rfl ?_
    exact vb_Model_writes_84 hc hq  _ hw
set_option maxRecDepth 100000 in
set_option maxHeartbeats 4000000 in
theorem vb_Model_writes_72 {E : mm_E} {Z : mm_M → Prop} (hc : cx E "EpochServerModel" c_Model_writes 7 none rm_Model_writes) (hq : cq E rm_Model_writes (pV Z))  (v0 : Nat) (v1 : Int32) (s0 : Option Nat) (h : mm_M) (hw : wq_Model_writes_72  (mm_ge (eG E)) v0 v1 s0 h Z) : V E 7 0 0 h 72 [(0, va_rf (some v0)), (1, .int (v1))] [va_rf (s0)] := by
  unfold wq_Model_writes_72 at hw
  refine V_iconst (v := 1) hc d_Model_writes_72 (by decide) ?_
  refine V_goto (tgt := 77) hc d_Model_writes_73 (by decide) ?_
  refine V_sub (lv' := [(0, va_rf (some v0)), (1, .int (v1))]) [0, 1] rfl ?_
  exact vb_Model_writes_77 hc hq  _ _ _ _ _ hw
set_option maxRecDepth 100000 in
set_option maxHeartbeats 4000000 in
theorem vb_Model_writes_28 {E : mm_E} {Z : mm_M → Prop} (hc : cx E "EpochServerModel" c_Model_writes 7 none rm_Model_writes) (hq : cq E rm_Model_writes (pV Z))  (v0 : Nat) (v1 : Int32) (s0 : Option Nat) (s1 : Int32) (h : mm_M) (hw : wq_Model_writes_28  (mm_ge (eG E)) v0 v1 s0 s1 h Z) : V E 7 0 0 h 28 [(0, va_rf (some v0)), (1, .int (v1))] [.int (s1), va_rf (s0)] := by
  unfold wq_Model_writes_28 at hw
  refine V_iconst (v := 3) hc d_Model_writes_28 (by decide) ?_
  obtain ⟨a1, q2, hw⟩ := hw
  obtain ⟨q3, hw⟩ := hw
  refine V_callV (rm' := rm_Model_fails) (As := [.int (s1), .int (3)]) (rest := []) (n := 2) (cn := 0) hc q2 q3 (sat_Model_fails (eG E) _ _ _ _ _ hw) rfl cv_Model_249 (gw_of (tw_5 (List.mem_of_getElem? (i := 209) rfl)) rfl) ss_Model_fails rfl ⟨by decide, by decide⟩ (by decide) (by decide) rfl (by simp [cat_rf, cat_i, cat_l]) d_Model_writes_29 (fun r0 h4 hw => ?_)
  obtain ⟨r5, rfl, hw⟩ := hw
  refine V_wide (cs' := 0) (sl' := 0) (by decide) (by decide) ?_
  refine V_st (st' := [.int (r5)]) rfl ?_
  refine V_if_ne (tgt := 84) hc d_Model_writes_32 (by decide) (fun hq1 => ?_) (fun hq1 => ?_)
  · replace hw := hw.1 hq1
    refine V_sub (lv' := []) [] rfl ?_
    exact vb_Model_writes_84 hc hq  _ hw
  · replace hw := hw.2 hq1
    refine V_aload_n hc 0 d_Model_writes_35 rfl rfl ?_
    refine V_aload_n hc 0 d_Model_writes_36 rfl rfl ?_
    obtain ⟨q6, hw⟩ := hw
    refine V_get (v := .long (mm_L h4 v0 43)) hc gf_Model_162 rfl q6 rfl d_Model_writes_37 ?_
    refine V_lconst (v := 0) hc d_Model_writes_40 (by decide) ?_
    refine V_lcmp hc d_Model_writes_41 ?_
    refine V_if_lt (tgt := 72) hc d_Model_writes_42 (by decide) (fun hq1 => ?_) (fun hq1 => ?_)
    · replace hw := hw.1 hq1
      refine V_sub (lv' := [(0, va_rf (some v0)), (1, .int (v1))]) [0, 1] rfl ?_
      exact vb_Model_writes_72 hc hq  _ _ _ _ hw
    · replace hw := hw.2 hq1
      refine V_aload_n hc 0 d_Model_writes_45 rfl rfl ?_
      refine V_get (v := .long (mm_L h4 v0 43)) hc gf_Model_162 rfl q6 rfl d_Model_writes_46 ?_
      refine V_ldc2 (v := 512) hc (gw_of (tw_6 (List.mem_of_getElem? (i := 115) rfl)) rfl) d_Model_writes_49 ?_
      refine V_lcmp hc d_Model_writes_52 ?_
      refine V_if_gt (tgt := 72) hc d_Model_writes_53 (by decide) (fun hq1 => ?_) (fun hq1 => ?_)
      · replace hw := hw.1 hq1
        refine V_sub (lv' := [(0, va_rf (some v0)), (1, .int (v1))]) [0, 1] rfl ?_
        exact vb_Model_writes_72 hc hq  _ _ _ _ hw
      · replace hw := hw.2 hq1
        refine V_aload_n hc 0 d_Model_writes_56 rfl rfl ?_
        refine V_get (v := .long (mm_L h4 v0 43)) hc gf_Model_162 rfl q6 rfl d_Model_writes_57 ?_
        refine V_aload_n hc 0 d_Model_writes_60 rfl rfl ?_
        refine V_get (v := .long (mm_L h4 v0 44)) hc gf_Model_134 rfl q6 rfl d_Model_writes_61 ?_
        refine V_ladd hc d_Model_writes_64 ?_
        refine V_ldc2 (v := 512) hc (gw_of (tw_6 (List.mem_of_getElem? (i := 115) rfl)) rfl) d_Model_writes_65 ?_
        refine V_lcmp hc d_Model_writes_68 ?_
        refine V_if_le (tgt := 76) hc d_Model_writes_69 (by decide) (fun hq1 => ?_) (fun hq1 => ?_)
        · replace hw := hw.1 hq1
          refine V_iconst (v := 0) hc d_Model_writes_76 (by decide) ?_
          refine V_sub (lv' := [(0, va_rf (some v0)), (1, .int (v1))]) [0, 1] rfl ?_
          exact vb_Model_writes_77 hc hq  _ _ _ _ _ hw
        · replace hw := hw.2 hq1
          refine V_sub (lv' := [(0, va_rf (some v0)), (1, .int (v1))]) [0, 1] rfl ?_
          exact vb_Model_writes_72 hc hq  _ _ _ _ hw
set_option maxRecDepth 100000 in
set_option maxHeartbeats 4000000 in
theorem vb_Model_writes_23 {E : mm_E} {Z : mm_M → Prop} (hc : cx E "EpochServerModel" c_Model_writes 7 none rm_Model_writes) (hq : cq E rm_Model_writes (pV Z))  (v0 : Nat) (v1 : Int32) (s0 : Option Nat) (h : mm_M) (hw : wq_Model_writes_23  (mm_ge (eG E)) v0 v1 s0 h Z) : V E 7 0 0 h 23 [(0, va_rf (some v0)), (1, .int (v1))] [va_rf (s0)] := by
  unfold wq_Model_writes_23 at hw
  refine V_iconst (v := 1) hc d_Model_writes_23 (by decide) ?_
  refine V_goto (tgt := 28) hc d_Model_writes_24 (by decide) ?_
  refine V_sub (lv' := [(0, va_rf (some v0)), (1, .int (v1))]) [0, 1] rfl ?_
  exact vb_Model_writes_28 hc hq  _ _ _ _ _ hw
set_option maxRecDepth 100000 in
set_option maxHeartbeats 4000000 in
theorem vb_Model_writes_0 {E : mm_E} {Z : mm_M → Prop} (hc : cx E "EpochServerModel" c_Model_writes 7 none rm_Model_writes) (hq : cq E rm_Model_writes (pV Z))  (v0 : Nat) (v1 : Int32) (h : mm_M) (hw : wq_Model_writes_0  (mm_ge (eG E)) v0 v1 h Z) : V E 7 0 0 h 0 [(0, va_rf (some v0)), (1, .int (v1))] [] := by
  unfold wq_Model_writes_0 at hw
  refine V_aload_n hc 0 d_Model_writes_0 rfl rfl ?_
  obtain ⟨q1, hw⟩ := hw
  refine V_get (v := va_rf (mm_P h v0 24)) hc gf_Model_59 rfl q1 rfl d_Model_writes_1 ?_
  refine V_iload_n hc 1 d_Model_writes_4 rfl rfl ?_
  obtain ⟨a2, q3, hw⟩ := hw
  obtain ⟨q4, hw⟩ := hw
  obtain ⟨q5, hw⟩ := hw
  refine V_iald hc q3 q4 q5 d_Model_writes_5 ?_
  refine V_iconst (v := 3) hc d_Model_writes_6 (by decide) ?_
  refine V_iand hc d_Model_writes_7 ?_
  refine V_istore_n (i := 2) (lv' := [(2, .int ((mm_I h a2 (Int32.toNatClampNeg (v1))) &&& (3 : Int32))), (0, va_rf (some v0)), (1, .int (v1))]) hc d_Model_writes_8 rfl (by decide) rfl ?_
  refine V_aload_n hc 1 d_Model_writes_9 rfl rfl ?_
  refine V_aload_n hc 1 d_Model_writes_10 rfl rfl ?_
  refine V_get (v := va_rf (mm_P h v0 24)) hc gf_Model_59 rfl q1 rfl d_Model_writes_11 ?_
  refine V_iload_n hc 2 d_Model_writes_14 rfl rfl ?_
  obtain ⟨q6, hw⟩ := hw
  refine V_iald hc q3 q4 q6 d_Model_writes_15 ?_
  refine V_if_lt (tgt := 23) hc d_Model_writes_16 (by decide) (fun hq1 => ?_) (fun hq1 => ?_)
  · replace hw := hw.1 hq1
    refine V_sub (lv' := [(0, va_rf (some v0)), (1, .int (v1))]) [1, 2] rfl ?_
    exact vb_Model_writes_23 hc hq  _ _ _ _ hw
  · replace hw := hw.2 hq1
    refine V_iload_n hc 0 d_Model_writes_19 rfl rfl ?_
    refine V_if_ne (tgt := 27) hc d_Model_writes_20 (by decide) (fun hq1 => ?_) (fun hq1 => ?_)
    · replace hw := hw.1 hq1
      refine V_iconst (v := 0) hc d_Model_writes_27 (by decide) ?_
      refine V_sub (lv' := [(0, va_rf (some v0)), (1, .int (v1))]) [1, 2] rfl ?_
      exact vb_Model_writes_28 hc hq  _ _ _ _ _ hw
    · replace hw := hw.2 hq1
      refine V_sub (lv' := [(0, va_rf (some v0)), (1, .int (v1))]) [1, 2] rfl ?_
      exact vb_Model_writes_23 hc hq  _ _ _ _ hw
def wq_Model_writes (ge : Nat → Nat) (v0 : Nat) (v1 : Int32) (h : mm_M) (Z : mm_M → Prop) : Prop := wq_Model_writes_0 ge v0 v1 h Z
theorem sat_Model_writes (G : mm_G) (v0 : Nat) (v1 : Int32) (h : mm_M) (Z : mm_M → Prop) (hw : wq_Model_writes (mm_ge G) v0 v1 h Z) : mm_Met G y_Model_writes c_Model_writes 7 none rm_Model_writes [va_rf (some v0), .int (v1)] h (pV Z) := by
  refine mm_intro (own := "EpochServerModel") (by decide) rfl (by simp [lg_sl, cat_rf, cat_i, cat_l]) (fun E e1 hc hq hi => ?_)
  subst e1
  have e2 : lv_args 0 [va_rf (some v0), .int (v1)] = [(0, va_rf (some v0)), (1, .int (v1))] := by simp [lv_args, cat_rf, cat_i, cat_l]
  rw [e2]
  refine V_sub (lv' := [(0, va_rf (some v0)), (1, .int (v1))]) [0, 1] rfl ?_
  exact vb_Model_writes_0 hc hq v0 v1 h hw
