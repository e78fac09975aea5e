/-! Model.isSame(II)Z -/
abbrev rm_Model_isSame : Room := { frames := 1, cells := 0, slots := 0, locals := 21 }
def wq_Model_isSame_156  (ge : Nat → Nat)  (h : mm_M) (Z : Int32 → mm_M → Prop) : Prop :=
  Z (0) h
def wq_Model_isSame_264 (X2 : Nat → Int32 → Int32 → Int32 → mm_M → Prop) (ge : Nat → Nat) (v0 : Nat) (v1 : Int32) (v2 : Int32) (v3 : Int32) (h : mm_M) (Z : Int32 → mm_M → Prop) : Prop :=
  X2 (v0) (v1) (v2) (v3 + 1) h
def wq_Model_isSame_213 (X2 : Nat → Int32 → Int32 → Int32 → mm_M → Prop) (X213 : Nat → Int32 → Int32 → Int32 → Int32 → Int32 → Int32 → mm_M → Prop) (ge : Nat → Nat) (v0 : Nat) (v1 : Int32) (v2 : Int32) (v3 : Int32) (v4 : Int32) (v5 : Int32) (v6 : Int32) (h : mm_M) (Z : Int32 → mm_M → Prop) : Prop :=
  mm_k h (v0) = kd_Model ∧ ∃ a2, mm_P h v0 5 = some a2 ∧ mm_k h (a2) = ka_I ∧ vp_in (v4) (mm_n h a2) ∧ (((mm_I h a2 (Int32.toNatClampNeg (v4)) : Int32) ≤ (v6 : Int32) → wq_Model_isSame_264 X2 ge (v0) (v1) (v2) (v3) h Z) ∧ (¬ (mm_I h a2 (Int32.toNatClampNeg (v4)) : Int32) ≤ (v6 : Int32) → ∃ a6, mm_P h v0 8 = some a6 ∧ mm_k h (a6) = ka_I ∧ vp_in (((512 : Int32) * (v4)) + (v6)) (mm_n h a6) ∧ vp_in (((512 : Int32) * (v5)) + (v6)) (mm_n h a6) ∧ (((mm_I h a6 (Int32.toNatClampNeg (((512 : Int32) * (v4)) + (v6))) : Int32) = (mm_I h a6 (Int32.toNatClampNeg (((512 : Int32) * (v5)) + (v6))) : Int32) → X213 (v0) (v1) (v2) (v3) (v4) (v5) (v6 + 1) h) ∧ (¬ (mm_I h a6 (Int32.toNatClampNeg (((512 : Int32) * (v4)) + (v6))) : Int32) = (mm_I h a6 (Int32.toNatClampNeg (((512 : Int32) * (v5)) + (v6))) : Int32) → Z (0) h))))
def lp_Model_isSame_213 (X2 : Nat → Int32 → Int32 → Int32 → mm_M → Prop) (ge : Nat → Nat) (v0 : Nat) (v1 : Int32) (v2 : Int32) (v3 : Int32) (v4 : Int32) (v5 : Int32) (v6 : Int32) (h : mm_M) (Z : Int32 → mm_M → Prop) : Prop :=
  ∀ X213 : Nat → Int32 → Int32 → Int32 → Int32 → Int32 → Int32 → mm_M → Prop, (∀ (v0 : Nat) (v1 : Int32) (v2 : Int32) (v3 : Int32) (v4 : Int32) (v5 : Int32) (v6 : Int32) (h : mm_M), wq_Model_isSame_213 X2 X213 ge v0 v1 v2 v3 v4 v5 v6 h Z → X213 v0 v1 v2 v3 v4 v5 v6 h) → X213 v0 v1 v2 v3 v4 v5 v6 h
def wq_Model_isSame_161 (X2 : Nat → Int32 → Int32 → Int32 → mm_M → Prop) (X161 : Nat → Int32 → Int32 → Int32 → Int32 → Int32 → Int32 → mm_M → Prop) (ge : Nat → Nat) (v0 : Nat) (v1 : Int32) (v2 : Int32) (v3 : Int32) (v4 : Int32) (v5 : Int32) (v6 : Int32) (h : mm_M) (Z : Int32 → mm_M → Prop) : Prop :=
  mm_k h (v0) = kd_Model ∧ ∃ a2, mm_P h v0 6 = some a2 ∧ mm_k h (a2) = ka_I ∧ vp_in (v4) (mm_n h a2) ∧ (((mm_I h a2 (Int32.toNatClampNeg (v4)) : Int32) ≤ (v6 : Int32) → lp_Model_isSame_213 X2 ge (v0) (v1) (v2) (v3) (v4) (v5) (0) h Z) ∧ (¬ (mm_I h a2 (Int32.toNatClampNeg (v4)) : Int32) ≤ (v6 : Int32) → ∃ a6, mm_P h v0 7 = some a6 ∧ mm_k h (a6) = ka_I ∧ vp_in (((20 : Int32) * (v4)) + (v6)) (mm_n h a6) ∧ vp_in (((20 : Int32) * (v5)) + (v6)) (mm_n h a6) ∧ (((mm_I h a6 (Int32.toNatClampNeg (((20 : Int32) * (v4)) + (v6))) : Int32) = (mm_I h a6 (Int32.toNatClampNeg (((20 : Int32) * (v5)) + (v6))) : Int32) → X161 (v0) (v1) (v2) (v3) (v4) (v5) (v6 + 1) h) ∧ (¬ (mm_I h a6 (Int32.toNatClampNeg (((20 : Int32) * (v4)) + (v6))) : Int32) = (mm_I h a6 (Int32.toNatClampNeg (((20 : Int32) * (v5)) + (v6))) : Int32) → Z (0) h))))
def lp_Model_isSame_161 (X2 : Nat → Int32 → Int32 → Int32 → mm_M → Prop) (ge : Nat → Nat) (v0 : Nat) (v1 : Int32) (v2 : Int32) (v3 : Int32) (v4 : Int32) (v5 : Int32) (v6 : Int32) (h : mm_M) (Z : Int32 → mm_M → Prop) : Prop :=
  ∀ X161 : Nat → Int32 → Int32 → Int32 → Int32 → Int32 → Int32 → mm_M → Prop, (∀ (v0 : Nat) (v1 : Int32) (v2 : Int32) (v3 : Int32) (v4 : Int32) (v5 : Int32) (v6 : Int32) (h : mm_M), wq_Model_isSame_161 X2 X161 ge v0 v1 v2 v3 v4 v5 v6 h Z → X161 v0 v1 v2 v3 v4 v5 v6 h) → X161 v0 v1 v2 v3 v4 v5 v6 h
def wq_Model_isSame_2 (X2 : Nat → Int32 → Int32 → Int32 → mm_M → Prop) (ge : Nat → Nat) (v0 : Nat) (v1 : Int32) (v2 : Int32) (v3 : Int32) (h : mm_M) (Z : Int32 → mm_M → Prop) : Prop :=
  (((60 : Int32) ≤ (v3 : Int32) → Z (1) h) ∧ (¬ (60 : Int32) ≤ (v3 : Int32) → wq_Model_spot ge (v1) (v3) h (fun (r2 : Int32) (h1 : mm_M) => wq_Model_spot ge (v2) (v3) h1 (fun (r4 : Int32) (h3 : mm_M) => mm_k h3 (v0) = kd_Model ∧ ∃ a6, mm_P h3 v0 0 = some a6 ∧ mm_k h3 (a6) = ka_Z ∧ vp_in (r2) (mm_n h3 a6) ∧ vp_in (r4) (mm_n h3 a6) ∧ (((mm_I h3 a6 (Int32.toNatClampNeg (r2)) : Int32) = (mm_I h3 a6 (Int32.toNatClampNeg (r4)) : Int32) → vp_in (r2) (mm_n h3 a6) ∧ ((¬ (mm_I h3 a6 (Int32.toNatClampNeg (r2))) = 0 → ∃ a12, mm_P h3 v0 1 = some a12 ∧ mm_k h3 (a12) = ka_I ∧ vp_in (r2) (mm_n h3 a12) ∧ vp_in (r4) (mm_n h3 a12) ∧ ((¬ (mm_I h3 a12 (Int32.toNatClampNeg (r2)) : Int32) = (mm_I h3 a12 (Int32.toNatClampNeg (r4)) : Int32) → wq_Model_isSame_156  ge h3 Z) ∧ ((mm_I h3 a12 (Int32.toNatClampNeg (r2)) : Int32) = (mm_I h3 a12 (Int32.toNatClampNeg (r4)) : Int32) → ∃ a17, mm_P h3 v0 2 = some a17 ∧ mm_k h3 (a17) = ka_I ∧ vp_in (r2) (mm_n h3 a17) ∧ vp_in (r4) (mm_n h3 a17) ∧ ((¬ (mm_I h3 a17 (Int32.toNatClampNeg (r2)) : Int32) = (mm_I h3 a17 (Int32.toNatClampNeg (r4)) : Int32) → wq_Model_isSame_156  ge h3 Z) ∧ ((mm_I h3 a17 (Int32.toNatClampNeg (r2)) : Int32) = (mm_I h3 a17 (Int32.toNatClampNeg (r4)) : Int32) → ∃ a22, mm_P h3 v0 3 = some a22 ∧ mm_k h3 (a22) = ka_I ∧ vp_in (r2) (mm_n h3 a22) ∧ vp_in (r4) (mm_n h3 a22) ∧ ((¬ (mm_I h3 a22 (Int32.toNatClampNeg (r2)) : Int32) = (mm_I h3 a22 (Int32.toNatClampNeg (r4)) : Int32) → wq_Model_isSame_156  ge h3 Z) ∧ ((mm_I h3 a22 (Int32.toNatClampNeg (r2)) : Int32) = (mm_I h3 a22 (Int32.toNatClampNeg (r4)) : Int32) → ∃ a27, mm_P h3 v0 4 = some a27 ∧ mm_k h3 (a27) = ka_I ∧ vp_in (r2) (mm_n h3 a27) ∧ vp_in (r4) (mm_n h3 a27) ∧ ((¬ (mm_I h3 a27 (Int32.toNatClampNeg (r2)) : Int32) = (mm_I h3 a27 (Int32.toNatClampNeg (r4)) : Int32) → wq_Model_isSame_156  ge h3 Z) ∧ ((mm_I h3 a27 (Int32.toNatClampNeg (r2)) : Int32) = (mm_I h3 a27 (Int32.toNatClampNeg (r4)) : Int32) → ∃ a32, mm_P h3 v0 5 = some a32 ∧ mm_k h3 (a32) = ka_I ∧ vp_in (r2) (mm_n h3 a32) ∧ vp_in (r4) (mm_n h3 a32) ∧ ((¬ (mm_I h3 a32 (Int32.toNatClampNeg (r2)) : Int32) = (mm_I h3 a32 (Int32.toNatClampNeg (r4)) : Int32) → wq_Model_isSame_156  ge h3 Z) ∧ ((mm_I h3 a32 (Int32.toNatClampNeg (r2)) : Int32) = (mm_I h3 a32 (Int32.toNatClampNeg (r4)) : Int32) → ∃ a37, mm_P h3 v0 6 = some a37 ∧ mm_k h3 (a37) = ka_I ∧ vp_in (r2) (mm_n h3 a37) ∧ vp_in (r4) (mm_n h3 a37) ∧ (((mm_I h3 a37 (Int32.toNatClampNeg (r2)) : Int32) = (mm_I h3 a37 (Int32.toNatClampNeg (r4)) : Int32) → lp_Model_isSame_161 X2 ge (v0) (v1) (v2) (v3) (r2) (r4) (0) h3 Z) ∧ (¬ (mm_I h3 a37 (Int32.toNatClampNeg (r2)) : Int32) = (mm_I h3 a37 (Int32.toNatClampNeg (r4)) : Int32) → wq_Model_isSame_156  ge h3 Z))))))))))))) ∧ ((mm_I h3 a6 (Int32.toNatClampNeg (r2))) = 0 → wq_Model_isSame_264 X2 ge (v0) (v1) (v2) (v3) h3 Z))) ∧ (¬ (mm_I h3 a6 (Int32.toNatClampNeg (r2)) : Int32) = (mm_I h3 a6 (Int32.toNatClampNeg (r4)) : Int32) → Z (0) h3))))))
def lp_Model_isSame_2  (ge : Nat → Nat) (v0 : Nat) (v1 : Int32) (v2 : Int32) (v3 : Int32) (h : mm_M) (Z : Int32 → mm_M → Prop) : Prop :=
  ∀ X2 : Nat → Int32 → Int32 → Int32 → mm_M → Prop, (∀ (v0 : Nat) (v1 : Int32) (v2 : Int32) (v3 : Int32) (h : mm_M), wq_Model_isSame_2 X2 ge v0 v1 v2 v3 h Z → X2 v0 v1 v2 v3 h) → X2 v0 v1 v2 v3 h
def wq_Model_isSame_0  (ge : Nat → Nat) (v0 : Nat) (v1 : Int32) (v2 : Int32) (h : mm_M) (Z : Int32 → mm_M → Prop) : Prop :=
  lp_Model_isSame_2  ge (v0) (v1) (v2) (0) h Z
set_option maxRecDepth 100000 in
set_option maxHeartbeats 4000000 in
theorem vb_Model_isSame_156 {E : mm_E} {Z : Int32 → mm_M → Prop} (hc : cx E "EpochServerModel" c_Model_isSame 7 (some (.boolean)) rm_Model_isSame) (hq : cq E rm_Model_isSame (pI Z))   (h : mm_M) (hw : wq_Model_isSame_156  (mm_ge (eG E))  h Z) : V E 7 0 0 h 156 [] [] := by
  unfold wq_Model_isSame_156 at hw
  refine V_iconst (v := 0) hc d_Model_isSame_156 (by decide) ?_
  exact V_zret hc hq (by decide) ⟨_, rfl, hw⟩ (by decide) (by decide) d_Model_isSame_157
set_option maxRecDepth 100000 in
set_option maxHeartbeats 4000000 in
theorem vb_Model_isSame_264 {E : mm_E} {Z : Int32 → mm_M → Prop} (hc : cx E "EpochServerModel" c_Model_isSame 7 (some (.boolean)) rm_Model_isSame) (hq : cq E rm_Model_isSame (pI Z)) (X2 : Nat → Int32 → Int32 → Int32 → mm_M → Prop) (hX2 : ∀ (v0 : Nat) (v1 : Int32) (v2 : Int32) (v3 : Int32) (h : mm_M), X2 v0 v1 v2 v3 h → V E 7 0 0 h 2 [(0, va_rf (some v0)), (1, .int (v1)), (2, .int (v2)), (3, .int (v3))] []) (v0 : Nat) (v1 : Int32) (v2 : Int32) (v3 : Int32) (h : mm_M) (hw : wq_Model_isSame_264 X2 (mm_ge (eG E)) v0 v1 v2 v3 h Z) : V E 7 0 0 h 264 [(0, va_rf (some v0)), (1, .int (v1)), (2, .int (v2)), (3, .int (v3))] [] := by
  unfold wq_Model_isSame_264 at hw
  refine V_iinc (v := v3 + 1) (lv' := [(3, .int (v3 + 1)), (0, va_rf (some v0)), (1, .int (v1)), (2, .int (v2))]) hc 3 d_Model_isSame_264 rfl rfl (by decide) rfl ?_
  refine V_goto (tgt := 2) hc d_Model_isSame_267 (by decide) ?_
  refine V_sub (lv' := [(0, va_rf (some v0)), (1, .int (v1)), (2, .int (v2)), (3, .int (v3 + 1))]) [1, 2, 3, 0] rfl ?_
  exact hX2 _ _ _ _ _ hw
set_option maxRecDepth 100000 in
set_option maxHeartbeats 4000000 in
theorem vb_Model_isSame_213 {E : mm_E} {Z : Int32 → mm_M → Prop} (hc : cx E "EpochServerModel" c_Model_isSame 7 (some (.boolean)) rm_Model_isSame) (hq : cq E rm_Model_isSame (pI Z)) (X2 : Nat → Int32 → Int32 → Int32 → mm_M → Prop) (hX2 : ∀ (v0 : Nat) (v1 : Int32) (v2 : Int32) (v3 : Int32) (h : mm_M), X2 v0 v1 v2 v3 h → V E 7 0 0 h 2 [(0, va_rf (some v0)), (1, .int (v1)), (2, .int (v2)), (3, .int (v3))] []) (X213 : Nat → Int32 → Int32 → Int32 → Int32 → Int32 → Int32 → mm_M → Prop) (hX213 : ∀ (v0 : Nat) (v1 : Int32) (v2 : Int32) (v3 : Int32) (v4 : Int32) (v5 : Int32) (v6 : Int32) (h : mm_M), X213 v0 v1 v2 v3 v4 v5 v6 h → V E 7 0 0 h 213 [(0, va_rf (some v0)), (1, .int (v1)), (2, .int (v2)), (3, .int (v3)), (4, .int (v4)), (5, .int (v5)), (6, .int (v6))] []) (v0 : Nat) (v1 : Int32) (v2 : Int32) (v3 : Int32) (v4 : Int32) (v5 : Int32) (v6 : Int32) (h : mm_M) (hw : wq_Model_isSame_213 X2 X213 (mm_ge (eG E)) v0 v1 v2 v3 v4 v5 v6 h Z) : V E 7 0 0 h 213 [(0, va_rf (some v0)), (1, .int (v1)), (2, .int (v2)), (3, .int (v3)), (4, .int (v4)), (5, .int (v5)), (6, .int (v6))] [] := by
  unfold wq_Model_isSame_213 at hw
  refine V_iload hc 6 d_Model_isSame_213 rfl ?_
  refine V_aload_n hc 0 d_Model_isSame_215 rfl rfl ?_
  obtain ⟨q1, hw⟩ := hw
  refine V_get (v := va_rf (mm_P h v0 5)) hc gf_Model_26 rfl q1 rfl d_Model_isSame_216 ?_
  refine V_iload hc 4 d_Model_isSame_219 rfl ?_
  obtain ⟨a2, q3, hw⟩ := hw
  obtain ⟨q4, hw⟩ := hw
  obtain ⟨q5, hw⟩ := hw
  refine V_iald hc q3 q4 q5 d_Model_isSame_221 ?_
  refine V_icmp_ge (tgt := 264) hc d_Model_isSame_222 (by decide) (fun hq1 => ?_) (fun hq1 => ?_)
  · replace hw := hw.1 hq1
    refine V_sub (lv' := [(0, va_rf (some v0)), (1, .int (v1)), (2, .int (v2)), (3, .int (v3))]) [0, 1, 2, 3] rfl ?_
    exact vb_Model_isSame_264 hc hq X2 hX2 _ _ _ _ _ hw
  · replace hw := hw.2 hq1
    refine V_aload_n hc 0 d_Model_isSame_225 rfl rfl ?_
    refine V_get (v := va_rf (mm_P h v0 8)) hc gf_Model_37 rfl q1 rfl d_Model_isSame_226 ?_
    refine V_sipush (v := 512) hc d_Model_isSame_229 (by decide) ?_
    refine V_iload hc 4 d_Model_isSame_232 rfl ?_
    refine V_imul hc d_Model_isSame_234 ?_
    refine V_iload hc 6 d_Model_isSame_235 rfl ?_
    refine V_iadd hc d_Model_isSame_237 ?_
    obtain ⟨a6, q7, hw⟩ := hw
    obtain ⟨q8, hw⟩ := hw
    obtain ⟨q9, hw⟩ := hw
    refine V_iald hc q7 q8 q9 d_Model_isSame_238 ?_
    refine V_aload_n hc 0 d_Model_isSame_239 rfl rfl ?_
    refine V_get (v := va_rf (mm_P h v0 8)) hc gf_Model_37 rfl q1 rfl d_Model_isSame_240 ?_
    refine V_sipush (v := 512) hc d_Model_isSame_243 (by decide) ?_
    refine V_iload hc 5 d_Model_isSame_246 rfl ?_
    refine V_imul hc d_Model_isSame_248 ?_
    refine V_iload hc 6 d_Model_isSame_249 rfl ?_
    refine V_iadd hc d_Model_isSame_251 ?_
    obtain ⟨q10, hw⟩ := hw
    refine V_iald hc q7 q8 q10 d_Model_isSame_252 ?_
    refine V_icmp_eq (tgt := 258) hc d_Model_isSame_253 (by decide) (fun hq1 => ?_) (fun hq1 => ?_)
    · replace hw := hw.1 hq1
      refine V_iinc (v := v6 + 1) (lv' := [(6, .int (v6 + 1)), (0, va_rf (some v0)), (1, .int (v1)), (2, .int (v2)), (3, .int (v3)), (4, .int (v4)), (5, .int (v5))]) hc 6 d_Model_isSame_258 rfl rfl (by decide) rfl ?_
      refine V_goto (tgt := 213) hc d_Model_isSame_261 (by decide) ?_
      refine V_sub (lv' := [(0, va_rf (some v0)), (1, .int (v1)), (2, .int (v2)), (3, .int (v3)), (4, .int (v4)), (5, .int (v5)), (6, .int (v6 + 1))]) [1, 2, 3, 4, 5, 6, 0] rfl ?_
      exact hX213 _ _ _ _ _ _ _ _ hw
    · replace hw := hw.2 hq1
      refine V_iconst (v := 0) hc d_Model_isSame_256 (by decide) ?_
      exact V_zret hc hq (by decide) ⟨_, rfl, hw⟩ (by decide) (by decide) d_Model_isSame_257
theorem vl_Model_isSame_213 {E : mm_E} {Z : Int32 → mm_M → Prop} (hc : cx E "EpochServerModel" c_Model_isSame 7 (some (.boolean)) rm_Model_isSame) (hq : cq E rm_Model_isSame (pI Z)) (X2 : Nat → Int32 → Int32 → Int32 → mm_M → Prop) (hX2 : ∀ (v0 : Nat) (v1 : Int32) (v2 : Int32) (v3 : Int32) (h : mm_M), X2 v0 v1 v2 v3 h → V E 7 0 0 h 2 [(0, va_rf (some v0)), (1, .int (v1)), (2, .int (v2)), (3, .int (v3))] []) (v0 : Nat) (v1 : Int32) (v2 : Int32) (v3 : Int32) (v4 : Int32) (v5 : Int32) (v6 : Int32) (h : mm_M) (hw : lp_Model_isSame_213 X2 (mm_ge (eG E)) v0 v1 v2 v3 v4 v5 v6 h Z) : V E 7 0 0 h 213 [(0, va_rf (some v0)), (1, .int (v1)), (2, .int (v2)), (3, .int (v3)), (4, .int (v4)), (5, .int (v5)), (6, .int (v6))] [] :=
  hw (fun v0 v1 v2 v3 v4 v5 v6 h => V E 7 0 0 h 213 [(0, va_rf (some v0)), (1, .int (v1)), (2, .int (v2)), (3, .int (v3)), (4, .int (v4)), (5, .int (v5)), (6, .int (v6))] []) (fun v0 v1 v2 v3 v4 v5 v6 h hb => vb_Model_isSame_213 hc hq X2 hX2 _ (fun _ _ _ _ _ _ _ _ q => q) v0 v1 v2 v3 v4 v5 v6 h hb)
set_option maxRecDepth 100000 in
set_option maxHeartbeats 4000000 in
theorem vb_Model_isSame_161 {E : mm_E} {Z : Int32 → mm_M → Prop} (hc : cx E "EpochServerModel" c_Model_isSame 7 (some (.boolean)) rm_Model_isSame) (hq : cq E rm_Model_isSame (pI Z)) (X2 : Nat → Int32 → Int32 → Int32 → mm_M → Prop) (hX2 : ∀ (v0 : Nat) (v1 : Int32) (v2 : Int32) (v3 : Int32) (h : mm_M), X2 v0 v1 v2 v3 h → V E 7 0 0 h 2 [(0, va_rf (some v0)), (1, .int (v1)), (2, .int (v2)), (3, .int (v3))] []) (X161 : Nat → Int32 → Int32 → Int32 → Int32 → Int32 → Int32 → mm_M → Prop) (hX161 : ∀ (v0 : Nat) (v1 : Int32) (v2 : Int32) (v3 : Int32) (v4 : Int32) (v5 : Int32) (v6 : Int32) (h : mm_M), X161 v0 v1 v2 v3 v4 v5 v6 h → V E 7 0 0 h 161 [(0, va_rf (some v0)), (1, .int (v1)), (2, .int (v2)), (3, .int (v3)), (4, .int (v4)), (5, .int (v5)), (6, .int (v6))] []) (v0 : Nat) (v1 : Int32) (v2 : Int32) (v3 : Int32) (v4 : Int32) (v5 : Int32) (v6 : Int32) (h : mm_M) (hw : wq_Model_isSame_161 X2 X161 (mm_ge (eG E)) v0 v1 v2 v3 v4 v5 v6 h Z) : V E 7 0 0 h 161 [(0, va_rf (some v0)), (1, .int (v1)), (2, .int (v2)), (3, .int (v3)), (4, .int (v4)), (5, .int (v5)), (6, .int (v6))] [] := by
  unfold wq_Model_isSame_161 at hw
  refine V_iload hc 6 d_Model_isSame_161 rfl ?_
  refine V_aload_n hc 0 d_Model_isSame_163 rfl rfl ?_
  obtain ⟨q1, hw⟩ := hw
  refine V_get (v := va_rf (mm_P h v0 6)) hc gf_Model_29 rfl q1 rfl d_Model_isSame_164 ?_
  refine V_iload hc 4 d_Model_isSame_167 rfl ?_
  obtain ⟨a2, q3, hw⟩ := hw
  obtain ⟨q4, hw⟩ := hw
  obtain ⟨q5, hw⟩ := hw
  refine V_iald hc q3 q4 q5 d_Model_isSame_169 ?_
  refine V_icmp_ge (tgt := 210) hc d_Model_isSame_170 (by decide) (fun hq1 => ?_) (fun hq1 => ?_)
  · replace hw := hw.1 hq1
    refine V_iconst (v := 0) hc d_Model_isSame_210 (by decide) ?_
    refine V_istore (i := 6) (lv' := [(6, .int (0)), (0, va_rf (some v0)), (1, .int (v1)), (2, .int (v2)), (3, .int (v3)), (4, .int (v4)), (5, .int (v5))]) hc d_Model_isSame_211 (by decide) rfl ?_
    refine V_sub (lv' := [(0, va_rf (some v0)), (1, .int (v1)), (2, .int (v2)), (3, .int (v3)), (4, .int (v4)), (5, .int (v5)), (6, .int (0))]) [1, 2, 3, 4, 5, 6, 0] rfl ?_
    exact vl_Model_isSame_213 hc hq X2 hX2 _ _ _ _ _ _ _ _ hw
  · replace hw := hw.2 hq1
    refine V_aload_n hc 0 d_Model_isSame_173 rfl rfl ?_
    refine V_get (v := va_rf (mm_P h v0 7)) hc gf_Model_33 rfl q1 rfl d_Model_isSame_174 ?_
    refine V_bipush (v := 20) hc d_Model_isSame_177 (by decide) ?_
    refine V_iload hc 4 d_Model_isSame_179 rfl ?_
    refine V_imul hc d_Model_isSame_181 ?_
    refine V_iload hc 6 d_Model_isSame_182 rfl ?_
    refine V_iadd hc d_Model_isSame_184 ?_
    obtain ⟨a6, q7, hw⟩ := hw
    obtain ⟨q8, hw⟩ := hw
    obtain ⟨q9, hw⟩ := hw
    refine V_iald hc q7 q8 q9 d_Model_isSame_185 ?_
    refine V_aload_n hc 0 d_Model_isSame_186 rfl rfl ?_
    refine V_get (v := va_rf (mm_P h v0 7)) hc gf_Model_33 rfl q1 rfl d_Model_isSame_187 ?_
    refine V_bipush (v := 20) hc d_Model_isSame_190 (by decide) ?_
    refine V_iload hc 5 d_Model_isSame_192 rfl ?_
    refine V_imul hc d_Model_isSame_194 ?_
    refine V_iload hc 6 d_Model_isSame_195 rfl ?_
    refine V_iadd hc d_Model_isSame_197 ?_
    obtain ⟨q10, hw⟩ := hw
    refine V_iald hc q7 q8 q10 d_Model_isSame_198 ?_
    refine V_icmp_eq (tgt := 204) hc d_Model_isSame_199 (by decide) (fun hq1 => ?_) (fun hq1 => ?_)
    · replace hw := hw.1 hq1
      refine V_iinc (v := v6 + 1) (lv' := [(6, .int (v6 + 1)), (0, va_rf (some v0)), (1, .int (v1)), (2, .int (v2)), (3, .int (v3)), (4, .int (v4)), (5, .int (v5))]) hc 6 d_Model_isSame_204 rfl rfl (by decide) rfl ?_
      refine V_goto (tgt := 161) hc d_Model_isSame_207 (by decide) ?_
      refine V_sub (lv' := [(0, va_rf (some v0)), (1, .int (v1)), (2, .int (v2)), (3, .int (v3)), (4, .int (v4)), (5, .int (v5)), (6, .int (v6 + 1))]) [1, 2, 3, 4, 5, 6, 0] rfl ?_
      exact hX161 _ _ _ _ _ _ _ _ hw
    · replace hw := hw.2 hq1
      refine V_iconst (v := 0) hc d_Model_isSame_202 (by decide) ?_
      exact V_zret hc hq (by decide) ⟨_, rfl, hw⟩ (by decide) (by decide) d_Model_isSame_203
theorem vl_Model_isSame_161 {E : mm_E} {Z : Int32 → mm_M → Prop} (hc : cx E "EpochServerModel" c_Model_isSame 7 (some (.boolean)) rm_Model_isSame) (hq : cq E rm_Model_isSame (pI Z)) (X2 : Nat → Int32 → Int32 → Int32 → mm_M → Prop) (hX2 : ∀ (v0 : Nat) (v1 : Int32) (v2 : Int32) (v3 : Int32) (h : mm_M), X2 v0 v1 v2 v3 h → V E 7 0 0 h 2 [(0, va_rf (some v0)), (1, .int (v1)), (2, .int (v2)), (3, .int (v3))] []) (v0 : Nat) (v1 : Int32) (v2 : Int32) (v3 : Int32) (v4 : Int32) (v5 : Int32) (v6 : Int32) (h : mm_M) (hw : lp_Model_isSame_161 X2 (mm_ge (eG E)) v0 v1 v2 v3 v4 v5 v6 h Z) : V E 7 0 0 h 161 [(0, va_rf (some v0)), (1, .int (v1)), (2, .int (v2)), (3, .int (v3)), (4, .int (v4)), (5, .int (v5)), (6, .int (v6))] [] :=
  hw (fun v0 v1 v2 v3 v4 v5 v6 h => V E 7 0 0 h 161 [(0, va_rf (some v0)), (1, .int (v1)), (2, .int (v2)), (3, .int (v3)), (4, .int (v4)), (5, .int (v5)), (6, .int (v6))] []) (fun v0 v1 v2 v3 v4 v5 v6 h hb => vb_Model_isSame_161 hc hq X2 hX2 _ (fun _ _ _ _ _ _ _ _ q => q) v0 v1 v2 v3 v4 v5 v6 h hb)
set_option maxRecDepth 100000 in
set_option maxHeartbeats 4000000 in
theorem vb_Model_isSame_2 {E : mm_E} {Z : Int32 → mm_M → Prop} (hc : cx E "EpochServerModel" c_Model_isSame 7 (some (.boolean)) rm_Model_isSame) (hq : cq E rm_Model_isSame (pI Z)) (X2 : Nat → Int32 → Int32 → Int32 → mm_M → Prop) (hX2 : ∀ (v0 : Nat) (v1 : Int32) (v2 : Int32) (v3 : Int32) (h : mm_M), X2 v0 v1 v2 v3 h → V E 7 0 0 h 2 [(0, va_rf (some v0)), (1, .int (v1)), (2, .int (v2)), (3, .int (v3))] []) (v0 : Nat) (v1 : Int32) (v2 : Int32) (v3 : Int32) (h : mm_M) (hw : wq_Model_isSame_2 X2 (mm_ge (eG E)) v0 v1 v2 v3 h Z) : V E 7 0 0 h 2 [(0, va_rf (some v0)), (1, .int (v1)), (2, .int (v2)), (3, .int (v3))] [] := by
  unfold wq_Model_isSame_2 at hw
  refine V_iload_n hc 3 d_Model_isSame_2 rfl rfl ?_
  refine V_bipush (v := 60) hc d_Model_isSame_3 (by decide) ?_
  refine V_icmp_ge (tgt := 270) hc d_Model_isSame_5 (by decide) (fun hq1 => ?_) (fun hq1 => ?_)
  · replace hw := hw.1 hq1
    refine V_iconst (v := 1) hc d_Model_isSame_270 (by decide) ?_
    exact V_zret hc hq (by decide) ⟨_, rfl, hw⟩ (by decide) (by decide) d_Model_isSame_271
  · replace hw := hw.2 hq1
    refine V_iload_n hc 1 d_Model_isSame_8 rfl rfl ?_
    refine V_iload_n hc 3 d_Model_isSame_9 rfl rfl ?_
    refine V_callS (rm' := rm_Model_spot) (As := [.int (v1), .int (v3)]) (rest := []) (n := 2) hc (sat_Model_spot (eG E) _ _ _ _ hw) cv_Model_96 (gw_of (tw_5 (List.mem_of_getElem? (i := 196) rfl)) rfl) rfl ⟨by decide, by decide⟩ (by decide) (by decide) rfl (by simp [cat_rf, cat_i, cat_l]) d_Model_isSame_10 (fun r0 h1 hw => ?_)
    obtain ⟨r2, rfl, hw⟩ := hw
    refine V_wide (cs' := 0) (sl' := 0) (by decide) (by decide) ?_
    refine V_st (st' := [.int (r2)]) rfl ?_
    refine V_istore (i := 4) (lv' := [(4, .int (r2)), (0, va_rf (some v0)), (1, .int (v1)), (2, .int (v2)), (3, .int (v3))]) hc d_Model_isSame_13 (by decide) rfl ?_
    refine V_iload_n hc 3 d_Model_isSame_15 rfl rfl ?_
    refine V_iload_n hc 4 d_Model_isSame_16 rfl rfl ?_
    refine V_callS (rm' := rm_Model_spot) (As := [.int (v2), .int (v3)]) (rest := []) (n := 2) hc (sat_Model_spot (eG E) _ _ _ _ hw) cv_Model_96 (gw_of (tw_5 (List.mem_of_getElem? (i := 196) rfl)) rfl) rfl ⟨by decide, by decide⟩ (by decide) (by decide) rfl (by simp [cat_rf, cat_i, cat_l]) d_Model_isSame_17 (fun r0 h3 hw => ?_)
    obtain ⟨r4, rfl, hw⟩ := hw
    refine V_wide (cs' := 0) (sl' := 0) (by decide) (by decide) ?_
    refine V_st (st' := [.int (r4)]) rfl ?_
    refine V_istore (i := 5) (lv' := [(5, .int (r4)), (4, .int (r2)), (0, va_rf (some v0)), (1, .int (v1)), (2, .int (v2)), (3, .int (v3))]) hc d_Model_isSame_20 (by decide) rfl ?_
    refine V_aload_n hc 2 d_Model_isSame_22 rfl rfl ?_
    obtain ⟨q5, hw⟩ := hw
    refine V_get (v := va_rf (mm_P h3 v0 0)) hc gf_Model_9 rfl q5 rfl d_Model_isSame_23 ?_
    refine V_iload hc 1 d_Model_isSame_26 rfl ?_
    obtain ⟨a6, q7, hw⟩ := hw
    obtain ⟨q8, hw⟩ := hw
    obtain ⟨q9, hw⟩ := hw
    refine V_zald hc q7 q8 q9 d_Model_isSame_28 ?_
    refine V_aload_n hc 2 d_Model_isSame_29 rfl rfl ?_
    refine V_get (v := va_rf (mm_P h3 v0 0)) hc gf_Model_9 rfl q5 rfl d_Model_isSame_30 ?_
    refine V_iload hc 0 d_Model_isSame_33 rfl ?_
    obtain ⟨q10, hw⟩ := hw
    refine V_zald hc q7 q8 q10 d_Model_isSame_35 ?_
    refine V_icmp_eq (tgt := 41) hc d_Model_isSame_36 (by decide) (fun hq1 => ?_) (fun hq1 => ?_)
    · replace hw := hw.1 hq1
      refine V_aload_n hc 2 d_Model_isSame_41 rfl rfl ?_
      refine V_get (v := va_rf (mm_P h3 v0 0)) hc gf_Model_9 rfl q5 rfl d_Model_isSame_42 ?_
      refine V_iload hc 1 d_Model_isSame_45 rfl ?_
      obtain ⟨q11, hw⟩ := hw
      refine V_zald hc q7 q8 q11 d_Model_isSame_47 ?_
      refine V_if_ne (tgt := 54) hc d_Model_isSame_48 (by decide) (fun hq1 => ?_) (fun hq1 => ?_)
      · replace hw := hw.1 hq1
        refine V_aload_n hc 2 d_Model_isSame_54 rfl rfl ?_
        refine V_get (v := va_rf (mm_P h3 v0 1)) hc gf_Model_13 rfl q5 rfl d_Model_isSame_55 ?_
        refine V_iload hc 1 d_Model_isSame_58 rfl ?_
        obtain ⟨a12, q13, hw⟩ := hw
        obtain ⟨q14, hw⟩ := hw
        obtain ⟨q15, hw⟩ := hw
        refine V_iald hc q13 q14 q15 d_Model_isSame_60 ?_
        refine V_aload_n hc 2 d_Model_isSame_61 rfl rfl ?_
        refine V_get (v := va_rf (mm_P h3 v0 1)) hc gf_Model_13 rfl q5 rfl d_Model_isSame_62 ?_
        refine V_iload hc 0 d_Model_isSame_65 rfl ?_
        obtain ⟨q16, hw⟩ := hw
        refine V_iald hc q13 q14 q16 d_Model_isSame_67 ?_
        refine V_icmp_ne (tgt := 156) hc d_Model_isSame_68 (by decide) (fun hq1 => ?_) (fun hq1 => ?_)
        · replace hw := hw.1 hq1
          refine V_sub (lv' := []) [] rfl ?_
          exact vb_Model_isSame_156 hc hq  _ hw
        · replace hw := hw.2 hq1
          refine V_aload_n hc 2 d_Model_isSame_71 rfl rfl ?_
          refine V_get (v := va_rf (mm_P h3 v0 2)) hc gf_Model_17 rfl q5 rfl d_Model_isSame_72 ?_
          refine V_iload hc 1 d_Model_isSame_75 rfl ?_
          obtain ⟨a17, q18, hw⟩ := hw
          obtain ⟨q19, hw⟩ := hw
          obtain ⟨q20, hw⟩ := hw
          refine V_iald hc q18 q19 q20 d_Model_isSame_77 ?_
          refine V_aload_n hc 2 d_Model_isSame_78 rfl rfl ?_
          refine V_get (v := va_rf (mm_P h3 v0 2)) hc gf_Model_17 rfl q5 rfl d_Model_isSame_79 ?_
          refine V_iload hc 0 d_Model_isSame_82 rfl ?_
          obtain ⟨q21, hw⟩ := hw
          refine V_iald hc q18 q19 q21 d_Model_isSame_84 ?_
          refine V_icmp_ne (tgt := 156) hc d_Model_isSame_85 (by decide) (fun hq1 => ?_) (fun hq1 => ?_)
          · replace hw := hw.1 hq1
            refine V_sub (lv' := []) [] rfl ?_
            exact vb_Model_isSame_156 hc hq  _ hw
          · replace hw := hw.2 hq1
            refine V_aload_n hc 2 d_Model_isSame_88 rfl rfl ?_
            refine V_get (v := va_rf (mm_P h3 v0 3)) hc gf_Model_20 rfl q5 rfl d_Model_isSame_89 ?_
            refine V_iload hc 1 d_Model_isSame_92 rfl ?_
            obtain ⟨a22, q23, hw⟩ := hw
            obtain ⟨q24, hw⟩ := hw
            obtain ⟨q25, hw⟩ := hw
            refine V_iald hc q23 q24 q25 d_Model_isSame_94 ?_
            refine V_aload_n hc 2 d_Model_isSame_95 rfl rfl ?_
            refine V_get (v := va_rf (mm_P h3 v0 3)) hc gf_Model_20 rfl q5 rfl d_Model_isSame_96 ?_
            refine V_iload hc 0 d_Model_isSame_99 rfl ?_
            obtain ⟨q26, hw⟩ := hw
            refine V_iald hc q23 q24 q26 d_Model_isSame_101 ?_
            refine V_icmp_ne (tgt := 156) hc d_Model_isSame_102 (by decide) (fun hq1 => ?_) (fun hq1 => ?_)
            · replace hw := hw.1 hq1
              refine V_sub (lv' := []) [] rfl ?_
              exact vb_Model_isSame_156 hc hq  _ hw
            · replace hw := hw.2 hq1
              refine V_aload_n hc 2 d_Model_isSame_105 rfl rfl ?_
              refine V_get (v := va_rf (mm_P h3 v0 4)) hc gf_Model_23 rfl q5 rfl d_Model_isSame_106 ?_
              refine V_iload hc 1 d_Model_isSame_109 rfl ?_
              obtain ⟨a27, q28, hw⟩ := hw
              obtain ⟨q29, hw⟩ := hw
              obtain ⟨q30, hw⟩ := hw
              refine V_iald hc q28 q29 q30 d_Model_isSame_111 ?_
              refine V_aload_n hc 2 d_Model_isSame_112 rfl rfl ?_
              refine V_get (v := va_rf (mm_P h3 v0 4)) hc gf_Model_23 rfl q5 rfl d_Model_isSame_113 ?_
              refine V_iload hc 0 d_Model_isSame_116 rfl ?_
              obtain ⟨q31, hw⟩ := hw
              refine V_iald hc q28 q29 q31 d_Model_isSame_118 ?_
              refine V_icmp_ne (tgt := 156) hc d_Model_isSame_119 (by decide) (fun hq1 => ?_) (fun hq1 => ?_)
              · replace hw := hw.1 hq1
                refine V_sub (lv' := []) [] rfl ?_
                exact vb_Model_isSame_156 hc hq  _ hw
              · replace hw := hw.2 hq1
                refine V_aload_n hc 2 d_Model_isSame_122 rfl rfl ?_
                refine V_get (v := va_rf (mm_P h3 v0 5)) hc gf_Model_26 rfl q5 rfl d_Model_isSame_123 ?_
                refine V_iload hc 1 d_Model_isSame_126 rfl ?_
                obtain ⟨a32, q33, hw⟩ := hw
                obtain ⟨q34, hw⟩ := hw
                obtain ⟨q35, hw⟩ := hw
                refine V_iald hc q33 q34 q35 d_Model_isSame_128 ?_
                refine V_aload_n hc 2 d_Model_isSame_129 rfl rfl ?_
                refine V_get (v := va_rf (mm_P h3 v0 5)) hc gf_Model_26 rfl q5 rfl d_Model_isSame_130 ?_
                refine V_iload hc 0 d_Model_isSame_133 rfl ?_
                obtain ⟨q36, hw⟩ := hw
                refine V_iald hc q33 q34 q36 d_Model_isSame_135 ?_
                refine V_icmp_ne (tgt := 156) hc d_Model_isSame_136 (by decide) (fun hq1 => ?_) (fun hq1 => ?_)
                · replace hw := hw.1 hq1
                  refine V_sub (lv' := []) [] rfl ?_
                  exact vb_Model_isSame_156 hc hq  _ hw
                · replace hw := hw.2 hq1
                  refine V_aload_n hc 2 d_Model_isSame_139 rfl rfl ?_
                  refine V_get (v := va_rf (mm_P h3 v0 6)) hc gf_Model_29 rfl q5 rfl d_Model_isSame_140 ?_
                  refine V_iload hc 1 d_Model_isSame_143 rfl ?_
                  obtain ⟨a37, q38, hw⟩ := hw
                  obtain ⟨q39, hw⟩ := hw
                  obtain ⟨q40, hw⟩ := hw
                  refine V_iald hc q38 q39 q40 d_Model_isSame_145 ?_
                  refine V_aload_n hc 2 d_Model_isSame_146 rfl rfl ?_
                  refine V_get (v := va_rf (mm_P h3 v0 6)) hc gf_Model_29 rfl q5 rfl d_Model_isSame_147 ?_
                  refine V_iload hc 0 d_Model_isSame_150 rfl ?_
                  obtain ⟨q41, hw⟩ := hw
                  refine V_iald hc q38 q39 q41 d_Model_isSame_152 ?_
                  refine V_icmp_eq (tgt := 158) hc d_Model_isSame_153 (by decide) (fun hq1 => ?_) (fun hq1 => ?_)
                  · replace hw := hw.1 hq1
                    refine V_iconst (v := 0) hc d_Model_isSame_158 (by decide) ?_
                    refine V_istore (i := 6) (lv' := [(6, .int (0)), (5, .int (r4)), (4, .int (r2)), (0, va_rf (some v0)), (1, .int (v1)), (2, .int (v2)), (3, .int (v3))]) hc d_Model_isSame_159 (by decide) rfl ?_
                    refine V_sub (lv' := [(0, va_rf (some v0)), (1, .int (v1)), (2, .int (v2)), (3, .int (v3)), (4, .int (r2)), (5, .int (r4)), (6, .int (0))]) [3, 4, 5, 6, 2, 1, 0] rfl ?_
                    exact vl_Model_isSame_161 hc hq X2 hX2 _ _ _ _ _ _ _ _ hw
                  · replace hw := hw.2 hq1
                    refine V_sub (lv' := []) [] rfl ?_
                    exact vb_Model_isSame_156 hc hq  _ hw
      · replace hw := hw.2 hq1
        refine V_goto (tgt := 264) hc d_Model_isSame_51 (by decide) ?_
        refine V_sub (lv' := [(0, va_rf (some v0)), (1, .int (v1)), (2, .int (v2)), (3, .int (v3))]) [2, 3, 4, 5] rfl ?_
        exact vb_Model_isSame_264 hc hq X2 hX2 _ _ _ _ _ hw
    · replace hw := hw.2 hq1
      refine V_iconst (v := 0) hc d_Model_isSame_39 (by decide) ?_
      exact V_zret hc hq (by decide) ⟨_, rfl, hw⟩ (by decide) (by decide) d_Model_isSame_40
theorem vl_Model_isSame_2 {E : mm_E} {Z : Int32 → mm_M → Prop} (hc : cx E "EpochServerModel" c_Model_isSame 7 (some (.boolean)) rm_Model_isSame) (hq : cq E rm_Model_isSame (pI Z))  (v0 : Nat) (v1 : Int32) (v2 : Int32) (v3 : Int32) (h : mm_M) (hw : lp_Model_isSame_2  (mm_ge (eG E)) v0 v1 v2 v3 h Z) : V E 7 0 0 h 2 [(0, va_rf (some v0)), (1, .int (v1)), (2, .int (v2)), (3, .int (v3))] [] :=
  hw (fun v0 v1 v2 v3 h => V E 7 0 0 h 2 [(0, va_rf (some v0)), (1, .int (v1)), (2, .int (v2)), (3, .int (v3))] []) (fun v0 v1 v2 v3 h hb => vb_Model_isSame_2 hc hq  _ (fun _ _ _ _ _ q => q) v0 v1 v2 v3 h hb)
set_option maxRecDepth 100000 in
set_option maxHeartbeats 4000000 in
theorem vb_Model_isSame_0 {E : mm_E} {Z : Int32 → mm_M → Prop} (hc : cx E "EpochServerModel" c_Model_isSame 7 (some (.boolean)) rm_Model_isSame) (hq : cq E rm_Model_isSame (pI Z))  (v0 : Nat) (v1 : Int32) (v2 : Int32) (h : mm_M) (hw : wq_Model_isSame_0  (mm_ge (eG E)) v0 v1 v2 h Z) : V E 7 0 0 h 0 [(0, va_rf (some v0)), (1, .int (v1)), (2, .int (v2))] [] := by
  unfold wq_Model_isSame_0 at hw
  refine V_iconst (v := 0) hc d_Model_isSame_0 (by decide) ?_
  refine V_istore_n (i := 3) (lv' := [(3, .int (0)), (0, va_rf (some v0)), (1, .int (v1)), (2, .int (v2))]) hc d_Model_isSame_1 rfl (by decide) rfl ?_
  refine V_sub (lv' := [(0, va_rf (some v0)), (1, .int (v1)), (2, .int (v2)), (3, .int (0))]) [1, 2, 3, 0] rfl ?_
  exact vl_Model_isSame_2 hc hq  _ _ _ _ _ hw
def wq_Model_isSame (ge : Nat → Nat) (v0 : Nat) (v1 : Int32) (v2 : Int32) (h : mm_M) (Z : Int32 → mm_M → Prop) : Prop := wq_Model_isSame_0 ge v0 v1 v2 h Z
theorem sat_Model_isSame (G : mm_G) (v0 : Nat) (v1 : Int32) (v2 : Int32) (h : mm_M) (Z : Int32 → mm_M → Prop) (hw : wq_Model_isSame (mm_ge G) v0 v1 v2 h Z) : mm_Met G y_Model_isSame c_Model_isSame 7 (some (.boolean)) rm_Model_isSame [va_rf (some v0), .int (v1), .int (v2)] h (pI Z) := by
  refine mm_intro (own := "EpochServerModel") (by decide) rfl (by simp [lg_sl, cat_rf, cat_i, cat_l]) (fun E e1 hc hq hi => ?_)
  subst e1
  have e2 : lv_args 0 [va_rf (some v0), .int (v1), .int (v2)] = [(0, va_rf (some v0)), (1, .int (v1)), (2, .int (v2))] := by simp [lv_args, cat_rf, cat_i, cat_l]
  rw [e2]
  refine V_sub (lv' := [(0, va_rf (some v0)), (1, .int (v1)), (2, .int (v2))]) [0, 1, 2] rfl ?_
  exact vb_Model_isSame_0 hc hq v0 v1 v2 h hw
/-! Model.isDirectory(I)Z -/
abbrev rm_Model_isDirectory : Room := { frames := 0, cells := 0, slots := 0, locals := 0 }
def wq_Model_isDirectory_14  (ge : Nat → Nat) (s0 : Int32) (h : mm_M) (Z : Int32 → mm_M → Prop) : Prop :=
  ((s0) = 0 ∨ (s0) = 1) ∧ Z (s0) h
def wq_Model_isDirectory_0  (ge : Nat → Nat) (v0 : Nat) (v1 : Int32) (h : mm_M) (Z : Int32 → mm_M → Prop) : Prop :=
  mm_k h (v0) = kd_Model ∧ ∃ a2, mm_P h v0 2 = some a2 ∧ mm_k h (a2) = ka_I ∧ vp_in (v1) (mm_n h a2) ∧ ((0 ≤ (mm_I h a2 (Int32.toNatClampNeg (v1))) → wq_Model_isDirectory_14  ge (0) h Z) ∧ (¬ 0 ≤ (mm_I h a2 (Int32.toNatClampNeg (v1))) → wq_Model_isDirectory_14  ge (1) h Z))
set_option maxRecDepth 100000 in
set_option maxHeartbeats 4000000 in
theorem vb_Model_isDirectory_14 {E : mm_E} {Z : Int32 → mm_M → Prop} (hc : cx E "EpochServerModel" c_Model_isDirectory 2 (some (.boolean)) rm_Model_isDirectory) (hq : cq E rm_Model_isDirectory (pI Z))  (s0 : Int32) (h : mm_M) (hw : wq_Model_isDirectory_14  (mm_ge (eG E)) s0 h Z) : V E 2 0 0 h 14 [] [.int (s0)] := by
  unfold wq_Model_isDirectory_14 at hw
  obtain ⟨q1, hw⟩ := hw
  exact V_zret hc hq (zz_nar q1) ⟨_, rfl, hw⟩ (by decide) (by decide) d_Model_isDirectory_14
set_option maxRecDepth 100000 in
set_option maxHeartbeats 4000000 in
theorem vb_Model_isDirectory_0 {E : mm_E} {Z : Int32 → mm_M → Prop} (hc : cx E "EpochServerModel" c_Model_isDirectory 2 (some (.boolean)) rm_Model_isDirectory) (hq : cq E rm_Model_isDirectory (pI Z))  (v0 : Nat) (v1 : Int32) (h : mm_M) (hw : wq_Model_isDirectory_0  (mm_ge (eG E)) v0 v1 h Z) : V E 2 0 0 h 0 [(0, va_rf (some v0)), (1, .int (v1))] [] := by
  unfold wq_Model_isDirectory_0 at hw
  refine V_aload_n hc 0 d_Model_isDirectory_0 rfl rfl ?_
  obtain ⟨q1, hw⟩ := hw
  refine V_get (v := va_rf (mm_P h v0 2)) hc gf_Model_17 rfl q1 rfl d_Model_isDirectory_1 ?_
  refine V_iload_n hc 1 d_Model_isDirectory_4 rfl rfl ?_
  obtain ⟨a2, q3, hw⟩ := hw
  obtain ⟨q4, hw⟩ := hw
  obtain ⟨q5, hw⟩ := hw
  refine V_iald hc q3 q4 q5 d_Model_isDirectory_5 ?_
  refine V_if_ge (tgt := 13) hc d_Model_isDirectory_6 (by decide) (fun hq1 => ?_) (fun hq1 => ?_)
  · replace hw := hw.1 hq1
    refine V_iconst (v := 0) hc d_Model_isDirectory_13 (by decide) ?_
    refine V_sub (lv' := []) [] rfl ?_
    exact vb_Model_isDirectory_14 hc hq  _ _ hw
  · replace hw := hw.2 hq1
    refine V_iconst (v := 1) hc d_Model_isDirectory_9 (by decide) ?_
    refine V_goto (tgt := 14) hc d_Model_isDirectory_10 (by decide) ?_
    refine V_sub (lv' := []) [] rfl ?_
    exact vb_Model_isDirectory_14 hc hq  _ _ hw
def wq_Model_isDirectory (ge : Nat → Nat) (v0 : Nat) (v1 : Int32) (h : mm_M) (Z : Int32 → mm_M → Prop) : Prop := wq_Model_isDirectory_0 ge v0 v1 h Z
theorem sat_Model_isDirectory (G : mm_G) (v0 : Nat) (v1 : Int32) (h : mm_M) (Z : Int32 → mm_M → Prop) (hw : wq_Model_isDirectory (mm_ge G) v0 v1 h Z) : mm_Met G y_Model_isDirectory c_Model_isDirectory 2 (some (.boolean)) rm_Model_isDirectory [va_rf (some v0), .int (v1)] h (pI Z) := by
  refine mm_intro (own := "EpochServerModel") (by decide) rfl (by simp [lg_sl, cat_rf, cat_i, cat_l]) (fun E e1 hc hq hi => ?_)
  subst e1
  have e2 : lv_args 0 [va_rf (some v0), .int (v1)] = [(0, va_rf (some v0)), (1, .int (v1))] := by simp [lv_args, cat_rf, cat_i, cat_l]
  rw [e2]
  refine V_sub (lv' := [(0, va_rf (some v0)), (1, .int (v1))]) [0, 1] rfl ?_
  exact vb_Model_isDirectory_0 hc hq v0 v1 h hw
/-! Model.filesIn(II)I -/
abbrev rm_Model_filesIn : Room := { frames := 1, cells := 0, slots := 0, locals := 21 }
def wq_Model_filesIn_47 (X5 : Nat → Int32 → Int32 → Int32 → Int32 → mm_M → Prop) (ge : Nat → Nat) (v0 : Nat) (v1 : Int32) (v2 : Int32) (v4 : Int32) (s0 : Int32) (s1 : Int32) (h : mm_M) (Z : Int32 → mm_M → Prop) : Prop :=
  X5 (v0) (v1) (v2) ((s0) + (s1)) (v4 + 1) h
def wq_Model_filesIn_46 (X5 : Nat → Int32 → Int32 → Int32 → Int32 → mm_M → Prop) (ge : Nat → Nat) (v0 : Nat) (v1 : Int32) (v2 : Int32) (v4 : Int32) (s0 : Int32) (h : mm_M) (Z : Int32 → mm_M → Prop) : Prop :=
  wq_Model_filesIn_47 X5 ge (v0) (v1) (v2) (v4) (s0) (0) h Z
def wq_Model_filesIn_5 (X5 : Nat → Int32 → Int32 → Int32 → Int32 → mm_M → Prop) (ge : Nat → Nat) (v0 : Nat) (v1 : Int32) (v2 : Int32) (v3 : Int32) (v4 : Int32) (h : mm_M) (Z : Int32 → mm_M → Prop) : Prop :=
  (((60 : Int32) ≤ (v4 : Int32) → Z (v3) h) ∧ (¬ (60 : Int32) ≤ (v4 : Int32) → mm_k h (v0) = kd_Model ∧ wq_Model_spot ge (v1) (v4) h (fun (r3 : Int32) (h2 : mm_M) => ∃ a4, mm_P h v0 0 = some a4 ∧ mm_k h2 (a4) = ka_Z ∧ vp_in (r3) (mm_n h2 a4) ∧ (((mm_I h2 a4 (Int32.toNatClampNeg (r3))) = 0 → wq_Model_filesIn_46 X5 ge (v0) (v1) (v2) (v4) (v3) h2 Z) ∧ (¬ (mm_I h2 a4 (Int32.toNatClampNeg (r3))) = 0 → mm_k h2 (v0) = kd_Model ∧ wq_Model_spot ge (v1) (v4) h2 (fun (r10 : Int32) (h9 : mm_M) => ∃ a11, mm_P h2 v0 1 = some a11 ∧ mm_k h9 (a11) = ka_I ∧ vp_in (r10) (mm_n h9 a11) ∧ ((¬ (mm_I h9 a11 (Int32.toNatClampNeg (r10)) : Int32) = (v2 : Int32) → wq_Model_filesIn_46 X5 ge (v0) (v1) (v2) (v4) (v3) h9 Z) ∧ ((mm_I h9 a11 (Int32.toNatClampNeg (r10)) : Int32) = (v2 : Int32) → wq_Model_filesIn_47 X5 ge (v0) (v1) (v2) (v4) (v3) (1) h9 Z))))))))
def lp_Model_filesIn_5  (ge : Nat → Nat) (v0 : Nat) (v1 : Int32) (v2 : Int32) (v3 : Int32) (v4 : Int32) (h : mm_M) (Z : Int32 → mm_M → Prop) : Prop :=
  ∀ X5 : Nat → Int32 → Int32 → Int32 → Int32 → mm_M → Prop, (∀ (v0 : Nat) (v1 : Int32) (v2 : Int32) (v3 : Int32) (v4 : Int32) (h : mm_M), wq_Model_filesIn_5 X5 ge v0 v1 v2 v3 v4 h Z → X5 v0 v1 v2 v3 v4 h) → X5 v0 v1 v2 v3 v4 h
def wq_Model_filesIn_0  (ge : Nat → Nat) (v0 : Nat) (v1 : Int32) (v2 : Int32) (h : mm_M) (Z : Int32 → mm_M → Prop) : Prop :=
  lp_Model_filesIn_5  ge (v0) (v1) (v2) (0) (1) h Z
set_option maxRecDepth 100000 in
set_option maxHeartbeats 4000000 in
theorem vb_Model_filesIn_47 {E : mm_E} {Z : Int32 → mm_M → Prop} (hc : cx E "EpochServerModel" c_Model_filesIn 5 (some (.int)) rm_Model_filesIn) (hq : cq E rm_Model_filesIn (pI Z)) (X5 : Nat → Int32 → Int32 → Int32 → Int32 → mm_M → Prop) (hX5 : ∀ (v0 : Nat) (v1 : Int32) (v2 : Int32) (v3 : Int32) (v4 : Int32) (h : mm_M), X5 v0 v1 v2 v3 v4 h → V E 5 0 0 h 5 [(0, va_rf (some v0)), (1, .int (v1)), (2, .int (v2)), (3, .int (v3)), (4, .int (v4))] []) (v0 : Nat) (v1 : Int32) (v2 : Int32) (v4 : Int32) (s0 : Int32) (s1 : Int32) (h : mm_M) (hw : wq_Model_filesIn_47 X5 (mm_ge (eG E)) v0 v1 v2 v4 s0 s1 h Z) : V E 5 0 0 h 47 [(0, va_rf (some v0)), (1, .int (v1)), (2, .int (v2)), (4, .int (v4))] [.int (s1), .int (s0)] := by
  unfold wq_Model_filesIn_47 at hw
  refine V_iadd hc d_Model_filesIn_47 ?_
  refine V_istore_n (i := 3) (lv' := [(3, .int ((s0) + (s1))), (0, va_rf (some v0)), (1, .int (v1)), (2, .int (v2)), (4, .int (v4))]) hc d_Model_filesIn_48 rfl (by decide) rfl ?_
  refine V_iinc (v := v4 + 1) (lv' := [(4, .int (v4 + 1)), (3, .int ((s0) + (s1))), (0, va_rf (some v0)), (1, .int (v1)), (2, .int (v2))]) hc 4 d_Model_filesIn_49 rfl rfl (by decide) rfl ?_
  refine V_goto (tgt := 5) hc d_Model_filesIn_52 (by decide) ?_
  refine V_sub (lv' := [(0, va_rf (some v0)), (1, .int (v1)), (2, .int (v2)), (3, .int ((s0) + (s1))), (4, .int (v4 + 1))]) [2, 3, 4, 1, 0] rfl ?_
  exact hX5 _ _ _ _ _ _ hw
set_option maxRecDepth 100000 in
set_option maxHeartbeats 4000000 in
theorem vb_Model_filesIn_46 {E : mm_E} {Z : Int32 → mm_M → Prop} (hc : cx E "EpochServerModel" c_Model_filesIn 5 (some (.int)) rm_Model_filesIn) (hq : cq E rm_Model_filesIn (pI Z)) (X5 : Nat → Int32 → Int32 → Int32 → Int32 → mm_M → Prop) (hX5 : ∀ (v0 : Nat) (v1 : Int32) (v2 : Int32) (v3 : Int32) (v4 : Int32) (h : mm_M), X5 v0 v1 v2 v3 v4 h → V E 5 0 0 h 5 [(0, va_rf (some v0)), (1, .int (v1)), (2, .int (v2)), (3, .int (v3)), (4, .int (v4))] []) (v0 : Nat) (v1 : Int32) (v2 : Int32) (v4 : Int32) (s0 : Int32) (h : mm_M) (hw : wq_Model_filesIn_46 X5 (mm_ge (eG E)) v0 v1 v2 v4 s0 h Z) : V E 5 0 0 h 46 [(0, va_rf (some v0)), (1, .int (v1)), (2, .int (v2)), (4, .int (v4))] [.int (s0)] := by
  unfold wq_Model_filesIn_46 at hw
  refine V_iconst (v := 0) hc d_Model_filesIn_46 (by decide) ?_
  refine V_sub (lv' := [(0, va_rf (some v0)), (1, .int (v1)), (2, .int (v2)), (4, .int (v4))]) [0, 1, 2, 3] rfl ?_
  exact vb_Model_filesIn_47 hc hq X5 hX5 _ _ _ _ _ _ _ hw
set_option maxRecDepth 100000 in
set_option maxHeartbeats 4000000 in
theorem vb_Model_filesIn_5 {E : mm_E} {Z : Int32 → mm_M → Prop} (hc : cx E "EpochServerModel" c_Model_filesIn 5 (some (.int)) rm_Model_filesIn) (hq : cq E rm_Model_filesIn (pI Z)) (X5 : Nat → Int32 → Int32 → Int32 → Int32 → mm_M → Prop) (hX5 : ∀ (v0 : Nat) (v1 : Int32) (v2 : Int32) (v3 : Int32) (v4 : Int32) (h : mm_M), X5 v0 v1 v2 v3 v4 h → V E 5 0 0 h 5 [(0, va_rf (some v0)), (1, .int (v1)), (2, .int (v2)), (3, .int (v3)), (4, .int (v4))] []) (v0 : Nat) (v1 : Int32) (v2 : Int32) (v3 : Int32) (v4 : Int32) (h : mm_M) (hw : wq_Model_filesIn_5 X5 (mm_ge (eG E)) v0 v1 v2 v3 v4 h Z) : V E 5 0 0 h 5 [(0, va_rf (some v0)), (1, .int (v1)), (2, .int (v2)), (3, .int (v3)), (4, .int (v4))] [] := by
  unfold wq_Model_filesIn_5 at hw
  refine V_iload hc 4 d_Model_filesIn_5 rfl ?_
  refine V_bipush (v := 60) hc d_Model_filesIn_7 (by decide) ?_
  refine V_icmp_ge (tgt := 55) hc d_Model_filesIn_9 (by decide) (fun hq1 => ?_) (fun hq1 => ?_)
  · replace hw := hw.1 hq1
    refine V_iload_n hc 3 d_Model_filesIn_55 rfl rfl ?_
    exact V_iret hc hq ⟨_, rfl, hw⟩ (by decide) (by decide) d_Model_filesIn_56
  · replace hw := hw.2 hq1
    refine V_iload_n hc 3 d_Model_filesIn_12 rfl rfl ?_
    refine V_aload_n hc 0 d_Model_filesIn_13 rfl rfl ?_
    obtain ⟨q1, hw⟩ := hw
    refine V_get (v := va_rf (mm_P h v0 0)) hc gf_Model_9 rfl q1 rfl d_Model_filesIn_14 ?_
    refine V_iload_n hc 1 d_Model_filesIn_17 rfl rfl ?_
    refine V_iload hc 4 d_Model_filesIn_18 rfl ?_
    refine V_callS (rm' := rm_Model_spot) (As := [.int (v1), .int (v4)]) (rest := [va_rf (mm_P h v0 0), .int (v3)]) (n := 2) hc (sat_Model_spot (eG E) _ _ _ _ hw) cv_Model_96 (gw_of (tw_5 (List.mem_of_getElem? (i := 196) rfl)) rfl) rfl ⟨by decide, by decide⟩ (by decide) (by decide) rfl (by simp [cat_rf, cat_i, cat_l]) d_Model_filesIn_20 (fun r0 h2 hw => ?_)
    obtain ⟨r3, rfl, hw⟩ := hw
    refine V_wide (cs' := 0) (sl' := 0) (by decide) (by decide) ?_
    refine V_st (st' := [.int (r3), va_rf (mm_P h v0 0), .int (v3)]) rfl ?_
    obtain ⟨a4, q5, hw⟩ := hw
    obtain ⟨q6, hw⟩ := hw
    obtain ⟨q7, hw⟩ := hw
    refine V_zald hc q5 q6 q7 d_Model_filesIn_23 ?_
    refine V_if_eq (tgt := 46) hc d_Model_filesIn_24 (by decide) (fun hq1 => ?_) (fun hq1 => ?_)
    · replace hw := hw.1 hq1
      refine V_sub (lv' := [(0, va_rf (some v0)), (1, .int (v1)), (2, .int (v2)), (4, .int (v4))]) [0, 1, 2, 4] rfl ?_
      exact vb_Model_filesIn_46 hc hq X5 hX5 _ _ _ _ _ _ hw
    · replace hw := hw.2 hq1
      refine V_aload_n hc 0 d_Model_filesIn_27 rfl rfl ?_
      obtain ⟨q8, hw⟩ := hw
      refine V_get (v := va_rf (mm_P h2 v0 1)) hc gf_Model_13 rfl q8 rfl d_Model_filesIn_28 ?_
      refine V_iload_n hc 1 d_Model_filesIn_31 rfl rfl ?_
      refine V_iload hc 4 d_Model_filesIn_32 rfl ?_
      refine V_callS (rm' := rm_Model_spot) (As := [.int (v1), .int (v4)]) (rest := [va_rf (mm_P h2 v0 1), .int (v3)]) (n := 2) hc (sat_Model_spot (eG E) _ _ _ _ hw) cv_Model_96 (gw_of (tw_5 (List.mem_of_getElem? (i := 196) rfl)) rfl) rfl ⟨by decide, by decide⟩ (by decide) (by decide) rfl (by simp [cat_rf, cat_i, cat_l]) d_Model_filesIn_34 (fun r0 h9 hw => ?_)
      obtain ⟨r10, rfl, hw⟩ := hw
      refine V_wide (cs' := 0) (sl' := 0) (by decide) (by decide) ?_
      refine V_st (st' := [.int (r10), va_rf (mm_P h2 v0 1), .int (v3)]) rfl ?_
      obtain ⟨a11, q12, hw⟩ := hw
      obtain ⟨q13, hw⟩ := hw
      obtain ⟨q14, hw⟩ := hw
      refine V_iald hc q12 q13 q14 d_Model_filesIn_37 ?_
      refine V_iload_n hc 2 d_Model_filesIn_38 rfl rfl ?_
      refine V_icmp_ne (tgt := 46) hc d_Model_filesIn_39 (by decide) (fun hq1 => ?_) (fun hq1 => ?_)
      · replace hw := hw.1 hq1
        refine V_sub (lv' := [(0, va_rf (some v0)), (1, .int (v1)), (2, .int (v2)), (4, .int (v4))]) [0, 1, 2, 4] rfl ?_
        exact vb_Model_filesIn_46 hc hq X5 hX5 _ _ _ _ _ _ hw
      · replace hw := hw.2 hq1
        refine V_iconst (v := 1) hc d_Model_filesIn_42 (by decide) ?_
        refine V_goto (tgt := 47) hc d_Model_filesIn_43 (by decide) ?_
        refine V_sub (lv' := [(0, va_rf (some v0)), (1, .int (v1)), (2, .int (v2)), (4, .int (v4))]) [0, 1, 2, 4] rfl ?_
        exact vb_Model_filesIn_47 hc hq X5 hX5 _ _ _ _ _ _ _ hw
theorem vl_Model_filesIn_5 {E : mm_E} {Z : Int32 → mm_M → Prop} (hc : cx E "EpochServerModel" c_Model_filesIn 5 (some (.int)) rm_Model_filesIn) (hq : cq E rm_Model_filesIn (pI Z))  (v0 : Nat) (v1 : Int32) (v2 : Int32) (v3 : Int32) (v4 : Int32) (h : mm_M) (hw : lp_Model_filesIn_5  (mm_ge (eG E)) v0 v1 v2 v3 v4 h Z) : V E 5 0 0 h 5 [(0, va_rf (some v0)), (1, .int (v1)), (2, .int (v2)), (3, .int (v3)), (4, .int (v4))] [] :=
  hw (fun v0 v1 v2 v3 v4 h => V E 5 0 0 h 5 [(0, va_rf (some v0)), (1, .int (v1)), (2, .int (v2)), (3, .int (v3)), (4, .int (v4))] []) (fun v0 v1 v2 v3 v4 h hb => vb_Model_filesIn_5 hc hq  _ (fun _ _ _ _ _ _ q => q) v0 v1 v2 v3 v4 h hb)
set_option maxRecDepth 100000 in
set_option maxHeartbeats 4000000 in
theorem vb_Model_filesIn_0 {E : mm_E} {Z : Int32 → mm_M → Prop} (hc : cx E "EpochServerModel" c_Model_filesIn 5 (some (.int)) rm_Model_filesIn) (hq : cq E rm_Model_filesIn (pI Z))  (v0 : Nat) (v1 : Int32) (v2 : Int32) (h : mm_M) (hw : wq_Model_filesIn_0  (mm_ge (eG E)) v0 v1 v2 h Z) : V E 5 0 0 h 0 [(0, va_rf (some v0)), (1, .int (v1)), (2, .int (v2))] [] := by
  unfold wq_Model_filesIn_0 at hw
  refine V_iconst (v := 0) hc d_Model_filesIn_0 (by decide) ?_
  refine V_istore_n (i := 3) (lv' := [(3, .int (0)), (0, va_rf (some v0)), (1, .int (v1)), (2, .int (v2))]) hc d_Model_filesIn_1 rfl (by decide) rfl ?_
  refine V_iconst (v := 1) hc d_Model_filesIn_2 (by decide) ?_
  refine V_istore (i := 4) (lv' := [(4, .int (1)), (3, .int (0)), (0, va_rf (some v0)), (1, .int (v1)), (2, .int (v2))]) hc d_Model_filesIn_3 (by decide) rfl ?_
  refine V_sub (lv' := [(0, va_rf (some v0)), (1, .int (v1)), (2, .int (v2)), (3, .int (0)), (4, .int (1))]) [2, 3, 4, 1, 0] rfl ?_
  exact vl_Model_filesIn_5 hc hq  _ _ _ _ _ _ hw
def wq_Model_filesIn (ge : Nat → Nat) (v0 : Nat) (v1 : Int32) (v2 : Int32) (h : mm_M) (Z : Int32 → mm_M → Prop) : Prop := wq_Model_filesIn_0 ge v0 v1 v2 h Z
theorem sat_Model_filesIn (G : mm_G) (v0 : Nat) (v1 : Int32) (v2 : Int32) (h : mm_M) (Z : Int32 → mm_M → Prop) (hw : wq_Model_filesIn (mm_ge G) v0 v1 v2 h Z) : mm_Met G y_Model_filesIn c_Model_filesIn 5 (some (.int)) rm_Model_filesIn [va_rf (some v0), .int (v1), .int (v2)] h (pI Z) := by
  refine mm_intro (own := "EpochServerModel") (by decide) rfl (by simp [lg_sl, cat_rf, cat_i, cat_l]) (fun E e1 hc hq hi => ?_)
  subst e1
  have e2 : lv_args 0 [va_rf (some v0), .int (v1), .int (v2)] = [(0, va_rf (some v0)), (1, .int (v1)), (2, .int (v2))] := by simp [lv_args, cat_rf, cat_i, cat_l]
  rw [e2]
  refine V_sub (lv' := [(0, va_rf (some v0)), (1, .int (v1)), (2, .int (v2))]) [0, 1, 2] rfl ?_
  exact vb_Model_filesIn_0 hc hq v0 v1 v2 h hw
/-! Model.changed(I)V -/
abbrev rm_Model_changed : Room := { frames := 0, cells := 0, slots := 0, locals := 0 }
def wq_Model_changed_0  (ge : Nat → Nat) (v0 : Nat) (v1 : Int32) (h : mm_M) (Z : mm_M → Prop) : Prop :=
  mm_k h (v0) = kd_Model ∧ ∃ a2, mm_P h v0 3 = some a2 ∧ mm_k h (a2) = ka_I ∧ vp_in (v1) (mm_n h a2) ∧ vp_in (v1) (mm_n h a2) ∧ ge 0 ≤ a2 ∧ ∀ h8 : mm_M, h8 = mm_uI h a2 (Int32.toNatClampNeg (v1)) ((mm_I h a2 (Int32.toNatClampNeg (v1))) + (1 : Int32)) → mm_k h8 (v0) = kd_Model ∧ ∃ a10, mm_P h8 v0 4 = some a10 ∧ mm_k h8 (a10) = ka_I ∧ vp_in (v1) (mm_n h8 a10) ∧ ge 0 ≤ a10 ∧ ∀ h15 : mm_M, h15 = mm_uI h8 a10 (Int32.toNatClampNeg (v1)) (mm_I h8 v0 10) → Z h15
set_option maxRecDepth 100000 in
set_option maxHeartbeats 4000000 in
theorem vb_Model_changed_0 {E : mm_E} {Z : mm_M → Prop} (hc : cx E "EpochServerModel" c_Model_changed 2 none rm_Model_changed) (hq : cq E rm_Model_changed (pV Z))  (v0 : Nat) (v1 : Int32) (h : mm_M) (hw : wq_Model_changed_0  (mm_ge (eG E)) v0 v1 h Z) : V E 2 0 0 h 0 [(0, va_rf (some v0)), (1, .int (v1))] [] := by
  unfold wq_Model_changed_0 at hw
  refine V_aload_n hc 0 d_Model_changed_0 rfl rfl ?_
  obtain ⟨q1, hw⟩ := hw
  refine V_get (v := va_rf (mm_P h v0 3)) hc gf_Model_20 rfl q1 rfl d_Model_changed_1 ?_
  refine V_iload_n hc 1 d_Model_changed_4 rfl rfl ?_
  refine V_dup2 hc d_Model_changed_5 rfl (cat_rf _) ?_
  obtain ⟨a2, q3, hw⟩ := hw
  obtain ⟨q4, hw⟩ := hw
  obtain ⟨q5, hw⟩ := hw
  refine V_iald hc q3 q4 q5 d_Model_changed_6 ?_
  refine V_iconst (v := 1) hc d_Model_changed_7 (by decide) ?_
  refine V_iadd hc d_Model_changed_8 ?_
  obtain ⟨q6, hw⟩ := hw
  obtain ⟨q7, hw⟩ := hw
  obtain ⟨h8, eq_h8⟩ : ∃ x, x = mm_uI h a2 (Int32.toNatClampNeg (v1)) ((mm_I h a2 (Int32.toNatClampNeg (v1))) + (1 : Int32)) := ⟨_, rfl⟩
  replace hw := hw _ eq_h8
  refine V_iast hc q3 q4 q6 q7 d_Model_changed_9 ?_
  rw [← eq_h8]
  refine V_aload_n hc 0 d_Model_changed_10 rfl rfl ?_
  obtain ⟨q9, hw⟩ := hw
  refine V_get (v := va_rf (mm_P h8 v0 4)) hc gf_Model_23 rfl q9 rfl d_Model_changed_11 ?_
  refine V_iload_n hc 1 d_Model_changed_14 rfl rfl ?_
  refine V_aload_n hc 0 d_Model_changed_15 rfl rfl ?_
  refine V_get (v := .int (mm_I h8 v0 10)) hc gf_Model_100 rfl q9 rfl d_Model_changed_16 ?_
  obtain ⟨a10, q11, hw⟩ := hw
  obtain ⟨q12, hw⟩ := hw
  obtain ⟨q13, hw⟩ := hw
  obtain ⟨q14, hw⟩ := hw
  obtain ⟨h15, eq_h15⟩ : ∃ x, x = mm_uI h8 a10 (Int32.toNatClampNeg (v1)) (mm_I h8 v0 10) := ⟨_, rfl⟩
  replace hw := hw _ eq_h15
  refine V_iast hc q11 q12 q13 q14 d_Model_changed_19 ?_
  rw [← eq_h15]
  exact V_vret hc hq ⟨rfl, hw⟩ (by decide) (by decide) d_Model_changed_20
def wq_Model_changed (ge : Nat → Nat) (v0 : Nat) (v1 : Int32) (h : mm_M) (Z : mm_M → Prop) : Prop := wq_Model_changed_0 ge v0 v1 h Z
theorem sat_Model_changed (G : mm_G) (v0 : Nat) (v1 : Int32) (h : mm_M) (Z : mm_M → Prop) (hw : wq_Model_changed (mm_ge G) v0 v1 h Z) : mm_Met G y_Model_changed c_Model_changed 2 none rm_Model_changed [va_rf (some v0), .int (v1)] h (pV Z) := by
  refine mm_intro (own := "EpochServerModel") (by decide) rfl (by simp [lg_sl, cat_rf, cat_i, cat_l]) (fun E e1 hc hq hi => ?_)
  subst e1
  have e2 : lv_args 0 [va_rf (some v0), .int (v1)] = [(0, va_rf (some v0)), (1, .int (v1))] := by simp [lv_args, cat_rf, cat_i, cat_l]
  rw [e2]
  refine V_sub (lv' := [(0, va_rf (some v0)), (1, .int (v1))]) [0, 1] rfl ?_
  exact vb_Model_changed_0 hc hq v0 v1 h hw
/-! Model.feeds(I)V -/
abbrev rm_Model_feeds : Room := { frames := 0, cells := 0, slots := 0, locals := 0 }
def wq_Model_feeds_3 (X3 : Nat → Int32 → Int32 → mm_M → Prop) (ge : Nat → Nat) (v0 : Nat) (v1 : Int32) (v2 : Int32) (h : mm_M) (Z : mm_M → Prop) : Prop :=
  (((v2) < 0 → Z h) ∧ (¬ (v2) < 0 → mm_k h (v0) = kd_Model ∧ ∃ a2, mm_P h v0 14 = some a2 ∧ mm_k h (a2) = ka_I ∧ vp_in (mm_I h v0 16) (mm_n h a2) ∧ ge 0 ≤ a2 ∧ ∀ h7 : mm_M, h7 = mm_uI h a2 (Int32.toNatClampNeg (mm_I h v0 16)) (((v1) >>> ((v2) &&& 31)) &&& (255 : Int32)) → mm_k h7 (v0) = kd_Model ∧ ge 0 ≤ v0 ∧ ∀ h10 : mm_M, h10 = mm_uI h7 (v0) 16 ((mm_I h7 v0 16) + (1 : Int32)) → X3 (v0) (v1) (v2 + (-8)) h10))
def lp_Model_feeds_3  (ge : Nat → Nat) (v0 : Nat) (v1 : Int32) (v2 : Int32) (h : mm_M) (Z : mm_M → Prop) : Prop :=
  ∀ X3 : Nat → Int32 → Int32 → mm_M → Prop, (∀ (v0 : Nat) (v1 : Int32) (v2 : Int32) (h : mm_M), wq_Model_feeds_3 X3 ge v0 v1 v2 h Z → X3 v0 v1 v2 h) → X3 v0 v1 v2 h
def wq_Model_feeds_0  (ge : Nat → Nat) (v0 : Nat) (v1 : Int32) (h : mm_M) (Z : mm_M → Prop) : Prop :=
  lp_Model_feeds_3  ge (v0) (v1) (24) h Z
set_option maxRecDepth 100000 in
set_option maxHeartbeats 4000000 in
theorem vb_Model_feeds_3 {E : mm_E} {Z : mm_M → Prop} (hc : cx E "EpochServerModel" c_Model_feeds 3 none rm_Model_feeds) (hq : cq E rm_Model_feeds (pV Z)) (X3 : Nat → Int32 → Int32 → mm_M → Prop) (hX3 : ∀ (v0 : Nat) (v1 : Int32) (v2 : Int32) (h : mm_M), X3 v0 v1 v2 h → V E 3 0 0 h 3 [(0, va_rf (some v0)), (1, .int (v1)), (2, .int (v2))] []) (v0 : Nat) (v1 : Int32) (v2 : Int32) (h : mm_M) (hw : wq_Model_feeds_3 X3 (mm_ge (eG E)) v0 v1 v2 h Z) : V E 3 0 0 h 3 [(0, va_rf (some v0)), (1, .int (v1)), (2, .int (v2))] [] := by
  unfold wq_Model_feeds_3 at hw
  refine V_iload_n hc 2 d_Model_feeds_3 rfl rfl ?_
  refine V_if_lt (tgt := 39) hc d_Model_feeds_4 (by decide) (fun hq1 => ?_) (fun hq1 => ?_)
  · replace hw := hw.1 hq1
    exact V_vret hc hq ⟨rfl, hw⟩ (by decide) (by decide) d_Model_feeds_39
  · replace hw := hw.2 hq1
    refine V_aload_n hc 0 d_Model_feeds_7 rfl rfl ?_
    obtain ⟨q1, hw⟩ := hw
    refine V_get (v := va_rf (mm_P h v0 14)) hc gf_Model_44 rfl q1 rfl d_Model_feeds_8 ?_
    refine V_aload_n hc 0 d_Model_feeds_11 rfl rfl ?_
    refine V_get (v := .int (mm_I h v0 16)) hc gf_Model_103 rfl q1 rfl d_Model_feeds_12 ?_
    refine V_iload_n hc 1 d_Model_feeds_15 rfl rfl ?_
    refine V_iload_n hc 2 d_Model_feeds_16 rfl rfl ?_
    refine V_ishr hc d_Model_feeds_17 ?_
    refine V_sipush (v := 255) hc d_Model_feeds_18 (by decide) ?_
    refine V_iand hc d_Model_feeds_21 ?_
    obtain ⟨a2, q3, hw⟩ := hw
    obtain ⟨q4, hw⟩ := hw
    obtain ⟨q5, hw⟩ := hw
    obtain ⟨q6, hw⟩ := hw
    obtain ⟨h7, eq_h7⟩ : ∃ x, x = mm_uI h a2 (Int32.toNatClampNeg (mm_I h v0 16)) (((v1) >>> ((v2) &&& 31)) &&& (255 : Int32)) := ⟨_, rfl⟩
    replace hw := hw _ eq_h7
    refine V_iast hc q3 q4 q5 q6 d_Model_feeds_22 ?_
    rw [← eq_h7]
    refine V_aload_n hc 0 d_Model_feeds_23 rfl rfl ?_
    refine V_dup hc d_Model_feeds_24 (cat_rf _) ?_
    obtain ⟨q8, hw⟩ := hw
    refine V_get (v := .int (mm_I h7 v0 16)) hc gf_Model_103 rfl q8 rfl d_Model_feeds_25 ?_
    refine V_iconst (v := 1) hc d_Model_feeds_28 (by decide) ?_
    refine V_iadd hc d_Model_feeds_29 ?_
    obtain ⟨q9, hw⟩ := hw
    obtain ⟨h10, eq_h10⟩ : ∃ x, x = mm_uI h7 (v0) 16 ((mm_I h7 v0 16) + (1 : Int32)) := ⟨_, rfl⟩
    replace hw := hw _ eq_h10
    refine V_put (h' := h10) hc gf_Model_103 rfl rfl q8 q9 (by rw [eq_h10]; exact mm_Up_I _ _ _ _) (by rw [eq_h10]; exact up_vI rfl) (vp_nar_int _) rfl d_Model_feeds_30 ?_
    refine V_iinc (v := v2 + (-8)) (lv' := [(2, .int (v2 + (-8))), (0, va_rf (some v0)), (1, .int (v1))]) hc 2 d_Model_feeds_33 rfl rfl (by decide) rfl ?_
    refine V_goto (tgt := 3) hc d_Model_feeds_36 (by decide) ?_
    refine V_sub (lv' := [(0, va_rf (some v0)), (1, .int (v1)), (2, .int (v2 + (-8)))]) [1, 2, 0] rfl ?_
    exact hX3 _ _ _ _ hw
theorem vl_Model_feeds_3 {E : mm_E} {Z : mm_M → Prop} (hc : cx E "EpochServerModel" c_Model_feeds 3 none rm_Model_feeds) (hq : cq E rm_Model_feeds (pV Z))  (v0 : Nat) (v1 : Int32) (v2 : Int32) (h : mm_M) (hw : lp_Model_feeds_3  (mm_ge (eG E)) v0 v1 v2 h Z) : V E 3 0 0 h 3 [(0, va_rf (some v0)), (1, .int (v1)), (2, .int (v2))] [] :=
  hw (fun v0 v1 v2 h => V E 3 0 0 h 3 [(0, va_rf (some v0)), (1, .int (v1)), (2, .int (v2))] []) (fun v0 v1 v2 h hb => vb_Model_feeds_3 hc hq  _ (fun _ _ _ _ q => q) v0 v1 v2 h hb)
set_option maxRecDepth 100000 in
set_option maxHeartbeats 4000000 in
theorem vb_Model_feeds_0 {E : mm_E} {Z : mm_M → Prop} (hc : cx E "EpochServerModel" c_Model_feeds 3 none rm_Model_feeds) (hq : cq E rm_Model_feeds (pV Z))  (v0 : Nat) (v1 : Int32) (h : mm_M) (hw : wq_Model_feeds_0  (mm_ge (eG E)) v0 v1 h Z) : V E 3 0 0 h 0 [(0, va_rf (some v0)), (1, .int (v1))] [] := by
  unfold wq_Model_feeds_0 at hw
  refine V_bipush (v := 24) hc d_Model_feeds_0 (by decide) ?_
  refine V_istore_n (i := 2) (lv' := [(2, .int (24)), (0, va_rf (some v0)), (1, .int (v1))]) hc d_Model_feeds_2 rfl (by decide) rfl ?_
  refine V_sub (lv' := [(0, va_rf (some v0)), (1, .int (v1)), (2, .int (24))]) [1, 2, 0] rfl ?_
  exact vl_Model_feeds_3 hc hq  _ _ _ _ hw
def wq_Model_feeds (ge : Nat → Nat) (v0 : Nat) (v1 : Int32) (h : mm_M) (Z : mm_M → Prop) : Prop := wq_Model_feeds_0 ge v0 v1 h Z
theorem sat_Model_feeds (G : mm_G) (v0 : Nat) (v1 : Int32) (h : mm_M) (Z : mm_M → Prop) (hw : wq_Model_feeds (mm_ge G) v0 v1 h Z) : mm_Met G y_Model_feeds c_Model_feeds 3 none rm_Model_feeds [va_rf (some v0), .int (v1)] h (pV Z) := by
  refine mm_intro (own := "EpochServerModel") (by decide) rfl (by simp [lg_sl, cat_rf, cat_i, cat_l]) (fun E e1 hc hq hi => ?_)
  subst e1
  have e2 : lv_args 0 [va_rf (some v0), .int (v1)] = [(0, va_rf (some v0)), (1, .int (v1))] := by simp [lv_args, cat_rf, cat_i, cat_l]
  rw [e2]
  refine V_sub (lv' := [(0, va_rf (some v0)), (1, .int (v1))]) [0, 1] rfl ?_
  exact vb_Model_feeds_0 hc hq v0 v1 h hw
/-! Model.feed(IIIII)I -/
abbrev rm_Model_feed : Room := { frames := 1, cells := 0, slots := 0, locals := 22 }
def wq_Model_feed_0  (ge : Nat → Nat) (v0 : Nat) (v1 : Int32) (v2 : Int32) (v3 : Int32) (v4 : Int32) (v5 : Int32) (h : mm_M) (Z : Int32 → mm_M → Prop) : Prop :=
  mm_k h (v0) = kd_Model ∧ ((((mm_I h v0 16) + (20 : Int32) : Int32) ≤ (1400 : Int32) → wq_Model_feeds ge (v0) (v1) h (fun h2 : mm_M => mm_k h2 (v0) = kd_Model ∧ wq_Model_feeds ge (v0) (v2) h2 (fun h5 : mm_M => mm_k h5 (v0) = kd_Model ∧ wq_Model_feeds ge (v0) (v3) h5 (fun h8 : mm_M => mm_k h8 (v0) = kd_Model ∧ wq_Model_feeds ge (v0) (v4) h8 (fun h11 : mm_M => mm_k h11 (v0) = kd_Model ∧ wq_Model_feeds ge (v0) (v5) h11 (fun h14 : mm_M => mm_k h14 (v0) = kd_Model ∧ Z (mm_I h14 v0 16) h14)))))) ∧ (¬ ((mm_I h v0 16) + (20 : Int32) : Int32) ≤ (1400 : Int32) → Z ((-1)) h))
set_option maxRecDepth 100000 in
set_option maxHeartbeats 4000000 in
theorem vb_Model_feed_0 {E : mm_E} {Z : Int32 → mm_M → Prop} (hc : cx E "EpochServerModel" c_Model_feed 6 (some (.int)) rm_Model_feed) (hq : cq E rm_Model_feed (pI Z))  (v0 : Nat) (v1 : Int32) (v2 : Int32) (v3 : Int32) (v4 : Int32) (v5 : Int32) (h : mm_M) (hw : wq_Model_feed_0  (mm_ge (eG E)) v0 v1 v2 v3 v4 v5 h Z) : V E 6 0 0 h 0 [(0, va_rf (some v0)), (1, .int (v1)), (2, .int (v2)), (3, .int (v3)), (4, .int (v4)), (5, .int (v5))] [] := by
  unfold wq_Model_feed_0 at hw
  refine V_aload_n hc 0 d_Model_feed_0 rfl rfl ?_
  obtain ⟨q1, hw⟩ := hw
  refine V_get (v := .int (mm_I h v0 16)) hc gf_Model_103 rfl q1 rfl d_Model_feed_1 ?_
  refine V_bipush (v := 20) hc d_Model_feed_4 (by decide) ?_
  refine V_iadd hc d_Model_feed_6 ?_
  refine V_sipush (v := 1400) hc d_Model_feed_7 (by decide) ?_
  refine V_icmp_le (tgt := 15) hc d_Model_feed_10 (by decide) (fun hq1 => ?_) (fun hq1 => ?_)
  · replace hw := hw.1 hq1
    refine V_aload_n hc 0 d_Model_feed_15 rfl rfl ?_
    refine V_iload_n hc 1 d_Model_feed_16 rfl rfl ?_
    refine V_callV (rm' := rm_Model_feeds) (As := [.int (v1)]) (rest := []) (n := 1) (cn := 0) hc rfl q1 (sat_Model_feeds (eG E) _ _ _ _ hw) rfl cv_Model_106 (gw_of (tw_5 (List.mem_of_getElem? (i := 158) rfl)) rfl) ss_Model_feeds rfl ⟨by decide, by decide⟩ (by decide) (by decide) rfl (by simp [cat_rf, cat_i, cat_l]) d_Model_feed_17 (fun r0 h2 hw => ?_)
    obtain ⟨rfl, hw⟩ := hw
    refine V_wide (cs' := 0) (sl' := 0) (by decide) (by decide) ?_
    refine V_st (st' := []) rfl ?_
    refine V_aload_n hc 0 d_Model_feed_20 rfl rfl ?_
    refine V_iload_n hc 2 d_Model_feed_21 rfl rfl ?_
    obtain ⟨q4, hw⟩ := hw
    refine V_callV (rm' := rm_Model_feeds) (As := [.int (v2)]) (rest := []) (n := 1) (cn := 0) hc rfl q4 (sat_Model_feeds (eG E) _ _ _ _ hw) rfl cv_Model_106 (gw_of (tw_5 (List.mem_of_getElem? (i := 158) rfl)) rfl) ss_Model_feeds rfl ⟨by decide, by decide⟩ (by decide) (by decide) rfl (by simp [cat_rf, cat_i, cat_l]) d_Model_feed_22 (fun r0 h5 hw => ?_)
    obtain ⟨rfl, hw⟩ := hw
    refine V_wide (cs' := 0) (sl' := 0) (by decide) (by decide) ?_
    refine V_st (st' := []) rfl ?_
    refine V_aload_n hc 0 d_Model_feed_25 rfl rfl ?_
    refine V_iload_n hc 3 d_Model_feed_26 rfl rfl ?_
    obtain ⟨q7, hw⟩ := hw
    refine V_callV (rm' := rm_Model_feeds) (As := [.int (v3)]) (rest := []) (n := 1) (cn := 0) hc rfl q7 (sat_Model_feeds (eG E) _ _ _ _ hw) rfl cv_Model_106 (gw_of (tw_5 (List.mem_of_getElem? (i := 158) rfl)) rfl) ss_Model_feeds rfl ⟨by decide, by decide⟩ (by decide) (by decide) rfl (by simp [cat_rf, cat_i, cat_l]) d_Model_feed_27 (fun r0 h8 hw => ?_)
    obtain ⟨rfl, hw⟩ := hw
    refine V_wide (cs' := 0) (sl' := 0) (by decide) (by decide) ?_
    refine V_st (st' := []) rfl ?_
    refine V_aload_n hc 0 d_Model_feed_30 rfl rfl ?_
    refine V_iload hc 4 d_Model_feed_31 rfl ?_
    obtain ⟨q10, hw⟩ := hw
    refine V_callV (rm' := rm_Model_feeds) (As := [.int (v4)]) (rest := []) (n := 1) (cn := 0) hc rfl q10 (sat_Model_feeds (eG E) _ _ _ _ hw) rfl cv_Model_106 (gw_of (tw_5 (List.mem_of_getElem? (i := 158) rfl)) rfl) ss_Model_feeds rfl ⟨by decide, by decide⟩ (by decide) (by decide) rfl (by simp [cat_rf, cat_i, cat_l]) d_Model_feed_33 (fun r0 h11 hw => ?_)
    obtain ⟨rfl, hw⟩ := hw
    refine V_wide (cs' := 0) (sl' := 0) (by decide) (by decide) ?_
    refine V_st (st' := []) rfl ?_
    refine V_aload_n hc 0 d_Model_feed_36 rfl rfl ?_
    refine V_iload hc 5 d_Model_feed_37 rfl ?_
    obtain ⟨q13, hw⟩ := hw
    refine V_callV (rm' := rm_Model_feeds) (As := [.int (v5)]) (rest := []) (n := 1) (cn := 0) hc rfl q13 (sat_Model_feeds (eG E) _ _ _ _ hw) rfl cv_Model_106 (gw_of (tw_5 (List.mem_of_getElem? (i := 158) rfl)) rfl) ss_Model_feeds rfl ⟨by decide, by decide⟩ (by decide) (by decide) rfl (by simp [cat_rf, cat_i, cat_l]) d_Model_feed_39 (fun r0 h14 hw => ?_)
    obtain ⟨rfl, hw⟩ := hw
    refine V_wide (cs' := 0) (sl' := 0) (by decide) (by decide) ?_
    refine V_st (st' := []) rfl ?_
    refine V_aload_n hc 0 d_Model_feed_42 rfl rfl ?_
    obtain ⟨q16, hw⟩ := hw
    refine V_get (v := .int (mm_I h14 v0 16)) hc gf_Model_103 rfl q16 rfl d_Model_feed_43 ?_
    exact V_iret hc hq ⟨_, rfl, hw⟩ (by decide) (by decide) d_Model_feed_46
  · replace hw := hw.2 hq1
    refine V_iconst (v := (-1)) hc d_Model_feed_13 (by decide) ?_
    exact V_iret hc hq ⟨_, rfl, hw⟩ (by decide) (by decide) d_Model_feed_14
def wq_Model_feed (ge : Nat → Nat) (v0 : Nat) (v1 : Int32) (v2 : Int32) (v3 : Int32) (v4 : Int32) (v5 : Int32) (h : mm_M) (Z : Int32 → mm_M → Prop) : Prop := wq_Model_feed_0 ge v0 v1 v2 v3 v4 v5 h Z
theorem sat_Model_feed (G : mm_G) (v0 : Nat) (v1 : Int32) (v2 : Int32) (v3 : Int32) (v4 : Int32) (v5 : Int32) (h : mm_M) (Z : Int32 → mm_M → Prop) (hw : wq_Model_feed (mm_ge G) v0 v1 v2 v3 v4 v5 h Z) : mm_Met G y_Model_feed c_Model_feed 6 (some (.int)) rm_Model_feed [va_rf (some v0), .int (v1), .int (v2), .int (v3), .int (v4), .int (v5)] h (pI Z) := by
  refine mm_intro (own := "EpochServerModel") (by decide) rfl (by simp [lg_sl, cat_rf, cat_i, cat_l]) (fun E e1 hc hq hi => ?_)
  subst e1
  have e2 : lv_args 0 [va_rf (some v0), .int (v1), .int (v2), .int (v3), .int (v4), .int (v5)] = [(0, va_rf (some v0)), (1, .int (v1)), (2, .int (v2)), (3, .int (v3)), (4, .int (v4)), (5, .int (v5))] := by simp [lv_args, cat_rf, cat_i, cat_l]
  rw [e2]
  refine V_sub (lv' := [(0, va_rf (some v0)), (1, .int (v1)), (2, .int (v2)), (3, .int (v3)), (4, .int (v4)), (5, .int (v5))]) [0, 1, 2, 3, 4, 5] rfl ?_
  exact vb_Model_feed_0 hc hq v0 v1 v2 v3 v4 v5 h hw
/-! Model.bend(II)I -/
abbrev rm_Model_bend : Room := { frames := 1, cells := 0, slots := 0, locals := 21 }
def wq_Model_bend_0  (ge : Nat → Nat) (v0 : Nat) (v1 : Int32) (v2 : Int32) (h : mm_M) (Z : Int32 → mm_M → Prop) : Prop :=
  mm_k h (v0) = kd_Model ∧ wq_Model_isIn ge (v1) (mm_I h v0 16) h (fun (r3 : Int32) (h2 : mm_M) => ((¬ (r3) = 0 → mm_k h2 (v0) = kd_Model ∧ ∃ a5, mm_P h2 v0 14 = some a5 ∧ mm_k h2 (a5) = ka_I ∧ vp_in (v1) (mm_n h2 a5) ∧ vp_in (v1) (mm_n h2 a5) ∧ ge 0 ≤ a5 ∧ ∀ h11 : mm_M, h11 = mm_uI h2 a5 (Int32.toNatClampNeg (v1)) ((v2) &&& (255 : Int32)) → Z (mm_I h2 a5 (Int32.toNatClampNeg (v1))) h11) ∧ ((r3) = 0 → Z ((-1)) h2)))
set_option maxRecDepth 100000 in
set_option maxHeartbeats 4000000 in
theorem vb_Model_bend_0 {E : mm_E} {Z : Int32 → mm_M → Prop} (hc : cx E "EpochServerModel" c_Model_bend 4 (some (.int)) rm_Model_bend) (hq : cq E rm_Model_bend (pI Z))  (v0 : Nat) (v1 : Int32) (v2 : Int32) (h : mm_M) (hw : wq_Model_bend_0  (mm_ge (eG E)) v0 v1 v2 h Z) : V E 4 0 0 h 0 [(0, va_rf (some v0)), (1, .int (v1)), (2, .int (v2))] [] := by
  unfold wq_Model_bend_0 at hw
  refine V_iload_n hc 1 d_Model_bend_0 rfl rfl ?_
  refine V_aload_n hc 0 d_Model_bend_1 rfl rfl ?_
  obtain ⟨q1, hw⟩ := hw
  refine V_get (v := .int (mm_I h v0 16)) hc gf_Model_103 rfl q1 rfl d_Model_bend_2 ?_
  refine V_callS (rm' := rm_Model_isIn) (As := [.int (v1), .int (mm_I h v0 16)]) (rest := []) (n := 2) hc (sat_Model_isIn (eG E) _ _ _ _ hw) cv_Model_110 (gw_of (tw_5 (List.mem_of_getElem? (i := 165) rfl)) rfl) rfl ⟨by decide, by decide⟩ (by decide) (by decide) rfl (by simp [cat_rf, cat_i, cat_l]) d_Model_bend_5 (fun r0 h2 hw => ?_)
  obtain ⟨r3, rfl, hw⟩ := hw
  refine V_wide (cs' := 0) (sl' := 0) (by decide) (by decide) ?_
  refine V_st (st' := [.int (r3)]) rfl ?_
  refine V_if_ne (tgt := 13) hc d_Model_bend_8 (by decide) (fun hq1 => ?_) (fun hq1 => ?_)
  · replace hw := hw.1 hq1
    refine V_aload_n hc 0 d_Model_bend_13 rfl rfl ?_
    obtain ⟨q4, hw⟩ := hw
    refine V_get (v := va_rf (mm_P h2 v0 14)) hc gf_Model_44 rfl q4 rfl d_Model_bend_14 ?_
    refine V_iload_n hc 1 d_Model_bend_17 rfl rfl ?_
    obtain ⟨a5, q6, hw⟩ := hw
    obtain ⟨q7, hw⟩ := hw
    obtain ⟨q8, hw⟩ := hw
    refine V_iald hc q6 q7 q8 d_Model_bend_18 ?_
    refine V_istore_n (i := 3) (lv' := [(3, .int (mm_I h2 a5 (Int32.toNatClampNeg (v1)))), (0, va_rf (some v0)), (1, .int (v1)), (2, .int (v2))]) hc d_Model_bend_19 rfl (by decide) rfl ?_
    refine V_aload_n hc 1 d_Model_bend_20 rfl rfl ?_
    refine V_get (v := va_rf (mm_P h2 v0 14)) hc gf_Model_44 rfl q4 rfl d_Model_bend_21 ?_
    refine V_iload_n hc 2 d_Model_bend_24 rfl rfl ?_
    refine V_iload_n hc 3 d_Model_bend_25 rfl rfl ?_
    refine V_sipush (v := 255) hc d_Model_bend_26 (by decide) ?_
    refine V_iand hc d_Model_bend_29 ?_
    obtain ⟨q9, hw⟩ := hw
    obtain ⟨q10, hw⟩ := hw
    obtain ⟨h11, eq_h11⟩ : ∃ x, x = mm_uI h2 a5 (Int32.toNatClampNeg (v1)) ((v2) &&& (255 : Int32)) := ⟨_, rfl⟩
    replace hw := hw _ eq_h11
    refine V_iast hc q6 q7 q9 q10 d_Model_bend_30 ?_
    rw [← eq_h11]
    refine V_iload_n hc 0 d_Model_bend_31 rfl rfl ?_
    exact V_iret hc hq ⟨_, rfl, hw⟩ (by decide) (by decide) d_Model_bend_32
  · replace hw := hw.2 hq1
    refine V_iconst (v := (-1)) hc d_Model_bend_11 (by decide) ?_
    exact V_iret hc hq ⟨_, rfl, hw⟩ (by decide) (by decide) d_Model_bend_12
def wq_Model_bend (ge : Nat → Nat) (v0 : Nat) (v1 : Int32) (v2 : Int32) (h : mm_M) (Z : Int32 → mm_M → Prop) : Prop := wq_Model_bend_0 ge v0 v1 v2 h Z
theorem sat_Model_bend (G : mm_G) (v0 : Nat) (v1 : Int32) (v2 : Int32) (h : mm_M) (Z : Int32 → mm_M → Prop) (hw : wq_Model_bend (mm_ge G) v0 v1 v2 h Z) : mm_Met G y_Model_bend c_Model_bend 4 (some (.int)) rm_Model_bend [va_rf (some v0), .int (v1), .int (v2)] h (pI Z) := by
  refine mm_intro (own := "EpochServerModel") (by decide) rfl (by simp [lg_sl, cat_rf, cat_i, cat_l]) (fun E e1 hc hq hi => ?_)
  subst e1
  have e2 : lv_args 0 [va_rf (some v0), .int (v1), .int (v2)] = [(0, va_rf (some v0)), (1, .int (v1)), (2, .int (v2))] := by simp [lv_args, cat_rf, cat_i, cat_l]
  rw [e2]
  refine V_sub (lv' := [(0, va_rf (some v0)), (1, .int (v1)), (2, .int (v2))]) [0, 1, 2] rfl ?_
  exact vb_Model_bend_0 hc hq v0 v1 v2 h hw
/-! Model.number(I)J -/
abbrev rm_Model_number : Room := { frames := 0, cells := 0, slots := 0, locals := 0 }
def wq_Model_number_27 (X27 : Nat → Int32 → Int64 → Int32 → mm_M → Prop) (ge : Nat → Nat) (v0 : Nat) (v1 : Int32) (v2 : Int64) (v4 : Int32) (h : mm_M) (Z : Int64 → mm_M → Prop) : Prop :=
  (((v4) < 0 → mm_k h (v0) = kd_Model ∧ ge 0 ≤ v0 ∧ ∀ h3 : mm_M, h3 = mm_uI h (v0) 28 ((mm_I h v0 28) + (v1)) → Z (v2) h3) ∧ (¬ (v4) < 0 → mm_k h (v0) = kd_Model ∧ ∃ a5, mm_P h v0 14 = some a5 ∧ mm_k h (a5) = ka_I ∧ vp_in ((mm_I h v0 28) + (v4)) (mm_n h a5) ∧ X27 (v0) (v1) (((v2) <<< ((8 : Int32).toInt64 &&& 63)) ||| (Int32.toInt64 (mm_I h a5 (Int32.toNatClampNeg ((mm_I h v0 28) + (v4)))))) (v4 + (-1)) h))
def lp_Model_number_27  (ge : Nat → Nat) (v0 : Nat) (v1 : Int32) (v2 : Int64) (v4 : Int32) (h : mm_M) (Z : Int64 → mm_M → Prop) : Prop :=
  ∀ X27 : Nat → Int32 → Int64 → Int32 → mm_M → Prop, (∀ (v0 : Nat) (v1 : Int32) (v2 : Int64) (v4 : Int32) (h : mm_M), wq_Model_number_27 X27 ge v0 v1 v2 v4 h Z → X27 v0 v1 v2 v4 h) → X27 v0 v1 v2 v4 h
def wq_Model_number_0  (ge : Nat → Nat) (v0 : Nat) (v1 : Int32) (h : mm_M) (Z : Int64 → mm_M → Prop) : Prop :=
  mm_k h (v0) = kd_Model ∧ ((((mm_I h v0 28) + (v1) : Int32) ≤ (mm_I h v0 29 : Int32) → lp_Model_number_27  ge (v0) (v1) (0) ((v1) - (1 : Int32)) h Z) ∧ (¬ ((mm_I h v0 28) + (v1) : Int32) ≤ (mm_I h v0 29 : Int32) → ge 0 ≤ v0 ∧ ∀ h3 : mm_M, h3 = mm_uI h (v0) 30 (0) → Z (0) h3))
set_option maxRecDepth 100000 in
set_option maxHeartbeats 4000000 in
theorem vb_Model_number_27 {E : mm_E} {Z : Int64 → mm_M → Prop} (hc : cx E "EpochServerModel" c_Model_number 5 (some (.long)) rm_Model_number) (hq : cq E rm_Model_number (pL Z)) (X27 : Nat → Int32 → Int64 → Int32 → mm_M → Prop) (hX27 : ∀ (v0 : Nat) (v1 : Int32) (v2 : Int64) (v4 : Int32) (h : mm_M), X27 v0 v1 v2 v4 h → V E 5 0 0 h 27 [(0, va_rf (some v0)), (1, .int (v1)), (2, .long (v2)), (4, .int (v4))] []) (v0 : Nat) (v1 : Int32) (v2 : Int64) (v4 : Int32) (h : mm_M) (hw : wq_Model_number_27 X27 (mm_ge (eG E)) v0 v1 v2 v4 h Z) : V E 5 0 0 h 27 [(0, va_rf (some v0)), (1, .int (v1)), (2, .long (v2)), (4, .int (v4))] [] := by
  unfold wq_Model_number_27 at hw
  refine V_iload hc 3 d_Model_number_27 rfl ?_
  refine V_if_lt (tgt := 57) hc d_Model_number_29 (by decide) (fun hq1 => ?_) (fun hq1 => ?_)
  · replace hw := hw.1 hq1
    refine V_aload_n hc 0 d_Model_number_57 rfl rfl ?_
    refine V_dup hc d_Model_number_58 (cat_rf _) ?_
    obtain ⟨q1, hw⟩ := hw
    refine V_get (v := .int (mm_I h v0 28)) hc gf_Model_114 rfl q1 rfl d_Model_number_59 ?_
    refine V_iload_n hc 1 d_Model_number_62 rfl rfl ?_
    refine V_iadd hc d_Model_number_63 ?_
    obtain ⟨q2, hw⟩ := hw
    obtain ⟨h3, eq_h3⟩ : ∃ x, x = mm_uI h (v0) 28 ((mm_I h v0 28) + (v1)) := ⟨_, rfl⟩
    replace hw := hw _ eq_h3
    refine V_put (h' := h3) hc gf_Model_114 rfl rfl q1 q2 (by rw [eq_h3]; exact mm_Up_I _ _ _ _) (by rw [eq_h3]; exact up_vI rfl) (vp_nar_int _) rfl d_Model_number_64 ?_
    refine V_lload_n hc 2 d_Model_number_67 rfl rfl ?_
    exact V_lret hc hq ⟨_, rfl, hw⟩ (by decide) (by decide) d_Model_number_68
  · replace hw := hw.2 hq1
    refine V_lload_n hc 2 d_Model_number_32 rfl rfl ?_
    refine V_bipush (v := 8) hc d_Model_number_33 (by decide) ?_
    refine V_lshl hc d_Model_number_35 ?_
    refine V_aload_n hc 0 d_Model_number_36 rfl rfl ?_
    obtain ⟨q4, hw⟩ := hw
    refine V_get (v := va_rf (mm_P h v0 14)) hc gf_Model_44 rfl q4 rfl d_Model_number_37 ?_
    refine V_aload_n hc 0 d_Model_number_40 rfl rfl ?_
    refine V_get (v := .int (mm_I h v0 28)) hc gf_Model_114 rfl q4 rfl d_Model_number_41 ?_
    refine V_iload hc 3 d_Model_number_44 rfl ?_
    refine V_iadd hc d_Model_number_46 ?_
    obtain ⟨a5, q6, hw⟩ := hw
    obtain ⟨q7, hw⟩ := hw
    obtain ⟨q8, hw⟩ := hw
    refine V_iald hc q6 q7 q8 d_Model_number_47 ?_
    refine V_i2l hc d_Model_number_48 ?_
    refine V_lor hc d_Model_number_49 ?_
    refine V_lstore_n (i := 2) (lv' := [(2, .long (((v2) <<< ((8 : Int32).toInt64 &&& 63)) ||| (Int32.toInt64 (mm_I h a5 (Int32.toNatClampNeg ((mm_I h v0 28) + (v4))))))), (0, va_rf (some v0)), (1, .int (v1)), (4, .int (v4))]) hc d_Model_number_50 rfl (by decide) rfl ?_
    refine V_iinc (v := v4 + (-1)) (lv' := [(4, .int (v4 + (-1))), (2, .long (((v2) <<< ((8 : Int32).toInt64 &&& 63)) ||| (Int32.toInt64 (mm_I h a5 (Int32.toNatClampNeg ((mm_I h v0 28) + (v4))))))), (0, va_rf (some v0)), (1, .int (v1))]) hc 3 d_Model_number_51 rfl rfl (by decide) rfl ?_
    refine V_goto (tgt := 27) hc d_Model_number_54 (by decide) ?_
    refine V_sub (lv' := [(0, va_rf (some v0)), (1, .int (v1)), (2, .long (((v2) <<< ((8 : Int32).toInt64 &&& 63)) ||| (Int32.toInt64 (mm_I h a5 (Int32.toNatClampNeg ((mm_I h v0 28) + (v4))))))), (4, .int (v4 + (-1)))]) [2, 3, 1, 0] rfl ?_
    exact hX27 _ _ _ _ _ hw
theorem vl_Model_number_27 {E : mm_E} {Z : Int64 → mm_M → Prop} (hc : cx E "EpochServerModel" c_Model_number 5 (some (.long)) rm_Model_number) (hq : cq E rm_Model_number (pL Z))  (v0 : Nat) (v1 : Int32) (v2 : Int64) (v4 : Int32) (h : mm_M) (hw : lp_Model_number_27  (mm_ge (eG E)) v0 v1 v2 v4 h Z) : V E 5 0 0 h 27 [(0, va_rf (some v0)), (1, .int (v1)), (2, .long (v2)), (4, .int (v4))] [] :=
  hw (fun v0 v1 v2 v4 h => V E 5 0 0 h 27 [(0, va_rf (some v0)), (1, .int (v1)), (2, .long (v2)), (4, .int (v4))] []) (fun v0 v1 v2 v4 h hb => vb_Model_number_27 hc hq  _ (fun _ _ _ _ _ q => q) v0 v1 v2 v4 h hb)
set_option maxRecDepth 100000 in
set_option maxHeartbeats 4000000 in
theorem vb_Model_number_0 {E : mm_E} {Z : Int64 → mm_M → Prop} (hc : cx E "EpochServerModel" c_Model_number 5 (some (.long)) rm_Model_number) (hq : cq E rm_Model_number (pL Z))  (v0 : Nat) (v1 : Int32) (h : mm_M) (hw : wq_Model_number_0  (mm_ge (eG E)) v0 v1 h Z) : V E 5 0 0 h 0 [(0, va_rf (some v0)), (1, .int (v1))] [] := by
  unfold wq_Model_number_0 at hw
  refine V_aload_n hc 0 d_Model_number_0 rfl rfl ?_
  obtain ⟨q1, hw⟩ := hw
  refine V_get (v := .int (mm_I h v0 28)) hc gf_Model_114 rfl q1 rfl d_Model_number_1 ?_
  refine V_iload_n hc 1 d_Model_number_4 rfl rfl ?_
  refine V_iadd hc d_Model_number_5 ?_
  refine V_aload_n hc 0 d_Model_number_6 rfl rfl ?_
  refine V_get (v := .int (mm_I h v0 29)) hc gf_Model_117 rfl q1 rfl d_Model_number_7 ?_
  refine V_icmp_le (tgt := 20) hc d_Model_number_10 (by decide) (fun hq1 => ?_) (fun hq1 => ?_)
  · replace hw := hw.1 hq1
    refine V_lconst (v := 0) hc d_Model_number_20 (by decide) ?_
    refine V_lstore_n (i := 2) (lv' := [(2, .long (0)), (0, va_rf (some v0)), (1, .int (v1))]) hc d_Model_number_21 rfl (by decide) rfl ?_
    refine V_iload_n hc 2 d_Model_number_22 rfl rfl ?_
    refine V_iconst (v := 1) hc d_Model_number_23 (by decide) ?_
    refine V_isub hc d_Model_number_24 ?_
    refine V_istore (i := 4) (lv' := [(4, .int ((v1) - (1 : Int32))), (2, .long (0)), (0, va_rf (some v0)), (1, .int (v1))]) hc d_Model_number_25 (by decide) rfl ?_
    refine V_sub (lv' := [(0, va_rf (some v0)), (1, .int (v1)), (2, .long (0)), (4, .int ((v1) - (1 : Int32)))]) [2, 3, 1, 0] rfl ?_
    exact vl_Model_number_27 hc hq  _ _ _ _ _ hw
  · replace hw := hw.2 hq1
    refine V_aload_n hc 0 d_Model_number_13 rfl rfl ?_
    refine V_iconst (v := 0) hc d_Model_number_14 (by decide) ?_
    obtain ⟨q2, hw⟩ := hw
    obtain ⟨h3, eq_h3⟩ : ∃ x, x = mm_uI h (v0) 30 (0) := ⟨_, rfl⟩
    replace hw := hw _ eq_h3
    refine V_put (h' := h3) hc gf_Model_120 rfl rfl q1 q2 (by rw [eq_h3]; exact mm_Up_I _ _ _ _) (by rw [eq_h3]; exact up_vI rfl) (by decide) (by decide) d_Model_number_15 ?_
    refine V_lconst (v := 0) hc d_Model_number_18 (by decide) ?_
    exact V_lret hc hq ⟨_, rfl, hw⟩ (by decide) (by decide) d_Model_number_19
def wq_Model_number (ge : Nat → Nat) (v0 : Nat) (v1 : Int32) (h : mm_M) (Z : Int64 → mm_M → Prop) : Prop := wq_Model_number_0 ge v0 v1 h Z
theorem sat_Model_number (G : mm_G) (v0 : Nat) (v1 : Int32) (h : mm_M) (Z : Int64 → mm_M → Prop) (hw : wq_Model_number (mm_ge G) v0 v1 h Z) : mm_Met G y_Model_number c_Model_number 5 (some (.long)) rm_Model_number [va_rf (some v0), .int (v1)] h (pL Z) := by
  refine mm_intro (own := "EpochServerModel") (by decide) rfl (by simp [lg_sl, cat_rf, cat_i, cat_l]) (fun E e1 hc hq hi => ?_)
  subst e1
  have e2 : lv_args 0 [va_rf (some v0), .int (v1)] = [(0, va_rf (some v0)), (1, .int (v1))] := by simp [lv_args, cat_rf, cat_i, cat_l]
  rw [e2]
  refine V_sub (lv' := [(0, va_rf (some v0)), (1, .int (v1))]) [0, 1] rfl ?_
  exact vb_Model_number_0 hc hq v0 v1 h hw
/-! Model.text()V -/
abbrev rm_Model_text : Room := { frames := 1, cells := 0, slots := 0, locals := 24 }
def wq_Model_text_59  (ge : Nat → Nat) (s0 : Option Nat) (s1 : Int32) (s2 : Int32) (h : mm_M) (Z : mm_M → Prop) : Prop :=
  ∃ a1, s0 = some a1 ∧ mm_k h (a1) = kd_Model ∧ ge 0 ≤ a1 ∧ ∀ h5 : mm_M, h5 = mm_uI h (a1) 28 ((s1) + (s2)) → Z h5
def wq_Model_text_39  (ge : Nat → Nat) (v0 : Nat) (h : mm_M) (Z : mm_M → Prop) : Prop :=
  mm_k h (v0) = kd_Model ∧ (((mm_I h v0 30) = 0 → wq_Model_text_59  ge (some v0) (mm_I h v0 28) (0) h Z) ∧ (¬ (mm_I h v0 30) = 0 → wq_Model_text_59  ge (some v0) (mm_I h v0 28) (mm_I h v0 32) h Z))
def wq_Model_text_0  (ge : Nat → Nat) (v0 : Nat) (h : mm_M) (Z : mm_M → Prop) : Prop :=
  mm_k h (v0) = kd_Model ∧ wq_Model_number ge (v0) (2) h (fun (r3 : Int64) (h2 : mm_M) => mm_k h2 (v0) = kd_Model ∧ ge 0 ≤ v0 ∧ ∀ h6 : mm_M, h6 = mm_uI h2 (v0) 32 (Int64.toInt32 (r3)) → mm_k h6 (v0) = kd_Model ∧ ge 0 ≤ v0 ∧ ∀ h9 : mm_M, h9 = mm_uI h6 (v0) 31 (mm_I h6 v0 28) → mm_k h9 (v0) = kd_Model ∧ (((mm_I h9 v0 32 : Int32) ≤ ((mm_I h9 v0 29) - (mm_I h9 v0 28) : Int32) → wq_Model_text_39  ge (v0) h9 Z) ∧ (¬ (mm_I h9 v0 32 : Int32) ≤ ((mm_I h9 v0 29) - (mm_I h9 v0 28) : Int32) → ge 0 ≤ v0 ∧ ∀ h12 : mm_M, h12 = mm_uI h9 (v0) 30 (0) → wq_Model_text_39  ge (v0) h12 Z)))
set_option maxRecDepth 100000 in
set_option maxHeartbeats 4000000 in
theorem vb_Model_text_59 {E : mm_E} {Z : mm_M → Prop} (hc : cx E "EpochServerModel" c_Model_text 1 none rm_Model_text) (hq : cq E rm_Model_text (pV Z))  (s0 : Option Nat) (s1 : Int32) (s2 : Int32) (h : mm_M) (hw : wq_Model_text_59  (mm_ge (eG E)) s0 s1 s2 h Z) : V E 1 0 0 h 59 [] [.int (s2), .int (s1), va_rf (s0)] := by
  unfold wq_Model_text_59 at hw
  refine V_iadd hc d_Model_text_59 ?_
  obtain ⟨a1, q2, hw⟩ := hw
  obtain ⟨q3, hw⟩ := hw
  obtain ⟨q4, hw⟩ := hw
  obtain ⟨h5, eq_h5⟩ : ∃ x, x = mm_uI h (a1) 28 ((s1) + (s2)) := ⟨_, rfl⟩
  replace hw := hw _ eq_h5
  refine V_put (h' := h5) hc gf_Model_114 rfl q2 q3 q4 (by rw [eq_h5]; exact mm_Up_I _ _ _ _) (by rw [eq_h5]; exact up_vI rfl) (vp_nar_int _) rfl d_Model_text_60 ?_
  exact V_vret hc hq ⟨rfl, hw⟩ (by decide) (by decide) d_Model_text_63
set_option maxRecDepth 100000 in
set_option maxHeartbeats 4000000 in
theorem vb_Model_text_39 {E : mm_E} {Z : mm_M → Prop} (hc : cx E "EpochServerModel" c_Model_text 1 none rm_Model_text) (hq : cq E rm_Model_text (pV Z))  (v0 : Nat) (h : mm_M) (hw : wq_Model_text_39  (mm_ge (eG E)) v0 h Z) : V E 1 0 0 h 39 [(0, va_rf (some v0))] [] := by
  unfold wq_Model_text_39 at hw
  refine V_aload_n hc 0 d_Model_text_39 rfl rfl ?_
  refine V_dup hc d_Model_text_40 (cat_rf _) ?_
  obtain ⟨q1, hw⟩ := hw
  refine V_get (v := .int (mm_I h v0 28)) hc gf_Model_114 rfl q1 rfl d_Model_text_41 ?_
  refine V_aload_n hc 0 d_Model_text_44 rfl rfl ?_
  refine V_get (v := .int (mm_I h v0 30)) hc gf_Model_120 rfl q1 rfl d_Model_text_45 ?_
  refine V_if_eq (tgt := 58) hc d_Model_text_48 (by decide) (fun hq1 => ?_) (fun hq1 => ?_)
  · replace hw := hw.1 hq1
    refine V_iconst (v := 0) hc d_Model_text_58 (by decide) ?_
    refine V_sub (lv' := []) [] rfl ?_
    exact vb_Model_text_59 hc hq  _ _ _ _ hw
  · replace hw := hw.2 hq1
    refine V_aload_n hc 0 d_Model_text_51 rfl rfl ?_
    refine V_get (v := .int (mm_I h v0 32)) hc gf_Model_128 rfl q1 rfl d_Model_text_52 ?_
    refine V_goto (tgt := 59) hc d_Model_text_55 (by decide) ?_
    refine V_sub (lv' := []) [] rfl ?_
    exact vb_Model_text_59 hc hq  _ _ _ _ hw
set_option maxRecDepth 100000 in
set_option maxHeartbeats 4000000 in
theorem vb_Model_text_0 {E : mm_E} {Z : mm_M → Prop} (hc : cx E "EpochServerModel" c_Model_text 1 none rm_Model_text) (hq : cq E rm_Model_text (pV Z))  (v0 : Nat) (h : mm_M) (hw : wq_Model_text_0  (mm_ge (eG E)) v0 h Z) : V E 1 0 0 h 0 [(0, va_rf (some v0))] [] := by
  unfold wq_Model_text_0 at hw
  refine V_aload_n hc 0 d_Model_text_0 rfl rfl ?_
  refine V_aload_n hc 0 d_Model_text_1 rfl rfl ?_
  refine V_iconst (v := 2) hc d_Model_text_2 (by decide) ?_
  obtain ⟨q1, hw⟩ := hw
  refine V_callV (rm' := rm_Model_number) (As := [.int (2)]) (rest := [va_rf (some v0)]) (n := 1) (cn := 0) hc rfl q1 (sat_Model_number (eG E) _ _ _ _ hw) rfl cv_Model_124 (gw_of (tw_5 (List.mem_of_getElem? (i := 173) rfl)) rfl) ss_Model_number rfl ⟨by decide, by decide⟩ (by decide) (by decide) rfl (by simp [cat_rf, cat_i, cat_l]) d_Model_text_3 (fun r0 h2 hw => ?_)
  obtain ⟨r3, rfl, hw⟩ := hw
  refine V_wide (cs' := 0) (sl' := 0) (by decide) (by decide) ?_
  refine V_st (st' := [.long (r3), va_rf (some v0)]) rfl ?_
  refine V_l2i hc d_Model_text_6 ?_
  obtain ⟨q4, hw⟩ := hw
  obtain ⟨q5, hw⟩ := hw
  obtain ⟨h6, eq_h6⟩ : ∃ x, x = mm_uI h2 (v0) 32 (Int64.toInt32 (r3)) := ⟨_, rfl⟩
  replace hw := hw _ eq_h6
  refine V_put (h' := h6) hc gf_Model_128 rfl rfl q4 q5 (by rw [eq_h6]; exact mm_Up_I _ _ _ _) (by rw [eq_h6]; exact up_vI rfl) (vp_nar_int _) rfl d_Model_text_7 ?_
  refine V_aload_n hc 0 d_Model_text_10 rfl rfl ?_
  refine V_aload_n hc 0 d_Model_text_11 rfl rfl ?_
  obtain ⟨q7, hw⟩ := hw
  refine V_get (v := .int (mm_I h6 v0 28)) hc gf_Model_114 rfl q7 rfl d_Model_text_12 ?_
  obtain ⟨q8, hw⟩ := hw
  obtain ⟨h9, eq_h9⟩ : ∃ x, x = mm_uI h6 (v0) 31 (mm_I h6 v0 28) := ⟨_, rfl⟩
  replace hw := hw _ eq_h9
  refine V_put (h' := h9) hc gf_Model_131 rfl rfl q7 q8 (by rw [eq_h9]; exact mm_Up_I _ _ _ _) (by rw [eq_h9]; exact up_vI rfl) (vp_nar_int _) rfl d_Model_text_15 ?_
  refine V_aload_n hc 0 d_Model_text_18 rfl rfl ?_
  obtain ⟨q10, hw⟩ := hw
  refine V_get (v := .int (mm_I h9 v0 32)) hc gf_Model_128 rfl q10 rfl d_Model_text_19 ?_
  refine V_aload_n hc 0 d_Model_text_22 rfl rfl ?_
  refine V_get (v := .int (mm_I h9 v0 29)) hc gf_Model_117 rfl q10 rfl d_Model_text_23 ?_
  refine V_aload_n hc 0 d_Model_text_26 rfl rfl ?_
  refine V_get (v := .int (mm_I h9 v0 28)) hc gf_Model_114 rfl q10 rfl d_Model_text_27 ?_
  refine V_isub hc d_Model_text_30 ?_
  refine V_icmp_le (tgt := 39) hc d_Model_text_31 (by decide) (fun hq1 => ?_) (fun hq1 => ?_)
  · replace hw := hw.1 hq1
    refine V_sub (lv' := [(0, va_rf (some v0))]) [0] rfl ?_
    exact vb_Model_text_39 hc hq  _ _ hw
  · replace hw := hw.2 hq1
    refine V_aload_n hc 0 d_Model_text_34 rfl rfl ?_
    refine V_iconst (v := 0) hc d_Model_text_35 (by decide) ?_
    obtain ⟨q11, hw⟩ := hw
    obtain ⟨h12, eq_h12⟩ : ∃ x, x = mm_uI h9 (v0) 30 (0) := ⟨_, rfl⟩
    replace hw := hw _ eq_h12
    refine V_put (h' := h12) hc gf_Model_120 rfl rfl q10 q11 (by rw [eq_h12]; exact mm_Up_I _ _ _ _) (by rw [eq_h12]; exact up_vI rfl) (by decide) (by decide) d_Model_text_36 ?_
    refine V_sub (lv' := [(0, va_rf (some v0))]) [0] rfl ?_
    exact vb_Model_text_39 hc hq  _ _ hw
def wq_Model_text (ge : Nat → Nat) (v0 : Nat) (h : mm_M) (Z : mm_M → Prop) : Prop := wq_Model_text_0 ge v0 h Z
theorem sat_Model_text (G : mm_G) (v0 : Nat) (h : mm_M) (Z : mm_M → Prop) (hw : wq_Model_text (mm_ge G) v0 h Z) : mm_Met G y_Model_text c_Model_text 1 none rm_Model_text [va_rf (some v0)] h (pV Z) := by
  refine mm_intro (own := "EpochServerModel") (by decide) rfl (by simp [lg_sl, cat_rf, cat_i, cat_l]) (fun E e1 hc hq hi => ?_)
  subst e1
  have e2 : lv_args 0 [va_rf (some v0)] = [(0, va_rf (some v0))] := by simp [lv_args, cat_rf, cat_i, cat_l]
  rw [e2]
  refine V_sub (lv' := [(0, va_rf (some v0))]) [0] rfl ?_
  exact vb_Model_text_0 hc hq v0 h hw
