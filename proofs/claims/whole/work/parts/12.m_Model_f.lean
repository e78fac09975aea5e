/-! Model.walks(I)V -/
abbrev rm_Model_walks : Room := { frames := 2, cells := 0, slots := 0, locals := 50 }
def wq_Model_walks_104  (ge : Nat → Nat)  (h : mm_M) (Z : mm_M → Prop) : Prop :=
  Z h
def wq_Model_walks_355  (ge : Nat → Nat) (v0 : Nat) (v3 : Int32) (v4 : Int32) (v6 : Int32) (h : mm_M) (Z : mm_M → Prop) : Prop :=
  mm_k h (v0) = kd_Model ∧ wq_Model_place ge (v0) (v6) (mm_I h v0 34) (v3) (v4) h (fun h2 : mm_M => Z h2)
def wq_Model_walks_339  (ge : Nat → Nat) (v0 : Nat) (v2 : Int32) (v3 : Int32) (v4 : Int32) (s0 : Int32) (h : mm_M) (Z : mm_M → Prop) : Prop :=
  ((0 ≤ (v2) → wq_Model_walks_355  ge (v0) (v3) (v4) (s0) h Z) ∧ (¬ 0 ≤ (v2) → mm_k h (v0) = kd_Model ∧ ge 0 ≤ v0 ∧ ∀ h3 : mm_M, h3 = mm_uI h (v0) 27 ((mm_I h v0 27) + (1 : Int32)) → wq_Model_walks_355  ge (v0) (v3) (v4) (s0) h3 Z))
def wq_Model_walks_299  (ge : Nat → Nat) (v0 : Nat) (v2 : Int32) (v3 : Int32) (v4 : Int32) (v5 : Int32) (s0 : Option Nat) (s1 : Int32) (h : mm_M) (Z : mm_M → Prop) : Prop :=
  ∃ a1, s0 = some a1 ∧ mm_k h (a1) = kd_Model ∧ wq_Model_fails ge (a1) (s1) (8) h (fun (r5 : Int32) (h4 : mm_M) => (((r5) = 0 → mm_k h4 (v0) = kd_Model ∧ ∃ a7, mm_P h4 v0 15 = some a7 ∧ mm_k h4 (a7) = ka_I ∧ vp_in (7) (mm_n h4 a7) ∧ ge 0 ≤ a7 ∧ ∀ h12 : mm_M, h12 = mm_uI h4 a7 (Int32.toNatClampNeg (7)) (v5) → mm_k h12 (v0) = kd_Model ∧ (((mm_I h12 v0 37 : Int32) ≤ (v5 : Int32) → ((0 ≤ (v2) → wq_Model_walks_339  ge (v0) (v2) (v3) (v4) (v2) h12 Z) ∧ (¬ 0 ≤ (v2) → wq_Model_walks_339  ge (v0) (v2) (v3) (v4) (mm_I h12 v0 27) h12 Z))) ∧ (¬ (mm_I h12 v0 37 : Int32) ≤ (v5 : Int32) → Z h12))) ∧ (¬ (r5) = 0 → Z h4)))
def wq_Model_walks_298  (ge : Nat → Nat) (v0 : Nat) (v2 : Int32) (v3 : Int32) (v4 : Int32) (v5 : Int32) (s0 : Option Nat) (h : mm_M) (Z : mm_M → Prop) : Prop :=
  wq_Model_walks_299  ge (v0) (v2) (v3) (v4) (v5) (s0) (0) h Z
def wq_Model_walks_281  (ge : Nat → Nat) (v0 : Nat) (v2 : Int32) (v3 : Int32) (v4 : Int32) (v5 : Int32) (h : mm_M) (Z : mm_M → Prop) : Prop :=
  ((¬ (v5) = 0 → wq_Model_walks_298  ge (v0) (v2) (v3) (v4) (v5) (some v0) h Z) ∧ ((v5) = 0 → mm_k h (v0) = kd_Model ∧ (((mm_I h v0 37) ≤ 0 → wq_Model_walks_298  ge (v0) (v2) (v3) (v4) (v5) (some v0) h Z) ∧ (¬ (mm_I h v0 37) ≤ 0 → wq_Model_walks_299  ge (v0) (v2) (v3) (v4) (v5) (some v0) (1) h Z))))
def wq_Model_walks_253 (X132 : Nat → Int32 → Int32 → Int32 → Int32 → Int32 → mm_M → Prop) (ge : Nat → Nat) (v0 : Nat) (v2 : Int32) (v3 : Int32) (v4 : Int32) (v5 : Int32) (v6 : Int32) (v7 : Int32) (h : mm_M) (Z : mm_M → Prop) : Prop :=
  ((0 ≤ (v7) → mm_k h (v0) = kd_Model ∧ wq_Model_qid ge (v0) (v3) (v7) h (fun h2 : mm_M => X132 (v0) (v2) (v3) (v7) (v5 + 1) (v6 + 1) h2)) ∧ (¬ 0 ≤ (v7) → wq_Model_walks_281  ge (v0) (v2) (v3) (v4) (v5) h Z))
def wq_Model_walks_251 (X132 : Nat → Int32 → Int32 → Int32 → Int32 → Int32 → mm_M → Prop) (ge : Nat → Nat) (v0 : Nat) (v2 : Int32) (v3 : Int32) (v4 : Int32) (v5 : Int32) (v6 : Int32) (s0 : Int32) (h : mm_M) (Z : mm_M → Prop) : Prop :=
  wq_Model_walks_253 X132 ge (v0) (v2) (v3) (v4) (v5) (v6) (s0) h Z
def wq_Model_walks_209 (X132 : Nat → Int32 → Int32 → Int32 → Int32 → Int32 → mm_M → Prop) (ge : Nat → Nat) (v0 : Nat) (v2 : Int32) (v3 : Int32) (v4 : Int32) (v5 : Int32) (v6 : Int32) (s0 : Int32) (h : mm_M) (Z : mm_M → Prop) : Prop :=
  (((s0) = 0 → mm_k h (v0) = kd_Model ∧ ∃ a2, mm_P h v0 45 = some a2 ∧ mm_k h (a2) = ka_I ∧ vp_in (v6) (mm_n h a2) ∧ ∃ a6, mm_P h v0 46 = some a6 ∧ mm_k h (a6) = ka_I ∧ vp_in (v6) (mm_n h a6) ∧ wq_Model_child ge (v0) (v3) (v4) (mm_I h a2 (Int32.toNatClampNeg (v6))) (mm_I h a6 (Int32.toNatClampNeg (v6))) h (fun (r11 : Int32) (h10 : mm_M) => wq_Model_walks_251 X132 ge (v0) (v2) (v3) (v4) (v5) (v6) (r11) h10 Z)) ∧ (¬ (s0) = 0 → mm_k h (v0) = kd_Model ∧ wq_Model_spot ge (v3) (v4) h (fun (r14 : Int32) (h13 : mm_M) => ∃ a15, mm_P h v0 1 = some a15 ∧ mm_k h13 (a15) = ka_I ∧ vp_in (r14) (mm_n h13 a15) ∧ wq_Model_walks_251 X132 ge (v0) (v2) (v3) (v4) (v5) (v6) (mm_I h13 a15 (Int32.toNatClampNeg (r14))) h13 Z)))
def wq_Model_walks_208 (X132 : Nat → Int32 → Int32 → Int32 → Int32 → Int32 → mm_M → Prop) (ge : Nat → Nat) (v0 : Nat) (v2 : Int32) (v3 : Int32) (v4 : Int32) (v5 : Int32) (v6 : Int32) (h : mm_M) (Z : mm_M → Prop) : Prop :=
  wq_Model_walks_209 X132 ge (v0) (v2) (v3) (v4) (v5) (v6) (0) h Z
def wq_Model_walks_132 (X132 : Nat → Int32 → Int32 → Int32 → Int32 → Int32 → mm_M → Prop) (ge : Nat → Nat) (v0 : Nat) (v2 : Int32) (v3 : Int32) (v4 : Int32) (v5 : Int32) (v6 : Int32) (h : mm_M) (Z : mm_M → Prop) : Prop :=
  mm_k h (v0) = kd_Model ∧ (((mm_I h v0 37 : Int32) ≤ (v6 : Int32) → wq_Model_walks_281  ge (v0) (v2) (v3) (v4) (v5) h Z) ∧ (¬ (mm_I h v0 37 : Int32) ≤ (v6 : Int32) → wq_Model_spot ge (v3) (v4) h (fun (r3 : Int32) (h2 : mm_M) => mm_k h2 (v0) = kd_Model ∧ wq_Model_isDirectory ge (v0) (r3) h2 (fun (r6 : Int32) (h5 : mm_M) => (((r6) = 0 → wq_Model_walks_253 X132 ge (v0) (v2) (v3) (v4) (v5) (v6) ((-1)) h5 Z) ∧ (¬ (r6) = 0 → mm_k h5 (v0) = kd_Model ∧ ∃ a8, mm_P h5 v0 46 = some a8 ∧ mm_k h5 (a8) = ka_I ∧ vp_in (v6) (mm_n h5 a8) ∧ ((¬ (mm_I h5 a8 (Int32.toNatClampNeg (v6)) : Int32) = (2 : Int32) → wq_Model_walks_208 X132 ge (v0) (v2) (v3) (v4) (v5) (v6) h5 Z) ∧ ((mm_I h5 a8 (Int32.toNatClampNeg (v6)) : Int32) = (2 : Int32) → ∃ a12, mm_P h5 v0 45 = some a12 ∧ mm_k h5 (a12) = ka_I ∧ vp_in (v6) (mm_n h5 a12) ∧ ∃ a16, mm_P h5 v0 14 = some a16 ∧ mm_k h5 (a16) = ka_I ∧ vp_in (mm_I h5 a12 (Int32.toNatClampNeg (v6))) (mm_n h5 a16) ∧ ((¬ (mm_I h5 a16 (Int32.toNatClampNeg (mm_I h5 a12 (Int32.toNatClampNeg (v6)))) : Int32) = (46 : Int32) → wq_Model_walks_208 X132 ge (v0) (v2) (v3) (v4) (v5) (v6) h5 Z) ∧ ((mm_I h5 a16 (Int32.toNatClampNeg (mm_I h5 a12 (Int32.toNatClampNeg (v6)))) : Int32) = (46 : Int32) → vp_in (v6) (mm_n h5 a12) ∧ vp_in ((mm_I h5 a12 (Int32.toNatClampNeg (v6))) + (1 : Int32)) (mm_n h5 a16) ∧ ((¬ (mm_I h5 a16 (Int32.toNatClampNeg ((mm_I h5 a12 (Int32.toNatClampNeg (v6))) + (1 : Int32))) : Int32) = (46 : Int32) → wq_Model_walks_208 X132 ge (v0) (v2) (v3) (v4) (v5) (v6) h5 Z) ∧ ((mm_I h5 a16 (Int32.toNatClampNeg ((mm_I h5 a12 (Int32.toNatClampNeg (v6))) + (1 : Int32))) : Int32) = (46 : Int32) → wq_Model_walks_209 X132 ge (v0) (v2) (v3) (v4) (v5) (v6) (1) h5 Z))))))))))))
def lp_Model_walks_132  (ge : Nat → Nat) (v0 : Nat) (v2 : Int32) (v3 : Int32) (v4 : Int32) (v5 : Int32) (v6 : Int32) (h : mm_M) (Z : mm_M → Prop) : Prop :=
  ∀ X132 : Nat → Int32 → Int32 → Int32 → Int32 → Int32 → mm_M → Prop, (∀ (v0 : Nat) (v2 : Int32) (v3 : Int32) (v4 : Int32) (v5 : Int32) (v6 : Int32) (h : mm_M), wq_Model_walks_132 X132 ge v0 v2 v3 v4 v5 v6 h Z → X132 v0 v2 v3 v4 v5 v6 h) → X132 v0 v2 v3 v4 v5 v6 h
def wq_Model_walks_96  (ge : Nat → Nat) (v0 : Nat) (v1 : Int32) (v2 : Int32) (s0 : Option Nat) (s1 : Int32) (h : mm_M) (Z : mm_M → Prop) : Prop :=
  ∃ a1, s0 = some a1 ∧ mm_k h (a1) = kd_Model ∧ wq_Model_fails ge (a1) (s1) (7) h (fun (r5 : Int32) (h4 : mm_M) => (((r5) = 0 → mm_k h4 (v0) = kd_Model ∧ ∃ a7, mm_P h4 v0 22 = some a7 ∧ mm_k h4 (a7) = ka_I ∧ vp_in (v1) (mm_n h4 a7) ∧ ∃ a11, mm_P h4 v0 23 = some a11 ∧ mm_k h4 (a11) = ka_I ∧ vp_in (v1) (mm_n h4 a11) ∧ wq_Model_put ge (v0) (0) (2) h4 (fun h15 : mm_M => lp_Model_walks_132  ge (v0) (v2) (mm_I h4 a7 (Int32.toNatClampNeg (v1))) (mm_I h4 a11 (Int32.toNatClampNeg (v1))) (0) (0) h15 Z)) ∧ (¬ (r5) = 0 → wq_Model_walks_104  ge h4 Z)))
def wq_Model_walks_95  (ge : Nat → Nat) (v0 : Nat) (v1 : Int32) (v2 : Int32) (s0 : Option Nat) (h : mm_M) (Z : mm_M → Prop) : Prop :=
  wq_Model_walks_96  ge (v0) (v1) (v2) (s0) (0) h Z
def wq_Model_walks_69  (ge : Nat → Nat) (v0 : Nat) (v1 : Int32) (v2 : Int32) (s0 : Option Nat) (s1 : Int32) (h : mm_M) (Z : mm_M → Prop) : Prop :=
  ∃ a1, s0 = some a1 ∧ mm_k h (a1) = kd_Model ∧ wq_Model_fails ge (a1) (s1) (6) h (fun (r5 : Int32) (h4 : mm_M) => ((¬ (r5) = 0 → wq_Model_walks_104  ge h4 Z) ∧ ((r5) = 0 → ((0 ≤ (v2) → wq_Model_walks_95  ge (v0) (v1) (v2) (some v0) h4 Z) ∧ (¬ 0 ≤ (v2) → mm_k h4 (v0) = kd_Model ∧ ((¬ (mm_I h4 v0 27 : Int32) = (24 : Int32) → wq_Model_walks_95  ge (v0) (v1) (v2) (some v0) h4 Z) ∧ ((mm_I h4 v0 27 : Int32) = (24 : Int32) → wq_Model_walks_96  ge (v0) (v1) (v2) (some v0) (1) h4 Z)))))))
def wq_Model_walks_47  (ge : Nat → Nat) (v0 : Nat) (v1 : Int32) (v2 : Int32) (s0 : Option Nat) (s1 : Int32) (h : mm_M) (Z : mm_M → Prop) : Prop :=
  ∃ a1, s0 = some a1 ∧ mm_k h (a1) = kd_Model ∧ wq_Model_fails ge (a1) (s1) (5) h (fun (r5 : Int32) (h4 : mm_M) => ((¬ (r5) = 0 → wq_Model_walks_104  ge h4 Z) ∧ ((r5) = 0 → mm_k h4 (v0) = kd_Model ∧ (((mm_I h4 v0 37 : Int32) ≤ (16 : Int32) → wq_Model_walks_69  ge (v0) (v1) (v2) (some v0) (0) h4 Z) ∧ (¬ (mm_I h4 v0 37 : Int32) ≤ (16 : Int32) → wq_Model_walks_69  ge (v0) (v1) (v2) (some v0) (1) h4 Z)))))
def wq_Model_walks_46  (ge : Nat → Nat) (v0 : Nat) (v1 : Int32) (v2 : Int32) (s0 : Option Nat) (h : mm_M) (Z : mm_M → Prop) : Prop :=
  wq_Model_walks_47  ge (v0) (v1) (v2) (s0) (0) h Z
def wq_Model_walks_15  (ge : Nat → Nat) (v0 : Nat) (v1 : Int32) (s0 : Option Nat) (s1 : Int32) (h : mm_M) (Z : mm_M → Prop) : Prop :=
  ∃ a1, s0 = some a1 ∧ mm_k h (a1) = kd_Model ∧ wq_Model_fails ge (a1) (s1) (3) h (fun (r5 : Int32) (h4 : mm_M) => (((r5) = 0 → mm_k h4 (v0) = kd_Model ∧ wq_Model_fidOf ge (v0) (mm_I h4 v0 34) h4 (fun (r8 : Int32) (h7 : mm_M) => (((r8) < 0 → wq_Model_walks_46  ge (v0) (v1) (r8) (some v0) h7 Z) ∧ (¬ (r8) < 0 → (((r8 : Int32) = (v1 : Int32) → wq_Model_walks_46  ge (v0) (v1) (r8) (some v0) h7 Z) ∧ (¬ (r8 : Int32) = (v1 : Int32) → wq_Model_walks_47  ge (v0) (v1) (r8) (some v0) (1) h7 Z)))))) ∧ (¬ (r5) = 0 → Z h4)))
def wq_Model_walks_0  (ge : Nat → Nat) (v0 : Nat) (v1 : Int32) (h : mm_M) (Z : mm_M → Prop) : Prop :=
  mm_k h (v0) = kd_Model ∧ ∃ a2, mm_P h v0 24 = some a2 ∧ mm_k h (a2) = ka_I ∧ vp_in (v1) (mm_n h a2) ∧ (((mm_I h a2 (Int32.toNatClampNeg (v1))) < 0 → wq_Model_walks_15  ge (v0) (v1) (some v0) (0) h Z) ∧ (¬ (mm_I h a2 (Int32.toNatClampNeg (v1))) < 0 → wq_Model_walks_15  ge (v0) (v1) (some v0) (1) h Z))
set_option maxRecDepth 100000 in
set_option maxHeartbeats 4000000 in
theorem vb_Model_walks_104 {E : mm_E} {Z : mm_M → Prop} (hc : cx E "EpochServerModel" c_Model_walks 9 none rm_Model_walks) (hq : cq E rm_Model_walks (pV Z))   (h : mm_M) (hw : wq_Model_walks_104  (mm_ge (eG E))  h Z) : V E 9 0 0 h 104 [] [] := by
  unfold wq_Model_walks_104 at hw
  exact V_vret hc hq ⟨rfl, hw⟩ (by decide) (by decide) d_Model_walks_104
set_option maxRecDepth 100000 in
set_option maxHeartbeats 4000000 in
theorem vb_Model_walks_355 {E : mm_E} {Z : mm_M → Prop} (hc : cx E "EpochServerModel" c_Model_walks 9 none rm_Model_walks) (hq : cq E rm_Model_walks (pV Z))  (v0 : Nat) (v3 : Int32) (v4 : Int32) (v6 : Int32) (h : mm_M) (hw : wq_Model_walks_355  (mm_ge (eG E)) v0 v3 v4 v6 h Z) : V E 9 0 0 h 355 [(0, va_rf (some v0)), (3, .int (v3)), (4, .int (v4)), (6, .int (v6))] [] := by
  unfold wq_Model_walks_355 at hw
  refine V_aload_n hc 0 d_Model_walks_355 rfl rfl ?_
  refine V_iload hc 3 d_Model_walks_356 rfl ?_
  refine V_aload_n hc 0 d_Model_walks_358 rfl rfl ?_
  obtain ⟨q1, hw⟩ := hw
  refine V_get (v := .int (mm_I h v0 34)) hc gf_Model_150 rfl q1 rfl d_Model_walks_359 ?_
  refine V_iload_n hc 1 d_Model_walks_362 rfl rfl ?_
  refine V_iload hc 2 d_Model_walks_363 rfl ?_
  refine V_callV (rm' := rm_Model_place) (As := [.int (v6), .int (mm_I h v0 34), .int (v3), .int (v4)]) (rest := []) (n := 4) (cn := 0) hc rfl q1 (sat_Model_place (eG E) _ _ _ _ _ _ _ hw) rfl cv_Model_318 (gw_of (tw_6 (List.mem_of_getElem? (i := 31) rfl)) rfl) ss_Model_place rfl ⟨by decide, by decide⟩ (by decide) (by decide) rfl (by simp [cat_rf, cat_i, cat_l]) d_Model_walks_365 (fun r0 h2 hw => ?_)
  obtain ⟨rfl, hw⟩ := hw
  refine V_wide (cs' := 0) (sl' := 0) (by decide) (by decide) ?_
  refine V_st (st' := []) rfl ?_
  exact V_vret hc hq ⟨rfl, hw⟩ (by decide) (by decide) d_Model_walks_368
set_option maxRecDepth 100000 in
set_option maxHeartbeats 4000000 in
theorem vb_Model_walks_339 {E : mm_E} {Z : mm_M → Prop} (hc : cx E "EpochServerModel" c_Model_walks 9 none rm_Model_walks) (hq : cq E rm_Model_walks (pV Z))  (v0 : Nat) (v2 : Int32) (v3 : Int32) (v4 : Int32) (s0 : Int32) (h : mm_M) (hw : wq_Model_walks_339  (mm_ge (eG E)) v0 v2 v3 v4 s0 h Z) : V E 9 0 0 h 339 [(0, va_rf (some v0)), (2, .int (v2)), (3, .int (v3)), (4, .int (v4))] [.int (s0)] := by
  unfold wq_Model_walks_339 at hw
  refine V_istore (i := 6) (lv' := [(6, .int (s0)), (0, va_rf (some v0)), (2, .int (v2)), (3, .int (v3)), (4, .int (v4))]) hc d_Model_walks_339 (by decide) rfl ?_
  refine V_iload_n hc 2 d_Model_walks_341 rfl rfl ?_
  refine V_if_ge (tgt := 355) hc d_Model_walks_342 (by decide) (fun hq1 => ?_) (fun hq1 => ?_)
  · replace hw := hw.1 hq1
    refine V_sub (lv' := [(0, va_rf (some v0)), (3, .int (v3)), (4, .int (v4)), (6, .int (s0))]) [1, 3, 4, 0] rfl ?_
    exact vb_Model_walks_355 hc hq  _ _ _ _ _ hw
  · replace hw := hw.2 hq1
    refine V_aload_n hc 1 d_Model_walks_345 rfl rfl ?_
    refine V_dup hc d_Model_walks_346 (cat_rf _) ?_
    obtain ⟨q1, hw⟩ := hw
    refine V_get (v := .int (mm_I h v0 27)) hc gf_Model_240 rfl q1 rfl d_Model_walks_347 ?_
    refine V_iconst (v := 1) hc d_Model_walks_350 (by decide) ?_
    refine V_iadd hc d_Model_walks_351 ?_
    obtain ⟨q2, hw⟩ := hw
    obtain ⟨h3, eq_h3⟩ : ∃ x, x = mm_uI h (v0) 27 ((mm_I h v0 27) + (1 : Int32)) := ⟨_, rfl⟩
    replace hw := hw _ eq_h3
    refine V_put (h' := h3) hc gf_Model_240 rfl rfl q1 q2 (by rw [eq_h3]; exact mm_Up_I _ _ _ _) (by rw [eq_h3]; exact up_vI rfl) (vp_nar_int _) rfl d_Model_walks_352 ?_
    refine V_sub (lv' := [(0, va_rf (some v0)), (3, .int (v3)), (4, .int (v4)), (6, .int (s0))]) [1, 3, 4, 0] rfl ?_
    exact vb_Model_walks_355 hc hq  _ _ _ _ _ hw
set_option maxRecDepth 100000 in
set_option maxHeartbeats 4000000 in
theorem vb_Model_walks_299 {E : mm_E} {Z : mm_M → Prop} (hc : cx E "EpochServerModel" c_Model_walks 9 none rm_Model_walks) (hq : cq E rm_Model_walks (pV Z))  (v0 : Nat) (v2 : Int32) (v3 : Int32) (v4 : Int32) (v5 : Int32) (s0 : Option Nat) (s1 : Int32) (h : mm_M) (hw : wq_Model_walks_299  (mm_ge (eG E)) v0 v2 v3 v4 v5 s0 s1 h Z) : V E 9 0 0 h 299 [(0, va_rf (some v0)), (2, .int (v2)), (3, .int (v3)), (4, .int (v4)), (5, .int (v5))] [.int (s1), va_rf (s0)] := by
  unfold wq_Model_walks_299 at hw
  refine V_bipush (v := 8) hc d_Model_walks_299 (by decide) ?_
  obtain ⟨a1, q2, hw⟩ := hw
  obtain ⟨q3, hw⟩ := hw
  refine V_callV (rm' := rm_Model_fails) (As := [.int (s1), .int (8)]) (rest := []) (n := 2) (cn := 0) hc q2 q3 (sat_Model_fails (eG E) _ _ _ _ _ hw) rfl cv_Model_249 (gw_of (tw_5 (List.mem_of_getElem? (i := 209) rfl)) rfl) ss_Model_fails rfl ⟨by decide, by decide⟩ (by decide) (by decide) rfl (by simp [cat_rf, cat_i, cat_l]) d_Model_walks_301 (fun r0 h4 hw => ?_)
  obtain ⟨r5, rfl, hw⟩ := hw
  refine V_wide (cs' := 0) (sl' := 0) (by decide) (by decide) ?_
  refine V_st (st' := [.int (r5)]) rfl ?_
  refine V_if_eq (tgt := 308) hc d_Model_walks_304 (by decide) (fun hq1 => ?_) (fun hq1 => ?_)
  · replace hw := hw.1 hq1
    refine V_aload_n hc 0 d_Model_walks_308 rfl rfl ?_
    obtain ⟨q6, hw⟩ := hw
    refine V_get (v := va_rf (mm_P h4 v0 15)) hc gf_Model_47 rfl q6 rfl d_Model_walks_309 ?_
    refine V_bipush (v := 7) hc d_Model_walks_312 (by decide) ?_
    refine V_iload hc 4 d_Model_walks_314 rfl ?_
    obtain ⟨a7, q8, hw⟩ := hw
    obtain ⟨q9, hw⟩ := hw
    obtain ⟨q10, hw⟩ := hw
    obtain ⟨q11, hw⟩ := hw
    obtain ⟨h12, eq_h12⟩ : ∃ x, x = mm_uI h4 a7 (Int32.toNatClampNeg (7)) (v5) := ⟨_, rfl⟩
    replace hw := hw _ eq_h12
    refine V_iast hc q8 q9 q10 q11 d_Model_walks_316 ?_
    rw [← eq_h12]
    refine V_iload hc 4 d_Model_walks_317 rfl ?_
    refine V_aload_n hc 0 d_Model_walks_319 rfl rfl ?_
    obtain ⟨q13, hw⟩ := hw
    refine V_get (v := .int (mm_I h12 v0 37)) hc gf_Model_153 rfl q13 rfl d_Model_walks_320 ?_
    refine V_icmp_ge (tgt := 327) hc d_Model_walks_323 (by decide) (fun hq1 => ?_) (fun hq1 => ?_)
    · replace hw := hw.1 hq1
      refine V_iload_n hc 1 d_Model_walks_327 rfl rfl ?_
      refine V_if_ge (tgt := 338) hc d_Model_walks_328 (by decide) (fun hq1 => ?_) (fun hq1 => ?_)
      · replace hw := hw.1 hq1
        refine V_iload_n hc 1 d_Model_walks_338 rfl rfl ?_
        refine V_sub (lv' := [(0, va_rf (some v0)), (2, .int (v2)), (3, .int (v3)), (4, .int (v4))]) [0, 1, 2, 3] rfl ?_
        exact vb_Model_walks_339 hc hq  _ _ _ _ _ _ hw
      · replace hw := hw.2 hq1
        refine V_aload_n hc 0 d_Model_walks_331 rfl rfl ?_
        refine V_get (v := .int (mm_I h12 v0 27)) hc gf_Model_240 rfl q13 rfl d_Model_walks_332 ?_
        refine V_goto (tgt := 339) hc d_Model_walks_335 (by decide) ?_
        refine V_sub (lv' := [(0, va_rf (some v0)), (2, .int (v2)), (3, .int (v3)), (4, .int (v4))]) [0, 1, 2, 3] rfl ?_
        exact vb_Model_walks_339 hc hq  _ _ _ _ _ _ hw
    · replace hw := hw.2 hq1
      exact V_vret hc hq ⟨rfl, hw⟩ (by decide) (by decide) d_Model_walks_326
  · replace hw := hw.2 hq1
    exact V_vret hc hq ⟨rfl, hw⟩ (by decide) (by decide) d_Model_walks_307
set_option maxRecDepth 100000 in
set_option maxHeartbeats 4000000 in
theorem vb_Model_walks_298 {E : mm_E} {Z : mm_M → Prop} (hc : cx E "EpochServerModel" c_Model_walks 9 none rm_Model_walks) (hq : cq E rm_Model_walks (pV Z))  (v0 : Nat) (v2 : Int32) (v3 : Int32) (v4 : Int32) (v5 : Int32) (s0 : Option Nat) (h : mm_M) (hw : wq_Model_walks_298  (mm_ge (eG E)) v0 v2 v3 v4 v5 s0 h Z) : V E 9 0 0 h 298 [(0, va_rf (some v0)), (2, .int (v2)), (3, .int (v3)), (4, .int (v4)), (5, .int (v5))] [va_rf (s0)] := by
  unfold wq_Model_walks_298 at hw
  refine V_iconst (v := 0) hc d_Model_walks_298 (by decide) ?_
  refine V_sub (lv' := [(0, va_rf (some v0)), (2, .int (v2)), (3, .int (v3)), (4, .int (v4)), (5, .int (v5))]) [0, 1, 2, 3, 4] rfl ?_
  exact vb_Model_walks_299 hc hq  _ _ _ _ _ _ _ _ hw
set_option maxRecDepth 100000 in
set_option maxHeartbeats 4000000 in
theorem vb_Model_walks_281 {E : mm_E} {Z : mm_M → Prop} (hc : cx E "EpochServerModel" c_Model_walks 9 none rm_Model_walks) (hq : cq E rm_Model_walks (pV Z))  (v0 : Nat) (v2 : Int32) (v3 : Int32) (v4 : Int32) (v5 : Int32) (h : mm_M) (hw : wq_Model_walks_281  (mm_ge (eG E)) v0 v2 v3 v4 v5 h Z) : V E 9 0 0 h 281 [(0, va_rf (some v0)), (2, .int (v2)), (3, .int (v3)), (4, .int (v4)), (5, .int (v5))] [] := by
  unfold wq_Model_walks_281 at hw
  refine V_aload_n hc 0 d_Model_walks_281 rfl rfl ?_
  refine V_iload hc 4 d_Model_walks_282 rfl ?_
  refine V_if_ne (tgt := 298) hc d_Model_walks_284 (by decide) (fun hq1 => ?_) (fun hq1 => ?_)
  · replace hw := hw.1 hq1
    refine V_sub (lv' := [(0, va_rf (some v0)), (2, .int (v2)), (3, .int (v3)), (4, .int (v4)), (5, .int (v5))]) [0, 1, 2, 3, 4] rfl ?_
    exact vb_Model_walks_298 hc hq  _ _ _ _ _ _ _ hw
  · replace hw := hw.2 hq1
    refine V_aload_n hc 0 d_Model_walks_287 rfl rfl ?_
    obtain ⟨q1, hw⟩ := hw
    refine V_get (v := .int (mm_I h v0 37)) hc gf_Model_153 rfl q1 rfl d_Model_walks_288 ?_
    refine V_if_le (tgt := 298) hc d_Model_walks_291 (by decide) (fun hq1 => ?_) (fun hq1 => ?_)
    · replace hw := hw.1 hq1
      refine V_sub (lv' := [(0, va_rf (some v0)), (2, .int (v2)), (3, .int (v3)), (4, .int (v4)), (5, .int (v5))]) [0, 1, 2, 3, 4] rfl ?_
      exact vb_Model_walks_298 hc hq  _ _ _ _ _ _ _ hw
    · replace hw := hw.2 hq1
      refine V_iconst (v := 1) hc d_Model_walks_294 (by decide) ?_
      refine V_goto (tgt := 299) hc d_Model_walks_295 (by decide) ?_
      refine V_sub (lv' := [(0, va_rf (some v0)), (2, .int (v2)), (3, .int (v3)), (4, .int (v4)), (5, .int (v5))]) [0, 1, 2, 3, 4] rfl ?_
      exact vb_Model_walks_299 hc hq  _ _ _ _ _ _ _ _ hw
set_option maxRecDepth 100000 in
set_option maxHeartbeats 4000000 in
theorem vb_Model_walks_253 {E : mm_E} {Z : mm_M → Prop} (hc : cx E "EpochServerModel" c_Model_walks 9 none rm_Model_walks) (hq : cq E rm_Model_walks (pV Z)) (X132 : Nat → Int32 → Int32 → Int32 → Int32 → Int32 → mm_M → Prop) (hX132 : ∀ (v0 : Nat) (v2 : Int32) (v3 : Int32) (v4 : Int32) (v5 : Int32) (v6 : Int32) (h : mm_M), X132 v0 v2 v3 v4 v5 v6 h → V E 9 0 0 h 132 [(0, va_rf (some v0)), (2, .int (v2)), (3, .int (v3)), (4, .int (v4)), (5, .int (v5)), (6, .int (v6))] []) (v0 : Nat) (v2 : Int32) (v3 : Int32) (v4 : Int32) (v5 : Int32) (v6 : Int32) (v7 : Int32) (h : mm_M) (hw : wq_Model_walks_253 X132 (mm_ge (eG E)) v0 v2 v3 v4 v5 v6 v7 h Z) : V E 9 0 0 h 253 [(0, va_rf (some v0)), (2, .int (v2)), (3, .int (v3)), (4, .int (v4)), (5, .int (v5)), (6, .int (v6)), (7, .int (v7))] [] := by
  unfold wq_Model_walks_253 at hw
  refine V_iload hc 6 d_Model_walks_253 rfl ?_
  refine V_if_ge (tgt := 261) hc d_Model_walks_255 (by decide) (fun hq1 => ?_) (fun hq1 => ?_)
  · replace hw := hw.1 hq1
    refine V_iload hc 6 d_Model_walks_261 rfl ?_
    refine V_istore (i := 4) (lv' := [(4, .int (v7)), (0, va_rf (some v0)), (2, .int (v2)), (3, .int (v3)), (5, .int (v5)), (6, .int (v6)), (7, .int (v7))]) hc d_Model_walks_263 (by decide) rfl ?_
    refine V_iinc (v := v5 + 1) (lv' := [(5, .int (v5 + 1)), (4, .int (v7)), (0, va_rf (some v0)), (2, .int (v2)), (3, .int (v3)), (6, .int (v6)), (7, .int (v7))]) hc 4 d_Model_walks_265 rfl rfl (by decide) rfl ?_
    refine V_aload_n hc 2 d_Model_walks_268 rfl rfl ?_
    refine V_iload_n hc 4 d_Model_walks_269 rfl rfl ?_
    refine V_iload hc 1 d_Model_walks_270 rfl ?_
    obtain ⟨q1, hw⟩ := hw
    refine V_callV (rm' := rm_Model_qid) (As := [.int (v3), .int (v7)]) (rest := []) (n := 2) (cn := 0) hc rfl q1 (sat_Model_qid (eG E) _ _ _ _ _ hw) rfl cv_Model_235 (gw_of (tw_6 (List.mem_of_getElem? (i := 35) rfl)) rfl) ss_Model_qid rfl ⟨by decide, by decide⟩ (by decide) (by decide) rfl (by simp [cat_rf, cat_i, cat_l]) d_Model_walks_272 (fun r0 h2 hw => ?_)
    obtain ⟨rfl, hw⟩ := hw
    refine V_wide (cs' := 0) (sl' := 0) (by decide) (by decide) ?_
    refine V_st (st' := []) rfl ?_
    refine V_iinc (v := v6 + 1) (lv' := [(6, .int (v6 + 1)), (5, .int (v5 + 1)), (4, .int (v7)), (0, va_rf (some v0)), (2, .int (v2)), (3, .int (v3)), (7, .int (v7))]) hc 5 d_Model_walks_275 rfl rfl (by decide) rfl ?_
    refine V_goto (tgt := 132) hc d_Model_walks_278 (by decide) ?_
    refine V_sub (lv' := [(0, va_rf (some v0)), (2, .int (v2)), (3, .int (v3)), (4, .int (v7)), (5, .int (v5 + 1)), (6, .int (v6 + 1))]) [3, 4, 5, 2, 1, 0] rfl ?_
    exact hX132 _ _ _ _ _ _ _ hw
  · replace hw := hw.2 hq1
    refine V_goto (tgt := 281) hc d_Model_walks_258 (by decide) ?_
    refine V_sub (lv' := [(0, va_rf (some v0)), (2, .int (v2)), (3, .int (v3)), (4, .int (v4)), (5, .int (v5))]) [0, 1, 2, 3, 4] rfl ?_
    exact vb_Model_walks_281 hc hq  _ _ _ _ _ _ hw
set_option maxRecDepth 100000 in
set_option maxHeartbeats 4000000 in
theorem vb_Model_walks_251 {E : mm_E} {Z : mm_M → Prop} (hc : cx E "EpochServerModel" c_Model_walks 9 none rm_Model_walks) (hq : cq E rm_Model_walks (pV Z)) (X132 : Nat → Int32 → Int32 → Int32 → Int32 → Int32 → mm_M → Prop) (hX132 : ∀ (v0 : Nat) (v2 : Int32) (v3 : Int32) (v4 : Int32) (v5 : Int32) (v6 : Int32) (h : mm_M), X132 v0 v2 v3 v4 v5 v6 h → V E 9 0 0 h 132 [(0, va_rf (some v0)), (2, .int (v2)), (3, .int (v3)), (4, .int (v4)), (5, .int (v5)), (6, .int (v6))] []) (v0 : Nat) (v2 : Int32) (v3 : Int32) (v4 : Int32) (v5 : Int32) (v6 : Int32) (s0 : Int32) (h : mm_M) (hw : wq_Model_walks_251 X132 (mm_ge (eG E)) v0 v2 v3 v4 v5 v6 s0 h Z) : V E 9 0 0 h 251 [(0, va_rf (some v0)), (2, .int (v2)), (3, .int (v3)), (4, .int (v4)), (5, .int (v5)), (6, .int (v6))] [.int (s0)] := by
  unfold wq_Model_walks_251 at hw
  refine V_istore (i := 7) (lv' := [(7, .int (s0)), (0, va_rf (some v0)), (2, .int (v2)), (3, .int (v3)), (4, .int (v4)), (5, .int (v5)), (6, .int (v6))]) hc d_Model_walks_251 (by decide) rfl ?_
  refine V_sub (lv' := [(0, va_rf (some v0)), (2, .int (v2)), (3, .int (v3)), (4, .int (v4)), (5, .int (v5)), (6, .int (v6)), (7, .int (s0))]) [1, 2, 3, 4, 5, 6, 0] rfl ?_
  exact vb_Model_walks_253 hc hq X132 hX132 _ _ _ _ _ _ _ _ hw
set_option maxRecDepth 100000 in
set_option maxHeartbeats 4000000 in
theorem vb_Model_walks_209 {E : mm_E} {Z : mm_M → Prop} (hc : cx E "EpochServerModel" c_Model_walks 9 none rm_Model_walks) (hq : cq E rm_Model_walks (pV Z)) (X132 : Nat → Int32 → Int32 → Int32 → Int32 → Int32 → mm_M → Prop) (hX132 : ∀ (v0 : Nat) (v2 : Int32) (v3 : Int32) (v4 : Int32) (v5 : Int32) (v6 : Int32) (h : mm_M), X132 v0 v2 v3 v4 v5 v6 h → V E 9 0 0 h 132 [(0, va_rf (some v0)), (2, .int (v2)), (3, .int (v3)), (4, .int (v4)), (5, .int (v5)), (6, .int (v6))] []) (v0 : Nat) (v2 : Int32) (v3 : Int32) (v4 : Int32) (v5 : Int32) (v6 : Int32) (s0 : Int32) (h : mm_M) (hw : wq_Model_walks_209 X132 (mm_ge (eG E)) v0 v2 v3 v4 v5 v6 s0 h Z) : V E 9 0 0 h 209 [(0, va_rf (some v0)), (2, .int (v2)), (3, .int (v3)), (4, .int (v4)), (5, .int (v5)), (6, .int (v6))] [.int (s0)] := by
  unfold wq_Model_walks_209 at hw
  refine V_istore (i := 8) (lv' := [(8, .int (s0)), (0, va_rf (some v0)), (2, .int (v2)), (3, .int (v3)), (4, .int (v4)), (5, .int (v5)), (6, .int (v6))]) hc d_Model_walks_209 (by decide) rfl ?_
  refine V_iload hc 0 d_Model_walks_211 rfl ?_
  refine V_if_eq (tgt := 230) hc d_Model_walks_213 (by decide) (fun hq1 => ?_) (fun hq1 => ?_)
  · replace hw := hw.1 hq1
    refine V_aload_n hc 1 d_Model_walks_230 rfl rfl ?_
    refine V_iload_n hc 3 d_Model_walks_231 rfl rfl ?_
    refine V_iload hc 4 d_Model_walks_232 rfl ?_
    refine V_aload_n hc 1 d_Model_walks_234 rfl rfl ?_
    obtain ⟨q1, hw⟩ := hw
    refine V_get (v := va_rf (mm_P h v0 45)) hc gf_Model_68 rfl q1 rfl d_Model_walks_235 ?_
    refine V_iload hc 6 d_Model_walks_238 rfl ?_
    obtain ⟨a2, q3, hw⟩ := hw
    obtain ⟨q4, hw⟩ := hw
    obtain ⟨q5, hw⟩ := hw
    refine V_iald hc q3 q4 q5 d_Model_walks_240 ?_
    refine V_aload_n hc 1 d_Model_walks_241 rfl rfl ?_
    refine V_get (v := va_rf (mm_P h v0 46)) hc gf_Model_71 rfl q1 rfl d_Model_walks_242 ?_
    refine V_iload hc 6 d_Model_walks_245 rfl ?_
    obtain ⟨a6, q7, hw⟩ := hw
    obtain ⟨q8, hw⟩ := hw
    obtain ⟨q9, hw⟩ := hw
    refine V_iald hc q7 q8 q9 d_Model_walks_247 ?_
    refine V_callV (rm' := rm_Model_child) (As := [.int (v3), .int (v4), .int (mm_I h a2 (Int32.toNatClampNeg (v6))), .int (mm_I h a6 (Int32.toNatClampNeg (v6)))]) (rest := []) (n := 4) (cn := 0) hc rfl q1 (sat_Model_child (eG E) _ _ _ _ _ _ _ hw) rfl cv_Model_326 (gw_of (tw_6 (List.mem_of_getElem? (i := 76) rfl)) rfl) ss_Model_child rfl ⟨by decide, by decide⟩ (by decide) (by decide) rfl (by simp [cat_rf, cat_i, cat_l]) d_Model_walks_248 (fun r0 h10 hw => ?_)
    obtain ⟨r11, rfl, hw⟩ := hw
    refine V_wide (cs' := 0) (sl' := 0) (by decide) (by decide) ?_
    refine V_st (st' := [.int (r11)]) rfl ?_
    refine V_sub (lv' := [(0, va_rf (some v0)), (2, .int (v2)), (3, .int (v3)), (4, .int (v4)), (5, .int (v5)), (6, .int (v6))]) [1, 2, 3, 4, 5, 6] rfl ?_
    exact vb_Model_walks_251 hc hq X132 hX132 _ _ _ _ _ _ _ _ hw
  · replace hw := hw.2 hq1
    refine V_aload_n hc 1 d_Model_walks_216 rfl rfl ?_
    obtain ⟨q12, hw⟩ := hw
    refine V_get (v := va_rf (mm_P h v0 1)) hc gf_Model_13 rfl q12 rfl d_Model_walks_217 ?_
    refine V_iload_n hc 3 d_Model_walks_220 rfl rfl ?_
    refine V_iload hc 4 d_Model_walks_221 rfl ?_
    refine V_callS (rm' := rm_Model_spot) (As := [.int (v3), .int (v4)]) (rest := [va_rf (mm_P h v0 1)]) (n := 2) hc (sat_Model_spot (eG E) _ _ _ _ hw) cv_Model_96 (gw_of (tw_5 (List.mem_of_getElem? (i := 196) rfl)) rfl) rfl ⟨by decide, by decide⟩ (by decide) (by decide) rfl (by simp [cat_rf, cat_i, cat_l]) d_Model_walks_223 (fun r0 h13 hw => ?_)
    obtain ⟨r14, rfl, hw⟩ := hw
    refine V_wide (cs' := 0) (sl' := 0) (by decide) (by decide) ?_
    refine V_st (st' := [.int (r14), va_rf (mm_P h v0 1)]) rfl ?_
    obtain ⟨a15, q16, hw⟩ := hw
    obtain ⟨q17, hw⟩ := hw
    obtain ⟨q18, hw⟩ := hw
    refine V_iald hc q16 q17 q18 d_Model_walks_226 ?_
    refine V_goto (tgt := 251) hc d_Model_walks_227 (by decide) ?_
    refine V_sub (lv' := [(0, va_rf (some v0)), (2, .int (v2)), (3, .int (v3)), (4, .int (v4)), (5, .int (v5)), (6, .int (v6))]) [1, 2, 3, 4, 5, 6] rfl ?_
    exact vb_Model_walks_251 hc hq X132 hX132 _ _ _ _ _ _ _ _ hw
set_option maxRecDepth 100000 in
set_option maxHeartbeats 4000000 in
theorem vb_Model_walks_208 {E : mm_E} {Z : mm_M → Prop} (hc : cx E "EpochServerModel" c_Model_walks 9 none rm_Model_walks) (hq : cq E rm_Model_walks (pV Z)) (X132 : Nat → Int32 → Int32 → Int32 → Int32 → Int32 → mm_M → Prop) (hX132 : ∀ (v0 : Nat) (v2 : Int32) (v3 : Int32) (v4 : Int32) (v5 : Int32) (v6 : Int32) (h : mm_M), X132 v0 v2 v3 v4 v5 v6 h → V E 9 0 0 h 132 [(0, va_rf (some v0)), (2, .int (v2)), (3, .int (v3)), (4, .int (v4)), (5, .int (v5)), (6, .int (v6))] []) (v0 : Nat) (v2 : Int32) (v3 : Int32) (v4 : Int32) (v5 : Int32) (v6 : Int32) (h : mm_M) (hw : wq_Model_walks_208 X132 (mm_ge (eG E)) v0 v2 v3 v4 v5 v6 h Z) : V E 9 0 0 h 208 [(0, va_rf (some v0)), (2, .int (v2)), (3, .int (v3)), (4, .int (v4)), (5, .int (v5)), (6, .int (v6))] [] := by
  unfold wq_Model_walks_208 at hw
  refine V_iconst (v := 0) hc d_Model_walks_208 (by decide) ?_
  refine V_sub (lv' := [(0, va_rf (some v0)), (2, .int (v2)), (3, .int (v3)), (4, .int (v4)), (5, .int (v5)), (6, .int (v6))]) [0, 1, 2, 3, 4, 5] rfl ?_
  exact vb_Model_walks_209 hc hq X132 hX132 _ _ _ _ _ _ _ _ hw
set_option maxRecDepth 100000 in
set_option maxHeartbeats 4000000 in
theorem vb_Model_walks_132 {E : mm_E} {Z : mm_M → Prop} (hc : cx E "EpochServerModel" c_Model_walks 9 none rm_Model_walks) (hq : cq E rm_Model_walks (pV Z)) (X132 : Nat → Int32 → Int32 → Int32 → Int32 → Int32 → mm_M → Prop) (hX132 : ∀ (v0 : Nat) (v2 : Int32) (v3 : Int32) (v4 : Int32) (v5 : Int32) (v6 : Int32) (h : mm_M), X132 v0 v2 v3 v4 v5 v6 h → V E 9 0 0 h 132 [(0, va_rf (some v0)), (2, .int (v2)), (3, .int (v3)), (4, .int (v4)), (5, .int (v5)), (6, .int (v6))] []) (v0 : Nat) (v2 : Int32) (v3 : Int32) (v4 : Int32) (v5 : Int32) (v6 : Int32) (h : mm_M) (hw : wq_Model_walks_132 X132 (mm_ge (eG E)) v0 v2 v3 v4 v5 v6 h Z) : V E 9 0 0 h 132 [(0, va_rf (some v0)), (2, .int (v2)), (3, .int (v3)), (4, .int (v4)), (5, .int (v5)), (6, .int (v6))] [] := by
  unfold wq_Model_walks_132 at hw
  refine V_iload hc 5 d_Model_walks_132 rfl ?_
  refine V_aload_n hc 0 d_Model_walks_134 rfl rfl ?_
  obtain ⟨q1, hw⟩ := hw
  refine V_get (v := .int (mm_I h v0 37)) hc gf_Model_153 rfl q1 rfl d_Model_walks_135 ?_
  refine V_icmp_ge (tgt := 281) hc d_Model_walks_138 (by decide) (fun hq1 => ?_) (fun hq1 => ?_)
  · replace hw := hw.1 hq1
    refine V_sub (lv' := [(0, va_rf (some v0)), (2, .int (v2)), (3, .int (v3)), (4, .int (v4)), (5, .int (v5))]) [0, 1, 2, 3, 4] rfl ?_
    exact vb_Model_walks_281 hc hq  _ _ _ _ _ _ hw
  · replace hw := hw.2 hq1
    refine V_iconst (v := (-1)) hc d_Model_walks_141 (by decide) ?_
    refine V_istore (i := 7) (lv' := [(7, .int ((-1))), (0, va_rf (some v0)), (2, .int (v2)), (3, .int (v3)), (4, .int (v4)), (5, .int (v5)), (6, .int (v6))]) hc d_Model_walks_142 (by decide) rfl ?_
    refine V_aload_n hc 1 d_Model_walks_144 rfl rfl ?_
    refine V_iload_n hc 3 d_Model_walks_145 rfl rfl ?_
    refine V_iload hc 4 d_Model_walks_146 rfl ?_
    refine V_callS (rm' := rm_Model_spot) (As := [.int (v3), .int (v4)]) (rest := [va_rf (some v0)]) (n := 2) hc (sat_Model_spot (eG E) _ _ _ _ hw) cv_Model_96 (gw_of (tw_5 (List.mem_of_getElem? (i := 196) rfl)) rfl) rfl ⟨by decide, by decide⟩ (by decide) (by decide) rfl (by simp [cat_rf, cat_i, cat_l]) d_Model_walks_148 (fun r0 h2 hw => ?_)
    obtain ⟨r3, rfl, hw⟩ := hw
    refine V_wide (cs' := 0) (sl' := 0) (by decide) (by decide) ?_
    refine V_st (st' := [.int (r3), va_rf (some v0)]) rfl ?_
    obtain ⟨q4, hw⟩ := hw
    refine V_callV (rm' := rm_Model_isDirectory) (As := [.int (r3)]) (rest := []) (n := 1) (cn := 0) hc rfl q4 (sat_Model_isDirectory (eG E) _ _ _ _ hw) rfl cv_Model_230 (gw_of (tw_6 (List.mem_of_getElem? (i := 39) rfl)) rfl) ss_Model_isDirectory rfl ⟨by decide, by decide⟩ (by decide) (by decide) rfl (by simp [cat_rf, cat_i, cat_l]) d_Model_walks_151 (fun r0 h5 hw => ?_)
    obtain ⟨r6, rfl, hw⟩ := hw
    refine V_wide (cs' := 0) (sl' := 0) (by decide) (by decide) ?_
    refine V_st (st' := [.int (r6)]) rfl ?_
    refine V_if_eq (tgt := 253) hc d_Model_walks_154 (by decide) (fun hq1 => ?_) (fun hq1 => ?_)
    · replace hw := hw.1 hq1
      refine V_sub (lv' := [(0, va_rf (some v0)), (2, .int (v2)), (3, .int (v3)), (4, .int (v4)), (5, .int (v5)), (6, .int (v6)), (7, .int ((-1)))]) [1, 2, 3, 4, 5, 6, 0] rfl ?_
      exact vb_Model_walks_253 hc hq X132 hX132 _ _ _ _ _ _ _ _ hw
    · replace hw := hw.2 hq1
      refine V_aload_n hc 1 d_Model_walks_157 rfl rfl ?_
      obtain ⟨q7, hw⟩ := hw
      refine V_get (v := va_rf (mm_P h5 v0 46)) hc gf_Model_71 rfl q7 rfl d_Model_walks_158 ?_
      refine V_iload hc 6 d_Model_walks_161 rfl ?_
      obtain ⟨a8, q9, hw⟩ := hw
      obtain ⟨q10, hw⟩ := hw
      obtain ⟨q11, hw⟩ := hw
      refine V_iald hc q9 q10 q11 d_Model_walks_163 ?_
      refine V_iconst (v := 2) hc d_Model_walks_164 (by decide) ?_
      refine V_icmp_ne (tgt := 208) hc d_Model_walks_165 (by decide) (fun hq1 => ?_) (fun hq1 => ?_)
      · replace hw := hw.1 hq1
        refine V_sub (lv' := [(0, va_rf (some v0)), (2, .int (v2)), (3, .int (v3)), (4, .int (v4)), (5, .int (v5)), (6, .int (v6))]) [1, 2, 3, 4, 5, 6] rfl ?_
        exact vb_Model_walks_208 hc hq X132 hX132 _ _ _ _ _ _ _ hw
      · replace hw := hw.2 hq1
        refine V_aload_n hc 1 d_Model_walks_168 rfl rfl ?_
        refine V_get (v := va_rf (mm_P h5 v0 14)) hc gf_Model_44 rfl q7 rfl d_Model_walks_169 ?_
        refine V_aload_n hc 1 d_Model_walks_172 rfl rfl ?_
        refine V_get (v := va_rf (mm_P h5 v0 45)) hc gf_Model_68 rfl q7 rfl d_Model_walks_173 ?_
        refine V_iload hc 6 d_Model_walks_176 rfl ?_
        obtain ⟨a12, q13, hw⟩ := hw
        obtain ⟨q14, hw⟩ := hw
        obtain ⟨q15, hw⟩ := hw
        refine V_iald hc q13 q14 q15 d_Model_walks_178 ?_
        obtain ⟨a16, q17, hw⟩ := hw
        obtain ⟨q18, hw⟩ := hw
        obtain ⟨q19, hw⟩ := hw
        refine V_iald hc q17 q18 q19 d_Model_walks_179 ?_
        refine V_bipush (v := 46) hc d_Model_walks_180 (by decide) ?_
        refine V_icmp_ne (tgt := 208) hc d_Model_walks_182 (by decide) (fun hq1 => ?_) (fun hq1 => ?_)
        · replace hw := hw.1 hq1
          refine V_sub (lv' := [(0, va_rf (some v0)), (2, .int (v2)), (3, .int (v3)), (4, .int (v4)), (5, .int (v5)), (6, .int (v6))]) [1, 2, 3, 4, 5, 6] rfl ?_
          exact vb_Model_walks_208 hc hq X132 hX132 _ _ _ _ _ _ _ hw
        · replace hw := hw.2 hq1
          refine V_aload_n hc 1 d_Model_walks_185 rfl rfl ?_
          refine V_get (v := va_rf (mm_P h5 v0 14)) hc gf_Model_44 rfl q7 rfl d_Model_walks_186 ?_
          refine V_aload_n hc 1 d_Model_walks_189 rfl rfl ?_
          refine V_get (v := va_rf (mm_P h5 v0 45)) hc gf_Model_68 rfl q7 rfl d_Model_walks_190 ?_
          refine V_iload hc 6 d_Model_walks_193 rfl ?_
          obtain ⟨q20, hw⟩ := hw
          refine V_iald hc q13 q14 q20 d_Model_walks_195 ?_
          refine V_iconst (v := 1) hc d_Model_walks_196 (by decide) ?_
          refine V_iadd hc d_Model_walks_197 ?_
          obtain ⟨q21, hw⟩ := hw
          refine V_iald hc q17 q18 q21 d_Model_walks_198 ?_
          refine V_bipush (v := 46) hc d_Model_walks_199 (by decide) ?_
          refine V_icmp_ne (tgt := 208) hc d_Model_walks_201 (by decide) (fun hq1 => ?_) (fun hq1 => ?_)
          · replace hw := hw.1 hq1
            refine V_sub (lv' := [(0, va_rf (some v0)), (2, .int (v2)), (3, .int (v3)), (4, .int (v4)), (5, .int (v5)), (6, .int (v6))]) [1, 2, 3, 4, 5, 6] rfl ?_
            exact vb_Model_walks_208 hc hq X132 hX132 _ _ _ _ _ _ _ hw
          · replace hw := hw.2 hq1
            refine V_iconst (v := 1) hc d_Model_walks_204 (by decide) ?_
            refine V_goto (tgt := 209) hc d_Model_walks_205 (by decide) ?_
            refine V_sub (lv' := [(0, va_rf (some v0)), (2, .int (v2)), (3, .int (v3)), (4, .int (v4)), (5, .int (v5)), (6, .int (v6))]) [1, 2, 3, 4, 5, 6] rfl ?_
            exact vb_Model_walks_209 hc hq X132 hX132 _ _ _ _ _ _ _ _ hw
theorem vl_Model_walks_132 {E : mm_E} {Z : mm_M → Prop} (hc : cx E "EpochServerModel" c_Model_walks 9 none rm_Model_walks) (hq : cq E rm_Model_walks (pV Z))  (v0 : Nat) (v2 : Int32) (v3 : Int32) (v4 : Int32) (v5 : Int32) (v6 : Int32) (h : mm_M) (hw : lp_Model_walks_132  (mm_ge (eG E)) v0 v2 v3 v4 v5 v6 h Z) : V E 9 0 0 h 132 [(0, va_rf (some v0)), (2, .int (v2)), (3, .int (v3)), (4, .int (v4)), (5, .int (v5)), (6, .int (v6))] [] :=
  hw (fun v0 v2 v3 v4 v5 v6 h => V E 9 0 0 h 132 [(0, va_rf (some v0)), (2, .int (v2)), (3, .int (v3)), (4, .int (v4)), (5, .int (v5)), (6, .int (v6))] []) (fun v0 v2 v3 v4 v5 v6 h hb => vb_Model_walks_132 hc hq  _ (fun _ _ _ _ _ _ _ q => q) v0 v2 v3 v4 v5 v6 h hb)
set_option maxRecDepth 100000 in
set_option maxHeartbeats 4000000 in
theorem vb_Model_walks_96 {E : mm_E} {Z : mm_M → Prop} (hc : cx E "EpochServerModel" c_Model_walks 9 none rm_Model_walks) (hq : cq E rm_Model_walks (pV Z))  (v0 : Nat) (v1 : Int32) (v2 : Int32) (s0 : Option Nat) (s1 : Int32) (h : mm_M) (hw : wq_Model_walks_96  (mm_ge (eG E)) v0 v1 v2 s0 s1 h Z) : V E 9 0 0 h 96 [(0, va_rf (some v0)), (1, .int (v1)), (2, .int (v2))] [.int (s1), va_rf (s0)] := by
  unfold wq_Model_walks_96 at hw
  refine V_bipush (v := 7) hc d_Model_walks_96 (by decide) ?_
  obtain ⟨a1, q2, hw⟩ := hw
  obtain ⟨q3, hw⟩ := hw
  refine V_callV (rm' := rm_Model_fails) (As := [.int (s1), .int (7)]) (rest := []) (n := 2) (cn := 0) hc q2 q3 (sat_Model_fails (eG E) _ _ _ _ _ hw) rfl cv_Model_249 (gw_of (tw_5 (List.mem_of_getElem? (i := 209) rfl)) rfl) ss_Model_fails rfl ⟨by decide, by decide⟩ (by decide) (by decide) rfl (by simp [cat_rf, cat_i, cat_l]) d_Model_walks_98 (fun r0 h4 hw => ?_)
  obtain ⟨r5, rfl, hw⟩ := hw
  refine V_wide (cs' := 0) (sl' := 0) (by decide) (by decide) ?_
  refine V_st (st' := [.int (r5)]) rfl ?_
  refine V_if_eq (tgt := 105) hc d_Model_walks_101 (by decide) (fun hq1 => ?_) (fun hq1 => ?_)
  · replace hw := hw.1 hq1
    refine V_aload_n hc 0 d_Model_walks_105 rfl rfl ?_
    obtain ⟨q6, hw⟩ := hw
    refine V_get (v := va_rf (mm_P h4 v0 22)) hc gf_Model_53 rfl q6 rfl d_Model_walks_106 ?_
    refine V_iload_n hc 1 d_Model_walks_109 rfl rfl ?_
    obtain ⟨a7, q8, hw⟩ := hw
    obtain ⟨q9, hw⟩ := hw
    obtain ⟨q10, hw⟩ := hw
    refine V_iald hc q8 q9 q10 d_Model_walks_110 ?_
    refine V_istore_n (i := 3) (lv' := [(3, .int (mm_I h4 a7 (Int32.toNatClampNeg (v1)))), (0, va_rf (some v0)), (1, .int (v1)), (2, .int (v2))]) hc d_Model_walks_111 rfl (by decide) rfl ?_
    refine V_aload_n hc 1 d_Model_walks_112 rfl rfl ?_
    refine V_get (v := va_rf (mm_P h4 v0 23)) hc gf_Model_56 rfl q6 rfl d_Model_walks_113 ?_
    refine V_iload_n hc 2 d_Model_walks_116 rfl rfl ?_
    obtain ⟨a11, q12, hw⟩ := hw
    obtain ⟨q13, hw⟩ := hw
    obtain ⟨q14, hw⟩ := hw
    refine V_iald hc q12 q13 q14 d_Model_walks_117 ?_
    refine V_istore (i := 4) (lv' := [(4, .int (mm_I h4 a11 (Int32.toNatClampNeg (v1)))), (3, .int (mm_I h4 a7 (Int32.toNatClampNeg (v1)))), (0, va_rf (some v0)), (1, .int (v1)), (2, .int (v2))]) hc d_Model_walks_118 (by decide) rfl ?_
    refine V_aload_n hc 2 d_Model_walks_120 rfl rfl ?_
    refine V_lconst (v := 0) hc d_Model_walks_121 (by decide) ?_
    refine V_iconst (v := 2) hc d_Model_walks_122 (by decide) ?_
    refine V_callV (rm' := rm_Model_put) (As := [.long (0), .int (2)]) (rest := []) (n := 2) (cn := 0) hc rfl q6 (sat_Model_put (eG E) _ _ _ _ _ hw) rfl cv_Model_212 (gw_of (tw_6 (List.mem_of_getElem? (i := 15) rfl)) rfl) ss_Model_put rfl ⟨by decide, by decide⟩ (by decide) (by decide) rfl (by simp [cat_rf, cat_i, cat_l]) d_Model_walks_123 (fun r0 h15 hw => ?_)
    obtain ⟨rfl, hw⟩ := hw
    refine V_wide (cs' := 0) (sl' := 0) (by decide) (by decide) ?_
    refine V_st (st' := []) rfl ?_
    refine V_iconst (v := 0) hc d_Model_walks_126 (by decide) ?_
    refine V_istore (i := 5) (lv' := [(5, .int (0)), (4, .int (mm_I h4 a11 (Int32.toNatClampNeg (v1)))), (3, .int (mm_I h4 a7 (Int32.toNatClampNeg (v1)))), (0, va_rf (some v0)), (1, .int (v1)), (2, .int (v2))]) hc d_Model_walks_127 (by decide) rfl ?_
    refine V_iconst (v := 0) hc d_Model_walks_129 (by decide) ?_
    refine V_istore (i := 6) (lv' := [(6, .int (0)), (5, .int (0)), (4, .int (mm_I h4 a11 (Int32.toNatClampNeg (v1)))), (3, .int (mm_I h4 a7 (Int32.toNatClampNeg (v1)))), (0, va_rf (some v0)), (1, .int (v1)), (2, .int (v2))]) hc d_Model_walks_130 (by decide) rfl ?_
    refine V_sub (lv' := [(0, va_rf (some v0)), (2, .int (v2)), (3, .int (mm_I h4 a7 (Int32.toNatClampNeg (v1)))), (4, .int (mm_I h4 a11 (Int32.toNatClampNeg (v1)))), (5, .int (0)), (6, .int (0))]) [4, 6, 3, 2, 1, 0] rfl ?_
    exact vl_Model_walks_132 hc hq  _ _ _ _ _ _ _ hw
  · replace hw := hw.2 hq1
    refine V_sub (lv' := []) [] rfl ?_
    exact vb_Model_walks_104 hc hq  _ hw
set_option maxRecDepth 100000 in
set_option maxHeartbeats 4000000 in
theorem vb_Model_walks_95 {E : mm_E} {Z : mm_M → Prop} (hc : cx E "EpochServerModel" c_Model_walks 9 none rm_Model_walks) (hq : cq E rm_Model_walks (pV Z))  (v0 : Nat) (v1 : Int32) (v2 : Int32) (s0 : Option Nat) (h : mm_M) (hw : wq_Model_walks_95  (mm_ge (eG E)) v0 v1 v2 s0 h Z) : V E 9 0 0 h 95 [(0, va_rf (some v0)), (1, .int (v1)), (2, .int (v2))] [va_rf (s0)] := by
  unfold wq_Model_walks_95 at hw
  refine V_iconst (v := 0) hc d_Model_walks_95 (by decide) ?_
  refine V_sub (lv' := [(0, va_rf (some v0)), (1, .int (v1)), (2, .int (v2))]) [0, 1, 2] rfl ?_
  exact vb_Model_walks_96 hc hq  _ _ _ _ _ _ hw
set_option maxRecDepth 100000 in
set_option maxHeartbeats 4000000 in
theorem vb_Model_walks_69 {E : mm_E} {Z : mm_M → Prop} (hc : cx E "EpochServerModel" c_Model_walks 9 none rm_Model_walks) (hq : cq E rm_Model_walks (pV Z))  (v0 : Nat) (v1 : Int32) (v2 : Int32) (s0 : Option Nat) (s1 : Int32) (h : mm_M) (hw : wq_Model_walks_69  (mm_ge (eG E)) v0 v1 v2 s0 s1 h Z) : V E 9 0 0 h 69 [(0, va_rf (some v0)), (1, .int (v1)), (2, .int (v2))] [.int (s1), va_rf (s0)] := by
  unfold wq_Model_walks_69 at hw
  refine V_bipush (v := 6) hc d_Model_walks_69 (by decide) ?_
  obtain ⟨a1, q2, hw⟩ := hw
  obtain ⟨q3, hw⟩ := hw
  refine V_callV (rm' := rm_Model_fails) (As := [.int (s1), .int (6)]) (rest := []) (n := 2) (cn := 0) hc q2 q3 (sat_Model_fails (eG E) _ _ _ _ _ hw) rfl cv_Model_249 (gw_of (tw_5 (List.mem_of_getElem? (i := 209) rfl)) rfl) ss_Model_fails rfl ⟨by decide, by decide⟩ (by decide) (by decide) rfl (by simp [cat_rf, cat_i, cat_l]) d_Model_walks_71 (fun r0 h4 hw => ?_)
  obtain ⟨r5, rfl, hw⟩ := hw
  refine V_wide (cs' := 0) (sl' := 0) (by decide) (by decide) ?_
  refine V_st (st' := [.int (r5)]) rfl ?_
  refine V_if_ne (tgt := 104) hc d_Model_walks_74 (by decide) (fun hq1 => ?_) (fun hq1 => ?_)
  · replace hw := hw.1 hq1
    refine V_sub (lv' := []) [] rfl ?_
    exact vb_Model_walks_104 hc hq  _ hw
  · replace hw := hw.2 hq1
    refine V_aload_n hc 0 d_Model_walks_77 rfl rfl ?_
    refine V_iload_n hc 2 d_Model_walks_78 rfl rfl ?_
    refine V_if_ge (tgt := 95) hc d_Model_walks_79 (by decide) (fun hq1 => ?_) (fun hq1 => ?_)
    · replace hw := hw.1 hq1
      refine V_sub (lv' := [(0, va_rf (some v0)), (1, .int (v1)), (2, .int (v2))]) [0, 1, 2] rfl ?_
      exact vb_Model_walks_95 hc hq  _ _ _ _ _ hw
    · replace hw := hw.2 hq1
      refine V_aload_n hc 0 d_Model_walks_82 rfl rfl ?_
      obtain ⟨q6, hw⟩ := hw
      refine V_get (v := .int (mm_I h4 v0 27)) hc gf_Model_240 rfl q6 rfl d_Model_walks_83 ?_
      refine V_bipush (v := 24) hc d_Model_walks_86 (by decide) ?_
      refine V_icmp_ne (tgt := 95) hc d_Model_walks_88 (by decide) (fun hq1 => ?_) (fun hq1 => ?_)
      · replace hw := hw.1 hq1
        refine V_sub (lv' := [(0, va_rf (some v0)), (1, .int (v1)), (2, .int (v2))]) [0, 1, 2] rfl ?_
        exact vb_Model_walks_95 hc hq  _ _ _ _ _ hw
      · replace hw := hw.2 hq1
        refine V_iconst (v := 1) hc d_Model_walks_91 (by decide) ?_
        refine V_goto (tgt := 96) hc d_Model_walks_92 (by decide) ?_
        refine V_sub (lv' := [(0, va_rf (some v0)), (1, .int (v1)), (2, .int (v2))]) [0, 1, 2] rfl ?_
        exact vb_Model_walks_96 hc hq  _ _ _ _ _ _ hw
set_option maxRecDepth 100000 in
set_option maxHeartbeats 4000000 in
theorem vb_Model_walks_47 {E : mm_E} {Z : mm_M → Prop} (hc : cx E "EpochServerModel" c_Model_walks 9 none rm_Model_walks) (hq : cq E rm_Model_walks (pV Z))  (v0 : Nat) (v1 : Int32) (v2 : Int32) (s0 : Option Nat) (s1 : Int32) (h : mm_M) (hw : wq_Model_walks_47  (mm_ge (eG E)) v0 v1 v2 s0 s1 h Z) : V E 9 0 0 h 47 [(0, va_rf (some v0)), (1, .int (v1)), (2, .int (v2))] [.int (s1), va_rf (s0)] := by
  unfold wq_Model_walks_47 at hw
  refine V_iconst (v := 5) hc d_Model_walks_47 (by decide) ?_
  obtain ⟨a1, q2, hw⟩ := hw
  obtain ⟨q3, hw⟩ := hw
  refine V_callV (rm' := rm_Model_fails) (As := [.int (s1), .int (5)]) (rest := []) (n := 2) (cn := 0) hc q2 q3 (sat_Model_fails (eG E) _ _ _ _ _ hw) rfl cv_Model_249 (gw_of (tw_5 (List.mem_of_getElem? (i := 209) rfl)) rfl) ss_Model_fails rfl ⟨by decide, by decide⟩ (by decide) (by decide) rfl (by simp [cat_rf, cat_i, cat_l]) d_Model_walks_48 (fun r0 h4 hw => ?_)
  obtain ⟨r5, rfl, hw⟩ := hw
  refine V_wide (cs' := 0) (sl' := 0) (by decide) (by decide) ?_
  refine V_st (st' := [.int (r5)]) rfl ?_
  refine V_if_ne (tgt := 104) hc d_Model_walks_51 (by decide) (fun hq1 => ?_) (fun hq1 => ?_)
  · replace hw := hw.1 hq1
    refine V_sub (lv' := []) [] rfl ?_
    exact vb_Model_walks_104 hc hq  _ hw
  · replace hw := hw.2 hq1
    refine V_aload_n hc 0 d_Model_walks_54 rfl rfl ?_
    refine V_aload_n hc 0 d_Model_walks_55 rfl rfl ?_
    obtain ⟨q6, hw⟩ := hw
    refine V_get (v := .int (mm_I h4 v0 37)) hc gf_Model_153 rfl q6 rfl d_Model_walks_56 ?_
    refine V_bipush (v := 16) hc d_Model_walks_59 (by decide) ?_
    refine V_icmp_le (tgt := 68) hc d_Model_walks_61 (by decide) (fun hq1 => ?_) (fun hq1 => ?_)
    · replace hw := hw.1 hq1
      refine V_iconst (v := 0) hc d_Model_walks_68 (by decide) ?_
      refine V_sub (lv' := [(0, va_rf (some v0)), (1, .int (v1)), (2, .int (v2))]) [0, 1, 2] rfl ?_
      exact vb_Model_walks_69 hc hq  _ _ _ _ _ _ hw
    · replace hw := hw.2 hq1
      refine V_iconst (v := 1) hc d_Model_walks_64 (by decide) ?_
      refine V_goto (tgt := 69) hc d_Model_walks_65 (by decide) ?_
      refine V_sub (lv' := [(0, va_rf (some v0)), (1, .int (v1)), (2, .int (v2))]) [0, 1, 2] rfl ?_
      exact vb_Model_walks_69 hc hq  _ _ _ _ _ _ hw
set_option maxRecDepth 100000 in
set_option maxHeartbeats 4000000 in
theorem vb_Model_walks_46 {E : mm_E} {Z : mm_M → Prop} (hc : cx E "EpochServerModel" c_Model_walks 9 none rm_Model_walks) (hq : cq E rm_Model_walks (pV Z))  (v0 : Nat) (v1 : Int32) (v2 : Int32) (s0 : Option Nat) (h : mm_M) (hw : wq_Model_walks_46  (mm_ge (eG E)) v0 v1 v2 s0 h Z) : V E 9 0 0 h 46 [(0, va_rf (some v0)), (1, .int (v1)), (2, .int (v2))] [va_rf (s0)] := by
  unfold wq_Model_walks_46 at hw
  refine V_iconst (v := 0) hc d_Model_walks_46 (by decide) ?_
  refine V_sub (lv' := [(0, va_rf (some v0)), (1, .int (v1)), (2, .int (v2))]) [0, 1, 2] rfl ?_
  exact vb_Model_walks_47 hc hq  _ _ _ _ _ _ hw
set_option maxRecDepth 100000 in
set_option maxHeartbeats 4000000 in
theorem vb_Model_walks_15 {E : mm_E} {Z : mm_M → Prop} (hc : cx E "EpochServerModel" c_Model_walks 9 none rm_Model_walks) (hq : cq E rm_Model_walks (pV Z))  (v0 : Nat) (v1 : Int32) (s0 : Option Nat) (s1 : Int32) (h : mm_M) (hw : wq_Model_walks_15  (mm_ge (eG E)) v0 v1 s0 s1 h Z) : V E 9 0 0 h 15 [(0, va_rf (some v0)), (1, .int (v1))] [.int (s1), va_rf (s0)] := by
  unfold wq_Model_walks_15 at hw
  refine V_iconst (v := 3) hc d_Model_walks_15 (by decide) ?_
  obtain ⟨a1, q2, hw⟩ := hw
  obtain ⟨q3, hw⟩ := hw
  refine V_callV (rm' := rm_Model_fails) (As := [.int (s1), .int (3)]) (rest := []) (n := 2) (cn := 0) hc q2 q3 (sat_Model_fails (eG E) _ _ _ _ _ hw) rfl cv_Model_249 (gw_of (tw_5 (List.mem_of_getElem? (i := 209) rfl)) rfl) ss_Model_fails rfl ⟨by decide, by decide⟩ (by decide) (by decide) rfl (by simp [cat_rf, cat_i, cat_l]) d_Model_walks_16 (fun r0 h4 hw => ?_)
  obtain ⟨r5, rfl, hw⟩ := hw
  refine V_wide (cs' := 0) (sl' := 0) (by decide) (by decide) ?_
  refine V_st (st' := [.int (r5)]) rfl ?_
  refine V_if_eq (tgt := 23) hc d_Model_walks_19 (by decide) (fun hq1 => ?_) (fun hq1 => ?_)
  · replace hw := hw.1 hq1
    refine V_aload_n hc 0 d_Model_walks_23 rfl rfl ?_
    refine V_aload_n hc 0 d_Model_walks_24 rfl rfl ?_
    obtain ⟨q6, hw⟩ := hw
    refine V_get (v := .int (mm_I h4 v0 34)) hc gf_Model_150 rfl q6 rfl d_Model_walks_25 ?_
    refine V_callV (rm' := rm_Model_fidOf) (As := [.int (mm_I h4 v0 34)]) (rest := []) (n := 1) (cn := 0) hc rfl q6 (sat_Model_fidOf (eG E) _ _ _ _ hw) rfl cv_Model_256 (gw_of (tw_6 (List.mem_of_getElem? (i := 27) rfl)) rfl) ss_Model_fidOf rfl ⟨by decide, by decide⟩ (by decide) (by decide) rfl (by simp [cat_rf, cat_i, cat_l]) d_Model_walks_28 (fun r0 h7 hw => ?_)
    obtain ⟨r8, rfl, hw⟩ := hw
    refine V_wide (cs' := 0) (sl' := 0) (by decide) (by decide) ?_
    refine V_st (st' := [.int (r8)]) rfl ?_
    refine V_istore_n (i := 2) (lv' := [(2, .int (r8)), (0, va_rf (some v0)), (1, .int (v1))]) hc d_Model_walks_31 rfl (by decide) rfl ?_
    refine V_aload_n hc 1 d_Model_walks_32 rfl rfl ?_
    refine V_iload_n hc 0 d_Model_walks_33 rfl rfl ?_
    refine V_if_lt (tgt := 46) hc d_Model_walks_34 (by decide) (fun hq1 => ?_) (fun hq1 => ?_)
    · replace hw := hw.1 hq1
      refine V_sub (lv' := [(0, va_rf (some v0)), (1, .int (v1)), (2, .int (r8))]) [1, 2, 0] rfl ?_
      exact vb_Model_walks_46 hc hq  _ _ _ _ _ hw
    · replace hw := hw.2 hq1
      refine V_iload_n hc 0 d_Model_walks_37 rfl rfl ?_
      refine V_iload_n hc 2 d_Model_walks_38 rfl rfl ?_
      refine V_icmp_eq (tgt := 46) hc d_Model_walks_39 (by decide) (fun hq1 => ?_) (fun hq1 => ?_)
      · replace hw := hw.1 hq1
        refine V_sub (lv' := [(0, va_rf (some v0)), (1, .int (v1)), (2, .int (r8))]) [1, 2, 0] rfl ?_
        exact vb_Model_walks_46 hc hq  _ _ _ _ _ hw
      · replace hw := hw.2 hq1
        refine V_iconst (v := 1) hc d_Model_walks_42 (by decide) ?_
        refine V_goto (tgt := 47) hc d_Model_walks_43 (by decide) ?_
        refine V_sub (lv' := [(0, va_rf (some v0)), (1, .int (v1)), (2, .int (r8))]) [1, 2, 0] rfl ?_
        exact vb_Model_walks_47 hc hq  _ _ _ _ _ _ hw
  · replace hw := hw.2 hq1
    exact V_vret hc hq ⟨rfl, hw⟩ (by decide) (by decide) d_Model_walks_22
set_option maxRecDepth 100000 in
set_option maxHeartbeats 4000000 in
theorem vb_Model_walks_0 {E : mm_E} {Z : mm_M → Prop} (hc : cx E "EpochServerModel" c_Model_walks 9 none rm_Model_walks) (hq : cq E rm_Model_walks (pV Z))  (v0 : Nat) (v1 : Int32) (h : mm_M) (hw : wq_Model_walks_0  (mm_ge (eG E)) v0 v1 h Z) : V E 9 0 0 h 0 [(0, va_rf (some v0)), (1, .int (v1))] [] := by
  unfold wq_Model_walks_0 at hw
  refine V_aload_n hc 0 d_Model_walks_0 rfl rfl ?_
  refine V_aload_n hc 0 d_Model_walks_1 rfl rfl ?_
  obtain ⟨q1, hw⟩ := hw
  refine V_get (v := va_rf (mm_P h v0 24)) hc gf_Model_59 rfl q1 rfl d_Model_walks_2 ?_
  refine V_iload_n hc 1 d_Model_walks_5 rfl rfl ?_
  obtain ⟨a2, q3, hw⟩ := hw
  obtain ⟨q4, hw⟩ := hw
  obtain ⟨q5, hw⟩ := hw
  refine V_iald hc q3 q4 q5 d_Model_walks_6 ?_
  refine V_if_lt (tgt := 14) hc d_Model_walks_7 (by decide) (fun hq1 => ?_) (fun hq1 => ?_)
  · replace hw := hw.1 hq1
    refine V_iconst (v := 0) hc d_Model_walks_14 (by decide) ?_
    refine V_sub (lv' := [(0, va_rf (some v0)), (1, .int (v1))]) [0, 1] rfl ?_
    exact vb_Model_walks_15 hc hq  _ _ _ _ _ hw
  · replace hw := hw.2 hq1
    refine V_iconst (v := 1) hc d_Model_walks_10 (by decide) ?_
    refine V_goto (tgt := 15) hc d_Model_walks_11 (by decide) ?_
    refine V_sub (lv' := [(0, va_rf (some v0)), (1, .int (v1))]) [0, 1] rfl ?_
    exact vb_Model_walks_15 hc hq  _ _ _ _ _ hw
def wq_Model_walks (ge : Nat → Nat) (v0 : Nat) (v1 : Int32) (h : mm_M) (Z : mm_M → Prop) : Prop := wq_Model_walks_0 ge v0 v1 h Z
theorem sat_Model_walks (G : mm_G) (v0 : Nat) (v1 : Int32) (h : mm_M) (Z : mm_M → Prop) (hw : wq_Model_walks (mm_ge G) v0 v1 h Z) : mm_Met G y_Model_walks c_Model_walks 9 none rm_Model_walks [va_rf (some v0), .int (v1)] h (pV Z) := by
  refine mm_intro (own := "EpochServerModel") (by decide) rfl (by simp [lg_sl, cat_rf, cat_i, cat_l]) (fun E e1 hc hq hi => ?_)
  subst e1
  have e2 : lv_args 0 [va_rf (some v0), .int (v1)] = [(0, va_rf (some v0)), (1, .int (v1))] := by simp [lv_args, cat_rf, cat_i, cat_l]
  rw [e2]
  refine V_sub (lv' := [(0, va_rf (some v0)), (1, .int (v1))]) [0, 1] rfl ?_
  exact vb_Model_walks_0 hc hq v0 v1 h hw
/-! Model.isOddMode()Z -/
abbrev rm_Model_isOddMode : Room := { frames := 0, cells := 0, slots := 0, locals := 0 }
def wq_Model_isOddMode_25  (ge : Nat → Nat) (s0 : Int32) (h : mm_M) (Z : Int32 → mm_M → Prop) : Prop :=
  ((s0) = 0 ∨ (s0) = 1) ∧ Z (s0) h
def wq_Model_isOddMode_20  (ge : Nat → Nat)  (h : mm_M) (Z : Int32 → mm_M → Prop) : Prop :=
  wq_Model_isOddMode_25  ge (1) h Z
def wq_Model_isOddMode_0  (ge : Nat → Nat) (v0 : Nat) (h : mm_M) (Z : Int32 → mm_M → Prop) : Prop :=
  mm_k h (v0) = kd_Model ∧ ((¬ ((mm_I h v0 35) &&& ((-84) : Int32)) = 0 → wq_Model_isOddMode_20  ge h Z) ∧ (((mm_I h v0 35) &&& ((-84) : Int32)) = 0 → ((¬ ((mm_I h v0 35) &&& (3 : Int32) : Int32) = (3 : Int32) → wq_Model_isOddMode_25  ge (0) h Z) ∧ (((mm_I h v0 35) &&& (3 : Int32) : Int32) = (3 : Int32) → wq_Model_isOddMode_20  ge h Z))))
set_option maxRecDepth 100000 in
set_option maxHeartbeats 4000000 in
theorem vb_Model_isOddMode_25 {E : mm_E} {Z : Int32 → mm_M → Prop} (hc : cx E "EpochServerModel" c_Model_isOddMode 1 (some (.boolean)) rm_Model_isOddMode) (hq : cq E rm_Model_isOddMode (pI Z))  (s0 : Int32) (h : mm_M) (hw : wq_Model_isOddMode_25  (mm_ge (eG E)) s0 h Z) : V E 1 0 0 h 25 [] [.int (s0)] := by
  unfold wq_Model_isOddMode_25 at hw
  obtain ⟨q1, hw⟩ := hw
  exact V_zret hc hq (zz_nar q1) ⟨_, rfl, hw⟩ (by decide) (by decide) d_Model_isOddMode_25
set_option maxRecDepth 100000 in
set_option maxHeartbeats 4000000 in
theorem vb_Model_isOddMode_20 {E : mm_E} {Z : Int32 → mm_M → Prop} (hc : cx E "EpochServerModel" c_Model_isOddMode 1 (some (.boolean)) rm_Model_isOddMode) (hq : cq E rm_Model_isOddMode (pI Z))   (h : mm_M) (hw : wq_Model_isOddMode_20  (mm_ge (eG E))  h Z) : V E 1 0 0 h 20 [] [] := by
  unfold wq_Model_isOddMode_20 at hw
  refine V_iconst (v := 1) hc d_Model_isOddMode_20 (by decide) ?_
  refine V_goto (tgt := 25) hc d_Model_isOddMode_21 (by decide) ?_
  refine V_sub (lv' := []) [] rfl ?_
  exact vb_Model_isOddMode_25 hc hq  _ _ hw
set_option maxRecDepth 100000 in
set_option maxHeartbeats 4000000 in
theorem vb_Model_isOddMode_0 {E : mm_E} {Z : Int32 → mm_M → Prop} (hc : cx E "EpochServerModel" c_Model_isOddMode 1 (some (.boolean)) rm_Model_isOddMode) (hq : cq E rm_Model_isOddMode (pI Z))  (v0 : Nat) (h : mm_M) (hw : wq_Model_isOddMode_0  (mm_ge (eG E)) v0 h Z) : V E 1 0 0 h 0 [(0, va_rf (some v0))] [] := by
  unfold wq_Model_isOddMode_0 at hw
  refine V_aload_n hc 0 d_Model_isOddMode_0 rfl rfl ?_
  obtain ⟨q1, hw⟩ := hw
  refine V_get (v := .int (mm_I h v0 35)) hc gf_Model_156 rfl q1 rfl d_Model_isOddMode_1 ?_
  refine V_bipush (v := (-84)) hc d_Model_isOddMode_4 (by decide) ?_
  refine V_iand hc d_Model_isOddMode_6 ?_
  refine V_if_ne (tgt := 20) hc d_Model_isOddMode_7 (by decide) (fun hq1 => ?_) (fun hq1 => ?_)
  · replace hw := hw.1 hq1
    refine V_sub (lv' := []) [] rfl ?_
    exact vb_Model_isOddMode_20 hc hq  _ hw
  · replace hw := hw.2 hq1
    refine V_aload_n hc 0 d_Model_isOddMode_10 rfl rfl ?_
    refine V_get (v := .int (mm_I h v0 35)) hc gf_Model_156 rfl q1 rfl d_Model_isOddMode_11 ?_
    refine V_iconst (v := 3) hc d_Model_isOddMode_14 (by decide) ?_
    refine V_iand hc d_Model_isOddMode_15 ?_
    refine V_iconst (v := 3) hc d_Model_isOddMode_16 (by decide) ?_
    refine V_icmp_ne (tgt := 24) hc d_Model_isOddMode_17 (by decide) (fun hq1 => ?_) (fun hq1 => ?_)
    · replace hw := hw.1 hq1
      refine V_iconst (v := 0) hc d_Model_isOddMode_24 (by decide) ?_
      refine V_sub (lv' := []) [] rfl ?_
      exact vb_Model_isOddMode_25 hc hq  _ _ hw
    · replace hw := hw.2 hq1
      refine V_sub (lv' := []) [] rfl ?_
      exact vb_Model_isOddMode_20 hc hq  _ hw
def wq_Model_isOddMode (ge : Nat → Nat) (v0 : Nat) (h : mm_M) (Z : Int32 → mm_M → Prop) : Prop := wq_Model_isOddMode_0 ge v0 h Z
theorem sat_Model_isOddMode (G : mm_G) (v0 : Nat) (h : mm_M) (Z : Int32 → mm_M → Prop) (hw : wq_Model_isOddMode (mm_ge G) v0 h Z) : mm_Met G y_Model_isOddMode c_Model_isOddMode 1 (some (.boolean)) rm_Model_isOddMode [va_rf (some v0)] h (pI Z) := by
  refine mm_intro (own := "EpochServerModel") (by decide) rfl (by simp [lg_sl, cat_rf, cat_i, cat_l]) (fun E e1 hc hq hi => ?_)
  subst e1
  have e2 : lv_args 0 [va_rf (some v0)] = [(0, va_rf (some v0))] := by simp [lv_args, cat_rf, cat_i, cat_l]
  rw [e2]
  refine V_sub (lv' := [(0, va_rf (some v0))]) [0] rfl ?_
  exact vb_Model_isOddMode_0 hc hq v0 h hw
