/-! Model.wstats(I)V -/
abbrev rm_Model_wstats : Room := { frames := 2, cells := 0, slots := 0, locals := 50 }
def wq_Model_wstats_95  (ge : Nat → Nat)  (h : mm_M) (Z : mm_M → Prop) : Prop :=
  Z h
def wq_Model_wstats_404  (ge : Nat → Nat)  (h : mm_M) (Z : mm_M → Prop) : Prop :=
  Z h
def wq_Model_wstats_386  (ge : Nat → Nat) (v0 : Nat) (v3 : Int32) (h : mm_M) (Z : mm_M → Prop) : Prop :=
  mm_k h (v0) = kd_Model ∧ (((mm_I h v0 49 : Int32) = ((-1) : Int32) → wq_Model_wstats_404  ge h Z) ∧ (¬ (mm_I h v0 49 : Int32) = ((-1) : Int32) → ∃ a2, mm_P h v0 4 = some a2 ∧ mm_k h (a2) = ka_I ∧ vp_in (v3) (mm_n h a2) ∧ ge 0 ≤ a2 ∧ ∀ h7 : mm_M, h7 = mm_uI h a2 (Int32.toNatClampNeg (v3)) (mm_I h v0 49) → wq_Model_wstats_404  ge h7 Z))
def wq_Model_wstats_351  (ge : Nat → Nat) (v0 : Nat) (v3 : Int32) (v5 : Int32) (h : mm_M) (Z : mm_M → Prop) : Prop :=
  (((v5) = 0 → wq_Model_wstats_386  ge (v0) (v3) h Z) ∧ (¬ (v5) = 0 → mm_k h (v0) = kd_Model ∧ ∃ a2, mm_P h v0 5 = some a2 ∧ mm_k h (a2) = ka_I ∧ vp_in (v3) (mm_n h a2) ∧ (((lg_cmp (mm_L h v0 50) (Int32.toInt64 (mm_I h a2 (Int32.toNatClampNeg (v3))))) = 0 → wq_Model_wstats_386  ge (v0) (v3) h Z) ∧ (¬ (lg_cmp (mm_L h v0 50) (Int32.toInt64 (mm_I h a2 (Int32.toNatClampNeg (v3))))) = 0 → wq_Model_sizes ge (v0) (v3) (Int64.toInt32 (mm_L h v0 50)) h (fun h6 : mm_M => mm_k h6 (v0) = kd_Model ∧ wq_Model_changed ge (v0) (v3) h6 (fun h9 : mm_M => wq_Model_wstats_386  ge (v0) (v3) h9 Z))))))
def wq_Model_wstats_336  (ge : Nat → Nat) (v0 : Nat) (v3 : Int32) (v4 : Int32) (v5 : Int32) (h : mm_M) (Z : mm_M → Prop) : Prop :=
  (((v4) = 0 → wq_Model_wstats_351  ge (v0) (v3) (v5) h Z) ∧ (¬ (v4) = 0 → mm_k h (v0) = kd_Model ∧ ∃ a2, mm_P h v0 2 = some a2 ∧ mm_k h (a2) = ka_I ∧ vp_in (v3) (mm_n h a2) ∧ ge 0 ≤ a2 ∧ ∀ h7 : mm_M, h7 = mm_uI h a2 (Int32.toNatClampNeg (v3)) (mm_I h v0 48) → wq_Model_wstats_351  ge (v0) (v3) (v5) h7 Z))
def wq_Model_wstats_313  (ge : Nat → Nat) (v0 : Nat) (v3 : Int32) (v4 : Int32) (v5 : Int32) (s0 : Option Nat) (s1 : Int32) (h : mm_M) (Z : mm_M → Prop) : Prop :=
  ∃ a1, s0 = some a1 ∧ mm_k h (a1) = kd_Model ∧ ge 0 ≤ a1 ∧ ((s1) = 0 ∨ (s1) = 1) ∧ ∀ h6 : mm_M, h6 = mm_uI h (a1) 52 (s1) → mm_k h6 (v0) = kd_Model ∧ (((mm_I h6 v0 39) ≤ 0 → wq_Model_wstats_336  ge (v0) (v3) (v4) (v5) h6 Z) ∧ (¬ (mm_I h6 v0 39) ≤ 0 → wq_Model_names ge (v0) (v3) (mm_I h6 v0 38) (mm_I h6 v0 39) h6 (fun h8 : mm_M => wq_Model_wstats_336  ge (v0) (v3) (v4) (v5) h8 Z)))
def wq_Model_wstats_312  (ge : Nat → Nat) (v0 : Nat) (v3 : Int32) (v4 : Int32) (v5 : Int32) (s0 : Option Nat) (h : mm_M) (Z : mm_M → Prop) : Prop :=
  wq_Model_wstats_313  ge (v0) (v3) (v4) (v5) (s0) (0) h Z
def wq_Model_wstats_273  (ge : Nat → Nat) (v0 : Nat) (v3 : Int32) (v4 : Int32) (v5 : Int32) (s0 : Option Nat) (s1 : Int32) (h : mm_M) (Z : mm_M → Prop) : Prop :=
  ∃ a1, s0 = some a1 ∧ mm_k h (a1) = kd_Model ∧ wq_Model_fails ge (a1) (s1) (9) h (fun (r5 : Int32) (h4 : mm_M) => (((r5) = 0 → mm_k h4 (v0) = kd_Model ∧ ((¬ (mm_I h4 v0 39) = 0 → wq_Model_wstats_312  ge (v0) (v3) (v4) (v5) (some v0) h4 Z) ∧ ((mm_I h4 v0 39) = 0 → ((¬ (v4) = 0 → wq_Model_wstats_312  ge (v0) (v3) (v4) (v5) (some v0) h4 Z) ∧ ((v4) = 0 → ((¬ (v5) = 0 → wq_Model_wstats_312  ge (v0) (v3) (v4) (v5) (some v0) h4 Z) ∧ ((v5) = 0 → ((¬ (mm_I h4 v0 49 : Int32) = ((-1) : Int32) → wq_Model_wstats_312  ge (v0) (v3) (v4) (v5) (some v0) h4 Z) ∧ ((mm_I h4 v0 49 : Int32) = ((-1) : Int32) → wq_Model_wstats_313  ge (v0) (v3) (v4) (v5) (some v0) (1) h4 Z))))))))) ∧ (¬ (r5) = 0 → Z h4)))
def wq_Model_wstats_272  (ge : Nat → Nat) (v0 : Nat) (v3 : Int32) (v4 : Int32) (v5 : Int32) (s0 : Option Nat) (h : mm_M) (Z : mm_M → Prop) : Prop :=
  wq_Model_wstats_273  ge (v0) (v3) (v4) (v5) (s0) (0) h Z
def wq_Model_wstats_268  (ge : Nat → Nat) (v0 : Nat) (v3 : Int32) (v4 : Int32) (v5 : Int32) (s0 : Option Nat) (h : mm_M) (Z : mm_M → Prop) : Prop :=
  wq_Model_wstats_273  ge (v0) (v3) (v4) (v5) (s0) (1) h Z
def wq_Model_wstats_232  (ge : Nat → Nat) (v0 : Nat) (v3 : Int32) (v4 : Int32) (s0 : Int32) (h : mm_M) (Z : mm_M → Prop) : Prop :=
  (((s0) = 0 → wq_Model_wstats_272  ge (v0) (v3) (v4) (s0) (some v0) h Z) ∧ (¬ (s0) = 0 → mm_k h (v0) = kd_Model ∧ wq_Model_isDirectory ge (v0) (v3) h (fun (r3 : Int32) (h2 : mm_M) => ((¬ (r3) = 0 → wq_Model_wstats_268  ge (v0) (v3) (v4) (s0) (some v0) h2 Z) ∧ ((r3) = 0 → mm_k h2 (v0) = kd_Model ∧ (((lg_cmp (mm_L h2 v0 50) (0)) < 0 → wq_Model_wstats_268  ge (v0) (v3) (v4) (s0) (some v0) h2 Z) ∧ (¬ (lg_cmp (mm_L h2 v0 50) (0)) < 0 → (((lg_cmp (mm_L h2 v0 50) (512)) ≤ 0 → wq_Model_wstats_272  ge (v0) (v3) (v4) (s0) (some v0) h2 Z) ∧ (¬ (lg_cmp (mm_L h2 v0 50) (512)) ≤ 0 → wq_Model_wstats_268  ge (v0) (v3) (v4) (s0) (some v0) h2 Z)))))))))
def wq_Model_wstats_207  (ge : Nat → Nat) (v0 : Nat) (v3 : Int32) (v4 : Int32) (s0 : Option Nat) (s1 : Int32) (h : mm_M) (Z : mm_M → Prop) : Prop :=
  ∃ a1, s0 = some a1 ∧ mm_k h (a1) = kd_Model ∧ wq_Model_fails ge (a1) (s1) (8) h (fun (r5 : Int32) (h4 : mm_M) => (((r5) = 0 → mm_k h4 (v0) = kd_Model ∧ (((lg_cmp (mm_L h4 v0 50) ((-1))) = 0 → wq_Model_wstats_232  ge (v0) (v3) (v4) (0) h4 Z) ∧ (¬ (lg_cmp (mm_L h4 v0 50) ((-1))) = 0 → wq_Model_wstats_232  ge (v0) (v3) (v4) (1) h4 Z))) ∧ (¬ (r5) = 0 → Z h4)))
def wq_Model_wstats_206  (ge : Nat → Nat) (v0 : Nat) (v3 : Int32) (v4 : Int32) (s0 : Option Nat) (h : mm_M) (Z : mm_M → Prop) : Prop :=
  wq_Model_wstats_207  ge (v0) (v3) (v4) (s0) (0) h Z
def wq_Model_wstats_202  (ge : Nat → Nat) (v0 : Nat) (v3 : Int32) (v4 : Int32) (s0 : Option Nat) (h : mm_M) (Z : mm_M → Prop) : Prop :=
  wq_Model_wstats_207  ge (v0) (v3) (v4) (s0) (1) h Z
def wq_Model_wstats_183  (ge : Nat → Nat) (v0 : Nat) (v3 : Int32) (v4 : Int32) (s0 : Option Nat) (s1 : Int32) (h : mm_M) (Z : mm_M → Prop) : Prop :=
  mm_k h (v0) = kd_Model ∧ wq_Model_isDirectory ge (v0) (v3) h (fun (r3 : Int32) (h2 : mm_M) => ((¬ (s1 : Int32) = (r3 : Int32) → wq_Model_wstats_202  ge (v0) (v3) (v4) (s0) h2 Z) ∧ ((s1 : Int32) = (r3 : Int32) → mm_k h2 (v0) = kd_Model ∧ ((((mm_I h2 v0 48) &&& (2147483136 : Int32)) = 0 → wq_Model_wstats_206  ge (v0) (v3) (v4) (s0) h2 Z) ∧ (¬ ((mm_I h2 v0 48) &&& (2147483136 : Int32)) = 0 → wq_Model_wstats_202  ge (v0) (v3) (v4) (s0) h2 Z)))))
def wq_Model_wstats_163  (ge : Nat → Nat) (v0 : Nat) (v3 : Int32) (s0 : Int32) (h : mm_M) (Z : mm_M → Prop) : Prop :=
  (((s0) = 0 → wq_Model_wstats_206  ge (v0) (v3) (s0) (some v0) h Z) ∧ (¬ (s0) = 0 → mm_k h (v0) = kd_Model ∧ ((0 ≤ (mm_I h v0 48) → wq_Model_wstats_183  ge (v0) (v3) (s0) (some v0) (0) h Z) ∧ (¬ 0 ≤ (mm_I h v0 48) → wq_Model_wstats_183  ge (v0) (v3) (s0) (some v0) (1) h Z))))
def wq_Model_wstats_150  (ge : Nat → Nat) (v0 : Nat) (v3 : Int32) (h : mm_M) (Z : mm_M → Prop) : Prop :=
  mm_k h (v0) = kd_Model ∧ (((mm_I h v0 48 : Int32) = ((-1) : Int32) → wq_Model_wstats_163  ge (v0) (v3) (0) h Z) ∧ (¬ (mm_I h v0 48 : Int32) = ((-1) : Int32) → wq_Model_wstats_163  ge (v0) (v3) (1) h Z))
def wq_Model_wstats_141  (ge : Nat → Nat) (v0 : Nat) (v3 : Int32) (s0 : Option Nat) (s1 : Int32) (h : mm_M) (Z : mm_M → Prop) : Prop :=
  ∃ a1, s0 = some a1 ∧ mm_k h (a1) = kd_Model ∧ wq_Model_fails ge (a1) (s1) (7) h (fun (r5 : Int32) (h4 : mm_M) => (((r5) = 0 → wq_Model_wstats_150  ge (v0) (v3) h4 Z) ∧ (¬ (r5) = 0 → Z h4)))
def wq_Model_wstats_140  (ge : Nat → Nat) (v0 : Nat) (v3 : Int32) (s0 : Option Nat) (h : mm_M) (Z : mm_M → Prop) : Prop :=
  wq_Model_wstats_141  ge (v0) (v3) (s0) (0) h Z
def wq_Model_wstats_87  (ge : Nat → Nat) (v0 : Nat) (v2 : Int32) (v3 : Int32) (s0 : Option Nat) (s1 : Int32) (h : mm_M) (Z : mm_M → Prop) : Prop :=
  ∃ a1, s0 = some a1 ∧ mm_k h (a1) = kd_Model ∧ wq_Model_fails ge (a1) (s1) (6) h (fun (r5 : Int32) (h4 : mm_M) => (((r5) = 0 → mm_k h4 (v0) = kd_Model ∧ (((mm_I h4 v0 39) ≤ 0 → wq_Model_wstats_150  ge (v0) (v3) h4 Z) ∧ (¬ (mm_I h4 v0 39) ≤ 0 → ∃ a7, mm_P h4 v0 1 = some a7 ∧ mm_k h4 (a7) = ka_I ∧ vp_in (v3) (mm_n h4 a7) ∧ wq_Model_child ge (v0) (0) (mm_I h4 a7 (Int32.toNatClampNeg (v3))) (mm_I h4 v0 38) (mm_I h4 v0 39) h4 (fun (r12 : Int32) (h11 : mm_M) => (((r12) < 0 → wq_Model_wstats_140  ge (v0) (v3) (some v0) h11 Z) ∧ (¬ (r12) < 0 → (((r12 : Int32) = (v2 : Int32) → wq_Model_wstats_140  ge (v0) (v3) (some v0) h11 Z) ∧ (¬ (r12 : Int32) = (v2 : Int32) → wq_Model_wstats_141  ge (v0) (v3) (some v0) (1) h11 Z)))))))) ∧ (¬ (r5) = 0 → wq_Model_wstats_95  ge h4 Z)))
def wq_Model_wstats_86  (ge : Nat → Nat) (v0 : Nat) (v2 : Int32) (v3 : Int32) (s0 : Option Nat) (h : mm_M) (Z : mm_M → Prop) : Prop :=
  wq_Model_wstats_87  ge (v0) (v2) (v3) (s0) (0) h Z
def wq_Model_wstats_82  (ge : Nat → Nat) (v0 : Nat) (v2 : Int32) (v3 : Int32) (s0 : Option Nat) (h : mm_M) (Z : mm_M → Prop) : Prop :=
  wq_Model_wstats_87  ge (v0) (v2) (v3) (s0) (1) h Z
def wq_Model_wstats_48  (ge : Nat → Nat) (v0 : Nat) (v2 : Int32) (v3 : Int32) (s0 : Option Nat) (s1 : Int32) (h : mm_M) (Z : mm_M → Prop) : Prop :=
  ∃ a1, s0 = some a1 ∧ mm_k h (a1) = kd_Model ∧ wq_Model_fails ge (a1) (s1) (5) h (fun (r5 : Int32) (h4 : mm_M) => ((¬ (r5) = 0 → wq_Model_wstats_95  ge h4 Z) ∧ ((r5) = 0 → mm_k h4 (v0) = kd_Model ∧ (((mm_I h4 v0 39) ≤ 0 → wq_Model_wstats_86  ge (v0) (v2) (v3) (some v0) h4 Z) ∧ (¬ (mm_I h4 v0 39) ≤ 0 → (((v2) = 0 → wq_Model_wstats_82  ge (v0) (v2) (v3) (some v0) h4 Z) ∧ (¬ (v2) = 0 → wq_Model_isName ge (v0) (mm_I h4 v0 38) (mm_I h4 v0 39) h4 (fun (r8 : Int32) (h7 : mm_M) => ((¬ (r8) = 0 → wq_Model_wstats_86  ge (v0) (v2) (v3) (some v0) h7 Z) ∧ ((r8) = 0 → wq_Model_wstats_82  ge (v0) (v2) (v3) (some v0) h7 Z))))))))))
def wq_Model_wstats_28  (ge : Nat → Nat) (v0 : Nat) (v2 : Int32) (v3 : Int32) (s0 : Option Nat) (s1 : Int32) (h : mm_M) (Z : mm_M → Prop) : Prop :=
  ∃ a1, s0 = some a1 ∧ mm_k h (a1) = kd_Model ∧ wq_Model_fails ge (a1) (s1) (3) h (fun (r5 : Int32) (h4 : mm_M) => ((¬ (r5) = 0 → wq_Model_wstats_95  ge h4 Z) ∧ ((r5) = 0 → mm_k h4 (v0) = kd_Model ∧ ((¬ (mm_I h4 v0 51) = 0 → wq_Model_wstats_48  ge (v0) (v2) (v3) (some v0) (0) h4 Z) ∧ ((mm_I h4 v0 51) = 0 → wq_Model_wstats_48  ge (v0) (v2) (v3) (some v0) (1) h4 Z)))))
def wq_Model_wstats_0  (ge : Nat → Nat) (v0 : Nat) (v1 : Int32) (h : mm_M) (Z : mm_M → Prop) : Prop :=
  mm_k h (v0) = kd_Model ∧ ∃ a2, mm_P h v0 23 = some a2 ∧ mm_k h (a2) = ka_I ∧ vp_in (v1) (mm_n h a2) ∧ wq_Model_spot ge (0) (mm_I h a2 (Int32.toNatClampNeg (v1))) h (fun (r7 : Int32) (h6 : mm_M) => mm_k h6 (v0) = kd_Model ∧ ∃ a9, mm_P h6 v0 22 = some a9 ∧ mm_k h6 (a9) = ka_I ∧ vp_in (v1) (mm_n h6 a9) ∧ (((mm_I h6 a9 (Int32.toNatClampNeg (v1))) = 0 → wq_Model_wstats_28  ge (v0) (mm_I h a2 (Int32.toNatClampNeg (v1))) (r7) (some v0) (0) h6 Z) ∧ (¬ (mm_I h6 a9 (Int32.toNatClampNeg (v1))) = 0 → wq_Model_wstats_28  ge (v0) (mm_I h a2 (Int32.toNatClampNeg (v1))) (r7) (some v0) (1) h6 Z)))
set_option maxRecDepth 100000 in
set_option maxHeartbeats 4000000 in
theorem vb_Model_wstats_95 {E : mm_E} {Z : mm_M → Prop} (hc : cx E "EpochServerModel" c_Model_wstats 6 none rm_Model_wstats) (hq : cq E rm_Model_wstats (pV Z))   (h : mm_M) (hw : wq_Model_wstats_95  (mm_ge (eG E))  h Z) : V E 6 0 0 h 95 [] [] := by
  unfold wq_Model_wstats_95 at hw
  exact V_vret hc hq ⟨rfl, hw⟩ (by decide) (by decide) d_Model_wstats_95
set_option maxRecDepth 100000 in
set_option maxHeartbeats 4000000 in
theorem vb_Model_wstats_404 {E : mm_E} {Z : mm_M → Prop} (hc : cx E "EpochServerModel" c_Model_wstats 6 none rm_Model_wstats) (hq : cq E rm_Model_wstats (pV Z))   (h : mm_M) (hw : wq_Model_wstats_404  (mm_ge (eG E))  h Z) : V E 6 0 0 h 404 [] [] := by
  unfold wq_Model_wstats_404 at hw
  exact V_vret hc hq ⟨rfl, hw⟩ (by decide) (by decide) d_Model_wstats_404
set_option maxRecDepth 100000 in
set_option maxHeartbeats 4000000 in
theorem vb_Model_wstats_386 {E : mm_E} {Z : mm_M → Prop} (hc : cx E "EpochServerModel" c_Model_wstats 6 none rm_Model_wstats) (hq : cq E rm_Model_wstats (pV Z))  (v0 : Nat) (v3 : Int32) (h : mm_M) (hw : wq_Model_wstats_386  (mm_ge (eG E)) v0 v3 h Z) : V E 6 0 0 h 386 [(0, va_rf (some v0)), (3, .int (v3))] [] := by
  unfold wq_Model_wstats_386 at hw
  refine V_aload_n hc 0 d_Model_wstats_386 rfl rfl ?_
  obtain ⟨q1, hw⟩ := hw
  refine V_get (v := .int (mm_I h v0 49)) hc gf_Model_181 rfl q1 rfl d_Model_wstats_387 ?_
  refine V_iconst (v := (-1)) hc d_Model_wstats_390 (by decide) ?_
  refine V_icmp_eq (tgt := 404) hc d_Model_wstats_391 (by decide) (fun hq1 => ?_) (fun hq1 => ?_)
  · replace hw := hw.1 hq1
    refine V_sub (lv' := []) [] rfl ?_
    exact vb_Model_wstats_404 hc hq  _ hw
  · replace hw := hw.2 hq1
    refine V_aload_n hc 0 d_Model_wstats_394 rfl rfl ?_
    refine V_get (v := va_rf (mm_P h v0 4)) hc gf_Model_23 rfl q1 rfl d_Model_wstats_395 ?_
    refine V_iload_n hc 1 d_Model_wstats_398 rfl rfl ?_
    refine V_aload_n hc 0 d_Model_wstats_399 rfl rfl ?_
    refine V_get (v := .int (mm_I h v0 49)) hc gf_Model_181 rfl q1 rfl d_Model_wstats_400 ?_
    obtain ⟨a2, q3, hw⟩ := hw
    obtain ⟨q4, hw⟩ := hw
    obtain ⟨q5, hw⟩ := hw
    obtain ⟨q6, hw⟩ := hw
    obtain ⟨h7, eq_h7⟩ : ∃ x, x = mm_uI h a2 (Int32.toNatClampNeg (v3)) (mm_I h v0 49) := ⟨_, rfl⟩
    replace hw := hw _ eq_h7
    refine V_iast hc q3 q4 q5 q6 d_Model_wstats_403 ?_
    rw [← eq_h7]
    refine V_sub (lv' := []) [] rfl ?_
    exact vb_Model_wstats_404 hc hq  _ hw
set_option maxRecDepth 100000 in
set_option maxHeartbeats 4000000 in
theorem vb_Model_wstats_351 {E : mm_E} {Z : mm_M → Prop} (hc : cx E "EpochServerModel" c_Model_wstats 6 none rm_Model_wstats) (hq : cq E rm_Model_wstats (pV Z))  (v0 : Nat) (v3 : Int32) (v5 : Int32) (h : mm_M) (hw : wq_Model_wstats_351  (mm_ge (eG E)) v0 v3 v5 h Z) : V E 6 0 0 h 351 [(0, va_rf (some v0)), (3, .int (v3)), (5, .int (v5))] [] := by
  unfold wq_Model_wstats_351 at hw
  refine V_iload hc 2 d_Model_wstats_351 rfl ?_
  refine V_if_eq (tgt := 386) hc d_Model_wstats_353 (by decide) (fun hq1 => ?_) (fun hq1 => ?_)
  · replace hw := hw.1 hq1
    refine V_sub (lv' := [(0, va_rf (some v0)), (3, .int (v3))]) [0, 1] rfl ?_
    exact vb_Model_wstats_386 hc hq  _ _ _ hw
  · replace hw := hw.2 hq1
    refine V_aload_n hc 0 d_Model_wstats_356 rfl rfl ?_
    obtain ⟨q1, hw⟩ := hw
    refine V_get (v := .long (mm_L h v0 50)) hc gf_Model_184 rfl q1 rfl d_Model_wstats_357 ?_
    refine V_aload_n hc 0 d_Model_wstats_360 rfl rfl ?_
    refine V_get (v := va_rf (mm_P h v0 5)) hc gf_Model_26 rfl q1 rfl d_Model_wstats_361 ?_
    refine V_iload_n hc 1 d_Model_wstats_364 rfl rfl ?_
    obtain ⟨a2, q3, hw⟩ := hw
    obtain ⟨q4, hw⟩ := hw
    obtain ⟨q5, hw⟩ := hw
    refine V_iald hc q3 q4 q5 d_Model_wstats_365 ?_
    refine V_i2l hc d_Model_wstats_366 ?_
    refine V_lcmp hc d_Model_wstats_367 ?_
    refine V_if_eq (tgt := 386) hc d_Model_wstats_368 (by decide) (fun hq1 => ?_) (fun hq1 => ?_)
    · replace hw := hw.1 hq1
      refine V_sub (lv' := [(0, va_rf (some v0)), (3, .int (v3))]) [0, 1] rfl ?_
      exact vb_Model_wstats_386 hc hq  _ _ _ hw
    · replace hw := hw.2 hq1
      refine V_aload_n hc 0 d_Model_wstats_371 rfl rfl ?_
      refine V_iload_n hc 1 d_Model_wstats_372 rfl rfl ?_
      refine V_aload_n hc 0 d_Model_wstats_373 rfl rfl ?_
      refine V_get (v := .long (mm_L h v0 50)) hc gf_Model_184 rfl q1 rfl d_Model_wstats_374 ?_
      refine V_l2i hc d_Model_wstats_377 ?_
      refine V_callV (rm' := rm_Model_sizes) (As := [.int (v3), .int (Int64.toInt32 (mm_L h v0 50))]) (rest := []) (n := 2) (cn := 0) hc rfl q1 (sat_Model_sizes (eG E) _ _ _ _ _ hw) rfl cv_Model_346 (gw_of (tw_6 (List.mem_of_getElem? (i := 118) rfl)) rfl) ss_Model_sizes rfl ⟨by decide, by decide⟩ (by decide) (by decide) rfl (by simp [cat_rf, cat_i, cat_l]) d_Model_wstats_378 (fun r0 h6 hw => ?_)
      obtain ⟨rfl, hw⟩ := hw
      refine V_wide (cs' := 0) (sl' := 0) (by decide) (by decide) ?_
      refine V_st (st' := []) rfl ?_
      refine V_aload_n hc 0 d_Model_wstats_381 rfl rfl ?_
      refine V_iload_n hc 1 d_Model_wstats_382 rfl rfl ?_
      obtain ⟨q8, hw⟩ := hw
      refine V_callV (rm' := rm_Model_changed) (As := [.int (v3)]) (rest := []) (n := 1) (cn := 0) hc rfl q8 (sat_Model_changed (eG E) _ _ _ _ hw) rfl cv_Model_334 (gw_of (tw_6 (List.mem_of_getElem? (i := 68) rfl)) rfl) ss_Model_changed rfl ⟨by decide, by decide⟩ (by decide) (by decide) rfl (by simp [cat_rf, cat_i, cat_l]) d_Model_wstats_383 (fun r0 h9 hw => ?_)
      obtain ⟨rfl, hw⟩ := hw
      refine V_wide (cs' := 0) (sl' := 0) (by decide) (by decide) ?_
      refine V_st (st' := []) rfl ?_
      refine V_sub (lv' := [(0, va_rf (some v0)), (3, .int (v3))]) [0, 1] rfl ?_
      exact vb_Model_wstats_386 hc hq  _ _ _ hw
set_option maxRecDepth 100000 in
set_option maxHeartbeats 4000000 in
theorem vb_Model_wstats_336 {E : mm_E} {Z : mm_M → Prop} (hc : cx E "EpochServerModel" c_Model_wstats 6 none rm_Model_wstats) (hq : cq E rm_Model_wstats (pV Z))  (v0 : Nat) (v3 : Int32) (v4 : Int32) (v5 : Int32) (h : mm_M) (hw : wq_Model_wstats_336  (mm_ge (eG E)) v0 v3 v4 v5 h Z) : V E 6 0 0 h 336 [(0, va_rf (some v0)), (3, .int (v3)), (4, .int (v4)), (5, .int (v5))] [] := by
  unfold wq_Model_wstats_336 at hw
  refine V_iload hc 2 d_Model_wstats_336 rfl ?_
  refine V_if_eq (tgt := 351) hc d_Model_wstats_338 (by decide) (fun hq1 => ?_) (fun hq1 => ?_)
  · replace hw := hw.1 hq1
    refine V_sub (lv' := [(0, va_rf (some v0)), (3, .int (v3)), (5, .int (v5))]) [0, 1, 3] rfl ?_
    exact vb_Model_wstats_351 hc hq  _ _ _ _ hw
  · replace hw := hw.2 hq1
    refine V_aload_n hc 0 d_Model_wstats_341 rfl rfl ?_
    obtain ⟨q1, hw⟩ := hw
    refine V_get (v := va_rf (mm_P h v0 2)) hc gf_Model_17 rfl q1 rfl d_Model_wstats_342 ?_
    refine V_iload_n hc 1 d_Model_wstats_345 rfl rfl ?_
    refine V_aload_n hc 0 d_Model_wstats_346 rfl rfl ?_
    refine V_get (v := .int (mm_I h v0 48)) hc gf_Model_178 rfl q1 rfl d_Model_wstats_347 ?_
    obtain ⟨a2, q3, hw⟩ := hw
    obtain ⟨q4, hw⟩ := hw
    obtain ⟨q5, hw⟩ := hw
    obtain ⟨q6, hw⟩ := hw
    obtain ⟨h7, eq_h7⟩ : ∃ x, x = mm_uI h a2 (Int32.toNatClampNeg (v3)) (mm_I h v0 48) := ⟨_, rfl⟩
    replace hw := hw _ eq_h7
    refine V_iast hc q3 q4 q5 q6 d_Model_wstats_350 ?_
    rw [← eq_h7]
    refine V_sub (lv' := [(0, va_rf (some v0)), (3, .int (v3)), (5, .int (v5))]) [0, 1, 3] rfl ?_
    exact vb_Model_wstats_351 hc hq  _ _ _ _ hw
set_option maxRecDepth 100000 in
set_option maxHeartbeats 4000000 in
theorem vb_Model_wstats_313 {E : mm_E} {Z : mm_M → Prop} (hc : cx E "EpochServerModel" c_Model_wstats 6 none rm_Model_wstats) (hq : cq E rm_Model_wstats (pV Z))  (v0 : Nat) (v3 : Int32) (v4 : Int32) (v5 : Int32) (s0 : Option Nat) (s1 : Int32) (h : mm_M) (hw : wq_Model_wstats_313  (mm_ge (eG E)) v0 v3 v4 v5 s0 s1 h Z) : V E 6 0 0 h 313 [(0, va_rf (some v0)), (3, .int (v3)), (4, .int (v4)), (5, .int (v5))] [.int (s1), va_rf (s0)] := by
  unfold wq_Model_wstats_313 at hw
  obtain ⟨a1, q2, hw⟩ := hw
  obtain ⟨q3, hw⟩ := hw
  obtain ⟨q4, hw⟩ := hw
  obtain ⟨q5, hw⟩ := hw
  obtain ⟨h6, eq_h6⟩ : ∃ x, x = mm_uI h (a1) 52 (s1) := ⟨_, rfl⟩
  replace hw := hw _ eq_h6
  refine V_put (h' := h6) hc gf_Model_203 rfl q2 q3 q4 (by rw [eq_h6]; exact mm_Up_I _ _ _ _) (by rw [eq_h6]; exact up_vI rfl) (zz_nar q5) (zz_fit q5) d_Model_wstats_313 ?_
  refine V_aload_n hc 0 d_Model_wstats_316 rfl rfl ?_
  obtain ⟨q7, hw⟩ := hw
  refine V_get (v := .int (mm_I h6 v0 39)) hc gf_Model_144 rfl q7 rfl d_Model_wstats_317 ?_
  refine V_if_le (tgt := 336) hc d_Model_wstats_320 (by decide) (fun hq1 => ?_) (fun hq1 => ?_)
  · replace hw := hw.1 hq1
    refine V_sub (lv' := [(0, va_rf (some v0)), (3, .int (v3)), (4, .int (v4)), (5, .int (v5))]) [0, 1, 2, 3] rfl ?_
    exact vb_Model_wstats_336 hc hq  _ _ _ _ _ hw
  · replace hw := hw.2 hq1
    refine V_aload_n hc 0 d_Model_wstats_323 rfl rfl ?_
    refine V_iload_n hc 1 d_Model_wstats_324 rfl rfl ?_
    refine V_aload_n hc 0 d_Model_wstats_325 rfl rfl ?_
    refine V_get (v := .int (mm_I h6 v0 38)) hc gf_Model_141 rfl q7 rfl d_Model_wstats_326 ?_
    refine V_aload_n hc 0 d_Model_wstats_329 rfl rfl ?_
    refine V_get (v := .int (mm_I h6 v0 39)) hc gf_Model_144 rfl q7 rfl d_Model_wstats_330 ?_
    refine V_callV (rm' := rm_Model_names) (As := [.int (v3), .int (mm_I h6 v0 38), .int (mm_I h6 v0 39)]) (rest := []) (n := 3) (cn := 0) hc rfl q7 (sat_Model_names (eG E) _ _ _ _ _ _ hw) rfl cv_Model_340 (gw_of (tw_6 (List.mem_of_getElem? (i := 100) rfl)) rfl) ss_Model_names rfl ⟨by decide, by decide⟩ (by decide) (by decide) rfl (by simp [cat_rf, cat_i, cat_l]) d_Model_wstats_333 (fun r0 h8 hw => ?_)
    obtain ⟨rfl, hw⟩ := hw
    refine V_wide (cs' := 0) (sl' := 0) (by decide) (by decide) ?_
    refine V_st (st' := []) rfl ?_
    refine V_sub (lv' := [(0, va_rf (some v0)), (3, .int (v3)), (4, .int (v4)), (5, .int (v5))]) [0, 1, 2, 3] rfl ?_
    exact vb_Model_wstats_336 hc hq  _ _ _ _ _ hw
set_option maxRecDepth 100000 in
set_option maxHeartbeats 4000000 in
theorem vb_Model_wstats_312 {E : mm_E} {Z : mm_M → Prop} (hc : cx E "EpochServerModel" c_Model_wstats 6 none rm_Model_wstats) (hq : cq E rm_Model_wstats (pV Z))  (v0 : Nat) (v3 : Int32) (v4 : Int32) (v5 : Int32) (s0 : Option Nat) (h : mm_M) (hw : wq_Model_wstats_312  (mm_ge (eG E)) v0 v3 v4 v5 s0 h Z) : V E 6 0 0 h 312 [(0, va_rf (some v0)), (3, .int (v3)), (4, .int (v4)), (5, .int (v5))] [va_rf (s0)] := by
  unfold wq_Model_wstats_312 at hw
  refine V_iconst (v := 0) hc d_Model_wstats_312 (by decide) ?_
  refine V_sub (lv' := [(0, va_rf (some v0)), (3, .int (v3)), (4, .int (v4)), (5, .int (v5))]) [0, 1, 2, 3] rfl ?_
  exact vb_Model_wstats_313 hc hq  _ _ _ _ _ _ _ hw
set_option maxRecDepth 100000 in
set_option maxHeartbeats 4000000 in
theorem vb_Model_wstats_273 {E : mm_E} {Z : mm_M → Prop} (hc : cx E "EpochServerModel" c_Model_wstats 6 none rm_Model_wstats) (hq : cq E rm_Model_wstats (pV Z))  (v0 : Nat) (v3 : Int32) (v4 : Int32) (v5 : Int32) (s0 : Option Nat) (s1 : Int32) (h : mm_M) (hw : wq_Model_wstats_273  (mm_ge (eG E)) v0 v3 v4 v5 s0 s1 h Z) : V E 6 0 0 h 273 [(0, va_rf (some v0)), (3, .int (v3)), (4, .int (v4)), (5, .int (v5))] [.int (s1), va_rf (s0)] := by
  unfold wq_Model_wstats_273 at hw
  refine V_bipush (v := 9) hc d_Model_wstats_273 (by decide) ?_
  obtain ⟨a1, q2, hw⟩ := hw
  obtain ⟨q3, hw⟩ := hw
  refine V_callV (rm' := rm_Model_fails) (As := [.int (s1), .int (9)]) (rest := []) (n := 2) (cn := 0) hc q2 q3 (sat_Model_fails (eG E) _ _ _ _ _ hw) rfl cv_Model_249 (gw_of (tw_5 (List.mem_of_getElem? (i := 209) rfl)) rfl) ss_Model_fails rfl ⟨by decide, by decide⟩ (by decide) (by decide) rfl (by simp [cat_rf, cat_i, cat_l]) d_Model_wstats_275 (fun r0 h4 hw => ?_)
  obtain ⟨r5, rfl, hw⟩ := hw
  refine V_wide (cs' := 0) (sl' := 0) (by decide) (by decide) ?_
  refine V_st (st' := [.int (r5)]) rfl ?_
  refine V_if_eq (tgt := 282) hc d_Model_wstats_278 (by decide) (fun hq1 => ?_) (fun hq1 => ?_)
  · replace hw := hw.1 hq1
    refine V_aload_n hc 0 d_Model_wstats_282 rfl rfl ?_
    refine V_aload_n hc 0 d_Model_wstats_283 rfl rfl ?_
    obtain ⟨q6, hw⟩ := hw
    refine V_get (v := .int (mm_I h4 v0 39)) hc gf_Model_144 rfl q6 rfl d_Model_wstats_284 ?_
    refine V_if_ne (tgt := 312) hc d_Model_wstats_287 (by decide) (fun hq1 => ?_) (fun hq1 => ?_)
    · replace hw := hw.1 hq1
      refine V_sub (lv' := [(0, va_rf (some v0)), (3, .int (v3)), (4, .int (v4)), (5, .int (v5))]) [0, 1, 2, 3] rfl ?_
      exact vb_Model_wstats_312 hc hq  _ _ _ _ _ _ hw
    · replace hw := hw.2 hq1
      refine V_iload hc 2 d_Model_wstats_290 rfl ?_
      refine V_if_ne (tgt := 312) hc d_Model_wstats_292 (by decide) (fun hq1 => ?_) (fun hq1 => ?_)
      · replace hw := hw.1 hq1
        refine V_sub (lv' := [(0, va_rf (some v0)), (3, .int (v3)), (4, .int (v4)), (5, .int (v5))]) [0, 1, 2, 3] rfl ?_
        exact vb_Model_wstats_312 hc hq  _ _ _ _ _ _ hw
      · replace hw := hw.2 hq1
        refine V_iload hc 3 d_Model_wstats_295 rfl ?_
        refine V_if_ne (tgt := 312) hc d_Model_wstats_297 (by decide) (fun hq1 => ?_) (fun hq1 => ?_)
        · replace hw := hw.1 hq1
          refine V_sub (lv' := [(0, va_rf (some v0)), (3, .int (v3)), (4, .int (v4)), (5, .int (v5))]) [0, 1, 2, 3] rfl ?_
          exact vb_Model_wstats_312 hc hq  _ _ _ _ _ _ hw
        · replace hw := hw.2 hq1
          refine V_aload_n hc 0 d_Model_wstats_300 rfl rfl ?_
          refine V_get (v := .int (mm_I h4 v0 49)) hc gf_Model_181 rfl q6 rfl d_Model_wstats_301 ?_
          refine V_iconst (v := (-1)) hc d_Model_wstats_304 (by decide) ?_
          refine V_icmp_ne (tgt := 312) hc d_Model_wstats_305 (by decide) (fun hq1 => ?_) (fun hq1 => ?_)
          · replace hw := hw.1 hq1
            refine V_sub (lv' := [(0, va_rf (some v0)), (3, .int (v3)), (4, .int (v4)), (5, .int (v5))]) [0, 1, 2, 3] rfl ?_
            exact vb_Model_wstats_312 hc hq  _ _ _ _ _ _ hw
          · replace hw := hw.2 hq1
            refine V_iconst (v := 1) hc d_Model_wstats_308 (by decide) ?_
            refine V_goto (tgt := 313) hc d_Model_wstats_309 (by decide) ?_
            refine V_sub (lv' := [(0, va_rf (some v0)), (3, .int (v3)), (4, .int (v4)), (5, .int (v5))]) [0, 1, 2, 3] rfl ?_
            exact vb_Model_wstats_313 hc hq  _ _ _ _ _ _ _ hw
  · replace hw := hw.2 hq1
    exact V_vret hc hq ⟨rfl, hw⟩ (by decide) (by decide) d_Model_wstats_281
set_option maxRecDepth 100000 in
set_option maxHeartbeats 4000000 in
theorem vb_Model_wstats_272 {E : mm_E} {Z : mm_M → Prop} (hc : cx E "EpochServerModel" c_Model_wstats 6 none rm_Model_wstats) (hq : cq E rm_Model_wstats (pV Z))  (v0 : Nat) (v3 : Int32) (v4 : Int32) (v5 : Int32) (s0 : Option Nat) (h : mm_M) (hw : wq_Model_wstats_272  (mm_ge (eG E)) v0 v3 v4 v5 s0 h Z) : V E 6 0 0 h 272 [(0, va_rf (some v0)), (3, .int (v3)), (4, .int (v4)), (5, .int (v5))] [va_rf (s0)] := by
  unfold wq_Model_wstats_272 at hw
  refine V_iconst (v := 0) hc d_Model_wstats_272 (by decide) ?_
  refine V_sub (lv' := [(0, va_rf (some v0)), (3, .int (v3)), (4, .int (v4)), (5, .int (v5))]) [0, 1, 2, 3] rfl ?_
  exact vb_Model_wstats_273 hc hq  _ _ _ _ _ _ _ hw
set_option maxRecDepth 100000 in
set_option maxHeartbeats 4000000 in
theorem vb_Model_wstats_268 {E : mm_E} {Z : mm_M → Prop} (hc : cx E "EpochServerModel" c_Model_wstats 6 none rm_Model_wstats) (hq : cq E rm_Model_wstats (pV Z))  (v0 : Nat) (v3 : Int32) (v4 : Int32) (v5 : Int32) (s0 : Option Nat) (h : mm_M) (hw : wq_Model_wstats_268  (mm_ge (eG E)) v0 v3 v4 v5 s0 h Z) : V E 6 0 0 h 268 [(0, va_rf (some v0)), (3, .int (v3)), (4, .int (v4)), (5, .int (v5))] [va_rf (s0)] := by
  unfold wq_Model_wstats_268 at hw
  refine V_iconst (v := 1) hc d_Model_wstats_268 (by decide) ?_
  refine V_goto (tgt := 273) hc d_Model_wstats_269 (by decide) ?_
  refine V_sub (lv' := [(0, va_rf (some v0)), (3, .int (v3)), (4, .int (v4)), (5, .int (v5))]) [0, 1, 2, 3] rfl ?_
  exact vb_Model_wstats_273 hc hq  _ _ _ _ _ _ _ hw
set_option maxRecDepth 100000 in
set_option maxHeartbeats 4000000 in
theorem vb_Model_wstats_232 {E : mm_E} {Z : mm_M → Prop} (hc : cx E "EpochServerModel" c_Model_wstats 6 none rm_Model_wstats) (hq : cq E rm_Model_wstats (pV Z))  (v0 : Nat) (v3 : Int32) (v4 : Int32) (s0 : Int32) (h : mm_M) (hw : wq_Model_wstats_232  (mm_ge (eG E)) v0 v3 v4 s0 h Z) : V E 6 0 0 h 232 [(0, va_rf (some v0)), (3, .int (v3)), (4, .int (v4))] [.int (s0)] := by
  unfold wq_Model_wstats_232 at hw
  refine V_istore (i := 5) (lv' := [(5, .int (s0)), (0, va_rf (some v0)), (3, .int (v3)), (4, .int (v4))]) hc d_Model_wstats_232 (by decide) rfl ?_
  refine V_aload_n hc 1 d_Model_wstats_234 rfl rfl ?_
  refine V_iload hc 0 d_Model_wstats_235 rfl ?_
  refine V_if_eq (tgt := 272) hc d_Model_wstats_237 (by decide) (fun hq1 => ?_) (fun hq1 => ?_)
  · replace hw := hw.1 hq1
    refine V_sub (lv' := [(0, va_rf (some v0)), (3, .int (v3)), (4, .int (v4)), (5, .int (s0))]) [1, 2, 3, 0] rfl ?_
    exact vb_Model_wstats_272 hc hq  _ _ _ _ _ _ hw
  · replace hw := hw.2 hq1
    refine V_aload_n hc 1 d_Model_wstats_240 rfl rfl ?_
    refine V_iload_n hc 2 d_Model_wstats_241 rfl rfl ?_
    obtain ⟨q1, hw⟩ := hw
    refine V_callV (rm' := rm_Model_isDirectory) (As := [.int (v3)]) (rest := [va_rf (some v0)]) (n := 1) (cn := 0) hc rfl q1 (sat_Model_isDirectory (eG E) _ _ _ _ hw) rfl cv_Model_230 (gw_of (tw_6 (List.mem_of_getElem? (i := 39) rfl)) rfl) ss_Model_isDirectory rfl ⟨by decide, by decide⟩ (by decide) (by decide) rfl (by simp [cat_rf, cat_i, cat_l]) d_Model_wstats_242 (fun r0 h2 hw => ?_)
    obtain ⟨r3, rfl, hw⟩ := hw
    refine V_wide (cs' := 0) (sl' := 0) (by decide) (by decide) ?_
    refine V_st (st' := [.int (r3), va_rf (some v0)]) rfl ?_
    refine V_if_ne (tgt := 268) hc d_Model_wstats_245 (by decide) (fun hq1 => ?_) (fun hq1 => ?_)
    · replace hw := hw.1 hq1
      refine V_sub (lv' := [(0, va_rf (some v0)), (3, .int (v3)), (4, .int (v4)), (5, .int (s0))]) [1, 2, 3, 0] rfl ?_
      exact vb_Model_wstats_268 hc hq  _ _ _ _ _ _ hw
    · replace hw := hw.2 hq1
      refine V_aload_n hc 1 d_Model_wstats_248 rfl rfl ?_
      obtain ⟨q4, hw⟩ := hw
      refine V_get (v := .long (mm_L h2 v0 50)) hc gf_Model_184 rfl q4 rfl d_Model_wstats_249 ?_
      refine V_lconst (v := 0) hc d_Model_wstats_252 (by decide) ?_
      refine V_lcmp hc d_Model_wstats_253 ?_
      refine V_if_lt (tgt := 268) hc d_Model_wstats_254 (by decide) (fun hq1 => ?_) (fun hq1 => ?_)
      · replace hw := hw.1 hq1
        refine V_sub (lv' := [(0, va_rf (some v0)), (3, .int (v3)), (4, .int (v4)), (5, .int (s0))]) [1, 2, 3, 0] rfl ?_
        exact vb_Model_wstats_268 hc hq  _ _ _ _ _ _ hw
      · replace hw := hw.2 hq1
        refine V_aload_n hc 1 d_Model_wstats_257 rfl rfl ?_
        refine V_get (v := .long (mm_L h2 v0 50)) hc gf_Model_184 rfl q4 rfl d_Model_wstats_258 ?_
        refine V_ldc2 (v := 512) hc (gw_of (tw_6 (List.mem_of_getElem? (i := 115) rfl)) rfl) d_Model_wstats_261 ?_
        refine V_lcmp hc d_Model_wstats_264 ?_
        refine V_if_le (tgt := 272) hc d_Model_wstats_265 (by decide) (fun hq1 => ?_) (fun hq1 => ?_)
        · replace hw := hw.1 hq1
          refine V_sub (lv' := [(0, va_rf (some v0)), (3, .int (v3)), (4, .int (v4)), (5, .int (s0))]) [1, 2, 3, 0] rfl ?_
          exact vb_Model_wstats_272 hc hq  _ _ _ _ _ _ hw
        · replace hw := hw.2 hq1
          refine V_sub (lv' := [(0, va_rf (some v0)), (3, .int (v3)), (4, .int (v4)), (5, .int (s0))]) [1, 2, 3, 0] rfl ?_
          exact vb_Model_wstats_268 hc hq  _ _ _ _ _ _ hw
set_option maxRecDepth 100000 in
set_option maxHeartbeats 4000000 in
theorem vb_Model_wstats_207 {E : mm_E} {Z : mm_M → Prop} (hc : cx E "EpochServerModel" c_Model_wstats 6 none rm_Model_wstats) (hq : cq E rm_Model_wstats (pV Z))  (v0 : Nat) (v3 : Int32) (v4 : Int32) (s0 : Option Nat) (s1 : Int32) (h : mm_M) (hw : wq_Model_wstats_207  (mm_ge (eG E)) v0 v3 v4 s0 s1 h Z) : V E 6 0 0 h 207 [(0, va_rf (some v0)), (3, .int (v3)), (4, .int (v4))] [.int (s1), va_rf (s0)] := by
  unfold wq_Model_wstats_207 at hw
  refine V_bipush (v := 8) hc d_Model_wstats_207 (by decide) ?_
  obtain ⟨a1, q2, hw⟩ := hw
  obtain ⟨q3, hw⟩ := hw
  refine V_callV (rm' := rm_Model_fails) (As := [.int (s1), .int (8)]) (rest := []) (n := 2) (cn := 0) hc q2 q3 (sat_Model_fails (eG E) _ _ _ _ _ hw) rfl cv_Model_249 (gw_of (tw_5 (List.mem_of_getElem? (i := 209) rfl)) rfl) ss_Model_fails rfl ⟨by decide, by decide⟩ (by decide) (by decide) rfl (by simp [cat_rf, cat_i, cat_l]) d_Model_wstats_209 (fun r0 h4 hw => ?_)
  obtain ⟨r5, rfl, hw⟩ := hw
  refine V_wide (cs' := 0) (sl' := 0) (by decide) (by decide) ?_
  refine V_st (st' := [.int (r5)]) rfl ?_
  refine V_if_eq (tgt := 216) hc d_Model_wstats_212 (by decide) (fun hq1 => ?_) (fun hq1 => ?_)
  · replace hw := hw.1 hq1
    refine V_aload_n hc 0 d_Model_wstats_216 rfl rfl ?_
    obtain ⟨q6, hw⟩ := hw
    refine V_get (v := .long (mm_L h4 v0 50)) hc gf_Model_184 rfl q6 rfl d_Model_wstats_217 ?_
    refine V_ldc2 (v := (-1)) hc (gw_of (tw_6 (List.mem_of_getElem? (i := 125) rfl)) rfl) d_Model_wstats_220 ?_
    refine V_lcmp hc d_Model_wstats_223 ?_
    refine V_if_eq (tgt := 231) hc d_Model_wstats_224 (by decide) (fun hq1 => ?_) (fun hq1 => ?_)
    · replace hw := hw.1 hq1
      refine V_iconst (v := 0) hc d_Model_wstats_231 (by decide) ?_
      refine V_sub (lv' := [(0, va_rf (some v0)), (3, .int (v3)), (4, .int (v4))]) [0, 1, 2] rfl ?_
      exact vb_Model_wstats_232 hc hq  _ _ _ _ _ hw
    · replace hw := hw.2 hq1
      refine V_iconst (v := 1) hc d_Model_wstats_227 (by decide) ?_
      refine V_goto (tgt := 232) hc d_Model_wstats_228 (by decide) ?_
      refine V_sub (lv' := [(0, va_rf (some v0)), (3, .int (v3)), (4, .int (v4))]) [0, 1, 2] rfl ?_
      exact vb_Model_wstats_232 hc hq  _ _ _ _ _ hw
  · replace hw := hw.2 hq1
    exact V_vret hc hq ⟨rfl, hw⟩ (by decide) (by decide) d_Model_wstats_215
set_option maxRecDepth 100000 in
set_option maxHeartbeats 4000000 in
theorem vb_Model_wstats_206 {E : mm_E} {Z : mm_M → Prop} (hc : cx E "EpochServerModel" c_Model_wstats 6 none rm_Model_wstats) (hq : cq E rm_Model_wstats (pV Z))  (v0 : Nat) (v3 : Int32) (v4 : Int32) (s0 : Option Nat) (h : mm_M) (hw : wq_Model_wstats_206  (mm_ge (eG E)) v0 v3 v4 s0 h Z) : V E 6 0 0 h 206 [(0, va_rf (some v0)), (3, .int (v3)), (4, .int (v4))] [va_rf (s0)] := by
  unfold wq_Model_wstats_206 at hw
  refine V_iconst (v := 0) hc d_Model_wstats_206 (by decide) ?_
  refine V_sub (lv' := [(0, va_rf (some v0)), (3, .int (v3)), (4, .int (v4))]) [0, 1, 2] rfl ?_
  exact vb_Model_wstats_207 hc hq  _ _ _ _ _ _ hw
set_option maxRecDepth 100000 in
set_option maxHeartbeats 4000000 in
theorem vb_Model_wstats_202 {E : mm_E} {Z : mm_M → Prop} (hc : cx E "EpochServerModel" c_Model_wstats 6 none rm_Model_wstats) (hq : cq E rm_Model_wstats (pV Z))  (v0 : Nat) (v3 : Int32) (v4 : Int32) (s0 : Option Nat) (h : mm_M) (hw : wq_Model_wstats_202  (mm_ge (eG E)) v0 v3 v4 s0 h Z) : V E 6 0 0 h 202 [(0, va_rf (some v0)), (3, .int (v3)), (4, .int (v4))] [va_rf (s0)] := by
  unfold wq_Model_wstats_202 at hw
  refine V_iconst (v := 1) hc d_Model_wstats_202 (by decide) ?_
  refine V_goto (tgt := 207) hc d_Model_wstats_203 (by decide) ?_
  refine V_sub (lv' := [(0, va_rf (some v0)), (3, .int (v3)), (4, .int (v4))]) [0, 1, 2] rfl ?_
  exact vb_Model_wstats_207 hc hq  _ _ _ _ _ _ hw
set_option maxRecDepth 100000 in
set_option maxHeartbeats 4000000 in
theorem vb_Model_wstats_183 {E : mm_E} {Z : mm_M → Prop} (hc : cx E "EpochServerModel" c_Model_wstats 6 none rm_Model_wstats) (hq : cq E rm_Model_wstats (pV Z))  (v0 : Nat) (v3 : Int32) (v4 : Int32) (s0 : Option Nat) (s1 : Int32) (h : mm_M) (hw : wq_Model_wstats_183  (mm_ge (eG E)) v0 v3 v4 s0 s1 h Z) : V E 6 0 0 h 183 [(0, va_rf (some v0)), (3, .int (v3)), (4, .int (v4))] [.int (s1), va_rf (s0)] := by
  unfold wq_Model_wstats_183 at hw
  refine V_aload_n hc 0 d_Model_wstats_183 rfl rfl ?_
  refine V_iload_n hc 1 d_Model_wstats_184 rfl rfl ?_
  obtain ⟨q1, hw⟩ := hw
  refine V_callV (rm' := rm_Model_isDirectory) (As := [.int (v3)]) (rest := [.int (s1), va_rf (s0)]) (n := 1) (cn := 0) hc rfl q1 (sat_Model_isDirectory (eG E) _ _ _ _ hw) rfl cv_Model_230 (gw_of (tw_6 (List.mem_of_getElem? (i := 39) rfl)) rfl) ss_Model_isDirectory rfl ⟨by decide, by decide⟩ (by decide) (by decide) rfl (by simp [cat_rf, cat_i, cat_l]) d_Model_wstats_185 (fun r0 h2 hw => ?_)
  obtain ⟨r3, rfl, hw⟩ := hw
  refine V_wide (cs' := 0) (sl' := 0) (by decide) (by decide) ?_
  refine V_st (st' := [.int (r3), .int (s1), va_rf (s0)]) rfl ?_
  refine V_icmp_ne (tgt := 202) hc d_Model_wstats_188 (by decide) (fun hq1 => ?_) (fun hq1 => ?_)
  · replace hw := hw.1 hq1
    refine V_sub (lv' := [(0, va_rf (some v0)), (3, .int (v3)), (4, .int (v4))]) [0, 1, 2] rfl ?_
    exact vb_Model_wstats_202 hc hq  _ _ _ _ _ hw
  · replace hw := hw.2 hq1
    refine V_aload_n hc 0 d_Model_wstats_191 rfl rfl ?_
    obtain ⟨q4, hw⟩ := hw
    refine V_get (v := .int (mm_I h2 v0 48)) hc gf_Model_178 rfl q4 rfl d_Model_wstats_192 ?_
    refine V_ldc_w (v := 2147483136) hc (gw_of (tw_6 (List.mem_of_getElem? (i := 124) rfl)) rfl) d_Model_wstats_195 ?_
    refine V_iand hc d_Model_wstats_198 ?_
    refine V_if_eq (tgt := 206) hc d_Model_wstats_199 (by decide) (fun hq1 => ?_) (fun hq1 => ?_)
    · replace hw := hw.1 hq1
      refine V_sub (lv' := [(0, va_rf (some v0)), (3, .int (v3)), (4, .int (v4))]) [0, 1, 2] rfl ?_
      exact vb_Model_wstats_206 hc hq  _ _ _ _ _ hw
    · replace hw := hw.2 hq1
      refine V_sub (lv' := [(0, va_rf (some v0)), (3, .int (v3)), (4, .int (v4))]) [0, 1, 2] rfl ?_
      exact vb_Model_wstats_202 hc hq  _ _ _ _ _ hw
set_option maxRecDepth 100000 in
set_option maxHeartbeats 4000000 in
theorem vb_Model_wstats_163 {E : mm_E} {Z : mm_M → Prop} (hc : cx E "EpochServerModel" c_Model_wstats 6 none rm_Model_wstats) (hq : cq E rm_Model_wstats (pV Z))  (v0 : Nat) (v3 : Int32) (s0 : Int32) (h : mm_M) (hw : wq_Model_wstats_163  (mm_ge (eG E)) v0 v3 s0 h Z) : V E 6 0 0 h 163 [(0, va_rf (some v0)), (3, .int (v3))] [.int (s0)] := by
  unfold wq_Model_wstats_163 at hw
  refine V_istore (i := 4) (lv' := [(4, .int (s0)), (0, va_rf (some v0)), (3, .int (v3))]) hc d_Model_wstats_163 (by decide) rfl ?_
  refine V_aload_n hc 1 d_Model_wstats_165 rfl rfl ?_
  refine V_iload hc 0 d_Model_wstats_166 rfl ?_
  refine V_if_eq (tgt := 206) hc d_Model_wstats_168 (by decide) (fun hq1 => ?_) (fun hq1 => ?_)
  · replace hw := hw.1 hq1
    refine V_sub (lv' := [(0, va_rf (some v0)), (3, .int (v3)), (4, .int (s0))]) [1, 2, 0] rfl ?_
    exact vb_Model_wstats_206 hc hq  _ _ _ _ _ hw
  · replace hw := hw.2 hq1
    refine V_aload_n hc 1 d_Model_wstats_171 rfl rfl ?_
    obtain ⟨q1, hw⟩ := hw
    refine V_get (v := .int (mm_I h v0 48)) hc gf_Model_178 rfl q1 rfl d_Model_wstats_172 ?_
    refine V_if_ge (tgt := 182) hc d_Model_wstats_175 (by decide) (fun hq1 => ?_) (fun hq1 => ?_)
    · replace hw := hw.1 hq1
      refine V_iconst (v := 0) hc d_Model_wstats_182 (by decide) ?_
      refine V_sub (lv' := [(0, va_rf (some v0)), (3, .int (v3)), (4, .int (s0))]) [1, 2, 0] rfl ?_
      exact vb_Model_wstats_183 hc hq  _ _ _ _ _ _ hw
    · replace hw := hw.2 hq1
      refine V_iconst (v := 1) hc d_Model_wstats_178 (by decide) ?_
      refine V_goto (tgt := 183) hc d_Model_wstats_179 (by decide) ?_
      refine V_sub (lv' := [(0, va_rf (some v0)), (3, .int (v3)), (4, .int (s0))]) [1, 2, 0] rfl ?_
      exact vb_Model_wstats_183 hc hq  _ _ _ _ _ _ hw
set_option maxRecDepth 100000 in
set_option maxHeartbeats 4000000 in
theorem vb_Model_wstats_150 {E : mm_E} {Z : mm_M → Prop} (hc : cx E "EpochServerModel" c_Model_wstats 6 none rm_Model_wstats) (hq : cq E rm_Model_wstats (pV Z))  (v0 : Nat) (v3 : Int32) (h : mm_M) (hw : wq_Model_wstats_150  (mm_ge (eG E)) v0 v3 h Z) : V E 6 0 0 h 150 [(0, va_rf (some v0)), (3, .int (v3))] [] := by
  unfold wq_Model_wstats_150 at hw
  refine V_aload_n hc 0 d_Model_wstats_150 rfl rfl ?_
  obtain ⟨q1, hw⟩ := hw
  refine V_get (v := .int (mm_I h v0 48)) hc gf_Model_178 rfl q1 rfl d_Model_wstats_151 ?_
  refine V_iconst (v := (-1)) hc d_Model_wstats_154 (by decide) ?_
  refine V_icmp_eq (tgt := 162) hc d_Model_wstats_155 (by decide) (fun hq1 => ?_) (fun hq1 => ?_)
  · replace hw := hw.1 hq1
    refine V_iconst (v := 0) hc d_Model_wstats_162 (by decide) ?_
    refine V_sub (lv' := [(0, va_rf (some v0)), (3, .int (v3))]) [0, 1] rfl ?_
    exact vb_Model_wstats_163 hc hq  _ _ _ _ hw
  · replace hw := hw.2 hq1
    refine V_iconst (v := 1) hc d_Model_wstats_158 (by decide) ?_
    refine V_goto (tgt := 163) hc d_Model_wstats_159 (by decide) ?_
    refine V_sub (lv' := [(0, va_rf (some v0)), (3, .int (v3))]) [0, 1] rfl ?_
    exact vb_Model_wstats_163 hc hq  _ _ _ _ hw
set_option maxRecDepth 100000 in
set_option maxHeartbeats 4000000 in
theorem vb_Model_wstats_141 {E : mm_E} {Z : mm_M → Prop} (hc : cx E "EpochServerModel" c_Model_wstats 6 none rm_Model_wstats) (hq : cq E rm_Model_wstats (pV Z))  (v0 : Nat) (v3 : Int32) (s0 : Option Nat) (s1 : Int32) (h : mm_M) (hw : wq_Model_wstats_141  (mm_ge (eG E)) v0 v3 s0 s1 h Z) : V E 6 0 0 h 141 [(0, va_rf (some v0)), (3, .int (v3))] [.int (s1), va_rf (s0)] := by
  unfold wq_Model_wstats_141 at hw
  refine V_bipush (v := 7) hc d_Model_wstats_141 (by decide) ?_
  obtain ⟨a1, q2, hw⟩ := hw
  obtain ⟨q3, hw⟩ := hw
  refine V_callV (rm' := rm_Model_fails) (As := [.int (s1), .int (7)]) (rest := []) (n := 2) (cn := 0) hc q2 q3 (sat_Model_fails (eG E) _ _ _ _ _ hw) rfl cv_Model_249 (gw_of (tw_5 (List.mem_of_getElem? (i := 209) rfl)) rfl) ss_Model_fails rfl ⟨by decide, by decide⟩ (by decide) (by decide) rfl (by simp [cat_rf, cat_i, cat_l]) d_Model_wstats_143 (fun r0 h4 hw => ?_)
  obtain ⟨r5, rfl, hw⟩ := hw
  refine V_wide (cs' := 0) (sl' := 0) (by decide) (by decide) ?_
  refine V_st (st' := [.int (r5)]) rfl ?_
  refine V_if_eq (tgt := 150) hc d_Model_wstats_146 (by decide) (fun hq1 => ?_) (fun hq1 => ?_)
  · replace hw := hw.1 hq1
    refine V_sub (lv' := [(0, va_rf (some v0)), (3, .int (v3))]) [0, 1] rfl ?_
    exact vb_Model_wstats_150 hc hq  _ _ _ hw
  · replace hw := hw.2 hq1
    exact V_vret hc hq ⟨rfl, hw⟩ (by decide) (by decide) d_Model_wstats_149
set_option maxRecDepth 100000 in
set_option maxHeartbeats 4000000 in
theorem vb_Model_wstats_140 {E : mm_E} {Z : mm_M → Prop} (hc : cx E "EpochServerModel" c_Model_wstats 6 none rm_Model_wstats) (hq : cq E rm_Model_wstats (pV Z))  (v0 : Nat) (v3 : Int32) (s0 : Option Nat) (h : mm_M) (hw : wq_Model_wstats_140  (mm_ge (eG E)) v0 v3 s0 h Z) : V E 6 0 0 h 140 [(0, va_rf (some v0)), (3, .int (v3))] [va_rf (s0)] := by
  unfold wq_Model_wstats_140 at hw
  refine V_iconst (v := 0) hc d_Model_wstats_140 (by decide) ?_
  refine V_sub (lv' := [(0, va_rf (some v0)), (3, .int (v3))]) [0, 1] rfl ?_
  exact vb_Model_wstats_141 hc hq  _ _ _ _ _ hw
set_option maxRecDepth 100000 in
set_option maxHeartbeats 4000000 in
theorem vb_Model_wstats_87 {E : mm_E} {Z : mm_M → Prop} (hc : cx E "EpochServerModel" c_Model_wstats 6 none rm_Model_wstats) (hq : cq E rm_Model_wstats (pV Z))  (v0 : Nat) (v2 : Int32) (v3 : Int32) (s0 : Option Nat) (s1 : Int32) (h : mm_M) (hw : wq_Model_wstats_87  (mm_ge (eG E)) v0 v2 v3 s0 s1 h Z) : V E 6 0 0 h 87 [(0, va_rf (some v0)), (2, .int (v2)), (3, .int (v3))] [.int (s1), va_rf (s0)] := by
  unfold wq_Model_wstats_87 at hw
  refine V_bipush (v := 6) hc d_Model_wstats_87 (by decide) ?_
  obtain ⟨a1, q2, hw⟩ := hw
  obtain ⟨q3, hw⟩ := hw
  refine V_callV (rm' := rm_Model_fails) (As := [.int (s1), .int (6)]) (rest := []) (n := 2) (cn := 0) hc q2 q3 (sat_Model_fails (eG E) _ _ _ _ _ hw) rfl cv_Model_249 (gw_of (tw_5 (List.mem_of_getElem? (i := 209) rfl)) rfl) ss_Model_fails rfl ⟨by decide, by decide⟩ (by decide) (by decide) rfl (by simp [cat_rf, cat_i, cat_l]) d_Model_wstats_89 (fun r0 h4 hw => ?_)
  obtain ⟨r5, rfl, hw⟩ := hw
  refine V_wide (cs' := 0) (sl' := 0) (by decide) (by decide) ?_
  refine V_st (st' := [.int (r5)]) rfl ?_
  refine V_if_eq (tgt := 96) hc d_Model_wstats_92 (by decide) (fun hq1 => ?_) (fun hq1 => ?_)
  · replace hw := hw.1 hq1
    refine V_aload_n hc 0 d_Model_wstats_96 rfl rfl ?_
    obtain ⟨q6, hw⟩ := hw
    refine V_get (v := .int (mm_I h4 v0 39)) hc gf_Model_144 rfl q6 rfl d_Model_wstats_97 ?_
    refine V_if_le (tgt := 150) hc d_Model_wstats_100 (by decide) (fun hq1 => ?_) (fun hq1 => ?_)
    · replace hw := hw.1 hq1
      refine V_sub (lv' := [(0, va_rf (some v0)), (3, .int (v3))]) [0, 2] rfl ?_
      exact vb_Model_wstats_150 hc hq  _ _ _ hw
    · replace hw := hw.2 hq1
      refine V_aload_n hc 0 d_Model_wstats_103 rfl rfl ?_
      refine V_iconst (v := 0) hc d_Model_wstats_104 (by decide) ?_
      refine V_aload_n hc 0 d_Model_wstats_105 rfl rfl ?_
      refine V_get (v := va_rf (mm_P h4 v0 1)) hc gf_Model_13 rfl q6 rfl d_Model_wstats_106 ?_
      refine V_iload_n hc 2 d_Model_wstats_109 rfl rfl ?_
      obtain ⟨a7, q8, hw⟩ := hw
      obtain ⟨q9, hw⟩ := hw
      obtain ⟨q10, hw⟩ := hw
      refine V_iald hc q8 q9 q10 d_Model_wstats_110 ?_
      refine V_aload_n hc 0 d_Model_wstats_111 rfl rfl ?_
      refine V_get (v := .int (mm_I h4 v0 38)) hc gf_Model_141 rfl q6 rfl d_Model_wstats_112 ?_
      refine V_aload_n hc 0 d_Model_wstats_115 rfl rfl ?_
      refine V_get (v := .int (mm_I h4 v0 39)) hc gf_Model_144 rfl q6 rfl d_Model_wstats_116 ?_
      refine V_callV (rm' := rm_Model_child) (As := [.int (0), .int (mm_I h4 a7 (Int32.toNatClampNeg (v3))), .int (mm_I h4 v0 38), .int (mm_I h4 v0 39)]) (rest := []) (n := 4) (cn := 0) hc rfl q6 (sat_Model_child (eG E) _ _ _ _ _ _ _ hw) rfl cv_Model_326 (gw_of (tw_6 (List.mem_of_getElem? (i := 76) rfl)) rfl) ss_Model_child rfl ⟨by decide, by decide⟩ (by decide) (by decide) rfl (by simp [cat_rf, cat_i, cat_l]) d_Model_wstats_119 (fun r0 h11 hw => ?_)
      obtain ⟨r12, rfl, hw⟩ := hw
      refine V_wide (cs' := 0) (sl' := 0) (by decide) (by decide) ?_
      refine V_st (st' := [.int (r12)]) rfl ?_
      refine V_istore (i := 4) (lv' := [(4, .int (r12)), (0, va_rf (some v0)), (2, .int (v2)), (3, .int (v3))]) hc d_Model_wstats_122 (by decide) rfl ?_
      refine V_aload_n hc 1 d_Model_wstats_124 rfl rfl ?_
      refine V_iload hc 0 d_Model_wstats_125 rfl ?_
      refine V_if_lt (tgt := 140) hc d_Model_wstats_127 (by decide) (fun hq1 => ?_) (fun hq1 => ?_)
      · replace hw := hw.1 hq1
        refine V_sub (lv' := [(0, va_rf (some v0)), (3, .int (v3))]) [1, 3] rfl ?_
        exact vb_Model_wstats_140 hc hq  _ _ _ _ hw
      · replace hw := hw.2 hq1
        refine V_iload hc 0 d_Model_wstats_130 rfl ?_
        refine V_iload_n hc 2 d_Model_wstats_132 rfl rfl ?_
        refine V_icmp_eq (tgt := 140) hc d_Model_wstats_133 (by decide) (fun hq1 => ?_) (fun hq1 => ?_)
        · replace hw := hw.1 hq1
          refine V_sub (lv' := [(0, va_rf (some v0)), (3, .int (v3))]) [1, 3] rfl ?_
          exact vb_Model_wstats_140 hc hq  _ _ _ _ hw
        · replace hw := hw.2 hq1
          refine V_iconst (v := 1) hc d_Model_wstats_136 (by decide) ?_
          refine V_goto (tgt := 141) hc d_Model_wstats_137 (by decide) ?_
          refine V_sub (lv' := [(0, va_rf (some v0)), (3, .int (v3))]) [1, 3] rfl ?_
          exact vb_Model_wstats_141 hc hq  _ _ _ _ _ hw
  · replace hw := hw.2 hq1
    refine V_sub (lv' := []) [] rfl ?_
    exact vb_Model_wstats_95 hc hq  _ hw
set_option maxRecDepth 100000 in
set_option maxHeartbeats 4000000 in
theorem vb_Model_wstats_86 {E : mm_E} {Z : mm_M → Prop} (hc : cx E "EpochServerModel" c_Model_wstats 6 none rm_Model_wstats) (hq : cq E rm_Model_wstats (pV Z))  (v0 : Nat) (v2 : Int32) (v3 : Int32) (s0 : Option Nat) (h : mm_M) (hw : wq_Model_wstats_86  (mm_ge (eG E)) v0 v2 v3 s0 h Z) : V E 6 0 0 h 86 [(0, va_rf (some v0)), (2, .int (v2)), (3, .int (v3))] [va_rf (s0)] := by
  unfold wq_Model_wstats_86 at hw
  refine V_iconst (v := 0) hc d_Model_wstats_86 (by decide) ?_
  refine V_sub (lv' := [(0, va_rf (some v0)), (2, .int (v2)), (3, .int (v3))]) [0, 1, 2] rfl ?_
  exact vb_Model_wstats_87 hc hq  _ _ _ _ _ _ hw
set_option maxRecDepth 100000 in
set_option maxHeartbeats 4000000 in
theorem vb_Model_wstats_82 {E : mm_E} {Z : mm_M → Prop} (hc : cx E "EpochServerModel" c_Model_wstats 6 none rm_Model_wstats) (hq : cq E rm_Model_wstats (pV Z))  (v0 : Nat) (v2 : Int32) (v3 : Int32) (s0 : Option Nat) (h : mm_M) (hw : wq_Model_wstats_82  (mm_ge (eG E)) v0 v2 v3 s0 h Z) : V E 6 0 0 h 82 [(0, va_rf (some v0)), (2, .int (v2)), (3, .int (v3))] [va_rf (s0)] := by
  unfold wq_Model_wstats_82 at hw
  refine V_iconst (v := 1) hc d_Model_wstats_82 (by decide) ?_
  refine V_goto (tgt := 87) hc d_Model_wstats_83 (by decide) ?_
  refine V_sub (lv' := [(0, va_rf (some v0)), (2, .int (v2)), (3, .int (v3))]) [0, 1, 2] rfl ?_
  exact vb_Model_wstats_87 hc hq  _ _ _ _ _ _ hw
set_option maxRecDepth 100000 in
set_option maxHeartbeats 4000000 in
theorem vb_Model_wstats_48 {E : mm_E} {Z : mm_M → Prop} (hc : cx E "EpochServerModel" c_Model_wstats 6 none rm_Model_wstats) (hq : cq E rm_Model_wstats (pV Z))  (v0 : Nat) (v2 : Int32) (v3 : Int32) (s0 : Option Nat) (s1 : Int32) (h : mm_M) (hw : wq_Model_wstats_48  (mm_ge (eG E)) v0 v2 v3 s0 s1 h Z) : V E 6 0 0 h 48 [(0, va_rf (some v0)), (2, .int (v2)), (3, .int (v3))] [.int (s1), va_rf (s0)] := by
  unfold wq_Model_wstats_48 at hw
  refine V_iconst (v := 5) hc d_Model_wstats_48 (by decide) ?_
  obtain ⟨a1, q2, hw⟩ := hw
  obtain ⟨q3, hw⟩ := hw
  refine V_callV (rm' := rm_Model_fails) (As := [.int (s1), .int (5)]) (rest := []) (n := 2) (cn := 0) hc q2 q3 (sat_Model_fails (eG E) _ _ _ _ _ hw) rfl cv_Model_249 (gw_of (tw_5 (List.mem_of_getElem? (i := 209) rfl)) rfl) ss_Model_fails rfl ⟨by decide, by decide⟩ (by decide) (by decide) rfl (by simp [cat_rf, cat_i, cat_l]) d_Model_wstats_49 (fun r0 h4 hw => ?_)
  obtain ⟨r5, rfl, hw⟩ := hw
  refine V_wide (cs' := 0) (sl' := 0) (by decide) (by decide) ?_
  refine V_st (st' := [.int (r5)]) rfl ?_
  refine V_if_ne (tgt := 95) hc d_Model_wstats_52 (by decide) (fun hq1 => ?_) (fun hq1 => ?_)
  · replace hw := hw.1 hq1
    refine V_sub (lv' := []) [] rfl ?_
    exact vb_Model_wstats_95 hc hq  _ hw
  · replace hw := hw.2 hq1
    refine V_aload_n hc 0 d_Model_wstats_55 rfl rfl ?_
    refine V_aload_n hc 0 d_Model_wstats_56 rfl rfl ?_
    obtain ⟨q6, hw⟩ := hw
    refine V_get (v := .int (mm_I h4 v0 39)) hc gf_Model_144 rfl q6 rfl d_Model_wstats_57 ?_
    refine V_if_le (tgt := 86) hc d_Model_wstats_60 (by decide) (fun hq1 => ?_) (fun hq1 => ?_)
    · replace hw := hw.1 hq1
      refine V_sub (lv' := [(0, va_rf (some v0)), (2, .int (v2)), (3, .int (v3))]) [0, 1, 2] rfl ?_
      exact vb_Model_wstats_86 hc hq  _ _ _ _ _ hw
    · replace hw := hw.2 hq1
      refine V_iload_n hc 1 d_Model_wstats_63 rfl rfl ?_
      refine V_if_eq (tgt := 82) hc d_Model_wstats_64 (by decide) (fun hq1 => ?_) (fun hq1 => ?_)
      · replace hw := hw.1 hq1
        refine V_sub (lv' := [(0, va_rf (some v0)), (2, .int (v2)), (3, .int (v3))]) [0, 1, 2] rfl ?_
        exact vb_Model_wstats_82 hc hq  _ _ _ _ _ hw
      · replace hw := hw.2 hq1
        refine V_aload_n hc 0 d_Model_wstats_67 rfl rfl ?_
        refine V_aload_n hc 0 d_Model_wstats_68 rfl rfl ?_
        refine V_get (v := .int (mm_I h4 v0 38)) hc gf_Model_141 rfl q6 rfl d_Model_wstats_69 ?_
        refine V_aload_n hc 0 d_Model_wstats_72 rfl rfl ?_
        refine V_get (v := .int (mm_I h4 v0 39)) hc gf_Model_144 rfl q6 rfl d_Model_wstats_73 ?_
        refine V_callV (rm' := rm_Model_isName) (As := [.int (mm_I h4 v0 38), .int (mm_I h4 v0 39)]) (rest := [va_rf (some v0)]) (n := 2) (cn := 0) hc rfl q6 (sat_Model_isName (eG E) _ _ _ _ _ hw) rfl cv_Model_337 (gw_of (tw_6 (List.mem_of_getElem? (i := 96) rfl)) rfl) ss_Model_isName rfl ⟨by decide, by decide⟩ (by decide) (by decide) rfl (by simp [cat_rf, cat_i, cat_l]) d_Model_wstats_76 (fun r0 h7 hw => ?_)
        obtain ⟨r8, rfl, hw⟩ := hw
        refine V_wide (cs' := 0) (sl' := 0) (by decide) (by decide) ?_
        refine V_st (st' := [.int (r8), va_rf (some v0)]) rfl ?_
        refine V_if_ne (tgt := 86) hc d_Model_wstats_79 (by decide) (fun hq1 => ?_) (fun hq1 => ?_)
        · replace hw := hw.1 hq1
          refine V_sub (lv' := [(0, va_rf (some v0)), (2, .int (v2)), (3, .int (v3))]) [0, 1, 2] rfl ?_
          exact vb_Model_wstats_86 hc hq  _ _ _ _ _ hw
        · replace hw := hw.2 hq1
          refine V_sub (lv' := [(0, va_rf (some v0)), (2, .int (v2)), (3, .int (v3))]) [0, 1, 2] rfl ?_
          exact vb_Model_wstats_82 hc hq  _ _ _ _ _ hw
set_option maxRecDepth 100000 in
set_option maxHeartbeats 4000000 in
theorem vb_Model_wstats_28 {E : mm_E} {Z : mm_M → Prop} (hc : cx E "EpochServerModel" c_Model_wstats 6 none rm_Model_wstats) (hq : cq E rm_Model_wstats (pV Z))  (v0 : Nat) (v2 : Int32) (v3 : Int32) (s0 : Option Nat) (s1 : Int32) (h : mm_M) (hw : wq_Model_wstats_28  (mm_ge (eG E)) v0 v2 v3 s0 s1 h Z) : V E 6 0 0 h 28 [(0, va_rf (some v0)), (2, .int (v2)), (3, .int (v3))] [.int (s1), va_rf (s0)] := by
  unfold wq_Model_wstats_28 at hw
  refine V_iconst (v := 3) hc d_Model_wstats_28 (by decide) ?_
  obtain ⟨a1, q2, hw⟩ := hw
  obtain ⟨q3, hw⟩ := hw
  refine V_callV (rm' := rm_Model_fails) (As := [.int (s1), .int (3)]) (rest := []) (n := 2) (cn := 0) hc q2 q3 (sat_Model_fails (eG E) _ _ _ _ _ hw) rfl cv_Model_249 (gw_of (tw_5 (List.mem_of_getElem? (i := 209) rfl)) rfl) ss_Model_fails rfl ⟨by decide, by decide⟩ (by decide) (by decide) rfl (by simp [cat_rf, cat_i, cat_l]) d_Model_wstats_29 (fun r0 h4 hw => ?_)
  obtain ⟨r5, rfl, hw⟩ := hw
  refine V_wide (cs' := 0) (sl' := 0) (by decide) (by decide) ?_
  refine V_st (st' := [.int (r5)]) rfl ?_
  refine V_if_ne (tgt := 95) hc d_Model_wstats_32 (by decide) (fun hq1 => ?_) (fun hq1 => ?_)
  · replace hw := hw.1 hq1
    refine V_sub (lv' := []) [] rfl ?_
    exact vb_Model_wstats_95 hc hq  _ hw
  · replace hw := hw.2 hq1
    refine V_aload_n hc 0 d_Model_wstats_35 rfl rfl ?_
    refine V_aload_n hc 0 d_Model_wstats_36 rfl rfl ?_
    obtain ⟨q6, hw⟩ := hw
    refine V_get (v := .int (mm_I h4 v0 51)) hc gf_Model_175 rfl q6 rfl d_Model_wstats_37 ?_
    refine V_if_ne (tgt := 47) hc d_Model_wstats_40 (by decide) (fun hq1 => ?_) (fun hq1 => ?_)
    · replace hw := hw.1 hq1
      refine V_iconst (v := 0) hc d_Model_wstats_47 (by decide) ?_
      refine V_sub (lv' := [(0, va_rf (some v0)), (2, .int (v2)), (3, .int (v3))]) [0, 1, 2] rfl ?_
      exact vb_Model_wstats_48 hc hq  _ _ _ _ _ _ hw
    · replace hw := hw.2 hq1
      refine V_iconst (v := 1) hc d_Model_wstats_43 (by decide) ?_
      refine V_goto (tgt := 48) hc d_Model_wstats_44 (by decide) ?_
      refine V_sub (lv' := [(0, va_rf (some v0)), (2, .int (v2)), (3, .int (v3))]) [0, 1, 2] rfl ?_
      exact vb_Model_wstats_48 hc hq  _ _ _ _ _ _ hw
set_option maxRecDepth 100000 in
set_option maxHeartbeats 4000000 in
theorem vb_Model_wstats_0 {E : mm_E} {Z : mm_M → Prop} (hc : cx E "EpochServerModel" c_Model_wstats 6 none rm_Model_wstats) (hq : cq E rm_Model_wstats (pV Z))  (v0 : Nat) (v1 : Int32) (h : mm_M) (hw : wq_Model_wstats_0  (mm_ge (eG E)) v0 v1 h Z) : V E 6 0 0 h 0 [(0, va_rf (some v0)), (1, .int (v1))] [] := by
  unfold wq_Model_wstats_0 at hw
  refine V_aload_n hc 0 d_Model_wstats_0 rfl rfl ?_
  obtain ⟨q1, hw⟩ := hw
  refine V_get (v := va_rf (mm_P h v0 23)) hc gf_Model_56 rfl q1 rfl d_Model_wstats_1 ?_
  refine V_iload_n hc 1 d_Model_wstats_4 rfl rfl ?_
  obtain ⟨a2, q3, hw⟩ := hw
  obtain ⟨q4, hw⟩ := hw
  obtain ⟨q5, hw⟩ := hw
  refine V_iald hc q3 q4 q5 d_Model_wstats_5 ?_
  refine V_istore_n (i := 2) (lv' := [(2, .int (mm_I h a2 (Int32.toNatClampNeg (v1)))), (0, va_rf (some v0)), (1, .int (v1))]) hc d_Model_wstats_6 rfl (by decide) rfl ?_
  refine V_iconst (v := 0) hc d_Model_wstats_7 (by decide) ?_
  refine V_iload_n hc 0 d_Model_wstats_8 rfl rfl ?_
  refine V_callS (rm' := rm_Model_spot) (As := [.int (0), .int (mm_I h a2 (Int32.toNatClampNeg (v1)))]) (rest := []) (n := 2) hc (sat_Model_spot (eG E) _ _ _ _ hw) cv_Model_96 (gw_of (tw_5 (List.mem_of_getElem? (i := 196) rfl)) rfl) rfl ⟨by decide, by decide⟩ (by decide) (by decide) rfl (by simp [cat_rf, cat_i, cat_l]) d_Model_wstats_9 (fun r0 h6 hw => ?_)
  obtain ⟨r7, rfl, hw⟩ := hw
  refine V_wide (cs' := 0) (sl' := 0) (by decide) (by decide) ?_
  refine V_st (st' := [.int (r7)]) rfl ?_
  refine V_istore_n (i := 3) (lv' := [(3, .int (r7)), (2, .int (mm_I h a2 (Int32.toNatClampNeg (v1)))), (0, va_rf (some v0)), (1, .int (v1))]) hc d_Model_wstats_12 rfl (by decide) rfl ?_
  refine V_aload_n hc 2 d_Model_wstats_13 rfl rfl ?_
  refine V_aload_n hc 2 d_Model_wstats_14 rfl rfl ?_
  obtain ⟨q8, hw⟩ := hw
  refine V_get (v := va_rf (mm_P h6 v0 22)) hc gf_Model_53 rfl q8 rfl d_Model_wstats_15 ?_
  refine V_iload_n hc 3 d_Model_wstats_18 rfl rfl ?_
  obtain ⟨a9, q10, hw⟩ := hw
  obtain ⟨q11, hw⟩ := hw
  obtain ⟨q12, hw⟩ := hw
  refine V_iald hc q10 q11 q12 d_Model_wstats_19 ?_
  refine V_if_eq (tgt := 27) hc d_Model_wstats_20 (by decide) (fun hq1 => ?_) (fun hq1 => ?_)
  · replace hw := hw.1 hq1
    refine V_iconst (v := 0) hc d_Model_wstats_27 (by decide) ?_
    refine V_sub (lv' := [(0, va_rf (some v0)), (2, .int (mm_I h a2 (Int32.toNatClampNeg (v1)))), (3, .int (r7))]) [2, 1, 0] rfl ?_
    exact vb_Model_wstats_28 hc hq  _ _ _ _ _ _ hw
  · replace hw := hw.2 hq1
    refine V_iconst (v := 1) hc d_Model_wstats_23 (by decide) ?_
    refine V_goto (tgt := 28) hc d_Model_wstats_24 (by decide) ?_
    refine V_sub (lv' := [(0, va_rf (some v0)), (2, .int (mm_I h a2 (Int32.toNatClampNeg (v1)))), (3, .int (r7))]) [2, 1, 0] rfl ?_
    exact vb_Model_wstats_28 hc hq  _ _ _ _ _ _ hw
def wq_Model_wstats (ge : Nat → Nat) (v0 : Nat) (v1 : Int32) (h : mm_M) (Z : mm_M → Prop) : Prop := wq_Model_wstats_0 ge v0 v1 h Z
theorem sat_Model_wstats (G : mm_G) (v0 : Nat) (v1 : Int32) (h : mm_M) (Z : mm_M → Prop) (hw : wq_Model_wstats (mm_ge G) v0 v1 h Z) : mm_Met G y_Model_wstats c_Model_wstats 6 none rm_Model_wstats [va_rf (some v0), .int (v1)] h (pV Z) := by
  refine mm_intro (own := "EpochServerModel") (by decide) rfl (by simp [lg_sl, cat_rf, cat_i, cat_l]) (fun E e1 hc hq hi => ?_)
  subst e1
  have e2 : lv_args 0 [va_rf (some v0), .int (v1)] = [(0, va_rf (some v0)), (1, .int (v1))] := by simp [lv_args, cat_rf, cat_i, cat_l]
  rw [e2]
  refine V_sub (lv' := [(0, va_rf (some v0)), (1, .int (v1))]) [0, 1] rfl ?_
  exact vb_Model_wstats_0 hc hq v0 v1 h hw
/-! Model.keep()V -/
abbrev rm_Model_keep : Room := { frames := 2, cells := 0, slots := 0, locals := 47 }
def wq_Model_keep_48  (ge : Nat → Nat) (v0 : Nat) (v1 : Int32) (h : mm_M) (Z : mm_M → Prop) : Prop :=
  mm_k h (v0) = kd_Model ∧ wq_Model_copy ge (v0) (27) ((7 : Int32) + (v1)) h (fun h2 : mm_M => Z h2)
def wq_Model_keep_0  (ge : Nat → Nat) (v0 : Nat) (h : mm_M) (Z : mm_M → Prop) : Prop :=
  mm_k h (v0) = kd_Model ∧ ((¬ (mm_I h v0 13 : Int32) = (20 : Int32) → ge 0 ≤ v0 ∧ ∀ h3 : mm_M, h3 = mm_uI h (v0) 13 ((mm_I h v0 13) + (1 : Int32)) → wq_Model_keep_48  ge (v0) (((mm_I h v0 12) + (mm_I h v0 13)) - ((mm_I h v0 12) + (mm_I h v0 13)) / (20) * (20)) h3 Z) ∧ ((mm_I h v0 13 : Int32) = (20 : Int32) → ge 0 ≤ v0 ∧ ∀ h5 : mm_M, h5 = mm_uI h (v0) 12 (((mm_I h v0 12) + (1 : Int32)) - ((mm_I h v0 12) + (1 : Int32)) / (20) * (20)) → wq_Model_keep_48  ge (v0) (((mm_I h v0 12) + (mm_I h v0 13)) - ((mm_I h v0 12) + (mm_I h v0 13)) / (20) * (20)) h5 Z))
set_option maxRecDepth 100000 in
set_option maxHeartbeats 4000000 in
theorem vb_Model_keep_48 {E : mm_E} {Z : mm_M → Prop} (hc : cx E "EpochServerModel" c_Model_keep 2 none rm_Model_keep) (hq : cq E rm_Model_keep (pV Z))  (v0 : Nat) (v1 : Int32) (h : mm_M) (hw : wq_Model_keep_48  (mm_ge (eG E)) v0 v1 h Z) : V E 2 0 0 h 48 [(0, va_rf (some v0)), (1, .int (v1))] [] := by
  unfold wq_Model_keep_48 at hw
  refine V_aload_n hc 0 d_Model_keep_48 rfl rfl ?_
  refine V_bipush (v := 27) hc d_Model_keep_49 (by decide) ?_
  refine V_bipush (v := 7) hc d_Model_keep_51 (by decide) ?_
  refine V_iload_n hc 1 d_Model_keep_53 rfl rfl ?_
  refine V_iadd hc d_Model_keep_54 ?_
  obtain ⟨q1, hw⟩ := hw
  refine V_callV (rm' := rm_Model_copy) (As := [.int (27), .int ((7 : Int32) + (v1))]) (rest := []) (n := 2) (cn := 0) hc rfl q1 (sat_Model_copy (eG E) _ _ _ _ _ hw) rfl cv_Model_193 (gw_of (tw_5 (List.mem_of_getElem? (i := 193) rfl)) rfl) ss_Model_copy rfl ⟨by decide, by decide⟩ (by decide) (by decide) rfl (by simp [cat_rf, cat_i, cat_l]) d_Model_keep_55 (fun r0 h2 hw => ?_)
  obtain ⟨rfl, hw⟩ := hw
  refine V_wide (cs' := 0) (sl' := 0) (by decide) (by decide) ?_
  refine V_st (st' := []) rfl ?_
  exact V_vret hc hq ⟨rfl, hw⟩ (by decide) (by decide) d_Model_keep_58
set_option maxRecDepth 100000 in
set_option maxHeartbeats 4000000 in
theorem vb_Model_keep_0 {E : mm_E} {Z : mm_M → Prop} (hc : cx E "EpochServerModel" c_Model_keep 2 none rm_Model_keep) (hq : cq E rm_Model_keep (pV Z))  (v0 : Nat) (h : mm_M) (hw : wq_Model_keep_0  (mm_ge (eG E)) v0 h Z) : V E 2 0 0 h 0 [(0, va_rf (some v0))] [] := by
  unfold wq_Model_keep_0 at hw
  refine V_aload_n hc 0 d_Model_keep_0 rfl rfl ?_
  obtain ⟨q1, hw⟩ := hw
  refine V_get (v := .int (mm_I h v0 12)) hc gf_Model_225 rfl q1 rfl d_Model_keep_1 ?_
  refine V_aload_n hc 0 d_Model_keep_4 rfl rfl ?_
  refine V_get (v := .int (mm_I h v0 13)) hc gf_Model_222 rfl q1 rfl d_Model_keep_5 ?_
  refine V_iadd hc d_Model_keep_8 ?_
  refine V_bipush (v := 20) hc d_Model_keep_9 (by decide) ?_
  refine V_irem hc d_Model_keep_11 (by decide) ?_
  refine V_istore_n (i := 1) (lv' := [(1, .int (((mm_I h v0 12) + (mm_I h v0 13)) - ((mm_I h v0 12) + (mm_I h v0 13)) / (20) * (20))), (0, va_rf (some v0))]) hc d_Model_keep_12 rfl (by decide) rfl ?_
  refine V_aload_n hc 1 d_Model_keep_13 rfl rfl ?_
  refine V_get (v := .int (mm_I h v0 13)) hc gf_Model_222 rfl q1 rfl d_Model_keep_14 ?_
  refine V_bipush (v := 20) hc d_Model_keep_17 (by decide) ?_
  refine V_icmp_ne (tgt := 38) hc d_Model_keep_19 (by decide) (fun hq1 => ?_) (fun hq1 => ?_)
  · replace hw := hw.1 hq1
    refine V_aload_n hc 1 d_Model_keep_38 rfl rfl ?_
    refine V_dup hc d_Model_keep_39 (cat_rf _) ?_
    refine V_get (v := .int (mm_I h v0 13)) hc gf_Model_222 rfl q1 rfl d_Model_keep_40 ?_
    refine V_iconst (v := 1) hc d_Model_keep_43 (by decide) ?_
    refine V_iadd hc d_Model_keep_44 ?_
    obtain ⟨q2, hw⟩ := hw
    obtain ⟨h3, eq_h3⟩ : ∃ x, x = mm_uI h (v0) 13 ((mm_I h v0 13) + (1 : Int32)) := ⟨_, rfl⟩
    replace hw := hw _ eq_h3
    refine V_put (h' := h3) hc gf_Model_222 rfl rfl q1 q2 (by rw [eq_h3]; exact mm_Up_I _ _ _ _) (by rw [eq_h3]; exact up_vI rfl) (vp_nar_int _) rfl d_Model_keep_45 ?_
    refine V_sub (lv' := [(0, va_rf (some v0)), (1, .int (((mm_I h v0 12) + (mm_I h v0 13)) - ((mm_I h v0 12) + (mm_I h v0 13)) / (20) * (20)))]) [1, 0] rfl ?_
    exact vb_Model_keep_48 hc hq  _ _ _ hw
  · replace hw := hw.2 hq1
    refine V_aload_n hc 1 d_Model_keep_22 rfl rfl ?_
    refine V_aload_n hc 1 d_Model_keep_23 rfl rfl ?_
    refine V_get (v := .int (mm_I h v0 12)) hc gf_Model_225 rfl q1 rfl d_Model_keep_24 ?_
    refine V_iconst (v := 1) hc d_Model_keep_27 (by decide) ?_
    refine V_iadd hc d_Model_keep_28 ?_
    refine V_bipush (v := 20) hc d_Model_keep_29 (by decide) ?_
    refine V_irem hc d_Model_keep_31 (by decide) ?_
    obtain ⟨q4, hw⟩ := hw
    obtain ⟨h5, eq_h5⟩ : ∃ x, x = mm_uI h (v0) 12 (((mm_I h v0 12) + (1 : Int32)) - ((mm_I h v0 12) + (1 : Int32)) / (20) * (20)) := ⟨_, rfl⟩
    replace hw := hw _ eq_h5
    refine V_put (h' := h5) hc gf_Model_225 rfl rfl q1 q4 (by rw [eq_h5]; exact mm_Up_I _ _ _ _) (by rw [eq_h5]; exact up_vI rfl) (vp_nar_int _) rfl d_Model_keep_32 ?_
    refine V_goto (tgt := 48) hc d_Model_keep_35 (by decide) ?_
    refine V_sub (lv' := [(0, va_rf (some v0)), (1, .int (((mm_I h v0 12) + (mm_I h v0 13)) - ((mm_I h v0 12) + (mm_I h v0 13)) / (20) * (20)))]) [1, 0] rfl ?_
    exact vb_Model_keep_48 hc hq  _ _ _ hw
def wq_Model_keep (ge : Nat → Nat) (v0 : Nat) (h : mm_M) (Z : mm_M → Prop) : Prop := wq_Model_keep_0 ge v0 h Z
theorem sat_Model_keep (G : mm_G) (v0 : Nat) (h : mm_M) (Z : mm_M → Prop) (hw : wq_Model_keep (mm_ge G) v0 h Z) : mm_Met G y_Model_keep c_Model_keep 2 none rm_Model_keep [va_rf (some v0)] h (pV Z) := by
  refine mm_intro (own := "EpochServerModel") (by decide) rfl (by simp [lg_sl, cat_rf, cat_i, cat_l]) (fun E e1 hc hq hi => ?_)
  subst e1
  have e2 : lv_args 0 [va_rf (some v0)] = [(0, va_rf (some v0))] := by simp [lv_args, cat_rf, cat_i, cat_l]
  rw [e2]
  refine V_sub (lv' := [(0, va_rf (some v0))]) [0] rfl ?_
  exact vb_Model_keep_0 hc hq v0 h hw
/-! Model.answer(I)I -/
abbrev rm_Model_answer : Room := { frames := 1, cells := 0, slots := 0, locals := 21 }
def wq_Model_answer_21  (ge : Nat → Nat) (s0 : Int32) (h : mm_M) (Z : Int32 → mm_M → Prop) : Prop :=
  Z (s0) h
def wq_Model_answer_0  (ge : Nat → Nat) (v0 : Nat) (v1 : Int32) (h : mm_M) (Z : Int32 → mm_M → Prop) : Prop :=
  mm_k h (v0) = kd_Model ∧ wq_Model_isIn ge (v1) (mm_I h v0 17) h (fun (r3 : Int32) (h2 : mm_M) => (((r3) = 0 → wq_Model_answer_21  ge ((-1)) h2 Z) ∧ (¬ (r3) = 0 → mm_k h2 (v0) = kd_Model ∧ ∃ a5, mm_P h2 v0 15 = some a5 ∧ mm_k h2 (a5) = ka_I ∧ vp_in (v1) (mm_n h2 a5) ∧ wq_Model_answer_21  ge (mm_I h2 a5 (Int32.toNatClampNeg (v1))) h2 Z)))
set_option maxRecDepth 100000 in
set_option maxHeartbeats 4000000 in
theorem vb_Model_answer_21 {E : mm_E} {Z : Int32 → mm_M → Prop} (hc : cx E "EpochServerModel" c_Model_answer 2 (some (.int)) rm_Model_answer) (hq : cq E rm_Model_answer (pI Z))  (s0 : Int32) (h : mm_M) (hw : wq_Model_answer_21  (mm_ge (eG E)) s0 h Z) : V E 2 0 0 h 21 [] [.int (s0)] := by
  unfold wq_Model_answer_21 at hw
  exact V_iret hc hq ⟨_, rfl, hw⟩ (by decide) (by decide) d_Model_answer_21
set_option maxRecDepth 100000 in
set_option maxHeartbeats 4000000 in
theorem vb_Model_answer_0 {E : mm_E} {Z : Int32 → mm_M → Prop} (hc : cx E "EpochServerModel" c_Model_answer 2 (some (.int)) rm_Model_answer) (hq : cq E rm_Model_answer (pI Z))  (v0 : Nat) (v1 : Int32) (h : mm_M) (hw : wq_Model_answer_0  (mm_ge (eG E)) v0 v1 h Z) : V E 2 0 0 h 0 [(0, va_rf (some v0)), (1, .int (v1))] [] := by
  unfold wq_Model_answer_0 at hw
  refine V_iload_n hc 1 d_Model_answer_0 rfl rfl ?_
  refine V_aload_n hc 0 d_Model_answer_1 rfl rfl ?_
  obtain ⟨q1, hw⟩ := hw
  refine V_get (v := .int (mm_I h v0 17)) hc gf_Model_197 rfl q1 rfl d_Model_answer_2 ?_
  refine V_callS (rm' := rm_Model_isIn) (As := [.int (v1), .int (mm_I h v0 17)]) (rest := []) (n := 2) hc (sat_Model_isIn (eG E) _ _ _ _ hw) cv_Model_110 (gw_of (tw_5 (List.mem_of_getElem? (i := 165) rfl)) rfl) rfl ⟨by decide, by decide⟩ (by decide) (by decide) rfl (by simp [cat_rf, cat_i, cat_l]) d_Model_answer_5 (fun r0 h2 hw => ?_)
  obtain ⟨r3, rfl, hw⟩ := hw
  refine V_wide (cs' := 0) (sl' := 0) (by decide) (by decide) ?_
  refine V_st (st' := [.int (r3)]) rfl ?_
  refine V_if_eq (tgt := 20) hc d_Model_answer_8 (by decide) (fun hq1 => ?_) (fun hq1 => ?_)
  · replace hw := hw.1 hq1
    refine V_iconst (v := (-1)) hc d_Model_answer_20 (by decide) ?_
    refine V_sub (lv' := []) [] rfl ?_
    exact vb_Model_answer_21 hc hq  _ _ hw
  · replace hw := hw.2 hq1
    refine V_aload_n hc 0 d_Model_answer_11 rfl rfl ?_
    obtain ⟨q4, hw⟩ := hw
    refine V_get (v := va_rf (mm_P h2 v0 15)) hc gf_Model_47 rfl q4 rfl d_Model_answer_12 ?_
    refine V_iload_n hc 1 d_Model_answer_15 rfl rfl ?_
    obtain ⟨a5, q6, hw⟩ := hw
    obtain ⟨q7, hw⟩ := hw
    obtain ⟨q8, hw⟩ := hw
    refine V_iald hc q6 q7 q8 d_Model_answer_16 ?_
    refine V_goto (tgt := 21) hc d_Model_answer_17 (by decide) ?_
    refine V_sub (lv' := []) [] rfl ?_
    exact vb_Model_answer_21 hc hq  _ _ hw
def wq_Model_answer (ge : Nat → Nat) (v0 : Nat) (v1 : Int32) (h : mm_M) (Z : Int32 → mm_M → Prop) : Prop := wq_Model_answer_0 ge v0 v1 h Z
theorem sat_Model_answer (G : mm_G) (v0 : Nat) (v1 : Int32) (h : mm_M) (Z : Int32 → mm_M → Prop) (hw : wq_Model_answer (mm_ge G) v0 v1 h Z) : mm_Met G y_Model_answer c_Model_answer 2 (some (.int)) rm_Model_answer [va_rf (some v0), .int (v1)] h (pI Z) := by
  refine mm_intro (own := "EpochServerModel") (by decide) rfl (by simp [lg_sl, cat_rf, cat_i, cat_l]) (fun E e1 hc hq hi => ?_)
  subst e1
  have e2 : lv_args 0 [va_rf (some v0), .int (v1)] = [(0, va_rf (some v0)), (1, .int (v1))] := by simp [lv_args, cat_rf, cat_i, cat_l]
  rw [e2]
  refine V_sub (lv' := [(0, va_rf (some v0)), (1, .int (v1))]) [0, 1] rfl ?_
  exact vb_Model_answer_0 hc hq v0 v1 h hw
/-! Model.word(I)I -/
abbrev rm_Model_word : Room := { frames := 0, cells := 0, slots := 0, locals := 0 }
def wq_Model_word_40 (X10 : Nat → Int32 → Int32 → Int32 → mm_M → Prop) (ge : Nat → Nat) (v0 : Nat) (v1 : Int32) (v3 : Int32) (s0 : Int32) (s1 : Int32) (h : mm_M) (Z : Int32 → mm_M → Prop) : Prop :=
  X10 (v0) (v1) ((s0) ||| (s1)) (v3 + (-1)) h
def wq_Model_word_10 (X10 : Nat → Int32 → Int32 → Int32 → mm_M → Prop) (ge : Nat → Nat) (v0 : Nat) (v1 : Int32) (v2 : Int32) (v3 : Int32) (h : mm_M) (Z : Int32 → mm_M → Prop) : Prop :=
  (((v3) < 0 → Z (v2) h) ∧ (¬ (v3) < 0 → mm_k h (v0) = kd_Model ∧ ((((mm_I h v0 17) - (v3) : Int32) ≤ (v1 : Int32) → wq_Model_word_40 X10 ge (v0) (v1) (v3) ((v2) <<< ((8 : Int32) &&& 31)) (0) h Z) ∧ (¬ ((mm_I h v0 17) - (v3) : Int32) ≤ (v1 : Int32) → ∃ a2, mm_P h v0 15 = some a2 ∧ mm_k h (a2) = ka_I ∧ vp_in ((v1) + (v3)) (mm_n h a2) ∧ wq_Model_word_40 X10 ge (v0) (v1) (v3) ((v2) <<< ((8 : Int32) &&& 31)) (mm_I h a2 (Int32.toNatClampNeg ((v1) + (v3)))) h Z))))
def lp_Model_word_10  (ge : Nat → Nat) (v0 : Nat) (v1 : Int32) (v2 : Int32) (v3 : Int32) (h : mm_M) (Z : Int32 → mm_M → Prop) : Prop :=
  ∀ X10 : Nat → Int32 → Int32 → Int32 → mm_M → Prop, (∀ (v0 : Nat) (v1 : Int32) (v2 : Int32) (v3 : Int32) (h : mm_M), wq_Model_word_10 X10 ge v0 v1 v2 v3 h Z → X10 v0 v1 v2 v3 h) → X10 v0 v1 v2 v3 h
def wq_Model_word_0  (ge : Nat → Nat) (v0 : Nat) (v1 : Int32) (h : mm_M) (Z : Int32 → mm_M → Prop) : Prop :=
  ((0 ≤ (v1) → lp_Model_word_10  ge (v0) (v1) (0) (3) h Z) ∧ (¬ 0 ≤ (v1) → Z (0) h))
set_option maxRecDepth 100000 in
set_option maxHeartbeats 4000000 in
theorem vb_Model_word_40 {E : mm_E} {Z : Int32 → mm_M → Prop} (hc : cx E "EpochServerModel" c_Model_word 4 (some (.int)) rm_Model_word) (hq : cq E rm_Model_word (pI Z)) (X10 : Nat → Int32 → Int32 → Int32 → mm_M → Prop) (hX10 : ∀ (v0 : Nat) (v1 : Int32) (v2 : Int32) (v3 : Int32) (h : mm_M), X10 v0 v1 v2 v3 h → V E 4 0 0 h 10 [(0, va_rf (some v0)), (1, .int (v1)), (2, .int (v2)), (3, .int (v3))] []) (v0 : Nat) (v1 : Int32) (v3 : Int32) (s0 : Int32) (s1 : Int32) (h : mm_M) (hw : wq_Model_word_40 X10 (mm_ge (eG E)) v0 v1 v3 s0 s1 h Z) : V E 4 0 0 h 40 [(0, va_rf (some v0)), (1, .int (v1)), (3, .int (v3))] [.int (s1), .int (s0)] := by
  unfold wq_Model_word_40 at hw
  refine V_ior hc d_Model_word_40 ?_
  refine V_istore_n (i := 2) (lv' := [(2, .int ((s0) ||| (s1))), (0, va_rf (some v0)), (1, .int (v1)), (3, .int (v3))]) hc d_Model_word_41 rfl (by decide) rfl ?_
  refine V_iinc (v := v3 + (-1)) (lv' := [(3, .int (v3 + (-1))), (2, .int ((s0) ||| (s1))), (0, va_rf (some v0)), (1, .int (v1))]) hc 3 d_Model_word_42 rfl rfl (by decide) rfl ?_
  refine V_goto (tgt := 10) hc d_Model_word_45 (by decide) ?_
  refine V_sub (lv' := [(0, va_rf (some v0)), (1, .int (v1)), (2, .int ((s0) ||| (s1))), (3, .int (v3 + (-1)))]) [2, 3, 1, 0] rfl ?_
  exact hX10 _ _ _ _ _ hw
set_option maxRecDepth 100000 in
set_option maxHeartbeats 4000000 in
theorem vb_Model_word_10 {E : mm_E} {Z : Int32 → mm_M → Prop} (hc : cx E "EpochServerModel" c_Model_word 4 (some (.int)) rm_Model_word) (hq : cq E rm_Model_word (pI Z)) (X10 : Nat → Int32 → Int32 → Int32 → mm_M → Prop) (hX10 : ∀ (v0 : Nat) (v1 : Int32) (v2 : Int32) (v3 : Int32) (h : mm_M), X10 v0 v1 v2 v3 h → V E 4 0 0 h 10 [(0, va_rf (some v0)), (1, .int (v1)), (2, .int (v2)), (3, .int (v3))] []) (v0 : Nat) (v1 : Int32) (v2 : Int32) (v3 : Int32) (h : mm_M) (hw : wq_Model_word_10 X10 (mm_ge (eG E)) v0 v1 v2 v3 h Z) : V E 4 0 0 h 10 [(0, va_rf (some v0)), (1, .int (v1)), (2, .int (v2)), (3, .int (v3))] [] := by
  unfold wq_Model_word_10 at hw
  refine V_iload_n hc 3 d_Model_word_10 rfl rfl ?_
  refine V_if_lt (tgt := 48) hc d_Model_word_11 (by decide) (fun hq1 => ?_) (fun hq1 => ?_)
  · replace hw := hw.1 hq1
    refine V_iload_n hc 2 d_Model_word_48 rfl rfl ?_
    exact V_iret hc hq ⟨_, rfl, hw⟩ (by decide) (by decide) d_Model_word_49
  · replace hw := hw.2 hq1
    refine V_iload_n hc 2 d_Model_word_14 rfl rfl ?_
    refine V_bipush (v := 8) hc d_Model_word_15 (by decide) ?_
    refine V_ishl hc d_Model_word_17 ?_
    refine V_iload_n hc 1 d_Model_word_18 rfl rfl ?_
    refine V_aload_n hc 0 d_Model_word_19 rfl rfl ?_
    obtain ⟨q1, hw⟩ := hw
    refine V_get (v := .int (mm_I h v0 17)) hc gf_Model_197 rfl q1 rfl d_Model_word_20 ?_
    refine V_iload_n hc 3 d_Model_word_23 rfl rfl ?_
    refine V_isub hc d_Model_word_24 ?_
    refine V_icmp_ge (tgt := 39) hc d_Model_word_25 (by decide) (fun hq1 => ?_) (fun hq1 => ?_)
    · replace hw := hw.1 hq1
      refine V_iconst (v := 0) hc d_Model_word_39 (by decide) ?_
      refine V_sub (lv' := [(0, va_rf (some v0)), (1, .int (v1)), (3, .int (v3))]) [0, 1, 3] rfl ?_
      exact vb_Model_word_40 hc hq X10 hX10 _ _ _ _ _ _ hw
    · replace hw := hw.2 hq1
      refine V_aload_n hc 0 d_Model_word_28 rfl rfl ?_
      refine V_get (v := va_rf (mm_P h v0 15)) hc gf_Model_47 rfl q1 rfl d_Model_word_29 ?_
      refine V_iload_n hc 1 d_Model_word_32 rfl rfl ?_
      refine V_iload_n hc 3 d_Model_word_33 rfl rfl ?_
      refine V_iadd hc d_Model_word_34 ?_
      obtain ⟨a2, q3, hw⟩ := hw
      obtain ⟨q4, hw⟩ := hw
      obtain ⟨q5, hw⟩ := hw
      refine V_iald hc q3 q4 q5 d_Model_word_35 ?_
      refine V_goto (tgt := 40) hc d_Model_word_36 (by decide) ?_
      refine V_sub (lv' := [(0, va_rf (some v0)), (1, .int (v1)), (3, .int (v3))]) [0, 1, 3] rfl ?_
      exact vb_Model_word_40 hc hq X10 hX10 _ _ _ _ _ _ hw
theorem vl_Model_word_10 {E : mm_E} {Z : Int32 → mm_M → Prop} (hc : cx E "EpochServerModel" c_Model_word 4 (some (.int)) rm_Model_word) (hq : cq E rm_Model_word (pI Z))  (v0 : Nat) (v1 : Int32) (v2 : Int32) (v3 : Int32) (h : mm_M) (hw : lp_Model_word_10  (mm_ge (eG E)) v0 v1 v2 v3 h Z) : V E 4 0 0 h 10 [(0, va_rf (some v0)), (1, .int (v1)), (2, .int (v2)), (3, .int (v3))] [] :=
  hw (fun v0 v1 v2 v3 h => V E 4 0 0 h 10 [(0, va_rf (some v0)), (1, .int (v1)), (2, .int (v2)), (3, .int (v3))] []) (fun v0 v1 v2 v3 h hb => vb_Model_word_10 hc hq  _ (fun _ _ _ _ _ q => q) v0 v1 v2 v3 h hb)
set_option maxRecDepth 100000 in
set_option maxHeartbeats 4000000 in
theorem vb_Model_word_0 {E : mm_E} {Z : Int32 → mm_M → Prop} (hc : cx E "EpochServerModel" c_Model_word 4 (some (.int)) rm_Model_word) (hq : cq E rm_Model_word (pI Z))  (v0 : Nat) (v1 : Int32) (h : mm_M) (hw : wq_Model_word_0  (mm_ge (eG E)) v0 v1 h Z) : V E 4 0 0 h 0 [(0, va_rf (some v0)), (1, .int (v1))] [] := by
  unfold wq_Model_word_0 at hw
  refine V_iload_n hc 1 d_Model_word_0 rfl rfl ?_
  refine V_if_ge (tgt := 6) hc d_Model_word_1 (by decide) (fun hq1 => ?_) (fun hq1 => ?_)
  · replace hw := hw.1 hq1
    refine V_iconst (v := 0) hc d_Model_word_6 (by decide) ?_
    refine V_istore_n (i := 2) (lv' := [(2, .int (0)), (0, va_rf (some v0)), (1, .int (v1))]) hc d_Model_word_7 rfl (by decide) rfl ?_
    refine V_iconst (v := 3) hc d_Model_word_8 (by decide) ?_
    refine V_istore_n (i := 3) (lv' := [(3, .int (3)), (2, .int (0)), (0, va_rf (some v0)), (1, .int (v1))]) hc d_Model_word_9 rfl (by decide) rfl ?_
    refine V_sub (lv' := [(0, va_rf (some v0)), (1, .int (v1)), (2, .int (0)), (3, .int (3))]) [2, 3, 1, 0] rfl ?_
    exact vl_Model_word_10 hc hq  _ _ _ _ _ hw
  · replace hw := hw.2 hq1
    refine V_iconst (v := 0) hc d_Model_word_4 (by decide) ?_
    exact V_iret hc hq ⟨_, rfl, hw⟩ (by decide) (by decide) d_Model_word_5
def wq_Model_word (ge : Nat → Nat) (v0 : Nat) (v1 : Int32) (h : mm_M) (Z : Int32 → mm_M → Prop) : Prop := wq_Model_word_0 ge v0 v1 h Z
theorem sat_Model_word (G : mm_G) (v0 : Nat) (v1 : Int32) (h : mm_M) (Z : Int32 → mm_M → Prop) (hw : wq_Model_word (mm_ge G) v0 v1 h Z) : mm_Met G y_Model_word c_Model_word 4 (some (.int)) rm_Model_word [va_rf (some v0), .int (v1)] h (pI Z) := by
  refine mm_intro (own := "EpochServerModel") (by decide) rfl (by simp [lg_sl, cat_rf, cat_i, cat_l]) (fun E e1 hc hq hi => ?_)
  subst e1
  have e2 : lv_args 0 [va_rf (some v0), .int (v1)] = [(0, va_rf (some v0)), (1, .int (v1))] := by simp [lv_args, cat_rf, cat_i, cat_l]
  rw [e2]
  refine V_sub (lv' := [(0, va_rf (some v0)), (1, .int (v1))]) [0, 1] rfl ?_
  exact vb_Model_word_0 hc hq v0 v1 h hw
/-! Model.snap()I -/
abbrev rm_Model_snap : Room := { frames := 2, cells := 0, slots := 0, locals := 47 }
def wq_Model_snap_0  (ge : Nat → Nat) (v0 : Nat) (h : mm_M) (Z : Int32 → mm_M → Prop) : Prop :=
  mm_k h (v0) = kd_Model ∧ ((¬ (mm_I h v0 11 : Int32) = (6 : Int32) → ge 0 ≤ v0 ∧ ∀ h3 : mm_M, h3 = mm_uI h (v0) 11 ((mm_I h v0 11) + (1 : Int32)) → mm_k h3 (v0) = kd_Model ∧ wq_Model_copy ge (v0) (0) (mm_I h3 v0 11) h3 (fun h5 : mm_M => mm_k h5 (v0) = kd_Model ∧ Z ((mm_I h5 v0 11) - (1 : Int32)) h5)) ∧ ((mm_I h v0 11 : Int32) = (6 : Int32) → Z ((-1)) h))
set_option maxRecDepth 100000 in
set_option maxHeartbeats 4000000 in
theorem vb_Model_snap_0 {E : mm_E} {Z : Int32 → mm_M → Prop} (hc : cx E "EpochServerModel" c_Model_snap 1 (some (.int)) rm_Model_snap) (hq : cq E rm_Model_snap (pI Z))  (v0 : Nat) (h : mm_M) (hw : wq_Model_snap_0  (mm_ge (eG E)) v0 h Z) : V E 1 0 0 h 0 [(0, va_rf (some v0))] [] := by
  unfold wq_Model_snap_0 at hw
  refine V_aload_n hc 0 d_Model_snap_0 rfl rfl ?_
  obtain ⟨q1, hw⟩ := hw
  refine V_get (v := .int (mm_I h v0 11)) hc gf_Model_315 rfl q1 rfl d_Model_snap_1 ?_
  refine V_bipush (v := 6) hc d_Model_snap_4 (by decide) ?_
  refine V_icmp_ne (tgt := 11) hc d_Model_snap_6 (by decide) (fun hq1 => ?_) (fun hq1 => ?_)
  · replace hw := hw.1 hq1
    refine V_aload_n hc 0 d_Model_snap_11 rfl rfl ?_
    refine V_dup hc d_Model_snap_12 (cat_rf _) ?_
    refine V_get (v := .int (mm_I h v0 11)) hc gf_Model_315 rfl q1 rfl d_Model_snap_13 ?_
    refine V_iconst (v := 1) hc d_Model_snap_16 (by decide) ?_
    refine V_iadd hc d_Model_snap_17 ?_
    obtain ⟨q2, hw⟩ := hw
    obtain ⟨h3, eq_h3⟩ : ∃ x, x = mm_uI h (v0) 11 ((mm_I h v0 11) + (1 : Int32)) := ⟨_, rfl⟩
    replace hw := hw _ eq_h3
    refine V_put (h' := h3) hc gf_Model_315 rfl rfl q1 q2 (by rw [eq_h3]; exact mm_Up_I _ _ _ _) (by rw [eq_h3]; exact up_vI rfl) (vp_nar_int _) rfl d_Model_snap_18 ?_
    refine V_aload_n hc 0 d_Model_snap_21 rfl rfl ?_
    refine V_iconst (v := 0) hc d_Model_snap_22 (by decide) ?_
    refine V_aload_n hc 0 d_Model_snap_23 rfl rfl ?_
    obtain ⟨q4, hw⟩ := hw
    refine V_get (v := .int (mm_I h3 v0 11)) hc gf_Model_315 rfl q4 rfl d_Model_snap_24 ?_
    refine V_callV (rm' := rm_Model_copy) (As := [.int (0), .int (mm_I h3 v0 11)]) (rest := []) (n := 2) (cn := 0) hc rfl q4 (sat_Model_copy (eG E) _ _ _ _ _ hw) rfl cv_Model_193 (gw_of (tw_5 (List.mem_of_getElem? (i := 193) rfl)) rfl) ss_Model_copy rfl ⟨by decide, by decide⟩ (by decide) (by decide) rfl (by simp [cat_rf, cat_i, cat_l]) d_Model_snap_27 (fun r0 h5 hw => ?_)
    obtain ⟨rfl, hw⟩ := hw
    refine V_wide (cs' := 0) (sl' := 0) (by decide) (by decide) ?_
    refine V_st (st' := []) rfl ?_
    refine V_aload_n hc 0 d_Model_snap_30 rfl rfl ?_
    obtain ⟨q7, hw⟩ := hw
    refine V_get (v := .int (mm_I h5 v0 11)) hc gf_Model_315 rfl q7 rfl d_Model_snap_31 ?_
    refine V_iconst (v := 1) hc d_Model_snap_34 (by decide) ?_
    refine V_isub hc d_Model_snap_35 ?_
    exact V_iret hc hq ⟨_, rfl, hw⟩ (by decide) (by decide) d_Model_snap_36
  · replace hw := hw.2 hq1
    refine V_iconst (v := (-1)) hc d_Model_snap_9 (by decide) ?_
    exact V_iret hc hq ⟨_, rfl, hw⟩ (by decide) (by decide) d_Model_snap_10
def wq_Model_snap (ge : Nat → Nat) (v0 : Nat) (h : mm_M) (Z : Int32 → mm_M → Prop) : Prop := wq_Model_snap_0 ge v0 h Z
theorem sat_Model_snap (G : mm_G) (v0 : Nat) (h : mm_M) (Z : Int32 → mm_M → Prop) (hw : wq_Model_snap (mm_ge G) v0 h Z) : mm_Met G y_Model_snap c_Model_snap 1 (some (.int)) rm_Model_snap [va_rf (some v0)] h (pI Z) := by
  refine mm_intro (own := "EpochServerModel") (by decide) rfl (by simp [lg_sl, cat_rf, cat_i, cat_l]) (fun E e1 hc hq hi => ?_)
  subst e1
  have e2 : lv_args 0 [va_rf (some v0)] = [(0, va_rf (some v0))] := by simp [lv_args, cat_rf, cat_i, cat_l]
  rw [e2]
  refine V_sub (lv' := [(0, va_rf (some v0))]) [0] rfl ?_
  exact vb_Model_snap_0 hc hq v0 h hw
/-! Model.crash(I)I -/
abbrev rm_Model_crash : Room := { frames := 2, cells := 0, slots := 0, locals := 47 }
def wq_Model_crash_12  (ge : Nat → Nat)  (h : mm_M) (Z : Int32 → mm_M → Prop) : Prop :=
  Z ((-1)) h
def wq_Model_crash_40  (ge : Nat → Nat) (v0 : Nat) (h : mm_M) (Z : Int32 → mm_M → Prop) : Prop :=
  mm_k h (v0) = kd_Model ∧ ge 0 ≤ v0 ∧ ∀ h3 : mm_M, h3 = mm_uI h (v0) 27 (0) → mm_k h3 (v0) = kd_Model ∧ ge 0 ≤ v0 ∧ ∀ h6 : mm_M, h6 = mm_uI h3 (v0) 20 (0) → mm_k h6 (v0) = kd_Model ∧ ge 0 ≤ v0 ∧ ∀ h9 : mm_M, h9 = mm_uI h6 (v0) 13 (0) → Z (1) h9
def wq_Model_crash_0  (ge : Nat → Nat) (v0 : Nat) (v1 : Int32) (h : mm_M) (Z : Int32 → mm_M → Prop) : Prop :=
  (((v1) < 0 → wq_Model_crash_12  ge h Z) ∧ (¬ (v1) < 0 → mm_k h (v0) = kd_Model ∧ (((v1 : Int32) ≤ (mm_I h v0 13 : Int32) → (((v1) ≤ 0 → wq_Model_crash_40  ge (v0) h Z) ∧ (¬ (v1) ≤ 0 → wq_Model_copy ge (v0) ((7 : Int32) + ((((mm_I h v0 12) + (mm_I h v0 13)) - (v1)) - (((mm_I h v0 12) + (mm_I h v0 13)) - (v1)) / (20) * (20))) (0) h (fun h2 : mm_M => wq_Model_crash_40  ge (v0) h2 Z)))) ∧ (¬ (v1 : Int32) ≤ (mm_I h v0 13 : Int32) → wq_Model_crash_12  ge h Z))))
set_option maxRecDepth 100000 in
set_option maxHeartbeats 4000000 in
theorem vb_Model_crash_12 {E : mm_E} {Z : Int32 → mm_M → Prop} (hc : cx E "EpochServerModel" c_Model_crash 2 (some (.int)) rm_Model_crash) (hq : cq E rm_Model_crash (pI Z))   (h : mm_M) (hw : wq_Model_crash_12  (mm_ge (eG E))  h Z) : V E 2 0 0 h 12 [] [] := by
  unfold wq_Model_crash_12 at hw
  refine V_iconst (v := (-1)) hc d_Model_crash_12 (by decide) ?_
  exact V_iret hc hq ⟨_, rfl, hw⟩ (by decide) (by decide) d_Model_crash_13
set_option maxRecDepth 100000 in
set_option maxHeartbeats 4000000 in
theorem vb_Model_crash_40 {E : mm_E} {Z : Int32 → mm_M → Prop} (hc : cx E "EpochServerModel" c_Model_crash 2 (some (.int)) rm_Model_crash) (hq : cq E rm_Model_crash (pI Z))  (v0 : Nat) (h : mm_M) (hw : wq_Model_crash_40  (mm_ge (eG E)) v0 h Z) : V E 2 0 0 h 40 [(0, va_rf (some v0))] [] := by
  unfold wq_Model_crash_40 at hw
  refine V_aload_n hc 0 d_Model_crash_40 rfl rfl ?_
  refine V_iconst (v := 0) hc d_Model_crash_41 (by decide) ?_
  obtain ⟨q1, hw⟩ := hw
  obtain ⟨q2, hw⟩ := hw
  obtain ⟨h3, eq_h3⟩ : ∃ x, x = mm_uI h (v0) 27 (0) := ⟨_, rfl⟩
  replace hw := hw _ eq_h3
  refine V_put (h' := h3) hc gf_Model_240 rfl rfl q1 q2 (by rw [eq_h3]; exact mm_Up_I _ _ _ _) (by rw [eq_h3]; exact up_vI rfl) (vp_nar_int _) rfl d_Model_crash_42 ?_
  refine V_aload_n hc 0 d_Model_crash_45 rfl rfl ?_
  refine V_iconst (v := 0) hc d_Model_crash_46 (by decide) ?_
  obtain ⟨q4, hw⟩ := hw
  obtain ⟨q5, hw⟩ := hw
  obtain ⟨h6, eq_h6⟩ : ∃ x, x = mm_uI h3 (v0) 20 (0) := ⟨_, rfl⟩
  replace hw := hw _ eq_h6
  refine V_put (h' := h6) hc gf_Model_246 rfl rfl q4 q5 (by rw [eq_h6]; exact mm_Up_I _ _ _ _) (by rw [eq_h6]; exact up_vI rfl) (vp_nar_int _) rfl d_Model_crash_47 ?_
  refine V_aload_n hc 0 d_Model_crash_50 rfl rfl ?_
  refine V_iconst (v := 0) hc d_Model_crash_51 (by decide) ?_
  obtain ⟨q7, hw⟩ := hw
  obtain ⟨q8, hw⟩ := hw
  obtain ⟨h9, eq_h9⟩ : ∃ x, x = mm_uI h6 (v0) 13 (0) := ⟨_, rfl⟩
  replace hw := hw _ eq_h9
  refine V_put (h' := h9) hc gf_Model_222 rfl rfl q7 q8 (by rw [eq_h9]; exact mm_Up_I _ _ _ _) (by rw [eq_h9]; exact up_vI rfl) (vp_nar_int _) rfl d_Model_crash_52 ?_
  refine V_iconst (v := 1) hc d_Model_crash_55 (by decide) ?_
  exact V_iret hc hq ⟨_, rfl, hw⟩ (by decide) (by decide) d_Model_crash_56
set_option maxRecDepth 100000 in
set_option maxHeartbeats 4000000 in
theorem vb_Model_crash_0 {E : mm_E} {Z : Int32 → mm_M → Prop} (hc : cx E "EpochServerModel" c_Model_crash 2 (some (.int)) rm_Model_crash) (hq : cq E rm_Model_crash (pI Z))  (v0 : Nat) (v1 : Int32) (h : mm_M) (hw : wq_Model_crash_0  (mm_ge (eG E)) v0 v1 h Z) : V E 2 0 0 h 0 [(0, va_rf (some v0)), (1, .int (v1))] [] := by
  unfold wq_Model_crash_0 at hw
  refine V_iload_n hc 1 d_Model_crash_0 rfl rfl ?_
  refine V_if_lt (tgt := 12) hc d_Model_crash_1 (by decide) (fun hq1 => ?_) (fun hq1 => ?_)
  · replace hw := hw.1 hq1
    refine V_sub (lv' := []) [] rfl ?_
    exact vb_Model_crash_12 hc hq  _ hw
  · replace hw := hw.2 hq1
    refine V_iload_n hc 1 d_Model_crash_4 rfl rfl ?_
    refine V_aload_n hc 0 d_Model_crash_5 rfl rfl ?_
    obtain ⟨q1, hw⟩ := hw
    refine V_get (v := .int (mm_I h v0 13)) hc gf_Model_222 rfl q1 rfl d_Model_crash_6 ?_
    refine V_icmp_le (tgt := 14) hc d_Model_crash_9 (by decide) (fun hq1 => ?_) (fun hq1 => ?_)
    · replace hw := hw.1 hq1
      refine V_iload_n hc 1 d_Model_crash_14 rfl rfl ?_
      refine V_if_le (tgt := 40) hc d_Model_crash_15 (by decide) (fun hq1 => ?_) (fun hq1 => ?_)
      · replace hw := hw.1 hq1
        refine V_sub (lv' := [(0, va_rf (some v0))]) [0] rfl ?_
        exact vb_Model_crash_40 hc hq  _ _ hw
      · replace hw := hw.2 hq1
        refine V_aload_n hc 0 d_Model_crash_18 rfl rfl ?_
        refine V_bipush (v := 7) hc d_Model_crash_19 (by decide) ?_
        refine V_aload_n hc 0 d_Model_crash_21 rfl rfl ?_
        refine V_get (v := .int (mm_I h v0 12)) hc gf_Model_225 rfl q1 rfl d_Model_crash_22 ?_
        refine V_aload_n hc 0 d_Model_crash_25 rfl rfl ?_
        refine V_get (v := .int (mm_I h v0 13)) hc gf_Model_222 rfl q1 rfl d_Model_crash_26 ?_
        refine V_iadd hc d_Model_crash_29 ?_
        refine V_iload_n hc 1 d_Model_crash_30 rfl rfl ?_
        refine V_isub hc d_Model_crash_31 ?_
        refine V_bipush (v := 20) hc d_Model_crash_32 (by decide) ?_
        refine V_irem hc d_Model_crash_34 (by decide) ?_
        refine V_iadd hc d_Model_crash_35 ?_
        refine V_iconst (v := 0) hc d_Model_crash_36 (by decide) ?_
        refine V_callV (rm' := rm_Model_copy) (As := [.int ((7 : Int32) + ((((mm_I h v0 12) + (mm_I h v0 13)) - (v1)) - (((mm_I h v0 12) + (mm_I h v0 13)) - (v1)) / (20) * (20))), .int (0)]) (rest := []) (n := 2) (cn := 0) hc rfl q1 (sat_Model_copy (eG E) _ _ _ _ _ hw) rfl cv_Model_193 (gw_of (tw_5 (List.mem_of_getElem? (i := 193) rfl)) rfl) ss_Model_copy rfl ⟨by decide, by decide⟩ (by decide) (by decide) rfl (by simp [cat_rf, cat_i, cat_l]) d_Model_crash_37 (fun r0 h2 hw => ?_)
        obtain ⟨rfl, hw⟩ := hw
        refine V_wide (cs' := 0) (sl' := 0) (by decide) (by decide) ?_
        refine V_st (st' := []) rfl ?_
        refine V_sub (lv' := [(0, va_rf (some v0))]) [0] rfl ?_
        exact vb_Model_crash_40 hc hq  _ _ hw
    · replace hw := hw.2 hq1
      refine V_sub (lv' := []) [] rfl ?_
      exact vb_Model_crash_12 hc hq  _ hw
def wq_Model_crash (ge : Nat → Nat) (v0 : Nat) (v1 : Int32) (h : mm_M) (Z : Int32 → mm_M → Prop) : Prop := wq_Model_crash_0 ge v0 v1 h Z
theorem sat_Model_crash (G : mm_G) (v0 : Nat) (v1 : Int32) (h : mm_M) (Z : Int32 → mm_M → Prop) (hw : wq_Model_crash (mm_ge G) v0 v1 h Z) : mm_Met G y_Model_crash c_Model_crash 2 (some (.int)) rm_Model_crash [va_rf (some v0), .int (v1)] h (pI Z) := by
  refine mm_intro (own := "EpochServerModel") (by decide) rfl (by simp [lg_sl, cat_rf, cat_i, cat_l]) (fun E e1 hc hq hi => ?_)
  subst e1
  have e2 : lv_args 0 [va_rf (some v0), .int (v1)] = [(0, va_rf (some v0)), (1, .int (v1))] := by simp [lv_args, cat_rf, cat_i, cat_l]
  rw [e2]
  refine V_sub (lv' := [(0, va_rf (some v0)), (1, .int (v1))]) [0, 1] rfl ?_
  exact vb_Model_crash_0 hc hq v0 v1 h hw
