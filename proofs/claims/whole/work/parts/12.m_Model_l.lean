/-! Model.hashes(I)V -/
abbrev rm_Model_hashes : Room := { frames := 2, cells := 0, slots := 0, locals := 51 }
def wq_Model_hashes_128 (X128 : Nat → Int32 → Int32 → mm_M → Prop) (ge : Nat → Nat) (v0 : Nat) (v2 : Int32) (v3 : Int32) (h : mm_M) (Z : mm_M → Prop) : Prop :=
  (((v2 : Int32) ≤ (v3 : Int32) → Z h) ∧ (¬ (v2 : Int32) ≤ (v3 : Int32) → mm_k h (v0) = kd_Model ∧ wq_Model_rounds ge (v0) (v3) h (fun h2 : mm_M => X128 (v0) (v2) (v3 + 64) h2)))
def lp_Model_hashes_128  (ge : Nat → Nat) (v0 : Nat) (v2 : Int32) (v3 : Int32) (h : mm_M) (Z : mm_M → Prop) : Prop :=
  ∀ X128 : Nat → Int32 → Int32 → mm_M → Prop, (∀ (v0 : Nat) (v2 : Int32) (v3 : Int32) (h : mm_M), wq_Model_hashes_128 X128 ge v0 v2 v3 h Z → X128 v0 v2 v3 h) → X128 v0 v2 v3 h
def wq_Model_hashes_92 (X92 : Nat → Int32 → Int32 → Int32 → mm_M → Prop) (ge : Nat → Nat) (v0 : Nat) (v1 : Int32) (v2 : Int32) (v3 : Int32) (h : mm_M) (Z : mm_M → Prop) : Prop :=
  (((4 : Int32) ≤ (v3 : Int32) → lp_Model_hashes_128  ge (v0) (v2) (0) h Z) ∧ (¬ (4 : Int32) ≤ (v3 : Int32) → mm_k h (v0) = kd_Model ∧ ∃ a2, mm_P h v0 55 = some a2 ∧ mm_k h (a2) = ka_I ∧ vp_in (((v2) - (1 : Int32)) - (v3)) (mm_n h a2) ∧ ge 0 ≤ a2 ∧ ∀ h7 : mm_M, h7 = mm_uI h a2 (Int32.toNatClampNeg (((v2) - (1 : Int32)) - (v3))) ((((8 : Int32) * (v1)) >>> (((8 : Int32) * (v3)) &&& 31)) &&& (255 : Int32)) → X92 (v0) (v1) (v2) (v3 + 1) h7))
def lp_Model_hashes_92  (ge : Nat → Nat) (v0 : Nat) (v1 : Int32) (v2 : Int32) (v3 : Int32) (h : mm_M) (Z : mm_M → Prop) : Prop :=
  ∀ X92 : Nat → Int32 → Int32 → Int32 → mm_M → Prop, (∀ (v0 : Nat) (v1 : Int32) (v2 : Int32) (v3 : Int32) (h : mm_M), wq_Model_hashes_92 X92 ge v0 v1 v2 v3 h Z → X92 v0 v1 v2 v3 h) → X92 v0 v1 v2 v3 h
def wq_Model_hashes_83 (X61 : Nat → Int32 → Int32 → Int32 → mm_M → Prop) (ge : Nat → Nat) (v0 : Nat) (v1 : Int32) (v2 : Int32) (v3 : Int32) (s0 : Option Nat) (s1 : Int32) (s2 : Int32) (h : mm_M) (Z : mm_M → Prop) : Prop :=
  ∃ a1, s0 = some a1 ∧ mm_k h (a1) = ka_I ∧ vp_in (s1) (mm_n h a1) ∧ ge 0 ≤ a1 ∧ ∀ h6 : mm_M, h6 = mm_uI h a1 (Int32.toNatClampNeg (s1)) (s2) → X61 (v0) (v1) (v2) (v3 + 1) h6
def wq_Model_hashes_61 (X61 : Nat → Int32 → Int32 → Int32 → mm_M → Prop) (ge : Nat → Nat) (v0 : Nat) (v1 : Int32) (v2 : Int32) (v3 : Int32) (h : mm_M) (Z : mm_M → Prop) : Prop :=
  (((v2 : Int32) ≤ (v3 : Int32) → lp_Model_hashes_92  ge (v0) (v1) (v2) (0) h Z) ∧ (¬ (v2 : Int32) ≤ (v3 : Int32) → mm_k h (v0) = kd_Model ∧ ((¬ (v3 : Int32) = (v1 : Int32) → wq_Model_hashes_83 X61 ge (v0) (v1) (v2) (v3) (mm_P h v0 55) (v3) (0) h Z) ∧ ((v3 : Int32) = (v1 : Int32) → wq_Model_hashes_83 X61 ge (v0) (v1) (v2) (v3) (mm_P h v0 55) (v3) (128) h Z))))
def lp_Model_hashes_61  (ge : Nat → Nat) (v0 : Nat) (v1 : Int32) (v2 : Int32) (v3 : Int32) (h : mm_M) (Z : mm_M → Prop) : Prop :=
  ∀ X61 : Nat → Int32 → Int32 → Int32 → mm_M → Prop, (∀ (v0 : Nat) (v1 : Int32) (v2 : Int32) (v3 : Int32) (h : mm_M), wq_Model_hashes_61 X61 ge v0 v1 v2 v3 h Z → X61 v0 v1 v2 v3 h) → X61 v0 v1 v2 v3 h
def wq_Model_hashes_0  (ge : Nat → Nat) (v0 : Nat) (v1 : Int32) (h : mm_M) (Z : mm_M → Prop) : Prop :=
  mm_k h (v0) = kd_Model ∧ ∃ a2, mm_P h v0 57 = some a2 ∧ mm_k h (a2) = ka_I ∧ vp_in (0) (mm_n h a2) ∧ ge 0 ≤ a2 ∧ ∀ h7 : mm_M, h7 = mm_uI h a2 (Int32.toNatClampNeg (0)) (1732584193) → mm_k h7 (v0) = kd_Model ∧ ∃ a9, mm_P h7 v0 57 = some a9 ∧ mm_k h7 (a9) = ka_I ∧ vp_in (1) (mm_n h7 a9) ∧ ge 0 ≤ a9 ∧ ∀ h14 : mm_M, h14 = mm_uI h7 a9 (Int32.toNatClampNeg (1)) ((-271733879)) → mm_k h14 (v0) = kd_Model ∧ ∃ a16, mm_P h14 v0 57 = some a16 ∧ mm_k h14 (a16) = ka_I ∧ vp_in (2) (mm_n h14 a16) ∧ ge 0 ≤ a16 ∧ ∀ h21 : mm_M, h21 = mm_uI h14 a16 (Int32.toNatClampNeg (2)) ((-1732584194)) → mm_k h21 (v0) = kd_Model ∧ ∃ a23, mm_P h21 v0 57 = some a23 ∧ mm_k h21 (a23) = ka_I ∧ vp_in (3) (mm_n h21 a23) ∧ ge 0 ≤ a23 ∧ ∀ h28 : mm_M, h28 = mm_uI h21 a23 (Int32.toNatClampNeg (3)) (271733878) → mm_k h28 (v0) = kd_Model ∧ ∃ a30, mm_P h28 v0 57 = some a30 ∧ mm_k h28 (a30) = ka_I ∧ vp_in (4) (mm_n h28 a30) ∧ ge 0 ≤ a30 ∧ ∀ h35 : mm_M, h35 = mm_uI h28 a30 (Int32.toNatClampNeg (4)) ((-1009589776)) → lp_Model_hashes_61  ge (v0) (v1) (((((v1) + (8 : Int32)) / (64)) * (64 : Int32)) + (64 : Int32)) (v1) h35 Z
set_option maxRecDepth 100000 in
set_option maxHeartbeats 4000000 in
theorem vb_Model_hashes_128 {E : mm_E} {Z : mm_M → Prop} (hc : cx E "EpochServerModel" c_Model_hashes 4 none rm_Model_hashes) (hq : cq E rm_Model_hashes (pV Z)) (X128 : Nat → Int32 → Int32 → mm_M → Prop) (hX128 : ∀ (v0 : Nat) (v2 : Int32) (v3 : Int32) (h : mm_M), X128 v0 v2 v3 h → V E 4 0 0 h 128 [(0, va_rf (some v0)), (2, .int (v2)), (3, .int (v3))] []) (v0 : Nat) (v2 : Int32) (v3 : Int32) (h : mm_M) (hw : wq_Model_hashes_128 X128 (mm_ge (eG E)) v0 v2 v3 h Z) : V E 4 0 0 h 128 [(0, va_rf (some v0)), (2, .int (v2)), (3, .int (v3))] [] := by
  unfold wq_Model_hashes_128 at hw
  refine V_iload_n hc 2 d_Model_hashes_128 rfl rfl ?_
  refine V_iload_n hc 1 d_Model_hashes_129 rfl rfl ?_
  refine V_icmp_ge (tgt := 144) hc d_Model_hashes_130 (by decide) (fun hq1 => ?_) (fun hq1 => ?_)
  · replace hw := hw.1 hq1
    exact V_vret hc hq ⟨rfl, hw⟩ (by decide) (by decide) d_Model_hashes_144
  · replace hw := hw.2 hq1
    refine V_aload_n hc 0 d_Model_hashes_133 rfl rfl ?_
    refine V_iload_n hc 2 d_Model_hashes_134 rfl rfl ?_
    obtain ⟨q1, hw⟩ := hw
    refine V_callV (rm' := rm_Model_rounds) (As := [.int (v3)]) (rest := []) (n := 1) (cn := 0) hc rfl q1 (sat_Model_rounds (eG E) _ _ _ _ hw) rfl cv_Model_366 (gw_of (tw_6 (List.mem_of_getElem? (i := 190) rfl)) rfl) ss_Model_rounds rfl ⟨by decide, by decide⟩ (by decide) (by decide) rfl (by simp [cat_rf, cat_i, cat_l]) d_Model_hashes_135 (fun r0 h2 hw => ?_)
    obtain ⟨rfl, hw⟩ := hw
    refine V_wide (cs' := 0) (sl' := 0) (by decide) (by decide) ?_
    refine V_st (st' := []) rfl ?_
    refine V_iinc (v := v3 + 64) (lv' := [(3, .int (v3 + 64)), (0, va_rf (some v0)), (2, .int (v2))]) hc 2 d_Model_hashes_138 rfl rfl (by decide) rfl ?_
    refine V_goto (tgt := 128) hc d_Model_hashes_141 (by decide) ?_
    refine V_sub (lv' := [(0, va_rf (some v0)), (2, .int (v2)), (3, .int (v3 + 64))]) [1, 2, 0] rfl ?_
    exact hX128 _ _ _ _ hw
theorem vl_Model_hashes_128 {E : mm_E} {Z : mm_M → Prop} (hc : cx E "EpochServerModel" c_Model_hashes 4 none rm_Model_hashes) (hq : cq E rm_Model_hashes (pV Z))  (v0 : Nat) (v2 : Int32) (v3 : Int32) (h : mm_M) (hw : lp_Model_hashes_128  (mm_ge (eG E)) v0 v2 v3 h Z) : V E 4 0 0 h 128 [(0, va_rf (some v0)), (2, .int (v2)), (3, .int (v3))] [] :=
  hw (fun v0 v2 v3 h => V E 4 0 0 h 128 [(0, va_rf (some v0)), (2, .int (v2)), (3, .int (v3))] []) (fun v0 v2 v3 h hb => vb_Model_hashes_128 hc hq  _ (fun _ _ _ _ q => q) v0 v2 v3 h hb)
set_option maxRecDepth 100000 in
set_option maxHeartbeats 4000000 in
theorem vb_Model_hashes_92 {E : mm_E} {Z : mm_M → Prop} (hc : cx E "EpochServerModel" c_Model_hashes 4 none rm_Model_hashes) (hq : cq E rm_Model_hashes (pV Z)) (X92 : Nat → Int32 → Int32 → Int32 → mm_M → Prop) (hX92 : ∀ (v0 : Nat) (v1 : Int32) (v2 : Int32) (v3 : Int32) (h : mm_M), X92 v0 v1 v2 v3 h → V E 4 0 0 h 92 [(0, va_rf (some v0)), (1, .int (v1)), (2, .int (v2)), (3, .int (v3))] []) (v0 : Nat) (v1 : Int32) (v2 : Int32) (v3 : Int32) (h : mm_M) (hw : wq_Model_hashes_92 X92 (mm_ge (eG E)) v0 v1 v2 v3 h Z) : V E 4 0 0 h 92 [(0, va_rf (some v0)), (1, .int (v1)), (2, .int (v2)), (3, .int (v3))] [] := by
  unfold wq_Model_hashes_92 at hw
  refine V_iload_n hc 3 d_Model_hashes_92 rfl rfl ?_
  refine V_iconst (v := 4) hc d_Model_hashes_93 (by decide) ?_
  refine V_icmp_ge (tgt := 126) hc d_Model_hashes_94 (by decide) (fun hq1 => ?_) (fun hq1 => ?_)
  · replace hw := hw.1 hq1
    refine V_iconst (v := 0) hc d_Model_hashes_126 (by decide) ?_
    refine V_istore_n (i := 3) (lv' := [(3, .int (0)), (0, va_rf (some v0)), (1, .int (v1)), (2, .int (v2))]) hc d_Model_hashes_127 rfl (by decide) rfl ?_
    refine V_sub (lv' := [(0, va_rf (some v0)), (2, .int (v2)), (3, .int (0))]) [1, 3, 0] rfl ?_
    exact vl_Model_hashes_128 hc hq  _ _ _ _ hw
  · replace hw := hw.2 hq1
    refine V_aload_n hc 0 d_Model_hashes_97 rfl rfl ?_
    obtain ⟨q1, hw⟩ := hw
    refine V_get (v := va_rf (mm_P h v0 55)) hc gf_Model_80 rfl q1 rfl d_Model_hashes_98 ?_
    refine V_iload_n hc 2 d_Model_hashes_101 rfl rfl ?_
    refine V_iconst (v := 1) hc d_Model_hashes_102 (by decide) ?_
    refine V_isub hc d_Model_hashes_103 ?_
    refine V_iload_n hc 3 d_Model_hashes_104 rfl rfl ?_
    refine V_isub hc d_Model_hashes_105 ?_
    refine V_bipush (v := 8) hc d_Model_hashes_106 (by decide) ?_
    refine V_iload_n hc 1 d_Model_hashes_108 rfl rfl ?_
    refine V_imul hc d_Model_hashes_109 ?_
    refine V_bipush (v := 8) hc d_Model_hashes_110 (by decide) ?_
    refine V_iload_n hc 3 d_Model_hashes_112 rfl rfl ?_
    refine V_imul hc d_Model_hashes_113 ?_
    refine V_ishr hc d_Model_hashes_114 ?_
    refine V_sipush (v := 255) hc d_Model_hashes_115 (by decide) ?_
    refine V_iand hc d_Model_hashes_118 ?_
    obtain ⟨a2, q3, hw⟩ := hw
    obtain ⟨q4, hw⟩ := hw
    obtain ⟨q5, hw⟩ := hw
    obtain ⟨q6, hw⟩ := hw
    obtain ⟨h7, eq_h7⟩ : ∃ x, x = mm_uI h a2 (Int32.toNatClampNeg (((v2) - (1 : Int32)) - (v3))) ((((8 : Int32) * (v1)) >>> (((8 : Int32) * (v3)) &&& 31)) &&& (255 : Int32)) := ⟨_, rfl⟩
    replace hw := hw _ eq_h7
    refine V_iast hc q3 q4 q5 q6 d_Model_hashes_119 ?_
    rw [← eq_h7]
    refine V_iinc (v := v3 + 1) (lv' := [(3, .int (v3 + 1)), (0, va_rf (some v0)), (1, .int (v1)), (2, .int (v2))]) hc 3 d_Model_hashes_120 rfl rfl (by decide) rfl ?_
    refine V_goto (tgt := 92) hc d_Model_hashes_123 (by decide) ?_
    refine V_sub (lv' := [(0, va_rf (some v0)), (1, .int (v1)), (2, .int (v2)), (3, .int (v3 + 1))]) [1, 2, 3, 0] rfl ?_
    exact hX92 _ _ _ _ _ hw
theorem vl_Model_hashes_92 {E : mm_E} {Z : mm_M → Prop} (hc : cx E "EpochServerModel" c_Model_hashes 4 none rm_Model_hashes) (hq : cq E rm_Model_hashes (pV Z))  (v0 : Nat) (v1 : Int32) (v2 : Int32) (v3 : Int32) (h : mm_M) (hw : lp_Model_hashes_92  (mm_ge (eG E)) v0 v1 v2 v3 h Z) : V E 4 0 0 h 92 [(0, va_rf (some v0)), (1, .int (v1)), (2, .int (v2)), (3, .int (v3))] [] :=
  hw (fun v0 v1 v2 v3 h => V E 4 0 0 h 92 [(0, va_rf (some v0)), (1, .int (v1)), (2, .int (v2)), (3, .int (v3))] []) (fun v0 v1 v2 v3 h hb => vb_Model_hashes_92 hc hq  _ (fun _ _ _ _ _ q => q) v0 v1 v2 v3 h hb)
set_option maxRecDepth 100000 in
set_option maxHeartbeats 4000000 in
theorem vb_Model_hashes_83 {E : mm_E} {Z : mm_M → Prop} (hc : cx E "EpochServerModel" c_Model_hashes 4 none rm_Model_hashes) (hq : cq E rm_Model_hashes (pV Z)) (X61 : Nat → Int32 → Int32 → Int32 → mm_M → Prop) (hX61 : ∀ (v0 : Nat) (v1 : Int32) (v2 : Int32) (v3 : Int32) (h : mm_M), X61 v0 v1 v2 v3 h → V E 4 0 0 h 61 [(0, va_rf (some v0)), (1, .int (v1)), (2, .int (v2)), (3, .int (v3))] []) (v0 : Nat) (v1 : Int32) (v2 : Int32) (v3 : Int32) (s0 : Option Nat) (s1 : Int32) (s2 : Int32) (h : mm_M) (hw : wq_Model_hashes_83 X61 (mm_ge (eG E)) v0 v1 v2 v3 s0 s1 s2 h Z) : V E 4 0 0 h 83 [(0, va_rf (some v0)), (1, .int (v1)), (2, .int (v2)), (3, .int (v3))] [.int (s2), .int (s1), va_rf (s0)] := by
  unfold wq_Model_hashes_83 at hw
  obtain ⟨a1, q2, hw⟩ := hw
  obtain ⟨q3, hw⟩ := hw
  obtain ⟨q4, hw⟩ := hw
  obtain ⟨q5, hw⟩ := hw
  obtain ⟨h6, eq_h6⟩ : ∃ x, x = mm_uI h a1 (Int32.toNatClampNeg (s1)) (s2) := ⟨_, rfl⟩
  replace hw := hw _ eq_h6
  refine V_iast hc q2 q3 q4 q5 d_Model_hashes_83 ?_
  rw [← eq_h6]
  refine V_iinc (v := v3 + 1) (lv' := [(3, .int (v3 + 1)), (0, va_rf (some v0)), (1, .int (v1)), (2, .int (v2))]) hc 3 d_Model_hashes_84 rfl rfl (by decide) rfl ?_
  refine V_goto (tgt := 61) hc d_Model_hashes_87 (by decide) ?_
  refine V_sub (lv' := [(0, va_rf (some v0)), (1, .int (v1)), (2, .int (v2)), (3, .int (v3 + 1))]) [1, 2, 3, 0] rfl ?_
  exact hX61 _ _ _ _ _ hw
set_option maxRecDepth 100000 in
set_option maxHeartbeats 4000000 in
theorem vb_Model_hashes_61 {E : mm_E} {Z : mm_M → Prop} (hc : cx E "EpochServerModel" c_Model_hashes 4 none rm_Model_hashes) (hq : cq E rm_Model_hashes (pV Z)) (X61 : Nat → Int32 → Int32 → Int32 → mm_M → Prop) (hX61 : ∀ (v0 : Nat) (v1 : Int32) (v2 : Int32) (v3 : Int32) (h : mm_M), X61 v0 v1 v2 v3 h → V E 4 0 0 h 61 [(0, va_rf (some v0)), (1, .int (v1)), (2, .int (v2)), (3, .int (v3))] []) (v0 : Nat) (v1 : Int32) (v2 : Int32) (v3 : Int32) (h : mm_M) (hw : wq_Model_hashes_61 X61 (mm_ge (eG E)) v0 v1 v2 v3 h Z) : V E 4 0 0 h 61 [(0, va_rf (some v0)), (1, .int (v1)), (2, .int (v2)), (3, .int (v3))] [] := by
  unfold wq_Model_hashes_61 at hw
  refine V_iload_n hc 3 d_Model_hashes_61 rfl rfl ?_
  refine V_iload_n hc 2 d_Model_hashes_62 rfl rfl ?_
  refine V_icmp_ge (tgt := 90) hc d_Model_hashes_63 (by decide) (fun hq1 => ?_) (fun hq1 => ?_)
  · replace hw := hw.1 hq1
    refine V_iconst (v := 0) hc d_Model_hashes_90 (by decide) ?_
    refine V_istore_n (i := 3) (lv' := [(3, .int (0)), (0, va_rf (some v0)), (1, .int (v1)), (2, .int (v2))]) hc d_Model_hashes_91 rfl (by decide) rfl ?_
    refine V_sub (lv' := [(0, va_rf (some v0)), (1, .int (v1)), (2, .int (v2)), (3, .int (0))]) [1, 2, 3, 0] rfl ?_
    exact vl_Model_hashes_92 hc hq  _ _ _ _ _ hw
  · replace hw := hw.2 hq1
    refine V_aload_n hc 0 d_Model_hashes_66 rfl rfl ?_
    obtain ⟨q1, hw⟩ := hw
    refine V_get (v := va_rf (mm_P h v0 55)) hc gf_Model_80 rfl q1 rfl d_Model_hashes_67 ?_
    refine V_iload_n hc 3 d_Model_hashes_70 rfl rfl ?_
    refine V_iload_n hc 3 d_Model_hashes_71 rfl rfl ?_
    refine V_iload_n hc 1 d_Model_hashes_72 rfl rfl ?_
    refine V_icmp_ne (tgt := 82) hc d_Model_hashes_73 (by decide) (fun hq1 => ?_) (fun hq1 => ?_)
    · replace hw := hw.1 hq1
      refine V_iconst (v := 0) hc d_Model_hashes_82 (by decide) ?_
      refine V_sub (lv' := [(0, va_rf (some v0)), (1, .int (v1)), (2, .int (v2)), (3, .int (v3))]) [0, 1, 2, 3] rfl ?_
      exact vb_Model_hashes_83 hc hq X61 hX61 _ _ _ _ _ _ _ _ hw
    · replace hw := hw.2 hq1
      refine V_sipush (v := 128) hc d_Model_hashes_76 (by decide) ?_
      refine V_goto (tgt := 83) hc d_Model_hashes_79 (by decide) ?_
      refine V_sub (lv' := [(0, va_rf (some v0)), (1, .int (v1)), (2, .int (v2)), (3, .int (v3))]) [0, 1, 2, 3] rfl ?_
      exact vb_Model_hashes_83 hc hq X61 hX61 _ _ _ _ _ _ _ _ hw
theorem vl_Model_hashes_61 {E : mm_E} {Z : mm_M → Prop} (hc : cx E "EpochServerModel" c_Model_hashes 4 none rm_Model_hashes) (hq : cq E rm_Model_hashes (pV Z))  (v0 : Nat) (v1 : Int32) (v2 : Int32) (v3 : Int32) (h : mm_M) (hw : lp_Model_hashes_61  (mm_ge (eG E)) v0 v1 v2 v3 h Z) : V E 4 0 0 h 61 [(0, va_rf (some v0)), (1, .int (v1)), (2, .int (v2)), (3, .int (v3))] [] :=
  hw (fun v0 v1 v2 v3 h => V E 4 0 0 h 61 [(0, va_rf (some v0)), (1, .int (v1)), (2, .int (v2)), (3, .int (v3))] []) (fun v0 v1 v2 v3 h hb => vb_Model_hashes_61 hc hq  _ (fun _ _ _ _ _ q => q) v0 v1 v2 v3 h hb)
set_option maxRecDepth 100000 in
set_option maxHeartbeats 4000000 in
theorem vb_Model_hashes_0 {E : mm_E} {Z : mm_M → Prop} (hc : cx E "EpochServerModel" c_Model_hashes 4 none rm_Model_hashes) (hq : cq E rm_Model_hashes (pV Z))  (v0 : Nat) (v1 : Int32) (h : mm_M) (hw : wq_Model_hashes_0  (mm_ge (eG E)) v0 v1 h Z) : V E 4 0 0 h 0 [(0, va_rf (some v0)), (1, .int (v1))] [] := by
  unfold wq_Model_hashes_0 at hw
  refine V_aload_n hc 0 d_Model_hashes_0 rfl rfl ?_
  obtain ⟨q1, hw⟩ := hw
  refine V_get (v := va_rf (mm_P h v0 57)) hc gf_Model_86 rfl q1 rfl d_Model_hashes_1 ?_
  refine V_iconst (v := 0) hc d_Model_hashes_4 (by decide) ?_
  refine V_ldc_w (v := 1732584193) hc (gw_of (tw_6 (List.mem_of_getElem? (i := 183) rfl)) rfl) d_Model_hashes_5 ?_
  obtain ⟨a2, q3, hw⟩ := hw
  obtain ⟨q4, hw⟩ := hw
  obtain ⟨q5, hw⟩ := hw
  obtain ⟨q6, hw⟩ := hw
  obtain ⟨h7, eq_h7⟩ : ∃ x, x = mm_uI h a2 (Int32.toNatClampNeg (0)) (1732584193) := ⟨_, rfl⟩
  replace hw := hw _ eq_h7
  refine V_iast hc q3 q4 q5 q6 d_Model_hashes_8 ?_
  rw [← eq_h7]
  refine V_aload_n hc 0 d_Model_hashes_9 rfl rfl ?_
  obtain ⟨q8, hw⟩ := hw
  refine V_get (v := va_rf (mm_P h7 v0 57)) hc gf_Model_86 rfl q8 rfl d_Model_hashes_10 ?_
  refine V_iconst (v := 1) hc d_Model_hashes_13 (by decide) ?_
  refine V_ldc_w (v := (-271733879)) hc (gw_of (tw_6 (List.mem_of_getElem? (i := 184) rfl)) rfl) d_Model_hashes_14 ?_
  obtain ⟨a9, q10, hw⟩ := hw
  obtain ⟨q11, hw⟩ := hw
  obtain ⟨q12, hw⟩ := hw
  obtain ⟨q13, hw⟩ := hw
  obtain ⟨h14, eq_h14⟩ : ∃ x, x = mm_uI h7 a9 (Int32.toNatClampNeg (1)) ((-271733879)) := ⟨_, rfl⟩
  replace hw := hw _ eq_h14
  refine V_iast hc q10 q11 q12 q13 d_Model_hashes_17 ?_
  rw [← eq_h14]
  refine V_aload_n hc 0 d_Model_hashes_18 rfl rfl ?_
  obtain ⟨q15, hw⟩ := hw
  refine V_get (v := va_rf (mm_P h14 v0 57)) hc gf_Model_86 rfl q15 rfl d_Model_hashes_19 ?_
  refine V_iconst (v := 2) hc d_Model_hashes_22 (by decide) ?_
  refine V_ldc_w (v := (-1732584194)) hc (gw_of (tw_6 (List.mem_of_getElem? (i := 185) rfl)) rfl) d_Model_hashes_23 ?_
  obtain ⟨a16, q17, hw⟩ := hw
  obtain ⟨q18, hw⟩ := hw
  obtain ⟨q19, hw⟩ := hw
  obtain ⟨q20, hw⟩ := hw
  obtain ⟨h21, eq_h21⟩ : ∃ x, x = mm_uI h14 a16 (Int32.toNatClampNeg (2)) ((-1732584194)) := ⟨_, rfl⟩
  replace hw := hw _ eq_h21
  refine V_iast hc q17 q18 q19 q20 d_Model_hashes_26 ?_
  rw [← eq_h21]
  refine V_aload_n hc 0 d_Model_hashes_27 rfl rfl ?_
  obtain ⟨q22, hw⟩ := hw
  refine V_get (v := va_rf (mm_P h21 v0 57)) hc gf_Model_86 rfl q22 rfl d_Model_hashes_28 ?_
  refine V_iconst (v := 3) hc d_Model_hashes_31 (by decide) ?_
  refine V_ldc_w (v := 271733878) hc (gw_of (tw_6 (List.mem_of_getElem? (i := 186) rfl)) rfl) d_Model_hashes_32 ?_
  obtain ⟨a23, q24, hw⟩ := hw
  obtain ⟨q25, hw⟩ := hw
  obtain ⟨q26, hw⟩ := hw
  obtain ⟨q27, hw⟩ := hw
  obtain ⟨h28, eq_h28⟩ : ∃ x, x = mm_uI h21 a23 (Int32.toNatClampNeg (3)) (271733878) := ⟨_, rfl⟩
  replace hw := hw _ eq_h28
  refine V_iast hc q24 q25 q26 q27 d_Model_hashes_35 ?_
  rw [← eq_h28]
  refine V_aload_n hc 0 d_Model_hashes_36 rfl rfl ?_
  obtain ⟨q29, hw⟩ := hw
  refine V_get (v := va_rf (mm_P h28 v0 57)) hc gf_Model_86 rfl q29 rfl d_Model_hashes_37 ?_
  refine V_iconst (v := 4) hc d_Model_hashes_40 (by decide) ?_
  refine V_ldc_w (v := (-1009589776)) hc (gw_of (tw_6 (List.mem_of_getElem? (i := 187) rfl)) rfl) d_Model_hashes_41 ?_
  obtain ⟨a30, q31, hw⟩ := hw
  obtain ⟨q32, hw⟩ := hw
  obtain ⟨q33, hw⟩ := hw
  obtain ⟨q34, hw⟩ := hw
  obtain ⟨h35, eq_h35⟩ : ∃ x, x = mm_uI h28 a30 (Int32.toNatClampNeg (4)) ((-1009589776)) := ⟨_, rfl⟩
  replace hw := hw _ eq_h35
  refine V_iast hc q31 q32 q33 q34 d_Model_hashes_44 ?_
  rw [← eq_h35]
  refine V_iload_n hc 1 d_Model_hashes_45 rfl rfl ?_
  refine V_bipush (v := 8) hc d_Model_hashes_46 (by decide) ?_
  refine V_iadd hc d_Model_hashes_48 ?_
  refine V_bipush (v := 64) hc d_Model_hashes_49 (by decide) ?_
  refine V_idiv hc d_Model_hashes_51 (by decide) ?_
  refine V_bipush (v := 64) hc d_Model_hashes_52 (by decide) ?_
  refine V_imul hc d_Model_hashes_54 ?_
  refine V_bipush (v := 64) hc d_Model_hashes_55 (by decide) ?_
  refine V_iadd hc d_Model_hashes_57 ?_
  refine V_istore_n (i := 2) (lv' := [(2, .int (((((v1) + (8 : Int32)) / (64)) * (64 : Int32)) + (64 : Int32))), (0, va_rf (some v0)), (1, .int (v1))]) hc d_Model_hashes_58 rfl (by decide) rfl ?_
  refine V_iload_n hc 2 d_Model_hashes_59 rfl rfl ?_
  refine V_istore_n (i := 3) (lv' := [(3, .int (v1)), (2, .int (((((v1) + (8 : Int32)) / (64)) * (64 : Int32)) + (64 : Int32))), (0, va_rf (some v0)), (1, .int (v1))]) hc d_Model_hashes_60 rfl (by decide) rfl ?_
  refine V_sub (lv' := [(0, va_rf (some v0)), (1, .int (v1)), (2, .int (((((v1) + (8 : Int32)) / (64)) * (64 : Int32)) + (64 : Int32))), (3, .int (v1))]) [2, 3, 1, 0] rfl ?_
  exact vl_Model_hashes_61 hc hq  _ _ _ _ _ hw
def wq_Model_hashes (ge : Nat → Nat) (v0 : Nat) (v1 : Int32) (h : mm_M) (Z : mm_M → Prop) : Prop := wq_Model_hashes_0 ge v0 v1 h Z
theorem sat_Model_hashes (G : mm_G) (v0 : Nat) (v1 : Int32) (h : mm_M) (Z : mm_M → Prop) (hw : wq_Model_hashes (mm_ge G) v0 v1 h Z) : mm_Met G y_Model_hashes c_Model_hashes 4 none rm_Model_hashes [va_rf (some v0), .int (v1)] h (pV Z) := by
  refine mm_intro (own := "EpochServerModel") (by decide) rfl (by simp [lg_sl, cat_rf, cat_i, cat_l]) (fun E e1 hc hq hi => ?_)
  subst e1
  have e2 : lv_args 0 [va_rf (some v0), .int (v1)] = [(0, va_rf (some v0)), (1, .int (v1))] := by simp [lv_args, cat_rf, cat_i, cat_l]
  rw [e2]
  refine V_sub (lv' := [(0, va_rf (some v0)), (1, .int (v1))]) [0, 1] rfl ?_
  exact vb_Model_hashes_0 hc hq v0 v1 h hw
/-! Model.puts(I)V -/
abbrev rm_Model_puts : Room := { frames := 3, cells := 0, slots := 0, locals := 74 }
def wq_Model_puts_19  (ge : Nat → Nat)  (h : mm_M) (Z : mm_M → Prop) : Prop :=
  Z h
def wq_Model_puts_107 (X107 : Nat → Int32 → Int32 → mm_M → Prop) (ge : Nat → Nat) (v0 : Nat) (v1 : Int32) (v2 : Int32) (h : mm_M) (Z : mm_M → Prop) : Prop :=
  (((5 : Int32) ≤ (v2 : Int32) → mm_k h (v0) = kd_Model ∧ ge 0 ≤ v0 ∧ ∀ h3 : mm_M, h3 = mm_uI h (v0) 59 ((mm_I h v0 59) + (1 : Int32)) → mm_k h3 (v0) = kd_Model ∧ ge 0 ≤ v0 ∧ ∀ h6 : mm_M, h6 = mm_uI h3 (v0) 60 ((mm_I h3 v0 60) + (v1)) → Z h6) ∧ (¬ (5 : Int32) ≤ (v2 : Int32) → mm_k h (v0) = kd_Model ∧ ∃ a8, mm_P h v0 57 = some a8 ∧ mm_k h (a8) = ka_I ∧ vp_in (v2) (mm_n h a8) ∧ ∃ a12, mm_P h v0 54 = some a12 ∧ mm_k h (a12) = ka_I ∧ vp_in (((5 : Int32) * (mm_I h v0 59)) + (v2)) (mm_n h a12) ∧ ge 0 ≤ a12 ∧ ∀ h17 : mm_M, h17 = mm_uI h a12 (Int32.toNatClampNeg (((5 : Int32) * (mm_I h v0 59)) + (v2))) (mm_I h a8 (Int32.toNatClampNeg (v2))) → X107 (v0) (v1) (v2 + 1) h17))
def lp_Model_puts_107  (ge : Nat → Nat) (v0 : Nat) (v1 : Int32) (v2 : Int32) (h : mm_M) (Z : mm_M → Prop) : Prop :=
  ∀ X107 : Nat → Int32 → Int32 → mm_M → Prop, (∀ (v0 : Nat) (v1 : Int32) (v2 : Int32) (h : mm_M), wq_Model_puts_107 X107 ge v0 v1 v2 h Z → X107 v0 v1 v2 h) → X107 v0 v1 v2 h
def wq_Model_puts_78 (X22 : Nat → Int32 → Int32 → mm_M → Prop) (ge : Nat → Nat) (v0 : Nat) (v1 : Int32) (v2 : Int32) (v3 : Int32) (h : mm_M) (Z : mm_M → Prop) : Prop :=
  (((v3) = 0 → X22 (v0) (v1) (v2 + 1) h) ∧ (¬ (v3) = 0 → Z h))
def wq_Model_puts_71 (X22 : Nat → Int32 → Int32 → mm_M → Prop) (X35 : Nat → Int32 → Int32 → Int32 → Int32 → mm_M → Prop) (ge : Nat → Nat) (v0 : Nat) (v1 : Int32) (v2 : Int32) (v4 : Int32) (s0 : Int32) (h : mm_M) (Z : mm_M → Prop) : Prop :=
  X35 (v0) (v1) (v2) (s0) (v4 + 1) h
def wq_Model_puts_35 (X22 : Nat → Int32 → Int32 → mm_M → Prop) (X35 : Nat → Int32 → Int32 → Int32 → Int32 → mm_M → Prop) (ge : Nat → Nat) (v0 : Nat) (v1 : Int32) (v2 : Int32) (v3 : Int32) (v4 : Int32) (h : mm_M) (Z : mm_M → Prop) : Prop :=
  (((5 : Int32) ≤ (v4 : Int32) → wq_Model_puts_78 X22 ge (v0) (v1) (v2) (v3) h Z) ∧ (¬ (5 : Int32) ≤ (v4 : Int32) → (((v3) = 0 → wq_Model_puts_78 X22 ge (v0) (v1) (v2) (v3) h Z) ∧ (¬ (v3) = 0 → mm_k h (v0) = kd_Model ∧ ∃ a2, mm_P h v0 54 = some a2 ∧ mm_k h (a2) = ka_I ∧ vp_in (((5 : Int32) * (v2)) + (v4)) (mm_n h a2) ∧ ∃ a6, mm_P h v0 57 = some a6 ∧ mm_k h (a6) = ka_I ∧ vp_in (v4) (mm_n h a6) ∧ ((¬ (mm_I h a2 (Int32.toNatClampNeg (((5 : Int32) * (v2)) + (v4))) : Int32) = (mm_I h a6 (Int32.toNatClampNeg (v4)) : Int32) → wq_Model_puts_71 X22 X35 ge (v0) (v1) (v2) (v4) (0) h Z) ∧ ((mm_I h a2 (Int32.toNatClampNeg (((5 : Int32) * (v2)) + (v4))) : Int32) = (mm_I h a6 (Int32.toNatClampNeg (v4)) : Int32) → wq_Model_puts_71 X22 X35 ge (v0) (v1) (v2) (v4) (1) h Z))))))
def lp_Model_puts_35 (X22 : Nat → Int32 → Int32 → mm_M → Prop) (ge : Nat → Nat) (v0 : Nat) (v1 : Int32) (v2 : Int32) (v3 : Int32) (v4 : Int32) (h : mm_M) (Z : mm_M → Prop) : Prop :=
  ∀ X35 : Nat → Int32 → Int32 → Int32 → Int32 → mm_M → Prop, (∀ (v0 : Nat) (v1 : Int32) (v2 : Int32) (v3 : Int32) (v4 : Int32) (h : mm_M), wq_Model_puts_35 X22 X35 ge v0 v1 v2 v3 v4 h Z → X35 v0 v1 v2 v3 v4 h) → X35 v0 v1 v2 v3 v4 h
def wq_Model_puts_22 (X22 : Nat → Int32 → Int32 → mm_M → Prop) (ge : Nat → Nat) (v0 : Nat) (v1 : Int32) (v2 : Int32) (h : mm_M) (Z : mm_M → Prop) : Prop :=
  mm_k h (v0) = kd_Model ∧ (((mm_I h v0 59 : Int32) ≤ (v2 : Int32) → ((¬ (mm_I h v0 59 : Int32) = (600 : Int32) → lp_Model_puts_107  ge (v0) (v1) (0) h Z) ∧ ((mm_I h v0 59 : Int32) = (600 : Int32) → ge 0 ≤ v0 ∧ ∀ h3 : mm_M, h3 = mm_uI h (v0) 63 (1) → Z h3))) ∧ (¬ (mm_I h v0 59 : Int32) ≤ (v2 : Int32) → lp_Model_puts_35 X22 ge (v0) (v1) (v2) (1) (0) h Z))
def lp_Model_puts_22  (ge : Nat → Nat) (v0 : Nat) (v1 : Int32) (v2 : Int32) (h : mm_M) (Z : mm_M → Prop) : Prop :=
  ∀ X22 : Nat → Int32 → Int32 → mm_M → Prop, (∀ (v0 : Nat) (v1 : Int32) (v2 : Int32) (h : mm_M), wq_Model_puts_22 X22 ge v0 v1 v2 h Z → X22 v0 v1 v2 h) → X22 v0 v1 v2 h
def wq_Model_puts_0  (ge : Nat → Nat) (v0 : Nat) (v1 : Int32) (h : mm_M) (Z : mm_M → Prop) : Prop :=
  mm_k h (v0) = kd_Model ∧ wq_Model_hashes ge (v0) (v1) h (fun h2 : mm_M => mm_k h2 (v0) = kd_Model ∧ (((mm_I h2 v0 64) = 0 → wq_Model_puts_19  ge h2 Z) ∧ (¬ (mm_I h2 v0 64) = 0 → (((mm_I h2 v0 63) = 0 → lp_Model_puts_22  ge (v0) (v1) (0) h2 Z) ∧ (¬ (mm_I h2 v0 63) = 0 → wq_Model_puts_19  ge h2 Z)))))
set_option maxRecDepth 100000 in
set_option maxHeartbeats 4000000 in
theorem vb_Model_puts_19 {E : mm_E} {Z : mm_M → Prop} (hc : cx E "EpochServerModel" c_Model_puts 5 none rm_Model_puts) (hq : cq E rm_Model_puts (pV Z))   (h : mm_M) (hw : wq_Model_puts_19  (mm_ge (eG E))  h Z) : V E 5 0 0 h 19 [] [] := by
  unfold wq_Model_puts_19 at hw
  exact V_vret hc hq ⟨rfl, hw⟩ (by decide) (by decide) d_Model_puts_19
set_option maxRecDepth 100000 in
set_option maxHeartbeats 4000000 in
theorem vb_Model_puts_107 {E : mm_E} {Z : mm_M → Prop} (hc : cx E "EpochServerModel" c_Model_puts 5 none rm_Model_puts) (hq : cq E rm_Model_puts (pV Z)) (X107 : Nat → Int32 → Int32 → mm_M → Prop) (hX107 : ∀ (v0 : Nat) (v1 : Int32) (v2 : Int32) (h : mm_M), X107 v0 v1 v2 h → V E 5 0 0 h 107 [(0, va_rf (some v0)), (1, .int (v1)), (2, .int (v2))] []) (v0 : Nat) (v1 : Int32) (v2 : Int32) (h : mm_M) (hw : wq_Model_puts_107 X107 (mm_ge (eG E)) v0 v1 v2 h Z) : V E 5 0 0 h 107 [(0, va_rf (some v0)), (1, .int (v1)), (2, .int (v2))] [] := by
  unfold wq_Model_puts_107 at hw
  refine V_iload_n hc 2 d_Model_puts_107 rfl rfl ?_
  refine V_iconst (v := 5) hc d_Model_puts_108 (by decide) ?_
  refine V_icmp_ge (tgt := 137) hc d_Model_puts_109 (by decide) (fun hq1 => ?_) (fun hq1 => ?_)
  · replace hw := hw.1 hq1
    refine V_aload_n hc 0 d_Model_puts_137 rfl rfl ?_
    refine V_dup hc d_Model_puts_138 (cat_rf _) ?_
    obtain ⟨q1, hw⟩ := hw
    refine V_get (v := .int (mm_I h v0 59)) hc gf_Model_355 rfl q1 rfl d_Model_puts_139 ?_
    refine V_iconst (v := 1) hc d_Model_puts_142 (by decide) ?_
    refine V_iadd hc d_Model_puts_143 ?_
    obtain ⟨q2, hw⟩ := hw
    obtain ⟨h3, eq_h3⟩ : ∃ x, x = mm_uI h (v0) 59 ((mm_I h v0 59) + (1 : Int32)) := ⟨_, rfl⟩
    replace hw := hw _ eq_h3
    refine V_put (h' := h3) hc gf_Model_355 rfl rfl q1 q2 (by rw [eq_h3]; exact mm_Up_I _ _ _ _) (by rw [eq_h3]; exact up_vI rfl) (vp_nar_int _) rfl d_Model_puts_144 ?_
    refine V_aload_n hc 0 d_Model_puts_147 rfl rfl ?_
    refine V_dup hc d_Model_puts_148 (cat_rf _) ?_
    obtain ⟨q4, hw⟩ := hw
    refine V_get (v := .int (mm_I h3 v0 60)) hc gf_Model_358 rfl q4 rfl d_Model_puts_149 ?_
    refine V_iload_n hc 1 d_Model_puts_152 rfl rfl ?_
    refine V_iadd hc d_Model_puts_153 ?_
    obtain ⟨q5, hw⟩ := hw
    obtain ⟨h6, eq_h6⟩ : ∃ x, x = mm_uI h3 (v0) 60 ((mm_I h3 v0 60) + (v1)) := ⟨_, rfl⟩
    replace hw := hw _ eq_h6
    refine V_put (h' := h6) hc gf_Model_358 rfl rfl q4 q5 (by rw [eq_h6]; exact mm_Up_I _ _ _ _) (by rw [eq_h6]; exact up_vI rfl) (vp_nar_int _) rfl d_Model_puts_154 ?_
    exact V_vret hc hq ⟨rfl, hw⟩ (by decide) (by decide) d_Model_puts_157
  · replace hw := hw.2 hq1
    refine V_aload_n hc 0 d_Model_puts_112 rfl rfl ?_
    obtain ⟨q7, hw⟩ := hw
    refine V_get (v := va_rf (mm_P h v0 54)) hc gf_Model_77 rfl q7 rfl d_Model_puts_113 ?_
    refine V_iconst (v := 5) hc d_Model_puts_116 (by decide) ?_
    refine V_aload_n hc 0 d_Model_puts_117 rfl rfl ?_
    refine V_get (v := .int (mm_I h v0 59)) hc gf_Model_355 rfl q7 rfl d_Model_puts_118 ?_
    refine V_imul hc d_Model_puts_121 ?_
    refine V_iload_n hc 2 d_Model_puts_122 rfl rfl ?_
    refine V_iadd hc d_Model_puts_123 ?_
    refine V_aload_n hc 0 d_Model_puts_124 rfl rfl ?_
    refine V_get (v := va_rf (mm_P h v0 57)) hc gf_Model_86 rfl q7 rfl d_Model_puts_125 ?_
    refine V_iload_n hc 2 d_Model_puts_128 rfl rfl ?_
    obtain ⟨a8, q9, hw⟩ := hw
    obtain ⟨q10, hw⟩ := hw
    obtain ⟨q11, hw⟩ := hw
    refine V_iald hc q9 q10 q11 d_Model_puts_129 ?_
    obtain ⟨a12, q13, hw⟩ := hw
    obtain ⟨q14, hw⟩ := hw
    obtain ⟨q15, hw⟩ := hw
    obtain ⟨q16, hw⟩ := hw
    obtain ⟨h17, eq_h17⟩ : ∃ x, x = mm_uI h a12 (Int32.toNatClampNeg (((5 : Int32) * (mm_I h v0 59)) + (v2))) (mm_I h a8 (Int32.toNatClampNeg (v2))) := ⟨_, rfl⟩
    replace hw := hw _ eq_h17
    refine V_iast hc q13 q14 q15 q16 d_Model_puts_130 ?_
    rw [← eq_h17]
    refine V_iinc (v := v2 + 1) (lv' := [(2, .int (v2 + 1)), (0, va_rf (some v0)), (1, .int (v1))]) hc 2 d_Model_puts_131 rfl rfl (by decide) rfl ?_
    refine V_goto (tgt := 107) hc d_Model_puts_134 (by decide) ?_
    refine V_sub (lv' := [(0, va_rf (some v0)), (1, .int (v1)), (2, .int (v2 + 1))]) [1, 2, 0] rfl ?_
    exact hX107 _ _ _ _ hw
theorem vl_Model_puts_107 {E : mm_E} {Z : mm_M → Prop} (hc : cx E "EpochServerModel" c_Model_puts 5 none rm_Model_puts) (hq : cq E rm_Model_puts (pV Z))  (v0 : Nat) (v1 : Int32) (v2 : Int32) (h : mm_M) (hw : lp_Model_puts_107  (mm_ge (eG E)) v0 v1 v2 h Z) : V E 5 0 0 h 107 [(0, va_rf (some v0)), (1, .int (v1)), (2, .int (v2))] [] :=
  hw (fun v0 v1 v2 h => V E 5 0 0 h 107 [(0, va_rf (some v0)), (1, .int (v1)), (2, .int (v2))] []) (fun v0 v1 v2 h hb => vb_Model_puts_107 hc hq  _ (fun _ _ _ _ q => q) v0 v1 v2 h hb)
set_option maxRecDepth 100000 in
set_option maxHeartbeats 4000000 in
theorem vb_Model_puts_78 {E : mm_E} {Z : mm_M → Prop} (hc : cx E "EpochServerModel" c_Model_puts 5 none rm_Model_puts) (hq : cq E rm_Model_puts (pV Z)) (X22 : Nat → Int32 → Int32 → mm_M → Prop) (hX22 : ∀ (v0 : Nat) (v1 : Int32) (v2 : Int32) (h : mm_M), X22 v0 v1 v2 h → V E 5 0 0 h 22 [(0, va_rf (some v0)), (1, .int (v1)), (2, .int (v2))] []) (v0 : Nat) (v1 : Int32) (v2 : Int32) (v3 : Int32) (h : mm_M) (hw : wq_Model_puts_78 X22 (mm_ge (eG E)) v0 v1 v2 v3 h Z) : V E 5 0 0 h 78 [(0, va_rf (some v0)), (1, .int (v1)), (2, .int (v2)), (3, .int (v3))] [] := by
  unfold wq_Model_puts_78 at hw
  refine V_iload_n hc 3 d_Model_puts_78 rfl rfl ?_
  refine V_if_eq (tgt := 83) hc d_Model_puts_79 (by decide) (fun hq1 => ?_) (fun hq1 => ?_)
  · replace hw := hw.1 hq1
    refine V_iinc (v := v2 + 1) (lv' := [(2, .int (v2 + 1)), (0, va_rf (some v0)), (1, .int (v1)), (3, .int (v3))]) hc 2 d_Model_puts_83 rfl rfl (by decide) rfl ?_
    refine V_goto (tgt := 22) hc d_Model_puts_86 (by decide) ?_
    refine V_sub (lv' := [(0, va_rf (some v0)), (1, .int (v1)), (2, .int (v2 + 1))]) [1, 2, 0] rfl ?_
    exact hX22 _ _ _ _ hw
  · replace hw := hw.2 hq1
    exact V_vret hc hq ⟨rfl, hw⟩ (by decide) (by decide) d_Model_puts_82
set_option maxRecDepth 100000 in
set_option maxHeartbeats 4000000 in
theorem vb_Model_puts_71 {E : mm_E} {Z : mm_M → Prop} (hc : cx E "EpochServerModel" c_Model_puts 5 none rm_Model_puts) (hq : cq E rm_Model_puts (pV Z)) (X22 : Nat → Int32 → Int32 → mm_M → Prop) (hX22 : ∀ (v0 : Nat) (v1 : Int32) (v2 : Int32) (h : mm_M), X22 v0 v1 v2 h → V E 5 0 0 h 22 [(0, va_rf (some v0)), (1, .int (v1)), (2, .int (v2))] []) (X35 : Nat → Int32 → Int32 → Int32 → Int32 → mm_M → Prop) (hX35 : ∀ (v0 : Nat) (v1 : Int32) (v2 : Int32) (v3 : Int32) (v4 : Int32) (h : mm_M), X35 v0 v1 v2 v3 v4 h → V E 5 0 0 h 35 [(0, va_rf (some v0)), (1, .int (v1)), (2, .int (v2)), (3, .int (v3)), (4, .int (v4))] []) (v0 : Nat) (v1 : Int32) (v2 : Int32) (v4 : Int32) (s0 : Int32) (h : mm_M) (hw : wq_Model_puts_71 X22 X35 (mm_ge (eG E)) v0 v1 v2 v4 s0 h Z) : V E 5 0 0 h 71 [(0, va_rf (some v0)), (1, .int (v1)), (2, .int (v2)), (4, .int (v4))] [.int (s0)] := by
  unfold wq_Model_puts_71 at hw
  refine V_istore_n (i := 3) (lv' := [(3, .int (s0)), (0, va_rf (some v0)), (1, .int (v1)), (2, .int (v2)), (4, .int (v4))]) hc d_Model_puts_71 rfl (by decide) rfl ?_
  refine V_iinc (v := v4 + 1) (lv' := [(4, .int (v4 + 1)), (3, .int (s0)), (0, va_rf (some v0)), (1, .int (v1)), (2, .int (v2))]) hc 4 d_Model_puts_72 rfl rfl (by decide) rfl ?_
  refine V_goto (tgt := 35) hc d_Model_puts_75 (by decide) ?_
  refine V_sub (lv' := [(0, va_rf (some v0)), (1, .int (v1)), (2, .int (v2)), (3, .int (s0)), (4, .int (v4 + 1))]) [2, 3, 4, 1, 0] rfl ?_
  exact hX35 _ _ _ _ _ _ hw
set_option maxRecDepth 100000 in
set_option maxHeartbeats 4000000 in
theorem vb_Model_puts_35 {E : mm_E} {Z : mm_M → Prop} (hc : cx E "EpochServerModel" c_Model_puts 5 none rm_Model_puts) (hq : cq E rm_Model_puts (pV Z)) (X22 : Nat → Int32 → Int32 → mm_M → Prop) (hX22 : ∀ (v0 : Nat) (v1 : Int32) (v2 : Int32) (h : mm_M), X22 v0 v1 v2 h → V E 5 0 0 h 22 [(0, va_rf (some v0)), (1, .int (v1)), (2, .int (v2))] []) (X35 : Nat → Int32 → Int32 → Int32 → Int32 → mm_M → Prop) (hX35 : ∀ (v0 : Nat) (v1 : Int32) (v2 : Int32) (v3 : Int32) (v4 : Int32) (h : mm_M), X35 v0 v1 v2 v3 v4 h → V E 5 0 0 h 35 [(0, va_rf (some v0)), (1, .int (v1)), (2, .int (v2)), (3, .int (v3)), (4, .int (v4))] []) (v0 : Nat) (v1 : Int32) (v2 : Int32) (v3 : Int32) (v4 : Int32) (h : mm_M) (hw : wq_Model_puts_35 X22 X35 (mm_ge (eG E)) v0 v1 v2 v3 v4 h Z) : V E 5 0 0 h 35 [(0, va_rf (some v0)), (1, .int (v1)), (2, .int (v2)), (3, .int (v3)), (4, .int (v4))] [] := by
  unfold wq_Model_puts_35 at hw
  refine V_iload hc 4 d_Model_puts_35 rfl ?_
  refine V_iconst (v := 5) hc d_Model_puts_37 (by decide) ?_
  refine V_icmp_ge (tgt := 78) hc d_Model_puts_38 (by decide) (fun hq1 => ?_) (fun hq1 => ?_)
  · replace hw := hw.1 hq1
    refine V_sub (lv' := [(0, va_rf (some v0)), (1, .int (v1)), (2, .int (v2)), (3, .int (v3))]) [0, 1, 2, 3] rfl ?_
    exact vb_Model_puts_78 hc hq X22 hX22 _ _ _ _ _ hw
  · replace hw := hw.2 hq1
    refine V_iload_n hc 3 d_Model_puts_41 rfl rfl ?_
    refine V_if_eq (tgt := 78) hc d_Model_puts_42 (by decide) (fun hq1 => ?_) (fun hq1 => ?_)
    · replace hw := hw.1 hq1
      refine V_sub (lv' := [(0, va_rf (some v0)), (1, .int (v1)), (2, .int (v2)), (3, .int (v3))]) [0, 1, 2, 3] rfl ?_
      exact vb_Model_puts_78 hc hq X22 hX22 _ _ _ _ _ hw
    · replace hw := hw.2 hq1
      refine V_aload_n hc 0 d_Model_puts_45 rfl rfl ?_
      obtain ⟨q1, hw⟩ := hw
      refine V_get (v := va_rf (mm_P h v0 54)) hc gf_Model_77 rfl q1 rfl d_Model_puts_46 ?_
      refine V_iconst (v := 5) hc d_Model_puts_49 (by decide) ?_
      refine V_iload_n hc 2 d_Model_puts_50 rfl rfl ?_
      refine V_imul hc d_Model_puts_51 ?_
      refine V_iload hc 4 d_Model_puts_52 rfl ?_
      refine V_iadd hc d_Model_puts_54 ?_
      obtain ⟨a2, q3, hw⟩ := hw
      obtain ⟨q4, hw⟩ := hw
      obtain ⟨q5, hw⟩ := hw
      refine V_iald hc q3 q4 q5 d_Model_puts_55 ?_
      refine V_aload_n hc 0 d_Model_puts_56 rfl rfl ?_
      refine V_get (v := va_rf (mm_P h v0 57)) hc gf_Model_86 rfl q1 rfl d_Model_puts_57 ?_
      refine V_iload hc 4 d_Model_puts_60 rfl ?_
      obtain ⟨a6, q7, hw⟩ := hw
      obtain ⟨q8, hw⟩ := hw
      obtain ⟨q9, hw⟩ := hw
      refine V_iald hc q7 q8 q9 d_Model_puts_62 ?_
      refine V_icmp_ne (tgt := 70) hc d_Model_puts_63 (by decide) (fun hq1 => ?_) (fun hq1 => ?_)
      · replace hw := hw.1 hq1
        refine V_iconst (v := 0) hc d_Model_puts_70 (by decide) ?_
        refine V_sub (lv' := [(0, va_rf (some v0)), (1, .int (v1)), (2, .int (v2)), (4, .int (v4))]) [0, 1, 2, 4] rfl ?_
        exact vb_Model_puts_71 hc hq X22 hX22 X35 hX35 _ _ _ _ _ _ hw
      · replace hw := hw.2 hq1
        refine V_iconst (v := 1) hc d_Model_puts_66 (by decide) ?_
        refine V_goto (tgt := 71) hc d_Model_puts_67 (by decide) ?_
        refine V_sub (lv' := [(0, va_rf (some v0)), (1, .int (v1)), (2, .int (v2)), (4, .int (v4))]) [0, 1, 2, 4] rfl ?_
        exact vb_Model_puts_71 hc hq X22 hX22 X35 hX35 _ _ _ _ _ _ hw
theorem vl_Model_puts_35 {E : mm_E} {Z : mm_M → Prop} (hc : cx E "EpochServerModel" c_Model_puts 5 none rm_Model_puts) (hq : cq E rm_Model_puts (pV Z)) (X22 : Nat → Int32 → Int32 → mm_M → Prop) (hX22 : ∀ (v0 : Nat) (v1 : Int32) (v2 : Int32) (h : mm_M), X22 v0 v1 v2 h → V E 5 0 0 h 22 [(0, va_rf (some v0)), (1, .int (v1)), (2, .int (v2))] []) (v0 : Nat) (v1 : Int32) (v2 : Int32) (v3 : Int32) (v4 : Int32) (h : mm_M) (hw : lp_Model_puts_35 X22 (mm_ge (eG E)) v0 v1 v2 v3 v4 h Z) : V E 5 0 0 h 35 [(0, va_rf (some v0)), (1, .int (v1)), (2, .int (v2)), (3, .int (v3)), (4, .int (v4))] [] :=
  hw (fun v0 v1 v2 v3 v4 h => V E 5 0 0 h 35 [(0, va_rf (some v0)), (1, .int (v1)), (2, .int (v2)), (3, .int (v3)), (4, .int (v4))] []) (fun v0 v1 v2 v3 v4 h hb => vb_Model_puts_35 hc hq X22 hX22 _ (fun _ _ _ _ _ _ q => q) v0 v1 v2 v3 v4 h hb)
set_option maxRecDepth 100000 in
set_option maxHeartbeats 4000000 in
theorem vb_Model_puts_22 {E : mm_E} {Z : mm_M → Prop} (hc : cx E "EpochServerModel" c_Model_puts 5 none rm_Model_puts) (hq : cq E rm_Model_puts (pV Z)) (X22 : Nat → Int32 → Int32 → mm_M → Prop) (hX22 : ∀ (v0 : Nat) (v1 : Int32) (v2 : Int32) (h : mm_M), X22 v0 v1 v2 h → V E 5 0 0 h 22 [(0, va_rf (some v0)), (1, .int (v1)), (2, .int (v2))] []) (v0 : Nat) (v1 : Int32) (v2 : Int32) (h : mm_M) (hw : wq_Model_puts_22 X22 (mm_ge (eG E)) v0 v1 v2 h Z) : V E 5 0 0 h 22 [(0, va_rf (some v0)), (1, .int (v1)), (2, .int (v2))] [] := by
  unfold wq_Model_puts_22 at hw
  refine V_iload_n hc 2 d_Model_puts_22 rfl rfl ?_
  refine V_aload_n hc 0 d_Model_puts_23 rfl rfl ?_
  obtain ⟨q1, hw⟩ := hw
  refine V_get (v := .int (mm_I h v0 59)) hc gf_Model_355 rfl q1 rfl d_Model_puts_24 ?_
  refine V_icmp_ge (tgt := 89) hc d_Model_puts_27 (by decide) (fun hq1 => ?_) (fun hq1 => ?_)
  · replace hw := hw.1 hq1
    refine V_aload_n hc 0 d_Model_puts_89 rfl rfl ?_
    refine V_get (v := .int (mm_I h v0 59)) hc gf_Model_355 rfl q1 rfl d_Model_puts_90 ?_
    refine V_sipush (v := 600) hc d_Model_puts_93 (by decide) ?_
    refine V_icmp_ne (tgt := 105) hc d_Model_puts_96 (by decide) (fun hq1 => ?_) (fun hq1 => ?_)
    · replace hw := hw.1 hq1
      refine V_iconst (v := 0) hc d_Model_puts_105 (by decide) ?_
      refine V_istore_n (i := 2) (lv' := [(2, .int (0)), (0, va_rf (some v0)), (1, .int (v1))]) hc d_Model_puts_106 rfl (by decide) rfl ?_
      refine V_sub (lv' := [(0, va_rf (some v0)), (1, .int (v1)), (2, .int (0))]) [1, 2, 0] rfl ?_
      exact vl_Model_puts_107 hc hq  _ _ _ _ hw
    · replace hw := hw.2 hq1
      refine V_aload_n hc 0 d_Model_puts_99 rfl rfl ?_
      refine V_iconst (v := 1) hc d_Model_puts_100 (by decide) ?_
      obtain ⟨q2, hw⟩ := hw
      obtain ⟨h3, eq_h3⟩ : ∃ x, x = mm_uI h (v0) 63 (1) := ⟨_, rfl⟩
      replace hw := hw _ eq_h3
      refine V_put (h' := h3) hc gf_Model_382 rfl rfl q1 q2 (by rw [eq_h3]; exact mm_Up_I _ _ _ _) (by rw [eq_h3]; exact up_vI rfl) (by decide) (by decide) d_Model_puts_101 ?_
      exact V_vret hc hq ⟨rfl, hw⟩ (by decide) (by decide) d_Model_puts_104
  · replace hw := hw.2 hq1
    refine V_iconst (v := 1) hc d_Model_puts_30 (by decide) ?_
    refine V_istore_n (i := 3) (lv' := [(3, .int (1)), (0, va_rf (some v0)), (1, .int (v1)), (2, .int (v2))]) hc d_Model_puts_31 rfl (by decide) rfl ?_
    refine V_iconst (v := 0) hc d_Model_puts_32 (by decide) ?_
    refine V_istore (i := 4) (lv' := [(4, .int (0)), (3, .int (1)), (0, va_rf (some v0)), (1, .int (v1)), (2, .int (v2))]) hc d_Model_puts_33 (by decide) rfl ?_
    refine V_sub (lv' := [(0, va_rf (some v0)), (1, .int (v1)), (2, .int (v2)), (3, .int (1)), (4, .int (0))]) [2, 3, 4, 1, 0] rfl ?_
    exact vl_Model_puts_35 hc hq X22 hX22 _ _ _ _ _ _ hw
theorem vl_Model_puts_22 {E : mm_E} {Z : mm_M → Prop} (hc : cx E "EpochServerModel" c_Model_puts 5 none rm_Model_puts) (hq : cq E rm_Model_puts (pV Z))  (v0 : Nat) (v1 : Int32) (v2 : Int32) (h : mm_M) (hw : lp_Model_puts_22  (mm_ge (eG E)) v0 v1 v2 h Z) : V E 5 0 0 h 22 [(0, va_rf (some v0)), (1, .int (v1)), (2, .int (v2))] [] :=
  hw (fun v0 v1 v2 h => V E 5 0 0 h 22 [(0, va_rf (some v0)), (1, .int (v1)), (2, .int (v2))] []) (fun v0 v1 v2 h hb => vb_Model_puts_22 hc hq  _ (fun _ _ _ _ q => q) v0 v1 v2 h hb)
set_option maxRecDepth 100000 in
set_option maxHeartbeats 4000000 in
theorem vb_Model_puts_0 {E : mm_E} {Z : mm_M → Prop} (hc : cx E "EpochServerModel" c_Model_puts 5 none rm_Model_puts) (hq : cq E rm_Model_puts (pV Z))  (v0 : Nat) (v1 : Int32) (h : mm_M) (hw : wq_Model_puts_0  (mm_ge (eG E)) v0 v1 h Z) : V E 5 0 0 h 0 [(0, va_rf (some v0)), (1, .int (v1))] [] := by
  unfold wq_Model_puts_0 at hw
  refine V_aload_n hc 0 d_Model_puts_0 rfl rfl ?_
  refine V_iload_n hc 1 d_Model_puts_1 rfl rfl ?_
  obtain ⟨q1, hw⟩ := hw
  refine V_callV (rm' := rm_Model_hashes) (As := [.int (v1)]) (rest := []) (n := 1) (cn := 0) hc rfl q1 (sat_Model_hashes (eG E) _ _ _ _ hw) rfl cv_Model_376 (gw_of (tw_6 (List.mem_of_getElem? (i := 181) rfl)) rfl) ss_Model_hashes rfl ⟨by decide, by decide⟩ (by decide) (by decide) rfl (by simp [cat_rf, cat_i, cat_l]) d_Model_puts_2 (fun r0 h2 hw => ?_)
  obtain ⟨rfl, hw⟩ := hw
  refine V_wide (cs' := 0) (sl' := 0) (by decide) (by decide) ?_
  refine V_st (st' := []) rfl ?_
  refine V_aload_n hc 0 d_Model_puts_5 rfl rfl ?_
  obtain ⟨q4, hw⟩ := hw
  refine V_get (v := .int (mm_I h2 v0 64)) hc gf_Model_379 rfl q4 rfl d_Model_puts_6 ?_
  refine V_if_eq (tgt := 19) hc d_Model_puts_9 (by decide) (fun hq1 => ?_) (fun hq1 => ?_)
  · replace hw := hw.1 hq1
    refine V_sub (lv' := []) [] rfl ?_
    exact vb_Model_puts_19 hc hq  _ hw
  · replace hw := hw.2 hq1
    refine V_aload_n hc 0 d_Model_puts_12 rfl rfl ?_
    refine V_get (v := .int (mm_I h2 v0 63)) hc gf_Model_382 rfl q4 rfl d_Model_puts_13 ?_
    refine V_if_eq (tgt := 20) hc d_Model_puts_16 (by decide) (fun hq1 => ?_) (fun hq1 => ?_)
    · replace hw := hw.1 hq1
      refine V_iconst (v := 0) hc d_Model_puts_20 (by decide) ?_
      refine V_istore_n (i := 2) (lv' := [(2, .int (0)), (0, va_rf (some v0)), (1, .int (v1))]) hc d_Model_puts_21 rfl (by decide) rfl ?_
      refine V_sub (lv' := [(0, va_rf (some v0)), (1, .int (v1)), (2, .int (0))]) [1, 2, 0] rfl ?_
      exact vl_Model_puts_22 hc hq  _ _ _ _ hw
    · replace hw := hw.2 hq1
      refine V_sub (lv' := []) [] rfl ?_
      exact vb_Model_puts_19 hc hq  _ hw
def wq_Model_puts (ge : Nat → Nat) (v0 : Nat) (v1 : Int32) (h : mm_M) (Z : mm_M → Prop) : Prop := wq_Model_puts_0 ge v0 v1 h Z
theorem sat_Model_puts (G : mm_G) (v0 : Nat) (v1 : Int32) (h : mm_M) (Z : mm_M → Prop) (hw : wq_Model_puts (mm_ge G) v0 v1 h Z) : mm_Met G y_Model_puts c_Model_puts 5 none rm_Model_puts [va_rf (some v0), .int (v1)] h (pV Z) := by
  refine mm_intro (own := "EpochServerModel") (by decide) rfl (by simp [lg_sl, cat_rf, cat_i, cat_l]) (fun E e1 hc hq hi => ?_)
  subst e1
  have e2 : lv_args 0 [va_rf (some v0), .int (v1)] = [(0, va_rf (some v0)), (1, .int (v1))] := by simp [lv_args, cat_rf, cat_i, cat_l]
  rw [e2]
  refine V_sub (lv' := [(0, va_rf (some v0)), (1, .int (v1))]) [0, 1] rfl ?_
  exact vb_Model_puts_0 hc hq v0 v1 h hw
/-! Model.layScore(I[II)I -/
abbrev rm_Model_layScore : Room := { frames := 0, cells := 0, slots := 0, locals := 0 }
def wq_Model_layScore_12 (X3 : Nat → Int32 → Option Nat → Int32 → Int32 → mm_M → Prop) (X12 : Nat → Int32 → Option Nat → Int32 → Int32 → Int32 → mm_M → Prop) (ge : Nat → Nat) (v0 : Nat) (v1 : Int32) (v2 : Option Nat) (v3 : Int32) (v4 : Int32) (v5 : Int32) (h : mm_M) (Z : Int32 → mm_M → Prop) : Prop :=
  (((4 : Int32) ≤ (v5 : Int32) → X3 (v0) (v1) (v2) (v3) (v4 + 1) h) ∧ (¬ (4 : Int32) ≤ (v5 : Int32) → mm_k h (v0) = kd_Model ∧ ∃ a2, v2 = some a2 ∧ mm_k h (a2) = ka_I ∧ vp_in ((v3) + (v4)) (mm_n h a2) ∧ ∃ a6, mm_P h v0 55 = some a6 ∧ mm_k h (a6) = ka_I ∧ vp_in (((v1) + ((4 : Int32) * (v4))) + (v5)) (mm_n h a6) ∧ ge 0 ≤ a6 ∧ ∀ h11 : mm_M, h11 = mm_uI h a6 (Int32.toNatClampNeg (((v1) + ((4 : Int32) * (v4))) + (v5))) (((mm_I h a2 (Int32.toNatClampNeg ((v3) + (v4)))) >>> (((24 : Int32) - ((8 : Int32) * (v5))) &&& 31)) &&& (255 : Int32)) → X12 (v0) (v1) (v2) (v3) (v4) (v5 + 1) h11))
def lp_Model_layScore_12 (X3 : Nat → Int32 → Option Nat → Int32 → Int32 → mm_M → Prop) (ge : Nat → Nat) (v0 : Nat) (v1 : Int32) (v2 : Option Nat) (v3 : Int32) (v4 : Int32) (v5 : Int32) (h : mm_M) (Z : Int32 → mm_M → Prop) : Prop :=
  ∀ X12 : Nat → Int32 → Option Nat → Int32 → Int32 → Int32 → mm_M → Prop, (∀ (v0 : Nat) (v1 : Int32) (v2 : Option Nat) (v3 : Int32) (v4 : Int32) (v5 : Int32) (h : mm_M), wq_Model_layScore_12 X3 X12 ge v0 v1 v2 v3 v4 v5 h Z → X12 v0 v1 v2 v3 v4 v5 h) → X12 v0 v1 v2 v3 v4 v5 h
def wq_Model_layScore_3 (X3 : Nat → Int32 → Option Nat → Int32 → Int32 → mm_M → Prop) (ge : Nat → Nat) (v0 : Nat) (v1 : Int32) (v2 : Option Nat) (v3 : Int32) (v4 : Int32) (h : mm_M) (Z : Int32 → mm_M → Prop) : Prop :=
  (((5 : Int32) ≤ (v4 : Int32) → Z ((v1) + (20 : Int32)) h) ∧ (¬ (5 : Int32) ≤ (v4 : Int32) → lp_Model_layScore_12 X3 ge (v0) (v1) (v2) (v3) (v4) (0) h Z))
def lp_Model_layScore_3  (ge : Nat → Nat) (v0 : Nat) (v1 : Int32) (v2 : Option Nat) (v3 : Int32) (v4 : Int32) (h : mm_M) (Z : Int32 → mm_M → Prop) : Prop :=
  ∀ X3 : Nat → Int32 → Option Nat → Int32 → Int32 → mm_M → Prop, (∀ (v0 : Nat) (v1 : Int32) (v2 : Option Nat) (v3 : Int32) (v4 : Int32) (h : mm_M), wq_Model_layScore_3 X3 ge v0 v1 v2 v3 v4 h Z → X3 v0 v1 v2 v3 v4 h) → X3 v0 v1 v2 v3 v4 h
def wq_Model_layScore_0  (ge : Nat → Nat) (v0 : Nat) (v1 : Int32) (v2 : Option Nat) (v3 : Int32) (h : mm_M) (Z : Int32 → mm_M → Prop) : Prop :=
  lp_Model_layScore_3  ge (v0) (v1) (v2) (v3) (0) h Z
set_option maxRecDepth 100000 in
set_option maxHeartbeats 4000000 in
theorem vb_Model_layScore_12 {E : mm_E} {Z : Int32 → mm_M → Prop} (hc : cx E "EpochServerModel" c_Model_layScore 6 (some (.int)) rm_Model_layScore) (hq : cq E rm_Model_layScore (pI Z)) (X3 : Nat → Int32 → Option Nat → Int32 → Int32 → mm_M → Prop) (hX3 : ∀ (v0 : Nat) (v1 : Int32) (v2 : Option Nat) (v3 : Int32) (v4 : Int32) (h : mm_M), X3 v0 v1 v2 v3 v4 h → V E 6 0 0 h 3 [(0, va_rf (some v0)), (1, .int (v1)), (2, va_rf (v2)), (3, .int (v3)), (4, .int (v4))] []) (X12 : Nat → Int32 → Option Nat → Int32 → Int32 → Int32 → mm_M → Prop) (hX12 : ∀ (v0 : Nat) (v1 : Int32) (v2 : Option Nat) (v3 : Int32) (v4 : Int32) (v5 : Int32) (h : mm_M), X12 v0 v1 v2 v3 v4 v5 h → V E 6 0 0 h 12 [(0, va_rf (some v0)), (1, .int (v1)), (2, va_rf (v2)), (3, .int (v3)), (4, .int (v4)), (5, .int (v5))] []) (v0 : Nat) (v1 : Int32) (v2 : Option Nat) (v3 : Int32) (v4 : Int32) (v5 : Int32) (h : mm_M) (hw : wq_Model_layScore_12 X3 X12 (mm_ge (eG E)) v0 v1 v2 v3 v4 v5 h Z) : V E 6 0 0 h 12 [(0, va_rf (some v0)), (1, .int (v1)), (2, va_rf (v2)), (3, .int (v3)), (4, .int (v4)), (5, .int (v5))] [] := by
  unfold wq_Model_layScore_12 at hw
  refine V_iload hc 5 d_Model_layScore_12 rfl ?_
  refine V_iconst (v := 4) hc d_Model_layScore_14 (by decide) ?_
  refine V_icmp_ge (tgt := 57) hc d_Model_layScore_15 (by decide) (fun hq1 => ?_) (fun hq1 => ?_)
  · replace hw := hw.1 hq1
    refine V_iinc (v := v4 + 1) (lv' := [(4, .int (v4 + 1)), (0, va_rf (some v0)), (1, .int (v1)), (2, va_rf (v2)), (3, .int (v3)), (5, .int (v5))]) hc 4 d_Model_layScore_57 rfl rfl (by decide) rfl ?_
    refine V_goto (tgt := 3) hc d_Model_layScore_60 (by decide) ?_
    refine V_sub (lv' := [(0, va_rf (some v0)), (1, .int (v1)), (2, va_rf (v2)), (3, .int (v3)), (4, .int (v4 + 1))]) [1, 2, 3, 4, 0] rfl ?_
    exact hX3 _ _ _ _ _ _ hw
  · replace hw := hw.2 hq1
    refine V_aload_n hc 0 d_Model_layScore_18 rfl rfl ?_
    obtain ⟨q1, hw⟩ := hw
    refine V_get (v := va_rf (mm_P h v0 55)) hc gf_Model_80 rfl q1 rfl d_Model_layScore_19 ?_
    refine V_iload_n hc 1 d_Model_layScore_22 rfl rfl ?_
    refine V_iconst (v := 4) hc d_Model_layScore_23 (by decide) ?_
    refine V_iload hc 4 d_Model_layScore_24 rfl ?_
    refine V_imul hc d_Model_layScore_26 ?_
    refine V_iadd hc d_Model_layScore_27 ?_
    refine V_iload hc 5 d_Model_layScore_28 rfl ?_
    refine V_iadd hc d_Model_layScore_30 ?_
    refine V_aload_n hc 2 d_Model_layScore_31 rfl rfl ?_
    refine V_iload_n hc 3 d_Model_layScore_32 rfl rfl ?_
    refine V_iload hc 4 d_Model_layScore_33 rfl ?_
    refine V_iadd hc d_Model_layScore_35 ?_
    obtain ⟨a2, q3, hw⟩ := hw
    obtain ⟨q4, hw⟩ := hw
    obtain ⟨q5, hw⟩ := hw
    refine V_iald hc q3 q4 q5 d_Model_layScore_36 ?_
    refine V_bipush (v := 24) hc d_Model_layScore_37 (by decide) ?_
    refine V_bipush (v := 8) hc d_Model_layScore_39 (by decide) ?_
    refine V_iload hc 5 d_Model_layScore_41 rfl ?_
    refine V_imul hc d_Model_layScore_43 ?_
    refine V_isub hc d_Model_layScore_44 ?_
    refine V_ishr hc d_Model_layScore_45 ?_
    refine V_sipush (v := 255) hc d_Model_layScore_46 (by decide) ?_
    refine V_iand hc d_Model_layScore_49 ?_
    obtain ⟨a6, q7, hw⟩ := hw
    obtain ⟨q8, hw⟩ := hw
    obtain ⟨q9, hw⟩ := hw
    obtain ⟨q10, hw⟩ := hw
    obtain ⟨h11, eq_h11⟩ : ∃ x, x = mm_uI h a6 (Int32.toNatClampNeg (((v1) + ((4 : Int32) * (v4))) + (v5))) (((mm_I h a2 (Int32.toNatClampNeg ((v3) + (v4)))) >>> (((24 : Int32) - ((8 : Int32) * (v5))) &&& 31)) &&& (255 : Int32)) := ⟨_, rfl⟩
    replace hw := hw _ eq_h11
    refine V_iast hc q7 q8 q9 q10 d_Model_layScore_50 ?_
    rw [← eq_h11]
    refine V_iinc (v := v5 + 1) (lv' := [(5, .int (v5 + 1)), (0, va_rf (some v0)), (1, .int (v1)), (2, va_rf (v2)), (3, .int (v3)), (4, .int (v4))]) hc 5 d_Model_layScore_51 rfl rfl (by decide) rfl ?_
    refine V_goto (tgt := 12) hc d_Model_layScore_54 (by decide) ?_
    refine V_sub (lv' := [(0, va_rf (some v0)), (1, .int (v1)), (2, va_rf (v2)), (3, .int (v3)), (4, .int (v4)), (5, .int (v5 + 1))]) [1, 2, 3, 4, 5, 0] rfl ?_
    exact hX12 _ _ _ _ _ _ _ hw
theorem vl_Model_layScore_12 {E : mm_E} {Z : Int32 → mm_M → Prop} (hc : cx E "EpochServerModel" c_Model_layScore 6 (some (.int)) rm_Model_layScore) (hq : cq E rm_Model_layScore (pI Z)) (X3 : Nat → Int32 → Option Nat → Int32 → Int32 → mm_M → Prop) (hX3 : ∀ (v0 : Nat) (v1 : Int32) (v2 : Option Nat) (v3 : Int32) (v4 : Int32) (h : mm_M), X3 v0 v1 v2 v3 v4 h → V E 6 0 0 h 3 [(0, va_rf (some v0)), (1, .int (v1)), (2, va_rf (v2)), (3, .int (v3)), (4, .int (v4))] []) (v0 : Nat) (v1 : Int32) (v2 : Option Nat) (v3 : Int32) (v4 : Int32) (v5 : Int32) (h : mm_M) (hw : lp_Model_layScore_12 X3 (mm_ge (eG E)) v0 v1 v2 v3 v4 v5 h Z) : V E 6 0 0 h 12 [(0, va_rf (some v0)), (1, .int (v1)), (2, va_rf (v2)), (3, .int (v3)), (4, .int (v4)), (5, .int (v5))] [] :=
  hw (fun v0 v1 v2 v3 v4 v5 h => V E 6 0 0 h 12 [(0, va_rf (some v0)), (1, .int (v1)), (2, va_rf (v2)), (3, .int (v3)), (4, .int (v4)), (5, .int (v5))] []) (fun v0 v1 v2 v3 v4 v5 h hb => vb_Model_layScore_12 hc hq X3 hX3 _ (fun _ _ _ _ _ _ _ q => q) v0 v1 v2 v3 v4 v5 h hb)
set_option maxRecDepth 100000 in
set_option maxHeartbeats 4000000 in
theorem vb_Model_layScore_3 {E : mm_E} {Z : Int32 → mm_M → Prop} (hc : cx E "EpochServerModel" c_Model_layScore 6 (some (.int)) rm_Model_layScore) (hq : cq E rm_Model_layScore (pI Z)) (X3 : Nat → Int32 → Option Nat → Int32 → Int32 → mm_M → Prop) (hX3 : ∀ (v0 : Nat) (v1 : Int32) (v2 : Option Nat) (v3 : Int32) (v4 : Int32) (h : mm_M), X3 v0 v1 v2 v3 v4 h → V E 6 0 0 h 3 [(0, va_rf (some v0)), (1, .int (v1)), (2, va_rf (v2)), (3, .int (v3)), (4, .int (v4))] []) (v0 : Nat) (v1 : Int32) (v2 : Option Nat) (v3 : Int32) (v4 : Int32) (h : mm_M) (hw : wq_Model_layScore_3 X3 (mm_ge (eG E)) v0 v1 v2 v3 v4 h Z) : V E 6 0 0 h 3 [(0, va_rf (some v0)), (1, .int (v1)), (2, va_rf (v2)), (3, .int (v3)), (4, .int (v4))] [] := by
  unfold wq_Model_layScore_3 at hw
  refine V_iload hc 4 d_Model_layScore_3 rfl ?_
  refine V_iconst (v := 5) hc d_Model_layScore_5 (by decide) ?_
  refine V_icmp_ge (tgt := 63) hc d_Model_layScore_6 (by decide) (fun hq1 => ?_) (fun hq1 => ?_)
  · replace hw := hw.1 hq1
    refine V_iload_n hc 1 d_Model_layScore_63 rfl rfl ?_
    refine V_bipush (v := 20) hc d_Model_layScore_64 (by decide) ?_
    refine V_iadd hc d_Model_layScore_66 ?_
    exact V_iret hc hq ⟨_, rfl, hw⟩ (by decide) (by decide) d_Model_layScore_67
  · replace hw := hw.2 hq1
    refine V_iconst (v := 0) hc d_Model_layScore_9 (by decide) ?_
    refine V_istore (i := 5) (lv' := [(5, .int (0)), (0, va_rf (some v0)), (1, .int (v1)), (2, va_rf (v2)), (3, .int (v3)), (4, .int (v4))]) hc d_Model_layScore_10 (by decide) rfl ?_
    refine V_sub (lv' := [(0, va_rf (some v0)), (1, .int (v1)), (2, va_rf (v2)), (3, .int (v3)), (4, .int (v4)), (5, .int (0))]) [1, 2, 3, 4, 5, 0] rfl ?_
    exact vl_Model_layScore_12 hc hq X3 hX3 _ _ _ _ _ _ _ hw
theorem vl_Model_layScore_3 {E : mm_E} {Z : Int32 → mm_M → Prop} (hc : cx E "EpochServerModel" c_Model_layScore 6 (some (.int)) rm_Model_layScore) (hq : cq E rm_Model_layScore (pI Z))  (v0 : Nat) (v1 : Int32) (v2 : Option Nat) (v3 : Int32) (v4 : Int32) (h : mm_M) (hw : lp_Model_layScore_3  (mm_ge (eG E)) v0 v1 v2 v3 v4 h Z) : V E 6 0 0 h 3 [(0, va_rf (some v0)), (1, .int (v1)), (2, va_rf (v2)), (3, .int (v3)), (4, .int (v4))] [] :=
  hw (fun v0 v1 v2 v3 v4 h => V E 6 0 0 h 3 [(0, va_rf (some v0)), (1, .int (v1)), (2, va_rf (v2)), (3, .int (v3)), (4, .int (v4))] []) (fun v0 v1 v2 v3 v4 h hb => vb_Model_layScore_3 hc hq  _ (fun _ _ _ _ _ _ q => q) v0 v1 v2 v3 v4 h hb)
set_option maxRecDepth 100000 in
set_option maxHeartbeats 4000000 in
theorem vb_Model_layScore_0 {E : mm_E} {Z : Int32 → mm_M → Prop} (hc : cx E "EpochServerModel" c_Model_layScore 6 (some (.int)) rm_Model_layScore) (hq : cq E rm_Model_layScore (pI Z))  (v0 : Nat) (v1 : Int32) (v2 : Option Nat) (v3 : Int32) (h : mm_M) (hw : wq_Model_layScore_0  (mm_ge (eG E)) v0 v1 v2 v3 h Z) : V E 6 0 0 h 0 [(0, va_rf (some v0)), (1, .int (v1)), (2, va_rf (v2)), (3, .int (v3))] [] := by
  unfold wq_Model_layScore_0 at hw
  refine V_iconst (v := 0) hc d_Model_layScore_0 (by decide) ?_
  refine V_istore (i := 4) (lv' := [(4, .int (0)), (0, va_rf (some v0)), (1, .int (v1)), (2, va_rf (v2)), (3, .int (v3))]) hc d_Model_layScore_1 (by decide) rfl ?_
  refine V_sub (lv' := [(0, va_rf (some v0)), (1, .int (v1)), (2, va_rf (v2)), (3, .int (v3)), (4, .int (0))]) [1, 2, 3, 4, 0] rfl ?_
  exact vl_Model_layScore_3 hc hq  _ _ _ _ _ _ hw
def wq_Model_layScore (ge : Nat → Nat) (v0 : Nat) (v1 : Int32) (v2 : Option Nat) (v3 : Int32) (h : mm_M) (Z : Int32 → mm_M → Prop) : Prop := wq_Model_layScore_0 ge v0 v1 v2 v3 h Z
theorem sat_Model_layScore (G : mm_G) (v0 : Nat) (v1 : Int32) (v2 : Option Nat) (v3 : Int32) (h : mm_M) (Z : Int32 → mm_M → Prop) (hw : wq_Model_layScore (mm_ge G) v0 v1 v2 v3 h Z) : mm_Met G y_Model_layScore c_Model_layScore 6 (some (.int)) rm_Model_layScore [va_rf (some v0), .int (v1), va_rf (v2), .int (v3)] h (pI Z) := by
  refine mm_intro (own := "EpochServerModel") (by decide) rfl (by simp [lg_sl, cat_rf, cat_i, cat_l]) (fun E e1 hc hq hi => ?_)
  subst e1
  have e2 : lv_args 0 [va_rf (some v0), .int (v1), va_rf (v2), .int (v3)] = [(0, va_rf (some v0)), (1, .int (v1)), (2, va_rf (v2)), (3, .int (v3))] := by simp [lv_args, cat_rf, cat_i, cat_l]
  rw [e2]
  refine V_sub (lv' := [(0, va_rf (some v0)), (1, .int (v1)), (2, va_rf (v2)), (3, .int (v3))]) [0, 1, 2, 3] rfl ?_
  exact vb_Model_layScore_0 hc hq v0 v1 v2 v3 h hw
/-! Model.scoreFile(II)V -/
abbrev rm_Model_scoreFile : Room := { frames := 4, cells := 0, slots := 0, locals := 98 }
def wq_Model_scoreFile_133 (X133 : Nat → Int32 → Int32 → Int32 → mm_M → Prop) (ge : Nat → Nat) (v0 : Nat) (v4 : Int32) (v5 : Int32) (v6 : Int32) (h : mm_M) (Z : mm_M → Prop) : Prop :=
  (((v4 : Int32) ≤ (v6 : Int32) → mm_k h (v0) = kd_Model ∧ wq_Model_puts ge (v0) (v5) h (fun h2 : mm_M => Z h2)) ∧ (¬ (v4 : Int32) ≤ (v6 : Int32) → mm_k h (v0) = kd_Model ∧ wq_Model_layScore ge (v0) (v5) (mm_P h v0 65) ((5 : Int32) * (v6)) h (fun (r6 : Int32) (h5 : mm_M) => X133 (v0) (v4) (r6) (v6 + 1) h5)))
def lp_Model_scoreFile_133  (ge : Nat → Nat) (v0 : Nat) (v4 : Int32) (v5 : Int32) (v6 : Int32) (h : mm_M) (Z : mm_M → Prop) : Prop :=
  ∀ X133 : Nat → Int32 → Int32 → Int32 → mm_M → Prop, (∀ (v0 : Nat) (v4 : Int32) (v5 : Int32) (v6 : Int32) (h : mm_M), wq_Model_scoreFile_133 X133 ge v0 v4 v5 v6 h Z → X133 v0 v4 v5 v6 h) → X133 v0 v4 v5 v6 h
def wq_Model_scoreFile_87 (X12 : Nat → Int32 → Int32 → Int32 → mm_M → Prop) (X87 : Nat → Int32 → Int32 → Int32 → Int32 → mm_M → Prop) (ge : Nat → Nat) (v0 : Nat) (v3 : Int32) (v4 : Int32) (v5 : Int32) (v7 : Int32) (h : mm_M) (Z : mm_M → Prop) : Prop :=
  (((5 : Int32) ≤ (v7 : Int32) → X12 (v0) (v3) (v4 + 1) (v5 + 64) h) ∧ (¬ (5 : Int32) ≤ (v7 : Int32) → mm_k h (v0) = kd_Model ∧ ∃ a2, mm_P h v0 57 = some a2 ∧ mm_k h (a2) = ka_I ∧ vp_in (v7) (mm_n h a2) ∧ ∃ a6, mm_P h v0 65 = some a6 ∧ mm_k h (a6) = ka_I ∧ vp_in (((5 : Int32) * (v4)) + (v7)) (mm_n h a6) ∧ ge 0 ≤ a6 ∧ ∀ h11 : mm_M, h11 = mm_uI h a6 (Int32.toNatClampNeg (((5 : Int32) * (v4)) + (v7))) (mm_I h a2 (Int32.toNatClampNeg (v7))) → X87 (v0) (v3) (v4) (v5) (v7 + 1) h11))
def lp_Model_scoreFile_87 (X12 : Nat → Int32 → Int32 → Int32 → mm_M → Prop) (ge : Nat → Nat) (v0 : Nat) (v3 : Int32) (v4 : Int32) (v5 : Int32) (v7 : Int32) (h : mm_M) (Z : mm_M → Prop) : Prop :=
  ∀ X87 : Nat → Int32 → Int32 → Int32 → Int32 → mm_M → Prop, (∀ (v0 : Nat) (v3 : Int32) (v4 : Int32) (v5 : Int32) (v7 : Int32) (h : mm_M), wq_Model_scoreFile_87 X12 X87 ge v0 v3 v4 v5 v7 h Z → X87 v0 v3 v4 v5 v7 h) → X87 v0 v3 v4 v5 v7 h
def wq_Model_scoreFile_42 (X12 : Nat → Int32 → Int32 → Int32 → mm_M → Prop) (X42 : Nat → Int32 → Int32 → Int32 → Int32 → Int32 → mm_M → Prop) (ge : Nat → Nat) (v0 : Nat) (v3 : Int32) (v4 : Int32) (v5 : Int32) (v6 : Int32) (v7 : Int32) (h : mm_M) (Z : mm_M → Prop) : Prop :=
  (((v6 : Int32) ≤ (v7 : Int32) → mm_k h (v0) = kd_Model ∧ wq_Model_puts ge (v0) (v6) h (fun h2 : mm_M => lp_Model_scoreFile_87 X12 ge (v0) (v3) (v4) (v5) (0) h2 Z)) ∧ (¬ (v6 : Int32) ≤ (v7 : Int32) → mm_k h (v0) = kd_Model ∧ ∃ a5, mm_P h v0 8 = some a5 ∧ mm_k h (a5) = ka_I ∧ vp_in ((((512 : Int32) * (v3)) + (v5)) + (v7)) (mm_n h a5) ∧ ∃ a9, mm_P h v0 55 = some a9 ∧ mm_k h (a9) = ka_I ∧ vp_in (v7) (mm_n h a9) ∧ ge 0 ≤ a9 ∧ ∀ h14 : mm_M, h14 = mm_uI h a9 (Int32.toNatClampNeg (v7)) (mm_I h a5 (Int32.toNatClampNeg ((((512 : Int32) * (v3)) + (v5)) + (v7)))) → X42 (v0) (v3) (v4) (v5) (v6) (v7 + 1) h14))
def lp_Model_scoreFile_42 (X12 : Nat → Int32 → Int32 → Int32 → mm_M → Prop) (ge : Nat → Nat) (v0 : Nat) (v3 : Int32) (v4 : Int32) (v5 : Int32) (v6 : Int32) (v7 : Int32) (h : mm_M) (Z : mm_M → Prop) : Prop :=
  ∀ X42 : Nat → Int32 → Int32 → Int32 → Int32 → Int32 → mm_M → Prop, (∀ (v0 : Nat) (v3 : Int32) (v4 : Int32) (v5 : Int32) (v6 : Int32) (v7 : Int32) (h : mm_M), wq_Model_scoreFile_42 X12 X42 ge v0 v3 v4 v5 v6 v7 h Z → X42 v0 v3 v4 v5 v6 v7 h) → X42 v0 v3 v4 v5 v6 v7 h
def wq_Model_scoreFile_12 (X12 : Nat → Int32 → Int32 → Int32 → mm_M → Prop) (ge : Nat → Nat) (v0 : Nat) (v3 : Int32) (v4 : Int32) (v5 : Int32) (h : mm_M) (Z : mm_M → Prop) : Prop :=
  mm_k h (v0) = kd_Model ∧ ∃ a2, mm_P h v0 5 = some a2 ∧ mm_k h (a2) = ka_I ∧ vp_in (v3) (mm_n h a2) ∧ (((mm_I h a2 (Int32.toNatClampNeg (v3)) : Int32) ≤ (v5 : Int32) → lp_Model_scoreFile_133  ge (v0) (v4) (0) (0) h Z) ∧ (¬ (mm_I h a2 (Int32.toNatClampNeg (v3)) : Int32) ≤ (v5 : Int32) → vp_in (v3) (mm_n h a2) ∧ lp_Model_scoreFile_42 X12 ge (v0) (v3) (v4) (v5) (if ((mm_I h a2 (Int32.toNatClampNeg (v3))) - (v5) : Int32) < (64) then ((mm_I h a2 (Int32.toNatClampNeg (v3))) - (v5)) else (64)) (0) h Z))
def lp_Model_scoreFile_12  (ge : Nat → Nat) (v0 : Nat) (v3 : Int32) (v4 : Int32) (v5 : Int32) (h : mm_M) (Z : mm_M → Prop) : Prop :=
  ∀ X12 : Nat → Int32 → Int32 → Int32 → mm_M → Prop, (∀ (v0 : Nat) (v3 : Int32) (v4 : Int32) (v5 : Int32) (h : mm_M), wq_Model_scoreFile_12 X12 ge v0 v3 v4 v5 h Z → X12 v0 v3 v4 v5 h) → X12 v0 v3 v4 v5 h
def wq_Model_scoreFile_0  (ge : Nat → Nat) (v0 : Nat) (v1 : Int32) (v2 : Int32) (h : mm_M) (Z : mm_M → Prop) : Prop :=
  wq_Model_spot ge (v1) (v2) h (fun (r2 : Int32) (h1 : mm_M) => lp_Model_scoreFile_12  ge (v0) (r2) (0) (0) h1 Z)
set_option maxRecDepth 100000 in
set_option maxHeartbeats 4000000 in
theorem vb_Model_scoreFile_133 {E : mm_E} {Z : mm_M → Prop} (hc : cx E "EpochServerModel" c_Model_scoreFile 8 none rm_Model_scoreFile) (hq : cq E rm_Model_scoreFile (pV Z)) (X133 : Nat → Int32 → Int32 → Int32 → mm_M → Prop) (hX133 : ∀ (v0 : Nat) (v4 : Int32) (v5 : Int32) (v6 : Int32) (h : mm_M), X133 v0 v4 v5 v6 h → V E 8 0 0 h 133 [(0, va_rf (some v0)), (4, .int (v4)), (5, .int (v5)), (6, .int (v6))] []) (v0 : Nat) (v4 : Int32) (v5 : Int32) (v6 : Int32) (h : mm_M) (hw : wq_Model_scoreFile_133 X133 (mm_ge (eG E)) v0 v4 v5 v6 h Z) : V E 8 0 0 h 133 [(0, va_rf (some v0)), (4, .int (v4)), (5, .int (v5)), (6, .int (v6))] [] := by
  unfold wq_Model_scoreFile_133 at hw
  refine V_iload hc 3 d_Model_scoreFile_133 rfl ?_
  refine V_iload hc 1 d_Model_scoreFile_135 rfl ?_
  refine V_icmp_ge (tgt := 162) hc d_Model_scoreFile_137 (by decide) (fun hq1 => ?_) (fun hq1 => ?_)
  · replace hw := hw.1 hq1
    refine V_aload_n hc 0 d_Model_scoreFile_162 rfl rfl ?_
    refine V_iload hc 2 d_Model_scoreFile_163 rfl ?_
    obtain ⟨q1, hw⟩ := hw
    refine V_callV (rm' := rm_Model_puts) (As := [.int (v5)]) (rest := []) (n := 1) (cn := 0) hc rfl q1 (sat_Model_puts (eG E) _ _ _ _ hw) rfl cv_Model_390 (gw_of (tw_6 (List.mem_of_getElem? (i := 177) rfl)) rfl) ss_Model_puts rfl ⟨by decide, by decide⟩ (by decide) (by decide) rfl (by simp [cat_rf, cat_i, cat_l]) d_Model_scoreFile_165 (fun r0 h2 hw => ?_)
    obtain ⟨rfl, hw⟩ := hw
    refine V_wide (cs' := 0) (sl' := 0) (by decide) (by decide) ?_
    refine V_st (st' := []) rfl ?_
    exact V_vret hc hq ⟨rfl, hw⟩ (by decide) (by decide) d_Model_scoreFile_168
  · replace hw := hw.2 hq1
    refine V_aload_n hc 0 d_Model_scoreFile_140 rfl rfl ?_
    refine V_iload hc 2 d_Model_scoreFile_141 rfl ?_
    refine V_aload_n hc 0 d_Model_scoreFile_143 rfl rfl ?_
    obtain ⟨q4, hw⟩ := hw
    refine V_get (v := va_rf (mm_P h v0 65)) hc gf_Model_92 rfl q4 rfl d_Model_scoreFile_144 ?_
    refine V_iconst (v := 5) hc d_Model_scoreFile_147 (by decide) ?_
    refine V_iload hc 3 d_Model_scoreFile_148 rfl ?_
    refine V_imul hc d_Model_scoreFile_150 ?_
    refine V_callV (rm' := rm_Model_layScore) (As := [.int (v5), va_rf (mm_P h v0 65), .int ((5 : Int32) * (v6))]) (rest := []) (n := 3) (cn := 0) hc rfl q4 (sat_Model_layScore (eG E) _ _ _ _ _ _ hw) rfl cv_Model_393 (gw_of (tw_6 (List.mem_of_getElem? (i := 201) rfl)) rfl) ss_Model_layScore rfl ⟨by decide, by decide⟩ (by decide) (by decide) rfl (by simp [cat_rf, cat_i, cat_l]) d_Model_scoreFile_151 (fun r0 h5 hw => ?_)
    obtain ⟨r6, rfl, hw⟩ := hw
    refine V_wide (cs' := 0) (sl' := 0) (by decide) (by decide) ?_
    refine V_st (st' := [.int (r6)]) rfl ?_
    refine V_istore (i := 5) (lv' := [(5, .int (r6)), (0, va_rf (some v0)), (4, .int (v4)), (6, .int (v6))]) hc d_Model_scoreFile_154 (by decide) rfl ?_
    refine V_iinc (v := v6 + 1) (lv' := [(6, .int (v6 + 1)), (5, .int (r6)), (0, va_rf (some v0)), (4, .int (v4))]) hc 3 d_Model_scoreFile_156 rfl rfl (by decide) rfl ?_
    refine V_goto (tgt := 133) hc d_Model_scoreFile_159 (by decide) ?_
    refine V_sub (lv' := [(0, va_rf (some v0)), (4, .int (v4)), (5, .int (r6)), (6, .int (v6 + 1))]) [2, 3, 1, 0] rfl ?_
    exact hX133 _ _ _ _ _ hw
theorem vl_Model_scoreFile_133 {E : mm_E} {Z : mm_M → Prop} (hc : cx E "EpochServerModel" c_Model_scoreFile 8 none rm_Model_scoreFile) (hq : cq E rm_Model_scoreFile (pV Z))  (v0 : Nat) (v4 : Int32) (v5 : Int32) (v6 : Int32) (h : mm_M) (hw : lp_Model_scoreFile_133  (mm_ge (eG E)) v0 v4 v5 v6 h Z) : V E 8 0 0 h 133 [(0, va_rf (some v0)), (4, .int (v4)), (5, .int (v5)), (6, .int (v6))] [] :=
  hw (fun v0 v4 v5 v6 h => V E 8 0 0 h 133 [(0, va_rf (some v0)), (4, .int (v4)), (5, .int (v5)), (6, .int (v6))] []) (fun v0 v4 v5 v6 h hb => vb_Model_scoreFile_133 hc hq  _ (fun _ _ _ _ _ q => q) v0 v4 v5 v6 h hb)
set_option maxRecDepth 100000 in
set_option maxHeartbeats 4000000 in
theorem vb_Model_scoreFile_87 {E : mm_E} {Z : mm_M → Prop} (hc : cx E "EpochServerModel" c_Model_scoreFile 8 none rm_Model_scoreFile) (hq : cq E rm_Model_scoreFile (pV Z)) (X12 : Nat → Int32 → Int32 → Int32 → mm_M → Prop) (hX12 : ∀ (v0 : Nat) (v3 : Int32) (v4 : Int32) (v5 : Int32) (h : mm_M), X12 v0 v3 v4 v5 h → V E 8 0 0 h 12 [(0, va_rf (some v0)), (3, .int (v3)), (4, .int (v4)), (5, .int (v5))] []) (X87 : Nat → Int32 → Int32 → Int32 → Int32 → mm_M → Prop) (hX87 : ∀ (v0 : Nat) (v3 : Int32) (v4 : Int32) (v5 : Int32) (v7 : Int32) (h : mm_M), X87 v0 v3 v4 v5 v7 h → V E 8 0 0 h 87 [(0, va_rf (some v0)), (3, .int (v3)), (4, .int (v4)), (5, .int (v5)), (7, .int (v7))] []) (v0 : Nat) (v3 : Int32) (v4 : Int32) (v5 : Int32) (v7 : Int32) (h : mm_M) (hw : wq_Model_scoreFile_87 X12 X87 (mm_ge (eG E)) v0 v3 v4 v5 v7 h Z) : V E 8 0 0 h 87 [(0, va_rf (some v0)), (3, .int (v3)), (4, .int (v4)), (5, .int (v5)), (7, .int (v7))] [] := by
  unfold wq_Model_scoreFile_87 at hw
  refine V_iload hc 4 d_Model_scoreFile_87 rfl ?_
  refine V_iconst (v := 5) hc d_Model_scoreFile_89 (by decide) ?_
  refine V_icmp_ge (tgt := 118) hc d_Model_scoreFile_90 (by decide) (fun hq1 => ?_) (fun hq1 => ?_)
  · replace hw := hw.1 hq1
    refine V_iinc (v := v4 + 1) (lv' := [(4, .int (v4 + 1)), (0, va_rf (some v0)), (3, .int (v3)), (5, .int (v5)), (7, .int (v7))]) hc 2 d_Model_scoreFile_118 rfl rfl (by decide) rfl ?_
    refine V_iinc (v := v5 + 64) (lv' := [(5, .int (v5 + 64)), (4, .int (v4 + 1)), (0, va_rf (some v0)), (3, .int (v3)), (7, .int (v7))]) hc 3 d_Model_scoreFile_121 rfl rfl (by decide) rfl ?_
    refine V_goto (tgt := 12) hc d_Model_scoreFile_124 (by decide) ?_
    refine V_sub (lv' := [(0, va_rf (some v0)), (3, .int (v3)), (4, .int (v4 + 1)), (5, .int (v5 + 64))]) [2, 3, 1, 0] rfl ?_
    exact hX12 _ _ _ _ _ hw
  · replace hw := hw.2 hq1
    refine V_aload_n hc 0 d_Model_scoreFile_93 rfl rfl ?_
    obtain ⟨q1, hw⟩ := hw
    refine V_get (v := va_rf (mm_P h v0 65)) hc gf_Model_92 rfl q1 rfl d_Model_scoreFile_94 ?_
    refine V_iconst (v := 5) hc d_Model_scoreFile_97 (by decide) ?_
    refine V_iload hc 2 d_Model_scoreFile_98 rfl ?_
    refine V_imul hc d_Model_scoreFile_100 ?_
    refine V_iload hc 4 d_Model_scoreFile_101 rfl ?_
    refine V_iadd hc d_Model_scoreFile_103 ?_
    refine V_aload_n hc 0 d_Model_scoreFile_104 rfl rfl ?_
    refine V_get (v := va_rf (mm_P h v0 57)) hc gf_Model_86 rfl q1 rfl d_Model_scoreFile_105 ?_
    refine V_iload hc 4 d_Model_scoreFile_108 rfl ?_
    obtain ⟨a2, q3, hw⟩ := hw
    obtain ⟨q4, hw⟩ := hw
    obtain ⟨q5, hw⟩ := hw
    refine V_iald hc q3 q4 q5 d_Model_scoreFile_110 ?_
    obtain ⟨a6, q7, hw⟩ := hw
    obtain ⟨q8, hw⟩ := hw
    obtain ⟨q9, hw⟩ := hw
    obtain ⟨q10, hw⟩ := hw
    obtain ⟨h11, eq_h11⟩ : ∃ x, x = mm_uI h a6 (Int32.toNatClampNeg (((5 : Int32) * (v4)) + (v7))) (mm_I h a2 (Int32.toNatClampNeg (v7))) := ⟨_, rfl⟩
    replace hw := hw _ eq_h11
    refine V_iast hc q7 q8 q9 q10 d_Model_scoreFile_111 ?_
    rw [← eq_h11]
    refine V_iinc (v := v7 + 1) (lv' := [(7, .int (v7 + 1)), (0, va_rf (some v0)), (3, .int (v3)), (4, .int (v4)), (5, .int (v5))]) hc 4 d_Model_scoreFile_112 rfl rfl (by decide) rfl ?_
    refine V_goto (tgt := 87) hc d_Model_scoreFile_115 (by decide) ?_
    refine V_sub (lv' := [(0, va_rf (some v0)), (3, .int (v3)), (4, .int (v4)), (5, .int (v5)), (7, .int (v7 + 1))]) [1, 2, 3, 4, 0] rfl ?_
    exact hX87 _ _ _ _ _ _ hw
theorem vl_Model_scoreFile_87 {E : mm_E} {Z : mm_M → Prop} (hc : cx E "EpochServerModel" c_Model_scoreFile 8 none rm_Model_scoreFile) (hq : cq E rm_Model_scoreFile (pV Z)) (X12 : Nat → Int32 → Int32 → Int32 → mm_M → Prop) (hX12 : ∀ (v0 : Nat) (v3 : Int32) (v4 : Int32) (v5 : Int32) (h : mm_M), X12 v0 v3 v4 v5 h → V E 8 0 0 h 12 [(0, va_rf (some v0)), (3, .int (v3)), (4, .int (v4)), (5, .int (v5))] []) (v0 : Nat) (v3 : Int32) (v4 : Int32) (v5 : Int32) (v7 : Int32) (h : mm_M) (hw : lp_Model_scoreFile_87 X12 (mm_ge (eG E)) v0 v3 v4 v5 v7 h Z) : V E 8 0 0 h 87 [(0, va_rf (some v0)), (3, .int (v3)), (4, .int (v4)), (5, .int (v5)), (7, .int (v7))] [] :=
  hw (fun v0 v3 v4 v5 v7 h => V E 8 0 0 h 87 [(0, va_rf (some v0)), (3, .int (v3)), (4, .int (v4)), (5, .int (v5)), (7, .int (v7))] []) (fun v0 v3 v4 v5 v7 h hb => vb_Model_scoreFile_87 hc hq X12 hX12 _ (fun _ _ _ _ _ _ q => q) v0 v3 v4 v5 v7 h hb)
set_option maxRecDepth 100000 in
set_option maxHeartbeats 4000000 in
theorem vb_Model_scoreFile_42 {E : mm_E} {Z : mm_M → Prop} (hc : cx E "EpochServerModel" c_Model_scoreFile 8 none rm_Model_scoreFile) (hq : cq E rm_Model_scoreFile (pV Z)) (X12 : Nat → Int32 → Int32 → Int32 → mm_M → Prop) (hX12 : ∀ (v0 : Nat) (v3 : Int32) (v4 : Int32) (v5 : Int32) (h : mm_M), X12 v0 v3 v4 v5 h → V E 8 0 0 h 12 [(0, va_rf (some v0)), (3, .int (v3)), (4, .int (v4)), (5, .int (v5))] []) (X42 : Nat → Int32 → Int32 → Int32 → Int32 → Int32 → mm_M → Prop) (hX42 : ∀ (v0 : Nat) (v3 : Int32) (v4 : Int32) (v5 : Int32) (v6 : Int32) (v7 : Int32) (h : mm_M), X42 v0 v3 v4 v5 v6 v7 h → V E 8 0 0 h 42 [(0, va_rf (some v0)), (3, .int (v3)), (4, .int (v4)), (5, .int (v5)), (6, .int (v6)), (7, .int (v7))] []) (v0 : Nat) (v3 : Int32) (v4 : Int32) (v5 : Int32) (v6 : Int32) (v7 : Int32) (h : mm_M) (hw : wq_Model_scoreFile_42 X12 X42 (mm_ge (eG E)) v0 v3 v4 v5 v6 v7 h Z) : V E 8 0 0 h 42 [(0, va_rf (some v0)), (3, .int (v3)), (4, .int (v4)), (5, .int (v5)), (6, .int (v6)), (7, .int (v7))] [] := by
  unfold wq_Model_scoreFile_42 at hw
  refine V_iload hc 5 d_Model_scoreFile_42 rfl ?_
  refine V_iload hc 4 d_Model_scoreFile_44 rfl ?_
  refine V_icmp_ge (tgt := 78) hc d_Model_scoreFile_46 (by decide) (fun hq1 => ?_) (fun hq1 => ?_)
  · replace hw := hw.1 hq1
    refine V_aload_n hc 0 d_Model_scoreFile_78 rfl rfl ?_
    refine V_iload hc 4 d_Model_scoreFile_79 rfl ?_
    obtain ⟨q1, hw⟩ := hw
    refine V_callV (rm' := rm_Model_puts) (As := [.int (v6)]) (rest := []) (n := 1) (cn := 0) hc rfl q1 (sat_Model_puts (eG E) _ _ _ _ hw) rfl cv_Model_390 (gw_of (tw_6 (List.mem_of_getElem? (i := 177) rfl)) rfl) ss_Model_puts rfl ⟨by decide, by decide⟩ (by decide) (by decide) rfl (by simp [cat_rf, cat_i, cat_l]) d_Model_scoreFile_81 (fun r0 h2 hw => ?_)
    obtain ⟨rfl, hw⟩ := hw
    refine V_wide (cs' := 0) (sl' := 0) (by decide) (by decide) ?_
    refine V_st (st' := []) rfl ?_
    refine V_iconst (v := 0) hc d_Model_scoreFile_84 (by decide) ?_
    refine V_istore (i := 7) (lv' := [(7, .int (0)), (0, va_rf (some v0)), (3, .int (v3)), (4, .int (v4)), (5, .int (v5)), (6, .int (v6))]) hc d_Model_scoreFile_85 (by decide) rfl ?_
    refine V_sub (lv' := [(0, va_rf (some v0)), (3, .int (v3)), (4, .int (v4)), (5, .int (v5)), (7, .int (0))]) [1, 2, 3, 4, 0] rfl ?_
    exact vl_Model_scoreFile_87 hc hq X12 hX12 _ _ _ _ _ _ hw
  · replace hw := hw.2 hq1
    refine V_aload_n hc 0 d_Model_scoreFile_49 rfl rfl ?_
    obtain ⟨q4, hw⟩ := hw
    refine V_get (v := va_rf (mm_P h v0 55)) hc gf_Model_80 rfl q4 rfl d_Model_scoreFile_50 ?_
    refine V_iload hc 5 d_Model_scoreFile_53 rfl ?_
    refine V_aload_n hc 0 d_Model_scoreFile_55 rfl rfl ?_
    refine V_get (v := va_rf (mm_P h v0 8)) hc gf_Model_37 rfl q4 rfl d_Model_scoreFile_56 ?_
    refine V_sipush (v := 512) hc d_Model_scoreFile_59 (by decide) ?_
    refine V_iload_n hc 1 d_Model_scoreFile_62 rfl rfl ?_
    refine V_imul hc d_Model_scoreFile_63 ?_
    refine V_iload hc 3 d_Model_scoreFile_64 rfl ?_
    refine V_iadd hc d_Model_scoreFile_66 ?_
    refine V_iload hc 5 d_Model_scoreFile_67 rfl ?_
    refine V_iadd hc d_Model_scoreFile_69 ?_
    obtain ⟨a5, q6, hw⟩ := hw
    obtain ⟨q7, hw⟩ := hw
    obtain ⟨q8, hw⟩ := hw
    refine V_iald hc q6 q7 q8 d_Model_scoreFile_70 ?_
    obtain ⟨a9, q10, hw⟩ := hw
    obtain ⟨q11, hw⟩ := hw
    obtain ⟨q12, hw⟩ := hw
    obtain ⟨q13, hw⟩ := hw
    obtain ⟨h14, eq_h14⟩ : ∃ x, x = mm_uI h a9 (Int32.toNatClampNeg (v7)) (mm_I h a5 (Int32.toNatClampNeg ((((512 : Int32) * (v3)) + (v5)) + (v7)))) := ⟨_, rfl⟩
    replace hw := hw _ eq_h14
    refine V_iast hc q10 q11 q12 q13 d_Model_scoreFile_71 ?_
    rw [← eq_h14]
    refine V_iinc (v := v7 + 1) (lv' := [(7, .int (v7 + 1)), (0, va_rf (some v0)), (3, .int (v3)), (4, .int (v4)), (5, .int (v5)), (6, .int (v6))]) hc 5 d_Model_scoreFile_72 rfl rfl (by decide) rfl ?_
    refine V_goto (tgt := 42) hc d_Model_scoreFile_75 (by decide) ?_
    refine V_sub (lv' := [(0, va_rf (some v0)), (3, .int (v3)), (4, .int (v4)), (5, .int (v5)), (6, .int (v6)), (7, .int (v7 + 1))]) [1, 2, 3, 4, 5, 0] rfl ?_
    exact hX42 _ _ _ _ _ _ _ hw
theorem vl_Model_scoreFile_42 {E : mm_E} {Z : mm_M → Prop} (hc : cx E "EpochServerModel" c_Model_scoreFile 8 none rm_Model_scoreFile) (hq : cq E rm_Model_scoreFile (pV Z)) (X12 : Nat → Int32 → Int32 → Int32 → mm_M → Prop) (hX12 : ∀ (v0 : Nat) (v3 : Int32) (v4 : Int32) (v5 : Int32) (h : mm_M), X12 v0 v3 v4 v5 h → V E 8 0 0 h 12 [(0, va_rf (some v0)), (3, .int (v3)), (4, .int (v4)), (5, .int (v5))] []) (v0 : Nat) (v3 : Int32) (v4 : Int32) (v5 : Int32) (v6 : Int32) (v7 : Int32) (h : mm_M) (hw : lp_Model_scoreFile_42 X12 (mm_ge (eG E)) v0 v3 v4 v5 v6 v7 h Z) : V E 8 0 0 h 42 [(0, va_rf (some v0)), (3, .int (v3)), (4, .int (v4)), (5, .int (v5)), (6, .int (v6)), (7, .int (v7))] [] :=
  hw (fun v0 v3 v4 v5 v6 v7 h => V E 8 0 0 h 42 [(0, va_rf (some v0)), (3, .int (v3)), (4, .int (v4)), (5, .int (v5)), (6, .int (v6)), (7, .int (v7))] []) (fun v0 v3 v4 v5 v6 v7 h hb => vb_Model_scoreFile_42 hc hq X12 hX12 _ (fun _ _ _ _ _ _ _ q => q) v0 v3 v4 v5 v6 v7 h hb)
set_option maxRecDepth 100000 in
set_option maxHeartbeats 4000000 in
theorem vb_Model_scoreFile_12 {E : mm_E} {Z : mm_M → Prop} (hc : cx E "EpochServerModel" c_Model_scoreFile 8 none rm_Model_scoreFile) (hq : cq E rm_Model_scoreFile (pV Z)) (X12 : Nat → Int32 → Int32 → Int32 → mm_M → Prop) (hX12 : ∀ (v0 : Nat) (v3 : Int32) (v4 : Int32) (v5 : Int32) (h : mm_M), X12 v0 v3 v4 v5 h → V E 8 0 0 h 12 [(0, va_rf (some v0)), (3, .int (v3)), (4, .int (v4)), (5, .int (v5))] []) (v0 : Nat) (v3 : Int32) (v4 : Int32) (v5 : Int32) (h : mm_M) (hw : wq_Model_scoreFile_12 X12 (mm_ge (eG E)) v0 v3 v4 v5 h Z) : V E 8 0 0 h 12 [(0, va_rf (some v0)), (3, .int (v3)), (4, .int (v4)), (5, .int (v5))] [] := by
  unfold wq_Model_scoreFile_12 at hw
  refine V_iload hc 3 d_Model_scoreFile_12 rfl ?_
  refine V_aload_n hc 0 d_Model_scoreFile_14 rfl rfl ?_
  obtain ⟨q1, hw⟩ := hw
  refine V_get (v := va_rf (mm_P h v0 5)) hc gf_Model_26 rfl q1 rfl d_Model_scoreFile_15 ?_
  refine V_iload_n hc 1 d_Model_scoreFile_18 rfl rfl ?_
  obtain ⟨a2, q3, hw⟩ := hw
  obtain ⟨q4, hw⟩ := hw
  obtain ⟨q5, hw⟩ := hw
  refine V_iald hc q3 q4 q5 d_Model_scoreFile_19 ?_
  refine V_icmp_ge (tgt := 127) hc d_Model_scoreFile_20 (by decide) (fun hq1 => ?_) (fun hq1 => ?_)
  · replace hw := hw.1 hq1
    refine V_iconst (v := 0) hc d_Model_scoreFile_127 (by decide) ?_
    refine V_istore (i := 5) (lv' := [(5, .int (0)), (0, va_rf (some v0)), (3, .int (v3)), (4, .int (v4))]) hc d_Model_scoreFile_128 (by decide) rfl ?_
    refine V_iconst (v := 0) hc d_Model_scoreFile_130 (by decide) ?_
    refine V_istore (i := 6) (lv' := [(6, .int (0)), (5, .int (0)), (0, va_rf (some v0)), (3, .int (v3)), (4, .int (v4))]) hc d_Model_scoreFile_131 (by decide) rfl ?_
    refine V_sub (lv' := [(0, va_rf (some v0)), (4, .int (v4)), (5, .int (0)), (6, .int (0))]) [2, 4, 1, 0] rfl ?_
    exact vl_Model_scoreFile_133 hc hq  _ _ _ _ _ hw
  · replace hw := hw.2 hq1
    refine V_bipush (v := 64) hc d_Model_scoreFile_23 (by decide) ?_
    refine V_aload_n hc 0 d_Model_scoreFile_25 rfl rfl ?_
    refine V_get (v := va_rf (mm_P h v0 5)) hc gf_Model_26 rfl q1 rfl d_Model_scoreFile_26 ?_
    refine V_iload_n hc 1 d_Model_scoreFile_29 rfl rfl ?_
    obtain ⟨q6, hw⟩ := hw
    refine V_iald hc q3 q4 q6 d_Model_scoreFile_30 ?_
    refine V_iload hc 3 d_Model_scoreFile_31 rfl ?_
    refine V_isub hc d_Model_scoreFile_33 ?_
    refine V_mmin hc cv_Model_385 (by simp [cat_rf, cat_i, cat_l]) (by decide) (by decide) (by decide) (by decide) d_Model_scoreFile_34 ?_
    refine V_istore (i := 6) (lv' := [(6, .int (if ((mm_I h a2 (Int32.toNatClampNeg (v3))) - (v5) : Int32) < (64) then ((mm_I h a2 (Int32.toNatClampNeg (v3))) - (v5)) else (64))), (0, va_rf (some v0)), (3, .int (v3)), (4, .int (v4)), (5, .int (v5))]) hc d_Model_scoreFile_37 (by decide) rfl ?_
    refine V_iconst (v := 0) hc d_Model_scoreFile_39 (by decide) ?_
    refine V_istore (i := 7) (lv' := [(7, .int (0)), (6, .int (if ((mm_I h a2 (Int32.toNatClampNeg (v3))) - (v5) : Int32) < (64) then ((mm_I h a2 (Int32.toNatClampNeg (v3))) - (v5)) else (64))), (0, va_rf (some v0)), (3, .int (v3)), (4, .int (v4)), (5, .int (v5))]) hc d_Model_scoreFile_40 (by decide) rfl ?_
    refine V_sub (lv' := [(0, va_rf (some v0)), (3, .int (v3)), (4, .int (v4)), (5, .int (v5)), (6, .int (if ((mm_I h a2 (Int32.toNatClampNeg (v3))) - (v5) : Int32) < (64) then ((mm_I h a2 (Int32.toNatClampNeg (v3))) - (v5)) else (64))), (7, .int (0))]) [2, 3, 4, 5, 1, 0] rfl ?_
    exact vl_Model_scoreFile_42 hc hq X12 hX12 _ _ _ _ _ _ _ hw
theorem vl_Model_scoreFile_12 {E : mm_E} {Z : mm_M → Prop} (hc : cx E "EpochServerModel" c_Model_scoreFile 8 none rm_Model_scoreFile) (hq : cq E rm_Model_scoreFile (pV Z))  (v0 : Nat) (v3 : Int32) (v4 : Int32) (v5 : Int32) (h : mm_M) (hw : lp_Model_scoreFile_12  (mm_ge (eG E)) v0 v3 v4 v5 h Z) : V E 8 0 0 h 12 [(0, va_rf (some v0)), (3, .int (v3)), (4, .int (v4)), (5, .int (v5))] [] :=
  hw (fun v0 v3 v4 v5 h => V E 8 0 0 h 12 [(0, va_rf (some v0)), (3, .int (v3)), (4, .int (v4)), (5, .int (v5))] []) (fun v0 v3 v4 v5 h hb => vb_Model_scoreFile_12 hc hq  _ (fun _ _ _ _ _ q => q) v0 v3 v4 v5 h hb)
set_option maxRecDepth 100000 in
set_option maxHeartbeats 4000000 in
theorem vb_Model_scoreFile_0 {E : mm_E} {Z : mm_M → Prop} (hc : cx E "EpochServerModel" c_Model_scoreFile 8 none rm_Model_scoreFile) (hq : cq E rm_Model_scoreFile (pV Z))  (v0 : Nat) (v1 : Int32) (v2 : Int32) (h : mm_M) (hw : wq_Model_scoreFile_0  (mm_ge (eG E)) v0 v1 v2 h Z) : V E 8 0 0 h 0 [(0, va_rf (some v0)), (1, .int (v1)), (2, .int (v2))] [] := by
  unfold wq_Model_scoreFile_0 at hw
  refine V_iload_n hc 1 d_Model_scoreFile_0 rfl rfl ?_
  refine V_iload_n hc 2 d_Model_scoreFile_1 rfl rfl ?_
  refine V_callS (rm' := rm_Model_spot) (As := [.int (v1), .int (v2)]) (rest := []) (n := 2) hc (sat_Model_spot (eG E) _ _ _ _ hw) cv_Model_96 (gw_of (tw_5 (List.mem_of_getElem? (i := 196) rfl)) rfl) rfl ⟨by decide, by decide⟩ (by decide) (by decide) rfl (by simp [cat_rf, cat_i, cat_l]) d_Model_scoreFile_2 (fun r0 h1 hw => ?_)
  obtain ⟨r2, rfl, hw⟩ := hw
  refine V_wide (cs' := 0) (sl' := 0) (by decide) (by decide) ?_
  refine V_st (st' := [.int (r2)]) rfl ?_
  refine V_istore_n (i := 3) (lv' := [(3, .int (r2)), (0, va_rf (some v0)), (1, .int (v1)), (2, .int (v2))]) hc d_Model_scoreFile_5 rfl (by decide) rfl ?_
  refine V_iconst (v := 0) hc d_Model_scoreFile_6 (by decide) ?_
  refine V_istore (i := 4) (lv' := [(4, .int (0)), (3, .int (r2)), (0, va_rf (some v0)), (1, .int (v1)), (2, .int (v2))]) hc d_Model_scoreFile_7 (by decide) rfl ?_
  refine V_iconst (v := 0) hc d_Model_scoreFile_9 (by decide) ?_
  refine V_istore (i := 5) (lv' := [(5, .int (0)), (4, .int (0)), (3, .int (r2)), (0, va_rf (some v0)), (1, .int (v1)), (2, .int (v2))]) hc d_Model_scoreFile_10 (by decide) rfl ?_
  refine V_sub (lv' := [(0, va_rf (some v0)), (3, .int (r2)), (4, .int (0)), (5, .int (0))]) [3, 2, 1, 0] rfl ?_
  exact vl_Model_scoreFile_12 hc hq  _ _ _ _ _ hw
def wq_Model_scoreFile (ge : Nat → Nat) (v0 : Nat) (v1 : Int32) (v2 : Int32) (h : mm_M) (Z : mm_M → Prop) : Prop := wq_Model_scoreFile_0 ge v0 v1 v2 h Z
theorem sat_Model_scoreFile (G : mm_G) (v0 : Nat) (v1 : Int32) (v2 : Int32) (h : mm_M) (Z : mm_M → Prop) (hw : wq_Model_scoreFile (mm_ge G) v0 v1 v2 h Z) : mm_Met G y_Model_scoreFile c_Model_scoreFile 8 none rm_Model_scoreFile [va_rf (some v0), .int (v1), .int (v2)] h (pV Z) := by
  refine mm_intro (own := "EpochServerModel") (by decide) rfl (by simp [lg_sl, cat_rf, cat_i, cat_l]) (fun E e1 hc hq hi => ?_)
  subst e1
  have e2 : lv_args 0 [va_rf (some v0), .int (v1), .int (v2)] = [(0, va_rf (some v0)), (1, .int (v1)), (2, .int (v2))] := by simp [lv_args, cat_rf, cat_i, cat_l]
  rw [e2]
  refine V_sub (lv' := [(0, va_rf (some v0)), (1, .int (v1)), (2, .int (v2))]) [0, 1, 2] rfl ?_
  exact vb_Model_scoreFile_0 hc hq v0 v1 v2 h hw
