/-! Sha.digest([BII)V -/
abbrev rm_Sha_digest : Room := { frames := 2, cells := 0, slots := 0, locals := 50 }
def wq_Sha_digest_120 (X54 : Nat → Option Nat → Int32 → Int32 → Int32 → Int32 → mm_M → Prop) (ge : Nat → Nat) (v0 : Nat) (v1 : Option Nat) (v2 : Int32) (v3 : Int32) (v4 : Int32) (v5 : Int32) (h : mm_M) (Z : mm_M → Prop) : Prop :=
  mm_k h (v0) = kd_Sha ∧ wq_Sha_mix ge (v0) h (fun h2 : mm_M => X54 (v0) (v1) (v2) (v3) (v4) (v5 + 1) h2)
def wq_Sha_digest_64 (X54 : Nat → Option Nat → Int32 → Int32 → Int32 → Int32 → mm_M → Prop) (X64 : Nat → Option Nat → Int32 → Int32 → Int32 → Int32 → Int32 → mm_M → Prop) (ge : Nat → Nat) (v0 : Nat) (v1 : Option Nat) (v2 : Int32) (v3 : Int32) (v4 : Int32) (v5 : Int32) (v6 : Int32) (h : mm_M) (Z : mm_M → Prop) : Prop :=
  (((16 : Int32) ≤ (v6 : Int32) → ((¬ (v5 : Int32) = ((v4) - (1 : Int32) : Int32) → wq_Sha_digest_120 X54 ge (v0) (v1) (v2) (v3) (v4) (v5) h Z) ∧ ((v5 : Int32) = ((v4) - (1 : Int32) : Int32) → mm_k h (v0) = kd_Sha ∧ ∃ a2, mm_P h v0 1 = some a2 ∧ mm_k h (a2) = ka_I ∧ vp_in (15) (mm_n h a2) ∧ ge 0 ≤ a2 ∧ ∀ h7 : mm_M, h7 = mm_uI h a2 (Int32.toNatClampNeg (15)) ((v3) * (8 : Int32)) → wq_Sha_digest_120 X54 ge (v0) (v1) (v2) (v3) (v4) (v5) h7 Z))) ∧ (¬ (16 : Int32) ≤ (v6 : Int32) → mm_k h (v0) = kd_Sha ∧ wq_Sha_paddedWord ge (v1) (v2) (v3) (((v5) * (64 : Int32)) + ((v6) * (4 : Int32))) h (fun (r10 : Int32) (h9 : mm_M) => ∃ a11, mm_P h v0 1 = some a11 ∧ mm_k h9 (a11) = ka_I ∧ vp_in (v6) (mm_n h9 a11) ∧ ge 0 ≤ a11 ∧ ∀ h16 : mm_M, h16 = mm_uI h9 a11 (Int32.toNatClampNeg (v6)) (r10) → X64 (v0) (v1) (v2) (v3) (v4) (v5) (v6 + 1) h16)))
def lp_Sha_digest_64 (X54 : Nat → Option Nat → Int32 → Int32 → Int32 → Int32 → mm_M → Prop) (ge : Nat → Nat) (v0 : Nat) (v1 : Option Nat) (v2 : Int32) (v3 : Int32) (v4 : Int32) (v5 : Int32) (v6 : Int32) (h : mm_M) (Z : mm_M → Prop) : Prop :=
  ∀ X64 : Nat → Option Nat → Int32 → Int32 → Int32 → Int32 → Int32 → mm_M → Prop, (∀ (v0 : Nat) (v1 : Option Nat) (v2 : Int32) (v3 : Int32) (v4 : Int32) (v5 : Int32) (v6 : Int32) (h : mm_M), wq_Sha_digest_64 X54 X64 ge v0 v1 v2 v3 v4 v5 v6 h Z → X64 v0 v1 v2 v3 v4 v5 v6 h) → X64 v0 v1 v2 v3 v4 v5 v6 h
def wq_Sha_digest_54 (X54 : Nat → Option Nat → Int32 → Int32 → Int32 → Int32 → mm_M → Prop) (ge : Nat → Nat) (v0 : Nat) (v1 : Option Nat) (v2 : Int32) (v3 : Int32) (v4 : Int32) (v5 : Int32) (h : mm_M) (Z : mm_M → Prop) : Prop :=
  (((v4 : Int32) ≤ (v5 : Int32) → Z h) ∧ (¬ (v4 : Int32) ≤ (v5 : Int32) → lp_Sha_digest_64 X54 ge (v0) (v1) (v2) (v3) (v4) (v5) (0) h Z))
def lp_Sha_digest_54  (ge : Nat → Nat) (v0 : Nat) (v1 : Option Nat) (v2 : Int32) (v3 : Int32) (v4 : Int32) (v5 : Int32) (h : mm_M) (Z : mm_M → Prop) : Prop :=
  ∀ X54 : Nat → Option Nat → Int32 → Int32 → Int32 → Int32 → mm_M → Prop, (∀ (v0 : Nat) (v1 : Option Nat) (v2 : Int32) (v3 : Int32) (v4 : Int32) (v5 : Int32) (h : mm_M), wq_Sha_digest_54 X54 ge v0 v1 v2 v3 v4 v5 h Z → X54 v0 v1 v2 v3 v4 v5 h) → X54 v0 v1 v2 v3 v4 v5 h
def wq_Sha_digest_0  (ge : Nat → Nat) (v0 : Nat) (v1 : Option Nat) (v2 : Int32) (v3 : Int32) (h : mm_M) (Z : mm_M → Prop) : Prop :=
  mm_k h (v0) = kd_Sha ∧ ∃ a2, mm_P h v0 0 = some a2 ∧ mm_k h (a2) = ka_I ∧ vp_in (0) (mm_n h a2) ∧ ge 0 ≤ a2 ∧ ∀ h7 : mm_M, h7 = mm_uI h a2 (Int32.toNatClampNeg (0)) (1732584193) → mm_k h7 (v0) = kd_Sha ∧ ∃ a9, mm_P h7 v0 0 = some a9 ∧ mm_k h7 (a9) = ka_I ∧ vp_in (1) (mm_n h7 a9) ∧ ge 0 ≤ a9 ∧ ∀ h14 : mm_M, h14 = mm_uI h7 a9 (Int32.toNatClampNeg (1)) ((-271733879)) → mm_k h14 (v0) = kd_Sha ∧ ∃ a16, mm_P h14 v0 0 = some a16 ∧ mm_k h14 (a16) = ka_I ∧ vp_in (2) (mm_n h14 a16) ∧ ge 0 ≤ a16 ∧ ∀ h21 : mm_M, h21 = mm_uI h14 a16 (Int32.toNatClampNeg (2)) ((-1732584194)) → mm_k h21 (v0) = kd_Sha ∧ ∃ a23, mm_P h21 v0 0 = some a23 ∧ mm_k h21 (a23) = ka_I ∧ vp_in (3) (mm_n h21 a23) ∧ ge 0 ≤ a23 ∧ ∀ h28 : mm_M, h28 = mm_uI h21 a23 (Int32.toNatClampNeg (3)) (271733878) → mm_k h28 (v0) = kd_Sha ∧ ∃ a30, mm_P h28 v0 0 = some a30 ∧ mm_k h28 (a30) = ka_I ∧ vp_in (4) (mm_n h28 a30) ∧ ge 0 ≤ a30 ∧ ∀ h35 : mm_M, h35 = mm_uI h28 a30 (Int32.toNatClampNeg (4)) ((-1009589776)) → lp_Sha_digest_54  ge (v0) (v1) (v2) (v3) ((((v3) + (8 : Int32)) / (64)) + (1 : Int32)) (0) h35 Z
set_option maxRecDepth 100000 in
set_option maxHeartbeats 4000000 in
theorem vb_Sha_digest_120 {E : mm_E} {Z : mm_M → Prop} (hc : cx E "EpochServer$Sha" c_Sha_digest 7 none rm_Sha_digest) (hq : cq E rm_Sha_digest (pV Z)) (X54 : Nat → Option Nat → Int32 → Int32 → Int32 → Int32 → mm_M → Prop) (hX54 : ∀ (v0 : Nat) (v1 : Option Nat) (v2 : Int32) (v3 : Int32) (v4 : Int32) (v5 : Int32) (h : mm_M), X54 v0 v1 v2 v3 v4 v5 h → V E 7 0 0 h 54 [(0, va_rf (some v0)), (1, va_rf (v1)), (2, .int (v2)), (3, .int (v3)), (4, .int (v4)), (5, .int (v5))] []) (v0 : Nat) (v1 : Option Nat) (v2 : Int32) (v3 : Int32) (v4 : Int32) (v5 : Int32) (h : mm_M) (hw : wq_Sha_digest_120 X54 (mm_ge (eG E)) v0 v1 v2 v3 v4 v5 h Z) : V E 7 0 0 h 120 [(0, va_rf (some v0)), (1, va_rf (v1)), (2, .int (v2)), (3, .int (v3)), (4, .int (v4)), (5, .int (v5))] [] := by
  unfold wq_Sha_digest_120 at hw
  refine V_aload_n hc 0 d_Sha_digest_120 rfl rfl ?_
  obtain ⟨q1, hw⟩ := hw
  refine V_callV (rm' := rm_Sha_mix) (As := []) (rest := []) (n := 0) (cn := 9) hc rfl q1 (sat_Sha_mix (eG E) _ _ _ hw) rfl cv_Sha_27 (gw_of (tw_4 (List.mem_of_getElem? (i := 109) rfl)) rfl) ss_Sha_mix rfl ⟨by decide, by decide⟩ (by decide) (by decide) rfl (by simp [cat_rf, cat_i, cat_l]) d_Sha_digest_121 (fun r0 h2 hw => ?_)
  obtain ⟨rfl, hw⟩ := hw
  refine V_wide (cs' := 0) (sl' := 0) (by decide) (by decide) ?_
  refine V_st (st' := []) rfl ?_
  refine V_iinc (v := v5 + 1) (lv' := [(5, .int (v5 + 1)), (0, va_rf (some v0)), (1, va_rf (v1)), (2, .int (v2)), (3, .int (v3)), (4, .int (v4))]) hc 5 d_Sha_digest_124 rfl rfl (by decide) rfl ?_
  refine V_goto (tgt := 54) hc d_Sha_digest_127 (by decide) ?_
  refine V_sub (lv' := [(0, va_rf (some v0)), (1, va_rf (v1)), (2, .int (v2)), (3, .int (v3)), (4, .int (v4)), (5, .int (v5 + 1))]) [1, 2, 3, 4, 5, 0] rfl ?_
  exact hX54 _ _ _ _ _ _ _ hw
set_option maxRecDepth 100000 in
set_option maxHeartbeats 4000000 in
theorem vb_Sha_digest_64 {E : mm_E} {Z : mm_M → Prop} (hc : cx E "EpochServer$Sha" c_Sha_digest 7 none rm_Sha_digest) (hq : cq E rm_Sha_digest (pV Z)) (X54 : Nat → Option Nat → Int32 → Int32 → Int32 → Int32 → mm_M → Prop) (hX54 : ∀ (v0 : Nat) (v1 : Option Nat) (v2 : Int32) (v3 : Int32) (v4 : Int32) (v5 : Int32) (h : mm_M), X54 v0 v1 v2 v3 v4 v5 h → V E 7 0 0 h 54 [(0, va_rf (some v0)), (1, va_rf (v1)), (2, .int (v2)), (3, .int (v3)), (4, .int (v4)), (5, .int (v5))] []) (X64 : Nat → Option Nat → Int32 → Int32 → Int32 → Int32 → Int32 → mm_M → Prop) (hX64 : ∀ (v0 : Nat) (v1 : Option Nat) (v2 : Int32) (v3 : Int32) (v4 : Int32) (v5 : Int32) (v6 : Int32) (h : mm_M), X64 v0 v1 v2 v3 v4 v5 v6 h → V E 7 0 0 h 64 [(0, va_rf (some v0)), (1, va_rf (v1)), (2, .int (v2)), (3, .int (v3)), (4, .int (v4)), (5, .int (v5)), (6, .int (v6))] []) (v0 : Nat) (v1 : Option Nat) (v2 : Int32) (v3 : Int32) (v4 : Int32) (v5 : Int32) (v6 : Int32) (h : mm_M) (hw : wq_Sha_digest_64 X54 X64 (mm_ge (eG E)) v0 v1 v2 v3 v4 v5 v6 h Z) : V E 7 0 0 h 64 [(0, va_rf (some v0)), (1, va_rf (v1)), (2, .int (v2)), (3, .int (v3)), (4, .int (v4)), (5, .int (v5)), (6, .int (v6))] [] := by
  unfold wq_Sha_digest_64 at hw
  refine V_iload hc 6 d_Sha_digest_64 rfl ?_
  refine V_bipush (v := 16) hc d_Sha_digest_66 (by decide) ?_
  refine V_icmp_ge (tgt := 100) hc d_Sha_digest_68 (by decide) (fun hq1 => ?_) (fun hq1 => ?_)
  · replace hw := hw.1 hq1
    refine V_iload hc 5 d_Sha_digest_100 rfl ?_
    refine V_iload hc 4 d_Sha_digest_102 rfl ?_
    refine V_iconst (v := 1) hc d_Sha_digest_104 (by decide) ?_
    refine V_isub hc d_Sha_digest_105 ?_
    refine V_icmp_ne (tgt := 120) hc d_Sha_digest_106 (by decide) (fun hq1 => ?_) (fun hq1 => ?_)
    · replace hw := hw.1 hq1
      refine V_sub (lv' := [(0, va_rf (some v0)), (1, va_rf (v1)), (2, .int (v2)), (3, .int (v3)), (4, .int (v4)), (5, .int (v5))]) [0, 1, 2, 3, 4, 5] rfl ?_
      exact vb_Sha_digest_120 hc hq X54 hX54 _ _ _ _ _ _ _ hw
    · replace hw := hw.2 hq1
      refine V_aload_n hc 0 d_Sha_digest_109 rfl rfl ?_
      obtain ⟨q1, hw⟩ := hw
      refine V_get (v := va_rf (mm_P h v0 1)) hc gf_Sha_15 rfl q1 rfl d_Sha_digest_110 ?_
      refine V_bipush (v := 15) hc d_Sha_digest_113 (by decide) ?_
      refine V_iload_n hc 3 d_Sha_digest_115 rfl rfl ?_
      refine V_bipush (v := 8) hc d_Sha_digest_116 (by decide) ?_
      refine V_imul hc d_Sha_digest_118 ?_
      obtain ⟨a2, q3, hw⟩ := hw
      obtain ⟨q4, hw⟩ := hw
      obtain ⟨q5, hw⟩ := hw
      obtain ⟨q6, hw⟩ := hw
      obtain ⟨h7, eq_h7⟩ : ∃ x, x = mm_uI h a2 (Int32.toNatClampNeg (15)) ((v3) * (8 : Int32)) := ⟨_, rfl⟩
      replace hw := hw _ eq_h7
      refine V_iast hc q3 q4 q5 q6 d_Sha_digest_119 ?_
      rw [← eq_h7]
      refine V_sub (lv' := [(0, va_rf (some v0)), (1, va_rf (v1)), (2, .int (v2)), (3, .int (v3)), (4, .int (v4)), (5, .int (v5))]) [0, 1, 2, 3, 4, 5] rfl ?_
      exact vb_Sha_digest_120 hc hq X54 hX54 _ _ _ _ _ _ _ hw
  · replace hw := hw.2 hq1
    refine V_aload_n hc 0 d_Sha_digest_71 rfl rfl ?_
    obtain ⟨q8, hw⟩ := hw
    refine V_get (v := va_rf (mm_P h v0 1)) hc gf_Sha_15 rfl q8 rfl d_Sha_digest_72 ?_
    refine V_iload hc 6 d_Sha_digest_75 rfl ?_
    refine V_aload_n hc 1 d_Sha_digest_77 rfl rfl ?_
    refine V_iload_n hc 2 d_Sha_digest_78 rfl rfl ?_
    refine V_iload_n hc 3 d_Sha_digest_79 rfl rfl ?_
    refine V_iload hc 5 d_Sha_digest_80 rfl ?_
    refine V_bipush (v := 64) hc d_Sha_digest_82 (by decide) ?_
    refine V_imul hc d_Sha_digest_84 ?_
    refine V_iload hc 6 d_Sha_digest_85 rfl ?_
    refine V_iconst (v := 4) hc d_Sha_digest_87 (by decide) ?_
    refine V_imul hc d_Sha_digest_88 ?_
    refine V_iadd hc d_Sha_digest_89 ?_
    refine V_callS (rm' := rm_Sha_paddedWord) (As := [va_rf (v1), .int (v2), .int (v3), .int (((v5) * (64 : Int32)) + ((v6) * (4 : Int32)))]) (rest := [.int (v6), va_rf (mm_P h v0 1)]) (n := 4) hc (sat_Sha_paddedWord (eG E) _ _ _ _ _ _ hw) cv_Sha_23 (gw_of (tw_4 (List.mem_of_getElem? (i := 105) rfl)) rfl) rfl ⟨by decide, by decide⟩ (by decide) (by decide) rfl (by simp [cat_rf, cat_i, cat_l]) d_Sha_digest_90 (fun r0 h9 hw => ?_)
    obtain ⟨r10, rfl, hw⟩ := hw
    refine V_wide (cs' := 0) (sl' := 0) (by decide) (by decide) ?_
    refine V_st (st' := [.int (r10), .int (v6), va_rf (mm_P h v0 1)]) rfl ?_
    obtain ⟨a11, q12, hw⟩ := hw
    obtain ⟨q13, hw⟩ := hw
    obtain ⟨q14, hw⟩ := hw
    obtain ⟨q15, hw⟩ := hw
    obtain ⟨h16, eq_h16⟩ : ∃ x, x = mm_uI h9 a11 (Int32.toNatClampNeg (v6)) (r10) := ⟨_, rfl⟩
    replace hw := hw _ eq_h16
    refine V_iast hc q12 q13 q14 q15 d_Sha_digest_93 ?_
    rw [← eq_h16]
    refine V_iinc (v := v6 + 1) (lv' := [(6, .int (v6 + 1)), (0, va_rf (some v0)), (1, va_rf (v1)), (2, .int (v2)), (3, .int (v3)), (4, .int (v4)), (5, .int (v5))]) hc 6 d_Sha_digest_94 rfl rfl (by decide) rfl ?_
    refine V_goto (tgt := 64) hc d_Sha_digest_97 (by decide) ?_
    refine V_sub (lv' := [(0, va_rf (some v0)), (1, va_rf (v1)), (2, .int (v2)), (3, .int (v3)), (4, .int (v4)), (5, .int (v5)), (6, .int (v6 + 1))]) [1, 2, 3, 4, 5, 6, 0] rfl ?_
    exact hX64 _ _ _ _ _ _ _ _ hw
theorem vl_Sha_digest_64 {E : mm_E} {Z : mm_M → Prop} (hc : cx E "EpochServer$Sha" c_Sha_digest 7 none rm_Sha_digest) (hq : cq E rm_Sha_digest (pV Z)) (X54 : Nat → Option Nat → Int32 → Int32 → Int32 → Int32 → mm_M → Prop) (hX54 : ∀ (v0 : Nat) (v1 : Option Nat) (v2 : Int32) (v3 : Int32) (v4 : Int32) (v5 : Int32) (h : mm_M), X54 v0 v1 v2 v3 v4 v5 h → V E 7 0 0 h 54 [(0, va_rf (some v0)), (1, va_rf (v1)), (2, .int (v2)), (3, .int (v3)), (4, .int (v4)), (5, .int (v5))] []) (v0 : Nat) (v1 : Option Nat) (v2 : Int32) (v3 : Int32) (v4 : Int32) (v5 : Int32) (v6 : Int32) (h : mm_M) (hw : lp_Sha_digest_64 X54 (mm_ge (eG E)) v0 v1 v2 v3 v4 v5 v6 h Z) : V E 7 0 0 h 64 [(0, va_rf (some v0)), (1, va_rf (v1)), (2, .int (v2)), (3, .int (v3)), (4, .int (v4)), (5, .int (v5)), (6, .int (v6))] [] :=
  hw (fun v0 v1 v2 v3 v4 v5 v6 h => V E 7 0 0 h 64 [(0, va_rf (some v0)), (1, va_rf (v1)), (2, .int (v2)), (3, .int (v3)), (4, .int (v4)), (5, .int (v5)), (6, .int (v6))] []) (fun v0 v1 v2 v3 v4 v5 v6 h hb => vb_Sha_digest_64 hc hq X54 hX54 _ (fun _ _ _ _ _ _ _ _ q => q) v0 v1 v2 v3 v4 v5 v6 h hb)
set_option maxRecDepth 100000 in
set_option maxHeartbeats 4000000 in
theorem vb_Sha_digest_54 {E : mm_E} {Z : mm_M → Prop} (hc : cx E "EpochServer$Sha" c_Sha_digest 7 none rm_Sha_digest) (hq : cq E rm_Sha_digest (pV Z)) (X54 : Nat → Option Nat → Int32 → Int32 → Int32 → Int32 → mm_M → Prop) (hX54 : ∀ (v0 : Nat) (v1 : Option Nat) (v2 : Int32) (v3 : Int32) (v4 : Int32) (v5 : Int32) (h : mm_M), X54 v0 v1 v2 v3 v4 v5 h → V E 7 0 0 h 54 [(0, va_rf (some v0)), (1, va_rf (v1)), (2, .int (v2)), (3, .int (v3)), (4, .int (v4)), (5, .int (v5))] []) (v0 : Nat) (v1 : Option Nat) (v2 : Int32) (v3 : Int32) (v4 : Int32) (v5 : Int32) (h : mm_M) (hw : wq_Sha_digest_54 X54 (mm_ge (eG E)) v0 v1 v2 v3 v4 v5 h Z) : V E 7 0 0 h 54 [(0, va_rf (some v0)), (1, va_rf (v1)), (2, .int (v2)), (3, .int (v3)), (4, .int (v4)), (5, .int (v5))] [] := by
  unfold wq_Sha_digest_54 at hw
  refine V_iload hc 5 d_Sha_digest_54 rfl ?_
  refine V_iload hc 4 d_Sha_digest_56 rfl ?_
  refine V_icmp_ge (tgt := 130) hc d_Sha_digest_58 (by decide) (fun hq1 => ?_) (fun hq1 => ?_)
  · replace hw := hw.1 hq1
    exact V_vret hc hq ⟨rfl, hw⟩ (by decide) (by decide) d_Sha_digest_130
  · replace hw := hw.2 hq1
    refine V_iconst (v := 0) hc d_Sha_digest_61 (by decide) ?_
    refine V_istore (i := 6) (lv' := [(6, .int (0)), (0, va_rf (some v0)), (1, va_rf (v1)), (2, .int (v2)), (3, .int (v3)), (4, .int (v4)), (5, .int (v5))]) hc d_Sha_digest_62 (by decide) rfl ?_
    refine V_sub (lv' := [(0, va_rf (some v0)), (1, va_rf (v1)), (2, .int (v2)), (3, .int (v3)), (4, .int (v4)), (5, .int (v5)), (6, .int (0))]) [1, 2, 3, 4, 5, 6, 0] rfl ?_
    exact vl_Sha_digest_64 hc hq X54 hX54 _ _ _ _ _ _ _ _ hw
theorem vl_Sha_digest_54 {E : mm_E} {Z : mm_M → Prop} (hc : cx E "EpochServer$Sha" c_Sha_digest 7 none rm_Sha_digest) (hq : cq E rm_Sha_digest (pV Z))  (v0 : Nat) (v1 : Option Nat) (v2 : Int32) (v3 : Int32) (v4 : Int32) (v5 : Int32) (h : mm_M) (hw : lp_Sha_digest_54  (mm_ge (eG E)) v0 v1 v2 v3 v4 v5 h Z) : V E 7 0 0 h 54 [(0, va_rf (some v0)), (1, va_rf (v1)), (2, .int (v2)), (3, .int (v3)), (4, .int (v4)), (5, .int (v5))] [] :=
  hw (fun v0 v1 v2 v3 v4 v5 h => V E 7 0 0 h 54 [(0, va_rf (some v0)), (1, va_rf (v1)), (2, .int (v2)), (3, .int (v3)), (4, .int (v4)), (5, .int (v5))] []) (fun v0 v1 v2 v3 v4 v5 h hb => vb_Sha_digest_54 hc hq  _ (fun _ _ _ _ _ _ _ q => q) v0 v1 v2 v3 v4 v5 h hb)
set_option maxRecDepth 100000 in
set_option maxHeartbeats 4000000 in
theorem vb_Sha_digest_0 {E : mm_E} {Z : mm_M → Prop} (hc : cx E "EpochServer$Sha" c_Sha_digest 7 none rm_Sha_digest) (hq : cq E rm_Sha_digest (pV Z))  (v0 : Nat) (v1 : Option Nat) (v2 : Int32) (v3 : Int32) (h : mm_M) (hw : wq_Sha_digest_0  (mm_ge (eG E)) v0 v1 v2 v3 h Z) : V E 7 0 0 h 0 [(0, va_rf (some v0)), (1, va_rf (v1)), (2, .int (v2)), (3, .int (v3))] [] := by
  unfold wq_Sha_digest_0 at hw
  refine V_aload_n hc 0 d_Sha_digest_0 rfl rfl ?_
  obtain ⟨q1, hw⟩ := hw
  refine V_get (v := va_rf (mm_P h v0 0)) hc gf_Sha_9 rfl q1 rfl d_Sha_digest_1 ?_
  refine V_iconst (v := 0) hc d_Sha_digest_4 (by decide) ?_
  refine V_ldc (v := 1732584193) hc (gw_of (tw_4 (List.mem_of_getElem? (i := 99) rfl)) rfl) d_Sha_digest_5 ?_
  obtain ⟨a2, q3, hw⟩ := hw
  obtain ⟨q4, hw⟩ := hw
  obtain ⟨q5, hw⟩ := hw
  obtain ⟨q6, hw⟩ := hw
  obtain ⟨h7, eq_h7⟩ : ∃ x, x = mm_uI h a2 (Int32.toNatClampNeg (0)) (1732584193) := ⟨_, rfl⟩
  replace hw := hw _ eq_h7
  refine V_iast hc q3 q4 q5 q6 d_Sha_digest_7 ?_
  rw [← eq_h7]
  refine V_aload_n hc 0 d_Sha_digest_8 rfl rfl ?_
  obtain ⟨q8, hw⟩ := hw
  refine V_get (v := va_rf (mm_P h7 v0 0)) hc gf_Sha_9 rfl q8 rfl d_Sha_digest_9 ?_
  refine V_iconst (v := 1) hc d_Sha_digest_12 (by decide) ?_
  refine V_ldc (v := (-271733879)) hc (gw_of (tw_4 (List.mem_of_getElem? (i := 100) rfl)) rfl) d_Sha_digest_13 ?_
  obtain ⟨a9, q10, hw⟩ := hw
  obtain ⟨q11, hw⟩ := hw
  obtain ⟨q12, hw⟩ := hw
  obtain ⟨q13, hw⟩ := hw
  obtain ⟨h14, eq_h14⟩ : ∃ x, x = mm_uI h7 a9 (Int32.toNatClampNeg (1)) ((-271733879)) := ⟨_, rfl⟩
  replace hw := hw _ eq_h14
  refine V_iast hc q10 q11 q12 q13 d_Sha_digest_15 ?_
  rw [← eq_h14]
  refine V_aload_n hc 0 d_Sha_digest_16 rfl rfl ?_
  obtain ⟨q15, hw⟩ := hw
  refine V_get (v := va_rf (mm_P h14 v0 0)) hc gf_Sha_9 rfl q15 rfl d_Sha_digest_17 ?_
  refine V_iconst (v := 2) hc d_Sha_digest_20 (by decide) ?_
  refine V_ldc (v := (-1732584194)) hc (gw_of (tw_4 (List.mem_of_getElem? (i := 101) rfl)) rfl) d_Sha_digest_21 ?_
  obtain ⟨a16, q17, hw⟩ := hw
  obtain ⟨q18, hw⟩ := hw
  obtain ⟨q19, hw⟩ := hw
  obtain ⟨q20, hw⟩ := hw
  obtain ⟨h21, eq_h21⟩ : ∃ x, x = mm_uI h14 a16 (Int32.toNatClampNeg (2)) ((-1732584194)) := ⟨_, rfl⟩
  replace hw := hw _ eq_h21
  refine V_iast hc q17 q18 q19 q20 d_Sha_digest_23 ?_
  rw [← eq_h21]
  refine V_aload_n hc 0 d_Sha_digest_24 rfl rfl ?_
  obtain ⟨q22, hw⟩ := hw
  refine V_get (v := va_rf (mm_P h21 v0 0)) hc gf_Sha_9 rfl q22 rfl d_Sha_digest_25 ?_
  refine V_iconst (v := 3) hc d_Sha_digest_28 (by decide) ?_
  refine V_ldc (v := 271733878) hc (gw_of (tw_4 (List.mem_of_getElem? (i := 102) rfl)) rfl) d_Sha_digest_29 ?_
  obtain ⟨a23, q24, hw⟩ := hw
  obtain ⟨q25, hw⟩ := hw
  obtain ⟨q26, hw⟩ := hw
  obtain ⟨q27, hw⟩ := hw
  obtain ⟨h28, eq_h28⟩ : ∃ x, x = mm_uI h21 a23 (Int32.toNatClampNeg (3)) (271733878) := ⟨_, rfl⟩
  replace hw := hw _ eq_h28
  refine V_iast hc q24 q25 q26 q27 d_Sha_digest_31 ?_
  rw [← eq_h28]
  refine V_aload_n hc 0 d_Sha_digest_32 rfl rfl ?_
  obtain ⟨q29, hw⟩ := hw
  refine V_get (v := va_rf (mm_P h28 v0 0)) hc gf_Sha_9 rfl q29 rfl d_Sha_digest_33 ?_
  refine V_iconst (v := 4) hc d_Sha_digest_36 (by decide) ?_
  refine V_ldc (v := (-1009589776)) hc (gw_of (tw_4 (List.mem_of_getElem? (i := 103) rfl)) rfl) d_Sha_digest_37 ?_
  obtain ⟨a30, q31, hw⟩ := hw
  obtain ⟨q32, hw⟩ := hw
  obtain ⟨q33, hw⟩ := hw
  obtain ⟨q34, hw⟩ := hw
  obtain ⟨h35, eq_h35⟩ : ∃ x, x = mm_uI h28 a30 (Int32.toNatClampNeg (4)) ((-1009589776)) := ⟨_, rfl⟩
  replace hw := hw _ eq_h35
  refine V_iast hc q31 q32 q33 q34 d_Sha_digest_39 ?_
  rw [← eq_h35]
  refine V_iload_n hc 3 d_Sha_digest_40 rfl rfl ?_
  refine V_bipush (v := 8) hc d_Sha_digest_41 (by decide) ?_
  refine V_iadd hc d_Sha_digest_43 ?_
  refine V_bipush (v := 64) hc d_Sha_digest_44 (by decide) ?_
  refine V_idiv hc d_Sha_digest_46 (by decide) ?_
  refine V_iconst (v := 1) hc d_Sha_digest_47 (by decide) ?_
  refine V_iadd hc d_Sha_digest_48 ?_
  refine V_istore (i := 4) (lv' := [(4, .int ((((v3) + (8 : Int32)) / (64)) + (1 : Int32))), (0, va_rf (some v0)), (1, va_rf (v1)), (2, .int (v2)), (3, .int (v3))]) hc d_Sha_digest_49 (by decide) rfl ?_
  refine V_iconst (v := 0) hc d_Sha_digest_51 (by decide) ?_
  refine V_istore (i := 5) (lv' := [(5, .int (0)), (4, .int ((((v3) + (8 : Int32)) / (64)) + (1 : Int32))), (0, va_rf (some v0)), (1, va_rf (v1)), (2, .int (v2)), (3, .int (v3))]) hc d_Sha_digest_52 (by decide) rfl ?_
  refine V_sub (lv' := [(0, va_rf (some v0)), (1, va_rf (v1)), (2, .int (v2)), (3, .int (v3)), (4, .int ((((v3) + (8 : Int32)) / (64)) + (1 : Int32))), (5, .int (0))]) [2, 3, 4, 5, 1, 0] rfl ?_
  exact vl_Sha_digest_54 hc hq  _ _ _ _ _ _ _ hw
def wq_Sha_digest (ge : Nat → Nat) (v0 : Nat) (v1 : Option Nat) (v2 : Int32) (v3 : Int32) (h : mm_M) (Z : mm_M → Prop) : Prop := wq_Sha_digest_0 ge v0 v1 v2 v3 h Z
theorem sat_Sha_digest (G : mm_G) (v0 : Nat) (v1 : Option Nat) (v2 : Int32) (v3 : Int32) (h : mm_M) (Z : mm_M → Prop) (hw : wq_Sha_digest (mm_ge G) v0 v1 v2 v3 h Z) : mm_Met G y_Sha_digest c_Sha_digest 7 none rm_Sha_digest [va_rf (some v0), va_rf (v1), .int (v2), .int (v3)] h (pV Z) := by
  refine mm_intro (own := "EpochServer$Sha") (by decide) rfl (by simp [lg_sl, cat_rf, cat_i, cat_l]) (fun E e1 hc hq hi => ?_)
  subst e1
  have e2 : lv_args 0 [va_rf (some v0), va_rf (v1), .int (v2), .int (v3)] = [(0, va_rf (some v0)), (1, va_rf (v1)), (2, .int (v2)), (3, .int (v3))] := by simp [lv_args, cat_rf, cat_i, cat_l]
  rw [e2]
  refine V_sub (lv' := [(0, va_rf (some v0)), (1, va_rf (v1)), (2, .int (v2)), (3, .int (v3))]) [0, 1, 2, 3] rfl ?_
  exact vb_Sha_digest_0 hc hq v0 v1 v2 v3 h hw
/-! Store.holds([I)Z -/
abbrev rm_Store_holds : Room := { frames := 0, cells := 0, slots := 0, locals := 0 }
def wq_Store_holds_48 (X2 : Nat → Option Nat → Int32 → mm_M → Prop) (ge : Nat → Nat) (v0 : Nat) (v1 : Option Nat) (v2 : Int32) (v3 : Int32) (h : mm_M) (Z : Int32 → mm_M → Prop) : Prop :=
  ((¬ (v3 : Int32) = (5 : Int32) → X2 (v0) (v1) (v2 + 1) h) ∧ ((v3 : Int32) = (5 : Int32) → Z (1) h))
def wq_Store_holds_15 (X2 : Nat → Option Nat → Int32 → mm_M → Prop) (X15 : Nat → Option Nat → Int32 → Int32 → Int32 → mm_M → Prop) (ge : Nat → Nat) (v0 : Nat) (v1 : Option Nat) (v2 : Int32) (v3 : Int32) (v4 : Int32) (h : mm_M) (Z : Int32 → mm_M → Prop) : Prop :=
  (((5 : Int32) ≤ (v4 : Int32) → wq_Store_holds_48 X2 ge (v0) (v1) (v2) (v3) h Z) ∧ (¬ (5 : Int32) ≤ (v4 : Int32) → mm_k h (v0) = kd_Store ∧ ∃ a2, mm_P h v0 2 = some a2 ∧ mm_k h (a2) = ka_I ∧ vp_in (((v2) * (5 : Int32)) + (v4)) (mm_n h a2) ∧ ∃ a6, v1 = some a6 ∧ mm_k h (a6) = ka_I ∧ vp_in (v4) (mm_n h a6) ∧ ((¬ (mm_I h a2 (Int32.toNatClampNeg (((v2) * (5 : Int32)) + (v4))) : Int32) = (mm_I h a6 (Int32.toNatClampNeg (v4)) : Int32) → wq_Store_holds_48 X2 ge (v0) (v1) (v2) (v3) h Z) ∧ ((mm_I h a2 (Int32.toNatClampNeg (((v2) * (5 : Int32)) + (v4))) : Int32) = (mm_I h a6 (Int32.toNatClampNeg (v4)) : Int32) → X15 (v0) (v1) (v2) (v3 + 1) (v4 + 1) h))))
def lp_Store_holds_15 (X2 : Nat → Option Nat → Int32 → mm_M → Prop) (ge : Nat → Nat) (v0 : Nat) (v1 : Option Nat) (v2 : Int32) (v3 : Int32) (v4 : Int32) (h : mm_M) (Z : Int32 → mm_M → Prop) : Prop :=
  ∀ X15 : Nat → Option Nat → Int32 → Int32 → Int32 → mm_M → Prop, (∀ (v0 : Nat) (v1 : Option Nat) (v2 : Int32) (v3 : Int32) (v4 : Int32) (h : mm_M), wq_Store_holds_15 X2 X15 ge v0 v1 v2 v3 v4 h Z → X15 v0 v1 v2 v3 v4 h) → X15 v0 v1 v2 v3 v4 h
def wq_Store_holds_2 (X2 : Nat → Option Nat → Int32 → mm_M → Prop) (ge : Nat → Nat) (v0 : Nat) (v1 : Option Nat) (v2 : Int32) (h : mm_M) (Z : Int32 → mm_M → Prop) : Prop :=
  mm_k h (v0) = kd_Store ∧ (((mm_I h v0 0 : Int32) ≤ (v2 : Int32) → Z (0) h) ∧ (¬ (mm_I h v0 0 : Int32) ≤ (v2 : Int32) → lp_Store_holds_15 X2 ge (v0) (v1) (v2) (0) (0) h Z))
def lp_Store_holds_2  (ge : Nat → Nat) (v0 : Nat) (v1 : Option Nat) (v2 : Int32) (h : mm_M) (Z : Int32 → mm_M → Prop) : Prop :=
  ∀ X2 : Nat → Option Nat → Int32 → mm_M → Prop, (∀ (v0 : Nat) (v1 : Option Nat) (v2 : Int32) (h : mm_M), wq_Store_holds_2 X2 ge v0 v1 v2 h Z → X2 v0 v1 v2 h) → X2 v0 v1 v2 h
def wq_Store_holds_0  (ge : Nat → Nat) (v0 : Nat) (v1 : Option Nat) (h : mm_M) (Z : Int32 → mm_M → Prop) : Prop :=
  lp_Store_holds_2  ge (v0) (v1) (0) h Z
set_option maxRecDepth 100000 in
set_option maxHeartbeats 4000000 in
theorem vb_Store_holds_48 {E : mm_E} {Z : Int32 → mm_M → Prop} (hc : cx E "EpochServer$Store" c_Store_holds 5 (some (.boolean)) rm_Store_holds) (hq : cq E rm_Store_holds (pI Z)) (X2 : Nat → Option Nat → Int32 → mm_M → Prop) (hX2 : ∀ (v0 : Nat) (v1 : Option Nat) (v2 : Int32) (h : mm_M), X2 v0 v1 v2 h → V E 5 0 0 h 2 [(0, va_rf (some v0)), (1, va_rf (v1)), (2, .int (v2))] []) (v0 : Nat) (v1 : Option Nat) (v2 : Int32) (v3 : Int32) (h : mm_M) (hw : wq_Store_holds_48 X2 (mm_ge (eG E)) v0 v1 v2 v3 h Z) : V E 5 0 0 h 48 [(0, va_rf (some v0)), (1, va_rf (v1)), (2, .int (v2)), (3, .int (v3))] [] := by
  unfold wq_Store_holds_48 at hw
  refine V_iload_n hc 3 d_Store_holds_48 rfl rfl ?_
  refine V_iconst (v := 5) hc d_Store_holds_49 (by decide) ?_
  refine V_icmp_ne (tgt := 55) hc d_Store_holds_50 (by decide) (fun hq1 => ?_) (fun hq1 => ?_)
  · replace hw := hw.1 hq1
    refine V_iinc (v := v2 + 1) (lv' := [(2, .int (v2 + 1)), (0, va_rf (some v0)), (1, va_rf (v1)), (3, .int (v3))]) hc 2 d_Store_holds_55 rfl rfl (by decide) (by simp [cat_rf, cat_i, cat_l]) ?_
    refine V_goto (tgt := 2) hc d_Store_holds_58 (by decide) ?_
    refine V_sub (lv' := [(0, va_rf (some v0)), (1, va_rf (v1)), (2, .int (v2 + 1))]) [1, 2, 0] rfl ?_
    exact hX2 _ _ _ _ hw
  · replace hw := hw.2 hq1
    refine V_iconst (v := 1) hc d_Store_holds_53 (by decide) ?_
    exact V_zret hc hq (by decide) ⟨_, rfl, hw⟩ (by decide) (by decide) d_Store_holds_54
set_option maxRecDepth 100000 in
set_option maxHeartbeats 4000000 in
theorem vb_Store_holds_15 {E : mm_E} {Z : Int32 → mm_M → Prop} (hc : cx E "EpochServer$Store" c_Store_holds 5 (some (.boolean)) rm_Store_holds) (hq : cq E rm_Store_holds (pI Z)) (X2 : Nat → Option Nat → Int32 → mm_M → Prop) (hX2 : ∀ (v0 : Nat) (v1 : Option Nat) (v2 : Int32) (h : mm_M), X2 v0 v1 v2 h → V E 5 0 0 h 2 [(0, va_rf (some v0)), (1, va_rf (v1)), (2, .int (v2))] []) (X15 : Nat → Option Nat → Int32 → Int32 → Int32 → mm_M → Prop) (hX15 : ∀ (v0 : Nat) (v1 : Option Nat) (v2 : Int32) (v3 : Int32) (v4 : Int32) (h : mm_M), X15 v0 v1 v2 v3 v4 h → V E 5 0 0 h 15 [(0, va_rf (some v0)), (1, va_rf (v1)), (2, .int (v2)), (3, .int (v3)), (4, .int (v4))] []) (v0 : Nat) (v1 : Option Nat) (v2 : Int32) (v3 : Int32) (v4 : Int32) (h : mm_M) (hw : wq_Store_holds_15 X2 X15 (mm_ge (eG E)) v0 v1 v2 v3 v4 h Z) : V E 5 0 0 h 15 [(0, va_rf (some v0)), (1, va_rf (v1)), (2, .int (v2)), (3, .int (v3)), (4, .int (v4))] [] := by
  unfold wq_Store_holds_15 at hw
  refine V_iload hc 4 d_Store_holds_15 rfl ?_
  refine V_iconst (v := 5) hc d_Store_holds_17 (by decide) ?_
  refine V_icmp_ge (tgt := 48) hc d_Store_holds_18 (by decide) (fun hq1 => ?_) (fun hq1 => ?_)
  · replace hw := hw.1 hq1
    refine V_sub (lv' := [(0, va_rf (some v0)), (1, va_rf (v1)), (2, .int (v2)), (3, .int (v3))]) [0, 1, 2, 3] rfl ?_
    exact vb_Store_holds_48 hc hq X2 hX2 _ _ _ _ _ hw
  · replace hw := hw.2 hq1
    refine V_aload_n hc 0 d_Store_holds_21 rfl rfl ?_
    obtain ⟨q1, hw⟩ := hw
    refine V_get (v := va_rf (mm_P h v0 2)) hc gf_Store_18 rfl q1 rfl d_Store_holds_22 ?_
    refine V_iload_n hc 2 d_Store_holds_25 rfl rfl ?_
    refine V_iconst (v := 5) hc d_Store_holds_26 (by decide) ?_
    refine V_imul hc d_Store_holds_27 ?_
    refine V_iload hc 4 d_Store_holds_28 rfl ?_
    refine V_iadd hc d_Store_holds_30 ?_
    obtain ⟨a2, q3, hw⟩ := hw
    obtain ⟨q4, hw⟩ := hw
    obtain ⟨q5, hw⟩ := hw
    refine V_iald hc q3 q4 q5 d_Store_holds_31 ?_
    refine V_aload_n hc 1 d_Store_holds_32 rfl rfl ?_
    refine V_iload hc 4 d_Store_holds_33 rfl ?_
    obtain ⟨a6, q7, hw⟩ := hw
    obtain ⟨q8, hw⟩ := hw
    obtain ⟨q9, hw⟩ := hw
    refine V_iald hc q7 q8 q9 d_Store_holds_35 ?_
    refine V_icmp_ne (tgt := 48) hc d_Store_holds_36 (by decide) (fun hq1 => ?_) (fun hq1 => ?_)
    · replace hw := hw.1 hq1
      refine V_sub (lv' := [(0, va_rf (some v0)), (1, va_rf (v1)), (2, .int (v2)), (3, .int (v3))]) [0, 1, 2, 3] rfl ?_
      exact vb_Store_holds_48 hc hq X2 hX2 _ _ _ _ _ hw
    · replace hw := hw.2 hq1
      refine V_iinc (v := v3 + 1) (lv' := [(3, .int (v3 + 1)), (0, va_rf (some v0)), (1, va_rf (v1)), (2, .int (v2)), (4, .int (v4))]) hc 3 d_Store_holds_39 rfl rfl (by decide) rfl ?_
      refine V_iinc (v := v4 + 1) (lv' := [(4, .int (v4 + 1)), (3, .int (v3 + 1)), (0, va_rf (some v0)), (1, va_rf (v1)), (2, .int (v2))]) hc 4 d_Store_holds_42 rfl rfl (by decide) rfl ?_
      refine V_goto (tgt := 15) hc d_Store_holds_45 (by decide) ?_
      refine V_sub (lv' := [(0, va_rf (some v0)), (1, va_rf (v1)), (2, .int (v2)), (3, .int (v3 + 1)), (4, .int (v4 + 1))]) [2, 3, 4, 1, 0] rfl ?_
      exact hX15 _ _ _ _ _ _ hw
theorem vl_Store_holds_15 {E : mm_E} {Z : Int32 → mm_M → Prop} (hc : cx E "EpochServer$Store" c_Store_holds 5 (some (.boolean)) rm_Store_holds) (hq : cq E rm_Store_holds (pI Z)) (X2 : Nat → Option Nat → Int32 → mm_M → Prop) (hX2 : ∀ (v0 : Nat) (v1 : Option Nat) (v2 : Int32) (h : mm_M), X2 v0 v1 v2 h → V E 5 0 0 h 2 [(0, va_rf (some v0)), (1, va_rf (v1)), (2, .int (v2))] []) (v0 : Nat) (v1 : Option Nat) (v2 : Int32) (v3 : Int32) (v4 : Int32) (h : mm_M) (hw : lp_Store_holds_15 X2 (mm_ge (eG E)) v0 v1 v2 v3 v4 h Z) : V E 5 0 0 h 15 [(0, va_rf (some v0)), (1, va_rf (v1)), (2, .int (v2)), (3, .int (v3)), (4, .int (v4))] [] :=
  hw (fun v0 v1 v2 v3 v4 h => V E 5 0 0 h 15 [(0, va_rf (some v0)), (1, va_rf (v1)), (2, .int (v2)), (3, .int (v3)), (4, .int (v4))] []) (fun v0 v1 v2 v3 v4 h hb => vb_Store_holds_15 hc hq X2 hX2 _ (fun _ _ _ _ _ _ q => q) v0 v1 v2 v3 v4 h hb)
set_option maxRecDepth 100000 in
set_option maxHeartbeats 4000000 in
theorem vb_Store_holds_2 {E : mm_E} {Z : Int32 → mm_M → Prop} (hc : cx E "EpochServer$Store" c_Store_holds 5 (some (.boolean)) rm_Store_holds) (hq : cq E rm_Store_holds (pI Z)) (X2 : Nat → Option Nat → Int32 → mm_M → Prop) (hX2 : ∀ (v0 : Nat) (v1 : Option Nat) (v2 : Int32) (h : mm_M), X2 v0 v1 v2 h → V E 5 0 0 h 2 [(0, va_rf (some v0)), (1, va_rf (v1)), (2, .int (v2))] []) (v0 : Nat) (v1 : Option Nat) (v2 : Int32) (h : mm_M) (hw : wq_Store_holds_2 X2 (mm_ge (eG E)) v0 v1 v2 h Z) : V E 5 0 0 h 2 [(0, va_rf (some v0)), (1, va_rf (v1)), (2, .int (v2))] [] := by
  unfold wq_Store_holds_2 at hw
  refine V_iload_n hc 2 d_Store_holds_2 rfl rfl ?_
  refine V_aload_n hc 0 d_Store_holds_3 rfl rfl ?_
  obtain ⟨q1, hw⟩ := hw
  refine V_get (v := .int (mm_I h v0 0)) hc gf_Store_9 rfl q1 rfl d_Store_holds_4 ?_
  refine V_icmp_ge (tgt := 61) hc d_Store_holds_7 (by decide) (fun hq1 => ?_) (fun hq1 => ?_)
  · replace hw := hw.1 hq1
    refine V_iconst (v := 0) hc d_Store_holds_61 (by decide) ?_
    exact V_zret hc hq (by decide) ⟨_, rfl, hw⟩ (by decide) (by decide) d_Store_holds_62
  · replace hw := hw.2 hq1
    refine V_iconst (v := 0) hc d_Store_holds_10 (by decide) ?_
    refine V_istore_n (i := 3) (lv' := [(3, .int (0)), (0, va_rf (some v0)), (1, va_rf (v1)), (2, .int (v2))]) hc d_Store_holds_11 rfl (by decide) rfl ?_
    refine V_iconst (v := 0) hc d_Store_holds_12 (by decide) ?_
    refine V_istore (i := 4) (lv' := [(4, .int (0)), (3, .int (0)), (0, va_rf (some v0)), (1, va_rf (v1)), (2, .int (v2))]) hc d_Store_holds_13 (by decide) rfl ?_
    refine V_sub (lv' := [(0, va_rf (some v0)), (1, va_rf (v1)), (2, .int (v2)), (3, .int (0)), (4, .int (0))]) [2, 3, 4, 1, 0] rfl ?_
    exact vl_Store_holds_15 hc hq X2 hX2 _ _ _ _ _ _ hw
theorem vl_Store_holds_2 {E : mm_E} {Z : Int32 → mm_M → Prop} (hc : cx E "EpochServer$Store" c_Store_holds 5 (some (.boolean)) rm_Store_holds) (hq : cq E rm_Store_holds (pI Z))  (v0 : Nat) (v1 : Option Nat) (v2 : Int32) (h : mm_M) (hw : lp_Store_holds_2  (mm_ge (eG E)) v0 v1 v2 h Z) : V E 5 0 0 h 2 [(0, va_rf (some v0)), (1, va_rf (v1)), (2, .int (v2))] [] :=
  hw (fun v0 v1 v2 h => V E 5 0 0 h 2 [(0, va_rf (some v0)), (1, va_rf (v1)), (2, .int (v2))] []) (fun v0 v1 v2 h hb => vb_Store_holds_2 hc hq  _ (fun _ _ _ _ q => q) v0 v1 v2 h hb)
set_option maxRecDepth 100000 in
set_option maxHeartbeats 4000000 in
theorem vb_Store_holds_0 {E : mm_E} {Z : Int32 → mm_M → Prop} (hc : cx E "EpochServer$Store" c_Store_holds 5 (some (.boolean)) rm_Store_holds) (hq : cq E rm_Store_holds (pI Z))  (v0 : Nat) (v1 : Option Nat) (h : mm_M) (hw : wq_Store_holds_0  (mm_ge (eG E)) v0 v1 h Z) : V E 5 0 0 h 0 [(0, va_rf (some v0)), (1, va_rf (v1))] [] := by
  unfold wq_Store_holds_0 at hw
  refine V_iconst (v := 0) hc d_Store_holds_0 (by decide) ?_
  refine V_istore_n (i := 2) (lv' := [(2, .int (0)), (0, va_rf (some v0)), (1, va_rf (v1))]) hc d_Store_holds_1 rfl (by decide) (by simp [cat_rf, cat_i, cat_l]) ?_
  refine V_sub (lv' := [(0, va_rf (some v0)), (1, va_rf (v1)), (2, .int (0))]) [1, 2, 0] rfl ?_
  exact vl_Store_holds_2 hc hq  _ _ _ _ hw
def wq_Store_holds (ge : Nat → Nat) (v0 : Nat) (v1 : Option Nat) (h : mm_M) (Z : Int32 → mm_M → Prop) : Prop := wq_Store_holds_0 ge v0 v1 h Z
theorem sat_Store_holds (G : mm_G) (v0 : Nat) (v1 : Option Nat) (h : mm_M) (Z : Int32 → mm_M → Prop) (hw : wq_Store_holds (mm_ge G) v0 v1 h Z) : mm_Met G y_Store_holds c_Store_holds 5 (some (.boolean)) rm_Store_holds [va_rf (some v0), va_rf (v1)] h (pI Z) := by
  refine mm_intro (own := "EpochServer$Store") (by decide) rfl (by simp [lg_sl, cat_rf, cat_i, cat_l]) (fun E e1 hc hq hi => ?_)
  subst e1
  have e2 : lv_args 0 [va_rf (some v0), va_rf (v1)] = [(0, va_rf (some v0)), (1, va_rf (v1))] := by simp [lv_args, cat_rf, cat_i, cat_l]
  rw [e2]
  refine V_sub (lv' := [(0, va_rf (some v0)), (1, va_rf (v1))]) [0, 1] rfl ?_
  exact vb_Store_holds_0 hc hq v0 v1 h hw
/-! Store.put([II)Z -/
abbrev rm_Store_put : Room := { frames := 1, cells := 0, slots := 0, locals := 24 }
def wq_Store_put_24 (X24 : Nat → Option Nat → Int32 → Int32 → mm_M → Prop) (ge : Nat → Nat) (v0 : Nat) (v1 : Option Nat) (v2 : Int32) (v3 : Int32) (h : mm_M) (Z : Int32 → mm_M → Prop) : Prop :=
  (((5 : Int32) ≤ (v3 : Int32) → mm_k h (v0) = kd_Store ∧ ge 0 ≤ v0 ∧ ∀ h3 : mm_M, h3 = mm_uI h (v0) 0 ((mm_I h v0 0) + (1 : Int32)) → mm_k h3 (v0) = kd_Store ∧ ge 0 ≤ v0 ∧ ∀ h6 : mm_M, h6 = mm_uI h3 (v0) 1 ((mm_I h3 v0 1) + (v2)) → Z (1) h6) ∧ (¬ (5 : Int32) ≤ (v3 : Int32) → mm_k h (v0) = kd_Store ∧ ∃ a8, v1 = some a8 ∧ mm_k h (a8) = ka_I ∧ vp_in (v3) (mm_n h a8) ∧ ∃ a12, mm_P h v0 2 = some a12 ∧ mm_k h (a12) = ka_I ∧ vp_in (((mm_I h v0 0) * (5 : Int32)) + (v3)) (mm_n h a12) ∧ ge 0 ≤ a12 ∧ ∀ h17 : mm_M, h17 = mm_uI h a12 (Int32.toNatClampNeg (((mm_I h v0 0) * (5 : Int32)) + (v3))) (mm_I h a8 (Int32.toNatClampNeg (v3))) → X24 (v0) (v1) (v2) (v3 + 1) h17))
def lp_Store_put_24  (ge : Nat → Nat) (v0 : Nat) (v1 : Option Nat) (v2 : Int32) (v3 : Int32) (h : mm_M) (Z : Int32 → mm_M → Prop) : Prop :=
  ∀ X24 : Nat → Option Nat → Int32 → Int32 → mm_M → Prop, (∀ (v0 : Nat) (v1 : Option Nat) (v2 : Int32) (v3 : Int32) (h : mm_M), wq_Store_put_24 X24 ge v0 v1 v2 v3 h Z → X24 v0 v1 v2 v3 h) → X24 v0 v1 v2 v3 h
def wq_Store_put_0  (ge : Nat → Nat) (v0 : Nat) (v1 : Option Nat) (v2 : Int32) (h : mm_M) (Z : Int32 → mm_M → Prop) : Prop :=
  mm_k h (v0) = kd_Store ∧ wq_Store_holds ge (v0) (v1) h (fun (r3 : Int32) (h2 : mm_M) => (((r3) = 0 → mm_k h2 (v0) = kd_Store ∧ (((mm_I h2 v0 0 : Int32) < (600 : Int32) → lp_Store_put_24  ge (v0) (v1) (v2) (0) h2 Z) ∧ (¬ (mm_I h2 v0 0 : Int32) < (600 : Int32) → Z (0) h2))) ∧ (¬ (r3) = 0 → Z (1) h2)))
set_option maxRecDepth 100000 in
set_option maxHeartbeats 4000000 in
theorem vb_Store_put_24 {E : mm_E} {Z : Int32 → mm_M → Prop} (hc : cx E "EpochServer$Store" c_Store_put 4 (some (.boolean)) rm_Store_put) (hq : cq E rm_Store_put (pI Z)) (X24 : Nat → Option Nat → Int32 → Int32 → mm_M → Prop) (hX24 : ∀ (v0 : Nat) (v1 : Option Nat) (v2 : Int32) (v3 : Int32) (h : mm_M), X24 v0 v1 v2 v3 h → V E 4 0 0 h 24 [(0, va_rf (some v0)), (1, va_rf (v1)), (2, .int (v2)), (3, .int (v3))] []) (v0 : Nat) (v1 : Option Nat) (v2 : Int32) (v3 : Int32) (h : mm_M) (hw : wq_Store_put_24 X24 (mm_ge (eG E)) v0 v1 v2 v3 h Z) : V E 4 0 0 h 24 [(0, va_rf (some v0)), (1, va_rf (v1)), (2, .int (v2)), (3, .int (v3))] [] := by
  unfold wq_Store_put_24 at hw
  refine V_iload_n hc 3 d_Store_put_24 rfl rfl ?_
  refine V_iconst (v := 5) hc d_Store_put_25 (by decide) ?_
  refine V_icmp_ge (tgt := 51) hc d_Store_put_26 (by decide) (fun hq1 => ?_) (fun hq1 => ?_)
  · replace hw := hw.1 hq1
    refine V_aload_n hc 0 d_Store_put_51 rfl rfl ?_
    refine V_dup hc d_Store_put_52 (cat_rf _) ?_
    obtain ⟨q1, hw⟩ := hw
    refine V_get (v := .int (mm_I h v0 0)) hc gf_Store_9 rfl q1 rfl d_Store_put_53 ?_
    refine V_iconst (v := 1) hc d_Store_put_56 (by decide) ?_
    refine V_iadd hc d_Store_put_57 ?_
    obtain ⟨q2, hw⟩ := hw
    obtain ⟨h3, eq_h3⟩ : ∃ x, x = mm_uI h (v0) 0 ((mm_I h v0 0) + (1 : Int32)) := ⟨_, rfl⟩
    replace hw := hw _ eq_h3
    refine V_put (h' := h3) hc gf_Store_9 rfl rfl q1 q2 (by rw [eq_h3]; exact mm_Up_I _ _ _ _) (by rw [eq_h3]; exact up_vI rfl) (vp_nar_int _) rfl d_Store_put_58 ?_
    refine V_aload_n hc 0 d_Store_put_61 rfl rfl ?_
    refine V_dup hc d_Store_put_62 (cat_rf _) ?_
    obtain ⟨q4, hw⟩ := hw
    refine V_get (v := .int (mm_I h3 v0 1)) hc gf_Store_15 rfl q4 rfl d_Store_put_63 ?_
    refine V_iload_n hc 2 d_Store_put_66 rfl rfl ?_
    refine V_iadd hc d_Store_put_67 ?_
    obtain ⟨q5, hw⟩ := hw
    obtain ⟨h6, eq_h6⟩ : ∃ x, x = mm_uI h3 (v0) 1 ((mm_I h3 v0 1) + (v2)) := ⟨_, rfl⟩
    replace hw := hw _ eq_h6
    refine V_put (h' := h6) hc gf_Store_15 rfl rfl q4 q5 (by rw [eq_h6]; exact mm_Up_I _ _ _ _) (by rw [eq_h6]; exact up_vI rfl) (vp_nar_int _) rfl d_Store_put_68 ?_
    refine V_iconst (v := 1) hc d_Store_put_71 (by decide) ?_
    exact V_zret hc hq (by decide) ⟨_, rfl, hw⟩ (by decide) (by decide) d_Store_put_72
  · replace hw := hw.2 hq1
    refine V_aload_n hc 0 d_Store_put_29 rfl rfl ?_
    obtain ⟨q7, hw⟩ := hw
    refine V_get (v := va_rf (mm_P h v0 2)) hc gf_Store_18 rfl q7 rfl d_Store_put_30 ?_
    refine V_aload_n hc 0 d_Store_put_33 rfl rfl ?_
    refine V_get (v := .int (mm_I h v0 0)) hc gf_Store_9 rfl q7 rfl d_Store_put_34 ?_
    refine V_iconst (v := 5) hc d_Store_put_37 (by decide) ?_
    refine V_imul hc d_Store_put_38 ?_
    refine V_iload_n hc 3 d_Store_put_39 rfl rfl ?_
    refine V_iadd hc d_Store_put_40 ?_
    refine V_aload_n hc 1 d_Store_put_41 rfl rfl ?_
    refine V_iload_n hc 3 d_Store_put_42 rfl rfl ?_
    obtain ⟨a8, q9, hw⟩ := hw
    obtain ⟨q10, hw⟩ := hw
    obtain ⟨q11, hw⟩ := hw
    refine V_iald hc q9 q10 q11 d_Store_put_43 ?_
    obtain ⟨a12, q13, hw⟩ := hw
    obtain ⟨q14, hw⟩ := hw
    obtain ⟨q15, hw⟩ := hw
    obtain ⟨q16, hw⟩ := hw
    obtain ⟨h17, eq_h17⟩ : ∃ x, x = mm_uI h a12 (Int32.toNatClampNeg (((mm_I h v0 0) * (5 : Int32)) + (v3))) (mm_I h a8 (Int32.toNatClampNeg (v3))) := ⟨_, rfl⟩
    replace hw := hw _ eq_h17
    refine V_iast hc q13 q14 q15 q16 d_Store_put_44 ?_
    rw [← eq_h17]
    refine V_iinc (v := v3 + 1) (lv' := [(3, .int (v3 + 1)), (0, va_rf (some v0)), (1, va_rf (v1)), (2, .int (v2))]) hc 3 d_Store_put_45 rfl rfl (by decide) rfl ?_
    refine V_goto (tgt := 24) hc d_Store_put_48 (by decide) ?_
    refine V_sub (lv' := [(0, va_rf (some v0)), (1, va_rf (v1)), (2, .int (v2)), (3, .int (v3 + 1))]) [1, 2, 3, 0] rfl ?_
    exact hX24 _ _ _ _ _ hw
theorem vl_Store_put_24 {E : mm_E} {Z : Int32 → mm_M → Prop} (hc : cx E "EpochServer$Store" c_Store_put 4 (some (.boolean)) rm_Store_put) (hq : cq E rm_Store_put (pI Z))  (v0 : Nat) (v1 : Option Nat) (v2 : Int32) (v3 : Int32) (h : mm_M) (hw : lp_Store_put_24  (mm_ge (eG E)) v0 v1 v2 v3 h Z) : V E 4 0 0 h 24 [(0, va_rf (some v0)), (1, va_rf (v1)), (2, .int (v2)), (3, .int (v3))] [] :=
  hw (fun v0 v1 v2 v3 h => V E 4 0 0 h 24 [(0, va_rf (some v0)), (1, va_rf (v1)), (2, .int (v2)), (3, .int (v3))] []) (fun v0 v1 v2 v3 h hb => vb_Store_put_24 hc hq  _ (fun _ _ _ _ _ q => q) v0 v1 v2 v3 h hb)
set_option maxRecDepth 100000 in
set_option maxHeartbeats 4000000 in
theorem vb_Store_put_0 {E : mm_E} {Z : Int32 → mm_M → Prop} (hc : cx E "EpochServer$Store" c_Store_put 4 (some (.boolean)) rm_Store_put) (hq : cq E rm_Store_put (pI Z))  (v0 : Nat) (v1 : Option Nat) (v2 : Int32) (h : mm_M) (hw : wq_Store_put_0  (mm_ge (eG E)) v0 v1 v2 h Z) : V E 4 0 0 h 0 [(0, va_rf (some v0)), (1, va_rf (v1)), (2, .int (v2))] [] := by
  unfold wq_Store_put_0 at hw
  refine V_aload_n hc 0 d_Store_put_0 rfl rfl ?_
  refine V_aload_n hc 1 d_Store_put_1 rfl rfl ?_
  obtain ⟨q1, hw⟩ := hw
  refine V_callV (rm' := rm_Store_holds) (As := [va_rf (v1)]) (rest := []) (n := 1) (cn := 11) hc rfl q1 (sat_Store_holds (eG E) _ _ _ _ hw) rfl cv_Store_22 (gw_of (tw_4 (List.mem_of_getElem? (i := 124) rfl)) rfl) ss_Store_holds rfl ⟨by decide, by decide⟩ (by decide) (by decide) rfl (by simp [cat_rf, cat_i, cat_l]) d_Store_put_2 (fun r0 h2 hw => ?_)
  obtain ⟨r3, rfl, hw⟩ := hw
  refine V_wide (cs' := 0) (sl' := 0) (by decide) (by decide) ?_
  refine V_st (st' := [.int (r3)]) rfl ?_
  refine V_if_eq (tgt := 10) hc d_Store_put_5 (by decide) (fun hq1 => ?_) (fun hq1 => ?_)
  · replace hw := hw.1 hq1
    refine V_aload_n hc 0 d_Store_put_10 rfl rfl ?_
    obtain ⟨q4, hw⟩ := hw
    refine V_get (v := .int (mm_I h2 v0 0)) hc gf_Store_9 rfl q4 rfl d_Store_put_11 ?_
    refine V_sipush (v := 600) hc d_Store_put_14 (by decide) ?_
    refine V_icmp_lt (tgt := 22) hc d_Store_put_17 (by decide) (fun hq1 => ?_) (fun hq1 => ?_)
    · replace hw := hw.1 hq1
      refine V_iconst (v := 0) hc d_Store_put_22 (by decide) ?_
      refine V_istore_n (i := 3) (lv' := [(3, .int (0)), (0, va_rf (some v0)), (1, va_rf (v1)), (2, .int (v2))]) hc d_Store_put_23 rfl (by decide) rfl ?_
      refine V_sub (lv' := [(0, va_rf (some v0)), (1, va_rf (v1)), (2, .int (v2)), (3, .int (0))]) [1, 2, 3, 0] rfl ?_
      exact vl_Store_put_24 hc hq  _ _ _ _ _ hw
    · replace hw := hw.2 hq1
      refine V_iconst (v := 0) hc d_Store_put_20 (by decide) ?_
      exact V_zret hc hq (by decide) ⟨_, rfl, hw⟩ (by decide) (by decide) d_Store_put_21
  · replace hw := hw.2 hq1
    refine V_iconst (v := 1) hc d_Store_put_8 (by decide) ?_
    exact V_zret hc hq (by decide) ⟨_, rfl, hw⟩ (by decide) (by decide) d_Store_put_9
def wq_Store_put (ge : Nat → Nat) (v0 : Nat) (v1 : Option Nat) (v2 : Int32) (h : mm_M) (Z : Int32 → mm_M → Prop) : Prop := wq_Store_put_0 ge v0 v1 v2 h Z
theorem sat_Store_put (G : mm_G) (v0 : Nat) (v1 : Option Nat) (v2 : Int32) (h : mm_M) (Z : Int32 → mm_M → Prop) (hw : wq_Store_put (mm_ge G) v0 v1 v2 h Z) : mm_Met G y_Store_put c_Store_put 4 (some (.boolean)) rm_Store_put [va_rf (some v0), va_rf (v1), .int (v2)] h (pI Z) := by
  refine mm_intro (own := "EpochServer$Store") (by decide) rfl (by simp [lg_sl, cat_rf, cat_i, cat_l]) (fun E e1 hc hq hi => ?_)
  subst e1
  have e2 : lv_args 0 [va_rf (some v0), va_rf (v1), .int (v2)] = [(0, va_rf (some v0)), (1, va_rf (v1)), (2, .int (v2))] := by simp [lv_args, cat_rf, cat_i, cat_l]
  rw [e2]
  refine V_sub (lv' := [(0, va_rf (some v0)), (1, va_rf (v1)), (2, .int (v2))]) [0, 1, 2] rfl ?_
  exact vb_Store_put_0 hc hq v0 v1 v2 h hw
/-! Archiver.offer([BII)V -/
abbrev rm_Archiver_offer : Room := { frames := 3, cells := 0, slots := 0, locals := 76 }
def wq_Archiver_offer_40  (ge : Nat → Nat)  (h : mm_M) (Z : mm_M → Prop) : Prop :=
  Z h
def wq_Archiver_offer_0  (ge : Nat → Nat) (v0 : Nat) (v1 : Option Nat) (v2 : Int32) (v3 : Int32) (h : mm_M) (Z : mm_M → Prop) : Prop :=
  mm_k h (v0) = kd_Archiver ∧ ∃ a2, mm_P h v0 1 = some a2 ∧ mm_k h (a2) = kd_Sha ∧ wq_Sha_digest ge (a2) (v1) (v2) (v3) h (fun h5 : mm_M => mm_k h5 (v0) = kd_Archiver ∧ (((mm_I h5 v0 5) = 0 → wq_Archiver_offer_40  ge h5 Z) ∧ (¬ (mm_I h5 v0 5) = 0 → ∃ a8, mm_P h5 v0 1 = some a8 ∧ mm_k h5 (a8) = kd_Sha ∧ ∃ a11, mm_P h5 v0 0 = some a11 ∧ mm_k h5 (a11) = kd_Store ∧ wq_Store_put ge (a11) (mm_P h5 a8 0) (v3) h5 (fun (r15 : Int32) (h14 : mm_M) => ((¬ (r15) = 0 → wq_Archiver_offer_40  ge h14 Z) ∧ ((r15) = 0 → mm_k h14 (v0) = kd_Archiver ∧ ge 0 ≤ v0 ∧ ∀ h18 : mm_M, h18 = mm_uI h14 (v0) 6 (1) → wq_Archiver_offer_40  ge h18 Z))))))
set_option maxRecDepth 100000 in
set_option maxHeartbeats 4000000 in
theorem vb_Archiver_offer_40 {E : mm_E} {Z : mm_M → Prop} (hc : cx E "EpochServer$Archiver" c_Archiver_offer 4 none rm_Archiver_offer) (hq : cq E rm_Archiver_offer (pV Z))   (h : mm_M) (hw : wq_Archiver_offer_40  (mm_ge (eG E))  h Z) : V E 4 0 0 h 40 [] [] := by
  unfold wq_Archiver_offer_40 at hw
  exact V_vret hc hq ⟨rfl, hw⟩ (by decide) (by decide) d_Archiver_offer_40
set_option maxRecDepth 100000 in
set_option maxHeartbeats 4000000 in
theorem vb_Archiver_offer_0 {E : mm_E} {Z : mm_M → Prop} (hc : cx E "EpochServer$Archiver" c_Archiver_offer 4 none rm_Archiver_offer) (hq : cq E rm_Archiver_offer (pV Z))  (v0 : Nat) (v1 : Option Nat) (v2 : Int32) (v3 : Int32) (h : mm_M) (hw : wq_Archiver_offer_0  (mm_ge (eG E)) v0 v1 v2 v3 h Z) : V E 4 0 0 h 0 [(0, va_rf (some v0)), (1, va_rf (v1)), (2, .int (v2)), (3, .int (v3))] [] := by
  unfold wq_Archiver_offer_0 at hw
  refine V_aload_n hc 0 d_Archiver_offer_0 rfl rfl ?_
  obtain ⟨q1, hw⟩ := hw
  refine V_get (v := va_rf (mm_P h v0 1)) hc gf_Archiver_21 rfl q1 rfl d_Archiver_offer_1 ?_
  refine V_aload_n hc 1 d_Archiver_offer_4 rfl rfl ?_
  refine V_iload_n hc 2 d_Archiver_offer_5 rfl rfl ?_
  refine V_iload_n hc 3 d_Archiver_offer_6 rfl rfl ?_
  obtain ⟨a2, q3, hw⟩ := hw
  obtain ⟨q4, hw⟩ := hw
  refine V_callV (rm' := rm_Sha_digest) (As := [va_rf (v1), .int (v2), .int (v3)]) (rest := []) (n := 3) (cn := 9) hc q3 q4 (sat_Sha_digest (eG E) _ _ _ _ _ _ hw) rfl cv_Archiver_124 (gw_of (tw_4 (List.mem_of_getElem? (i := 96) rfl)) rfl) ss_Sha_digest rfl ⟨by decide, by decide⟩ (by decide) (by decide) rfl (by simp [cat_rf, cat_i, cat_l]) d_Archiver_offer_7 (fun r0 h5 hw => ?_)
  obtain ⟨rfl, hw⟩ := hw
  refine V_wide (cs' := 0) (sl' := 0) (by decide) (by decide) ?_
  refine V_st (st' := []) rfl ?_
  refine V_aload_n hc 0 d_Archiver_offer_10 rfl rfl ?_
  obtain ⟨q7, hw⟩ := hw
  refine V_get (v := .int (mm_I h5 v0 5)) hc gf_Archiver_41 rfl q7 rfl d_Archiver_offer_11 ?_
  refine V_if_eq (tgt := 40) hc d_Archiver_offer_14 (by decide) (fun hq1 => ?_) (fun hq1 => ?_)
  · replace hw := hw.1 hq1
    refine V_sub (lv' := []) [] rfl ?_
    exact vb_Archiver_offer_40 hc hq  _ hw
  · replace hw := hw.2 hq1
    refine V_aload_n hc 0 d_Archiver_offer_17 rfl rfl ?_
    refine V_get (v := va_rf (mm_P h5 v0 0)) hc gf_Archiver_12 rfl q7 rfl d_Archiver_offer_18 ?_
    refine V_aload_n hc 0 d_Archiver_offer_21 rfl rfl ?_
    refine V_get (v := va_rf (mm_P h5 v0 1)) hc gf_Archiver_21 rfl q7 rfl d_Archiver_offer_22 ?_
    obtain ⟨a8, q9, hw⟩ := hw
    obtain ⟨q10, hw⟩ := hw
    refine V_get (v := va_rf (mm_P h5 a8 0)) hc gf_Archiver_104 q9 q10 rfl d_Archiver_offer_25 ?_
    refine V_iload_n hc 3 d_Archiver_offer_28 rfl rfl ?_
    obtain ⟨a11, q12, hw⟩ := hw
    obtain ⟨q13, hw⟩ := hw
    refine V_callV (rm' := rm_Store_put) (As := [va_rf (mm_P h5 a8 0), .int (v3)]) (rest := []) (n := 2) (cn := 11) hc q12 q13 (sat_Store_put (eG E) _ _ _ _ _ hw) rfl cv_Archiver_127 (gw_of (tw_4 (List.mem_of_getElem? (i := 119) rfl)) rfl) ss_Store_put rfl ⟨by decide, by decide⟩ (by decide) (by decide) rfl (by simp [cat_rf, cat_i, cat_l]) d_Archiver_offer_29 (fun r0 h14 hw => ?_)
    obtain ⟨r15, rfl, hw⟩ := hw
    refine V_wide (cs' := 0) (sl' := 0) (by decide) (by decide) ?_
    refine V_st (st' := [.int (r15)]) rfl ?_
    refine V_if_ne (tgt := 40) hc d_Archiver_offer_32 (by decide) (fun hq1 => ?_) (fun hq1 => ?_)
    · replace hw := hw.1 hq1
      refine V_sub (lv' := []) [] rfl ?_
      exact vb_Archiver_offer_40 hc hq  _ hw
    · replace hw := hw.2 hq1
      refine V_aload_n hc 0 d_Archiver_offer_35 rfl rfl ?_
      refine V_iconst (v := 1) hc d_Archiver_offer_36 (by decide) ?_
      obtain ⟨q16, hw⟩ := hw
      obtain ⟨q17, hw⟩ := hw
      obtain ⟨h18, eq_h18⟩ : ∃ x, x = mm_uI h14 (v0) 6 (1) := ⟨_, rfl⟩
      replace hw := hw _ eq_h18
      refine V_put (h' := h18) hc gf_Archiver_45 rfl rfl q16 q17 (by rw [eq_h18]; exact mm_Up_I _ _ _ _) (by rw [eq_h18]; exact up_vI rfl) (by decide) (by decide) d_Archiver_offer_37 ?_
      refine V_sub (lv' := []) [] rfl ?_
      exact vb_Archiver_offer_40 hc hq  _ hw
def wq_Archiver_offer (ge : Nat → Nat) (v0 : Nat) (v1 : Option Nat) (v2 : Int32) (v3 : Int32) (h : mm_M) (Z : mm_M → Prop) : Prop := wq_Archiver_offer_0 ge v0 v1 v2 v3 h Z
theorem sat_Archiver_offer (G : mm_G) (v0 : Nat) (v1 : Option Nat) (v2 : Int32) (v3 : Int32) (h : mm_M) (Z : mm_M → Prop) (hw : wq_Archiver_offer (mm_ge G) v0 v1 v2 v3 h Z) : mm_Met G y_Archiver_offer c_Archiver_offer 4 none rm_Archiver_offer [va_rf (some v0), va_rf (v1), .int (v2), .int (v3)] h (pV Z) := by
  refine mm_intro (own := "EpochServer$Archiver") (by decide) rfl (by simp [lg_sl, cat_rf, cat_i, cat_l]) (fun E e1 hc hq hi => ?_)
  subst e1
  have e2 : lv_args 0 [va_rf (some v0), va_rf (v1), .int (v2), .int (v3)] = [(0, va_rf (some v0)), (1, va_rf (v1)), (2, .int (v2)), (3, .int (v3))] := by simp [lv_args, cat_rf, cat_i, cat_l]
  rw [e2]
  refine V_sub (lv' := [(0, va_rf (some v0)), (1, va_rf (v1)), (2, .int (v2)), (3, .int (v3))]) [0, 1, 2, 3] rfl ?_
  exact vb_Archiver_offer_0 hc hq v0 v1 v2 v3 h hw
/-! Archiver.fillFromData([B)V -/
abbrev rm_Archiver_fillFromData : Room := { frames := 4, cells := 0, slots := 0, locals := 99 }
def wq_Archiver_fillFromData_25 (X2 : Nat → Option Nat → Int32 → mm_M → Prop) (X25 : Nat → Option Nat → Int32 → Int32 → mm_M → Prop) (ge : Nat → Nat) (v0 : Nat) (v1 : Option Nat) (v2 : Int32) (v3 : Int32) (h : mm_M) (Z : mm_M → Prop) : Prop :=
  (((5 : Int32) ≤ (v3 : Int32) → X2 (v0) (v1) (v2 + 64) h) ∧ (¬ (5 : Int32) ≤ (v3 : Int32) → mm_k h (v0) = kd_Archiver ∧ ∃ a2, mm_P h v0 1 = some a2 ∧ mm_k h (a2) = kd_Sha ∧ ∃ a5, mm_P h a2 0 = some a5 ∧ mm_k h (a5) = ka_I ∧ vp_in (v3) (mm_n h a5) ∧ ∃ a9, mm_P h v0 2 = some a9 ∧ mm_k h (a9) = kd_Bytes ∧ wq_Bytes_putHighestFirst ge (a9) (mm_I h a5 (Int32.toNatClampNeg (v3))) h (fun h12 : mm_M => X25 (v0) (v1) (v2) (v3 + 1) h12)))
def lp_Archiver_fillFromData_25 (X2 : Nat → Option Nat → Int32 → mm_M → Prop) (ge : Nat → Nat) (v0 : Nat) (v1 : Option Nat) (v2 : Int32) (v3 : Int32) (h : mm_M) (Z : mm_M → Prop) : Prop :=
  ∀ X25 : Nat → Option Nat → Int32 → Int32 → mm_M → Prop, (∀ (v0 : Nat) (v1 : Option Nat) (v2 : Int32) (v3 : Int32) (h : mm_M), wq_Archiver_fillFromData_25 X2 X25 ge v0 v1 v2 v3 h Z → X25 v0 v1 v2 v3 h) → X25 v0 v1 v2 v3 h
def wq_Archiver_fillFromData_2 (X2 : Nat → Option Nat → Int32 → mm_M → Prop) (ge : Nat → Nat) (v0 : Nat) (v1 : Option Nat) (v2 : Int32) (h : mm_M) (Z : mm_M → Prop) : Prop :=
  ∃ a1, v1 = some a1 ∧ mm_k h (a1) = ka_B ∧ (((Nat.toInt32 (mm_n h a1) : Int32) ≤ (v2 : Int32) → Z h) ∧ (¬ (Nat.toInt32 (mm_n h a1) : Int32) ≤ (v2 : Int32) → mm_k h (v0) = kd_Archiver ∧ wq_Archiver_offer ge (v0) (v1) (v2) (if ((Nat.toInt32 (mm_n h a1)) - (v2) : Int32) < (64) then ((Nat.toInt32 (mm_n h a1)) - (v2)) else (64)) h (fun h5 : mm_M => lp_Archiver_fillFromData_25 X2 ge (v0) (v1) (v2) (0) h5 Z)))
def lp_Archiver_fillFromData_2  (ge : Nat → Nat) (v0 : Nat) (v1 : Option Nat) (v2 : Int32) (h : mm_M) (Z : mm_M → Prop) : Prop :=
  ∀ X2 : Nat → Option Nat → Int32 → mm_M → Prop, (∀ (v0 : Nat) (v1 : Option Nat) (v2 : Int32) (h : mm_M), wq_Archiver_fillFromData_2 X2 ge v0 v1 v2 h Z → X2 v0 v1 v2 h) → X2 v0 v1 v2 h
def wq_Archiver_fillFromData_0  (ge : Nat → Nat) (v0 : Nat) (v1 : Option Nat) (h : mm_M) (Z : mm_M → Prop) : Prop :=
  lp_Archiver_fillFromData_2  ge (v0) (v1) (0) h Z
set_option maxRecDepth 100000 in
set_option maxHeartbeats 4000000 in
theorem vb_Archiver_fillFromData_25 {E : mm_E} {Z : mm_M → Prop} (hc : cx E "EpochServer$Archiver" c_Archiver_fillFromData 4 none rm_Archiver_fillFromData) (hq : cq E rm_Archiver_fillFromData (pV Z)) (X2 : Nat → Option Nat → Int32 → mm_M → Prop) (hX2 : ∀ (v0 : Nat) (v1 : Option Nat) (v2 : Int32) (h : mm_M), X2 v0 v1 v2 h → V E 4 0 0 h 2 [(0, va_rf (some v0)), (1, va_rf (v1)), (2, .int (v2))] []) (X25 : Nat → Option Nat → Int32 → Int32 → mm_M → Prop) (hX25 : ∀ (v0 : Nat) (v1 : Option Nat) (v2 : Int32) (v3 : Int32) (h : mm_M), X25 v0 v1 v2 v3 h → V E 4 0 0 h 25 [(0, va_rf (some v0)), (1, va_rf (v1)), (2, .int (v2)), (3, .int (v3))] []) (v0 : Nat) (v1 : Option Nat) (v2 : Int32) (v3 : Int32) (h : mm_M) (hw : wq_Archiver_fillFromData_25 X2 X25 (mm_ge (eG E)) v0 v1 v2 v3 h Z) : V E 4 0 0 h 25 [(0, va_rf (some v0)), (1, va_rf (v1)), (2, .int (v2)), (3, .int (v3))] [] := by
  unfold wq_Archiver_fillFromData_25 at hw
  refine V_iload_n hc 3 d_Archiver_fillFromData_25 rfl rfl ?_
  refine V_iconst (v := 5) hc d_Archiver_fillFromData_26 (by decide) ?_
  refine V_icmp_ge (tgt := 52) hc d_Archiver_fillFromData_27 (by decide) (fun hq1 => ?_) (fun hq1 => ?_)
  · replace hw := hw.1 hq1
    refine V_iinc (v := v2 + 64) (lv' := [(2, .int (v2 + 64)), (0, va_rf (some v0)), (1, va_rf (v1)), (3, .int (v3))]) hc 2 d_Archiver_fillFromData_52 rfl rfl (by decide) (by simp [cat_rf, cat_i, cat_l]) ?_
    refine V_goto (tgt := 2) hc d_Archiver_fillFromData_55 (by decide) ?_
    refine V_sub (lv' := [(0, va_rf (some v0)), (1, va_rf (v1)), (2, .int (v2 + 64))]) [1, 2, 0] rfl ?_
    exact hX2 _ _ _ _ hw
  · replace hw := hw.2 hq1
    refine V_aload_n hc 0 d_Archiver_fillFromData_30 rfl rfl ?_
    obtain ⟨q1, hw⟩ := hw
    refine V_get (v := va_rf (mm_P h v0 2)) hc gf_Archiver_30 rfl q1 rfl d_Archiver_fillFromData_31 ?_
    refine V_aload_n hc 0 d_Archiver_fillFromData_34 rfl rfl ?_
    refine V_get (v := va_rf (mm_P h v0 1)) hc gf_Archiver_21 rfl q1 rfl d_Archiver_fillFromData_35 ?_
    obtain ⟨a2, q3, hw⟩ := hw
    obtain ⟨q4, hw⟩ := hw
    refine V_get (v := va_rf (mm_P h a2 0)) hc gf_Archiver_104 q3 q4 rfl d_Archiver_fillFromData_38 ?_
    refine V_iload_n hc 3 d_Archiver_fillFromData_41 rfl rfl ?_
    obtain ⟨a5, q6, hw⟩ := hw
    obtain ⟨q7, hw⟩ := hw
    obtain ⟨q8, hw⟩ := hw
    refine V_iald hc q6 q7 q8 d_Archiver_fillFromData_42 ?_
    obtain ⟨a9, q10, hw⟩ := hw
    obtain ⟨q11, hw⟩ := hw
    refine V_callV (rm' := rm_Bytes_putHighestFirst) (As := [.int (mm_I h a5 (Int32.toNatClampNeg (v3)))]) (rest := []) (n := 1) (cn := 3) hc q10 q11 (sat_Bytes_putHighestFirst (eG E) _ _ _ _ hw) rfl cv_Archiver_115 (gw_of (tw_2 (List.mem_of_getElem? (i := 154) rfl)) rfl) ss_Bytes_putHighestFirst rfl ⟨by decide, by decide⟩ (by decide) (by decide) rfl (by simp [cat_rf, cat_i, cat_l]) d_Archiver_fillFromData_43 (fun r0 h12 hw => ?_)
    obtain ⟨rfl, hw⟩ := hw
    refine V_wide (cs' := 0) (sl' := 0) (by decide) (by decide) ?_
    refine V_st (st' := []) rfl ?_
    refine V_iinc (v := v3 + 1) (lv' := [(3, .int (v3 + 1)), (0, va_rf (some v0)), (1, va_rf (v1)), (2, .int (v2))]) hc 3 d_Archiver_fillFromData_46 rfl rfl (by decide) rfl ?_
    refine V_goto (tgt := 25) hc d_Archiver_fillFromData_49 (by decide) ?_
    refine V_sub (lv' := [(0, va_rf (some v0)), (1, va_rf (v1)), (2, .int (v2)), (3, .int (v3 + 1))]) [1, 2, 3, 0] rfl ?_
    exact hX25 _ _ _ _ _ hw
theorem vl_Archiver_fillFromData_25 {E : mm_E} {Z : mm_M → Prop} (hc : cx E "EpochServer$Archiver" c_Archiver_fillFromData 4 none rm_Archiver_fillFromData) (hq : cq E rm_Archiver_fillFromData (pV Z)) (X2 : Nat → Option Nat → Int32 → mm_M → Prop) (hX2 : ∀ (v0 : Nat) (v1 : Option Nat) (v2 : Int32) (h : mm_M), X2 v0 v1 v2 h → V E 4 0 0 h 2 [(0, va_rf (some v0)), (1, va_rf (v1)), (2, .int (v2))] []) (v0 : Nat) (v1 : Option Nat) (v2 : Int32) (v3 : Int32) (h : mm_M) (hw : lp_Archiver_fillFromData_25 X2 (mm_ge (eG E)) v0 v1 v2 v3 h Z) : V E 4 0 0 h 25 [(0, va_rf (some v0)), (1, va_rf (v1)), (2, .int (v2)), (3, .int (v3))] [] :=
  hw (fun v0 v1 v2 v3 h => V E 4 0 0 h 25 [(0, va_rf (some v0)), (1, va_rf (v1)), (2, .int (v2)), (3, .int (v3))] []) (fun v0 v1 v2 v3 h hb => vb_Archiver_fillFromData_25 hc hq X2 hX2 _ (fun _ _ _ _ _ q => q) v0 v1 v2 v3 h hb)
set_option maxRecDepth 100000 in
set_option maxHeartbeats 4000000 in
theorem vb_Archiver_fillFromData_2 {E : mm_E} {Z : mm_M → Prop} (hc : cx E "EpochServer$Archiver" c_Archiver_fillFromData 4 none rm_Archiver_fillFromData) (hq : cq E rm_Archiver_fillFromData (pV Z)) (X2 : Nat → Option Nat → Int32 → mm_M → Prop) (hX2 : ∀ (v0 : Nat) (v1 : Option Nat) (v2 : Int32) (h : mm_M), X2 v0 v1 v2 h → V E 4 0 0 h 2 [(0, va_rf (some v0)), (1, va_rf (v1)), (2, .int (v2))] []) (v0 : Nat) (v1 : Option Nat) (v2 : Int32) (h : mm_M) (hw : wq_Archiver_fillFromData_2 X2 (mm_ge (eG E)) v0 v1 v2 h Z) : V E 4 0 0 h 2 [(0, va_rf (some v0)), (1, va_rf (v1)), (2, .int (v2))] [] := by
  unfold wq_Archiver_fillFromData_2 at hw
  refine V_iload_n hc 2 d_Archiver_fillFromData_2 rfl rfl ?_
  refine V_aload_n hc 1 d_Archiver_fillFromData_3 rfl rfl ?_
  obtain ⟨a1, q2, hw⟩ := hw
  obtain ⟨q3, hw⟩ := hw
  refine V_alen (t := 1) (ty := .byte) hc rfl q2 q3 d_Archiver_fillFromData_4 ?_
  refine V_icmp_ge (tgt := 58) hc d_Archiver_fillFromData_5 (by decide) (fun hq1 => ?_) (fun hq1 => ?_)
  · replace hw := hw.1 hq1
    exact V_vret hc hq ⟨rfl, hw⟩ (by decide) (by decide) d_Archiver_fillFromData_58
  · replace hw := hw.2 hq1
    refine V_aload_n hc 0 d_Archiver_fillFromData_8 rfl rfl ?_
    refine V_aload_n hc 1 d_Archiver_fillFromData_9 rfl rfl ?_
    refine V_iload_n hc 2 d_Archiver_fillFromData_10 rfl rfl ?_
    refine V_bipush (v := 64) hc d_Archiver_fillFromData_11 (by decide) ?_
    refine V_aload_n hc 1 d_Archiver_fillFromData_13 rfl rfl ?_
    refine V_alen (t := 1) (ty := .byte) hc rfl q2 q3 d_Archiver_fillFromData_14 ?_
    refine V_iload_n hc 2 d_Archiver_fillFromData_15 rfl rfl ?_
    refine V_isub hc d_Archiver_fillFromData_16 ?_
    refine V_mmin hc cv_Archiver_118 (by simp [cat_rf, cat_i, cat_l]) (by decide) (by decide) (by decide) (by decide) d_Archiver_fillFromData_17 ?_
    obtain ⟨q4, hw⟩ := hw
    refine V_callV (rm' := rm_Archiver_offer) (As := [va_rf (v1), .int (v2), .int (if ((Nat.toInt32 (mm_n h a1)) - (v2) : Int32) < (64) then ((Nat.toInt32 (mm_n h a1)) - (v2)) else (64))]) (rest := []) (n := 3) (cn := 2) hc rfl q4 (sat_Archiver_offer (eG E) _ _ _ _ _ _ hw) rfl cv_Archiver_100 (gw_of (tw_4 (List.mem_of_getElem? (i := 93) rfl)) rfl) ss_Archiver_offer rfl ⟨by decide, by decide⟩ (by decide) (by decide) rfl (by simp [cat_rf, cat_i, cat_l]) d_Archiver_fillFromData_20 (fun r0 h5 hw => ?_)
    obtain ⟨rfl, hw⟩ := hw
    refine V_wide (cs' := 0) (sl' := 0) (by decide) (by decide) ?_
    refine V_st (st' := []) rfl ?_
    refine V_iconst (v := 0) hc d_Archiver_fillFromData_23 (by decide) ?_
    refine V_istore_n (i := 3) (lv' := [(3, .int (0)), (0, va_rf (some v0)), (1, va_rf (v1)), (2, .int (v2))]) hc d_Archiver_fillFromData_24 rfl (by decide) rfl ?_
    refine V_sub (lv' := [(0, va_rf (some v0)), (1, va_rf (v1)), (2, .int (v2)), (3, .int (0))]) [1, 2, 3, 0] rfl ?_
    exact vl_Archiver_fillFromData_25 hc hq X2 hX2 _ _ _ _ _ hw
theorem vl_Archiver_fillFromData_2 {E : mm_E} {Z : mm_M → Prop} (hc : cx E "EpochServer$Archiver" c_Archiver_fillFromData 4 none rm_Archiver_fillFromData) (hq : cq E rm_Archiver_fillFromData (pV Z))  (v0 : Nat) (v1 : Option Nat) (v2 : Int32) (h : mm_M) (hw : lp_Archiver_fillFromData_2  (mm_ge (eG E)) v0 v1 v2 h Z) : V E 4 0 0 h 2 [(0, va_rf (some v0)), (1, va_rf (v1)), (2, .int (v2))] [] :=
  hw (fun v0 v1 v2 h => V E 4 0 0 h 2 [(0, va_rf (some v0)), (1, va_rf (v1)), (2, .int (v2))] []) (fun v0 v1 v2 h hb => vb_Archiver_fillFromData_2 hc hq  _ (fun _ _ _ _ q => q) v0 v1 v2 h hb)
set_option maxRecDepth 100000 in
set_option maxHeartbeats 4000000 in
theorem vb_Archiver_fillFromData_0 {E : mm_E} {Z : mm_M → Prop} (hc : cx E "EpochServer$Archiver" c_Archiver_fillFromData 4 none rm_Archiver_fillFromData) (hq : cq E rm_Archiver_fillFromData (pV Z))  (v0 : Nat) (v1 : Option Nat) (h : mm_M) (hw : wq_Archiver_fillFromData_0  (mm_ge (eG E)) v0 v1 h Z) : V E 4 0 0 h 0 [(0, va_rf (some v0)), (1, va_rf (v1))] [] := by
  unfold wq_Archiver_fillFromData_0 at hw
  refine V_iconst (v := 0) hc d_Archiver_fillFromData_0 (by decide) ?_
  refine V_istore_n (i := 2) (lv' := [(2, .int (0)), (0, va_rf (some v0)), (1, va_rf (v1))]) hc d_Archiver_fillFromData_1 rfl (by decide) (by simp [cat_rf, cat_i, cat_l]) ?_
  refine V_sub (lv' := [(0, va_rf (some v0)), (1, va_rf (v1)), (2, .int (0))]) [1, 2, 0] rfl ?_
  exact vl_Archiver_fillFromData_2 hc hq  _ _ _ _ hw
def wq_Archiver_fillFromData (ge : Nat → Nat) (v0 : Nat) (v1 : Option Nat) (h : mm_M) (Z : mm_M → Prop) : Prop := wq_Archiver_fillFromData_0 ge v0 v1 h Z
theorem sat_Archiver_fillFromData (G : mm_G) (v0 : Nat) (v1 : Option Nat) (h : mm_M) (Z : mm_M → Prop) (hw : wq_Archiver_fillFromData (mm_ge G) v0 v1 h Z) : mm_Met G y_Archiver_fillFromData c_Archiver_fillFromData 4 none rm_Archiver_fillFromData [va_rf (some v0), va_rf (v1)] h (pV Z) := by
  refine mm_intro (own := "EpochServer$Archiver") (by decide) rfl (by simp [lg_sl, cat_rf, cat_i, cat_l]) (fun E e1 hc hq hi => ?_)
  subst e1
  have e2 : lv_args 0 [va_rf (some v0), va_rf (v1)] = [(0, va_rf (some v0)), (1, va_rf (v1))] := by simp [lv_args, cat_rf, cat_i, cat_l]
  rw [e2]
  refine V_sub (lv' := [(0, va_rf (some v0)), (1, va_rf (v1))]) [0, 1] rfl ?_
  exact vb_Archiver_fillFromData_0 hc hq v0 v1 h hw
/-! Bytes.size()I -/
abbrev rm_Bytes_size : Room := { frames := 0, cells := 0, slots := 0, locals := 0 }
def wq_Bytes_size_0  (ge : Nat → Nat) (v0 : Nat) (h : mm_M) (Z : Int32 → mm_M → Prop) : Prop :=
  mm_k h (v0) = kd_Bytes ∧ Z (mm_I h v0 1) h
set_option maxRecDepth 100000 in
set_option maxHeartbeats 4000000 in
theorem vb_Bytes_size_0 {E : mm_E} {Z : Int32 → mm_M → Prop} (hc : cx E "EpochServer$Bytes" c_Bytes_size 1 (some (.int)) rm_Bytes_size) (hq : cq E rm_Bytes_size (pI Z))  (v0 : Nat) (h : mm_M) (hw : wq_Bytes_size_0  (mm_ge (eG E)) v0 h Z) : V E 1 0 0 h 0 [(0, va_rf (some v0))] [] := by
  unfold wq_Bytes_size_0 at hw
  refine V_aload_n hc 0 d_Bytes_size_0 rfl rfl ?_
  obtain ⟨q1, hw⟩ := hw
  refine V_get (v := .int (mm_I h v0 1)) hc gf_Bytes_7 rfl q1 rfl d_Bytes_size_1 ?_
  exact V_iret hc hq ⟨_, rfl, hw⟩ (by decide) (by decide) d_Bytes_size_4
def wq_Bytes_size (ge : Nat → Nat) (v0 : Nat) (h : mm_M) (Z : Int32 → mm_M → Prop) : Prop := wq_Bytes_size_0 ge v0 h Z
theorem sat_Bytes_size (G : mm_G) (v0 : Nat) (h : mm_M) (Z : Int32 → mm_M → Prop) (hw : wq_Bytes_size (mm_ge G) v0 h Z) : mm_Met G y_Bytes_size c_Bytes_size 1 (some (.int)) rm_Bytes_size [va_rf (some v0)] h (pI Z) := by
  refine mm_intro (own := "EpochServer$Bytes") (by decide) rfl (by simp [lg_sl, cat_rf, cat_i, cat_l]) (fun E e1 hc hq hi => ?_)
  subst e1
  have e2 : lv_args 0 [va_rf (some v0)] = [(0, va_rf (some v0))] := by simp [lv_args, cat_rf, cat_i, cat_l]
  rw [e2]
  refine V_sub (lv' := [(0, va_rf (some v0))]) [0] rfl ?_
  exact vb_Bytes_size_0 hc hq v0 h hw
/-! Archiver.goOver(LEpochServer$Tree;)V -/
abbrev rm_Archiver_goOver : Room := { frames := 5, cells := 0, slots := 0, locals := 122 }
def wq_Archiver_goOver_145  (ge : Nat → Nat)  (h : mm_M) (Z : mm_M → Prop) : Prop :=
  Z h
def wq_Archiver_goOver_139 (X11 : Nat → Option Nat → Int32 → Int32 → mm_M → Prop) (ge : Nat → Nat) (v0 : Nat) (v1 : Option Nat) (v2 : Int32) (v3 : Int32) (h : mm_M) (Z : mm_M → Prop) : Prop :=
  X11 (v0) (v1) (v2) (v3 + 1) h
def wq_Archiver_goOver_105 (X11 : Nat → Option Nat → Int32 → Int32 → mm_M → Prop) (X105 : Nat → Option Nat → Int32 → Int32 → Int32 → Int32 → mm_M → Prop) (ge : Nat → Nat) (v0 : Nat) (v1 : Option Nat) (v2 : Int32) (v3 : Int32) (v4 : Int32) (v6 : Int32) (h : mm_M) (Z : mm_M → Prop) : Prop :=
  (((5 : Int32) ≤ (v6 : Int32) → wq_Archiver_goOver_139 X11 ge (v0) (v1) (v2) (v3) h Z) ∧ (¬ (5 : Int32) ≤ (v6 : Int32) → mm_k h (v0) = kd_Archiver ∧ ∃ a2, mm_P h v0 1 = some a2 ∧ mm_k h (a2) = kd_Sha ∧ ∃ a5, mm_P h a2 0 = some a5 ∧ mm_k h (a5) = ka_I ∧ vp_in (v6) (mm_n h a5) ∧ ∃ a9, mm_P h v0 3 = some a9 ∧ mm_k h (a9) = ka_I ∧ vp_in (((v4) * (5 : Int32)) + (v6)) (mm_n h a9) ∧ ge 0 ≤ a9 ∧ ∀ h14 : mm_M, h14 = mm_uI h a9 (Int32.toNatClampNeg (((v4) * (5 : Int32)) + (v6))) (mm_I h a5 (Int32.toNatClampNeg (v6))) → X105 (v0) (v1) (v2) (v3) (v4) (v6 + 1) h14))
def lp_Archiver_goOver_105 (X11 : Nat → Option Nat → Int32 → Int32 → mm_M → Prop) (ge : Nat → Nat) (v0 : Nat) (v1 : Option Nat) (v2 : Int32) (v3 : Int32) (v4 : Int32) (v6 : Int32) (h : mm_M) (Z : mm_M → Prop) : Prop :=
  ∀ X105 : Nat → Option Nat → Int32 → Int32 → Int32 → Int32 → mm_M → Prop, (∀ (v0 : Nat) (v1 : Option Nat) (v2 : Int32) (v3 : Int32) (v4 : Int32) (v6 : Int32) (h : mm_M), wq_Archiver_goOver_105 X11 X105 ge v0 v1 v2 v3 v4 v6 h Z → X105 v0 v1 v2 v3 v4 v6 h) → X105 v0 v1 v2 v3 v4 v6 h
def wq_Archiver_goOver_83 (X11 : Nat → Option Nat → Int32 → Int32 → mm_M → Prop) (ge : Nat → Nat) (v0 : Nat) (v1 : Option Nat) (v2 : Int32) (v3 : Int32) (v4 : Int32) (h : mm_M) (Z : mm_M → Prop) : Prop :=
  mm_k h (v0) = kd_Archiver ∧ ∃ a2, mm_P h v0 2 = some a2 ∧ mm_k h (a2) = kd_Bytes ∧ wq_Bytes_size ge (a2) h (fun (r6 : Int32) (h5 : mm_M) => mm_k h5 (v0) = kd_Archiver ∧ wq_Archiver_offer ge (v0) (mm_P h a2 0) (0) (r6) h5 (fun h8 : mm_M => lp_Archiver_goOver_105 X11 ge (v0) (v1) (v2) (v3) (v4) (0) h8 Z))
def wq_Archiver_goOver_11 (X11 : Nat → Option Nat → Int32 → Int32 → mm_M → Prop) (ge : Nat → Nat) (v0 : Nat) (v1 : Option Nat) (v2 : Int32) (v3 : Int32) (h : mm_M) (Z : mm_M → Prop) : Prop :=
  (((v2 : Int32) ≤ (v3 : Int32) → wq_Archiver_goOver_145  ge h Z) ∧ (¬ (v2 : Int32) ≤ (v3 : Int32) → mm_k h (v0) = kd_Archiver ∧ ∃ a2, mm_P h v0 4 = some a2 ∧ mm_k h (a2) = ka_I ∧ (((Nat.toInt32 (mm_n h a2) : Int32) ≤ (v3 : Int32) → wq_Archiver_goOver_145  ge h Z) ∧ (¬ (Nat.toInt32 (mm_n h a2) : Int32) ≤ (v3 : Int32) → vp_in (v3) (mm_n h a2) ∧ ∃ a6, v1 = some a6 ∧ mm_k h (a6) = kd_Tree ∧ wq_Tree_at ge (a6) (mm_I h a2 (Int32.toNatClampNeg (v3))) h (fun (r10 : Option Nat) (h9 : mm_M) => ((∀ a11, r10 = some a11 → mm_k h9 (v0) = kd_Archiver ∧ ∃ a13, mm_P h9 v0 2 = some a13 ∧ mm_k h9 (a13) = kd_Bytes ∧ wq_Bytes_clear ge (a13) h9 (fun h16 : mm_M => ∃ a18, r10 = some a18 ∧ mm_k h16 (a18) = kd_Node ∧ wq_Node_isDirectory ge (a18) h16 (fun (r22 : Int32) (h21 : mm_M) => (((r22) = 0 → ∃ a23, r10 = some a23 ∧ mm_k h21 (a23) = kd_Node ∧ mm_k h21 (v0) = kd_Archiver ∧ wq_Archiver_fillFromData ge (v0) (mm_P h21 a23 6) h21 (fun h27 : mm_M => wq_Archiver_goOver_83 X11 ge (v0) (v1) (v2) (v3) (mm_I h a2 (Int32.toNatClampNeg (v3))) h27 Z)) ∧ (¬ (r22) = 0 → mm_k h21 (v0) = kd_Archiver ∧ wq_Archiver_fillFromDirectory ge (v0) (v1) (mm_I h a2 (Int32.toNatClampNeg (v3))) h21 (fun h30 : mm_M => wq_Archiver_goOver_83 X11 ge (v0) (v1) (v2) (v3) (mm_I h a2 (Int32.toNatClampNeg (v3))) h30 Z)))))) ∧ (r10 = none → wq_Archiver_goOver_139 X11 ge (v0) (v1) (v2) (v3) h9 Z)))))))
def lp_Archiver_goOver_11  (ge : Nat → Nat) (v0 : Nat) (v1 : Option Nat) (v2 : Int32) (v3 : Int32) (h : mm_M) (Z : mm_M → Prop) : Prop :=
  ∀ X11 : Nat → Option Nat → Int32 → Int32 → mm_M → Prop, (∀ (v0 : Nat) (v1 : Option Nat) (v2 : Int32) (v3 : Int32) (h : mm_M), wq_Archiver_goOver_11 X11 ge v0 v1 v2 v3 h Z → X11 v0 v1 v2 v3 h) → X11 v0 v1 v2 v3 h
def wq_Archiver_goOver_0  (ge : Nat → Nat) (v0 : Nat) (v1 : Option Nat) (h : mm_M) (Z : mm_M → Prop) : Prop :=
  mm_k h (v0) = kd_Archiver ∧ ∃ a2, v1 = some a2 ∧ mm_k h (a2) = kd_Tree ∧ wq_Tree_listInnermostFirst ge (a2) (mm_P h v0 4) h (fun (r6 : Int32) (h5 : mm_M) => lp_Archiver_goOver_11  ge (v0) (v1) (r6) (0) h5 Z)
set_option maxRecDepth 100000 in
set_option maxHeartbeats 4000000 in
theorem vb_Archiver_goOver_145 {E : mm_E} {Z : mm_M → Prop} (hc : cx E "EpochServer$Archiver" c_Archiver_goOver 7 none rm_Archiver_goOver) (hq : cq E rm_Archiver_goOver (pV Z))   (h : mm_M) (hw : wq_Archiver_goOver_145  (mm_ge (eG E))  h Z) : V E 7 0 0 h 145 [] [] := by
  unfold wq_Archiver_goOver_145 at hw
  exact V_vret hc hq ⟨rfl, hw⟩ (by decide) (by decide) d_Archiver_goOver_145
set_option maxRecDepth 100000 in
set_option maxHeartbeats 4000000 in
theorem vb_Archiver_goOver_139 {E : mm_E} {Z : mm_M → Prop} (hc : cx E "EpochServer$Archiver" c_Archiver_goOver 7 none rm_Archiver_goOver) (hq : cq E rm_Archiver_goOver (pV Z)) (X11 : Nat → Option Nat → Int32 → Int32 → mm_M → Prop) (hX11 : ∀ (v0 : Nat) (v1 : Option Nat) (v2 : Int32) (v3 : Int32) (h : mm_M), X11 v0 v1 v2 v3 h → V E 7 0 0 h 11 [(0, va_rf (some v0)), (1, va_rf (v1)), (2, .int (v2)), (3, .int (v3))] []) (v0 : Nat) (v1 : Option Nat) (v2 : Int32) (v3 : Int32) (h : mm_M) (hw : wq_Archiver_goOver_139 X11 (mm_ge (eG E)) v0 v1 v2 v3 h Z) : V E 7 0 0 h 139 [(0, va_rf (some v0)), (1, va_rf (v1)), (2, .int (v2)), (3, .int (v3))] [] := by
  unfold wq_Archiver_goOver_139 at hw
  refine V_iinc (v := v3 + 1) (lv' := [(3, .int (v3 + 1)), (0, va_rf (some v0)), (1, va_rf (v1)), (2, .int (v2))]) hc 3 d_Archiver_goOver_139 rfl rfl (by decide) rfl ?_
  refine V_goto (tgt := 11) hc d_Archiver_goOver_142 (by decide) ?_
  refine V_sub (lv' := [(0, va_rf (some v0)), (1, va_rf (v1)), (2, .int (v2)), (3, .int (v3 + 1))]) [1, 2, 3, 0] rfl ?_
  exact hX11 _ _ _ _ _ hw
set_option maxRecDepth 100000 in
set_option maxHeartbeats 4000000 in
theorem vb_Archiver_goOver_105 {E : mm_E} {Z : mm_M → Prop} (hc : cx E "EpochServer$Archiver" c_Archiver_goOver 7 none rm_Archiver_goOver) (hq : cq E rm_Archiver_goOver (pV Z)) (X11 : Nat → Option Nat → Int32 → Int32 → mm_M → Prop) (hX11 : ∀ (v0 : Nat) (v1 : Option Nat) (v2 : Int32) (v3 : Int32) (h : mm_M), X11 v0 v1 v2 v3 h → V E 7 0 0 h 11 [(0, va_rf (some v0)), (1, va_rf (v1)), (2, .int (v2)), (3, .int (v3))] []) (X105 : Nat → Option Nat → Int32 → Int32 → Int32 → Int32 → mm_M → Prop) (hX105 : ∀ (v0 : Nat) (v1 : Option Nat) (v2 : Int32) (v3 : Int32) (v4 : Int32) (v6 : Int32) (h : mm_M), X105 v0 v1 v2 v3 v4 v6 h → V E 7 0 0 h 105 [(0, va_rf (some v0)), (1, va_rf (v1)), (2, .int (v2)), (3, .int (v3)), (4, .int (v4)), (6, .int (v6))] []) (v0 : Nat) (v1 : Option Nat) (v2 : Int32) (v3 : Int32) (v4 : Int32) (v6 : Int32) (h : mm_M) (hw : wq_Archiver_goOver_105 X11 X105 (mm_ge (eG E)) v0 v1 v2 v3 v4 v6 h Z) : V E 7 0 0 h 105 [(0, va_rf (some v0)), (1, va_rf (v1)), (2, .int (v2)), (3, .int (v3)), (4, .int (v4)), (6, .int (v6))] [] := by
  unfold wq_Archiver_goOver_105 at hw
  refine V_iload hc 5 d_Archiver_goOver_105 rfl ?_
  refine V_iconst (v := 5) hc d_Archiver_goOver_107 (by decide) ?_
  refine V_icmp_ge (tgt := 139) hc d_Archiver_goOver_108 (by decide) (fun hq1 => ?_) (fun hq1 => ?_)
  · replace hw := hw.1 hq1
    refine V_sub (lv' := [(0, va_rf (some v0)), (1, va_rf (v1)), (2, .int (v2)), (3, .int (v3))]) [0, 1, 2, 3] rfl ?_
    exact vb_Archiver_goOver_139 hc hq X11 hX11 _ _ _ _ _ hw
  · replace hw := hw.2 hq1
    refine V_aload_n hc 0 d_Archiver_goOver_111 rfl rfl ?_
    obtain ⟨q1, hw⟩ := hw
    refine V_get (v := va_rf (mm_P h v0 3)) hc gf_Archiver_34 rfl q1 rfl d_Archiver_goOver_112 ?_
    refine V_iload hc 4 d_Archiver_goOver_115 rfl ?_
    refine V_iconst (v := 5) hc d_Archiver_goOver_117 (by decide) ?_
    refine V_imul hc d_Archiver_goOver_118 ?_
    refine V_iload hc 5 d_Archiver_goOver_119 rfl ?_
    refine V_iadd hc d_Archiver_goOver_121 ?_
    refine V_aload_n hc 0 d_Archiver_goOver_122 rfl rfl ?_
    refine V_get (v := va_rf (mm_P h v0 1)) hc gf_Archiver_21 rfl q1 rfl d_Archiver_goOver_123 ?_
    obtain ⟨a2, q3, hw⟩ := hw
    obtain ⟨q4, hw⟩ := hw
    refine V_get (v := va_rf (mm_P h a2 0)) hc gf_Archiver_104 q3 q4 rfl d_Archiver_goOver_126 ?_
    refine V_iload hc 5 d_Archiver_goOver_129 rfl ?_
    obtain ⟨a5, q6, hw⟩ := hw
    obtain ⟨q7, hw⟩ := hw
    obtain ⟨q8, hw⟩ := hw
    refine V_iald hc q6 q7 q8 d_Archiver_goOver_131 ?_
    obtain ⟨a9, q10, hw⟩ := hw
    obtain ⟨q11, hw⟩ := hw
    obtain ⟨q12, hw⟩ := hw
    obtain ⟨q13, hw⟩ := hw
    obtain ⟨h14, eq_h14⟩ : ∃ x, x = mm_uI h a9 (Int32.toNatClampNeg (((v4) * (5 : Int32)) + (v6))) (mm_I h a5 (Int32.toNatClampNeg (v6))) := ⟨_, rfl⟩
    replace hw := hw _ eq_h14
    refine V_iast hc q10 q11 q12 q13 d_Archiver_goOver_132 ?_
    rw [← eq_h14]
    refine V_iinc (v := v6 + 1) (lv' := [(6, .int (v6 + 1)), (0, va_rf (some v0)), (1, va_rf (v1)), (2, .int (v2)), (3, .int (v3)), (4, .int (v4))]) hc 5 d_Archiver_goOver_133 rfl rfl (by decide) rfl ?_
    refine V_goto (tgt := 105) hc d_Archiver_goOver_136 (by decide) ?_
    refine V_sub (lv' := [(0, va_rf (some v0)), (1, va_rf (v1)), (2, .int (v2)), (3, .int (v3)), (4, .int (v4)), (6, .int (v6 + 1))]) [1, 2, 3, 4, 5, 0] rfl ?_
    exact hX105 _ _ _ _ _ _ _ hw
theorem vl_Archiver_goOver_105 {E : mm_E} {Z : mm_M → Prop} (hc : cx E "EpochServer$Archiver" c_Archiver_goOver 7 none rm_Archiver_goOver) (hq : cq E rm_Archiver_goOver (pV Z)) (X11 : Nat → Option Nat → Int32 → Int32 → mm_M → Prop) (hX11 : ∀ (v0 : Nat) (v1 : Option Nat) (v2 : Int32) (v3 : Int32) (h : mm_M), X11 v0 v1 v2 v3 h → V E 7 0 0 h 11 [(0, va_rf (some v0)), (1, va_rf (v1)), (2, .int (v2)), (3, .int (v3))] []) (v0 : Nat) (v1 : Option Nat) (v2 : Int32) (v3 : Int32) (v4 : Int32) (v6 : Int32) (h : mm_M) (hw : lp_Archiver_goOver_105 X11 (mm_ge (eG E)) v0 v1 v2 v3 v4 v6 h Z) : V E 7 0 0 h 105 [(0, va_rf (some v0)), (1, va_rf (v1)), (2, .int (v2)), (3, .int (v3)), (4, .int (v4)), (6, .int (v6))] [] :=
  hw (fun v0 v1 v2 v3 v4 v6 h => V E 7 0 0 h 105 [(0, va_rf (some v0)), (1, va_rf (v1)), (2, .int (v2)), (3, .int (v3)), (4, .int (v4)), (6, .int (v6))] []) (fun v0 v1 v2 v3 v4 v6 h hb => vb_Archiver_goOver_105 hc hq X11 hX11 _ (fun _ _ _ _ _ _ _ q => q) v0 v1 v2 v3 v4 v6 h hb)
set_option maxRecDepth 100000 in
set_option maxHeartbeats 4000000 in
theorem vb_Archiver_goOver_83 {E : mm_E} {Z : mm_M → Prop} (hc : cx E "EpochServer$Archiver" c_Archiver_goOver 7 none rm_Archiver_goOver) (hq : cq E rm_Archiver_goOver (pV Z)) (X11 : Nat → Option Nat → Int32 → Int32 → mm_M → Prop) (hX11 : ∀ (v0 : Nat) (v1 : Option Nat) (v2 : Int32) (v3 : Int32) (h : mm_M), X11 v0 v1 v2 v3 h → V E 7 0 0 h 11 [(0, va_rf (some v0)), (1, va_rf (v1)), (2, .int (v2)), (3, .int (v3))] []) (v0 : Nat) (v1 : Option Nat) (v2 : Int32) (v3 : Int32) (v4 : Int32) (h : mm_M) (hw : wq_Archiver_goOver_83 X11 (mm_ge (eG E)) v0 v1 v2 v3 v4 h Z) : V E 7 0 0 h 83 [(0, va_rf (some v0)), (1, va_rf (v1)), (2, .int (v2)), (3, .int (v3)), (4, .int (v4))] [] := by
  unfold wq_Archiver_goOver_83 at hw
  refine V_aload_n hc 0 d_Archiver_goOver_83 rfl rfl ?_
  refine V_aload_n hc 0 d_Archiver_goOver_84 rfl rfl ?_
  obtain ⟨q1, hw⟩ := hw
  refine V_get (v := va_rf (mm_P h v0 2)) hc gf_Archiver_30 rfl q1 rfl d_Archiver_goOver_85 ?_
  obtain ⟨a2, q3, hw⟩ := hw
  obtain ⟨q4, hw⟩ := hw
  refine V_getN (v := va_rf (mm_P h a2 0)) hc gf_Archiver_94 q3 q4 rfl d_Archiver_goOver_88 ?_
  refine V_iconst (v := 0) hc d_Archiver_goOver_91 (by decide) ?_
  refine V_aload_n hc 0 d_Archiver_goOver_92 rfl rfl ?_
  refine V_get (v := va_rf (mm_P h v0 2)) hc gf_Archiver_30 rfl q1 rfl d_Archiver_goOver_93 ?_
  refine V_callV (rm' := rm_Bytes_size) (As := []) (rest := [.int (0), va_rf (mm_P h a2 0), va_rf (some v0)]) (n := 0) (cn := 3) hc q3 q4 (sat_Bytes_size (eG E) _ _ _ hw) rfl cv_Archiver_97 (gw_of (tw_2 (List.mem_of_getElem? (i := 162) rfl)) rfl) ss_Bytes_size rfl ⟨by decide, by decide⟩ (by decide) (by decide) rfl (by simp [cat_rf, cat_i, cat_l]) d_Archiver_goOver_96 (fun r0 h5 hw => ?_)
  obtain ⟨r6, rfl, hw⟩ := hw
  refine V_wide (cs' := 0) (sl' := 0) (by decide) (by decide) ?_
  refine V_st (st' := [.int (r6), .int (0), va_rf (mm_P h a2 0), va_rf (some v0)]) rfl ?_
  obtain ⟨q7, hw⟩ := hw
  refine V_callV (rm' := rm_Archiver_offer) (As := [va_rf (mm_P h a2 0), .int (0), .int (r6)]) (rest := []) (n := 3) (cn := 2) hc rfl q7 (sat_Archiver_offer (eG E) _ _ _ _ _ _ hw) rfl cv_Archiver_100 (gw_of (tw_4 (List.mem_of_getElem? (i := 93) rfl)) rfl) ss_Archiver_offer rfl ⟨by decide, by decide⟩ (by decide) (by decide) rfl (by simp [cat_rf, cat_i, cat_l]) d_Archiver_goOver_99 (fun r0 h8 hw => ?_)
  obtain ⟨rfl, hw⟩ := hw
  refine V_wide (cs' := 0) (sl' := 0) (by decide) (by decide) ?_
  refine V_st (st' := []) rfl ?_
  refine V_iconst (v := 0) hc d_Archiver_goOver_102 (by decide) ?_
  refine V_istore (i := 6) (lv' := [(6, .int (0)), (0, va_rf (some v0)), (1, va_rf (v1)), (2, .int (v2)), (3, .int (v3)), (4, .int (v4))]) hc d_Archiver_goOver_103 (by decide) rfl ?_
  refine V_sub (lv' := [(0, va_rf (some v0)), (1, va_rf (v1)), (2, .int (v2)), (3, .int (v3)), (4, .int (v4)), (6, .int (0))]) [1, 2, 3, 4, 5, 0] rfl ?_
  exact vl_Archiver_goOver_105 hc hq X11 hX11 _ _ _ _ _ _ _ hw
set_option maxRecDepth 100000 in
set_option maxHeartbeats 4000000 in
theorem vb_Archiver_goOver_11 {E : mm_E} {Z : mm_M → Prop} (hc : cx E "EpochServer$Archiver" c_Archiver_goOver 7 none rm_Archiver_goOver) (hq : cq E rm_Archiver_goOver (pV Z)) (X11 : Nat → Option Nat → Int32 → Int32 → mm_M → Prop) (hX11 : ∀ (v0 : Nat) (v1 : Option Nat) (v2 : Int32) (v3 : Int32) (h : mm_M), X11 v0 v1 v2 v3 h → V E 7 0 0 h 11 [(0, va_rf (some v0)), (1, va_rf (v1)), (2, .int (v2)), (3, .int (v3))] []) (v0 : Nat) (v1 : Option Nat) (v2 : Int32) (v3 : Int32) (h : mm_M) (hw : wq_Archiver_goOver_11 X11 (mm_ge (eG E)) v0 v1 v2 v3 h Z) : V E 7 0 0 h 11 [(0, va_rf (some v0)), (1, va_rf (v1)), (2, .int (v2)), (3, .int (v3))] [] := by
  unfold wq_Archiver_goOver_11 at hw
  refine V_iload_n hc 3 d_Archiver_goOver_11 rfl rfl ?_
  refine V_iload_n hc 2 d_Archiver_goOver_12 rfl rfl ?_
  refine V_icmp_ge (tgt := 145) hc d_Archiver_goOver_13 (by decide) (fun hq1 => ?_) (fun hq1 => ?_)
  · replace hw := hw.1 hq1
    refine V_sub (lv' := []) [] rfl ?_
    exact vb_Archiver_goOver_145 hc hq  _ hw
  · replace hw := hw.2 hq1
    refine V_iload_n hc 3 d_Archiver_goOver_16 rfl rfl ?_
    refine V_aload_n hc 0 d_Archiver_goOver_17 rfl rfl ?_
    obtain ⟨q1, hw⟩ := hw
    refine V_get (v := va_rf (mm_P h v0 4)) hc gf_Archiver_38 rfl q1 rfl d_Archiver_goOver_18 ?_
    obtain ⟨a2, q3, hw⟩ := hw
    obtain ⟨q4, hw⟩ := hw
    refine V_alen (t := 0) (ty := .int) hc rfl q3 q4 d_Archiver_goOver_21 ?_
    refine V_icmp_ge (tgt := 145) hc d_Archiver_goOver_22 (by decide) (fun hq1 => ?_) (fun hq1 => ?_)
    · replace hw := hw.1 hq1
      refine V_sub (lv' := []) [] rfl ?_
      exact vb_Archiver_goOver_145 hc hq  _ hw
    · replace hw := hw.2 hq1
      refine V_aload_n hc 0 d_Archiver_goOver_25 rfl rfl ?_
      refine V_get (v := va_rf (mm_P h v0 4)) hc gf_Archiver_38 rfl q1 rfl d_Archiver_goOver_26 ?_
      refine V_iload_n hc 3 d_Archiver_goOver_29 rfl rfl ?_
      obtain ⟨q5, hw⟩ := hw
      refine V_iald hc q3 q4 q5 d_Archiver_goOver_30 ?_
      refine V_istore (i := 4) (lv' := [(4, .int (mm_I h a2 (Int32.toNatClampNeg (v3)))), (0, va_rf (some v0)), (1, va_rf (v1)), (2, .int (v2)), (3, .int (v3))]) hc d_Archiver_goOver_31 (by decide) rfl ?_
      refine V_aload_n hc 2 d_Archiver_goOver_33 rfl rfl ?_
      refine V_iload hc 0 d_Archiver_goOver_34 rfl ?_
      obtain ⟨a6, q7, hw⟩ := hw
      obtain ⟨q8, hw⟩ := hw
      refine V_callV (rm' := rm_Tree_at) (As := [.int (mm_I h a2 (Int32.toNatClampNeg (v3)))]) (rest := []) (n := 1) (cn := 12) hc q7 q8 (sat_Tree_at (eG E) _ _ _ _ hw) rfl cv_Archiver_69 (gw_of (tw_3 (List.mem_of_getElem? (i := 46) rfl)) rfl) ss_Tree_at rfl ⟨by decide, by decide⟩ (by decide) (by decide) rfl (by simp [cat_rf, cat_i, cat_l]) d_Archiver_goOver_36 (fun r0 h9 hw => ?_)
      obtain ⟨r10, rfl, hw⟩ := hw
      refine V_wide (cs' := 0) (sl' := 0) (by decide) (by decide) ?_
      refine V_st (st' := [va_rf (r10)]) rfl ?_
      refine V_astore (i := 5) (lv' := [(5, va_rf (r10)), (4, .int (mm_I h a2 (Int32.toNatClampNeg (v3)))), (0, va_rf (some v0)), (1, va_rf (v1)), (2, .int (v2)), (3, .int (v3))]) hc d_Archiver_goOver_39 (by decide) rfl ?_
      refine V_aload hc 0 d_Archiver_goOver_41 rfl ?_
      refine V_ifnonnull (tgt := 49) hc d_Archiver_goOver_43 (by decide) (fun a11 hq1 => ?_) (fun hq1 => ?_)
      · replace hw := hw.1 a11 hq1
        refine V_aload_n hc 2 d_Archiver_goOver_49 rfl rfl ?_
        obtain ⟨q12, hw⟩ := hw
        refine V_get (v := va_rf (mm_P h9 v0 2)) hc gf_Archiver_30 rfl q12 rfl d_Archiver_goOver_50 ?_
        obtain ⟨a13, q14, hw⟩ := hw
        obtain ⟨q15, hw⟩ := hw
        refine V_callV (rm' := rm_Bytes_clear) (As := []) (rest := []) (n := 0) (cn := 3) hc q14 q15 (sat_Bytes_clear (eG E) _ _ _ hw) rfl cv_Archiver_73 (gw_of (tw_2 (List.mem_of_getElem? (i := 223) rfl)) rfl) ss_Bytes_clear rfl ⟨by decide, by decide⟩ (by decide) (by decide) rfl (by simp [cat_rf, cat_i, cat_l]) d_Archiver_goOver_53 (fun r0 h16 hw => ?_)
        obtain ⟨rfl, hw⟩ := hw
        refine V_wide (cs' := 0) (sl' := 0) (by decide) (by decide) ?_
        refine V_st (st' := []) rfl ?_
        refine V_aload hc 0 d_Archiver_goOver_56 rfl ?_
        obtain ⟨a18, q19, hw⟩ := hw
        obtain ⟨q20, hw⟩ := hw
        refine V_callV (rm' := rm_Node_isDirectory) (As := []) (rest := []) (n := 0) (cn := 7) hc q19 q20 (sat_Node_isDirectory (eG E) _ _ _ hw) rfl cv_Archiver_76 (gw_of (tw_3 (List.mem_of_getElem? (i := 62) rfl)) rfl) ss_Node_isDirectory rfl ⟨by decide, by decide⟩ (by decide) (by decide) rfl (by simp [cat_rf, cat_i, cat_l]) d_Archiver_goOver_58 (fun r0 h21 hw => ?_)
        obtain ⟨r22, rfl, hw⟩ := hw
        refine V_wide (cs' := 0) (sl' := 0) (by decide) (by decide) ?_
        refine V_st (st' := [.int (r22)]) rfl ?_
        refine V_if_eq (tgt := 74) hc d_Archiver_goOver_61 (by decide) (fun hq1 => ?_) (fun hq1 => ?_)
        · replace hw := hw.1 hq1
          refine V_aload_n hc 2 d_Archiver_goOver_74 rfl rfl ?_
          refine V_aload hc 0 d_Archiver_goOver_75 rfl ?_
          obtain ⟨a23, q24, hw⟩ := hw
          obtain ⟨q25, hw⟩ := hw
          refine V_get (v := va_rf (mm_P h21 a23 6)) hc gf_Archiver_86 q24 q25 rfl d_Archiver_goOver_77 ?_
          obtain ⟨q26, hw⟩ := hw
          refine V_callV (rm' := rm_Archiver_fillFromData) (As := [va_rf (mm_P h21 a23 6)]) (rest := []) (n := 1) (cn := 2) hc rfl q26 (sat_Archiver_fillFromData (eG E) _ _ _ _ hw) rfl cv_Archiver_90 (gw_of (tw_4 (List.mem_of_getElem? (i := 88) rfl)) rfl) ss_Archiver_fillFromData rfl ⟨by decide, by decide⟩ (by decide) (by decide) rfl (by simp [cat_rf, cat_i, cat_l]) d_Archiver_goOver_80 (fun r0 h27 hw => ?_)
          obtain ⟨rfl, hw⟩ := hw
          refine V_wide (cs' := 0) (sl' := 0) (by decide) (by decide) ?_
          refine V_st (st' := []) rfl ?_
          refine V_sub (lv' := [(0, va_rf (some v0)), (1, va_rf (v1)), (2, .int (v2)), (3, .int (v3)), (4, .int (mm_I h a2 (Int32.toNatClampNeg (v3))))]) [2, 3, 4, 5, 1] rfl ?_
          exact vb_Archiver_goOver_83 hc hq X11 hX11 _ _ _ _ _ _ hw
        · replace hw := hw.2 hq1
          refine V_aload_n hc 2 d_Archiver_goOver_64 rfl rfl ?_
          refine V_aload_n hc 3 d_Archiver_goOver_65 rfl rfl ?_
          refine V_iload hc 1 d_Archiver_goOver_66 rfl ?_
          obtain ⟨q29, hw⟩ := hw
          refine V_callV (rm' := rm_Archiver_fillFromDirectory) (As := [va_rf (v1), .int (mm_I h a2 (Int32.toNatClampNeg (v3)))]) (rest := []) (n := 2) (cn := 2) hc rfl q29 (sat_Archiver_fillFromDirectory (eG E) _ _ _ _ _ hw) rfl cv_Archiver_82 (gw_of (tw_4 (List.mem_of_getElem? (i := 81) rfl)) rfl) ss_Archiver_fillFromDirectory rfl ⟨by decide, by decide⟩ (by decide) (by decide) rfl (by simp [cat_rf, cat_i, cat_l]) d_Archiver_goOver_68 (fun r0 h30 hw => ?_)
          obtain ⟨rfl, hw⟩ := hw
          refine V_wide (cs' := 0) (sl' := 0) (by decide) (by decide) ?_
          refine V_st (st' := []) rfl ?_
          refine V_goto (tgt := 83) hc d_Archiver_goOver_71 (by decide) ?_
          refine V_sub (lv' := [(0, va_rf (some v0)), (1, va_rf (v1)), (2, .int (v2)), (3, .int (v3)), (4, .int (mm_I h a2 (Int32.toNatClampNeg (v3))))]) [2, 3, 4, 5, 1] rfl ?_
          exact vb_Archiver_goOver_83 hc hq X11 hX11 _ _ _ _ _ _ hw
      · replace hw := hw.2 hq1
        refine V_goto (tgt := 139) hc d_Archiver_goOver_46 (by decide) ?_
        refine V_sub (lv' := [(0, va_rf (some v0)), (1, va_rf (v1)), (2, .int (v2)), (3, .int (v3))]) [2, 3, 4, 5] rfl ?_
        exact vb_Archiver_goOver_139 hc hq X11 hX11 _ _ _ _ _ hw
theorem vl_Archiver_goOver_11 {E : mm_E} {Z : mm_M → Prop} (hc : cx E "EpochServer$Archiver" c_Archiver_goOver 7 none rm_Archiver_goOver) (hq : cq E rm_Archiver_goOver (pV Z))  (v0 : Nat) (v1 : Option Nat) (v2 : Int32) (v3 : Int32) (h : mm_M) (hw : lp_Archiver_goOver_11  (mm_ge (eG E)) v0 v1 v2 v3 h Z) : V E 7 0 0 h 11 [(0, va_rf (some v0)), (1, va_rf (v1)), (2, .int (v2)), (3, .int (v3))] [] :=
  hw (fun v0 v1 v2 v3 h => V E 7 0 0 h 11 [(0, va_rf (some v0)), (1, va_rf (v1)), (2, .int (v2)), (3, .int (v3))] []) (fun v0 v1 v2 v3 h hb => vb_Archiver_goOver_11 hc hq  _ (fun _ _ _ _ _ q => q) v0 v1 v2 v3 h hb)
set_option maxRecDepth 100000 in
set_option maxHeartbeats 4000000 in
theorem vb_Archiver_goOver_0 {E : mm_E} {Z : mm_M → Prop} (hc : cx E "EpochServer$Archiver" c_Archiver_goOver 7 none rm_Archiver_goOver) (hq : cq E rm_Archiver_goOver (pV Z))  (v0 : Nat) (v1 : Option Nat) (h : mm_M) (hw : wq_Archiver_goOver_0  (mm_ge (eG E)) v0 v1 h Z) : V E 7 0 0 h 0 [(0, va_rf (some v0)), (1, va_rf (v1))] [] := by
  unfold wq_Archiver_goOver_0 at hw
  refine V_aload_n hc 1 d_Archiver_goOver_0 rfl rfl ?_
  refine V_aload_n hc 0 d_Archiver_goOver_1 rfl rfl ?_
  obtain ⟨q1, hw⟩ := hw
  refine V_get (v := va_rf (mm_P h v0 4)) hc gf_Archiver_38 rfl q1 rfl d_Archiver_goOver_2 ?_
  obtain ⟨a2, q3, hw⟩ := hw
  obtain ⟨q4, hw⟩ := hw
  refine V_callV (rm' := rm_Tree_listInnermostFirst) (As := [va_rf (mm_P h v0 4)]) (rest := []) (n := 1) (cn := 12) hc q3 q4 (sat_Tree_listInnermostFirst (eG E) _ _ _ _ hw) rfl cv_Archiver_63 (gw_of (tw_4 (List.mem_of_getElem? (i := 68) rfl)) rfl) ss_Tree_listInnermostFirst rfl ⟨by decide, by decide⟩ (by decide) (by decide) rfl (by simp [cat_rf, cat_i, cat_l]) d_Archiver_goOver_5 (fun r0 h5 hw => ?_)
  obtain ⟨r6, rfl, hw⟩ := hw
  refine V_wide (cs' := 0) (sl' := 0) (by decide) (by decide) ?_
  refine V_st (st' := [.int (r6)]) rfl ?_
  refine V_istore_n (i := 2) (lv' := [(2, .int (r6)), (0, va_rf (some v0)), (1, va_rf (v1))]) hc d_Archiver_goOver_8 rfl (by decide) (by simp [cat_rf, cat_i, cat_l]) ?_
  refine V_iconst (v := 0) hc d_Archiver_goOver_9 (by decide) ?_
  refine V_istore_n (i := 3) (lv' := [(3, .int (0)), (2, .int (r6)), (0, va_rf (some v0)), (1, va_rf (v1))]) hc d_Archiver_goOver_10 rfl (by decide) rfl ?_
  refine V_sub (lv' := [(0, va_rf (some v0)), (1, va_rf (v1)), (2, .int (r6)), (3, .int (0))]) [2, 3, 1, 0] rfl ?_
  exact vl_Archiver_goOver_11 hc hq  _ _ _ _ _ hw
def wq_Archiver_goOver (ge : Nat → Nat) (v0 : Nat) (v1 : Option Nat) (h : mm_M) (Z : mm_M → Prop) : Prop := wq_Archiver_goOver_0 ge v0 v1 h Z
theorem sat_Archiver_goOver (G : mm_G) (v0 : Nat) (v1 : Option Nat) (h : mm_M) (Z : mm_M → Prop) (hw : wq_Archiver_goOver (mm_ge G) v0 v1 h Z) : mm_Met G y_Archiver_goOver c_Archiver_goOver 7 none rm_Archiver_goOver [va_rf (some v0), va_rf (v1)] h (pV Z) := by
  refine mm_intro (own := "EpochServer$Archiver") (by decide) rfl (by simp [lg_sl, cat_rf, cat_i, cat_l]) (fun E e1 hc hq hi => ?_)
  subst e1
  have e2 : lv_args 0 [va_rf (some v0), va_rf (v1)] = [(0, va_rf (some v0)), (1, va_rf (v1))] := by simp [lv_args, cat_rf, cat_i, cat_l]
  rw [e2]
  refine V_sub (lv' := [(0, va_rf (some v0)), (1, va_rf (v1))]) [0, 1] rfl ?_
  exact vb_Archiver_goOver_0 hc hq v0 v1 h hw
/-! Store.goBackTo(II)V -/
abbrev rm_Store_goBackTo : Room := { frames := 0, cells := 0, slots := 0, locals := 0 }
def wq_Store_goBackTo_0  (ge : Nat → Nat) (v0 : Nat) (v1 : Int32) (v2 : Int32) (h : mm_M) (Z : mm_M → Prop) : Prop :=
  mm_k h (v0) = kd_Store ∧ ge 0 ≤ v0 ∧ ∀ h3 : mm_M, h3 = mm_uI h (v0) 0 (v1) → mm_k h3 (v0) = kd_Store ∧ ge 0 ≤ v0 ∧ ∀ h6 : mm_M, h6 = mm_uI h3 (v0) 1 (v2) → Z h6
set_option maxRecDepth 100000 in
set_option maxHeartbeats 4000000 in
theorem vb_Store_goBackTo_0 {E : mm_E} {Z : mm_M → Prop} (hc : cx E "EpochServer$Store" c_Store_goBackTo 3 none rm_Store_goBackTo) (hq : cq E rm_Store_goBackTo (pV Z))  (v0 : Nat) (v1 : Int32) (v2 : Int32) (h : mm_M) (hw : wq_Store_goBackTo_0  (mm_ge (eG E)) v0 v1 v2 h Z) : V E 3 0 0 h 0 [(0, va_rf (some v0)), (1, .int (v1)), (2, .int (v2))] [] := by
  unfold wq_Store_goBackTo_0 at hw
  refine V_aload_n hc 0 d_Store_goBackTo_0 rfl rfl ?_
  refine V_iload_n hc 1 d_Store_goBackTo_1 rfl rfl ?_
  obtain ⟨q1, hw⟩ := hw
  obtain ⟨q2, hw⟩ := hw
  obtain ⟨h3, eq_h3⟩ : ∃ x, x = mm_uI h (v0) 0 (v1) := ⟨_, rfl⟩
  replace hw := hw _ eq_h3
  refine V_put (h' := h3) hc gf_Store_9 rfl rfl q1 q2 (by rw [eq_h3]; exact mm_Up_I _ _ _ _) (by rw [eq_h3]; exact up_vI rfl) (vp_nar_int _) rfl d_Store_goBackTo_2 ?_
  refine V_aload_n hc 0 d_Store_goBackTo_5 rfl rfl ?_
  refine V_iload_n hc 2 d_Store_goBackTo_6 rfl rfl ?_
  obtain ⟨q4, hw⟩ := hw
  obtain ⟨q5, hw⟩ := hw
  obtain ⟨h6, eq_h6⟩ : ∃ x, x = mm_uI h3 (v0) 1 (v2) := ⟨_, rfl⟩
  replace hw := hw _ eq_h6
  refine V_put (h' := h6) hc gf_Store_15 rfl rfl q4 q5 (by rw [eq_h6]; exact mm_Up_I _ _ _ _) (by rw [eq_h6]; exact up_vI rfl) (vp_nar_int _) rfl d_Store_goBackTo_7 ?_
  exact V_vret hc hq ⟨rfl, hw⟩ (by decide) (by decide) d_Store_goBackTo_10
def wq_Store_goBackTo (ge : Nat → Nat) (v0 : Nat) (v1 : Int32) (v2 : Int32) (h : mm_M) (Z : mm_M → Prop) : Prop := wq_Store_goBackTo_0 ge v0 v1 v2 h Z
theorem sat_Store_goBackTo (G : mm_G) (v0 : Nat) (v1 : Int32) (v2 : Int32) (h : mm_M) (Z : mm_M → Prop) (hw : wq_Store_goBackTo (mm_ge G) v0 v1 v2 h Z) : mm_Met G y_Store_goBackTo c_Store_goBackTo 3 none rm_Store_goBackTo [va_rf (some v0), .int (v1), .int (v2)] h (pV Z) := by
  refine mm_intro (own := "EpochServer$Store") (by decide) rfl (by simp [lg_sl, cat_rf, cat_i, cat_l]) (fun E e1 hc hq hi => ?_)
  subst e1
  have e2 : lv_args 0 [va_rf (some v0), .int (v1), .int (v2)] = [(0, va_rf (some v0)), (1, .int (v1)), (2, .int (v2))] := by simp [lv_args, cat_rf, cat_i, cat_l]
  rw [e2]
  refine V_sub (lv' := [(0, va_rf (some v0)), (1, .int (v1)), (2, .int (v2))]) [0, 1, 2] rfl ?_
  exact vb_Store_goBackTo_0 hc hq v0 v1 v2 h hw
/-! Archiver.putAway(LEpochServer$Tree;)I -/
abbrev rm_Archiver_putAway : Room := { frames := 6, cells := 0, slots := 0, locals := 148 }
def wq_Archiver_putAway_0  (ge : Nat → Nat) (v0 : Nat) (v1 : Option Nat) (h : mm_M) (Z : Int32 → mm_M → Prop) : Prop :=
  mm_k h (v0) = kd_Archiver ∧ ∃ a2, mm_P h v0 0 = some a2 ∧ mm_k h (a2) = kd_Store ∧ ge 0 ≤ v0 ∧ ∀ h6 : mm_M, h6 = mm_uI h (v0) 5 (1) → mm_k h6 (v0) = kd_Archiver ∧ ge 0 ≤ v0 ∧ ∀ h9 : mm_M, h9 = mm_uI h6 (v0) 6 (0) → mm_k h9 (v0) = kd_Archiver ∧ wq_Archiver_goOver ge (v0) (v1) h9 (fun h11 : mm_M => mm_k h11 (v0) = kd_Archiver ∧ (((mm_I h11 v0 6) = 0 → ∃ a14, mm_P h11 v0 0 = some a14 ∧ mm_k h11 (a14) = kd_Store ∧ Z ((mm_I h11 a14 0) - (mm_I h a2 0)) h11) ∧ (¬ (mm_I h11 v0 6) = 0 → ∃ a17, mm_P h11 v0 0 = some a17 ∧ mm_k h11 (a17) = kd_Store ∧ wq_Store_goBackTo ge (a17) (mm_I h a2 0) (mm_I h a2 1) h11 (fun h20 : mm_M => Z ((-2)) h20))))
set_option maxRecDepth 100000 in
set_option maxHeartbeats 4000000 in
theorem vb_Archiver_putAway_0 {E : mm_E} {Z : Int32 → mm_M → Prop} (hc : cx E "EpochServer$Archiver" c_Archiver_putAway 4 (some (.int)) rm_Archiver_putAway) (hq : cq E rm_Archiver_putAway (pI Z))  (v0 : Nat) (v1 : Option Nat) (h : mm_M) (hw : wq_Archiver_putAway_0  (mm_ge (eG E)) v0 v1 h Z) : V E 4 0 0 h 0 [(0, va_rf (some v0)), (1, va_rf (v1))] [] := by
  unfold wq_Archiver_putAway_0 at hw
  refine V_aload_n hc 0 d_Archiver_putAway_0 rfl rfl ?_
  obtain ⟨q1, hw⟩ := hw
  refine V_get (v := va_rf (mm_P h v0 0)) hc gf_Archiver_12 rfl q1 rfl d_Archiver_putAway_1 ?_
  obtain ⟨a2, q3, hw⟩ := hw
  obtain ⟨q4, hw⟩ := hw
  refine V_get (v := .int (mm_I h a2 0)) hc gf_Archiver_48 q3 q4 rfl d_Archiver_putAway_4 ?_
  refine V_istore_n (i := 2) (lv' := [(2, .int (mm_I h a2 0)), (0, va_rf (some v0)), (1, va_rf (v1))]) hc d_Archiver_putAway_7 rfl (by decide) (by simp [cat_rf, cat_i, cat_l]) ?_
  refine V_aload_n hc 1 d_Archiver_putAway_8 rfl rfl ?_
  refine V_get (v := va_rf (mm_P h v0 0)) hc gf_Archiver_12 rfl q1 rfl d_Archiver_putAway_9 ?_
  refine V_get (v := .int (mm_I h a2 1)) hc gf_Archiver_52 q3 q4 rfl d_Archiver_putAway_12 ?_
  refine V_istore_n (i := 3) (lv' := [(3, .int (mm_I h a2 1)), (2, .int (mm_I h a2 0)), (0, va_rf (some v0)), (1, va_rf (v1))]) hc d_Archiver_putAway_15 rfl (by decide) rfl ?_
  refine V_aload_n hc 2 d_Archiver_putAway_16 rfl rfl ?_
  refine V_iconst (v := 1) hc d_Archiver_putAway_17 (by decide) ?_
  obtain ⟨q5, hw⟩ := hw
  obtain ⟨h6, eq_h6⟩ : ∃ x, x = mm_uI h (v0) 5 (1) := ⟨_, rfl⟩
  replace hw := hw _ eq_h6
  refine V_put (h' := h6) hc gf_Archiver_41 rfl rfl q1 q5 (by rw [eq_h6]; exact mm_Up_I _ _ _ _) (by rw [eq_h6]; exact up_vI rfl) (by decide) (by decide) d_Archiver_putAway_18 ?_
  refine V_aload_n hc 2 d_Archiver_putAway_21 rfl rfl ?_
  refine V_iconst (v := 0) hc d_Archiver_putAway_22 (by decide) ?_
  obtain ⟨q7, hw⟩ := hw
  obtain ⟨q8, hw⟩ := hw
  obtain ⟨h9, eq_h9⟩ : ∃ x, x = mm_uI h6 (v0) 6 (0) := ⟨_, rfl⟩
  replace hw := hw _ eq_h9
  refine V_put (h' := h9) hc gf_Archiver_45 rfl rfl q7 q8 (by rw [eq_h9]; exact mm_Up_I _ _ _ _) (by rw [eq_h9]; exact up_vI rfl) (by decide) (by decide) d_Archiver_putAway_23 ?_
  refine V_aload_n hc 2 d_Archiver_putAway_26 rfl rfl ?_
  refine V_aload_n hc 3 d_Archiver_putAway_27 rfl rfl ?_
  obtain ⟨q10, hw⟩ := hw
  refine V_callV (rm' := rm_Archiver_goOver) (As := [va_rf (v1)]) (rest := []) (n := 1) (cn := 2) hc rfl q10 (sat_Archiver_goOver (eG E) _ _ _ _ hw) rfl cv_Archiver_55 (gw_of (tw_4 (List.mem_of_getElem? (i := 65) rfl)) rfl) ss_Archiver_goOver rfl ⟨by decide, by decide⟩ (by decide) (by decide) rfl (by simp [cat_rf, cat_i, cat_l]) d_Archiver_putAway_28 (fun r0 h11 hw => ?_)
  obtain ⟨rfl, hw⟩ := hw
  refine V_wide (cs' := 0) (sl' := 0) (by decide) (by decide) ?_
  refine V_st (st' := []) rfl ?_
  refine V_aload_n hc 2 d_Archiver_putAway_31 rfl rfl ?_
  obtain ⟨q13, hw⟩ := hw
  refine V_get (v := .int (mm_I h11 v0 6)) hc gf_Archiver_45 rfl q13 rfl d_Archiver_putAway_32 ?_
  refine V_if_eq (tgt := 50) hc d_Archiver_putAway_35 (by decide) (fun hq1 => ?_) (fun hq1 => ?_)
  · replace hw := hw.1 hq1
    refine V_aload_n hc 2 d_Archiver_putAway_50 rfl rfl ?_
    refine V_get (v := va_rf (mm_P h11 v0 0)) hc gf_Archiver_12 rfl q13 rfl d_Archiver_putAway_51 ?_
    obtain ⟨a14, q15, hw⟩ := hw
    obtain ⟨q16, hw⟩ := hw
    refine V_get (v := .int (mm_I h11 a14 0)) hc gf_Archiver_48 q15 q16 rfl d_Archiver_putAway_54 ?_
    refine V_iload_n hc 1 d_Archiver_putAway_57 rfl rfl ?_
    refine V_isub hc d_Archiver_putAway_58 ?_
    exact V_iret hc hq ⟨_, rfl, hw⟩ (by decide) (by decide) d_Archiver_putAway_59
  · replace hw := hw.2 hq1
    refine V_aload_n hc 2 d_Archiver_putAway_38 rfl rfl ?_
    refine V_get (v := va_rf (mm_P h11 v0 0)) hc gf_Archiver_12 rfl q13 rfl d_Archiver_putAway_39 ?_
    refine V_iload_n hc 1 d_Archiver_putAway_42 rfl rfl ?_
    refine V_iload_n hc 0 d_Archiver_putAway_43 rfl rfl ?_
    obtain ⟨a17, q18, hw⟩ := hw
    obtain ⟨q19, hw⟩ := hw
    refine V_callV (rm' := rm_Store_goBackTo) (As := [.int (mm_I h a2 0), .int (mm_I h a2 1)]) (rest := []) (n := 2) (cn := 11) hc q18 q19 (sat_Store_goBackTo (eG E) _ _ _ _ _ hw) rfl cv_Archiver_59 (gw_of (tw_4 (List.mem_of_getElem? (i := 128) rfl)) rfl) ss_Store_goBackTo rfl ⟨by decide, by decide⟩ (by decide) (by decide) rfl (by simp [cat_rf, cat_i, cat_l]) d_Archiver_putAway_44 (fun r0 h20 hw => ?_)
    obtain ⟨rfl, hw⟩ := hw
    refine V_wide (cs' := 0) (sl' := 0) (by decide) (by decide) ?_
    refine V_st (st' := []) rfl ?_
    refine V_bipush (v := (-2)) hc d_Archiver_putAway_47 (by decide) ?_
    exact V_iret hc hq ⟨_, rfl, hw⟩ (by decide) (by decide) d_Archiver_putAway_49
def wq_Archiver_putAway (ge : Nat → Nat) (v0 : Nat) (v1 : Option Nat) (h : mm_M) (Z : Int32 → mm_M → Prop) : Prop := wq_Archiver_putAway_0 ge v0 v1 h Z
theorem sat_Archiver_putAway (G : mm_G) (v0 : Nat) (v1 : Option Nat) (h : mm_M) (Z : Int32 → mm_M → Prop) (hw : wq_Archiver_putAway (mm_ge G) v0 v1 h Z) : mm_Met G y_Archiver_putAway c_Archiver_putAway 4 (some (.int)) rm_Archiver_putAway [va_rf (some v0), va_rf (v1)] h (pI Z) := by
  refine mm_intro (own := "EpochServer$Archiver") (by decide) rfl (by simp [lg_sl, cat_rf, cat_i, cat_l]) (fun E e1 hc hq hi => ?_)
  subst e1
  have e2 : lv_args 0 [va_rf (some v0), va_rf (v1)] = [(0, va_rf (some v0)), (1, va_rf (v1))] := by simp [lv_args, cat_rf, cat_i, cat_l]
  rw [e2]
  refine V_sub (lv' := [(0, va_rf (some v0)), (1, va_rf (v1))]) [0, 1] rfl ?_
  exact vb_Archiver_putAway_0 hc hq v0 v1 h hw
