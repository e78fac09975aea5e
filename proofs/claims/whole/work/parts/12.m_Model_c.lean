/-! Model.isOnes(I)Z -/
abbrev rm_Model_isOnes : Room := { frames := 0, cells := 0, slots := 0, locals := 0 }
def wq_Model_isOnes_77  (ge : Nat → Nat) (v0 : Nat) (v1 : Int32) (v2 : Int32) (h : mm_M) (Z : Int32 → mm_M → Prop) : Prop :=
  mm_k h (v0) = kd_Model ∧ ge 0 ≤ v0 ∧ ∀ h3 : mm_M, h3 = mm_uI h (v0) 28 ((mm_I h v0 28) + (v1)) → ((v2) = 0 ∨ (v2) = 1) ∧ Z (v2) h3
def wq_Model_isOnes_59  (ge : Nat → Nat) (v0 : Nat) (v1 : Int32) (v2 : Int32) (h : mm_M) (Z : Int32 → mm_M → Prop) : Prop :=
  mm_k h (v0) = kd_Model ∧ ((((mm_I h v0 28) + (v1) : Int32) ≤ (mm_I h v0 29 : Int32) → wq_Model_isOnes_77  ge (v0) (v1) (v2) h Z) ∧ (¬ ((mm_I h v0 28) + (v1) : Int32) ≤ (mm_I h v0 29 : Int32) → ge 0 ≤ v0 ∧ ∀ h3 : mm_M, h3 = mm_uI h (v0) 30 (0) → wq_Model_isOnes_77  ge (v0) (v1) (v2) h3 Z))
def wq_Model_isOnes_52 (X21 : Nat → Int32 → Int32 → Int32 → mm_M → Prop) (ge : Nat → Nat) (v0 : Nat) (v1 : Int32) (v3 : Int32) (s0 : Int32) (h : mm_M) (Z : Int32 → mm_M → Prop) : Prop :=
  X21 (v0) (v1) (s0) (v3 + 1) h
def wq_Model_isOnes_21 (X21 : Nat → Int32 → Int32 → Int32 → mm_M → Prop) (ge : Nat → Nat) (v0 : Nat) (v1 : Int32) (v2 : Int32) (v3 : Int32) (h : mm_M) (Z : Int32 → mm_M → Prop) : Prop :=
  (((v1 : Int32) ≤ (v3 : Int32) → wq_Model_isOnes_59  ge (v0) (v1) (v2) h Z) ∧ (¬ (v1 : Int32) ≤ (v3 : Int32) → (((v2) = 0 → wq_Model_isOnes_59  ge (v0) (v1) (v2) h Z) ∧ (¬ (v2) = 0 → mm_k h (v0) = kd_Model ∧ ∃ a2, mm_P h v0 14 = some a2 ∧ mm_k h (a2) = ka_I ∧ vp_in ((mm_I h v0 28) + (v3)) (mm_n h a2) ∧ ((¬ (mm_I h a2 (Int32.toNatClampNeg ((mm_I h v0 28) + (v3))) : Int32) = (255 : Int32) → wq_Model_isOnes_52 X21 ge (v0) (v1) (v3) (0) h Z) ∧ ((mm_I h a2 (Int32.toNatClampNeg ((mm_I h v0 28) + (v3))) : Int32) = (255 : Int32) → wq_Model_isOnes_52 X21 ge (v0) (v1) (v3) (1) h Z))))))
def lp_Model_isOnes_21  (ge : Nat → Nat) (v0 : Nat) (v1 : Int32) (v2 : Int32) (v3 : Int32) (h : mm_M) (Z : Int32 → mm_M → Prop) : Prop :=
  ∀ X21 : Nat → Int32 → Int32 → Int32 → mm_M → Prop, (∀ (v0 : Nat) (v1 : Int32) (v2 : Int32) (v3 : Int32) (h : mm_M), wq_Model_isOnes_21 X21 ge v0 v1 v2 v3 h Z → X21 v0 v1 v2 v3 h) → X21 v0 v1 v2 v3 h
def wq_Model_isOnes_18  (ge : Nat → Nat) (v0 : Nat) (v1 : Int32) (s0 : Int32) (h : mm_M) (Z : Int32 → mm_M → Prop) : Prop :=
  lp_Model_isOnes_21  ge (v0) (v1) (s0) (0) h Z
def wq_Model_isOnes_0  (ge : Nat → Nat) (v0 : Nat) (v1 : Int32) (h : mm_M) (Z : Int32 → mm_M → Prop) : Prop :=
  mm_k h (v0) = kd_Model ∧ (((mm_I h v0 29 : Int32) < ((mm_I h v0 28) + (v1) : Int32) → wq_Model_isOnes_18  ge (v0) (v1) (0) h Z) ∧ (¬ (mm_I h v0 29 : Int32) < ((mm_I h v0 28) + (v1) : Int32) → wq_Model_isOnes_18  ge (v0) (v1) (1) h Z))
set_option maxRecDepth 100000 in
set_option maxHeartbeats 4000000 in
theorem vb_Model_isOnes_77 {E : mm_E} {Z : Int32 → mm_M → Prop} (hc : cx E "EpochServerModel" c_Model_isOnes 4 (some (.boolean)) rm_Model_isOnes) (hq : cq E rm_Model_isOnes (pI Z))  (v0 : Nat) (v1 : Int32) (v2 : Int32) (h : mm_M) (hw : wq_Model_isOnes_77  (mm_ge (eG E)) v0 v1 v2 h Z) : V E 4 0 0 h 77 [(0, va_rf (some v0)), (1, .int (v1)), (2, .int (v2))] [] := by
  unfold wq_Model_isOnes_77 at hw
  refine V_aload_n hc 0 d_Model_isOnes_77 rfl rfl ?_
  refine V_dup hc d_Model_isOnes_78 (cat_rf _) ?_
  obtain ⟨q1, hw⟩ := hw
  refine V_get (v := .int (mm_I h v0 28)) hc gf_Model_114 rfl q1 rfl d_Model_isOnes_79 ?_
  refine V_iload_n hc 1 d_Model_isOnes_82 rfl rfl ?_
  refine V_iadd hc d_Model_isOnes_83 ?_
  obtain ⟨q2, hw⟩ := hw
  obtain ⟨h3, eq_h3⟩ : ∃ x, x = mm_uI h (v0) 28 ((mm_I h v0 28) + (v1)) := ⟨_, rfl⟩
  replace hw := hw _ eq_h3
  refine V_put (h' := h3) hc gf_Model_114 rfl rfl q1 q2 (by rw [eq_h3]; exact mm_Up_I _ _ _ _) (by rw [eq_h3]; exact up_vI rfl) (vp_nar_int _) rfl d_Model_isOnes_84 ?_
  refine V_iload_n hc 2 d_Model_isOnes_87 rfl rfl ?_
  obtain ⟨q4, hw⟩ := hw
  exact V_zret hc hq (zz_nar q4) ⟨_, rfl, hw⟩ (by decide) (by decide) d_Model_isOnes_88
set_option maxRecDepth 100000 in
set_option maxHeartbeats 4000000 in
theorem vb_Model_isOnes_59 {E : mm_E} {Z : Int32 → mm_M → Prop} (hc : cx E "EpochServerModel" c_Model_isOnes 4 (some (.boolean)) rm_Model_isOnes) (hq : cq E rm_Model_isOnes (pI Z))  (v0 : Nat) (v1 : Int32) (v2 : Int32) (h : mm_M) (hw : wq_Model_isOnes_59  (mm_ge (eG E)) v0 v1 v2 h Z) : V E 4 0 0 h 59 [(0, va_rf (some v0)), (1, .int (v1)), (2, .int (v2))] [] := by
  unfold wq_Model_isOnes_59 at hw
  refine V_aload_n hc 0 d_Model_isOnes_59 rfl rfl ?_
  obtain ⟨q1, hw⟩ := hw
  refine V_get (v := .int (mm_I h v0 28)) hc gf_Model_114 rfl q1 rfl d_Model_isOnes_60 ?_
  refine V_iload_n hc 1 d_Model_isOnes_63 rfl rfl ?_
  refine V_iadd hc d_Model_isOnes_64 ?_
  refine V_aload_n hc 0 d_Model_isOnes_65 rfl rfl ?_
  refine V_get (v := .int (mm_I h v0 29)) hc gf_Model_117 rfl q1 rfl d_Model_isOnes_66 ?_
  refine V_icmp_le (tgt := 77) hc d_Model_isOnes_69 (by decide) (fun hq1 => ?_) (fun hq1 => ?_)
  · replace hw := hw.1 hq1
    refine V_sub (lv' := [(0, va_rf (some v0)), (1, .int (v1)), (2, .int (v2))]) [0, 1, 2] rfl ?_
    exact vb_Model_isOnes_77 hc hq  _ _ _ _ hw
  · replace hw := hw.2 hq1
    refine V_aload_n hc 0 d_Model_isOnes_72 rfl rfl ?_
    refine V_iconst (v := 0) hc d_Model_isOnes_73 (by decide) ?_
    obtain ⟨q2, hw⟩ := hw
    obtain ⟨h3, eq_h3⟩ : ∃ x, x = mm_uI h (v0) 30 (0) := ⟨_, rfl⟩
    replace hw := hw _ eq_h3
    refine V_put (h' := h3) hc gf_Model_120 rfl rfl q1 q2 (by rw [eq_h3]; exact mm_Up_I _ _ _ _) (by rw [eq_h3]; exact up_vI rfl) (by decide) (by decide) d_Model_isOnes_74 ?_
    refine V_sub (lv' := [(0, va_rf (some v0)), (1, .int (v1)), (2, .int (v2))]) [0, 1, 2] rfl ?_
    exact vb_Model_isOnes_77 hc hq  _ _ _ _ hw
set_option maxRecDepth 100000 in
set_option maxHeartbeats 4000000 in
theorem vb_Model_isOnes_52 {E : mm_E} {Z : Int32 → mm_M → Prop} (hc : cx E "EpochServerModel" c_Model_isOnes 4 (some (.boolean)) rm_Model_isOnes) (hq : cq E rm_Model_isOnes (pI Z)) (X21 : Nat → Int32 → Int32 → Int32 → mm_M → Prop) (hX21 : ∀ (v0 : Nat) (v1 : Int32) (v2 : Int32) (v3 : Int32) (h : mm_M), X21 v0 v1 v2 v3 h → V E 4 0 0 h 21 [(0, va_rf (some v0)), (1, .int (v1)), (2, .int (v2)), (3, .int (v3))] []) (v0 : Nat) (v1 : Int32) (v3 : Int32) (s0 : Int32) (h : mm_M) (hw : wq_Model_isOnes_52 X21 (mm_ge (eG E)) v0 v1 v3 s0 h Z) : V E 4 0 0 h 52 [(0, va_rf (some v0)), (1, .int (v1)), (3, .int (v3))] [.int (s0)] := by
  unfold wq_Model_isOnes_52 at hw
  refine V_istore_n (i := 2) (lv' := [(2, .int (s0)), (0, va_rf (some v0)), (1, .int (v1)), (3, .int (v3))]) hc d_Model_isOnes_52 rfl (by decide) rfl ?_
  refine V_iinc (v := v3 + 1) (lv' := [(3, .int (v3 + 1)), (2, .int (s0)), (0, va_rf (some v0)), (1, .int (v1))]) hc 3 d_Model_isOnes_53 rfl rfl (by decide) rfl ?_
  refine V_goto (tgt := 21) hc d_Model_isOnes_56 (by decide) ?_
  refine V_sub (lv' := [(0, va_rf (some v0)), (1, .int (v1)), (2, .int (s0)), (3, .int (v3 + 1))]) [2, 3, 1, 0] rfl ?_
  exact hX21 _ _ _ _ _ hw
set_option maxRecDepth 100000 in
set_option maxHeartbeats 4000000 in
theorem vb_Model_isOnes_21 {E : mm_E} {Z : Int32 → mm_M → Prop} (hc : cx E "EpochServerModel" c_Model_isOnes 4 (some (.boolean)) rm_Model_isOnes) (hq : cq E rm_Model_isOnes (pI Z)) (X21 : Nat → Int32 → Int32 → Int32 → mm_M → Prop) (hX21 : ∀ (v0 : Nat) (v1 : Int32) (v2 : Int32) (v3 : Int32) (h : mm_M), X21 v0 v1 v2 v3 h → V E 4 0 0 h 21 [(0, va_rf (some v0)), (1, .int (v1)), (2, .int (v2)), (3, .int (v3))] []) (v0 : Nat) (v1 : Int32) (v2 : Int32) (v3 : Int32) (h : mm_M) (hw : wq_Model_isOnes_21 X21 (mm_ge (eG E)) v0 v1 v2 v3 h Z) : V E 4 0 0 h 21 [(0, va_rf (some v0)), (1, .int (v1)), (2, .int (v2)), (3, .int (v3))] [] := by
  unfold wq_Model_isOnes_21 at hw
  refine V_iload_n hc 3 d_Model_isOnes_21 rfl rfl ?_
  refine V_iload_n hc 1 d_Model_isOnes_22 rfl rfl ?_
  refine V_icmp_ge (tgt := 59) hc d_Model_isOnes_23 (by decide) (fun hq1 => ?_) (fun hq1 => ?_)
  · replace hw := hw.1 hq1
    refine V_sub (lv' := [(0, va_rf (some v0)), (1, .int (v1)), (2, .int (v2))]) [0, 1, 2] rfl ?_
    exact vb_Model_isOnes_59 hc hq  _ _ _ _ hw
  · replace hw := hw.2 hq1
    refine V_iload_n hc 2 d_Model_isOnes_26 rfl rfl ?_
    refine V_if_eq (tgt := 59) hc d_Model_isOnes_27 (by decide) (fun hq1 => ?_) (fun hq1 => ?_)
    · replace hw := hw.1 hq1
      refine V_sub (lv' := [(0, va_rf (some v0)), (1, .int (v1)), (2, .int (v2))]) [0, 1, 2] rfl ?_
      exact vb_Model_isOnes_59 hc hq  _ _ _ _ hw
    · replace hw := hw.2 hq1
      refine V_aload_n hc 0 d_Model_isOnes_30 rfl rfl ?_
      obtain ⟨q1, hw⟩ := hw
      refine V_get (v := va_rf (mm_P h v0 14)) hc gf_Model_44 rfl q1 rfl d_Model_isOnes_31 ?_
      refine V_aload_n hc 0 d_Model_isOnes_34 rfl rfl ?_
      refine V_get (v := .int (mm_I h v0 28)) hc gf_Model_114 rfl q1 rfl d_Model_isOnes_35 ?_
      refine V_iload_n hc 3 d_Model_isOnes_38 rfl rfl ?_
      refine V_iadd hc d_Model_isOnes_39 ?_
      obtain ⟨a2, q3, hw⟩ := hw
      obtain ⟨q4, hw⟩ := hw
      obtain ⟨q5, hw⟩ := hw
      refine V_iald hc q3 q4 q5 d_Model_isOnes_40 ?_
      refine V_sipush (v := 255) hc d_Model_isOnes_41 (by decide) ?_
      refine V_icmp_ne (tgt := 51) hc d_Model_isOnes_44 (by decide) (fun hq1 => ?_) (fun hq1 => ?_)
      · replace hw := hw.1 hq1
        refine V_iconst (v := 0) hc d_Model_isOnes_51 (by decide) ?_
        refine V_sub (lv' := [(0, va_rf (some v0)), (1, .int (v1)), (3, .int (v3))]) [0, 1, 3] rfl ?_
        exact vb_Model_isOnes_52 hc hq X21 hX21 _ _ _ _ _ hw
      · replace hw := hw.2 hq1
        refine V_iconst (v := 1) hc d_Model_isOnes_47 (by decide) ?_
        refine V_goto (tgt := 52) hc d_Model_isOnes_48 (by decide) ?_
        refine V_sub (lv' := [(0, va_rf (some v0)), (1, .int (v1)), (3, .int (v3))]) [0, 1, 3] rfl ?_
        exact vb_Model_isOnes_52 hc hq X21 hX21 _ _ _ _ _ hw
theorem vl_Model_isOnes_21 {E : mm_E} {Z : Int32 → mm_M → Prop} (hc : cx E "EpochServerModel" c_Model_isOnes 4 (some (.boolean)) rm_Model_isOnes) (hq : cq E rm_Model_isOnes (pI Z))  (v0 : Nat) (v1 : Int32) (v2 : Int32) (v3 : Int32) (h : mm_M) (hw : lp_Model_isOnes_21  (mm_ge (eG E)) v0 v1 v2 v3 h Z) : V E 4 0 0 h 21 [(0, va_rf (some v0)), (1, .int (v1)), (2, .int (v2)), (3, .int (v3))] [] :=
  hw (fun v0 v1 v2 v3 h => V E 4 0 0 h 21 [(0, va_rf (some v0)), (1, .int (v1)), (2, .int (v2)), (3, .int (v3))] []) (fun v0 v1 v2 v3 h hb => vb_Model_isOnes_21 hc hq  _ (fun _ _ _ _ _ q => q) v0 v1 v2 v3 h hb)
set_option maxRecDepth 100000 in
set_option maxHeartbeats 4000000 in
theorem vb_Model_isOnes_18 {E : mm_E} {Z : Int32 → mm_M → Prop} (hc : cx E "EpochServerModel" c_Model_isOnes 4 (some (.boolean)) rm_Model_isOnes) (hq : cq E rm_Model_isOnes (pI Z))  (v0 : Nat) (v1 : Int32) (s0 : Int32) (h : mm_M) (hw : wq_Model_isOnes_18  (mm_ge (eG E)) v0 v1 s0 h Z) : V E 4 0 0 h 18 [(0, va_rf (some v0)), (1, .int (v1))] [.int (s0)] := by
  unfold wq_Model_isOnes_18 at hw
  refine V_istore_n (i := 2) (lv' := [(2, .int (s0)), (0, va_rf (some v0)), (1, .int (v1))]) hc d_Model_isOnes_18 rfl (by decide) rfl ?_
  refine V_iconst (v := 0) hc d_Model_isOnes_19 (by decide) ?_
  refine V_istore_n (i := 3) (lv' := [(3, .int (0)), (2, .int (s0)), (0, va_rf (some v0)), (1, .int (v1))]) hc d_Model_isOnes_20 rfl (by decide) rfl ?_
  refine V_sub (lv' := [(0, va_rf (some v0)), (1, .int (v1)), (2, .int (s0)), (3, .int (0))]) [2, 3, 1, 0] rfl ?_
  exact vl_Model_isOnes_21 hc hq  _ _ _ _ _ hw
set_option maxRecDepth 100000 in
set_option maxHeartbeats 4000000 in
theorem vb_Model_isOnes_0 {E : mm_E} {Z : Int32 → mm_M → Prop} (hc : cx E "EpochServerModel" c_Model_isOnes 4 (some (.boolean)) rm_Model_isOnes) (hq : cq E rm_Model_isOnes (pI Z))  (v0 : Nat) (v1 : Int32) (h : mm_M) (hw : wq_Model_isOnes_0  (mm_ge (eG E)) v0 v1 h Z) : V E 4 0 0 h 0 [(0, va_rf (some v0)), (1, .int (v1))] [] := by
  unfold wq_Model_isOnes_0 at hw
  refine V_aload_n hc 0 d_Model_isOnes_0 rfl rfl ?_
  obtain ⟨q1, hw⟩ := hw
  refine V_get (v := .int (mm_I h v0 28)) hc gf_Model_114 rfl q1 rfl d_Model_isOnes_1 ?_
  refine V_iload_n hc 1 d_Model_isOnes_4 rfl rfl ?_
  refine V_iadd hc d_Model_isOnes_5 ?_
  refine V_aload_n hc 0 d_Model_isOnes_6 rfl rfl ?_
  refine V_get (v := .int (mm_I h v0 29)) hc gf_Model_117 rfl q1 rfl d_Model_isOnes_7 ?_
  refine V_icmp_gt (tgt := 17) hc d_Model_isOnes_10 (by decide) (fun hq1 => ?_) (fun hq1 => ?_)
  · replace hw := hw.1 hq1
    refine V_iconst (v := 0) hc d_Model_isOnes_17 (by decide) ?_
    refine V_sub (lv' := [(0, va_rf (some v0)), (1, .int (v1))]) [0, 1] rfl ?_
    exact vb_Model_isOnes_18 hc hq  _ _ _ _ hw
  · replace hw := hw.2 hq1
    refine V_iconst (v := 1) hc d_Model_isOnes_13 (by decide) ?_
    refine V_goto (tgt := 18) hc d_Model_isOnes_14 (by decide) ?_
    refine V_sub (lv' := [(0, va_rf (some v0)), (1, .int (v1))]) [0, 1] rfl ?_
    exact vb_Model_isOnes_18 hc hq  _ _ _ _ hw
def wq_Model_isOnes (ge : Nat → Nat) (v0 : Nat) (v1 : Int32) (h : mm_M) (Z : Int32 → mm_M → Prop) : Prop := wq_Model_isOnes_0 ge v0 v1 h Z
theorem sat_Model_isOnes (G : mm_G) (v0 : Nat) (v1 : Int32) (h : mm_M) (Z : Int32 → mm_M → Prop) (hw : wq_Model_isOnes (mm_ge G) v0 v1 h Z) : mm_Met G y_Model_isOnes c_Model_isOnes 4 (some (.boolean)) rm_Model_isOnes [va_rf (some v0), .int (v1)] h (pI Z) := by
  refine mm_intro (own := "EpochServerModel") (by decide) rfl (by simp [lg_sl, cat_rf, cat_i, cat_l]) (fun E e1 hc hq hi => ?_)
  subst e1
  have e2 : lv_args 0 [va_rf (some v0), .int (v1)] = [(0, va_rf (some v0)), (1, .int (v1))] := by simp [lv_args, cat_rf, cat_i, cat_l]
  rw [e2]
  refine V_sub (lv' := [(0, va_rf (some v0)), (1, .int (v1))]) [0, 1] rfl ?_
  exact vb_Model_isOnes_0 hc hq v0 v1 h hw
/-! Model.readsStat()V -/
abbrev rm_Model_readsStat : Room := { frames := 2, cells := 0, slots := 0, locals := 44 }
def wq_Model_readsStat_33  (ge : Nat → Nat) (v0 : Nat) (h : mm_M) (Z : mm_M → Prop) : Prop :=
  mm_k h (v0) = kd_Model ∧ ge 0 ≤ v0 ∧ ∀ h3 : mm_M, h3 = mm_uI h (v0) 30 (0) → Z h3
def wq_Model_readsStat_169 (X143 : Nat → Int32 → mm_M → Prop) (ge : Nat → Nat) (v0 : Nat) (v2 : Int32) (s0 : Option Nat) (s1 : Int32) (s2 : Int32) (h : mm_M) (Z : mm_M → Prop) : Prop :=
  ∃ a1, s0 = some a1 ∧ mm_k h (a1) = kd_Model ∧ ge 0 ≤ a1 ∧ (((s1) &&& (s2)) = 0 ∨ ((s1) &&& (s2)) = 1) ∧ ∀ h6 : mm_M, h6 = mm_uI h (a1) 51 ((s1) &&& (s2)) → X143 (v0) (v2 + 1) h6
def wq_Model_readsStat_143 (X143 : Nat → Int32 → mm_M → Prop) (ge : Nat → Nat) (v0 : Nat) (v2 : Int32) (h : mm_M) (Z : mm_M → Prop) : Prop :=
  (((3 : Int32) ≤ (v2 : Int32) → Z h) ∧ (¬ (3 : Int32) ≤ (v2 : Int32) → mm_k h (v0) = kd_Model ∧ wq_Model_text ge (v0) h (fun h2 : mm_M => mm_k h2 (v0) = kd_Model ∧ ((¬ (mm_I h2 v0 32) = 0 → wq_Model_readsStat_169 X143 ge (v0) (v2) (some v0) (mm_I h2 v0 51) (0) h2 Z) ∧ ((mm_I h2 v0 32) = 0 → wq_Model_readsStat_169 X143 ge (v0) (v2) (some v0) (mm_I h2 v0 51) (1) h2 Z)))))
def lp_Model_readsStat_143  (ge : Nat → Nat) (v0 : Nat) (v2 : Int32) (h : mm_M) (Z : mm_M → Prop) : Prop :=
  ∀ X143 : Nat → Int32 → mm_M → Prop, (∀ (v0 : Nat) (v2 : Int32) (h : mm_M), wq_Model_readsStat_143 X143 ge v0 v2 h Z → X143 v0 v2 h) → X143 v0 v2 h
def wq_Model_readsStat_0  (ge : Nat → Nat) (v0 : Nat) (h : mm_M) (Z : mm_M → Prop) : Prop :=
  mm_k h (v0) = kd_Model ∧ wq_Model_number ge (v0) (2) h (fun (r3 : Int64) (h2 : mm_M) => mm_k h2 (v0) = kd_Model ∧ ((¬ (Int64.toInt32 (r3) : Int32) = ((mm_I h2 v0 29) - (mm_I h2 v0 28) : Int32) → wq_Model_readsStat_33  ge (v0) h2 Z) ∧ ((Int64.toInt32 (r3) : Int32) = ((mm_I h2 v0 29) - (mm_I h2 v0 28) : Int32) → wq_Model_number ge (v0) (2) h2 (fun (r6 : Int64) (h5 : mm_M) => (((lg_cmp (r6) (Int32.toInt64 ((Int64.toInt32 (r3)) - (2 : Int32)))) = 0 → mm_k h5 (v0) = kd_Model ∧ wq_Model_isOnes ge (v0) (2) h5 (fun (r9 : Int32) (h8 : mm_M) => mm_k h8 (v0) = kd_Model ∧ ge 0 ≤ v0 ∧ ((r9) = 0 ∨ (r9) = 1) ∧ ∀ h13 : mm_M, h13 = mm_uI h8 (v0) 51 (r9) → mm_k h13 (v0) = kd_Model ∧ wq_Model_isOnes ge (v0) (4) h13 (fun (r16 : Int32) (h15 : mm_M) => mm_k h15 (v0) = kd_Model ∧ ge 0 ≤ v0 ∧ (((mm_I h13 v0 51) &&& (r16)) = 0 ∨ ((mm_I h13 v0 51) &&& (r16)) = 1) ∧ ∀ h20 : mm_M, h20 = mm_uI h15 (v0) 51 ((mm_I h13 v0 51) &&& (r16)) → mm_k h20 (v0) = kd_Model ∧ wq_Model_isOnes ge (v0) (13) h20 (fun (r23 : Int32) (h22 : mm_M) => mm_k h22 (v0) = kd_Model ∧ ge 0 ≤ v0 ∧ (((mm_I h20 v0 51) &&& (r23)) = 0 ∨ ((mm_I h20 v0 51) &&& (r23)) = 1) ∧ ∀ h27 : mm_M, h27 = mm_uI h22 (v0) 51 ((mm_I h20 v0 51) &&& (r23)) → mm_k h27 (v0) = kd_Model ∧ wq_Model_number ge (v0) (4) h27 (fun (r30 : Int64) (h29 : mm_M) => mm_k h29 (v0) = kd_Model ∧ ge 0 ≤ v0 ∧ ∀ h33 : mm_M, h33 = mm_uI h29 (v0) 48 (Int64.toInt32 (r30)) → mm_k h33 (v0) = kd_Model ∧ wq_Model_isOnes ge (v0) (4) h33 (fun (r36 : Int32) (h35 : mm_M) => mm_k h35 (v0) = kd_Model ∧ ge 0 ≤ v0 ∧ (((mm_I h33 v0 51) &&& (r36)) = 0 ∨ ((mm_I h33 v0 51) &&& (r36)) = 1) ∧ ∀ h40 : mm_M, h40 = mm_uI h35 (v0) 51 ((mm_I h33 v0 51) &&& (r36)) → mm_k h40 (v0) = kd_Model ∧ wq_Model_number ge (v0) (4) h40 (fun (r43 : Int64) (h42 : mm_M) => mm_k h42 (v0) = kd_Model ∧ ge 0 ≤ v0 ∧ ∀ h46 : mm_M, h46 = mm_uI h42 (v0) 49 (Int64.toInt32 (r43)) → mm_k h46 (v0) = kd_Model ∧ wq_Model_number ge (v0) (8) h46 (fun (r49 : Int64) (h48 : mm_M) => mm_k h48 (v0) = kd_Model ∧ ge 0 ≤ v0 ∧ ∀ h52 : mm_M, h52 = mm_uL h48 (v0) 50 (r49) → mm_k h52 (v0) = kd_Model ∧ wq_Model_text ge (v0) h52 (fun h54 : mm_M => mm_k h54 (v0) = kd_Model ∧ ge 0 ≤ v0 ∧ ∀ h58 : mm_M, h58 = mm_uI h54 (v0) 38 (mm_I h54 v0 31) → mm_k h58 (v0) = kd_Model ∧ ge 0 ≤ v0 ∧ ∀ h61 : mm_M, h61 = mm_uI h58 (v0) 39 (mm_I h58 v0 32) → lp_Model_readsStat_143  ge (v0) (0) h61 Z))))))))) ∧ (¬ (lg_cmp (r6) (Int32.toInt64 ((Int64.toInt32 (r3)) - (2 : Int32)))) = 0 → wq_Model_readsStat_33  ge (v0) h5 Z))))))
set_option maxRecDepth 100000 in
set_option maxHeartbeats 4000000 in
theorem vb_Model_readsStat_33 {E : mm_E} {Z : mm_M → Prop} (hc : cx E "EpochServerModel" c_Model_readsStat 3 none rm_Model_readsStat) (hq : cq E rm_Model_readsStat (pV Z))  (v0 : Nat) (h : mm_M) (hw : wq_Model_readsStat_33  (mm_ge (eG E)) v0 h Z) : V E 3 0 0 h 33 [(0, va_rf (some v0))] [] := by
  unfold wq_Model_readsStat_33 at hw
  refine V_aload_n hc 0 d_Model_readsStat_33 rfl rfl ?_
  refine V_iconst (v := 0) hc d_Model_readsStat_34 (by decide) ?_
  obtain ⟨q1, hw⟩ := hw
  obtain ⟨q2, hw⟩ := hw
  obtain ⟨h3, eq_h3⟩ : ∃ x, x = mm_uI h (v0) 30 (0) := ⟨_, rfl⟩
  replace hw := hw _ eq_h3
  refine V_put (h' := h3) hc gf_Model_120 rfl rfl q1 q2 (by rw [eq_h3]; exact mm_Up_I _ _ _ _) (by rw [eq_h3]; exact up_vI rfl) (by decide) (by decide) d_Model_readsStat_35 ?_
  exact V_vret hc hq ⟨rfl, hw⟩ (by decide) (by decide) d_Model_readsStat_38
set_option maxRecDepth 100000 in
set_option maxHeartbeats 4000000 in
theorem vb_Model_readsStat_169 {E : mm_E} {Z : mm_M → Prop} (hc : cx E "EpochServerModel" c_Model_readsStat 3 none rm_Model_readsStat) (hq : cq E rm_Model_readsStat (pV Z)) (X143 : Nat → Int32 → mm_M → Prop) (hX143 : ∀ (v0 : Nat) (v2 : Int32) (h : mm_M), X143 v0 v2 h → V E 3 0 0 h 143 [(0, va_rf (some v0)), (2, .int (v2))] []) (v0 : Nat) (v2 : Int32) (s0 : Option Nat) (s1 : Int32) (s2 : Int32) (h : mm_M) (hw : wq_Model_readsStat_169 X143 (mm_ge (eG E)) v0 v2 s0 s1 s2 h Z) : V E 3 0 0 h 169 [(0, va_rf (some v0)), (2, .int (v2))] [.int (s2), .int (s1), va_rf (s0)] := by
  unfold wq_Model_readsStat_169 at hw
  refine V_iand hc d_Model_readsStat_169 ?_
  obtain ⟨a1, q2, hw⟩ := hw
  obtain ⟨q3, hw⟩ := hw
  obtain ⟨q4, hw⟩ := hw
  obtain ⟨q5, hw⟩ := hw
  obtain ⟨h6, eq_h6⟩ : ∃ x, x = mm_uI h (a1) 51 ((s1) &&& (s2)) := ⟨_, rfl⟩
  replace hw := hw _ eq_h6
  refine V_put (h' := h6) hc gf_Model_175 rfl q2 q3 q4 (by rw [eq_h6]; exact mm_Up_I _ _ _ _) (by rw [eq_h6]; exact up_vI rfl) (zz_nar q5) (zz_fit q5) d_Model_readsStat_170 ?_
  refine V_iinc (v := v2 + 1) (lv' := [(2, .int (v2 + 1)), (0, va_rf (some v0))]) hc 1 d_Model_readsStat_173 rfl rfl (by decide) rfl ?_
  refine V_goto (tgt := 143) hc d_Model_readsStat_176 (by decide) ?_
  refine V_sub (lv' := [(0, va_rf (some v0)), (2, .int (v2 + 1))]) [1, 0] rfl ?_
  exact hX143 _ _ _ hw
set_option maxRecDepth 100000 in
set_option maxHeartbeats 4000000 in
theorem vb_Model_readsStat_143 {E : mm_E} {Z : mm_M → Prop} (hc : cx E "EpochServerModel" c_Model_readsStat 3 none rm_Model_readsStat) (hq : cq E rm_Model_readsStat (pV Z)) (X143 : Nat → Int32 → mm_M → Prop) (hX143 : ∀ (v0 : Nat) (v2 : Int32) (h : mm_M), X143 v0 v2 h → V E 3 0 0 h 143 [(0, va_rf (some v0)), (2, .int (v2))] []) (v0 : Nat) (v2 : Int32) (h : mm_M) (hw : wq_Model_readsStat_143 X143 (mm_ge (eG E)) v0 v2 h Z) : V E 3 0 0 h 143 [(0, va_rf (some v0)), (2, .int (v2))] [] := by
  unfold wq_Model_readsStat_143 at hw
  refine V_iload_n hc 1 d_Model_readsStat_143 rfl rfl ?_
  refine V_iconst (v := 3) hc d_Model_readsStat_144 (by decide) ?_
  refine V_icmp_ge (tgt := 179) hc d_Model_readsStat_145 (by decide) (fun hq1 => ?_) (fun hq1 => ?_)
  · replace hw := hw.1 hq1
    exact V_vret hc hq ⟨rfl, hw⟩ (by decide) (by decide) d_Model_readsStat_179
  · replace hw := hw.2 hq1
    refine V_aload_n hc 0 d_Model_readsStat_148 rfl rfl ?_
    obtain ⟨q1, hw⟩ := hw
    refine V_callV (rm' := rm_Model_text) (As := []) (rest := []) (n := 0) (cn := 0) hc rfl q1 (sat_Model_text (eG E) _ _ _ hw) rfl cv_Model_138 (gw_of (tw_5 (List.mem_of_getElem? (i := 181) rfl)) rfl) ss_Model_text rfl ⟨by decide, by decide⟩ (by decide) (by decide) rfl (by simp [cat_rf, cat_i, cat_l]) d_Model_readsStat_149 (fun r0 h2 hw => ?_)
    obtain ⟨rfl, hw⟩ := hw
    refine V_wide (cs' := 0) (sl' := 0) (by decide) (by decide) ?_
    refine V_st (st' := []) rfl ?_
    refine V_aload_n hc 0 d_Model_readsStat_152 rfl rfl ?_
    refine V_dup hc d_Model_readsStat_153 (cat_rf _) ?_
    obtain ⟨q4, hw⟩ := hw
    refine V_get (v := .int (mm_I h2 v0 51)) hc gf_Model_175 rfl q4 rfl d_Model_readsStat_154 ?_
    refine V_aload_n hc 0 d_Model_readsStat_157 rfl rfl ?_
    refine V_get (v := .int (mm_I h2 v0 32)) hc gf_Model_128 rfl q4 rfl d_Model_readsStat_158 ?_
    refine V_if_ne (tgt := 168) hc d_Model_readsStat_161 (by decide) (fun hq1 => ?_) (fun hq1 => ?_)
    · replace hw := hw.1 hq1
      refine V_iconst (v := 0) hc d_Model_readsStat_168 (by decide) ?_
      refine V_sub (lv' := [(0, va_rf (some v0)), (2, .int (v2))]) [0, 1] rfl ?_
      exact vb_Model_readsStat_169 hc hq X143 hX143 _ _ _ _ _ _ hw
    · replace hw := hw.2 hq1
      refine V_iconst (v := 1) hc d_Model_readsStat_164 (by decide) ?_
      refine V_goto (tgt := 169) hc d_Model_readsStat_165 (by decide) ?_
      refine V_sub (lv' := [(0, va_rf (some v0)), (2, .int (v2))]) [0, 1] rfl ?_
      exact vb_Model_readsStat_169 hc hq X143 hX143 _ _ _ _ _ _ hw
theorem vl_Model_readsStat_143 {E : mm_E} {Z : mm_M → Prop} (hc : cx E "EpochServerModel" c_Model_readsStat 3 none rm_Model_readsStat) (hq : cq E rm_Model_readsStat (pV Z))  (v0 : Nat) (v2 : Int32) (h : mm_M) (hw : lp_Model_readsStat_143  (mm_ge (eG E)) v0 v2 h Z) : V E 3 0 0 h 143 [(0, va_rf (some v0)), (2, .int (v2))] [] :=
  hw (fun v0 v2 h => V E 3 0 0 h 143 [(0, va_rf (some v0)), (2, .int (v2))] []) (fun v0 v2 h hb => vb_Model_readsStat_143 hc hq  _ (fun _ _ _ q => q) v0 v2 h hb)
set_option maxRecDepth 100000 in
set_option maxHeartbeats 4000000 in
theorem vb_Model_readsStat_0 {E : mm_E} {Z : mm_M → Prop} (hc : cx E "EpochServerModel" c_Model_readsStat 3 none rm_Model_readsStat) (hq : cq E rm_Model_readsStat (pV Z))  (v0 : Nat) (h : mm_M) (hw : wq_Model_readsStat_0  (mm_ge (eG E)) v0 h Z) : V E 3 0 0 h 0 [(0, va_rf (some v0))] [] := by
  unfold wq_Model_readsStat_0 at hw
  refine V_aload_n hc 0 d_Model_readsStat_0 rfl rfl ?_
  refine V_iconst (v := 2) hc d_Model_readsStat_1 (by decide) ?_
  obtain ⟨q1, hw⟩ := hw
  refine V_callV (rm' := rm_Model_number) (As := [.int (2)]) (rest := []) (n := 1) (cn := 0) hc rfl q1 (sat_Model_number (eG E) _ _ _ _ hw) rfl cv_Model_124 (gw_of (tw_5 (List.mem_of_getElem? (i := 173) rfl)) rfl) ss_Model_number rfl ⟨by decide, by decide⟩ (by decide) (by decide) rfl (by simp [cat_rf, cat_i, cat_l]) d_Model_readsStat_2 (fun r0 h2 hw => ?_)
  obtain ⟨r3, rfl, hw⟩ := hw
  refine V_wide (cs' := 0) (sl' := 0) (by decide) (by decide) ?_
  refine V_st (st' := [.long (r3)]) rfl ?_
  refine V_l2i hc d_Model_readsStat_5 ?_
  refine V_istore_n (i := 1) (lv' := [(1, .int (Int64.toInt32 (r3))), (0, va_rf (some v0))]) hc d_Model_readsStat_6 rfl (by decide) rfl ?_
  refine V_iload_n hc 0 d_Model_readsStat_7 rfl rfl ?_
  refine V_aload_n hc 1 d_Model_readsStat_8 rfl rfl ?_
  obtain ⟨q4, hw⟩ := hw
  refine V_get (v := .int (mm_I h2 v0 29)) hc gf_Model_117 rfl q4 rfl d_Model_readsStat_9 ?_
  refine V_aload_n hc 1 d_Model_readsStat_12 rfl rfl ?_
  refine V_get (v := .int (mm_I h2 v0 28)) hc gf_Model_114 rfl q4 rfl d_Model_readsStat_13 ?_
  refine V_isub hc d_Model_readsStat_16 ?_
  refine V_icmp_ne (tgt := 33) hc d_Model_readsStat_17 (by decide) (fun hq1 => ?_) (fun hq1 => ?_)
  · replace hw := hw.1 hq1
    refine V_sub (lv' := [(0, va_rf (some v0))]) [1] rfl ?_
    exact vb_Model_readsStat_33 hc hq  _ _ hw
  · replace hw := hw.2 hq1
    refine V_aload_n hc 1 d_Model_readsStat_20 rfl rfl ?_
    refine V_iconst (v := 2) hc d_Model_readsStat_21 (by decide) ?_
    refine V_callV (rm' := rm_Model_number) (As := [.int (2)]) (rest := []) (n := 1) (cn := 0) hc rfl q4 (sat_Model_number (eG E) _ _ _ _ hw) rfl cv_Model_124 (gw_of (tw_5 (List.mem_of_getElem? (i := 173) rfl)) rfl) ss_Model_number rfl ⟨by decide, by decide⟩ (by decide) (by decide) rfl (by simp [cat_rf, cat_i, cat_l]) d_Model_readsStat_22 (fun r0 h5 hw => ?_)
    obtain ⟨r6, rfl, hw⟩ := hw
    refine V_wide (cs' := 0) (sl' := 0) (by decide) (by decide) ?_
    refine V_st (st' := [.long (r6)]) rfl ?_
    refine V_iload_n hc 0 d_Model_readsStat_25 rfl rfl ?_
    refine V_iconst (v := 2) hc d_Model_readsStat_26 (by decide) ?_
    refine V_isub hc d_Model_readsStat_27 ?_
    refine V_i2l hc d_Model_readsStat_28 ?_
    refine V_lcmp hc d_Model_readsStat_29 ?_
    refine V_if_eq (tgt := 39) hc d_Model_readsStat_30 (by decide) (fun hq1 => ?_) (fun hq1 => ?_)
    · replace hw := hw.1 hq1
      refine V_aload_n hc 1 d_Model_readsStat_39 rfl rfl ?_
      refine V_aload_n hc 1 d_Model_readsStat_40 rfl rfl ?_
      refine V_iconst (v := 2) hc d_Model_readsStat_41 (by decide) ?_
      obtain ⟨q7, hw⟩ := hw
      refine V_callV (rm' := rm_Model_isOnes) (As := [.int (2)]) (rest := [va_rf (some v0)]) (n := 1) (cn := 0) hc rfl q7 (sat_Model_isOnes (eG E) _ _ _ _ hw) rfl cv_Model_171 (gw_of (tw_5 (List.mem_of_getElem? (i := 189) rfl)) rfl) ss_Model_isOnes rfl ⟨by decide, by decide⟩ (by decide) (by decide) rfl (by simp [cat_rf, cat_i, cat_l]) d_Model_readsStat_42 (fun r0 h8 hw => ?_)
      obtain ⟨r9, rfl, hw⟩ := hw
      refine V_wide (cs' := 0) (sl' := 0) (by decide) (by decide) ?_
      refine V_st (st' := [.int (r9), va_rf (some v0)]) rfl ?_
      obtain ⟨q10, hw⟩ := hw
      obtain ⟨q11, hw⟩ := hw
      obtain ⟨q12, hw⟩ := hw
      obtain ⟨h13, eq_h13⟩ : ∃ x, x = mm_uI h8 (v0) 51 (r9) := ⟨_, rfl⟩
      replace hw := hw _ eq_h13
      refine V_put (h' := h13) hc gf_Model_175 rfl rfl q10 q11 (by rw [eq_h13]; exact mm_Up_I _ _ _ _) (by rw [eq_h13]; exact up_vI rfl) (zz_nar q12) (zz_fit q12) d_Model_readsStat_45 ?_
      refine V_aload_n hc 1 d_Model_readsStat_48 rfl rfl ?_
      refine V_dup hc d_Model_readsStat_49 (cat_rf _) ?_
      obtain ⟨q14, hw⟩ := hw
      refine V_get (v := .int (mm_I h13 v0 51)) hc gf_Model_175 rfl q14 rfl d_Model_readsStat_50 ?_
      refine V_aload_n hc 1 d_Model_readsStat_53 rfl rfl ?_
      refine V_iconst (v := 4) hc d_Model_readsStat_54 (by decide) ?_
      refine V_callV (rm' := rm_Model_isOnes) (As := [.int (4)]) (rest := [.int (mm_I h13 v0 51), va_rf (some v0)]) (n := 1) (cn := 0) hc rfl q14 (sat_Model_isOnes (eG E) _ _ _ _ hw) rfl cv_Model_171 (gw_of (tw_5 (List.mem_of_getElem? (i := 189) rfl)) rfl) ss_Model_isOnes rfl ⟨by decide, by decide⟩ (by decide) (by decide) rfl (by simp [cat_rf, cat_i, cat_l]) d_Model_readsStat_55 (fun r0 h15 hw => ?_)
      obtain ⟨r16, rfl, hw⟩ := hw
      refine V_wide (cs' := 0) (sl' := 0) (by decide) (by decide) ?_
      refine V_st (st' := [.int (r16), .int (mm_I h13 v0 51), va_rf (some v0)]) rfl ?_
      refine V_iand hc d_Model_readsStat_58 ?_
      obtain ⟨q17, hw⟩ := hw
      obtain ⟨q18, hw⟩ := hw
      obtain ⟨q19, hw⟩ := hw
      obtain ⟨h20, eq_h20⟩ : ∃ x, x = mm_uI h15 (v0) 51 ((mm_I h13 v0 51) &&& (r16)) := ⟨_, rfl⟩
      replace hw := hw _ eq_h20
      refine V_put (h' := h20) hc gf_Model_175 rfl rfl q17 q18 (by rw [eq_h20]; exact mm_Up_I _ _ _ _) (by rw [eq_h20]; exact up_vI rfl) (zz_nar q19) (zz_fit q19) d_Model_readsStat_59 ?_
      refine V_aload_n hc 1 d_Model_readsStat_62 rfl rfl ?_
      refine V_dup hc d_Model_readsStat_63 (cat_rf _) ?_
      obtain ⟨q21, hw⟩ := hw
      refine V_get (v := .int (mm_I h20 v0 51)) hc gf_Model_175 rfl q21 rfl d_Model_readsStat_64 ?_
      refine V_aload_n hc 1 d_Model_readsStat_67 rfl rfl ?_
      refine V_bipush (v := 13) hc d_Model_readsStat_68 (by decide) ?_
      refine V_callV (rm' := rm_Model_isOnes) (As := [.int (13)]) (rest := [.int (mm_I h20 v0 51), va_rf (some v0)]) (n := 1) (cn := 0) hc rfl q21 (sat_Model_isOnes (eG E) _ _ _ _ hw) rfl cv_Model_171 (gw_of (tw_5 (List.mem_of_getElem? (i := 189) rfl)) rfl) ss_Model_isOnes rfl ⟨by decide, by decide⟩ (by decide) (by decide) rfl (by simp [cat_rf, cat_i, cat_l]) d_Model_readsStat_70 (fun r0 h22 hw => ?_)
      obtain ⟨r23, rfl, hw⟩ := hw
      refine V_wide (cs' := 0) (sl' := 0) (by decide) (by decide) ?_
      refine V_st (st' := [.int (r23), .int (mm_I h20 v0 51), va_rf (some v0)]) rfl ?_
      refine V_iand hc d_Model_readsStat_73 ?_
      obtain ⟨q24, hw⟩ := hw
      obtain ⟨q25, hw⟩ := hw
      obtain ⟨q26, hw⟩ := hw
      obtain ⟨h27, eq_h27⟩ : ∃ x, x = mm_uI h22 (v0) 51 ((mm_I h20 v0 51) &&& (r23)) := ⟨_, rfl⟩
      replace hw := hw _ eq_h27
      refine V_put (h' := h27) hc gf_Model_175 rfl rfl q24 q25 (by rw [eq_h27]; exact mm_Up_I _ _ _ _) (by rw [eq_h27]; exact up_vI rfl) (zz_nar q26) (zz_fit q26) d_Model_readsStat_74 ?_
      refine V_aload_n hc 1 d_Model_readsStat_77 rfl rfl ?_
      refine V_aload_n hc 1 d_Model_readsStat_78 rfl rfl ?_
      refine V_iconst (v := 4) hc d_Model_readsStat_79 (by decide) ?_
      obtain ⟨q28, hw⟩ := hw
      refine V_callV (rm' := rm_Model_number) (As := [.int (4)]) (rest := [va_rf (some v0)]) (n := 1) (cn := 0) hc rfl q28 (sat_Model_number (eG E) _ _ _ _ hw) rfl cv_Model_124 (gw_of (tw_5 (List.mem_of_getElem? (i := 173) rfl)) rfl) ss_Model_number rfl ⟨by decide, by decide⟩ (by decide) (by decide) rfl (by simp [cat_rf, cat_i, cat_l]) d_Model_readsStat_80 (fun r0 h29 hw => ?_)
      obtain ⟨r30, rfl, hw⟩ := hw
      refine V_wide (cs' := 0) (sl' := 0) (by decide) (by decide) ?_
      refine V_st (st' := [.long (r30), va_rf (some v0)]) rfl ?_
      refine V_l2i hc d_Model_readsStat_83 ?_
      obtain ⟨q31, hw⟩ := hw
      obtain ⟨q32, hw⟩ := hw
      obtain ⟨h33, eq_h33⟩ : ∃ x, x = mm_uI h29 (v0) 48 (Int64.toInt32 (r30)) := ⟨_, rfl⟩
      replace hw := hw _ eq_h33
      refine V_put (h' := h33) hc gf_Model_178 rfl rfl q31 q32 (by rw [eq_h33]; exact mm_Up_I _ _ _ _) (by rw [eq_h33]; exact up_vI rfl) (vp_nar_int _) rfl d_Model_readsStat_84 ?_
      refine V_aload_n hc 1 d_Model_readsStat_87 rfl rfl ?_
      refine V_dup hc d_Model_readsStat_88 (cat_rf _) ?_
      obtain ⟨q34, hw⟩ := hw
      refine V_get (v := .int (mm_I h33 v0 51)) hc gf_Model_175 rfl q34 rfl d_Model_readsStat_89 ?_
      refine V_aload_n hc 1 d_Model_readsStat_92 rfl rfl ?_
      refine V_iconst (v := 4) hc d_Model_readsStat_93 (by decide) ?_
      refine V_callV (rm' := rm_Model_isOnes) (As := [.int (4)]) (rest := [.int (mm_I h33 v0 51), va_rf (some v0)]) (n := 1) (cn := 0) hc rfl q34 (sat_Model_isOnes (eG E) _ _ _ _ hw) rfl cv_Model_171 (gw_of (tw_5 (List.mem_of_getElem? (i := 189) rfl)) rfl) ss_Model_isOnes rfl ⟨by decide, by decide⟩ (by decide) (by decide) rfl (by simp [cat_rf, cat_i, cat_l]) d_Model_readsStat_94 (fun r0 h35 hw => ?_)
      obtain ⟨r36, rfl, hw⟩ := hw
      refine V_wide (cs' := 0) (sl' := 0) (by decide) (by decide) ?_
      refine V_st (st' := [.int (r36), .int (mm_I h33 v0 51), va_rf (some v0)]) rfl ?_
      refine V_iand hc d_Model_readsStat_97 ?_
      obtain ⟨q37, hw⟩ := hw
      obtain ⟨q38, hw⟩ := hw
      obtain ⟨q39, hw⟩ := hw
      obtain ⟨h40, eq_h40⟩ : ∃ x, x = mm_uI h35 (v0) 51 ((mm_I h33 v0 51) &&& (r36)) := ⟨_, rfl⟩
      replace hw := hw _ eq_h40
      refine V_put (h' := h40) hc gf_Model_175 rfl rfl q37 q38 (by rw [eq_h40]; exact mm_Up_I _ _ _ _) (by rw [eq_h40]; exact up_vI rfl) (zz_nar q39) (zz_fit q39) d_Model_readsStat_98 ?_
      refine V_aload_n hc 1 d_Model_readsStat_101 rfl rfl ?_
      refine V_aload_n hc 1 d_Model_readsStat_102 rfl rfl ?_
      refine V_iconst (v := 4) hc d_Model_readsStat_103 (by decide) ?_
      obtain ⟨q41, hw⟩ := hw
      refine V_callV (rm' := rm_Model_number) (As := [.int (4)]) (rest := [va_rf (some v0)]) (n := 1) (cn := 0) hc rfl q41 (sat_Model_number (eG E) _ _ _ _ hw) rfl cv_Model_124 (gw_of (tw_5 (List.mem_of_getElem? (i := 173) rfl)) rfl) ss_Model_number rfl ⟨by decide, by decide⟩ (by decide) (by decide) rfl (by simp [cat_rf, cat_i, cat_l]) d_Model_readsStat_104 (fun r0 h42 hw => ?_)
      obtain ⟨r43, rfl, hw⟩ := hw
      refine V_wide (cs' := 0) (sl' := 0) (by decide) (by decide) ?_
      refine V_st (st' := [.long (r43), va_rf (some v0)]) rfl ?_
      refine V_l2i hc d_Model_readsStat_107 ?_
      obtain ⟨q44, hw⟩ := hw
      obtain ⟨q45, hw⟩ := hw
      obtain ⟨h46, eq_h46⟩ : ∃ x, x = mm_uI h42 (v0) 49 (Int64.toInt32 (r43)) := ⟨_, rfl⟩
      replace hw := hw _ eq_h46
      refine V_put (h' := h46) hc gf_Model_181 rfl rfl q44 q45 (by rw [eq_h46]; exact mm_Up_I _ _ _ _) (by rw [eq_h46]; exact up_vI rfl) (vp_nar_int _) rfl d_Model_readsStat_108 ?_
      refine V_aload_n hc 1 d_Model_readsStat_111 rfl rfl ?_
      refine V_aload_n hc 1 d_Model_readsStat_112 rfl rfl ?_
      refine V_bipush (v := 8) hc d_Model_readsStat_113 (by decide) ?_
      obtain ⟨q47, hw⟩ := hw
      refine V_callV (rm' := rm_Model_number) (As := [.int (8)]) (rest := [va_rf (some v0)]) (n := 1) (cn := 0) hc rfl q47 (sat_Model_number (eG E) _ _ _ _ hw) rfl cv_Model_124 (gw_of (tw_5 (List.mem_of_getElem? (i := 173) rfl)) rfl) ss_Model_number rfl ⟨by decide, by decide⟩ (by decide) (by decide) rfl (by simp [cat_rf, cat_i, cat_l]) d_Model_readsStat_115 (fun r0 h48 hw => ?_)
      obtain ⟨r49, rfl, hw⟩ := hw
      refine V_wide (cs' := 0) (sl' := 0) (by decide) (by decide) ?_
      refine V_st (st' := [.long (r49), va_rf (some v0)]) rfl ?_
      obtain ⟨q50, hw⟩ := hw
      obtain ⟨q51, hw⟩ := hw
      obtain ⟨h52, eq_h52⟩ : ∃ x, x = mm_uL h48 (v0) 50 (r49) := ⟨_, rfl⟩
      replace hw := hw _ eq_h52
      refine V_put (h' := h52) hc gf_Model_184 rfl rfl q50 q51 (by rw [eq_h52]; exact mm_Up_L _ _ _ _) (by rw [eq_h52]; exact up_vL) rfl rfl d_Model_readsStat_118 ?_
      refine V_aload_n hc 1 d_Model_readsStat_121 rfl rfl ?_
      obtain ⟨q53, hw⟩ := hw
      refine V_callV (rm' := rm_Model_text) (As := []) (rest := []) (n := 0) (cn := 0) hc rfl q53 (sat_Model_text (eG E) _ _ _ hw) rfl cv_Model_138 (gw_of (tw_5 (List.mem_of_getElem? (i := 181) rfl)) rfl) ss_Model_text rfl ⟨by decide, by decide⟩ (by decide) (by decide) rfl (by simp [cat_rf, cat_i, cat_l]) d_Model_readsStat_122 (fun r0 h54 hw => ?_)
      obtain ⟨rfl, hw⟩ := hw
      refine V_wide (cs' := 0) (sl' := 0) (by decide) (by decide) ?_
      refine V_st (st' := []) rfl ?_
      refine V_aload_n hc 1 d_Model_readsStat_125 rfl rfl ?_
      refine V_aload_n hc 1 d_Model_readsStat_126 rfl rfl ?_
      obtain ⟨q56, hw⟩ := hw
      refine V_get (v := .int (mm_I h54 v0 31)) hc gf_Model_131 rfl q56 rfl d_Model_readsStat_127 ?_
      obtain ⟨q57, hw⟩ := hw
      obtain ⟨h58, eq_h58⟩ : ∃ x, x = mm_uI h54 (v0) 38 (mm_I h54 v0 31) := ⟨_, rfl⟩
      replace hw := hw _ eq_h58
      refine V_put (h' := h58) hc gf_Model_141 rfl rfl q56 q57 (by rw [eq_h58]; exact mm_Up_I _ _ _ _) (by rw [eq_h58]; exact up_vI rfl) (vp_nar_int _) rfl d_Model_readsStat_130 ?_
      refine V_aload_n hc 1 d_Model_readsStat_133 rfl rfl ?_
      refine V_aload_n hc 1 d_Model_readsStat_134 rfl rfl ?_
      obtain ⟨q59, hw⟩ := hw
      refine V_get (v := .int (mm_I h58 v0 32)) hc gf_Model_128 rfl q59 rfl d_Model_readsStat_135 ?_
      obtain ⟨q60, hw⟩ := hw
      obtain ⟨h61, eq_h61⟩ : ∃ x, x = mm_uI h58 (v0) 39 (mm_I h58 v0 32) := ⟨_, rfl⟩
      replace hw := hw _ eq_h61
      refine V_put (h' := h61) hc gf_Model_144 rfl rfl q59 q60 (by rw [eq_h61]; exact mm_Up_I _ _ _ _) (by rw [eq_h61]; exact up_vI rfl) (vp_nar_int _) rfl d_Model_readsStat_138 ?_
      refine V_iconst (v := 0) hc d_Model_readsStat_141 (by decide) ?_
      refine V_istore_n (i := 2) (lv' := [(2, .int (0)), (1, .int (Int64.toInt32 (r3))), (0, va_rf (some v0))]) hc d_Model_readsStat_142 rfl (by decide) rfl ?_
      refine V_sub (lv' := [(0, va_rf (some v0)), (2, .int (0))]) [2, 0] rfl ?_
      exact vl_Model_readsStat_143 hc hq  _ _ _ hw
    · replace hw := hw.2 hq1
      refine V_sub (lv' := [(0, va_rf (some v0))]) [1] rfl ?_
      exact vb_Model_readsStat_33 hc hq  _ _ hw
def wq_Model_readsStat (ge : Nat → Nat) (v0 : Nat) (h : mm_M) (Z : mm_M → Prop) : Prop := wq_Model_readsStat_0 ge v0 h Z
theorem sat_Model_readsStat (G : mm_G) (v0 : Nat) (h : mm_M) (Z : mm_M → Prop) (hw : wq_Model_readsStat (mm_ge G) v0 h Z) : mm_Met G y_Model_readsStat c_Model_readsStat 3 none rm_Model_readsStat [va_rf (some v0)] h (pV Z) := by
  refine mm_intro (own := "EpochServerModel") (by decide) rfl (by simp [lg_sl, cat_rf, cat_i, cat_l]) (fun E e1 hc hq hi => ?_)
  subst e1
  have e2 : lv_args 0 [va_rf (some v0)] = [(0, va_rf (some v0))] := by simp [lv_args, cat_rf, cat_i, cat_l]
  rw [e2]
  refine V_sub (lv' := [(0, va_rf (some v0))]) [0] rfl ?_
  exact vb_Model_readsStat_0 hc hq v0 h hw
