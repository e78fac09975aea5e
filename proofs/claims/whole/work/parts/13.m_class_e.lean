/-! Node.isNamedAs(LEpochServer$Node;)Z -/
abbrev rm_Node_isNamedAs : Room := { frames := 0, cells := 0, slots := 0, locals := 0 }
def wq_Node_isNamedAs_64  (ge : Nat → Nat) (s0 : Int32) (h : mm_M) (Z : Int32 → mm_M → Prop) : Prop :=
  ((s0) = 0 ∨ (s0) = 1) ∧ Z (s0) h
def wq_Node_isNamedAs_63  (ge : Nat → Nat)  (h : mm_M) (Z : Int32 → mm_M → Prop) : Prop :=
  wq_Node_isNamedAs_64  ge (0) h Z
def wq_Node_isNamedAs_41  (ge : Nat → Nat) (v0 : Nat) (v1 : Option Nat) (v2 : Int32) (h : mm_M) (Z : Int32 → mm_M → Prop) : Prop :=
  mm_k h (v0) = kd_Node ∧ ∃ a2, mm_P h v0 2 = some a2 ∧ mm_k h (a2) = ka_B ∧ ((¬ (v2 : Int32) = (Nat.toInt32 (mm_n h a2) : Int32) → wq_Node_isNamedAs_63  ge h Z) ∧ ((v2 : Int32) = (Nat.toInt32 (mm_n h a2) : Int32) → ∃ a5, v1 = some a5 ∧ mm_k h (a5) = kd_Node ∧ ∃ a8, mm_P h a5 2 = some a8 ∧ mm_k h (a8) = ka_B ∧ ((¬ (v2 : Int32) = (Nat.toInt32 (mm_n h a8) : Int32) → wq_Node_isNamedAs_63  ge h Z) ∧ ((v2 : Int32) = (Nat.toInt32 (mm_n h a8) : Int32) → wq_Node_isNamedAs_64  ge (1) h Z))))
def wq_Node_isNamedAs_2 (X2 : Nat → Option Nat → Int32 → mm_M → Prop) (ge : Nat → Nat) (v0 : Nat) (v1 : Option Nat) (v2 : Int32) (h : mm_M) (Z : Int32 → mm_M → Prop) : Prop :=
  mm_k h (v0) = kd_Node ∧ ∃ a2, mm_P h v0 2 = some a2 ∧ mm_k h (a2) = ka_B ∧ (((Nat.toInt32 (mm_n h a2) : Int32) ≤ (v2 : Int32) → wq_Node_isNamedAs_41  ge (v0) (v1) (v2) h Z) ∧ (¬ (Nat.toInt32 (mm_n h a2) : Int32) ≤ (v2 : Int32) → ∃ a5, v1 = some a5 ∧ mm_k h (a5) = kd_Node ∧ ∃ a8, mm_P h a5 2 = some a8 ∧ mm_k h (a8) = ka_B ∧ (((Nat.toInt32 (mm_n h a8) : Int32) ≤ (v2 : Int32) → wq_Node_isNamedAs_41  ge (v0) (v1) (v2) h Z) ∧ (¬ (Nat.toInt32 (mm_n h a8) : Int32) ≤ (v2 : Int32) → vp_in (v2) (mm_n h a2) ∧ vp_in (v2) (mm_n h a8) ∧ ((¬ (mm_I h a2 (Int32.toNatClampNeg (v2)) : Int32) = (mm_I h a8 (Int32.toNatClampNeg (v2)) : Int32) → wq_Node_isNamedAs_41  ge (v0) (v1) (v2) h Z) ∧ ((mm_I h a2 (Int32.toNatClampNeg (v2)) : Int32) = (mm_I h a8 (Int32.toNatClampNeg (v2)) : Int32) → X2 (v0) (v1) (v2 + 1) h))))))
def lp_Node_isNamedAs_2  (ge : Nat → Nat) (v0 : Nat) (v1 : Option Nat) (v2 : Int32) (h : mm_M) (Z : Int32 → mm_M → Prop) : Prop :=
  ∀ X2 : Nat → Option Nat → Int32 → mm_M → Prop, (∀ (v0 : Nat) (v1 : Option Nat) (v2 : Int32) (h : mm_M), wq_Node_isNamedAs_2 X2 ge v0 v1 v2 h Z → X2 v0 v1 v2 h) → X2 v0 v1 v2 h
def wq_Node_isNamedAs_0  (ge : Nat → Nat) (v0 : Nat) (v1 : Option Nat) (h : mm_M) (Z : Int32 → mm_M → Prop) : Prop :=
  lp_Node_isNamedAs_2  ge (v0) (v1) (0) h Z
set_option maxRecDepth 100000 in
set_option maxHeartbeats 4000000 in
theorem vb_Node_isNamedAs_64 {E : mm_E} {Z : Int32 → mm_M → Prop} (hc : cx E "EpochServer$Node" c_Node_isNamedAs 3 (some (.boolean)) rm_Node_isNamedAs) (hq : cq E rm_Node_isNamedAs (pI Z))  (s0 : Int32) (h : mm_M) (hw : wq_Node_isNamedAs_64  (mm_ge (eG E)) s0 h Z) : V E 3 0 0 h 64 [] [.int (s0)] := by
  unfold wq_Node_isNamedAs_64 at hw
  obtain ⟨q1, hw⟩ := hw
  exact V_zret hc hq (zz_nar q1) ⟨_, rfl, hw⟩ (by decide) (by decide) d_Node_isNamedAs_64
set_option maxRecDepth 100000 in
set_option maxHeartbeats 4000000 in
theorem vb_Node_isNamedAs_63 {E : mm_E} {Z : Int32 → mm_M → Prop} (hc : cx E "EpochServer$Node" c_Node_isNamedAs 3 (some (.boolean)) rm_Node_isNamedAs) (hq : cq E rm_Node_isNamedAs (pI Z))   (h : mm_M) (hw : wq_Node_isNamedAs_63  (mm_ge (eG E))  h Z) : V E 3 0 0 h 63 [] [] := by
  unfold wq_Node_isNamedAs_63 at hw
  refine V_iconst (v := 0) hc d_Node_isNamedAs_63 (by decide) ?_
  refine V_sub (lv' := []) [] rfl ?_
  exact vb_Node_isNamedAs_64 hc hq  _ _ hw
set_option maxRecDepth 100000 in
set_option maxHeartbeats 4000000 in
theorem vb_Node_isNamedAs_41 {E : mm_E} {Z : Int32 → mm_M → Prop} (hc : cx E "EpochServer$Node" c_Node_isNamedAs 3 (some (.boolean)) rm_Node_isNamedAs) (hq : cq E rm_Node_isNamedAs (pI Z))  (v0 : Nat) (v1 : Option Nat) (v2 : Int32) (h : mm_M) (hw : wq_Node_isNamedAs_41  (mm_ge (eG E)) v0 v1 v2 h Z) : V E 3 0 0 h 41 [(0, va_rf (some v0)), (1, va_rf (v1)), (2, .int (v2))] [] := by
  unfold wq_Node_isNamedAs_41 at hw
  refine V_iload_n hc 2 d_Node_isNamedAs_41 rfl rfl ?_
  refine V_aload_n hc 0 d_Node_isNamedAs_42 rfl rfl ?_
  obtain ⟨q1, hw⟩ := hw
  refine V_get (v := va_rf (mm_P h v0 2)) hc gf_Node_18 rfl q1 rfl d_Node_isNamedAs_43 ?_
  obtain ⟨a2, q3, hw⟩ := hw
  obtain ⟨q4, hw⟩ := hw
  refine V_alen (t := 1) (ty := .byte) hc rfl q3 q4 d_Node_isNamedAs_46 ?_
  refine V_icmp_ne (tgt := 63) hc d_Node_isNamedAs_47 (by decide) (fun hq1 => ?_) (fun hq1 => ?_)
  · replace hw := hw.1 hq1
    refine V_sub (lv' := []) [] rfl ?_
    exact vb_Node_isNamedAs_63 hc hq  _ hw
  · replace hw := hw.2 hq1
    refine V_iload_n hc 2 d_Node_isNamedAs_50 rfl rfl ?_
    refine V_aload_n hc 1 d_Node_isNamedAs_51 rfl rfl ?_
    obtain ⟨a5, q6, hw⟩ := hw
    obtain ⟨q7, hw⟩ := hw
    refine V_get (v := va_rf (mm_P h a5 2)) hc gf_Node_18 q6 q7 rfl d_Node_isNamedAs_52 ?_
    obtain ⟨a8, q9, hw⟩ := hw
    obtain ⟨q10, hw⟩ := hw
    refine V_alen (t := 1) (ty := .byte) hc rfl q9 q10 d_Node_isNamedAs_55 ?_
    refine V_icmp_ne (tgt := 63) hc d_Node_isNamedAs_56 (by decide) (fun hq1 => ?_) (fun hq1 => ?_)
    · replace hw := hw.1 hq1
      refine V_sub (lv' := []) [] rfl ?_
      exact vb_Node_isNamedAs_63 hc hq  _ hw
    · replace hw := hw.2 hq1
      refine V_iconst (v := 1) hc d_Node_isNamedAs_59 (by decide) ?_
      refine V_goto (tgt := 64) hc d_Node_isNamedAs_60 (by decide) ?_
      refine V_sub (lv' := []) [] rfl ?_
      exact vb_Node_isNamedAs_64 hc hq  _ _ hw
set_option maxRecDepth 100000 in
set_option maxHeartbeats 4000000 in
theorem vb_Node_isNamedAs_2 {E : mm_E} {Z : Int32 → mm_M → Prop} (hc : cx E "EpochServer$Node" c_Node_isNamedAs 3 (some (.boolean)) rm_Node_isNamedAs) (hq : cq E rm_Node_isNamedAs (pI Z)) (X2 : Nat → Option Nat → Int32 → mm_M → Prop) (hX2 : ∀ (v0 : Nat) (v1 : Option Nat) (v2 : Int32) (h : mm_M), X2 v0 v1 v2 h → V E 3 0 0 h 2 [(0, va_rf (some v0)), (1, va_rf (v1)), (2, .int (v2))] []) (v0 : Nat) (v1 : Option Nat) (v2 : Int32) (h : mm_M) (hw : wq_Node_isNamedAs_2 X2 (mm_ge (eG E)) v0 v1 v2 h Z) : V E 3 0 0 h 2 [(0, va_rf (some v0)), (1, va_rf (v1)), (2, .int (v2))] [] := by
  unfold wq_Node_isNamedAs_2 at hw
  refine V_iload_n hc 2 d_Node_isNamedAs_2 rfl rfl ?_
  refine V_aload_n hc 0 d_Node_isNamedAs_3 rfl rfl ?_
  obtain ⟨q1, hw⟩ := hw
  refine V_get (v := va_rf (mm_P h v0 2)) hc gf_Node_18 rfl q1 rfl d_Node_isNamedAs_4 ?_
  obtain ⟨a2, q3, hw⟩ := hw
  obtain ⟨q4, hw⟩ := hw
  refine V_alen (t := 1) (ty := .byte) hc rfl q3 q4 d_Node_isNamedAs_7 ?_
  refine V_icmp_ge (tgt := 41) hc d_Node_isNamedAs_8 (by decide) (fun hq1 => ?_) (fun hq1 => ?_)
  · replace hw := hw.1 hq1
    refine V_sub (lv' := [(0, va_rf (some v0)), (1, va_rf (v1)), (2, .int (v2))]) [0, 1, 2] rfl ?_
    exact vb_Node_isNamedAs_41 hc hq  _ _ _ _ hw
  · replace hw := hw.2 hq1
    refine V_iload_n hc 2 d_Node_isNamedAs_11 rfl rfl ?_
    refine V_aload_n hc 1 d_Node_isNamedAs_12 rfl rfl ?_
    obtain ⟨a5, q6, hw⟩ := hw
    obtain ⟨q7, hw⟩ := hw
    refine V_get (v := va_rf (mm_P h a5 2)) hc gf_Node_18 q6 q7 rfl d_Node_isNamedAs_13 ?_
    obtain ⟨a8, q9, hw⟩ := hw
    obtain ⟨q10, hw⟩ := hw
    refine V_alen (t := 1) (ty := .byte) hc rfl q9 q10 d_Node_isNamedAs_16 ?_
    refine V_icmp_ge (tgt := 41) hc d_Node_isNamedAs_17 (by decide) (fun hq1 => ?_) (fun hq1 => ?_)
    · replace hw := hw.1 hq1
      refine V_sub (lv' := [(0, va_rf (some v0)), (1, va_rf (v1)), (2, .int (v2))]) [0, 1, 2] rfl ?_
      exact vb_Node_isNamedAs_41 hc hq  _ _ _ _ hw
    · replace hw := hw.2 hq1
      refine V_aload_n hc 0 d_Node_isNamedAs_20 rfl rfl ?_
      refine V_get (v := va_rf (mm_P h v0 2)) hc gf_Node_18 rfl q1 rfl d_Node_isNamedAs_21 ?_
      refine V_iload_n hc 2 d_Node_isNamedAs_24 rfl rfl ?_
      obtain ⟨q11, hw⟩ := hw
      refine V_bald hc q3 q4 q11 d_Node_isNamedAs_25 ?_
      refine V_aload_n hc 1 d_Node_isNamedAs_26 rfl rfl ?_
      refine V_get (v := va_rf (mm_P h a5 2)) hc gf_Node_18 q6 q7 rfl d_Node_isNamedAs_27 ?_
      refine V_iload_n hc 2 d_Node_isNamedAs_30 rfl rfl ?_
      obtain ⟨q12, hw⟩ := hw
      refine V_bald hc q9 q10 q12 d_Node_isNamedAs_31 ?_
      refine V_icmp_ne (tgt := 41) hc d_Node_isNamedAs_32 (by decide) (fun hq1 => ?_) (fun hq1 => ?_)
      · replace hw := hw.1 hq1
        refine V_sub (lv' := [(0, va_rf (some v0)), (1, va_rf (v1)), (2, .int (v2))]) [0, 1, 2] rfl ?_
        exact vb_Node_isNamedAs_41 hc hq  _ _ _ _ hw
      · replace hw := hw.2 hq1
        refine V_iinc (v := v2 + 1) (lv' := [(2, .int (v2 + 1)), (0, va_rf (some v0)), (1, va_rf (v1))]) hc 2 d_Node_isNamedAs_35 rfl rfl (by decide) (by simp [cat_rf, cat_i, cat_l]) ?_
        refine V_goto (tgt := 2) hc d_Node_isNamedAs_38 (by decide) ?_
        refine V_sub (lv' := [(0, va_rf (some v0)), (1, va_rf (v1)), (2, .int (v2 + 1))]) [1, 2, 0] rfl ?_
        exact hX2 _ _ _ _ hw
theorem vl_Node_isNamedAs_2 {E : mm_E} {Z : Int32 → mm_M → Prop} (hc : cx E "EpochServer$Node" c_Node_isNamedAs 3 (some (.boolean)) rm_Node_isNamedAs) (hq : cq E rm_Node_isNamedAs (pI Z))  (v0 : Nat) (v1 : Option Nat) (v2 : Int32) (h : mm_M) (hw : lp_Node_isNamedAs_2  (mm_ge (eG E)) v0 v1 v2 h Z) : V E 3 0 0 h 2 [(0, va_rf (some v0)), (1, va_rf (v1)), (2, .int (v2))] [] :=
  hw (fun v0 v1 v2 h => V E 3 0 0 h 2 [(0, va_rf (some v0)), (1, va_rf (v1)), (2, .int (v2))] []) (fun v0 v1 v2 h hb => vb_Node_isNamedAs_2 hc hq  _ (fun _ _ _ _ q => q) v0 v1 v2 h hb)
set_option maxRecDepth 100000 in
set_option maxHeartbeats 4000000 in
theorem vb_Node_isNamedAs_0 {E : mm_E} {Z : Int32 → mm_M → Prop} (hc : cx E "EpochServer$Node" c_Node_isNamedAs 3 (some (.boolean)) rm_Node_isNamedAs) (hq : cq E rm_Node_isNamedAs (pI Z))  (v0 : Nat) (v1 : Option Nat) (h : mm_M) (hw : wq_Node_isNamedAs_0  (mm_ge (eG E)) v0 v1 h Z) : V E 3 0 0 h 0 [(0, va_rf (some v0)), (1, va_rf (v1))] [] := by
  unfold wq_Node_isNamedAs_0 at hw
  refine V_iconst (v := 0) hc d_Node_isNamedAs_0 (by decide) ?_
  refine V_istore_n (i := 2) (lv' := [(2, .int (0)), (0, va_rf (some v0)), (1, va_rf (v1))]) hc d_Node_isNamedAs_1 rfl (by decide) (by simp [cat_rf, cat_i, cat_l]) ?_
  refine V_sub (lv' := [(0, va_rf (some v0)), (1, va_rf (v1)), (2, .int (0))]) [1, 2, 0] rfl ?_
  exact vl_Node_isNamedAs_2 hc hq  _ _ _ _ hw
def wq_Node_isNamedAs (ge : Nat → Nat) (v0 : Nat) (v1 : Option Nat) (h : mm_M) (Z : Int32 → mm_M → Prop) : Prop := wq_Node_isNamedAs_0 ge v0 v1 h Z
theorem sat_Node_isNamedAs (G : mm_G) (v0 : Nat) (v1 : Option Nat) (h : mm_M) (Z : Int32 → mm_M → Prop) (hw : wq_Node_isNamedAs (mm_ge G) v0 v1 h Z) : mm_Met G y_Node_isNamedAs c_Node_isNamedAs 3 (some (.boolean)) rm_Node_isNamedAs [va_rf (some v0), va_rf (v1)] h (pI Z) := by
  refine mm_intro (own := "EpochServer$Node") (by decide) rfl (by simp [lg_sl, cat_rf, cat_i, cat_l]) (fun E e1 hc hq hi => ?_)
  subst e1
  have e2 : lv_args 0 [va_rf (some v0), va_rf (v1)] = [(0, va_rf (some v0)), (1, va_rf (v1))] := by simp [lv_args, cat_rf, cat_i, cat_l]
  rw [e2]
  refine V_sub (lv' := [(0, va_rf (some v0)), (1, va_rf (v1))]) [0, 1] rfl ?_
  exact vb_Node_isNamedAs_0 hc hq v0 v1 h hw
/-! Node.isAs(LEpochServer$Node;)Z -/
abbrev rm_Node_isAs : Room := { frames := 1, cells := 0, slots := 0, locals := 22 }
def wq_Node_isAs_46  (ge : Nat → Nat) (s0 : Int32) (h : mm_M) (Z : Int32 → mm_M → Prop) : Prop :=
  ((s0) = 0 ∨ (s0) = 1) ∧ Z (s0) h
def wq_Node_isAs_45  (ge : Nat → Nat)  (h : mm_M) (Z : Int32 → mm_M → Prop) : Prop :=
  wq_Node_isAs_46  ge (0) h Z
def wq_Node_isAs_0  (ge : Nat → Nat) (v0 : Nat) (v1 : Option Nat) (h : mm_M) (Z : Int32 → mm_M → Prop) : Prop :=
  mm_k h (v0) = kd_Node ∧ ∃ a2, v1 = some a2 ∧ mm_k h (a2) = kd_Node ∧ ((¬ (mm_I h v0 3 : Int32) = (mm_I h a2 3 : Int32) → wq_Node_isAs_45  ge h Z) ∧ ((mm_I h v0 3 : Int32) = (mm_I h a2 3 : Int32) → ((¬ (mm_I h v0 4 : Int32) = (mm_I h a2 4 : Int32) → wq_Node_isAs_45  ge h Z) ∧ ((mm_I h v0 4 : Int32) = (mm_I h a2 4 : Int32) → ((¬ (mm_I h v0 5 : Int32) = (mm_I h a2 5 : Int32) → wq_Node_isAs_45  ge h Z) ∧ ((mm_I h v0 5 : Int32) = (mm_I h a2 5 : Int32) → wq_Node_isNamedAs ge (v0) (v1) h (fun (r6 : Int32) (h5 : mm_M) => (((r6) = 0 → wq_Node_isAs_45  ge h5 Z) ∧ (¬ (r6) = 0 → wq_Node_isAs_46  ge (1) h5 Z)))))))))
set_option maxRecDepth 100000 in
set_option maxHeartbeats 4000000 in
theorem vb_Node_isAs_46 {E : mm_E} {Z : Int32 → mm_M → Prop} (hc : cx E "EpochServer$Node" c_Node_isAs 2 (some (.boolean)) rm_Node_isAs) (hq : cq E rm_Node_isAs (pI Z))  (s0 : Int32) (h : mm_M) (hw : wq_Node_isAs_46  (mm_ge (eG E)) s0 h Z) : V E 2 0 0 h 46 [] [.int (s0)] := by
  unfold wq_Node_isAs_46 at hw
  obtain ⟨q1, hw⟩ := hw
  exact V_zret hc hq (zz_nar q1) ⟨_, rfl, hw⟩ (by decide) (by decide) d_Node_isAs_46
set_option maxRecDepth 100000 in
set_option maxHeartbeats 4000000 in
theorem vb_Node_isAs_45 {E : mm_E} {Z : Int32 → mm_M → Prop} (hc : cx E "EpochServer$Node" c_Node_isAs 2 (some (.boolean)) rm_Node_isAs) (hq : cq E rm_Node_isAs (pI Z))   (h : mm_M) (hw : wq_Node_isAs_45  (mm_ge (eG E))  h Z) : V E 2 0 0 h 45 [] [] := by
  unfold wq_Node_isAs_45 at hw
  refine V_iconst (v := 0) hc d_Node_isAs_45 (by decide) ?_
  refine V_sub (lv' := []) [] rfl ?_
  exact vb_Node_isAs_46 hc hq  _ _ hw
set_option maxRecDepth 100000 in
set_option maxHeartbeats 4000000 in
theorem vb_Node_isAs_0 {E : mm_E} {Z : Int32 → mm_M → Prop} (hc : cx E "EpochServer$Node" c_Node_isAs 2 (some (.boolean)) rm_Node_isAs) (hq : cq E rm_Node_isAs (pI Z))  (v0 : Nat) (v1 : Option Nat) (h : mm_M) (hw : wq_Node_isAs_0  (mm_ge (eG E)) v0 v1 h Z) : V E 2 0 0 h 0 [(0, va_rf (some v0)), (1, va_rf (v1))] [] := by
  unfold wq_Node_isAs_0 at hw
  refine V_aload_n hc 0 d_Node_isAs_0 rfl rfl ?_
  obtain ⟨q1, hw⟩ := hw
  refine V_get (v := .int (mm_I h v0 3)) hc gf_Node_22 rfl q1 rfl d_Node_isAs_1 ?_
  refine V_aload_n hc 1 d_Node_isAs_4 rfl rfl ?_
  obtain ⟨a2, q3, hw⟩ := hw
  obtain ⟨q4, hw⟩ := hw
  refine V_get (v := .int (mm_I h a2 3)) hc gf_Node_22 q3 q4 rfl d_Node_isAs_5 ?_
  refine V_icmp_ne (tgt := 45) hc d_Node_isAs_8 (by decide) (fun hq1 => ?_) (fun hq1 => ?_)
  · replace hw := hw.1 hq1
    refine V_sub (lv' := []) [] rfl ?_
    exact vb_Node_isAs_45 hc hq  _ hw
  · replace hw := hw.2 hq1
    refine V_aload_n hc 0 d_Node_isAs_11 rfl rfl ?_
    refine V_get (v := .int (mm_I h v0 4)) hc gf_Node_25 rfl q1 rfl d_Node_isAs_12 ?_
    refine V_aload_n hc 1 d_Node_isAs_15 rfl rfl ?_
    refine V_get (v := .int (mm_I h a2 4)) hc gf_Node_25 q3 q4 rfl d_Node_isAs_16 ?_
    refine V_icmp_ne (tgt := 45) hc d_Node_isAs_19 (by decide) (fun hq1 => ?_) (fun hq1 => ?_)
    · replace hw := hw.1 hq1
      refine V_sub (lv' := []) [] rfl ?_
      exact vb_Node_isAs_45 hc hq  _ hw
    · replace hw := hw.2 hq1
      refine V_aload_n hc 0 d_Node_isAs_22 rfl rfl ?_
      refine V_get (v := .int (mm_I h v0 5)) hc gf_Node_28 rfl q1 rfl d_Node_isAs_23 ?_
      refine V_aload_n hc 1 d_Node_isAs_26 rfl rfl ?_
      refine V_get (v := .int (mm_I h a2 5)) hc gf_Node_28 q3 q4 rfl d_Node_isAs_27 ?_
      refine V_icmp_ne (tgt := 45) hc d_Node_isAs_30 (by decide) (fun hq1 => ?_) (fun hq1 => ?_)
      · replace hw := hw.1 hq1
        refine V_sub (lv' := []) [] rfl ?_
        exact vb_Node_isAs_45 hc hq  _ hw
      · replace hw := hw.2 hq1
        refine V_aload_n hc 0 d_Node_isAs_33 rfl rfl ?_
        refine V_aload_n hc 1 d_Node_isAs_34 rfl rfl ?_
        refine V_callV (rm' := rm_Node_isNamedAs) (As := [va_rf (v1)]) (rest := []) (n := 1) (cn := 7) hc rfl q1 (sat_Node_isNamedAs (eG E) _ _ _ _ hw) rfl cv_Node_37 (gw_of (tw_4 (List.mem_of_getElem? (i := 32) rfl)) rfl) ss_Node_isNamedAs rfl ⟨by decide, by decide⟩ (by decide) (by decide) rfl (by simp [cat_rf, cat_i, cat_l]) d_Node_isAs_35 (fun r0 h5 hw => ?_)
        obtain ⟨r6, rfl, hw⟩ := hw
        refine V_wide (cs' := 0) (sl' := 0) (by decide) (by decide) ?_
        refine V_st (st' := [.int (r6)]) rfl ?_
        refine V_if_eq (tgt := 45) hc d_Node_isAs_38 (by decide) (fun hq1 => ?_) (fun hq1 => ?_)
        · replace hw := hw.1 hq1
          refine V_sub (lv' := []) [] rfl ?_
          exact vb_Node_isAs_45 hc hq  _ hw
        · replace hw := hw.2 hq1
          refine V_iconst (v := 1) hc d_Node_isAs_41 (by decide) ?_
          refine V_goto (tgt := 46) hc d_Node_isAs_42 (by decide) ?_
          refine V_sub (lv' := []) [] rfl ?_
          exact vb_Node_isAs_46 hc hq  _ _ hw
def wq_Node_isAs (ge : Nat → Nat) (v0 : Nat) (v1 : Option Nat) (h : mm_M) (Z : Int32 → mm_M → Prop) : Prop := wq_Node_isAs_0 ge v0 v1 h Z
theorem sat_Node_isAs (G : mm_G) (v0 : Nat) (v1 : Option Nat) (h : mm_M) (Z : Int32 → mm_M → Prop) (hw : wq_Node_isAs (mm_ge G) v0 v1 h Z) : mm_Met G y_Node_isAs c_Node_isAs 2 (some (.boolean)) rm_Node_isAs [va_rf (some v0), va_rf (v1)] h (pI Z) := by
  refine mm_intro (own := "EpochServer$Node") (by decide) rfl (by simp [lg_sl, cat_rf, cat_i, cat_l]) (fun E e1 hc hq hi => ?_)
  subst e1
  have e2 : lv_args 0 [va_rf (some v0), va_rf (v1)] = [(0, va_rf (some v0)), (1, va_rf (v1))] := by simp [lv_args, cat_rf, cat_i, cat_l]
  rw [e2]
  refine V_sub (lv' := [(0, va_rf (some v0)), (1, va_rf (v1))]) [0, 1] rfl ?_
  exact vb_Node_isAs_0 hc hq v0 v1 h hw
/-! Request.<init>(LEpochServer$Bytes;)V -/
abbrev rm_Request_init : Room := { frames := 1, cells := 0, slots := 0, locals := 24 }
def wq_Request_init_0  (ge : Nat → Nat) (v0 : Nat) (v1 : Option Nat) (h : mm_M) (Z : mm_M → Prop) : Prop :=
  mm_k h (v0) = kd_Request ∧ ge 0 ≤ v0 ∧ ∀ h3 : mm_M, h3 = mm_uI h (v0) 1 (0) → mm_k h3 (v0) = kd_Request ∧ ge 0 ≤ v0 ∧ ∀ h6 : mm_M, h6 = mm_uI h3 (v0) 2 (0) → mm_k h6 (v0) = kd_Request ∧ ge 0 ≤ v0 ∧ ∀ h9 : mm_M, h9 = mm_uI h6 (v0) 3 (0) → mm_k h9 (v0) = kd_Request ∧ ge 0 ≤ v0 ∧ ∀ h12 : mm_M, h12 = mm_uI h9 (v0) 4 (0) → mm_k h12 (v0) = kd_Request ∧ ge 0 ≤ v0 ∧ ∀ h15 : mm_M, h15 = mm_uI h12 (v0) 5 (0) → mm_k h15 (v0) = kd_Request ∧ ge 0 ≤ v0 ∧ ∀ h18 : mm_M, h18 = mm_uI h15 (v0) 6 (0) → mm_k h18 (v0) = kd_Request ∧ ge 0 ≤ v0 ∧ ∀ h21 : mm_M, h21 = mm_uI h18 (v0) 7 (0) → mm_k h21 (v0) = kd_Request ∧ ge 0 ≤ v0 ∧ ∀ h24 : mm_M, h24 = mm_uI h21 (v0) 8 (0) → mm_k h24 (v0) = kd_Request ∧ ge 0 ≤ v0 ∧ ∀ h27 : mm_M, h27 = mm_uI h24 (v0) 9 (0) → mm_k h27 (v0) = kd_Request ∧ ge 0 ≤ v0 ∧ ∀ h30 : mm_M, h30 = mm_uI h27 (v0) 10 (0) → mm_k h30 (v0) = kd_Request ∧ ge 0 ≤ v0 ∧ ∀ h33 : mm_M, h33 = mm_uI h30 (v0) 11 (0) → mm_k h33 (v0) = kd_Request ∧ ge 0 ≤ v0 ∧ ∀ h36 : mm_M, h36 = mm_uI h33 (v0) 12 (0) → mm_k h36 (v0) = kd_Request ∧ ge 0 ≤ v0 ∧ ∀ h39 : mm_M, h39 = mm_uL h36 (v0) 13 (0) → mm_k h39 (v0) = kd_Request ∧ ge 0 ≤ v0 ∧ ∀ h42 : mm_M, h42 = mm_uI h39 (v0) 14 (0) → mm_k h42 (v0) = kd_Request ∧ ge 0 ≤ v0 ∧ ∀ h45 : mm_M, h45 = mm_uI h42 (v0) 15 (0) → mm_k h45 (v0) = kd_Request ∧ ge 0 ≤ v0 ∧ ∀ h48 : mm_M, h48 = mm_uI h45 (v0) 16 (0) → mm_k h48 (v0) = kd_Request ∧ ge 0 ≤ v0 ∧ ∀ h51 : mm_M, h51 = mm_uP h48 (v0) 0 (v1) → Z h51
set_option maxRecDepth 100000 in
set_option maxHeartbeats 4000000 in
theorem vb_Request_init_0 {E : mm_E} {Z : mm_M → Prop} (hc : cx E "EpochServer$Request" c_Request_init 2 none rm_Request_init) (hq : cq E rm_Request_init (pV Z)) (hin : ci E)  (v0 : Nat) (v1 : Option Nat) (h : mm_M) (hw : wq_Request_init_0  (mm_ge (eG E)) v0 v1 h Z) : V E 2 0 0 h 0 [(0, va_rf (some v0)), (1, va_rf (v1))] [] := by
  unfold wq_Request_init_0 at hw
  refine V_aload_n hc 0 d_Request_init_0 rfl rfl ?_
  refine V_objInit hc rfl (gw_of (tw_1 (List.mem_of_getElem? (i := 52) rfl)) rfl) (gw_of (tw_1 (List.mem_of_getElem? (i := 27) rfl)) rfl) (gw_of (tw_1 (List.mem_of_getElem? (i := 28) rfl)) rfl) d_Request_init_1 (by decide) (by decide) ?_
  refine V_aload_n hc 0 d_Request_init_4 rfl rfl ?_
  refine V_iconst (v := 0) hc d_Request_init_5 (by decide) ?_
  obtain ⟨q1, hw⟩ := hw
  obtain ⟨q2, hw⟩ := hw
  obtain ⟨h3, eq_h3⟩ : ∃ x, x = mm_uI h (v0) 1 (0) := ⟨_, rfl⟩
  replace hw := hw _ eq_h3
  refine V_put (h' := h3) hc gf_Request_9 rfl rfl q1 q2 (by rw [eq_h3]; exact mm_Up_I _ _ _ _) (by rw [eq_h3]; exact up_vI rfl) (vp_nar_int _) rfl d_Request_init_6 ?_
  refine V_aload_n hc 0 d_Request_init_9 rfl rfl ?_
  refine V_iconst (v := 0) hc d_Request_init_10 (by decide) ?_
  obtain ⟨q4, hw⟩ := hw
  obtain ⟨q5, hw⟩ := hw
  obtain ⟨h6, eq_h6⟩ : ∃ x, x = mm_uI h3 (v0) 2 (0) := ⟨_, rfl⟩
  replace hw := hw _ eq_h6
  refine V_put (h' := h6) hc gf_Request_15 rfl rfl q4 q5 (by rw [eq_h6]; exact mm_Up_I _ _ _ _) (by rw [eq_h6]; exact up_vI rfl) (vp_nar_int _) rfl d_Request_init_11 ?_
  refine V_aload_n hc 0 d_Request_init_14 rfl rfl ?_
  refine V_iconst (v := 0) hc d_Request_init_15 (by decide) ?_
  obtain ⟨q7, hw⟩ := hw
  obtain ⟨q8, hw⟩ := hw
  obtain ⟨h9, eq_h9⟩ : ∃ x, x = mm_uI h6 (v0) 3 (0) := ⟨_, rfl⟩
  replace hw := hw _ eq_h9
  refine V_put (h' := h9) hc gf_Request_18 rfl rfl q7 q8 (by rw [eq_h9]; exact mm_Up_I _ _ _ _) (by rw [eq_h9]; exact up_vI rfl) (by decide) (by decide) d_Request_init_16 ?_
  refine V_aload_n hc 0 d_Request_init_19 rfl rfl ?_
  refine V_iconst (v := 0) hc d_Request_init_20 (by decide) ?_
  obtain ⟨q10, hw⟩ := hw
  obtain ⟨q11, hw⟩ := hw
  obtain ⟨h12, eq_h12⟩ : ∃ x, x = mm_uI h9 (v0) 4 (0) := ⟨_, rfl⟩
  replace hw := hw _ eq_h12
  refine V_put (h' := h12) hc gf_Request_22 rfl rfl q10 q11 (by rw [eq_h12]; exact mm_Up_I _ _ _ _) (by rw [eq_h12]; exact up_vI rfl) (vp_nar_int _) rfl d_Request_init_21 ?_
  refine V_aload_n hc 0 d_Request_init_24 rfl rfl ?_
  refine V_iconst (v := 0) hc d_Request_init_25 (by decide) ?_
  obtain ⟨q13, hw⟩ := hw
  obtain ⟨q14, hw⟩ := hw
  obtain ⟨h15, eq_h15⟩ : ∃ x, x = mm_uI h12 (v0) 5 (0) := ⟨_, rfl⟩
  replace hw := hw _ eq_h15
  refine V_put (h' := h15) hc gf_Request_25 rfl rfl q13 q14 (by rw [eq_h15]; exact mm_Up_I _ _ _ _) (by rw [eq_h15]; exact up_vI rfl) (vp_nar_int _) rfl d_Request_init_26 ?_
  refine V_aload_n hc 0 d_Request_init_29 rfl rfl ?_
  refine V_iconst (v := 0) hc d_Request_init_30 (by decide) ?_
  obtain ⟨q16, hw⟩ := hw
  obtain ⟨q17, hw⟩ := hw
  obtain ⟨h18, eq_h18⟩ : ∃ x, x = mm_uI h15 (v0) 6 (0) := ⟨_, rfl⟩
  replace hw := hw _ eq_h18
  refine V_put (h' := h18) hc gf_Request_28 rfl rfl q16 q17 (by rw [eq_h18]; exact mm_Up_I _ _ _ _) (by rw [eq_h18]; exact up_vI rfl) (vp_nar_int _) rfl d_Request_init_31 ?_
  refine V_aload_n hc 0 d_Request_init_34 rfl rfl ?_
  refine V_iconst (v := 0) hc d_Request_init_35 (by decide) ?_
  obtain ⟨q19, hw⟩ := hw
  obtain ⟨q20, hw⟩ := hw
  obtain ⟨h21, eq_h21⟩ : ∃ x, x = mm_uI h18 (v0) 7 (0) := ⟨_, rfl⟩
  replace hw := hw _ eq_h21
  refine V_put (h' := h21) hc gf_Request_31 rfl rfl q19 q20 (by rw [eq_h21]; exact mm_Up_I _ _ _ _) (by rw [eq_h21]; exact up_vI rfl) (vp_nar_int _) rfl d_Request_init_36 ?_
  refine V_aload_n hc 0 d_Request_init_39 rfl rfl ?_
  refine V_iconst (v := 0) hc d_Request_init_40 (by decide) ?_
  obtain ⟨q22, hw⟩ := hw
  obtain ⟨q23, hw⟩ := hw
  obtain ⟨h24, eq_h24⟩ : ∃ x, x = mm_uI h21 (v0) 8 (0) := ⟨_, rfl⟩
  replace hw := hw _ eq_h24
  refine V_put (h' := h24) hc gf_Request_34 rfl rfl q22 q23 (by rw [eq_h24]; exact mm_Up_I _ _ _ _) (by rw [eq_h24]; exact up_vI rfl) (vp_nar_int _) rfl d_Request_init_41 ?_
  refine V_aload_n hc 0 d_Request_init_44 rfl rfl ?_
  refine V_iconst (v := 0) hc d_Request_init_45 (by decide) ?_
  obtain ⟨q25, hw⟩ := hw
  obtain ⟨q26, hw⟩ := hw
  obtain ⟨h27, eq_h27⟩ : ∃ x, x = mm_uI h24 (v0) 9 (0) := ⟨_, rfl⟩
  replace hw := hw _ eq_h27
  refine V_put (h' := h27) hc gf_Request_37 rfl rfl q25 q26 (by rw [eq_h27]; exact mm_Up_I _ _ _ _) (by rw [eq_h27]; exact up_vI rfl) (vp_nar_int _) rfl d_Request_init_46 ?_
  refine V_aload_n hc 0 d_Request_init_49 rfl rfl ?_
  refine V_iconst (v := 0) hc d_Request_init_50 (by decide) ?_
  obtain ⟨q28, hw⟩ := hw
  obtain ⟨q29, hw⟩ := hw
  obtain ⟨h30, eq_h30⟩ : ∃ x, x = mm_uI h27 (v0) 10 (0) := ⟨_, rfl⟩
  replace hw := hw _ eq_h30
  refine V_put (h' := h30) hc gf_Request_40 rfl rfl q28 q29 (by rw [eq_h30]; exact mm_Up_I _ _ _ _) (by rw [eq_h30]; exact up_vI rfl) (vp_nar_int _) rfl d_Request_init_51 ?_
  refine V_aload_n hc 0 d_Request_init_54 rfl rfl ?_
  refine V_iconst (v := 0) hc d_Request_init_55 (by decide) ?_
  obtain ⟨q31, hw⟩ := hw
  obtain ⟨q32, hw⟩ := hw
  obtain ⟨h33, eq_h33⟩ : ∃ x, x = mm_uI h30 (v0) 11 (0) := ⟨_, rfl⟩
  replace hw := hw _ eq_h33
  refine V_put (h' := h33) hc gf_Request_43 rfl rfl q31 q32 (by rw [eq_h33]; exact mm_Up_I _ _ _ _) (by rw [eq_h33]; exact up_vI rfl) (vp_nar_int _) rfl d_Request_init_56 ?_
  refine V_aload_n hc 0 d_Request_init_59 rfl rfl ?_
  refine V_iconst (v := 0) hc d_Request_init_60 (by decide) ?_
  obtain ⟨q34, hw⟩ := hw
  obtain ⟨q35, hw⟩ := hw
  obtain ⟨h36, eq_h36⟩ : ∃ x, x = mm_uI h33 (v0) 12 (0) := ⟨_, rfl⟩
  replace hw := hw _ eq_h36
  refine V_put (h' := h36) hc gf_Request_46 rfl rfl q34 q35 (by rw [eq_h36]; exact mm_Up_I _ _ _ _) (by rw [eq_h36]; exact up_vI rfl) (vp_nar_int _) rfl d_Request_init_61 ?_
  refine V_aload_n hc 0 d_Request_init_64 rfl rfl ?_
  refine V_lconst (v := 0) hc d_Request_init_65 (by decide) ?_
  obtain ⟨q37, hw⟩ := hw
  obtain ⟨q38, hw⟩ := hw
  obtain ⟨h39, eq_h39⟩ : ∃ x, x = mm_uL h36 (v0) 13 (0) := ⟨_, rfl⟩
  replace hw := hw _ eq_h39
  refine V_put (h' := h39) hc gf_Request_49 rfl rfl q37 q38 (by rw [eq_h39]; exact mm_Up_L _ _ _ _) (by rw [eq_h39]; exact up_vL) rfl rfl d_Request_init_66 ?_
  refine V_aload_n hc 0 d_Request_init_69 rfl rfl ?_
  refine V_iconst (v := 0) hc d_Request_init_70 (by decide) ?_
  obtain ⟨q40, hw⟩ := hw
  obtain ⟨q41, hw⟩ := hw
  obtain ⟨h42, eq_h42⟩ : ∃ x, x = mm_uI h39 (v0) 14 (0) := ⟨_, rfl⟩
  replace hw := hw _ eq_h42
  refine V_put (h' := h42) hc gf_Request_53 rfl rfl q40 q41 (by rw [eq_h42]; exact mm_Up_I _ _ _ _) (by rw [eq_h42]; exact up_vI rfl) (vp_nar_int _) rfl d_Request_init_71 ?_
  refine V_aload_n hc 0 d_Request_init_74 rfl rfl ?_
  refine V_iconst (v := 0) hc d_Request_init_75 (by decide) ?_
  obtain ⟨q43, hw⟩ := hw
  obtain ⟨q44, hw⟩ := hw
  obtain ⟨h45, eq_h45⟩ : ∃ x, x = mm_uI h42 (v0) 15 (0) := ⟨_, rfl⟩
  replace hw := hw _ eq_h45
  refine V_put (h' := h45) hc gf_Request_56 rfl rfl q43 q44 (by rw [eq_h45]; exact mm_Up_I _ _ _ _) (by rw [eq_h45]; exact up_vI rfl) (vp_nar_int _) rfl d_Request_init_76 ?_
  refine V_aload_n hc 0 d_Request_init_79 rfl rfl ?_
  refine V_iconst (v := 0) hc d_Request_init_80 (by decide) ?_
  obtain ⟨q46, hw⟩ := hw
  obtain ⟨q47, hw⟩ := hw
  obtain ⟨h48, eq_h48⟩ : ∃ x, x = mm_uI h45 (v0) 16 (0) := ⟨_, rfl⟩
  replace hw := hw _ eq_h48
  refine V_put (h' := h48) hc gf_Request_59 rfl rfl q46 q47 (by rw [eq_h48]; exact mm_Up_I _ _ _ _) (by rw [eq_h48]; exact up_vI rfl) (by decide) (by decide) d_Request_init_81 ?_
  refine V_aload_n hc 0 d_Request_init_84 rfl rfl ?_
  refine V_aload_n hc 1 d_Request_init_85 rfl rfl ?_
  obtain ⟨q49, hw⟩ := hw
  obtain ⟨q50, hw⟩ := hw
  obtain ⟨h51, eq_h51⟩ : ∃ x, x = mm_uP h48 (v0) 0 (v1) := ⟨_, rfl⟩
  replace hw := hw _ eq_h51
  refine V_putF (h' := h51) hc hin rfl (fun r hr => by cases hr; rfl) gf_Request_62 rfl rfl q49 q50 (by rw [eq_h51]; exact mm_Up_P _ _ _ _) (by rw [eq_h51]; exact up_vP rfl) (pp_nar _) (pp_fit _) d_Request_init_86 ?_
  exact V_vret hc hq ⟨rfl, hw⟩ (by decide) (by decide) d_Request_init_89
def wq_Request_init (ge : Nat → Nat) (v0 : Nat) (v1 : Option Nat) (h : mm_M) (Z : mm_M → Prop) : Prop := wq_Request_init_0 ge v0 v1 h Z
theorem sat_Request_init (G : mm_G) (v0 : Nat) (v1 : Option Nat) (h : mm_M) (Z : mm_M → Prop) (hw : wq_Request_init (mm_ge G) v0 v1 h Z) : mm_Met G y_Request_init c_Request_init 2 none rm_Request_init [va_rf (some v0), va_rf (v1)] h (pV Z) := by
  refine mm_intro (own := "EpochServer$Request") (by decide) rfl (by simp [lg_sl, cat_rf, cat_i, cat_l]) (fun E e1 hc hq hi => ?_)
  subst e1
  have e2 : lv_args 0 [va_rf (some v0), va_rf (v1)] = [(0, va_rf (some v0)), (1, va_rf (v1))] := by simp [lv_args, cat_rf, cat_i, cat_l]
  rw [e2]
  refine V_sub (lv' := [(0, va_rf (some v0)), (1, va_rf (v1))]) [0, 1] rfl ?_
  exact vb_Request_init_0 hc hq (hi rfl) v0 v1 h hw
/-! Request.longNumber(I)J -/
abbrev rm_Request_longNumber : Room := { frames := 1, cells := 0, slots := 0, locals := 21 }
def wq_Request_longNumber_25 (X25 : Nat → Int32 → Int64 → Int32 → mm_M → Prop) (ge : Nat → Nat) (v0 : Nat) (v1 : Int32) (v2 : Int64) (v4 : Int32) (h : mm_M) (Z : Int64 → mm_M → Prop) : Prop :=
  (((v1 : Int32) ≤ (v4 : Int32) → mm_k h (v0) = kd_Request ∧ ge 0 ≤ v0 ∧ ∀ h3 : mm_M, h3 = mm_uI h (v0) 2 ((mm_I h v0 2) + (v1)) → Z (v2) h3) ∧ (¬ (v1 : Int32) ≤ (v4 : Int32) → mm_k h (v0) = kd_Request ∧ ∃ a5, mm_P h v0 0 = some a5 ∧ mm_k h (a5) = kd_Bytes ∧ wq_Bytes_at ge (a5) ((mm_I h v0 2) + (v4)) h (fun (r9 : Int32) (h8 : mm_M) => X25 (v0) (v1) ((v2) ||| ((Int32.toInt64 (r9)) <<< (((8 : Int32) * (v4)).toInt64 &&& 63))) (v4 + 1) h8)))
def lp_Request_longNumber_25  (ge : Nat → Nat) (v0 : Nat) (v1 : Int32) (v2 : Int64) (v4 : Int32) (h : mm_M) (Z : Int64 → mm_M → Prop) : Prop :=
  ∀ X25 : Nat → Int32 → Int64 → Int32 → mm_M → Prop, (∀ (v0 : Nat) (v1 : Int32) (v2 : Int64) (v4 : Int32) (h : mm_M), wq_Request_longNumber_25 X25 ge v0 v1 v2 v4 h Z → X25 v0 v1 v2 v4 h) → X25 v0 v1 v2 v4 h
def wq_Request_longNumber_0  (ge : Nat → Nat) (v0 : Nat) (v1 : Int32) (h : mm_M) (Z : Int64 → mm_M → Prop) : Prop :=
  mm_k h (v0) = kd_Request ∧ (((v1 : Int32) ≤ ((mm_I h v0 1) - (mm_I h v0 2) : Int32) → lp_Request_longNumber_25  ge (v0) (v1) (0) (0) h Z) ∧ (¬ (v1 : Int32) ≤ ((mm_I h v0 1) - (mm_I h v0 2) : Int32) → ge 0 ≤ v0 ∧ ∀ h3 : mm_M, h3 = mm_uI h (v0) 3 (0) → Z (0) h3))
set_option maxRecDepth 100000 in
set_option maxHeartbeats 4000000 in
theorem vb_Request_longNumber_25 {E : mm_E} {Z : Int64 → mm_M → Prop} (hc : cx E "EpochServer$Request" c_Request_longNumber 5 (some (.long)) rm_Request_longNumber) (hq : cq E rm_Request_longNumber (pL Z)) (X25 : Nat → Int32 → Int64 → Int32 → mm_M → Prop) (hX25 : ∀ (v0 : Nat) (v1 : Int32) (v2 : Int64) (v4 : Int32) (h : mm_M), X25 v0 v1 v2 v4 h → V E 5 0 0 h 25 [(0, va_rf (some v0)), (1, .int (v1)), (2, .long (v2)), (4, .int (v4))] []) (v0 : Nat) (v1 : Int32) (v2 : Int64) (v4 : Int32) (h : mm_M) (hw : wq_Request_longNumber_25 X25 (mm_ge (eG E)) v0 v1 v2 v4 h Z) : V E 5 0 0 h 25 [(0, va_rf (some v0)), (1, .int (v1)), (2, .long (v2)), (4, .int (v4))] [] := by
  unfold wq_Request_longNumber_25 at hw
  refine V_iload hc 3 d_Request_longNumber_25 rfl ?_
  refine V_iload_n hc 1 d_Request_longNumber_27 rfl rfl ?_
  refine V_icmp_ge (tgt := 61) hc d_Request_longNumber_28 (by decide) (fun hq1 => ?_) (fun hq1 => ?_)
  · replace hw := hw.1 hq1
    refine V_aload_n hc 0 d_Request_longNumber_61 rfl rfl ?_
    refine V_dup hc d_Request_longNumber_62 (cat_rf _) ?_
    obtain ⟨q1, hw⟩ := hw
    refine V_get (v := .int (mm_I h v0 2)) hc gf_Request_15 rfl q1 rfl d_Request_longNumber_63 ?_
    refine V_iload_n hc 1 d_Request_longNumber_66 rfl rfl ?_
    refine V_iadd hc d_Request_longNumber_67 ?_
    obtain ⟨q2, hw⟩ := hw
    obtain ⟨h3, eq_h3⟩ : ∃ x, x = mm_uI h (v0) 2 ((mm_I h v0 2) + (v1)) := ⟨_, rfl⟩
    replace hw := hw _ eq_h3
    refine V_put (h' := h3) hc gf_Request_15 rfl rfl q1 q2 (by rw [eq_h3]; exact mm_Up_I _ _ _ _) (by rw [eq_h3]; exact up_vI rfl) (vp_nar_int _) rfl d_Request_longNumber_68 ?_
    refine V_lload_n hc 2 d_Request_longNumber_71 rfl rfl ?_
    exact V_lret hc hq ⟨_, rfl, hw⟩ (by decide) (by decide) d_Request_longNumber_72
  · replace hw := hw.2 hq1
    refine V_lload_n hc 2 d_Request_longNumber_31 rfl rfl ?_
    refine V_aload_n hc 0 d_Request_longNumber_32 rfl rfl ?_
    obtain ⟨q4, hw⟩ := hw
    refine V_get (v := va_rf (mm_P h v0 0)) hc gf_Request_62 rfl q4 rfl d_Request_longNumber_33 ?_
    refine V_aload_n hc 0 d_Request_longNumber_36 rfl rfl ?_
    refine V_get (v := .int (mm_I h v0 2)) hc gf_Request_15 rfl q4 rfl d_Request_longNumber_37 ?_
    refine V_iload hc 3 d_Request_longNumber_40 rfl ?_
    refine V_iadd hc d_Request_longNumber_42 ?_
    obtain ⟨a5, q6, hw⟩ := hw
    obtain ⟨q7, hw⟩ := hw
    refine V_callV (rm' := rm_Bytes_at) (As := [.int ((mm_I h v0 2) + (v4))]) (rest := [.long (v2)]) (n := 1) (cn := 3) hc q6 q7 (sat_Bytes_at (eG E) _ _ _ _ hw) rfl cv_Request_90 (gw_of (tw_2 (List.mem_of_getElem? (i := 167) rfl)) rfl) ss_Bytes_at rfl ⟨by decide, by decide⟩ (by decide) (by decide) rfl (by simp [cat_rf, cat_i, cat_l]) d_Request_longNumber_43 (fun r0 h8 hw => ?_)
    obtain ⟨r9, rfl, hw⟩ := hw
    refine V_wide (cs' := 0) (sl' := 0) (by decide) (by decide) ?_
    refine V_st (st' := [.int (r9), .long (v2)]) rfl ?_
    refine V_i2l hc d_Request_longNumber_46 ?_
    refine V_bipush (v := 8) hc d_Request_longNumber_47 (by decide) ?_
    refine V_iload hc 3 d_Request_longNumber_49 rfl ?_
    refine V_imul hc d_Request_longNumber_51 ?_
    refine V_lshl hc d_Request_longNumber_52 ?_
    refine V_lor hc d_Request_longNumber_53 ?_
    refine V_lstore_n (i := 2) (lv' := [(2, .long ((v2) ||| ((Int32.toInt64 (r9)) <<< (((8 : Int32) * (v4)).toInt64 &&& 63)))), (0, va_rf (some v0)), (1, .int (v1)), (4, .int (v4))]) hc d_Request_longNumber_54 rfl (by decide) rfl ?_
    refine V_iinc (v := v4 + 1) (lv' := [(4, .int (v4 + 1)), (2, .long ((v2) ||| ((Int32.toInt64 (r9)) <<< (((8 : Int32) * (v4)).toInt64 &&& 63)))), (0, va_rf (some v0)), (1, .int (v1))]) hc 3 d_Request_longNumber_55 rfl rfl (by decide) rfl ?_
    refine V_goto (tgt := 25) hc d_Request_longNumber_58 (by decide) ?_
    refine V_sub (lv' := [(0, va_rf (some v0)), (1, .int (v1)), (2, .long ((v2) ||| ((Int32.toInt64 (r9)) <<< (((8 : Int32) * (v4)).toInt64 &&& 63)))), (4, .int (v4 + 1))]) [2, 3, 1, 0] rfl ?_
    exact hX25 _ _ _ _ _ hw
theorem vl_Request_longNumber_25 {E : mm_E} {Z : Int64 → mm_M → Prop} (hc : cx E "EpochServer$Request" c_Request_longNumber 5 (some (.long)) rm_Request_longNumber) (hq : cq E rm_Request_longNumber (pL Z))  (v0 : Nat) (v1 : Int32) (v2 : Int64) (v4 : Int32) (h : mm_M) (hw : lp_Request_longNumber_25  (mm_ge (eG E)) v0 v1 v2 v4 h Z) : V E 5 0 0 h 25 [(0, va_rf (some v0)), (1, .int (v1)), (2, .long (v2)), (4, .int (v4))] [] :=
  hw (fun v0 v1 v2 v4 h => V E 5 0 0 h 25 [(0, va_rf (some v0)), (1, .int (v1)), (2, .long (v2)), (4, .int (v4))] []) (fun v0 v1 v2 v4 h hb => vb_Request_longNumber_25 hc hq  _ (fun _ _ _ _ _ q => q) v0 v1 v2 v4 h hb)
set_option maxRecDepth 100000 in
set_option maxHeartbeats 4000000 in
theorem vb_Request_longNumber_0 {E : mm_E} {Z : Int64 → mm_M → Prop} (hc : cx E "EpochServer$Request" c_Request_longNumber 5 (some (.long)) rm_Request_longNumber) (hq : cq E rm_Request_longNumber (pL Z))  (v0 : Nat) (v1 : Int32) (h : mm_M) (hw : wq_Request_longNumber_0  (mm_ge (eG E)) v0 v1 h Z) : V E 5 0 0 h 0 [(0, va_rf (some v0)), (1, .int (v1))] [] := by
  unfold wq_Request_longNumber_0 at hw
  refine V_iload_n hc 1 d_Request_longNumber_0 rfl rfl ?_
  refine V_aload_n hc 0 d_Request_longNumber_1 rfl rfl ?_
  obtain ⟨q1, hw⟩ := hw
  refine V_get (v := .int (mm_I h v0 1)) hc gf_Request_9 rfl q1 rfl d_Request_longNumber_2 ?_
  refine V_aload_n hc 0 d_Request_longNumber_5 rfl rfl ?_
  refine V_get (v := .int (mm_I h v0 2)) hc gf_Request_15 rfl q1 rfl d_Request_longNumber_6 ?_
  refine V_isub hc d_Request_longNumber_9 ?_
  refine V_icmp_le (tgt := 20) hc d_Request_longNumber_10 (by decide) (fun hq1 => ?_) (fun hq1 => ?_)
  · replace hw := hw.1 hq1
    refine V_lconst (v := 0) hc d_Request_longNumber_20 (by decide) ?_
    refine V_lstore_n (i := 2) (lv' := [(2, .long (0)), (0, va_rf (some v0)), (1, .int (v1))]) hc d_Request_longNumber_21 rfl (by decide) rfl ?_
    refine V_iconst (v := 0) hc d_Request_longNumber_22 (by decide) ?_
    refine V_istore (i := 4) (lv' := [(4, .int (0)), (2, .long (0)), (0, va_rf (some v0)), (1, .int (v1))]) hc d_Request_longNumber_23 (by decide) rfl ?_
    refine V_sub (lv' := [(0, va_rf (some v0)), (1, .int (v1)), (2, .long (0)), (4, .int (0))]) [2, 3, 1, 0] rfl ?_
    exact vl_Request_longNumber_25 hc hq  _ _ _ _ _ hw
  · replace hw := hw.2 hq1
    refine V_aload_n hc 0 d_Request_longNumber_13 rfl rfl ?_
    refine V_iconst (v := 0) hc d_Request_longNumber_14 (by decide) ?_
    obtain ⟨q2, hw⟩ := hw
    obtain ⟨h3, eq_h3⟩ : ∃ x, x = mm_uI h (v0) 3 (0) := ⟨_, rfl⟩
    replace hw := hw _ eq_h3
    refine V_put (h' := h3) hc gf_Request_18 rfl rfl q1 q2 (by rw [eq_h3]; exact mm_Up_I _ _ _ _) (by rw [eq_h3]; exact up_vI rfl) (by decide) (by decide) d_Request_longNumber_15 ?_
    refine V_lconst (v := 0) hc d_Request_longNumber_18 (by decide) ?_
    exact V_lret hc hq ⟨_, rfl, hw⟩ (by decide) (by decide) d_Request_longNumber_19
def wq_Request_longNumber (ge : Nat → Nat) (v0 : Nat) (v1 : Int32) (h : mm_M) (Z : Int64 → mm_M → Prop) : Prop := wq_Request_longNumber_0 ge v0 v1 h Z
theorem sat_Request_longNumber (G : mm_G) (v0 : Nat) (v1 : Int32) (h : mm_M) (Z : Int64 → mm_M → Prop) (hw : wq_Request_longNumber (mm_ge G) v0 v1 h Z) : mm_Met G y_Request_longNumber c_Request_longNumber 5 (some (.long)) rm_Request_longNumber [va_rf (some v0), .int (v1)] h (pL Z) := by
  refine mm_intro (own := "EpochServer$Request") (by decide) rfl (by simp [lg_sl, cat_rf, cat_i, cat_l]) (fun E e1 hc hq hi => ?_)
  subst e1
  have e2 : lv_args 0 [va_rf (some v0), .int (v1)] = [(0, va_rf (some v0)), (1, .int (v1))] := by simp [lv_args, cat_rf, cat_i, cat_l]
  rw [e2]
  refine V_sub (lv' := [(0, va_rf (some v0)), (1, .int (v1))]) [0, 1] rfl ?_
  exact vb_Request_longNumber_0 hc hq v0 v1 h hw
/-! Request.number(I)I -/
abbrev rm_Request_number : Room := { frames := 2, cells := 0, slots := 0, locals := 45 }
def wq_Request_number_0  (ge : Nat → Nat) (v0 : Nat) (v1 : Int32) (h : mm_M) (Z : Int32 → mm_M → Prop) : Prop :=
  mm_k h (v0) = kd_Request ∧ wq_Request_longNumber ge (v0) (v1) h (fun (r3 : Int64) (h2 : mm_M) => Z (Int64.toInt32 (r3)) h2)
set_option maxRecDepth 100000 in
set_option maxHeartbeats 4000000 in
theorem vb_Request_number_0 {E : mm_E} {Z : Int32 → mm_M → Prop} (hc : cx E "EpochServer$Request" c_Request_number 2 (some (.int)) rm_Request_number) (hq : cq E rm_Request_number (pI Z))  (v0 : Nat) (v1 : Int32) (h : mm_M) (hw : wq_Request_number_0  (mm_ge (eG E)) v0 v1 h Z) : V E 2 0 0 h 0 [(0, va_rf (some v0)), (1, .int (v1))] [] := by
  unfold wq_Request_number_0 at hw
  refine V_aload_n hc 0 d_Request_number_0 rfl rfl ?_
  refine V_iload_n hc 1 d_Request_number_1 rfl rfl ?_
  obtain ⟨q1, hw⟩ := hw
  refine V_callV (rm' := rm_Request_longNumber) (As := [.int (v1)]) (rest := []) (n := 1) (cn := 8) hc rfl q1 (sat_Request_longNumber (eG E) _ _ _ _ hw) rfl cv_Request_80 (gw_of (tw_2 (List.mem_of_getElem? (i := 188) rfl)) rfl) ss_Request_longNumber rfl ⟨by decide, by decide⟩ (by decide) (by decide) rfl (by simp [cat_rf, cat_i, cat_l]) d_Request_number_2 (fun r0 h2 hw => ?_)
  obtain ⟨r3, rfl, hw⟩ := hw
  refine V_wide (cs' := 0) (sl' := 0) (by decide) (by decide) ?_
  refine V_st (st' := [.long (r3)]) rfl ?_
  refine V_l2i hc d_Request_number_5 ?_
  exact V_iret hc hq ⟨_, rfl, hw⟩ (by decide) (by decide) d_Request_number_6
def wq_Request_number (ge : Nat → Nat) (v0 : Nat) (v1 : Int32) (h : mm_M) (Z : Int32 → mm_M → Prop) : Prop := wq_Request_number_0 ge v0 v1 h Z
theorem sat_Request_number (G : mm_G) (v0 : Nat) (v1 : Int32) (h : mm_M) (Z : Int32 → mm_M → Prop) (hw : wq_Request_number (mm_ge G) v0 v1 h Z) : mm_Met G y_Request_number c_Request_number 2 (some (.int)) rm_Request_number [va_rf (some v0), .int (v1)] h (pI Z) := by
  refine mm_intro (own := "EpochServer$Request") (by decide) rfl (by simp [lg_sl, cat_rf, cat_i, cat_l]) (fun E e1 hc hq hi => ?_)
  subst e1
  have e2 : lv_args 0 [va_rf (some v0), .int (v1)] = [(0, va_rf (some v0)), (1, .int (v1))] := by simp [lv_args, cat_rf, cat_i, cat_l]
  rw [e2]
  refine V_sub (lv' := [(0, va_rf (some v0)), (1, .int (v1))]) [0, 1] rfl ?_
  exact vb_Request_number_0 hc hq v0 v1 h hw
/-! Request.skip(I)V -/
abbrev rm_Request_skip : Room := { frames := 0, cells := 0, slots := 0, locals := 0 }
def wq_Request_skip_35  (ge : Nat → Nat)  (h : mm_M) (Z : mm_M → Prop) : Prop :=
  Z h
def wq_Request_skip_17  (ge : Nat → Nat) (v0 : Nat) (h : mm_M) (Z : mm_M → Prop) : Prop :=
  mm_k h (v0) = kd_Request ∧ ge 0 ≤ v0 ∧ ∀ h3 : mm_M, h3 = mm_uI h (v0) 3 (0) → wq_Request_skip_35  ge h3 Z
def wq_Request_skip_0  (ge : Nat → Nat) (v0 : Nat) (v1 : Int32) (h : mm_M) (Z : mm_M → Prop) : Prop :=
  (((v1) < 0 → wq_Request_skip_17  ge (v0) h Z) ∧ (¬ (v1) < 0 → mm_k h (v0) = kd_Request ∧ (((v1 : Int32) ≤ ((mm_I h v0 1) - (mm_I h v0 2) : Int32) → ge 0 ≤ v0 ∧ ∀ h3 : mm_M, h3 = mm_uI h (v0) 2 ((mm_I h v0 2) + (v1)) → wq_Request_skip_35  ge h3 Z) ∧ (¬ (v1 : Int32) ≤ ((mm_I h v0 1) - (mm_I h v0 2) : Int32) → wq_Request_skip_17  ge (v0) h Z))))
set_option maxRecDepth 100000 in
set_option maxHeartbeats 4000000 in
theorem vb_Request_skip_35 {E : mm_E} {Z : mm_M → Prop} (hc : cx E "EpochServer$Request" c_Request_skip 2 none rm_Request_skip) (hq : cq E rm_Request_skip (pV Z))   (h : mm_M) (hw : wq_Request_skip_35  (mm_ge (eG E))  h Z) : V E 2 0 0 h 35 [] [] := by
  unfold wq_Request_skip_35 at hw
  exact V_vret hc hq ⟨rfl, hw⟩ (by decide) (by decide) d_Request_skip_35
set_option maxRecDepth 100000 in
set_option maxHeartbeats 4000000 in
theorem vb_Request_skip_17 {E : mm_E} {Z : mm_M → Prop} (hc : cx E "EpochServer$Request" c_Request_skip 2 none rm_Request_skip) (hq : cq E rm_Request_skip (pV Z))  (v0 : Nat) (h : mm_M) (hw : wq_Request_skip_17  (mm_ge (eG E)) v0 h Z) : V E 2 0 0 h 17 [(0, va_rf (some v0))] [] := by
  unfold wq_Request_skip_17 at hw
  refine V_aload_n hc 0 d_Request_skip_17 rfl rfl ?_
  refine V_iconst (v := 0) hc d_Request_skip_18 (by decide) ?_
  obtain ⟨q1, hw⟩ := hw
  obtain ⟨q2, hw⟩ := hw
  obtain ⟨h3, eq_h3⟩ : ∃ x, x = mm_uI h (v0) 3 (0) := ⟨_, rfl⟩
  replace hw := hw _ eq_h3
  refine V_put (h' := h3) hc gf_Request_18 rfl rfl q1 q2 (by rw [eq_h3]; exact mm_Up_I _ _ _ _) (by rw [eq_h3]; exact up_vI rfl) (by decide) (by decide) d_Request_skip_19 ?_
  refine V_goto (tgt := 35) hc d_Request_skip_22 (by decide) ?_
  refine V_sub (lv' := []) [] rfl ?_
  exact vb_Request_skip_35 hc hq  _ hw
set_option maxRecDepth 100000 in
set_option maxHeartbeats 4000000 in
theorem vb_Request_skip_0 {E : mm_E} {Z : mm_M → Prop} (hc : cx E "EpochServer$Request" c_Request_skip 2 none rm_Request_skip) (hq : cq E rm_Request_skip (pV Z))  (v0 : Nat) (v1 : Int32) (h : mm_M) (hw : wq_Request_skip_0  (mm_ge (eG E)) v0 v1 h Z) : V E 2 0 0 h 0 [(0, va_rf (some v0)), (1, .int (v1))] [] := by
  unfold wq_Request_skip_0 at hw
  refine V_iload_n hc 1 d_Request_skip_0 rfl rfl ?_
  refine V_if_lt (tgt := 17) hc d_Request_skip_1 (by decide) (fun hq1 => ?_) (fun hq1 => ?_)
  · replace hw := hw.1 hq1
    refine V_sub (lv' := [(0, va_rf (some v0))]) [0] rfl ?_
    exact vb_Request_skip_17 hc hq  _ _ hw
  · replace hw := hw.2 hq1
    refine V_iload_n hc 1 d_Request_skip_4 rfl rfl ?_
    refine V_aload_n hc 0 d_Request_skip_5 rfl rfl ?_
    obtain ⟨q1, hw⟩ := hw
    refine V_get (v := .int (mm_I h v0 1)) hc gf_Request_9 rfl q1 rfl d_Request_skip_6 ?_
    refine V_aload_n hc 0 d_Request_skip_9 rfl rfl ?_
    refine V_get (v := .int (mm_I h v0 2)) hc gf_Request_15 rfl q1 rfl d_Request_skip_10 ?_
    refine V_isub hc d_Request_skip_13 ?_
    refine V_icmp_le (tgt := 25) hc d_Request_skip_14 (by decide) (fun hq1 => ?_) (fun hq1 => ?_)
    · replace hw := hw.1 hq1
      refine V_aload_n hc 0 d_Request_skip_25 rfl rfl ?_
      refine V_dup hc d_Request_skip_26 (cat_rf _) ?_
      refine V_get (v := .int (mm_I h v0 2)) hc gf_Request_15 rfl q1 rfl d_Request_skip_27 ?_
      refine V_iload_n hc 1 d_Request_skip_30 rfl rfl ?_
      refine V_iadd hc d_Request_skip_31 ?_
      obtain ⟨q2, hw⟩ := hw
      obtain ⟨h3, eq_h3⟩ : ∃ x, x = mm_uI h (v0) 2 ((mm_I h v0 2) + (v1)) := ⟨_, rfl⟩
      replace hw := hw _ eq_h3
      refine V_put (h' := h3) hc gf_Request_15 rfl rfl q1 q2 (by rw [eq_h3]; exact mm_Up_I _ _ _ _) (by rw [eq_h3]; exact up_vI rfl) (vp_nar_int _) rfl d_Request_skip_32 ?_
      refine V_sub (lv' := []) [] rfl ?_
      exact vb_Request_skip_35 hc hq  _ hw
    · replace hw := hw.2 hq1
      refine V_sub (lv' := [(0, va_rf (some v0))]) [0] rfl ?_
      exact vb_Request_skip_17 hc hq  _ _ hw
def wq_Request_skip (ge : Nat → Nat) (v0 : Nat) (v1 : Int32) (h : mm_M) (Z : mm_M → Prop) : Prop := wq_Request_skip_0 ge v0 v1 h Z
theorem sat_Request_skip (G : mm_G) (v0 : Nat) (v1 : Int32) (h : mm_M) (Z : mm_M → Prop) (hw : wq_Request_skip (mm_ge G) v0 v1 h Z) : mm_Met G y_Request_skip c_Request_skip 2 none rm_Request_skip [va_rf (some v0), .int (v1)] h (pV Z) := by
  refine mm_intro (own := "EpochServer$Request") (by decide) rfl (by simp [lg_sl, cat_rf, cat_i, cat_l]) (fun E e1 hc hq hi => ?_)
  subst e1
  have e2 : lv_args 0 [va_rf (some v0), .int (v1)] = [(0, va_rf (some v0)), (1, .int (v1))] := by simp [lv_args, cat_rf, cat_i, cat_l]
  rw [e2]
  refine V_sub (lv' := [(0, va_rf (some v0)), (1, .int (v1))]) [0, 1] rfl ?_
  exact vb_Request_skip_0 hc hq v0 v1 h hw
/-! Request.readText()V -/
abbrev rm_Request_readText : Room := { frames := 3, cells := 0, slots := 0, locals := 66 }
def wq_Request_readText_0  (ge : Nat → Nat) (v0 : Nat) (h : mm_M) (Z : mm_M → Prop) : Prop :=
  mm_k h (v0) = kd_Request ∧ wq_Request_number ge (v0) (2) h (fun (r3 : Int32) (h2 : mm_M) => mm_k h2 (v0) = kd_Request ∧ ge 0 ≤ v0 ∧ ∀ h6 : mm_M, h6 = mm_uI h2 (v0) 15 (r3) → mm_k h6 (v0) = kd_Request ∧ ge 0 ≤ v0 ∧ ∀ h9 : mm_M, h9 = mm_uI h6 (v0) 14 (mm_I h6 v0 2) → mm_k h9 (v0) = kd_Request ∧ wq_Request_skip ge (v0) (mm_I h9 v0 15) h9 (fun h11 : mm_M => Z h11))
set_option maxRecDepth 100000 in
set_option maxHeartbeats 4000000 in
theorem vb_Request_readText_0 {E : mm_E} {Z : mm_M → Prop} (hc : cx E "EpochServer$Request" c_Request_readText 1 none rm_Request_readText) (hq : cq E rm_Request_readText (pV Z))  (v0 : Nat) (h : mm_M) (hw : wq_Request_readText_0  (mm_ge (eG E)) v0 h Z) : V E 1 0 0 h 0 [(0, va_rf (some v0))] [] := by
  unfold wq_Request_readText_0 at hw
  refine V_aload_n hc 0 d_Request_readText_0 rfl rfl ?_
  refine V_aload_n hc 0 d_Request_readText_1 rfl rfl ?_
  refine V_iconst (v := 2) hc d_Request_readText_2 (by decide) ?_
  obtain ⟨q1, hw⟩ := hw
  refine V_callV (rm' := rm_Request_number) (As := [.int (2)]) (rest := [va_rf (some v0)]) (n := 1) (cn := 8) hc rfl q1 (sat_Request_number (eG E) _ _ _ _ hw) rfl cv_Request_66 (gw_of (tw_2 (List.mem_of_getElem? (i := 184) rfl)) rfl) ss_Request_number rfl ⟨by decide, by decide⟩ (by decide) (by decide) rfl (by simp [cat_rf, cat_i, cat_l]) d_Request_readText_3 (fun r0 h2 hw => ?_)
  obtain ⟨r3, rfl, hw⟩ := hw
  refine V_wide (cs' := 0) (sl' := 0) (by decide) (by decide) ?_
  refine V_st (st' := [.int (r3), va_rf (some v0)]) rfl ?_
  obtain ⟨q4, hw⟩ := hw
  obtain ⟨q5, hw⟩ := hw
  obtain ⟨h6, eq_h6⟩ : ∃ x, x = mm_uI h2 (v0) 15 (r3) := ⟨_, rfl⟩
  replace hw := hw _ eq_h6
  refine V_put (h' := h6) hc gf_Request_56 rfl rfl q4 q5 (by rw [eq_h6]; exact mm_Up_I _ _ _ _) (by rw [eq_h6]; exact up_vI rfl) (vp_nar_int _) rfl d_Request_readText_6 ?_
  refine V_aload_n hc 0 d_Request_readText_9 rfl rfl ?_
  refine V_aload_n hc 0 d_Request_readText_10 rfl rfl ?_
  obtain ⟨q7, hw⟩ := hw
  refine V_get (v := .int (mm_I h6 v0 2)) hc gf_Request_15 rfl q7 rfl d_Request_readText_11 ?_
  obtain ⟨q8, hw⟩ := hw
  obtain ⟨h9, eq_h9⟩ : ∃ x, x = mm_uI h6 (v0) 14 (mm_I h6 v0 2) := ⟨_, rfl⟩
  replace hw := hw _ eq_h9
  refine V_put (h' := h9) hc gf_Request_53 rfl rfl q7 q8 (by rw [eq_h9]; exact mm_Up_I _ _ _ _) (by rw [eq_h9]; exact up_vI rfl) (vp_nar_int _) rfl d_Request_readText_14 ?_
  refine V_aload_n hc 0 d_Request_readText_17 rfl rfl ?_
  refine V_aload_n hc 0 d_Request_readText_18 rfl rfl ?_
  obtain ⟨q10, hw⟩ := hw
  refine V_get (v := .int (mm_I h9 v0 15)) hc gf_Request_56 rfl q10 rfl d_Request_readText_19 ?_
  refine V_callV (rm' := rm_Request_skip) (As := [.int (mm_I h9 v0 15)]) (rest := []) (n := 1) (cn := 8) hc rfl q10 (sat_Request_skip (eG E) _ _ _ _ hw) rfl cv_Request_94 (gw_of (tw_2 (List.mem_of_getElem? (i := 201) rfl)) rfl) ss_Request_skip rfl ⟨by decide, by decide⟩ (by decide) (by decide) rfl (by simp [cat_rf, cat_i, cat_l]) d_Request_readText_22 (fun r0 h11 hw => ?_)
  obtain ⟨rfl, hw⟩ := hw
  refine V_wide (cs' := 0) (sl' := 0) (by decide) (by decide) ?_
  refine V_st (st' := []) rfl ?_
  exact V_vret hc hq ⟨rfl, hw⟩ (by decide) (by decide) d_Request_readText_25
def wq_Request_readText (ge : Nat → Nat) (v0 : Nat) (h : mm_M) (Z : mm_M → Prop) : Prop := wq_Request_readText_0 ge v0 h Z
theorem sat_Request_readText (G : mm_G) (v0 : Nat) (h : mm_M) (Z : mm_M → Prop) (hw : wq_Request_readText (mm_ge G) v0 h Z) : mm_Met G y_Request_readText c_Request_readText 1 none rm_Request_readText [va_rf (some v0)] h (pV Z) := by
  refine mm_intro (own := "EpochServer$Request") (by decide) rfl (by simp [lg_sl, cat_rf, cat_i, cat_l]) (fun E e1 hc hq hi => ?_)
  subst e1
  have e2 : lv_args 0 [va_rf (some v0)] = [(0, va_rf (some v0))] := by simp [lv_args, cat_rf, cat_i, cat_l]
  rw [e2]
  refine V_sub (lv' := [(0, va_rf (some v0))]) [0] rfl ?_
  exact vb_Request_readText_0 hc hq v0 h hw
/-! Request.readNames()V -/
abbrev rm_Request_readNames : Room := { frames := 4, cells := 0, slots := 0, locals := 86 }
def wq_Request_readNames_44  (ge : Nat → Nat)  (h : mm_M) (Z : mm_M → Prop) : Prop :=
  Z h
def wq_Request_readNames_19 (X19 : Nat → Int32 → mm_M → Prop) (ge : Nat → Nat) (v0 : Nat) (v1 : Int32) (h : mm_M) (Z : mm_M → Prop) : Prop :=
  mm_k h (v0) = kd_Request ∧ (((mm_I h v0 9 : Int32) ≤ (v1 : Int32) → wq_Request_readNames_44  ge h Z) ∧ (¬ (mm_I h v0 9 : Int32) ≤ (v1 : Int32) → (((mm_I h v0 3) = 0 → wq_Request_readNames_44  ge h Z) ∧ (¬ (mm_I h v0 3) = 0 → wq_Request_readText ge (v0) h (fun h2 : mm_M => X19 (v0) (v1 + 1) h2)))))
def lp_Request_readNames_19  (ge : Nat → Nat) (v0 : Nat) (v1 : Int32) (h : mm_M) (Z : mm_M → Prop) : Prop :=
  ∀ X19 : Nat → Int32 → mm_M → Prop, (∀ (v0 : Nat) (v1 : Int32) (h : mm_M), wq_Request_readNames_19 X19 ge v0 v1 h Z → X19 v0 v1 h) → X19 v0 v1 h
def wq_Request_readNames_0  (ge : Nat → Nat) (v0 : Nat) (h : mm_M) (Z : mm_M → Prop) : Prop :=
  mm_k h (v0) = kd_Request ∧ wq_Request_number ge (v0) (2) h (fun (r3 : Int32) (h2 : mm_M) => mm_k h2 (v0) = kd_Request ∧ ge 0 ≤ v0 ∧ ∀ h6 : mm_M, h6 = mm_uI h2 (v0) 9 (r3) → mm_k h6 (v0) = kd_Request ∧ ge 0 ≤ v0 ∧ ∀ h9 : mm_M, h9 = mm_uI h6 (v0) 4 (mm_I h6 v0 2) → lp_Request_readNames_19  ge (v0) (0) h9 Z)
set_option maxRecDepth 100000 in
set_option maxHeartbeats 4000000 in
theorem vb_Request_readNames_44 {E : mm_E} {Z : mm_M → Prop} (hc : cx E "EpochServer$Request" c_Request_readNames 2 none rm_Request_readNames) (hq : cq E rm_Request_readNames (pV Z))   (h : mm_M) (hw : wq_Request_readNames_44  (mm_ge (eG E))  h Z) : V E 2 0 0 h 44 [] [] := by
  unfold wq_Request_readNames_44 at hw
  exact V_vret hc hq ⟨rfl, hw⟩ (by decide) (by decide) d_Request_readNames_44
set_option maxRecDepth 100000 in
set_option maxHeartbeats 4000000 in
theorem vb_Request_readNames_19 {E : mm_E} {Z : mm_M → Prop} (hc : cx E "EpochServer$Request" c_Request_readNames 2 none rm_Request_readNames) (hq : cq E rm_Request_readNames (pV Z)) (X19 : Nat → Int32 → mm_M → Prop) (hX19 : ∀ (v0 : Nat) (v1 : Int32) (h : mm_M), X19 v0 v1 h → V E 2 0 0 h 19 [(0, va_rf (some v0)), (1, .int (v1))] []) (v0 : Nat) (v1 : Int32) (h : mm_M) (hw : wq_Request_readNames_19 X19 (mm_ge (eG E)) v0 v1 h Z) : V E 2 0 0 h 19 [(0, va_rf (some v0)), (1, .int (v1))] [] := by
  unfold wq_Request_readNames_19 at hw
  refine V_iload_n hc 1 d_Request_readNames_19 rfl rfl ?_
  refine V_aload_n hc 0 d_Request_readNames_20 rfl rfl ?_
  obtain ⟨q1, hw⟩ := hw
  refine V_get (v := .int (mm_I h v0 9)) hc gf_Request_37 rfl q1 rfl d_Request_readNames_21 ?_
  refine V_icmp_ge (tgt := 44) hc d_Request_readNames_24 (by decide) (fun hq1 => ?_) (fun hq1 => ?_)
  · replace hw := hw.1 hq1
    refine V_sub (lv' := []) [] rfl ?_
    exact vb_Request_readNames_44 hc hq  _ hw
  · replace hw := hw.2 hq1
    refine V_aload_n hc 0 d_Request_readNames_27 rfl rfl ?_
    refine V_get (v := .int (mm_I h v0 3)) hc gf_Request_18 rfl q1 rfl d_Request_readNames_28 ?_
    refine V_if_eq (tgt := 44) hc d_Request_readNames_31 (by decide) (fun hq1 => ?_) (fun hq1 => ?_)
    · replace hw := hw.1 hq1
      refine V_sub (lv' := []) [] rfl ?_
      exact vb_Request_readNames_44 hc hq  _ hw
    · replace hw := hw.2 hq1
      refine V_aload_n hc 0 d_Request_readNames_34 rfl rfl ?_
      refine V_callV (rm' := rm_Request_readText) (As := []) (rest := []) (n := 0) (cn := 8) hc rfl q1 (sat_Request_readText (eG E) _ _ _ hw) rfl cv_Request_74 (gw_of (tw_2 (List.mem_of_getElem? (i := 196) rfl)) rfl) ss_Request_readText rfl ⟨by decide, by decide⟩ (by decide) (by decide) rfl (by simp [cat_rf, cat_i, cat_l]) d_Request_readNames_35 (fun r0 h2 hw => ?_)
      obtain ⟨rfl, hw⟩ := hw
      refine V_wide (cs' := 0) (sl' := 0) (by decide) (by decide) ?_
      refine V_st (st' := []) rfl ?_
      refine V_iinc (v := v1 + 1) (lv' := [(1, .int (v1 + 1)), (0, va_rf (some v0))]) hc 1 d_Request_readNames_38 rfl rfl (by decide) rfl ?_
      refine V_goto (tgt := 19) hc d_Request_readNames_41 (by decide) ?_
      refine V_sub (lv' := [(0, va_rf (some v0)), (1, .int (v1 + 1))]) [1, 0] rfl ?_
      exact hX19 _ _ _ hw
theorem vl_Request_readNames_19 {E : mm_E} {Z : mm_M → Prop} (hc : cx E "EpochServer$Request" c_Request_readNames 2 none rm_Request_readNames) (hq : cq E rm_Request_readNames (pV Z))  (v0 : Nat) (v1 : Int32) (h : mm_M) (hw : lp_Request_readNames_19  (mm_ge (eG E)) v0 v1 h Z) : V E 2 0 0 h 19 [(0, va_rf (some v0)), (1, .int (v1))] [] :=
  hw (fun v0 v1 h => V E 2 0 0 h 19 [(0, va_rf (some v0)), (1, .int (v1))] []) (fun v0 v1 h hb => vb_Request_readNames_19 hc hq  _ (fun _ _ _ q => q) v0 v1 h hb)
set_option maxRecDepth 100000 in
set_option maxHeartbeats 4000000 in
theorem vb_Request_readNames_0 {E : mm_E} {Z : mm_M → Prop} (hc : cx E "EpochServer$Request" c_Request_readNames 2 none rm_Request_readNames) (hq : cq E rm_Request_readNames (pV Z))  (v0 : Nat) (h : mm_M) (hw : wq_Request_readNames_0  (mm_ge (eG E)) v0 h Z) : V E 2 0 0 h 0 [(0, va_rf (some v0))] [] := by
  unfold wq_Request_readNames_0 at hw
  refine V_aload_n hc 0 d_Request_readNames_0 rfl rfl ?_
  refine V_aload_n hc 0 d_Request_readNames_1 rfl rfl ?_
  refine V_iconst (v := 2) hc d_Request_readNames_2 (by decide) ?_
  obtain ⟨q1, hw⟩ := hw
  refine V_callV (rm' := rm_Request_number) (As := [.int (2)]) (rest := [va_rf (some v0)]) (n := 1) (cn := 8) hc rfl q1 (sat_Request_number (eG E) _ _ _ _ hw) rfl cv_Request_66 (gw_of (tw_2 (List.mem_of_getElem? (i := 184) rfl)) rfl) ss_Request_number rfl ⟨by decide, by decide⟩ (by decide) (by decide) rfl (by simp [cat_rf, cat_i, cat_l]) d_Request_readNames_3 (fun r0 h2 hw => ?_)
  obtain ⟨r3, rfl, hw⟩ := hw
  refine V_wide (cs' := 0) (sl' := 0) (by decide) (by decide) ?_
  refine V_st (st' := [.int (r3), va_rf (some v0)]) rfl ?_
  obtain ⟨q4, hw⟩ := hw
  obtain ⟨q5, hw⟩ := hw
  obtain ⟨h6, eq_h6⟩ : ∃ x, x = mm_uI h2 (v0) 9 (r3) := ⟨_, rfl⟩
  replace hw := hw _ eq_h6
  refine V_put (h' := h6) hc gf_Request_37 rfl rfl q4 q5 (by rw [eq_h6]; exact mm_Up_I _ _ _ _) (by rw [eq_h6]; exact up_vI rfl) (vp_nar_int _) rfl d_Request_readNames_6 ?_
  refine V_aload_n hc 0 d_Request_readNames_9 rfl rfl ?_
  refine V_aload_n hc 0 d_Request_readNames_10 rfl rfl ?_
  obtain ⟨q7, hw⟩ := hw
  refine V_get (v := .int (mm_I h6 v0 2)) hc gf_Request_15 rfl q7 rfl d_Request_readNames_11 ?_
  obtain ⟨q8, hw⟩ := hw
  obtain ⟨h9, eq_h9⟩ : ∃ x, x = mm_uI h6 (v0) 4 (mm_I h6 v0 2) := ⟨_, rfl⟩
  replace hw := hw _ eq_h9
  refine V_put (h' := h9) hc gf_Request_22 rfl rfl q7 q8 (by rw [eq_h9]; exact mm_Up_I _ _ _ _) (by rw [eq_h9]; exact up_vI rfl) (vp_nar_int _) rfl d_Request_readNames_14 ?_
  refine V_iconst (v := 0) hc d_Request_readNames_17 (by decide) ?_
  refine V_istore_n (i := 1) (lv' := [(1, .int (0)), (0, va_rf (some v0))]) hc d_Request_readNames_18 rfl (by decide) rfl ?_
  refine V_sub (lv' := [(0, va_rf (some v0)), (1, .int (0))]) [1, 0] rfl ?_
  exact vl_Request_readNames_19 hc hq  _ _ _ hw
def wq_Request_readNames (ge : Nat → Nat) (v0 : Nat) (h : mm_M) (Z : mm_M → Prop) : Prop := wq_Request_readNames_0 ge v0 h Z
theorem sat_Request_readNames (G : mm_G) (v0 : Nat) (h : mm_M) (Z : mm_M → Prop) (hw : wq_Request_readNames (mm_ge G) v0 h Z) : mm_Met G y_Request_readNames c_Request_readNames 2 none rm_Request_readNames [va_rf (some v0)] h (pV Z) := by
  refine mm_intro (own := "EpochServer$Request") (by decide) rfl (by simp [lg_sl, cat_rf, cat_i, cat_l]) (fun E e1 hc hq hi => ?_)
  subst e1
  have e2 : lv_args 0 [va_rf (some v0)] = [(0, va_rf (some v0))] := by simp [lv_args, cat_rf, cat_i, cat_l]
  rw [e2]
  refine V_sub (lv' := [(0, va_rf (some v0))]) [0] rfl ?_
  exact vb_Request_readNames_0 hc hq v0 h hw
/-! Request.readData()V -/
abbrev rm_Request_readData : Room := { frames := 3, cells := 0, slots := 0, locals := 66 }
def wq_Request_readData_0  (ge : Nat → Nat) (v0 : Nat) (h : mm_M) (Z : mm_M → Prop) : Prop :=
  mm_k h (v0) = kd_Request ∧ wq_Request_number ge (v0) (4) h (fun (r3 : Int32) (h2 : mm_M) => mm_k h2 (v0) = kd_Request ∧ ge 0 ≤ v0 ∧ ∀ h6 : mm_M, h6 = mm_uI h2 (v0) 9 (r3) → mm_k h6 (v0) = kd_Request ∧ ge 0 ≤ v0 ∧ ∀ h9 : mm_M, h9 = mm_uI h6 (v0) 15 (mm_I h6 v0 9) → mm_k h9 (v0) = kd_Request ∧ ge 0 ≤ v0 ∧ ∀ h12 : mm_M, h12 = mm_uI h9 (v0) 14 (mm_I h9 v0 2) → mm_k h12 (v0) = kd_Request ∧ wq_Request_skip ge (v0) (mm_I h12 v0 9) h12 (fun h14 : mm_M => Z h14))
set_option maxRecDepth 100000 in
set_option maxHeartbeats 4000000 in
theorem vb_Request_readData_0 {E : mm_E} {Z : mm_M → Prop} (hc : cx E "EpochServer$Request" c_Request_readData 1 none rm_Request_readData) (hq : cq E rm_Request_readData (pV Z))  (v0 : Nat) (h : mm_M) (hw : wq_Request_readData_0  (mm_ge (eG E)) v0 h Z) : V E 1 0 0 h 0 [(0, va_rf (some v0))] [] := by
  unfold wq_Request_readData_0 at hw
  refine V_aload_n hc 0 d_Request_readData_0 rfl rfl ?_
  refine V_aload_n hc 0 d_Request_readData_1 rfl rfl ?_
  refine V_iconst (v := 4) hc d_Request_readData_2 (by decide) ?_
  obtain ⟨q1, hw⟩ := hw
  refine V_callV (rm' := rm_Request_number) (As := [.int (4)]) (rest := [va_rf (some v0)]) (n := 1) (cn := 8) hc rfl q1 (sat_Request_number (eG E) _ _ _ _ hw) rfl cv_Request_66 (gw_of (tw_2 (List.mem_of_getElem? (i := 184) rfl)) rfl) ss_Request_number rfl ⟨by decide, by decide⟩ (by decide) (by decide) rfl (by simp [cat_rf, cat_i, cat_l]) d_Request_readData_3 (fun r0 h2 hw => ?_)
  obtain ⟨r3, rfl, hw⟩ := hw
  refine V_wide (cs' := 0) (sl' := 0) (by decide) (by decide) ?_
  refine V_st (st' := [.int (r3), va_rf (some v0)]) rfl ?_
  obtain ⟨q4, hw⟩ := hw
  obtain ⟨q5, hw⟩ := hw
  obtain ⟨h6, eq_h6⟩ : ∃ x, x = mm_uI h2 (v0) 9 (r3) := ⟨_, rfl⟩
  replace hw := hw _ eq_h6
  refine V_put (h' := h6) hc gf_Request_37 rfl rfl q4 q5 (by rw [eq_h6]; exact mm_Up_I _ _ _ _) (by rw [eq_h6]; exact up_vI rfl) (vp_nar_int _) rfl d_Request_readData_6 ?_
  refine V_aload_n hc 0 d_Request_readData_9 rfl rfl ?_
  refine V_aload_n hc 0 d_Request_readData_10 rfl rfl ?_
  obtain ⟨q7, hw⟩ := hw
  refine V_get (v := .int (mm_I h6 v0 9)) hc gf_Request_37 rfl q7 rfl d_Request_readData_11 ?_
  obtain ⟨q8, hw⟩ := hw
  obtain ⟨h9, eq_h9⟩ : ∃ x, x = mm_uI h6 (v0) 15 (mm_I h6 v0 9) := ⟨_, rfl⟩
  replace hw := hw _ eq_h9
  refine V_put (h' := h9) hc gf_Request_56 rfl rfl q7 q8 (by rw [eq_h9]; exact mm_Up_I _ _ _ _) (by rw [eq_h9]; exact up_vI rfl) (vp_nar_int _) rfl d_Request_readData_14 ?_
  refine V_aload_n hc 0 d_Request_readData_17 rfl rfl ?_
  refine V_aload_n hc 0 d_Request_readData_18 rfl rfl ?_
  obtain ⟨q10, hw⟩ := hw
  refine V_get (v := .int (mm_I h9 v0 2)) hc gf_Request_15 rfl q10 rfl d_Request_readData_19 ?_
  obtain ⟨q11, hw⟩ := hw
  obtain ⟨h12, eq_h12⟩ : ∃ x, x = mm_uI h9 (v0) 14 (mm_I h9 v0 2) := ⟨_, rfl⟩
  replace hw := hw _ eq_h12
  refine V_put (h' := h12) hc gf_Request_53 rfl rfl q10 q11 (by rw [eq_h12]; exact mm_Up_I _ _ _ _) (by rw [eq_h12]; exact up_vI rfl) (vp_nar_int _) rfl d_Request_readData_22 ?_
  refine V_aload_n hc 0 d_Request_readData_25 rfl rfl ?_
  refine V_aload_n hc 0 d_Request_readData_26 rfl rfl ?_
  obtain ⟨q13, hw⟩ := hw
  refine V_get (v := .int (mm_I h12 v0 9)) hc gf_Request_37 rfl q13 rfl d_Request_readData_27 ?_
  refine V_callV (rm' := rm_Request_skip) (As := [.int (mm_I h12 v0 9)]) (rest := []) (n := 1) (cn := 8) hc rfl q13 (sat_Request_skip (eG E) _ _ _ _ hw) rfl cv_Request_94 (gw_of (tw_2 (List.mem_of_getElem? (i := 201) rfl)) rfl) ss_Request_skip rfl ⟨by decide, by decide⟩ (by decide) (by decide) rfl (by simp [cat_rf, cat_i, cat_l]) d_Request_readData_30 (fun r0 h14 hw => ?_)
  obtain ⟨rfl, hw⟩ := hw
  refine V_wide (cs' := 0) (sl' := 0) (by decide) (by decide) ?_
  refine V_st (st' := []) rfl ?_
  exact V_vret hc hq ⟨rfl, hw⟩ (by decide) (by decide) d_Request_readData_33
def wq_Request_readData (ge : Nat → Nat) (v0 : Nat) (h : mm_M) (Z : mm_M → Prop) : Prop := wq_Request_readData_0 ge v0 h Z
theorem sat_Request_readData (G : mm_G) (v0 : Nat) (h : mm_M) (Z : mm_M → Prop) (hw : wq_Request_readData (mm_ge G) v0 h Z) : mm_Met G y_Request_readData c_Request_readData 1 none rm_Request_readData [va_rf (some v0)] h (pV Z) := by
  refine mm_intro (own := "EpochServer$Request") (by decide) rfl (by simp [lg_sl, cat_rf, cat_i, cat_l]) (fun E e1 hc hq hi => ?_)
  subst e1
  have e2 : lv_args 0 [va_rf (some v0)] = [(0, va_rf (some v0))] := by simp [lv_args, cat_rf, cat_i, cat_l]
  rw [e2]
  refine V_sub (lv' := [(0, va_rf (some v0))]) [0] rfl ?_
  exact vb_Request_readData_0 hc hq v0 h hw
/-! Request.readStat()V -/
abbrev rm_Request_readStat : Room := { frames := 4, cells := 0, slots := 0, locals := 86 }
def wq_Request_readStat_30  (ge : Nat → Nat) (v0 : Nat) (h : mm_M) (Z : mm_M → Prop) : Prop :=
  mm_k h (v0) = kd_Request ∧ ge 0 ≤ v0 ∧ ∀ h3 : mm_M, h3 = mm_uI h (v0) 3 (0) → Z h3
def wq_Request_readStat_164 (X138 : Nat → Int32 → Int32 → Int32 → Int32 → mm_M → Prop) (ge : Nat → Nat) (v0 : Nat) (v3 : Int32) (v4 : Int32) (v5 : Int32) (s0 : Int32) (h : mm_M) (Z : mm_M → Prop) : Prop :=
  X138 (v0) (s0) (v3) (v4) (v5 + 1) h
def wq_Request_readStat_163 (X138 : Nat → Int32 → Int32 → Int32 → Int32 → mm_M → Prop) (ge : Nat → Nat) (v0 : Nat) (v3 : Int32) (v4 : Int32) (v5 : Int32) (h : mm_M) (Z : mm_M → Prop) : Prop :=
  wq_Request_readStat_164 X138 ge (v0) (v3) (v4) (v5) (0) h Z
def wq_Request_readStat_138 (X138 : Nat → Int32 → Int32 → Int32 → Int32 → mm_M → Prop) (ge : Nat → Nat) (v0 : Nat) (v2 : Int32) (v3 : Int32) (v4 : Int32) (v5 : Int32) (h : mm_M) (Z : mm_M → Prop) : Prop :=
  (((3 : Int32) ≤ (v5 : Int32) → mm_k h (v0) = kd_Request ∧ ge 0 ≤ v0 ∧ ∀ h3 : mm_M, h3 = mm_uI h (v0) 14 (v3) → mm_k h3 (v0) = kd_Request ∧ ge 0 ≤ v0 ∧ ∀ h6 : mm_M, h6 = mm_uI h3 (v0) 15 (v4) → mm_k h6 (v0) = kd_Request ∧ ge 0 ≤ v0 ∧ ((v2) = 0 ∨ (v2) = 1) ∧ ∀ h10 : mm_M, h10 = mm_uI h6 (v0) 16 (v2) → Z h10) ∧ (¬ (3 : Int32) ≤ (v5 : Int32) → mm_k h (v0) = kd_Request ∧ wq_Request_readText ge (v0) h (fun h12 : mm_M => (((v2) = 0 → wq_Request_readStat_163 X138 ge (v0) (v3) (v4) (v5) h12 Z) ∧ (¬ (v2) = 0 → mm_k h12 (v0) = kd_Request ∧ ((¬ (mm_I h12 v0 15) = 0 → wq_Request_readStat_163 X138 ge (v0) (v3) (v4) (v5) h12 Z) ∧ ((mm_I h12 v0 15) = 0 → wq_Request_readStat_164 X138 ge (v0) (v3) (v4) (v5) (1) h12 Z)))))))
def lp_Request_readStat_138  (ge : Nat → Nat) (v0 : Nat) (v2 : Int32) (v3 : Int32) (v4 : Int32) (v5 : Int32) (h : mm_M) (Z : mm_M → Prop) : Prop :=
  ∀ X138 : Nat → Int32 → Int32 → Int32 → Int32 → mm_M → Prop, (∀ (v0 : Nat) (v2 : Int32) (v3 : Int32) (v4 : Int32) (v5 : Int32) (h : mm_M), wq_Request_readStat_138 X138 ge v0 v2 v3 v4 v5 h Z → X138 v0 v2 v3 v4 v5 h) → X138 v0 v2 v3 v4 v5 h
def wq_Request_readStat_100  (ge : Nat → Nat) (v0 : Nat) (s0 : Int32) (h : mm_M) (Z : mm_M → Prop) : Prop :=
  mm_k h (v0) = kd_Request ∧ wq_Request_number ge (v0) (4) h (fun (r3 : Int32) (h2 : mm_M) => mm_k h2 (v0) = kd_Request ∧ ge 0 ≤ v0 ∧ ∀ h6 : mm_M, h6 = mm_uI h2 (v0) 12 (r3) → mm_k h6 (v0) = kd_Request ∧ wq_Request_longNumber ge (v0) (8) h6 (fun (r9 : Int64) (h8 : mm_M) => mm_k h8 (v0) = kd_Request ∧ ge 0 ≤ v0 ∧ ∀ h12 : mm_M, h12 = mm_uL h8 (v0) 13 (r9) → mm_k h12 (v0) = kd_Request ∧ wq_Request_readText ge (v0) h12 (fun h14 : mm_M => mm_k h14 (v0) = kd_Request ∧ lp_Request_readStat_138  ge (v0) (s0) (mm_I h14 v0 14) (mm_I h14 v0 15) (0) h14 Z)))
def wq_Request_readStat_99  (ge : Nat → Nat) (v0 : Nat) (h : mm_M) (Z : mm_M → Prop) : Prop :=
  wq_Request_readStat_100  ge (v0) (0) h Z
def wq_Request_readStat_66 (X40 : Nat → Int32 → Int32 → mm_M → Prop) (ge : Nat → Nat) (v0 : Nat) (v3 : Int32) (s0 : Int32) (h : mm_M) (Z : mm_M → Prop) : Prop :=
  X40 (v0) (s0) (v3 + 1) h
def wq_Request_readStat_65 (X40 : Nat → Int32 → Int32 → mm_M → Prop) (ge : Nat → Nat) (v0 : Nat) (v3 : Int32) (h : mm_M) (Z : mm_M → Prop) : Prop :=
  wq_Request_readStat_66 X40 ge (v0) (v3) (0) h Z
def wq_Request_readStat_40 (X40 : Nat → Int32 → Int32 → mm_M → Prop) (ge : Nat → Nat) (v0 : Nat) (v2 : Int32) (v3 : Int32) (h : mm_M) (Z : mm_M → Prop) : Prop :=
  (((19 : Int32) ≤ (v3 : Int32) → mm_k h (v0) = kd_Request ∧ wq_Request_number ge (v0) (4) h (fun (r3 : Int32) (h2 : mm_M) => mm_k h2 (v0) = kd_Request ∧ ge 0 ≤ v0 ∧ ∀ h6 : mm_M, h6 = mm_uI h2 (v0) 11 (r3) → mm_k h6 (v0) = kd_Request ∧ wq_Request_number ge (v0) (4) h6 (fun (r9 : Int32) (h8 : mm_M) => ((¬ (r9 : Int32) = ((-1) : Int32) → wq_Request_readStat_99  ge (v0) h8 Z) ∧ ((r9 : Int32) = ((-1) : Int32) → (((v2) = 0 → wq_Request_readStat_99  ge (v0) h8 Z) ∧ (¬ (v2) = 0 → wq_Request_readStat_100  ge (v0) (1) h8 Z))))))) ∧ (¬ (19 : Int32) ≤ (v3 : Int32) → mm_k h (v0) = kd_Request ∧ wq_Request_number ge (v0) (1) h (fun (r12 : Int32) (h11 : mm_M) => ((¬ (r12 : Int32) = (255 : Int32) → wq_Request_readStat_65 X40 ge (v0) (v3) h11 Z) ∧ ((r12 : Int32) = (255 : Int32) → (((v2) = 0 → wq_Request_readStat_65 X40 ge (v0) (v3) h11 Z) ∧ (¬ (v2) = 0 → wq_Request_readStat_66 X40 ge (v0) (v3) (1) h11 Z)))))))
def lp_Request_readStat_40  (ge : Nat → Nat) (v0 : Nat) (v2 : Int32) (v3 : Int32) (h : mm_M) (Z : mm_M → Prop) : Prop :=
  ∀ X40 : Nat → Int32 → Int32 → mm_M → Prop, (∀ (v0 : Nat) (v2 : Int32) (v3 : Int32) (h : mm_M), wq_Request_readStat_40 X40 ge v0 v2 v3 h Z → X40 v0 v2 v3 h) → X40 v0 v2 v3 h
def wq_Request_readStat_0  (ge : Nat → Nat) (v0 : Nat) (h : mm_M) (Z : mm_M → Prop) : Prop :=
  mm_k h (v0) = kd_Request ∧ wq_Request_number ge (v0) (2) h (fun (r3 : Int32) (h2 : mm_M) => mm_k h2 (v0) = kd_Request ∧ ((¬ (r3 : Int32) = ((mm_I h2 v0 1) - (mm_I h2 v0 2) : Int32) → wq_Request_readStat_30  ge (v0) h2 Z) ∧ ((r3 : Int32) = ((mm_I h2 v0 1) - (mm_I h2 v0 2) : Int32) → wq_Request_number ge (v0) (2) h2 (fun (r6 : Int32) (h5 : mm_M) => (((r6 : Int32) = ((r3) - (2 : Int32) : Int32) → lp_Request_readStat_40  ge (v0) (1) (0) h5 Z) ∧ (¬ (r6 : Int32) = ((r3) - (2 : Int32) : Int32) → wq_Request_readStat_30  ge (v0) h5 Z))))))
set_option maxRecDepth 100000 in
set_option maxHeartbeats 4000000 in
theorem vb_Request_readStat_30 {E : mm_E} {Z : mm_M → Prop} (hc : cx E "EpochServer$Request" c_Request_readStat 6 none rm_Request_readStat) (hq : cq E rm_Request_readStat (pV Z))  (v0 : Nat) (h : mm_M) (hw : wq_Request_readStat_30  (mm_ge (eG E)) v0 h Z) : V E 6 0 0 h 30 [(0, va_rf (some v0))] [] := by
  unfold wq_Request_readStat_30 at hw
  refine V_aload_n hc 0 d_Request_readStat_30 rfl rfl ?_
  refine V_iconst (v := 0) hc d_Request_readStat_31 (by decide) ?_
  obtain ⟨q1, hw⟩ := hw
  obtain ⟨q2, hw⟩ := hw
  obtain ⟨h3, eq_h3⟩ : ∃ x, x = mm_uI h (v0) 3 (0) := ⟨_, rfl⟩
  replace hw := hw _ eq_h3
  refine V_put (h' := h3) hc gf_Request_18 rfl rfl q1 q2 (by rw [eq_h3]; exact mm_Up_I _ _ _ _) (by rw [eq_h3]; exact up_vI rfl) (by decide) (by decide) d_Request_readStat_32 ?_
  exact V_vret hc hq ⟨rfl, hw⟩ (by decide) (by decide) d_Request_readStat_35
set_option maxRecDepth 100000 in
set_option maxHeartbeats 4000000 in
theorem vb_Request_readStat_164 {E : mm_E} {Z : mm_M → Prop} (hc : cx E "EpochServer$Request" c_Request_readStat 6 none rm_Request_readStat) (hq : cq E rm_Request_readStat (pV Z)) (X138 : Nat → Int32 → Int32 → Int32 → Int32 → mm_M → Prop) (hX138 : ∀ (v0 : Nat) (v2 : Int32) (v3 : Int32) (v4 : Int32) (v5 : Int32) (h : mm_M), X138 v0 v2 v3 v4 v5 h → V E 6 0 0 h 138 [(0, va_rf (some v0)), (2, .int (v2)), (3, .int (v3)), (4, .int (v4)), (5, .int (v5))] []) (v0 : Nat) (v3 : Int32) (v4 : Int32) (v5 : Int32) (s0 : Int32) (h : mm_M) (hw : wq_Request_readStat_164 X138 (mm_ge (eG E)) v0 v3 v4 v5 s0 h Z) : V E 6 0 0 h 164 [(0, va_rf (some v0)), (3, .int (v3)), (4, .int (v4)), (5, .int (v5))] [.int (s0)] := by
  unfold wq_Request_readStat_164 at hw
  refine V_istore_n (i := 2) (lv' := [(2, .int (s0)), (0, va_rf (some v0)), (3, .int (v3)), (4, .int (v4)), (5, .int (v5))]) hc d_Request_readStat_164 rfl (by decide) rfl ?_
  refine V_iinc (v := v5 + 1) (lv' := [(5, .int (v5 + 1)), (2, .int (s0)), (0, va_rf (some v0)), (3, .int (v3)), (4, .int (v4))]) hc 4 d_Request_readStat_165 rfl rfl (by decide) rfl ?_
  refine V_goto (tgt := 138) hc d_Request_readStat_168 (by decide) ?_
  refine V_sub (lv' := [(0, va_rf (some v0)), (2, .int (s0)), (3, .int (v3)), (4, .int (v4)), (5, .int (v5 + 1))]) [2, 1, 3, 4, 0] rfl ?_
  exact hX138 _ _ _ _ _ _ hw
set_option maxRecDepth 100000 in
set_option maxHeartbeats 4000000 in
theorem vb_Request_readStat_163 {E : mm_E} {Z : mm_M → Prop} (hc : cx E "EpochServer$Request" c_Request_readStat 6 none rm_Request_readStat) (hq : cq E rm_Request_readStat (pV Z)) (X138 : Nat → Int32 → Int32 → Int32 → Int32 → mm_M → Prop) (hX138 : ∀ (v0 : Nat) (v2 : Int32) (v3 : Int32) (v4 : Int32) (v5 : Int32) (h : mm_M), X138 v0 v2 v3 v4 v5 h → V E 6 0 0 h 138 [(0, va_rf (some v0)), (2, .int (v2)), (3, .int (v3)), (4, .int (v4)), (5, .int (v5))] []) (v0 : Nat) (v3 : Int32) (v4 : Int32) (v5 : Int32) (h : mm_M) (hw : wq_Request_readStat_163 X138 (mm_ge (eG E)) v0 v3 v4 v5 h Z) : V E 6 0 0 h 163 [(0, va_rf (some v0)), (3, .int (v3)), (4, .int (v4)), (5, .int (v5))] [] := by
  unfold wq_Request_readStat_163 at hw
  refine V_iconst (v := 0) hc d_Request_readStat_163 (by decide) ?_
  refine V_sub (lv' := [(0, va_rf (some v0)), (3, .int (v3)), (4, .int (v4)), (5, .int (v5))]) [0, 1, 2, 3] rfl ?_
  exact vb_Request_readStat_164 hc hq X138 hX138 _ _ _ _ _ _ hw
set_option maxRecDepth 100000 in
set_option maxHeartbeats 4000000 in
theorem vb_Request_readStat_138 {E : mm_E} {Z : mm_M → Prop} (hc : cx E "EpochServer$Request" c_Request_readStat 6 none rm_Request_readStat) (hq : cq E rm_Request_readStat (pV Z)) (X138 : Nat → Int32 → Int32 → Int32 → Int32 → mm_M → Prop) (hX138 : ∀ (v0 : Nat) (v2 : Int32) (v3 : Int32) (v4 : Int32) (v5 : Int32) (h : mm_M), X138 v0 v2 v3 v4 v5 h → V E 6 0 0 h 138 [(0, va_rf (some v0)), (2, .int (v2)), (3, .int (v3)), (4, .int (v4)), (5, .int (v5))] []) (v0 : Nat) (v2 : Int32) (v3 : Int32) (v4 : Int32) (v5 : Int32) (h : mm_M) (hw : wq_Request_readStat_138 X138 (mm_ge (eG E)) v0 v2 v3 v4 v5 h Z) : V E 6 0 0 h 138 [(0, va_rf (some v0)), (2, .int (v2)), (3, .int (v3)), (4, .int (v4)), (5, .int (v5))] [] := by
  unfold wq_Request_readStat_138 at hw
  refine V_iload hc 4 d_Request_readStat_138 rfl ?_
  refine V_iconst (v := 3) hc d_Request_readStat_140 (by decide) ?_
  refine V_icmp_ge (tgt := 171) hc d_Request_readStat_141 (by decide) (fun hq1 => ?_) (fun hq1 => ?_)
  · replace hw := hw.1 hq1
    refine V_aload_n hc 0 d_Request_readStat_171 rfl rfl ?_
    refine V_iload_n hc 2 d_Request_readStat_172 rfl rfl ?_
    obtain ⟨q1, hw⟩ := hw
    obtain ⟨q2, hw⟩ := hw
    obtain ⟨h3, eq_h3⟩ : ∃ x, x = mm_uI h (v0) 14 (v3) := ⟨_, rfl⟩
    replace hw := hw _ eq_h3
    refine V_put (h' := h3) hc gf_Request_53 rfl rfl q1 q2 (by rw [eq_h3]; exact mm_Up_I _ _ _ _) (by rw [eq_h3]; exact up_vI rfl) (vp_nar_int _) rfl d_Request_readStat_173 ?_
    refine V_aload_n hc 0 d_Request_readStat_176 rfl rfl ?_
    refine V_iload hc 3 d_Request_readStat_177 rfl ?_
    obtain ⟨q4, hw⟩ := hw
    obtain ⟨q5, hw⟩ := hw
    obtain ⟨h6, eq_h6⟩ : ∃ x, x = mm_uI h3 (v0) 15 (v4) := ⟨_, rfl⟩
    replace hw := hw _ eq_h6
    refine V_put (h' := h6) hc gf_Request_56 rfl rfl q4 q5 (by rw [eq_h6]; exact mm_Up_I _ _ _ _) (by rw [eq_h6]; exact up_vI rfl) (vp_nar_int _) rfl d_Request_readStat_179 ?_
    refine V_aload_n hc 0 d_Request_readStat_182 rfl rfl ?_
    refine V_iload_n hc 1 d_Request_readStat_183 rfl rfl ?_
    obtain ⟨q7, hw⟩ := hw
    obtain ⟨q8, hw⟩ := hw
    obtain ⟨q9, hw⟩ := hw
    obtain ⟨h10, eq_h10⟩ : ∃ x, x = mm_uI h6 (v0) 16 (v2) := ⟨_, rfl⟩
    replace hw := hw _ eq_h10
    refine V_put (h' := h10) hc gf_Request_59 rfl rfl q7 q8 (by rw [eq_h10]; exact mm_Up_I _ _ _ _) (by rw [eq_h10]; exact up_vI rfl) (zz_nar q9) (zz_fit q9) d_Request_readStat_184 ?_
    exact V_vret hc hq ⟨rfl, hw⟩ (by decide) (by decide) d_Request_readStat_187
  · replace hw := hw.2 hq1
    refine V_aload_n hc 0 d_Request_readStat_144 rfl rfl ?_
    obtain ⟨q11, hw⟩ := hw
    refine V_callV (rm' := rm_Request_readText) (As := []) (rest := []) (n := 0) (cn := 8) hc rfl q11 (sat_Request_readText (eG E) _ _ _ hw) rfl cv_Request_74 (gw_of (tw_2 (List.mem_of_getElem? (i := 196) rfl)) rfl) ss_Request_readText rfl ⟨by decide, by decide⟩ (by decide) (by decide) rfl (by simp [cat_rf, cat_i, cat_l]) d_Request_readStat_145 (fun r0 h12 hw => ?_)
    obtain ⟨rfl, hw⟩ := hw
    refine V_wide (cs' := 0) (sl' := 0) (by decide) (by decide) ?_
    refine V_st (st' := []) rfl ?_
    refine V_iload_n hc 1 d_Request_readStat_148 rfl rfl ?_
    refine V_if_eq (tgt := 163) hc d_Request_readStat_149 (by decide) (fun hq1 => ?_) (fun hq1 => ?_)
    · replace hw := hw.1 hq1
      refine V_sub (lv' := [(0, va_rf (some v0)), (3, .int (v3)), (4, .int (v4)), (5, .int (v5))]) [0, 2, 3, 4] rfl ?_
      exact vb_Request_readStat_163 hc hq X138 hX138 _ _ _ _ _ hw
    · replace hw := hw.2 hq1
      refine V_aload_n hc 0 d_Request_readStat_152 rfl rfl ?_
      obtain ⟨q14, hw⟩ := hw
      refine V_get (v := .int (mm_I h12 v0 15)) hc gf_Request_56 rfl q14 rfl d_Request_readStat_153 ?_
      refine V_if_ne (tgt := 163) hc d_Request_readStat_156 (by decide) (fun hq1 => ?_) (fun hq1 => ?_)
      · replace hw := hw.1 hq1
        refine V_sub (lv' := [(0, va_rf (some v0)), (3, .int (v3)), (4, .int (v4)), (5, .int (v5))]) [0, 2, 3, 4] rfl ?_
        exact vb_Request_readStat_163 hc hq X138 hX138 _ _ _ _ _ hw
      · replace hw := hw.2 hq1
        refine V_iconst (v := 1) hc d_Request_readStat_159 (by decide) ?_
        refine V_goto (tgt := 164) hc d_Request_readStat_160 (by decide) ?_
        refine V_sub (lv' := [(0, va_rf (some v0)), (3, .int (v3)), (4, .int (v4)), (5, .int (v5))]) [0, 2, 3, 4] rfl ?_
        exact vb_Request_readStat_164 hc hq X138 hX138 _ _ _ _ _ _ hw
theorem vl_Request_readStat_138 {E : mm_E} {Z : mm_M → Prop} (hc : cx E "EpochServer$Request" c_Request_readStat 6 none rm_Request_readStat) (hq : cq E rm_Request_readStat (pV Z))  (v0 : Nat) (v2 : Int32) (v3 : Int32) (v4 : Int32) (v5 : Int32) (h : mm_M) (hw : lp_Request_readStat_138  (mm_ge (eG E)) v0 v2 v3 v4 v5 h Z) : V E 6 0 0 h 138 [(0, va_rf (some v0)), (2, .int (v2)), (3, .int (v3)), (4, .int (v4)), (5, .int (v5))] [] :=
  hw (fun v0 v2 v3 v4 v5 h => V E 6 0 0 h 138 [(0, va_rf (some v0)), (2, .int (v2)), (3, .int (v3)), (4, .int (v4)), (5, .int (v5))] []) (fun v0 v2 v3 v4 v5 h hb => vb_Request_readStat_138 hc hq  _ (fun _ _ _ _ _ _ q => q) v0 v2 v3 v4 v5 h hb)
set_option maxRecDepth 100000 in
set_option maxHeartbeats 4000000 in
theorem vb_Request_readStat_100 {E : mm_E} {Z : mm_M → Prop} (hc : cx E "EpochServer$Request" c_Request_readStat 6 none rm_Request_readStat) (hq : cq E rm_Request_readStat (pV Z))  (v0 : Nat) (s0 : Int32) (h : mm_M) (hw : wq_Request_readStat_100  (mm_ge (eG E)) v0 s0 h Z) : V E 6 0 0 h 100 [(0, va_rf (some v0))] [.int (s0)] := by
  unfold wq_Request_readStat_100 at hw
  refine V_istore_n (i := 2) (lv' := [(2, .int (s0)), (0, va_rf (some v0))]) hc d_Request_readStat_100 rfl (by decide) rfl ?_
  refine V_aload_n hc 1 d_Request_readStat_101 rfl rfl ?_
  refine V_aload_n hc 1 d_Request_readStat_102 rfl rfl ?_
  refine V_iconst (v := 4) hc d_Request_readStat_103 (by decide) ?_
  obtain ⟨q1, hw⟩ := hw
  refine V_callV (rm' := rm_Request_number) (As := [.int (4)]) (rest := [va_rf (some v0)]) (n := 1) (cn := 8) hc rfl q1 (sat_Request_number (eG E) _ _ _ _ hw) rfl cv_Request_66 (gw_of (tw_2 (List.mem_of_getElem? (i := 184) rfl)) rfl) ss_Request_number rfl ⟨by decide, by decide⟩ (by decide) (by decide) rfl (by simp [cat_rf, cat_i, cat_l]) d_Request_readStat_104 (fun r0 h2 hw => ?_)
  obtain ⟨r3, rfl, hw⟩ := hw
  refine V_wide (cs' := 0) (sl' := 0) (by decide) (by decide) ?_
  refine V_st (st' := [.int (r3), va_rf (some v0)]) rfl ?_
  obtain ⟨q4, hw⟩ := hw
  obtain ⟨q5, hw⟩ := hw
  obtain ⟨h6, eq_h6⟩ : ∃ x, x = mm_uI h2 (v0) 12 (r3) := ⟨_, rfl⟩
  replace hw := hw _ eq_h6
  refine V_put (h' := h6) hc gf_Request_46 rfl rfl q4 q5 (by rw [eq_h6]; exact mm_Up_I _ _ _ _) (by rw [eq_h6]; exact up_vI rfl) (vp_nar_int _) rfl d_Request_readStat_107 ?_
  refine V_aload_n hc 1 d_Request_readStat_110 rfl rfl ?_
  refine V_aload_n hc 1 d_Request_readStat_111 rfl rfl ?_
  refine V_bipush (v := 8) hc d_Request_readStat_112 (by decide) ?_
  obtain ⟨q7, hw⟩ := hw
  refine V_callV (rm' := rm_Request_longNumber) (As := [.int (8)]) (rest := [va_rf (some v0)]) (n := 1) (cn := 8) hc rfl q7 (sat_Request_longNumber (eG E) _ _ _ _ hw) rfl cv_Request_80 (gw_of (tw_2 (List.mem_of_getElem? (i := 188) rfl)) rfl) ss_Request_longNumber rfl ⟨by decide, by decide⟩ (by decide) (by decide) rfl (by simp [cat_rf, cat_i, cat_l]) d_Request_readStat_114 (fun r0 h8 hw => ?_)
  obtain ⟨r9, rfl, hw⟩ := hw
  refine V_wide (cs' := 0) (sl' := 0) (by decide) (by decide) ?_
  refine V_st (st' := [.long (r9), va_rf (some v0)]) rfl ?_
  obtain ⟨q10, hw⟩ := hw
  obtain ⟨q11, hw⟩ := hw
  obtain ⟨h12, eq_h12⟩ : ∃ x, x = mm_uL h8 (v0) 13 (r9) := ⟨_, rfl⟩
  replace hw := hw _ eq_h12
  refine V_put (h' := h12) hc gf_Request_49 rfl rfl q10 q11 (by rw [eq_h12]; exact mm_Up_L _ _ _ _) (by rw [eq_h12]; exact up_vL) rfl rfl d_Request_readStat_117 ?_
  refine V_aload_n hc 1 d_Request_readStat_120 rfl rfl ?_
  obtain ⟨q13, hw⟩ := hw
  refine V_callV (rm' := rm_Request_readText) (As := []) (rest := []) (n := 0) (cn := 8) hc rfl q13 (sat_Request_readText (eG E) _ _ _ hw) rfl cv_Request_74 (gw_of (tw_2 (List.mem_of_getElem? (i := 196) rfl)) rfl) ss_Request_readText rfl ⟨by decide, by decide⟩ (by decide) (by decide) rfl (by simp [cat_rf, cat_i, cat_l]) d_Request_readStat_121 (fun r0 h14 hw => ?_)
  obtain ⟨rfl, hw⟩ := hw
  refine V_wide (cs' := 0) (sl' := 0) (by decide) (by decide) ?_
  refine V_st (st' := []) rfl ?_
  refine V_aload_n hc 1 d_Request_readStat_124 rfl rfl ?_
  obtain ⟨q16, hw⟩ := hw
  refine V_get (v := .int (mm_I h14 v0 14)) hc gf_Request_53 rfl q16 rfl d_Request_readStat_125 ?_
  refine V_istore_n (i := 3) (lv' := [(3, .int (mm_I h14 v0 14)), (2, .int (s0)), (0, va_rf (some v0))]) hc d_Request_readStat_128 rfl (by decide) rfl ?_
  refine V_aload_n hc 2 d_Request_readStat_129 rfl rfl ?_
  refine V_get (v := .int (mm_I h14 v0 15)) hc gf_Request_56 rfl q16 rfl d_Request_readStat_130 ?_
  refine V_istore (i := 4) (lv' := [(4, .int (mm_I h14 v0 15)), (3, .int (mm_I h14 v0 14)), (2, .int (s0)), (0, va_rf (some v0))]) hc d_Request_readStat_133 (by decide) rfl ?_
  refine V_iconst (v := 0) hc d_Request_readStat_135 (by decide) ?_
  refine V_istore (i := 5) (lv' := [(5, .int (0)), (4, .int (mm_I h14 v0 15)), (3, .int (mm_I h14 v0 14)), (2, .int (s0)), (0, va_rf (some v0))]) hc d_Request_readStat_136 (by decide) rfl ?_
  refine V_sub (lv' := [(0, va_rf (some v0)), (2, .int (s0)), (3, .int (mm_I h14 v0 14)), (4, .int (mm_I h14 v0 15)), (5, .int (0))]) [4, 3, 2, 1, 0] rfl ?_
  exact vl_Request_readStat_138 hc hq  _ _ _ _ _ _ hw
set_option maxRecDepth 100000 in
set_option maxHeartbeats 4000000 in
theorem vb_Request_readStat_99 {E : mm_E} {Z : mm_M → Prop} (hc : cx E "EpochServer$Request" c_Request_readStat 6 none rm_Request_readStat) (hq : cq E rm_Request_readStat (pV Z))  (v0 : Nat) (h : mm_M) (hw : wq_Request_readStat_99  (mm_ge (eG E)) v0 h Z) : V E 6 0 0 h 99 [(0, va_rf (some v0))] [] := by
  unfold wq_Request_readStat_99 at hw
  refine V_iconst (v := 0) hc d_Request_readStat_99 (by decide) ?_
  refine V_sub (lv' := [(0, va_rf (some v0))]) [0] rfl ?_
  exact vb_Request_readStat_100 hc hq  _ _ _ hw
set_option maxRecDepth 100000 in
set_option maxHeartbeats 4000000 in
theorem vb_Request_readStat_66 {E : mm_E} {Z : mm_M → Prop} (hc : cx E "EpochServer$Request" c_Request_readStat 6 none rm_Request_readStat) (hq : cq E rm_Request_readStat (pV Z)) (X40 : Nat → Int32 → Int32 → mm_M → Prop) (hX40 : ∀ (v0 : Nat) (v2 : Int32) (v3 : Int32) (h : mm_M), X40 v0 v2 v3 h → V E 6 0 0 h 40 [(0, va_rf (some v0)), (2, .int (v2)), (3, .int (v3))] []) (v0 : Nat) (v3 : Int32) (s0 : Int32) (h : mm_M) (hw : wq_Request_readStat_66 X40 (mm_ge (eG E)) v0 v3 s0 h Z) : V E 6 0 0 h 66 [(0, va_rf (some v0)), (3, .int (v3))] [.int (s0)] := by
  unfold wq_Request_readStat_66 at hw
  refine V_istore_n (i := 2) (lv' := [(2, .int (s0)), (0, va_rf (some v0)), (3, .int (v3))]) hc d_Request_readStat_66 rfl (by decide) rfl ?_
  refine V_iinc (v := v3 + 1) (lv' := [(3, .int (v3 + 1)), (2, .int (s0)), (0, va_rf (some v0))]) hc 2 d_Request_readStat_67 rfl rfl (by decide) rfl ?_
  refine V_goto (tgt := 40) hc d_Request_readStat_70 (by decide) ?_
  refine V_sub (lv' := [(0, va_rf (some v0)), (2, .int (s0)), (3, .int (v3 + 1))]) [2, 1, 0] rfl ?_
  exact hX40 _ _ _ _ hw
set_option maxRecDepth 100000 in
set_option maxHeartbeats 4000000 in
theorem vb_Request_readStat_65 {E : mm_E} {Z : mm_M → Prop} (hc : cx E "EpochServer$Request" c_Request_readStat 6 none rm_Request_readStat) (hq : cq E rm_Request_readStat (pV Z)) (X40 : Nat → Int32 → Int32 → mm_M → Prop) (hX40 : ∀ (v0 : Nat) (v2 : Int32) (v3 : Int32) (h : mm_M), X40 v0 v2 v3 h → V E 6 0 0 h 40 [(0, va_rf (some v0)), (2, .int (v2)), (3, .int (v3))] []) (v0 : Nat) (v3 : Int32) (h : mm_M) (hw : wq_Request_readStat_65 X40 (mm_ge (eG E)) v0 v3 h Z) : V E 6 0 0 h 65 [(0, va_rf (some v0)), (3, .int (v3))] [] := by
  unfold wq_Request_readStat_65 at hw
  refine V_iconst (v := 0) hc d_Request_readStat_65 (by decide) ?_
  refine V_sub (lv' := [(0, va_rf (some v0)), (3, .int (v3))]) [0, 1] rfl ?_
  exact vb_Request_readStat_66 hc hq X40 hX40 _ _ _ _ hw
set_option maxRecDepth 100000 in
set_option maxHeartbeats 4000000 in
theorem vb_Request_readStat_40 {E : mm_E} {Z : mm_M → Prop} (hc : cx E "EpochServer$Request" c_Request_readStat 6 none rm_Request_readStat) (hq : cq E rm_Request_readStat (pV Z)) (X40 : Nat → Int32 → Int32 → mm_M → Prop) (hX40 : ∀ (v0 : Nat) (v2 : Int32) (v3 : Int32) (h : mm_M), X40 v0 v2 v3 h → V E 6 0 0 h 40 [(0, va_rf (some v0)), (2, .int (v2)), (3, .int (v3))] []) (v0 : Nat) (v2 : Int32) (v3 : Int32) (h : mm_M) (hw : wq_Request_readStat_40 X40 (mm_ge (eG E)) v0 v2 v3 h Z) : V E 6 0 0 h 40 [(0, va_rf (some v0)), (2, .int (v2)), (3, .int (v3))] [] := by
  unfold wq_Request_readStat_40 at hw
  refine V_iload_n hc 2 d_Request_readStat_40 rfl rfl ?_
  refine V_bipush (v := 19) hc d_Request_readStat_41 (by decide) ?_
  refine V_icmp_ge (tgt := 73) hc d_Request_readStat_43 (by decide) (fun hq1 => ?_) (fun hq1 => ?_)
  · replace hw := hw.1 hq1
    refine V_aload_n hc 0 d_Request_readStat_73 rfl rfl ?_
    refine V_aload_n hc 0 d_Request_readStat_74 rfl rfl ?_
    refine V_iconst (v := 4) hc d_Request_readStat_75 (by decide) ?_
    obtain ⟨q1, hw⟩ := hw
    refine V_callV (rm' := rm_Request_number) (As := [.int (4)]) (rest := [va_rf (some v0)]) (n := 1) (cn := 8) hc rfl q1 (sat_Request_number (eG E) _ _ _ _ hw) rfl cv_Request_66 (gw_of (tw_2 (List.mem_of_getElem? (i := 184) rfl)) rfl) ss_Request_number rfl ⟨by decide, by decide⟩ (by decide) (by decide) rfl (by simp [cat_rf, cat_i, cat_l]) d_Request_readStat_76 (fun r0 h2 hw => ?_)
    obtain ⟨r3, rfl, hw⟩ := hw
    refine V_wide (cs' := 0) (sl' := 0) (by decide) (by decide) ?_
    refine V_st (st' := [.int (r3), va_rf (some v0)]) rfl ?_
    obtain ⟨q4, hw⟩ := hw
    obtain ⟨q5, hw⟩ := hw
    obtain ⟨h6, eq_h6⟩ : ∃ x, x = mm_uI h2 (v0) 11 (r3) := ⟨_, rfl⟩
    replace hw := hw _ eq_h6
    refine V_put (h' := h6) hc gf_Request_43 rfl rfl q4 q5 (by rw [eq_h6]; exact mm_Up_I _ _ _ _) (by rw [eq_h6]; exact up_vI rfl) (vp_nar_int _) rfl d_Request_readStat_79 ?_
    refine V_aload_n hc 0 d_Request_readStat_82 rfl rfl ?_
    refine V_iconst (v := 4) hc d_Request_readStat_83 (by decide) ?_
    obtain ⟨q7, hw⟩ := hw
    refine V_callV (rm' := rm_Request_number) (As := [.int (4)]) (rest := []) (n := 1) (cn := 8) hc rfl q7 (sat_Request_number (eG E) _ _ _ _ hw) rfl cv_Request_66 (gw_of (tw_2 (List.mem_of_getElem? (i := 184) rfl)) rfl) ss_Request_number rfl ⟨by decide, by decide⟩ (by decide) (by decide) rfl (by simp [cat_rf, cat_i, cat_l]) d_Request_readStat_84 (fun r0 h8 hw => ?_)
    obtain ⟨r9, rfl, hw⟩ := hw
    refine V_wide (cs' := 0) (sl' := 0) (by decide) (by decide) ?_
    refine V_st (st' := [.int (r9)]) rfl ?_
    refine V_iconst (v := (-1)) hc d_Request_readStat_87 (by decide) ?_
    refine V_icmp_ne (tgt := 99) hc d_Request_readStat_88 (by decide) (fun hq1 => ?_) (fun hq1 => ?_)
    · replace hw := hw.1 hq1
      refine V_sub (lv' := [(0, va_rf (some v0))]) [0] rfl ?_
      exact vb_Request_readStat_99 hc hq  _ _ hw
    · replace hw := hw.2 hq1
      refine V_iload_n hc 1 d_Request_readStat_91 rfl rfl ?_
      refine V_if_eq (tgt := 99) hc d_Request_readStat_92 (by decide) (fun hq1 => ?_) (fun hq1 => ?_)
      · replace hw := hw.1 hq1
        refine V_sub (lv' := [(0, va_rf (some v0))]) [0] rfl ?_
        exact vb_Request_readStat_99 hc hq  _ _ hw
      · replace hw := hw.2 hq1
        refine V_iconst (v := 1) hc d_Request_readStat_95 (by decide) ?_
        refine V_goto (tgt := 100) hc d_Request_readStat_96 (by decide) ?_
        refine V_sub (lv' := [(0, va_rf (some v0))]) [0] rfl ?_
        exact vb_Request_readStat_100 hc hq  _ _ _ hw
  · replace hw := hw.2 hq1
    refine V_aload_n hc 0 d_Request_readStat_46 rfl rfl ?_
    refine V_iconst (v := 1) hc d_Request_readStat_47 (by decide) ?_
    obtain ⟨q10, hw⟩ := hw
    refine V_callV (rm' := rm_Request_number) (As := [.int (1)]) (rest := []) (n := 1) (cn := 8) hc rfl q10 (sat_Request_number (eG E) _ _ _ _ hw) rfl cv_Request_66 (gw_of (tw_2 (List.mem_of_getElem? (i := 184) rfl)) rfl) ss_Request_number rfl ⟨by decide, by decide⟩ (by decide) (by decide) rfl (by simp [cat_rf, cat_i, cat_l]) d_Request_readStat_48 (fun r0 h11 hw => ?_)
    obtain ⟨r12, rfl, hw⟩ := hw
    refine V_wide (cs' := 0) (sl' := 0) (by decide) (by decide) ?_
    refine V_st (st' := [.int (r12)]) rfl ?_
    refine V_sipush (v := 255) hc d_Request_readStat_51 (by decide) ?_
    refine V_icmp_ne (tgt := 65) hc d_Request_readStat_54 (by decide) (fun hq1 => ?_) (fun hq1 => ?_)
    · replace hw := hw.1 hq1
      refine V_sub (lv' := [(0, va_rf (some v0)), (3, .int (v3))]) [0, 2] rfl ?_
      exact vb_Request_readStat_65 hc hq X40 hX40 _ _ _ hw
    · replace hw := hw.2 hq1
      refine V_iload_n hc 1 d_Request_readStat_57 rfl rfl ?_
      refine V_if_eq (tgt := 65) hc d_Request_readStat_58 (by decide) (fun hq1 => ?_) (fun hq1 => ?_)
      · replace hw := hw.1 hq1
        refine V_sub (lv' := [(0, va_rf (some v0)), (3, .int (v3))]) [0, 2] rfl ?_
        exact vb_Request_readStat_65 hc hq X40 hX40 _ _ _ hw
      · replace hw := hw.2 hq1
        refine V_iconst (v := 1) hc d_Request_readStat_61 (by decide) ?_
        refine V_goto (tgt := 66) hc d_Request_readStat_62 (by decide) ?_
        refine V_sub (lv' := [(0, va_rf (some v0)), (3, .int (v3))]) [0, 2] rfl ?_
        exact vb_Request_readStat_66 hc hq X40 hX40 _ _ _ _ hw
theorem vl_Request_readStat_40 {E : mm_E} {Z : mm_M → Prop} (hc : cx E "EpochServer$Request" c_Request_readStat 6 none rm_Request_readStat) (hq : cq E rm_Request_readStat (pV Z))  (v0 : Nat) (v2 : Int32) (v3 : Int32) (h : mm_M) (hw : lp_Request_readStat_40  (mm_ge (eG E)) v0 v2 v3 h Z) : V E 6 0 0 h 40 [(0, va_rf (some v0)), (2, .int (v2)), (3, .int (v3))] [] :=
  hw (fun v0 v2 v3 h => V E 6 0 0 h 40 [(0, va_rf (some v0)), (2, .int (v2)), (3, .int (v3))] []) (fun v0 v2 v3 h hb => vb_Request_readStat_40 hc hq  _ (fun _ _ _ _ q => q) v0 v2 v3 h hb)
set_option maxRecDepth 100000 in
set_option maxHeartbeats 4000000 in
theorem vb_Request_readStat_0 {E : mm_E} {Z : mm_M → Prop} (hc : cx E "EpochServer$Request" c_Request_readStat 6 none rm_Request_readStat) (hq : cq E rm_Request_readStat (pV Z))  (v0 : Nat) (h : mm_M) (hw : wq_Request_readStat_0  (mm_ge (eG E)) v0 h Z) : V E 6 0 0 h 0 [(0, va_rf (some v0))] [] := by
  unfold wq_Request_readStat_0 at hw
  refine V_aload_n hc 0 d_Request_readStat_0 rfl rfl ?_
  refine V_iconst (v := 2) hc d_Request_readStat_1 (by decide) ?_
  obtain ⟨q1, hw⟩ := hw
  refine V_callV (rm' := rm_Request_number) (As := [.int (2)]) (rest := []) (n := 1) (cn := 8) hc rfl q1 (sat_Request_number (eG E) _ _ _ _ hw) rfl cv_Request_66 (gw_of (tw_2 (List.mem_of_getElem? (i := 184) rfl)) rfl) ss_Request_number rfl ⟨by decide, by decide⟩ (by decide) (by decide) rfl (by simp [cat_rf, cat_i, cat_l]) d_Request_readStat_2 (fun r0 h2 hw => ?_)
  obtain ⟨r3, rfl, hw⟩ := hw
  refine V_wide (cs' := 0) (sl' := 0) (by decide) (by decide) ?_
  refine V_st (st' := [.int (r3)]) rfl ?_
  refine V_istore_n (i := 1) (lv' := [(1, .int (r3)), (0, va_rf (some v0))]) hc d_Request_readStat_5 rfl (by decide) rfl ?_
  refine V_iload_n hc 0 d_Request_readStat_6 rfl rfl ?_
  refine V_aload_n hc 1 d_Request_readStat_7 rfl rfl ?_
  obtain ⟨q4, hw⟩ := hw
  refine V_get (v := .int (mm_I h2 v0 1)) hc gf_Request_9 rfl q4 rfl d_Request_readStat_8 ?_
  refine V_aload_n hc 1 d_Request_readStat_11 rfl rfl ?_
  refine V_get (v := .int (mm_I h2 v0 2)) hc gf_Request_15 rfl q4 rfl d_Request_readStat_12 ?_
  refine V_isub hc d_Request_readStat_15 ?_
  refine V_icmp_ne (tgt := 30) hc d_Request_readStat_16 (by decide) (fun hq1 => ?_) (fun hq1 => ?_)
  · replace hw := hw.1 hq1
    refine V_sub (lv' := [(0, va_rf (some v0))]) [1] rfl ?_
    exact vb_Request_readStat_30 hc hq  _ _ hw
  · replace hw := hw.2 hq1
    refine V_aload_n hc 1 d_Request_readStat_19 rfl rfl ?_
    refine V_iconst (v := 2) hc d_Request_readStat_20 (by decide) ?_
    refine V_callV (rm' := rm_Request_number) (As := [.int (2)]) (rest := []) (n := 1) (cn := 8) hc rfl q4 (sat_Request_number (eG E) _ _ _ _ hw) rfl cv_Request_66 (gw_of (tw_2 (List.mem_of_getElem? (i := 184) rfl)) rfl) ss_Request_number rfl ⟨by decide, by decide⟩ (by decide) (by decide) rfl (by simp [cat_rf, cat_i, cat_l]) d_Request_readStat_21 (fun r0 h5 hw => ?_)
    obtain ⟨r6, rfl, hw⟩ := hw
    refine V_wide (cs' := 0) (sl' := 0) (by decide) (by decide) ?_
    refine V_st (st' := [.int (r6)]) rfl ?_
    refine V_iload_n hc 0 d_Request_readStat_24 rfl rfl ?_
    refine V_iconst (v := 2) hc d_Request_readStat_25 (by decide) ?_
    refine V_isub hc d_Request_readStat_26 ?_
    refine V_icmp_eq (tgt := 36) hc d_Request_readStat_27 (by decide) (fun hq1 => ?_) (fun hq1 => ?_)
    · replace hw := hw.1 hq1
      refine V_iconst (v := 1) hc d_Request_readStat_36 (by decide) ?_
      refine V_istore_n (i := 2) (lv' := [(2, .int (1)), (1, .int (r3)), (0, va_rf (some v0))]) hc d_Request_readStat_37 rfl (by decide) rfl ?_
      refine V_iconst (v := 0) hc d_Request_readStat_38 (by decide) ?_
      refine V_istore_n (i := 3) (lv' := [(3, .int (0)), (2, .int (1)), (1, .int (r3)), (0, va_rf (some v0))]) hc d_Request_readStat_39 rfl (by decide) rfl ?_
      refine V_sub (lv' := [(0, va_rf (some v0)), (2, .int (1)), (3, .int (0))]) [3, 1, 0] rfl ?_
      exact vl_Request_readStat_40 hc hq  _ _ _ _ hw
    · replace hw := hw.2 hq1
      refine V_sub (lv' := [(0, va_rf (some v0))]) [1] rfl ?_
      exact vb_Request_readStat_30 hc hq  _ _ hw
def wq_Request_readStat (ge : Nat → Nat) (v0 : Nat) (h : mm_M) (Z : mm_M → Prop) : Prop := wq_Request_readStat_0 ge v0 h Z
theorem sat_Request_readStat (G : mm_G) (v0 : Nat) (h : mm_M) (Z : mm_M → Prop) (hw : wq_Request_readStat (mm_ge G) v0 h Z) : mm_Met G y_Request_readStat c_Request_readStat 6 none rm_Request_readStat [va_rf (some v0)] h (pV Z) := by
  refine mm_intro (own := "EpochServer$Request") (by decide) rfl (by simp [lg_sl, cat_rf, cat_i, cat_l]) (fun E e1 hc hq hi => ?_)
  subst e1
  have e2 : lv_args 0 [va_rf (some v0)] = [(0, va_rf (some v0))] := by simp [lv_args, cat_rf, cat_i, cat_l]
  rw [e2]
  refine V_sub (lv' := [(0, va_rf (some v0))]) [0] rfl ?_
  exact vb_Request_readStat_0 hc hq v0 h hw
