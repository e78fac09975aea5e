/-! Snapshots.scoreByte(II)I -/
abbrev rm_Snapshots_scoreByte : Room := { frames := 0, cells := 0, slots := 0, locals := 0 }
def wq_Snapshots_scoreByte_22  (ge : Nat → Nat)  (h : mm_M) (Z : Int32 → mm_M → Prop) : Prop :=
  Z ((-1)) h
def wq_Snapshots_scoreByte_0  (ge : Nat → Nat) (v0 : Nat) (v1 : Int32) (v2 : Int32) (h : mm_M) (Z : Int32 → mm_M → Prop) : Prop :=
  (((v1) < 0 → wq_Snapshots_scoreByte_22  ge h Z) ∧ (¬ (v1) < 0 → mm_k h (v0) = kd_Snapshots ∧ (((mm_I h v0 3 : Int32) ≤ (v1 : Int32) → wq_Snapshots_scoreByte_22  ge h Z) ∧ (¬ (mm_I h v0 3 : Int32) ≤ (v1 : Int32) → (((v2) < 0 → wq_Snapshots_scoreByte_22  ge h Z) ∧ (¬ (v2) < 0 → (((v2 : Int32) < (20 : Int32) → ∃ a2, mm_P h v0 0 = some a2 ∧ mm_k h (a2) = ka_I ∧ vp_in (((v1) * (5 : Int32)) + ((v2) / (4))) (mm_n h a2) ∧ Z ((((mm_I h a2 (Int32.toNatClampNeg (((v1) * (5 : Int32)) + ((v2) / (4))))).toUInt32 >>> (((24 : Int32) - ((8 : Int32) * ((v2) - (v2) / (4) * (4)))).toUInt32 &&& Int32.toUInt32 31)).toInt32) &&& (255 : Int32)) h) ∧ (¬ (v2 : Int32) < (20 : Int32) → wq_Snapshots_scoreByte_22  ge h Z))))))))
set_option maxRecDepth 100000 in
set_option maxHeartbeats 4000000 in
theorem vb_Snapshots_scoreByte_22 {E : mm_E} {Z : Int32 → mm_M → Prop} (hc : cx E "EpochServer$Snapshots" c_Snapshots_scoreByte 3 (some (.int)) rm_Snapshots_scoreByte) (hq : cq E rm_Snapshots_scoreByte (pI Z))   (h : mm_M) (hw : wq_Snapshots_scoreByte_22  (mm_ge (eG E))  h Z) : V E 3 0 0 h 22 [] [] := by
  unfold wq_Snapshots_scoreByte_22 at hw
  refine V_iconst (v := (-1)) hc d_Snapshots_scoreByte_22 (by decide) ?_
  exact V_iret hc hq ⟨_, rfl, hw⟩ (by decide) (by decide) d_Snapshots_scoreByte_23
set_option maxRecDepth 100000 in
set_option maxHeartbeats 4000000 in
theorem vb_Snapshots_scoreByte_0 {E : mm_E} {Z : Int32 → mm_M → Prop} (hc : cx E "EpochServer$Snapshots" c_Snapshots_scoreByte 3 (some (.int)) rm_Snapshots_scoreByte) (hq : cq E rm_Snapshots_scoreByte (pI Z))  (v0 : Nat) (v1 : Int32) (v2 : Int32) (h : mm_M) (hw : wq_Snapshots_scoreByte_0  (mm_ge (eG E)) v0 v1 v2 h Z) : V E 3 0 0 h 0 [(0, va_rf (some v0)), (1, .int (v1)), (2, .int (v2))] [] := by
  unfold wq_Snapshots_scoreByte_0 at hw
  refine V_iload_n hc 1 d_Snapshots_scoreByte_0 rfl rfl ?_
  refine V_if_lt (tgt := 22) hc d_Snapshots_scoreByte_1 (by decide) (fun hq1 => ?_) (fun hq1 => ?_)
  · replace hw := hw.1 hq1
    refine V_sub (lv' := []) [] rfl ?_
    exact vb_Snapshots_scoreByte_22 hc hq  _ hw
  · replace hw := hw.2 hq1
    refine V_iload_n hc 1 d_Snapshots_scoreByte_4 rfl rfl ?_
    refine V_aload_n hc 0 d_Snapshots_scoreByte_5 rfl rfl ?_
    obtain ⟨q1, hw⟩ := hw
    refine V_get (v := .int (mm_I h v0 3)) hc gf_Snapshots_25 rfl q1 rfl d_Snapshots_scoreByte_6 ?_
    refine V_icmp_ge (tgt := 22) hc d_Snapshots_scoreByte_9 (by decide) (fun hq1 => ?_) (fun hq1 => ?_)
    · replace hw := hw.1 hq1
      refine V_sub (lv' := []) [] rfl ?_
      exact vb_Snapshots_scoreByte_22 hc hq  _ hw
    · replace hw := hw.2 hq1
      refine V_iload_n hc 2 d_Snapshots_scoreByte_12 rfl rfl ?_
      refine V_if_lt (tgt := 22) hc d_Snapshots_scoreByte_13 (by decide) (fun hq1 => ?_) (fun hq1 => ?_)
      · replace hw := hw.1 hq1
        refine V_sub (lv' := []) [] rfl ?_
        exact vb_Snapshots_scoreByte_22 hc hq  _ hw
      · replace hw := hw.2 hq1
        refine V_iload_n hc 2 d_Snapshots_scoreByte_16 rfl rfl ?_
        refine V_bipush (v := 20) hc d_Snapshots_scoreByte_17 (by decide) ?_
        refine V_icmp_lt (tgt := 24) hc d_Snapshots_scoreByte_19 (by decide) (fun hq1 => ?_) (fun hq1 => ?_)
        · replace hw := hw.1 hq1
          refine V_aload_n hc 0 d_Snapshots_scoreByte_24 rfl rfl ?_
          refine V_get (v := va_rf (mm_P h v0 0)) hc gf_Snapshots_9 rfl q1 rfl d_Snapshots_scoreByte_25 ?_
          refine V_iload_n hc 1 d_Snapshots_scoreByte_28 rfl rfl ?_
          refine V_iconst (v := 5) hc d_Snapshots_scoreByte_29 (by decide) ?_
          refine V_imul hc d_Snapshots_scoreByte_30 ?_
          refine V_iload_n hc 2 d_Snapshots_scoreByte_31 rfl rfl ?_
          refine V_iconst (v := 4) hc d_Snapshots_scoreByte_32 (by decide) ?_
          refine V_idiv hc d_Snapshots_scoreByte_33 (by decide) ?_
          refine V_iadd hc d_Snapshots_scoreByte_34 ?_
          obtain ⟨a2, q3, hw⟩ := hw
          obtain ⟨q4, hw⟩ := hw
          obtain ⟨q5, hw⟩ := hw
          refine V_iald hc q3 q4 q5 d_Snapshots_scoreByte_35 ?_
          refine V_bipush (v := 24) hc d_Snapshots_scoreByte_36 (by decide) ?_
          refine V_bipush (v := 8) hc d_Snapshots_scoreByte_38 (by decide) ?_
          refine V_iload_n hc 2 d_Snapshots_scoreByte_40 rfl rfl ?_
          refine V_iconst (v := 4) hc d_Snapshots_scoreByte_41 (by decide) ?_
          refine V_irem hc d_Snapshots_scoreByte_42 (by decide) ?_
          refine V_imul hc d_Snapshots_scoreByte_43 ?_
          refine V_isub hc d_Snapshots_scoreByte_44 ?_
          refine V_iushr hc d_Snapshots_scoreByte_45 ?_
          refine V_sipush (v := 255) hc d_Snapshots_scoreByte_46 (by decide) ?_
          refine V_iand hc d_Snapshots_scoreByte_49 ?_
          exact V_iret hc hq ⟨_, rfl, hw⟩ (by decide) (by decide) d_Snapshots_scoreByte_50
        · replace hw := hw.2 hq1
          refine V_sub (lv' := []) [] rfl ?_
          exact vb_Snapshots_scoreByte_22 hc hq  _ hw
def wq_Snapshots_scoreByte (ge : Nat → Nat) (v0 : Nat) (v1 : Int32) (v2 : Int32) (h : mm_M) (Z : Int32 → mm_M → Prop) : Prop := wq_Snapshots_scoreByte_0 ge v0 v1 v2 h Z
theorem sat_Snapshots_scoreByte (G : mm_G) (v0 : Nat) (v1 : Int32) (v2 : Int32) (h : mm_M) (Z : Int32 → mm_M → Prop) (hw : wq_Snapshots_scoreByte (mm_ge G) v0 v1 v2 h Z) : mm_Met G y_Snapshots_scoreByte c_Snapshots_scoreByte 3 (some (.int)) rm_Snapshots_scoreByte [va_rf (some v0), .int (v1), .int (v2)] h (pI Z) := by
  refine mm_intro (own := "EpochServer$Snapshots") (by decide) rfl (by simp [lg_sl, cat_rf, cat_i, cat_l]) (fun E e1 hc hq hi => ?_)
  subst e1
  have e2 : lv_args 0 [va_rf (some v0), .int (v1), .int (v2)] = [(0, va_rf (some v0)), (1, .int (v1)), (2, .int (v2))] := by simp [lv_args, cat_rf, cat_i, cat_l]
  rw [e2]
  refine V_sub (lv' := [(0, va_rf (some v0)), (1, .int (v1)), (2, .int (v2))]) [0, 1, 2] rfl ?_
  exact vb_Snapshots_scoreByte_0 hc hq v0 v1 v2 h hw
/-! Tree.put(LEpochServer$Node;)V -/
abbrev rm_Tree_put : Room := { frames := 0, cells := 0, slots := 0, locals := 0 }
def wq_Tree_put_26  (ge : Nat → Nat)  (h : mm_M) (Z : mm_M → Prop) : Prop :=
  Z h
def wq_Tree_put_0  (ge : Nat → Nat) (v0 : Nat) (v1 : Option Nat) (h : mm_M) (Z : mm_M → Prop) : Prop :=
  ∃ a1, v1 = some a1 ∧ mm_k h (a1) = kd_Node ∧ (((mm_I h a1 0) < 0 → wq_Tree_put_26  ge h Z) ∧ (¬ (mm_I h a1 0) < 0 → (((60 : Int32) ≤ (mm_I h a1 0 : Int32) → wq_Tree_put_26  ge h Z) ∧ (¬ (60 : Int32) ≤ (mm_I h a1 0 : Int32) → mm_k h (v0) = kd_Tree ∧ ∃ a5, mm_P h v0 0 = some a5 ∧ mm_k h (a5) = ka_Node ∧ vp_in (mm_I h a1 0) (mm_n h a5) ∧ ge 0 ≤ a5 ∧ (∀ b11, v1 = some b11 → mm_k h b11 = kd_Node) ∧ ∀ h12 : mm_M, h12 = mm_uP h a5 (Int32.toNatClampNeg (mm_I h a1 0)) (v1) → wq_Tree_put_26  ge h12 Z))))
set_option maxRecDepth 100000 in
set_option maxHeartbeats 4000000 in
theorem vb_Tree_put_26 {E : mm_E} {Z : mm_M → Prop} (hc : cx E "EpochServer$Tree" c_Tree_put 2 none rm_Tree_put) (hq : cq E rm_Tree_put (pV Z))   (h : mm_M) (hw : wq_Tree_put_26  (mm_ge (eG E))  h Z) : V E 2 0 0 h 26 [] [] := by
  unfold wq_Tree_put_26 at hw
  exact V_vret hc hq ⟨rfl, hw⟩ (by decide) (by decide) d_Tree_put_26
set_option maxRecDepth 100000 in
set_option maxHeartbeats 4000000 in
theorem vb_Tree_put_0 {E : mm_E} {Z : mm_M → Prop} (hc : cx E "EpochServer$Tree" c_Tree_put 2 none rm_Tree_put) (hq : cq E rm_Tree_put (pV Z))  (v0 : Nat) (v1 : Option Nat) (h : mm_M) (hw : wq_Tree_put_0  (mm_ge (eG E)) v0 v1 h Z) : V E 2 0 0 h 0 [(0, va_rf (some v0)), (1, va_rf (v1))] [] := by
  unfold wq_Tree_put_0 at hw
  refine V_aload_n hc 1 d_Tree_put_0 rfl rfl ?_
  obtain ⟨a1, q2, hw⟩ := hw
  obtain ⟨q3, hw⟩ := hw
  refine V_get (v := .int (mm_I h a1 0)) hc gf_Tree_17 q2 q3 rfl d_Tree_put_1 ?_
  refine V_if_lt (tgt := 26) hc d_Tree_put_4 (by decide) (fun hq1 => ?_) (fun hq1 => ?_)
  · replace hw := hw.1 hq1
    refine V_sub (lv' := []) [] rfl ?_
    exact vb_Tree_put_26 hc hq  _ hw
  · replace hw := hw.2 hq1
    refine V_aload_n hc 1 d_Tree_put_7 rfl rfl ?_
    refine V_get (v := .int (mm_I h a1 0)) hc gf_Tree_17 q2 q3 rfl d_Tree_put_8 ?_
    refine V_bipush (v := 60) hc d_Tree_put_11 (by decide) ?_
    refine V_icmp_ge (tgt := 26) hc d_Tree_put_13 (by decide) (fun hq1 => ?_) (fun hq1 => ?_)
    · replace hw := hw.1 hq1
      refine V_sub (lv' := []) [] rfl ?_
      exact vb_Tree_put_26 hc hq  _ hw
    · replace hw := hw.2 hq1
      refine V_aload_n hc 0 d_Tree_put_16 rfl rfl ?_
      obtain ⟨q4, hw⟩ := hw
      refine V_get (v := va_rf (mm_P h v0 0)) hc gf_Tree_11 rfl q4 rfl d_Tree_put_17 ?_
      refine V_aload_n hc 1 d_Tree_put_20 rfl rfl ?_
      refine V_get (v := .int (mm_I h a1 0)) hc gf_Tree_17 q2 q3 rfl d_Tree_put_21 ?_
      refine V_aload_n hc 1 d_Tree_put_24 rfl rfl ?_
      obtain ⟨a5, q6, hw⟩ := hw
      obtain ⟨q7, hw⟩ := hw
      obtain ⟨q8, hw⟩ := hw
      obtain ⟨q9, hw⟩ := hw
      obtain ⟨q10, hw⟩ := hw
      obtain ⟨h12, eq_h12⟩ : ∃ x, x = mm_uP h a5 (Int32.toNatClampNeg (mm_I h a1 0)) (v1) := ⟨_, rfl⟩
      replace hw := hw _ eq_h12
      refine V_aast (t := 4) (cn := 7) (C := R_Node) hc rfl rfl q6 q7 q8 q10 q9 d_Tree_put_25 ?_
      rw [← eq_h12]
      refine V_sub (lv' := []) [] rfl ?_
      exact vb_Tree_put_26 hc hq  _ hw
def wq_Tree_put (ge : Nat → Nat) (v0 : Nat) (v1 : Option Nat) (h : mm_M) (Z : mm_M → Prop) : Prop := wq_Tree_put_0 ge v0 v1 h Z
theorem sat_Tree_put (G : mm_G) (v0 : Nat) (v1 : Option Nat) (h : mm_M) (Z : mm_M → Prop) (hw : wq_Tree_put (mm_ge G) v0 v1 h Z) : mm_Met G y_Tree_put c_Tree_put 2 none rm_Tree_put [va_rf (some v0), va_rf (v1)] h (pV Z) := by
  refine mm_intro (own := "EpochServer$Tree") (by decide) rfl (by simp [lg_sl, cat_rf, cat_i, cat_l]) (fun E e1 hc hq hi => ?_)
  subst e1
  have e2 : lv_args 0 [va_rf (some v0), va_rf (v1)] = [(0, va_rf (some v0)), (1, va_rf (v1))] := by simp [lv_args, cat_rf, cat_i, cat_l]
  rw [e2]
  refine V_sub (lv' := [(0, va_rf (some v0)), (1, va_rf (v1))]) [0, 1] rfl ?_
  exact vb_Tree_put_0 hc hq v0 v1 h hw
/-! Tree.drop(I)V -/
abbrev rm_Tree_drop : Room := { frames := 0, cells := 0, slots := 0, locals := 0 }
def wq_Tree_drop_17  (ge : Nat → Nat)  (h : mm_M) (Z : mm_M → Prop) : Prop :=
  Z h
def wq_Tree_drop_0  (ge : Nat → Nat) (v0 : Nat) (v1 : Int32) (h : mm_M) (Z : mm_M → Prop) : Prop :=
  (((v1) < 0 → wq_Tree_drop_17  ge h Z) ∧ (¬ (v1) < 0 → (((60 : Int32) ≤ (v1 : Int32) → wq_Tree_drop_17  ge h Z) ∧ (¬ (60 : Int32) ≤ (v1 : Int32) → mm_k h (v0) = kd_Tree ∧ ∃ a2, mm_P h v0 0 = some a2 ∧ mm_k h (a2) = ka_Node ∧ vp_in (v1) (mm_n h a2) ∧ ge 0 ≤ a2 ∧ (∀ b8, none = some b8 → mm_k h b8 = kd_Node) ∧ ∀ h9 : mm_M, h9 = mm_uP h a2 (Int32.toNatClampNeg (v1)) (none) → wq_Tree_drop_17  ge h9 Z))))
set_option maxRecDepth 100000 in
set_option maxHeartbeats 4000000 in
theorem vb_Tree_drop_17 {E : mm_E} {Z : mm_M → Prop} (hc : cx E "EpochServer$Tree" c_Tree_drop 2 none rm_Tree_drop) (hq : cq E rm_Tree_drop (pV Z))   (h : mm_M) (hw : wq_Tree_drop_17  (mm_ge (eG E))  h Z) : V E 2 0 0 h 17 [] [] := by
  unfold wq_Tree_drop_17 at hw
  exact V_vret hc hq ⟨rfl, hw⟩ (by decide) (by decide) d_Tree_drop_17
set_option maxRecDepth 100000 in
set_option maxHeartbeats 4000000 in
theorem vb_Tree_drop_0 {E : mm_E} {Z : mm_M → Prop} (hc : cx E "EpochServer$Tree" c_Tree_drop 2 none rm_Tree_drop) (hq : cq E rm_Tree_drop (pV Z))  (v0 : Nat) (v1 : Int32) (h : mm_M) (hw : wq_Tree_drop_0  (mm_ge (eG E)) v0 v1 h Z) : V E 2 0 0 h 0 [(0, va_rf (some v0)), (1, .int (v1))] [] := by
  unfold wq_Tree_drop_0 at hw
  refine V_iload_n hc 1 d_Tree_drop_0 rfl rfl ?_
  refine V_if_lt (tgt := 17) hc d_Tree_drop_1 (by decide) (fun hq1 => ?_) (fun hq1 => ?_)
  · replace hw := hw.1 hq1
    refine V_sub (lv' := []) [] rfl ?_
    exact vb_Tree_drop_17 hc hq  _ hw
  · replace hw := hw.2 hq1
    refine V_iload_n hc 1 d_Tree_drop_4 rfl rfl ?_
    refine V_bipush (v := 60) hc d_Tree_drop_5 (by decide) ?_
    refine V_icmp_ge (tgt := 17) hc d_Tree_drop_7 (by decide) (fun hq1 => ?_) (fun hq1 => ?_)
    · replace hw := hw.1 hq1
      refine V_sub (lv' := []) [] rfl ?_
      exact vb_Tree_drop_17 hc hq  _ hw
    · replace hw := hw.2 hq1
      refine V_aload_n hc 0 d_Tree_drop_10 rfl rfl ?_
      obtain ⟨q1, hw⟩ := hw
      refine V_get (v := va_rf (mm_P h v0 0)) hc gf_Tree_11 rfl q1 rfl d_Tree_drop_11 ?_
      refine V_iload_n hc 1 d_Tree_drop_14 rfl rfl ?_
      refine V_null hc d_Tree_drop_15 ?_
      obtain ⟨a2, q3, hw⟩ := hw
      obtain ⟨q4, hw⟩ := hw
      obtain ⟨q5, hw⟩ := hw
      obtain ⟨q6, hw⟩ := hw
      obtain ⟨q7, hw⟩ := hw
      obtain ⟨h9, eq_h9⟩ : ∃ x, x = mm_uP h a2 (Int32.toNatClampNeg (v1)) (none) := ⟨_, rfl⟩
      replace hw := hw _ eq_h9
      refine V_aast (t := 4) (cn := 7) (C := R_Node) hc rfl rfl q3 q4 q5 q7 q6 d_Tree_drop_16 ?_
      rw [← eq_h9]
      refine V_sub (lv' := []) [] rfl ?_
      exact vb_Tree_drop_17 hc hq  _ hw
def wq_Tree_drop (ge : Nat → Nat) (v0 : Nat) (v1 : Int32) (h : mm_M) (Z : mm_M → Prop) : Prop := wq_Tree_drop_0 ge v0 v1 h Z
theorem sat_Tree_drop (G : mm_G) (v0 : Nat) (v1 : Int32) (h : mm_M) (Z : mm_M → Prop) (hw : wq_Tree_drop (mm_ge G) v0 v1 h Z) : mm_Met G y_Tree_drop c_Tree_drop 2 none rm_Tree_drop [va_rf (some v0), .int (v1)] h (pV Z) := by
  refine mm_intro (own := "EpochServer$Tree") (by decide) rfl (by simp [lg_sl, cat_rf, cat_i, cat_l]) (fun E e1 hc hq hi => ?_)
  subst e1
  have e2 : lv_args 0 [va_rf (some v0), .int (v1)] = [(0, va_rf (some v0)), (1, .int (v1))] := by simp [lv_args, cat_rf, cat_i, cat_l]
  rw [e2]
  refine V_sub (lv' := [(0, va_rf (some v0)), (1, .int (v1))]) [0, 1] rfl ?_
  exact vb_Tree_drop_0 hc hq v0 v1 h hw
/-! Tree.size()I -/
abbrev rm_Tree_size : Room := { frames := 0, cells := 0, slots := 0, locals := 0 }
def wq_Tree_size_25 (X4 : Nat → Int32 → Int32 → mm_M → Prop) (ge : Nat → Nat) (v0 : Nat) (v2 : Int32) (s0 : Int32) (s1 : Int32) (h : mm_M) (Z : Int32 → mm_M → Prop) : Prop :=
  X4 (v0) ((s0) + (s1)) (v2 + 1) h
def wq_Tree_size_4 (X4 : Nat → Int32 → Int32 → mm_M → Prop) (ge : Nat → Nat) (v0 : Nat) (v1 : Int32) (v2 : Int32) (h : mm_M) (Z : Int32 → mm_M → Prop) : Prop :=
  (((60 : Int32) ≤ (v2 : Int32) → Z (v1) h) ∧ (¬ (60 : Int32) ≤ (v2 : Int32) → mm_k h (v0) = kd_Tree ∧ ∃ a2, mm_P h v0 0 = some a2 ∧ mm_k h (a2) = ka_Node ∧ vp_in (v2) (mm_n h a2) ∧ ((∀ a6, mm_P h a2 (Int32.toNatClampNeg (v2)) = some a6 → wq_Tree_size_25 X4 ge (v0) (v2) (v1) (1) h Z) ∧ (mm_P h a2 (Int32.toNatClampNeg (v2)) = none → wq_Tree_size_25 X4 ge (v0) (v2) (v1) (0) h Z))))
def lp_Tree_size_4  (ge : Nat → Nat) (v0 : Nat) (v1 : Int32) (v2 : Int32) (h : mm_M) (Z : Int32 → mm_M → Prop) : Prop :=
  ∀ X4 : Nat → Int32 → Int32 → mm_M → Prop, (∀ (v0 : Nat) (v1 : Int32) (v2 : Int32) (h : mm_M), wq_Tree_size_4 X4 ge v0 v1 v2 h Z → X4 v0 v1 v2 h) → X4 v0 v1 v2 h
def wq_Tree_size_0  (ge : Nat → Nat) (v0 : Nat) (h : mm_M) (Z : Int32 → mm_M → Prop) : Prop :=
  lp_Tree_size_4  ge (v0) (0) (0) h Z
set_option maxRecDepth 100000 in
set_option maxHeartbeats 4000000 in
theorem vb_Tree_size_25 {E : mm_E} {Z : Int32 → mm_M → Prop} (hc : cx E "EpochServer$Tree" c_Tree_size 3 (some (.int)) rm_Tree_size) (hq : cq E rm_Tree_size (pI Z)) (X4 : Nat → Int32 → Int32 → mm_M → Prop) (hX4 : ∀ (v0 : Nat) (v1 : Int32) (v2 : Int32) (h : mm_M), X4 v0 v1 v2 h → V E 3 0 0 h 4 [(0, va_rf (some v0)), (1, .int (v1)), (2, .int (v2))] []) (v0 : Nat) (v2 : Int32) (s0 : Int32) (s1 : Int32) (h : mm_M) (hw : wq_Tree_size_25 X4 (mm_ge (eG E)) v0 v2 s0 s1 h Z) : V E 3 0 0 h 25 [(0, va_rf (some v0)), (2, .int (v2))] [.int (s1), .int (s0)] := by
  unfold wq_Tree_size_25 at hw
  refine V_iadd hc d_Tree_size_25 ?_
  refine V_istore_n (i := 1) (lv' := [(1, .int ((s0) + (s1))), (0, va_rf (some v0)), (2, .int (v2))]) hc d_Tree_size_26 rfl (by decide) rfl ?_
  refine V_iinc (v := v2 + 1) (lv' := [(2, .int (v2 + 1)), (1, .int ((s0) + (s1))), (0, va_rf (some v0))]) hc 2 d_Tree_size_27 rfl rfl (by decide) rfl ?_
  refine V_goto (tgt := 4) hc d_Tree_size_30 (by decide) ?_
  refine V_sub (lv' := [(0, va_rf (some v0)), (1, .int ((s0) + (s1))), (2, .int (v2 + 1))]) [2, 1, 0] rfl ?_
  exact hX4 _ _ _ _ hw
set_option maxRecDepth 100000 in
set_option maxHeartbeats 4000000 in
theorem vb_Tree_size_4 {E : mm_E} {Z : Int32 → mm_M → Prop} (hc : cx E "EpochServer$Tree" c_Tree_size 3 (some (.int)) rm_Tree_size) (hq : cq E rm_Tree_size (pI Z)) (X4 : Nat → Int32 → Int32 → mm_M → Prop) (hX4 : ∀ (v0 : Nat) (v1 : Int32) (v2 : Int32) (h : mm_M), X4 v0 v1 v2 h → V E 3 0 0 h 4 [(0, va_rf (some v0)), (1, .int (v1)), (2, .int (v2))] []) (v0 : Nat) (v1 : Int32) (v2 : Int32) (h : mm_M) (hw : wq_Tree_size_4 X4 (mm_ge (eG E)) v0 v1 v2 h Z) : V E 3 0 0 h 4 [(0, va_rf (some v0)), (1, .int (v1)), (2, .int (v2))] [] := by
  unfold wq_Tree_size_4 at hw
  refine V_iload_n hc 2 d_Tree_size_4 rfl rfl ?_
  refine V_bipush (v := 60) hc d_Tree_size_5 (by decide) ?_
  refine V_icmp_ge (tgt := 33) hc d_Tree_size_7 (by decide) (fun hq1 => ?_) (fun hq1 => ?_)
  · replace hw := hw.1 hq1
    refine V_iload_n hc 1 d_Tree_size_33 rfl rfl ?_
    exact V_iret hc hq ⟨_, rfl, hw⟩ (by decide) (by decide) d_Tree_size_34
  · replace hw := hw.2 hq1
    refine V_iload_n hc 1 d_Tree_size_10 rfl rfl ?_
    refine V_aload_n hc 0 d_Tree_size_11 rfl rfl ?_
    obtain ⟨q1, hw⟩ := hw
    refine V_get (v := va_rf (mm_P h v0 0)) hc gf_Tree_11 rfl q1 rfl d_Tree_size_12 ?_
    refine V_iload_n hc 2 d_Tree_size_15 rfl rfl ?_
    obtain ⟨a2, q3, hw⟩ := hw
    obtain ⟨q4, hw⟩ := hw
    obtain ⟨q5, hw⟩ := hw
    refine V_aald (t := 4) (ty := .object "EpochServer$Node") hc rfl rfl rfl q3 q4 q5 d_Tree_size_16 ?_
    refine V_ifnonnull (tgt := 24) hc d_Tree_size_17 (by decide) (fun a6 hq1 => ?_) (fun hq1 => ?_)
    · replace hw := hw.1 a6 hq1
      refine V_iconst (v := 1) hc d_Tree_size_24 (by decide) ?_
      refine V_sub (lv' := [(0, va_rf (some v0)), (2, .int (v2))]) [0, 2] rfl ?_
      exact vb_Tree_size_25 hc hq X4 hX4 _ _ _ _ _ hw
    · replace hw := hw.2 hq1
      refine V_iconst (v := 0) hc d_Tree_size_20 (by decide) ?_
      refine V_goto (tgt := 25) hc d_Tree_size_21 (by decide) ?_
      refine V_sub (lv' := [(0, va_rf (some v0)), (2, .int (v2))]) [0, 2] rfl ?_
      exact vb_Tree_size_25 hc hq X4 hX4 _ _ _ _ _ hw
theorem vl_Tree_size_4 {E : mm_E} {Z : Int32 → mm_M → Prop} (hc : cx E "EpochServer$Tree" c_Tree_size 3 (some (.int)) rm_Tree_size) (hq : cq E rm_Tree_size (pI Z))  (v0 : Nat) (v1 : Int32) (v2 : Int32) (h : mm_M) (hw : lp_Tree_size_4  (mm_ge (eG E)) v0 v1 v2 h Z) : V E 3 0 0 h 4 [(0, va_rf (some v0)), (1, .int (v1)), (2, .int (v2))] [] :=
  hw (fun v0 v1 v2 h => V E 3 0 0 h 4 [(0, va_rf (some v0)), (1, .int (v1)), (2, .int (v2))] []) (fun v0 v1 v2 h hb => vb_Tree_size_4 hc hq  _ (fun _ _ _ _ q => q) v0 v1 v2 h hb)
set_option maxRecDepth 100000 in
set_option maxHeartbeats 4000000 in
theorem vb_Tree_size_0 {E : mm_E} {Z : Int32 → mm_M → Prop} (hc : cx E "EpochServer$Tree" c_Tree_size 3 (some (.int)) rm_Tree_size) (hq : cq E rm_Tree_size (pI Z))  (v0 : Nat) (h : mm_M) (hw : wq_Tree_size_0  (mm_ge (eG E)) v0 h Z) : V E 3 0 0 h 0 [(0, va_rf (some v0))] [] := by
  unfold wq_Tree_size_0 at hw
  refine V_iconst (v := 0) hc d_Tree_size_0 (by decide) ?_
  refine V_istore_n (i := 1) (lv' := [(1, .int (0)), (0, va_rf (some v0))]) hc d_Tree_size_1 rfl (by decide) rfl ?_
  refine V_iconst (v := 0) hc d_Tree_size_2 (by decide) ?_
  refine V_istore_n (i := 2) (lv' := [(2, .int (0)), (1, .int (0)), (0, va_rf (some v0))]) hc d_Tree_size_3 rfl (by decide) rfl ?_
  refine V_sub (lv' := [(0, va_rf (some v0)), (1, .int (0)), (2, .int (0))]) [2, 1, 0] rfl ?_
  exact vl_Tree_size_4 hc hq  _ _ _ _ hw
def wq_Tree_size (ge : Nat → Nat) (v0 : Nat) (h : mm_M) (Z : Int32 → mm_M → Prop) : Prop := wq_Tree_size_0 ge v0 h Z
theorem sat_Tree_size (G : mm_G) (v0 : Nat) (h : mm_M) (Z : Int32 → mm_M → Prop) (hw : wq_Tree_size (mm_ge G) v0 h Z) : mm_Met G y_Tree_size c_Tree_size 3 (some (.int)) rm_Tree_size [va_rf (some v0)] h (pI Z) := by
  refine mm_intro (own := "EpochServer$Tree") (by decide) rfl (by simp [lg_sl, cat_rf, cat_i, cat_l]) (fun E e1 hc hq hi => ?_)
  subst e1
  have e2 : lv_args 0 [va_rf (some v0)] = [(0, va_rf (some v0))] := by simp [lv_args, cat_rf, cat_i, cat_l]
  rw [e2]
  refine V_sub (lv' := [(0, va_rf (some v0))]) [0] rfl ?_
  exact vb_Tree_size_0 hc hq v0 h hw
/-! Tree.sizeOf(I)I -/
abbrev rm_Tree_sizeOf : Room := { frames := 2, cells := 0, slots := 0, locals := 44 }
def wq_Tree_sizeOf_25 (X4 : Nat → Int32 → Int32 → Int32 → mm_M → Prop) (ge : Nat → Nat) (v0 : Nat) (v1 : Int32) (v3 : Int32) (s0 : Int32) (s1 : Int32) (h : mm_M) (Z : Int32 → mm_M → Prop) : Prop :=
  X4 (v0) (v1) ((s0) + (s1)) (v3 + 1) h
def wq_Tree_sizeOf_4 (X4 : Nat → Int32 → Int32 → Int32 → mm_M → Prop) (ge : Nat → Nat) (v0 : Nat) (v1 : Int32) (v2 : Int32) (v3 : Int32) (h : mm_M) (Z : Int32 → mm_M → Prop) : Prop :=
  (((60 : Int32) ≤ (v3 : Int32) → Z (v2) h) ∧ (¬ (60 : Int32) ≤ (v3 : Int32) → mm_k h (v0) = kd_Tree ∧ wq_Tree_in ge (v0) (v1) (v3) h (fun (r3 : Option Nat) (h2 : mm_M) => ((∀ a4, r3 = some a4 → wq_Tree_sizeOf_25 X4 ge (v0) (v1) (v3) (v2) (1) h2 Z) ∧ (r3 = none → wq_Tree_sizeOf_25 X4 ge (v0) (v1) (v3) (v2) (0) h2 Z)))))
def lp_Tree_sizeOf_4  (ge : Nat → Nat) (v0 : Nat) (v1 : Int32) (v2 : Int32) (v3 : Int32) (h : mm_M) (Z : Int32 → mm_M → Prop) : Prop :=
  ∀ X4 : Nat → Int32 → Int32 → Int32 → mm_M → Prop, (∀ (v0 : Nat) (v1 : Int32) (v2 : Int32) (v3 : Int32) (h : mm_M), wq_Tree_sizeOf_4 X4 ge v0 v1 v2 v3 h Z → X4 v0 v1 v2 v3 h) → X4 v0 v1 v2 v3 h
def wq_Tree_sizeOf_0  (ge : Nat → Nat) (v0 : Nat) (v1 : Int32) (h : mm_M) (Z : Int32 → mm_M → Prop) : Prop :=
  lp_Tree_sizeOf_4  ge (v0) (v1) (0) (0) h Z
set_option maxRecDepth 100000 in
set_option maxHeartbeats 4000000 in
theorem vb_Tree_sizeOf_25 {E : mm_E} {Z : Int32 → mm_M → Prop} (hc : cx E "EpochServer$Tree" c_Tree_sizeOf 4 (some (.int)) rm_Tree_sizeOf) (hq : cq E rm_Tree_sizeOf (pI Z)) (X4 : Nat → Int32 → Int32 → Int32 → mm_M → Prop) (hX4 : ∀ (v0 : Nat) (v1 : Int32) (v2 : Int32) (v3 : Int32) (h : mm_M), X4 v0 v1 v2 v3 h → V E 4 0 0 h 4 [(0, va_rf (some v0)), (1, .int (v1)), (2, .int (v2)), (3, .int (v3))] []) (v0 : Nat) (v1 : Int32) (v3 : Int32) (s0 : Int32) (s1 : Int32) (h : mm_M) (hw : wq_Tree_sizeOf_25 X4 (mm_ge (eG E)) v0 v1 v3 s0 s1 h Z) : V E 4 0 0 h 25 [(0, va_rf (some v0)), (1, .int (v1)), (3, .int (v3))] [.int (s1), .int (s0)] := by
  unfold wq_Tree_sizeOf_25 at hw
  refine V_iadd hc d_Tree_sizeOf_25 ?_
  refine V_istore_n (i := 2) (lv' := [(2, .int ((s0) + (s1))), (0, va_rf (some v0)), (1, .int (v1)), (3, .int (v3))]) hc d_Tree_sizeOf_26 rfl (by decide) rfl ?_
  refine V_iinc (v := v3 + 1) (lv' := [(3, .int (v3 + 1)), (2, .int ((s0) + (s1))), (0, va_rf (some v0)), (1, .int (v1))]) hc 3 d_Tree_sizeOf_27 rfl rfl (by decide) rfl ?_
  refine V_goto (tgt := 4) hc d_Tree_sizeOf_30 (by decide) ?_
  refine V_sub (lv' := [(0, va_rf (some v0)), (1, .int (v1)), (2, .int ((s0) + (s1))), (3, .int (v3 + 1))]) [2, 3, 1, 0] rfl ?_
  exact hX4 _ _ _ _ _ hw
set_option maxRecDepth 100000 in
set_option maxHeartbeats 4000000 in
theorem vb_Tree_sizeOf_4 {E : mm_E} {Z : Int32 → mm_M → Prop} (hc : cx E "EpochServer$Tree" c_Tree_sizeOf 4 (some (.int)) rm_Tree_sizeOf) (hq : cq E rm_Tree_sizeOf (pI Z)) (X4 : Nat → Int32 → Int32 → Int32 → mm_M → Prop) (hX4 : ∀ (v0 : Nat) (v1 : Int32) (v2 : Int32) (v3 : Int32) (h : mm_M), X4 v0 v1 v2 v3 h → V E 4 0 0 h 4 [(0, va_rf (some v0)), (1, .int (v1)), (2, .int (v2)), (3, .int (v3))] []) (v0 : Nat) (v1 : Int32) (v2 : Int32) (v3 : Int32) (h : mm_M) (hw : wq_Tree_sizeOf_4 X4 (mm_ge (eG E)) v0 v1 v2 v3 h Z) : V E 4 0 0 h 4 [(0, va_rf (some v0)), (1, .int (v1)), (2, .int (v2)), (3, .int (v3))] [] := by
  unfold wq_Tree_sizeOf_4 at hw
  refine V_iload_n hc 3 d_Tree_sizeOf_4 rfl rfl ?_
  refine V_bipush (v := 60) hc d_Tree_sizeOf_5 (by decide) ?_
  refine V_icmp_ge (tgt := 33) hc d_Tree_sizeOf_7 (by decide) (fun hq1 => ?_) (fun hq1 => ?_)
  · replace hw := hw.1 hq1
    refine V_iload_n hc 2 d_Tree_sizeOf_33 rfl rfl ?_
    exact V_iret hc hq ⟨_, rfl, hw⟩ (by decide) (by decide) d_Tree_sizeOf_34
  · replace hw := hw.2 hq1
    refine V_iload_n hc 2 d_Tree_sizeOf_10 rfl rfl ?_
    refine V_aload_n hc 0 d_Tree_sizeOf_11 rfl rfl ?_
    refine V_iload_n hc 1 d_Tree_sizeOf_12 rfl rfl ?_
    refine V_iload_n hc 3 d_Tree_sizeOf_13 rfl rfl ?_
    obtain ⟨q1, hw⟩ := hw
    refine V_callV (rm' := rm_Tree_in) (As := [.int (v1), .int (v3)]) (rest := [.int (v2)]) (n := 2) (cn := 12) hc rfl q1 (sat_Tree_in (eG E) _ _ _ _ _ hw) rfl cv_Tree_28 (gw_of (tw_3 (List.mem_of_getElem? (i := 88) rfl)) rfl) ss_Tree_in rfl ⟨by decide, by decide⟩ (by decide) (by decide) rfl (by simp [cat_rf, cat_i, cat_l]) d_Tree_sizeOf_14 (fun r0 h2 hw => ?_)
    obtain ⟨r3, rfl, hw⟩ := hw
    refine V_wide (cs' := 0) (sl' := 0) (by decide) (by decide) ?_
    refine V_st (st' := [va_rf (r3), .int (v2)]) rfl ?_
    refine V_ifnonnull (tgt := 24) hc d_Tree_sizeOf_17 (by decide) (fun a4 hq1 => ?_) (fun hq1 => ?_)
    · replace hw := hw.1 a4 hq1
      refine V_iconst (v := 1) hc d_Tree_sizeOf_24 (by decide) ?_
      refine V_sub (lv' := [(0, va_rf (some v0)), (1, .int (v1)), (3, .int (v3))]) [0, 1, 3] rfl ?_
      exact vb_Tree_sizeOf_25 hc hq X4 hX4 _ _ _ _ _ _ hw
    · replace hw := hw.2 hq1
      refine V_iconst (v := 0) hc d_Tree_sizeOf_20 (by decide) ?_
      refine V_goto (tgt := 25) hc d_Tree_sizeOf_21 (by decide) ?_
      refine V_sub (lv' := [(0, va_rf (some v0)), (1, .int (v1)), (3, .int (v3))]) [0, 1, 3] rfl ?_
      exact vb_Tree_sizeOf_25 hc hq X4 hX4 _ _ _ _ _ _ hw
theorem vl_Tree_sizeOf_4 {E : mm_E} {Z : Int32 → mm_M → Prop} (hc : cx E "EpochServer$Tree" c_Tree_sizeOf 4 (some (.int)) rm_Tree_sizeOf) (hq : cq E rm_Tree_sizeOf (pI Z))  (v0 : Nat) (v1 : Int32) (v2 : Int32) (v3 : Int32) (h : mm_M) (hw : lp_Tree_sizeOf_4  (mm_ge (eG E)) v0 v1 v2 v3 h Z) : V E 4 0 0 h 4 [(0, va_rf (some v0)), (1, .int (v1)), (2, .int (v2)), (3, .int (v3))] [] :=
  hw (fun v0 v1 v2 v3 h => V E 4 0 0 h 4 [(0, va_rf (some v0)), (1, .int (v1)), (2, .int (v2)), (3, .int (v3))] []) (fun v0 v1 v2 v3 h hb => vb_Tree_sizeOf_4 hc hq  _ (fun _ _ _ _ _ q => q) v0 v1 v2 v3 h hb)
set_option maxRecDepth 100000 in
set_option maxHeartbeats 4000000 in
theorem vb_Tree_sizeOf_0 {E : mm_E} {Z : Int32 → mm_M → Prop} (hc : cx E "EpochServer$Tree" c_Tree_sizeOf 4 (some (.int)) rm_Tree_sizeOf) (hq : cq E rm_Tree_sizeOf (pI Z))  (v0 : Nat) (v1 : Int32) (h : mm_M) (hw : wq_Tree_sizeOf_0  (mm_ge (eG E)) v0 v1 h Z) : V E 4 0 0 h 0 [(0, va_rf (some v0)), (1, .int (v1))] [] := by
  unfold wq_Tree_sizeOf_0 at hw
  refine V_iconst (v := 0) hc d_Tree_sizeOf_0 (by decide) ?_
  refine V_istore_n (i := 2) (lv' := [(2, .int (0)), (0, va_rf (some v0)), (1, .int (v1))]) hc d_Tree_sizeOf_1 rfl (by decide) rfl ?_
  refine V_iconst (v := 0) hc d_Tree_sizeOf_2 (by decide) ?_
  refine V_istore_n (i := 3) (lv' := [(3, .int (0)), (2, .int (0)), (0, va_rf (some v0)), (1, .int (v1))]) hc d_Tree_sizeOf_3 rfl (by decide) rfl ?_
  refine V_sub (lv' := [(0, va_rf (some v0)), (1, .int (v1)), (2, .int (0)), (3, .int (0))]) [2, 3, 1, 0] rfl ?_
  exact vl_Tree_sizeOf_4 hc hq  _ _ _ _ _ hw
def wq_Tree_sizeOf (ge : Nat → Nat) (v0 : Nat) (v1 : Int32) (h : mm_M) (Z : Int32 → mm_M → Prop) : Prop := wq_Tree_sizeOf_0 ge v0 v1 h Z
theorem sat_Tree_sizeOf (G : mm_G) (v0 : Nat) (v1 : Int32) (h : mm_M) (Z : Int32 → mm_M → Prop) (hw : wq_Tree_sizeOf (mm_ge G) v0 v1 h Z) : mm_Met G y_Tree_sizeOf c_Tree_sizeOf 4 (some (.int)) rm_Tree_sizeOf [va_rf (some v0), .int (v1)] h (pI Z) := by
  refine mm_intro (own := "EpochServer$Tree") (by decide) rfl (by simp [lg_sl, cat_rf, cat_i, cat_l]) (fun E e1 hc hq hi => ?_)
  subst e1
  have e2 : lv_args 0 [va_rf (some v0), .int (v1)] = [(0, va_rf (some v0)), (1, .int (v1))] := by simp [lv_args, cat_rf, cat_i, cat_l]
  rw [e2]
  refine V_sub (lv' := [(0, va_rf (some v0)), (1, .int (v1))]) [0, 1] rfl ?_
  exact vb_Tree_sizeOf_0 hc hq v0 v1 h hw
/-! Tree.named(ILEpochServer$Request;)LEpochServer$Node; -/
abbrev rm_Tree_named : Room := { frames := 2, cells := 0, slots := 0, locals := 44 }
def wq_Tree_named_49 (X2 : Nat → Int32 → Option Nat → Int32 → mm_M → Prop) (ge : Nat → Nat) (v0 : Nat) (v1 : Int32) (v2 : Option Nat) (v3 : Int32) (h : mm_M) (Z : Option Nat → mm_M → Prop) : Prop :=
  X2 (v0) (v1) (v2) (v3 + 1) h
def wq_Tree_named_2 (X2 : Nat → Int32 → Option Nat → Int32 → mm_M → Prop) (ge : Nat → Nat) (v0 : Nat) (v1 : Int32) (v2 : Option Nat) (v3 : Int32) (h : mm_M) (Z : Option Nat → mm_M → Prop) : Prop :=
  (((60 : Int32) ≤ (v3 : Int32) → Z (none) h) ∧ (¬ (60 : Int32) ≤ (v3 : Int32) → mm_k h (v0) = kd_Tree ∧ wq_Tree_in ge (v0) (v1) (v3) h (fun (r3 : Option Nat) (h2 : mm_M) => ((r3 = none → wq_Tree_named_49 X2 ge (v0) (v1) (v2) (v3) h2 Z) ∧ (∀ a4, r3 = some a4 → ∃ a5, r3 = some a5 ∧ mm_k h2 (a5) = kd_Node ∧ ∃ a8, mm_P h2 a5 2 = some a8 ∧ mm_k h2 (a8) = ka_B ∧ ∃ a11, v2 = some a11 ∧ mm_k h2 (a11) = kd_Request ∧ ((¬ (Nat.toInt32 (mm_n h2 a8) : Int32) = (mm_I h2 a11 15 : Int32) → wq_Tree_named_49 X2 ge (v0) (v1) (v2) (v3) h2 Z) ∧ ((Nat.toInt32 (mm_n h2 a8) : Int32) = (mm_I h2 a11 15 : Int32) → wq_Request_textBegins ge (a11) (mm_P h2 a5 2) h2 (fun (r15 : Int32) (h14 : mm_M) => (((r15) = 0 → wq_Tree_named_49 X2 ge (v0) (v1) (v2) (v3) h14 Z) ∧ (¬ (r15) = 0 → Z (r3) h14))))))))))
def lp_Tree_named_2  (ge : Nat → Nat) (v0 : Nat) (v1 : Int32) (v2 : Option Nat) (v3 : Int32) (h : mm_M) (Z : Option Nat → mm_M → Prop) : Prop :=
  ∀ X2 : Nat → Int32 → Option Nat → Int32 → mm_M → Prop, (∀ (v0 : Nat) (v1 : Int32) (v2 : Option Nat) (v3 : Int32) (h : mm_M), wq_Tree_named_2 X2 ge v0 v1 v2 v3 h Z → X2 v0 v1 v2 v3 h) → X2 v0 v1 v2 v3 h
def wq_Tree_named_0  (ge : Nat → Nat) (v0 : Nat) (v1 : Int32) (v2 : Option Nat) (h : mm_M) (Z : Option Nat → mm_M → Prop) : Prop :=
  lp_Tree_named_2  ge (v0) (v1) (v2) (0) h Z
set_option maxRecDepth 100000 in
set_option maxHeartbeats 4000000 in
theorem vb_Tree_named_49 {E : mm_E} {Z : Option Nat → mm_M → Prop} (hc : cx E "EpochServer$Tree" c_Tree_named 5 (some ((.object "EpochServer$Node"))) rm_Tree_named) (hq : cq E rm_Tree_named (pP Z)) (X2 : Nat → Int32 → Option Nat → Int32 → mm_M → Prop) (hX2 : ∀ (v0 : Nat) (v1 : Int32) (v2 : Option Nat) (v3 : Int32) (h : mm_M), X2 v0 v1 v2 v3 h → V E 5 0 0 h 2 [(0, va_rf (some v0)), (1, .int (v1)), (2, va_rf (v2)), (3, .int (v3))] []) (v0 : Nat) (v1 : Int32) (v2 : Option Nat) (v3 : Int32) (h : mm_M) (hw : wq_Tree_named_49 X2 (mm_ge (eG E)) v0 v1 v2 v3 h Z) : V E 5 0 0 h 49 [(0, va_rf (some v0)), (1, .int (v1)), (2, va_rf (v2)), (3, .int (v3))] [] := by
  unfold wq_Tree_named_49 at hw
  refine V_iinc (v := v3 + 1) (lv' := [(3, .int (v3 + 1)), (0, va_rf (some v0)), (1, .int (v1)), (2, va_rf (v2))]) hc 3 d_Tree_named_49 rfl rfl (by decide) (by simp [cat_rf, cat_i, cat_l]) ?_
  refine V_goto (tgt := 2) hc d_Tree_named_52 (by decide) ?_
  refine V_sub (lv' := [(0, va_rf (some v0)), (1, .int (v1)), (2, va_rf (v2)), (3, .int (v3 + 1))]) [1, 2, 3, 0] rfl ?_
  exact hX2 _ _ _ _ _ hw
set_option maxRecDepth 100000 in
set_option maxHeartbeats 4000000 in
theorem vb_Tree_named_2 {E : mm_E} {Z : Option Nat → mm_M → Prop} (hc : cx E "EpochServer$Tree" c_Tree_named 5 (some ((.object "EpochServer$Node"))) rm_Tree_named) (hq : cq E rm_Tree_named (pP Z)) (X2 : Nat → Int32 → Option Nat → Int32 → mm_M → Prop) (hX2 : ∀ (v0 : Nat) (v1 : Int32) (v2 : Option Nat) (v3 : Int32) (h : mm_M), X2 v0 v1 v2 v3 h → V E 5 0 0 h 2 [(0, va_rf (some v0)), (1, .int (v1)), (2, va_rf (v2)), (3, .int (v3))] []) (v0 : Nat) (v1 : Int32) (v2 : Option Nat) (v3 : Int32) (h : mm_M) (hw : wq_Tree_named_2 X2 (mm_ge (eG E)) v0 v1 v2 v3 h Z) : V E 5 0 0 h 2 [(0, va_rf (some v0)), (1, .int (v1)), (2, va_rf (v2)), (3, .int (v3))] [] := by
  unfold wq_Tree_named_2 at hw
  refine V_iload_n hc 3 d_Tree_named_2 rfl rfl ?_
  refine V_bipush (v := 60) hc d_Tree_named_3 (by decide) ?_
  refine V_icmp_ge (tgt := 55) hc d_Tree_named_5 (by decide) (fun hq1 => ?_) (fun hq1 => ?_)
  · replace hw := hw.1 hq1
    refine V_null hc d_Tree_named_55 ?_
    exact V_aret hc hq (by first | exact Or.inl ⟨_, rfl⟩ | exact Or.inr ⟨_, rfl⟩) ⟨_, rfl, hw⟩ (by decide) (by decide) d_Tree_named_56
  · replace hw := hw.2 hq1
    refine V_aload_n hc 0 d_Tree_named_8 rfl rfl ?_
    refine V_iload_n hc 1 d_Tree_named_9 rfl rfl ?_
    refine V_iload_n hc 3 d_Tree_named_10 rfl rfl ?_
    obtain ⟨q1, hw⟩ := hw
    refine V_callV (rm' := rm_Tree_in) (As := [.int (v1), .int (v3)]) (rest := []) (n := 2) (cn := 12) hc rfl q1 (sat_Tree_in (eG E) _ _ _ _ _ hw) rfl cv_Tree_28 (gw_of (tw_3 (List.mem_of_getElem? (i := 88) rfl)) rfl) ss_Tree_in rfl ⟨by decide, by decide⟩ (by decide) (by decide) rfl (by simp [cat_rf, cat_i, cat_l]) d_Tree_named_11 (fun r0 h2 hw => ?_)
    obtain ⟨r3, rfl, hw⟩ := hw
    refine V_wide (cs' := 0) (sl' := 0) (by decide) (by decide) ?_
    refine V_st (st' := [va_rf (r3)]) rfl ?_
    refine V_astore (i := 4) (lv' := [(4, va_rf (r3)), (0, va_rf (some v0)), (1, .int (v1)), (2, va_rf (v2)), (3, .int (v3))]) hc d_Tree_named_14 (by decide) rfl ?_
    refine V_aload hc 0 d_Tree_named_16 rfl ?_
    refine V_ifnull (tgt := 49) hc d_Tree_named_18 (by decide) (fun hq1 => ?_) (fun a4 hq1 => ?_)
    · replace hw := hw.1 hq1
      refine V_sub (lv' := [(0, va_rf (some v0)), (1, .int (v1)), (2, va_rf (v2)), (3, .int (v3))]) [1, 2, 3, 4] rfl ?_
      exact vb_Tree_named_49 hc hq X2 hX2 _ _ _ _ _ hw
    · replace hw := hw.2 a4 hq1
      refine V_aload hc 0 d_Tree_named_21 rfl ?_
      obtain ⟨a5, q6, hw⟩ := hw
      obtain ⟨q7, hw⟩ := hw
      refine V_get (v := va_rf (mm_P h2 a5 2)) hc gf_Tree_39 q6 q7 rfl d_Tree_named_23 ?_
      obtain ⟨a8, q9, hw⟩ := hw
      obtain ⟨q10, hw⟩ := hw
      refine V_alen (t := 1) (ty := .byte) hc rfl q9 q10 d_Tree_named_26 ?_
      refine V_aload_n hc 3 d_Tree_named_27 rfl rfl ?_
      obtain ⟨a11, q12, hw⟩ := hw
      obtain ⟨q13, hw⟩ := hw
      refine V_get (v := .int (mm_I h2 a11 15)) hc gf_Tree_43 q12 q13 rfl d_Tree_named_28 ?_
      refine V_icmp_ne (tgt := 49) hc d_Tree_named_31 (by decide) (fun hq1 => ?_) (fun hq1 => ?_)
      · replace hw := hw.1 hq1
        refine V_sub (lv' := [(0, va_rf (some v0)), (1, .int (v1)), (2, va_rf (v2)), (3, .int (v3))]) [1, 2, 3, 4] rfl ?_
        exact vb_Tree_named_49 hc hq X2 hX2 _ _ _ _ _ hw
      · replace hw := hw.2 hq1
        refine V_aload_n hc 3 d_Tree_named_34 rfl rfl ?_
        refine V_aload hc 0 d_Tree_named_35 rfl ?_
        refine V_get (v := va_rf (mm_P h2 a5 2)) hc gf_Tree_39 q6 q7 rfl d_Tree_named_37 ?_
        refine V_callV (rm' := rm_Request_textBegins) (As := [va_rf (mm_P h2 a5 2)]) (rest := []) (n := 1) (cn := 8) hc q12 q13 (sat_Request_textBegins (eG E) _ _ _ _ hw) rfl cv_Tree_48 (gw_of (tw_3 (List.mem_of_getElem? (i := 8) rfl)) rfl) ss_Request_textBegins rfl ⟨by decide, by decide⟩ (by decide) (by decide) rfl (by simp [cat_rf, cat_i, cat_l]) d_Tree_named_40 (fun r0 h14 hw => ?_)
        obtain ⟨r15, rfl, hw⟩ := hw
        refine V_wide (cs' := 0) (sl' := 0) (by decide) (by decide) ?_
        refine V_st (st' := [.int (r15)]) rfl ?_
        refine V_if_eq (tgt := 49) hc d_Tree_named_43 (by decide) (fun hq1 => ?_) (fun hq1 => ?_)
        · replace hw := hw.1 hq1
          refine V_sub (lv' := [(0, va_rf (some v0)), (1, .int (v1)), (2, va_rf (v2)), (3, .int (v3))]) [1, 2, 3, 4] rfl ?_
          exact vb_Tree_named_49 hc hq X2 hX2 _ _ _ _ _ hw
        · replace hw := hw.2 hq1
          refine V_aload hc 0 d_Tree_named_46 rfl ?_
          exact V_aret hc hq (by first | exact Or.inl ⟨_, rfl⟩ | exact Or.inr ⟨_, rfl⟩) ⟨_, rfl, hw⟩ (by decide) (by decide) d_Tree_named_48
theorem vl_Tree_named_2 {E : mm_E} {Z : Option Nat → mm_M → Prop} (hc : cx E "EpochServer$Tree" c_Tree_named 5 (some ((.object "EpochServer$Node"))) rm_Tree_named) (hq : cq E rm_Tree_named (pP Z))  (v0 : Nat) (v1 : Int32) (v2 : Option Nat) (v3 : Int32) (h : mm_M) (hw : lp_Tree_named_2  (mm_ge (eG E)) v0 v1 v2 v3 h Z) : V E 5 0 0 h 2 [(0, va_rf (some v0)), (1, .int (v1)), (2, va_rf (v2)), (3, .int (v3))] [] :=
  hw (fun v0 v1 v2 v3 h => V E 5 0 0 h 2 [(0, va_rf (some v0)), (1, .int (v1)), (2, va_rf (v2)), (3, .int (v3))] []) (fun v0 v1 v2 v3 h hb => vb_Tree_named_2 hc hq  _ (fun _ _ _ _ _ q => q) v0 v1 v2 v3 h hb)
set_option maxRecDepth 100000 in
set_option maxHeartbeats 4000000 in
theorem vb_Tree_named_0 {E : mm_E} {Z : Option Nat → mm_M → Prop} (hc : cx E "EpochServer$Tree" c_Tree_named 5 (some ((.object "EpochServer$Node"))) rm_Tree_named) (hq : cq E rm_Tree_named (pP Z))  (v0 : Nat) (v1 : Int32) (v2 : Option Nat) (h : mm_M) (hw : wq_Tree_named_0  (mm_ge (eG E)) v0 v1 v2 h Z) : V E 5 0 0 h 0 [(0, va_rf (some v0)), (1, .int (v1)), (2, va_rf (v2))] [] := by
  unfold wq_Tree_named_0 at hw
  refine V_iconst (v := 0) hc d_Tree_named_0 (by decide) ?_
  refine V_istore_n (i := 3) (lv' := [(3, .int (0)), (0, va_rf (some v0)), (1, .int (v1)), (2, va_rf (v2))]) hc d_Tree_named_1 rfl (by decide) (by simp [cat_rf, cat_i, cat_l]) ?_
  refine V_sub (lv' := [(0, va_rf (some v0)), (1, .int (v1)), (2, va_rf (v2)), (3, .int (0))]) [1, 2, 3, 0] rfl ?_
  exact vl_Tree_named_2 hc hq  _ _ _ _ _ hw
def wq_Tree_named (ge : Nat → Nat) (v0 : Nat) (v1 : Int32) (v2 : Option Nat) (h : mm_M) (Z : Option Nat → mm_M → Prop) : Prop := wq_Tree_named_0 ge v0 v1 v2 h Z
theorem sat_Tree_named (G : mm_G) (v0 : Nat) (v1 : Int32) (v2 : Option Nat) (h : mm_M) (Z : Option Nat → mm_M → Prop) (hw : wq_Tree_named (mm_ge G) v0 v1 v2 h Z) : mm_Met G y_Tree_named c_Tree_named 5 (some ((.object "EpochServer$Node"))) rm_Tree_named [va_rf (some v0), .int (v1), va_rf (v2)] h (pP Z) := by
  refine mm_intro (own := "EpochServer$Tree") (by decide) rfl (by simp [lg_sl, cat_rf, cat_i, cat_l]) (fun E e1 hc hq hi => ?_)
  subst e1
  have e2 : lv_args 0 [va_rf (some v0), .int (v1), va_rf (v2)] = [(0, va_rf (some v0)), (1, .int (v1)), (2, va_rf (v2))] := by simp [lv_args, cat_rf, cat_i, cat_l]
  rw [e2]
  refine V_sub (lv' := [(0, va_rf (some v0)), (1, .int (v1)), (2, va_rf (v2))]) [0, 1, 2] rfl ?_
  exact vb_Tree_named_0 hc hq v0 v1 v2 h hw
/-! Server.<init>()V -/
abbrev rm_Server_init : Room := { frames := 3, cells := 93, slots := 21683, locals := 65 }
def wq_Server_init_0  (ge : Nat → Nat) (v0 : Nat) (h : mm_M) (Z : mm_M → Prop) : Prop :=
  ∀ h1 : mm_M, h1 = mm_nw h 4 0 → ∀ a2 : Nat, a2 = mm_z h → wq_Bytes_init ge (a2) (1400) h1 (fun h3 : mm_M => mm_k h3 (v0) = kd_Server ∧ ge 0 ≤ v0 ∧ ∀ h7 : mm_M, h7 = mm_uP h3 (v0) 0 (some a2) → ∀ h8 : mm_M, h8 = mm_nw h7 4 0 → ∀ a9 : Nat, a9 = mm_z h7 → wq_Bytes_init ge (a9) (1000) h8 (fun h10 : mm_M => mm_k h10 (v0) = kd_Server ∧ ge 0 ≤ v0 ∧ ∀ h14 : mm_M, h14 = mm_uP h10 (v0) 1 (some a9) → ∀ h15 : mm_M, h15 = mm_nw h14 9 0 → ∀ a16 : Nat, a16 = mm_z h14 → mm_k h15 (v0) = kd_Server ∧ wq_Request_init ge (a16) (mm_P h15 v0 0) h15 (fun h18 : mm_M => mm_k h18 (v0) = kd_Server ∧ ge 0 ≤ v0 ∧ ∀ h22 : mm_M, h22 = mm_uP h18 (v0) 2 (some a16) → ∀ h23 : mm_M, h23 = mm_nw h22 6 0 → ∀ a24 : Nat, a24 = mm_z h22 → wq_FidTable_init ge (a24) h23 (fun h25 : mm_M => mm_k h25 (v0) = kd_Server ∧ ge 0 ≤ v0 ∧ ∀ h29 : mm_M, h29 = mm_uP h25 (v0) 3 (some a24) → ∀ h30 : mm_M, h30 = mm_nw h29 13 0 → ∀ a31 : Nat, a31 = mm_z h29 → wq_Tree_init ge (a31) h30 (fun h32 : mm_M => mm_k h32 (v0) = kd_Server ∧ ge 0 ≤ v0 ∧ ∀ h36 : mm_M, h36 = mm_uP h32 (v0) 4 (some a31) → ∀ h37 : mm_M, h37 = mm_nw h36 7 0 → ∀ a38 : Nat, a38 = mm_z h36 → wq_Journal_init ge (a38) h37 (fun h39 : mm_M => mm_k h39 (v0) = kd_Server ∧ ge 0 ≤ v0 ∧ ∀ h43 : mm_M, h43 = mm_uP h39 (v0) 5 (some a38) → ∀ h44 : mm_M, h44 = mm_nw h43 11 0 → ∀ a45 : Nat, a45 = mm_z h43 → wq_Snapshots_init ge (a45) h44 (fun h46 : mm_M => mm_k h46 (v0) = kd_Server ∧ ge 0 ≤ v0 ∧ ∀ h50 : mm_M, h50 = mm_uP h46 (v0) 6 (some a45) → ∀ h51 : mm_M, h51 = mm_nw h50 3 0 → ∀ a52 : Nat, a52 = mm_z h50 → wq_Archiver_init ge (a52) h51 (fun h53 : mm_M => mm_k h53 (v0) = kd_Server ∧ ge 0 ≤ v0 ∧ ∀ h57 : mm_M, h57 = mm_uP h53 (v0) 7 (some a52) → mm_k h57 (v0) = kd_Server ∧ ge 0 ≤ v0 ∧ ∀ h60 : mm_M, h60 = mm_uI h57 (v0) 8 (1) → mm_k h60 (v0) = kd_Server ∧ ge 0 ≤ v0 ∧ ∀ h63 : mm_M, h63 = mm_uI h60 (v0) 9 (0) → mm_k h63 (v0) = kd_Server ∧ ge 0 ≤ v0 ∧ ∀ h66 : mm_M, h66 = mm_uI h63 (v0) 10 (0) → mm_k h66 (v0) = kd_Server ∧ ge 0 ≤ v0 ∧ ∀ h69 : mm_M, h69 = mm_uI h66 (v0) 11 (0) → mm_k h69 (v0) = kd_Server ∧ ge 0 ≤ v0 ∧ ∀ h72 : mm_M, h72 = mm_uI h69 (v0) 12 (0) → mm_k h72 (v0) = kd_Server ∧ ∀ h74 : mm_M, h74 = mm_nw h72 8 0 → ∀ a75 : Nat, a75 = mm_z h72 → wq_Node_init ge (a75) (0) (0) (some (ge 1)) ((-2147483137)) (0) (0) (some (ge 2)) h74 (fun h76 : mm_M => ∃ a78, mm_P h72 v0 4 = some a78 ∧ mm_k h76 (a78) = kd_Tree ∧ wq_Tree_put ge (a78) (some a75) h76 (fun h81 : mm_M => Z h81))))))))))
set_option maxRecDepth 100000 in
set_option maxHeartbeats 4000000 in
theorem vb_Server_init_0 {E : mm_E} {Z : mm_M → Prop} (hc : cx E "EpochServer" c_Server_init 1 none rm_Server_init) (hq : cq E rm_Server_init (pV Z)) (hin : ci E)  (v0 : Nat) (h : mm_M) (hw : wq_Server_init_0  (mm_ge (eG E)) v0 h Z) : V E 1 0 0 h 0 [(0, va_rf (some v0))] [] := by
  unfold wq_Server_init_0 at hw
  refine V_aload_n hc 0 d_Server_init_0 rfl rfl ?_
  refine V_objInit hc rfl (gw_of (tw_1 (List.mem_of_getElem? (i := 26) rfl)) rfl) (gw_of (tw_1 (List.mem_of_getElem? (i := 27) rfl)) rfl) (gw_of (tw_1 (List.mem_of_getElem? (i := 28) rfl)) rfl) d_Server_init_1 (by decide) (by decide) ?_
  refine V_aload_n hc 0 d_Server_init_4 rfl rfl ?_
  obtain ⟨h1, eq_h1⟩ : ∃ x, x = mm_nw h 4 0 := ⟨_, rfl⟩
  replace hw := hw _ eq_h1
  refine V_new (cn := 3) (N := 2) (r := (R_Bytes, T_Bytes, 2, t_Bytes)) hc rfl rfl (gw_of (tw_1 (List.mem_of_getElem? (i := 29) rfl)) rfl) (gw_of (tw_1 (List.mem_of_getElem? (i := 30) rfl)) rfl) (gw_of (tw_1 (List.mem_of_getElem? (i := 2) rfl)) rfl) (by decide) (by decide) (by decide) d_Server_init_5 ?_
  rw [← eq_h1]
  obtain ⟨a2, eq_a2⟩ : ∃ x, x = mm_z h := ⟨_, rfl⟩
  replace hw := hw _ eq_a2
  rw [← eq_a2]
  refine V_wide (cs' := 1) (sl' := 2) (by decide) (by decide) ?_
  refine V_dup hc d_Server_init_8 (cat_rf _) ?_
  refine V_sipush (v := 1400) hc d_Server_init_9 (by decide) ?_
  refine V_callI (rm' := rm_Bytes_init) (As := [.int (1400)]) (rest := [va_rf (some a2), va_rf (some v0)]) (n := 1) hc rfl (sat_Bytes_init (eG E) _ _ _ _ hw) cv_Server_11 (gw_of (tw_1 (List.mem_of_getElem? (i := 32) rfl)) rfl) rfl rfl ⟨by decide, by decide⟩ (by decide) (by decide) rfl (by simp [cat_rf, cat_i, cat_l]) d_Server_init_12 (fun r0 h3 hw => ?_)
  obtain ⟨rfl, hw⟩ := hw
  refine V_wide (cs' := 2) (sl' := 5522) (by decide) (by decide) ?_
  refine V_st (st' := [va_rf (some a2), va_rf (some v0)]) rfl ?_
  obtain ⟨q5, hw⟩ := hw
  obtain ⟨q6, hw⟩ := hw
  obtain ⟨h7, eq_h7⟩ : ∃ x, x = mm_uP h3 (v0) 0 (some a2) := ⟨_, rfl⟩
  replace hw := hw _ eq_h7
  refine V_putF (h' := h7) hc hin rfl (fun r hr => by cases hr; rfl) gf_Server_14 rfl rfl q5 q6 (by rw [eq_h7]; exact mm_Up_P _ _ _ _) (by rw [eq_h7]; exact up_vP rfl) (pp_nar _) (pp_fit _) d_Server_init_15 ?_
  refine V_aload_n hc 0 d_Server_init_18 rfl rfl ?_
  obtain ⟨h8, eq_h8⟩ : ∃ x, x = mm_nw h7 4 0 := ⟨_, rfl⟩
  replace hw := hw _ eq_h8
  refine V_new (cn := 3) (N := 2) (r := (R_Bytes, T_Bytes, 2, t_Bytes)) hc rfl rfl (gw_of (tw_1 (List.mem_of_getElem? (i := 29) rfl)) rfl) (gw_of (tw_1 (List.mem_of_getElem? (i := 30) rfl)) rfl) (gw_of (tw_1 (List.mem_of_getElem? (i := 2) rfl)) rfl) (by decide) (by decide) (by decide) d_Server_init_19 ?_
  rw [← eq_h8]
  obtain ⟨a9, eq_a9⟩ : ∃ x, x = mm_z h7 := ⟨_, rfl⟩
  replace hw := hw _ eq_a9
  rw [← eq_a9]
  refine V_wide (cs' := 3) (sl' := 5524) (by decide) (by decide) ?_
  refine V_dup hc d_Server_init_22 (cat_rf _) ?_
  refine V_sipush (v := 1000) hc d_Server_init_23 (by decide) ?_
  refine V_callI (rm' := rm_Bytes_init) (As := [.int (1000)]) (rest := [va_rf (some a9), va_rf (some v0)]) (n := 1) hc rfl (sat_Bytes_init (eG E) _ _ _ _ hw) cv_Server_11 (gw_of (tw_1 (List.mem_of_getElem? (i := 32) rfl)) rfl) rfl rfl ⟨by decide, by decide⟩ (by decide) (by decide) rfl (by simp [cat_rf, cat_i, cat_l]) d_Server_init_26 (fun r0 h10 hw => ?_)
  obtain ⟨rfl, hw⟩ := hw
  refine V_wide (cs' := 4) (sl' := 11044) (by decide) (by decide) ?_
  refine V_st (st' := [va_rf (some a9), va_rf (some v0)]) rfl ?_
  obtain ⟨q12, hw⟩ := hw
  obtain ⟨q13, hw⟩ := hw
  obtain ⟨h14, eq_h14⟩ : ∃ x, x = mm_uP h10 (v0) 1 (some a9) := ⟨_, rfl⟩
  replace hw := hw _ eq_h14
  refine V_putF (h' := h14) hc hin rfl (fun r hr => by cases hr; rfl) gf_Server_18 rfl rfl q12 q13 (by rw [eq_h14]; exact mm_Up_P _ _ _ _) (by rw [eq_h14]; exact up_vP rfl) (pp_nar _) (pp_fit _) d_Server_init_29 ?_
  refine V_aload_n hc 0 d_Server_init_32 rfl rfl ?_
  obtain ⟨h15, eq_h15⟩ : ∃ x, x = mm_nw h14 9 0 := ⟨_, rfl⟩
  replace hw := hw _ eq_h15
  refine V_new (cn := 8) (N := 17) (r := (R_Request, T_Request, 17, t_Request)) hc rfl rfl (gw_of (tw_1 (List.mem_of_getElem? (i := 47) rfl)) rfl) (gw_of (tw_1 (List.mem_of_getElem? (i := 48) rfl)) rfl) (gw_of (tw_1 (List.mem_of_getElem? (i := 4) rfl)) rfl) (by decide) (by decide) (by decide) d_Server_init_33 ?_
  rw [← eq_h15]
  obtain ⟨a16, eq_a16⟩ : ∃ x, x = mm_z h14 := ⟨_, rfl⟩
  replace hw := hw _ eq_a16
  rw [← eq_a16]
  refine V_wide (cs' := 5) (sl' := 11061) (by decide) (by decide) ?_
  refine V_dup hc d_Server_init_36 (cat_rf _) ?_
  refine V_aload_n hc 0 d_Server_init_37 rfl rfl ?_
  obtain ⟨q17, hw⟩ := hw
  refine V_get (v := va_rf (mm_P h15 v0 0)) hc gf_Server_14 rfl q17 rfl d_Server_init_38 ?_
  refine V_callI (rm' := rm_Request_init) (As := [va_rf (mm_P h15 v0 0)]) (rest := [va_rf (some a16), va_rf (some v0)]) (n := 1) hc rfl (sat_Request_init (eG E) _ _ _ _ hw) cv_Server_23 (gw_of (tw_1 (List.mem_of_getElem? (i := 50) rfl)) rfl) rfl rfl ⟨by decide, by decide⟩ (by decide) (by decide) rfl (by simp [cat_rf, cat_i, cat_l]) d_Server_init_41 (fun r0 h18 hw => ?_)
  obtain ⟨rfl, hw⟩ := hw
  refine V_wide (cs' := 5) (sl' := 11061) (by decide) (by decide) ?_
  refine V_st (st' := [va_rf (some a16), va_rf (some v0)]) rfl ?_
  obtain ⟨q20, hw⟩ := hw
  obtain ⟨q21, hw⟩ := hw
  obtain ⟨h22, eq_h22⟩ : ∃ x, x = mm_uP h18 (v0) 2 (some a16) := ⟨_, rfl⟩
  replace hw := hw _ eq_h22
  refine V_putF (h' := h22) hc hin rfl (fun r hr => by cases hr; rfl) gf_Server_26 rfl rfl q20 q21 (by rw [eq_h22]; exact mm_Up_P _ _ _ _) (by rw [eq_h22]; exact up_vP rfl) (pp_nar _) (pp_fit _) d_Server_init_44 ?_
  refine V_aload_n hc 0 d_Server_init_47 rfl rfl ?_
  obtain ⟨h23, eq_h23⟩ : ∃ x, x = mm_nw h22 6 0 := ⟨_, rfl⟩
  replace hw := hw _ eq_h23
  refine V_new (cn := 5) (N := 1) (r := (R_FidTable, T_FidTable, 1, t_FidTable)) hc rfl rfl (gw_of (tw_1 (List.mem_of_getElem? (i := 117) rfl)) rfl) (gw_of (tw_1 (List.mem_of_getElem? (i := 118) rfl)) rfl) (gw_of (tw_1 (List.mem_of_getElem? (i := 5) rfl)) rfl) (by decide) (by decide) (by decide) d_Server_init_48 ?_
  rw [← eq_h23]
  obtain ⟨a24, eq_a24⟩ : ∃ x, x = mm_z h22 := ⟨_, rfl⟩
  replace hw := hw _ eq_a24
  rw [← eq_a24]
  refine V_wide (cs' := 6) (sl' := 11062) (by decide) (by decide) ?_
  refine V_dup hc d_Server_init_51 (cat_rf _) ?_
  refine V_callI (rm' := rm_FidTable_init) (As := []) (rest := [va_rf (some a24), va_rf (some v0)]) (n := 0) hc rfl (sat_FidTable_init (eG E) _ _ _ hw) cv_Server_32 (gw_of (tw_1 (List.mem_of_getElem? (i := 120) rfl)) rfl) rfl rfl ⟨by decide, by decide⟩ (by decide) (by decide) rfl (by simp [cat_rf, cat_i, cat_l]) d_Server_init_52 (fun r0 h25 hw => ?_)
  obtain ⟨rfl, hw⟩ := hw
  refine V_wide (cs' := 32) (sl' := 11286) (by decide) (by decide) ?_
  refine V_st (st' := [va_rf (some a24), va_rf (some v0)]) rfl ?_
  obtain ⟨q27, hw⟩ := hw
  obtain ⟨q28, hw⟩ := hw
  obtain ⟨h29, eq_h29⟩ : ∃ x, x = mm_uP h25 (v0) 3 (some a24) := ⟨_, rfl⟩
  replace hw := hw _ eq_h29
  refine V_putF (h' := h29) hc hin rfl (fun r hr => by cases hr; rfl) gf_Server_33 rfl rfl q27 q28 (by rw [eq_h29]; exact mm_Up_P _ _ _ _) (by rw [eq_h29]; exact up_vP rfl) (pp_nar _) (pp_fit _) d_Server_init_55 ?_
  refine V_aload_n hc 0 d_Server_init_58 rfl rfl ?_
  obtain ⟨h30, eq_h30⟩ : ∃ x, x = mm_nw h29 13 0 := ⟨_, rfl⟩
  replace hw := hw _ eq_h30
  refine V_new (cn := 12) (N := 1) (r := (R_Tree, T_Tree, 1, t_Tree)) hc rfl rfl (gw_of (tw_1 (List.mem_of_getElem? (i := 172) rfl)) rfl) (gw_of (tw_1 (List.mem_of_getElem? (i := 173) rfl)) rfl) (gw_of (tw_1 (List.mem_of_getElem? (i := 7) rfl)) rfl) (by decide) (by decide) (by decide) d_Server_init_59 ?_
  rw [← eq_h30]
  obtain ⟨a31, eq_a31⟩ : ∃ x, x = mm_z h29 := ⟨_, rfl⟩
  replace hw := hw _ eq_a31
  rw [← eq_a31]
  refine V_wide (cs' := 33) (sl' := 11287) (by decide) (by decide) ?_
  refine V_dup hc d_Server_init_62 (cat_rf _) ?_
  refine V_callIN (rm' := rm_Tree_init) (As := []) (rest := [va_rf (some a31), va_rf (some v0)]) (n := 0) hc rfl (sat_Tree_init (eG E) _ _ _ hw) cv_Server_39 (gw_of (tw_1 (List.mem_of_getElem? (i := 175) rfl)) rfl) rfl rfl ⟨by decide, by decide⟩ (by decide) (by decide) rfl (by simp [cat_rf, cat_i, cat_l]) d_Server_init_63 (fun r0 h32 hw => ?_)
  obtain ⟨rfl, hw⟩ := hw
  refine V_wide (cs' := 34) (sl' := 11347) (by decide) (by decide) ?_
  refine V_st (st' := [va_rf (some a31), va_rf (some v0)]) rfl ?_
  obtain ⟨q34, hw⟩ := hw
  obtain ⟨q35, hw⟩ := hw
  obtain ⟨h36, eq_h36⟩ : ∃ x, x = mm_uP h32 (v0) 4 (some a31) := ⟨_, rfl⟩
  replace hw := hw _ eq_h36
  refine V_putF (h' := h36) hc hin rfl (fun r hr => by cases hr; rfl) gf_Server_40 rfl rfl q34 q35 (by rw [eq_h36]; exact mm_Up_P _ _ _ _) (by rw [eq_h36]; exact up_vP rfl) (pp_nar _) (pp_fit _) d_Server_init_66 ?_
  refine V_aload_n hc 0 d_Server_init_69 rfl rfl ?_
  obtain ⟨h37, eq_h37⟩ : ∃ x, x = mm_nw h36 7 0 := ⟨_, rfl⟩
  replace hw := hw _ eq_h37
  refine V_new (cn := 6) (N := 3) (r := (R_Journal, T_Journal, 3, t_Journal)) hc rfl rfl (gw_of (tw_1 (List.mem_of_getElem? (i := 184) rfl)) rfl) (gw_of (tw_1 (List.mem_of_getElem? (i := 185) rfl)) rfl) (gw_of (tw_1 (List.mem_of_getElem? (i := 8) rfl)) rfl) (by decide) (by decide) (by decide) d_Server_init_70 ?_
  rw [← eq_h37]
  obtain ⟨a38, eq_a38⟩ : ∃ x, x = mm_z h36 := ⟨_, rfl⟩
  replace hw := hw _ eq_a38
  rw [← eq_a38]
  refine V_wide (cs' := 35) (sl' := 11350) (by decide) (by decide) ?_
  refine V_dup hc d_Server_init_73 (cat_rf _) ?_
  refine V_callI (rm' := rm_Journal_init) (As := []) (rest := [va_rf (some a38), va_rf (some v0)]) (n := 0) hc rfl (sat_Journal_init (eG E) _ _ _ hw) cv_Server_46 (gw_of (tw_1 (List.mem_of_getElem? (i := 187) rfl)) rfl) rfl rfl ⟨by decide, by decide⟩ (by decide) (by decide) rfl (by simp [cat_rf, cat_i, cat_l]) d_Server_init_74 (fun r0 h39 hw => ?_)
  obtain ⟨rfl, hw⟩ := hw
  refine V_wide (cs' := 78) (sl' := 12651) (by decide) (by decide) ?_
  refine V_st (st' := [va_rf (some a38), va_rf (some v0)]) rfl ?_
  obtain ⟨q41, hw⟩ := hw
  obtain ⟨q42, hw⟩ := hw
  obtain ⟨h43, eq_h43⟩ : ∃ x, x = mm_uP h39 (v0) 5 (some a38) := ⟨_, rfl⟩
  replace hw := hw _ eq_h43
  refine V_putF (h' := h43) hc hin rfl (fun r hr => by cases hr; rfl) gf_Server_47 rfl rfl q41 q42 (by rw [eq_h43]; exact mm_Up_P _ _ _ _) (by rw [eq_h43]; exact up_vP rfl) (pp_nar _) (pp_fit _) d_Server_init_77 ?_
  refine V_aload_n hc 0 d_Server_init_80 rfl rfl ?_
  obtain ⟨h44, eq_h44⟩ : ∃ x, x = mm_nw h43 11 0 := ⟨_, rfl⟩
  replace hw := hw _ eq_h44
  refine V_new (cn := 10) (N := 4) (r := (R_Snapshots, T_Snapshots, 4, t_Snapshots)) hc rfl rfl (gw_of (tw_1 (List.mem_of_getElem? (i := 203) rfl)) rfl) (gw_of (tw_1 (List.mem_of_getElem? (i := 204) rfl)) rfl) (gw_of (tw_1 (List.mem_of_getElem? (i := 9) rfl)) rfl) (by decide) (by decide) (by decide) d_Server_init_81 ?_
  rw [← eq_h44]
  obtain ⟨a45, eq_a45⟩ : ∃ x, x = mm_z h43 := ⟨_, rfl⟩
  replace hw := hw _ eq_a45
  rw [← eq_a45]
  refine V_wide (cs' := 79) (sl' := 12655) (by decide) (by decide) ?_
  refine V_dup hc d_Server_init_84 (cat_rf _) ?_
  refine V_callIN (rm' := rm_Snapshots_init) (As := []) (rest := [va_rf (some a45), va_rf (some v0)]) (n := 0) hc rfl (sat_Snapshots_init (eG E) _ _ _ hw) cv_Server_53 (gw_of (tw_1 (List.mem_of_getElem? (i := 206) rfl)) rfl) rfl rfl ⟨by decide, by decide⟩ (by decide) (by decide) rfl (by simp [cat_rf, cat_i, cat_l]) d_Server_init_85 (fun r0 h46 hw => ?_)
  obtain ⟨rfl, hw⟩ := hw
  refine V_wide (cs' := 82) (sl' := 12697) (by decide) (by decide) ?_
  refine V_st (st' := [va_rf (some a45), va_rf (some v0)]) rfl ?_
  obtain ⟨q48, hw⟩ := hw
  obtain ⟨q49, hw⟩ := hw
  obtain ⟨h50, eq_h50⟩ : ∃ x, x = mm_uP h46 (v0) 6 (some a45) := ⟨_, rfl⟩
  replace hw := hw _ eq_h50
  refine V_putF (h' := h50) hc hin rfl (fun r hr => by cases hr; rfl) gf_Server_54 rfl rfl q48 q49 (by rw [eq_h50]; exact mm_Up_P _ _ _ _) (by rw [eq_h50]; exact up_vP rfl) (pp_nar _) (pp_fit _) d_Server_init_88 ?_
  refine V_aload_n hc 0 d_Server_init_91 rfl rfl ?_
  obtain ⟨h51, eq_h51⟩ : ∃ x, x = mm_nw h50 3 0 := ⟨_, rfl⟩
  replace hw := hw _ eq_h51
  refine V_new (cn := 2) (N := 7) (r := (R_Archiver, T_Archiver, 7, t_Archiver)) hc rfl rfl (gw_of (tw_1 (List.mem_of_getElem? (i := 226) rfl)) rfl) (gw_of (tw_1 (List.mem_of_getElem? (i := 227) rfl)) rfl) (gw_of (tw_1 (List.mem_of_getElem? (i := 10) rfl)) rfl) (by decide) (by decide) (by decide) d_Server_init_92 ?_
  rw [← eq_h51]
  obtain ⟨a52, eq_a52⟩ : ∃ x, x = mm_z h50 := ⟨_, rfl⟩
  replace hw := hw _ eq_a52
  rw [← eq_a52]
  refine V_wide (cs' := 83) (sl' := 12704) (by decide) (by decide) ?_
  refine V_dup hc d_Server_init_95 (cat_rf _) ?_
  refine V_callIN (rm' := rm_Archiver_init) (As := []) (rest := [va_rf (some a52), va_rf (some v0)]) (n := 0) hc rfl (sat_Archiver_init (eG E) _ _ _ hw) cv_Server_60 (gw_of (tw_1 (List.mem_of_getElem? (i := 229) rfl)) rfl) rfl rfl ⟨by decide, by decide⟩ (by decide) (by decide) rfl (by simp [cat_rf, cat_i, cat_l]) d_Server_init_96 (fun r0 h53 hw => ?_)
  obtain ⟨rfl, hw⟩ := hw
  refine V_wide (cs' := 92) (sl' := 21676) (by decide) (by decide) ?_
  refine V_st (st' := [va_rf (some a52), va_rf (some v0)]) rfl ?_
  obtain ⟨q55, hw⟩ := hw
  obtain ⟨q56, hw⟩ := hw
  obtain ⟨h57, eq_h57⟩ : ∃ x, x = mm_uP h53 (v0) 7 (some a52) := ⟨_, rfl⟩
  replace hw := hw _ eq_h57
  refine V_putF (h' := h57) hc hin rfl (fun r hr => by cases hr; rfl) gf_Server_61 rfl rfl q55 q56 (by rw [eq_h57]; exact mm_Up_P _ _ _ _) (by rw [eq_h57]; exact up_vP rfl) (pp_nar _) (pp_fit _) d_Server_init_99 ?_
  refine V_aload_n hc 0 d_Server_init_102 rfl rfl ?_
  refine V_iconst (v := 1) hc d_Server_init_103 (by decide) ?_
  obtain ⟨q58, hw⟩ := hw
  obtain ⟨q59, hw⟩ := hw
  obtain ⟨h60, eq_h60⟩ : ∃ x, x = mm_uI h57 (v0) 8 (1) := ⟨_, rfl⟩
  replace hw := hw _ eq_h60
  refine V_put (h' := h60) hc gf_Server_65 rfl rfl q58 q59 (by rw [eq_h60]; exact mm_Up_I _ _ _ _) (by rw [eq_h60]; exact up_vI rfl) (vp_nar_int _) rfl d_Server_init_104 ?_
  refine V_aload_n hc 0 d_Server_init_107 rfl rfl ?_
  refine V_iconst (v := 0) hc d_Server_init_108 (by decide) ?_
  obtain ⟨q61, hw⟩ := hw
  obtain ⟨q62, hw⟩ := hw
  obtain ⟨h63, eq_h63⟩ : ∃ x, x = mm_uI h60 (v0) 9 (0) := ⟨_, rfl⟩
  replace hw := hw _ eq_h63
  refine V_put (h' := h63) hc gf_Server_69 rfl rfl q61 q62 (by rw [eq_h63]; exact mm_Up_I _ _ _ _) (by rw [eq_h63]; exact up_vI rfl) (vp_nar_int _) rfl d_Server_init_109 ?_
  refine V_aload_n hc 0 d_Server_init_112 rfl rfl ?_
  refine V_iconst (v := 0) hc d_Server_init_113 (by decide) ?_
  obtain ⟨q64, hw⟩ := hw
  obtain ⟨q65, hw⟩ := hw
  obtain ⟨h66, eq_h66⟩ : ∃ x, x = mm_uI h63 (v0) 10 (0) := ⟨_, rfl⟩
  replace hw := hw _ eq_h66
  refine V_put (h' := h66) hc gf_Server_72 rfl rfl q64 q65 (by rw [eq_h66]; exact mm_Up_I _ _ _ _) (by rw [eq_h66]; exact up_vI rfl) (vp_nar_int _) rfl d_Server_init_114 ?_
  refine V_aload_n hc 0 d_Server_init_117 rfl rfl ?_
  refine V_iconst (v := 0) hc d_Server_init_118 (by decide) ?_
  obtain ⟨q67, hw⟩ := hw
  obtain ⟨q68, hw⟩ := hw
  obtain ⟨h69, eq_h69⟩ : ∃ x, x = mm_uI h66 (v0) 11 (0) := ⟨_, rfl⟩
  replace hw := hw _ eq_h69
  refine V_put (h' := h69) hc gf_Server_75 rfl rfl q67 q68 (by rw [eq_h69]; exact mm_Up_I _ _ _ _) (by rw [eq_h69]; exact up_vI rfl) (vp_nar_int _) rfl d_Server_init_119 ?_
  refine V_aload_n hc 0 d_Server_init_122 rfl rfl ?_
  refine V_iconst (v := 0) hc d_Server_init_123 (by decide) ?_
  obtain ⟨q70, hw⟩ := hw
  obtain ⟨q71, hw⟩ := hw
  obtain ⟨h72, eq_h72⟩ : ∃ x, x = mm_uI h69 (v0) 12 (0) := ⟨_, rfl⟩
  replace hw := hw _ eq_h72
  refine V_put (h' := h72) hc gf_Server_78 rfl rfl q70 q71 (by rw [eq_h72]; exact mm_Up_I _ _ _ _) (by rw [eq_h72]; exact up_vI rfl) (vp_nar_int _) rfl d_Server_init_124 ?_
  refine V_aload_n hc 0 d_Server_init_127 rfl rfl ?_
  obtain ⟨q73, hw⟩ := hw
  refine V_get (v := va_rf (mm_P h72 v0 4)) hc gf_Server_40 rfl q73 rfl d_Server_init_128 ?_
  obtain ⟨h74, eq_h74⟩ : ∃ x, x = mm_nw h72 8 0 := ⟨_, rfl⟩
  replace hw := hw _ eq_h74
  refine V_new (cn := 7) (N := 7) (r := (R_Node, T_Node, 7, t_Node)) hc rfl rfl (gw_of (tw_2 (List.mem_of_getElem? (i := 51) rfl)) rfl) (gw_of (tw_2 (List.mem_of_getElem? (i := 52) rfl)) rfl) (gw_of (tw_1 (List.mem_of_getElem? (i := 13) rfl)) rfl) (by decide) (by decide) (by decide) d_Server_init_131 ?_
  rw [← eq_h74]
  obtain ⟨a75, eq_a75⟩ : ∃ x, x = mm_z h72 := ⟨_, rfl⟩
  replace hw := hw _ eq_a75
  rw [← eq_a75]
  refine V_wide (cs' := 93) (sl' := 21683) (by decide) (by decide) ?_
  refine V_dup hc d_Server_init_134 (cat_rf _) ?_
  refine V_iconst (v := 0) hc d_Server_init_135 (by decide) ?_
  refine V_iconst (v := 0) hc d_Server_init_136 (by decide) ?_
  refine V_gets (j := 0) (r := ("EpochServer", "ROOT_NAME", "[B")) hc rfl (gw_of (tw_2 (List.mem_of_getElem? (i := 53) rfl)) rfl) d_Server_init_137 ?_
  refine V_ldc (v := (-2147483137)) hc (gw_of (tw_2 (List.mem_of_getElem? (i := 55) rfl)) rfl) d_Server_init_140 ?_
  refine V_iconst (v := 0) hc d_Server_init_142 (by decide) ?_
  refine V_iconst (v := 0) hc d_Server_init_143 (by decide) ?_
  refine V_gets (j := 1) (r := ("EpochServer", "NO_BYTES", "[B")) hc rfl (gw_of (tw_2 (List.mem_of_getElem? (i := 56) rfl)) rfl) d_Server_init_144 ?_
  refine V_callI (rm' := rm_Node_init) (As := [.int (0), .int (0), va_rf (some (mm_ge (eG E) 1)), .int ((-2147483137)), .int (0), .int (0), va_rf (some (mm_ge (eG E) 2))]) (rest := [va_rf (some a75), va_rf (mm_P h72 v0 4)]) (n := 7) hc rfl (sat_Node_init (eG E) _ _ _ _ _ _ _ _ _ _ hw) cv_Server_91 (gw_of (tw_2 (List.mem_of_getElem? (i := 59) rfl)) rfl) rfl rfl ⟨by decide, by decide⟩ (by decide) (by decide) rfl (by simp [cat_rf, cat_i, cat_l]) d_Server_init_147 (fun r0 h76 hw => ?_)
  obtain ⟨rfl, hw⟩ := hw
  refine V_wide (cs' := 93) (sl' := 21683) (by decide) (by decide) ?_
  refine V_st (st' := [va_rf (some a75), va_rf (mm_P h72 v0 4)]) rfl ?_
  obtain ⟨a78, q79, hw⟩ := hw
  obtain ⟨q80, hw⟩ := hw
  refine V_callV (rm' := rm_Tree_put) (As := [va_rf (some a75)]) (rest := []) (n := 1) (cn := 12) hc q79 q80 (sat_Tree_put (eG E) _ _ _ _ hw) rfl cv_Server_94 (gw_of (tw_2 (List.mem_of_getElem? (i := 102) rfl)) rfl) ss_Tree_put rfl ⟨by decide, by decide⟩ (by decide) (by decide) rfl (by simp [cat_rf, cat_i, cat_l]) d_Server_init_150 (fun r0 h81 hw => ?_)
  obtain ⟨rfl, hw⟩ := hw
  refine V_wide (cs' := 93) (sl' := 21683) (by decide) (by decide) ?_
  refine V_st (st' := []) rfl ?_
  exact V_vret hc hq ⟨rfl, hw⟩ (by decide) (by decide) d_Server_init_153
def wq_Server_init (ge : Nat → Nat) (v0 : Nat) (h : mm_M) (Z : mm_M → Prop) : Prop := wq_Server_init_0 ge v0 h Z
theorem sat_Server_init (G : mm_G) (v0 : Nat) (h : mm_M) (Z : mm_M → Prop) (hw : wq_Server_init (mm_ge G) v0 h Z) : mm_Met G y_Server_init c_Server_init 1 none rm_Server_init [va_rf (some v0)] h (pV Z) := by
  refine mm_intro (own := "EpochServer") (by decide) rfl (by simp [lg_sl, cat_rf, cat_i, cat_l]) (fun E e1 hc hq hi => ?_)
  subst e1
  have e2 : lv_args 0 [va_rf (some v0)] = [(0, va_rf (some v0))] := by simp [lv_args, cat_rf, cat_i, cat_l]
  rw [e2]
  refine V_sub (lv' := [(0, va_rf (some v0))]) [0] rfl ?_
  exact vb_Server_init_0 hc hq (hi rfl) v0 h hw
/-! Server.feed(IIIII)I -/
abbrev rm_Server_feed : Room := { frames := 2, cells := 0, slots := 0, locals := 45 }
def wq_Server_feed_0  (ge : Nat → Nat) (v0 : Nat) (v1 : Int32) (v2 : Int32) (v3 : Int32) (v4 : Int32) (v5 : Int32) (h : mm_M) (Z : Int32 → mm_M → Prop) : Prop :=
  mm_k h (v0) = kd_Server ∧ ∃ a2, mm_P h v0 0 = some a2 ∧ mm_k h (a2) = kd_Bytes ∧ wq_Bytes_room ge (a2) h (fun (r6 : Int32) (h5 : mm_M) => (((20 : Int32) ≤ (r6 : Int32) → mm_k h5 (v0) = kd_Server ∧ ∃ a8, mm_P h5 v0 0 = some a8 ∧ mm_k h5 (a8) = kd_Bytes ∧ wq_Bytes_putHighestFirst ge (a8) (v1) h5 (fun h11 : mm_M => mm_k h11 (v0) = kd_Server ∧ ∃ a14, mm_P h11 v0 0 = some a14 ∧ mm_k h11 (a14) = kd_Bytes ∧ wq_Bytes_putHighestFirst ge (a14) (v2) h11 (fun h17 : mm_M => mm_k h17 (v0) = kd_Server ∧ ∃ a20, mm_P h17 v0 0 = some a20 ∧ mm_k h17 (a20) = kd_Bytes ∧ wq_Bytes_putHighestFirst ge (a20) (v3) h17 (fun h23 : mm_M => mm_k h23 (v0) = kd_Server ∧ ∃ a26, mm_P h23 v0 0 = some a26 ∧ mm_k h23 (a26) = kd_Bytes ∧ wq_Bytes_putHighestFirst ge (a26) (v4) h23 (fun h29 : mm_M => mm_k h29 (v0) = kd_Server ∧ ∃ a32, mm_P h29 v0 0 = some a32 ∧ mm_k h29 (a32) = kd_Bytes ∧ wq_Bytes_putHighestFirst ge (a32) (v5) h29 (fun h35 : mm_M => mm_k h35 (v0) = kd_Server ∧ ∃ a38, mm_P h35 v0 0 = some a38 ∧ mm_k h35 (a38) = kd_Bytes ∧ wq_Bytes_size ge (a38) h35 (fun (r42 : Int32) (h41 : mm_M) => Z (r42) h41))))))) ∧ (¬ (20 : Int32) ≤ (r6 : Int32) → Z ((-1)) h5)))
set_option maxRecDepth 100000 in
set_option maxHeartbeats 4000000 in
theorem vb_Server_feed_0 {E : mm_E} {Z : Int32 → mm_M → Prop} (hc : cx E "EpochServer" c_Server_feed 6 (some (.int)) rm_Server_feed) (hq : cq E rm_Server_feed (pI Z))  (v0 : Nat) (v1 : Int32) (v2 : Int32) (v3 : Int32) (v4 : Int32) (v5 : Int32) (h : mm_M) (hw : wq_Server_feed_0  (mm_ge (eG E)) v0 v1 v2 v3 v4 v5 h Z) : V E 6 0 0 h 0 [(0, va_rf (some v0)), (1, .int (v1)), (2, .int (v2)), (3, .int (v3)), (4, .int (v4)), (5, .int (v5))] [] := by
  unfold wq_Server_feed_0 at hw
  refine V_aload_n hc 0 d_Server_feed_0 rfl rfl ?_
  obtain ⟨q1, hw⟩ := hw
  refine V_get (v := va_rf (mm_P h v0 0)) hc gf_Server_14 rfl q1 rfl d_Server_feed_1 ?_
  obtain ⟨a2, q3, hw⟩ := hw
  obtain ⟨q4, hw⟩ := hw
  refine V_callV (rm' := rm_Bytes_room) (As := []) (rest := []) (n := 0) (cn := 3) hc q3 q4 (sat_Bytes_room (eG E) _ _ _ hw) rfl cv_Server_98 (gw_of (tw_2 (List.mem_of_getElem? (i := 150) rfl)) rfl) ss_Bytes_room rfl ⟨by decide, by decide⟩ (by decide) (by decide) rfl (by simp [cat_rf, cat_i, cat_l]) d_Server_feed_4 (fun r0 h5 hw => ?_)
  obtain ⟨r6, rfl, hw⟩ := hw
  refine V_wide (cs' := 0) (sl' := 0) (by decide) (by decide) ?_
  refine V_st (st' := [.int (r6)]) rfl ?_
  refine V_bipush (v := 20) hc d_Server_feed_7 (by decide) ?_
  refine V_icmp_ge (tgt := 14) hc d_Server_feed_9 (by decide) (fun hq1 => ?_) (fun hq1 => ?_)
  · replace hw := hw.1 hq1
    refine V_aload_n hc 0 d_Server_feed_14 rfl rfl ?_
    obtain ⟨q7, hw⟩ := hw
    refine V_get (v := va_rf (mm_P h5 v0 0)) hc gf_Server_14 rfl q7 rfl d_Server_feed_15 ?_
    refine V_iload_n hc 1 d_Server_feed_18 rfl rfl ?_
    obtain ⟨a8, q9, hw⟩ := hw
    obtain ⟨q10, hw⟩ := hw
    refine V_callV (rm' := rm_Bytes_putHighestFirst) (As := [.int (v1)]) (rest := []) (n := 1) (cn := 3) hc q9 q10 (sat_Bytes_putHighestFirst (eG E) _ _ _ _ hw) rfl cv_Server_102 (gw_of (tw_2 (List.mem_of_getElem? (i := 154) rfl)) rfl) ss_Bytes_putHighestFirst rfl ⟨by decide, by decide⟩ (by decide) (by decide) rfl (by simp [cat_rf, cat_i, cat_l]) d_Server_feed_19 (fun r0 h11 hw => ?_)
    obtain ⟨rfl, hw⟩ := hw
    refine V_wide (cs' := 0) (sl' := 0) (by decide) (by decide) ?_
    refine V_st (st' := []) rfl ?_
    refine V_aload_n hc 0 d_Server_feed_22 rfl rfl ?_
    obtain ⟨q13, hw⟩ := hw
    refine V_get (v := va_rf (mm_P h11 v0 0)) hc gf_Server_14 rfl q13 rfl d_Server_feed_23 ?_
    refine V_iload_n hc 2 d_Server_feed_26 rfl rfl ?_
    obtain ⟨a14, q15, hw⟩ := hw
    obtain ⟨q16, hw⟩ := hw
    refine V_callV (rm' := rm_Bytes_putHighestFirst) (As := [.int (v2)]) (rest := []) (n := 1) (cn := 3) hc q15 q16 (sat_Bytes_putHighestFirst (eG E) _ _ _ _ hw) rfl cv_Server_102 (gw_of (tw_2 (List.mem_of_getElem? (i := 154) rfl)) rfl) ss_Bytes_putHighestFirst rfl ⟨by decide, by decide⟩ (by decide) (by decide) rfl (by simp [cat_rf, cat_i, cat_l]) d_Server_feed_27 (fun r0 h17 hw => ?_)
    obtain ⟨rfl, hw⟩ := hw
    refine V_wide (cs' := 0) (sl' := 0) (by decide) (by decide) ?_
    refine V_st (st' := []) rfl ?_
    refine V_aload_n hc 0 d_Server_feed_30 rfl rfl ?_
    obtain ⟨q19, hw⟩ := hw
    refine V_get (v := va_rf (mm_P h17 v0 0)) hc gf_Server_14 rfl q19 rfl d_Server_feed_31 ?_
    refine V_iload_n hc 3 d_Server_feed_34 rfl rfl ?_
    obtain ⟨a20, q21, hw⟩ := hw
    obtain ⟨q22, hw⟩ := hw
    refine V_callV (rm' := rm_Bytes_putHighestFirst) (As := [.int (v3)]) (rest := []) (n := 1) (cn := 3) hc q21 q22 (sat_Bytes_putHighestFirst (eG E) _ _ _ _ hw) rfl cv_Server_102 (gw_of (tw_2 (List.mem_of_getElem? (i := 154) rfl)) rfl) ss_Bytes_putHighestFirst rfl ⟨by decide, by decide⟩ (by decide) (by decide) rfl (by simp [cat_rf, cat_i, cat_l]) d_Server_feed_35 (fun r0 h23 hw => ?_)
    obtain ⟨rfl, hw⟩ := hw
    refine V_wide (cs' := 0) (sl' := 0) (by decide) (by decide) ?_
    refine V_st (st' := []) rfl ?_
    refine V_aload_n hc 0 d_Server_feed_38 rfl rfl ?_
    obtain ⟨q25, hw⟩ := hw
    refine V_get (v := va_rf (mm_P h23 v0 0)) hc gf_Server_14 rfl q25 rfl d_Server_feed_39 ?_
    refine V_iload hc 4 d_Server_feed_42 rfl ?_
    obtain ⟨a26, q27, hw⟩ := hw
    obtain ⟨q28, hw⟩ := hw
    refine V_callV (rm' := rm_Bytes_putHighestFirst) (As := [.int (v4)]) (rest := []) (n := 1) (cn := 3) hc q27 q28 (sat_Bytes_putHighestFirst (eG E) _ _ _ _ hw) rfl cv_Server_102 (gw_of (tw_2 (List.mem_of_getElem? (i := 154) rfl)) rfl) ss_Bytes_putHighestFirst rfl ⟨by decide, by decide⟩ (by decide) (by decide) rfl (by simp [cat_rf, cat_i, cat_l]) d_Server_feed_44 (fun r0 h29 hw => ?_)
    obtain ⟨rfl, hw⟩ := hw
    refine V_wide (cs' := 0) (sl' := 0) (by decide) (by decide) ?_
    refine V_st (st' := []) rfl ?_
    refine V_aload_n hc 0 d_Server_feed_47 rfl rfl ?_
    obtain ⟨q31, hw⟩ := hw
    refine V_get (v := va_rf (mm_P h29 v0 0)) hc gf_Server_14 rfl q31 rfl d_Server_feed_48 ?_
    refine V_iload hc 5 d_Server_feed_51 rfl ?_
    obtain ⟨a32, q33, hw⟩ := hw
    obtain ⟨q34, hw⟩ := hw
    refine V_callV (rm' := rm_Bytes_putHighestFirst) (As := [.int (v5)]) (rest := []) (n := 1) (cn := 3) hc q33 q34 (sat_Bytes_putHighestFirst (eG E) _ _ _ _ hw) rfl cv_Server_102 (gw_of (tw_2 (List.mem_of_getElem? (i := 154) rfl)) rfl) ss_Bytes_putHighestFirst rfl ⟨by decide, by decide⟩ (by decide) (by decide) rfl (by simp [cat_rf, cat_i, cat_l]) d_Server_feed_53 (fun r0 h35 hw => ?_)
    obtain ⟨rfl, hw⟩ := hw
    refine V_wide (cs' := 0) (sl' := 0) (by decide) (by decide) ?_
    refine V_st (st' := []) rfl ?_
    refine V_aload_n hc 0 d_Server_feed_56 rfl rfl ?_
    obtain ⟨q37, hw⟩ := hw
    refine V_get (v := va_rf (mm_P h35 v0 0)) hc gf_Server_14 rfl q37 rfl d_Server_feed_57 ?_
    obtain ⟨a38, q39, hw⟩ := hw
    obtain ⟨q40, hw⟩ := hw
    refine V_callV (rm' := rm_Bytes_size) (As := []) (rest := []) (n := 0) (cn := 3) hc q39 q40 (sat_Bytes_size (eG E) _ _ _ hw) rfl cv_Server_105 (gw_of (tw_2 (List.mem_of_getElem? (i := 162) rfl)) rfl) ss_Bytes_size rfl ⟨by decide, by decide⟩ (by decide) (by decide) rfl (by simp [cat_rf, cat_i, cat_l]) d_Server_feed_60 (fun r0 h41 hw => ?_)
    obtain ⟨r42, rfl, hw⟩ := hw
    refine V_wide (cs' := 0) (sl' := 0) (by decide) (by decide) ?_
    refine V_st (st' := [.int (r42)]) rfl ?_
    exact V_iret hc hq ⟨_, rfl, hw⟩ (by decide) (by decide) d_Server_feed_63
  · replace hw := hw.2 hq1
    refine V_iconst (v := (-1)) hc d_Server_feed_12 (by decide) ?_
    exact V_iret hc hq ⟨_, rfl, hw⟩ (by decide) (by decide) d_Server_feed_13
def wq_Server_feed (ge : Nat → Nat) (v0 : Nat) (v1 : Int32) (v2 : Int32) (v3 : Int32) (v4 : Int32) (v5 : Int32) (h : mm_M) (Z : Int32 → mm_M → Prop) : Prop := wq_Server_feed_0 ge v0 v1 v2 v3 v4 v5 h Z
theorem sat_Server_feed (G : mm_G) (v0 : Nat) (v1 : Int32) (v2 : Int32) (v3 : Int32) (v4 : Int32) (v5 : Int32) (h : mm_M) (Z : Int32 → mm_M → Prop) (hw : wq_Server_feed (mm_ge G) v0 v1 v2 v3 v4 v5 h Z) : mm_Met G y_Server_feed c_Server_feed 6 (some (.int)) rm_Server_feed [va_rf (some v0), .int (v1), .int (v2), .int (v3), .int (v4), .int (v5)] h (pI Z) := by
  refine mm_intro (own := "EpochServer") (by decide) rfl (by simp [lg_sl, cat_rf, cat_i, cat_l]) (fun E e1 hc hq hi => ?_)
  subst e1
  have e2 : lv_args 0 [va_rf (some v0), .int (v1), .int (v2), .int (v3), .int (v4), .int (v5)] = [(0, va_rf (some v0)), (1, .int (v1)), (2, .int (v2)), (3, .int (v3)), (4, .int (v4)), (5, .int (v5))] := by simp [lv_args, cat_rf, cat_i, cat_l]
  rw [e2]
  refine V_sub (lv' := [(0, va_rf (some v0)), (1, .int (v1)), (2, .int (v2)), (3, .int (v3)), (4, .int (v4)), (5, .int (v5))]) [0, 1, 2, 3, 4, 5] rfl ?_
  exact vb_Server_feed_0 hc hq v0 v1 v2 v3 v4 v5 h hw
/-! Server.bend(II)I -/
abbrev rm_Server_bend : Room := { frames := 1, cells := 0, slots := 0, locals := 24 }
def wq_Server_bend_0  (ge : Nat → Nat) (v0 : Nat) (v1 : Int32) (v2 : Int32) (h : mm_M) (Z : Int32 → mm_M → Prop) : Prop :=
  mm_k h (v0) = kd_Server ∧ ∃ a2, mm_P h v0 0 = some a2 ∧ mm_k h (a2) = kd_Bytes ∧ wq_Bytes_at ge (a2) (v1) h (fun (r6 : Int32) (h5 : mm_M) => mm_k h5 (v0) = kd_Server ∧ ∃ a8, mm_P h5 v0 0 = some a8 ∧ mm_k h5 (a8) = kd_Bytes ∧ wq_Bytes_set ge (a8) (v1) (v2) (1) h5 (fun h11 : mm_M => Z (r6) h11))
set_option maxRecDepth 100000 in
set_option maxHeartbeats 4000000 in
theorem vb_Server_bend_0 {E : mm_E} {Z : Int32 → mm_M → Prop} (hc : cx E "EpochServer" c_Server_bend 4 (some (.int)) rm_Server_bend) (hq : cq E rm_Server_bend (pI Z))  (v0 : Nat) (v1 : Int32) (v2 : Int32) (h : mm_M) (hw : wq_Server_bend_0  (mm_ge (eG E)) v0 v1 v2 h Z) : V E 4 0 0 h 0 [(0, va_rf (some v0)), (1, .int (v1)), (2, .int (v2))] [] := by
  unfold wq_Server_bend_0 at hw
  refine V_aload_n hc 0 d_Server_bend_0 rfl rfl ?_
  obtain ⟨q1, hw⟩ := hw
  refine V_get (v := va_rf (mm_P h v0 0)) hc gf_Server_14 rfl q1 rfl d_Server_bend_1 ?_
  refine V_iload_n hc 1 d_Server_bend_4 rfl rfl ?_
  obtain ⟨a2, q3, hw⟩ := hw
  obtain ⟨q4, hw⟩ := hw
  refine V_callV (rm' := rm_Bytes_at) (As := [.int (v1)]) (rest := []) (n := 1) (cn := 3) hc q3 q4 (sat_Bytes_at (eG E) _ _ _ _ hw) rfl cv_Server_108 (gw_of (tw_2 (List.mem_of_getElem? (i := 170) rfl)) rfl) ss_Bytes_at rfl ⟨by decide, by decide⟩ (by decide) (by decide) rfl (by simp [cat_rf, cat_i, cat_l]) d_Server_bend_5 (fun r0 h5 hw => ?_)
  obtain ⟨r6, rfl, hw⟩ := hw
  refine V_wide (cs' := 0) (sl' := 0) (by decide) (by decide) ?_
  refine V_st (st' := [.int (r6)]) rfl ?_
  refine V_istore_n (i := 3) (lv' := [(3, .int (r6)), (0, va_rf (some v0)), (1, .int (v1)), (2, .int (v2))]) hc d_Server_bend_8 rfl (by decide) rfl ?_
  refine V_aload_n hc 1 d_Server_bend_9 rfl rfl ?_
  obtain ⟨q7, hw⟩ := hw
  refine V_get (v := va_rf (mm_P h5 v0 0)) hc gf_Server_14 rfl q7 rfl d_Server_bend_10 ?_
  refine V_iload_n hc 2 d_Server_bend_13 rfl rfl ?_
  refine V_iload_n hc 3 d_Server_bend_14 rfl rfl ?_
  refine V_iconst (v := 1) hc d_Server_bend_15 (by decide) ?_
  obtain ⟨a8, q9, hw⟩ := hw
  obtain ⟨q10, hw⟩ := hw
  refine V_callV (rm' := rm_Bytes_set) (As := [.int (v1), .int (v2), .int (1)]) (rest := []) (n := 3) (cn := 3) hc q9 q10 (sat_Bytes_set (eG E) _ _ _ _ _ _ hw) rfl cv_Server_112 (gw_of (tw_2 (List.mem_of_getElem? (i := 174) rfl)) rfl) ss_Bytes_set rfl ⟨by decide, by decide⟩ (by decide) (by decide) rfl (by simp [cat_rf, cat_i, cat_l]) d_Server_bend_16 (fun r0 h11 hw => ?_)
  obtain ⟨rfl, hw⟩ := hw
  refine V_wide (cs' := 0) (sl' := 0) (by decide) (by decide) ?_
  refine V_st (st' := []) rfl ?_
  refine V_iload_n hc 0 d_Server_bend_19 rfl rfl ?_
  exact V_iret hc hq ⟨_, rfl, hw⟩ (by decide) (by decide) d_Server_bend_20
def wq_Server_bend (ge : Nat → Nat) (v0 : Nat) (v1 : Int32) (v2 : Int32) (h : mm_M) (Z : Int32 → mm_M → Prop) : Prop := wq_Server_bend_0 ge v0 v1 v2 h Z
theorem sat_Server_bend (G : mm_G) (v0 : Nat) (v1 : Int32) (v2 : Int32) (h : mm_M) (Z : Int32 → mm_M → Prop) (hw : wq_Server_bend (mm_ge G) v0 v1 v2 h Z) : mm_Met G y_Server_bend c_Server_bend 4 (some (.int)) rm_Server_bend [va_rf (some v0), .int (v1), .int (v2)] h (pI Z) := by
  refine mm_intro (own := "EpochServer") (by decide) rfl (by simp [lg_sl, cat_rf, cat_i, cat_l]) (fun E e1 hc hq hi => ?_)
  subst e1
  have e2 : lv_args 0 [va_rf (some v0), .int (v1), .int (v2)] = [(0, va_rf (some v0)), (1, .int (v1)), (2, .int (v2))] := by simp [lv_args, cat_rf, cat_i, cat_l]
  rw [e2]
  refine V_sub (lv' := [(0, va_rf (some v0)), (1, .int (v1)), (2, .int (v2))]) [0, 1, 2] rfl ?_
  exact vb_Server_bend_0 hc hq v0 v1 v2 h hw
/-! Server.startReply(I)V -/
abbrev rm_Server_startReply : Room := { frames := 1, cells := 0, slots := 0, locals := 24 }
def wq_Server_startReply_0  (ge : Nat → Nat) (v0 : Nat) (v1 : Int32) (h : mm_M) (Z : mm_M → Prop) : Prop :=
  mm_k h (v0) = kd_Server ∧ ∃ a2, mm_P h v0 1 = some a2 ∧ mm_k h (a2) = kd_Bytes ∧ wq_Bytes_clear ge (a2) h (fun h5 : mm_M => mm_k h5 (v0) = kd_Server ∧ ∃ a8, mm_P h5 v0 1 = some a8 ∧ mm_k h5 (a8) = kd_Bytes ∧ wq_Bytes_put ge (a8) (0) (4) h5 (fun h11 : mm_M => mm_k h11 (v0) = kd_Server ∧ ∃ a14, mm_P h11 v0 1 = some a14 ∧ mm_k h11 (a14) = kd_Bytes ∧ wq_Bytes_put ge (a14) (Int32.toInt64 (v1)) (1) h11 (fun h17 : mm_M => mm_k h17 (v0) = kd_Server ∧ ∃ a20, mm_P h17 v0 2 = some a20 ∧ mm_k h17 (a20) = kd_Request ∧ ∃ a23, mm_P h17 v0 1 = some a23 ∧ mm_k h17 (a23) = kd_Bytes ∧ wq_Bytes_put ge (a23) (Int32.toInt64 (mm_I h17 a20 6)) (2) h17 (fun h26 : mm_M => Z h26))))
set_option maxRecDepth 100000 in
set_option maxHeartbeats 4000000 in
theorem vb_Server_startReply_0 {E : mm_E} {Z : mm_M → Prop} (hc : cx E "EpochServer" c_Server_startReply 2 none rm_Server_startReply) (hq : cq E rm_Server_startReply (pV Z))  (v0 : Nat) (v1 : Int32) (h : mm_M) (hw : wq_Server_startReply_0  (mm_ge (eG E)) v0 v1 h Z) : V E 2 0 0 h 0 [(0, va_rf (some v0)), (1, .int (v1))] [] := by
  unfold wq_Server_startReply_0 at hw
  refine V_aload_n hc 0 d_Server_startReply_0 rfl rfl ?_
  obtain ⟨q1, hw⟩ := hw
  refine V_get (v := va_rf (mm_P h v0 1)) hc gf_Server_18 rfl q1 rfl d_Server_startReply_1 ?_
  obtain ⟨a2, q3, hw⟩ := hw
  obtain ⟨q4, hw⟩ := hw
  refine V_callV (rm' := rm_Bytes_clear) (As := []) (rest := []) (n := 0) (cn := 3) hc q3 q4 (sat_Bytes_clear (eG E) _ _ _ hw) rfl cv_Server_132 (gw_of (tw_2 (List.mem_of_getElem? (i := 223) rfl)) rfl) ss_Bytes_clear rfl ⟨by decide, by decide⟩ (by decide) (by decide) rfl (by simp [cat_rf, cat_i, cat_l]) d_Server_startReply_4 (fun r0 h5 hw => ?_)
  obtain ⟨rfl, hw⟩ := hw
  refine V_wide (cs' := 0) (sl' := 0) (by decide) (by decide) ?_
  refine V_st (st' := []) rfl ?_
  refine V_aload_n hc 0 d_Server_startReply_7 rfl rfl ?_
  obtain ⟨q7, hw⟩ := hw
  refine V_get (v := va_rf (mm_P h5 v0 1)) hc gf_Server_18 rfl q7 rfl d_Server_startReply_8 ?_
  refine V_lconst (v := 0) hc d_Server_startReply_11 (by decide) ?_
  refine V_iconst (v := 4) hc d_Server_startReply_12 (by decide) ?_
  obtain ⟨a8, q9, hw⟩ := hw
  obtain ⟨q10, hw⟩ := hw
  refine V_callV (rm' := rm_Bytes_put) (As := [.long (0), .int (4)]) (rest := []) (n := 2) (cn := 3) hc q9 q10 (sat_Bytes_put (eG E) _ _ _ _ _ hw) rfl cv_Server_129 (gw_of (tw_2 (List.mem_of_getElem? (i := 158) rfl)) rfl) ss_Bytes_put rfl ⟨by decide, by decide⟩ (by decide) (by decide) rfl (by simp [cat_rf, cat_i, cat_l]) d_Server_startReply_13 (fun r0 h11 hw => ?_)
  obtain ⟨rfl, hw⟩ := hw
  refine V_wide (cs' := 0) (sl' := 0) (by decide) (by decide) ?_
  refine V_st (st' := []) rfl ?_
  refine V_aload_n hc 0 d_Server_startReply_16 rfl rfl ?_
  obtain ⟨q13, hw⟩ := hw
  refine V_get (v := va_rf (mm_P h11 v0 1)) hc gf_Server_18 rfl q13 rfl d_Server_startReply_17 ?_
  refine V_iload_n hc 1 d_Server_startReply_20 rfl rfl ?_
  refine V_i2l hc d_Server_startReply_21 ?_
  refine V_iconst (v := 1) hc d_Server_startReply_22 (by decide) ?_
  obtain ⟨a14, q15, hw⟩ := hw
  obtain ⟨q16, hw⟩ := hw
  refine V_callV (rm' := rm_Bytes_put) (As := [.long (Int32.toInt64 (v1)), .int (1)]) (rest := []) (n := 2) (cn := 3) hc q15 q16 (sat_Bytes_put (eG E) _ _ _ _ _ hw) rfl cv_Server_129 (gw_of (tw_2 (List.mem_of_getElem? (i := 158) rfl)) rfl) ss_Bytes_put rfl ⟨by decide, by decide⟩ (by decide) (by decide) rfl (by simp [cat_rf, cat_i, cat_l]) d_Server_startReply_23 (fun r0 h17 hw => ?_)
  obtain ⟨rfl, hw⟩ := hw
  refine V_wide (cs' := 0) (sl' := 0) (by decide) (by decide) ?_
  refine V_st (st' := []) rfl ?_
  refine V_aload_n hc 0 d_Server_startReply_26 rfl rfl ?_
  obtain ⟨q19, hw⟩ := hw
  refine V_get (v := va_rf (mm_P h17 v0 1)) hc gf_Server_18 rfl q19 rfl d_Server_startReply_27 ?_
  refine V_aload_n hc 0 d_Server_startReply_30 rfl rfl ?_
  refine V_get (v := va_rf (mm_P h17 v0 2)) hc gf_Server_26 rfl q19 rfl d_Server_startReply_31 ?_
  obtain ⟨a20, q21, hw⟩ := hw
  obtain ⟨q22, hw⟩ := hw
  refine V_get (v := .int (mm_I h17 a20 6)) hc gf_Server_247 q21 q22 rfl d_Server_startReply_34 ?_
  refine V_i2l hc d_Server_startReply_37 ?_
  refine V_iconst (v := 2) hc d_Server_startReply_38 (by decide) ?_
  obtain ⟨a23, q24, hw⟩ := hw
  obtain ⟨q25, hw⟩ := hw
  refine V_callV (rm' := rm_Bytes_put) (As := [.long (Int32.toInt64 (mm_I h17 a20 6)), .int (2)]) (rest := []) (n := 2) (cn := 3) hc q24 q25 (sat_Bytes_put (eG E) _ _ _ _ _ hw) rfl cv_Server_129 (gw_of (tw_2 (List.mem_of_getElem? (i := 158) rfl)) rfl) ss_Bytes_put rfl ⟨by decide, by decide⟩ (by decide) (by decide) rfl (by simp [cat_rf, cat_i, cat_l]) d_Server_startReply_39 (fun r0 h26 hw => ?_)
  obtain ⟨rfl, hw⟩ := hw
  refine V_wide (cs' := 0) (sl' := 0) (by decide) (by decide) ?_
  refine V_st (st' := []) rfl ?_
  exact V_vret hc hq ⟨rfl, hw⟩ (by decide) (by decide) d_Server_startReply_42
def wq_Server_startReply (ge : Nat → Nat) (v0 : Nat) (v1 : Int32) (h : mm_M) (Z : mm_M → Prop) : Prop := wq_Server_startReply_0 ge v0 v1 h Z
theorem sat_Server_startReply (G : mm_G) (v0 : Nat) (v1 : Int32) (h : mm_M) (Z : mm_M → Prop) (hw : wq_Server_startReply (mm_ge G) v0 v1 h Z) : mm_Met G y_Server_startReply c_Server_startReply 2 none rm_Server_startReply [va_rf (some v0), .int (v1)] h (pV Z) := by
  refine mm_intro (own := "EpochServer") (by decide) rfl (by simp [lg_sl, cat_rf, cat_i, cat_l]) (fun E e1 hc hq hi => ?_)
  subst e1
  have e2 : lv_args 0 [va_rf (some v0), .int (v1)] = [(0, va_rf (some v0)), (1, .int (v1))] := by simp [lv_args, cat_rf, cat_i, cat_l]
  rw [e2]
  refine V_sub (lv' := [(0, va_rf (some v0)), (1, .int (v1))]) [0, 1] rfl ?_
  exact vb_Server_startReply_0 hc hq v0 v1 h hw
/-! Server.agreeOnVersion()I -/
abbrev rm_Server_agreeOnVersion : Room := { frames := 3, cells := 0, slots := 0, locals := 70 }
def wq_Server_agreeOnVersion_97  (ge : Nat → Nat)  (h : mm_M) (Z : Int32 → mm_M → Prop) : Prop :=
  Z (0) h
def wq_Server_agreeOnVersion_84  (ge : Nat → Nat) (v0 : Nat) (v3 : Int32) (v4 : Int32) (s0 : Option Nat) (s1 : Option Nat) (h : mm_M) (Z : Int32 → mm_M → Prop) : Prop :=
  ∃ a1, s0 = some a1 ∧ mm_k h (a1) = kd_Bytes ∧ wq_Bytes_putText ge (a1) (s1) h (fun h4 : mm_M => (((v4) = 0 → wq_Server_agreeOnVersion_97  ge h4 Z) ∧ (¬ (v4) = 0 → mm_k h4 (v0) = kd_Server ∧ ge 0 ≤ v0 ∧ ∀ h8 : mm_M, h8 = mm_uI h4 (v0) 10 (v3) → wq_Server_agreeOnVersion_97  ge h8 Z)))
def wq_Server_agreeOnVersion_0  (ge : Nat → Nat) (v0 : Nat) (h : mm_M) (Z : Int32 → mm_M → Prop) : Prop :=
  mm_k h (v0) = kd_Server ∧ ∃ a2, mm_P h v0 3 = some a2 ∧ mm_k h (a2) = kd_FidTable ∧ wq_FidTable_clear ge (a2) h (fun h5 : mm_M => mm_k h5 (v0) = kd_Server ∧ ge 0 ≤ v0 ∧ ∀ h9 : mm_M, h9 = mm_uI h5 (v0) 10 (0) → mm_k h9 (v0) = kd_Server ∧ ∃ a11, mm_P h9 v0 2 = some a11 ∧ mm_k h9 (a11) = kd_Request ∧ ((0 ≤ (lg_cmp ((Int32.toInt64 (mm_I h9 a11 8)) &&& (4294967295 : Int64)) (64)) → wq_Request_textBegins ge (a11) (some (ge 3)) h9 (fun (r15 : Int32) (h14 : mm_M) => mm_k h14 (v0) = kd_Server ∧ ∃ a17, mm_P h14 v0 1 = some a17 ∧ mm_k h14 (a17) = kd_Bytes ∧ wq_Bytes_put ge (a17) (Int32.toInt64 (Int64.toInt32 (if (1000 : Int64) < ((Int32.toInt64 (mm_I h9 a11 8)) &&& (4294967295 : Int64)) then (1000) else ((Int32.toInt64 (mm_I h9 a11 8)) &&& (4294967295 : Int64))))) (4) h14 (fun h20 : mm_M => mm_k h20 (v0) = kd_Server ∧ (((r15) = 0 → wq_Server_agreeOnVersion_84  ge (v0) (Int64.toInt32 (if (1000 : Int64) < ((Int32.toInt64 (mm_I h9 a11 8)) &&& (4294967295 : Int64)) then (1000) else ((Int32.toInt64 (mm_I h9 a11 8)) &&& (4294967295 : Int64)))) (r15) (mm_P h20 v0 1) (some (ge 4)) h20 Z) ∧ (¬ (r15) = 0 → wq_Server_agreeOnVersion_84  ge (v0) (Int64.toInt32 (if (1000 : Int64) < ((Int32.toInt64 (mm_I h9 a11 8)) &&& (4294967295 : Int64)) then (1000) else ((Int32.toInt64 (mm_I h9 a11 8)) &&& (4294967295 : Int64)))) (r15) (mm_P h20 v0 1) (some (ge 3)) h20 Z))))) ∧ (¬ 0 ≤ (lg_cmp ((Int32.toInt64 (mm_I h9 a11 8)) &&& (4294967295 : Int64)) (64)) → Z (3) h9)))
set_option maxRecDepth 100000 in
set_option maxHeartbeats 4000000 in
theorem vb_Server_agreeOnVersion_97 {E : mm_E} {Z : Int32 → mm_M → Prop} (hc : cx E "EpochServer" c_Server_agreeOnVersion 5 (some (.int)) rm_Server_agreeOnVersion) (hq : cq E rm_Server_agreeOnVersion (pI Z))   (h : mm_M) (hw : wq_Server_agreeOnVersion_97  (mm_ge (eG E))  h Z) : V E 5 0 0 h 97 [] [] := by
  unfold wq_Server_agreeOnVersion_97 at hw
  refine V_iconst (v := 0) hc d_Server_agreeOnVersion_97 (by decide) ?_
  exact V_iret hc hq ⟨_, rfl, hw⟩ (by decide) (by decide) d_Server_agreeOnVersion_98
set_option maxRecDepth 100000 in
set_option maxHeartbeats 4000000 in
theorem vb_Server_agreeOnVersion_84 {E : mm_E} {Z : Int32 → mm_M → Prop} (hc : cx E "EpochServer" c_Server_agreeOnVersion 5 (some (.int)) rm_Server_agreeOnVersion) (hq : cq E rm_Server_agreeOnVersion (pI Z))  (v0 : Nat) (v3 : Int32) (v4 : Int32) (s0 : Option Nat) (s1 : Option Nat) (h : mm_M) (hw : wq_Server_agreeOnVersion_84  (mm_ge (eG E)) v0 v3 v4 s0 s1 h Z) : V E 5 0 0 h 84 [(0, va_rf (some v0)), (3, .int (v3)), (4, .int (v4))] [va_rf (s1), va_rf (s0)] := by
  unfold wq_Server_agreeOnVersion_84 at hw
  obtain ⟨a1, q2, hw⟩ := hw
  obtain ⟨q3, hw⟩ := hw
  refine V_callV (rm' := rm_Bytes_putText) (As := [va_rf (s1)]) (rest := []) (n := 1) (cn := 3) hc q2 q3 (sat_Bytes_putText (eG E) _ _ _ _ hw) rfl cv_Server_319 (gw_of (tw_3 (List.mem_of_getElem? (i := 14) rfl)) rfl) ss_Bytes_putText rfl ⟨by decide, by decide⟩ (by decide) (by decide) rfl (by simp [cat_rf, cat_i, cat_l]) d_Server_agreeOnVersion_84 (fun r0 h4 hw => ?_)
  obtain ⟨rfl, hw⟩ := hw
  refine V_wide (cs' := 0) (sl' := 0) (by decide) (by decide) ?_
  refine V_st (st' := []) rfl ?_
  refine V_iload hc 2 d_Server_agreeOnVersion_87 rfl ?_
  refine V_if_eq (tgt := 97) hc d_Server_agreeOnVersion_89 (by decide) (fun hq1 => ?_) (fun hq1 => ?_)
  · replace hw := hw.1 hq1
    refine V_sub (lv' := []) [] rfl ?_
    exact vb_Server_agreeOnVersion_97 hc hq  _ hw
  · replace hw := hw.2 hq1
    refine V_aload_n hc 0 d_Server_agreeOnVersion_92 rfl rfl ?_
    refine V_iload_n hc 1 d_Server_agreeOnVersion_93 rfl rfl ?_
    obtain ⟨q6, hw⟩ := hw
    obtain ⟨q7, hw⟩ := hw
    obtain ⟨h8, eq_h8⟩ : ∃ x, x = mm_uI h4 (v0) 10 (v3) := ⟨_, rfl⟩
    replace hw := hw _ eq_h8
    refine V_put (h' := h8) hc gf_Server_72 rfl rfl q6 q7 (by rw [eq_h8]; exact mm_Up_I _ _ _ _) (by rw [eq_h8]; exact up_vI rfl) (vp_nar_int _) rfl d_Server_agreeOnVersion_94 ?_
    refine V_sub (lv' := []) [] rfl ?_
    exact vb_Server_agreeOnVersion_97 hc hq  _ hw
set_option maxRecDepth 100000 in
set_option maxHeartbeats 4000000 in
theorem vb_Server_agreeOnVersion_0 {E : mm_E} {Z : Int32 → mm_M → Prop} (hc : cx E "EpochServer" c_Server_agreeOnVersion 5 (some (.int)) rm_Server_agreeOnVersion) (hq : cq E rm_Server_agreeOnVersion (pI Z))  (v0 : Nat) (h : mm_M) (hw : wq_Server_agreeOnVersion_0  (mm_ge (eG E)) v0 h Z) : V E 5 0 0 h 0 [(0, va_rf (some v0))] [] := by
  unfold wq_Server_agreeOnVersion_0 at hw
  refine V_aload_n hc 0 d_Server_agreeOnVersion_0 rfl rfl ?_
  obtain ⟨q1, hw⟩ := hw
  refine V_get (v := va_rf (mm_P h v0 3)) hc gf_Server_33 rfl q1 rfl d_Server_agreeOnVersion_1 ?_
  obtain ⟨a2, q3, hw⟩ := hw
  obtain ⟨q4, hw⟩ := hw
  refine V_callV (rm' := rm_FidTable_clear) (As := []) (rest := []) (n := 0) (cn := 5) hc q3 q4 (sat_FidTable_clear (eG E) _ _ _ hw) rfl cv_Server_181 (gw_of (tw_2 (List.mem_of_getElem? (i := 236) rfl)) rfl) ss_FidTable_clear rfl ⟨by decide, by decide⟩ (by decide) (by decide) rfl (by simp [cat_rf, cat_i, cat_l]) d_Server_agreeOnVersion_4 (fun r0 h5 hw => ?_)
  obtain ⟨rfl, hw⟩ := hw
  refine V_wide (cs' := 0) (sl' := 0) (by decide) (by decide) ?_
  refine V_st (st' := []) rfl ?_
  refine V_aload_n hc 0 d_Server_agreeOnVersion_7 rfl rfl ?_
  refine V_iconst (v := 0) hc d_Server_agreeOnVersion_8 (by decide) ?_
  obtain ⟨q7, hw⟩ := hw
  obtain ⟨q8, hw⟩ := hw
  obtain ⟨h9, eq_h9⟩ : ∃ x, x = mm_uI h5 (v0) 10 (0) := ⟨_, rfl⟩
  replace hw := hw _ eq_h9
  refine V_put (h' := h9) hc gf_Server_72 rfl rfl q7 q8 (by rw [eq_h9]; exact mm_Up_I _ _ _ _) (by rw [eq_h9]; exact up_vI rfl) (vp_nar_int _) rfl d_Server_agreeOnVersion_9 ?_
  refine V_aload_n hc 0 d_Server_agreeOnVersion_12 rfl rfl ?_
  obtain ⟨q10, hw⟩ := hw
  refine V_get (v := va_rf (mm_P h9 v0 2)) hc gf_Server_26 rfl q10 rfl d_Server_agreeOnVersion_13 ?_
  obtain ⟨a11, q12, hw⟩ := hw
  obtain ⟨q13, hw⟩ := hw
  refine V_get (v := .int (mm_I h9 a11 8)) hc gf_Server_296 q12 q13 rfl d_Server_agreeOnVersion_16 ?_
  refine V_i2l hc d_Server_agreeOnVersion_19 ?_
  refine V_ldc2 (v := 4294967295) hc (gw_of (tw_2 (List.mem_of_getElem? (i := 239) rfl)) rfl) d_Server_agreeOnVersion_20 ?_
  refine V_land hc d_Server_agreeOnVersion_23 ?_
  refine V_lstore_n (i := 1) (lv' := [(1, .long ((Int32.toInt64 (mm_I h9 a11 8)) &&& (4294967295 : Int64))), (0, va_rf (some v0))]) hc d_Server_agreeOnVersion_24 rfl (by decide) rfl ?_
  refine V_lload_n hc 0 d_Server_agreeOnVersion_25 rfl rfl ?_
  refine V_ldc2 (v := 64) hc (gw_of (tw_3 (List.mem_of_getElem? (i := 0) rfl)) rfl) d_Server_agreeOnVersion_26 ?_
  refine V_lcmp hc d_Server_agreeOnVersion_29 ?_
  refine V_if_ge (tgt := 35) hc d_Server_agreeOnVersion_30 (by decide) (fun hq1 => ?_) (fun hq1 => ?_)
  · replace hw := hw.1 hq1
    refine V_lload_n hc 0 d_Server_agreeOnVersion_35 rfl rfl ?_
    refine V_ldc2 (v := 1000) hc (gw_of (tw_3 (List.mem_of_getElem? (i := 1) rfl)) rfl) d_Server_agreeOnVersion_36 ?_
    refine V_minL hc cv_Server_305 (by simp [cat_rf, cat_i, cat_l]) (by decide) (by decide) (by decide) (by decide) d_Server_agreeOnVersion_39 ?_
    refine V_l2i hc d_Server_agreeOnVersion_42 ?_
    refine V_istore_n (i := 3) (lv' := [(3, .int (Int64.toInt32 (if (1000 : Int64) < ((Int32.toInt64 (mm_I h9 a11 8)) &&& (4294967295 : Int64)) then (1000) else ((Int32.toInt64 (mm_I h9 a11 8)) &&& (4294967295 : Int64))))), (1, .long ((Int32.toInt64 (mm_I h9 a11 8)) &&& (4294967295 : Int64))), (0, va_rf (some v0))]) hc d_Server_agreeOnVersion_43 rfl (by decide) rfl ?_
    refine V_aload_n hc 2 d_Server_agreeOnVersion_44 rfl rfl ?_
    refine V_get (v := va_rf (mm_P h9 v0 2)) hc gf_Server_26 rfl q10 rfl d_Server_agreeOnVersion_45 ?_
    refine V_gets (j := 2) (r := ("EpochServer", "KNOWN_VERSION", "[B")) hc rfl (gw_of (tw_3 (List.mem_of_getElem? (i := 5) rfl)) rfl) d_Server_agreeOnVersion_48 ?_
    refine V_callV (rm' := rm_Request_textBegins) (As := [va_rf (some (mm_ge (eG E) 3))]) (rest := []) (n := 1) (cn := 8) hc q12 q13 (sat_Request_textBegins (eG E) _ _ _ _ hw) rfl cv_Server_312 (gw_of (tw_3 (List.mem_of_getElem? (i := 8) rfl)) rfl) ss_Request_textBegins rfl ⟨by decide, by decide⟩ (by decide) (by decide) rfl (by simp [cat_rf, cat_i, cat_l]) d_Server_agreeOnVersion_51 (fun r0 h14 hw => ?_)
    obtain ⟨r15, rfl, hw⟩ := hw
    refine V_wide (cs' := 0) (sl' := 0) (by decide) (by decide) ?_
    refine V_st (st' := [.int (r15)]) rfl ?_
    refine V_istore (i := 4) (lv' := [(4, .int (r15)), (3, .int (Int64.toInt32 (if (1000 : Int64) < ((Int32.toInt64 (mm_I h9 a11 8)) &&& (4294967295 : Int64)) then (1000) else ((Int32.toInt64 (mm_I h9 a11 8)) &&& (4294967295 : Int64))))), (1, .long ((Int32.toInt64 (mm_I h9 a11 8)) &&& (4294967295 : Int64))), (0, va_rf (some v0))]) hc d_Server_agreeOnVersion_54 (by decide) rfl ?_
    refine V_aload_n hc 3 d_Server_agreeOnVersion_56 rfl rfl ?_
    obtain ⟨q16, hw⟩ := hw
    refine V_get (v := va_rf (mm_P h14 v0 1)) hc gf_Server_18 rfl q16 rfl d_Server_agreeOnVersion_57 ?_
    refine V_iload_n hc 1 d_Server_agreeOnVersion_60 rfl rfl ?_
    refine V_i2l hc d_Server_agreeOnVersion_61 ?_
    refine V_iconst (v := 4) hc d_Server_agreeOnVersion_62 (by decide) ?_
    obtain ⟨a17, q18, hw⟩ := hw
    obtain ⟨q19, hw⟩ := hw
    refine V_callV (rm' := rm_Bytes_put) (As := [.long (Int32.toInt64 (Int64.toInt32 (if (1000 : Int64) < ((Int32.toInt64 (mm_I h9 a11 8)) &&& (4294967295 : Int64)) then (1000) else ((Int32.toInt64 (mm_I h9 a11 8)) &&& (4294967295 : Int64))))), .int (4)]) (rest := []) (n := 2) (cn := 3) hc q18 q19 (sat_Bytes_put (eG E) _ _ _ _ _ hw) rfl cv_Server_129 (gw_of (tw_2 (List.mem_of_getElem? (i := 158) rfl)) rfl) ss_Bytes_put rfl ⟨by decide, by decide⟩ (by decide) (by decide) rfl (by simp [cat_rf, cat_i, cat_l]) d_Server_agreeOnVersion_63 (fun r0 h20 hw => ?_)
    obtain ⟨rfl, hw⟩ := hw
    refine V_wide (cs' := 0) (sl' := 0) (by decide) (by decide) ?_
    refine V_st (st' := []) rfl ?_
    refine V_aload_n hc 3 d_Server_agreeOnVersion_66 rfl rfl ?_
    obtain ⟨q22, hw⟩ := hw
    refine V_get (v := va_rf (mm_P h20 v0 1)) hc gf_Server_18 rfl q22 rfl d_Server_agreeOnVersion_67 ?_
    refine V_iload hc 0 d_Server_agreeOnVersion_70 rfl ?_
    refine V_if_eq (tgt := 81) hc d_Server_agreeOnVersion_72 (by decide) (fun hq1 => ?_) (fun hq1 => ?_)
    · replace hw := hw.1 hq1
      refine V_gets (j := 3) (r := ("EpochServer", "UNKNOWN_VERSION", "[B")) hc rfl (gw_of (tw_3 (List.mem_of_getElem? (i := 11) rfl)) rfl) d_Server_agreeOnVersion_81 ?_
      refine V_sub (lv' := [(0, va_rf (some v0)), (3, .int (Int64.toInt32 (if (1000 : Int64) < ((Int32.toInt64 (mm_I h9 a11 8)) &&& (4294967295 : Int64)) then (1000) else ((Int32.toInt64 (mm_I h9 a11 8)) &&& (4294967295 : Int64))))), (4, .int (r15))]) [3, 1, 0] rfl ?_
      exact vb_Server_agreeOnVersion_84 hc hq  _ _ _ _ _ _ hw
    · replace hw := hw.2 hq1
      refine V_gets (j := 2) (r := ("EpochServer", "KNOWN_VERSION", "[B")) hc rfl (gw_of (tw_3 (List.mem_of_getElem? (i := 5) rfl)) rfl) d_Server_agreeOnVersion_75 ?_
      refine V_goto (tgt := 84) hc d_Server_agreeOnVersion_78 (by decide) ?_
      refine V_sub (lv' := [(0, va_rf (some v0)), (3, .int (Int64.toInt32 (if (1000 : Int64) < ((Int32.toInt64 (mm_I h9 a11 8)) &&& (4294967295 : Int64)) then (1000) else ((Int32.toInt64 (mm_I h9 a11 8)) &&& (4294967295 : Int64))))), (4, .int (r15))]) [3, 1, 0] rfl ?_
      exact vb_Server_agreeOnVersion_84 hc hq  _ _ _ _ _ _ hw
  · replace hw := hw.2 hq1
    refine V_iconst (v := 3) hc d_Server_agreeOnVersion_33 (by decide) ?_
    exact V_iret hc hq ⟨_, rfl, hw⟩ (by decide) (by decide) d_Server_agreeOnVersion_34
def wq_Server_agreeOnVersion (ge : Nat → Nat) (v0 : Nat) (h : mm_M) (Z : Int32 → mm_M → Prop) : Prop := wq_Server_agreeOnVersion_0 ge v0 h Z
theorem sat_Server_agreeOnVersion (G : mm_G) (v0 : Nat) (h : mm_M) (Z : Int32 → mm_M → Prop) (hw : wq_Server_agreeOnVersion (mm_ge G) v0 h Z) : mm_Met G y_Server_agreeOnVersion c_Server_agreeOnVersion 5 (some (.int)) rm_Server_agreeOnVersion [va_rf (some v0)] h (pI Z) := by
  refine mm_intro (own := "EpochServer") (by decide) rfl (by simp [lg_sl, cat_rf, cat_i, cat_l]) (fun E e1 hc hq hi => ?_)
  subst e1
  have e2 : lv_args 0 [va_rf (some v0)] = [(0, va_rf (some v0))] := by simp [lv_args, cat_rf, cat_i, cat_l]
  rw [e2]
  refine V_sub (lv' := [(0, va_rf (some v0))]) [0] rfl ?_
  exact vb_Server_agreeOnVersion_0 hc hq v0 h hw
