/-! Request.asksNothing()Z -/
abbrev rm_Request_asksNothing : Room := { frames := 0, cells := 0, slots := 0, locals := 0 }
def wq_Request_asksNothing_39  (ge : Nat → Nat) (s0 : Int32) (h : mm_M) (Z : Int32 → mm_M → Prop) : Prop :=
  ((s0) = 0 ∨ (s0) = 1) ∧ Z (s0) h
def wq_Request_asksNothing_38  (ge : Nat → Nat)  (h : mm_M) (Z : Int32 → mm_M → Prop) : Prop :=
  wq_Request_asksNothing_39  ge (0) h Z
def wq_Request_asksNothing_0  (ge : Nat → Nat) (v0 : Nat) (h : mm_M) (Z : Int32 → mm_M → Prop) : Prop :=
  mm_k h (v0) = kd_Request ∧ ((¬ (mm_I h v0 15) = 0 → wq_Request_asksNothing_38  ge h Z) ∧ ((mm_I h v0 15) = 0 → ((¬ (mm_I h v0 11 : Int32) = ((-1) : Int32) → wq_Request_asksNothing_38  ge h Z) ∧ ((mm_I h v0 11 : Int32) = ((-1) : Int32) → ((¬ (mm_I h v0 12 : Int32) = ((-1) : Int32) → wq_Request_asksNothing_38  ge h Z) ∧ ((mm_I h v0 12 : Int32) = ((-1) : Int32) → ((¬ (lg_cmp (mm_L h v0 13) ((-1))) = 0 → wq_Request_asksNothing_38  ge h Z) ∧ ((lg_cmp (mm_L h v0 13) ((-1))) = 0 → wq_Request_asksNothing_39  ge (1) h Z))))))))
set_option maxRecDepth 100000 in
set_option maxHeartbeats 4000000 in
theorem vb_Request_asksNothing_39 {E : mm_E} {Z : Int32 → mm_M → Prop} (hc : cx E "EpochServer$Request" c_Request_asksNothing 1 (some (.boolean)) rm_Request_asksNothing) (hq : cq E rm_Request_asksNothing (pI Z))  (s0 : Int32) (h : mm_M) (hw : wq_Request_asksNothing_39  (mm_ge (eG E)) s0 h Z) : V E 1 0 0 h 39 [] [.int (s0)] := by
  unfold wq_Request_asksNothing_39 at hw
  obtain ⟨q1, hw⟩ := hw
  exact V_zret hc hq (zz_nar q1) ⟨_, rfl, hw⟩ (by decide) (by decide) d_Request_asksNothing_39
set_option maxRecDepth 100000 in
set_option maxHeartbeats 4000000 in
theorem vb_Request_asksNothing_38 {E : mm_E} {Z : Int32 → mm_M → Prop} (hc : cx E "EpochServer$Request" c_Request_asksNothing 1 (some (.boolean)) rm_Request_asksNothing) (hq : cq E rm_Request_asksNothing (pI Z))   (h : mm_M) (hw : wq_Request_asksNothing_38  (mm_ge (eG E))  h Z) : V E 1 0 0 h 38 [] [] := by
  unfold wq_Request_asksNothing_38 at hw
  refine V_iconst (v := 0) hc d_Request_asksNothing_38 (by decide) ?_
  refine V_sub (lv' := []) [] rfl ?_
  exact vb_Request_asksNothing_39 hc hq  _ _ hw
set_option maxRecDepth 100000 in
set_option maxHeartbeats 4000000 in
theorem vb_Request_asksNothing_0 {E : mm_E} {Z : Int32 → mm_M → Prop} (hc : cx E "EpochServer$Request" c_Request_asksNothing 1 (some (.boolean)) rm_Request_asksNothing) (hq : cq E rm_Request_asksNothing (pI Z))  (v0 : Nat) (h : mm_M) (hw : wq_Request_asksNothing_0  (mm_ge (eG E)) v0 h Z) : V E 1 0 0 h 0 [(0, va_rf (some v0))] [] := by
  unfold wq_Request_asksNothing_0 at hw
  refine V_aload_n hc 0 d_Request_asksNothing_0 rfl rfl ?_
  obtain ⟨q1, hw⟩ := hw
  refine V_get (v := .int (mm_I h v0 15)) hc gf_Request_56 rfl q1 rfl d_Request_asksNothing_1 ?_
  refine V_if_ne (tgt := 38) hc d_Request_asksNothing_4 (by decide) (fun hq1 => ?_) (fun hq1 => ?_)
  · replace hw := hw.1 hq1
    refine V_sub (lv' := []) [] rfl ?_
    exact vb_Request_asksNothing_38 hc hq  _ hw
  · replace hw := hw.2 hq1
    refine V_aload_n hc 0 d_Request_asksNothing_7 rfl rfl ?_
    refine V_get (v := .int (mm_I h v0 11)) hc gf_Request_43 rfl q1 rfl d_Request_asksNothing_8 ?_
    refine V_iconst (v := (-1)) hc d_Request_asksNothing_11 (by decide) ?_
    refine V_icmp_ne (tgt := 38) hc d_Request_asksNothing_12 (by decide) (fun hq1 => ?_) (fun hq1 => ?_)
    · replace hw := hw.1 hq1
      refine V_sub (lv' := []) [] rfl ?_
      exact vb_Request_asksNothing_38 hc hq  _ hw
    · replace hw := hw.2 hq1
      refine V_aload_n hc 0 d_Request_asksNothing_15 rfl rfl ?_
      refine V_get (v := .int (mm_I h v0 12)) hc gf_Request_46 rfl q1 rfl d_Request_asksNothing_16 ?_
      refine V_iconst (v := (-1)) hc d_Request_asksNothing_19 (by decide) ?_
      refine V_icmp_ne (tgt := 38) hc d_Request_asksNothing_20 (by decide) (fun hq1 => ?_) (fun hq1 => ?_)
      · replace hw := hw.1 hq1
        refine V_sub (lv' := []) [] rfl ?_
        exact vb_Request_asksNothing_38 hc hq  _ hw
      · replace hw := hw.2 hq1
        refine V_aload_n hc 0 d_Request_asksNothing_23 rfl rfl ?_
        refine V_get (v := .long (mm_L h v0 13)) hc gf_Request_49 rfl q1 rfl d_Request_asksNothing_24 ?_
        refine V_ldc2 (v := (-1)) hc (gw_of (tw_4 (List.mem_of_getElem? (i := 20) rfl)) rfl) d_Request_asksNothing_27 ?_
        refine V_lcmp hc d_Request_asksNothing_30 ?_
        refine V_if_ne (tgt := 38) hc d_Request_asksNothing_31 (by decide) (fun hq1 => ?_) (fun hq1 => ?_)
        · replace hw := hw.1 hq1
          refine V_sub (lv' := []) [] rfl ?_
          exact vb_Request_asksNothing_38 hc hq  _ hw
        · replace hw := hw.2 hq1
          refine V_iconst (v := 1) hc d_Request_asksNothing_34 (by decide) ?_
          refine V_goto (tgt := 39) hc d_Request_asksNothing_35 (by decide) ?_
          refine V_sub (lv' := []) [] rfl ?_
          exact vb_Request_asksNothing_39 hc hq  _ _ hw
def wq_Request_asksNothing (ge : Nat → Nat) (v0 : Nat) (h : mm_M) (Z : Int32 → mm_M → Prop) : Prop := wq_Request_asksNothing_0 ge v0 h Z
theorem sat_Request_asksNothing (G : mm_G) (v0 : Nat) (h : mm_M) (Z : Int32 → mm_M → Prop) (hw : wq_Request_asksNothing (mm_ge G) v0 h Z) : mm_Met G y_Request_asksNothing c_Request_asksNothing 1 (some (.boolean)) rm_Request_asksNothing [va_rf (some v0)] h (pI Z) := by
  refine mm_intro (own := "EpochServer$Request") (by decide) rfl (by simp [lg_sl, cat_rf, cat_i, cat_l]) (fun E e1 hc hq hi => ?_)
  subst e1
  have e2 : lv_args 0 [va_rf (some v0)] = [(0, va_rf (some v0))] := by simp [lv_args, cat_rf, cat_i, cat_l]
  rw [e2]
  refine V_sub (lv' := [(0, va_rf (some v0))]) [0] rfl ?_
  exact vb_Request_asksNothing_0 hc hq v0 h hw
/-! Request.textByte(I)I -/
abbrev rm_Request_textByte : Room := { frames := 1, cells := 0, slots := 0, locals := 21 }
def wq_Request_textByte_29  (ge : Nat → Nat) (s0 : Int32) (h : mm_M) (Z : Int32 → mm_M → Prop) : Prop :=
  Z (s0) h
def wq_Request_textByte_12  (ge : Nat → Nat)  (h : mm_M) (Z : Int32 → mm_M → Prop) : Prop :=
  wq_Request_textByte_29  ge ((-1)) h Z
def wq_Request_textByte_0  (ge : Nat → Nat) (v0 : Nat) (v1 : Int32) (h : mm_M) (Z : Int32 → mm_M → Prop) : Prop :=
  (((v1) < 0 → wq_Request_textByte_12  ge h Z) ∧ (¬ (v1) < 0 → mm_k h (v0) = kd_Request ∧ (((v1 : Int32) < (mm_I h v0 15 : Int32) → ∃ a2, mm_P h v0 0 = some a2 ∧ mm_k h (a2) = kd_Bytes ∧ wq_Bytes_at ge (a2) ((mm_I h v0 14) + (v1)) h (fun (r6 : Int32) (h5 : mm_M) => wq_Request_textByte_29  ge (r6) h5 Z)) ∧ (¬ (v1 : Int32) < (mm_I h v0 15 : Int32) → wq_Request_textByte_12  ge h Z))))
set_option maxRecDepth 100000 in
set_option maxHeartbeats 4000000 in
theorem vb_Request_textByte_29 {E : mm_E} {Z : Int32 → mm_M → Prop} (hc : cx E "EpochServer$Request" c_Request_textByte 2 (some (.int)) rm_Request_textByte) (hq : cq E rm_Request_textByte (pI Z))  (s0 : Int32) (h : mm_M) (hw : wq_Request_textByte_29  (mm_ge (eG E)) s0 h Z) : V E 2 0 0 h 29 [] [.int (s0)] := by
  unfold wq_Request_textByte_29 at hw
  exact V_iret hc hq ⟨_, rfl, hw⟩ (by decide) (by decide) d_Request_textByte_29
set_option maxRecDepth 100000 in
set_option maxHeartbeats 4000000 in
theorem vb_Request_textByte_12 {E : mm_E} {Z : Int32 → mm_M → Prop} (hc : cx E "EpochServer$Request" c_Request_textByte 2 (some (.int)) rm_Request_textByte) (hq : cq E rm_Request_textByte (pI Z))   (h : mm_M) (hw : wq_Request_textByte_12  (mm_ge (eG E))  h Z) : V E 2 0 0 h 12 [] [] := by
  unfold wq_Request_textByte_12 at hw
  refine V_iconst (v := (-1)) hc d_Request_textByte_12 (by decide) ?_
  refine V_goto (tgt := 29) hc d_Request_textByte_13 (by decide) ?_
  refine V_sub (lv' := []) [] rfl ?_
  exact vb_Request_textByte_29 hc hq  _ _ hw
set_option maxRecDepth 100000 in
set_option maxHeartbeats 4000000 in
theorem vb_Request_textByte_0 {E : mm_E} {Z : Int32 → mm_M → Prop} (hc : cx E "EpochServer$Request" c_Request_textByte 2 (some (.int)) rm_Request_textByte) (hq : cq E rm_Request_textByte (pI Z))  (v0 : Nat) (v1 : Int32) (h : mm_M) (hw : wq_Request_textByte_0  (mm_ge (eG E)) v0 v1 h Z) : V E 2 0 0 h 0 [(0, va_rf (some v0)), (1, .int (v1))] [] := by
  unfold wq_Request_textByte_0 at hw
  refine V_iload_n hc 1 d_Request_textByte_0 rfl rfl ?_
  refine V_if_lt (tgt := 12) hc d_Request_textByte_1 (by decide) (fun hq1 => ?_) (fun hq1 => ?_)
  · replace hw := hw.1 hq1
    refine V_sub (lv' := []) [] rfl ?_
    exact vb_Request_textByte_12 hc hq  _ hw
  · replace hw := hw.2 hq1
    refine V_iload_n hc 1 d_Request_textByte_4 rfl rfl ?_
    refine V_aload_n hc 0 d_Request_textByte_5 rfl rfl ?_
    obtain ⟨q1, hw⟩ := hw
    refine V_get (v := .int (mm_I h v0 15)) hc gf_Request_56 rfl q1 rfl d_Request_textByte_6 ?_
    refine V_icmp_lt (tgt := 16) hc d_Request_textByte_9 (by decide) (fun hq1 => ?_) (fun hq1 => ?_)
    · replace hw := hw.1 hq1
      refine V_aload_n hc 0 d_Request_textByte_16 rfl rfl ?_
      refine V_get (v := va_rf (mm_P h v0 0)) hc gf_Request_62 rfl q1 rfl d_Request_textByte_17 ?_
      refine V_aload_n hc 0 d_Request_textByte_20 rfl rfl ?_
      refine V_get (v := .int (mm_I h v0 14)) hc gf_Request_53 rfl q1 rfl d_Request_textByte_21 ?_
      refine V_iload_n hc 1 d_Request_textByte_24 rfl rfl ?_
      refine V_iadd hc d_Request_textByte_25 ?_
      obtain ⟨a2, q3, hw⟩ := hw
      obtain ⟨q4, hw⟩ := hw
      refine V_callV (rm' := rm_Bytes_at) (As := [.int ((mm_I h v0 14) + (v1))]) (rest := []) (n := 1) (cn := 3) hc q3 q4 (sat_Bytes_at (eG E) _ _ _ _ hw) rfl cv_Request_90 (gw_of (tw_2 (List.mem_of_getElem? (i := 170) rfl)) rfl) ss_Bytes_at rfl ⟨by decide, by decide⟩ (by decide) (by decide) rfl (by simp [cat_rf, cat_i, cat_l]) d_Request_textByte_26 (fun r0 h5 hw => ?_)
      obtain ⟨r6, rfl, hw⟩ := hw
      refine V_wide (cs' := 0) (sl' := 0) (by decide) (by decide) ?_
      refine V_st (st' := [.int (r6)]) rfl ?_
      refine V_sub (lv' := []) [] rfl ?_
      exact vb_Request_textByte_29 hc hq  _ _ hw
    · replace hw := hw.2 hq1
      refine V_sub (lv' := []) [] rfl ?_
      exact vb_Request_textByte_12 hc hq  _ hw
def wq_Request_textByte (ge : Nat → Nat) (v0 : Nat) (v1 : Int32) (h : mm_M) (Z : Int32 → mm_M → Prop) : Prop := wq_Request_textByte_0 ge v0 v1 h Z
theorem sat_Request_textByte (G : mm_G) (v0 : Nat) (v1 : Int32) (h : mm_M) (Z : Int32 → mm_M → Prop) (hw : wq_Request_textByte (mm_ge G) v0 v1 h Z) : mm_Met G y_Request_textByte c_Request_textByte 2 (some (.int)) rm_Request_textByte [va_rf (some v0), .int (v1)] h (pI Z) := by
  refine mm_intro (own := "EpochServer$Request") (by decide) rfl (by simp [lg_sl, cat_rf, cat_i, cat_l]) (fun E e1 hc hq hi => ?_)
  subst e1
  have e2 : lv_args 0 [va_rf (some v0), .int (v1)] = [(0, va_rf (some v0)), (1, .int (v1))] := by simp [lv_args, cat_rf, cat_i, cat_l]
  rw [e2]
  refine V_sub (lv' := [(0, va_rf (some v0)), (1, .int (v1))]) [0, 1] rfl ?_
  exact vb_Request_textByte_0 hc hq v0 v1 h hw
/-! Request.textBegins([B)Z -/
abbrev rm_Request_textBegins : Room := { frames := 1, cells := 0, slots := 0, locals := 21 }
def wq_Request_textBegins_39  (ge : Nat → Nat)  (h : mm_M) (Z : Int32 → mm_M → Prop) : Prop :=
  Z (0) h
def wq_Request_textBegins_2 (X2 : Nat → Option Nat → Int32 → mm_M → Prop) (ge : Nat → Nat) (v0 : Nat) (v1 : Option Nat) (v2 : Int32) (h : mm_M) (Z : Int32 → mm_M → Prop) : Prop :=
  ∃ a1, v1 = some a1 ∧ mm_k h (a1) = ka_B ∧ (((Nat.toInt32 (mm_n h a1) : Int32) ≤ (v2 : Int32) → Z (1) h) ∧ (¬ (Nat.toInt32 (mm_n h a1) : Int32) ≤ (v2 : Int32) → mm_k h (v0) = kd_Request ∧ (((mm_I h v0 15 : Int32) ≤ (v2 : Int32) → wq_Request_textBegins_39  ge h Z) ∧ (¬ (mm_I h v0 15 : Int32) ≤ (v2 : Int32) → ∃ a5, mm_P h v0 0 = some a5 ∧ mm_k h (a5) = kd_Bytes ∧ wq_Bytes_at ge (a5) ((mm_I h v0 14) + (v2)) h (fun (r9 : Int32) (h8 : mm_M) => ∃ a10, v1 = some a10 ∧ mm_k h8 (a10) = ka_B ∧ vp_in (v2) (mm_n h8 a10) ∧ (((r9 : Int32) = ((mm_I h8 a10 (Int32.toNatClampNeg (v2))) &&& (255 : Int32) : Int32) → X2 (v0) (v1) (v2 + 1) h8) ∧ (¬ (r9 : Int32) = ((mm_I h8 a10 (Int32.toNatClampNeg (v2))) &&& (255 : Int32) : Int32) → wq_Request_textBegins_39  ge h8 Z)))))))
def lp_Request_textBegins_2  (ge : Nat → Nat) (v0 : Nat) (v1 : Option Nat) (v2 : Int32) (h : mm_M) (Z : Int32 → mm_M → Prop) : Prop :=
  ∀ X2 : Nat → Option Nat → Int32 → mm_M → Prop, (∀ (v0 : Nat) (v1 : Option Nat) (v2 : Int32) (h : mm_M), wq_Request_textBegins_2 X2 ge v0 v1 v2 h Z → X2 v0 v1 v2 h) → X2 v0 v1 v2 h
def wq_Request_textBegins_0  (ge : Nat → Nat) (v0 : Nat) (v1 : Option Nat) (h : mm_M) (Z : Int32 → mm_M → Prop) : Prop :=
  lp_Request_textBegins_2  ge (v0) (v1) (0) h Z
set_option maxRecDepth 100000 in
set_option maxHeartbeats 4000000 in
theorem vb_Request_textBegins_39 {E : mm_E} {Z : Int32 → mm_M → Prop} (hc : cx E "EpochServer$Request" c_Request_textBegins 3 (some (.boolean)) rm_Request_textBegins) (hq : cq E rm_Request_textBegins (pI Z))   (h : mm_M) (hw : wq_Request_textBegins_39  (mm_ge (eG E))  h Z) : V E 3 0 0 h 39 [] [] := by
  unfold wq_Request_textBegins_39 at hw
  refine V_iconst (v := 0) hc d_Request_textBegins_39 (by decide) ?_
  exact V_zret hc hq (by decide) ⟨_, rfl, hw⟩ (by decide) (by decide) d_Request_textBegins_40
set_option maxRecDepth 100000 in
set_option maxHeartbeats 4000000 in
theorem vb_Request_textBegins_2 {E : mm_E} {Z : Int32 → mm_M → Prop} (hc : cx E "EpochServer$Request" c_Request_textBegins 3 (some (.boolean)) rm_Request_textBegins) (hq : cq E rm_Request_textBegins (pI Z)) (X2 : Nat → Option Nat → Int32 → mm_M → Prop) (hX2 : ∀ (v0 : Nat) (v1 : Option Nat) (v2 : Int32) (h : mm_M), X2 v0 v1 v2 h → V E 3 0 0 h 2 [(0, va_rf (some v0)), (1, va_rf (v1)), (2, .int (v2))] []) (v0 : Nat) (v1 : Option Nat) (v2 : Int32) (h : mm_M) (hw : wq_Request_textBegins_2 X2 (mm_ge (eG E)) v0 v1 v2 h Z) : V E 3 0 0 h 2 [(0, va_rf (some v0)), (1, va_rf (v1)), (2, .int (v2))] [] := by
  unfold wq_Request_textBegins_2 at hw
  refine V_iload_n hc 2 d_Request_textBegins_2 rfl rfl ?_
  refine V_aload_n hc 1 d_Request_textBegins_3 rfl rfl ?_
  obtain ⟨a1, q2, hw⟩ := hw
  obtain ⟨q3, hw⟩ := hw
  refine V_alen (t := 1) (ty := .byte) hc rfl q2 q3 d_Request_textBegins_4 ?_
  refine V_icmp_ge (tgt := 47) hc d_Request_textBegins_5 (by decide) (fun hq1 => ?_) (fun hq1 => ?_)
  · replace hw := hw.1 hq1
    refine V_iconst (v := 1) hc d_Request_textBegins_47 (by decide) ?_
    exact V_zret hc hq (by decide) ⟨_, rfl, hw⟩ (by decide) (by decide) d_Request_textBegins_48
  · replace hw := hw.2 hq1
    refine V_iload_n hc 2 d_Request_textBegins_8 rfl rfl ?_
    refine V_aload_n hc 0 d_Request_textBegins_9 rfl rfl ?_
    obtain ⟨q4, hw⟩ := hw
    refine V_get (v := .int (mm_I h v0 15)) hc gf_Request_56 rfl q4 rfl d_Request_textBegins_10 ?_
    refine V_icmp_ge (tgt := 39) hc d_Request_textBegins_13 (by decide) (fun hq1 => ?_) (fun hq1 => ?_)
    · replace hw := hw.1 hq1
      refine V_sub (lv' := []) [] rfl ?_
      exact vb_Request_textBegins_39 hc hq  _ hw
    · replace hw := hw.2 hq1
      refine V_aload_n hc 0 d_Request_textBegins_16 rfl rfl ?_
      refine V_get (v := va_rf (mm_P h v0 0)) hc gf_Request_62 rfl q4 rfl d_Request_textBegins_17 ?_
      refine V_aload_n hc 0 d_Request_textBegins_20 rfl rfl ?_
      refine V_get (v := .int (mm_I h v0 14)) hc gf_Request_53 rfl q4 rfl d_Request_textBegins_21 ?_
      refine V_iload_n hc 2 d_Request_textBegins_24 rfl rfl ?_
      refine V_iadd hc d_Request_textBegins_25 ?_
      obtain ⟨a5, q6, hw⟩ := hw
      obtain ⟨q7, hw⟩ := hw
      refine V_callV (rm' := rm_Bytes_at) (As := [.int ((mm_I h v0 14) + (v2))]) (rest := []) (n := 1) (cn := 3) hc q6 q7 (sat_Bytes_at (eG E) _ _ _ _ hw) rfl cv_Request_90 (gw_of (tw_2 (List.mem_of_getElem? (i := 170) rfl)) rfl) ss_Bytes_at rfl ⟨by decide, by decide⟩ (by decide) (by decide) rfl (by simp [cat_rf, cat_i, cat_l]) d_Request_textBegins_26 (fun r0 h8 hw => ?_)
      obtain ⟨r9, rfl, hw⟩ := hw
      refine V_wide (cs' := 0) (sl' := 0) (by decide) (by decide) ?_
      refine V_st (st' := [.int (r9)]) rfl ?_
      refine V_aload_n hc 1 d_Request_textBegins_29 rfl rfl ?_
      refine V_iload_n hc 2 d_Request_textBegins_30 rfl rfl ?_
      obtain ⟨a10, q11, hw⟩ := hw
      obtain ⟨q12, hw⟩ := hw
      obtain ⟨q13, hw⟩ := hw
      refine V_bald hc q11 q12 q13 d_Request_textBegins_31 ?_
      refine V_sipush (v := 255) hc d_Request_textBegins_32 (by decide) ?_
      refine V_iand hc d_Request_textBegins_35 ?_
      refine V_icmp_eq (tgt := 41) hc d_Request_textBegins_36 (by decide) (fun hq1 => ?_) (fun hq1 => ?_)
      · replace hw := hw.1 hq1
        refine V_iinc (v := v2 + 1) (lv' := [(2, .int (v2 + 1)), (0, va_rf (some v0)), (1, va_rf (v1))]) hc 2 d_Request_textBegins_41 rfl rfl (by decide) (by simp [cat_rf, cat_i, cat_l]) ?_
        refine V_goto (tgt := 2) hc d_Request_textBegins_44 (by decide) ?_
        refine V_sub (lv' := [(0, va_rf (some v0)), (1, va_rf (v1)), (2, .int (v2 + 1))]) [1, 2, 0] rfl ?_
        exact hX2 _ _ _ _ hw
      · replace hw := hw.2 hq1
        refine V_sub (lv' := []) [] rfl ?_
        exact vb_Request_textBegins_39 hc hq  _ hw
theorem vl_Request_textBegins_2 {E : mm_E} {Z : Int32 → mm_M → Prop} (hc : cx E "EpochServer$Request" c_Request_textBegins 3 (some (.boolean)) rm_Request_textBegins) (hq : cq E rm_Request_textBegins (pI Z))  (v0 : Nat) (v1 : Option Nat) (v2 : Int32) (h : mm_M) (hw : lp_Request_textBegins_2  (mm_ge (eG E)) v0 v1 v2 h Z) : V E 3 0 0 h 2 [(0, va_rf (some v0)), (1, va_rf (v1)), (2, .int (v2))] [] :=
  hw (fun v0 v1 v2 h => V E 3 0 0 h 2 [(0, va_rf (some v0)), (1, va_rf (v1)), (2, .int (v2))] []) (fun v0 v1 v2 h hb => vb_Request_textBegins_2 hc hq  _ (fun _ _ _ _ q => q) v0 v1 v2 h hb)
set_option maxRecDepth 100000 in
set_option maxHeartbeats 4000000 in
theorem vb_Request_textBegins_0 {E : mm_E} {Z : Int32 → mm_M → Prop} (hc : cx E "EpochServer$Request" c_Request_textBegins 3 (some (.boolean)) rm_Request_textBegins) (hq : cq E rm_Request_textBegins (pI Z))  (v0 : Nat) (v1 : Option Nat) (h : mm_M) (hw : wq_Request_textBegins_0  (mm_ge (eG E)) v0 v1 h Z) : V E 3 0 0 h 0 [(0, va_rf (some v0)), (1, va_rf (v1))] [] := by
  unfold wq_Request_textBegins_0 at hw
  refine V_iconst (v := 0) hc d_Request_textBegins_0 (by decide) ?_
  refine V_istore_n (i := 2) (lv' := [(2, .int (0)), (0, va_rf (some v0)), (1, va_rf (v1))]) hc d_Request_textBegins_1 rfl (by decide) (by simp [cat_rf, cat_i, cat_l]) ?_
  refine V_sub (lv' := [(0, va_rf (some v0)), (1, va_rf (v1)), (2, .int (0))]) [1, 2, 0] rfl ?_
  exact vl_Request_textBegins_2 hc hq  _ _ _ _ hw
def wq_Request_textBegins (ge : Nat → Nat) (v0 : Nat) (v1 : Option Nat) (h : mm_M) (Z : Int32 → mm_M → Prop) : Prop := wq_Request_textBegins_0 ge v0 v1 h Z
theorem sat_Request_textBegins (G : mm_G) (v0 : Nat) (v1 : Option Nat) (h : mm_M) (Z : Int32 → mm_M → Prop) (hw : wq_Request_textBegins (mm_ge G) v0 v1 h Z) : mm_Met G y_Request_textBegins c_Request_textBegins 3 (some (.boolean)) rm_Request_textBegins [va_rf (some v0), va_rf (v1)] h (pI Z) := by
  refine mm_intro (own := "EpochServer$Request") (by decide) rfl (by simp [lg_sl, cat_rf, cat_i, cat_l]) (fun E e1 hc hq hi => ?_)
  subst e1
  have e2 : lv_args 0 [va_rf (some v0), va_rf (v1)] = [(0, va_rf (some v0)), (1, va_rf (v1))] := by simp [lv_args, cat_rf, cat_i, cat_l]
  rw [e2]
  refine V_sub (lv' := [(0, va_rf (some v0)), (1, va_rf (v1))]) [0, 1] rfl ?_
  exact vb_Request_textBegins_0 hc hq v0 v1 h hw
/-! Request.textIsDotDot()Z -/
abbrev rm_Request_textIsDotDot : Room := { frames := 2, cells := 0, slots := 0, locals := 42 }
def wq_Request_textIsDotDot_33  (ge : Nat → Nat) (s0 : Int32) (h : mm_M) (Z : Int32 → mm_M → Prop) : Prop :=
  ((s0) = 0 ∨ (s0) = 1) ∧ Z (s0) h
def wq_Request_textIsDotDot_32  (ge : Nat → Nat)  (h : mm_M) (Z : Int32 → mm_M → Prop) : Prop :=
  wq_Request_textIsDotDot_33  ge (0) h Z
def wq_Request_textIsDotDot_0  (ge : Nat → Nat) (v0 : Nat) (h : mm_M) (Z : Int32 → mm_M → Prop) : Prop :=
  mm_k h (v0) = kd_Request ∧ ((¬ (mm_I h v0 15 : Int32) = (2 : Int32) → wq_Request_textIsDotDot_32  ge h Z) ∧ ((mm_I h v0 15 : Int32) = (2 : Int32) → wq_Request_textByte ge (v0) (0) h (fun (r3 : Int32) (h2 : mm_M) => ((¬ (r3 : Int32) = (46 : Int32) → wq_Request_textIsDotDot_32  ge h2 Z) ∧ ((r3 : Int32) = (46 : Int32) → mm_k h2 (v0) = kd_Request ∧ wq_Request_textByte ge (v0) (1) h2 (fun (r6 : Int32) (h5 : mm_M) => ((¬ (r6 : Int32) = (46 : Int32) → wq_Request_textIsDotDot_32  ge h5 Z) ∧ ((r6 : Int32) = (46 : Int32) → wq_Request_textIsDotDot_33  ge (1) h5 Z))))))))
set_option maxRecDepth 100000 in
set_option maxHeartbeats 4000000 in
theorem vb_Request_textIsDotDot_33 {E : mm_E} {Z : Int32 → mm_M → Prop} (hc : cx E "EpochServer$Request" c_Request_textIsDotDot 1 (some (.boolean)) rm_Request_textIsDotDot) (hq : cq E rm_Request_textIsDotDot (pI Z))  (s0 : Int32) (h : mm_M) (hw : wq_Request_textIsDotDot_33  (mm_ge (eG E)) s0 h Z) : V E 1 0 0 h 33 [] [.int (s0)] := by
  unfold wq_Request_textIsDotDot_33 at hw
  obtain ⟨q1, hw⟩ := hw
  exact V_zret hc hq (zz_nar q1) ⟨_, rfl, hw⟩ (by decide) (by decide) d_Request_textIsDotDot_33
set_option maxRecDepth 100000 in
set_option maxHeartbeats 4000000 in
theorem vb_Request_textIsDotDot_32 {E : mm_E} {Z : Int32 → mm_M → Prop} (hc : cx E "EpochServer$Request" c_Request_textIsDotDot 1 (some (.boolean)) rm_Request_textIsDotDot) (hq : cq E rm_Request_textIsDotDot (pI Z))   (h : mm_M) (hw : wq_Request_textIsDotDot_32  (mm_ge (eG E))  h Z) : V E 1 0 0 h 32 [] [] := by
  unfold wq_Request_textIsDotDot_32 at hw
  refine V_iconst (v := 0) hc d_Request_textIsDotDot_32 (by decide) ?_
  refine V_sub (lv' := []) [] rfl ?_
  exact vb_Request_textIsDotDot_33 hc hq  _ _ hw
set_option maxRecDepth 100000 in
set_option maxHeartbeats 4000000 in
theorem vb_Request_textIsDotDot_0 {E : mm_E} {Z : Int32 → mm_M → Prop} (hc : cx E "EpochServer$Request" c_Request_textIsDotDot 1 (some (.boolean)) rm_Request_textIsDotDot) (hq : cq E rm_Request_textIsDotDot (pI Z))  (v0 : Nat) (h : mm_M) (hw : wq_Request_textIsDotDot_0  (mm_ge (eG E)) v0 h Z) : V E 1 0 0 h 0 [(0, va_rf (some v0))] [] := by
  unfold wq_Request_textIsDotDot_0 at hw
  refine V_aload_n hc 0 d_Request_textIsDotDot_0 rfl rfl ?_
  obtain ⟨q1, hw⟩ := hw
  refine V_get (v := .int (mm_I h v0 15)) hc gf_Request_56 rfl q1 rfl d_Request_textIsDotDot_1 ?_
  refine V_iconst (v := 2) hc d_Request_textIsDotDot_4 (by decide) ?_
  refine V_icmp_ne (tgt := 32) hc d_Request_textIsDotDot_5 (by decide) (fun hq1 => ?_) (fun hq1 => ?_)
  · replace hw := hw.1 hq1
    refine V_sub (lv' := []) [] rfl ?_
    exact vb_Request_textIsDotDot_32 hc hq  _ hw
  · replace hw := hw.2 hq1
    refine V_aload_n hc 0 d_Request_textIsDotDot_8 rfl rfl ?_
    refine V_iconst (v := 0) hc d_Request_textIsDotDot_9 (by decide) ?_
    refine V_callV (rm' := rm_Request_textByte) (As := [.int (0)]) (rest := []) (n := 1) (cn := 8) hc rfl q1 (sat_Request_textByte (eG E) _ _ _ _ hw) rfl cv_Request_100 (gw_of (tw_3 (List.mem_of_getElem? (i := 35) rfl)) rfl) ss_Request_textByte rfl ⟨by decide, by decide⟩ (by decide) (by decide) rfl (by simp [cat_rf, cat_i, cat_l]) d_Request_textIsDotDot_10 (fun r0 h2 hw => ?_)
    obtain ⟨r3, rfl, hw⟩ := hw
    refine V_wide (cs' := 0) (sl' := 0) (by decide) (by decide) ?_
    refine V_st (st' := [.int (r3)]) rfl ?_
    refine V_bipush (v := 46) hc d_Request_textIsDotDot_13 (by decide) ?_
    refine V_icmp_ne (tgt := 32) hc d_Request_textIsDotDot_15 (by decide) (fun hq1 => ?_) (fun hq1 => ?_)
    · replace hw := hw.1 hq1
      refine V_sub (lv' := []) [] rfl ?_
      exact vb_Request_textIsDotDot_32 hc hq  _ hw
    · replace hw := hw.2 hq1
      refine V_aload_n hc 0 d_Request_textIsDotDot_18 rfl rfl ?_
      refine V_iconst (v := 1) hc d_Request_textIsDotDot_19 (by decide) ?_
      obtain ⟨q4, hw⟩ := hw
      refine V_callV (rm' := rm_Request_textByte) (As := [.int (1)]) (rest := []) (n := 1) (cn := 8) hc rfl q4 (sat_Request_textByte (eG E) _ _ _ _ hw) rfl cv_Request_100 (gw_of (tw_3 (List.mem_of_getElem? (i := 35) rfl)) rfl) ss_Request_textByte rfl ⟨by decide, by decide⟩ (by decide) (by decide) rfl (by simp [cat_rf, cat_i, cat_l]) d_Request_textIsDotDot_20 (fun r0 h5 hw => ?_)
      obtain ⟨r6, rfl, hw⟩ := hw
      refine V_wide (cs' := 0) (sl' := 0) (by decide) (by decide) ?_
      refine V_st (st' := [.int (r6)]) rfl ?_
      refine V_bipush (v := 46) hc d_Request_textIsDotDot_23 (by decide) ?_
      refine V_icmp_ne (tgt := 32) hc d_Request_textIsDotDot_25 (by decide) (fun hq1 => ?_) (fun hq1 => ?_)
      · replace hw := hw.1 hq1
        refine V_sub (lv' := []) [] rfl ?_
        exact vb_Request_textIsDotDot_32 hc hq  _ hw
      · replace hw := hw.2 hq1
        refine V_iconst (v := 1) hc d_Request_textIsDotDot_28 (by decide) ?_
        refine V_goto (tgt := 33) hc d_Request_textIsDotDot_29 (by decide) ?_
        refine V_sub (lv' := []) [] rfl ?_
        exact vb_Request_textIsDotDot_33 hc hq  _ _ hw
def wq_Request_textIsDotDot (ge : Nat → Nat) (v0 : Nat) (h : mm_M) (Z : Int32 → mm_M → Prop) : Prop := wq_Request_textIsDotDot_0 ge v0 h Z
theorem sat_Request_textIsDotDot (G : mm_G) (v0 : Nat) (h : mm_M) (Z : Int32 → mm_M → Prop) (hw : wq_Request_textIsDotDot (mm_ge G) v0 h Z) : mm_Met G y_Request_textIsDotDot c_Request_textIsDotDot 1 (some (.boolean)) rm_Request_textIsDotDot [va_rf (some v0)] h (pI Z) := by
  refine mm_intro (own := "EpochServer$Request") (by decide) rfl (by simp [lg_sl, cat_rf, cat_i, cat_l]) (fun E e1 hc hq hi => ?_)
  subst e1
  have e2 : lv_args 0 [va_rf (some v0)] = [(0, va_rf (some v0))] := by simp [lv_args, cat_rf, cat_i, cat_l]
  rw [e2]
  refine V_sub (lv' := [(0, va_rf (some v0))]) [0] rfl ?_
  exact vb_Request_textIsDotDot_0 hc hq v0 h hw
/-! Request.textMayBeName()Z -/
abbrev rm_Request_textMayBeName : Room := { frames := 2, cells := 0, slots := 0, locals := 42 }
def wq_Request_textMayBeName_17  (ge : Nat → Nat)  (h : mm_M) (Z : Int32 → mm_M → Prop) : Prop :=
  Z (0) h
def wq_Request_textMayBeName_90  (ge : Nat → Nat) (s0 : Int32) (h : mm_M) (Z : Int32 → mm_M → Prop) : Prop :=
  ((s0) = 0 ∨ (s0) = 1) ∧ Z (s0) h
def wq_Request_textMayBeName_85  (ge : Nat → Nat)  (h : mm_M) (Z : Int32 → mm_M → Prop) : Prop :=
  wq_Request_textMayBeName_90  ge (1) h Z
def wq_Request_textMayBeName_47  (ge : Nat → Nat)  (h : mm_M) (Z : Int32 → mm_M → Prop) : Prop :=
  Z (0) h
def wq_Request_textMayBeName_61 (X23 : Nat → Int32 → Int32 → mm_M → Prop) (ge : Nat → Nat) (v0 : Nat) (v2 : Int32) (s0 : Int32) (s1 : Int32) (h : mm_M) (Z : Int32 → mm_M → Prop) : Prop :=
  X23 (v0) ((s0) + (s1)) (v2 + 1) h
def wq_Request_textMayBeName_23 (X23 : Nat → Int32 → Int32 → mm_M → Prop) (ge : Nat → Nat) (v0 : Nat) (v1 : Int32) (v2 : Int32) (h : mm_M) (Z : Int32 → mm_M → Prop) : Prop :=
  mm_k h (v0) = kd_Request ∧ (((mm_I h v0 15 : Int32) ≤ (v2 : Int32) → (((2 : Int32) < (mm_I h v0 15 : Int32) → wq_Request_textMayBeName_85  ge h Z) ∧ (¬ (2 : Int32) < (mm_I h v0 15 : Int32) → (((mm_I h v0 15 : Int32) ≤ (v1 : Int32) → wq_Request_textMayBeName_90  ge (0) h Z) ∧ (¬ (mm_I h v0 15 : Int32) ≤ (v1 : Int32) → wq_Request_textMayBeName_85  ge h Z))))) ∧ (¬ (mm_I h v0 15 : Int32) ≤ (v2 : Int32) → wq_Request_textByte ge (v0) (v2) h (fun (r3 : Int32) (h2 : mm_M) => (((r3) = 0 → wq_Request_textMayBeName_47  ge h2 Z) ∧ (¬ (r3) = 0 → ((¬ (r3 : Int32) = (47 : Int32) → ((¬ (r3 : Int32) = (46 : Int32) → wq_Request_textMayBeName_61 X23 ge (v0) (v2) (v1) (0) h2 Z) ∧ ((r3 : Int32) = (46 : Int32) → wq_Request_textMayBeName_61 X23 ge (v0) (v2) (v1) (1) h2 Z))) ∧ ((r3 : Int32) = (47 : Int32) → wq_Request_textMayBeName_47  ge h2 Z)))))))
def lp_Request_textMayBeName_23  (ge : Nat → Nat) (v0 : Nat) (v1 : Int32) (v2 : Int32) (h : mm_M) (Z : Int32 → mm_M → Prop) : Prop :=
  ∀ X23 : Nat → Int32 → Int32 → mm_M → Prop, (∀ (v0 : Nat) (v1 : Int32) (v2 : Int32) (h : mm_M), wq_Request_textMayBeName_23 X23 ge v0 v1 v2 h Z → X23 v0 v1 v2 h) → X23 v0 v1 v2 h
def wq_Request_textMayBeName_0  (ge : Nat → Nat) (v0 : Nat) (h : mm_M) (Z : Int32 → mm_M → Prop) : Prop :=
  mm_k h (v0) = kd_Request ∧ (((mm_I h v0 15 : Int32) < (1 : Int32) → wq_Request_textMayBeName_17  ge h Z) ∧ (¬ (mm_I h v0 15 : Int32) < (1 : Int32) → (((mm_I h v0 15 : Int32) ≤ (20 : Int32) → lp_Request_textMayBeName_23  ge (v0) (0) (0) h Z) ∧ (¬ (mm_I h v0 15 : Int32) ≤ (20 : Int32) → wq_Request_textMayBeName_17  ge h Z))))
set_option maxRecDepth 100000 in
set_option maxHeartbeats 4000000 in
theorem vb_Request_textMayBeName_17 {E : mm_E} {Z : Int32 → mm_M → Prop} (hc : cx E "EpochServer$Request" c_Request_textMayBeName 4 (some (.boolean)) rm_Request_textMayBeName) (hq : cq E rm_Request_textMayBeName (pI Z))   (h : mm_M) (hw : wq_Request_textMayBeName_17  (mm_ge (eG E))  h Z) : V E 4 0 0 h 17 [] [] := by
  unfold wq_Request_textMayBeName_17 at hw
  refine V_iconst (v := 0) hc d_Request_textMayBeName_17 (by decide) ?_
  exact V_zret hc hq (by decide) ⟨_, rfl, hw⟩ (by decide) (by decide) d_Request_textMayBeName_18
set_option maxRecDepth 100000 in
set_option maxHeartbeats 4000000 in
theorem vb_Request_textMayBeName_90 {E : mm_E} {Z : Int32 → mm_M → Prop} (hc : cx E "EpochServer$Request" c_Request_textMayBeName 4 (some (.boolean)) rm_Request_textMayBeName) (hq : cq E rm_Request_textMayBeName (pI Z))  (s0 : Int32) (h : mm_M) (hw : wq_Request_textMayBeName_90  (mm_ge (eG E)) s0 h Z) : V E 4 0 0 h 90 [] [.int (s0)] := by
  unfold wq_Request_textMayBeName_90 at hw
  obtain ⟨q1, hw⟩ := hw
  exact V_zret hc hq (zz_nar q1) ⟨_, rfl, hw⟩ (by decide) (by decide) d_Request_textMayBeName_90
set_option maxRecDepth 100000 in
set_option maxHeartbeats 4000000 in
theorem vb_Request_textMayBeName_85 {E : mm_E} {Z : Int32 → mm_M → Prop} (hc : cx E "EpochServer$Request" c_Request_textMayBeName 4 (some (.boolean)) rm_Request_textMayBeName) (hq : cq E rm_Request_textMayBeName (pI Z))   (h : mm_M) (hw : wq_Request_textMayBeName_85  (mm_ge (eG E))  h Z) : V E 4 0 0 h 85 [] [] := by
  unfold wq_Request_textMayBeName_85 at hw
  refine V_iconst (v := 1) hc d_Request_textMayBeName_85 (by decide) ?_
  refine V_goto (tgt := 90) hc d_Request_textMayBeName_86 (by decide) ?_
  refine V_sub (lv' := []) [] rfl ?_
  exact vb_Request_textMayBeName_90 hc hq  _ _ hw
set_option maxRecDepth 100000 in
set_option maxHeartbeats 4000000 in
theorem vb_Request_textMayBeName_47 {E : mm_E} {Z : Int32 → mm_M → Prop} (hc : cx E "EpochServer$Request" c_Request_textMayBeName 4 (some (.boolean)) rm_Request_textMayBeName) (hq : cq E rm_Request_textMayBeName (pI Z))   (h : mm_M) (hw : wq_Request_textMayBeName_47  (mm_ge (eG E))  h Z) : V E 4 0 0 h 47 [] [] := by
  unfold wq_Request_textMayBeName_47 at hw
  refine V_iconst (v := 0) hc d_Request_textMayBeName_47 (by decide) ?_
  exact V_zret hc hq (by decide) ⟨_, rfl, hw⟩ (by decide) (by decide) d_Request_textMayBeName_48
set_option maxRecDepth 100000 in
set_option maxHeartbeats 4000000 in
theorem vb_Request_textMayBeName_61 {E : mm_E} {Z : Int32 → mm_M → Prop} (hc : cx E "EpochServer$Request" c_Request_textMayBeName 4 (some (.boolean)) rm_Request_textMayBeName) (hq : cq E rm_Request_textMayBeName (pI Z)) (X23 : Nat → Int32 → Int32 → mm_M → Prop) (hX23 : ∀ (v0 : Nat) (v1 : Int32) (v2 : Int32) (h : mm_M), X23 v0 v1 v2 h → V E 4 0 0 h 23 [(0, va_rf (some v0)), (1, .int (v1)), (2, .int (v2))] []) (v0 : Nat) (v2 : Int32) (s0 : Int32) (s1 : Int32) (h : mm_M) (hw : wq_Request_textMayBeName_61 X23 (mm_ge (eG E)) v0 v2 s0 s1 h Z) : V E 4 0 0 h 61 [(0, va_rf (some v0)), (2, .int (v2))] [.int (s1), .int (s0)] := by
  unfold wq_Request_textMayBeName_61 at hw
  refine V_iadd hc d_Request_textMayBeName_61 ?_
  refine V_istore_n (i := 1) (lv' := [(1, .int ((s0) + (s1))), (0, va_rf (some v0)), (2, .int (v2))]) hc d_Request_textMayBeName_62 rfl (by decide) rfl ?_
  refine V_iinc (v := v2 + 1) (lv' := [(2, .int (v2 + 1)), (1, .int ((s0) + (s1))), (0, va_rf (some v0))]) hc 2 d_Request_textMayBeName_63 rfl rfl (by decide) rfl ?_
  refine V_goto (tgt := 23) hc d_Request_textMayBeName_66 (by decide) ?_
  refine V_sub (lv' := [(0, va_rf (some v0)), (1, .int ((s0) + (s1))), (2, .int (v2 + 1))]) [2, 1, 0] rfl ?_
  exact hX23 _ _ _ _ hw
set_option maxRecDepth 100000 in
set_option maxHeartbeats 4000000 in
theorem vb_Request_textMayBeName_23 {E : mm_E} {Z : Int32 → mm_M → Prop} (hc : cx E "EpochServer$Request" c_Request_textMayBeName 4 (some (.boolean)) rm_Request_textMayBeName) (hq : cq E rm_Request_textMayBeName (pI Z)) (X23 : Nat → Int32 → Int32 → mm_M → Prop) (hX23 : ∀ (v0 : Nat) (v1 : Int32) (v2 : Int32) (h : mm_M), X23 v0 v1 v2 h → V E 4 0 0 h 23 [(0, va_rf (some v0)), (1, .int (v1)), (2, .int (v2))] []) (v0 : Nat) (v1 : Int32) (v2 : Int32) (h : mm_M) (hw : wq_Request_textMayBeName_23 X23 (mm_ge (eG E)) v0 v1 v2 h Z) : V E 4 0 0 h 23 [(0, va_rf (some v0)), (1, .int (v1)), (2, .int (v2))] [] := by
  unfold wq_Request_textMayBeName_23 at hw
  refine V_iload_n hc 2 d_Request_textMayBeName_23 rfl rfl ?_
  refine V_aload_n hc 0 d_Request_textMayBeName_24 rfl rfl ?_
  obtain ⟨q1, hw⟩ := hw
  refine V_get (v := .int (mm_I h v0 15)) hc gf_Request_56 rfl q1 rfl d_Request_textMayBeName_25 ?_
  refine V_icmp_ge (tgt := 69) hc d_Request_textMayBeName_28 (by decide) (fun hq1 => ?_) (fun hq1 => ?_)
  · replace hw := hw.1 hq1
    refine V_aload_n hc 0 d_Request_textMayBeName_69 rfl rfl ?_
    refine V_get (v := .int (mm_I h v0 15)) hc gf_Request_56 rfl q1 rfl d_Request_textMayBeName_70 ?_
    refine V_iconst (v := 2) hc d_Request_textMayBeName_73 (by decide) ?_
    refine V_icmp_gt (tgt := 85) hc d_Request_textMayBeName_74 (by decide) (fun hq1 => ?_) (fun hq1 => ?_)
    · replace hw := hw.1 hq1
      refine V_sub (lv' := []) [] rfl ?_
      exact vb_Request_textMayBeName_85 hc hq  _ hw
    · replace hw := hw.2 hq1
      refine V_iload_n hc 1 d_Request_textMayBeName_77 rfl rfl ?_
      refine V_aload_n hc 0 d_Request_textMayBeName_78 rfl rfl ?_
      refine V_get (v := .int (mm_I h v0 15)) hc gf_Request_56 rfl q1 rfl d_Request_textMayBeName_79 ?_
      refine V_icmp_ge (tgt := 89) hc d_Request_textMayBeName_82 (by decide) (fun hq1 => ?_) (fun hq1 => ?_)
      · replace hw := hw.1 hq1
        refine V_iconst (v := 0) hc d_Request_textMayBeName_89 (by decide) ?_
        refine V_sub (lv' := []) [] rfl ?_
        exact vb_Request_textMayBeName_90 hc hq  _ _ hw
      · replace hw := hw.2 hq1
        refine V_sub (lv' := []) [] rfl ?_
        exact vb_Request_textMayBeName_85 hc hq  _ hw
  · replace hw := hw.2 hq1
    refine V_aload_n hc 0 d_Request_textMayBeName_31 rfl rfl ?_
    refine V_iload_n hc 2 d_Request_textMayBeName_32 rfl rfl ?_
    refine V_callV (rm' := rm_Request_textByte) (As := [.int (v2)]) (rest := []) (n := 1) (cn := 8) hc rfl q1 (sat_Request_textByte (eG E) _ _ _ _ hw) rfl cv_Request_100 (gw_of (tw_3 (List.mem_of_getElem? (i := 35) rfl)) rfl) ss_Request_textByte rfl ⟨by decide, by decide⟩ (by decide) (by decide) rfl (by simp [cat_rf, cat_i, cat_l]) d_Request_textMayBeName_33 (fun r0 h2 hw => ?_)
    obtain ⟨r3, rfl, hw⟩ := hw
    refine V_wide (cs' := 0) (sl' := 0) (by decide) (by decide) ?_
    refine V_st (st' := [.int (r3)]) rfl ?_
    refine V_istore_n (i := 3) (lv' := [(3, .int (r3)), (0, va_rf (some v0)), (1, .int (v1)), (2, .int (v2))]) hc d_Request_textMayBeName_36 rfl (by decide) rfl ?_
    refine V_iload_n hc 0 d_Request_textMayBeName_37 rfl rfl ?_
    refine V_if_eq (tgt := 47) hc d_Request_textMayBeName_38 (by decide) (fun hq1 => ?_) (fun hq1 => ?_)
    · replace hw := hw.1 hq1
      refine V_sub (lv' := []) [] rfl ?_
      exact vb_Request_textMayBeName_47 hc hq  _ hw
    · replace hw := hw.2 hq1
      refine V_iload_n hc 0 d_Request_textMayBeName_41 rfl rfl ?_
      refine V_bipush (v := 47) hc d_Request_textMayBeName_42 (by decide) ?_
      refine V_icmp_ne (tgt := 49) hc d_Request_textMayBeName_44 (by decide) (fun hq1 => ?_) (fun hq1 => ?_)
      · replace hw := hw.1 hq1
        refine V_iload_n hc 2 d_Request_textMayBeName_49 rfl rfl ?_
        refine V_iload_n hc 0 d_Request_textMayBeName_50 rfl rfl ?_
        refine V_bipush (v := 46) hc d_Request_textMayBeName_51 (by decide) ?_
        refine V_icmp_ne (tgt := 60) hc d_Request_textMayBeName_53 (by decide) (fun hq1 => ?_) (fun hq1 => ?_)
        · replace hw := hw.1 hq1
          refine V_iconst (v := 0) hc d_Request_textMayBeName_60 (by decide) ?_
          refine V_sub (lv' := [(0, va_rf (some v0)), (2, .int (v2))]) [1, 3] rfl ?_
          exact vb_Request_textMayBeName_61 hc hq X23 hX23 _ _ _ _ _ hw
        · replace hw := hw.2 hq1
          refine V_iconst (v := 1) hc d_Request_textMayBeName_56 (by decide) ?_
          refine V_goto (tgt := 61) hc d_Request_textMayBeName_57 (by decide) ?_
          refine V_sub (lv' := [(0, va_rf (some v0)), (2, .int (v2))]) [1, 3] rfl ?_
          exact vb_Request_textMayBeName_61 hc hq X23 hX23 _ _ _ _ _ hw
      · replace hw := hw.2 hq1
        refine V_sub (lv' := []) [] rfl ?_
        exact vb_Request_textMayBeName_47 hc hq  _ hw
theorem vl_Request_textMayBeName_23 {E : mm_E} {Z : Int32 → mm_M → Prop} (hc : cx E "EpochServer$Request" c_Request_textMayBeName 4 (some (.boolean)) rm_Request_textMayBeName) (hq : cq E rm_Request_textMayBeName (pI Z))  (v0 : Nat) (v1 : Int32) (v2 : Int32) (h : mm_M) (hw : lp_Request_textMayBeName_23  (mm_ge (eG E)) v0 v1 v2 h Z) : V E 4 0 0 h 23 [(0, va_rf (some v0)), (1, .int (v1)), (2, .int (v2))] [] :=
  hw (fun v0 v1 v2 h => V E 4 0 0 h 23 [(0, va_rf (some v0)), (1, .int (v1)), (2, .int (v2))] []) (fun v0 v1 v2 h hb => vb_Request_textMayBeName_23 hc hq  _ (fun _ _ _ _ q => q) v0 v1 v2 h hb)
set_option maxRecDepth 100000 in
set_option maxHeartbeats 4000000 in
theorem vb_Request_textMayBeName_0 {E : mm_E} {Z : Int32 → mm_M → Prop} (hc : cx E "EpochServer$Request" c_Request_textMayBeName 4 (some (.boolean)) rm_Request_textMayBeName) (hq : cq E rm_Request_textMayBeName (pI Z))  (v0 : Nat) (h : mm_M) (hw : wq_Request_textMayBeName_0  (mm_ge (eG E)) v0 h Z) : V E 4 0 0 h 0 [(0, va_rf (some v0))] [] := by
  unfold wq_Request_textMayBeName_0 at hw
  refine V_aload_n hc 0 d_Request_textMayBeName_0 rfl rfl ?_
  obtain ⟨q1, hw⟩ := hw
  refine V_get (v := .int (mm_I h v0 15)) hc gf_Request_56 rfl q1 rfl d_Request_textMayBeName_1 ?_
  refine V_iconst (v := 1) hc d_Request_textMayBeName_4 (by decide) ?_
  refine V_icmp_lt (tgt := 17) hc d_Request_textMayBeName_5 (by decide) (fun hq1 => ?_) (fun hq1 => ?_)
  · replace hw := hw.1 hq1
    refine V_sub (lv' := []) [] rfl ?_
    exact vb_Request_textMayBeName_17 hc hq  _ hw
  · replace hw := hw.2 hq1
    refine V_aload_n hc 0 d_Request_textMayBeName_8 rfl rfl ?_
    refine V_get (v := .int (mm_I h v0 15)) hc gf_Request_56 rfl q1 rfl d_Request_textMayBeName_9 ?_
    refine V_bipush (v := 20) hc d_Request_textMayBeName_12 (by decide) ?_
    refine V_icmp_le (tgt := 19) hc d_Request_textMayBeName_14 (by decide) (fun hq1 => ?_) (fun hq1 => ?_)
    · replace hw := hw.1 hq1
      refine V_iconst (v := 0) hc d_Request_textMayBeName_19 (by decide) ?_
      refine V_istore_n (i := 1) (lv' := [(1, .int (0)), (0, va_rf (some v0))]) hc d_Request_textMayBeName_20 rfl (by decide) rfl ?_
      refine V_iconst (v := 0) hc d_Request_textMayBeName_21 (by decide) ?_
      refine V_istore_n (i := 2) (lv' := [(2, .int (0)), (1, .int (0)), (0, va_rf (some v0))]) hc d_Request_textMayBeName_22 rfl (by decide) rfl ?_
      refine V_sub (lv' := [(0, va_rf (some v0)), (1, .int (0)), (2, .int (0))]) [2, 1, 0] rfl ?_
      exact vl_Request_textMayBeName_23 hc hq  _ _ _ _ hw
    · replace hw := hw.2 hq1
      refine V_sub (lv' := []) [] rfl ?_
      exact vb_Request_textMayBeName_17 hc hq  _ hw
def wq_Request_textMayBeName (ge : Nat → Nat) (v0 : Nat) (h : mm_M) (Z : Int32 → mm_M → Prop) : Prop := wq_Request_textMayBeName_0 ge v0 h Z
theorem sat_Request_textMayBeName (G : mm_G) (v0 : Nat) (h : mm_M) (Z : Int32 → mm_M → Prop) (hw : wq_Request_textMayBeName (mm_ge G) v0 h Z) : mm_Met G y_Request_textMayBeName c_Request_textMayBeName 4 (some (.boolean)) rm_Request_textMayBeName [va_rf (some v0)] h (pI Z) := by
  refine mm_intro (own := "EpochServer$Request") (by decide) rfl (by simp [lg_sl, cat_rf, cat_i, cat_l]) (fun E e1 hc hq hi => ?_)
  subst e1
  have e2 : lv_args 0 [va_rf (some v0)] = [(0, va_rf (some v0))] := by simp [lv_args, cat_rf, cat_i, cat_l]
  rw [e2]
  refine V_sub (lv' := [(0, va_rf (some v0))]) [0] rfl ?_
  exact vb_Request_textMayBeName_0 hc hq v0 h hw
/-! Request.treeAsked()I -/
abbrev rm_Request_treeAsked : Room := { frames := 2, cells := 0, slots := 0, locals := 42 }
def wq_Request_treeAsked_62  (ge : Nat → Nat) (s0 : Int32) (h : mm_M) (Z : Int32 → mm_M → Prop) : Prop :=
  Z (s0) h
def wq_Request_treeAsked_51  (ge : Nat → Nat) (v1 : Int32) (s0 : Int32) (h : mm_M) (Z : Int32 → mm_M → Prop) : Prop :=
  (((s0) = 0 → wq_Request_treeAsked_62  ge ((-9)) h Z) ∧ (¬ (s0) = 0 → wq_Request_treeAsked_62  ge (v1) h Z))
def wq_Request_treeAsked_50  (ge : Nat → Nat) (v1 : Int32) (h : mm_M) (Z : Int32 → mm_M → Prop) : Prop :=
  wq_Request_treeAsked_51  ge (v1) (0) h Z
def wq_Request_treeAsked_0  (ge : Nat → Nat) (v0 : Nat) (h : mm_M) (Z : Int32 → mm_M → Prop) : Prop :=
  mm_k h (v0) = kd_Request ∧ ((¬ (mm_I h v0 15) = 0 → wq_Request_textByte ge (v0) (1) h (fun (r3 : Int32) (h2 : mm_M) => mm_k h2 (v0) = kd_Request ∧ ((¬ (mm_I h2 v0 15 : Int32) = (2 : Int32) → wq_Request_treeAsked_50  ge ((r3) - (48 : Int32)) h2 Z) ∧ ((mm_I h2 v0 15 : Int32) = (2 : Int32) → wq_Request_textByte ge (v0) (0) h2 (fun (r6 : Int32) (h5 : mm_M) => ((¬ (r6 : Int32) = (115 : Int32) → wq_Request_treeAsked_50  ge ((r3) - (48 : Int32)) h5 Z) ∧ ((r6 : Int32) = (115 : Int32) → ((((r3) - (48 : Int32)) < 0 → wq_Request_treeAsked_50  ge ((r3) - (48 : Int32)) h5 Z) ∧ (¬ ((r3) - (48 : Int32)) < 0 → (((9 : Int32) < ((r3) - (48 : Int32) : Int32) → wq_Request_treeAsked_50  ge ((r3) - (48 : Int32)) h5 Z) ∧ (¬ (9 : Int32) < ((r3) - (48 : Int32) : Int32) → wq_Request_treeAsked_51  ge ((r3) - (48 : Int32)) (1) h5 Z))))))))))) ∧ ((mm_I h v0 15) = 0 → Z ((-1)) h))
set_option maxRecDepth 100000 in
set_option maxHeartbeats 4000000 in
theorem vb_Request_treeAsked_62 {E : mm_E} {Z : Int32 → mm_M → Prop} (hc : cx E "EpochServer$Request" c_Request_treeAsked 3 (some (.int)) rm_Request_treeAsked) (hq : cq E rm_Request_treeAsked (pI Z))  (s0 : Int32) (h : mm_M) (hw : wq_Request_treeAsked_62  (mm_ge (eG E)) s0 h Z) : V E 3 0 0 h 62 [] [.int (s0)] := by
  unfold wq_Request_treeAsked_62 at hw
  exact V_iret hc hq ⟨_, rfl, hw⟩ (by decide) (by decide) d_Request_treeAsked_62
set_option maxRecDepth 100000 in
set_option maxHeartbeats 4000000 in
theorem vb_Request_treeAsked_51 {E : mm_E} {Z : Int32 → mm_M → Prop} (hc : cx E "EpochServer$Request" c_Request_treeAsked 3 (some (.int)) rm_Request_treeAsked) (hq : cq E rm_Request_treeAsked (pI Z))  (v1 : Int32) (s0 : Int32) (h : mm_M) (hw : wq_Request_treeAsked_51  (mm_ge (eG E)) v1 s0 h Z) : V E 3 0 0 h 51 [(1, .int (v1))] [.int (s0)] := by
  unfold wq_Request_treeAsked_51 at hw
  refine V_istore_n (i := 2) (lv' := [(2, .int (s0)), (1, .int (v1))]) hc d_Request_treeAsked_51 rfl (by decide) rfl ?_
  refine V_iload_n hc 0 d_Request_treeAsked_52 rfl rfl ?_
  refine V_if_eq (tgt := 60) hc d_Request_treeAsked_53 (by decide) (fun hq1 => ?_) (fun hq1 => ?_)
  · replace hw := hw.1 hq1
    refine V_bipush (v := (-9)) hc d_Request_treeAsked_60 (by decide) ?_
    refine V_sub (lv' := []) [] rfl ?_
    exact vb_Request_treeAsked_62 hc hq  _ _ hw
  · replace hw := hw.2 hq1
    refine V_iload_n hc 1 d_Request_treeAsked_56 rfl rfl ?_
    refine V_goto (tgt := 62) hc d_Request_treeAsked_57 (by decide) ?_
    refine V_sub (lv' := []) [] rfl ?_
    exact vb_Request_treeAsked_62 hc hq  _ _ hw
set_option maxRecDepth 100000 in
set_option maxHeartbeats 4000000 in
theorem vb_Request_treeAsked_50 {E : mm_E} {Z : Int32 → mm_M → Prop} (hc : cx E "EpochServer$Request" c_Request_treeAsked 3 (some (.int)) rm_Request_treeAsked) (hq : cq E rm_Request_treeAsked (pI Z))  (v1 : Int32) (h : mm_M) (hw : wq_Request_treeAsked_50  (mm_ge (eG E)) v1 h Z) : V E 3 0 0 h 50 [(1, .int (v1))] [] := by
  unfold wq_Request_treeAsked_50 at hw
  refine V_iconst (v := 0) hc d_Request_treeAsked_50 (by decide) ?_
  refine V_sub (lv' := [(1, .int (v1))]) [0] rfl ?_
  exact vb_Request_treeAsked_51 hc hq  _ _ _ hw
set_option maxRecDepth 100000 in
set_option maxHeartbeats 4000000 in
theorem vb_Request_treeAsked_0 {E : mm_E} {Z : Int32 → mm_M → Prop} (hc : cx E "EpochServer$Request" c_Request_treeAsked 3 (some (.int)) rm_Request_treeAsked) (hq : cq E rm_Request_treeAsked (pI Z))  (v0 : Nat) (h : mm_M) (hw : wq_Request_treeAsked_0  (mm_ge (eG E)) v0 h Z) : V E 3 0 0 h 0 [(0, va_rf (some v0))] [] := by
  unfold wq_Request_treeAsked_0 at hw
  refine V_aload_n hc 0 d_Request_treeAsked_0 rfl rfl ?_
  obtain ⟨q1, hw⟩ := hw
  refine V_get (v := .int (mm_I h v0 15)) hc gf_Request_56 rfl q1 rfl d_Request_treeAsked_1 ?_
  refine V_if_ne (tgt := 9) hc d_Request_treeAsked_4 (by decide) (fun hq1 => ?_) (fun hq1 => ?_)
  · replace hw := hw.1 hq1
    refine V_aload_n hc 0 d_Request_treeAsked_9 rfl rfl ?_
    refine V_iconst (v := 1) hc d_Request_treeAsked_10 (by decide) ?_
    refine V_callV (rm' := rm_Request_textByte) (As := [.int (1)]) (rest := []) (n := 1) (cn := 8) hc rfl q1 (sat_Request_textByte (eG E) _ _ _ _ hw) rfl cv_Request_100 (gw_of (tw_3 (List.mem_of_getElem? (i := 35) rfl)) rfl) ss_Request_textByte rfl ⟨by decide, by decide⟩ (by decide) (by decide) rfl (by simp [cat_rf, cat_i, cat_l]) d_Request_treeAsked_11 (fun r0 h2 hw => ?_)
    obtain ⟨r3, rfl, hw⟩ := hw
    refine V_wide (cs' := 0) (sl' := 0) (by decide) (by decide) ?_
    refine V_st (st' := [.int (r3)]) rfl ?_
    refine V_bipush (v := 48) hc d_Request_treeAsked_14 (by decide) ?_
    refine V_isub hc d_Request_treeAsked_16 ?_
    refine V_istore_n (i := 1) (lv' := [(1, .int ((r3) - (48 : Int32))), (0, va_rf (some v0))]) hc d_Request_treeAsked_17 rfl (by decide) rfl ?_
    refine V_aload_n hc 1 d_Request_treeAsked_18 rfl rfl ?_
    obtain ⟨q4, hw⟩ := hw
    refine V_get (v := .int (mm_I h2 v0 15)) hc gf_Request_56 rfl q4 rfl d_Request_treeAsked_19 ?_
    refine V_iconst (v := 2) hc d_Request_treeAsked_22 (by decide) ?_
    refine V_icmp_ne (tgt := 50) hc d_Request_treeAsked_23 (by decide) (fun hq1 => ?_) (fun hq1 => ?_)
    · replace hw := hw.1 hq1
      refine V_sub (lv' := [(1, .int ((r3) - (48 : Int32)))]) [0] rfl ?_
      exact vb_Request_treeAsked_50 hc hq  _ _ hw
    · replace hw := hw.2 hq1
      refine V_aload_n hc 1 d_Request_treeAsked_26 rfl rfl ?_
      refine V_iconst (v := 0) hc d_Request_treeAsked_27 (by decide) ?_
      refine V_callV (rm' := rm_Request_textByte) (As := [.int (0)]) (rest := []) (n := 1) (cn := 8) hc rfl q4 (sat_Request_textByte (eG E) _ _ _ _ hw) rfl cv_Request_100 (gw_of (tw_3 (List.mem_of_getElem? (i := 35) rfl)) rfl) ss_Request_textByte rfl ⟨by decide, by decide⟩ (by decide) (by decide) rfl (by simp [cat_rf, cat_i, cat_l]) d_Request_treeAsked_28 (fun r0 h5 hw => ?_)
      obtain ⟨r6, rfl, hw⟩ := hw
      refine V_wide (cs' := 0) (sl' := 0) (by decide) (by decide) ?_
      refine V_st (st' := [.int (r6)]) rfl ?_
      refine V_bipush (v := 115) hc d_Request_treeAsked_31 (by decide) ?_
      refine V_icmp_ne (tgt := 50) hc d_Request_treeAsked_33 (by decide) (fun hq1 => ?_) (fun hq1 => ?_)
      · replace hw := hw.1 hq1
        refine V_sub (lv' := [(1, .int ((r3) - (48 : Int32)))]) [0] rfl ?_
        exact vb_Request_treeAsked_50 hc hq  _ _ hw
      · replace hw := hw.2 hq1
        refine V_iload_n hc 0 d_Request_treeAsked_36 rfl rfl ?_
        refine V_if_lt (tgt := 50) hc d_Request_treeAsked_37 (by decide) (fun hq1 => ?_) (fun hq1 => ?_)
        · replace hw := hw.1 hq1
          refine V_sub (lv' := [(1, .int ((r3) - (48 : Int32)))]) [0] rfl ?_
          exact vb_Request_treeAsked_50 hc hq  _ _ hw
        · replace hw := hw.2 hq1
          refine V_iload_n hc 0 d_Request_treeAsked_40 rfl rfl ?_
          refine V_bipush (v := 9) hc d_Request_treeAsked_41 (by decide) ?_
          refine V_icmp_gt (tgt := 50) hc d_Request_treeAsked_43 (by decide) (fun hq1 => ?_) (fun hq1 => ?_)
          · replace hw := hw.1 hq1
            refine V_sub (lv' := [(1, .int ((r3) - (48 : Int32)))]) [0] rfl ?_
            exact vb_Request_treeAsked_50 hc hq  _ _ hw
          · replace hw := hw.2 hq1
            refine V_iconst (v := 1) hc d_Request_treeAsked_46 (by decide) ?_
            refine V_goto (tgt := 51) hc d_Request_treeAsked_47 (by decide) ?_
            refine V_sub (lv' := [(1, .int ((r3) - (48 : Int32)))]) [0] rfl ?_
            exact vb_Request_treeAsked_51 hc hq  _ _ _ hw
  · replace hw := hw.2 hq1
    refine V_iconst (v := (-1)) hc d_Request_treeAsked_7 (by decide) ?_
    exact V_iret hc hq ⟨_, rfl, hw⟩ (by decide) (by decide) d_Request_treeAsked_8
def wq_Request_treeAsked (ge : Nat → Nat) (v0 : Nat) (h : mm_M) (Z : Int32 → mm_M → Prop) : Prop := wq_Request_treeAsked_0 ge v0 h Z
theorem sat_Request_treeAsked (G : mm_G) (v0 : Nat) (h : mm_M) (Z : Int32 → mm_M → Prop) (hw : wq_Request_treeAsked (mm_ge G) v0 h Z) : mm_Met G y_Request_treeAsked c_Request_treeAsked 3 (some (.int)) rm_Request_treeAsked [va_rf (some v0)] h (pI Z) := by
  refine mm_intro (own := "EpochServer$Request") (by decide) rfl (by simp [lg_sl, cat_rf, cat_i, cat_l]) (fun E e1 hc hq hi => ?_)
  subst e1
  have e2 : lv_args 0 [va_rf (some v0)] = [(0, va_rf (some v0))] := by simp [lv_args, cat_rf, cat_i, cat_l]
  rw [e2]
  refine V_sub (lv' := [(0, va_rf (some v0))]) [0] rfl ?_
  exact vb_Request_treeAsked_0 hc hq v0 h hw
/-! Request.copyTextInto([BI)V -/
abbrev rm_Request_copyTextInto : Room := { frames := 1, cells := 0, slots := 0, locals := 21 }
def wq_Request_copyTextInto_45 (X2 : Nat → Option Nat → Int32 → Int32 → mm_M → Prop) (ge : Nat → Nat) (v0 : Nat) (v1 : Option Nat) (v2 : Int32) (v3 : Int32) (h : mm_M) (Z : mm_M → Prop) : Prop :=
  X2 (v0) (v1) (v2) (v3 + 1) h
def wq_Request_copyTextInto_2 (X2 : Nat → Option Nat → Int32 → Int32 → mm_M → Prop) (ge : Nat → Nat) (v0 : Nat) (v1 : Option Nat) (v2 : Int32) (v3 : Int32) (h : mm_M) (Z : mm_M → Prop) : Prop :=
  mm_k h (v0) = kd_Request ∧ (((mm_I h v0 15 : Int32) ≤ (v3 : Int32) → Z h) ∧ (¬ (mm_I h v0 15 : Int32) ≤ (v3 : Int32) → ((((v2) + (v3)) < 0 → wq_Request_copyTextInto_45 X2 ge (v0) (v1) (v2) (v3) h Z) ∧ (¬ ((v2) + (v3)) < 0 → ∃ a2, v1 = some a2 ∧ mm_k h (a2) = ka_B ∧ (((Nat.toInt32 (mm_n h a2) : Int32) ≤ ((v2) + (v3) : Int32) → wq_Request_copyTextInto_45 X2 ge (v0) (v1) (v2) (v3) h Z) ∧ (¬ (Nat.toInt32 (mm_n h a2) : Int32) ≤ ((v2) + (v3) : Int32) → ∃ a5, mm_P h v0 0 = some a5 ∧ mm_k h (a5) = kd_Bytes ∧ wq_Bytes_at ge (a5) ((mm_I h v0 14) + (v3)) h (fun (r9 : Int32) (h8 : mm_M) => ∃ a10, v1 = some a10 ∧ mm_k h8 (a10) = ka_B ∧ vp_in ((v2) + (v3)) (mm_n h8 a10) ∧ ge 0 ≤ a10 ∧ ∀ h15 : mm_M, h15 = mm_uI h8 a10 (Int32.toNatClampNeg ((v2) + (v3))) (vp_nar .byte (Int8.toInt32 (Int32.toInt8 (r9)))) → wq_Request_copyTextInto_45 X2 ge (v0) (v1) (v2) (v3) h15 Z)))))))
def lp_Request_copyTextInto_2  (ge : Nat → Nat) (v0 : Nat) (v1 : Option Nat) (v2 : Int32) (v3 : Int32) (h : mm_M) (Z : mm_M → Prop) : Prop :=
  ∀ X2 : Nat → Option Nat → Int32 → Int32 → mm_M → Prop, (∀ (v0 : Nat) (v1 : Option Nat) (v2 : Int32) (v3 : Int32) (h : mm_M), wq_Request_copyTextInto_2 X2 ge v0 v1 v2 v3 h Z → X2 v0 v1 v2 v3 h) → X2 v0 v1 v2 v3 h
def wq_Request_copyTextInto_0  (ge : Nat → Nat) (v0 : Nat) (v1 : Option Nat) (v2 : Int32) (h : mm_M) (Z : mm_M → Prop) : Prop :=
  lp_Request_copyTextInto_2  ge (v0) (v1) (v2) (0) h Z
set_option maxRecDepth 100000 in
set_option maxHeartbeats 4000000 in
theorem vb_Request_copyTextInto_45 {E : mm_E} {Z : mm_M → Prop} (hc : cx E "EpochServer$Request" c_Request_copyTextInto 5 none rm_Request_copyTextInto) (hq : cq E rm_Request_copyTextInto (pV Z)) (X2 : Nat → Option Nat → Int32 → Int32 → mm_M → Prop) (hX2 : ∀ (v0 : Nat) (v1 : Option Nat) (v2 : Int32) (v3 : Int32) (h : mm_M), X2 v0 v1 v2 v3 h → V E 5 0 0 h 2 [(0, va_rf (some v0)), (1, va_rf (v1)), (2, .int (v2)), (3, .int (v3))] []) (v0 : Nat) (v1 : Option Nat) (v2 : Int32) (v3 : Int32) (h : mm_M) (hw : wq_Request_copyTextInto_45 X2 (mm_ge (eG E)) v0 v1 v2 v3 h Z) : V E 5 0 0 h 45 [(0, va_rf (some v0)), (1, va_rf (v1)), (2, .int (v2)), (3, .int (v3))] [] := by
  unfold wq_Request_copyTextInto_45 at hw
  refine V_iinc (v := v3 + 1) (lv' := [(3, .int (v3 + 1)), (0, va_rf (some v0)), (1, va_rf (v1)), (2, .int (v2))]) hc 3 d_Request_copyTextInto_45 rfl rfl (by decide) rfl ?_
  refine V_goto (tgt := 2) hc d_Request_copyTextInto_48 (by decide) ?_
  refine V_sub (lv' := [(0, va_rf (some v0)), (1, va_rf (v1)), (2, .int (v2)), (3, .int (v3 + 1))]) [1, 2, 3, 0] rfl ?_
  exact hX2 _ _ _ _ _ hw
set_option maxRecDepth 100000 in
set_option maxHeartbeats 4000000 in
theorem vb_Request_copyTextInto_2 {E : mm_E} {Z : mm_M → Prop} (hc : cx E "EpochServer$Request" c_Request_copyTextInto 5 none rm_Request_copyTextInto) (hq : cq E rm_Request_copyTextInto (pV Z)) (X2 : Nat → Option Nat → Int32 → Int32 → mm_M → Prop) (hX2 : ∀ (v0 : Nat) (v1 : Option Nat) (v2 : Int32) (v3 : Int32) (h : mm_M), X2 v0 v1 v2 v3 h → V E 5 0 0 h 2 [(0, va_rf (some v0)), (1, va_rf (v1)), (2, .int (v2)), (3, .int (v3))] []) (v0 : Nat) (v1 : Option Nat) (v2 : Int32) (v3 : Int32) (h : mm_M) (hw : wq_Request_copyTextInto_2 X2 (mm_ge (eG E)) v0 v1 v2 v3 h Z) : V E 5 0 0 h 2 [(0, va_rf (some v0)), (1, va_rf (v1)), (2, .int (v2)), (3, .int (v3))] [] := by
  unfold wq_Request_copyTextInto_2 at hw
  refine V_iload_n hc 3 d_Request_copyTextInto_2 rfl rfl ?_
  refine V_aload_n hc 0 d_Request_copyTextInto_3 rfl rfl ?_
  obtain ⟨q1, hw⟩ := hw
  refine V_get (v := .int (mm_I h v0 15)) hc gf_Request_56 rfl q1 rfl d_Request_copyTextInto_4 ?_
  refine V_icmp_ge (tgt := 51) hc d_Request_copyTextInto_7 (by decide) (fun hq1 => ?_) (fun hq1 => ?_)
  · replace hw := hw.1 hq1
    exact V_vret hc hq ⟨rfl, hw⟩ (by decide) (by decide) d_Request_copyTextInto_51
  · replace hw := hw.2 hq1
    refine V_iload_n hc 2 d_Request_copyTextInto_10 rfl rfl ?_
    refine V_iload_n hc 3 d_Request_copyTextInto_11 rfl rfl ?_
    refine V_iadd hc d_Request_copyTextInto_12 ?_
    refine V_istore (i := 4) (lv' := [(4, .int ((v2) + (v3))), (0, va_rf (some v0)), (1, va_rf (v1)), (2, .int (v2)), (3, .int (v3))]) hc d_Request_copyTextInto_13 (by decide) rfl ?_
    refine V_iload hc 0 d_Request_copyTextInto_15 rfl ?_
    refine V_if_lt (tgt := 45) hc d_Request_copyTextInto_17 (by decide) (fun hq1 => ?_) (fun hq1 => ?_)
    · replace hw := hw.1 hq1
      refine V_sub (lv' := [(0, va_rf (some v0)), (1, va_rf (v1)), (2, .int (v2)), (3, .int (v3))]) [1, 2, 3, 4] rfl ?_
      exact vb_Request_copyTextInto_45 hc hq X2 hX2 _ _ _ _ _ hw
    · replace hw := hw.2 hq1
      refine V_iload hc 0 d_Request_copyTextInto_20 rfl ?_
      refine V_aload_n hc 2 d_Request_copyTextInto_22 rfl rfl ?_
      obtain ⟨a2, q3, hw⟩ := hw
      obtain ⟨q4, hw⟩ := hw
      refine V_alen (t := 1) (ty := .byte) hc rfl q3 q4 d_Request_copyTextInto_23 ?_
      refine V_icmp_ge (tgt := 45) hc d_Request_copyTextInto_24 (by decide) (fun hq1 => ?_) (fun hq1 => ?_)
      · replace hw := hw.1 hq1
        refine V_sub (lv' := [(0, va_rf (some v0)), (1, va_rf (v1)), (2, .int (v2)), (3, .int (v3))]) [1, 2, 3, 4] rfl ?_
        exact vb_Request_copyTextInto_45 hc hq X2 hX2 _ _ _ _ _ hw
      · replace hw := hw.2 hq1
        refine V_aload_n hc 2 d_Request_copyTextInto_27 rfl rfl ?_
        refine V_iload hc 0 d_Request_copyTextInto_28 rfl ?_
        refine V_aload_n hc 1 d_Request_copyTextInto_30 rfl rfl ?_
        refine V_get (v := va_rf (mm_P h v0 0)) hc gf_Request_62 rfl q1 rfl d_Request_copyTextInto_31 ?_
        refine V_aload_n hc 1 d_Request_copyTextInto_34 rfl rfl ?_
        refine V_get (v := .int (mm_I h v0 14)) hc gf_Request_53 rfl q1 rfl d_Request_copyTextInto_35 ?_
        refine V_iload_n hc 4 d_Request_copyTextInto_38 rfl rfl ?_
        refine V_iadd hc d_Request_copyTextInto_39 ?_
        obtain ⟨a5, q6, hw⟩ := hw
        obtain ⟨q7, hw⟩ := hw
        refine V_callV (rm' := rm_Bytes_at) (As := [.int ((mm_I h v0 14) + (v3))]) (rest := [.int ((v2) + (v3)), va_rf (v1)]) (n := 1) (cn := 3) hc q6 q7 (sat_Bytes_at (eG E) _ _ _ _ hw) rfl cv_Request_90 (gw_of (tw_2 (List.mem_of_getElem? (i := 170) rfl)) rfl) ss_Bytes_at rfl ⟨by decide, by decide⟩ (by decide) (by decide) rfl (by simp [cat_rf, cat_i, cat_l]) d_Request_copyTextInto_40 (fun r0 h8 hw => ?_)
        obtain ⟨r9, rfl, hw⟩ := hw
        refine V_wide (cs' := 0) (sl' := 0) (by decide) (by decide) ?_
        refine V_st (st' := [.int (r9), .int ((v2) + (v3)), va_rf (v1)]) rfl ?_
        refine V_i2b hc d_Request_copyTextInto_43 ?_
        obtain ⟨a10, q11, hw⟩ := hw
        obtain ⟨q12, hw⟩ := hw
        obtain ⟨q13, hw⟩ := hw
        obtain ⟨q14, hw⟩ := hw
        obtain ⟨h15, eq_h15⟩ : ∃ x, x = mm_uI h8 a10 (Int32.toNatClampNeg ((v2) + (v3))) (vp_nar .byte (Int8.toInt32 (Int32.toInt8 (r9)))) := ⟨_, rfl⟩
        replace hw := hw _ eq_h15
        refine V_bast hc q11 q12 q13 q14 d_Request_copyTextInto_44 ?_
        rw [← eq_h15]
        refine V_sub (lv' := [(0, va_rf (some v0)), (1, va_rf (v1)), (2, .int (v2)), (3, .int (v3))]) [1, 2, 3, 4] rfl ?_
        exact vb_Request_copyTextInto_45 hc hq X2 hX2 _ _ _ _ _ hw
theorem vl_Request_copyTextInto_2 {E : mm_E} {Z : mm_M → Prop} (hc : cx E "EpochServer$Request" c_Request_copyTextInto 5 none rm_Request_copyTextInto) (hq : cq E rm_Request_copyTextInto (pV Z))  (v0 : Nat) (v1 : Option Nat) (v2 : Int32) (v3 : Int32) (h : mm_M) (hw : lp_Request_copyTextInto_2  (mm_ge (eG E)) v0 v1 v2 v3 h Z) : V E 5 0 0 h 2 [(0, va_rf (some v0)), (1, va_rf (v1)), (2, .int (v2)), (3, .int (v3))] [] :=
  hw (fun v0 v1 v2 v3 h => V E 5 0 0 h 2 [(0, va_rf (some v0)), (1, va_rf (v1)), (2, .int (v2)), (3, .int (v3))] []) (fun v0 v1 v2 v3 h hb => vb_Request_copyTextInto_2 hc hq  _ (fun _ _ _ _ _ q => q) v0 v1 v2 v3 h hb)
set_option maxRecDepth 100000 in
set_option maxHeartbeats 4000000 in
theorem vb_Request_copyTextInto_0 {E : mm_E} {Z : mm_M → Prop} (hc : cx E "EpochServer$Request" c_Request_copyTextInto 5 none rm_Request_copyTextInto) (hq : cq E rm_Request_copyTextInto (pV Z))  (v0 : Nat) (v1 : Option Nat) (v2 : Int32) (h : mm_M) (hw : wq_Request_copyTextInto_0  (mm_ge (eG E)) v0 v1 v2 h Z) : V E 5 0 0 h 0 [(0, va_rf (some v0)), (1, va_rf (v1)), (2, .int (v2))] [] := by
  unfold wq_Request_copyTextInto_0 at hw
  refine V_iconst (v := 0) hc d_Request_copyTextInto_0 (by decide) ?_
  refine V_istore_n (i := 3) (lv' := [(3, .int (0)), (0, va_rf (some v0)), (1, va_rf (v1)), (2, .int (v2))]) hc d_Request_copyTextInto_1 rfl (by decide) rfl ?_
  refine V_sub (lv' := [(0, va_rf (some v0)), (1, va_rf (v1)), (2, .int (v2)), (3, .int (0))]) [1, 2, 3, 0] rfl ?_
  exact vl_Request_copyTextInto_2 hc hq  _ _ _ _ _ hw
def wq_Request_copyTextInto (ge : Nat → Nat) (v0 : Nat) (v1 : Option Nat) (v2 : Int32) (h : mm_M) (Z : mm_M → Prop) : Prop := wq_Request_copyTextInto_0 ge v0 v1 v2 h Z
theorem sat_Request_copyTextInto (G : mm_G) (v0 : Nat) (v1 : Option Nat) (v2 : Int32) (h : mm_M) (Z : mm_M → Prop) (hw : wq_Request_copyTextInto (mm_ge G) v0 v1 v2 h Z) : mm_Met G y_Request_copyTextInto c_Request_copyTextInto 5 none rm_Request_copyTextInto [va_rf (some v0), va_rf (v1), .int (v2)] h (pV Z) := by
  refine mm_intro (own := "EpochServer$Request") (by decide) rfl (by simp [lg_sl, cat_rf, cat_i, cat_l]) (fun E e1 hc hq hi => ?_)
  subst e1
  have e2 : lv_args 0 [va_rf (some v0), va_rf (v1), .int (v2)] = [(0, va_rf (some v0)), (1, va_rf (v1)), (2, .int (v2))] := by simp [lv_args, cat_rf, cat_i, cat_l]
  rw [e2]
  refine V_sub (lv' := [(0, va_rf (some v0)), (1, va_rf (v1)), (2, .int (v2))]) [0, 1, 2] rfl ?_
  exact vb_Request_copyTextInto_0 hc hq v0 v1 v2 h hw
/-! Request.copyText()[B -/
abbrev rm_Request_copyText : Room := { frames := 2, cells := 1, slots := 64, locals := 45 }
def wq_Request_copyText_0  (ge : Nat → Nat) (v0 : Nat) (h : mm_M) (Z : Option Nat → mm_M → Prop) : Prop :=
  mm_k h (v0) = kd_Request ∧ ¬ (if (0 : Int32) < (mm_I h v0 15) then (mm_I h v0 15) else (0)) < 0 ∧ Int32.toNatClampNeg (if (0 : Int32) < (mm_I h v0 15) then (mm_I h v0 15) else (0)) ≤ 64 ∧ ∀ h4 : mm_M, h4 = mm_nw h 101 (Int32.toNatClampNeg (if (0 : Int32) < (mm_I h v0 15) then (mm_I h v0 15) else (0))) → ∀ a5 : Nat, a5 = mm_z h → mm_k h4 (v0) = kd_Request ∧ wq_Request_copyTextInto ge (v0) (some a5) (0) h4 (fun h7 : mm_M => Z (some a5) h7)
set_option maxRecDepth 100000 in
set_option maxHeartbeats 4000000 in
theorem vb_Request_copyText_0 {E : mm_E} {Z : Option Nat → mm_M → Prop} (hc : cx E "EpochServer$Request" c_Request_copyText 2 (some ((.array .byte))) rm_Request_copyText) (hq : cq E rm_Request_copyText (pP Z))  (v0 : Nat) (h : mm_M) (hw : wq_Request_copyText_0  (mm_ge (eG E)) v0 h Z) : V E 2 0 0 h 0 [(0, va_rf (some v0))] [] := by
  unfold wq_Request_copyText_0 at hw
  refine V_iconst (v := 0) hc d_Request_copyText_0 (by decide) ?_
  refine V_aload_n hc 0 d_Request_copyText_1 rfl rfl ?_
  obtain ⟨q1, hw⟩ := hw
  refine V_get (v := .int (mm_I h v0 15)) hc gf_Request_56 rfl q1 rfl d_Request_copyText_2 ?_
  refine V_mmax hc cv_Request_103 (by simp [cat_rf, cat_i, cat_l]) (by decide) (by decide) (by decide) (by decide) d_Request_copyText_5 ?_
  obtain ⟨q2, q3, hw⟩ := hw
  obtain ⟨h4, eq_h4⟩ : ∃ x, x = mm_nw h 101 (Int32.toNatClampNeg (if (0 : Int32) < (mm_I h v0 15) then (mm_I h v0 15) else (0))) := ⟨_, rfl⟩
  replace hw := hw _ eq_h4
  refine V_newa (t := 1) (N := (Int32.toNatClampNeg (if (0 : Int32) < (mm_I h v0 15) then (mm_I h v0 15) else (0)))) (ty := .byte) hc rfl rfl (fun _ q => q) (gw_of (tw_1 (List.mem_of_getElem? (i := 46) rfl)) rfl) (by decide) (by decide) q2 rfl (by show _ * 1 ≤ _; omega) (by decide) (by show 0 + _ ≤ 64; omega) d_Request_copyText_8 ?_
  rw [← eq_h4]
  obtain ⟨a5, eq_a5⟩ : ∃ x, x = mm_z h := ⟨_, rfl⟩
  replace hw := hw _ eq_a5
  rw [← eq_a5]
  refine V_wide (cs' := 1) (sl' := 64) (by omega) (by omega) ?_
  refine V_astore_n (i := 1) (lv' := [(1, va_rf (some a5)), (0, va_rf (some v0))]) hc d_Request_copyText_10 rfl (by decide) rfl ?_
  refine V_aload_n hc 1 d_Request_copyText_11 rfl rfl ?_
  refine V_aload_n hc 0 d_Request_copyText_12 rfl rfl ?_
  refine V_iconst (v := 0) hc d_Request_copyText_13 (by decide) ?_
  obtain ⟨q6, hw⟩ := hw
  refine V_callV (rm' := rm_Request_copyTextInto) (As := [va_rf (some a5), .int (0)]) (rest := []) (n := 2) (cn := 8) hc rfl q6 (sat_Request_copyTextInto (eG E) _ _ _ _ _ hw) rfl cv_Request_109 (gw_of (tw_3 (List.mem_of_getElem? (i := 180) rfl)) rfl) ss_Request_copyTextInto rfl ⟨by decide, by decide⟩ (by decide) (by decide) rfl (by simp [cat_rf, cat_i, cat_l]) d_Request_copyText_14 (fun r0 h7 hw => ?_)
  obtain ⟨rfl, hw⟩ := hw
  refine V_wide (cs' := 1) (sl' := 64) (by decide) (by decide) ?_
  refine V_st (st' := []) rfl ?_
  refine V_aload_n hc 0 d_Request_copyText_17 rfl rfl ?_
  exact V_aret hc hq (by first | exact Or.inl ⟨_, rfl⟩ | exact Or.inr ⟨_, rfl⟩) ⟨_, rfl, hw⟩ (by decide) (by decide) d_Request_copyText_18
def wq_Request_copyText (ge : Nat → Nat) (v0 : Nat) (h : mm_M) (Z : Option Nat → mm_M → Prop) : Prop := wq_Request_copyText_0 ge v0 h Z
theorem sat_Request_copyText (G : mm_G) (v0 : Nat) (h : mm_M) (Z : Option Nat → mm_M → Prop) (hw : wq_Request_copyText (mm_ge G) v0 h Z) : mm_Met G y_Request_copyText c_Request_copyText 2 (some ((.array .byte))) rm_Request_copyText [va_rf (some v0)] h (pP Z) := by
  refine mm_intro (own := "EpochServer$Request") (by decide) rfl (by simp [lg_sl, cat_rf, cat_i, cat_l]) (fun E e1 hc hq hi => ?_)
  subst e1
  have e2 : lv_args 0 [va_rf (some v0)] = [(0, va_rf (some v0))] := by simp [lv_args, cat_rf, cat_i, cat_l]
  rw [e2]
  refine V_sub (lv' := [(0, va_rf (some v0))]) [0] rfl ?_
  exact vb_Request_copyText_0 hc hq v0 h hw
/-! Snapshots.<init>()V -/
abbrev rm_Snapshots_init : Room := { frames := 1, cells := 3, slots := 42, locals := 24 }
def wq_Snapshots_init_0  (ge : Nat → Nat) (v0 : Nat) (h : mm_M) (Z : mm_M → Prop) : Prop :=
  ∀ h1 : mm_M, h1 = mm_nw h 100 30 → ∀ a2 : Nat, a2 = mm_z h → mm_k h1 (v0) = kd_Snapshots ∧ ge 0 ≤ v0 ∧ ∀ h5 : mm_M, h5 = mm_uP h1 (v0) 0 (some a2) → ∀ h6 : mm_M, h6 = mm_nw h5 105 6 → ∀ a7 : Nat, a7 = mm_z h5 → mm_k h6 (v0) = kd_Snapshots ∧ ge 0 ≤ v0 ∧ ∀ h10 : mm_M, h10 = mm_uP h6 (v0) 1 (some a7) → ∀ h11 : mm_M, h11 = mm_nw h10 102 6 → ∀ a12 : Nat, a12 = mm_z h10 → mm_k h11 (v0) = kd_Snapshots ∧ ge 0 ≤ v0 ∧ ∀ h15 : mm_M, h15 = mm_uP h11 (v0) 2 (some a12) → mm_k h15 (v0) = kd_Snapshots ∧ ge 0 ≤ v0 ∧ ∀ h18 : mm_M, h18 = mm_uI h15 (v0) 3 (0) → Z h18
set_option maxRecDepth 100000 in
set_option maxHeartbeats 4000000 in
theorem vb_Snapshots_init_0 {E : mm_E} {Z : mm_M → Prop} (hc : cx E "EpochServer$Snapshots" c_Snapshots_init 1 none rm_Snapshots_init) (hq : cq E rm_Snapshots_init (pV Z)) (hin : ci E)  (v0 : Nat) (h : mm_M) (hw : wq_Snapshots_init_0  (mm_ge (eG E)) v0 h Z) : V E 1 0 0 h 0 [(0, va_rf (some v0))] [] := by
  unfold wq_Snapshots_init_0 at hw
  refine V_aload_n hc 0 d_Snapshots_init_0 rfl rfl ?_
  refine V_objInit hc rfl (gw_of (tw_1 (List.mem_of_getElem? (i := 208) rfl)) rfl) (gw_of (tw_1 (List.mem_of_getElem? (i := 27) rfl)) rfl) (gw_of (tw_1 (List.mem_of_getElem? (i := 28) rfl)) rfl) d_Snapshots_init_1 (by decide) (by decide) ?_
  refine V_aload_n hc 0 d_Snapshots_init_4 rfl rfl ?_
  refine V_bipush (v := 30) hc d_Snapshots_init_5 (by decide) ?_
  obtain ⟨h1, eq_h1⟩ : ∃ x, x = mm_nw h 100 30 := ⟨_, rfl⟩
  replace hw := hw _ eq_h1
  refine V_newa (t := 0) (N := 30) (ty := .int) hc rfl rfl (fun _ q => q) (gw_of (tw_1 (List.mem_of_getElem? (i := 224) rfl)) rfl) (by decide) (by decide) (by decide) (by decide) (by decide) (by decide) (by decide) d_Snapshots_init_7 ?_
  rw [← eq_h1]
  obtain ⟨a2, eq_a2⟩ : ∃ x, x = mm_z h := ⟨_, rfl⟩
  replace hw := hw _ eq_a2
  rw [← eq_a2]
  refine V_wide (cs' := 1) (sl' := 30) (by decide) (by decide) ?_
  obtain ⟨q3, hw⟩ := hw
  obtain ⟨q4, hw⟩ := hw
  obtain ⟨h5, eq_h5⟩ : ∃ x, x = mm_uP h1 (v0) 0 (some a2) := ⟨_, rfl⟩
  replace hw := hw _ eq_h5
  refine V_putF (h' := h5) hc hin rfl (fun r hr => by cases hr; rfl) gf_Snapshots_9 rfl rfl q3 q4 (by rw [eq_h5]; exact mm_Up_P _ _ _ _) (by rw [eq_h5]; exact up_vP rfl) (pa_nar _) (pa_fit _) d_Snapshots_init_9 ?_
  refine V_aload_n hc 0 d_Snapshots_init_12 rfl rfl ?_
  refine V_bipush (v := 6) hc d_Snapshots_init_13 (by decide) ?_
  obtain ⟨h6, eq_h6⟩ : ∃ x, x = mm_nw h5 105 6 := ⟨_, rfl⟩
  replace hw := hw _ eq_h6
  refine V_anew (t := 5) (N := 6) (C := "EpochServer$Tree") hc rfl (by decide) (gw_of (tw_1 (List.mem_of_getElem? (i := 209) rfl)) rfl) (by decide) (by decide) (by decide) (by decide) (by decide) d_Snapshots_init_15 ?_
  rw [← eq_h6]
  obtain ⟨a7, eq_a7⟩ : ∃ x, x = mm_z h5 := ⟨_, rfl⟩
  replace hw := hw _ eq_a7
  rw [← eq_a7]
  refine V_wide (cs' := 2) (sl' := 36) (by decide) (by decide) ?_
  obtain ⟨q8, hw⟩ := hw
  obtain ⟨q9, hw⟩ := hw
  obtain ⟨h10, eq_h10⟩ : ∃ x, x = mm_uP h6 (v0) 1 (some a7) := ⟨_, rfl⟩
  replace hw := hw _ eq_h10
  refine V_putF (h' := h10) hc hin rfl (fun r hr => by cases hr; rfl) gf_Snapshots_17 rfl rfl q8 q9 (by rw [eq_h10]; exact mm_Up_P _ _ _ _) (by rw [eq_h10]; exact up_vP rfl) (pa_nar _) (pa_fit _) d_Snapshots_init_18 ?_
  refine V_aload_n hc 0 d_Snapshots_init_21 rfl rfl ?_
  refine V_bipush (v := 6) hc d_Snapshots_init_22 (by decide) ?_
  obtain ⟨h11, eq_h11⟩ : ∃ x, x = mm_nw h10 102 6 := ⟨_, rfl⟩
  replace hw := hw _ eq_h11
  refine V_newa (t := 2) (N := 6) (ty := .boolean) hc rfl rfl (fun _ q => q) (gw_of (tw_1 (List.mem_of_getElem? (i := 225) rfl)) rfl) (by decide) (by decide) (by decide) (by decide) (by decide) (by decide) (by decide) d_Snapshots_init_24 ?_
  rw [← eq_h11]
  obtain ⟨a12, eq_a12⟩ : ∃ x, x = mm_z h10 := ⟨_, rfl⟩
  replace hw := hw _ eq_a12
  rw [← eq_a12]
  refine V_wide (cs' := 3) (sl' := 42) (by decide) (by decide) ?_
  obtain ⟨q13, hw⟩ := hw
  obtain ⟨q14, hw⟩ := hw
  obtain ⟨h15, eq_h15⟩ : ∃ x, x = mm_uP h11 (v0) 2 (some a12) := ⟨_, rfl⟩
  replace hw := hw _ eq_h15
  refine V_putF (h' := h15) hc hin rfl (fun r hr => by cases hr; rfl) gf_Snapshots_21 rfl rfl q13 q14 (by rw [eq_h15]; exact mm_Up_P _ _ _ _) (by rw [eq_h15]; exact up_vP rfl) (pa_nar _) (pa_fit _) d_Snapshots_init_26 ?_
  refine V_aload_n hc 0 d_Snapshots_init_29 rfl rfl ?_
  refine V_iconst (v := 0) hc d_Snapshots_init_30 (by decide) ?_
  obtain ⟨q16, hw⟩ := hw
  obtain ⟨q17, hw⟩ := hw
  obtain ⟨h18, eq_h18⟩ : ∃ x, x = mm_uI h15 (v0) 3 (0) := ⟨_, rfl⟩
  replace hw := hw _ eq_h18
  refine V_put (h' := h18) hc gf_Snapshots_25 rfl rfl q16 q17 (by rw [eq_h18]; exact mm_Up_I _ _ _ _) (by rw [eq_h18]; exact up_vI rfl) (vp_nar_int _) rfl d_Snapshots_init_31 ?_
  exact V_vret hc hq ⟨rfl, hw⟩ (by decide) (by decide) d_Snapshots_init_34
def wq_Snapshots_init (ge : Nat → Nat) (v0 : Nat) (h : mm_M) (Z : mm_M → Prop) : Prop := wq_Snapshots_init_0 ge v0 h Z
theorem sat_Snapshots_init (G : mm_G) (v0 : Nat) (h : mm_M) (Z : mm_M → Prop) (hw : wq_Snapshots_init (mm_ge G) v0 h Z) : mm_Met G y_Snapshots_init c_Snapshots_init 1 none rm_Snapshots_init [va_rf (some v0)] h (pV Z) := by
  refine mm_intro (own := "EpochServer$Snapshots") (by decide) rfl (by simp [lg_sl, cat_rf, cat_i, cat_l]) (fun E e1 hc hq hi => ?_)
  subst e1
  have e2 : lv_args 0 [va_rf (some v0)] = [(0, va_rf (some v0))] := by simp [lv_args, cat_rf, cat_i, cat_l]
  rw [e2]
  refine V_sub (lv' := [(0, va_rf (some v0))]) [0] rfl ?_
  exact vb_Snapshots_init_0 hc hq (hi rfl) v0 h hw
/-! Snapshots.size()I -/
abbrev rm_Snapshots_size : Room := { frames := 0, cells := 0, slots := 0, locals := 0 }
def wq_Snapshots_size_0  (ge : Nat → Nat) (v0 : Nat) (h : mm_M) (Z : Int32 → mm_M → Prop) : Prop :=
  mm_k h (v0) = kd_Snapshots ∧ Z (mm_I h v0 3) h
set_option maxRecDepth 100000 in
set_option maxHeartbeats 4000000 in
theorem vb_Snapshots_size_0 {E : mm_E} {Z : Int32 → mm_M → Prop} (hc : cx E "EpochServer$Snapshots" c_Snapshots_size 1 (some (.int)) rm_Snapshots_size) (hq : cq E rm_Snapshots_size (pI Z))  (v0 : Nat) (h : mm_M) (hw : wq_Snapshots_size_0  (mm_ge (eG E)) v0 h Z) : V E 1 0 0 h 0 [(0, va_rf (some v0))] [] := by
  unfold wq_Snapshots_size_0 at hw
  refine V_aload_n hc 0 d_Snapshots_size_0 rfl rfl ?_
  obtain ⟨q1, hw⟩ := hw
  refine V_get (v := .int (mm_I h v0 3)) hc gf_Snapshots_25 rfl q1 rfl d_Snapshots_size_1 ?_
  exact V_iret hc hq ⟨_, rfl, hw⟩ (by decide) (by decide) d_Snapshots_size_4
def wq_Snapshots_size (ge : Nat → Nat) (v0 : Nat) (h : mm_M) (Z : Int32 → mm_M → Prop) : Prop := wq_Snapshots_size_0 ge v0 h Z
theorem sat_Snapshots_size (G : mm_G) (v0 : Nat) (h : mm_M) (Z : Int32 → mm_M → Prop) (hw : wq_Snapshots_size (mm_ge G) v0 h Z) : mm_Met G y_Snapshots_size c_Snapshots_size 1 (some (.int)) rm_Snapshots_size [va_rf (some v0)] h (pI Z) := by
  refine mm_intro (own := "EpochServer$Snapshots") (by decide) rfl (by simp [lg_sl, cat_rf, cat_i, cat_l]) (fun E e1 hc hq hi => ?_)
  subst e1
  have e2 : lv_args 0 [va_rf (some v0)] = [(0, va_rf (some v0))] := by simp [lv_args, cat_rf, cat_i, cat_l]
  rw [e2]
  refine V_sub (lv' := [(0, va_rf (some v0))]) [0] rfl ?_
  exact vb_Snapshots_size_0 hc hq v0 h hw
/-! Snapshots.take(LEpochServer$Tree;)I -/
abbrev rm_Snapshots_take : Room := { frames := 2, cells := 2, slots := 61, locals := 44 }
def wq_Snapshots_take_0  (ge : Nat → Nat) (v0 : Nat) (v1 : Option Nat) (h : mm_M) (Z : Int32 → mm_M → Prop) : Prop :=
  mm_k h (v0) = kd_Snapshots ∧ (((mm_I h v0 3 : Int32) < (6 : Int32) → ∀ h2 : mm_M, h2 = mm_nw h 13 0 → ∀ a3 : Nat, a3 = mm_z h → wq_Tree_init ge (a3) h2 (fun h4 : mm_M => mm_k h4 (a3) = kd_Tree ∧ wq_Tree_takeOver ge (a3) (v1) h4 (fun h7 : mm_M => mm_k h7 (v0) = kd_Snapshots ∧ ∃ a10, mm_P h7 v0 1 = some a10 ∧ mm_k h7 (a10) = ka_Tree ∧ vp_in (mm_I h7 v0 3) (mm_n h7 a10) ∧ ge 0 ≤ a10 ∧ (∀ b16, some a3 = some b16 → mm_k h7 b16 = kd_Tree) ∧ ∀ h17 : mm_M, h17 = mm_uP h7 a10 (Int32.toNatClampNeg (mm_I h7 v0 3)) (some a3) → mm_k h17 (v0) = kd_Snapshots ∧ ge 0 ≤ v0 ∧ ∀ h20 : mm_M, h20 = mm_uI h17 (v0) 3 ((mm_I h17 v0 3) + (1 : Int32)) → mm_k h20 (v0) = kd_Snapshots ∧ Z ((mm_I h20 v0 3) - (1 : Int32)) h20))) ∧ (¬ (mm_I h v0 3 : Int32) < (6 : Int32) → Z ((-1)) h))
set_option maxRecDepth 100000 in
set_option maxHeartbeats 4000000 in
theorem vb_Snapshots_take_0 {E : mm_E} {Z : Int32 → mm_M → Prop} (hc : cx E "EpochServer$Snapshots" c_Snapshots_take 3 (some (.int)) rm_Snapshots_take) (hq : cq E rm_Snapshots_take (pI Z))  (v0 : Nat) (v1 : Option Nat) (h : mm_M) (hw : wq_Snapshots_take_0  (mm_ge (eG E)) v0 v1 h Z) : V E 3 0 0 h 0 [(0, va_rf (some v0)), (1, va_rf (v1))] [] := by
  unfold wq_Snapshots_take_0 at hw
  refine V_aload_n hc 0 d_Snapshots_take_0 rfl rfl ?_
  obtain ⟨q1, hw⟩ := hw
  refine V_get (v := .int (mm_I h v0 3)) hc gf_Snapshots_25 rfl q1 rfl d_Snapshots_take_1 ?_
  refine V_bipush (v := 6) hc d_Snapshots_take_4 (by decide) ?_
  refine V_icmp_lt (tgt := 11) hc d_Snapshots_take_6 (by decide) (fun hq1 => ?_) (fun hq1 => ?_)
  · replace hw := hw.1 hq1
    obtain ⟨h2, eq_h2⟩ : ∃ x, x = mm_nw h 13 0 := ⟨_, rfl⟩
    replace hw := hw _ eq_h2
    refine V_new (cn := 12) (N := 1) (r := (R_Tree, T_Tree, 1, t_Tree)) hc rfl rfl (gw_of (tw_1 (List.mem_of_getElem? (i := 209) rfl)) rfl) (gw_of (tw_1 (List.mem_of_getElem? (i := 173) rfl)) rfl) (gw_of (tw_1 (List.mem_of_getElem? (i := 7) rfl)) rfl) (by decide) (by decide) (by decide) d_Snapshots_take_11 ?_
    rw [← eq_h2]
    obtain ⟨a3, eq_a3⟩ : ∃ x, x = mm_z h := ⟨_, rfl⟩
    replace hw := hw _ eq_a3
    rw [← eq_a3]
    refine V_wide (cs' := 1) (sl' := 1) (by decide) (by decide) ?_
    refine V_dup hc d_Snapshots_take_14 (cat_rf _) ?_
    refine V_callIN (rm' := rm_Tree_init) (As := []) (rest := [va_rf (some a3)]) (n := 0) hc rfl (sat_Tree_init (eG E) _ _ _ hw) cv_Snapshots_29 (gw_of (tw_1 (List.mem_of_getElem? (i := 175) rfl)) rfl) rfl rfl ⟨by decide, by decide⟩ (by decide) (by decide) rfl (by simp [cat_rf, cat_i, cat_l]) d_Snapshots_take_15 (fun r0 h4 hw => ?_)
    obtain ⟨rfl, hw⟩ := hw
    refine V_wide (cs' := 2) (sl' := 61) (by decide) (by decide) ?_
    refine V_st (st' := [va_rf (some a3)]) rfl ?_
    refine V_astore_n (i := 2) (lv' := [(2, va_rf (some a3)), (0, va_rf (some v0)), (1, va_rf (v1))]) hc d_Snapshots_take_18 rfl (by decide) (by simp [cat_rf, cat_i, cat_l]) ?_
    refine V_aload_n hc 0 d_Snapshots_take_19 rfl rfl ?_
    refine V_aload_n hc 2 d_Snapshots_take_20 rfl rfl ?_
    obtain ⟨q6, hw⟩ := hw
    refine V_callV (rm' := rm_Tree_takeOver) (As := [va_rf (v1)]) (rest := []) (n := 1) (cn := 12) hc rfl q6 (sat_Tree_takeOver (eG E) _ _ _ _ hw) rfl cv_Snapshots_30 (gw_of (tw_3 (List.mem_of_getElem? (i := 101) rfl)) rfl) ss_Tree_takeOver rfl ⟨by decide, by decide⟩ (by decide) (by decide) rfl (by simp [cat_rf, cat_i, cat_l]) d_Snapshots_take_21 (fun r0 h7 hw => ?_)
    obtain ⟨rfl, hw⟩ := hw
    refine V_wide (cs' := 2) (sl' := 61) (by decide) (by decide) ?_
    refine V_st (st' := []) rfl ?_
    refine V_aload_n hc 1 d_Snapshots_take_24 rfl rfl ?_
    obtain ⟨q9, hw⟩ := hw
    refine V_get (v := va_rf (mm_P h7 v0 1)) hc gf_Snapshots_17 rfl q9 rfl d_Snapshots_take_25 ?_
    refine V_aload_n hc 1 d_Snapshots_take_28 rfl rfl ?_
    refine V_get (v := .int (mm_I h7 v0 3)) hc gf_Snapshots_25 rfl q9 rfl d_Snapshots_take_29 ?_
    refine V_aload_n hc 0 d_Snapshots_take_32 rfl rfl ?_
    obtain ⟨a10, q11, hw⟩ := hw
    obtain ⟨q12, hw⟩ := hw
    obtain ⟨q13, hw⟩ := hw
    obtain ⟨q14, hw⟩ := hw
    obtain ⟨q15, hw⟩ := hw
    obtain ⟨h17, eq_h17⟩ : ∃ x, x = mm_uP h7 a10 (Int32.toNatClampNeg (mm_I h7 v0 3)) (some a3) := ⟨_, rfl⟩
    replace hw := hw _ eq_h17
    refine V_aast (t := 5) (cn := 12) (C := R_Tree) hc rfl rfl q11 q12 q13 q15 q14 d_Snapshots_take_33 ?_
    rw [← eq_h17]
    refine V_aload_n hc 1 d_Snapshots_take_34 rfl rfl ?_
    refine V_dup hc d_Snapshots_take_35 (cat_rf _) ?_
    obtain ⟨q18, hw⟩ := hw
    refine V_get (v := .int (mm_I h17 v0 3)) hc gf_Snapshots_25 rfl q18 rfl d_Snapshots_take_36 ?_
    refine V_iconst (v := 1) hc d_Snapshots_take_39 (by decide) ?_
    refine V_iadd hc d_Snapshots_take_40 ?_
    obtain ⟨q19, hw⟩ := hw
    obtain ⟨h20, eq_h20⟩ : ∃ x, x = mm_uI h17 (v0) 3 ((mm_I h17 v0 3) + (1 : Int32)) := ⟨_, rfl⟩
    replace hw := hw _ eq_h20
    refine V_put (h' := h20) hc gf_Snapshots_25 rfl rfl q18 q19 (by rw [eq_h20]; exact mm_Up_I _ _ _ _) (by rw [eq_h20]; exact up_vI rfl) (vp_nar_int _) rfl d_Snapshots_take_41 ?_
    refine V_aload_n hc 1 d_Snapshots_take_44 rfl rfl ?_
    obtain ⟨q21, hw⟩ := hw
    refine V_get (v := .int (mm_I h20 v0 3)) hc gf_Snapshots_25 rfl q21 rfl d_Snapshots_take_45 ?_
    refine V_iconst (v := 1) hc d_Snapshots_take_48 (by decide) ?_
    refine V_isub hc d_Snapshots_take_49 ?_
    exact V_iret hc hq ⟨_, rfl, hw⟩ (by decide) (by decide) d_Snapshots_take_50
  · replace hw := hw.2 hq1
    refine V_iconst (v := (-1)) hc d_Snapshots_take_9 (by decide) ?_
    exact V_iret hc hq ⟨_, rfl, hw⟩ (by decide) (by decide) d_Snapshots_take_10
def wq_Snapshots_take (ge : Nat → Nat) (v0 : Nat) (v1 : Option Nat) (h : mm_M) (Z : Int32 → mm_M → Prop) : Prop := wq_Snapshots_take_0 ge v0 v1 h Z
theorem sat_Snapshots_take (G : mm_G) (v0 : Nat) (v1 : Option Nat) (h : mm_M) (Z : Int32 → mm_M → Prop) (hw : wq_Snapshots_take (mm_ge G) v0 v1 h Z) : mm_Met G y_Snapshots_take c_Snapshots_take 3 (some (.int)) rm_Snapshots_take [va_rf (some v0), va_rf (v1)] h (pI Z) := by
  refine mm_intro (own := "EpochServer$Snapshots") (by decide) rfl (by simp [lg_sl, cat_rf, cat_i, cat_l]) (fun E e1 hc hq hi => ?_)
  subst e1
  have e2 : lv_args 0 [va_rf (some v0), va_rf (v1)] = [(0, va_rf (some v0)), (1, va_rf (v1))] := by simp [lv_args, cat_rf, cat_i, cat_l]
  rw [e2]
  refine V_sub (lv' := [(0, va_rf (some v0)), (1, va_rf (v1))]) [0, 1] rfl ?_
  exact vb_Snapshots_take_0 hc hq v0 v1 h hw
/-! Snapshots.tree(I)LEpochServer$Tree; -/
abbrev rm_Snapshots_tree : Room := { frames := 0, cells := 0, slots := 0, locals := 0 }
def wq_Snapshots_tree_22  (ge : Nat → Nat) (s0 : Option Nat) (h : mm_M) (Z : Option Nat → mm_M → Prop) : Prop :=
  Z (s0) h
def wq_Snapshots_tree_12  (ge : Nat → Nat)  (h : mm_M) (Z : Option Nat → mm_M → Prop) : Prop :=
  wq_Snapshots_tree_22  ge (none) h Z
def wq_Snapshots_tree_0  (ge : Nat → Nat) (v0 : Nat) (v1 : Int32) (h : mm_M) (Z : Option Nat → mm_M → Prop) : Prop :=
  (((v1) < 0 → wq_Snapshots_tree_12  ge h Z) ∧ (¬ (v1) < 0 → mm_k h (v0) = kd_Snapshots ∧ (((v1 : Int32) < (mm_I h v0 3 : Int32) → ∃ a2, mm_P h v0 1 = some a2 ∧ mm_k h (a2) = ka_Tree ∧ vp_in (v1) (mm_n h a2) ∧ wq_Snapshots_tree_22  ge (mm_P h a2 (Int32.toNatClampNeg (v1))) h Z) ∧ (¬ (v1 : Int32) < (mm_I h v0 3 : Int32) → wq_Snapshots_tree_12  ge h Z))))
set_option maxRecDepth 100000 in
set_option maxHeartbeats 4000000 in
theorem vb_Snapshots_tree_22 {E : mm_E} {Z : Option Nat → mm_M → Prop} (hc : cx E "EpochServer$Snapshots" c_Snapshots_tree 2 (some ((.object "EpochServer$Tree"))) rm_Snapshots_tree) (hq : cq E rm_Snapshots_tree (pP Z))  (s0 : Option Nat) (h : mm_M) (hw : wq_Snapshots_tree_22  (mm_ge (eG E)) s0 h Z) : V E 2 0 0 h 22 [] [va_rf (s0)] := by
  unfold wq_Snapshots_tree_22 at hw
  exact V_aret hc hq (by first | exact Or.inl ⟨_, rfl⟩ | exact Or.inr ⟨_, rfl⟩) ⟨_, rfl, hw⟩ (by decide) (by decide) d_Snapshots_tree_22
set_option maxRecDepth 100000 in
set_option maxHeartbeats 4000000 in
theorem vb_Snapshots_tree_12 {E : mm_E} {Z : Option Nat → mm_M → Prop} (hc : cx E "EpochServer$Snapshots" c_Snapshots_tree 2 (some ((.object "EpochServer$Tree"))) rm_Snapshots_tree) (hq : cq E rm_Snapshots_tree (pP Z))   (h : mm_M) (hw : wq_Snapshots_tree_12  (mm_ge (eG E))  h Z) : V E 2 0 0 h 12 [] [] := by
  unfold wq_Snapshots_tree_12 at hw
  refine V_null hc d_Snapshots_tree_12 ?_
  refine V_goto (tgt := 22) hc d_Snapshots_tree_13 (by decide) ?_
  refine V_sub (lv' := []) [] rfl ?_
  exact vb_Snapshots_tree_22 hc hq  _ _ hw
set_option maxRecDepth 100000 in
set_option maxHeartbeats 4000000 in
theorem vb_Snapshots_tree_0 {E : mm_E} {Z : Option Nat → mm_M → Prop} (hc : cx E "EpochServer$Snapshots" c_Snapshots_tree 2 (some ((.object "EpochServer$Tree"))) rm_Snapshots_tree) (hq : cq E rm_Snapshots_tree (pP Z))  (v0 : Nat) (v1 : Int32) (h : mm_M) (hw : wq_Snapshots_tree_0  (mm_ge (eG E)) v0 v1 h Z) : V E 2 0 0 h 0 [(0, va_rf (some v0)), (1, .int (v1))] [] := by
  unfold wq_Snapshots_tree_0 at hw
  refine V_iload_n hc 1 d_Snapshots_tree_0 rfl rfl ?_
  refine V_if_lt (tgt := 12) hc d_Snapshots_tree_1 (by decide) (fun hq1 => ?_) (fun hq1 => ?_)
  · replace hw := hw.1 hq1
    refine V_sub (lv' := []) [] rfl ?_
    exact vb_Snapshots_tree_12 hc hq  _ hw
  · replace hw := hw.2 hq1
    refine V_iload_n hc 1 d_Snapshots_tree_4 rfl rfl ?_
    refine V_aload_n hc 0 d_Snapshots_tree_5 rfl rfl ?_
    obtain ⟨q1, hw⟩ := hw
    refine V_get (v := .int (mm_I h v0 3)) hc gf_Snapshots_25 rfl q1 rfl d_Snapshots_tree_6 ?_
    refine V_icmp_lt (tgt := 16) hc d_Snapshots_tree_9 (by decide) (fun hq1 => ?_) (fun hq1 => ?_)
    · replace hw := hw.1 hq1
      refine V_aload_n hc 0 d_Snapshots_tree_16 rfl rfl ?_
      refine V_get (v := va_rf (mm_P h v0 1)) hc gf_Snapshots_17 rfl q1 rfl d_Snapshots_tree_17 ?_
      refine V_iload_n hc 1 d_Snapshots_tree_20 rfl rfl ?_
      obtain ⟨a2, q3, hw⟩ := hw
      obtain ⟨q4, hw⟩ := hw
      obtain ⟨q5, hw⟩ := hw
      refine V_aald (t := 5) (ty := .object "EpochServer$Tree") hc rfl rfl rfl q3 q4 q5 d_Snapshots_tree_21 ?_
      refine V_sub (lv' := []) [] rfl ?_
      exact vb_Snapshots_tree_22 hc hq  _ _ hw
    · replace hw := hw.2 hq1
      refine V_sub (lv' := []) [] rfl ?_
      exact vb_Snapshots_tree_12 hc hq  _ hw
def wq_Snapshots_tree (ge : Nat → Nat) (v0 : Nat) (v1 : Int32) (h : mm_M) (Z : Option Nat → mm_M → Prop) : Prop := wq_Snapshots_tree_0 ge v0 v1 h Z
theorem sat_Snapshots_tree (G : mm_G) (v0 : Nat) (v1 : Int32) (h : mm_M) (Z : Option Nat → mm_M → Prop) (hw : wq_Snapshots_tree (mm_ge G) v0 v1 h Z) : mm_Met G y_Snapshots_tree c_Snapshots_tree 2 (some ((.object "EpochServer$Tree"))) rm_Snapshots_tree [va_rf (some v0), .int (v1)] h (pP Z) := by
  refine mm_intro (own := "EpochServer$Snapshots") (by decide) rfl (by simp [lg_sl, cat_rf, cat_i, cat_l]) (fun E e1 hc hq hi => ?_)
  subst e1
  have e2 : lv_args 0 [va_rf (some v0), .int (v1)] = [(0, va_rf (some v0)), (1, .int (v1))] := by simp [lv_args, cat_rf, cat_i, cat_l]
  rw [e2]
  refine V_sub (lv' := [(0, va_rf (some v0)), (1, .int (v1))]) [0, 1] rfl ?_
  exact vb_Snapshots_tree_0 hc hq v0 v1 h hw
/-! Snapshots.isScored(I)Z -/
abbrev rm_Snapshots_isScored : Room := { frames := 0, cells := 0, slots := 0, locals := 0 }
def wq_Snapshots_isScored_26  (ge : Nat → Nat) (s0 : Int32) (h : mm_M) (Z : Int32 → mm_M → Prop) : Prop :=
  ((s0) = 0 ∨ (s0) = 1) ∧ Z (s0) h
def wq_Snapshots_isScored_25  (ge : Nat → Nat)  (h : mm_M) (Z : Int32 → mm_M → Prop) : Prop :=
  wq_Snapshots_isScored_26  ge (0) h Z
def wq_Snapshots_isScored_0  (ge : Nat → Nat) (v0 : Nat) (v1 : Int32) (h : mm_M) (Z : Int32 → mm_M → Prop) : Prop :=
  (((v1) < 0 → wq_Snapshots_isScored_25  ge h Z) ∧ (¬ (v1) < 0 → mm_k h (v0) = kd_Snapshots ∧ (((mm_I h v0 3 : Int32) ≤ (v1 : Int32) → wq_Snapshots_isScored_25  ge h Z) ∧ (¬ (mm_I h v0 3 : Int32) ≤ (v1 : Int32) → ∃ a2, mm_P h v0 2 = some a2 ∧ mm_k h (a2) = ka_Z ∧ vp_in (v1) (mm_n h a2) ∧ (((mm_I h a2 (Int32.toNatClampNeg (v1))) = 0 → wq_Snapshots_isScored_25  ge h Z) ∧ (¬ (mm_I h a2 (Int32.toNatClampNeg (v1))) = 0 → wq_Snapshots_isScored_26  ge (1) h Z))))))
set_option maxRecDepth 100000 in
set_option maxHeartbeats 4000000 in
theorem vb_Snapshots_isScored_26 {E : mm_E} {Z : Int32 → mm_M → Prop} (hc : cx E "EpochServer$Snapshots" c_Snapshots_isScored 2 (some (.boolean)) rm_Snapshots_isScored) (hq : cq E rm_Snapshots_isScored (pI Z))  (s0 : Int32) (h : mm_M) (hw : wq_Snapshots_isScored_26  (mm_ge (eG E)) s0 h Z) : V E 2 0 0 h 26 [] [.int (s0)] := by
  unfold wq_Snapshots_isScored_26 at hw
  obtain ⟨q1, hw⟩ := hw
  exact V_zret hc hq (zz_nar q1) ⟨_, rfl, hw⟩ (by decide) (by decide) d_Snapshots_isScored_26
set_option maxRecDepth 100000 in
set_option maxHeartbeats 4000000 in
theorem vb_Snapshots_isScored_25 {E : mm_E} {Z : Int32 → mm_M → Prop} (hc : cx E "EpochServer$Snapshots" c_Snapshots_isScored 2 (some (.boolean)) rm_Snapshots_isScored) (hq : cq E rm_Snapshots_isScored (pI Z))   (h : mm_M) (hw : wq_Snapshots_isScored_25  (mm_ge (eG E))  h Z) : V E 2 0 0 h 25 [] [] := by
  unfold wq_Snapshots_isScored_25 at hw
  refine V_iconst (v := 0) hc d_Snapshots_isScored_25 (by decide) ?_
  refine V_sub (lv' := []) [] rfl ?_
  exact vb_Snapshots_isScored_26 hc hq  _ _ hw
set_option maxRecDepth 100000 in
set_option maxHeartbeats 4000000 in
theorem vb_Snapshots_isScored_0 {E : mm_E} {Z : Int32 → mm_M → Prop} (hc : cx E "EpochServer$Snapshots" c_Snapshots_isScored 2 (some (.boolean)) rm_Snapshots_isScored) (hq : cq E rm_Snapshots_isScored (pI Z))  (v0 : Nat) (v1 : Int32) (h : mm_M) (hw : wq_Snapshots_isScored_0  (mm_ge (eG E)) v0 v1 h Z) : V E 2 0 0 h 0 [(0, va_rf (some v0)), (1, .int (v1))] [] := by
  unfold wq_Snapshots_isScored_0 at hw
  refine V_iload_n hc 1 d_Snapshots_isScored_0 rfl rfl ?_
  refine V_if_lt (tgt := 25) hc d_Snapshots_isScored_1 (by decide) (fun hq1 => ?_) (fun hq1 => ?_)
  · replace hw := hw.1 hq1
    refine V_sub (lv' := []) [] rfl ?_
    exact vb_Snapshots_isScored_25 hc hq  _ hw
  · replace hw := hw.2 hq1
    refine V_iload_n hc 1 d_Snapshots_isScored_4 rfl rfl ?_
    refine V_aload_n hc 0 d_Snapshots_isScored_5 rfl rfl ?_
    obtain ⟨q1, hw⟩ := hw
    refine V_get (v := .int (mm_I h v0 3)) hc gf_Snapshots_25 rfl q1 rfl d_Snapshots_isScored_6 ?_
    refine V_icmp_ge (tgt := 25) hc d_Snapshots_isScored_9 (by decide) (fun hq1 => ?_) (fun hq1 => ?_)
    · replace hw := hw.1 hq1
      refine V_sub (lv' := []) [] rfl ?_
      exact vb_Snapshots_isScored_25 hc hq  _ hw
    · replace hw := hw.2 hq1
      refine V_aload_n hc 0 d_Snapshots_isScored_12 rfl rfl ?_
      refine V_get (v := va_rf (mm_P h v0 2)) hc gf_Snapshots_21 rfl q1 rfl d_Snapshots_isScored_13 ?_
      refine V_iload_n hc 1 d_Snapshots_isScored_16 rfl rfl ?_
      obtain ⟨a2, q3, hw⟩ := hw
      obtain ⟨q4, hw⟩ := hw
      obtain ⟨q5, hw⟩ := hw
      refine V_zald hc q3 q4 q5 d_Snapshots_isScored_17 ?_
      refine V_if_eq (tgt := 25) hc d_Snapshots_isScored_18 (by decide) (fun hq1 => ?_) (fun hq1 => ?_)
      · replace hw := hw.1 hq1
        refine V_sub (lv' := []) [] rfl ?_
        exact vb_Snapshots_isScored_25 hc hq  _ hw
      · replace hw := hw.2 hq1
        refine V_iconst (v := 1) hc d_Snapshots_isScored_21 (by decide) ?_
        refine V_goto (tgt := 26) hc d_Snapshots_isScored_22 (by decide) ?_
        refine V_sub (lv' := []) [] rfl ?_
        exact vb_Snapshots_isScored_26 hc hq  _ _ hw
def wq_Snapshots_isScored (ge : Nat → Nat) (v0 : Nat) (v1 : Int32) (h : mm_M) (Z : Int32 → mm_M → Prop) : Prop := wq_Snapshots_isScored_0 ge v0 v1 h Z
theorem sat_Snapshots_isScored (G : mm_G) (v0 : Nat) (v1 : Int32) (h : mm_M) (Z : Int32 → mm_M → Prop) (hw : wq_Snapshots_isScored (mm_ge G) v0 v1 h Z) : mm_Met G y_Snapshots_isScored c_Snapshots_isScored 2 (some (.boolean)) rm_Snapshots_isScored [va_rf (some v0), .int (v1)] h (pI Z) := by
  refine mm_intro (own := "EpochServer$Snapshots") (by decide) rfl (by simp [lg_sl, cat_rf, cat_i, cat_l]) (fun E e1 hc hq hi => ?_)
  subst e1
  have e2 : lv_args 0 [va_rf (some v0), .int (v1)] = [(0, va_rf (some v0)), (1, .int (v1))] := by simp [lv_args, cat_rf, cat_i, cat_l]
  rw [e2]
  refine V_sub (lv' := [(0, va_rf (some v0)), (1, .int (v1))]) [0, 1] rfl ?_
  exact vb_Snapshots_isScored_0 hc hq v0 v1 h hw
/-! Snapshots.setScored(I)V -/
abbrev rm_Snapshots_setScored : Room := { frames := 0, cells := 0, slots := 0, locals := 0 }
def wq_Snapshots_setScored_19  (ge : Nat → Nat)  (h : mm_M) (Z : mm_M → Prop) : Prop :=
  Z h
def wq_Snapshots_setScored_0  (ge : Nat → Nat) (v0 : Nat) (v1 : Int32) (h : mm_M) (Z : mm_M → Prop) : Prop :=
  (((v1) < 0 → wq_Snapshots_setScored_19  ge h Z) ∧ (¬ (v1) < 0 → mm_k h (v0) = kd_Snapshots ∧ (((mm_I h v0 3 : Int32) ≤ (v1 : Int32) → wq_Snapshots_setScored_19  ge h Z) ∧ (¬ (mm_I h v0 3 : Int32) ≤ (v1 : Int32) → ∃ a2, mm_P h v0 2 = some a2 ∧ mm_k h (a2) = ka_Z ∧ vp_in (v1) (mm_n h a2) ∧ ge 0 ≤ a2 ∧ ∀ h7 : mm_M, h7 = mm_uI h a2 (Int32.toNatClampNeg (v1)) (vp_nar .boolean (1)) → wq_Snapshots_setScored_19  ge h7 Z))))
set_option maxRecDepth 100000 in
set_option maxHeartbeats 4000000 in
theorem vb_Snapshots_setScored_19 {E : mm_E} {Z : mm_M → Prop} (hc : cx E "EpochServer$Snapshots" c_Snapshots_setScored 2 none rm_Snapshots_setScored) (hq : cq E rm_Snapshots_setScored (pV Z))   (h : mm_M) (hw : wq_Snapshots_setScored_19  (mm_ge (eG E))  h Z) : V E 2 0 0 h 19 [] [] := by
  unfold wq_Snapshots_setScored_19 at hw
  exact V_vret hc hq ⟨rfl, hw⟩ (by decide) (by decide) d_Snapshots_setScored_19
set_option maxRecDepth 100000 in
set_option maxHeartbeats 4000000 in
theorem vb_Snapshots_setScored_0 {E : mm_E} {Z : mm_M → Prop} (hc : cx E "EpochServer$Snapshots" c_Snapshots_setScored 2 none rm_Snapshots_setScored) (hq : cq E rm_Snapshots_setScored (pV Z))  (v0 : Nat) (v1 : Int32) (h : mm_M) (hw : wq_Snapshots_setScored_0  (mm_ge (eG E)) v0 v1 h Z) : V E 2 0 0 h 0 [(0, va_rf (some v0)), (1, .int (v1))] [] := by
  unfold wq_Snapshots_setScored_0 at hw
  refine V_iload_n hc 1 d_Snapshots_setScored_0 rfl rfl ?_
  refine V_if_lt (tgt := 19) hc d_Snapshots_setScored_1 (by decide) (fun hq1 => ?_) (fun hq1 => ?_)
  · replace hw := hw.1 hq1
    refine V_sub (lv' := []) [] rfl ?_
    exact vb_Snapshots_setScored_19 hc hq  _ hw
  · replace hw := hw.2 hq1
    refine V_iload_n hc 1 d_Snapshots_setScored_4 rfl rfl ?_
    refine V_aload_n hc 0 d_Snapshots_setScored_5 rfl rfl ?_
    obtain ⟨q1, hw⟩ := hw
    refine V_get (v := .int (mm_I h v0 3)) hc gf_Snapshots_25 rfl q1 rfl d_Snapshots_setScored_6 ?_
    refine V_icmp_ge (tgt := 19) hc d_Snapshots_setScored_9 (by decide) (fun hq1 => ?_) (fun hq1 => ?_)
    · replace hw := hw.1 hq1
      refine V_sub (lv' := []) [] rfl ?_
      exact vb_Snapshots_setScored_19 hc hq  _ hw
    · replace hw := hw.2 hq1
      refine V_aload_n hc 0 d_Snapshots_setScored_12 rfl rfl ?_
      refine V_get (v := va_rf (mm_P h v0 2)) hc gf_Snapshots_21 rfl q1 rfl d_Snapshots_setScored_13 ?_
      refine V_iload_n hc 1 d_Snapshots_setScored_16 rfl rfl ?_
      refine V_iconst (v := 1) hc d_Snapshots_setScored_17 (by decide) ?_
      obtain ⟨a2, q3, hw⟩ := hw
      obtain ⟨q4, hw⟩ := hw
      obtain ⟨q5, hw⟩ := hw
      obtain ⟨q6, hw⟩ := hw
      obtain ⟨h7, eq_h7⟩ : ∃ x, x = mm_uI h a2 (Int32.toNatClampNeg (v1)) (vp_nar .boolean (1)) := ⟨_, rfl⟩
      replace hw := hw _ eq_h7
      refine V_zast hc q3 q4 q5 q6 d_Snapshots_setScored_18 ?_
      rw [← eq_h7]
      refine V_sub (lv' := []) [] rfl ?_
      exact vb_Snapshots_setScored_19 hc hq  _ hw
def wq_Snapshots_setScored (ge : Nat → Nat) (v0 : Nat) (v1 : Int32) (h : mm_M) (Z : mm_M → Prop) : Prop := wq_Snapshots_setScored_0 ge v0 v1 h Z
theorem sat_Snapshots_setScored (G : mm_G) (v0 : Nat) (v1 : Int32) (h : mm_M) (Z : mm_M → Prop) (hw : wq_Snapshots_setScored (mm_ge G) v0 v1 h Z) : mm_Met G y_Snapshots_setScored c_Snapshots_setScored 2 none rm_Snapshots_setScored [va_rf (some v0), .int (v1)] h (pV Z) := by
  refine mm_intro (own := "EpochServer$Snapshots") (by decide) rfl (by simp [lg_sl, cat_rf, cat_i, cat_l]) (fun E e1 hc hq hi => ?_)
  subst e1
  have e2 : lv_args 0 [va_rf (some v0), .int (v1)] = [(0, va_rf (some v0)), (1, .int (v1))] := by simp [lv_args, cat_rf, cat_i, cat_l]
  rw [e2]
  refine V_sub (lv' := [(0, va_rf (some v0)), (1, .int (v1))]) [0, 1] rfl ?_
  exact vb_Snapshots_setScored_0 hc hq v0 v1 h hw
