/-! Store.put([II)Z -/
abbrev rm_Store_put : Room := { frames := 1, cells := 0, slots := 0, locals := 24 }
def wq_Store_put_24 (X24 : Nat → Option Nat → Int32 → Int32 → mm_M → Prop) (ge : Nat → Nat) (v0 : Nat) (v1 : Option Nat) (v2 : Int32) (v3 : Int32) (h : mm_M) (Z : Int32 → mm_M → Prop) : Prop :=
  (((5 : Int32) ≤ (v3 : Int32) → mm_k h (v0) = kd_Store ∧ ge 0 ≤ v0 ∧ ∀ h3 : mm_M, h3 = mm_uI h (v0) 0 ((mm_I h v0 0) + (1 : Int32)) → mm_k h3 (v0) = kd_Store ∧ ge 0 ≤ v0 ∧ ∀ h6 : mm_M, h6 = mm_uI h3 (v0) 1 ((mm_I h3 v0 1) + (v2)) → Z (1) h6) ∧ (¬ (5 : Int32) ≤ (v3 : Int32) → mm_k h (v0) = kd_Store ∧ ∃ a8, v1 = some a8 ∧ mm_k h (a8) = ka_I ∧ vp_in (v3) (mm_n h a8) ∧ ∃ a12, mm_P h v0 2 = some a12 ∧ mm_k h (a12) = ka_I ∧ vp_in (((mm_I h v0 0) * (5 : Int32)) + (v3)) (mm_n h a12) ∧ ge 0 ≤ a12 ∧ ∀ h17 : mm_M, h17 = mm_uI h a12 (Int32.toNatClampNeg (((mm_I h v0 0) * (5 : Int32)) + (v3))) (mm_I h a8 (Int32.toNatClampNeg (v3))) → X24 (v0) (v1) (v2) (v3 + 1) h17))
def lp_Store_put_24  (ge : Nat → Nat) (v0 : Nat) (v1 : Option Nat) (v2 : Int32) (v3 : Int32) (h : mm_M) (Z : Int32 → mm_M → Prop) : Prop :=
  ∀ X24 : Nat → Option Nat → Int32 → Int32 → mm_M → Prop, (∀ (v0 : Nat) (v1 : Option Nat) (v2 : Int32) (v3 : Int32) (h : mm_M), wq_Store_put_24 X24 ge v0 v1 v2 v3 h Z → X24 v0 v1 v2 v3 h) → X24 v0 v1 v2 v3 h
def wq_Store_put_0  (ge : Nat → Nat) (v0 : Nat) (v1 : Option Nat) (v2 : Int32) (h : mm_M) (Z : Int32 → mm_M → Prop) : Prop :=
  mm_k h (v0) = kd_Store ∧ wq_Store_holds ge (v0) (v1) h (fun (r3 : Int32) (h2 : mm_M) => (((r3) = 0 → mm_k h2 (v0) = kd_Store ∧ (((mm_I h2 v0 0 : Int32) < (600 : Int32) → lp_Store_put_24  ge (v0) (v1) (v2) (0) h2 Z) ∧ (¬ (mm_I h2 v0 0 : Int32) < (600 : Int32) → Z (0) h2))) ∧ (¬ (r3) = 0 → Z (1) h2)))
set_option maxRecDepth 100000 in
set_option maxHeartbeats 4000000 in
theorem vb_Store_put_24 {E : mm_E} {Z : Int32 → mm_M → Prop} (hc : cx E "EpochServer$Store" c_Store_put 4 (some (.boolean)) rm_Store_put) (hq : cq E rm_Store_put (pI Z)) (X24 : Nat → Option Nat → Int32 → Int32 → mm_M → Prop) (hX24 : ∀ (v0 : Nat) (v1 : Option Nat) (v2 : Int32) (v3 : Int32) (h : mm_M), X24 v0 v1 v2 v3 h → V E 4 0 0 h 24 [(0, va_rf (some v0)), (1, va_rf (v1)), (2, .int (v2)), (3, .int (v3))] []) (v0 : Nat) (v1 : Option Nat) (v2 : Int32) (v3 : Int32) (h : mm_M) (hw : wq_Store_put_24 X24 (mm_ge (eG E)) v0 v1 v2 v3 h Z) : V E 4 0 0 h 24 [(0, va_rf (some v0)), (1, va_rf (v1)), (2, .int (v2)), (3, .int (v3))] [] := by
  unfold wq_Store_put_24 at hw
  refine V_iload_n hc 3 d_Store_put_24 rfl rfl ?_
  refine V_iconst (v := 5) hc d_Store_put_25 (by decide) ?_
  refine V_icmp_ge (tgt := 51) hc d_Store_put_26 (by decide) (fun hq1 => ?_) (fun hq1 => ?_)
  · replace hw := hw.1 hq1
    refine V_aload_n hc 0 d_Store_put_51 rfl rfl ?_
    refine V_dup hc d_Store_put_52 (cat_rf _) ?_
    obtain ⟨q1, hw⟩ := hw
    refine V_get (v := .int (mm_I h v0 0)) hc gf_Store_9 rfl q1 rfl d_Store_put_53 ?_
    refine V_iconst (v := 1) hc d_Store_put_56 (by decide) ?_
    refine V_iadd hc d_Store_put_57 ?_
    obtain ⟨q2, hw⟩ := hw
    obtain ⟨h3, eq_h3⟩ : ∃ x, x = mm_uI h (v0) 0 ((mm_I h v0 0) + (1 : Int32)) := ⟨_, rfl⟩
    replace hw := hw _ eq_h3
    refine V_put (h' := h3) hc gf_Store_9 rfl rfl q1 q2 (by rw [eq_h3]; exact mm_Up_I _ _ _ _) (by rw [eq_h3]; exact up_vI rfl) (vp_nar_int _) rfl d_Store_put_58 ?_
    refine V_aload_n hc 0 d_Store_put_61 rfl rfl ?_
    refine V_dup hc d_Store_put_62 (cat_rf _) ?_
    obtain ⟨q4, hw⟩ := hw
    refine V_get (v := .int (mm_I h3 v0 1)) hc gf_Store_15 rfl q4 rfl d_Store_put_63 ?_
    refine V_iload_n hc 2 d_Store_put_66 rfl rfl ?_
    refine V_iadd hc d_Store_put_67 ?_
    obtain ⟨q5, hw⟩ := hw
    obtain ⟨h6, eq_h6⟩ : ∃ x, x = mm_uI h3 (v0) 1 ((mm_I h3 v0 1) + (v2)) := ⟨_, rfl⟩
    replace hw := hw _ eq_h6
    refine V_put (h' := h6) hc gf_Store_15 rfl rfl q4 q5 (by rw [eq_h6]; exact mm_Up_I _ _ _ _) (by rw [eq_h6]; exact up_vI rfl) (vp_nar_int _) rfl d_Store_put_68 ?_
    refine V_iconst (v := 1) hc d_Store_put_71 (by decide) ?_
    exact V_zret hc hq (by decide) ⟨_, rfl, hw⟩ (by decide) (by decide) d_Store_put_72
  · replace hw := hw.2 hq1
    refine V_aload_n hc 0 d_Store_put_29 rfl rfl ?_
    obtain ⟨q7, hw⟩ := hw
    refine V_get (v := va_rf (mm_P h v0 2)) hc gf_Store_18 rfl q7 rfl d_Store_put_30 ?_
    refine V_aload_n hc 0 d_Store_put_33 rfl rfl ?_
    refine V_get (v := .int (mm_I h v0 0)) hc gf_Store_9 rfl q7 rfl d_Store_put_34 ?_
    refine V_iconst (v := 5) hc d_Store_put_37 (by decide) ?_
    refine V_imul hc d_Store_put_38 ?_
    refine V_iload_n hc 3 d_Store_put_39 rfl rfl ?_
    refine V_iadd hc d_Store_put_40 ?_
    refine V_aload_n hc 1 d_Store_put_41 rfl rfl ?_
    refine V_iload_n hc 3 d_Store_put_42 rfl rfl ?_
    obtain ⟨a8, q9, hw⟩ := hw
    obtain ⟨q10, hw⟩ := hw
    obtain ⟨q11, hw⟩ := hw
    refine V_iald hc q9 q10 q11 d_Store_put_43 ?_
    obtain ⟨a12, q13, hw⟩ := hw
    obtain ⟨q14, hw⟩ := hw
    obtain ⟨q15, hw⟩ := hw
    obtain ⟨q16, hw⟩ := hw
    obtain ⟨h17, eq_h17⟩ : ∃ x, x = mm_uI h a12 (Int32.toNatClampNeg (((mm_I h v0 0) * (5 : Int32)) + (v3))) (mm_I h a8 (Int32.toNatClampNeg (v3))) := ⟨_, rfl⟩
    replace hw := hw _ eq_h17
    refine V_iast hc q13 q14 q15 q16 d_Store_put_44 ?_
    rw [← eq_h17]
    refine V_iinc (v := v3 + 1) (lv' := [(3, .int (v3 + 1)), (0, va_rf (some v0)), (1, va_rf (v1)), (2, .int (v2))]) hc 3 d_Store_put_45 rfl rfl (by decide) rfl ?_
    refine V_goto (tgt := 24) hc d_Store_put_48 (by decide) ?_
    refine V_sub (lv' := [(0, va_rf (some v0)), (1, va_rf (v1)), (2, .int (v2)), (3, .int (v3 + 1))]) [1, 2, 3, 0] rfl ?_
    exact hX24 _ _ _ _ _ hw
theorem vl_Store_put_24 {E : mm_E} {Z : Int32 → mm_M → Prop} (hc : cx E "EpochServer$Store" c_Store_put 4 (some (.boolean)) rm_Store_put) (hq : cq E rm_Store_put (pI Z))  (v0 : Nat) (v1 : Option Nat) (v2 : Int32) (v3 : Int32) (h : mm_M) (hw : lp_Store_put_24  (mm_ge (eG E)) v0 v1 v2 v3 h Z) : V E 4 0 0 h 24 [(0, va_rf (some v0)), (1, va_rf (v1)), (2, .int (v2)), (3, .int (v3))] [] :=
  hw (fun v0 v1 v2 v3 h => V E 4 0 0 h 24 [(0, va_rf (some v0)), (1, va_rf (v1)), (2, .int (v2)), (3, .int (v3))] []) (fun v0 v1 v2 v3 h hb => vb_Store_put_24 hc hq  _ (fun _ _ _ _ _ q => q) v0 v1 v2 v3 h hb)
set_option maxRecDepth 100000 in
set_option maxHeartbeats 4000000 in
theorem vb_Store_put_0 {E : mm_E} {Z : Int32 → mm_M → Prop} (hc : cx E "EpochServer$Store" c_Store_put 4 (some (.boolean)) rm_Store_put) (hq : cq E rm_Store_put (pI Z))  (v0 : Nat) (v1 : Option Nat) (v2 : Int32) (h : mm_M) (hw : wq_Store_put_0  (mm_ge (eG E)) v0 v1 v2 h Z) : V E 4 0 0 h 0 [(0, va_rf (some v0)), (1, va_rf (v1)), (2, .int (v2))] [] := by
  unfold wq_Store_put_0 at hw
  refine V_aload_n hc 0 d_Store_put_0 rfl rfl ?_
  refine V_aload_n hc 1 d_Store_put_1 rfl rfl ?_
  obtain ⟨q1, hw⟩ := hw
  refine V_callV (rm' := rm_Store_holds) (As := [va_rf (v1)]) (rest := []) (n := 1) (cn := 11) hc rfl q1 (sat_Store_holds (eG E) _ _ _ _ hw) rfl cv_Store_22 (gw_of (tw_4 (List.mem_of_getElem? (i := 112) rfl)) rfl) ss_Store_holds rfl ⟨by decide, by decide⟩ (by decide) (by decide) rfl (by simp [cat_rf, cat_i, cat_l]) d_Store_put_2 (fun r0 h2 hw => ?_)
  obtain ⟨r3, rfl, hw⟩ := hw
  refine V_wide (cs' := 0) (sl' := 0) (by decide) (by decide) ?_
  refine V_st (st' := [.int (r3)]) rfl ?_
  refine V_if_eq (tgt := 10) hc d_Store_put_5 (by decide) (fun hq1 => ?_) (fun hq1 => ?_)
  · replace hw := hw.1 hq1
    refine V_aload_n hc 0 d_Store_put_10 rfl rfl ?_
    obtain ⟨q4, hw⟩ := hw
    refine V_get (v := .int (mm_I h2 v0 0)) hc gf_Store_9 rfl q4 rfl d_Store_put_11 ?_
    refine V_sipush (v := 600) hc d_Store_put_14 (by decide) ?_
    refine V_icmp_lt (tgt := 22) hc d_Store_put_17 (by decide) (fun hq1 => ?_) (fun hq1 => ?_)
    · replace hw := hw.1 hq1
      refine V_iconst (v := 0) hc d_Store_put_22 (by decide) ?_
      refine V_istore_n (i := 3) (lv' := [(3, .int (0)), (0, va_rf (some v0)), (1, va_rf (v1)), (2, .int (v2))]) hc d_Store_put_23 rfl (by decide) rfl ?_
      refine V_sub (lv' := [(0, va_rf (some v0)), (1, va_rf (v1)), (2, .int (v2)), (3, .int (0))]) [1, 2, 3, 0] rfl ?_
      exact vl_Store_put_24 hc hq  _ _ _ _ _ hw
    · replace hw := hw.2 hq1
      refine V_iconst (v := 0) hc d_Store_put_20 (by decide) ?_
      exact V_zret hc hq (by decide) ⟨_, rfl, hw⟩ (by decide) (by decide) d_Store_put_21
  · replace hw := hw.2 hq1
    refine V_iconst (v := 1) hc d_Store_put_8 (by decide) ?_
    exact V_zret hc hq (by decide) ⟨_, rfl, hw⟩ (by decide) (by decide) d_Store_put_9
def wq_Store_put (ge : Nat → Nat) (v0 : Nat) (v1 : Option Nat) (v2 : Int32) (h : mm_M) (Z : Int32 → mm_M → Prop) : Prop := wq_Store_put_0 ge v0 v1 v2 h Z
theorem sat_Store_put (G : mm_G) (v0 : Nat) (v1 : Option Nat) (v2 : Int32) (h : mm_M) (Z : Int32 → mm_M → Prop) (hw : wq_Store_put (mm_ge G) v0 v1 v2 h Z) : mm_Met G y_Store_put c_Store_put 4 (some (.boolean)) rm_Store_put [va_rf (some v0), va_rf (v1), .int (v2)] h (pI Z) := by
  refine mm_intro (own := "EpochServer$Store") (by decide) rfl (by simp [lg_sl, cat_rf, cat_i, cat_l]) (fun E e1 hc hq hi => ?_)
  subst e1
  have e2 : lv_args 0 [va_rf (some v0), va_rf (v1), .int (v2)] = [(0, va_rf (some v0)), (1, va_rf (v1)), (2, .int (v2))] := by simp [lv_args, cat_rf, cat_i, cat_l]
  rw [e2]
  refine V_sub (lv' := [(0, va_rf (some v0)), (1, va_rf (v1)), (2, .int (v2))]) [0, 1, 2] rfl ?_
  exact vb_Store_put_0 hc hq v0 v1 v2 h hw
/-! Archiver.offer([BII)V -/
abbrev rm_Archiver_offer : Room := { frames := 3, cells := 0, slots := 0, locals := 76 }
def wq_Archiver_offer_40  (ge : Nat → Nat)  (h : mm_M) (Z : mm_M → Prop) : Prop :=
  Z h
def wq_Archiver_offer_0  (ge : Nat → Nat) (v0 : Nat) (v1 : Option Nat) (v2 : Int32) (v3 : Int32) (h : mm_M) (Z : mm_M → Prop) : Prop :=
  mm_k h (v0) = kd_Archiver ∧ ∃ a2, mm_P h v0 1 = some a2 ∧ mm_k h (a2) = kd_Sha ∧ wq_Sha_digest ge (a2) (v1) (v2) (v3) h (fun h5 : mm_M => mm_k h5 (v0) = kd_Archiver ∧ (((mm_I h5 v0 4) = 0 → wq_Archiver_offer_40  ge h5 Z) ∧ (¬ (mm_I h5 v0 4) = 0 → ∃ a8, mm_P h5 v0 1 = some a8 ∧ mm_k h5 (a8) = kd_Sha ∧ ∃ a11, mm_P h5 v0 0 = some a11 ∧ mm_k h5 (a11) = kd_Store ∧ wq_Store_put ge (a11) (mm_P h5 a8 0) (v3) h5 (fun (r15 : Int32) (h14 : mm_M) => ((¬ (r15) = 0 → wq_Archiver_offer_40  ge h14 Z) ∧ ((r15) = 0 → mm_k h14 (v0) = kd_Archiver ∧ ge 0 ≤ v0 ∧ ∀ h18 : mm_M, h18 = mm_uI h14 (v0) 5 (1) → wq_Archiver_offer_40  ge h18 Z))))))
set_option maxRecDepth 100000 in
set_option maxHeartbeats 4000000 in
theorem vb_Archiver_offer_40 {E : mm_E} {Z : mm_M → Prop} (hc : cx E "EpochServer$Archiver" c_Archiver_offer 4 none rm_Archiver_offer) (hq : cq E rm_Archiver_offer (pV Z))   (h : mm_M) (hw : wq_Archiver_offer_40  (mm_ge (eG E))  h Z) : V E 4 0 0 h 40 [] [] := by
  unfold wq_Archiver_offer_40 at hw
  exact V_vret hc hq ⟨rfl, hw⟩ (by decide) (by decide) d_Archiver_offer_40
set_option maxRecDepth 100000 in
set_option maxHeartbeats 4000000 in
theorem vb_Archiver_offer_0 {E : mm_E} {Z : mm_M → Prop} (hc : cx E "EpochServer$Archiver" c_Archiver_offer 4 none rm_Archiver_offer) (hq : cq E rm_Archiver_offer (pV Z))  (v0 : Nat) (v1 : Option Nat) (v2 : Int32) (v3 : Int32) (h : mm_M) (hw : wq_Archiver_offer_0  (mm_ge (eG E)) v0 v1 v2 v3 h Z) : V E 4 0 0 h 0 [(0, va_rf (some v0)), (1, va_rf (v1)), (2, .int (v2)), (3, .int (v3))] [] := by
  unfold wq_Archiver_offer_0 at hw
  refine V_aload_n hc 0 d_Archiver_offer_0 rfl rfl ?_
  obtain ⟨q1, hw⟩ := hw
  refine V_get (v := va_rf (mm_P h v0 1)) hc gf_Archiver_21 rfl q1 rfl d_Archiver_offer_1 ?_
  refine V_aload_n hc 1 d_Archiver_offer_4 rfl rfl ?_
  refine V_iload_n hc 2 d_Archiver_offer_5 rfl rfl ?_
  refine V_iload_n hc 3 d_Archiver_offer_6 rfl rfl ?_
  obtain ⟨a2, q3, hw⟩ := hw
  obtain ⟨q4, hw⟩ := hw
  refine V_callV (rm' := rm_Sha_digest) (As := [va_rf (v1), .int (v2), .int (v3)]) (rest := []) (n := 3) (cn := 9) hc q3 q4 (sat_Sha_digest (eG E) _ _ _ _ _ _ hw) rfl cv_Archiver_117 (gw_of (tw_4 (List.mem_of_getElem? (i := 84) rfl)) rfl) ss_Sha_digest rfl ⟨by decide, by decide⟩ (by decide) (by decide) rfl (by simp [cat_rf, cat_i, cat_l]) d_Archiver_offer_7 (fun r0 h5 hw => ?_)
  obtain ⟨rfl, hw⟩ := hw
  refine V_wide (cs' := 0) (sl' := 0) (by decide) (by decide) ?_
  refine V_st (st' := []) rfl ?_
  refine V_aload_n hc 0 d_Archiver_offer_10 rfl rfl ?_
  obtain ⟨q7, hw⟩ := hw
  refine V_get (v := .int (mm_I h5 v0 4)) hc gf_Archiver_38 rfl q7 rfl d_Archiver_offer_11 ?_
  refine V_if_eq (tgt := 40) hc d_Archiver_offer_14 (by decide) (fun hq1 => ?_) (fun hq1 => ?_)
  · replace hw := hw.1 hq1
    refine V_sub (lv' := []) [] rfl ?_
    exact vb_Archiver_offer_40 hc hq  _ hw
  · replace hw := hw.2 hq1
    refine V_aload_n hc 0 d_Archiver_offer_17 rfl rfl ?_
    refine V_get (v := va_rf (mm_P h5 v0 0)) hc gf_Archiver_12 rfl q7 rfl d_Archiver_offer_18 ?_
    refine V_aload_n hc 0 d_Archiver_offer_21 rfl rfl ?_
    refine V_get (v := va_rf (mm_P h5 v0 1)) hc gf_Archiver_21 rfl q7 rfl d_Archiver_offer_22 ?_
    obtain ⟨a8, q9, hw⟩ := hw
    obtain ⟨q10, hw⟩ := hw
    refine V_get (v := va_rf (mm_P h5 a8 0)) hc gf_Archiver_97 q9 q10 rfl d_Archiver_offer_25 ?_
    refine V_iload_n hc 3 d_Archiver_offer_28 rfl rfl ?_
    obtain ⟨a11, q12, hw⟩ := hw
    obtain ⟨q13, hw⟩ := hw
    refine V_callV (rm' := rm_Store_put) (As := [va_rf (mm_P h5 a8 0), .int (v3)]) (rest := []) (n := 2) (cn := 11) hc q12 q13 (sat_Store_put (eG E) _ _ _ _ _ hw) rfl cv_Archiver_120 (gw_of (tw_4 (List.mem_of_getElem? (i := 107) rfl)) rfl) ss_Store_put rfl ⟨by decide, by decide⟩ (by decide) (by decide) rfl (by simp [cat_rf, cat_i, cat_l]) d_Archiver_offer_29 (fun r0 h14 hw => ?_)
    obtain ⟨r15, rfl, hw⟩ := hw
    refine V_wide (cs' := 0) (sl' := 0) (by decide) (by decide) ?_
    refine V_st (st' := [.int (r15)]) rfl ?_
    refine V_if_ne (tgt := 40) hc d_Archiver_offer_32 (by decide) (fun hq1 => ?_) (fun hq1 => ?_)
    · replace hw := hw.1 hq1
      refine V_sub (lv' := []) [] rfl ?_
      exact vb_Archiver_offer_40 hc hq  _ hw
    · replace hw := hw.2 hq1
      refine V_aload_n hc 0 d_Archiver_offer_35 rfl rfl ?_
      refine V_iconst (v := 1) hc d_Archiver_offer_36 (by decide) ?_
      obtain ⟨q16, hw⟩ := hw
      obtain ⟨q17, hw⟩ := hw
      obtain ⟨h18, eq_h18⟩ : ∃ x, x = mm_uI h14 (v0) 5 (1) := ⟨_, rfl⟩
      replace hw := hw _ eq_h18
      refine V_put (h' := h18) hc gf_Archiver_42 rfl rfl q16 q17 (by rw [eq_h18]; exact mm_Up_I _ _ _ _) (by rw [eq_h18]; exact up_vI rfl) (by decide) (by decide) d_Archiver_offer_37 ?_
      refine V_sub (lv' := []) [] rfl ?_
      exact vb_Archiver_offer_40 hc hq  _ hw
def wq_Archiver_offer (ge : Nat → Nat) (v0 : Nat) (v1 : Option Nat) (v2 : Int32) (v3 : Int32) (h : mm_M) (Z : mm_M → Prop) : Prop := wq_Archiver_offer_0 ge v0 v1 v2 v3 h Z
theorem sat_Archiver_offer (G : mm_G) (v0 : Nat) (v1 : Option Nat) (v2 : Int32) (v3 : Int32) (h : mm_M) (Z : mm_M → Prop) (hw : wq_Archiver_offer (mm_ge G) v0 v1 v2 v3 h Z) : mm_Met G y_Archiver_offer c_Archiver_offer 4 none rm_Archiver_offer [va_rf (some v0), va_rf (v1), .int (v2), .int (v3)] h (pV Z) := by
  refine mm_intro (own := "EpochServer$Archiver") (by decide) rfl (by simp [lg_sl, cat_rf, cat_i, cat_l]) (fun E e1 hc hq hi => ?_)
  subst e1
  have e2 : lv_args 0 [va_rf (some v0), va_rf (v1), .int (v2), .int (v3)] = [(0, va_rf (some v0)), (1, va_rf (v1)), (2, .int (v2)), (3, .int (v3))] := by simp [lv_args, cat_rf, cat_i, cat_l]
  rw [e2]
  refine V_sub (lv' := [(0, va_rf (some v0)), (1, va_rf (v1)), (2, .int (v2)), (3, .int (v3))]) [0, 1, 2, 3] rfl ?_
  exact vb_Archiver_offer_0 hc hq v0 v1 v2 v3 h hw
/-! Archiver.fillFromData([B)V -/
abbrev rm_Archiver_fillFromData : Room := { frames := 4, cells := 0, slots := 0, locals := 99 }
def wq_Archiver_fillFromData_25 (X2 : Nat → Option Nat → Int32 → mm_M → Prop) (X25 : Nat → Option Nat → Int32 → Int32 → mm_M → Prop) (ge : Nat → Nat) (v0 : Nat) (v1 : Option Nat) (v2 : Int32) (v3 : Int32) (h : mm_M) (Z : mm_M → Prop) : Prop :=
  (((5 : Int32) ≤ (v3 : Int32) → X2 (v0) (v1) (v2 + 64) h) ∧ (¬ (5 : Int32) ≤ (v3 : Int32) → mm_k h (v0) = kd_Archiver ∧ ∃ a2, mm_P h v0 1 = some a2 ∧ mm_k h (a2) = kd_Sha ∧ ∃ a5, mm_P h a2 0 = some a5 ∧ mm_k h (a5) = ka_I ∧ vp_in (v3) (mm_n h a5) ∧ ∃ a9, mm_P h v0 2 = some a9 ∧ mm_k h (a9) = kd_Bytes ∧ wq_Bytes_putHighestFirst ge (a9) (mm_I h a5 (Int32.toNatClampNeg (v3))) h (fun h12 : mm_M => X25 (v0) (v1) (v2) (v3 + 1) h12)))
def lp_Archiver_fillFromData_25 (X2 : Nat → Option Nat → Int32 → mm_M → Prop) (ge : Nat → Nat) (v0 : Nat) (v1 : Option Nat) (v2 : Int32) (v3 : Int32) (h : mm_M) (Z : mm_M → Prop) : Prop :=
  ∀ X25 : Nat → Option Nat → Int32 → Int32 → mm_M → Prop, (∀ (v0 : Nat) (v1 : Option Nat) (v2 : Int32) (v3 : Int32) (h : mm_M), wq_Archiver_fillFromData_25 X2 X25 ge v0 v1 v2 v3 h Z → X25 v0 v1 v2 v3 h) → X25 v0 v1 v2 v3 h
def wq_Archiver_fillFromData_2 (X2 : Nat → Option Nat → Int32 → mm_M → Prop) (ge : Nat → Nat) (v0 : Nat) (v1 : Option Nat) (v2 : Int32) (h : mm_M) (Z : mm_M → Prop) : Prop :=
  ∃ a1, v1 = some a1 ∧ mm_k h (a1) = ka_B ∧ (((Nat.toInt32 (mm_n h a1) : Int32) ≤ (v2 : Int32) → Z h) ∧ (¬ (Nat.toInt32 (mm_n h a1) : Int32) ≤ (v2 : Int32) → mm_k h (v0) = kd_Archiver ∧ wq_Archiver_offer ge (v0) (v1) (v2) (if ((Nat.toInt32 (mm_n h a1)) - (v2) : Int32) < (64) then ((Nat.toInt32 (mm_n h a1)) - (v2)) else (64)) h (fun h5 : mm_M => lp_Archiver_fillFromData_25 X2 ge (v0) (v1) (v2) (0) h5 Z)))
def lp_Archiver_fillFromData_2  (ge : Nat → Nat) (v0 : Nat) (v1 : Option Nat) (v2 : Int32) (h : mm_M) (Z : mm_M → Prop) : Prop :=
  ∀ X2 : Nat → Option Nat → Int32 → mm_M → Prop, (∀ (v0 : Nat) (v1 : Option Nat) (v2 : Int32) (h : mm_M), wq_Archiver_fillFromData_2 X2 ge v0 v1 v2 h Z → X2 v0 v1 v2 h) → X2 v0 v1 v2 h
def wq_Archiver_fillFromData_0  (ge : Nat → Nat) (v0 : Nat) (v1 : Option Nat) (h : mm_M) (Z : mm_M → Prop) : Prop :=
  lp_Archiver_fillFromData_2  ge (v0) (v1) (0) h Z
set_option maxRecDepth 100000 in
set_option maxHeartbeats 4000000 in
theorem vb_Archiver_fillFromData_25 {E : mm_E} {Z : mm_M → Prop} (hc : cx E "EpochServer$Archiver" c_Archiver_fillFromData 4 none rm_Archiver_fillFromData) (hq : cq E rm_Archiver_fillFromData (pV Z)) (X2 : Nat → Option Nat → Int32 → mm_M → Prop) (hX2 : ∀ (v0 : Nat) (v1 : Option Nat) (v2 : Int32) (h : mm_M), X2 v0 v1 v2 h → V E 4 0 0 h 2 [(0, va_rf (some v0)), (1, va_rf (v1)), (2, .int (v2))] []) (X25 : Nat → Option Nat → Int32 → Int32 → mm_M → Prop) (hX25 : ∀ (v0 : Nat) (v1 : Option Nat) (v2 : Int32) (v3 : Int32) (h : mm_M), X25 v0 v1 v2 v3 h → V E 4 0 0 h 25 [(0, va_rf (some v0)), (1, va_rf (v1)), (2, .int (v2)), (3, .int (v3))] []) (v0 : Nat) (v1 : Option Nat) (v2 : Int32) (v3 : Int32) (h : mm_M) (hw : wq_Archiver_fillFromData_25 X2 X25 (mm_ge (eG E)) v0 v1 v2 v3 h Z) : V E 4 0 0 h 25 [(0, va_rf (some v0)), (1, va_rf (v1)), (2, .int (v2)), (3, .int (v3))] [] := by
  unfold wq_Archiver_fillFromData_25 at hw
  refine V_iload_n hc 3 d_Archiver_fillFromData_25 rfl rfl ?_
  refine V_iconst (v := 5) hc d_Archiver_fillFromData_26 (by decide) ?_
  refine V_icmp_ge (tgt := 52) hc d_Archiver_fillFromData_27 (by decide) (fun hq1 => ?_) (fun hq1 => ?_)
  · replace hw := hw.1 hq1
    refine V_iinc (v := v2 + 64) (lv' := [(2, .int (v2 + 64)), (0, va_rf (some v0)), (1, va_rf (v1)), (3, .int (v3))]) hc 2 d_Archiver_fillFromData_52 rfl rfl (by decide) (by simp [cat_rf, cat_i, cat_l]) ?_
    refine V_goto (tgt := 2) hc d_Archiver_fillFromData_55 (by decide) ?_
    refine V_sub (lv' := [(0, va_rf (some v0)), (1, va_rf (v1)), (2, .int (v2 + 64))]) [1, 2, 0] rfl ?_
    exact hX2 _ _ _ _ hw
  · replace hw := hw.2 hq1
    refine V_aload_n hc 0 d_Archiver_fillFromData_30 rfl rfl ?_
    obtain ⟨q1, hw⟩ := hw
    refine V_get (v := va_rf (mm_P h v0 2)) hc gf_Archiver_30 rfl q1 rfl d_Archiver_fillFromData_31 ?_
    refine V_aload_n hc 0 d_Archiver_fillFromData_34 rfl rfl ?_
    refine V_get (v := va_rf (mm_P h v0 1)) hc gf_Archiver_21 rfl q1 rfl d_Archiver_fillFromData_35 ?_
    obtain ⟨a2, q3, hw⟩ := hw
    obtain ⟨q4, hw⟩ := hw
    refine V_get (v := va_rf (mm_P h a2 0)) hc gf_Archiver_97 q3 q4 rfl d_Archiver_fillFromData_38 ?_
    refine V_iload_n hc 3 d_Archiver_fillFromData_41 rfl rfl ?_
    obtain ⟨a5, q6, hw⟩ := hw
    obtain ⟨q7, hw⟩ := hw
    obtain ⟨q8, hw⟩ := hw
    refine V_iald hc q6 q7 q8 d_Archiver_fillFromData_42 ?_
    obtain ⟨a9, q10, hw⟩ := hw
    obtain ⟨q11, hw⟩ := hw
    refine V_callV (rm' := rm_Bytes_putHighestFirst) (As := [.int (mm_I h a5 (Int32.toNatClampNeg (v3)))]) (rest := []) (n := 1) (cn := 3) hc q10 q11 (sat_Bytes_putHighestFirst (eG E) _ _ _ _ hw) rfl cv_Archiver_108 (gw_of (tw_2 (List.mem_of_getElem? (i := 151) rfl)) rfl) ss_Bytes_putHighestFirst rfl ⟨by decide, by decide⟩ (by decide) (by decide) rfl (by simp [cat_rf, cat_i, cat_l]) d_Archiver_fillFromData_43 (fun r0 h12 hw => ?_)
    obtain ⟨rfl, hw⟩ := hw
    refine V_wide (cs' := 0) (sl' := 0) (by decide) (by decide) ?_
    refine V_st (st' := []) rfl ?_
    refine V_iinc (v := v3 + 1) (lv' := [(3, .int (v3 + 1)), (0, va_rf (some v0)), (1, va_rf (v1)), (2, .int (v2))]) hc 3 d_Archiver_fillFromData_46 rfl rfl (by decide) rfl ?_
    refine V_goto (tgt := 25) hc d_Archiver_fillFromData_49 (by decide) ?_
    refine V_sub (lv' := [(0, va_rf (some v0)), (1, va_rf (v1)), (2, .int (v2)), (3, .int (v3 + 1))]) [1, 2, 3, 0] rfl ?_
    exact hX25 _ _ _ _ _ hw
theorem vl_Archiver_fillFromData_25 {E : mm_E} {Z : mm_M → Prop} (hc : cx E "EpochServer$Archiver" c_Archiver_fillFromData 4 none rm_Archiver_fillFromData) (hq : cq E rm_Archiver_fillFromData (pV Z)) (X2 : Nat → Option Nat → Int32 → mm_M → Prop) (hX2 : ∀ (v0 : Nat) (v1 : Option Nat) (v2 : Int32) (h : mm_M), X2 v0 v1 v2 h → V E 4 0 0 h 2 [(0, va_rf (some v0)), (1, va_rf (v1)), (2, .int (v2))] []) (v0 : Nat) (v1 : Option Nat) (v2 : Int32) (v3 : Int32) (h : mm_M) (hw : lp_Archiver_fillFromData_25 X2 (mm_ge (eG E)) v0 v1 v2 v3 h Z) : V E 4 0 0 h 25 [(0, va_rf (some v0)), (1, va_rf (v1)), (2, .int (v2)), (3, .int (v3))] [] :=
  hw (fun v0 v1 v2 v3 h => V E 4 0 0 h 25 [(0, va_rf (some v0)), (1, va_rf (v1)), (2, .int (v2)), (3, .int (v3))] []) (fun v0 v1 v2 v3 h hb => vb_Archiver_fillFromData_25 hc hq X2 hX2 _ (fun _ _ _ _ _ q => q) v0 v1 v2 v3 h hb)
set_option maxRecDepth 100000 in
set_option maxHeartbeats 4000000 in
theorem vb_Archiver_fillFromData_2 {E : mm_E} {Z : mm_M → Prop} (hc : cx E "EpochServer$Archiver" c_Archiver_fillFromData 4 none rm_Archiver_fillFromData) (hq : cq E rm_Archiver_fillFromData (pV Z)) (X2 : Nat → Option Nat → Int32 → mm_M → Prop) (hX2 : ∀ (v0 : Nat) (v1 : Option Nat) (v2 : Int32) (h : mm_M), X2 v0 v1 v2 h → V E 4 0 0 h 2 [(0, va_rf (some v0)), (1, va_rf (v1)), (2, .int (v2))] []) (v0 : Nat) (v1 : Option Nat) (v2 : Int32) (h : mm_M) (hw : wq_Archiver_fillFromData_2 X2 (mm_ge (eG E)) v0 v1 v2 h Z) : V E 4 0 0 h 2 [(0, va_rf (some v0)), (1, va_rf (v1)), (2, .int (v2))] [] := by
  unfold wq_Archiver_fillFromData_2 at hw
  refine V_iload_n hc 2 d_Archiver_fillFromData_2 rfl rfl ?_
  refine V_aload_n hc 1 d_Archiver_fillFromData_3 rfl rfl ?_
  obtain ⟨a1, q2, hw⟩ := hw
  obtain ⟨q3, hw⟩ := hw
  refine V_alen (t := 1) (ty := .byte) hc rfl q2 q3 d_Archiver_fillFromData_4 ?_
  refine V_icmp_ge (tgt := 58) hc d_Archiver_fillFromData_5 (by decide) (fun hq1 => ?_) (fun hq1 => ?_)
  · replace hw := hw.1 hq1
    exact V_vret hc hq ⟨rfl, hw⟩ (by decide) (by decide) d_Archiver_fillFromData_58
  · replace hw := hw.2 hq1
    refine V_aload_n hc 0 d_Archiver_fillFromData_8 rfl rfl ?_
    refine V_aload_n hc 1 d_Archiver_fillFromData_9 rfl rfl ?_
    refine V_iload_n hc 2 d_Archiver_fillFromData_10 rfl rfl ?_
    refine V_bipush (v := 64) hc d_Archiver_fillFromData_11 (by decide) ?_
    refine V_aload_n hc 1 d_Archiver_fillFromData_13 rfl rfl ?_
    refine V_alen (t := 1) (ty := .byte) hc rfl q2 q3 d_Archiver_fillFromData_14 ?_
    refine V_iload_n hc 2 d_Archiver_fillFromData_15 rfl rfl ?_
    refine V_isub hc d_Archiver_fillFromData_16 ?_
    refine V_mmin hc cv_Archiver_111 (by simp [cat_rf, cat_i, cat_l]) (by decide) (by decide) (by decide) (by decide) d_Archiver_fillFromData_17 ?_
    obtain ⟨q4, hw⟩ := hw
    refine V_callV (rm' := rm_Archiver_offer) (As := [va_rf (v1), .int (v2), .int (if ((Nat.toInt32 (mm_n h a1)) - (v2) : Int32) < (64) then ((Nat.toInt32 (mm_n h a1)) - (v2)) else (64))]) (rest := []) (n := 3) (cn := 2) hc rfl q4 (sat_Archiver_offer (eG E) _ _ _ _ _ _ hw) rfl cv_Archiver_93 (gw_of (tw_4 (List.mem_of_getElem? (i := 81) rfl)) rfl) ss_Archiver_offer rfl ⟨by decide, by decide⟩ (by decide) (by decide) rfl (by simp [cat_rf, cat_i, cat_l]) d_Archiver_fillFromData_20 (fun r0 h5 hw => ?_)
    obtain ⟨rfl, hw⟩ := hw
    refine V_wide (cs' := 0) (sl' := 0) (by decide) (by decide) ?_
    refine V_st (st' := []) rfl ?_
    refine V_iconst (v := 0) hc d_Archiver_fillFromData_23 (by decide) ?_
    refine V_istore_n (i := 3) (lv' := [(3, .int (0)), (0, va_rf (some v0)), (1, va_rf (v1)), (2, .int (v2))]) hc d_Archiver_fillFromData_24 rfl (by decide) rfl ?_
    refine V_sub (lv' := [(0, va_rf (some v0)), (1, va_rf (v1)), (2, .int (v2)), (3, .int (0))]) [1, 2, 3, 0] rfl ?_
    exact vl_Archiver_fillFromData_25 hc hq X2 hX2 _ _ _ _ _ hw
theorem vl_Archiver_fillFromData_2 {E : mm_E} {Z : mm_M → Prop} (hc : cx E "EpochServer$Archiver" c_Archiver_fillFromData 4 none rm_Archiver_fillFromData) (hq : cq E rm_Archiver_fillFromData (pV Z))  (v0 : Nat) (v1 : Option Nat) (v2 : Int32) (h : mm_M) (hw : lp_Archiver_fillFromData_2  (mm_ge (eG E)) v0 v1 v2 h Z) : V E 4 0 0 h 2 [(0, va_rf (some v0)), (1, va_rf (v1)), (2, .int (v2))] [] :=
  hw (fun v0 v1 v2 h => V E 4 0 0 h 2 [(0, va_rf (some v0)), (1, va_rf (v1)), (2, .int (v2))] []) (fun v0 v1 v2 h hb => vb_Archiver_fillFromData_2 hc hq  _ (fun _ _ _ _ q => q) v0 v1 v2 h hb)
set_option maxRecDepth 100000 in
set_option maxHeartbeats 4000000 in
theorem vb_Archiver_fillFromData_0 {E : mm_E} {Z : mm_M → Prop} (hc : cx E "EpochServer$Archiver" c_Archiver_fillFromData 4 none rm_Archiver_fillFromData) (hq : cq E rm_Archiver_fillFromData (pV Z))  (v0 : Nat) (v1 : Option Nat) (h : mm_M) (hw : wq_Archiver_fillFromData_0  (mm_ge (eG E)) v0 v1 h Z) : V E 4 0 0 h 0 [(0, va_rf (some v0)), (1, va_rf (v1))] [] := by
  unfold wq_Archiver_fillFromData_0 at hw
  refine V_iconst (v := 0) hc d_Archiver_fillFromData_0 (by decide) ?_
  refine V_istore_n (i := 2) (lv' := [(2, .int (0)), (0, va_rf (some v0)), (1, va_rf (v1))]) hc d_Archiver_fillFromData_1 rfl (by decide) (by simp [cat_rf, cat_i, cat_l]) ?_
  refine V_sub (lv' := [(0, va_rf (some v0)), (1, va_rf (v1)), (2, .int (0))]) [1, 2, 0] rfl ?_
  exact vl_Archiver_fillFromData_2 hc hq  _ _ _ _ hw
def wq_Archiver_fillFromData (ge : Nat → Nat) (v0 : Nat) (v1 : Option Nat) (h : mm_M) (Z : mm_M → Prop) : Prop := wq_Archiver_fillFromData_0 ge v0 v1 h Z
theorem sat_Archiver_fillFromData (G : mm_G) (v0 : Nat) (v1 : Option Nat) (h : mm_M) (Z : mm_M → Prop) (hw : wq_Archiver_fillFromData (mm_ge G) v0 v1 h Z) : mm_Met G y_Archiver_fillFromData c_Archiver_fillFromData 4 none rm_Archiver_fillFromData [va_rf (some v0), va_rf (v1)] h (pV Z) := by
  refine mm_intro (own := "EpochServer$Archiver") (by decide) rfl (by simp [lg_sl, cat_rf, cat_i, cat_l]) (fun E e1 hc hq hi => ?_)
  subst e1
  have e2 : lv_args 0 [va_rf (some v0), va_rf (v1)] = [(0, va_rf (some v0)), (1, va_rf (v1))] := by simp [lv_args, cat_rf, cat_i, cat_l]
  rw [e2]
  refine V_sub (lv' := [(0, va_rf (some v0)), (1, va_rf (v1))]) [0, 1] rfl ?_
  exact vb_Archiver_fillFromData_0 hc hq v0 v1 h hw
/-! Bytes.size()I -/
abbrev rm_Bytes_size : Room := { frames := 0, cells := 0, slots := 0, locals := 0 }
def wq_Bytes_size_0  (ge : Nat → Nat) (v0 : Nat) (h : mm_M) (Z : Int32 → mm_M → Prop) : Prop :=
  mm_k h (v0) = kd_Bytes ∧ Z (mm_I h v0 1) h
set_option maxRecDepth 100000 in
set_option maxHeartbeats 4000000 in
theorem vb_Bytes_size_0 {E : mm_E} {Z : Int32 → mm_M → Prop} (hc : cx E "EpochServer$Bytes" c_Bytes_size 1 (some (.int)) rm_Bytes_size) (hq : cq E rm_Bytes_size (pI Z))  (v0 : Nat) (h : mm_M) (hw : wq_Bytes_size_0  (mm_ge (eG E)) v0 h Z) : V E 1 0 0 h 0 [(0, va_rf (some v0))] [] := by
  unfold wq_Bytes_size_0 at hw
  refine V_aload_n hc 0 d_Bytes_size_0 rfl rfl ?_
  obtain ⟨q1, hw⟩ := hw
  refine V_get (v := .int (mm_I h v0 1)) hc gf_Bytes_7 rfl q1 rfl d_Bytes_size_1 ?_
  exact V_iret hc hq ⟨_, rfl, hw⟩ (by decide) (by decide) d_Bytes_size_4
def wq_Bytes_size (ge : Nat → Nat) (v0 : Nat) (h : mm_M) (Z : Int32 → mm_M → Prop) : Prop := wq_Bytes_size_0 ge v0 h Z
theorem sat_Bytes_size (G : mm_G) (v0 : Nat) (h : mm_M) (Z : Int32 → mm_M → Prop) (hw : wq_Bytes_size (mm_ge G) v0 h Z) : mm_Met G y_Bytes_size c_Bytes_size 1 (some (.int)) rm_Bytes_size [va_rf (some v0)] h (pI Z) := by
  refine mm_intro (own := "EpochServer$Bytes") (by decide) rfl (by simp [lg_sl, cat_rf, cat_i, cat_l]) (fun E e1 hc hq hi => ?_)
  subst e1
  have e2 : lv_args 0 [va_rf (some v0)] = [(0, va_rf (some v0))] := by simp [lv_args, cat_rf, cat_i, cat_l]
  rw [e2]
  refine V_sub (lv' := [(0, va_rf (some v0))]) [0] rfl ?_
  exact vb_Bytes_size_0 hc hq v0 h hw
/-! Archiver.goOver(LEpochServer$Tree;)V -/
abbrev rm_Archiver_goOver : Room := { frames := 5, cells := 0, slots := 0, locals := 122 }
def wq_Archiver_goOver_106 (X3 : Nat → Option Nat → Int32 → mm_M → Prop) (ge : Nat → Nat) (v0 : Nat) (v1 : Option Nat) (v2 : Int32) (h : mm_M) (Z : mm_M → Prop) : Prop :=
  X3 (v0) (v1) (v2 + (-1)) h
def wq_Archiver_goOver_73 (X3 : Nat → Option Nat → Int32 → mm_M → Prop) (X73 : Nat → Option Nat → Int32 → Int32 → mm_M → Prop) (ge : Nat → Nat) (v0 : Nat) (v1 : Option Nat) (v2 : Int32) (v4 : Int32) (h : mm_M) (Z : mm_M → Prop) : Prop :=
  (((5 : Int32) ≤ (v4 : Int32) → wq_Archiver_goOver_106 X3 ge (v0) (v1) (v2) h Z) ∧ (¬ (5 : Int32) ≤ (v4 : Int32) → mm_k h (v0) = kd_Archiver ∧ ∃ a2, mm_P h v0 1 = some a2 ∧ mm_k h (a2) = kd_Sha ∧ ∃ a5, mm_P h a2 0 = some a5 ∧ mm_k h (a5) = ka_I ∧ vp_in (v4) (mm_n h a5) ∧ ∃ a9, mm_P h v0 3 = some a9 ∧ mm_k h (a9) = ka_I ∧ vp_in (((v2) * (5 : Int32)) + (v4)) (mm_n h a9) ∧ ge 0 ≤ a9 ∧ ∀ h14 : mm_M, h14 = mm_uI h a9 (Int32.toNatClampNeg (((v2) * (5 : Int32)) + (v4))) (mm_I h a5 (Int32.toNatClampNeg (v4))) → X73 (v0) (v1) (v2) (v4 + 1) h14))
def lp_Archiver_goOver_73 (X3 : Nat → Option Nat → Int32 → mm_M → Prop) (ge : Nat → Nat) (v0 : Nat) (v1 : Option Nat) (v2 : Int32) (v4 : Int32) (h : mm_M) (Z : mm_M → Prop) : Prop :=
  ∀ X73 : Nat → Option Nat → Int32 → Int32 → mm_M → Prop, (∀ (v0 : Nat) (v1 : Option Nat) (v2 : Int32) (v4 : Int32) (h : mm_M), wq_Archiver_goOver_73 X3 X73 ge v0 v1 v2 v4 h Z → X73 v0 v1 v2 v4 h) → X73 v0 v1 v2 v4 h
def wq_Archiver_goOver_51 (X3 : Nat → Option Nat → Int32 → mm_M → Prop) (ge : Nat → Nat) (v0 : Nat) (v1 : Option Nat) (v2 : Int32) (h : mm_M) (Z : mm_M → Prop) : Prop :=
  mm_k h (v0) = kd_Archiver ∧ ∃ a2, mm_P h v0 2 = some a2 ∧ mm_k h (a2) = kd_Bytes ∧ wq_Bytes_size ge (a2) h (fun (r6 : Int32) (h5 : mm_M) => mm_k h5 (v0) = kd_Archiver ∧ wq_Archiver_offer ge (v0) (mm_P h a2 0) (0) (r6) h5 (fun h8 : mm_M => lp_Archiver_goOver_73 X3 ge (v0) (v1) (v2) (0) h8 Z))
def wq_Archiver_goOver_3 (X3 : Nat → Option Nat → Int32 → mm_M → Prop) (ge : Nat → Nat) (v0 : Nat) (v1 : Option Nat) (v2 : Int32) (h : mm_M) (Z : mm_M → Prop) : Prop :=
  (((v2) < 0 → Z h) ∧ (¬ (v2) < 0 → ∃ a1, v1 = some a1 ∧ mm_k h (a1) = kd_Tree ∧ wq_Tree_at ge (a1) (v2) h (fun (r5 : Option Nat) (h4 : mm_M) => ((∀ a6, r5 = some a6 → mm_k h4 (v0) = kd_Archiver ∧ ∃ a8, mm_P h4 v0 2 = some a8 ∧ mm_k h4 (a8) = kd_Bytes ∧ wq_Bytes_clear ge (a8) h4 (fun h11 : mm_M => ∃ a13, r5 = some a13 ∧ mm_k h11 (a13) = kd_Node ∧ wq_Node_isDirectory ge (a13) h11 (fun (r17 : Int32) (h16 : mm_M) => (((r17) = 0 → ∃ a18, r5 = some a18 ∧ mm_k h16 (a18) = kd_Node ∧ mm_k h16 (v0) = kd_Archiver ∧ wq_Archiver_fillFromData ge (v0) (mm_P h16 a18 6) h16 (fun h22 : mm_M => wq_Archiver_goOver_51 X3 ge (v0) (v1) (v2) h22 Z)) ∧ (¬ (r17) = 0 → mm_k h16 (v0) = kd_Archiver ∧ wq_Archiver_fillFromDirectory ge (v0) (v1) (v2) h16 (fun h25 : mm_M => wq_Archiver_goOver_51 X3 ge (v0) (v1) (v2) h25 Z)))))) ∧ (r5 = none → wq_Archiver_goOver_106 X3 ge (v0) (v1) (v2) h4 Z)))))
def lp_Archiver_goOver_3  (ge : Nat → Nat) (v0 : Nat) (v1 : Option Nat) (v2 : Int32) (h : mm_M) (Z : mm_M → Prop) : Prop :=
  ∀ X3 : Nat → Option Nat → Int32 → mm_M → Prop, (∀ (v0 : Nat) (v1 : Option Nat) (v2 : Int32) (h : mm_M), wq_Archiver_goOver_3 X3 ge v0 v1 v2 h Z → X3 v0 v1 v2 h) → X3 v0 v1 v2 h
def wq_Archiver_goOver_0  (ge : Nat → Nat) (v0 : Nat) (v1 : Option Nat) (h : mm_M) (Z : mm_M → Prop) : Prop :=
  lp_Archiver_goOver_3  ge (v0) (v1) (59) h Z
set_option maxRecDepth 100000 in
set_option maxHeartbeats 4000000 in
theorem vb_Archiver_goOver_106 {E : mm_E} {Z : mm_M → Prop} (hc : cx E "EpochServer$Archiver" c_Archiver_goOver 5 none rm_Archiver_goOver) (hq : cq E rm_Archiver_goOver (pV Z)) (X3 : Nat → Option Nat → Int32 → mm_M → Prop) (hX3 : ∀ (v0 : Nat) (v1 : Option Nat) (v2 : Int32) (h : mm_M), X3 v0 v1 v2 h → V E 5 0 0 h 3 [(0, va_rf (some v0)), (1, va_rf (v1)), (2, .int (v2))] []) (v0 : Nat) (v1 : Option Nat) (v2 : Int32) (h : mm_M) (hw : wq_Archiver_goOver_106 X3 (mm_ge (eG E)) v0 v1 v2 h Z) : V E 5 0 0 h 106 [(0, va_rf (some v0)), (1, va_rf (v1)), (2, .int (v2))] [] := by
  unfold wq_Archiver_goOver_106 at hw
  refine V_iinc (v := v2 + (-1)) (lv' := [(2, .int (v2 + (-1))), (0, va_rf (some v0)), (1, va_rf (v1))]) hc 2 d_Archiver_goOver_106 rfl rfl (by decide) (by simp [cat_rf, cat_i, cat_l]) ?_
  refine V_goto (tgt := 3) hc d_Archiver_goOver_109 (by decide) ?_
  refine V_sub (lv' := [(0, va_rf (some v0)), (1, va_rf (v1)), (2, .int (v2 + (-1)))]) [1, 2, 0] rfl ?_
  exact hX3 _ _ _ _ hw
set_option maxRecDepth 100000 in
set_option maxHeartbeats 4000000 in
theorem vb_Archiver_goOver_73 {E : mm_E} {Z : mm_M → Prop} (hc : cx E "EpochServer$Archiver" c_Archiver_goOver 5 none rm_Archiver_goOver) (hq : cq E rm_Archiver_goOver (pV Z)) (X3 : Nat → Option Nat → Int32 → mm_M → Prop) (hX3 : ∀ (v0 : Nat) (v1 : Option Nat) (v2 : Int32) (h : mm_M), X3 v0 v1 v2 h → V E 5 0 0 h 3 [(0, va_rf (some v0)), (1, va_rf (v1)), (2, .int (v2))] []) (X73 : Nat → Option Nat → Int32 → Int32 → mm_M → Prop) (hX73 : ∀ (v0 : Nat) (v1 : Option Nat) (v2 : Int32) (v4 : Int32) (h : mm_M), X73 v0 v1 v2 v4 h → V E 5 0 0 h 73 [(0, va_rf (some v0)), (1, va_rf (v1)), (2, .int (v2)), (4, .int (v4))] []) (v0 : Nat) (v1 : Option Nat) (v2 : Int32) (v4 : Int32) (h : mm_M) (hw : wq_Archiver_goOver_73 X3 X73 (mm_ge (eG E)) v0 v1 v2 v4 h Z) : V E 5 0 0 h 73 [(0, va_rf (some v0)), (1, va_rf (v1)), (2, .int (v2)), (4, .int (v4))] [] := by
  unfold wq_Archiver_goOver_73 at hw
  refine V_iload hc 3 d_Archiver_goOver_73 rfl ?_
  refine V_iconst (v := 5) hc d_Archiver_goOver_75 (by decide) ?_
  refine V_icmp_ge (tgt := 106) hc d_Archiver_goOver_76 (by decide) (fun hq1 => ?_) (fun hq1 => ?_)
  · replace hw := hw.1 hq1
    refine V_sub (lv' := [(0, va_rf (some v0)), (1, va_rf (v1)), (2, .int (v2))]) [0, 1, 2] rfl ?_
    exact vb_Archiver_goOver_106 hc hq X3 hX3 _ _ _ _ hw
  · replace hw := hw.2 hq1
    refine V_aload_n hc 0 d_Archiver_goOver_79 rfl rfl ?_
    obtain ⟨q1, hw⟩ := hw
    refine V_get (v := va_rf (mm_P h v0 3)) hc gf_Archiver_34 rfl q1 rfl d_Archiver_goOver_80 ?_
    refine V_iload_n hc 2 d_Archiver_goOver_83 rfl rfl ?_
    refine V_iconst (v := 5) hc d_Archiver_goOver_84 (by decide) ?_
    refine V_imul hc d_Archiver_goOver_85 ?_
    refine V_iload hc 3 d_Archiver_goOver_86 rfl ?_
    refine V_iadd hc d_Archiver_goOver_88 ?_
    refine V_aload_n hc 0 d_Archiver_goOver_89 rfl rfl ?_
    refine V_get (v := va_rf (mm_P h v0 1)) hc gf_Archiver_21 rfl q1 rfl d_Archiver_goOver_90 ?_
    obtain ⟨a2, q3, hw⟩ := hw
    obtain ⟨q4, hw⟩ := hw
    refine V_get (v := va_rf (mm_P h a2 0)) hc gf_Archiver_97 q3 q4 rfl d_Archiver_goOver_93 ?_
    refine V_iload hc 3 d_Archiver_goOver_96 rfl ?_
    obtain ⟨a5, q6, hw⟩ := hw
    obtain ⟨q7, hw⟩ := hw
    obtain ⟨q8, hw⟩ := hw
    refine V_iald hc q6 q7 q8 d_Archiver_goOver_98 ?_
    obtain ⟨a9, q10, hw⟩ := hw
    obtain ⟨q11, hw⟩ := hw
    obtain ⟨q12, hw⟩ := hw
    obtain ⟨q13, hw⟩ := hw
    obtain ⟨h14, eq_h14⟩ : ∃ x, x = mm_uI h a9 (Int32.toNatClampNeg (((v2) * (5 : Int32)) + (v4))) (mm_I h a5 (Int32.toNatClampNeg (v4))) := ⟨_, rfl⟩
    replace hw := hw _ eq_h14
    refine V_iast hc q10 q11 q12 q13 d_Archiver_goOver_99 ?_
    rw [← eq_h14]
    refine V_iinc (v := v4 + 1) (lv' := [(4, .int (v4 + 1)), (0, va_rf (some v0)), (1, va_rf (v1)), (2, .int (v2))]) hc 3 d_Archiver_goOver_100 rfl rfl (by decide) rfl ?_
    refine V_goto (tgt := 73) hc d_Archiver_goOver_103 (by decide) ?_
    refine V_sub (lv' := [(0, va_rf (some v0)), (1, va_rf (v1)), (2, .int (v2)), (4, .int (v4 + 1))]) [1, 2, 3, 0] rfl ?_
    exact hX73 _ _ _ _ _ hw
theorem vl_Archiver_goOver_73 {E : mm_E} {Z : mm_M → Prop} (hc : cx E "EpochServer$Archiver" c_Archiver_goOver 5 none rm_Archiver_goOver) (hq : cq E rm_Archiver_goOver (pV Z)) (X3 : Nat → Option Nat → Int32 → mm_M → Prop) (hX3 : ∀ (v0 : Nat) (v1 : Option Nat) (v2 : Int32) (h : mm_M), X3 v0 v1 v2 h → V E 5 0 0 h 3 [(0, va_rf (some v0)), (1, va_rf (v1)), (2, .int (v2))] []) (v0 : Nat) (v1 : Option Nat) (v2 : Int32) (v4 : Int32) (h : mm_M) (hw : lp_Archiver_goOver_73 X3 (mm_ge (eG E)) v0 v1 v2 v4 h Z) : V E 5 0 0 h 73 [(0, va_rf (some v0)), (1, va_rf (v1)), (2, .int (v2)), (4, .int (v4))] [] :=
  hw (fun v0 v1 v2 v4 h => V E 5 0 0 h 73 [(0, va_rf (some v0)), (1, va_rf (v1)), (2, .int (v2)), (4, .int (v4))] []) (fun v0 v1 v2 v4 h hb => vb_Archiver_goOver_73 hc hq X3 hX3 _ (fun _ _ _ _ _ q => q) v0 v1 v2 v4 h hb)
set_option maxRecDepth 100000 in
set_option maxHeartbeats 4000000 in
theorem vb_Archiver_goOver_51 {E : mm_E} {Z : mm_M → Prop} (hc : cx E "EpochServer$Archiver" c_Archiver_goOver 5 none rm_Archiver_goOver) (hq : cq E rm_Archiver_goOver (pV Z)) (X3 : Nat → Option Nat → Int32 → mm_M → Prop) (hX3 : ∀ (v0 : Nat) (v1 : Option Nat) (v2 : Int32) (h : mm_M), X3 v0 v1 v2 h → V E 5 0 0 h 3 [(0, va_rf (some v0)), (1, va_rf (v1)), (2, .int (v2))] []) (v0 : Nat) (v1 : Option Nat) (v2 : Int32) (h : mm_M) (hw : wq_Archiver_goOver_51 X3 (mm_ge (eG E)) v0 v1 v2 h Z) : V E 5 0 0 h 51 [(0, va_rf (some v0)), (1, va_rf (v1)), (2, .int (v2))] [] := by
  unfold wq_Archiver_goOver_51 at hw
  refine V_aload_n hc 0 d_Archiver_goOver_51 rfl rfl ?_
  refine V_aload_n hc 0 d_Archiver_goOver_52 rfl rfl ?_
  obtain ⟨q1, hw⟩ := hw
  refine V_get (v := va_rf (mm_P h v0 2)) hc gf_Archiver_30 rfl q1 rfl d_Archiver_goOver_53 ?_
  obtain ⟨a2, q3, hw⟩ := hw
  obtain ⟨q4, hw⟩ := hw
  refine V_getN (v := va_rf (mm_P h a2 0)) hc gf_Archiver_87 q3 q4 rfl d_Archiver_goOver_56 ?_
  refine V_iconst (v := 0) hc d_Archiver_goOver_59 (by decide) ?_
  refine V_aload_n hc 0 d_Archiver_goOver_60 rfl rfl ?_
  refine V_get (v := va_rf (mm_P h v0 2)) hc gf_Archiver_30 rfl q1 rfl d_Archiver_goOver_61 ?_
  refine V_callV (rm' := rm_Bytes_size) (As := []) (rest := [.int (0), va_rf (mm_P h a2 0), va_rf (some v0)]) (n := 0) (cn := 3) hc q3 q4 (sat_Bytes_size (eG E) _ _ _ hw) rfl cv_Archiver_90 (gw_of (tw_2 (List.mem_of_getElem? (i := 159) rfl)) rfl) ss_Bytes_size rfl ⟨by decide, by decide⟩ (by decide) (by decide) rfl (by simp [cat_rf, cat_i, cat_l]) d_Archiver_goOver_64 (fun r0 h5 hw => ?_)
  obtain ⟨r6, rfl, hw⟩ := hw
  refine V_wide (cs' := 0) (sl' := 0) (by decide) (by decide) ?_
  refine V_st (st' := [.int (r6), .int (0), va_rf (mm_P h a2 0), va_rf (some v0)]) rfl ?_
  obtain ⟨q7, hw⟩ := hw
  refine V_callV (rm' := rm_Archiver_offer) (As := [va_rf (mm_P h a2 0), .int (0), .int (r6)]) (rest := []) (n := 3) (cn := 2) hc rfl q7 (sat_Archiver_offer (eG E) _ _ _ _ _ _ hw) rfl cv_Archiver_93 (gw_of (tw_4 (List.mem_of_getElem? (i := 81) rfl)) rfl) ss_Archiver_offer rfl ⟨by decide, by decide⟩ (by decide) (by decide) rfl (by simp [cat_rf, cat_i, cat_l]) d_Archiver_goOver_67 (fun r0 h8 hw => ?_)
  obtain ⟨rfl, hw⟩ := hw
  refine V_wide (cs' := 0) (sl' := 0) (by decide) (by decide) ?_
  refine V_st (st' := []) rfl ?_
  refine V_iconst (v := 0) hc d_Archiver_goOver_70 (by decide) ?_
  refine V_istore (i := 4) (lv' := [(4, .int (0)), (0, va_rf (some v0)), (1, va_rf (v1)), (2, .int (v2))]) hc d_Archiver_goOver_71 (by decide) rfl ?_
  refine V_sub (lv' := [(0, va_rf (some v0)), (1, va_rf (v1)), (2, .int (v2)), (4, .int (0))]) [1, 2, 3, 0] rfl ?_
  exact vl_Archiver_goOver_73 hc hq X3 hX3 _ _ _ _ _ hw
set_option maxRecDepth 100000 in
set_option maxHeartbeats 4000000 in
theorem vb_Archiver_goOver_3 {E : mm_E} {Z : mm_M → Prop} (hc : cx E "EpochServer$Archiver" c_Archiver_goOver 5 none rm_Archiver_goOver) (hq : cq E rm_Archiver_goOver (pV Z)) (X3 : Nat → Option Nat → Int32 → mm_M → Prop) (hX3 : ∀ (v0 : Nat) (v1 : Option Nat) (v2 : Int32) (h : mm_M), X3 v0 v1 v2 h → V E 5 0 0 h 3 [(0, va_rf (some v0)), (1, va_rf (v1)), (2, .int (v2))] []) (v0 : Nat) (v1 : Option Nat) (v2 : Int32) (h : mm_M) (hw : wq_Archiver_goOver_3 X3 (mm_ge (eG E)) v0 v1 v2 h Z) : V E 5 0 0 h 3 [(0, va_rf (some v0)), (1, va_rf (v1)), (2, .int (v2))] [] := by
  unfold wq_Archiver_goOver_3 at hw
  refine V_iload_n hc 2 d_Archiver_goOver_3 rfl rfl ?_
  refine V_if_lt (tgt := 112) hc d_Archiver_goOver_4 (by decide) (fun hq1 => ?_) (fun hq1 => ?_)
  · replace hw := hw.1 hq1
    exact V_vret hc hq ⟨rfl, hw⟩ (by decide) (by decide) d_Archiver_goOver_112
  · replace hw := hw.2 hq1
    refine V_aload_n hc 1 d_Archiver_goOver_7 rfl rfl ?_
    refine V_iload_n hc 2 d_Archiver_goOver_8 rfl rfl ?_
    obtain ⟨a1, q2, hw⟩ := hw
    obtain ⟨q3, hw⟩ := hw
    refine V_callV (rm' := rm_Tree_at) (As := [.int (v2)]) (rest := []) (n := 1) (cn := 12) hc q2 q3 (sat_Tree_at (eG E) _ _ _ _ hw) rfl cv_Archiver_60 (gw_of (tw_3 (List.mem_of_getElem? (i := 43) rfl)) rfl) ss_Tree_at rfl ⟨by decide, by decide⟩ (by decide) (by decide) rfl (by simp [cat_rf, cat_i, cat_l]) d_Archiver_goOver_9 (fun r0 h4 hw => ?_)
    obtain ⟨r5, rfl, hw⟩ := hw
    refine V_wide (cs' := 0) (sl' := 0) (by decide) (by decide) ?_
    refine V_st (st' := [va_rf (r5)]) rfl ?_
    refine V_astore_n (i := 3) (lv' := [(3, va_rf (r5)), (0, va_rf (some v0)), (1, va_rf (v1)), (2, .int (v2))]) hc d_Archiver_goOver_12 rfl (by decide) rfl ?_
    refine V_aload_n hc 0 d_Archiver_goOver_13 rfl rfl ?_
    refine V_ifnonnull (tgt := 20) hc d_Archiver_goOver_14 (by decide) (fun a6 hq1 => ?_) (fun hq1 => ?_)
    · replace hw := hw.1 a6 hq1
      refine V_aload_n hc 1 d_Archiver_goOver_20 rfl rfl ?_
      obtain ⟨q7, hw⟩ := hw
      refine V_get (v := va_rf (mm_P h4 v0 2)) hc gf_Archiver_30 rfl q7 rfl d_Archiver_goOver_21 ?_
      obtain ⟨a8, q9, hw⟩ := hw
      obtain ⟨q10, hw⟩ := hw
      refine V_callV (rm' := rm_Bytes_clear) (As := []) (rest := []) (n := 0) (cn := 3) hc q9 q10 (sat_Bytes_clear (eG E) _ _ _ hw) rfl cv_Archiver_66 (gw_of (tw_2 (List.mem_of_getElem? (i := 220) rfl)) rfl) ss_Bytes_clear rfl ⟨by decide, by decide⟩ (by decide) (by decide) rfl (by simp [cat_rf, cat_i, cat_l]) d_Archiver_goOver_24 (fun r0 h11 hw => ?_)
      obtain ⟨rfl, hw⟩ := hw
      refine V_wide (cs' := 0) (sl' := 0) (by decide) (by decide) ?_
      refine V_st (st' := []) rfl ?_
      refine V_aload_n hc 0 d_Archiver_goOver_27 rfl rfl ?_
      obtain ⟨a13, q14, hw⟩ := hw
      obtain ⟨q15, hw⟩ := hw
      refine V_callV (rm' := rm_Node_isDirectory) (As := []) (rest := []) (n := 0) (cn := 7) hc q14 q15 (sat_Node_isDirectory (eG E) _ _ _ hw) rfl cv_Archiver_69 (gw_of (tw_3 (List.mem_of_getElem? (i := 59) rfl)) rfl) ss_Node_isDirectory rfl ⟨by decide, by decide⟩ (by decide) (by decide) rfl (by simp [cat_rf, cat_i, cat_l]) d_Archiver_goOver_28 (fun r0 h16 hw => ?_)
      obtain ⟨r17, rfl, hw⟩ := hw
      refine V_wide (cs' := 0) (sl' := 0) (by decide) (by decide) ?_
      refine V_st (st' := [.int (r17)]) rfl ?_
      refine V_if_eq (tgt := 43) hc d_Archiver_goOver_31 (by decide) (fun hq1 => ?_) (fun hq1 => ?_)
      · replace hw := hw.1 hq1
        refine V_aload_n hc 1 d_Archiver_goOver_43 rfl rfl ?_
        refine V_aload_n hc 0 d_Archiver_goOver_44 rfl rfl ?_
        obtain ⟨a18, q19, hw⟩ := hw
        obtain ⟨q20, hw⟩ := hw
        refine V_get (v := va_rf (mm_P h16 a18 6)) hc gf_Archiver_79 q19 q20 rfl d_Archiver_goOver_45 ?_
        obtain ⟨q21, hw⟩ := hw
        refine V_callV (rm' := rm_Archiver_fillFromData) (As := [va_rf (mm_P h16 a18 6)]) (rest := []) (n := 1) (cn := 2) hc rfl q21 (sat_Archiver_fillFromData (eG E) _ _ _ _ hw) rfl cv_Archiver_83 (gw_of (tw_4 (List.mem_of_getElem? (i := 76) rfl)) rfl) ss_Archiver_fillFromData rfl ⟨by decide, by decide⟩ (by decide) (by decide) rfl (by simp [cat_rf, cat_i, cat_l]) d_Archiver_goOver_48 (fun r0 h22 hw => ?_)
        obtain ⟨rfl, hw⟩ := hw
        refine V_wide (cs' := 0) (sl' := 0) (by decide) (by decide) ?_
        refine V_st (st' := []) rfl ?_
        refine V_sub (lv' := [(0, va_rf (some v0)), (1, va_rf (v1)), (2, .int (v2))]) [1, 2, 3] rfl ?_
        exact vb_Archiver_goOver_51 hc hq X3 hX3 _ _ _ _ hw
      · replace hw := hw.2 hq1
        refine V_aload_n hc 1 d_Archiver_goOver_34 rfl rfl ?_
        refine V_aload_n hc 2 d_Archiver_goOver_35 rfl rfl ?_
        refine V_iload_n hc 3 d_Archiver_goOver_36 rfl rfl ?_
        obtain ⟨q24, hw⟩ := hw
        refine V_callV (rm' := rm_Archiver_fillFromDirectory) (As := [va_rf (v1), .int (v2)]) (rest := []) (n := 2) (cn := 2) hc rfl q24 (sat_Archiver_fillFromDirectory (eG E) _ _ _ _ _ hw) rfl cv_Archiver_75 (gw_of (tw_4 (List.mem_of_getElem? (i := 69) rfl)) rfl) ss_Archiver_fillFromDirectory rfl ⟨by decide, by decide⟩ (by decide) (by decide) rfl (by simp [cat_rf, cat_i, cat_l]) d_Archiver_goOver_37 (fun r0 h25 hw => ?_)
        obtain ⟨rfl, hw⟩ := hw
        refine V_wide (cs' := 0) (sl' := 0) (by decide) (by decide) ?_
        refine V_st (st' := []) rfl ?_
        refine V_goto (tgt := 51) hc d_Archiver_goOver_40 (by decide) ?_
        refine V_sub (lv' := [(0, va_rf (some v0)), (1, va_rf (v1)), (2, .int (v2))]) [1, 2, 3] rfl ?_
        exact vb_Archiver_goOver_51 hc hq X3 hX3 _ _ _ _ hw
    · replace hw := hw.2 hq1
      refine V_goto (tgt := 106) hc d_Archiver_goOver_17 (by decide) ?_
      refine V_sub (lv' := [(0, va_rf (some v0)), (1, va_rf (v1)), (2, .int (v2))]) [1, 2, 3] rfl ?_
      exact vb_Archiver_goOver_106 hc hq X3 hX3 _ _ _ _ hw
theorem vl_Archiver_goOver_3 {E : mm_E} {Z : mm_M → Prop} (hc : cx E "EpochServer$Archiver" c_Archiver_goOver 5 none rm_Archiver_goOver) (hq : cq E rm_Archiver_goOver (pV Z))  (v0 : Nat) (v1 : Option Nat) (v2 : Int32) (h : mm_M) (hw : lp_Archiver_goOver_3  (mm_ge (eG E)) v0 v1 v2 h Z) : V E 5 0 0 h 3 [(0, va_rf (some v0)), (1, va_rf (v1)), (2, .int (v2))] [] :=
  hw (fun v0 v1 v2 h => V E 5 0 0 h 3 [(0, va_rf (some v0)), (1, va_rf (v1)), (2, .int (v2))] []) (fun v0 v1 v2 h hb => vb_Archiver_goOver_3 hc hq  _ (fun _ _ _ _ q => q) v0 v1 v2 h hb)
set_option maxRecDepth 100000 in
set_option maxHeartbeats 4000000 in
theorem vb_Archiver_goOver_0 {E : mm_E} {Z : mm_M → Prop} (hc : cx E "EpochServer$Archiver" c_Archiver_goOver 5 none rm_Archiver_goOver) (hq : cq E rm_Archiver_goOver (pV Z))  (v0 : Nat) (v1 : Option Nat) (h : mm_M) (hw : wq_Archiver_goOver_0  (mm_ge (eG E)) v0 v1 h Z) : V E 5 0 0 h 0 [(0, va_rf (some v0)), (1, va_rf (v1))] [] := by
  unfold wq_Archiver_goOver_0 at hw
  refine V_bipush (v := 59) hc d_Archiver_goOver_0 (by decide) ?_
  refine V_istore_n (i := 2) (lv' := [(2, .int (59)), (0, va_rf (some v0)), (1, va_rf (v1))]) hc d_Archiver_goOver_2 rfl (by decide) (by simp [cat_rf, cat_i, cat_l]) ?_
  refine V_sub (lv' := [(0, va_rf (some v0)), (1, va_rf (v1)), (2, .int (59))]) [1, 2, 0] rfl ?_
  exact vl_Archiver_goOver_3 hc hq  _ _ _ _ hw
def wq_Archiver_goOver (ge : Nat → Nat) (v0 : Nat) (v1 : Option Nat) (h : mm_M) (Z : mm_M → Prop) : Prop := wq_Archiver_goOver_0 ge v0 v1 h Z
theorem sat_Archiver_goOver (G : mm_G) (v0 : Nat) (v1 : Option Nat) (h : mm_M) (Z : mm_M → Prop) (hw : wq_Archiver_goOver (mm_ge G) v0 v1 h Z) : mm_Met G y_Archiver_goOver c_Archiver_goOver 5 none rm_Archiver_goOver [va_rf (some v0), va_rf (v1)] h (pV Z) := by
  refine mm_intro (own := "EpochServer$Archiver") (by decide) rfl (by simp [lg_sl, cat_rf, cat_i, cat_l]) (fun E e1 hc hq hi => ?_)
  subst e1
  have e2 : lv_args 0 [va_rf (some v0), va_rf (v1)] = [(0, va_rf (some v0)), (1, va_rf (v1))] := by simp [lv_args, cat_rf, cat_i, cat_l]
  rw [e2]
  refine V_sub (lv' := [(0, va_rf (some v0)), (1, va_rf (v1))]) [0, 1] rfl ?_
  exact vb_Archiver_goOver_0 hc hq v0 v1 h hw
/-! Store.goBackTo(II)V -/
abbrev rm_Store_goBackTo : Room := { frames := 0, cells := 0, slots := 0, locals := 0 }
def wq_Store_goBackTo_0  (ge : Nat → Nat) (v0 : Nat) (v1 : Int32) (v2 : Int32) (h : mm_M) (Z : mm_M → Prop) : Prop :=
  mm_k h (v0) = kd_Store ∧ ge 0 ≤ v0 ∧ ∀ h3 : mm_M, h3 = mm_uI h (v0) 0 (v1) → mm_k h3 (v0) = kd_Store ∧ ge 0 ≤ v0 ∧ ∀ h6 : mm_M, h6 = mm_uI h3 (v0) 1 (v2) → Z h6
set_option maxRecDepth 100000 in
set_option maxHeartbeats 4000000 in
theorem vb_Store_goBackTo_0 {E : mm_E} {Z : mm_M → Prop} (hc : cx E "EpochServer$Store" c_Store_goBackTo 3 none rm_Store_goBackTo) (hq : cq E rm_Store_goBackTo (pV Z))  (v0 : Nat) (v1 : Int32) (v2 : Int32) (h : mm_M) (hw : wq_Store_goBackTo_0  (mm_ge (eG E)) v0 v1 v2 h Z) : V E 3 0 0 h 0 [(0, va_rf (some v0)), (1, .int (v1)), (2, .int (v2))] [] := by
  unfold wq_Store_goBackTo_0 at hw
  refine V_aload_n hc 0 d_Store_goBackTo_0 rfl rfl ?_
  refine V_iload_n hc 1 d_Store_goBackTo_1 rfl rfl ?_
  obtain ⟨q1, hw⟩ := hw
  obtain ⟨q2, hw⟩ := hw
  obtain ⟨h3, eq_h3⟩ : ∃ x, x = mm_uI h (v0) 0 (v1) := ⟨_, rfl⟩
  replace hw := hw _ eq_h3
  refine V_put (h' := h3) hc gf_Store_9 rfl rfl q1 q2 (by rw [eq_h3]; exact mm_Up_I _ _ _ _) (by rw [eq_h3]; exact up_vI rfl) (vp_nar_int _) rfl d_Store_goBackTo_2 ?_
  refine V_aload_n hc 0 d_Store_goBackTo_5 rfl rfl ?_
  refine V_iload_n hc 2 d_Store_goBackTo_6 rfl rfl ?_
  obtain ⟨q4, hw⟩ := hw
  obtain ⟨q5, hw⟩ := hw
  obtain ⟨h6, eq_h6⟩ : ∃ x, x = mm_uI h3 (v0) 1 (v2) := ⟨_, rfl⟩
  replace hw := hw _ eq_h6
  refine V_put (h' := h6) hc gf_Store_15 rfl rfl q4 q5 (by rw [eq_h6]; exact mm_Up_I _ _ _ _) (by rw [eq_h6]; exact up_vI rfl) (vp_nar_int _) rfl d_Store_goBackTo_7 ?_
  exact V_vret hc hq ⟨rfl, hw⟩ (by decide) (by decide) d_Store_goBackTo_10
def wq_Store_goBackTo (ge : Nat → Nat) (v0 : Nat) (v1 : Int32) (v2 : Int32) (h : mm_M) (Z : mm_M → Prop) : Prop := wq_Store_goBackTo_0 ge v0 v1 v2 h Z
theorem sat_Store_goBackTo (G : mm_G) (v0 : Nat) (v1 : Int32) (v2 : Int32) (h : mm_M) (Z : mm_M → Prop) (hw : wq_Store_goBackTo (mm_ge G) v0 v1 v2 h Z) : mm_Met G y_Store_goBackTo c_Store_goBackTo 3 none rm_Store_goBackTo [va_rf (some v0), .int (v1), .int (v2)] h (pV Z) := by
  refine mm_intro (own := "EpochServer$Store") (by decide) rfl (by simp [lg_sl, cat_rf, cat_i, cat_l]) (fun E e1 hc hq hi => ?_)
  subst e1
  have e2 : lv_args 0 [va_rf (some v0), .int (v1), .int (v2)] = [(0, va_rf (some v0)), (1, .int (v1)), (2, .int (v2))] := by simp [lv_args, cat_rf, cat_i, cat_l]
  rw [e2]
  refine V_sub (lv' := [(0, va_rf (some v0)), (1, .int (v1)), (2, .int (v2))]) [0, 1, 2] rfl ?_
  exact vb_Store_goBackTo_0 hc hq v0 v1 v2 h hw
/-! Archiver.putAway(LEpochServer$Tree;)I -/
abbrev rm_Archiver_putAway : Room := { frames := 6, cells := 0, slots := 0, locals := 146 }
def wq_Archiver_putAway_0  (ge : Nat → Nat) (v0 : Nat) (v1 : Option Nat) (h : mm_M) (Z : Int32 → mm_M → Prop) : Prop :=
  mm_k h (v0) = kd_Archiver ∧ ∃ a2, mm_P h v0 0 = some a2 ∧ mm_k h (a2) = kd_Store ∧ ge 0 ≤ v0 ∧ ∀ h6 : mm_M, h6 = mm_uI h (v0) 4 (1) → mm_k h6 (v0) = kd_Archiver ∧ ge 0 ≤ v0 ∧ ∀ h9 : mm_M, h9 = mm_uI h6 (v0) 5 (0) → mm_k h9 (v0) = kd_Archiver ∧ wq_Archiver_goOver ge (v0) (v1) h9 (fun h11 : mm_M => mm_k h11 (v0) = kd_Archiver ∧ (((mm_I h11 v0 5) = 0 → ∃ a14, mm_P h11 v0 0 = some a14 ∧ mm_k h11 (a14) = kd_Store ∧ Z ((mm_I h11 a14 0) - (mm_I h a2 0)) h11) ∧ (¬ (mm_I h11 v0 5) = 0 → ∃ a17, mm_P h11 v0 0 = some a17 ∧ mm_k h11 (a17) = kd_Store ∧ wq_Store_goBackTo ge (a17) (mm_I h a2 0) (mm_I h a2 1) h11 (fun h20 : mm_M => Z ((-2)) h20))))
set_option maxRecDepth 100000 in
set_option maxHeartbeats 4000000 in
theorem vb_Archiver_putAway_0 {E : mm_E} {Z : Int32 → mm_M → Prop} (hc : cx E "EpochServer$Archiver" c_Archiver_putAway 4 (some (.int)) rm_Archiver_putAway) (hq : cq E rm_Archiver_putAway (pI Z))  (v0 : Nat) (v1 : Option Nat) (h : mm_M) (hw : wq_Archiver_putAway_0  (mm_ge (eG E)) v0 v1 h Z) : V E 4 0 0 h 0 [(0, va_rf (some v0)), (1, va_rf (v1))] [] := by
  unfold wq_Archiver_putAway_0 at hw
  refine V_aload_n hc 0 d_Archiver_putAway_0 rfl rfl ?_
  obtain ⟨q1, hw⟩ := hw
  refine V_get (v := va_rf (mm_P h v0 0)) hc gf_Archiver_12 rfl q1 rfl d_Archiver_putAway_1 ?_
  obtain ⟨a2, q3, hw⟩ := hw
  obtain ⟨q4, hw⟩ := hw
  refine V_get (v := .int (mm_I h a2 0)) hc gf_Archiver_45 q3 q4 rfl d_Archiver_putAway_4 ?_
  refine V_istore_n (i := 2) (lv' := [(2, .int (mm_I h a2 0)), (0, va_rf (some v0)), (1, va_rf (v1))]) hc d_Archiver_putAway_7 rfl (by decide) (by simp [cat_rf, cat_i, cat_l]) ?_
  refine V_aload_n hc 1 d_Archiver_putAway_8 rfl rfl ?_
  refine V_get (v := va_rf (mm_P h v0 0)) hc gf_Archiver_12 rfl q1 rfl d_Archiver_putAway_9 ?_
  refine V_get (v := .int (mm_I h a2 1)) hc gf_Archiver_49 q3 q4 rfl d_Archiver_putAway_12 ?_
  refine V_istore_n (i := 3) (lv' := [(3, .int (mm_I h a2 1)), (2, .int (mm_I h a2 0)), (0, va_rf (some v0)), (1, va_rf (v1))]) hc d_Archiver_putAway_15 rfl (by decide) rfl ?_
  refine V_aload_n hc 2 d_Archiver_putAway_16 rfl rfl ?_
  refine V_iconst (v := 1) hc d_Archiver_putAway_17 (by decide) ?_
  obtain ⟨q5, hw⟩ := hw
  obtain ⟨h6, eq_h6⟩ : ∃ x, x = mm_uI h (v0) 4 (1) := ⟨_, rfl⟩
  replace hw := hw _ eq_h6
  refine V_put (h' := h6) hc gf_Archiver_38 rfl rfl q1 q5 (by rw [eq_h6]; exact mm_Up_I _ _ _ _) (by rw [eq_h6]; exact up_vI rfl) (by decide) (by decide) d_Archiver_putAway_18 ?_
  refine V_aload_n hc 2 d_Archiver_putAway_21 rfl rfl ?_
  refine V_iconst (v := 0) hc d_Archiver_putAway_22 (by decide) ?_
  obtain ⟨q7, hw⟩ := hw
  obtain ⟨q8, hw⟩ := hw
  obtain ⟨h9, eq_h9⟩ : ∃ x, x = mm_uI h6 (v0) 5 (0) := ⟨_, rfl⟩
  replace hw := hw _ eq_h9
  refine V_put (h' := h9) hc gf_Archiver_42 rfl rfl q7 q8 (by rw [eq_h9]; exact mm_Up_I _ _ _ _) (by rw [eq_h9]; exact up_vI rfl) (by decide) (by decide) d_Archiver_putAway_23 ?_
  refine V_aload_n hc 2 d_Archiver_putAway_26 rfl rfl ?_
  refine V_aload_n hc 3 d_Archiver_putAway_27 rfl rfl ?_
  obtain ⟨q10, hw⟩ := hw
  refine V_callV (rm' := rm_Archiver_goOver) (As := [va_rf (v1)]) (rest := []) (n := 1) (cn := 2) hc rfl q10 (sat_Archiver_goOver (eG E) _ _ _ _ hw) rfl cv_Archiver_52 (gw_of (tw_4 (List.mem_of_getElem? (i := 62) rfl)) rfl) ss_Archiver_goOver rfl ⟨by decide, by decide⟩ (by decide) (by decide) rfl (by simp [cat_rf, cat_i, cat_l]) d_Archiver_putAway_28 (fun r0 h11 hw => ?_)
  obtain ⟨rfl, hw⟩ := hw
  refine V_wide (cs' := 0) (sl' := 0) (by decide) (by decide) ?_
  refine V_st (st' := []) rfl ?_
  refine V_aload_n hc 2 d_Archiver_putAway_31 rfl rfl ?_
  obtain ⟨q13, hw⟩ := hw
  refine V_get (v := .int (mm_I h11 v0 5)) hc gf_Archiver_42 rfl q13 rfl d_Archiver_putAway_32 ?_
  refine V_if_eq (tgt := 50) hc d_Archiver_putAway_35 (by decide) (fun hq1 => ?_) (fun hq1 => ?_)
  · replace hw := hw.1 hq1
    refine V_aload_n hc 2 d_Archiver_putAway_50 rfl rfl ?_
    refine V_get (v := va_rf (mm_P h11 v0 0)) hc gf_Archiver_12 rfl q13 rfl d_Archiver_putAway_51 ?_
    obtain ⟨a14, q15, hw⟩ := hw
    obtain ⟨q16, hw⟩ := hw
    refine V_get (v := .int (mm_I h11 a14 0)) hc gf_Archiver_45 q15 q16 rfl d_Archiver_putAway_54 ?_
    refine V_iload_n hc 1 d_Archiver_putAway_57 rfl rfl ?_
    refine V_isub hc d_Archiver_putAway_58 ?_
    exact V_iret hc hq ⟨_, rfl, hw⟩ (by decide) (by decide) d_Archiver_putAway_59
  · replace hw := hw.2 hq1
    refine V_aload_n hc 2 d_Archiver_putAway_38 rfl rfl ?_
    refine V_get (v := va_rf (mm_P h11 v0 0)) hc gf_Archiver_12 rfl q13 rfl d_Archiver_putAway_39 ?_
    refine V_iload_n hc 1 d_Archiver_putAway_42 rfl rfl ?_
    refine V_iload_n hc 0 d_Archiver_putAway_43 rfl rfl ?_
    obtain ⟨a17, q18, hw⟩ := hw
    obtain ⟨q19, hw⟩ := hw
    refine V_callV (rm' := rm_Store_goBackTo) (As := [.int (mm_I h a2 0), .int (mm_I h a2 1)]) (rest := []) (n := 2) (cn := 11) hc q18 q19 (sat_Store_goBackTo (eG E) _ _ _ _ _ hw) rfl cv_Archiver_56 (gw_of (tw_4 (List.mem_of_getElem? (i := 116) rfl)) rfl) ss_Store_goBackTo rfl ⟨by decide, by decide⟩ (by decide) (by decide) rfl (by simp [cat_rf, cat_i, cat_l]) d_Archiver_putAway_44 (fun r0 h20 hw => ?_)
    obtain ⟨rfl, hw⟩ := hw
    refine V_wide (cs' := 0) (sl' := 0) (by decide) (by decide) ?_
    refine V_st (st' := []) rfl ?_
    refine V_bipush (v := (-2)) hc d_Archiver_putAway_47 (by decide) ?_
    exact V_iret hc hq ⟨_, rfl, hw⟩ (by decide) (by decide) d_Archiver_putAway_49
def wq_Archiver_putAway (ge : Nat → Nat) (v0 : Nat) (v1 : Option Nat) (h : mm_M) (Z : Int32 → mm_M → Prop) : Prop := wq_Archiver_putAway_0 ge v0 v1 h Z
theorem sat_Archiver_putAway (G : mm_G) (v0 : Nat) (v1 : Option Nat) (h : mm_M) (Z : Int32 → mm_M → Prop) (hw : wq_Archiver_putAway (mm_ge G) v0 v1 h Z) : mm_Met G y_Archiver_putAway c_Archiver_putAway 4 (some (.int)) rm_Archiver_putAway [va_rf (some v0), va_rf (v1)] h (pI Z) := by
  refine mm_intro (own := "EpochServer$Archiver") (by decide) rfl (by simp [lg_sl, cat_rf, cat_i, cat_l]) (fun E e1 hc hq hi => ?_)
  subst e1
  have e2 : lv_args 0 [va_rf (some v0), va_rf (v1)] = [(0, va_rf (some v0)), (1, va_rf (v1))] := by simp [lv_args, cat_rf, cat_i, cat_l]
  rw [e2]
  refine V_sub (lv' := [(0, va_rf (some v0)), (1, va_rf (v1))]) [0, 1] rfl ?_
  exact vb_Archiver_putAway_0 hc hq v0 v1 h hw
/-! Archiver.scoreOnly(LEpochServer$Tree;)V -/
abbrev rm_Archiver_scoreOnly : Room := { frames := 6, cells := 0, slots := 0, locals := 146 }
def wq_Archiver_scoreOnly_0  (ge : Nat → Nat) (v0 : Nat) (v1 : Option Nat) (h : mm_M) (Z : mm_M → Prop) : Prop :=
  mm_k h (v0) = kd_Archiver ∧ ge 0 ≤ v0 ∧ ∀ h3 : mm_M, h3 = mm_uI h (v0) 4 (0) → mm_k h3 (v0) = kd_Archiver ∧ wq_Archiver_goOver ge (v0) (v1) h3 (fun h5 : mm_M => Z h5)
set_option maxRecDepth 100000 in
set_option maxHeartbeats 4000000 in
theorem vb_Archiver_scoreOnly_0 {E : mm_E} {Z : mm_M → Prop} (hc : cx E "EpochServer$Archiver" c_Archiver_scoreOnly 2 none rm_Archiver_scoreOnly) (hq : cq E rm_Archiver_scoreOnly (pV Z))  (v0 : Nat) (v1 : Option Nat) (h : mm_M) (hw : wq_Archiver_scoreOnly_0  (mm_ge (eG E)) v0 v1 h Z) : V E 2 0 0 h 0 [(0, va_rf (some v0)), (1, va_rf (v1))] [] := by
  unfold wq_Archiver_scoreOnly_0 at hw
  refine V_aload_n hc 0 d_Archiver_scoreOnly_0 rfl rfl ?_
  refine V_iconst (v := 0) hc d_Archiver_scoreOnly_1 (by decide) ?_
  obtain ⟨q1, hw⟩ := hw
  obtain ⟨q2, hw⟩ := hw
  obtain ⟨h3, eq_h3⟩ : ∃ x, x = mm_uI h (v0) 4 (0) := ⟨_, rfl⟩
  replace hw := hw _ eq_h3
  refine V_put (h' := h3) hc gf_Archiver_38 rfl rfl q1 q2 (by rw [eq_h3]; exact mm_Up_I _ _ _ _) (by rw [eq_h3]; exact up_vI rfl) (by decide) (by decide) d_Archiver_scoreOnly_2 ?_
  refine V_aload_n hc 0 d_Archiver_scoreOnly_5 rfl rfl ?_
  refine V_aload_n hc 1 d_Archiver_scoreOnly_6 rfl rfl ?_
  obtain ⟨q4, hw⟩ := hw
  refine V_callV (rm' := rm_Archiver_goOver) (As := [va_rf (v1)]) (rest := []) (n := 1) (cn := 2) hc rfl q4 (sat_Archiver_goOver (eG E) _ _ _ _ hw) rfl cv_Archiver_52 (gw_of (tw_4 (List.mem_of_getElem? (i := 62) rfl)) rfl) ss_Archiver_goOver rfl ⟨by decide, by decide⟩ (by decide) (by decide) rfl (by simp [cat_rf, cat_i, cat_l]) d_Archiver_scoreOnly_7 (fun r0 h5 hw => ?_)
  obtain ⟨rfl, hw⟩ := hw
  refine V_wide (cs' := 0) (sl' := 0) (by decide) (by decide) ?_
  refine V_st (st' := []) rfl ?_
  exact V_vret hc hq ⟨rfl, hw⟩ (by decide) (by decide) d_Archiver_scoreOnly_10
def wq_Archiver_scoreOnly (ge : Nat → Nat) (v0 : Nat) (v1 : Option Nat) (h : mm_M) (Z : mm_M → Prop) : Prop := wq_Archiver_scoreOnly_0 ge v0 v1 h Z
theorem sat_Archiver_scoreOnly (G : mm_G) (v0 : Nat) (v1 : Option Nat) (h : mm_M) (Z : mm_M → Prop) (hw : wq_Archiver_scoreOnly (mm_ge G) v0 v1 h Z) : mm_Met G y_Archiver_scoreOnly c_Archiver_scoreOnly 2 none rm_Archiver_scoreOnly [va_rf (some v0), va_rf (v1)] h (pV Z) := by
  refine mm_intro (own := "EpochServer$Archiver") (by decide) rfl (by simp [lg_sl, cat_rf, cat_i, cat_l]) (fun E e1 hc hq hi => ?_)
  subst e1
  have e2 : lv_args 0 [va_rf (some v0), va_rf (v1)] = [(0, va_rf (some v0)), (1, va_rf (v1))] := by simp [lv_args, cat_rf, cat_i, cat_l]
  rw [e2]
  refine V_sub (lv' := [(0, va_rf (some v0)), (1, va_rf (v1))]) [0, 1] rfl ?_
  exact vb_Archiver_scoreOnly_0 hc hq v0 v1 h hw
/-! Archiver.copyRootScore([II)V -/
abbrev rm_Archiver_copyRootScore : Room := { frames := 0, cells := 0, slots := 0, locals := 0 }
def wq_Archiver_copyRootScore_36 (X2 : Nat → Option Nat → Int32 → Int32 → mm_M → Prop) (ge : Nat → Nat) (v0 : Nat) (v1 : Option Nat) (v2 : Int32) (v3 : Int32) (h : mm_M) (Z : mm_M → Prop) : Prop :=
  X2 (v0) (v1) (v2) (v3 + 1) h
def wq_Archiver_copyRootScore_2 (X2 : Nat → Option Nat → Int32 → Int32 → mm_M → Prop) (ge : Nat → Nat) (v0 : Nat) (v1 : Option Nat) (v2 : Int32) (v3 : Int32) (h : mm_M) (Z : mm_M → Prop) : Prop :=
  (((5 : Int32) ≤ (v3 : Int32) → Z h) ∧ (¬ (5 : Int32) ≤ (v3 : Int32) → ((((v2) + (v3)) < 0 → wq_Archiver_copyRootScore_36 X2 ge (v0) (v1) (v2) (v3) h Z) ∧ (¬ ((v2) + (v3)) < 0 → ∃ a1, v1 = some a1 ∧ mm_k h (a1) = ka_I ∧ (((Nat.toInt32 (mm_n h a1) : Int32) ≤ ((v2) + (v3) : Int32) → wq_Archiver_copyRootScore_36 X2 ge (v0) (v1) (v2) (v3) h Z) ∧ (¬ (Nat.toInt32 (mm_n h a1) : Int32) ≤ ((v2) + (v3) : Int32) → mm_k h (v0) = kd_Archiver ∧ ∃ a5, mm_P h v0 3 = some a5 ∧ mm_k h (a5) = ka_I ∧ vp_in ((0 : Int32) + (v3)) (mm_n h a5) ∧ vp_in ((v2) + (v3)) (mm_n h a1) ∧ ge 0 ≤ a1 ∧ ∀ h11 : mm_M, h11 = mm_uI h a1 (Int32.toNatClampNeg ((v2) + (v3))) (mm_I h a5 (Int32.toNatClampNeg ((0 : Int32) + (v3)))) → wq_Archiver_copyRootScore_36 X2 ge (v0) (v1) (v2) (v3) h11 Z))))))
def lp_Archiver_copyRootScore_2  (ge : Nat → Nat) (v0 : Nat) (v1 : Option Nat) (v2 : Int32) (v3 : Int32) (h : mm_M) (Z : mm_M → Prop) : Prop :=
  ∀ X2 : Nat → Option Nat → Int32 → Int32 → mm_M → Prop, (∀ (v0 : Nat) (v1 : Option Nat) (v2 : Int32) (v3 : Int32) (h : mm_M), wq_Archiver_copyRootScore_2 X2 ge v0 v1 v2 v3 h Z → X2 v0 v1 v2 v3 h) → X2 v0 v1 v2 v3 h
def wq_Archiver_copyRootScore_0  (ge : Nat → Nat) (v0 : Nat) (v1 : Option Nat) (v2 : Int32) (h : mm_M) (Z : mm_M → Prop) : Prop :=
  lp_Archiver_copyRootScore_2  ge (v0) (v1) (v2) (0) h Z
set_option maxRecDepth 100000 in
set_option maxHeartbeats 4000000 in
theorem vb_Archiver_copyRootScore_36 {E : mm_E} {Z : mm_M → Prop} (hc : cx E "EpochServer$Archiver" c_Archiver_copyRootScore 5 none rm_Archiver_copyRootScore) (hq : cq E rm_Archiver_copyRootScore (pV Z)) (X2 : Nat → Option Nat → Int32 → Int32 → mm_M → Prop) (hX2 : ∀ (v0 : Nat) (v1 : Option Nat) (v2 : Int32) (v3 : Int32) (h : mm_M), X2 v0 v1 v2 v3 h → V E 5 0 0 h 2 [(0, va_rf (some v0)), (1, va_rf (v1)), (2, .int (v2)), (3, .int (v3))] []) (v0 : Nat) (v1 : Option Nat) (v2 : Int32) (v3 : Int32) (h : mm_M) (hw : wq_Archiver_copyRootScore_36 X2 (mm_ge (eG E)) v0 v1 v2 v3 h Z) : V E 5 0 0 h 36 [(0, va_rf (some v0)), (1, va_rf (v1)), (2, .int (v2)), (3, .int (v3))] [] := by
  unfold wq_Archiver_copyRootScore_36 at hw
  refine V_iinc (v := v3 + 1) (lv' := [(3, .int (v3 + 1)), (0, va_rf (some v0)), (1, va_rf (v1)), (2, .int (v2))]) hc 3 d_Archiver_copyRootScore_36 rfl rfl (by decide) rfl ?_
  refine V_goto (tgt := 2) hc d_Archiver_copyRootScore_39 (by decide) ?_
  refine V_sub (lv' := [(0, va_rf (some v0)), (1, va_rf (v1)), (2, .int (v2)), (3, .int (v3 + 1))]) [1, 2, 3, 0] rfl ?_
  exact hX2 _ _ _ _ _ hw
set_option maxRecDepth 100000 in
set_option maxHeartbeats 4000000 in
theorem vb_Archiver_copyRootScore_2 {E : mm_E} {Z : mm_M → Prop} (hc : cx E "EpochServer$Archiver" c_Archiver_copyRootScore 5 none rm_Archiver_copyRootScore) (hq : cq E rm_Archiver_copyRootScore (pV Z)) (X2 : Nat → Option Nat → Int32 → Int32 → mm_M → Prop) (hX2 : ∀ (v0 : Nat) (v1 : Option Nat) (v2 : Int32) (v3 : Int32) (h : mm_M), X2 v0 v1 v2 v3 h → V E 5 0 0 h 2 [(0, va_rf (some v0)), (1, va_rf (v1)), (2, .int (v2)), (3, .int (v3))] []) (v0 : Nat) (v1 : Option Nat) (v2 : Int32) (v3 : Int32) (h : mm_M) (hw : wq_Archiver_copyRootScore_2 X2 (mm_ge (eG E)) v0 v1 v2 v3 h Z) : V E 5 0 0 h 2 [(0, va_rf (some v0)), (1, va_rf (v1)), (2, .int (v2)), (3, .int (v3))] [] := by
  unfold wq_Archiver_copyRootScore_2 at hw
  refine V_iload_n hc 3 d_Archiver_copyRootScore_2 rfl rfl ?_
  refine V_iconst (v := 5) hc d_Archiver_copyRootScore_3 (by decide) ?_
  refine V_icmp_ge (tgt := 42) hc d_Archiver_copyRootScore_4 (by decide) (fun hq1 => ?_) (fun hq1 => ?_)
  · replace hw := hw.1 hq1
    exact V_vret hc hq ⟨rfl, hw⟩ (by decide) (by decide) d_Archiver_copyRootScore_42
  · replace hw := hw.2 hq1
    refine V_iload_n hc 2 d_Archiver_copyRootScore_7 rfl rfl ?_
    refine V_iload_n hc 3 d_Archiver_copyRootScore_8 rfl rfl ?_
    refine V_iadd hc d_Archiver_copyRootScore_9 ?_
    refine V_istore (i := 4) (lv' := [(4, .int ((v2) + (v3))), (0, va_rf (some v0)), (1, va_rf (v1)), (2, .int (v2)), (3, .int (v3))]) hc d_Archiver_copyRootScore_10 (by decide) rfl ?_
    refine V_iload hc 0 d_Archiver_copyRootScore_12 rfl ?_
    refine V_if_lt (tgt := 36) hc d_Archiver_copyRootScore_14 (by decide) (fun hq1 => ?_) (fun hq1 => ?_)
    · replace hw := hw.1 hq1
      refine V_sub (lv' := [(0, va_rf (some v0)), (1, va_rf (v1)), (2, .int (v2)), (3, .int (v3))]) [1, 2, 3, 4] rfl ?_
      exact vb_Archiver_copyRootScore_36 hc hq X2 hX2 _ _ _ _ _ hw
    · replace hw := hw.2 hq1
      refine V_iload hc 0 d_Archiver_copyRootScore_17 rfl ?_
      refine V_aload_n hc 2 d_Archiver_copyRootScore_19 rfl rfl ?_
      obtain ⟨a1, q2, hw⟩ := hw
      obtain ⟨q3, hw⟩ := hw
      refine V_alen (t := 0) (ty := .int) hc rfl q2 q3 d_Archiver_copyRootScore_20 ?_
      refine V_icmp_ge (tgt := 36) hc d_Archiver_copyRootScore_21 (by decide) (fun hq1 => ?_) (fun hq1 => ?_)
      · replace hw := hw.1 hq1
        refine V_sub (lv' := [(0, va_rf (some v0)), (1, va_rf (v1)), (2, .int (v2)), (3, .int (v3))]) [1, 2, 3, 4] rfl ?_
        exact vb_Archiver_copyRootScore_36 hc hq X2 hX2 _ _ _ _ _ hw
      · replace hw := hw.2 hq1
        refine V_aload_n hc 2 d_Archiver_copyRootScore_24 rfl rfl ?_
        refine V_iload hc 0 d_Archiver_copyRootScore_25 rfl ?_
        refine V_aload_n hc 1 d_Archiver_copyRootScore_27 rfl rfl ?_
        obtain ⟨q4, hw⟩ := hw
        refine V_get (v := va_rf (mm_P h v0 3)) hc gf_Archiver_34 rfl q4 rfl d_Archiver_copyRootScore_28 ?_
        refine V_iconst (v := 0) hc d_Archiver_copyRootScore_31 (by decide) ?_
        refine V_iload_n hc 4 d_Archiver_copyRootScore_32 rfl rfl ?_
        refine V_iadd hc d_Archiver_copyRootScore_33 ?_
        obtain ⟨a5, q6, hw⟩ := hw
        obtain ⟨q7, hw⟩ := hw
        obtain ⟨q8, hw⟩ := hw
        refine V_iald hc q6 q7 q8 d_Archiver_copyRootScore_34 ?_
        obtain ⟨q9, hw⟩ := hw
        obtain ⟨q10, hw⟩ := hw
        obtain ⟨h11, eq_h11⟩ : ∃ x, x = mm_uI h a1 (Int32.toNatClampNeg ((v2) + (v3))) (mm_I h a5 (Int32.toNatClampNeg ((0 : Int32) + (v3)))) := ⟨_, rfl⟩
        replace hw := hw _ eq_h11
        refine V_iast hc q2 q3 q9 q10 d_Archiver_copyRootScore_35 ?_
        rw [← eq_h11]
        refine V_sub (lv' := [(0, va_rf (some v0)), (1, va_rf (v1)), (2, .int (v2)), (3, .int (v3))]) [1, 2, 3, 4] rfl ?_
        exact vb_Archiver_copyRootScore_36 hc hq X2 hX2 _ _ _ _ _ hw
theorem vl_Archiver_copyRootScore_2 {E : mm_E} {Z : mm_M → Prop} (hc : cx E "EpochServer$Archiver" c_Archiver_copyRootScore 5 none rm_Archiver_copyRootScore) (hq : cq E rm_Archiver_copyRootScore (pV Z))  (v0 : Nat) (v1 : Option Nat) (v2 : Int32) (v3 : Int32) (h : mm_M) (hw : lp_Archiver_copyRootScore_2  (mm_ge (eG E)) v0 v1 v2 v3 h Z) : V E 5 0 0 h 2 [(0, va_rf (some v0)), (1, va_rf (v1)), (2, .int (v2)), (3, .int (v3))] [] :=
  hw (fun v0 v1 v2 v3 h => V E 5 0 0 h 2 [(0, va_rf (some v0)), (1, va_rf (v1)), (2, .int (v2)), (3, .int (v3))] []) (fun v0 v1 v2 v3 h hb => vb_Archiver_copyRootScore_2 hc hq  _ (fun _ _ _ _ _ q => q) v0 v1 v2 v3 h hb)
set_option maxRecDepth 100000 in
set_option maxHeartbeats 4000000 in
theorem vb_Archiver_copyRootScore_0 {E : mm_E} {Z : mm_M → Prop} (hc : cx E "EpochServer$Archiver" c_Archiver_copyRootScore 5 none rm_Archiver_copyRootScore) (hq : cq E rm_Archiver_copyRootScore (pV Z))  (v0 : Nat) (v1 : Option Nat) (v2 : Int32) (h : mm_M) (hw : wq_Archiver_copyRootScore_0  (mm_ge (eG E)) v0 v1 v2 h Z) : V E 5 0 0 h 0 [(0, va_rf (some v0)), (1, va_rf (v1)), (2, .int (v2))] [] := by
  unfold wq_Archiver_copyRootScore_0 at hw
  refine V_iconst (v := 0) hc d_Archiver_copyRootScore_0 (by decide) ?_
  refine V_istore_n (i := 3) (lv' := [(3, .int (0)), (0, va_rf (some v0)), (1, va_rf (v1)), (2, .int (v2))]) hc d_Archiver_copyRootScore_1 rfl (by decide) rfl ?_
  refine V_sub (lv' := [(0, va_rf (some v0)), (1, va_rf (v1)), (2, .int (v2)), (3, .int (0))]) [1, 2, 3, 0] rfl ?_
  exact vl_Archiver_copyRootScore_2 hc hq  _ _ _ _ _ hw
def wq_Archiver_copyRootScore (ge : Nat → Nat) (v0 : Nat) (v1 : Option Nat) (v2 : Int32) (h : mm_M) (Z : mm_M → Prop) : Prop := wq_Archiver_copyRootScore_0 ge v0 v1 v2 h Z
theorem sat_Archiver_copyRootScore (G : mm_G) (v0 : Nat) (v1 : Option Nat) (v2 : Int32) (h : mm_M) (Z : mm_M → Prop) (hw : wq_Archiver_copyRootScore (mm_ge G) v0 v1 v2 h Z) : mm_Met G y_Archiver_copyRootScore c_Archiver_copyRootScore 5 none rm_Archiver_copyRootScore [va_rf (some v0), va_rf (v1), .int (v2)] h (pV Z) := by
  refine mm_intro (own := "EpochServer$Archiver") (by decide) rfl (by simp [lg_sl, cat_rf, cat_i, cat_l]) (fun E e1 hc hq hi => ?_)
  subst e1
  have e2 : lv_args 0 [va_rf (some v0), va_rf (v1), .int (v2)] = [(0, va_rf (some v0)), (1, va_rf (v1)), (2, .int (v2))] := by simp [lv_args, cat_rf, cat_i, cat_l]
  rw [e2]
  refine V_sub (lv' := [(0, va_rf (some v0)), (1, va_rf (v1)), (2, .int (v2))]) [0, 1, 2] rfl ?_
  exact vb_Archiver_copyRootScore_0 hc hq v0 v1 v2 h hw
/-! Bytes.room()I -/
abbrev rm_Bytes_room : Room := { frames := 0, cells := 0, slots := 0, locals := 0 }
def wq_Bytes_room_0  (ge : Nat → Nat) (v0 : Nat) (h : mm_M) (Z : Int32 → mm_M → Prop) : Prop :=
  mm_k h (v0) = kd_Bytes ∧ ∃ a2, mm_P h v0 0 = some a2 ∧ mm_k h (a2) = ka_B ∧ Z ((Nat.toInt32 (mm_n h a2)) - (mm_I h v0 1)) h
set_option maxRecDepth 100000 in
set_option maxHeartbeats 4000000 in
theorem vb_Bytes_room_0 {E : mm_E} {Z : Int32 → mm_M → Prop} (hc : cx E "EpochServer$Bytes" c_Bytes_room 1 (some (.int)) rm_Bytes_room) (hq : cq E rm_Bytes_room (pI Z))  (v0 : Nat) (h : mm_M) (hw : wq_Bytes_room_0  (mm_ge (eG E)) v0 h Z) : V E 1 0 0 h 0 [(0, va_rf (some v0))] [] := by
  unfold wq_Bytes_room_0 at hw
  refine V_aload_n hc 0 d_Bytes_room_0 rfl rfl ?_
  obtain ⟨q1, hw⟩ := hw
  refine V_get (v := va_rf (mm_P h v0 0)) hc gf_Bytes_19 rfl q1 rfl d_Bytes_room_1 ?_
  obtain ⟨a2, q3, hw⟩ := hw
  obtain ⟨q4, hw⟩ := hw
  refine V_alen (t := 1) (ty := .byte) hc rfl q3 q4 d_Bytes_room_4 ?_
  refine V_aload_n hc 0 d_Bytes_room_5 rfl rfl ?_
  refine V_get (v := .int (mm_I h v0 1)) hc gf_Bytes_7 rfl q1 rfl d_Bytes_room_6 ?_
  refine V_isub hc d_Bytes_room_9 ?_
  exact V_iret hc hq ⟨_, rfl, hw⟩ (by decide) (by decide) d_Bytes_room_10
def wq_Bytes_room (ge : Nat → Nat) (v0 : Nat) (h : mm_M) (Z : Int32 → mm_M → Prop) : Prop := wq_Bytes_room_0 ge v0 h Z
theorem sat_Bytes_room (G : mm_G) (v0 : Nat) (h : mm_M) (Z : Int32 → mm_M → Prop) (hw : wq_Bytes_room (mm_ge G) v0 h Z) : mm_Met G y_Bytes_room c_Bytes_room 1 (some (.int)) rm_Bytes_room [va_rf (some v0)] h (pI Z) := by
  refine mm_intro (own := "EpochServer$Bytes") (by decide) rfl (by simp [lg_sl, cat_rf, cat_i, cat_l]) (fun E e1 hc hq hi => ?_)
  subst e1
  have e2 : lv_args 0 [va_rf (some v0)] = [(0, va_rf (some v0))] := by simp [lv_args, cat_rf, cat_i, cat_l]
  rw [e2]
  refine V_sub (lv' := [(0, va_rf (some v0))]) [0] rfl ?_
  exact vb_Bytes_room_0 hc hq v0 h hw
/-! Bytes.at(I)I -/
abbrev rm_Bytes_at : Room := { frames := 0, cells := 0, slots := 0, locals := 0 }
def wq_Bytes_at_26  (ge : Nat → Nat) (s0 : Int32) (h : mm_M) (Z : Int32 → mm_M → Prop) : Prop :=
  Z (s0) h
def wq_Bytes_at_12  (ge : Nat → Nat)  (h : mm_M) (Z : Int32 → mm_M → Prop) : Prop :=
  wq_Bytes_at_26  ge ((-1)) h Z
def wq_Bytes_at_0  (ge : Nat → Nat) (v0 : Nat) (v1 : Int32) (h : mm_M) (Z : Int32 → mm_M → Prop) : Prop :=
  (((v1) < 0 → wq_Bytes_at_12  ge h Z) ∧ (¬ (v1) < 0 → mm_k h (v0) = kd_Bytes ∧ (((v1 : Int32) < (mm_I h v0 1 : Int32) → ∃ a2, mm_P h v0 0 = some a2 ∧ mm_k h (a2) = ka_B ∧ vp_in (v1) (mm_n h a2) ∧ wq_Bytes_at_26  ge ((mm_I h a2 (Int32.toNatClampNeg (v1))) &&& (255 : Int32)) h Z) ∧ (¬ (v1 : Int32) < (mm_I h v0 1 : Int32) → wq_Bytes_at_12  ge h Z))))
set_option maxRecDepth 100000 in
set_option maxHeartbeats 4000000 in
theorem vb_Bytes_at_26 {E : mm_E} {Z : Int32 → mm_M → Prop} (hc : cx E "EpochServer$Bytes" c_Bytes_at 2 (some (.int)) rm_Bytes_at) (hq : cq E rm_Bytes_at (pI Z))  (s0 : Int32) (h : mm_M) (hw : wq_Bytes_at_26  (mm_ge (eG E)) s0 h Z) : V E 2 0 0 h 26 [] [.int (s0)] := by
  unfold wq_Bytes_at_26 at hw
  exact V_iret hc hq ⟨_, rfl, hw⟩ (by decide) (by decide) d_Bytes_at_26
set_option maxRecDepth 100000 in
set_option maxHeartbeats 4000000 in
theorem vb_Bytes_at_12 {E : mm_E} {Z : Int32 → mm_M → Prop} (hc : cx E "EpochServer$Bytes" c_Bytes_at 2 (some (.int)) rm_Bytes_at) (hq : cq E rm_Bytes_at (pI Z))   (h : mm_M) (hw : wq_Bytes_at_12  (mm_ge (eG E))  h Z) : V E 2 0 0 h 12 [] [] := by
  unfold wq_Bytes_at_12 at hw
  refine V_iconst (v := (-1)) hc d_Bytes_at_12 (by decide) ?_
  refine V_goto (tgt := 26) hc d_Bytes_at_13 (by decide) ?_
  refine V_sub (lv' := []) [] rfl ?_
  exact vb_Bytes_at_26 hc hq  _ _ hw
set_option maxRecDepth 100000 in
set_option maxHeartbeats 4000000 in
theorem vb_Bytes_at_0 {E : mm_E} {Z : Int32 → mm_M → Prop} (hc : cx E "EpochServer$Bytes" c_Bytes_at 2 (some (.int)) rm_Bytes_at) (hq : cq E rm_Bytes_at (pI Z))  (v0 : Nat) (v1 : Int32) (h : mm_M) (hw : wq_Bytes_at_0  (mm_ge (eG E)) v0 v1 h Z) : V E 2 0 0 h 0 [(0, va_rf (some v0)), (1, .int (v1))] [] := by
  unfold wq_Bytes_at_0 at hw
  refine V_iload_n hc 1 d_Bytes_at_0 rfl rfl ?_
  refine V_if_lt (tgt := 12) hc d_Bytes_at_1 (by decide) (fun hq1 => ?_) (fun hq1 => ?_)
  · replace hw := hw.1 hq1
    refine V_sub (lv' := []) [] rfl ?_
    exact vb_Bytes_at_12 hc hq  _ hw
  · replace hw := hw.2 hq1
    refine V_iload_n hc 1 d_Bytes_at_4 rfl rfl ?_
    refine V_aload_n hc 0 d_Bytes_at_5 rfl rfl ?_
    obtain ⟨q1, hw⟩ := hw
    refine V_get (v := .int (mm_I h v0 1)) hc gf_Bytes_7 rfl q1 rfl d_Bytes_at_6 ?_
    refine V_icmp_lt (tgt := 16) hc d_Bytes_at_9 (by decide) (fun hq1 => ?_) (fun hq1 => ?_)
    · replace hw := hw.1 hq1
      refine V_aload_n hc 0 d_Bytes_at_16 rfl rfl ?_
      refine V_get (v := va_rf (mm_P h v0 0)) hc gf_Bytes_19 rfl q1 rfl d_Bytes_at_17 ?_
      refine V_iload_n hc 1 d_Bytes_at_20 rfl rfl ?_
      obtain ⟨a2, q3, hw⟩ := hw
      obtain ⟨q4, hw⟩ := hw
      obtain ⟨q5, hw⟩ := hw
      refine V_bald hc q3 q4 q5 d_Bytes_at_21 ?_
      refine V_sipush (v := 255) hc d_Bytes_at_22 (by decide) ?_
      refine V_iand hc d_Bytes_at_25 ?_
      refine V_sub (lv' := []) [] rfl ?_
      exact vb_Bytes_at_26 hc hq  _ _ hw
    · replace hw := hw.2 hq1
      refine V_sub (lv' := []) [] rfl ?_
      exact vb_Bytes_at_12 hc hq  _ hw
def wq_Bytes_at (ge : Nat → Nat) (v0 : Nat) (v1 : Int32) (h : mm_M) (Z : Int32 → mm_M → Prop) : Prop := wq_Bytes_at_0 ge v0 v1 h Z
theorem sat_Bytes_at (G : mm_G) (v0 : Nat) (v1 : Int32) (h : mm_M) (Z : Int32 → mm_M → Prop) (hw : wq_Bytes_at (mm_ge G) v0 v1 h Z) : mm_Met G y_Bytes_at c_Bytes_at 2 (some (.int)) rm_Bytes_at [va_rf (some v0), .int (v1)] h (pI Z) := by
  refine mm_intro (own := "EpochServer$Bytes") (by decide) rfl (by simp [lg_sl, cat_rf, cat_i, cat_l]) (fun E e1 hc hq hi => ?_)
  subst e1
  have e2 : lv_args 0 [va_rf (some v0), .int (v1)] = [(0, va_rf (some v0)), (1, .int (v1))] := by simp [lv_args, cat_rf, cat_i, cat_l]
  rw [e2]
  refine V_sub (lv' := [(0, va_rf (some v0)), (1, .int (v1))]) [0, 1] rfl ?_
  exact vb_Bytes_at_0 hc hq v0 v1 h hw
/-! Bytes.set(III)V -/
abbrev rm_Bytes_set : Room := { frames := 0, cells := 0, slots := 0, locals := 0 }
def wq_Bytes_set_41 (X3 : Nat → Int32 → Int32 → Int32 → Int32 → mm_M → Prop) (ge : Nat → Nat) (v0 : Nat) (v1 : Int32) (v2 : Int32) (v3 : Int32) (v4 : Int32) (h : mm_M) (Z : mm_M → Prop) : Prop :=
  X3 (v0) (v1) (v2) (v3) (v4 + 1) h
def wq_Bytes_set_3 (X3 : Nat → Int32 → Int32 → Int32 → Int32 → mm_M → Prop) (ge : Nat → Nat) (v0 : Nat) (v1 : Int32) (v2 : Int32) (v3 : Int32) (v4 : Int32) (h : mm_M) (Z : mm_M → Prop) : Prop :=
  (((v3 : Int32) ≤ (v4 : Int32) → Z h) ∧ (¬ (v3 : Int32) ≤ (v4 : Int32) → (((v1) < 0 → wq_Bytes_set_41 X3 ge (v0) (v1) (v2) (v3) (v4) h Z) ∧ (¬ (v1) < 0 → mm_k h (v0) = kd_Bytes ∧ ((((mm_I h v0 1) - (v4) : Int32) ≤ (v1 : Int32) → wq_Bytes_set_41 X3 ge (v0) (v1) (v2) (v3) (v4) h Z) ∧ (¬ ((mm_I h v0 1) - (v4) : Int32) ≤ (v1 : Int32) → ∃ a2, mm_P h v0 0 = some a2 ∧ mm_k h (a2) = ka_B ∧ vp_in ((v1) + (v4)) (mm_n h a2) ∧ ge 0 ≤ a2 ∧ ∀ h7 : mm_M, h7 = mm_uI h a2 (Int32.toNatClampNeg ((v1) + (v4))) (vp_nar .byte (Int8.toInt32 (Int32.toInt8 ((v2) >>> (((8 : Int32) * (v4)) &&& 31))))) → wq_Bytes_set_41 X3 ge (v0) (v1) (v2) (v3) (v4) h7 Z))))))
def lp_Bytes_set_3  (ge : Nat → Nat) (v0 : Nat) (v1 : Int32) (v2 : Int32) (v3 : Int32) (v4 : Int32) (h : mm_M) (Z : mm_M → Prop) : Prop :=
  ∀ X3 : Nat → Int32 → Int32 → Int32 → Int32 → mm_M → Prop, (∀ (v0 : Nat) (v1 : Int32) (v2 : Int32) (v3 : Int32) (v4 : Int32) (h : mm_M), wq_Bytes_set_3 X3 ge v0 v1 v2 v3 v4 h Z → X3 v0 v1 v2 v3 v4 h) → X3 v0 v1 v2 v3 v4 h
def wq_Bytes_set_0  (ge : Nat → Nat) (v0 : Nat) (v1 : Int32) (v2 : Int32) (v3 : Int32) (h : mm_M) (Z : mm_M → Prop) : Prop :=
  lp_Bytes_set_3  ge (v0) (v1) (v2) (v3) (0) h Z
set_option maxRecDepth 100000 in
set_option maxHeartbeats 4000000 in
theorem vb_Bytes_set_41 {E : mm_E} {Z : mm_M → Prop} (hc : cx E "EpochServer$Bytes" c_Bytes_set 5 none rm_Bytes_set) (hq : cq E rm_Bytes_set (pV Z)) (X3 : Nat → Int32 → Int32 → Int32 → Int32 → mm_M → Prop) (hX3 : ∀ (v0 : Nat) (v1 : Int32) (v2 : Int32) (v3 : Int32) (v4 : Int32) (h : mm_M), X3 v0 v1 v2 v3 v4 h → V E 5 0 0 h 3 [(0, va_rf (some v0)), (1, .int (v1)), (2, .int (v2)), (3, .int (v3)), (4, .int (v4))] []) (v0 : Nat) (v1 : Int32) (v2 : Int32) (v3 : Int32) (v4 : Int32) (h : mm_M) (hw : wq_Bytes_set_41 X3 (mm_ge (eG E)) v0 v1 v2 v3 v4 h Z) : V E 5 0 0 h 41 [(0, va_rf (some v0)), (1, .int (v1)), (2, .int (v2)), (3, .int (v3)), (4, .int (v4))] [] := by
  unfold wq_Bytes_set_41 at hw
  refine V_iinc (v := v4 + 1) (lv' := [(4, .int (v4 + 1)), (0, va_rf (some v0)), (1, .int (v1)), (2, .int (v2)), (3, .int (v3))]) hc 4 d_Bytes_set_41 rfl rfl (by decide) rfl ?_
  refine V_goto (tgt := 3) hc d_Bytes_set_44 (by decide) ?_
  refine V_sub (lv' := [(0, va_rf (some v0)), (1, .int (v1)), (2, .int (v2)), (3, .int (v3)), (4, .int (v4 + 1))]) [1, 2, 3, 4, 0] rfl ?_
  exact hX3 _ _ _ _ _ _ hw
set_option maxRecDepth 100000 in
set_option maxHeartbeats 4000000 in
theorem vb_Bytes_set_3 {E : mm_E} {Z : mm_M → Prop} (hc : cx E "EpochServer$Bytes" c_Bytes_set 5 none rm_Bytes_set) (hq : cq E rm_Bytes_set (pV Z)) (X3 : Nat → Int32 → Int32 → Int32 → Int32 → mm_M → Prop) (hX3 : ∀ (v0 : Nat) (v1 : Int32) (v2 : Int32) (v3 : Int32) (v4 : Int32) (h : mm_M), X3 v0 v1 v2 v3 v4 h → V E 5 0 0 h 3 [(0, va_rf (some v0)), (1, .int (v1)), (2, .int (v2)), (3, .int (v3)), (4, .int (v4))] []) (v0 : Nat) (v1 : Int32) (v2 : Int32) (v3 : Int32) (v4 : Int32) (h : mm_M) (hw : wq_Bytes_set_3 X3 (mm_ge (eG E)) v0 v1 v2 v3 v4 h Z) : V E 5 0 0 h 3 [(0, va_rf (some v0)), (1, .int (v1)), (2, .int (v2)), (3, .int (v3)), (4, .int (v4))] [] := by
  unfold wq_Bytes_set_3 at hw
  refine V_iload hc 4 d_Bytes_set_3 rfl ?_
  refine V_iload_n hc 3 d_Bytes_set_5 rfl rfl ?_
  refine V_icmp_ge (tgt := 47) hc d_Bytes_set_6 (by decide) (fun hq1 => ?_) (fun hq1 => ?_)
  · replace hw := hw.1 hq1
    exact V_vret hc hq ⟨rfl, hw⟩ (by decide) (by decide) d_Bytes_set_47
  · replace hw := hw.2 hq1
    refine V_iload_n hc 1 d_Bytes_set_9 rfl rfl ?_
    refine V_if_lt (tgt := 41) hc d_Bytes_set_10 (by decide) (fun hq1 => ?_) (fun hq1 => ?_)
    · replace hw := hw.1 hq1
      refine V_sub (lv' := [(0, va_rf (some v0)), (1, .int (v1)), (2, .int (v2)), (3, .int (v3)), (4, .int (v4))]) [0, 1, 2, 3, 4] rfl ?_
      exact vb_Bytes_set_41 hc hq X3 hX3 _ _ _ _ _ _ hw
    · replace hw := hw.2 hq1
      refine V_iload_n hc 1 d_Bytes_set_13 rfl rfl ?_
      refine V_aload_n hc 0 d_Bytes_set_14 rfl rfl ?_
      obtain ⟨q1, hw⟩ := hw
      refine V_get (v := .int (mm_I h v0 1)) hc gf_Bytes_7 rfl q1 rfl d_Bytes_set_15 ?_
      refine V_iload hc 4 d_Bytes_set_18 rfl ?_
      refine V_isub hc d_Bytes_set_20 ?_
      refine V_icmp_ge (tgt := 41) hc d_Bytes_set_21 (by decide) (fun hq1 => ?_) (fun hq1 => ?_)
      · replace hw := hw.1 hq1
        refine V_sub (lv' := [(0, va_rf (some v0)), (1, .int (v1)), (2, .int (v2)), (3, .int (v3)), (4, .int (v4))]) [0, 1, 2, 3, 4] rfl ?_
        exact vb_Bytes_set_41 hc hq X3 hX3 _ _ _ _ _ _ hw
      · replace hw := hw.2 hq1
        refine V_aload_n hc 0 d_Bytes_set_24 rfl rfl ?_
        refine V_get (v := va_rf (mm_P h v0 0)) hc gf_Bytes_19 rfl q1 rfl d_Bytes_set_25 ?_
        refine V_iload_n hc 1 d_Bytes_set_28 rfl rfl ?_
        refine V_iload hc 4 d_Bytes_set_29 rfl ?_
        refine V_iadd hc d_Bytes_set_31 ?_
        refine V_iload_n hc 2 d_Bytes_set_32 rfl rfl ?_
        refine V_bipush (v := 8) hc d_Bytes_set_33 (by decide) ?_
        refine V_iload hc 4 d_Bytes_set_35 rfl ?_
        refine V_imul hc d_Bytes_set_37 ?_
        refine V_ishr hc d_Bytes_set_38 ?_
        refine V_i2b hc d_Bytes_set_39 ?_
        obtain ⟨a2, q3, hw⟩ := hw
        obtain ⟨q4, hw⟩ := hw
        obtain ⟨q5, hw⟩ := hw
        obtain ⟨q6, hw⟩ := hw
        obtain ⟨h7, eq_h7⟩ : ∃ x, x = mm_uI h a2 (Int32.toNatClampNeg ((v1) + (v4))) (vp_nar .byte (Int8.toInt32 (Int32.toInt8 ((v2) >>> (((8 : Int32) * (v4)) &&& 31))))) := ⟨_, rfl⟩
        replace hw := hw _ eq_h7
        refine V_bast hc q3 q4 q5 q6 d_Bytes_set_40 ?_
        rw [← eq_h7]
        refine V_sub (lv' := [(0, va_rf (some v0)), (1, .int (v1)), (2, .int (v2)), (3, .int (v3)), (4, .int (v4))]) [0, 1, 2, 3, 4] rfl ?_
        exact vb_Bytes_set_41 hc hq X3 hX3 _ _ _ _ _ _ hw
theorem vl_Bytes_set_3 {E : mm_E} {Z : mm_M → Prop} (hc : cx E "EpochServer$Bytes" c_Bytes_set 5 none rm_Bytes_set) (hq : cq E rm_Bytes_set (pV Z))  (v0 : Nat) (v1 : Int32) (v2 : Int32) (v3 : Int32) (v4 : Int32) (h : mm_M) (hw : lp_Bytes_set_3  (mm_ge (eG E)) v0 v1 v2 v3 v4 h Z) : V E 5 0 0 h 3 [(0, va_rf (some v0)), (1, .int (v1)), (2, .int (v2)), (3, .int (v3)), (4, .int (v4))] [] :=
  hw (fun v0 v1 v2 v3 v4 h => V E 5 0 0 h 3 [(0, va_rf (some v0)), (1, .int (v1)), (2, .int (v2)), (3, .int (v3)), (4, .int (v4))] []) (fun v0 v1 v2 v3 v4 h hb => vb_Bytes_set_3 hc hq  _ (fun _ _ _ _ _ _ q => q) v0 v1 v2 v3 v4 h hb)
set_option maxRecDepth 100000 in
set_option maxHeartbeats 4000000 in
theorem vb_Bytes_set_0 {E : mm_E} {Z : mm_M → Prop} (hc : cx E "EpochServer$Bytes" c_Bytes_set 5 none rm_Bytes_set) (hq : cq E rm_Bytes_set (pV Z))  (v0 : Nat) (v1 : Int32) (v2 : Int32) (v3 : Int32) (h : mm_M) (hw : wq_Bytes_set_0  (mm_ge (eG E)) v0 v1 v2 v3 h Z) : V E 5 0 0 h 0 [(0, va_rf (some v0)), (1, .int (v1)), (2, .int (v2)), (3, .int (v3))] [] := by
  unfold wq_Bytes_set_0 at hw
  refine V_iconst (v := 0) hc d_Bytes_set_0 (by decide) ?_
  refine V_istore (i := 4) (lv' := [(4, .int (0)), (0, va_rf (some v0)), (1, .int (v1)), (2, .int (v2)), (3, .int (v3))]) hc d_Bytes_set_1 (by decide) rfl ?_
  refine V_sub (lv' := [(0, va_rf (some v0)), (1, .int (v1)), (2, .int (v2)), (3, .int (v3)), (4, .int (0))]) [1, 2, 3, 4, 0] rfl ?_
  exact vl_Bytes_set_3 hc hq  _ _ _ _ _ _ hw
def wq_Bytes_set (ge : Nat → Nat) (v0 : Nat) (v1 : Int32) (v2 : Int32) (v3 : Int32) (h : mm_M) (Z : mm_M → Prop) : Prop := wq_Bytes_set_0 ge v0 v1 v2 v3 h Z
theorem sat_Bytes_set (G : mm_G) (v0 : Nat) (v1 : Int32) (v2 : Int32) (v3 : Int32) (h : mm_M) (Z : mm_M → Prop) (hw : wq_Bytes_set (mm_ge G) v0 v1 v2 v3 h Z) : mm_Met G y_Bytes_set c_Bytes_set 5 none rm_Bytes_set [va_rf (some v0), .int (v1), .int (v2), .int (v3)] h (pV Z) := by
  refine mm_intro (own := "EpochServer$Bytes") (by decide) rfl (by simp [lg_sl, cat_rf, cat_i, cat_l]) (fun E e1 hc hq hi => ?_)
  subst e1
  have e2 : lv_args 0 [va_rf (some v0), .int (v1), .int (v2), .int (v3)] = [(0, va_rf (some v0)), (1, .int (v1)), (2, .int (v2)), (3, .int (v3))] := by simp [lv_args, cat_rf, cat_i, cat_l]
  rw [e2]
  refine V_sub (lv' := [(0, va_rf (some v0)), (1, .int (v1)), (2, .int (v2)), (3, .int (v3))]) [0, 1, 2, 3] rfl ?_
  exact vb_Bytes_set_0 hc hq v0 v1 v2 v3 h hw
/-! Fid.<init>()V -/
abbrev rm_Fid_init : Room := { frames := 1, cells := 0, slots := 0, locals := 24 }
def wq_Fid_init_0  (ge : Nat → Nat) (v0 : Nat) (h : mm_M) (Z : mm_M → Prop) : Prop :=
  mm_k h (v0) = kd_Fid ∧ ge 0 ≤ v0 ∧ ∀ h3 : mm_M, h3 = mm_uI h (v0) 0 (0) → mm_k h3 (v0) = kd_Fid ∧ ge 0 ≤ v0 ∧ ∀ h6 : mm_M, h6 = mm_uI h3 (v0) 1 (0) → mm_k h6 (v0) = kd_Fid ∧ ge 0 ≤ v0 ∧ ∀ h9 : mm_M, h9 = mm_uI h6 (v0) 2 ((-1)) → mm_k h9 (v0) = kd_Fid ∧ ge 0 ≤ v0 ∧ ∀ h12 : mm_M, h12 = mm_uI h9 (v0) 3 (0) → mm_k h12 (v0) = kd_Fid ∧ ge 0 ≤ v0 ∧ ∀ h15 : mm_M, h15 = mm_uI h12 (v0) 4 (0) → mm_k h15 (v0) = kd_Fid ∧ ge 0 ≤ v0 ∧ ∀ h18 : mm_M, h18 = mm_uI h15 (v0) 5 (0) → mm_k h18 (v0) = kd_Fid ∧ ge 0 ≤ v0 ∧ ∀ h21 : mm_M, h21 = mm_uI h18 (v0) 6 (0) → mm_k h21 (v0) = kd_Fid ∧ ge 0 ≤ v0 ∧ ∀ h24 : mm_M, h24 = mm_uI h21 (v0) 7 (0) → Z h24
set_option maxRecDepth 100000 in
set_option maxHeartbeats 4000000 in
theorem vb_Fid_init_0 {E : mm_E} {Z : mm_M → Prop} (hc : cx E "EpochServer$Fid" c_Fid_init 1 none rm_Fid_init) (hq : cq E rm_Fid_init (pV Z)) (hin : ci E)  (v0 : Nat) (h : mm_M) (hw : wq_Fid_init_0  (mm_ge (eG E)) v0 h Z) : V E 1 0 0 h 0 [(0, va_rf (some v0))] [] := by
  unfold wq_Fid_init_0 at hw
  refine V_aload_n hc 0 d_Fid_init_0 rfl rfl ?_
  refine V_objInit hc rfl (gw_of (tw_1 (List.mem_of_getElem? (i := 129) rfl)) rfl) (gw_of (tw_1 (List.mem_of_getElem? (i := 27) rfl)) rfl) (gw_of (tw_1 (List.mem_of_getElem? (i := 28) rfl)) rfl) d_Fid_init_1 (by decide) (by decide) ?_
  refine V_aload_n hc 0 d_Fid_init_4 rfl rfl ?_
  refine V_iconst (v := 0) hc d_Fid_init_5 (by decide) ?_
  obtain ⟨q1, hw⟩ := hw
  obtain ⟨q2, hw⟩ := hw
  obtain ⟨h3, eq_h3⟩ : ∃ x, x = mm_uI h (v0) 0 (0) := ⟨_, rfl⟩
  replace hw := hw _ eq_h3
  refine V_put (h' := h3) hc gf_Fid_9 rfl rfl q1 q2 (by rw [eq_h3]; exact mm_Up_I _ _ _ _) (by rw [eq_h3]; exact up_vI rfl) (by decide) (by decide) d_Fid_init_6 ?_
  refine V_aload_n hc 0 d_Fid_init_9 rfl rfl ?_
  refine V_iconst (v := 0) hc d_Fid_init_10 (by decide) ?_
  obtain ⟨q4, hw⟩ := hw
  obtain ⟨q5, hw⟩ := hw
  obtain ⟨h6, eq_h6⟩ : ∃ x, x = mm_uI h3 (v0) 1 (0) := ⟨_, rfl⟩
  replace hw := hw _ eq_h6
  refine V_put (h' := h6) hc gf_Fid_15 rfl rfl q4 q5 (by rw [eq_h6]; exact mm_Up_I _ _ _ _) (by rw [eq_h6]; exact up_vI rfl) (vp_nar_int _) rfl d_Fid_init_11 ?_
  refine V_aload_n hc 0 d_Fid_init_14 rfl rfl ?_
  refine V_iconst (v := (-1)) hc d_Fid_init_15 (by decide) ?_
  obtain ⟨q7, hw⟩ := hw
  obtain ⟨q8, hw⟩ := hw
  obtain ⟨h9, eq_h9⟩ : ∃ x, x = mm_uI h6 (v0) 2 ((-1)) := ⟨_, rfl⟩
  replace hw := hw _ eq_h9
  refine V_put (h' := h9) hc gf_Fid_19 rfl rfl q7 q8 (by rw [eq_h9]; exact mm_Up_I _ _ _ _) (by rw [eq_h9]; exact up_vI rfl) (vp_nar_int _) rfl d_Fid_init_16 ?_
  refine V_aload_n hc 0 d_Fid_init_19 rfl rfl ?_
  refine V_iconst (v := 0) hc d_Fid_init_20 (by decide) ?_
  obtain ⟨q10, hw⟩ := hw
  obtain ⟨q11, hw⟩ := hw
  obtain ⟨h12, eq_h12⟩ : ∃ x, x = mm_uI h9 (v0) 3 (0) := ⟨_, rfl⟩
  replace hw := hw _ eq_h12
  refine V_put (h' := h12) hc gf_Fid_22 rfl rfl q10 q11 (by rw [eq_h12]; exact mm_Up_I _ _ _ _) (by rw [eq_h12]; exact up_vI rfl) (vp_nar_int _) rfl d_Fid_init_21 ?_
  refine V_aload_n hc 0 d_Fid_init_24 rfl rfl ?_
  refine V_iconst (v := 0) hc d_Fid_init_25 (by decide) ?_
  obtain ⟨q13, hw⟩ := hw
  obtain ⟨q14, hw⟩ := hw
  obtain ⟨h15, eq_h15⟩ : ∃ x, x = mm_uI h12 (v0) 4 (0) := ⟨_, rfl⟩
  replace hw := hw _ eq_h15
  refine V_put (h' := h15) hc gf_Fid_25 rfl rfl q13 q14 (by rw [eq_h15]; exact mm_Up_I _ _ _ _) (by rw [eq_h15]; exact up_vI rfl) (by decide) (by decide) d_Fid_init_26 ?_
  refine V_aload_n hc 0 d_Fid_init_29 rfl rfl ?_
  refine V_iconst (v := 0) hc d_Fid_init_30 (by decide) ?_
  obtain ⟨q16, hw⟩ := hw
  obtain ⟨q17, hw⟩ := hw
  obtain ⟨h18, eq_h18⟩ : ∃ x, x = mm_uI h15 (v0) 5 (0) := ⟨_, rfl⟩
  replace hw := hw _ eq_h18
  refine V_put (h' := h18) hc gf_Fid_28 rfl rfl q16 q17 (by rw [eq_h18]; exact mm_Up_I _ _ _ _) (by rw [eq_h18]; exact up_vI rfl) (vp_nar_int _) rfl d_Fid_init_31 ?_
  refine V_aload_n hc 0 d_Fid_init_34 rfl rfl ?_
  refine V_iconst (v := 0) hc d_Fid_init_35 (by decide) ?_
  obtain ⟨q19, hw⟩ := hw
  obtain ⟨q20, hw⟩ := hw
  obtain ⟨h21, eq_h21⟩ : ∃ x, x = mm_uI h18 (v0) 6 (0) := ⟨_, rfl⟩
  replace hw := hw _ eq_h21
  refine V_put (h' := h21) hc gf_Fid_31 rfl rfl q19 q20 (by rw [eq_h21]; exact mm_Up_I _ _ _ _) (by rw [eq_h21]; exact up_vI rfl) (vp_nar_int _) rfl d_Fid_init_36 ?_
  refine V_aload_n hc 0 d_Fid_init_39 rfl rfl ?_
  refine V_iconst (v := 0) hc d_Fid_init_40 (by decide) ?_
  obtain ⟨q22, hw⟩ := hw
  obtain ⟨q23, hw⟩ := hw
  obtain ⟨h24, eq_h24⟩ : ∃ x, x = mm_uI h21 (v0) 7 (0) := ⟨_, rfl⟩
  replace hw := hw _ eq_h24
  refine V_put (h' := h24) hc gf_Fid_34 rfl rfl q22 q23 (by rw [eq_h24]; exact mm_Up_I _ _ _ _) (by rw [eq_h24]; exact up_vI rfl) (vp_nar_int _) rfl d_Fid_init_41 ?_
  exact V_vret hc hq ⟨rfl, hw⟩ (by decide) (by decide) d_Fid_init_44
def wq_Fid_init (ge : Nat → Nat) (v0 : Nat) (h : mm_M) (Z : mm_M → Prop) : Prop := wq_Fid_init_0 ge v0 h Z
theorem sat_Fid_init (G : mm_G) (v0 : Nat) (h : mm_M) (Z : mm_M → Prop) (hw : wq_Fid_init (mm_ge G) v0 h Z) : mm_Met G y_Fid_init c_Fid_init 1 none rm_Fid_init [va_rf (some v0)] h (pV Z) := by
  refine mm_intro (own := "EpochServer$Fid") (by decide) rfl (by simp [lg_sl, cat_rf, cat_i, cat_l]) (fun E e1 hc hq hi => ?_)
  subst e1
  have e2 : lv_args 0 [va_rf (some v0)] = [(0, va_rf (some v0))] := by simp [lv_args, cat_rf, cat_i, cat_l]
  rw [e2]
  refine V_sub (lv' := [(0, va_rf (some v0))]) [0] rfl ?_
  exact vb_Fid_init_0 hc hq (hi rfl) v0 h hw
/-! Fid.isOpenForReading()Z -/
abbrev rm_Fid_isOpenForReading : Room := { frames := 0, cells := 0, slots := 0, locals := 0 }
def wq_Fid_isOpenForReading_22  (ge : Nat → Nat) (s0 : Int32) (h : mm_M) (Z : Int32 → mm_M → Prop) : Prop :=
  ((s0) = 0 ∨ (s0) = 1) ∧ Z (s0) h
def wq_Fid_isOpenForReading_21  (ge : Nat → Nat)  (h : mm_M) (Z : Int32 → mm_M → Prop) : Prop :=
  wq_Fid_isOpenForReading_22  ge (0) h Z
def wq_Fid_isOpenForReading_0  (ge : Nat → Nat) (v0 : Nat) (h : mm_M) (Z : Int32 → mm_M → Prop) : Prop :=
  mm_k h (v0) = kd_Fid ∧ (((mm_I h v0 4) = 0 → wq_Fid_isOpenForReading_21  ge h Z) ∧ (¬ (mm_I h v0 4) = 0 → ((((mm_I h v0 5) &&& (3 : Int32) : Int32) = (1 : Int32) → wq_Fid_isOpenForReading_21  ge h Z) ∧ (¬ ((mm_I h v0 5) &&& (3 : Int32) : Int32) = (1 : Int32) → wq_Fid_isOpenForReading_22  ge (1) h Z))))
set_option maxRecDepth 100000 in
set_option maxHeartbeats 4000000 in
theorem vb_Fid_isOpenForReading_22 {E : mm_E} {Z : Int32 → mm_M → Prop} (hc : cx E "EpochServer$Fid" c_Fid_isOpenForReading 1 (some (.boolean)) rm_Fid_isOpenForReading) (hq : cq E rm_Fid_isOpenForReading (pI Z))  (s0 : Int32) (h : mm_M) (hw : wq_Fid_isOpenForReading_22  (mm_ge (eG E)) s0 h Z) : V E 1 0 0 h 22 [] [.int (s0)] := by
  unfold wq_Fid_isOpenForReading_22 at hw
  obtain ⟨q1, hw⟩ := hw
  exact V_zret hc hq (zz_nar q1) ⟨_, rfl, hw⟩ (by decide) (by decide) d_Fid_isOpenForReading_22
set_option maxRecDepth 100000 in
set_option maxHeartbeats 4000000 in
theorem vb_Fid_isOpenForReading_21 {E : mm_E} {Z : Int32 → mm_M → Prop} (hc : cx E "EpochServer$Fid" c_Fid_isOpenForReading 1 (some (.boolean)) rm_Fid_isOpenForReading) (hq : cq E rm_Fid_isOpenForReading (pI Z))   (h : mm_M) (hw : wq_Fid_isOpenForReading_21  (mm_ge (eG E))  h Z) : V E 1 0 0 h 21 [] [] := by
  unfold wq_Fid_isOpenForReading_21 at hw
  refine V_iconst (v := 0) hc d_Fid_isOpenForReading_21 (by decide) ?_
  refine V_sub (lv' := []) [] rfl ?_
  exact vb_Fid_isOpenForReading_22 hc hq  _ _ hw
set_option maxRecDepth 100000 in
set_option maxHeartbeats 4000000 in
theorem vb_Fid_isOpenForReading_0 {E : mm_E} {Z : Int32 → mm_M → Prop} (hc : cx E "EpochServer$Fid" c_Fid_isOpenForReading 1 (some (.boolean)) rm_Fid_isOpenForReading) (hq : cq E rm_Fid_isOpenForReading (pI Z))  (v0 : Nat) (h : mm_M) (hw : wq_Fid_isOpenForReading_0  (mm_ge (eG E)) v0 h Z) : V E 1 0 0 h 0 [(0, va_rf (some v0))] [] := by
  unfold wq_Fid_isOpenForReading_0 at hw
  refine V_aload_n hc 0 d_Fid_isOpenForReading_0 rfl rfl ?_
  obtain ⟨q1, hw⟩ := hw
  refine V_get (v := .int (mm_I h v0 4)) hc gf_Fid_25 rfl q1 rfl d_Fid_isOpenForReading_1 ?_
  refine V_if_eq (tgt := 21) hc d_Fid_isOpenForReading_4 (by decide) (fun hq1 => ?_) (fun hq1 => ?_)
  · replace hw := hw.1 hq1
    refine V_sub (lv' := []) [] rfl ?_
    exact vb_Fid_isOpenForReading_21 hc hq  _ hw
  · replace hw := hw.2 hq1
    refine V_aload_n hc 0 d_Fid_isOpenForReading_7 rfl rfl ?_
    refine V_get (v := .int (mm_I h v0 5)) hc gf_Fid_28 rfl q1 rfl d_Fid_isOpenForReading_8 ?_
    refine V_iconst (v := 3) hc d_Fid_isOpenForReading_11 (by decide) ?_
    refine V_iand hc d_Fid_isOpenForReading_12 ?_
    refine V_iconst (v := 1) hc d_Fid_isOpenForReading_13 (by decide) ?_
    refine V_icmp_eq (tgt := 21) hc d_Fid_isOpenForReading_14 (by decide) (fun hq1 => ?_) (fun hq1 => ?_)
    · replace hw := hw.1 hq1
      refine V_sub (lv' := []) [] rfl ?_
      exact vb_Fid_isOpenForReading_21 hc hq  _ hw
    · replace hw := hw.2 hq1
      refine V_iconst (v := 1) hc d_Fid_isOpenForReading_17 (by decide) ?_
      refine V_goto (tgt := 22) hc d_Fid_isOpenForReading_18 (by decide) ?_
      refine V_sub (lv' := []) [] rfl ?_
      exact vb_Fid_isOpenForReading_22 hc hq  _ _ hw
def wq_Fid_isOpenForReading (ge : Nat → Nat) (v0 : Nat) (h : mm_M) (Z : Int32 → mm_M → Prop) : Prop := wq_Fid_isOpenForReading_0 ge v0 h Z
theorem sat_Fid_isOpenForReading (G : mm_G) (v0 : Nat) (h : mm_M) (Z : Int32 → mm_M → Prop) (hw : wq_Fid_isOpenForReading (mm_ge G) v0 h Z) : mm_Met G y_Fid_isOpenForReading c_Fid_isOpenForReading 1 (some (.boolean)) rm_Fid_isOpenForReading [va_rf (some v0)] h (pI Z) := by
  refine mm_intro (own := "EpochServer$Fid") (by decide) rfl (by simp [lg_sl, cat_rf, cat_i, cat_l]) (fun E e1 hc hq hi => ?_)
  subst e1
  have e2 : lv_args 0 [va_rf (some v0)] = [(0, va_rf (some v0))] := by simp [lv_args, cat_rf, cat_i, cat_l]
  rw [e2]
  refine V_sub (lv' := [(0, va_rf (some v0))]) [0] rfl ?_
  exact vb_Fid_isOpenForReading_0 hc hq v0 h hw
