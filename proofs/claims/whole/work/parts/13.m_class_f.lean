/-! Request.readNames()V -/
abbrev rm_Request_readNames : Room := { frames := 4, cells := 0, slots := 0, locals := 86 }
def wq_Request_readNames_44  (ge : Nat → Nat)  (h : mm_M) (Z : mm_M → Prop) : Prop :=
  Z h
def wq_Request_readNames_19 (X19 : Nat → Int32 → mm_M → Prop) (ge : Nat → Nat) (v0 : Nat) (v1 : Int32) (h : mm_M) (Z : mm_M → Prop) : Prop :=
  mm_k h (v0) = kd_Request ∧ (((mm_I h v0 9 : Int32) ≤ (v1 : Int32) → wq_Request_readNames_44  ge h Z) ∧ (¬ (mm_I h v0 9 : Int32) ≤ (v1 : Int32) → (((mm_I h v0 3) = 0 → wq_Request_readNames_44  ge h Z) ∧ (¬ (mm_I h v0 3) = 0 → wq_Request_readText ge (v0) h (fun h2 : mm_M => X19 (v0) (v1 + 1) h2)))))
def lp_Request_readNames_19  (ge : Nat → Nat) (v0 : Nat) (v1 : Int32) (h : mm_M) (Z : mm_M → Prop) : Prop :=
  ∀ X19 : Nat → Int32 → mm_M → Prop, (∀ (v0 : Nat) (v1 : Int32) (h : mm_M), wq_Request_readNames_19 X19 ge v0 v1 h Z → X19 v0 v1 h) → X19 v0 v1 h
def wq_Request_readNames_0  (ge : Nat → Nat) (v0 : Nat) (h : mm_M) (Z : mm_M → Prop) : Prop :=
  mm_k h (v0) = kd_Request ∧ wq_Request_number ge (v0) (2) h (fun (r3 : Int32) (h2 : mm_M) => mm_k h2 (v0) = kd_Request ∧ ge 0 ≤ v0 ∧ ∀ h6 : mm_M, h6 = mm_uI h2 (v0) 9 (r3) → mm_k h6 (v0) = kd_Request ∧ ge 0 ≤ v0 ∧ ∀ h9 : mm_M, h9 = mm_uI h6 (v0) 4 (mm_I h6 v0 2) → lp_Request_readNames_19  ge (v0) (0) h9 Z)
set_option maxRecDepth 100000 in
set_option maxHeartbeats 4000000 in
theorem vb_Request_readNames_44 {E : mm_E} {Z : mm_M → Prop} (hc : cx E "EpochServer$Request" c_Request_readNames 2 none rm_Request_readNames) (hq : cq E rm_Request_readNames (pV Z))   (h : mm_M) (hw : wq_Request_readNames_44  (mm_ge (eG E))  h Z) : V E 2 0 0 h 44 [] [] := by
  unfold wq_Request_readNames_44 at hw
  exact V_vret hc hq ⟨rfl, hw⟩ (by decide) (by decide) d_Request_readNames_44
set_option maxRecDepth 100000 in
set_option maxHeartbeats 4000000 in
theorem vb_Request_readNames_19 {E : mm_E} {Z : mm_M → Prop} (hc : cx E "EpochServer$Request" c_Request_readNames 2 none rm_Request_readNames) (hq : cq E rm_Request_readNames (pV Z)) (X19 : Nat → Int32 → mm_M → Prop) (hX19 : ∀ (v0 : Nat) (v1 : Int32) (h : mm_M), X19 v0 v1 h → V E 2 0 0 h 19 [(0, va_rf (some v0)), (1, .int (v1))] []) (v0 : Nat) (v1 : Int32) (h : mm_M) (hw : wq_Request_readNames_19 X19 (mm_ge (eG E)) v0 v1 h Z) : V E 2 0 0 h 19 [(0, va_rf (some v0)), (1, .int (v1))] [] := by
  unfold wq_Request_readNames_19 at hw
  refine V_iload_n hc 1 d_Request_readNames_19 rfl rfl ?_
  refine V_aload_n hc 0 d_Request_readNames_20 rfl rfl ?_
  obtain ⟨q1, hw⟩ := hw
  refine V_get (v := .int (mm_I h v0 9)) hc gf_Request_37 rfl q1 rfl d_Request_readNames_21 ?_
  refine V_icmp_ge (tgt := 44) hc d_Request_readNames_24 (by decide) (fun hq1 => ?_) (fun hq1 => ?_)
  · replace hw := hw.1 hq1
    refine V_sub (lv' := []) [] rfl ?_
    exact vb_Request_readNames_44 hc hq  _ hw
  · replace hw := hw.2 hq1
    refine V_aload_n hc 0 d_Request_readNames_27 rfl rfl ?_
    refine V_get (v := .int (mm_I h v0 3)) hc gf_Request_18 rfl q1 rfl d_Request_readNames_28 ?_
    refine V_if_eq (tgt := 44) hc d_Request_readNames_31 (by decide) (fun hq1 => ?_) (fun hq1 => ?_)
    · replace hw := hw.1 hq1
      refine V_sub (lv' := []) [] rfl ?_
      exact vb_Request_readNames_44 hc hq  _ hw
    · replace hw := hw.2 hq1
      refine V_aload_n hc 0 d_Request_readNames_34 rfl rfl ?_
      refine V_callV (rm' := rm_Request_readText) (As := []) (rest := []) (n := 0) (cn := 8) hc rfl q1 (sat_Request_readText (eG E) _ _ _ hw) rfl cv_Request_74 (gw_of (tw_2 (List.mem_of_getElem? (i := 199) rfl)) rfl) ss_Request_readText rfl ⟨by decide, by decide⟩ (by decide) (by decide) rfl (by simp [cat_rf, cat_i, cat_l]) d_Request_readNames_35 (fun r0 h2 hw => ?_)
      obtain ⟨rfl, hw⟩ := hw
      refine V_wide (cs' := 0) (sl' := 0) (by decide) (by decide) ?_
      refine V_st (st' := []) rfl ?_
      refine V_iinc (v := v1 + 1) (lv' := [(1, .int (v1 + 1)), (0, va_rf (some v0))]) hc 1 d_Request_readNames_38 rfl rfl (by decide) rfl ?_
      refine V_goto (tgt := 19) hc d_Request_readNames_41 (by decide) ?_
      refine V_sub (lv' := [(0, va_rf (some v0)), (1, .int (v1 + 1))]) [1, 0] rfl ?_
      exact hX19 _ _ _ hw
theorem vl_Request_readNames_19 {E : mm_E} {Z : mm_M → Prop} (hc : cx E "EpochServer$Request" c_Request_readNames 2 none rm_Request_readNames) (hq : cq E rm_Request_readNames (pV Z))  (v0 : Nat) (v1 : Int32) (h : mm_M) (hw : lp_Request_readNames_19  (mm_ge (eG E)) v0 v1 h Z) : V E 2 0 0 h 19 [(0, va_rf (some v0)), (1, .int (v1))] [] :=
  hw (fun v0 v1 h => V E 2 0 0 h 19 [(0, va_rf (some v0)), (1, .int (v1))] []) (fun v0 v1 h hb => vb_Request_readNames_19 hc hq  _ (fun _ _ _ q => q) v0 v1 h hb)
set_option maxRecDepth 100000 in
set_option maxHeartbeats 4000000 in
theorem vb_Request_readNames_0 {E : mm_E} {Z : mm_M → Prop} (hc : cx E "EpochServer$Request" c_Request_readNames 2 none rm_Request_readNames) (hq : cq E rm_Request_readNames (pV Z))  (v0 : Nat) (h : mm_M) (hw : wq_Request_readNames_0  (mm_ge (eG E)) v0 h Z) : V E 2 0 0 h 0 [(0, va_rf (some v0))] [] := by
  unfold wq_Request_readNames_0 at hw
  refine V_aload_n hc 0 d_Request_readNames_0 rfl rfl ?_
  refine V_aload_n hc 0 d_Request_readNames_1 rfl rfl ?_
  refine V_iconst (v := 2) hc d_Request_readNames_2 (by decide) ?_
  obtain ⟨q1, hw⟩ := hw
  refine V_callV (rm' := rm_Request_number) (As := [.int (2)]) (rest := [va_rf (some v0)]) (n := 1) (cn := 8) hc rfl q1 (sat_Request_number (eG E) _ _ _ _ hw) rfl cv_Request_66 (gw_of (tw_2 (List.mem_of_getElem? (i := 187) rfl)) rfl) ss_Request_number rfl ⟨by decide, by decide⟩ (by decide) (by decide) rfl (by simp [cat_rf, cat_i, cat_l]) d_Request_readNames_3 (fun r0 h2 hw => ?_)
  obtain ⟨r3, rfl, hw⟩ := hw
  refine V_wide (cs' := 0) (sl' := 0) (by decide) (by decide) ?_
  refine V_st (st' := [.int (r3), va_rf (some v0)]) rfl ?_
  obtain ⟨q4, hw⟩ := hw
  obtain ⟨q5, hw⟩ := hw
  obtain ⟨h6, eq_h6⟩ : ∃ x, x = mm_uI h2 (v0) 9 (r3) := ⟨_, rfl⟩
  replace hw := hw _ eq_h6
  refine V_put (h' := h6) hc gf_Request_37 rfl rfl q4 q5 (by rw [eq_h6]; exact mm_Up_I _ _ _ _) (by rw [eq_h6]; exact up_vI rfl) (vp_nar_int _) rfl d_Request_readNames_6 ?_
  refine V_aload_n hc 0 d_Request_readNames_9 rfl rfl ?_
  refine V_aload_n hc 0 d_Request_readNames_10 rfl rfl ?_
  obtain ⟨q7, hw⟩ := hw
  refine V_get (v := .int (mm_I h6 v0 2)) hc gf_Request_15 rfl q7 rfl d_Request_readNames_11 ?_
  obtain ⟨q8, hw⟩ := hw
  obtain ⟨h9, eq_h9⟩ : ∃ x, x = mm_uI h6 (v0) 4 (mm_I h6 v0 2) := ⟨_, rfl⟩
  replace hw := hw _ eq_h9
  refine V_put (h' := h9) hc gf_Request_22 rfl rfl q7 q8 (by rw [eq_h9]; exact mm_Up_I _ _ _ _) (by rw [eq_h9]; exact up_vI rfl) (vp_nar_int _) rfl d_Request_readNames_14 ?_
  refine V_iconst (v := 0) hc d_Request_readNames_17 (by decide) ?_
  refine V_istore_n (i := 1) (lv' := [(1, .int (0)), (0, va_rf (some v0))]) hc d_Request_readNames_18 rfl (by decide) rfl ?_
  refine V_sub (lv' := [(0, va_rf (some v0)), (1, .int (0))]) [1, 0] rfl ?_
  exact vl_Request_readNames_19 hc hq  _ _ _ hw
def wq_Request_readNames (ge : Nat → Nat) (v0 : Nat) (h : mm_M) (Z : mm_M → Prop) : Prop := wq_Request_readNames_0 ge v0 h Z
theorem sat_Request_readNames (G : mm_G) (v0 : Nat) (h : mm_M) (Z : mm_M → Prop) (hw : wq_Request_readNames (mm_ge G) v0 h Z) : mm_Met G y_Request_readNames c_Request_readNames 2 none rm_Request_readNames [va_rf (some v0)] h (pV Z) := by
  refine mm_intro (own := "EpochServer$Request") (by decide) rfl (by simp [lg_sl, cat_rf, cat_i, cat_l]) (fun E e1 hc hq hi => ?_)
  subst e1
  have e2 : lv_args 0 [va_rf (some v0)] = [(0, va_rf (some v0))] := by simp [lv_args, cat_rf, cat_i, cat_l]
  rw [e2]
  refine V_sub (lv' := [(0, va_rf (some v0))]) [0] rfl ?_
  exact vb_Request_readNames_0 hc hq v0 h hw
/-! Request.readData()V -/
abbrev rm_Request_readData : Room := { frames := 3, cells := 0, slots := 0, locals := 66 }
def wq_Request_readData_0  (ge : Nat → Nat) (v0 : Nat) (h : mm_M) (Z : mm_M → Prop) : Prop :=
  mm_k h (v0) = kd_Request ∧ wq_Request_number ge (v0) (4) h (fun (r3 : Int32) (h2 : mm_M) => mm_k h2 (v0) = kd_Request ∧ ge 0 ≤ v0 ∧ ∀ h6 : mm_M, h6 = mm_uI h2 (v0) 9 (r3) → mm_k h6 (v0) = kd_Request ∧ ge 0 ≤ v0 ∧ ∀ h9 : mm_M, h9 = mm_uI h6 (v0) 15 (mm_I h6 v0 9) → mm_k h9 (v0) = kd_Request ∧ ge 0 ≤ v0 ∧ ∀ h12 : mm_M, h12 = mm_uI h9 (v0) 14 (mm_I h9 v0 2) → mm_k h12 (v0) = kd_Request ∧ wq_Request_skip ge (v0) (mm_I h12 v0 9) h12 (fun h14 : mm_M => Z h14))
set_option maxRecDepth 100000 in
set_option maxHeartbeats 4000000 in
theorem vb_Request_readData_0 {E : mm_E} {Z : mm_M → Prop} (hc : cx E "EpochServer$Request" c_Request_readData 1 none rm_Request_readData) (hq : cq E rm_Request_readData (pV Z))  (v0 : Nat) (h : mm_M) (hw : wq_Request_readData_0  (mm_ge (eG E)) v0 h Z) : V E 1 0 0 h 0 [(0, va_rf (some v0))] [] := by
  unfold wq_Request_readData_0 at hw
  refine V_aload_n hc 0 d_Request_readData_0 rfl rfl ?_
  refine V_aload_n hc 0 d_Request_readData_1 rfl rfl ?_
  refine V_iconst (v := 4) hc d_Request_readData_2 (by decide) ?_
  obtain ⟨q1, hw⟩ := hw
  refine V_callV (rm' := rm_Request_number) (As := [.int (4)]) (rest := [va_rf (some v0)]) (n := 1) (cn := 8) hc rfl q1 (sat_Request_number (eG E) _ _ _ _ hw) rfl cv_Request_66 (gw_of (tw_2 (List.mem_of_getElem? (i := 187) rfl)) rfl) ss_Request_number rfl ⟨by decide, by decide⟩ (by decide) (by decide) rfl (by simp [cat_rf, cat_i, cat_l]) d_Request_readData_3 (fun r0 h2 hw => ?_)
  obtain ⟨r3, rfl, hw⟩ := hw
  refine V_wide (cs' := 0) (sl' := 0) (by decide) (by decide) ?_
  refine V_st (st' := [.int (r3), va_rf (some v0)]) rfl ?_
  obtain ⟨q4, hw⟩ := hw
  obtain ⟨q5, hw⟩ := hw
  obtain ⟨h6, eq_h6⟩ : ∃ x, x = mm_uI h2 (v0) 9 (r3) := ⟨_, rfl⟩
  replace hw := hw _ eq_h6
  refine V_put (h' := h6) hc gf_Request_37 rfl rfl q4 q5 (by rw [eq_h6]; exact mm_Up_I _ _ _ _) (by rw [eq_h6]; exact up_vI rfl) (vp_nar_int _) rfl d_Request_readData_6 ?_
  refine V_aload_n hc 0 d_Request_readData_9 rfl rfl ?_
  refine V_aload_n hc 0 d_Request_readData_10 rfl rfl ?_
  obtain ⟨q7, hw⟩ := hw
  refine V_get (v := .int (mm_I h6 v0 9)) hc gf_Request_37 rfl q7 rfl d_Request_readData_11 ?_
  obtain ⟨q8, hw⟩ := hw
  obtain ⟨h9, eq_h9⟩ : ∃ x, x = mm_uI h6 (v0) 15 (mm_I h6 v0 9) := ⟨_, rfl⟩
  replace hw := hw _ eq_h9
  refine V_put (h' := h9) hc gf_Request_56 rfl rfl q7 q8 (by rw [eq_h9]; exact mm_Up_I _ _ _ _) (by rw [eq_h9]; exact up_vI rfl) (vp_nar_int _) rfl d_Request_readData_14 ?_
  refine V_aload_n hc 0 d_Request_readData_17 rfl rfl ?_
  refine V_aload_n hc 0 d_Request_readData_18 rfl rfl ?_
  obtain ⟨q10, hw⟩ := hw
  refine V_get (v := .int (mm_I h9 v0 2)) hc gf_Request_15 rfl q10 rfl d_Request_readData_19 ?_
  obtain ⟨q11, hw⟩ := hw
  obtain ⟨h12, eq_h12⟩ : ∃ x, x = mm_uI h9 (v0) 14 (mm_I h9 v0 2) := ⟨_, rfl⟩
  replace hw := hw _ eq_h12
  refine V_put (h' := h12) hc gf_Request_53 rfl rfl q10 q11 (by rw [eq_h12]; exact mm_Up_I _ _ _ _) (by rw [eq_h12]; exact up_vI rfl) (vp_nar_int _) rfl d_Request_readData_22 ?_
  refine V_aload_n hc 0 d_Request_readData_25 rfl rfl ?_
  refine V_aload_n hc 0 d_Request_readData_26 rfl rfl ?_
  obtain ⟨q13, hw⟩ := hw
  refine V_get (v := .int (mm_I h12 v0 9)) hc gf_Request_37 rfl q13 rfl d_Request_readData_27 ?_
  refine V_callV (rm' := rm_Request_skip) (As := [.int (mm_I h12 v0 9)]) (rest := []) (n := 1) (cn := 8) hc rfl q13 (sat_Request_skip (eG E) _ _ _ _ hw) rfl cv_Request_94 (gw_of (tw_2 (List.mem_of_getElem? (i := 204) rfl)) rfl) ss_Request_skip rfl ⟨by decide, by decide⟩ (by decide) (by decide) rfl (by simp [cat_rf, cat_i, cat_l]) d_Request_readData_30 (fun r0 h14 hw => ?_)
  obtain ⟨rfl, hw⟩ := hw
  refine V_wide (cs' := 0) (sl' := 0) (by decide) (by decide) ?_
  refine V_st (st' := []) rfl ?_
  exact V_vret hc hq ⟨rfl, hw⟩ (by decide) (by decide) d_Request_readData_33
def wq_Request_readData (ge : Nat → Nat) (v0 : Nat) (h : mm_M) (Z : mm_M → Prop) : Prop := wq_Request_readData_0 ge v0 h Z
theorem sat_Request_readData (G : mm_G) (v0 : Nat) (h : mm_M) (Z : mm_M → Prop) (hw : wq_Request_readData (mm_ge G) v0 h Z) : mm_Met G y_Request_readData c_Request_readData 1 none rm_Request_readData [va_rf (some v0)] h (pV Z) := by
  refine mm_intro (own := "EpochServer$Request") (by decide) rfl (by simp [lg_sl, cat_rf, cat_i, cat_l]) (fun E e1 hc hq hi => ?_)
  subst e1
  have e2 : lv_args 0 [va_rf (some v0)] = [(0, va_rf (some v0))] := by simp [lv_args, cat_rf, cat_i, cat_l]
  rw [e2]
  refine V_sub (lv' := [(0, va_rf (some v0))]) [0] rfl ?_
  exact vb_Request_readData_0 hc hq v0 h hw
/-! Request.readStat()V -/
abbrev rm_Request_readStat : Room := { frames := 4, cells := 0, slots := 0, locals := 86 }
def wq_Request_readStat_30  (ge : Nat → Nat) (v0 : Nat) (h : mm_M) (Z : mm_M → Prop) : Prop :=
  mm_k h (v0) = kd_Request ∧ ge 0 ≤ v0 ∧ ∀ h3 : mm_M, h3 = mm_uI h (v0) 3 (0) → Z h3
def wq_Request_readStat_164 (X138 : Nat → Int32 → Int32 → Int32 → Int32 → mm_M → Prop) (ge : Nat → Nat) (v0 : Nat) (v3 : Int32) (v4 : Int32) (v5 : Int32) (s0 : Int32) (h : mm_M) (Z : mm_M → Prop) : Prop :=
  X138 (v0) (s0) (v3) (v4) (v5 + 1) h
def wq_Request_readStat_163 (X138 : Nat → Int32 → Int32 → Int32 → Int32 → mm_M → Prop) (ge : Nat → Nat) (v0 : Nat) (v3 : Int32) (v4 : Int32) (v5 : Int32) (h : mm_M) (Z : mm_M → Prop) : Prop :=
  wq_Request_readStat_164 X138 ge (v0) (v3) (v4) (v5) (0) h Z
def wq_Request_readStat_138 (X138 : Nat → Int32 → Int32 → Int32 → Int32 → mm_M → Prop) (ge : Nat → Nat) (v0 : Nat) (v2 : Int32) (v3 : Int32) (v4 : Int32) (v5 : Int32) (h : mm_M) (Z : mm_M → Prop) : Prop :=
  (((3 : Int32) ≤ (v5 : Int32) → mm_k h (v0) = kd_Request ∧ ge 0 ≤ v0 ∧ ∀ h3 : mm_M, h3 = mm_uI h (v0) 14 (v3) → mm_k h3 (v0) = kd_Request ∧ ge 0 ≤ v0 ∧ ∀ h6 : mm_M, h6 = mm_uI h3 (v0) 15 (v4) → mm_k h6 (v0) = kd_Request ∧ ge 0 ≤ v0 ∧ ((v2) = 0 ∨ (v2) = 1) ∧ ∀ h10 : mm_M, h10 = mm_uI h6 (v0) 16 (v2) → Z h10) ∧ (¬ (3 : Int32) ≤ (v5 : Int32) → mm_k h (v0) = kd_Request ∧ wq_Request_readText ge (v0) h (fun h12 : mm_M => (((v2) = 0 → wq_Request_readStat_163 X138 ge (v0) (v3) (v4) (v5) h12 Z) ∧ (¬ (v2) = 0 → mm_k h12 (v0) = kd_Request ∧ ((¬ (mm_I h12 v0 15) = 0 → wq_Request_readStat_163 X138 ge (v0) (v3) (v4) (v5) h12 Z) ∧ ((mm_I h12 v0 15) = 0 → wq_Request_readStat_164 X138 ge (v0) (v3) (v4) (v5) (1) h12 Z)))))))
def lp_Request_readStat_138  (ge : Nat → Nat) (v0 : Nat) (v2 : Int32) (v3 : Int32) (v4 : Int32) (v5 : Int32) (h : mm_M) (Z : mm_M → Prop) : Prop :=
  ∀ X138 : Nat → Int32 → Int32 → Int32 → Int32 → mm_M → Prop, (∀ (v0 : Nat) (v2 : Int32) (v3 : Int32) (v4 : Int32) (v5 : Int32) (h : mm_M), wq_Request_readStat_138 X138 ge v0 v2 v3 v4 v5 h Z → X138 v0 v2 v3 v4 v5 h) → X138 v0 v2 v3 v4 v5 h
def wq_Request_readStat_100  (ge : Nat → Nat) (v0 : Nat) (s0 : Int32) (h : mm_M) (Z : mm_M → Prop) : Prop :=
  mm_k h (v0) = kd_Request ∧ wq_Request_number ge (v0) (4) h (fun (r3 : Int32) (h2 : mm_M) => mm_k h2 (v0) = kd_Request ∧ ge 0 ≤ v0 ∧ ∀ h6 : mm_M, h6 = mm_uI h2 (v0) 12 (r3) → mm_k h6 (v0) = kd_Request ∧ wq_Request_longNumber ge (v0) (8) h6 (fun (r9 : Int64) (h8 : mm_M) => mm_k h8 (v0) = kd_Request ∧ ge 0 ≤ v0 ∧ ∀ h12 : mm_M, h12 = mm_uL h8 (v0) 13 (r9) → mm_k h12 (v0) = kd_Request ∧ wq_Request_readText ge (v0) h12 (fun h14 : mm_M => mm_k h14 (v0) = kd_Request ∧ lp_Request_readStat_138  ge (v0) (s0) (mm_I h14 v0 14) (mm_I h14 v0 15) (0) h14 Z)))
def wq_Request_readStat_99  (ge : Nat → Nat) (v0 : Nat) (h : mm_M) (Z : mm_M → Prop) : Prop :=
  wq_Request_readStat_100  ge (v0) (0) h Z
def wq_Request_readStat_66 (X40 : Nat → Int32 → Int32 → mm_M → Prop) (ge : Nat → Nat) (v0 : Nat) (v3 : Int32) (s0 : Int32) (h : mm_M) (Z : mm_M → Prop) : Prop :=
  X40 (v0) (s0) (v3 + 1) h
def wq_Request_readStat_65 (X40 : Nat → Int32 → Int32 → mm_M → Prop) (ge : Nat → Nat) (v0 : Nat) (v3 : Int32) (h : mm_M) (Z : mm_M → Prop) : Prop :=
  wq_Request_readStat_66 X40 ge (v0) (v3) (0) h Z
def wq_Request_readStat_40 (X40 : Nat → Int32 → Int32 → mm_M → Prop) (ge : Nat → Nat) (v0 : Nat) (v2 : Int32) (v3 : Int32) (h : mm_M) (Z : mm_M → Prop) : Prop :=
  (((19 : Int32) ≤ (v3 : Int32) → mm_k h (v0) = kd_Request ∧ wq_Request_number ge (v0) (4) h (fun (r3 : Int32) (h2 : mm_M) => mm_k h2 (v0) = kd_Request ∧ ge 0 ≤ v0 ∧ ∀ h6 : mm_M, h6 = mm_uI h2 (v0) 11 (r3) → mm_k h6 (v0) = kd_Request ∧ wq_Request_number ge (v0) (4) h6 (fun (r9 : Int32) (h8 : mm_M) => ((¬ (r9 : Int32) = ((-1) : Int32) → wq_Request_readStat_99  ge (v0) h8 Z) ∧ ((r9 : Int32) = ((-1) : Int32) → (((v2) = 0 → wq_Request_readStat_99  ge (v0) h8 Z) ∧ (¬ (v2) = 0 → wq_Request_readStat_100  ge (v0) (1) h8 Z))))))) ∧ (¬ (19 : Int32) ≤ (v3 : Int32) → mm_k h (v0) = kd_Request ∧ wq_Request_number ge (v0) (1) h (fun (r12 : Int32) (h11 : mm_M) => ((¬ (r12 : Int32) = (255 : Int32) → wq_Request_readStat_65 X40 ge (v0) (v3) h11 Z) ∧ ((r12 : Int32) = (255 : Int32) → (((v2) = 0 → wq_Request_readStat_65 X40 ge (v0) (v3) h11 Z) ∧ (¬ (v2) = 0 → wq_Request_readStat_66 X40 ge (v0) (v3) (1) h11 Z)))))))
def lp_Request_readStat_40  (ge : Nat → Nat) (v0 : Nat) (v2 : Int32) (v3 : Int32) (h : mm_M) (Z : mm_M → Prop) : Prop :=
  ∀ X40 : Nat → Int32 → Int32 → mm_M → Prop, (∀ (v0 : Nat) (v2 : Int32) (v3 : Int32) (h : mm_M), wq_Request_readStat_40 X40 ge v0 v2 v3 h Z → X40 v0 v2 v3 h) → X40 v0 v2 v3 h
def wq_Request_readStat_0  (ge : Nat → Nat) (v0 : Nat) (h : mm_M) (Z : mm_M → Prop) : Prop :=
  mm_k h (v0) = kd_Request ∧ wq_Request_number ge (v0) (2) h (fun (r3 : Int32) (h2 : mm_M) => mm_k h2 (v0) = kd_Request ∧ ((¬ (r3 : Int32) = ((mm_I h2 v0 1) - (mm_I h2 v0 2) : Int32) → wq_Request_readStat_30  ge (v0) h2 Z) ∧ ((r3 : Int32) = ((mm_I h2 v0 1) - (mm_I h2 v0 2) : Int32) → wq_Request_number ge (v0) (2) h2 (fun (r6 : Int32) (h5 : mm_M) => (((r6 : Int32) = ((r3) - (2 : Int32) : Int32) → lp_Request_readStat_40  ge (v0) (1) (0) h5 Z) ∧ (¬ (r6 : Int32) = ((r3) - (2 : Int32) : Int32) → wq_Request_readStat_30  ge (v0) h5 Z))))))
set_option maxRecDepth 100000 in
set_option maxHeartbeats 4000000 in
theorem vb_Request_readStat_30 {E : mm_E} {Z : mm_M → Prop} (hc : cx E "EpochServer$Request" c_Request_readStat 6 none rm_Request_readStat) (hq : cq E rm_Request_readStat (pV Z))  (v0 : Nat) (h : mm_M) (hw : wq_Request_readStat_30  (mm_ge (eG E)) v0 h Z) : V E 6 0 0 h 30 [(0, va_rf (some v0))] [] := by
  unfold wq_Request_readStat_30 at hw
  refine V_aload_n hc 0 d_Request_readStat_30 rfl rfl ?_
  refine V_iconst (v := 0) hc d_Request_readStat_31 (by decide) ?_
  obtain ⟨q1, hw⟩ := hw
  obtain ⟨q2, hw⟩ := hw
  obtain ⟨h3, eq_h3⟩ : ∃ x, x = mm_uI h (v0) 3 (0) := ⟨_, rfl⟩
  replace hw := hw _ eq_h3
  refine V_put (h' := h3) hc gf_Request_18 rfl rfl q1 q2 (by rw [eq_h3]; exact mm_Up_I _ _ _ _) (by rw [eq_h3]; exact up_vI rfl) (by decide) (by decide) d_Request_readStat_32 ?_
  exact V_vret hc hq ⟨rfl, hw⟩ (by decide) (by decide) d_Request_readStat_35
set_option maxRecDepth 100000 in
set_option maxHeartbeats 4000000 in
theorem vb_Request_readStat_164 {E : mm_E} {Z : mm_M → Prop} (hc : cx E "EpochServer$Request" c_Request_readStat 6 none rm_Request_readStat) (hq : cq E rm_Request_readStat (pV Z)) (X138 : Nat → Int32 → Int32 → Int32 → Int32 → mm_M → Prop) (hX138 : ∀ (v0 : Nat) (v2 : Int32) (v3 : Int32) (v4 : Int32) (v5 : Int32) (h : mm_M), X138 v0 v2 v3 v4 v5 h → V E 6 0 0 h 138 [(0, va_rf (some v0)), (2, .int (v2)), (3, .int (v3)), (4, .int (v4)), (5, .int (v5))] []) (v0 : Nat) (v3 : Int32) (v4 : Int32) (v5 : Int32) (s0 : Int32) (h : mm_M) (hw : wq_Request_readStat_164 X138 (mm_ge (eG E)) v0 v3 v4 v5 s0 h Z) : V E 6 0 0 h 164 [(0, va_rf (some v0)), (3, .int (v3)), (4, .int (v4)), (5, .int (v5))] [.int (s0)] := by
  unfold wq_Request_readStat_164 at hw
  refine V_istore_n (i := 2) (lv' := [(2, .int (s0)), (0, va_rf (some v0)), (3, .int (v3)), (4, .int (v4)), (5, .int (v5))]) hc d_Request_readStat_164 rfl (by decide) rfl ?_
  refine V_iinc (v := v5 + 1) (lv' := [(5, .int (v5 + 1)), (2, .int (s0)), (0, va_rf (some v0)), (3, .int (v3)), (4, .int (v4))]) hc 4 d_Request_readStat_165 rfl rfl (by decide) rfl ?_
  refine V_goto (tgt := 138) hc d_Request_readStat_168 (by decide) ?_
  refine V_sub (lv' := [(0, va_rf (some v0)), (2, .int (s0)), (3, .int (v3)), (4, .int (v4)), (5, .int (v5 + 1))]) [2, 1, 3, 4, 0] rfl ?_
  exact hX138 _ _ _ _ _ _ hw
set_option maxRecDepth 100000 in
set_option maxHeartbeats 4000000 in
theorem vb_Request_readStat_163 {E : mm_E} {Z : mm_M → Prop} (hc : cx E "EpochServer$Request" c_Request_readStat 6 none rm_Request_readStat) (hq : cq E rm_Request_readStat (pV Z)) (X138 : Nat → Int32 → Int32 → Int32 → Int32 → mm_M → Prop) (hX138 : ∀ (v0 : Nat) (v2 : Int32) (v3 : Int32) (v4 : Int32) (v5 : Int32) (h : mm_M), X138 v0 v2 v3 v4 v5 h → V E 6 0 0 h 138 [(0, va_rf (some v0)), (2, .int (v2)), (3, .int (v3)), (4, .int (v4)), (5, .int (v5))] []) (v0 : Nat) (v3 : Int32) (v4 : Int32) (v5 : Int32) (h : mm_M) (hw : wq_Request_readStat_163 X138 (mm_ge (eG E)) v0 v3 v4 v5 h Z) : V E 6 0 0 h 163 [(0, va_rf (some v0)), (3, .int (v3)), (4, .int (v4)), (5, .int (v5))] [] := by
  unfold wq_Request_readStat_163 at hw
  refine V_iconst (v := 0) hc d_Request_readStat_163 (by decide) ?_
  refine V_sub (lv' := [(0, va_rf (some v0)), (3, .int (v3)), (4, .int (v4)), (5, .int (v5))]) [0, 1, 2, 3] rfl ?_
  exact vb_Request_readStat_164 hc hq X138 hX138 _ _ _ _ _ _ hw
set_option maxRecDepth 100000 in
set_option maxHeartbeats 4000000 in
theorem vb_Request_readStat_138 {E : mm_E} {Z : mm_M → Prop} (hc : cx E "EpochServer$Request" c_Request_readStat 6 none rm_Request_readStat) (hq : cq E rm_Request_readStat (pV Z)) (X138 : Nat → Int32 → Int32 → Int32 → Int32 → mm_M → Prop) (hX138 : ∀ (v0 : Nat) (v2 : Int32) (v3 : Int32) (v4 : Int32) (v5 : Int32) (h : mm_M), X138 v0 v2 v3 v4 v5 h → V E 6 0 0 h 138 [(0, va_rf (some v0)), (2, .int (v2)), (3, .int (v3)), (4, .int (v4)), (5, .int (v5))] []) (v0 : Nat) (v2 : Int32) (v3 : Int32) (v4 : Int32) (v5 : Int32) (h : mm_M) (hw : wq_Request_readStat_138 X138 (mm_ge (eG E)) v0 v2 v3 v4 v5 h Z) : V E 6 0 0 h 138 [(0, va_rf (some v0)), (2, .int (v2)), (3, .int (v3)), (4, .int (v4)), (5, .int (v5))] [] := by
  unfold wq_Request_readStat_138 at hw
  refine V_iload hc 4 d_Request_readStat_138 rfl ?_
  refine V_iconst (v := 3) hc d_Request_readStat_140 (by decide) ?_
  refine V_icmp_ge (tgt := 171) hc d_Request_readStat_141 (by decide) (fun hq1 => ?_) (fun hq1 => ?_)
  · replace hw := hw.1 hq1
    refine V_aload_n hc 0 d_Request_readStat_171 rfl rfl ?_
    refine V_iload_n hc 2 d_Request_readStat_172 rfl rfl ?_
    obtain ⟨q1, hw⟩ := hw
    obtain ⟨q2, hw⟩ := hw
    obtain ⟨h3, eq_h3⟩ : ∃ x, x = mm_uI h (v0) 14 (v3) := ⟨_, rfl⟩
    replace hw := hw _ eq_h3
    refine V_put (h' := h3) hc gf_Request_53 rfl rfl q1 q2 (by rw [eq_h3]; exact mm_Up_I _ _ _ _) (by rw [eq_h3]; exact up_vI rfl) (vp_nar_int _) rfl d_Request_readStat_173 ?_
    refine V_aload_n hc 0 d_Request_readStat_176 rfl rfl ?_
    refine V_iload hc 3 d_Request_readStat_177 rfl ?_
    obtain ⟨q4, hw⟩ := hw
    obtain ⟨q5, hw⟩ := hw
    obtain ⟨h6, eq_h6⟩ : ∃ x, x = mm_uI h3 (v0) 15 (v4) := ⟨_, rfl⟩
    replace hw := hw _ eq_h6
    refine V_put (h' := h6) hc gf_Request_56 rfl rfl q4 q5 (by rw [eq_h6]; exact mm_Up_I _ _ _ _) (by rw [eq_h6]; exact up_vI rfl) (vp_nar_int _) rfl d_Request_readStat_179 ?_
    refine V_aload_n hc 0 d_Request_readStat_182 rfl rfl ?_
    refine V_iload_n hc 1 d_Request_readStat_183 rfl rfl ?_
    obtain ⟨q7, hw⟩ := hw
    obtain ⟨q8, hw⟩ := hw
    obtain ⟨q9, hw⟩ := hw
    obtain ⟨h10, eq_h10⟩ : ∃ x, x = mm_uI h6 (v0) 16 (v2) := ⟨_, rfl⟩
    replace hw := hw _ eq_h10
    refine V_put (h' := h10) hc gf_Request_59 rfl rfl q7 q8 (by rw [eq_h10]; exact mm_Up_I _ _ _ _) (by rw [eq_h10]; exact up_vI rfl) (zz_nar q9) (zz_fit q9) d_Request_readStat_184 ?_
    exact V_vret hc hq ⟨rfl, hw⟩ (by decide) (by decide) d_Request_readStat_187
  · replace hw := hw.2 hq1
    refine V_aload_n hc 0 d_Request_readStat_144 rfl rfl ?_
    obtain ⟨q11, hw⟩ := hw
    refine V_callV (rm' := rm_Request_readText) (As := []) (rest := []) (n := 0) (cn := 8) hc rfl q11 (sat_Request_readText (eG E) _ _ _ hw) rfl cv_Request_74 (gw_of (tw_2 (List.mem_of_getElem? (i := 199) rfl)) rfl) ss_Request_readText rfl ⟨by decide, by decide⟩ (by decide) (by decide) rfl (by simp [cat_rf, cat_i, cat_l]) d_Request_readStat_145 (fun r0 h12 hw => ?_)
    obtain ⟨rfl, hw⟩ := hw
    refine V_wide (cs' := 0) (sl' := 0) (by decide) (by decide) ?_
    refine V_st (st' := []) rfl ?_
    refine V_iload_n hc 1 d_Request_readStat_148 rfl rfl ?_
    refine V_if_eq (tgt := 163) hc d_Request_readStat_149 (by decide) (fun hq1 => ?_) (fun hq1 => ?_)
    · replace hw := hw.1 hq1
      refine V_sub (lv' := [(0, va_rf (some v0)), (3, .int (v3)), (4, .int (v4)), (5, .int (v5))]) [0, 2, 3, 4] rfl ?_
      exact vb_Request_readStat_163 hc hq X138 hX138 _ _ _ _ _ hw
    · replace hw := hw.2 hq1
      refine V_aload_n hc 0 d_Request_readStat_152 rfl rfl ?_
      obtain ⟨q14, hw⟩ := hw
      refine V_get (v := .int (mm_I h12 v0 15)) hc gf_Request_56 rfl q14 rfl d_Request_readStat_153 ?_
      refine V_if_ne (tgt := 163) hc d_Request_readStat_156 (by decide) (fun hq1 => ?_) (fun hq1 => ?_)
      · replace hw := hw.1 hq1
        refine V_sub (lv' := [(0, va_rf (some v0)), (3, .int (v3)), (4, .int (v4)), (5, .int (v5))]) [0, 2, 3, 4] rfl ?_
        exact vb_Request_readStat_163 hc hq X138 hX138 _ _ _ _ _ hw
      · replace hw := hw.2 hq1
        refine V_iconst (v := 1) hc d_Request_readStat_159 (by decide) ?_
        refine V_goto (tgt := 164) hc d_Request_readStat_160 (by decide) ?_
        refine V_sub (lv' := [(0, va_rf (some v0)), (3, .int (v3)), (4, .int (v4)), (5, .int (v5))]) [0, 2, 3, 4] rfl ?_
        exact vb_Request_readStat_164 hc hq X138 hX138 _ _ _ _ _ _ hw
theorem vl_Request_readStat_138 {E : mm_E} {Z : mm_M → Prop} (hc : cx E "EpochServer$Request" c_Request_readStat 6 none rm_Request_readStat) (hq : cq E rm_Request_readStat (pV Z))  (v0 : Nat) (v2 : Int32) (v3 : Int32) (v4 : Int32) (v5 : Int32) (h : mm_M) (hw : lp_Request_readStat_138  (mm_ge (eG E)) v0 v2 v3 v4 v5 h Z) : V E 6 0 0 h 138 [(0, va_rf (some v0)), (2, .int (v2)), (3, .int (v3)), (4, .int (v4)), (5, .int (v5))] [] :=
  hw (fun v0 v2 v3 v4 v5 h => V E 6 0 0 h 138 [(0, va_rf (some v0)), (2, .int (v2)), (3, .int (v3)), (4, .int (v4)), (5, .int (v5))] []) (fun v0 v2 v3 v4 v5 h hb => vb_Request_readStat_138 hc hq  _ (fun _ _ _ _ _ _ q => q) v0 v2 v3 v4 v5 h hb)
set_option maxRecDepth 100000 in
set_option maxHeartbeats 4000000 in
theorem vb_Request_readStat_100 {E : mm_E} {Z : mm_M → Prop} (hc : cx E "EpochServer$Request" c_Request_readStat 6 none rm_Request_readStat) (hq : cq E rm_Request_readStat (pV Z))  (v0 : Nat) (s0 : Int32) (h : mm_M) (hw : wq_Request_readStat_100  (mm_ge (eG E)) v0 s0 h Z) : V E 6 0 0 h 100 [(0, va_rf (some v0))] [.int (s0)] := by
  unfold wq_Request_readStat_100 at hw
  refine V_istore_n (i := 2) (lv' := [(2, .int (s0)), (0, va_rf (some v0))]) hc d_Request_readStat_100 rfl (by decide) rfl ?_
  refine V_aload_n hc 1 d_Request_readStat_101 rfl rfl ?_
  refine V_aload_n hc 1 d_Request_readStat_102 rfl rfl ?_
  refine V_iconst (v := 4) hc d_Request_readStat_103 (by decide) ?_
  obtain ⟨q1, hw⟩ := hw
  refine V_callV (rm' := rm_Request_number) (As := [.int (4)]) (rest := [va_rf (some v0)]) (n := 1) (cn := 8) hc rfl q1 (sat_Request_number (eG E) _ _ _ _ hw) rfl cv_Request_66 (gw_of (tw_2 (List.mem_of_getElem? (i := 187) rfl)) rfl) ss_Request_number rfl ⟨by decide, by decide⟩ (by decide) (by decide) rfl (by simp [cat_rf, cat_i, cat_l]) d_Request_readStat_104 (fun r0 h2 hw => ?_)
  obtain ⟨r3, rfl, hw⟩ := hw
  refine V_wide (cs' := 0) (sl' := 0) (by decide) (by decide) ?_
  refine V_st (st' := [.int (r3), va_rf (some v0)]) rfl ?_
  obtain ⟨q4, hw⟩ := hw
  obtain ⟨q5, hw⟩ := hw
  obtain ⟨h6, eq_h6⟩ : ∃ x, x = mm_uI h2 (v0) 12 (r3) := ⟨_, rfl⟩
  replace hw := hw _ eq_h6
  refine V_put (h' := h6) hc gf_Request_46 rfl rfl q4 q5 (by rw [eq_h6]; exact mm_Up_I _ _ _ _) (by rw [eq_h6]; exact up_vI rfl) (vp_nar_int _) rfl d_Request_readStat_107 ?_
  refine V_aload_n hc 1 d_Request_readStat_110 rfl rfl ?_
  refine V_aload_n hc 1 d_Request_readStat_111 rfl rfl ?_
  refine V_bipush (v := 8) hc d_Request_readStat_112 (by decide) ?_
  obtain ⟨q7, hw⟩ := hw
  refine V_callV (rm' := rm_Request_longNumber) (As := [.int (8)]) (rest := [va_rf (some v0)]) (n := 1) (cn := 8) hc rfl q7 (sat_Request_longNumber (eG E) _ _ _ _ hw) rfl cv_Request_80 (gw_of (tw_2 (List.mem_of_getElem? (i := 191) rfl)) rfl) ss_Request_longNumber rfl ⟨by decide, by decide⟩ (by decide) (by decide) rfl (by simp [cat_rf, cat_i, cat_l]) d_Request_readStat_114 (fun r0 h8 hw => ?_)
  obtain ⟨r9, rfl, hw⟩ := hw
  refine V_wide (cs' := 0) (sl' := 0) (by decide) (by decide) ?_
  refine V_st (st' := [.long (r9), va_rf (some v0)]) rfl ?_
  obtain ⟨q10, hw⟩ := hw
  obtain ⟨q11, hw⟩ := hw
  obtain ⟨h12, eq_h12⟩ : ∃ x, x = mm_uL h8 (v0) 13 (r9) := ⟨_, rfl⟩
  replace hw := hw _ eq_h12
  refine V_put (h' := h12) hc gf_Request_49 rfl rfl q10 q11 (by rw [eq_h12]; exact mm_Up_L _ _ _ _) (by rw [eq_h12]; exact up_vL) rfl rfl d_Request_readStat_117 ?_
  refine V_aload_n hc 1 d_Request_readStat_120 rfl rfl ?_
  obtain ⟨q13, hw⟩ := hw
  refine V_callV (rm' := rm_Request_readText) (As := []) (rest := []) (n := 0) (cn := 8) hc rfl q13 (sat_Request_readText (eG E) _ _ _ hw) rfl cv_Request_74 (gw_of (tw_2 (List.mem_of_getElem? (i := 199) rfl)) rfl) ss_Request_readText rfl ⟨by decide, by decide⟩ (by decide) (by decide) rfl (by simp [cat_rf, cat_i, cat_l]) d_Request_readStat_121 (fun r0 h14 hw => ?_)
  obtain ⟨rfl, hw⟩ := hw
  refine V_wide (cs' := 0) (sl' := 0) (by decide) (by decide) ?_
  refine V_st (st' := []) rfl ?_
  refine V_aload_n hc 1 d_Request_readStat_124 rfl rfl ?_
  obtain ⟨q16, hw⟩ := hw
  refine V_get (v := .int (mm_I h14 v0 14)) hc gf_Request_53 rfl q16 rfl d_Request_readStat_125 ?_
  refine V_istore_n (i := 3) (lv' := [(3, .int (mm_I h14 v0 14)), (2, .int (s0)), (0, va_rf (some v0))]) hc d_Request_readStat_128 rfl (by decide) rfl ?_
  refine V_aload_n hc 2 d_Request_readStat_129 rfl rfl ?_
  refine V_get (v := .int (mm_I h14 v0 15)) hc gf_Request_56 rfl q16 rfl d_Request_readStat_130 ?_
  refine V_istore (i := 4) (lv' := [(4, .int (mm_I h14 v0 15)), (3, .int (mm_I h14 v0 14)), (2, .int (s0)), (0, va_rf (some v0))]) hc d_Request_readStat_133 (by decide) rfl ?_
  refine V_iconst (v := 0) hc d_Request_readStat_135 (by decide) ?_
  refine V_istore (i := 5) (lv' := [(5, .int (0)), (4, .int (mm_I h14 v0 15)), (3, .int (mm_I h14 v0 14)), (2, .int (s0)), (0, va_rf (some v0))]) hc d_Request_readStat_136 (by decide) rfl ?_
  refine V_sub (lv' := [(0, va_rf (some v0)), (2, .int (s0)), (3, .int (mm_I h14 v0 14)), (4, .int (mm_I h14 v0 15)), (5, .int (0))]) [4, 3, 2, 1, 0] rfl ?_
  exact vl_Request_readStat_138 hc hq  _ _ _ _ _ _ hw
set_option maxRecDepth 100000 in
set_option maxHeartbeats 4000000 in
theorem vb_Request_readStat_99 {E : mm_E} {Z : mm_M → Prop} (hc : cx E "EpochServer$Request" c_Request_readStat 6 none rm_Request_readStat) (hq : cq E rm_Request_readStat (pV Z))  (v0 : Nat) (h : mm_M) (hw : wq_Request_readStat_99  (mm_ge (eG E)) v0 h Z) : V E 6 0 0 h 99 [(0, va_rf (some v0))] [] := by
  unfold wq_Request_readStat_99 at hw
  refine V_iconst (v := 0) hc d_Request_readStat_99 (by decide) ?_
  refine V_sub (lv' := [(0, va_rf (some v0))]) [0] rfl ?_
  exact vb_Request_readStat_100 hc hq  _ _ _ hw
set_option maxRecDepth 100000 in
set_option maxHeartbeats 4000000 in
theorem vb_Request_readStat_66 {E : mm_E} {Z : mm_M → Prop} (hc : cx E "EpochServer$Request" c_Request_readStat 6 none rm_Request_readStat) (hq : cq E rm_Request_readStat (pV Z)) (X40 : Nat → Int32 → Int32 → mm_M → Prop) (hX40 : ∀ (v0 : Nat) (v2 : Int32) (v3 : Int32) (h : mm_M), X40 v0 v2 v3 h → V E 6 0 0 h 40 [(0, va_rf (some v0)), (2, .int (v2)), (3, .int (v3))] []) (v0 : Nat) (v3 : Int32) (s0 : Int32) (h : mm_M) (hw : wq_Request_readStat_66 X40 (mm_ge (eG E)) v0 v3 s0 h Z) : V E 6 0 0 h 66 [(0, va_rf (some v0)), (3, .int (v3))] [.int (s0)] := by
  unfold wq_Request_readStat_66 at hw
  refine V_istore_n (i := 2) (lv' := [(2, .int (s0)), (0, va_rf (some v0)), (3, .int (v3))]) hc d_Request_readStat_66 rfl (by decide) rfl ?_
  refine V_iinc (v := v3 + 1) (lv' := [(3, .int (v3 + 1)), (2, .int (s0)), (0, va_rf (some v0))]) hc 2 d_Request_readStat_67 rfl rfl (by decide) rfl ?_
  refine V_goto (tgt := 40) hc d_Request_readStat_70 (by decide) ?_
  refine V_sub (lv' := [(0, va_rf (some v0)), (2, .int (s0)), (3, .int (v3 + 1))]) [2, 1, 0] rfl ?_
  exact hX40 _ _ _ _ hw
set_option maxRecDepth 100000 in
set_option maxHeartbeats 4000000 in
theorem vb_Request_readStat_65 {E : mm_E} {Z : mm_M → Prop} (hc : cx E "EpochServer$Request" c_Request_readStat 6 none rm_Request_readStat) (hq : cq E rm_Request_readStat (pV Z)) (X40 : Nat → Int32 → Int32 → mm_M → Prop) (hX40 : ∀ (v0 : Nat) (v2 : Int32) (v3 : Int32) (h : mm_M), X40 v0 v2 v3 h → V E 6 0 0 h 40 [(0, va_rf (some v0)), (2, .int (v2)), (3, .int (v3))] []) (v0 : Nat) (v3 : Int32) (h : mm_M) (hw : wq_Request_readStat_65 X40 (mm_ge (eG E)) v0 v3 h Z) : V E 6 0 0 h 65 [(0, va_rf (some v0)), (3, .int (v3))] [] := by
  unfold wq_Request_readStat_65 at hw
  refine V_iconst (v := 0) hc d_Request_readStat_65 (by decide) ?_
  refine V_sub (lv' := [(0, va_rf (some v0)), (3, .int (v3))]) [0, 1] rfl ?_
  exact vb_Request_readStat_66 hc hq X40 hX40 _ _ _ _ hw
set_option maxRecDepth 100000 in
set_option maxHeartbeats 4000000 in
theorem vb_Request_readStat_40 {E : mm_E} {Z : mm_M → Prop} (hc : cx E "EpochServer$Request" c_Request_readStat 6 none rm_Request_readStat) (hq : cq E rm_Request_readStat (pV Z)) (X40 : Nat → Int32 → Int32 → mm_M → Prop) (hX40 : ∀ (v0 : Nat) (v2 : Int32) (v3 : Int32) (h : mm_M), X40 v0 v2 v3 h → V E 6 0 0 h 40 [(0, va_rf (some v0)), (2, .int (v2)), (3, .int (v3))] []) (v0 : Nat) (v2 : Int32) (v3 : Int32) (h : mm_M) (hw : wq_Request_readStat_40 X40 (mm_ge (eG E)) v0 v2 v3 h Z) : V E 6 0 0 h 40 [(0, va_rf (some v0)), (2, .int (v2)), (3, .int (v3))] [] := by
  unfold wq_Request_readStat_40 at hw
  refine V_iload_n hc 2 d_Request_readStat_40 rfl rfl ?_
  refine V_bipush (v := 19) hc d_Request_readStat_41 (by decide) ?_
  refine V_icmp_ge (tgt := 73) hc d_Request_readStat_43 (by decide) (fun hq1 => ?_) (fun hq1 => ?_)
  · replace hw := hw.1 hq1
    refine V_aload_n hc 0 d_Request_readStat_73 rfl rfl ?_
    refine V_aload_n hc 0 d_Request_readStat_74 rfl rfl ?_
    refine V_iconst (v := 4) hc d_Request_readStat_75 (by decide) ?_
    obtain ⟨q1, hw⟩ := hw
    refine V_callV (rm' := rm_Request_number) (As := [.int (4)]) (rest := [va_rf (some v0)]) (n := 1) (cn := 8) hc rfl q1 (sat_Request_number (eG E) _ _ _ _ hw) rfl cv_Request_66 (gw_of (tw_2 (List.mem_of_getElem? (i := 187) rfl)) rfl) ss_Request_number rfl ⟨by decide, by decide⟩ (by decide) (by decide) rfl (by simp [cat_rf, cat_i, cat_l]) d_Request_readStat_76 (fun r0 h2 hw => ?_)
    obtain ⟨r3, rfl, hw⟩ := hw
    refine V_wide (cs' := 0) (sl' := 0) (by decide) (by decide) ?_
    refine V_st (st' := [.int (r3), va_rf (some v0)]) rfl ?_
    obtain ⟨q4, hw⟩ := hw
    obtain ⟨q5, hw⟩ := hw
    obtain ⟨h6, eq_h6⟩ : ∃ x, x = mm_uI h2 (v0) 11 (r3) := ⟨_, rfl⟩
    replace hw := hw _ eq_h6
    refine V_put (h' := h6) hc gf_Request_43 rfl rfl q4 q5 (by rw [eq_h6]; exact mm_Up_I _ _ _ _) (by rw [eq_h6]; exact up_vI rfl) (vp_nar_int _) rfl d_Request_readStat_79 ?_
    refine V_aload_n hc 0 d_Request_readStat_82 rfl rfl ?_
    refine V_iconst (v := 4) hc d_Request_readStat_83 (by decide) ?_
    obtain ⟨q7, hw⟩ := hw
    refine V_callV (rm' := rm_Request_number) (As := [.int (4)]) (rest := []) (n := 1) (cn := 8) hc rfl q7 (sat_Request_number (eG E) _ _ _ _ hw) rfl cv_Request_66 (gw_of (tw_2 (List.mem_of_getElem? (i := 187) rfl)) rfl) ss_Request_number rfl ⟨by decide, by decide⟩ (by decide) (by decide) rfl (by simp [cat_rf, cat_i, cat_l]) d_Request_readStat_84 (fun r0 h8 hw => ?_)
    obtain ⟨r9, rfl, hw⟩ := hw
    refine V_wide (cs' := 0) (sl' := 0) (by decide) (by decide) ?_
    refine V_st (st' := [.int (r9)]) rfl ?_
    refine V_iconst (v := (-1)) hc d_Request_readStat_87 (by decide) ?_
    refine V_icmp_ne (tgt := 99) hc d_Request_readStat_88 (by decide) (fun hq1 => ?_) (fun hq1 => ?_)
    · replace hw := hw.1 hq1
      refine V_sub (lv' := [(0, va_rf (some v0))]) [0] rfl ?_
      exact vb_Request_readStat_99 hc hq  _ _ hw
    · replace hw := hw.2 hq1
      refine V_iload_n hc 1 d_Request_readStat_91 rfl rfl ?_
      refine V_if_eq (tgt := 99) hc d_Request_readStat_92 (by decide) (fun hq1 => ?_) (fun hq1 => ?_)
      · replace hw := hw.1 hq1
        refine V_sub (lv' := [(0, va_rf (some v0))]) [0] rfl ?_
        exact vb_Request_readStat_99 hc hq  _ _ hw
      · replace hw := hw.2 hq1
        refine V_iconst (v := 1) hc d_Request_readStat_95 (by decide) ?_
        refine V_goto (tgt := 100) hc d_Request_readStat_96 (by decide) ?_
        refine V_sub (lv' := [(0, va_rf (some v0))]) [0] rfl ?_
        exact vb_Request_readStat_100 hc hq  _ _ _ hw
  · replace hw := hw.2 hq1
    refine V_aload_n hc 0 d_Request_readStat_46 rfl rfl ?_
    refine V_iconst (v := 1) hc d_Request_readStat_47 (by decide) ?_
    obtain ⟨q10, hw⟩ := hw
    refine V_callV (rm' := rm_Request_number) (As := [.int (1)]) (rest := []) (n := 1) (cn := 8) hc rfl q10 (sat_Request_number (eG E) _ _ _ _ hw) rfl cv_Request_66 (gw_of (tw_2 (List.mem_of_getElem? (i := 187) rfl)) rfl) ss_Request_number rfl ⟨by decide, by decide⟩ (by decide) (by decide) rfl (by simp [cat_rf, cat_i, cat_l]) d_Request_readStat_48 (fun r0 h11 hw => ?_)
    obtain ⟨r12, rfl, hw⟩ := hw
    refine V_wide (cs' := 0) (sl' := 0) (by decide) (by decide) ?_
    refine V_st (st' := [.int (r12)]) rfl ?_
    refine V_sipush (v := 255) hc d_Request_readStat_51 (by decide) ?_
    refine V_icmp_ne (tgt := 65) hc d_Request_readStat_54 (by decide) (fun hq1 => ?_) (fun hq1 => ?_)
    · replace hw := hw.1 hq1
      refine V_sub (lv' := [(0, va_rf (some v0)), (3, .int (v3))]) [0, 2] rfl ?_
      exact vb_Request_readStat_65 hc hq X40 hX40 _ _ _ hw
    · replace hw := hw.2 hq1
      refine V_iload_n hc 1 d_Request_readStat_57 rfl rfl ?_
      refine V_if_eq (tgt := 65) hc d_Request_readStat_58 (by decide) (fun hq1 => ?_) (fun hq1 => ?_)
      · replace hw := hw.1 hq1
        refine V_sub (lv' := [(0, va_rf (some v0)), (3, .int (v3))]) [0, 2] rfl ?_
        exact vb_Request_readStat_65 hc hq X40 hX40 _ _ _ hw
      · replace hw := hw.2 hq1
        refine V_iconst (v := 1) hc d_Request_readStat_61 (by decide) ?_
        refine V_goto (tgt := 66) hc d_Request_readStat_62 (by decide) ?_
        refine V_sub (lv' := [(0, va_rf (some v0)), (3, .int (v3))]) [0, 2] rfl ?_
        exact vb_Request_readStat_66 hc hq X40 hX40 _ _ _ _ hw
theorem vl_Request_readStat_40 {E : mm_E} {Z : mm_M → Prop} (hc : cx E "EpochServer$Request" c_Request_readStat 6 none rm_Request_readStat) (hq : cq E rm_Request_readStat (pV Z))  (v0 : Nat) (v2 : Int32) (v3 : Int32) (h : mm_M) (hw : lp_Request_readStat_40  (mm_ge (eG E)) v0 v2 v3 h Z) : V E 6 0 0 h 40 [(0, va_rf (some v0)), (2, .int (v2)), (3, .int (v3))] [] :=
  hw (fun v0 v2 v3 h => V E 6 0 0 h 40 [(0, va_rf (some v0)), (2, .int (v2)), (3, .int (v3))] []) (fun v0 v2 v3 h hb => vb_Request_readStat_40 hc hq  _ (fun _ _ _ _ q => q) v0 v2 v3 h hb)
set_option maxRecDepth 100000 in
set_option maxHeartbeats 4000000 in
theorem vb_Request_readStat_0 {E : mm_E} {Z : mm_M → Prop} (hc : cx E "EpochServer$Request" c_Request_readStat 6 none rm_Request_readStat) (hq : cq E rm_Request_readStat (pV Z))  (v0 : Nat) (h : mm_M) (hw : wq_Request_readStat_0  (mm_ge (eG E)) v0 h Z) : V E 6 0 0 h 0 [(0, va_rf (some v0))] [] := by
  unfold wq_Request_readStat_0 at hw
  refine V_aload_n hc 0 d_Request_readStat_0 rfl rfl ?_
  refine V_iconst (v := 2) hc d_Request_readStat_1 (by decide) ?_
  obtain ⟨q1, hw⟩ := hw
  refine V_callV (rm' := rm_Request_number) (As := [.int (2)]) (rest := []) (n := 1) (cn := 8) hc rfl q1 (sat_Request_number (eG E) _ _ _ _ hw) rfl cv_Request_66 (gw_of (tw_2 (List.mem_of_getElem? (i := 187) rfl)) rfl) ss_Request_number rfl ⟨by decide, by decide⟩ (by decide) (by decide) rfl (by simp [cat_rf, cat_i, cat_l]) d_Request_readStat_2 (fun r0 h2 hw => ?_)
  obtain ⟨r3, rfl, hw⟩ := hw
  refine V_wide (cs' := 0) (sl' := 0) (by decide) (by decide) ?_
  refine V_st (st' := [.int (r3)]) rfl ?_
  refine V_istore_n (i := 1) (lv' := [(1, .int (r3)), (0, va_rf (some v0))]) hc d_Request_readStat_5 rfl (by decide) rfl ?_
  refine V_iload_n hc 0 d_Request_readStat_6 rfl rfl ?_
  refine V_aload_n hc 1 d_Request_readStat_7 rfl rfl ?_
  obtain ⟨q4, hw⟩ := hw
  refine V_get (v := .int (mm_I h2 v0 1)) hc gf_Request_9 rfl q4 rfl d_Request_readStat_8 ?_
  refine V_aload_n hc 1 d_Request_readStat_11 rfl rfl ?_
  refine V_get (v := .int (mm_I h2 v0 2)) hc gf_Request_15 rfl q4 rfl d_Request_readStat_12 ?_
  refine V_isub hc d_Request_readStat_15 ?_
  refine V_icmp_ne (tgt := 30) hc d_Request_readStat_16 (by decide) (fun hq1 => ?_) (fun hq1 => ?_)
  · replace hw := hw.1 hq1
    refine V_sub (lv' := [(0, va_rf (some v0))]) [1] rfl ?_
    exact vb_Request_readStat_30 hc hq  _ _ hw
  · replace hw := hw.2 hq1
    refine V_aload_n hc 1 d_Request_readStat_19 rfl rfl ?_
    refine V_iconst (v := 2) hc d_Request_readStat_20 (by decide) ?_
    refine V_callV (rm' := rm_Request_number) (As := [.int (2)]) (rest := []) (n := 1) (cn := 8) hc rfl q4 (sat_Request_number (eG E) _ _ _ _ hw) rfl cv_Request_66 (gw_of (tw_2 (List.mem_of_getElem? (i := 187) rfl)) rfl) ss_Request_number rfl ⟨by decide, by decide⟩ (by decide) (by decide) rfl (by simp [cat_rf, cat_i, cat_l]) d_Request_readStat_21 (fun r0 h5 hw => ?_)
    obtain ⟨r6, rfl, hw⟩ := hw
    refine V_wide (cs' := 0) (sl' := 0) (by decide) (by decide) ?_
    refine V_st (st' := [.int (r6)]) rfl ?_
    refine V_iload_n hc 0 d_Request_readStat_24 rfl rfl ?_
    refine V_iconst (v := 2) hc d_Request_readStat_25 (by decide) ?_
    refine V_isub hc d_Request_readStat_26 ?_
    refine V_icmp_eq (tgt := 36) hc d_Request_readStat_27 (by decide) (fun hq1 => ?_) (fun hq1 => ?_)
    · replace hw := hw.1 hq1
      refine V_iconst (v := 1) hc d_Request_readStat_36 (by decide) ?_
      refine V_istore_n (i := 2) (lv' := [(2, .int (1)), (1, .int (r3)), (0, va_rf (some v0))]) hc d_Request_readStat_37 rfl (by decide) rfl ?_
      refine V_iconst (v := 0) hc d_Request_readStat_38 (by decide) ?_
      refine V_istore_n (i := 3) (lv' := [(3, .int (0)), (2, .int (1)), (1, .int (r3)), (0, va_rf (some v0))]) hc d_Request_readStat_39 rfl (by decide) rfl ?_
      refine V_sub (lv' := [(0, va_rf (some v0)), (2, .int (1)), (3, .int (0))]) [3, 1, 0] rfl ?_
      exact vl_Request_readStat_40 hc hq  _ _ _ _ hw
    · replace hw := hw.2 hq1
      refine V_sub (lv' := [(0, va_rf (some v0))]) [1] rfl ?_
      exact vb_Request_readStat_30 hc hq  _ _ hw
def wq_Request_readStat (ge : Nat → Nat) (v0 : Nat) (h : mm_M) (Z : mm_M → Prop) : Prop := wq_Request_readStat_0 ge v0 h Z
theorem sat_Request_readStat (G : mm_G) (v0 : Nat) (h : mm_M) (Z : mm_M → Prop) (hw : wq_Request_readStat (mm_ge G) v0 h Z) : mm_Met G y_Request_readStat c_Request_readStat 6 none rm_Request_readStat [va_rf (some v0)] h (pV Z) := by
  refine mm_intro (own := "EpochServer$Request") (by decide) rfl (by simp [lg_sl, cat_rf, cat_i, cat_l]) (fun E e1 hc hq hi => ?_)
  subst e1
  have e2 : lv_args 0 [va_rf (some v0)] = [(0, va_rf (some v0))] := by simp [lv_args, cat_rf, cat_i, cat_l]
  rw [e2]
  refine V_sub (lv' := [(0, va_rf (some v0))]) [0] rfl ?_
  exact vb_Request_readStat_0 hc hq v0 h hw
/-! Request.parseBody()Z -/
abbrev rm_Request_parseBody : Room := { frames := 5, cells := 0, slots := 0, locals := 111 }
def wq_Request_parseBody_319  (ge : Nat → Nat)  (h : mm_M) (Z : Int32 → mm_M → Prop) : Prop :=
  Z (1) h
def wq_Request_parseBody_37  (ge : Nat → Nat) (v0 : Nat) (s0 : Option Nat) (s1 : Int32) (h : mm_M) (Z : Int32 → mm_M → Prop) : Prop :=
  ∃ a1, s0 = some a1 ∧ mm_k h (a1) = kd_Request ∧ ge 0 ≤ a1 ∧ ∀ h5 : mm_M, h5 = mm_uI h (a1) 7 (s1) → mm_k h5 (v0) = kd_Request ∧ (((mm_I h5 v0 5) = (100 : Int32) → wq_Request_number ge (v0) (4) h5 (fun (r8 : Int32) (h7 : mm_M) => mm_k h7 (v0) = kd_Request ∧ ge 0 ≤ v0 ∧ ∀ h11 : mm_M, h11 = mm_uI h7 (v0) 8 (r8) → mm_k h11 (v0) = kd_Request ∧ wq_Request_readText ge (v0) h11 (fun h13 : mm_M => Z (1) h13))) ∧ ((mm_I h5 v0 5) = (102 : Int32) → wq_Request_number ge (v0) (4) h5 (fun (r16 : Int32) (h15 : mm_M) => mm_k h15 (v0) = kd_Request ∧ ge 0 ≤ v0 ∧ ∀ h19 : mm_M, h19 = mm_uI h15 (v0) 8 (r16) → mm_k h19 (v0) = kd_Request ∧ wq_Request_readText ge (v0) h19 (fun h21 : mm_M => mm_k h21 (v0) = kd_Request ∧ wq_Request_readText ge (v0) h21 (fun h24 : mm_M => Z (1) h24)))) ∧ ((mm_I h5 v0 5) = (104 : Int32) → wq_Request_number ge (v0) (4) h5 (fun (r27 : Int32) (h26 : mm_M) => mm_k h26 (v0) = kd_Request ∧ ge 0 ≤ v0 ∧ ∀ h30 : mm_M, h30 = mm_uI h26 (v0) 8 (r27) → mm_k h30 (v0) = kd_Request ∧ wq_Request_readText ge (v0) h30 (fun h32 : mm_M => mm_k h32 (v0) = kd_Request ∧ wq_Request_readText ge (v0) h32 (fun h35 : mm_M => Z (1) h35)))) ∧ ((mm_I h5 v0 5) = (108 : Int32) → wq_Request_number ge (v0) (2) h5 (fun (r38 : Int32) (h37 : mm_M) => mm_k h37 (v0) = kd_Request ∧ ge 0 ≤ v0 ∧ ∀ h41 : mm_M, h41 = mm_uI h37 (v0) 8 (r38) → Z (1) h41)) ∧ ((mm_I h5 v0 5) = (110 : Int32) → wq_Request_number ge (v0) (4) h5 (fun (r43 : Int32) (h42 : mm_M) => mm_k h42 (v0) = kd_Request ∧ ge 0 ≤ v0 ∧ ∀ h46 : mm_M, h46 = mm_uI h42 (v0) 8 (r43) → mm_k h46 (v0) = kd_Request ∧ wq_Request_readNames ge (v0) h46 (fun h48 : mm_M => Z (1) h48))) ∧ ((mm_I h5 v0 5) = (112 : Int32) → wq_Request_number ge (v0) (1) h5 (fun (r51 : Int32) (h50 : mm_M) => mm_k h50 (v0) = kd_Request ∧ ge 0 ≤ v0 ∧ ∀ h54 : mm_M, h54 = mm_uI h50 (v0) 10 (r51) → Z (1) h54)) ∧ ((mm_I h5 v0 5) = (114 : Int32) → wq_Request_readText ge (v0) h5 (fun h55 : mm_M => mm_k h55 (v0) = kd_Request ∧ wq_Request_number ge (v0) (4) h55 (fun (r59 : Int32) (h58 : mm_M) => mm_k h58 (v0) = kd_Request ∧ ge 0 ≤ v0 ∧ ∀ h62 : mm_M, h62 = mm_uI h58 (v0) 11 (r59) → mm_k h62 (v0) = kd_Request ∧ wq_Request_number ge (v0) (1) h62 (fun (r65 : Int32) (h64 : mm_M) => mm_k h64 (v0) = kd_Request ∧ ge 0 ≤ v0 ∧ ∀ h68 : mm_M, h68 = mm_uI h64 (v0) 10 (r65) → Z (1) h68)))) ∧ ((mm_I h5 v0 5) = (116 : Int32) → wq_Request_longNumber ge (v0) (8) h5 (fun (r70 : Int64) (h69 : mm_M) => mm_k h69 (v0) = kd_Request ∧ ge 0 ≤ v0 ∧ ∀ h73 : mm_M, h73 = mm_uL h69 (v0) 13 (r70) → mm_k h73 (v0) = kd_Request ∧ wq_Request_number ge (v0) (4) h73 (fun (r76 : Int32) (h75 : mm_M) => mm_k h75 (v0) = kd_Request ∧ ge 0 ≤ v0 ∧ ∀ h79 : mm_M, h79 = mm_uI h75 (v0) 9 (r76) → Z (1) h79))) ∧ ((mm_I h5 v0 5) = (118 : Int32) → wq_Request_longNumber ge (v0) (8) h5 (fun (r81 : Int64) (h80 : mm_M) => mm_k h80 (v0) = kd_Request ∧ ge 0 ≤ v0 ∧ ∀ h84 : mm_M, h84 = mm_uL h80 (v0) 13 (r81) → mm_k h84 (v0) = kd_Request ∧ wq_Request_readData ge (v0) h84 (fun h86 : mm_M => Z (1) h86))) ∧ ((mm_I h5 v0 5) = (120 : Int32) → wq_Request_parseBody_319  ge h5 Z) ∧ ((mm_I h5 v0 5) = (122 : Int32) → wq_Request_parseBody_319  ge h5 Z) ∧ ((mm_I h5 v0 5) = (124 : Int32) → wq_Request_parseBody_319  ge h5 Z) ∧ ((mm_I h5 v0 5) = (126 : Int32) → wq_Request_readStat ge (v0) h5 (fun h88 : mm_M => Z (1) h88)) ∧ ((¬ (mm_I h5 v0 5) = (100 : Int32) ∧ ¬ (mm_I h5 v0 5) = (102 : Int32) ∧ ¬ (mm_I h5 v0 5) = (104 : Int32) ∧ ¬ (mm_I h5 v0 5) = (108 : Int32) ∧ ¬ (mm_I h5 v0 5) = (110 : Int32) ∧ ¬ (mm_I h5 v0 5) = (112 : Int32) ∧ ¬ (mm_I h5 v0 5) = (114 : Int32) ∧ ¬ (mm_I h5 v0 5) = (116 : Int32) ∧ ¬ (mm_I h5 v0 5) = (118 : Int32) ∧ ¬ (mm_I h5 v0 5) = (120 : Int32) ∧ ¬ (mm_I h5 v0 5) = (122 : Int32) ∧ ¬ (mm_I h5 v0 5) = (124 : Int32) ∧ ¬ (mm_I h5 v0 5) = (126 : Int32)) → Z (0) h5))
def wq_Request_parseBody_28  (ge : Nat → Nat) (v0 : Nat) (s0 : Option Nat) (h : mm_M) (Z : Int32 → mm_M → Prop) : Prop :=
  wq_Request_parseBody_37  ge (v0) (s0) (0) h Z
def wq_Request_parseBody_0  (ge : Nat → Nat) (v0 : Nat) (h : mm_M) (Z : Int32 → mm_M → Prop) : Prop :=
  mm_k h (v0) = kd_Request ∧ (((mm_I h v0 5 : Int32) = (100 : Int32) → wq_Request_parseBody_28  ge (v0) (some v0) h Z) ∧ (¬ (mm_I h v0 5 : Int32) = (100 : Int32) → (((mm_I h v0 5 : Int32) = (102 : Int32) → wq_Request_parseBody_28  ge (v0) (some v0) h Z) ∧ (¬ (mm_I h v0 5 : Int32) = (102 : Int32) → ((¬ (mm_I h v0 5 : Int32) = (108 : Int32) → wq_Request_number ge (v0) (4) h (fun (r3 : Int32) (h2 : mm_M) => wq_Request_parseBody_37  ge (v0) (some v0) (r3) h2 Z)) ∧ ((mm_I h v0 5 : Int32) = (108 : Int32) → wq_Request_parseBody_28  ge (v0) (some v0) h Z))))))
set_option maxRecDepth 100000 in
set_option maxHeartbeats 4000000 in
theorem vb_Request_parseBody_319 {E : mm_E} {Z : Int32 → mm_M → Prop} (hc : cx E "EpochServer$Request" c_Request_parseBody 1 (some (.boolean)) rm_Request_parseBody) (hq : cq E rm_Request_parseBody (pI Z))   (h : mm_M) (hw : wq_Request_parseBody_319  (mm_ge (eG E))  h Z) : V E 1 0 0 h 319 [] [] := by
  unfold wq_Request_parseBody_319 at hw
  refine V_iconst (v := 1) hc d_Request_parseBody_319 (by decide) ?_
  exact V_zret hc hq (by decide) ⟨_, rfl, hw⟩ (by decide) (by decide) d_Request_parseBody_320
set_option maxRecDepth 100000 in
set_option maxHeartbeats 4000000 in
theorem vb_Request_parseBody_37 {E : mm_E} {Z : Int32 → mm_M → Prop} (hc : cx E "EpochServer$Request" c_Request_parseBody 1 (some (.boolean)) rm_Request_parseBody) (hq : cq E rm_Request_parseBody (pI Z))  (v0 : Nat) (s0 : Option Nat) (s1 : Int32) (h : mm_M) (hw : wq_Request_parseBody_37  (mm_ge (eG E)) v0 s0 s1 h Z) : V E 1 0 0 h 37 [(0, va_rf (some v0))] [.int (s1), va_rf (s0)] := by
  unfold wq_Request_parseBody_37 at hw
  obtain ⟨a1, q2, hw⟩ := hw
  obtain ⟨q3, hw⟩ := hw
  obtain ⟨q4, hw⟩ := hw
  obtain ⟨h5, eq_h5⟩ : ∃ x, x = mm_uI h (a1) 7 (s1) := ⟨_, rfl⟩
  replace hw := hw _ eq_h5
  refine V_put (h' := h5) hc gf_Request_31 rfl q2 q3 q4 (by rw [eq_h5]; exact mm_Up_I _ _ _ _) (by rw [eq_h5]; exact up_vI rfl) (vp_nar_int _) rfl d_Request_parseBody_37 ?_
  refine V_aload_n hc 0 d_Request_parseBody_40 rfl rfl ?_
  obtain ⟨q6, hw⟩ := hw
  refine V_get (v := .int (mm_I h5 v0 5)) hc gf_Request_25 rfl q6 rfl d_Request_parseBody_41 ?_
  by_cases hs0 : (mm_I h5 v0 5) = (100 : Int32)
  · replace hw := hw.1 hs0
    refine V_tabIn (off := 124) (tgt := 168) hc d_Request_parseBody_44 (by rw [hs0]; decide) (by rw [hs0]; decide) (by rw [hs0]; rfl) (by decide) ?_
    refine V_aload_n hc 0 d_Request_parseBody_168 rfl rfl ?_
    refine V_aload_n hc 0 d_Request_parseBody_169 rfl rfl ?_
    refine V_iconst (v := 4) hc d_Request_parseBody_170 (by decide) ?_
    refine V_callV (rm' := rm_Request_number) (As := [.int (4)]) (rest := [va_rf (some v0)]) (n := 1) (cn := 8) hc rfl q6 (sat_Request_number (eG E) _ _ _ _ hw) rfl cv_Request_66 (gw_of (tw_2 (List.mem_of_getElem? (i := 187) rfl)) rfl) ss_Request_number rfl ⟨by decide, by decide⟩ (by decide) (by decide) rfl (by simp [cat_rf, cat_i, cat_l]) d_Request_parseBody_171 (fun r0 h7 hw => ?_)
    obtain ⟨r8, rfl, hw⟩ := hw
    refine V_wide (cs' := 0) (sl' := 0) (by decide) (by decide) ?_
    refine V_st (st' := [.int (r8), va_rf (some v0)]) rfl ?_
    obtain ⟨q9, hw⟩ := hw
    obtain ⟨q10, hw⟩ := hw
    obtain ⟨h11, eq_h11⟩ : ∃ x, x = mm_uI h7 (v0) 8 (r8) := ⟨_, rfl⟩
    replace hw := hw _ eq_h11
    refine V_put (h' := h11) hc gf_Request_34 rfl rfl q9 q10 (by rw [eq_h11]; exact mm_Up_I _ _ _ _) (by rw [eq_h11]; exact up_vI rfl) (vp_nar_int _) rfl d_Request_parseBody_174 ?_
    refine V_aload_n hc 0 d_Request_parseBody_177 rfl rfl ?_
    obtain ⟨q12, hw⟩ := hw
    refine V_callV (rm' := rm_Request_readText) (As := []) (rest := []) (n := 0) (cn := 8) hc rfl q12 (sat_Request_readText (eG E) _ _ _ hw) rfl cv_Request_74 (gw_of (tw_2 (List.mem_of_getElem? (i := 199) rfl)) rfl) ss_Request_readText rfl ⟨by decide, by decide⟩ (by decide) (by decide) rfl (by simp [cat_rf, cat_i, cat_l]) d_Request_parseBody_178 (fun r0 h13 hw => ?_)
    obtain ⟨rfl, hw⟩ := hw
    refine V_wide (cs' := 0) (sl' := 0) (by decide) (by decide) ?_
    refine V_st (st' := []) rfl ?_
    refine V_iconst (v := 1) hc d_Request_parseBody_181 (by decide) ?_
    exact V_zret hc hq (by decide) ⟨_, rfl, hw⟩ (by decide) (by decide) d_Request_parseBody_182
  by_cases hs1 : (mm_I h5 v0 5) = (102 : Int32)
  · replace hw := hw.2.1 hs1
    refine V_tabIn (off := 139) (tgt := 183) hc d_Request_parseBody_44 (by rw [hs1]; decide) (by rw [hs1]; decide) (by rw [hs1]; rfl) (by decide) ?_
    refine V_aload_n hc 0 d_Request_parseBody_183 rfl rfl ?_
    refine V_aload_n hc 0 d_Request_parseBody_184 rfl rfl ?_
    refine V_iconst (v := 4) hc d_Request_parseBody_185 (by decide) ?_
    refine V_callV (rm' := rm_Request_number) (As := [.int (4)]) (rest := [va_rf (some v0)]) (n := 1) (cn := 8) hc rfl q6 (sat_Request_number (eG E) _ _ _ _ hw) rfl cv_Request_66 (gw_of (tw_2 (List.mem_of_getElem? (i := 187) rfl)) rfl) ss_Request_number rfl ⟨by decide, by decide⟩ (by decide) (by decide) rfl (by simp [cat_rf, cat_i, cat_l]) d_Request_parseBody_186 (fun r0 h15 hw => ?_)
    obtain ⟨r16, rfl, hw⟩ := hw
    refine V_wide (cs' := 0) (sl' := 0) (by decide) (by decide) ?_
    refine V_st (st' := [.int (r16), va_rf (some v0)]) rfl ?_
    obtain ⟨q17, hw⟩ := hw
    obtain ⟨q18, hw⟩ := hw
    obtain ⟨h19, eq_h19⟩ : ∃ x, x = mm_uI h15 (v0) 8 (r16) := ⟨_, rfl⟩
    replace hw := hw _ eq_h19
    refine V_put (h' := h19) hc gf_Request_34 rfl rfl q17 q18 (by rw [eq_h19]; exact mm_Up_I _ _ _ _) (by rw [eq_h19]; exact up_vI rfl) (vp_nar_int _) rfl d_Request_parseBody_189 ?_
    refine V_aload_n hc 0 d_Request_parseBody_192 rfl rfl ?_
    obtain ⟨q20, hw⟩ := hw
    refine V_callV (rm' := rm_Request_readText) (As := []) (rest := []) (n := 0) (cn := 8) hc rfl q20 (sat_Request_readText (eG E) _ _ _ hw) rfl cv_Request_74 (gw_of (tw_2 (List.mem_of_getElem? (i := 199) rfl)) rfl) ss_Request_readText rfl ⟨by decide, by decide⟩ (by decide) (by decide) rfl (by simp [cat_rf, cat_i, cat_l]) d_Request_parseBody_193 (fun r0 h21 hw => ?_)
    obtain ⟨rfl, hw⟩ := hw
    refine V_wide (cs' := 0) (sl' := 0) (by decide) (by decide) ?_
    refine V_st (st' := []) rfl ?_
    refine V_aload_n hc 0 d_Request_parseBody_196 rfl rfl ?_
    obtain ⟨q23, hw⟩ := hw
    refine V_callV (rm' := rm_Request_readText) (As := []) (rest := []) (n := 0) (cn := 8) hc rfl q23 (sat_Request_readText (eG E) _ _ _ hw) rfl cv_Request_74 (gw_of (tw_2 (List.mem_of_getElem? (i := 199) rfl)) rfl) ss_Request_readText rfl ⟨by decide, by decide⟩ (by decide) (by decide) rfl (by simp [cat_rf, cat_i, cat_l]) d_Request_parseBody_197 (fun r0 h24 hw => ?_)
    obtain ⟨rfl, hw⟩ := hw
    refine V_wide (cs' := 0) (sl' := 0) (by decide) (by decide) ?_
    refine V_st (st' := []) rfl ?_
    refine V_iconst (v := 1) hc d_Request_parseBody_200 (by decide) ?_
    exact V_zret hc hq (by decide) ⟨_, rfl, hw⟩ (by decide) (by decide) d_Request_parseBody_201
  by_cases hs2 : (mm_I h5 v0 5) = (104 : Int32)
  · replace hw := hw.2.2.1 hs2
    refine V_tabIn (off := 158) (tgt := 202) hc d_Request_parseBody_44 (by rw [hs2]; decide) (by rw [hs2]; decide) (by rw [hs2]; rfl) (by decide) ?_
    refine V_aload_n hc 0 d_Request_parseBody_202 rfl rfl ?_
    refine V_aload_n hc 0 d_Request_parseBody_203 rfl rfl ?_
    refine V_iconst (v := 4) hc d_Request_parseBody_204 (by decide) ?_
    refine V_callV (rm' := rm_Request_number) (As := [.int (4)]) (rest := [va_rf (some v0)]) (n := 1) (cn := 8) hc rfl q6 (sat_Request_number (eG E) _ _ _ _ hw) rfl cv_Request_66 (gw_of (tw_2 (List.mem_of_getElem? (i := 187) rfl)) rfl) ss_Request_number rfl ⟨by decide, by decide⟩ (by decide) (by decide) rfl (by simp [cat_rf, cat_i, cat_l]) d_Request_parseBody_205 (fun r0 h26 hw => ?_)
    obtain ⟨r27, rfl, hw⟩ := hw
    refine V_wide (cs' := 0) (sl' := 0) (by decide) (by decide) ?_
    refine V_st (st' := [.int (r27), va_rf (some v0)]) rfl ?_
    obtain ⟨q28, hw⟩ := hw
    obtain ⟨q29, hw⟩ := hw
    obtain ⟨h30, eq_h30⟩ : ∃ x, x = mm_uI h26 (v0) 8 (r27) := ⟨_, rfl⟩
    replace hw := hw _ eq_h30
    refine V_put (h' := h30) hc gf_Request_34 rfl rfl q28 q29 (by rw [eq_h30]; exact mm_Up_I _ _ _ _) (by rw [eq_h30]; exact up_vI rfl) (vp_nar_int _) rfl d_Request_parseBody_208 ?_
    refine V_aload_n hc 0 d_Request_parseBody_211 rfl rfl ?_
    obtain ⟨q31, hw⟩ := hw
    refine V_callV (rm' := rm_Request_readText) (As := []) (rest := []) (n := 0) (cn := 8) hc rfl q31 (sat_Request_readText (eG E) _ _ _ hw) rfl cv_Request_74 (gw_of (tw_2 (List.mem_of_getElem? (i := 199) rfl)) rfl) ss_Request_readText rfl ⟨by decide, by decide⟩ (by decide) (by decide) rfl (by simp [cat_rf, cat_i, cat_l]) d_Request_parseBody_212 (fun r0 h32 hw => ?_)
    obtain ⟨rfl, hw⟩ := hw
    refine V_wide (cs' := 0) (sl' := 0) (by decide) (by decide) ?_
    refine V_st (st' := []) rfl ?_
    refine V_aload_n hc 0 d_Request_parseBody_215 rfl rfl ?_
    obtain ⟨q34, hw⟩ := hw
    refine V_callV (rm' := rm_Request_readText) (As := []) (rest := []) (n := 0) (cn := 8) hc rfl q34 (sat_Request_readText (eG E) _ _ _ hw) rfl cv_Request_74 (gw_of (tw_2 (List.mem_of_getElem? (i := 199) rfl)) rfl) ss_Request_readText rfl ⟨by decide, by decide⟩ (by decide) (by decide) rfl (by simp [cat_rf, cat_i, cat_l]) d_Request_parseBody_216 (fun r0 h35 hw => ?_)
    obtain ⟨rfl, hw⟩ := hw
    refine V_wide (cs' := 0) (sl' := 0) (by decide) (by decide) ?_
    refine V_st (st' := []) rfl ?_
    refine V_iconst (v := 1) hc d_Request_parseBody_219 (by decide) ?_
    exact V_zret hc hq (by decide) ⟨_, rfl, hw⟩ (by decide) (by decide) d_Request_parseBody_220
  by_cases hs3 : (mm_I h5 v0 5) = (108 : Int32)
  · replace hw := hw.2.2.2.1 hs3
    refine V_tabIn (off := 177) (tgt := 221) hc d_Request_parseBody_44 (by rw [hs3]; decide) (by rw [hs3]; decide) (by rw [hs3]; rfl) (by decide) ?_
    refine V_aload_n hc 0 d_Request_parseBody_221 rfl rfl ?_
    refine V_aload_n hc 0 d_Request_parseBody_222 rfl rfl ?_
    refine V_iconst (v := 2) hc d_Request_parseBody_223 (by decide) ?_
    refine V_callV (rm' := rm_Request_number) (As := [.int (2)]) (rest := [va_rf (some v0)]) (n := 1) (cn := 8) hc rfl q6 (sat_Request_number (eG E) _ _ _ _ hw) rfl cv_Request_66 (gw_of (tw_2 (List.mem_of_getElem? (i := 187) rfl)) rfl) ss_Request_number rfl ⟨by decide, by decide⟩ (by decide) (by decide) rfl (by simp [cat_rf, cat_i, cat_l]) d_Request_parseBody_224 (fun r0 h37 hw => ?_)
    obtain ⟨r38, rfl, hw⟩ := hw
    refine V_wide (cs' := 0) (sl' := 0) (by decide) (by decide) ?_
    refine V_st (st' := [.int (r38), va_rf (some v0)]) rfl ?_
    obtain ⟨q39, hw⟩ := hw
    obtain ⟨q40, hw⟩ := hw
    obtain ⟨h41, eq_h41⟩ : ∃ x, x = mm_uI h37 (v0) 8 (r38) := ⟨_, rfl⟩
    replace hw := hw _ eq_h41
    refine V_put (h' := h41) hc gf_Request_34 rfl rfl q39 q40 (by rw [eq_h41]; exact mm_Up_I _ _ _ _) (by rw [eq_h41]; exact up_vI rfl) (vp_nar_int _) rfl d_Request_parseBody_227 ?_
    refine V_iconst (v := 1) hc d_Request_parseBody_230 (by decide) ?_
    exact V_zret hc hq (by decide) ⟨_, rfl, hw⟩ (by decide) (by decide) d_Request_parseBody_231
  by_cases hs4 : (mm_I h5 v0 5) = (110 : Int32)
  · replace hw := hw.2.2.2.2.1 hs4
    refine V_tabIn (off := 188) (tgt := 232) hc d_Request_parseBody_44 (by rw [hs4]; decide) (by rw [hs4]; decide) (by rw [hs4]; rfl) (by decide) ?_
    refine V_aload_n hc 0 d_Request_parseBody_232 rfl rfl ?_
    refine V_aload_n hc 0 d_Request_parseBody_233 rfl rfl ?_
    refine V_iconst (v := 4) hc d_Request_parseBody_234 (by decide) ?_
    refine V_callV (rm' := rm_Request_number) (As := [.int (4)]) (rest := [va_rf (some v0)]) (n := 1) (cn := 8) hc rfl q6 (sat_Request_number (eG E) _ _ _ _ hw) rfl cv_Request_66 (gw_of (tw_2 (List.mem_of_getElem? (i := 187) rfl)) rfl) ss_Request_number rfl ⟨by decide, by decide⟩ (by decide) (by decide) rfl (by simp [cat_rf, cat_i, cat_l]) d_Request_parseBody_235 (fun r0 h42 hw => ?_)
    obtain ⟨r43, rfl, hw⟩ := hw
    refine V_wide (cs' := 0) (sl' := 0) (by decide) (by decide) ?_
    refine V_st (st' := [.int (r43), va_rf (some v0)]) rfl ?_
    obtain ⟨q44, hw⟩ := hw
    obtain ⟨q45, hw⟩ := hw
    obtain ⟨h46, eq_h46⟩ : ∃ x, x = mm_uI h42 (v0) 8 (r43) := ⟨_, rfl⟩
    replace hw := hw _ eq_h46
    refine V_put (h' := h46) hc gf_Request_34 rfl rfl q44 q45 (by rw [eq_h46]; exact mm_Up_I _ _ _ _) (by rw [eq_h46]; exact up_vI rfl) (vp_nar_int _) rfl d_Request_parseBody_238 ?_
    refine V_aload_n hc 0 d_Request_parseBody_241 rfl rfl ?_
    obtain ⟨q47, hw⟩ := hw
    refine V_callV (rm' := rm_Request_readNames) (As := []) (rest := []) (n := 0) (cn := 8) hc rfl q47 (sat_Request_readNames (eG E) _ _ _ hw) rfl cv_Request_77 (gw_of (tw_2 (List.mem_of_getElem? (i := 208) rfl)) rfl) ss_Request_readNames rfl ⟨by decide, by decide⟩ (by decide) (by decide) rfl (by simp [cat_rf, cat_i, cat_l]) d_Request_parseBody_242 (fun r0 h48 hw => ?_)
    obtain ⟨rfl, hw⟩ := hw
    refine V_wide (cs' := 0) (sl' := 0) (by decide) (by decide) ?_
    refine V_st (st' := []) rfl ?_
    refine V_iconst (v := 1) hc d_Request_parseBody_245 (by decide) ?_
    exact V_zret hc hq (by decide) ⟨_, rfl, hw⟩ (by decide) (by decide) d_Request_parseBody_246
  by_cases hs5 : (mm_I h5 v0 5) = (112 : Int32)
  · replace hw := hw.2.2.2.2.2.1 hs5
    refine V_tabIn (off := 203) (tgt := 247) hc d_Request_parseBody_44 (by rw [hs5]; decide) (by rw [hs5]; decide) (by rw [hs5]; rfl) (by decide) ?_
    refine V_aload_n hc 0 d_Request_parseBody_247 rfl rfl ?_
    refine V_aload_n hc 0 d_Request_parseBody_248 rfl rfl ?_
    refine V_iconst (v := 1) hc d_Request_parseBody_249 (by decide) ?_
    refine V_callV (rm' := rm_Request_number) (As := [.int (1)]) (rest := [va_rf (some v0)]) (n := 1) (cn := 8) hc rfl q6 (sat_Request_number (eG E) _ _ _ _ hw) rfl cv_Request_66 (gw_of (tw_2 (List.mem_of_getElem? (i := 187) rfl)) rfl) ss_Request_number rfl ⟨by decide, by decide⟩ (by decide) (by decide) rfl (by simp [cat_rf, cat_i, cat_l]) d_Request_parseBody_250 (fun r0 h50 hw => ?_)
    obtain ⟨r51, rfl, hw⟩ := hw
    refine V_wide (cs' := 0) (sl' := 0) (by decide) (by decide) ?_
    refine V_st (st' := [.int (r51), va_rf (some v0)]) rfl ?_
    obtain ⟨q52, hw⟩ := hw
    obtain ⟨q53, hw⟩ := hw
    obtain ⟨h54, eq_h54⟩ : ∃ x, x = mm_uI h50 (v0) 10 (r51) := ⟨_, rfl⟩
    replace hw := hw _ eq_h54
    refine V_put (h' := h54) hc gf_Request_40 rfl rfl q52 q53 (by rw [eq_h54]; exact mm_Up_I _ _ _ _) (by rw [eq_h54]; exact up_vI rfl) (vp_nar_int _) rfl d_Request_parseBody_253 ?_
    refine V_iconst (v := 1) hc d_Request_parseBody_256 (by decide) ?_
    exact V_zret hc hq (by decide) ⟨_, rfl, hw⟩ (by decide) (by decide) d_Request_parseBody_257
  by_cases hs6 : (mm_I h5 v0 5) = (114 : Int32)
  · replace hw := hw.2.2.2.2.2.2.1 hs6
    refine V_tabIn (off := 214) (tgt := 258) hc d_Request_parseBody_44 (by rw [hs6]; decide) (by rw [hs6]; decide) (by rw [hs6]; rfl) (by decide) ?_
    refine V_aload_n hc 0 d_Request_parseBody_258 rfl rfl ?_
    refine V_callV (rm' := rm_Request_readText) (As := []) (rest := []) (n := 0) (cn := 8) hc rfl q6 (sat_Request_readText (eG E) _ _ _ hw) rfl cv_Request_74 (gw_of (tw_2 (List.mem_of_getElem? (i := 199) rfl)) rfl) ss_Request_readText rfl ⟨by decide, by decide⟩ (by decide) (by decide) rfl (by simp [cat_rf, cat_i, cat_l]) d_Request_parseBody_259 (fun r0 h55 hw => ?_)
    obtain ⟨rfl, hw⟩ := hw
    refine V_wide (cs' := 0) (sl' := 0) (by decide) (by decide) ?_
    refine V_st (st' := []) rfl ?_
    refine V_aload_n hc 0 d_Request_parseBody_262 rfl rfl ?_
    refine V_aload_n hc 0 d_Request_parseBody_263 rfl rfl ?_
    refine V_iconst (v := 4) hc d_Request_parseBody_264 (by decide) ?_
    obtain ⟨q57, hw⟩ := hw
    refine V_callV (rm' := rm_Request_number) (As := [.int (4)]) (rest := [va_rf (some v0)]) (n := 1) (cn := 8) hc rfl q57 (sat_Request_number (eG E) _ _ _ _ hw) rfl cv_Request_66 (gw_of (tw_2 (List.mem_of_getElem? (i := 187) rfl)) rfl) ss_Request_number rfl ⟨by decide, by decide⟩ (by decide) (by decide) rfl (by simp [cat_rf, cat_i, cat_l]) d_Request_parseBody_265 (fun r0 h58 hw => ?_)
    obtain ⟨r59, rfl, hw⟩ := hw
    refine V_wide (cs' := 0) (sl' := 0) (by decide) (by decide) ?_
    refine V_st (st' := [.int (r59), va_rf (some v0)]) rfl ?_
    obtain ⟨q60, hw⟩ := hw
    obtain ⟨q61, hw⟩ := hw
    obtain ⟨h62, eq_h62⟩ : ∃ x, x = mm_uI h58 (v0) 11 (r59) := ⟨_, rfl⟩
    replace hw := hw _ eq_h62
    refine V_put (h' := h62) hc gf_Request_43 rfl rfl q60 q61 (by rw [eq_h62]; exact mm_Up_I _ _ _ _) (by rw [eq_h62]; exact up_vI rfl) (vp_nar_int _) rfl d_Request_parseBody_268 ?_
    refine V_aload_n hc 0 d_Request_parseBody_271 rfl rfl ?_
    refine V_aload_n hc 0 d_Request_parseBody_272 rfl rfl ?_
    refine V_iconst (v := 1) hc d_Request_parseBody_273 (by decide) ?_
    obtain ⟨q63, hw⟩ := hw
    refine V_callV (rm' := rm_Request_number) (As := [.int (1)]) (rest := [va_rf (some v0)]) (n := 1) (cn := 8) hc rfl q63 (sat_Request_number (eG E) _ _ _ _ hw) rfl cv_Request_66 (gw_of (tw_2 (List.mem_of_getElem? (i := 187) rfl)) rfl) ss_Request_number rfl ⟨by decide, by decide⟩ (by decide) (by decide) rfl (by simp [cat_rf, cat_i, cat_l]) d_Request_parseBody_274 (fun r0 h64 hw => ?_)
    obtain ⟨r65, rfl, hw⟩ := hw
    refine V_wide (cs' := 0) (sl' := 0) (by decide) (by decide) ?_
    refine V_st (st' := [.int (r65), va_rf (some v0)]) rfl ?_
    obtain ⟨q66, hw⟩ := hw
    obtain ⟨q67, hw⟩ := hw
    obtain ⟨h68, eq_h68⟩ : ∃ x, x = mm_uI h64 (v0) 10 (r65) := ⟨_, rfl⟩
    replace hw := hw _ eq_h68
    refine V_put (h' := h68) hc gf_Request_40 rfl rfl q66 q67 (by rw [eq_h68]; exact mm_Up_I _ _ _ _) (by rw [eq_h68]; exact up_vI rfl) (vp_nar_int _) rfl d_Request_parseBody_277 ?_
    refine V_iconst (v := 1) hc d_Request_parseBody_280 (by decide) ?_
    exact V_zret hc hq (by decide) ⟨_, rfl, hw⟩ (by decide) (by decide) d_Request_parseBody_281
  by_cases hs7 : (mm_I h5 v0 5) = (116 : Int32)
  · replace hw := hw.2.2.2.2.2.2.2.1 hs7
    refine V_tabIn (off := 238) (tgt := 282) hc d_Request_parseBody_44 (by rw [hs7]; decide) (by rw [hs7]; decide) (by rw [hs7]; rfl) (by decide) ?_
    refine V_aload_n hc 0 d_Request_parseBody_282 rfl rfl ?_
    refine V_aload_n hc 0 d_Request_parseBody_283 rfl rfl ?_
    refine V_bipush (v := 8) hc d_Request_parseBody_284 (by decide) ?_
    refine V_callV (rm' := rm_Request_longNumber) (As := [.int (8)]) (rest := [va_rf (some v0)]) (n := 1) (cn := 8) hc rfl q6 (sat_Request_longNumber (eG E) _ _ _ _ hw) rfl cv_Request_80 (gw_of (tw_2 (List.mem_of_getElem? (i := 191) rfl)) rfl) ss_Request_longNumber rfl ⟨by decide, by decide⟩ (by decide) (by decide) rfl (by simp [cat_rf, cat_i, cat_l]) d_Request_parseBody_286 (fun r0 h69 hw => ?_)
    obtain ⟨r70, rfl, hw⟩ := hw
    refine V_wide (cs' := 0) (sl' := 0) (by decide) (by decide) ?_
    refine V_st (st' := [.long (r70), va_rf (some v0)]) rfl ?_
    obtain ⟨q71, hw⟩ := hw
    obtain ⟨q72, hw⟩ := hw
    obtain ⟨h73, eq_h73⟩ : ∃ x, x = mm_uL h69 (v0) 13 (r70) := ⟨_, rfl⟩
    replace hw := hw _ eq_h73
    refine V_put (h' := h73) hc gf_Request_49 rfl rfl q71 q72 (by rw [eq_h73]; exact mm_Up_L _ _ _ _) (by rw [eq_h73]; exact up_vL) rfl rfl d_Request_parseBody_289 ?_
    refine V_aload_n hc 0 d_Request_parseBody_292 rfl rfl ?_
    refine V_aload_n hc 0 d_Request_parseBody_293 rfl rfl ?_
    refine V_iconst (v := 4) hc d_Request_parseBody_294 (by decide) ?_
    obtain ⟨q74, hw⟩ := hw
    refine V_callV (rm' := rm_Request_number) (As := [.int (4)]) (rest := [va_rf (some v0)]) (n := 1) (cn := 8) hc rfl q74 (sat_Request_number (eG E) _ _ _ _ hw) rfl cv_Request_66 (gw_of (tw_2 (List.mem_of_getElem? (i := 187) rfl)) rfl) ss_Request_number rfl ⟨by decide, by decide⟩ (by decide) (by decide) rfl (by simp [cat_rf, cat_i, cat_l]) d_Request_parseBody_295 (fun r0 h75 hw => ?_)
    obtain ⟨r76, rfl, hw⟩ := hw
    refine V_wide (cs' := 0) (sl' := 0) (by decide) (by decide) ?_
    refine V_st (st' := [.int (r76), va_rf (some v0)]) rfl ?_
    obtain ⟨q77, hw⟩ := hw
    obtain ⟨q78, hw⟩ := hw
    obtain ⟨h79, eq_h79⟩ : ∃ x, x = mm_uI h75 (v0) 9 (r76) := ⟨_, rfl⟩
    replace hw := hw _ eq_h79
    refine V_put (h' := h79) hc gf_Request_37 rfl rfl q77 q78 (by rw [eq_h79]; exact mm_Up_I _ _ _ _) (by rw [eq_h79]; exact up_vI rfl) (vp_nar_int _) rfl d_Request_parseBody_298 ?_
    refine V_iconst (v := 1) hc d_Request_parseBody_301 (by decide) ?_
    exact V_zret hc hq (by decide) ⟨_, rfl, hw⟩ (by decide) (by decide) d_Request_parseBody_302
  by_cases hs8 : (mm_I h5 v0 5) = (118 : Int32)
  · replace hw := hw.2.2.2.2.2.2.2.2.1 hs8
    refine V_tabIn (off := 259) (tgt := 303) hc d_Request_parseBody_44 (by rw [hs8]; decide) (by rw [hs8]; decide) (by rw [hs8]; rfl) (by decide) ?_
    refine V_aload_n hc 0 d_Request_parseBody_303 rfl rfl ?_
    refine V_aload_n hc 0 d_Request_parseBody_304 rfl rfl ?_
    refine V_bipush (v := 8) hc d_Request_parseBody_305 (by decide) ?_
    refine V_callV (rm' := rm_Request_longNumber) (As := [.int (8)]) (rest := [va_rf (some v0)]) (n := 1) (cn := 8) hc rfl q6 (sat_Request_longNumber (eG E) _ _ _ _ hw) rfl cv_Request_80 (gw_of (tw_2 (List.mem_of_getElem? (i := 191) rfl)) rfl) ss_Request_longNumber rfl ⟨by decide, by decide⟩ (by decide) (by decide) rfl (by simp [cat_rf, cat_i, cat_l]) d_Request_parseBody_307 (fun r0 h80 hw => ?_)
    obtain ⟨r81, rfl, hw⟩ := hw
    refine V_wide (cs' := 0) (sl' := 0) (by decide) (by decide) ?_
    refine V_st (st' := [.long (r81), va_rf (some v0)]) rfl ?_
    obtain ⟨q82, hw⟩ := hw
    obtain ⟨q83, hw⟩ := hw
    obtain ⟨h84, eq_h84⟩ : ∃ x, x = mm_uL h80 (v0) 13 (r81) := ⟨_, rfl⟩
    replace hw := hw _ eq_h84
    refine V_put (h' := h84) hc gf_Request_49 rfl rfl q82 q83 (by rw [eq_h84]; exact mm_Up_L _ _ _ _) (by rw [eq_h84]; exact up_vL) rfl rfl d_Request_parseBody_310 ?_
    refine V_aload_n hc 0 d_Request_parseBody_313 rfl rfl ?_
    obtain ⟨q85, hw⟩ := hw
    refine V_callV (rm' := rm_Request_readData) (As := []) (rest := []) (n := 0) (cn := 8) hc rfl q85 (sat_Request_readData (eG E) _ _ _ hw) rfl cv_Request_84 (gw_of (tw_2 (List.mem_of_getElem? (i := 212) rfl)) rfl) ss_Request_readData rfl ⟨by decide, by decide⟩ (by decide) (by decide) rfl (by simp [cat_rf, cat_i, cat_l]) d_Request_parseBody_314 (fun r0 h86 hw => ?_)
    obtain ⟨rfl, hw⟩ := hw
    refine V_wide (cs' := 0) (sl' := 0) (by decide) (by decide) ?_
    refine V_st (st' := []) rfl ?_
    refine V_iconst (v := 1) hc d_Request_parseBody_317 (by decide) ?_
    exact V_zret hc hq (by decide) ⟨_, rfl, hw⟩ (by decide) (by decide) d_Request_parseBody_318
  by_cases hs9 : (mm_I h5 v0 5) = (120 : Int32)
  · replace hw := hw.2.2.2.2.2.2.2.2.2.1 hs9
    refine V_tabIn (off := 275) (tgt := 319) hc d_Request_parseBody_44 (by rw [hs9]; decide) (by rw [hs9]; decide) (by rw [hs9]; rfl) (by decide) ?_
    refine V_sub (lv' := []) [] rfl ?_
    exact vb_Request_parseBody_319 hc hq  _ hw
  by_cases hs10 : (mm_I h5 v0 5) = (122 : Int32)
  · replace hw := hw.2.2.2.2.2.2.2.2.2.2.1 hs10
    refine V_tabIn (off := 275) (tgt := 319) hc d_Request_parseBody_44 (by rw [hs10]; decide) (by rw [hs10]; decide) (by rw [hs10]; rfl) (by decide) ?_
    refine V_sub (lv' := []) [] rfl ?_
    exact vb_Request_parseBody_319 hc hq  _ hw
  by_cases hs11 : (mm_I h5 v0 5) = (124 : Int32)
  · replace hw := hw.2.2.2.2.2.2.2.2.2.2.2.1 hs11
    refine V_tabIn (off := 275) (tgt := 319) hc d_Request_parseBody_44 (by rw [hs11]; decide) (by rw [hs11]; decide) (by rw [hs11]; rfl) (by decide) ?_
    refine V_sub (lv' := []) [] rfl ?_
    exact vb_Request_parseBody_319 hc hq  _ hw
  by_cases hs12 : (mm_I h5 v0 5) = (126 : Int32)
  · replace hw := hw.2.2.2.2.2.2.2.2.2.2.2.2.1 hs12
    refine V_tabIn (off := 277) (tgt := 321) hc d_Request_parseBody_44 (by rw [hs12]; decide) (by rw [hs12]; decide) (by rw [hs12]; rfl) (by decide) ?_
    refine V_aload_n hc 0 d_Request_parseBody_321 rfl rfl ?_
    refine V_callV (rm' := rm_Request_readStat) (As := []) (rest := []) (n := 0) (cn := 8) hc rfl q6 (sat_Request_readStat (eG E) _ _ _ hw) rfl cv_Request_87 (gw_of (tw_2 (List.mem_of_getElem? (i := 216) rfl)) rfl) ss_Request_readStat rfl ⟨by decide, by decide⟩ (by decide) (by decide) rfl (by simp [cat_rf, cat_i, cat_l]) d_Request_parseBody_322 (fun r0 h88 hw => ?_)
    obtain ⟨rfl, hw⟩ := hw
    refine V_wide (cs' := 0) (sl' := 0) (by decide) (by decide) ?_
    refine V_st (st' := []) rfl ?_
    refine V_iconst (v := 1) hc d_Request_parseBody_325 (by decide) ?_
    exact V_zret hc hq (by decide) ⟨_, rfl, hw⟩ (by decide) (by decide) d_Request_parseBody_326
  replace hw := hw.2.2.2.2.2.2.2.2.2.2.2.2.2 ⟨hs0, hs1, hs2, hs3, hs4, hs5, hs6, hs7, hs8, hs9, hs10, hs11, hs12⟩
  suffices hsD : V E 1 0 0 h5 327 [(0, va_rf (some v0))] [] by
    by_cases ht0 : (mm_I h5 v0 5) = (101 : Int32)
    · exact V_tabIn (off := 283) (tgt := 327) hc d_Request_parseBody_44 (by rw [ht0]; decide) (by rw [ht0]; decide) (by rw [ht0]; rfl) (by decide) hsD
    by_cases ht1 : (mm_I h5 v0 5) = (103 : Int32)
    · exact V_tabIn (off := 283) (tgt := 327) hc d_Request_parseBody_44 (by rw [ht1]; decide) (by rw [ht1]; decide) (by rw [ht1]; rfl) (by decide) hsD
    by_cases ht2 : (mm_I h5 v0 5) = (105 : Int32)
    · exact V_tabIn (off := 283) (tgt := 327) hc d_Request_parseBody_44 (by rw [ht2]; decide) (by rw [ht2]; decide) (by rw [ht2]; rfl) (by decide) hsD
    by_cases ht3 : (mm_I h5 v0 5) = (106 : Int32)
    · exact V_tabIn (off := 283) (tgt := 327) hc d_Request_parseBody_44 (by rw [ht3]; decide) (by rw [ht3]; decide) (by rw [ht3]; rfl) (by decide) hsD
    by_cases ht4 : (mm_I h5 v0 5) = (107 : Int32)
    · exact V_tabIn (off := 283) (tgt := 327) hc d_Request_parseBody_44 (by rw [ht4]; decide) (by rw [ht4]; decide) (by rw [ht4]; rfl) (by decide) hsD
    by_cases ht5 : (mm_I h5 v0 5) = (109 : Int32)
    · exact V_tabIn (off := 283) (tgt := 327) hc d_Request_parseBody_44 (by rw [ht5]; decide) (by rw [ht5]; decide) (by rw [ht5]; rfl) (by decide) hsD
    by_cases ht6 : (mm_I h5 v0 5) = (111 : Int32)
    · exact V_tabIn (off := 283) (tgt := 327) hc d_Request_parseBody_44 (by rw [ht6]; decide) (by rw [ht6]; decide) (by rw [ht6]; rfl) (by decide) hsD
    by_cases ht7 : (mm_I h5 v0 5) = (113 : Int32)
    · exact V_tabIn (off := 283) (tgt := 327) hc d_Request_parseBody_44 (by rw [ht7]; decide) (by rw [ht7]; decide) (by rw [ht7]; rfl) (by decide) hsD
    by_cases ht8 : (mm_I h5 v0 5) = (115 : Int32)
    · exact V_tabIn (off := 283) (tgt := 327) hc d_Request_parseBody_44 (by rw [ht8]; decide) (by rw [ht8]; decide) (by rw [ht8]; rfl) (by decide) hsD
    by_cases ht9 : (mm_I h5 v0 5) = (117 : Int32)
    · exact V_tabIn (off := 283) (tgt := 327) hc d_Request_parseBody_44 (by rw [ht9]; decide) (by rw [ht9]; decide) (by rw [ht9]; rfl) (by decide) hsD
    by_cases ht10 : (mm_I h5 v0 5) = (119 : Int32)
    · exact V_tabIn (off := 283) (tgt := 327) hc d_Request_parseBody_44 (by rw [ht10]; decide) (by rw [ht10]; decide) (by rw [ht10]; rfl) (by decide) hsD
    by_cases ht11 : (mm_I h5 v0 5) = (121 : Int32)
    · exact V_tabIn (off := 283) (tgt := 327) hc d_Request_parseBody_44 (by rw [ht11]; decide) (by rw [ht11]; decide) (by rw [ht11]; rfl) (by decide) hsD
    by_cases ht12 : (mm_I h5 v0 5) = (123 : Int32)
    · exact V_tabIn (off := 283) (tgt := 327) hc d_Request_parseBody_44 (by rw [ht12]; decide) (by rw [ht12]; decide) (by rw [ht12]; rfl) (by decide) hsD
    by_cases ht13 : (mm_I h5 v0 5) = (125 : Int32)
    · exact V_tabIn (off := 283) (tgt := 327) hc d_Request_parseBody_44 (by rw [ht13]; decide) (by rw [ht13]; decide) (by rw [ht13]; rfl) (by decide) hsD
    have nhs0 := lv_neT (a := 100) hs0 (by decide)
    have nhs1 := lv_neT (a := 102) hs1 (by decide)
    have nhs2 := lv_neT (a := 104) hs2 (by decide)
    have nhs3 := lv_neT (a := 108) hs3 (by decide)
    have nhs4 := lv_neT (a := 110) hs4 (by decide)
    have nhs5 := lv_neT (a := 112) hs5 (by decide)
    have nhs6 := lv_neT (a := 114) hs6 (by decide)
    have nhs7 := lv_neT (a := 116) hs7 (by decide)
    have nhs8 := lv_neT (a := 118) hs8 (by decide)
    have nhs9 := lv_neT (a := 120) hs9 (by decide)
    have nhs10 := lv_neT (a := 122) hs10 (by decide)
    have nhs11 := lv_neT (a := 124) hs11 (by decide)
    have nhs12 := lv_neT (a := 126) hs12 (by decide)
    have nht0 := lv_neT (a := 101) ht0 (by decide)
    have nht1 := lv_neT (a := 103) ht1 (by decide)
    have nht2 := lv_neT (a := 105) ht2 (by decide)
    have nht3 := lv_neT (a := 106) ht3 (by decide)
    have nht4 := lv_neT (a := 107) ht4 (by decide)
    have nht5 := lv_neT (a := 109) ht5 (by decide)
    have nht6 := lv_neT (a := 111) ht6 (by decide)
    have nht7 := lv_neT (a := 113) ht7 (by decide)
    have nht8 := lv_neT (a := 115) ht8 (by decide)
    have nht9 := lv_neT (a := 117) ht9 (by decide)
    have nht10 := lv_neT (a := 119) ht10 (by decide)
    have nht11 := lv_neT (a := 121) ht11 (by decide)
    have nht12 := lv_neT (a := 123) ht12 (by decide)
    have nht13 := lv_neT (a := 125) ht13 (by decide)
    exact V_tabOut (tgt := 327) hc d_Request_parseBody_44 (by omega) (by decide) hsD
  refine V_iconst (v := 0) hc d_Request_parseBody_327 (by decide) ?_
  exact V_zret hc hq (by decide) ⟨_, rfl, hw⟩ (by decide) (by decide) d_Request_parseBody_328
set_option maxRecDepth 100000 in
set_option maxHeartbeats 4000000 in
theorem vb_Request_parseBody_28 {E : mm_E} {Z : Int32 → mm_M → Prop} (hc : cx E "EpochServer$Request" c_Request_parseBody 1 (some (.boolean)) rm_Request_parseBody) (hq : cq E rm_Request_parseBody (pI Z))  (v0 : Nat) (s0 : Option Nat) (h : mm_M) (hw : wq_Request_parseBody_28  (mm_ge (eG E)) v0 s0 h Z) : V E 1 0 0 h 28 [(0, va_rf (some v0))] [va_rf (s0)] := by
  unfold wq_Request_parseBody_28 at hw
  refine V_iconst (v := 0) hc d_Request_parseBody_28 (by decide) ?_
  refine V_goto (tgt := 37) hc d_Request_parseBody_29 (by decide) ?_
  refine V_sub (lv' := [(0, va_rf (some v0))]) [0] rfl ?_
  exact vb_Request_parseBody_37 hc hq  _ _ _ _ hw
set_option maxRecDepth 100000 in
set_option maxHeartbeats 4000000 in
theorem vb_Request_parseBody_0 {E : mm_E} {Z : Int32 → mm_M → Prop} (hc : cx E "EpochServer$Request" c_Request_parseBody 1 (some (.boolean)) rm_Request_parseBody) (hq : cq E rm_Request_parseBody (pI Z))  (v0 : Nat) (h : mm_M) (hw : wq_Request_parseBody_0  (mm_ge (eG E)) v0 h Z) : V E 1 0 0 h 0 [(0, va_rf (some v0))] [] := by
  unfold wq_Request_parseBody_0 at hw
  refine V_aload_n hc 0 d_Request_parseBody_0 rfl rfl ?_
  refine V_aload_n hc 0 d_Request_parseBody_1 rfl rfl ?_
  obtain ⟨q1, hw⟩ := hw
  refine V_get (v := .int (mm_I h v0 5)) hc gf_Request_25 rfl q1 rfl d_Request_parseBody_2 ?_
  refine V_bipush (v := 100) hc d_Request_parseBody_5 (by decide) ?_
  refine V_icmp_eq (tgt := 28) hc d_Request_parseBody_7 (by decide) (fun hq1 => ?_) (fun hq1 => ?_)
  · replace hw := hw.1 hq1
    refine V_sub (lv' := [(0, va_rf (some v0))]) [0] rfl ?_
    exact vb_Request_parseBody_28 hc hq  _ _ _ hw
  · replace hw := hw.2 hq1
    refine V_aload_n hc 0 d_Request_parseBody_10 rfl rfl ?_
    refine V_get (v := .int (mm_I h v0 5)) hc gf_Request_25 rfl q1 rfl d_Request_parseBody_11 ?_
    refine V_bipush (v := 102) hc d_Request_parseBody_14 (by decide) ?_
    refine V_icmp_eq (tgt := 28) hc d_Request_parseBody_16 (by decide) (fun hq1 => ?_) (fun hq1 => ?_)
    · replace hw := hw.1 hq1
      refine V_sub (lv' := [(0, va_rf (some v0))]) [0] rfl ?_
      exact vb_Request_parseBody_28 hc hq  _ _ _ hw
    · replace hw := hw.2 hq1
      refine V_aload_n hc 0 d_Request_parseBody_19 rfl rfl ?_
      refine V_get (v := .int (mm_I h v0 5)) hc gf_Request_25 rfl q1 rfl d_Request_parseBody_20 ?_
      refine V_bipush (v := 108) hc d_Request_parseBody_23 (by decide) ?_
      refine V_icmp_ne (tgt := 32) hc d_Request_parseBody_25 (by decide) (fun hq1 => ?_) (fun hq1 => ?_)
      · replace hw := hw.1 hq1
        refine V_aload_n hc 0 d_Request_parseBody_32 rfl rfl ?_
        refine V_iconst (v := 4) hc d_Request_parseBody_33 (by decide) ?_
        refine V_callV (rm' := rm_Request_number) (As := [.int (4)]) (rest := [va_rf (some v0)]) (n := 1) (cn := 8) hc rfl q1 (sat_Request_number (eG E) _ _ _ _ hw) rfl cv_Request_66 (gw_of (tw_2 (List.mem_of_getElem? (i := 187) rfl)) rfl) ss_Request_number rfl ⟨by decide, by decide⟩ (by decide) (by decide) rfl (by simp [cat_rf, cat_i, cat_l]) d_Request_parseBody_34 (fun r0 h2 hw => ?_)
        obtain ⟨r3, rfl, hw⟩ := hw
        refine V_wide (cs' := 0) (sl' := 0) (by decide) (by decide) ?_
        refine V_st (st' := [.int (r3), va_rf (some v0)]) rfl ?_
        refine V_sub (lv' := [(0, va_rf (some v0))]) [0] rfl ?_
        exact vb_Request_parseBody_37 hc hq  _ _ _ _ hw
      · replace hw := hw.2 hq1
        refine V_sub (lv' := [(0, va_rf (some v0))]) [0] rfl ?_
        exact vb_Request_parseBody_28 hc hq  _ _ _ hw
def wq_Request_parseBody (ge : Nat → Nat) (v0 : Nat) (h : mm_M) (Z : Int32 → mm_M → Prop) : Prop := wq_Request_parseBody_0 ge v0 h Z
theorem sat_Request_parseBody (G : mm_G) (v0 : Nat) (h : mm_M) (Z : Int32 → mm_M → Prop) (hw : wq_Request_parseBody (mm_ge G) v0 h Z) : mm_Met G y_Request_parseBody c_Request_parseBody 1 (some (.boolean)) rm_Request_parseBody [va_rf (some v0)] h (pI Z) := by
  refine mm_intro (own := "EpochServer$Request") (by decide) rfl (by simp [lg_sl, cat_rf, cat_i, cat_l]) (fun E e1 hc hq hi => ?_)
  subst e1
  have e2 : lv_args 0 [va_rf (some v0)] = [(0, va_rf (some v0))] := by simp [lv_args, cat_rf, cat_i, cat_l]
  rw [e2]
  refine V_sub (lv' := [(0, va_rf (some v0))]) [0] rfl ?_
  exact vb_Request_parseBody_0 hc hq v0 h hw
/-! Request.parse(I)Z -/
abbrev rm_Request_parse : Room := { frames := 6, cells := 0, slots := 0, locals := 131 }
def wq_Request_parse_51  (ge : Nat → Nat)  (h : mm_M) (Z : Int32 → mm_M → Prop) : Prop :=
  Z (0) h
def wq_Request_parse_83  (ge : Nat → Nat) (s0 : Int32) (h : mm_M) (Z : Int32 → mm_M → Prop) : Prop :=
  ((s0) = 0 ∨ (s0) = 1) ∧ Z (s0) h
def wq_Request_parse_82  (ge : Nat → Nat)  (h : mm_M) (Z : Int32 → mm_M → Prop) : Prop :=
  wq_Request_parse_83  ge (0) h Z
def wq_Request_parse_0  (ge : Nat → Nat) (v0 : Nat) (v1 : Int32) (h : mm_M) (Z : Int32 → mm_M → Prop) : Prop :=
  mm_k h (v0) = kd_Request ∧ ge 0 ≤ v0 ∧ ∀ h3 : mm_M, h3 = mm_uI h (v0) 1 (v1) → mm_k h3 (v0) = kd_Request ∧ ge 0 ≤ v0 ∧ ∀ h6 : mm_M, h6 = mm_uI h3 (v0) 2 (0) → mm_k h6 (v0) = kd_Request ∧ ge 0 ≤ v0 ∧ ∀ h9 : mm_M, h9 = mm_uI h6 (v0) 3 (1) → mm_k h9 (v0) = kd_Request ∧ wq_Request_number ge (v0) (4) h9 (fun (r12 : Int32) (h11 : mm_M) => mm_k h11 (v0) = kd_Request ∧ wq_Request_number ge (v0) (1) h11 (fun (r15 : Int32) (h14 : mm_M) => mm_k h14 (v0) = kd_Request ∧ ge 0 ≤ v0 ∧ ∀ h18 : mm_M, h18 = mm_uI h14 (v0) 5 (r15) → mm_k h18 (v0) = kd_Request ∧ wq_Request_number ge (v0) (2) h18 (fun (r21 : Int32) (h20 : mm_M) => mm_k h20 (v0) = kd_Request ∧ ge 0 ≤ v0 ∧ ∀ h24 : mm_M, h24 = mm_uI h20 (v0) 6 (r21) → ((¬ (r12 : Int32) = (v1 : Int32) → wq_Request_parse_51  ge h24 Z) ∧ ((r12 : Int32) = (v1 : Int32) → mm_k h24 (v0) = kd_Request ∧ ((¬ (mm_I h24 v0 3) = 0 → wq_Request_parseBody ge (v0) h24 (fun (r27 : Int32) (h26 : mm_M) => (((r27) = 0 → wq_Request_parse_82  ge h26 Z) ∧ (¬ (r27) = 0 → mm_k h26 (v0) = kd_Request ∧ (((mm_I h26 v0 3) = 0 → wq_Request_parse_82  ge h26 Z) ∧ (¬ (mm_I h26 v0 3) = 0 → ((¬ (mm_I h26 v0 2 : Int32) = (mm_I h26 v0 1 : Int32) → wq_Request_parse_82  ge h26 Z) ∧ ((mm_I h26 v0 2 : Int32) = (mm_I h26 v0 1 : Int32) → wq_Request_parse_83  ge (1) h26 Z)))))))) ∧ ((mm_I h24 v0 3) = 0 → wq_Request_parse_51  ge h24 Z)))))))
set_option maxRecDepth 100000 in
set_option maxHeartbeats 4000000 in
theorem vb_Request_parse_51 {E : mm_E} {Z : Int32 → mm_M → Prop} (hc : cx E "EpochServer$Request" c_Request_parse 3 (some (.boolean)) rm_Request_parse) (hq : cq E rm_Request_parse (pI Z))   (h : mm_M) (hw : wq_Request_parse_51  (mm_ge (eG E))  h Z) : V E 3 0 0 h 51 [] [] := by
  unfold wq_Request_parse_51 at hw
  refine V_iconst (v := 0) hc d_Request_parse_51 (by decide) ?_
  exact V_zret hc hq (by decide) ⟨_, rfl, hw⟩ (by decide) (by decide) d_Request_parse_52
set_option maxRecDepth 100000 in
set_option maxHeartbeats 4000000 in
theorem vb_Request_parse_83 {E : mm_E} {Z : Int32 → mm_M → Prop} (hc : cx E "EpochServer$Request" c_Request_parse 3 (some (.boolean)) rm_Request_parse) (hq : cq E rm_Request_parse (pI Z))  (s0 : Int32) (h : mm_M) (hw : wq_Request_parse_83  (mm_ge (eG E)) s0 h Z) : V E 3 0 0 h 83 [] [.int (s0)] := by
  unfold wq_Request_parse_83 at hw
  obtain ⟨q1, hw⟩ := hw
  exact V_zret hc hq (zz_nar q1) ⟨_, rfl, hw⟩ (by decide) (by decide) d_Request_parse_83
set_option maxRecDepth 100000 in
set_option maxHeartbeats 4000000 in
theorem vb_Request_parse_82 {E : mm_E} {Z : Int32 → mm_M → Prop} (hc : cx E "EpochServer$Request" c_Request_parse 3 (some (.boolean)) rm_Request_parse) (hq : cq E rm_Request_parse (pI Z))   (h : mm_M) (hw : wq_Request_parse_82  (mm_ge (eG E))  h Z) : V E 3 0 0 h 82 [] [] := by
  unfold wq_Request_parse_82 at hw
  refine V_iconst (v := 0) hc d_Request_parse_82 (by decide) ?_
  refine V_sub (lv' := []) [] rfl ?_
  exact vb_Request_parse_83 hc hq  _ _ hw
set_option maxRecDepth 100000 in
set_option maxHeartbeats 4000000 in
theorem vb_Request_parse_0 {E : mm_E} {Z : Int32 → mm_M → Prop} (hc : cx E "EpochServer$Request" c_Request_parse 3 (some (.boolean)) rm_Request_parse) (hq : cq E rm_Request_parse (pI Z))  (v0 : Nat) (v1 : Int32) (h : mm_M) (hw : wq_Request_parse_0  (mm_ge (eG E)) v0 v1 h Z) : V E 3 0 0 h 0 [(0, va_rf (some v0)), (1, .int (v1))] [] := by
  unfold wq_Request_parse_0 at hw
  refine V_aload_n hc 0 d_Request_parse_0 rfl rfl ?_
  refine V_iload_n hc 1 d_Request_parse_1 rfl rfl ?_
  obtain ⟨q1, hw⟩ := hw
  obtain ⟨q2, hw⟩ := hw
  obtain ⟨h3, eq_h3⟩ : ∃ x, x = mm_uI h (v0) 1 (v1) := ⟨_, rfl⟩
  replace hw := hw _ eq_h3
  refine V_put (h' := h3) hc gf_Request_9 rfl rfl q1 q2 (by rw [eq_h3]; exact mm_Up_I _ _ _ _) (by rw [eq_h3]; exact up_vI rfl) (vp_nar_int _) rfl d_Request_parse_2 ?_
  refine V_aload_n hc 0 d_Request_parse_5 rfl rfl ?_
  refine V_iconst (v := 0) hc d_Request_parse_6 (by decide) ?_
  obtain ⟨q4, hw⟩ := hw
  obtain ⟨q5, hw⟩ := hw
  obtain ⟨h6, eq_h6⟩ : ∃ x, x = mm_uI h3 (v0) 2 (0) := ⟨_, rfl⟩
  replace hw := hw _ eq_h6
  refine V_put (h' := h6) hc gf_Request_15 rfl rfl q4 q5 (by rw [eq_h6]; exact mm_Up_I _ _ _ _) (by rw [eq_h6]; exact up_vI rfl) (vp_nar_int _) rfl d_Request_parse_7 ?_
  refine V_aload_n hc 0 d_Request_parse_10 rfl rfl ?_
  refine V_iconst (v := 1) hc d_Request_parse_11 (by decide) ?_
  obtain ⟨q7, hw⟩ := hw
  obtain ⟨q8, hw⟩ := hw
  obtain ⟨h9, eq_h9⟩ : ∃ x, x = mm_uI h6 (v0) 3 (1) := ⟨_, rfl⟩
  replace hw := hw _ eq_h9
  refine V_put (h' := h9) hc gf_Request_18 rfl rfl q7 q8 (by rw [eq_h9]; exact mm_Up_I _ _ _ _) (by rw [eq_h9]; exact up_vI rfl) (by decide) (by decide) d_Request_parse_12 ?_
  refine V_aload_n hc 0 d_Request_parse_15 rfl rfl ?_
  refine V_iconst (v := 4) hc d_Request_parse_16 (by decide) ?_
  obtain ⟨q10, hw⟩ := hw
  refine V_callV (rm' := rm_Request_number) (As := [.int (4)]) (rest := []) (n := 1) (cn := 8) hc rfl q10 (sat_Request_number (eG E) _ _ _ _ hw) rfl cv_Request_66 (gw_of (tw_2 (List.mem_of_getElem? (i := 187) rfl)) rfl) ss_Request_number rfl ⟨by decide, by decide⟩ (by decide) (by decide) rfl (by simp [cat_rf, cat_i, cat_l]) d_Request_parse_17 (fun r0 h11 hw => ?_)
  obtain ⟨r12, rfl, hw⟩ := hw
  refine V_wide (cs' := 0) (sl' := 0) (by decide) (by decide) ?_
  refine V_st (st' := [.int (r12)]) rfl ?_
  refine V_istore_n (i := 2) (lv' := [(2, .int (r12)), (0, va_rf (some v0)), (1, .int (v1))]) hc d_Request_parse_20 rfl (by decide) rfl ?_
  refine V_aload_n hc 1 d_Request_parse_21 rfl rfl ?_
  refine V_aload_n hc 1 d_Request_parse_22 rfl rfl ?_
  refine V_iconst (v := 1) hc d_Request_parse_23 (by decide) ?_
  obtain ⟨q13, hw⟩ := hw
  refine V_callV (rm' := rm_Request_number) (As := [.int (1)]) (rest := [va_rf (some v0)]) (n := 1) (cn := 8) hc rfl q13 (sat_Request_number (eG E) _ _ _ _ hw) rfl cv_Request_66 (gw_of (tw_2 (List.mem_of_getElem? (i := 187) rfl)) rfl) ss_Request_number rfl ⟨by decide, by decide⟩ (by decide) (by decide) rfl (by simp [cat_rf, cat_i, cat_l]) d_Request_parse_24 (fun r0 h14 hw => ?_)
  obtain ⟨r15, rfl, hw⟩ := hw
  refine V_wide (cs' := 0) (sl' := 0) (by decide) (by decide) ?_
  refine V_st (st' := [.int (r15), va_rf (some v0)]) rfl ?_
  obtain ⟨q16, hw⟩ := hw
  obtain ⟨q17, hw⟩ := hw
  obtain ⟨h18, eq_h18⟩ : ∃ x, x = mm_uI h14 (v0) 5 (r15) := ⟨_, rfl⟩
  replace hw := hw _ eq_h18
  refine V_put (h' := h18) hc gf_Request_25 rfl rfl q16 q17 (by rw [eq_h18]; exact mm_Up_I _ _ _ _) (by rw [eq_h18]; exact up_vI rfl) (vp_nar_int _) rfl d_Request_parse_27 ?_
  refine V_aload_n hc 1 d_Request_parse_30 rfl rfl ?_
  refine V_aload_n hc 1 d_Request_parse_31 rfl rfl ?_
  refine V_iconst (v := 2) hc d_Request_parse_32 (by decide) ?_
  obtain ⟨q19, hw⟩ := hw
  refine V_callV (rm' := rm_Request_number) (As := [.int (2)]) (rest := [va_rf (some v0)]) (n := 1) (cn := 8) hc rfl q19 (sat_Request_number (eG E) _ _ _ _ hw) rfl cv_Request_66 (gw_of (tw_2 (List.mem_of_getElem? (i := 187) rfl)) rfl) ss_Request_number rfl ⟨by decide, by decide⟩ (by decide) (by decide) rfl (by simp [cat_rf, cat_i, cat_l]) d_Request_parse_33 (fun r0 h20 hw => ?_)
  obtain ⟨r21, rfl, hw⟩ := hw
  refine V_wide (cs' := 0) (sl' := 0) (by decide) (by decide) ?_
  refine V_st (st' := [.int (r21), va_rf (some v0)]) rfl ?_
  obtain ⟨q22, hw⟩ := hw
  obtain ⟨q23, hw⟩ := hw
  obtain ⟨h24, eq_h24⟩ : ∃ x, x = mm_uI h20 (v0) 6 (r21) := ⟨_, rfl⟩
  replace hw := hw _ eq_h24
  refine V_put (h' := h24) hc gf_Request_28 rfl rfl q22 q23 (by rw [eq_h24]; exact mm_Up_I _ _ _ _) (by rw [eq_h24]; exact up_vI rfl) (vp_nar_int _) rfl d_Request_parse_36 ?_
  refine V_iload_n hc 0 d_Request_parse_39 rfl rfl ?_
  refine V_iload_n hc 2 d_Request_parse_40 rfl rfl ?_
  refine V_icmp_ne (tgt := 51) hc d_Request_parse_41 (by decide) (fun hq1 => ?_) (fun hq1 => ?_)
  · replace hw := hw.1 hq1
    refine V_sub (lv' := []) [] rfl ?_
    exact vb_Request_parse_51 hc hq  _ hw
  · replace hw := hw.2 hq1
    refine V_aload_n hc 1 d_Request_parse_44 rfl rfl ?_
    obtain ⟨q25, hw⟩ := hw
    refine V_get (v := .int (mm_I h24 v0 3)) hc gf_Request_18 rfl q25 rfl d_Request_parse_45 ?_
    refine V_if_ne (tgt := 53) hc d_Request_parse_48 (by decide) (fun hq1 => ?_) (fun hq1 => ?_)
    · replace hw := hw.1 hq1
      refine V_aload_n hc 1 d_Request_parse_53 rfl rfl ?_
      refine V_callV (rm' := rm_Request_parseBody) (As := []) (rest := []) (n := 0) (cn := 8) hc rfl q25 (sat_Request_parseBody (eG E) _ _ _ hw) rfl cv_Request_70 (gw_of (tw_2 (List.mem_of_getElem? (i := 196) rfl)) rfl) ss_Request_parseBody rfl ⟨by decide, by decide⟩ (by decide) (by decide) rfl (by simp [cat_rf, cat_i, cat_l]) d_Request_parse_54 (fun r0 h26 hw => ?_)
      obtain ⟨r27, rfl, hw⟩ := hw
      refine V_wide (cs' := 0) (sl' := 0) (by decide) (by decide) ?_
      refine V_st (st' := [.int (r27)]) rfl ?_
      refine V_if_eq (tgt := 82) hc d_Request_parse_57 (by decide) (fun hq1 => ?_) (fun hq1 => ?_)
      · replace hw := hw.1 hq1
        refine V_sub (lv' := []) [] rfl ?_
        exact vb_Request_parse_82 hc hq  _ hw
      · replace hw := hw.2 hq1
        refine V_aload_n hc 1 d_Request_parse_60 rfl rfl ?_
        obtain ⟨q28, hw⟩ := hw
        refine V_get (v := .int (mm_I h26 v0 3)) hc gf_Request_18 rfl q28 rfl d_Request_parse_61 ?_
        refine V_if_eq (tgt := 82) hc d_Request_parse_64 (by decide) (fun hq1 => ?_) (fun hq1 => ?_)
        · replace hw := hw.1 hq1
          refine V_sub (lv' := []) [] rfl ?_
          exact vb_Request_parse_82 hc hq  _ hw
        · replace hw := hw.2 hq1
          refine V_aload_n hc 1 d_Request_parse_67 rfl rfl ?_
          refine V_get (v := .int (mm_I h26 v0 2)) hc gf_Request_15 rfl q28 rfl d_Request_parse_68 ?_
          refine V_aload_n hc 1 d_Request_parse_71 rfl rfl ?_
          refine V_get (v := .int (mm_I h26 v0 1)) hc gf_Request_9 rfl q28 rfl d_Request_parse_72 ?_
          refine V_icmp_ne (tgt := 82) hc d_Request_parse_75 (by decide) (fun hq1 => ?_) (fun hq1 => ?_)
          · replace hw := hw.1 hq1
            refine V_sub (lv' := []) [] rfl ?_
            exact vb_Request_parse_82 hc hq  _ hw
          · replace hw := hw.2 hq1
            refine V_iconst (v := 1) hc d_Request_parse_78 (by decide) ?_
            refine V_goto (tgt := 83) hc d_Request_parse_79 (by decide) ?_
            refine V_sub (lv' := []) [] rfl ?_
            exact vb_Request_parse_83 hc hq  _ _ hw
    · replace hw := hw.2 hq1
      refine V_sub (lv' := []) [] rfl ?_
      exact vb_Request_parse_51 hc hq  _ hw
def wq_Request_parse (ge : Nat → Nat) (v0 : Nat) (v1 : Int32) (h : mm_M) (Z : Int32 → mm_M → Prop) : Prop := wq_Request_parse_0 ge v0 v1 h Z
theorem sat_Request_parse (G : mm_G) (v0 : Nat) (v1 : Int32) (h : mm_M) (Z : Int32 → mm_M → Prop) (hw : wq_Request_parse (mm_ge G) v0 v1 h Z) : mm_Met G y_Request_parse c_Request_parse 3 (some (.boolean)) rm_Request_parse [va_rf (some v0), .int (v1)] h (pI Z) := by
  refine mm_intro (own := "EpochServer$Request") (by decide) rfl (by simp [lg_sl, cat_rf, cat_i, cat_l]) (fun E e1 hc hq hi => ?_)
  subst e1
  have e2 : lv_args 0 [va_rf (some v0), .int (v1)] = [(0, va_rf (some v0)), (1, .int (v1))] := by simp [lv_args, cat_rf, cat_i, cat_l]
  rw [e2]
  refine V_sub (lv' := [(0, va_rf (some v0)), (1, .int (v1))]) [0, 1] rfl ?_
  exact vb_Request_parse_0 hc hq v0 v1 h hw
/-! Request.toFirstName()V -/
abbrev rm_Request_toFirstName : Room := { frames := 0, cells := 0, slots := 0, locals := 0 }
def wq_Request_toFirstName_0  (ge : Nat → Nat) (v0 : Nat) (h : mm_M) (Z : mm_M → Prop) : Prop :=
  mm_k h (v0) = kd_Request ∧ ge 0 ≤ v0 ∧ ∀ h3 : mm_M, h3 = mm_uI h (v0) 2 (mm_I h v0 4) → Z h3
set_option maxRecDepth 100000 in
set_option maxHeartbeats 4000000 in
theorem vb_Request_toFirstName_0 {E : mm_E} {Z : mm_M → Prop} (hc : cx E "EpochServer$Request" c_Request_toFirstName 1 none rm_Request_toFirstName) (hq : cq E rm_Request_toFirstName (pV Z))  (v0 : Nat) (h : mm_M) (hw : wq_Request_toFirstName_0  (mm_ge (eG E)) v0 h Z) : V E 1 0 0 h 0 [(0, va_rf (some v0))] [] := by
  unfold wq_Request_toFirstName_0 at hw
  refine V_aload_n hc 0 d_Request_toFirstName_0 rfl rfl ?_
  refine V_aload_n hc 0 d_Request_toFirstName_1 rfl rfl ?_
  obtain ⟨q1, hw⟩ := hw
  refine V_get (v := .int (mm_I h v0 4)) hc gf_Request_22 rfl q1 rfl d_Request_toFirstName_2 ?_
  obtain ⟨q2, hw⟩ := hw
  obtain ⟨h3, eq_h3⟩ : ∃ x, x = mm_uI h (v0) 2 (mm_I h v0 4) := ⟨_, rfl⟩
  replace hw := hw _ eq_h3
  refine V_put (h' := h3) hc gf_Request_15 rfl rfl q1 q2 (by rw [eq_h3]; exact mm_Up_I _ _ _ _) (by rw [eq_h3]; exact up_vI rfl) (vp_nar_int _) rfl d_Request_toFirstName_5 ?_
  exact V_vret hc hq ⟨rfl, hw⟩ (by decide) (by decide) d_Request_toFirstName_8
def wq_Request_toFirstName (ge : Nat → Nat) (v0 : Nat) (h : mm_M) (Z : mm_M → Prop) : Prop := wq_Request_toFirstName_0 ge v0 h Z
theorem sat_Request_toFirstName (G : mm_G) (v0 : Nat) (h : mm_M) (Z : mm_M → Prop) (hw : wq_Request_toFirstName (mm_ge G) v0 h Z) : mm_Met G y_Request_toFirstName c_Request_toFirstName 1 none rm_Request_toFirstName [va_rf (some v0)] h (pV Z) := by
  refine mm_intro (own := "EpochServer$Request") (by decide) rfl (by simp [lg_sl, cat_rf, cat_i, cat_l]) (fun E e1 hc hq hi => ?_)
  subst e1
  have e2 : lv_args 0 [va_rf (some v0)] = [(0, va_rf (some v0))] := by simp [lv_args, cat_rf, cat_i, cat_l]
  rw [e2]
  refine V_sub (lv' := [(0, va_rf (some v0))]) [0] rfl ?_
  exact vb_Request_toFirstName_0 hc hq v0 h hw
