/-! Store.<init>()V -/
abbrev rm_Store_init : Room := { frames := 1, cells := 1, slots := 3000, locals := 24 }
def wq_Store_init_0  (ge : Nat → Nat) (v0 : Nat) (h : mm_M) (Z : mm_M → Prop) : Prop :=
  mm_k h (v0) = kd_Store ∧ ge 0 ≤ v0 ∧ ∀ h3 : mm_M, h3 = mm_uI h (v0) 0 (0) → mm_k h3 (v0) = kd_Store ∧ ge 0 ≤ v0 ∧ ∀ h6 : mm_M, h6 = mm_uI h3 (v0) 1 (0) → ∀ h7 : mm_M, h7 = mm_nw h6 100 3000 → ∀ a8 : Nat, a8 = mm_z h6 → mm_k h7 (v0) = kd_Store ∧ ge 0 ≤ v0 ∧ ∀ h11 : mm_M, h11 = mm_uP h7 (v0) 2 (some a8) → Z h11
set_option maxRecDepth 100000 in
set_option maxHeartbeats 4000000 in
theorem vb_Store_init_0 {E : mm_E} {Z : mm_M → Prop} (hc : cx E "EpochServer$Store" c_Store_init 1 none rm_Store_init) (hq : cq E rm_Store_init (pV Z)) (hin : ci E)  (v0 : Nat) (h : mm_M) (hw : wq_Store_init_0  (mm_ge (eG E)) v0 h Z) : V E 1 0 0 h 0 [(0, va_rf (some v0))] [] := by
  unfold wq_Store_init_0 at hw
  refine V_aload_n hc 0 d_Store_init_0 rfl rfl ?_
  refine V_objInit hc rfl (gw_of (tw_1 (List.mem_of_getElem? (i := 237) rfl)) rfl) (gw_of (tw_1 (List.mem_of_getElem? (i := 27) rfl)) rfl) (gw_of (tw_1 (List.mem_of_getElem? (i := 28) rfl)) rfl) d_Store_init_1 (by decide) (by decide) ?_
  refine V_aload_n hc 0 d_Store_init_4 rfl rfl ?_
  refine V_iconst (v := 0) hc d_Store_init_5 (by decide) ?_
  obtain ⟨q1, hw⟩ := hw
  obtain ⟨q2, hw⟩ := hw
  obtain ⟨h3, eq_h3⟩ : ∃ x, x = mm_uI h (v0) 0 (0) := ⟨_, rfl⟩
  replace hw := hw _ eq_h3
  refine V_put (h' := h3) hc gf_Store_9 rfl rfl q1 q2 (by rw [eq_h3]; exact mm_Up_I _ _ _ _) (by rw [eq_h3]; exact up_vI rfl) (vp_nar_int _) rfl d_Store_init_6 ?_
  refine V_aload_n hc 0 d_Store_init_9 rfl rfl ?_
  refine V_iconst (v := 0) hc d_Store_init_10 (by decide) ?_
  obtain ⟨q4, hw⟩ := hw
  obtain ⟨q5, hw⟩ := hw
  obtain ⟨h6, eq_h6⟩ : ∃ x, x = mm_uI h3 (v0) 1 (0) := ⟨_, rfl⟩
  replace hw := hw _ eq_h6
  refine V_put (h' := h6) hc gf_Store_15 rfl rfl q4 q5 (by rw [eq_h6]; exact mm_Up_I _ _ _ _) (by rw [eq_h6]; exact up_vI rfl) (vp_nar_int _) rfl d_Store_init_11 ?_
  refine V_aload_n hc 0 d_Store_init_14 rfl rfl ?_
  refine V_sipush (v := 3000) hc d_Store_init_15 (by decide) ?_
  obtain ⟨h7, eq_h7⟩ : ∃ x, x = mm_nw h6 100 3000 := ⟨_, rfl⟩
  replace hw := hw _ eq_h7
  refine V_newa (t := 0) (N := 3000) (ty := .int) hc rfl rfl (fun _ q => q) (gw_of (tw_1 (List.mem_of_getElem? (i := 224) rfl)) rfl) (by decide) (by decide) (by decide) (by decide) (by decide) (by decide) (by decide) d_Store_init_18 ?_
  rw [← eq_h7]
  obtain ⟨a8, eq_a8⟩ : ∃ x, x = mm_z h6 := ⟨_, rfl⟩
  replace hw := hw _ eq_a8
  rw [← eq_a8]
  refine V_wide (cs' := 1) (sl' := 3000) (by decide) (by decide) ?_
  obtain ⟨q9, hw⟩ := hw
  obtain ⟨q10, hw⟩ := hw
  obtain ⟨h11, eq_h11⟩ : ∃ x, x = mm_uP h7 (v0) 2 (some a8) := ⟨_, rfl⟩
  replace hw := hw _ eq_h11
  refine V_putF (h' := h11) hc hin rfl (fun r hr => by cases hr; rfl) gf_Store_18 rfl rfl q9 q10 (by rw [eq_h11]; exact mm_Up_P _ _ _ _) (by rw [eq_h11]; exact up_vP rfl) (pa_nar _) (pa_fit _) d_Store_init_20 ?_
  exact V_vret hc hq ⟨rfl, hw⟩ (by decide) (by decide) d_Store_init_23
def wq_Store_init (ge : Nat → Nat) (v0 : Nat) (h : mm_M) (Z : mm_M → Prop) : Prop := wq_Store_init_0 ge v0 h Z
theorem sat_Store_init (G : mm_G) (v0 : Nat) (h : mm_M) (Z : mm_M → Prop) (hw : wq_Store_init (mm_ge G) v0 h Z) : mm_Met G y_Store_init c_Store_init 1 none rm_Store_init [va_rf (some v0)] h (pV Z) := by
  refine mm_intro (own := "EpochServer$Store") (by decide) rfl (by simp [lg_sl, cat_rf, cat_i, cat_l]) (fun E e1 hc hq hi => ?_)
  subst e1
  have e2 : lv_args 0 [va_rf (some v0)] = [(0, va_rf (some v0))] := by simp [lv_args, cat_rf, cat_i, cat_l]
  rw [e2]
  refine V_sub (lv' := [(0, va_rf (some v0))]) [0] rfl ?_
  exact vb_Store_init_0 hc hq (hi rfl) v0 h hw
/-! Sha.<init>()V -/
abbrev rm_Sha_init : Room := { frames := 1, cells := 2, slots := 85, locals := 24 }
def wq_Sha_init_0  (ge : Nat → Nat) (v0 : Nat) (h : mm_M) (Z : mm_M → Prop) : Prop :=
  ∀ h1 : mm_M, h1 = mm_nw h 100 5 → ∀ a2 : Nat, a2 = mm_z h → mm_k h1 (v0) = kd_Sha ∧ ge 0 ≤ v0 ∧ ∀ h5 : mm_M, h5 = mm_uP h1 (v0) 0 (some a2) → ∀ h6 : mm_M, h6 = mm_nw h5 100 80 → ∀ a7 : Nat, a7 = mm_z h5 → mm_k h6 (v0) = kd_Sha ∧ ge 0 ≤ v0 ∧ ∀ h10 : mm_M, h10 = mm_uP h6 (v0) 1 (some a7) → Z h10
set_option maxRecDepth 100000 in
set_option maxHeartbeats 4000000 in
theorem vb_Sha_init_0 {E : mm_E} {Z : mm_M → Prop} (hc : cx E "EpochServer$Sha" c_Sha_init 1 none rm_Sha_init) (hq : cq E rm_Sha_init (pV Z)) (hin : ci E)  (v0 : Nat) (h : mm_M) (hw : wq_Sha_init_0  (mm_ge (eG E)) v0 h Z) : V E 1 0 0 h 0 [(0, va_rf (some v0))] [] := by
  unfold wq_Sha_init_0 at hw
  refine V_aload_n hc 0 d_Sha_init_0 rfl rfl ?_
  refine V_objInit hc rfl (gw_of (tw_2 (List.mem_of_getElem? (i := 17) rfl)) rfl) (gw_of (tw_1 (List.mem_of_getElem? (i := 27) rfl)) rfl) (gw_of (tw_1 (List.mem_of_getElem? (i := 28) rfl)) rfl) d_Sha_init_1 (by decide) (by decide) ?_
  refine V_aload_n hc 0 d_Sha_init_4 rfl rfl ?_
  refine V_iconst (v := 5) hc d_Sha_init_5 (by decide) ?_
  obtain ⟨h1, eq_h1⟩ : ∃ x, x = mm_nw h 100 5 := ⟨_, rfl⟩
  replace hw := hw _ eq_h1
  refine V_newa (t := 0) (N := 5) (ty := .int) hc rfl rfl (fun _ q => q) (gw_of (tw_1 (List.mem_of_getElem? (i := 224) rfl)) rfl) (by decide) (by decide) (by decide) (by decide) (by decide) (by decide) (by decide) d_Sha_init_6 ?_
  rw [← eq_h1]
  obtain ⟨a2, eq_a2⟩ : ∃ x, x = mm_z h := ⟨_, rfl⟩
  replace hw := hw _ eq_a2
  rw [← eq_a2]
  refine V_wide (cs' := 1) (sl' := 5) (by decide) (by decide) ?_
  obtain ⟨q3, hw⟩ := hw
  obtain ⟨q4, hw⟩ := hw
  obtain ⟨h5, eq_h5⟩ : ∃ x, x = mm_uP h1 (v0) 0 (some a2) := ⟨_, rfl⟩
  replace hw := hw _ eq_h5
  refine V_putF (h' := h5) hc hin rfl (fun r hr => by cases hr; rfl) gf_Sha_9 rfl rfl q3 q4 (by rw [eq_h5]; exact mm_Up_P _ _ _ _) (by rw [eq_h5]; exact up_vP rfl) (pa_nar _) (pa_fit _) d_Sha_init_8 ?_
  refine V_aload_n hc 0 d_Sha_init_11 rfl rfl ?_
  refine V_bipush (v := 80) hc d_Sha_init_12 (by decide) ?_
  obtain ⟨h6, eq_h6⟩ : ∃ x, x = mm_nw h5 100 80 := ⟨_, rfl⟩
  replace hw := hw _ eq_h6
  refine V_newa (t := 0) (N := 80) (ty := .int) hc rfl rfl (fun _ q => q) (gw_of (tw_1 (List.mem_of_getElem? (i := 224) rfl)) rfl) (by decide) (by decide) (by decide) (by decide) (by decide) (by decide) (by decide) d_Sha_init_14 ?_
  rw [← eq_h6]
  obtain ⟨a7, eq_a7⟩ : ∃ x, x = mm_z h5 := ⟨_, rfl⟩
  replace hw := hw _ eq_a7
  rw [← eq_a7]
  refine V_wide (cs' := 2) (sl' := 85) (by decide) (by decide) ?_
  obtain ⟨q8, hw⟩ := hw
  obtain ⟨q9, hw⟩ := hw
  obtain ⟨h10, eq_h10⟩ : ∃ x, x = mm_uP h6 (v0) 1 (some a7) := ⟨_, rfl⟩
  replace hw := hw _ eq_h10
  refine V_putF (h' := h10) hc hin rfl (fun r hr => by cases hr; rfl) gf_Sha_15 rfl rfl q8 q9 (by rw [eq_h10]; exact mm_Up_P _ _ _ _) (by rw [eq_h10]; exact up_vP rfl) (pa_nar _) (pa_fit _) d_Sha_init_16 ?_
  exact V_vret hc hq ⟨rfl, hw⟩ (by decide) (by decide) d_Sha_init_19
def wq_Sha_init (ge : Nat → Nat) (v0 : Nat) (h : mm_M) (Z : mm_M → Prop) : Prop := wq_Sha_init_0 ge v0 h Z
theorem sat_Sha_init (G : mm_G) (v0 : Nat) (h : mm_M) (Z : mm_M → Prop) (hw : wq_Sha_init (mm_ge G) v0 h Z) : mm_Met G y_Sha_init c_Sha_init 1 none rm_Sha_init [va_rf (some v0)] h (pV Z) := by
  refine mm_intro (own := "EpochServer$Sha") (by decide) rfl (by simp [lg_sl, cat_rf, cat_i, cat_l]) (fun E e1 hc hq hi => ?_)
  subst e1
  have e2 : lv_args 0 [va_rf (some v0)] = [(0, va_rf (some v0))] := by simp [lv_args, cat_rf, cat_i, cat_l]
  rw [e2]
  refine V_sub (lv' := [(0, va_rf (some v0))]) [0] rfl ?_
  exact vb_Sha_init_0 hc hq (hi rfl) v0 h hw
/-! Bytes.<init>(I)V -/
abbrev rm_Bytes_init : Room := { frames := 1, cells := 1, slots := 5520, locals := 24 }
def wq_Bytes_init_0  (ge : Nat → Nat) (v0 : Nat) (v1 : Int32) (h : mm_M) (Z : mm_M → Prop) : Prop :=
  mm_k h (v0) = kd_Bytes ∧ ge 0 ≤ v0 ∧ ∀ h3 : mm_M, h3 = mm_uI h (v0) 1 (0) → ¬ (if (0 : Int32) < (v1) then (v1) else (0)) < 0 ∧ Int32.toNatClampNeg (if (0 : Int32) < (v1) then (v1) else (0)) ≤ 5520 ∧ ∀ h6 : mm_M, h6 = mm_nw h3 101 (Int32.toNatClampNeg (if (0 : Int32) < (v1) then (v1) else (0))) → ∀ a7 : Nat, a7 = mm_z h3 → mm_k h6 (v0) = kd_Bytes ∧ ge 0 ≤ v0 ∧ ∀ h10 : mm_M, h10 = mm_uP h6 (v0) 0 (some a7) → Z h10
set_option maxRecDepth 100000 in
set_option maxHeartbeats 4000000 in
theorem vb_Bytes_init_0 {E : mm_E} {Z : mm_M → Prop} (hc : cx E "EpochServer$Bytes" c_Bytes_init 2 none rm_Bytes_init) (hq : cq E rm_Bytes_init (pV Z)) (hin : ci E)  (v0 : Nat) (v1 : Int32) (h : mm_M) (hw : wq_Bytes_init_0  (mm_ge (eG E)) v0 v1 h Z) : V E 2 0 0 h 0 [(0, va_rf (some v0)), (1, .int (v1))] [] := by
  unfold wq_Bytes_init_0 at hw
  refine V_aload_n hc 0 d_Bytes_init_0 rfl rfl ?_
  refine V_objInit hc rfl (gw_of (tw_1 (List.mem_of_getElem? (i := 34) rfl)) rfl) (gw_of (tw_1 (List.mem_of_getElem? (i := 27) rfl)) rfl) (gw_of (tw_1 (List.mem_of_getElem? (i := 28) rfl)) rfl) d_Bytes_init_1 (by decide) (by decide) ?_
  refine V_aload_n hc 0 d_Bytes_init_4 rfl rfl ?_
  refine V_iconst (v := 0) hc d_Bytes_init_5 (by decide) ?_
  obtain ⟨q1, hw⟩ := hw
  obtain ⟨q2, hw⟩ := hw
  obtain ⟨h3, eq_h3⟩ : ∃ x, x = mm_uI h (v0) 1 (0) := ⟨_, rfl⟩
  replace hw := hw _ eq_h3
  refine V_put (h' := h3) hc gf_Bytes_7 rfl rfl q1 q2 (by rw [eq_h3]; exact mm_Up_I _ _ _ _) (by rw [eq_h3]; exact up_vI rfl) (vp_nar_int _) rfl d_Bytes_init_6 ?_
  refine V_aload_n hc 0 d_Bytes_init_9 rfl rfl ?_
  refine V_iconst (v := 0) hc d_Bytes_init_10 (by decide) ?_
  refine V_iload_n hc 1 d_Bytes_init_11 rfl rfl ?_
  refine V_mmax hc cv_Bytes_13 (by simp [cat_rf, cat_i, cat_l]) (by decide) (by decide) (by decide) (by decide) d_Bytes_init_12 ?_
  obtain ⟨q4, q5, hw⟩ := hw
  obtain ⟨h6, eq_h6⟩ : ∃ x, x = mm_nw h3 101 (Int32.toNatClampNeg (if (0 : Int32) < (v1) then (v1) else (0))) := ⟨_, rfl⟩
  replace hw := hw _ eq_h6
  refine V_newa (t := 1) (N := (Int32.toNatClampNeg (if (0 : Int32) < (v1) then (v1) else (0)))) (ty := .byte) hc rfl rfl (fun _ q => q) (gw_of (tw_1 (List.mem_of_getElem? (i := 46) rfl)) rfl) (by decide) (by decide) q4 rfl (by show _ * 1 ≤ _; omega) (by decide) (by show 0 + _ ≤ 5520; omega) d_Bytes_init_15 ?_
  rw [← eq_h6]
  obtain ⟨a7, eq_a7⟩ : ∃ x, x = mm_z h3 := ⟨_, rfl⟩
  replace hw := hw _ eq_a7
  rw [← eq_a7]
  refine V_wide (cs' := 1) (sl' := 5520) (by omega) (by omega) ?_
  obtain ⟨q8, hw⟩ := hw
  obtain ⟨q9, hw⟩ := hw
  obtain ⟨h10, eq_h10⟩ : ∃ x, x = mm_uP h6 (v0) 0 (some a7) := ⟨_, rfl⟩
  replace hw := hw _ eq_h10
  refine V_putF (h' := h10) hc hin rfl (fun r hr => by cases hr; rfl) gf_Bytes_19 rfl rfl q8 q9 (by rw [eq_h10]; exact mm_Up_P _ _ _ _) (by rw [eq_h10]; exact up_vP rfl) (pa_nar _) (pa_fit _) d_Bytes_init_17 ?_
  exact V_vret hc hq ⟨rfl, hw⟩ (by decide) (by decide) d_Bytes_init_20
def wq_Bytes_init (ge : Nat → Nat) (v0 : Nat) (v1 : Int32) (h : mm_M) (Z : mm_M → Prop) : Prop := wq_Bytes_init_0 ge v0 v1 h Z
theorem sat_Bytes_init (G : mm_G) (v0 : Nat) (v1 : Int32) (h : mm_M) (Z : mm_M → Prop) (hw : wq_Bytes_init (mm_ge G) v0 v1 h Z) : mm_Met G y_Bytes_init c_Bytes_init 2 none rm_Bytes_init [va_rf (some v0), .int (v1)] h (pV Z) := by
  refine mm_intro (own := "EpochServer$Bytes") (by decide) rfl (by simp [lg_sl, cat_rf, cat_i, cat_l]) (fun E e1 hc hq hi => ?_)
  subst e1
  have e2 : lv_args 0 [va_rf (some v0), .int (v1)] = [(0, va_rf (some v0)), (1, .int (v1))] := by simp [lv_args, cat_rf, cat_i, cat_l]
  rw [e2]
  refine V_sub (lv' := [(0, va_rf (some v0)), (1, .int (v1))]) [0, 1] rfl ?_
  exact vb_Bytes_init_0 hc hq (hi rfl) v0 v1 h hw
/-! Archiver.<init>()V -/
abbrev rm_Archiver_init : Room := { frames := 2, cells := 8, slots := 8912, locals := 45 }
def wq_Archiver_init_0  (ge : Nat → Nat) (v0 : Nat) (h : mm_M) (Z : mm_M → Prop) : Prop :=
  ∀ h1 : mm_M, h1 = mm_nw h 12 0 → ∀ a2 : Nat, a2 = mm_z h → wq_Store_init ge (a2) h1 (fun h3 : mm_M => mm_k h3 (v0) = kd_Archiver ∧ ge 0 ≤ v0 ∧ ∀ h7 : mm_M, h7 = mm_uP h3 (v0) 0 (some a2) → ∀ h8 : mm_M, h8 = mm_nw h7 10 0 → ∀ a9 : Nat, a9 = mm_z h7 → wq_Sha_init ge (a9) h8 (fun h10 : mm_M => mm_k h10 (v0) = kd_Archiver ∧ ge 0 ≤ v0 ∧ ∀ h14 : mm_M, h14 = mm_uP h10 (v0) 1 (some a9) → ∀ h15 : mm_M, h15 = mm_nw h14 4 0 → ∀ a16 : Nat, a16 = mm_z h14 → wq_Bytes_init ge (a16) (5520) h15 (fun h17 : mm_M => mm_k h17 (v0) = kd_Archiver ∧ ge 0 ≤ v0 ∧ ∀ h21 : mm_M, h21 = mm_uP h17 (v0) 2 (some a16) → ∀ h22 : mm_M, h22 = mm_nw h21 100 300 → ∀ a23 : Nat, a23 = mm_z h21 → mm_k h22 (v0) = kd_Archiver ∧ ge 0 ≤ v0 ∧ ∀ h26 : mm_M, h26 = mm_uP h22 (v0) 3 (some a23) → mm_k h26 (v0) = kd_Archiver ∧ ge 0 ≤ v0 ∧ ∀ h29 : mm_M, h29 = mm_uI h26 (v0) 4 (0) → mm_k h29 (v0) = kd_Archiver ∧ ge 0 ≤ v0 ∧ ∀ h32 : mm_M, h32 = mm_uI h29 (v0) 5 (0) → Z h32)))
set_option maxRecDepth 100000 in
set_option maxHeartbeats 4000000 in
theorem vb_Archiver_init_0 {E : mm_E} {Z : mm_M → Prop} (hc : cx E "EpochServer$Archiver" c_Archiver_init 1 none rm_Archiver_init) (hq : cq E rm_Archiver_init (pV Z)) (hin : ci E)  (v0 : Nat) (h : mm_M) (hw : wq_Archiver_init_0  (mm_ge (eG E)) v0 h Z) : V E 1 0 0 h 0 [(0, va_rf (some v0))] [] := by
  unfold wq_Archiver_init_0 at hw
  refine V_aload_n hc 0 d_Archiver_init_0 rfl rfl ?_
  refine V_objInit hc rfl (gw_of (tw_1 (List.mem_of_getElem? (i := 231) rfl)) rfl) (gw_of (tw_1 (List.mem_of_getElem? (i := 27) rfl)) rfl) (gw_of (tw_1 (List.mem_of_getElem? (i := 28) rfl)) rfl) d_Archiver_init_1 (by decide) (by decide) ?_
  refine V_aload_n hc 0 d_Archiver_init_4 rfl rfl ?_
  obtain ⟨h1, eq_h1⟩ : ∃ x, x = mm_nw h 12 0 := ⟨_, rfl⟩
  replace hw := hw _ eq_h1
  refine V_new (cn := 11) (N := 3) (r := (R_Store, T_Store, 3, t_Store)) hc rfl rfl (gw_of (tw_1 (List.mem_of_getElem? (i := 232) rfl)) rfl) (gw_of (tw_1 (List.mem_of_getElem? (i := 233) rfl)) rfl) (gw_of (tw_1 (List.mem_of_getElem? (i := 11) rfl)) rfl) (by decide) (by decide) (by decide) d_Archiver_init_5 ?_
  rw [← eq_h1]
  obtain ⟨a2, eq_a2⟩ : ∃ x, x = mm_z h := ⟨_, rfl⟩
  replace hw := hw _ eq_a2
  rw [← eq_a2]
  refine V_wide (cs' := 1) (sl' := 3) (by decide) (by decide) ?_
  refine V_dup hc d_Archiver_init_8 (cat_rf _) ?_
  refine V_callIN (rm' := rm_Store_init) (As := []) (rest := [va_rf (some a2), va_rf (some v0)]) (n := 0) hc rfl (sat_Store_init (eG E) _ _ _ hw) cv_Archiver_11 (gw_of (tw_1 (List.mem_of_getElem? (i := 235) rfl)) rfl) rfl rfl ⟨by decide, by decide⟩ (by decide) (by decide) rfl (by simp [cat_rf, cat_i, cat_l]) d_Archiver_init_9 (fun r0 h3 hw => ?_)
  obtain ⟨rfl, hw⟩ := hw
  refine V_wide (cs' := 2) (sl' := 3003) (by decide) (by decide) ?_
  refine V_st (st' := [va_rf (some a2), va_rf (some v0)]) rfl ?_
  obtain ⟨q5, hw⟩ := hw
  obtain ⟨q6, hw⟩ := hw
  obtain ⟨h7, eq_h7⟩ : ∃ x, x = mm_uP h3 (v0) 0 (some a2) := ⟨_, rfl⟩
  replace hw := hw _ eq_h7
  refine V_putF (h' := h7) hc hin rfl (fun r hr => by cases hr; rfl) gf_Archiver_12 rfl rfl q5 q6 (by rw [eq_h7]; exact mm_Up_P _ _ _ _) (by rw [eq_h7]; exact up_vP rfl) (pp_nar _) (pp_fit _) d_Archiver_init_12 ?_
  refine V_aload_n hc 0 d_Archiver_init_15 rfl rfl ?_
  obtain ⟨h8, eq_h8⟩ : ∃ x, x = mm_nw h7 10 0 := ⟨_, rfl⟩
  replace hw := hw _ eq_h8
  refine V_new (cn := 9) (N := 2) (r := (R_Sha, T_Sha, 2, t_Sha)) hc rfl rfl (gw_of (tw_2 (List.mem_of_getElem? (i := 12) rfl)) rfl) (gw_of (tw_2 (List.mem_of_getElem? (i := 13) rfl)) rfl) (gw_of (tw_1 (List.mem_of_getElem? (i := 12) rfl)) rfl) (by decide) (by decide) (by decide) d_Archiver_init_16 ?_
  rw [← eq_h8]
  obtain ⟨a9, eq_a9⟩ : ∃ x, x = mm_z h7 := ⟨_, rfl⟩
  replace hw := hw _ eq_a9
  rw [← eq_a9]
  refine V_wide (cs' := 3) (sl' := 3005) (by decide) (by decide) ?_
  refine V_dup hc d_Archiver_init_19 (cat_rf _) ?_
  refine V_callIN (rm' := rm_Sha_init) (As := []) (rest := [va_rf (some a9), va_rf (some v0)]) (n := 0) hc rfl (sat_Sha_init (eG E) _ _ _ hw) cv_Archiver_20 (gw_of (tw_2 (List.mem_of_getElem? (i := 15) rfl)) rfl) rfl rfl ⟨by decide, by decide⟩ (by decide) (by decide) rfl (by simp [cat_rf, cat_i, cat_l]) d_Archiver_init_20 (fun r0 h10 hw => ?_)
  obtain ⟨rfl, hw⟩ := hw
  refine V_wide (cs' := 5) (sl' := 3090) (by decide) (by decide) ?_
  refine V_st (st' := [va_rf (some a9), va_rf (some v0)]) rfl ?_
  obtain ⟨q12, hw⟩ := hw
  obtain ⟨q13, hw⟩ := hw
  obtain ⟨h14, eq_h14⟩ : ∃ x, x = mm_uP h10 (v0) 1 (some a9) := ⟨_, rfl⟩
  replace hw := hw _ eq_h14
  refine V_putF (h' := h14) hc hin rfl (fun r hr => by cases hr; rfl) gf_Archiver_21 rfl rfl q12 q13 (by rw [eq_h14]; exact mm_Up_P _ _ _ _) (by rw [eq_h14]; exact up_vP rfl) (pp_nar _) (pp_fit _) d_Archiver_init_23 ?_
  refine V_aload_n hc 0 d_Archiver_init_26 rfl rfl ?_
  obtain ⟨h15, eq_h15⟩ : ∃ x, x = mm_nw h14 4 0 := ⟨_, rfl⟩
  replace hw := hw _ eq_h15
  refine V_new (cn := 3) (N := 2) (r := (R_Bytes, T_Bytes, 2, t_Bytes)) hc rfl rfl (gw_of (tw_2 (List.mem_of_getElem? (i := 26) rfl)) rfl) (gw_of (tw_1 (List.mem_of_getElem? (i := 30) rfl)) rfl) (gw_of (tw_1 (List.mem_of_getElem? (i := 2) rfl)) rfl) (by decide) (by decide) (by decide) d_Archiver_init_27 ?_
  rw [← eq_h15]
  obtain ⟨a16, eq_a16⟩ : ∃ x, x = mm_z h14 := ⟨_, rfl⟩
  replace hw := hw _ eq_a16
  rw [← eq_a16]
  refine V_wide (cs' := 6) (sl' := 3092) (by decide) (by decide) ?_
  refine V_dup hc d_Archiver_init_30 (cat_rf _) ?_
  refine V_sipush (v := 5520) hc d_Archiver_init_31 (by decide) ?_
  refine V_callI (rm' := rm_Bytes_init) (As := [.int (5520)]) (rest := [va_rf (some a16), va_rf (some v0)]) (n := 1) hc rfl (sat_Bytes_init (eG E) _ _ _ _ hw) cv_Archiver_27 (gw_of (tw_1 (List.mem_of_getElem? (i := 32) rfl)) rfl) rfl rfl ⟨by decide, by decide⟩ (by decide) (by decide) rfl (by simp [cat_rf, cat_i, cat_l]) d_Archiver_init_34 (fun r0 h17 hw => ?_)
  obtain ⟨rfl, hw⟩ := hw
  refine V_wide (cs' := 7) (sl' := 8612) (by decide) (by decide) ?_
  refine V_st (st' := [va_rf (some a16), va_rf (some v0)]) rfl ?_
  obtain ⟨q19, hw⟩ := hw
  obtain ⟨q20, hw⟩ := hw
  obtain ⟨h21, eq_h21⟩ : ∃ x, x = mm_uP h17 (v0) 2 (some a16) := ⟨_, rfl⟩
  replace hw := hw _ eq_h21
  refine V_putF (h' := h21) hc hin rfl (fun r hr => by cases hr; rfl) gf_Archiver_30 rfl rfl q19 q20 (by rw [eq_h21]; exact mm_Up_P _ _ _ _) (by rw [eq_h21]; exact up_vP rfl) (pp_nar _) (pp_fit _) d_Archiver_init_37 ?_
  refine V_aload_n hc 0 d_Archiver_init_40 rfl rfl ?_
  refine V_sipush (v := 300) hc d_Archiver_init_41 (by decide) ?_
  obtain ⟨h22, eq_h22⟩ : ∃ x, x = mm_nw h21 100 300 := ⟨_, rfl⟩
  replace hw := hw _ eq_h22
  refine V_newa (t := 0) (N := 300) (ty := .int) hc rfl rfl (fun _ q => q) (gw_of (tw_1 (List.mem_of_getElem? (i := 224) rfl)) rfl) (by decide) (by decide) (by decide) (by decide) (by decide) (by decide) (by decide) d_Archiver_init_44 ?_
  rw [← eq_h22]
  obtain ⟨a23, eq_a23⟩ : ∃ x, x = mm_z h21 := ⟨_, rfl⟩
  replace hw := hw _ eq_a23
  rw [← eq_a23]
  refine V_wide (cs' := 8) (sl' := 8912) (by decide) (by decide) ?_
  obtain ⟨q24, hw⟩ := hw
  obtain ⟨q25, hw⟩ := hw
  obtain ⟨h26, eq_h26⟩ : ∃ x, x = mm_uP h22 (v0) 3 (some a23) := ⟨_, rfl⟩
  replace hw := hw _ eq_h26
  refine V_putF (h' := h26) hc hin rfl (fun r hr => by cases hr; rfl) gf_Archiver_34 rfl rfl q24 q25 (by rw [eq_h26]; exact mm_Up_P _ _ _ _) (by rw [eq_h26]; exact up_vP rfl) (pa_nar _) (pa_fit _) d_Archiver_init_46 ?_
  refine V_aload_n hc 0 d_Archiver_init_49 rfl rfl ?_
  refine V_iconst (v := 0) hc d_Archiver_init_50 (by decide) ?_
  obtain ⟨q27, hw⟩ := hw
  obtain ⟨q28, hw⟩ := hw
  obtain ⟨h29, eq_h29⟩ : ∃ x, x = mm_uI h26 (v0) 4 (0) := ⟨_, rfl⟩
  replace hw := hw _ eq_h29
  refine V_put (h' := h29) hc gf_Archiver_38 rfl rfl q27 q28 (by rw [eq_h29]; exact mm_Up_I _ _ _ _) (by rw [eq_h29]; exact up_vI rfl) (by decide) (by decide) d_Archiver_init_51 ?_
  refine V_aload_n hc 0 d_Archiver_init_54 rfl rfl ?_
  refine V_iconst (v := 0) hc d_Archiver_init_55 (by decide) ?_
  obtain ⟨q30, hw⟩ := hw
  obtain ⟨q31, hw⟩ := hw
  obtain ⟨h32, eq_h32⟩ : ∃ x, x = mm_uI h29 (v0) 5 (0) := ⟨_, rfl⟩
  replace hw := hw _ eq_h32
  refine V_put (h' := h32) hc gf_Archiver_42 rfl rfl q30 q31 (by rw [eq_h32]; exact mm_Up_I _ _ _ _) (by rw [eq_h32]; exact up_vI rfl) (by decide) (by decide) d_Archiver_init_56 ?_
  exact V_vret hc hq ⟨rfl, hw⟩ (by decide) (by decide) d_Archiver_init_59
def wq_Archiver_init (ge : Nat → Nat) (v0 : Nat) (h : mm_M) (Z : mm_M → Prop) : Prop := wq_Archiver_init_0 ge v0 h Z
theorem sat_Archiver_init (G : mm_G) (v0 : Nat) (h : mm_M) (Z : mm_M → Prop) (hw : wq_Archiver_init (mm_ge G) v0 h Z) : mm_Met G y_Archiver_init c_Archiver_init 1 none rm_Archiver_init [va_rf (some v0)] h (pV Z) := by
  refine mm_intro (own := "EpochServer$Archiver") (by decide) rfl (by simp [lg_sl, cat_rf, cat_i, cat_l]) (fun E e1 hc hq hi => ?_)
  subst e1
  have e2 : lv_args 0 [va_rf (some v0)] = [(0, va_rf (some v0))] := by simp [lv_args, cat_rf, cat_i, cat_l]
  rw [e2]
  refine V_sub (lv' := [(0, va_rf (some v0))]) [0] rfl ?_
  exact vb_Archiver_init_0 hc hq (hi rfl) v0 h hw
/-! Tree.at(I)LEpochServer$Node; -/
abbrev rm_Tree_at : Room := { frames := 0, cells := 0, slots := 0, locals := 0 }
def wq_Tree_at_20  (ge : Nat → Nat) (s0 : Option Nat) (h : mm_M) (Z : Option Nat → mm_M → Prop) : Prop :=
  Z (s0) h
def wq_Tree_at_10  (ge : Nat → Nat)  (h : mm_M) (Z : Option Nat → mm_M → Prop) : Prop :=
  wq_Tree_at_20  ge (none) h Z
def wq_Tree_at_0  (ge : Nat → Nat) (v0 : Nat) (v1 : Int32) (h : mm_M) (Z : Option Nat → mm_M → Prop) : Prop :=
  (((v1) < 0 → wq_Tree_at_10  ge h Z) ∧ (¬ (v1) < 0 → (((v1 : Int32) < (60 : Int32) → mm_k h (v0) = kd_Tree ∧ ∃ a2, mm_P h v0 0 = some a2 ∧ mm_k h (a2) = ka_Node ∧ vp_in (v1) (mm_n h a2) ∧ wq_Tree_at_20  ge (mm_P h a2 (Int32.toNatClampNeg (v1))) h Z) ∧ (¬ (v1 : Int32) < (60 : Int32) → wq_Tree_at_10  ge h Z))))
set_option maxRecDepth 100000 in
set_option maxHeartbeats 4000000 in
theorem vb_Tree_at_20 {E : mm_E} {Z : Option Nat → mm_M → Prop} (hc : cx E "EpochServer$Tree" c_Tree_at 2 (some ((.object "EpochServer$Node"))) rm_Tree_at) (hq : cq E rm_Tree_at (pP Z))  (s0 : Option Nat) (h : mm_M) (hw : wq_Tree_at_20  (mm_ge (eG E)) s0 h Z) : V E 2 0 0 h 20 [] [va_rf (s0)] := by
  unfold wq_Tree_at_20 at hw
  exact V_aret hc hq (by first | exact Or.inl ⟨_, rfl⟩ | exact Or.inr ⟨_, rfl⟩) ⟨_, rfl, hw⟩ (by decide) (by decide) d_Tree_at_20
set_option maxRecDepth 100000 in
set_option maxHeartbeats 4000000 in
theorem vb_Tree_at_10 {E : mm_E} {Z : Option Nat → mm_M → Prop} (hc : cx E "EpochServer$Tree" c_Tree_at 2 (some ((.object "EpochServer$Node"))) rm_Tree_at) (hq : cq E rm_Tree_at (pP Z))   (h : mm_M) (hw : wq_Tree_at_10  (mm_ge (eG E))  h Z) : V E 2 0 0 h 10 [] [] := by
  unfold wq_Tree_at_10 at hw
  refine V_null hc d_Tree_at_10 ?_
  refine V_goto (tgt := 20) hc d_Tree_at_11 (by decide) ?_
  refine V_sub (lv' := []) [] rfl ?_
  exact vb_Tree_at_20 hc hq  _ _ hw
set_option maxRecDepth 100000 in
set_option maxHeartbeats 4000000 in
theorem vb_Tree_at_0 {E : mm_E} {Z : Option Nat → mm_M → Prop} (hc : cx E "EpochServer$Tree" c_Tree_at 2 (some ((.object "EpochServer$Node"))) rm_Tree_at) (hq : cq E rm_Tree_at (pP Z))  (v0 : Nat) (v1 : Int32) (h : mm_M) (hw : wq_Tree_at_0  (mm_ge (eG E)) v0 v1 h Z) : V E 2 0 0 h 0 [(0, va_rf (some v0)), (1, .int (v1))] [] := by
  unfold wq_Tree_at_0 at hw
  refine V_iload_n hc 1 d_Tree_at_0 rfl rfl ?_
  refine V_if_lt (tgt := 10) hc d_Tree_at_1 (by decide) (fun hq1 => ?_) (fun hq1 => ?_)
  · replace hw := hw.1 hq1
    refine V_sub (lv' := []) [] rfl ?_
    exact vb_Tree_at_10 hc hq  _ hw
  · replace hw := hw.2 hq1
    refine V_iload_n hc 1 d_Tree_at_4 rfl rfl ?_
    refine V_bipush (v := 60) hc d_Tree_at_5 (by decide) ?_
    refine V_icmp_lt (tgt := 14) hc d_Tree_at_7 (by decide) (fun hq1 => ?_) (fun hq1 => ?_)
    · replace hw := hw.1 hq1
      refine V_aload_n hc 0 d_Tree_at_14 rfl rfl ?_
      obtain ⟨q1, hw⟩ := hw
      refine V_get (v := va_rf (mm_P h v0 0)) hc gf_Tree_11 rfl q1 rfl d_Tree_at_15 ?_
      refine V_iload_n hc 1 d_Tree_at_18 rfl rfl ?_
      obtain ⟨a2, q3, hw⟩ := hw
      obtain ⟨q4, hw⟩ := hw
      obtain ⟨q5, hw⟩ := hw
      refine V_aald (t := 4) (ty := .object "EpochServer$Node") hc rfl rfl rfl q3 q4 q5 d_Tree_at_19 ?_
      refine V_sub (lv' := []) [] rfl ?_
      exact vb_Tree_at_20 hc hq  _ _ hw
    · replace hw := hw.2 hq1
      refine V_sub (lv' := []) [] rfl ?_
      exact vb_Tree_at_10 hc hq  _ hw
def wq_Tree_at (ge : Nat → Nat) (v0 : Nat) (v1 : Int32) (h : mm_M) (Z : Option Nat → mm_M → Prop) : Prop := wq_Tree_at_0 ge v0 v1 h Z
theorem sat_Tree_at (G : mm_G) (v0 : Nat) (v1 : Int32) (h : mm_M) (Z : Option Nat → mm_M → Prop) (hw : wq_Tree_at (mm_ge G) v0 v1 h Z) : mm_Met G y_Tree_at c_Tree_at 2 (some ((.object "EpochServer$Node"))) rm_Tree_at [va_rf (some v0), .int (v1)] h (pP Z) := by
  refine mm_intro (own := "EpochServer$Tree") (by decide) rfl (by simp [lg_sl, cat_rf, cat_i, cat_l]) (fun E e1 hc hq hi => ?_)
  subst e1
  have e2 : lv_args 0 [va_rf (some v0), .int (v1)] = [(0, va_rf (some v0)), (1, .int (v1))] := by simp [lv_args, cat_rf, cat_i, cat_l]
  rw [e2]
  refine V_sub (lv' := [(0, va_rf (some v0)), (1, .int (v1))]) [0, 1] rfl ?_
  exact vb_Tree_at_0 hc hq v0 v1 h hw
/-! Bytes.clear()V -/
abbrev rm_Bytes_clear : Room := { frames := 0, cells := 0, slots := 0, locals := 0 }
def wq_Bytes_clear_0  (ge : Nat → Nat) (v0 : Nat) (h : mm_M) (Z : mm_M → Prop) : Prop :=
  mm_k h (v0) = kd_Bytes ∧ ge 0 ≤ v0 ∧ ∀ h3 : mm_M, h3 = mm_uI h (v0) 1 (0) → Z h3
set_option maxRecDepth 100000 in
set_option maxHeartbeats 4000000 in
theorem vb_Bytes_clear_0 {E : mm_E} {Z : mm_M → Prop} (hc : cx E "EpochServer$Bytes" c_Bytes_clear 1 none rm_Bytes_clear) (hq : cq E rm_Bytes_clear (pV Z))  (v0 : Nat) (h : mm_M) (hw : wq_Bytes_clear_0  (mm_ge (eG E)) v0 h Z) : V E 1 0 0 h 0 [(0, va_rf (some v0))] [] := by
  unfold wq_Bytes_clear_0 at hw
  refine V_aload_n hc 0 d_Bytes_clear_0 rfl rfl ?_
  refine V_iconst (v := 0) hc d_Bytes_clear_1 (by decide) ?_
  obtain ⟨q1, hw⟩ := hw
  obtain ⟨q2, hw⟩ := hw
  obtain ⟨h3, eq_h3⟩ : ∃ x, x = mm_uI h (v0) 1 (0) := ⟨_, rfl⟩
  replace hw := hw _ eq_h3
  refine V_put (h' := h3) hc gf_Bytes_7 rfl rfl q1 q2 (by rw [eq_h3]; exact mm_Up_I _ _ _ _) (by rw [eq_h3]; exact up_vI rfl) (vp_nar_int _) rfl d_Bytes_clear_2 ?_
  exact V_vret hc hq ⟨rfl, hw⟩ (by decide) (by decide) d_Bytes_clear_5
def wq_Bytes_clear (ge : Nat → Nat) (v0 : Nat) (h : mm_M) (Z : mm_M → Prop) : Prop := wq_Bytes_clear_0 ge v0 h Z
theorem sat_Bytes_clear (G : mm_G) (v0 : Nat) (h : mm_M) (Z : mm_M → Prop) (hw : wq_Bytes_clear (mm_ge G) v0 h Z) : mm_Met G y_Bytes_clear c_Bytes_clear 1 none rm_Bytes_clear [va_rf (some v0)] h (pV Z) := by
  refine mm_intro (own := "EpochServer$Bytes") (by decide) rfl (by simp [lg_sl, cat_rf, cat_i, cat_l]) (fun E e1 hc hq hi => ?_)
  subst e1
  have e2 : lv_args 0 [va_rf (some v0)] = [(0, va_rf (some v0))] := by simp [lv_args, cat_rf, cat_i, cat_l]
  rw [e2]
  refine V_sub (lv' := [(0, va_rf (some v0))]) [0] rfl ?_
  exact vb_Bytes_clear_0 hc hq v0 h hw
/-! Node.isDirectory()Z -/
abbrev rm_Node_isDirectory : Room := { frames := 0, cells := 0, slots := 0, locals := 0 }
def wq_Node_isDirectory_12  (ge : Nat → Nat) (s0 : Int32) (h : mm_M) (Z : Int32 → mm_M → Prop) : Prop :=
  ((s0) = 0 ∨ (s0) = 1) ∧ Z (s0) h
def wq_Node_isDirectory_0  (ge : Nat → Nat) (v0 : Nat) (h : mm_M) (Z : Int32 → mm_M → Prop) : Prop :=
  mm_k h (v0) = kd_Node ∧ ((0 ≤ (mm_I h v0 3) → wq_Node_isDirectory_12  ge (0) h Z) ∧ (¬ 0 ≤ (mm_I h v0 3) → wq_Node_isDirectory_12  ge (1) h Z))
set_option maxRecDepth 100000 in
set_option maxHeartbeats 4000000 in
theorem vb_Node_isDirectory_12 {E : mm_E} {Z : Int32 → mm_M → Prop} (hc : cx E "EpochServer$Node" c_Node_isDirectory 1 (some (.boolean)) rm_Node_isDirectory) (hq : cq E rm_Node_isDirectory (pI Z))  (s0 : Int32) (h : mm_M) (hw : wq_Node_isDirectory_12  (mm_ge (eG E)) s0 h Z) : V E 1 0 0 h 12 [] [.int (s0)] := by
  unfold wq_Node_isDirectory_12 at hw
  obtain ⟨q1, hw⟩ := hw
  exact V_zret hc hq (zz_nar q1) ⟨_, rfl, hw⟩ (by decide) (by decide) d_Node_isDirectory_12
set_option maxRecDepth 100000 in
set_option maxHeartbeats 4000000 in
theorem vb_Node_isDirectory_0 {E : mm_E} {Z : Int32 → mm_M → Prop} (hc : cx E "EpochServer$Node" c_Node_isDirectory 1 (some (.boolean)) rm_Node_isDirectory) (hq : cq E rm_Node_isDirectory (pI Z))  (v0 : Nat) (h : mm_M) (hw : wq_Node_isDirectory_0  (mm_ge (eG E)) v0 h Z) : V E 1 0 0 h 0 [(0, va_rf (some v0))] [] := by
  unfold wq_Node_isDirectory_0 at hw
  refine V_aload_n hc 0 d_Node_isDirectory_0 rfl rfl ?_
  obtain ⟨q1, hw⟩ := hw
  refine V_get (v := .int (mm_I h v0 3)) hc gf_Node_22 rfl q1 rfl d_Node_isDirectory_1 ?_
  refine V_if_ge (tgt := 11) hc d_Node_isDirectory_4 (by decide) (fun hq1 => ?_) (fun hq1 => ?_)
  · replace hw := hw.1 hq1
    refine V_iconst (v := 0) hc d_Node_isDirectory_11 (by decide) ?_
    refine V_sub (lv' := []) [] rfl ?_
    exact vb_Node_isDirectory_12 hc hq  _ _ hw
  · replace hw := hw.2 hq1
    refine V_iconst (v := 1) hc d_Node_isDirectory_7 (by decide) ?_
    refine V_goto (tgt := 12) hc d_Node_isDirectory_8 (by decide) ?_
    refine V_sub (lv' := []) [] rfl ?_
    exact vb_Node_isDirectory_12 hc hq  _ _ hw
def wq_Node_isDirectory (ge : Nat → Nat) (v0 : Nat) (h : mm_M) (Z : Int32 → mm_M → Prop) : Prop := wq_Node_isDirectory_0 ge v0 h Z
theorem sat_Node_isDirectory (G : mm_G) (v0 : Nat) (h : mm_M) (Z : Int32 → mm_M → Prop) (hw : wq_Node_isDirectory (mm_ge G) v0 h Z) : mm_Met G y_Node_isDirectory c_Node_isDirectory 1 (some (.boolean)) rm_Node_isDirectory [va_rf (some v0)] h (pI Z) := by
  refine mm_intro (own := "EpochServer$Node") (by decide) rfl (by simp [lg_sl, cat_rf, cat_i, cat_l]) (fun E e1 hc hq hi => ?_)
  subst e1
  have e2 : lv_args 0 [va_rf (some v0)] = [(0, va_rf (some v0))] := by simp [lv_args, cat_rf, cat_i, cat_l]
  rw [e2]
  refine V_sub (lv' := [(0, va_rf (some v0))]) [0] rfl ?_
  exact vb_Node_isDirectory_0 hc hq v0 h hw
/-! Tree.in(II)LEpochServer$Node; -/
abbrev rm_Tree_in : Room := { frames := 1, cells := 0, slots := 0, locals := 21 }
def wq_Tree_in_27  (ge : Nat → Nat) (s0 : Option Nat) (h : mm_M) (Z : Option Nat → mm_M → Prop) : Prop :=
  Z (s0) h
def wq_Tree_in_22  (ge : Nat → Nat)  (h : mm_M) (Z : Option Nat → mm_M → Prop) : Prop :=
  wq_Tree_in_27  ge (none) h Z
def wq_Tree_in_0  (ge : Nat → Nat) (v0 : Nat) (v1 : Int32) (v2 : Int32) (h : mm_M) (Z : Option Nat → mm_M → Prop) : Prop :=
  mm_k h (v0) = kd_Tree ∧ wq_Tree_at ge (v0) (v2) h (fun (r3 : Option Nat) (h2 : mm_M) => ((r3 = none → wq_Tree_in_22  ge h2 Z) ∧ (∀ a4, r3 = some a4 → (((v2) = 0 → wq_Tree_in_22  ge h2 Z) ∧ (¬ (v2) = 0 → ∃ a5, r3 = some a5 ∧ mm_k h2 (a5) = kd_Node ∧ (((mm_I h2 a5 1 : Int32) = (v1 : Int32) → wq_Tree_in_27  ge (r3) h2 Z) ∧ (¬ (mm_I h2 a5 1 : Int32) = (v1 : Int32) → wq_Tree_in_22  ge h2 Z)))))))
set_option maxRecDepth 100000 in
set_option maxHeartbeats 4000000 in
theorem vb_Tree_in_27 {E : mm_E} {Z : Option Nat → mm_M → Prop} (hc : cx E "EpochServer$Tree" c_Tree_in 4 (some ((.object "EpochServer$Node"))) rm_Tree_in) (hq : cq E rm_Tree_in (pP Z))  (s0 : Option Nat) (h : mm_M) (hw : wq_Tree_in_27  (mm_ge (eG E)) s0 h Z) : V E 4 0 0 h 27 [] [va_rf (s0)] := by
  unfold wq_Tree_in_27 at hw
  exact V_aret hc hq (by first | exact Or.inl ⟨_, rfl⟩ | exact Or.inr ⟨_, rfl⟩) ⟨_, rfl, hw⟩ (by decide) (by decide) d_Tree_in_27
set_option maxRecDepth 100000 in
set_option maxHeartbeats 4000000 in
theorem vb_Tree_in_22 {E : mm_E} {Z : Option Nat → mm_M → Prop} (hc : cx E "EpochServer$Tree" c_Tree_in 4 (some ((.object "EpochServer$Node"))) rm_Tree_in) (hq : cq E rm_Tree_in (pP Z))   (h : mm_M) (hw : wq_Tree_in_22  (mm_ge (eG E))  h Z) : V E 4 0 0 h 22 [] [] := by
  unfold wq_Tree_in_22 at hw
  refine V_null hc d_Tree_in_22 ?_
  refine V_goto (tgt := 27) hc d_Tree_in_23 (by decide) ?_
  refine V_sub (lv' := []) [] rfl ?_
  exact vb_Tree_in_27 hc hq  _ _ hw
set_option maxRecDepth 100000 in
set_option maxHeartbeats 4000000 in
theorem vb_Tree_in_0 {E : mm_E} {Z : Option Nat → mm_M → Prop} (hc : cx E "EpochServer$Tree" c_Tree_in 4 (some ((.object "EpochServer$Node"))) rm_Tree_in) (hq : cq E rm_Tree_in (pP Z))  (v0 : Nat) (v1 : Int32) (v2 : Int32) (h : mm_M) (hw : wq_Tree_in_0  (mm_ge (eG E)) v0 v1 v2 h Z) : V E 4 0 0 h 0 [(0, va_rf (some v0)), (1, .int (v1)), (2, .int (v2))] [] := by
  unfold wq_Tree_in_0 at hw
  refine V_aload_n hc 0 d_Tree_in_0 rfl rfl ?_
  refine V_iload_n hc 2 d_Tree_in_1 rfl rfl ?_
  obtain ⟨q1, hw⟩ := hw
  refine V_callV (rm' := rm_Tree_at) (As := [.int (v2)]) (rest := []) (n := 1) (cn := 12) hc rfl q1 (sat_Tree_at (eG E) _ _ _ _ hw) rfl cv_Tree_21 (gw_of (tw_3 (List.mem_of_getElem? (i := 43) rfl)) rfl) ss_Tree_at rfl ⟨by decide, by decide⟩ (by decide) (by decide) rfl (by simp [cat_rf, cat_i, cat_l]) d_Tree_in_2 (fun r0 h2 hw => ?_)
  obtain ⟨r3, rfl, hw⟩ := hw
  refine V_wide (cs' := 0) (sl' := 0) (by decide) (by decide) ?_
  refine V_st (st' := [va_rf (r3)]) rfl ?_
  refine V_astore_n (i := 3) (lv' := [(3, va_rf (r3)), (0, va_rf (some v0)), (1, .int (v1)), (2, .int (v2))]) hc d_Tree_in_5 rfl (by decide) rfl ?_
  refine V_aload_n hc 0 d_Tree_in_6 rfl rfl ?_
  refine V_ifnull (tgt := 22) hc d_Tree_in_7 (by decide) (fun hq1 => ?_) (fun a4 hq1 => ?_)
  · replace hw := hw.1 hq1
    refine V_sub (lv' := []) [] rfl ?_
    exact vb_Tree_in_22 hc hq  _ hw
  · replace hw := hw.2 a4 hq1
    refine V_iload_n hc 3 d_Tree_in_10 rfl rfl ?_
    refine V_if_eq (tgt := 22) hc d_Tree_in_11 (by decide) (fun hq1 => ?_) (fun hq1 => ?_)
    · replace hw := hw.1 hq1
      refine V_sub (lv' := []) [] rfl ?_
      exact vb_Tree_in_22 hc hq  _ hw
    · replace hw := hw.2 hq1
      refine V_aload_n hc 0 d_Tree_in_14 rfl rfl ?_
      obtain ⟨a5, q6, hw⟩ := hw
      obtain ⟨q7, hw⟩ := hw
      refine V_get (v := .int (mm_I h2 a5 1)) hc gf_Tree_25 q6 q7 rfl d_Tree_in_15 ?_
      refine V_iload_n hc 2 d_Tree_in_18 rfl rfl ?_
      refine V_icmp_eq (tgt := 26) hc d_Tree_in_19 (by decide) (fun hq1 => ?_) (fun hq1 => ?_)
      · replace hw := hw.1 hq1
        refine V_aload_n hc 0 d_Tree_in_26 rfl rfl ?_
        refine V_sub (lv' := []) [] rfl ?_
        exact vb_Tree_in_27 hc hq  _ _ hw
      · replace hw := hw.2 hq1
        refine V_sub (lv' := []) [] rfl ?_
        exact vb_Tree_in_22 hc hq  _ hw
def wq_Tree_in (ge : Nat → Nat) (v0 : Nat) (v1 : Int32) (v2 : Int32) (h : mm_M) (Z : Option Nat → mm_M → Prop) : Prop := wq_Tree_in_0 ge v0 v1 v2 h Z
theorem sat_Tree_in (G : mm_G) (v0 : Nat) (v1 : Int32) (v2 : Int32) (h : mm_M) (Z : Option Nat → mm_M → Prop) (hw : wq_Tree_in (mm_ge G) v0 v1 v2 h Z) : mm_Met G y_Tree_in c_Tree_in 4 (some ((.object "EpochServer$Node"))) rm_Tree_in [va_rf (some v0), .int (v1), .int (v2)] h (pP Z) := by
  refine mm_intro (own := "EpochServer$Tree") (by decide) rfl (by simp [lg_sl, cat_rf, cat_i, cat_l]) (fun E e1 hc hq hi => ?_)
  subst e1
  have e2 : lv_args 0 [va_rf (some v0), .int (v1), .int (v2)] = [(0, va_rf (some v0)), (1, .int (v1)), (2, .int (v2))] := by simp [lv_args, cat_rf, cat_i, cat_l]
  rw [e2]
  refine V_sub (lv' := [(0, va_rf (some v0)), (1, .int (v1)), (2, .int (v2))]) [0, 1, 2] rfl ?_
  exact vb_Tree_in_0 hc hq v0 v1 v2 h hw
/-! Node.statSize()I -/
abbrev rm_Node_statSize : Room := { frames := 0, cells := 0, slots := 0, locals := 0 }
def wq_Node_statSize_0  (ge : Nat → Nat) (v0 : Nat) (h : mm_M) (Z : Int32 → mm_M → Prop) : Prop :=
  mm_k h (v0) = kd_Node ∧ ∃ a2, mm_P h v0 2 = some a2 ∧ mm_k h (a2) = ka_B ∧ Z ((52 : Int32) + (Nat.toInt32 (mm_n h a2))) h
set_option maxRecDepth 100000 in
set_option maxHeartbeats 4000000 in
theorem vb_Node_statSize_0 {E : mm_E} {Z : Int32 → mm_M → Prop} (hc : cx E "EpochServer$Node" c_Node_statSize 1 (some (.int)) rm_Node_statSize) (hq : cq E rm_Node_statSize (pI Z))  (v0 : Nat) (h : mm_M) (hw : wq_Node_statSize_0  (mm_ge (eG E)) v0 h Z) : V E 1 0 0 h 0 [(0, va_rf (some v0))] [] := by
  unfold wq_Node_statSize_0 at hw
  refine V_bipush (v := 52) hc d_Node_statSize_0 (by decide) ?_
  refine V_aload_n hc 0 d_Node_statSize_2 rfl rfl ?_
  obtain ⟨q1, hw⟩ := hw
  refine V_get (v := va_rf (mm_P h v0 2)) hc gf_Node_18 rfl q1 rfl d_Node_statSize_3 ?_
  obtain ⟨a2, q3, hw⟩ := hw
  obtain ⟨q4, hw⟩ := hw
  refine V_alen (t := 1) (ty := .byte) hc rfl q3 q4 d_Node_statSize_6 ?_
  refine V_iadd hc d_Node_statSize_7 ?_
  exact V_iret hc hq ⟨_, rfl, hw⟩ (by decide) (by decide) d_Node_statSize_8
def wq_Node_statSize (ge : Nat → Nat) (v0 : Nat) (h : mm_M) (Z : Int32 → mm_M → Prop) : Prop := wq_Node_statSize_0 ge v0 h Z
theorem sat_Node_statSize (G : mm_G) (v0 : Nat) (h : mm_M) (Z : Int32 → mm_M → Prop) (hw : wq_Node_statSize (mm_ge G) v0 h Z) : mm_Met G y_Node_statSize c_Node_statSize 1 (some (.int)) rm_Node_statSize [va_rf (some v0)] h (pI Z) := by
  refine mm_intro (own := "EpochServer$Node") (by decide) rfl (by simp [lg_sl, cat_rf, cat_i, cat_l]) (fun E e1 hc hq hi => ?_)
  subst e1
  have e2 : lv_args 0 [va_rf (some v0)] = [(0, va_rf (some v0))] := by simp [lv_args, cat_rf, cat_i, cat_l]
  rw [e2]
  refine V_sub (lv' := [(0, va_rf (some v0))]) [0] rfl ?_
  exact vb_Node_statSize_0 hc hq v0 h hw
/-! Bytes.put(JI)V -/
abbrev rm_Bytes_put : Room := { frames := 0, cells := 0, slots := 0, locals := 0 }
def wq_Bytes_put_49 (X3 : Nat → Int64 → Int32 → Int32 → mm_M → Prop) (ge : Nat → Nat) (v0 : Nat) (v1 : Int64) (v3 : Int32) (v4 : Int32) (h : mm_M) (Z : mm_M → Prop) : Prop :=
  X3 (v0) (v1) (v3) (v4 + 1) h
def wq_Bytes_put_3 (X3 : Nat → Int64 → Int32 → Int32 → mm_M → Prop) (ge : Nat → Nat) (v0 : Nat) (v1 : Int64) (v3 : Int32) (v4 : Int32) (h : mm_M) (Z : mm_M → Prop) : Prop :=
  (((v3 : Int32) ≤ (v4 : Int32) → Z h) ∧ (¬ (v3 : Int32) ≤ (v4 : Int32) → mm_k h (v0) = kd_Bytes ∧ ∃ a2, mm_P h v0 0 = some a2 ∧ mm_k h (a2) = ka_B ∧ (((Nat.toInt32 (mm_n h a2) : Int32) ≤ (mm_I h v0 1 : Int32) → wq_Bytes_put_49 X3 ge (v0) (v1) (v3) (v4) h Z) ∧ (¬ (Nat.toInt32 (mm_n h a2) : Int32) ≤ (mm_I h v0 1 : Int32) → vp_in (mm_I h v0 1) (mm_n h a2) ∧ ge 0 ≤ a2 ∧ ∀ h7 : mm_M, h7 = mm_uI h a2 (Int32.toNatClampNeg (mm_I h v0 1)) (vp_nar .byte (Int8.toInt32 (Int32.toInt8 (Int64.toInt32 ((v1) >>> (((8 : Int32) * (v4)).toInt64 &&& 63)))))) → mm_k h7 (v0) = kd_Bytes ∧ ge 0 ≤ v0 ∧ ∀ h10 : mm_M, h10 = mm_uI h7 (v0) 1 ((mm_I h7 v0 1) + (1 : Int32)) → wq_Bytes_put_49 X3 ge (v0) (v1) (v3) (v4) h10 Z))))
def lp_Bytes_put_3  (ge : Nat → Nat) (v0 : Nat) (v1 : Int64) (v3 : Int32) (v4 : Int32) (h : mm_M) (Z : mm_M → Prop) : Prop :=
  ∀ X3 : Nat → Int64 → Int32 → Int32 → mm_M → Prop, (∀ (v0 : Nat) (v1 : Int64) (v3 : Int32) (v4 : Int32) (h : mm_M), wq_Bytes_put_3 X3 ge v0 v1 v3 v4 h Z → X3 v0 v1 v3 v4 h) → X3 v0 v1 v3 v4 h
def wq_Bytes_put_0  (ge : Nat → Nat) (v0 : Nat) (v1 : Int64) (v3 : Int32) (h : mm_M) (Z : mm_M → Prop) : Prop :=
  lp_Bytes_put_3  ge (v0) (v1) (v3) (0) h Z
set_option maxRecDepth 100000 in
set_option maxHeartbeats 4000000 in
theorem vb_Bytes_put_49 {E : mm_E} {Z : mm_M → Prop} (hc : cx E "EpochServer$Bytes" c_Bytes_put 5 none rm_Bytes_put) (hq : cq E rm_Bytes_put (pV Z)) (X3 : Nat → Int64 → Int32 → Int32 → mm_M → Prop) (hX3 : ∀ (v0 : Nat) (v1 : Int64) (v3 : Int32) (v4 : Int32) (h : mm_M), X3 v0 v1 v3 v4 h → V E 5 0 0 h 3 [(0, va_rf (some v0)), (1, .long (v1)), (3, .int (v3)), (4, .int (v4))] []) (v0 : Nat) (v1 : Int64) (v3 : Int32) (v4 : Int32) (h : mm_M) (hw : wq_Bytes_put_49 X3 (mm_ge (eG E)) v0 v1 v3 v4 h Z) : V E 5 0 0 h 49 [(0, va_rf (some v0)), (1, .long (v1)), (3, .int (v3)), (4, .int (v4))] [] := by
  unfold wq_Bytes_put_49 at hw
  refine V_iinc (v := v4 + 1) (lv' := [(4, .int (v4 + 1)), (0, va_rf (some v0)), (1, .long (v1)), (3, .int (v3))]) hc 3 d_Bytes_put_49 rfl rfl (by decide) rfl ?_
  refine V_goto (tgt := 3) hc d_Bytes_put_52 (by decide) ?_
  refine V_sub (lv' := [(0, va_rf (some v0)), (1, .long (v1)), (3, .int (v3)), (4, .int (v4 + 1))]) [1, 2, 3, 0] rfl ?_
  exact hX3 _ _ _ _ _ hw
set_option maxRecDepth 100000 in
set_option maxHeartbeats 4000000 in
theorem vb_Bytes_put_3 {E : mm_E} {Z : mm_M → Prop} (hc : cx E "EpochServer$Bytes" c_Bytes_put 5 none rm_Bytes_put) (hq : cq E rm_Bytes_put (pV Z)) (X3 : Nat → Int64 → Int32 → Int32 → mm_M → Prop) (hX3 : ∀ (v0 : Nat) (v1 : Int64) (v3 : Int32) (v4 : Int32) (h : mm_M), X3 v0 v1 v3 v4 h → V E 5 0 0 h 3 [(0, va_rf (some v0)), (1, .long (v1)), (3, .int (v3)), (4, .int (v4))] []) (v0 : Nat) (v1 : Int64) (v3 : Int32) (v4 : Int32) (h : mm_M) (hw : wq_Bytes_put_3 X3 (mm_ge (eG E)) v0 v1 v3 v4 h Z) : V E 5 0 0 h 3 [(0, va_rf (some v0)), (1, .long (v1)), (3, .int (v3)), (4, .int (v4))] [] := by
  unfold wq_Bytes_put_3 at hw
  refine V_iload hc 3 d_Bytes_put_3 rfl ?_
  refine V_iload_n hc 2 d_Bytes_put_5 rfl rfl ?_
  refine V_icmp_ge (tgt := 55) hc d_Bytes_put_6 (by decide) (fun hq1 => ?_) (fun hq1 => ?_)
  · replace hw := hw.1 hq1
    exact V_vret hc hq ⟨rfl, hw⟩ (by decide) (by decide) d_Bytes_put_55
  · replace hw := hw.2 hq1
    refine V_aload_n hc 0 d_Bytes_put_9 rfl rfl ?_
    obtain ⟨q1, hw⟩ := hw
    refine V_get (v := .int (mm_I h v0 1)) hc gf_Bytes_7 rfl q1 rfl d_Bytes_put_10 ?_
    refine V_aload_n hc 0 d_Bytes_put_13 rfl rfl ?_
    refine V_get (v := va_rf (mm_P h v0 0)) hc gf_Bytes_19 rfl q1 rfl d_Bytes_put_14 ?_
    obtain ⟨a2, q3, hw⟩ := hw
    obtain ⟨q4, hw⟩ := hw
    refine V_alen (t := 1) (ty := .byte) hc rfl q3 q4 d_Bytes_put_17 ?_
    refine V_icmp_ge (tgt := 49) hc d_Bytes_put_18 (by decide) (fun hq1 => ?_) (fun hq1 => ?_)
    · replace hw := hw.1 hq1
      refine V_sub (lv' := [(0, va_rf (some v0)), (1, .long (v1)), (3, .int (v3)), (4, .int (v4))]) [0, 1, 2, 3] rfl ?_
      exact vb_Bytes_put_49 hc hq X3 hX3 _ _ _ _ _ hw
    · replace hw := hw.2 hq1
      refine V_aload_n hc 0 d_Bytes_put_21 rfl rfl ?_
      refine V_get (v := va_rf (mm_P h v0 0)) hc gf_Bytes_19 rfl q1 rfl d_Bytes_put_22 ?_
      refine V_aload_n hc 0 d_Bytes_put_25 rfl rfl ?_
      refine V_get (v := .int (mm_I h v0 1)) hc gf_Bytes_7 rfl q1 rfl d_Bytes_put_26 ?_
      refine V_lload_n hc 1 d_Bytes_put_29 rfl rfl ?_
      refine V_bipush (v := 8) hc d_Bytes_put_30 (by decide) ?_
      refine V_iload hc 3 d_Bytes_put_32 rfl ?_
      refine V_imul hc d_Bytes_put_34 ?_
      refine V_lshr hc d_Bytes_put_35 ?_
      refine V_l2i hc d_Bytes_put_36 ?_
      refine V_i2b hc d_Bytes_put_37 ?_
      obtain ⟨q5, hw⟩ := hw
      obtain ⟨q6, hw⟩ := hw
      obtain ⟨h7, eq_h7⟩ : ∃ x, x = mm_uI h a2 (Int32.toNatClampNeg (mm_I h v0 1)) (vp_nar .byte (Int8.toInt32 (Int32.toInt8 (Int64.toInt32 ((v1) >>> (((8 : Int32) * (v4)).toInt64 &&& 63)))))) := ⟨_, rfl⟩
      replace hw := hw _ eq_h7
      refine V_bast hc q3 q4 q5 q6 d_Bytes_put_38 ?_
      rw [← eq_h7]
      refine V_aload_n hc 0 d_Bytes_put_39 rfl rfl ?_
      refine V_dup hc d_Bytes_put_40 (cat_rf _) ?_
      obtain ⟨q8, hw⟩ := hw
      refine V_get (v := .int (mm_I h7 v0 1)) hc gf_Bytes_7 rfl q8 rfl d_Bytes_put_41 ?_
      refine V_iconst (v := 1) hc d_Bytes_put_44 (by decide) ?_
      refine V_iadd hc d_Bytes_put_45 ?_
      obtain ⟨q9, hw⟩ := hw
      obtain ⟨h10, eq_h10⟩ : ∃ x, x = mm_uI h7 (v0) 1 ((mm_I h7 v0 1) + (1 : Int32)) := ⟨_, rfl⟩
      replace hw := hw _ eq_h10
      refine V_put (h' := h10) hc gf_Bytes_7 rfl rfl q8 q9 (by rw [eq_h10]; exact mm_Up_I _ _ _ _) (by rw [eq_h10]; exact up_vI rfl) (vp_nar_int _) rfl d_Bytes_put_46 ?_
      refine V_sub (lv' := [(0, va_rf (some v0)), (1, .long (v1)), (3, .int (v3)), (4, .int (v4))]) [0, 1, 2, 3] rfl ?_
      exact vb_Bytes_put_49 hc hq X3 hX3 _ _ _ _ _ hw
theorem vl_Bytes_put_3 {E : mm_E} {Z : mm_M → Prop} (hc : cx E "EpochServer$Bytes" c_Bytes_put 5 none rm_Bytes_put) (hq : cq E rm_Bytes_put (pV Z))  (v0 : Nat) (v1 : Int64) (v3 : Int32) (v4 : Int32) (h : mm_M) (hw : lp_Bytes_put_3  (mm_ge (eG E)) v0 v1 v3 v4 h Z) : V E 5 0 0 h 3 [(0, va_rf (some v0)), (1, .long (v1)), (3, .int (v3)), (4, .int (v4))] [] :=
  hw (fun v0 v1 v3 v4 h => V E 5 0 0 h 3 [(0, va_rf (some v0)), (1, .long (v1)), (3, .int (v3)), (4, .int (v4))] []) (fun v0 v1 v3 v4 h hb => vb_Bytes_put_3 hc hq  _ (fun _ _ _ _ _ q => q) v0 v1 v3 v4 h hb)
set_option maxRecDepth 100000 in
set_option maxHeartbeats 4000000 in
theorem vb_Bytes_put_0 {E : mm_E} {Z : mm_M → Prop} (hc : cx E "EpochServer$Bytes" c_Bytes_put 5 none rm_Bytes_put) (hq : cq E rm_Bytes_put (pV Z))  (v0 : Nat) (v1 : Int64) (v3 : Int32) (h : mm_M) (hw : wq_Bytes_put_0  (mm_ge (eG E)) v0 v1 v3 h Z) : V E 5 0 0 h 0 [(0, va_rf (some v0)), (1, .long (v1)), (3, .int (v3))] [] := by
  unfold wq_Bytes_put_0 at hw
  refine V_iconst (v := 0) hc d_Bytes_put_0 (by decide) ?_
  refine V_istore (i := 4) (lv' := [(4, .int (0)), (0, va_rf (some v0)), (1, .long (v1)), (3, .int (v3))]) hc d_Bytes_put_1 (by decide) rfl ?_
  refine V_sub (lv' := [(0, va_rf (some v0)), (1, .long (v1)), (3, .int (v3)), (4, .int (0))]) [1, 2, 3, 0] rfl ?_
  exact vl_Bytes_put_3 hc hq  _ _ _ _ _ hw
def wq_Bytes_put (ge : Nat → Nat) (v0 : Nat) (v1 : Int64) (v3 : Int32) (h : mm_M) (Z : mm_M → Prop) : Prop := wq_Bytes_put_0 ge v0 v1 v3 h Z
theorem sat_Bytes_put (G : mm_G) (v0 : Nat) (v1 : Int64) (v3 : Int32) (h : mm_M) (Z : mm_M → Prop) (hw : wq_Bytes_put (mm_ge G) v0 v1 v3 h Z) : mm_Met G y_Bytes_put c_Bytes_put 5 none rm_Bytes_put [va_rf (some v0), .long (v1), .int (v3)] h (pV Z) := by
  refine mm_intro (own := "EpochServer$Bytes") (by decide) rfl (by simp [lg_sl, cat_rf, cat_i, cat_l]) (fun E e1 hc hq hi => ?_)
  subst e1
  have e2 : lv_args 0 [va_rf (some v0), .long (v1), .int (v3)] = [(0, va_rf (some v0)), (1, .long (v1)), (3, .int (v3))] := by simp [lv_args, cat_rf, cat_i, cat_l]
  rw [e2]
  refine V_sub (lv' := [(0, va_rf (some v0)), (1, .long (v1)), (3, .int (v3))]) [0, 1, 2] rfl ?_
  exact vb_Bytes_put_0 hc hq v0 v1 v3 h hw
/-! Bytes.putQid(LEpochServer$Node;)V -/
abbrev rm_Bytes_putQid : Room := { frames := 1, cells := 0, slots := 0, locals := 24 }
def wq_Bytes_putQid_15  (ge : Nat → Nat) (v0 : Nat) (v1 : Option Nat) (s0 : Option Nat) (s1 : Int64) (h : mm_M) (Z : mm_M → Prop) : Prop :=
  ∃ a1, s0 = some a1 ∧ mm_k h (a1) = kd_Bytes ∧ wq_Bytes_put ge (a1) (s1) (1) h (fun h4 : mm_M => ∃ a6, v1 = some a6 ∧ mm_k h4 (a6) = kd_Node ∧ mm_k h4 (v0) = kd_Bytes ∧ wq_Bytes_put ge (v0) (Int32.toInt64 (mm_I h4 a6 4)) (4) h4 (fun h10 : mm_M => ∃ a12, v1 = some a12 ∧ mm_k h10 (a12) = kd_Node ∧ mm_k h10 (v0) = kd_Bytes ∧ wq_Bytes_put ge (v0) (Int32.toInt64 (mm_I h10 a12 0)) (8) h10 (fun h16 : mm_M => Z h16)))
def wq_Bytes_putQid_0  (ge : Nat → Nat) (v0 : Nat) (v1 : Option Nat) (h : mm_M) (Z : mm_M → Prop) : Prop :=
  ∃ a1, v1 = some a1 ∧ mm_k h (a1) = kd_Node ∧ wq_Node_isDirectory ge (a1) h (fun (r5 : Int32) (h4 : mm_M) => (((r5) = 0 → wq_Bytes_putQid_15  ge (v0) (v1) (some v0) (0) h4 Z) ∧ (¬ (r5) = 0 → wq_Bytes_putQid_15  ge (v0) (v1) (some v0) (128) h4 Z)))
set_option maxRecDepth 100000 in
set_option maxHeartbeats 4000000 in
theorem vb_Bytes_putQid_15 {E : mm_E} {Z : mm_M → Prop} (hc : cx E "EpochServer$Bytes" c_Bytes_putQid 2 none rm_Bytes_putQid) (hq : cq E rm_Bytes_putQid (pV Z))  (v0 : Nat) (v1 : Option Nat) (s0 : Option Nat) (s1 : Int64) (h : mm_M) (hw : wq_Bytes_putQid_15  (mm_ge (eG E)) v0 v1 s0 s1 h Z) : V E 2 0 0 h 15 [(0, va_rf (some v0)), (1, va_rf (v1))] [.long (s1), va_rf (s0)] := by
  unfold wq_Bytes_putQid_15 at hw
  refine V_iconst (v := 1) hc d_Bytes_putQid_15 (by decide) ?_
  obtain ⟨a1, q2, hw⟩ := hw
  obtain ⟨q3, hw⟩ := hw
  refine V_callV (rm' := rm_Bytes_put) (As := [.long (s1), .int (1)]) (rest := []) (n := 2) (cn := 3) hc q2 q3 (sat_Bytes_put (eG E) _ _ _ _ _ hw) rfl cv_Bytes_23 (gw_of (tw_2 (List.mem_of_getElem? (i := 155) rfl)) rfl) ss_Bytes_put rfl ⟨by decide, by decide⟩ (by decide) (by decide) rfl (by simp [cat_rf, cat_i, cat_l]) d_Bytes_putQid_16 (fun r0 h4 hw => ?_)
  obtain ⟨rfl, hw⟩ := hw
  refine V_wide (cs' := 0) (sl' := 0) (by decide) (by decide) ?_
  refine V_st (st' := []) rfl ?_
  refine V_aload_n hc 0 d_Bytes_putQid_19 rfl rfl ?_
  refine V_aload_n hc 1 d_Bytes_putQid_20 rfl rfl ?_
  obtain ⟨a6, q7, hw⟩ := hw
  obtain ⟨q8, hw⟩ := hw
  refine V_get (v := .int (mm_I h4 a6 4)) hc gf_Bytes_39 q7 q8 rfl d_Bytes_putQid_21 ?_
  refine V_i2l hc d_Bytes_putQid_24 ?_
  refine V_iconst (v := 4) hc d_Bytes_putQid_25 (by decide) ?_
  obtain ⟨q9, hw⟩ := hw
  refine V_callV (rm' := rm_Bytes_put) (As := [.long (Int32.toInt64 (mm_I h4 a6 4)), .int (4)]) (rest := []) (n := 2) (cn := 3) hc rfl q9 (sat_Bytes_put (eG E) _ _ _ _ _ hw) rfl cv_Bytes_23 (gw_of (tw_2 (List.mem_of_getElem? (i := 155) rfl)) rfl) ss_Bytes_put rfl ⟨by decide, by decide⟩ (by decide) (by decide) rfl (by simp [cat_rf, cat_i, cat_l]) d_Bytes_putQid_26 (fun r0 h10 hw => ?_)
  obtain ⟨rfl, hw⟩ := hw
  refine V_wide (cs' := 0) (sl' := 0) (by decide) (by decide) ?_
  refine V_st (st' := []) rfl ?_
  refine V_aload_n hc 0 d_Bytes_putQid_29 rfl rfl ?_
  refine V_aload_n hc 1 d_Bytes_putQid_30 rfl rfl ?_
  obtain ⟨a12, q13, hw⟩ := hw
  obtain ⟨q14, hw⟩ := hw
  refine V_get (v := .int (mm_I h10 a12 0)) hc gf_Bytes_42 q13 q14 rfl d_Bytes_putQid_31 ?_
  refine V_i2l hc d_Bytes_putQid_34 ?_
  refine V_bipush (v := 8) hc d_Bytes_putQid_35 (by decide) ?_
  obtain ⟨q15, hw⟩ := hw
  refine V_callV (rm' := rm_Bytes_put) (As := [.long (Int32.toInt64 (mm_I h10 a12 0)), .int (8)]) (rest := []) (n := 2) (cn := 3) hc rfl q15 (sat_Bytes_put (eG E) _ _ _ _ _ hw) rfl cv_Bytes_23 (gw_of (tw_2 (List.mem_of_getElem? (i := 155) rfl)) rfl) ss_Bytes_put rfl ⟨by decide, by decide⟩ (by decide) (by decide) rfl (by simp [cat_rf, cat_i, cat_l]) d_Bytes_putQid_37 (fun r0 h16 hw => ?_)
  obtain ⟨rfl, hw⟩ := hw
  refine V_wide (cs' := 0) (sl' := 0) (by decide) (by decide) ?_
  refine V_st (st' := []) rfl ?_
  exact V_vret hc hq ⟨rfl, hw⟩ (by decide) (by decide) d_Bytes_putQid_40
set_option maxRecDepth 100000 in
set_option maxHeartbeats 4000000 in
theorem vb_Bytes_putQid_0 {E : mm_E} {Z : mm_M → Prop} (hc : cx E "EpochServer$Bytes" c_Bytes_putQid 2 none rm_Bytes_putQid) (hq : cq E rm_Bytes_putQid (pV Z))  (v0 : Nat) (v1 : Option Nat) (h : mm_M) (hw : wq_Bytes_putQid_0  (mm_ge (eG E)) v0 v1 h Z) : V E 2 0 0 h 0 [(0, va_rf (some v0)), (1, va_rf (v1))] [] := by
  unfold wq_Bytes_putQid_0 at hw
  refine V_aload_n hc 0 d_Bytes_putQid_0 rfl rfl ?_
  refine V_aload_n hc 1 d_Bytes_putQid_1 rfl rfl ?_
  obtain ⟨a1, q2, hw⟩ := hw
  obtain ⟨q3, hw⟩ := hw
  refine V_callV (rm' := rm_Node_isDirectory) (As := []) (rest := [va_rf (some v0)]) (n := 0) (cn := 7) hc q2 q3 (sat_Node_isDirectory (eG E) _ _ _ hw) rfl cv_Bytes_31 (gw_of (tw_3 (List.mem_of_getElem? (i := 59) rfl)) rfl) ss_Node_isDirectory rfl ⟨by decide, by decide⟩ (by decide) (by decide) rfl (by simp [cat_rf, cat_i, cat_l]) d_Bytes_putQid_2 (fun r0 h4 hw => ?_)
  obtain ⟨r5, rfl, hw⟩ := hw
  refine V_wide (cs' := 0) (sl' := 0) (by decide) (by decide) ?_
  refine V_st (st' := [.int (r5), va_rf (some v0)]) rfl ?_
  refine V_if_eq (tgt := 14) hc d_Bytes_putQid_5 (by decide) (fun hq1 => ?_) (fun hq1 => ?_)
  · replace hw := hw.1 hq1
    refine V_lconst (v := 0) hc d_Bytes_putQid_14 (by decide) ?_
    refine V_sub (lv' := [(0, va_rf (some v0)), (1, va_rf (v1))]) [0, 1] rfl ?_
    exact vb_Bytes_putQid_15 hc hq  _ _ _ _ _ hw
  · replace hw := hw.2 hq1
    refine V_ldc2 (v := 128) hc (gw_of (tw_3 (List.mem_of_getElem? (i := 62) rfl)) rfl) d_Bytes_putQid_8 ?_
    refine V_goto (tgt := 15) hc d_Bytes_putQid_11 (by decide) ?_
    refine V_sub (lv' := [(0, va_rf (some v0)), (1, va_rf (v1))]) [0, 1] rfl ?_
    exact vb_Bytes_putQid_15 hc hq  _ _ _ _ _ hw
def wq_Bytes_putQid (ge : Nat → Nat) (v0 : Nat) (v1 : Option Nat) (h : mm_M) (Z : mm_M → Prop) : Prop := wq_Bytes_putQid_0 ge v0 v1 h Z
theorem sat_Bytes_putQid (G : mm_G) (v0 : Nat) (v1 : Option Nat) (h : mm_M) (Z : mm_M → Prop) (hw : wq_Bytes_putQid (mm_ge G) v0 v1 h Z) : mm_Met G y_Bytes_putQid c_Bytes_putQid 2 none rm_Bytes_putQid [va_rf (some v0), va_rf (v1)] h (pV Z) := by
  refine mm_intro (own := "EpochServer$Bytes") (by decide) rfl (by simp [lg_sl, cat_rf, cat_i, cat_l]) (fun E e1 hc hq hi => ?_)
  subst e1
  have e2 : lv_args 0 [va_rf (some v0), va_rf (v1)] = [(0, va_rf (some v0)), (1, va_rf (v1))] := by simp [lv_args, cat_rf, cat_i, cat_l]
  rw [e2]
  refine V_sub (lv' := [(0, va_rf (some v0)), (1, va_rf (v1))]) [0, 1] rfl ?_
  exact vb_Bytes_putQid_0 hc hq v0 v1 h hw
/-! Bytes.putAll([BII)V -/
abbrev rm_Bytes_putAll : Room := { frames := 1, cells := 0, slots := 0, locals := 24 }
def wq_Bytes_putAll_37 (X3 : Nat → Option Nat → Int32 → Int32 → Int32 → mm_M → Prop) (ge : Nat → Nat) (v0 : Nat) (v1 : Option Nat) (v2 : Int32) (v3 : Int32) (v4 : Int32) (h : mm_M) (Z : mm_M → Prop) : Prop :=
  X3 (v0) (v1) (v2) (v3) (v4 + 1) h
def wq_Bytes_putAll_3 (X3 : Nat → Option Nat → Int32 → Int32 → Int32 → mm_M → Prop) (ge : Nat → Nat) (v0 : Nat) (v1 : Option Nat) (v2 : Int32) (v3 : Int32) (v4 : Int32) (h : mm_M) (Z : mm_M → Prop) : Prop :=
  (((v3 : Int32) ≤ (v4 : Int32) → Z h) ∧ (¬ (v3 : Int32) ≤ (v4 : Int32) → ((((v2) + (v4)) < 0 → wq_Bytes_putAll_37 X3 ge (v0) (v1) (v2) (v3) (v4) h Z) ∧ (¬ ((v2) + (v4)) < 0 → ∃ a1, v1 = some a1 ∧ mm_k h (a1) = ka_B ∧ (((Nat.toInt32 (mm_n h a1) : Int32) ≤ ((v2) + (v4) : Int32) → wq_Bytes_putAll_37 X3 ge (v0) (v1) (v2) (v3) (v4) h Z) ∧ (¬ (Nat.toInt32 (mm_n h a1) : Int32) ≤ ((v2) + (v4) : Int32) → vp_in ((v2) + (v4)) (mm_n h a1) ∧ mm_k h (v0) = kd_Bytes ∧ wq_Bytes_put ge (v0) (Int32.toInt64 (mm_I h a1 (Int32.toNatClampNeg ((v2) + (v4))))) (1) h (fun h6 : mm_M => wq_Bytes_putAll_37 X3 ge (v0) (v1) (v2) (v3) (v4) h6 Z)))))))
def lp_Bytes_putAll_3  (ge : Nat → Nat) (v0 : Nat) (v1 : Option Nat) (v2 : Int32) (v3 : Int32) (v4 : Int32) (h : mm_M) (Z : mm_M → Prop) : Prop :=
  ∀ X3 : Nat → Option Nat → Int32 → Int32 → Int32 → mm_M → Prop, (∀ (v0 : Nat) (v1 : Option Nat) (v2 : Int32) (v3 : Int32) (v4 : Int32) (h : mm_M), wq_Bytes_putAll_3 X3 ge v0 v1 v2 v3 v4 h Z → X3 v0 v1 v2 v3 v4 h) → X3 v0 v1 v2 v3 v4 h
def wq_Bytes_putAll_0  (ge : Nat → Nat) (v0 : Nat) (v1 : Option Nat) (v2 : Int32) (v3 : Int32) (h : mm_M) (Z : mm_M → Prop) : Prop :=
  lp_Bytes_putAll_3  ge (v0) (v1) (v2) (v3) (0) h Z
set_option maxRecDepth 100000 in
set_option maxHeartbeats 4000000 in
theorem vb_Bytes_putAll_37 {E : mm_E} {Z : mm_M → Prop} (hc : cx E "EpochServer$Bytes" c_Bytes_putAll 6 none rm_Bytes_putAll) (hq : cq E rm_Bytes_putAll (pV Z)) (X3 : Nat → Option Nat → Int32 → Int32 → Int32 → mm_M → Prop) (hX3 : ∀ (v0 : Nat) (v1 : Option Nat) (v2 : Int32) (v3 : Int32) (v4 : Int32) (h : mm_M), X3 v0 v1 v2 v3 v4 h → V E 6 0 0 h 3 [(0, va_rf (some v0)), (1, va_rf (v1)), (2, .int (v2)), (3, .int (v3)), (4, .int (v4))] []) (v0 : Nat) (v1 : Option Nat) (v2 : Int32) (v3 : Int32) (v4 : Int32) (h : mm_M) (hw : wq_Bytes_putAll_37 X3 (mm_ge (eG E)) v0 v1 v2 v3 v4 h Z) : V E 6 0 0 h 37 [(0, va_rf (some v0)), (1, va_rf (v1)), (2, .int (v2)), (3, .int (v3)), (4, .int (v4))] [] := by
  unfold wq_Bytes_putAll_37 at hw
  refine V_iinc (v := v4 + 1) (lv' := [(4, .int (v4 + 1)), (0, va_rf (some v0)), (1, va_rf (v1)), (2, .int (v2)), (3, .int (v3))]) hc 4 d_Bytes_putAll_37 rfl rfl (by decide) rfl ?_
  refine V_goto (tgt := 3) hc d_Bytes_putAll_40 (by decide) ?_
  refine V_sub (lv' := [(0, va_rf (some v0)), (1, va_rf (v1)), (2, .int (v2)), (3, .int (v3)), (4, .int (v4 + 1))]) [1, 2, 3, 4, 0] rfl ?_
  exact hX3 _ _ _ _ _ _ hw
set_option maxRecDepth 100000 in
set_option maxHeartbeats 4000000 in
theorem vb_Bytes_putAll_3 {E : mm_E} {Z : mm_M → Prop} (hc : cx E "EpochServer$Bytes" c_Bytes_putAll 6 none rm_Bytes_putAll) (hq : cq E rm_Bytes_putAll (pV Z)) (X3 : Nat → Option Nat → Int32 → Int32 → Int32 → mm_M → Prop) (hX3 : ∀ (v0 : Nat) (v1 : Option Nat) (v2 : Int32) (v3 : Int32) (v4 : Int32) (h : mm_M), X3 v0 v1 v2 v3 v4 h → V E 6 0 0 h 3 [(0, va_rf (some v0)), (1, va_rf (v1)), (2, .int (v2)), (3, .int (v3)), (4, .int (v4))] []) (v0 : Nat) (v1 : Option Nat) (v2 : Int32) (v3 : Int32) (v4 : Int32) (h : mm_M) (hw : wq_Bytes_putAll_3 X3 (mm_ge (eG E)) v0 v1 v2 v3 v4 h Z) : V E 6 0 0 h 3 [(0, va_rf (some v0)), (1, va_rf (v1)), (2, .int (v2)), (3, .int (v3)), (4, .int (v4))] [] := by
  unfold wq_Bytes_putAll_3 at hw
  refine V_iload hc 4 d_Bytes_putAll_3 rfl ?_
  refine V_iload_n hc 3 d_Bytes_putAll_5 rfl rfl ?_
  refine V_icmp_ge (tgt := 43) hc d_Bytes_putAll_6 (by decide) (fun hq1 => ?_) (fun hq1 => ?_)
  · replace hw := hw.1 hq1
    exact V_vret hc hq ⟨rfl, hw⟩ (by decide) (by decide) d_Bytes_putAll_43
  · replace hw := hw.2 hq1
    refine V_iload_n hc 2 d_Bytes_putAll_9 rfl rfl ?_
    refine V_iload hc 4 d_Bytes_putAll_10 rfl ?_
    refine V_iadd hc d_Bytes_putAll_12 ?_
    refine V_istore (i := 5) (lv' := [(5, .int ((v2) + (v4))), (0, va_rf (some v0)), (1, va_rf (v1)), (2, .int (v2)), (3, .int (v3)), (4, .int (v4))]) hc d_Bytes_putAll_13 (by decide) rfl ?_
    refine V_iload hc 0 d_Bytes_putAll_15 rfl ?_
    refine V_if_lt (tgt := 37) hc d_Bytes_putAll_17 (by decide) (fun hq1 => ?_) (fun hq1 => ?_)
    · replace hw := hw.1 hq1
      refine V_sub (lv' := [(0, va_rf (some v0)), (1, va_rf (v1)), (2, .int (v2)), (3, .int (v3)), (4, .int (v4))]) [1, 2, 3, 4, 5] rfl ?_
      exact vb_Bytes_putAll_37 hc hq X3 hX3 _ _ _ _ _ _ hw
    · replace hw := hw.2 hq1
      refine V_iload hc 0 d_Bytes_putAll_20 rfl ?_
      refine V_aload_n hc 2 d_Bytes_putAll_22 rfl rfl ?_
      obtain ⟨a1, q2, hw⟩ := hw
      obtain ⟨q3, hw⟩ := hw
      refine V_alen (t := 1) (ty := .byte) hc rfl q2 q3 d_Bytes_putAll_23 ?_
      refine V_icmp_ge (tgt := 37) hc d_Bytes_putAll_24 (by decide) (fun hq1 => ?_) (fun hq1 => ?_)
      · replace hw := hw.1 hq1
        refine V_sub (lv' := [(0, va_rf (some v0)), (1, va_rf (v1)), (2, .int (v2)), (3, .int (v3)), (4, .int (v4))]) [1, 2, 3, 4, 5] rfl ?_
        exact vb_Bytes_putAll_37 hc hq X3 hX3 _ _ _ _ _ _ hw
      · replace hw := hw.2 hq1
        refine V_aload_n hc 1 d_Bytes_putAll_27 rfl rfl ?_
        refine V_aload_n hc 2 d_Bytes_putAll_28 rfl rfl ?_
        refine V_iload hc 0 d_Bytes_putAll_29 rfl ?_
        obtain ⟨q4, hw⟩ := hw
        refine V_bald hc q2 q3 q4 d_Bytes_putAll_31 ?_
        refine V_i2l hc d_Bytes_putAll_32 ?_
        refine V_iconst (v := 1) hc d_Bytes_putAll_33 (by decide) ?_
        obtain ⟨q5, hw⟩ := hw
        refine V_callV (rm' := rm_Bytes_put) (As := [.long (Int32.toInt64 (mm_I h a1 (Int32.toNatClampNeg ((v2) + (v4))))), .int (1)]) (rest := []) (n := 2) (cn := 3) hc rfl q5 (sat_Bytes_put (eG E) _ _ _ _ _ hw) rfl cv_Bytes_23 (gw_of (tw_2 (List.mem_of_getElem? (i := 155) rfl)) rfl) ss_Bytes_put rfl ⟨by decide, by decide⟩ (by decide) (by decide) rfl (by simp [cat_rf, cat_i, cat_l]) d_Bytes_putAll_34 (fun r0 h6 hw => ?_)
        obtain ⟨rfl, hw⟩ := hw
        refine V_wide (cs' := 0) (sl' := 0) (by decide) (by decide) ?_
        refine V_st (st' := []) rfl ?_
        refine V_sub (lv' := [(0, va_rf (some v0)), (1, va_rf (v1)), (2, .int (v2)), (3, .int (v3)), (4, .int (v4))]) [1, 2, 3, 4, 5] rfl ?_
        exact vb_Bytes_putAll_37 hc hq X3 hX3 _ _ _ _ _ _ hw
theorem vl_Bytes_putAll_3 {E : mm_E} {Z : mm_M → Prop} (hc : cx E "EpochServer$Bytes" c_Bytes_putAll 6 none rm_Bytes_putAll) (hq : cq E rm_Bytes_putAll (pV Z))  (v0 : Nat) (v1 : Option Nat) (v2 : Int32) (v3 : Int32) (v4 : Int32) (h : mm_M) (hw : lp_Bytes_putAll_3  (mm_ge (eG E)) v0 v1 v2 v3 v4 h Z) : V E 6 0 0 h 3 [(0, va_rf (some v0)), (1, va_rf (v1)), (2, .int (v2)), (3, .int (v3)), (4, .int (v4))] [] :=
  hw (fun v0 v1 v2 v3 v4 h => V E 6 0 0 h 3 [(0, va_rf (some v0)), (1, va_rf (v1)), (2, .int (v2)), (3, .int (v3)), (4, .int (v4))] []) (fun v0 v1 v2 v3 v4 h hb => vb_Bytes_putAll_3 hc hq  _ (fun _ _ _ _ _ _ q => q) v0 v1 v2 v3 v4 h hb)
set_option maxRecDepth 100000 in
set_option maxHeartbeats 4000000 in
theorem vb_Bytes_putAll_0 {E : mm_E} {Z : mm_M → Prop} (hc : cx E "EpochServer$Bytes" c_Bytes_putAll 6 none rm_Bytes_putAll) (hq : cq E rm_Bytes_putAll (pV Z))  (v0 : Nat) (v1 : Option Nat) (v2 : Int32) (v3 : Int32) (h : mm_M) (hw : wq_Bytes_putAll_0  (mm_ge (eG E)) v0 v1 v2 v3 h Z) : V E 6 0 0 h 0 [(0, va_rf (some v0)), (1, va_rf (v1)), (2, .int (v2)), (3, .int (v3))] [] := by
  unfold wq_Bytes_putAll_0 at hw
  refine V_iconst (v := 0) hc d_Bytes_putAll_0 (by decide) ?_
  refine V_istore (i := 4) (lv' := [(4, .int (0)), (0, va_rf (some v0)), (1, va_rf (v1)), (2, .int (v2)), (3, .int (v3))]) hc d_Bytes_putAll_1 (by decide) rfl ?_
  refine V_sub (lv' := [(0, va_rf (some v0)), (1, va_rf (v1)), (2, .int (v2)), (3, .int (v3)), (4, .int (0))]) [1, 2, 3, 4, 0] rfl ?_
  exact vl_Bytes_putAll_3 hc hq  _ _ _ _ _ _ hw
def wq_Bytes_putAll (ge : Nat → Nat) (v0 : Nat) (v1 : Option Nat) (v2 : Int32) (v3 : Int32) (h : mm_M) (Z : mm_M → Prop) : Prop := wq_Bytes_putAll_0 ge v0 v1 v2 v3 h Z
theorem sat_Bytes_putAll (G : mm_G) (v0 : Nat) (v1 : Option Nat) (v2 : Int32) (v3 : Int32) (h : mm_M) (Z : mm_M → Prop) (hw : wq_Bytes_putAll (mm_ge G) v0 v1 v2 v3 h Z) : mm_Met G y_Bytes_putAll c_Bytes_putAll 6 none rm_Bytes_putAll [va_rf (some v0), va_rf (v1), .int (v2), .int (v3)] h (pV Z) := by
  refine mm_intro (own := "EpochServer$Bytes") (by decide) rfl (by simp [lg_sl, cat_rf, cat_i, cat_l]) (fun E e1 hc hq hi => ?_)
  subst e1
  have e2 : lv_args 0 [va_rf (some v0), va_rf (v1), .int (v2), .int (v3)] = [(0, va_rf (some v0)), (1, va_rf (v1)), (2, .int (v2)), (3, .int (v3))] := by simp [lv_args, cat_rf, cat_i, cat_l]
  rw [e2]
  refine V_sub (lv' := [(0, va_rf (some v0)), (1, va_rf (v1)), (2, .int (v2)), (3, .int (v3))]) [0, 1, 2, 3] rfl ?_
  exact vb_Bytes_putAll_0 hc hq v0 v1 v2 v3 h hw
/-! Bytes.putText([B)V -/
abbrev rm_Bytes_putText : Room := { frames := 2, cells := 0, slots := 0, locals := 49 }
def wq_Bytes_putText_0  (ge : Nat → Nat) (v0 : Nat) (v1 : Option Nat) (h : mm_M) (Z : mm_M → Prop) : Prop :=
  ∃ a1, v1 = some a1 ∧ mm_k h (a1) = ka_B ∧ mm_k h (v0) = kd_Bytes ∧ wq_Bytes_put ge (v0) (Int32.toInt64 (Nat.toInt32 (mm_n h a1))) (2) h (fun h5 : mm_M => ∃ a7, v1 = some a7 ∧ mm_k h5 (a7) = ka_B ∧ mm_k h5 (v0) = kd_Bytes ∧ wq_Bytes_putAll ge (v0) (v1) (0) (Nat.toInt32 (mm_n h5 a7)) h5 (fun h11 : mm_M => Z h11))
set_option maxRecDepth 100000 in
set_option maxHeartbeats 4000000 in
theorem vb_Bytes_putText_0 {E : mm_E} {Z : mm_M → Prop} (hc : cx E "EpochServer$Bytes" c_Bytes_putText 2 none rm_Bytes_putText) (hq : cq E rm_Bytes_putText (pV Z))  (v0 : Nat) (v1 : Option Nat) (h : mm_M) (hw : wq_Bytes_putText_0  (mm_ge (eG E)) v0 v1 h Z) : V E 2 0 0 h 0 [(0, va_rf (some v0)), (1, va_rf (v1))] [] := by
  unfold wq_Bytes_putText_0 at hw
  refine V_aload_n hc 0 d_Bytes_putText_0 rfl rfl ?_
  refine V_aload_n hc 1 d_Bytes_putText_1 rfl rfl ?_
  obtain ⟨a1, q2, hw⟩ := hw
  obtain ⟨q3, hw⟩ := hw
  refine V_alen (t := 1) (ty := .byte) hc rfl q2 q3 d_Bytes_putText_2 ?_
  refine V_i2l hc d_Bytes_putText_3 ?_
  refine V_iconst (v := 2) hc d_Bytes_putText_4 (by decide) ?_
  obtain ⟨q4, hw⟩ := hw
  refine V_callV (rm' := rm_Bytes_put) (As := [.long (Int32.toInt64 (Nat.toInt32 (mm_n h a1))), .int (2)]) (rest := []) (n := 2) (cn := 3) hc rfl q4 (sat_Bytes_put (eG E) _ _ _ _ _ hw) rfl cv_Bytes_23 (gw_of (tw_2 (List.mem_of_getElem? (i := 155) rfl)) rfl) ss_Bytes_put rfl ⟨by decide, by decide⟩ (by decide) (by decide) rfl (by simp [cat_rf, cat_i, cat_l]) d_Bytes_putText_5 (fun r0 h5 hw => ?_)
  obtain ⟨rfl, hw⟩ := hw
  refine V_wide (cs' := 0) (sl' := 0) (by decide) (by decide) ?_
  refine V_st (st' := []) rfl ?_
  refine V_aload_n hc 0 d_Bytes_putText_8 rfl rfl ?_
  refine V_aload_n hc 1 d_Bytes_putText_9 rfl rfl ?_
  refine V_iconst (v := 0) hc d_Bytes_putText_10 (by decide) ?_
  refine V_aload_n hc 1 d_Bytes_putText_11 rfl rfl ?_
  obtain ⟨a7, q8, hw⟩ := hw
  obtain ⟨q9, hw⟩ := hw
  refine V_alen (t := 1) (ty := .byte) hc rfl q8 q9 d_Bytes_putText_12 ?_
  obtain ⟨q10, hw⟩ := hw
  refine V_callV (rm' := rm_Bytes_putAll) (As := [va_rf (v1), .int (0), .int (Nat.toInt32 (mm_n h5 a7))]) (rest := []) (n := 3) (cn := 3) hc rfl q10 (sat_Bytes_putAll (eG E) _ _ _ _ _ _ hw) rfl cv_Bytes_27 (gw_of (tw_3 (List.mem_of_getElem? (i := 15) rfl)) rfl) ss_Bytes_putAll rfl ⟨by decide, by decide⟩ (by decide) (by decide) rfl (by simp [cat_rf, cat_i, cat_l]) d_Bytes_putText_13 (fun r0 h11 hw => ?_)
  obtain ⟨rfl, hw⟩ := hw
  refine V_wide (cs' := 0) (sl' := 0) (by decide) (by decide) ?_
  refine V_st (st' := []) rfl ?_
  exact V_vret hc hq ⟨rfl, hw⟩ (by decide) (by decide) d_Bytes_putText_16
def wq_Bytes_putText (ge : Nat → Nat) (v0 : Nat) (v1 : Option Nat) (h : mm_M) (Z : mm_M → Prop) : Prop := wq_Bytes_putText_0 ge v0 v1 h Z
theorem sat_Bytes_putText (G : mm_G) (v0 : Nat) (v1 : Option Nat) (h : mm_M) (Z : mm_M → Prop) (hw : wq_Bytes_putText (mm_ge G) v0 v1 h Z) : mm_Met G y_Bytes_putText c_Bytes_putText 2 none rm_Bytes_putText [va_rf (some v0), va_rf (v1)] h (pV Z) := by
  refine mm_intro (own := "EpochServer$Bytes") (by decide) rfl (by simp [lg_sl, cat_rf, cat_i, cat_l]) (fun E e1 hc hq hi => ?_)
  subst e1
  have e2 : lv_args 0 [va_rf (some v0), va_rf (v1)] = [(0, va_rf (some v0)), (1, va_rf (v1))] := by simp [lv_args, cat_rf, cat_i, cat_l]
  rw [e2]
  refine V_sub (lv' := [(0, va_rf (some v0)), (1, va_rf (v1))]) [0, 1] rfl ?_
  exact vb_Bytes_putText_0 hc hq v0 v1 h hw
/-! Bytes.putStat(LEpochServer$Node;)V -/
abbrev rm_Bytes_putStat : Room := { frames := 3, cells := 0, slots := 0, locals := 70 }
def wq_Bytes_putStat_81 (X81 : Nat → Int32 → mm_M → Prop) (ge : Nat → Nat) (v0 : Nat) (v2 : Int32) (h : mm_M) (Z : mm_M → Prop) : Prop :=
  (((3 : Int32) ≤ (v2 : Int32) → Z h) ∧ (¬ (3 : Int32) ≤ (v2 : Int32) → mm_k h (v0) = kd_Bytes ∧ wq_Bytes_put ge (v0) (1) (2) h (fun h2 : mm_M => mm_k h2 (v0) = kd_Bytes ∧ wq_Bytes_put ge (v0) (103) (1) h2 (fun h5 : mm_M => X81 (v0) (v2 + 1) h5))))
def lp_Bytes_putStat_81  (ge : Nat → Nat) (v0 : Nat) (v2 : Int32) (h : mm_M) (Z : mm_M → Prop) : Prop :=
  ∀ X81 : Nat → Int32 → mm_M → Prop, (∀ (v0 : Nat) (v2 : Int32) (h : mm_M), wq_Bytes_putStat_81 X81 ge v0 v2 h Z → X81 v0 v2 h) → X81 v0 v2 h
def wq_Bytes_putStat_0  (ge : Nat → Nat) (v0 : Nat) (v1 : Option Nat) (h : mm_M) (Z : mm_M → Prop) : Prop :=
  ∃ a1, v1 = some a1 ∧ mm_k h (a1) = kd_Node ∧ wq_Node_statSize ge (a1) h (fun (r5 : Int32) (h4 : mm_M) => mm_k h4 (v0) = kd_Bytes ∧ wq_Bytes_put ge (v0) (Int32.toInt64 ((r5) - (2 : Int32))) (2) h4 (fun h7 : mm_M => mm_k h7 (v0) = kd_Bytes ∧ wq_Bytes_put ge (v0) (0) (2) h7 (fun h10 : mm_M => mm_k h10 (v0) = kd_Bytes ∧ wq_Bytes_put ge (v0) (0) (4) h10 (fun h13 : mm_M => mm_k h13 (v0) = kd_Bytes ∧ wq_Bytes_putQid ge (v0) (v1) h13 (fun h16 : mm_M => ∃ a18, v1 = some a18 ∧ mm_k h16 (a18) = kd_Node ∧ mm_k h16 (v0) = kd_Bytes ∧ wq_Bytes_put ge (v0) (Int32.toInt64 (mm_I h16 a18 3)) (4) h16 (fun h22 : mm_M => ∃ a24, v1 = some a24 ∧ mm_k h22 (a24) = kd_Node ∧ mm_k h22 (v0) = kd_Bytes ∧ wq_Bytes_put ge (v0) (Int32.toInt64 (mm_I h22 a24 5)) (4) h22 (fun h28 : mm_M => ∃ a30, v1 = some a30 ∧ mm_k h28 (a30) = kd_Node ∧ mm_k h28 (v0) = kd_Bytes ∧ wq_Bytes_put ge (v0) (Int32.toInt64 (mm_I h28 a30 5)) (4) h28 (fun h34 : mm_M => ∃ a36, v1 = some a36 ∧ mm_k h34 (a36) = kd_Node ∧ ∃ a39, mm_P h34 a36 6 = some a39 ∧ mm_k h34 (a39) = ka_B ∧ mm_k h34 (v0) = kd_Bytes ∧ wq_Bytes_put ge (v0) (Int32.toInt64 (Nat.toInt32 (mm_n h34 a39))) (8) h34 (fun h43 : mm_M => ∃ a45, v1 = some a45 ∧ mm_k h43 (a45) = kd_Node ∧ mm_k h43 (v0) = kd_Bytes ∧ wq_Bytes_putText ge (v0) (mm_P h43 a45 2) h43 (fun h49 : mm_M => lp_Bytes_putStat_81  ge (v0) (0) h49 Z))))))))))
set_option maxRecDepth 100000 in
set_option maxHeartbeats 4000000 in
theorem vb_Bytes_putStat_81 {E : mm_E} {Z : mm_M → Prop} (hc : cx E "EpochServer$Bytes" c_Bytes_putStat 3 none rm_Bytes_putStat) (hq : cq E rm_Bytes_putStat (pV Z)) (X81 : Nat → Int32 → mm_M → Prop) (hX81 : ∀ (v0 : Nat) (v2 : Int32) (h : mm_M), X81 v0 v2 h → V E 3 0 0 h 81 [(0, va_rf (some v0)), (2, .int (v2))] []) (v0 : Nat) (v2 : Int32) (h : mm_M) (hw : wq_Bytes_putStat_81 X81 (mm_ge (eG E)) v0 v2 h Z) : V E 3 0 0 h 81 [(0, va_rf (some v0)), (2, .int (v2))] [] := by
  unfold wq_Bytes_putStat_81 at hw
  refine V_iload_n hc 1 d_Bytes_putStat_81 rfl rfl ?_
  refine V_iconst (v := 3) hc d_Bytes_putStat_82 (by decide) ?_
  refine V_icmp_ge (tgt := 106) hc d_Bytes_putStat_83 (by decide) (fun hq1 => ?_) (fun hq1 => ?_)
  · replace hw := hw.1 hq1
    exact V_vret hc hq ⟨rfl, hw⟩ (by decide) (by decide) d_Bytes_putStat_106
  · replace hw := hw.2 hq1
    refine V_aload_n hc 0 d_Bytes_putStat_86 rfl rfl ?_
    refine V_lconst (v := 1) hc d_Bytes_putStat_87 (by decide) ?_
    refine V_iconst (v := 2) hc d_Bytes_putStat_88 (by decide) ?_
    obtain ⟨q1, hw⟩ := hw
    refine V_callV (rm' := rm_Bytes_put) (As := [.long (1), .int (2)]) (rest := []) (n := 2) (cn := 3) hc rfl q1 (sat_Bytes_put (eG E) _ _ _ _ _ hw) rfl cv_Bytes_23 (gw_of (tw_2 (List.mem_of_getElem? (i := 155) rfl)) rfl) ss_Bytes_put rfl ⟨by decide, by decide⟩ (by decide) (by decide) rfl (by simp [cat_rf, cat_i, cat_l]) d_Bytes_putStat_89 (fun r0 h2 hw => ?_)
    obtain ⟨rfl, hw⟩ := hw
    refine V_wide (cs' := 0) (sl' := 0) (by decide) (by decide) ?_
    refine V_st (st' := []) rfl ?_
    refine V_aload_n hc 0 d_Bytes_putStat_92 rfl rfl ?_
    refine V_ldc2 (v := 103) hc (gw_of (tw_3 (List.mem_of_getElem? (i := 205) rfl)) rfl) d_Bytes_putStat_93 ?_
    refine V_iconst (v := 1) hc d_Bytes_putStat_96 (by decide) ?_
    obtain ⟨q4, hw⟩ := hw
    refine V_callV (rm' := rm_Bytes_put) (As := [.long (103), .int (1)]) (rest := []) (n := 2) (cn := 3) hc rfl q4 (sat_Bytes_put (eG E) _ _ _ _ _ hw) rfl cv_Bytes_23 (gw_of (tw_2 (List.mem_of_getElem? (i := 155) rfl)) rfl) ss_Bytes_put rfl ⟨by decide, by decide⟩ (by decide) (by decide) rfl (by simp [cat_rf, cat_i, cat_l]) d_Bytes_putStat_97 (fun r0 h5 hw => ?_)
    obtain ⟨rfl, hw⟩ := hw
    refine V_wide (cs' := 0) (sl' := 0) (by decide) (by decide) ?_
    refine V_st (st' := []) rfl ?_
    refine V_iinc (v := v2 + 1) (lv' := [(2, .int (v2 + 1)), (0, va_rf (some v0))]) hc 1 d_Bytes_putStat_100 rfl rfl (by decide) rfl ?_
    refine V_goto (tgt := 81) hc d_Bytes_putStat_103 (by decide) ?_
    refine V_sub (lv' := [(0, va_rf (some v0)), (2, .int (v2 + 1))]) [1, 0] rfl ?_
    exact hX81 _ _ _ hw
theorem vl_Bytes_putStat_81 {E : mm_E} {Z : mm_M → Prop} (hc : cx E "EpochServer$Bytes" c_Bytes_putStat 3 none rm_Bytes_putStat) (hq : cq E rm_Bytes_putStat (pV Z))  (v0 : Nat) (v2 : Int32) (h : mm_M) (hw : lp_Bytes_putStat_81  (mm_ge (eG E)) v0 v2 h Z) : V E 3 0 0 h 81 [(0, va_rf (some v0)), (2, .int (v2))] [] :=
  hw (fun v0 v2 h => V E 3 0 0 h 81 [(0, va_rf (some v0)), (2, .int (v2))] []) (fun v0 v2 h hb => vb_Bytes_putStat_81 hc hq  _ (fun _ _ _ q => q) v0 v2 h hb)
set_option maxRecDepth 100000 in
set_option maxHeartbeats 4000000 in
theorem vb_Bytes_putStat_0 {E : mm_E} {Z : mm_M → Prop} (hc : cx E "EpochServer$Bytes" c_Bytes_putStat 3 none rm_Bytes_putStat) (hq : cq E rm_Bytes_putStat (pV Z))  (v0 : Nat) (v1 : Option Nat) (h : mm_M) (hw : wq_Bytes_putStat_0  (mm_ge (eG E)) v0 v1 h Z) : V E 3 0 0 h 0 [(0, va_rf (some v0)), (1, va_rf (v1))] [] := by
  unfold wq_Bytes_putStat_0 at hw
  refine V_aload_n hc 0 d_Bytes_putStat_0 rfl rfl ?_
  refine V_aload_n hc 1 d_Bytes_putStat_1 rfl rfl ?_
  obtain ⟨a1, q2, hw⟩ := hw
  obtain ⟨q3, hw⟩ := hw
  refine V_callV (rm' := rm_Node_statSize) (As := []) (rest := [va_rf (some v0)]) (n := 0) (cn := 7) hc q2 q3 (sat_Node_statSize (eG E) _ _ _ hw) rfl cv_Bytes_45 (gw_of (tw_3 (List.mem_of_getElem? (i := 195) rfl)) rfl) ss_Node_statSize rfl ⟨by decide, by decide⟩ (by decide) (by decide) rfl (by simp [cat_rf, cat_i, cat_l]) d_Bytes_putStat_2 (fun r0 h4 hw => ?_)
  obtain ⟨r5, rfl, hw⟩ := hw
  refine V_wide (cs' := 0) (sl' := 0) (by decide) (by decide) ?_
  refine V_st (st' := [.int (r5), va_rf (some v0)]) rfl ?_
  refine V_iconst (v := 2) hc d_Bytes_putStat_5 (by decide) ?_
  refine V_isub hc d_Bytes_putStat_6 ?_
  refine V_i2l hc d_Bytes_putStat_7 ?_
  refine V_iconst (v := 2) hc d_Bytes_putStat_8 (by decide) ?_
  obtain ⟨q6, hw⟩ := hw
  refine V_callV (rm' := rm_Bytes_put) (As := [.long (Int32.toInt64 ((r5) - (2 : Int32))), .int (2)]) (rest := []) (n := 2) (cn := 3) hc rfl q6 (sat_Bytes_put (eG E) _ _ _ _ _ hw) rfl cv_Bytes_23 (gw_of (tw_2 (List.mem_of_getElem? (i := 155) rfl)) rfl) ss_Bytes_put rfl ⟨by decide, by decide⟩ (by decide) (by decide) rfl (by simp [cat_rf, cat_i, cat_l]) d_Bytes_putStat_9 (fun r0 h7 hw => ?_)
  obtain ⟨rfl, hw⟩ := hw
  refine V_wide (cs' := 0) (sl' := 0) (by decide) (by decide) ?_
  refine V_st (st' := []) rfl ?_
  refine V_aload_n hc 0 d_Bytes_putStat_12 rfl rfl ?_
  refine V_lconst (v := 0) hc d_Bytes_putStat_13 (by decide) ?_
  refine V_iconst (v := 2) hc d_Bytes_putStat_14 (by decide) ?_
  obtain ⟨q9, hw⟩ := hw
  refine V_callV (rm' := rm_Bytes_put) (As := [.long (0), .int (2)]) (rest := []) (n := 2) (cn := 3) hc rfl q9 (sat_Bytes_put (eG E) _ _ _ _ _ hw) rfl cv_Bytes_23 (gw_of (tw_2 (List.mem_of_getElem? (i := 155) rfl)) rfl) ss_Bytes_put rfl ⟨by decide, by decide⟩ (by decide) (by decide) rfl (by simp [cat_rf, cat_i, cat_l]) d_Bytes_putStat_15 (fun r0 h10 hw => ?_)
  obtain ⟨rfl, hw⟩ := hw
  refine V_wide (cs' := 0) (sl' := 0) (by decide) (by decide) ?_
  refine V_st (st' := []) rfl ?_
  refine V_aload_n hc 0 d_Bytes_putStat_18 rfl rfl ?_
  refine V_lconst (v := 0) hc d_Bytes_putStat_19 (by decide) ?_
  refine V_iconst (v := 4) hc d_Bytes_putStat_20 (by decide) ?_
  obtain ⟨q12, hw⟩ := hw
  refine V_callV (rm' := rm_Bytes_put) (As := [.long (0), .int (4)]) (rest := []) (n := 2) (cn := 3) hc rfl q12 (sat_Bytes_put (eG E) _ _ _ _ _ hw) rfl cv_Bytes_23 (gw_of (tw_2 (List.mem_of_getElem? (i := 155) rfl)) rfl) ss_Bytes_put rfl ⟨by decide, by decide⟩ (by decide) (by decide) rfl (by simp [cat_rf, cat_i, cat_l]) d_Bytes_putStat_21 (fun r0 h13 hw => ?_)
  obtain ⟨rfl, hw⟩ := hw
  refine V_wide (cs' := 0) (sl' := 0) (by decide) (by decide) ?_
  refine V_st (st' := []) rfl ?_
  refine V_aload_n hc 0 d_Bytes_putStat_24 rfl rfl ?_
  refine V_aload_n hc 1 d_Bytes_putStat_25 rfl rfl ?_
  obtain ⟨q15, hw⟩ := hw
  refine V_callV (rm' := rm_Bytes_putQid) (As := [va_rf (v1)]) (rest := []) (n := 1) (cn := 3) hc rfl q15 (sat_Bytes_putQid (eG E) _ _ _ _ hw) rfl cv_Bytes_49 (gw_of (tw_3 (List.mem_of_getElem? (i := 55) rfl)) rfl) ss_Bytes_putQid rfl ⟨by decide, by decide⟩ (by decide) (by decide) rfl (by simp [cat_rf, cat_i, cat_l]) d_Bytes_putStat_26 (fun r0 h16 hw => ?_)
  obtain ⟨rfl, hw⟩ := hw
  refine V_wide (cs' := 0) (sl' := 0) (by decide) (by decide) ?_
  refine V_st (st' := []) rfl ?_
  refine V_aload_n hc 0 d_Bytes_putStat_29 rfl rfl ?_
  refine V_aload_n hc 1 d_Bytes_putStat_30 rfl rfl ?_
  obtain ⟨a18, q19, hw⟩ := hw
  obtain ⟨q20, hw⟩ := hw
  refine V_get (v := .int (mm_I h16 a18 3)) hc gf_Bytes_53 q19 q20 rfl d_Bytes_putStat_31 ?_
  refine V_i2l hc d_Bytes_putStat_34 ?_
  refine V_iconst (v := 4) hc d_Bytes_putStat_35 (by decide) ?_
  obtain ⟨q21, hw⟩ := hw
  refine V_callV (rm' := rm_Bytes_put) (As := [.long (Int32.toInt64 (mm_I h16 a18 3)), .int (4)]) (rest := []) (n := 2) (cn := 3) hc rfl q21 (sat_Bytes_put (eG E) _ _ _ _ _ hw) rfl cv_Bytes_23 (gw_of (tw_2 (List.mem_of_getElem? (i := 155) rfl)) rfl) ss_Bytes_put rfl ⟨by decide, by decide⟩ (by decide) (by decide) rfl (by simp [cat_rf, cat_i, cat_l]) d_Bytes_putStat_36 (fun r0 h22 hw => ?_)
  obtain ⟨rfl, hw⟩ := hw
  refine V_wide (cs' := 0) (sl' := 0) (by decide) (by decide) ?_
  refine V_st (st' := []) rfl ?_
  refine V_aload_n hc 0 d_Bytes_putStat_39 rfl rfl ?_
  refine V_aload_n hc 1 d_Bytes_putStat_40 rfl rfl ?_
  obtain ⟨a24, q25, hw⟩ := hw
  obtain ⟨q26, hw⟩ := hw
  refine V_get (v := .int (mm_I h22 a24 5)) hc gf_Bytes_56 q25 q26 rfl d_Bytes_putStat_41 ?_
  refine V_i2l hc d_Bytes_putStat_44 ?_
  refine V_iconst (v := 4) hc d_Bytes_putStat_45 (by decide) ?_
  obtain ⟨q27, hw⟩ := hw
  refine V_callV (rm' := rm_Bytes_put) (As := [.long (Int32.toInt64 (mm_I h22 a24 5)), .int (4)]) (rest := []) (n := 2) (cn := 3) hc rfl q27 (sat_Bytes_put (eG E) _ _ _ _ _ hw) rfl cv_Bytes_23 (gw_of (tw_2 (List.mem_of_getElem? (i := 155) rfl)) rfl) ss_Bytes_put rfl ⟨by decide, by decide⟩ (by decide) (by decide) rfl (by simp [cat_rf, cat_i, cat_l]) d_Bytes_putStat_46 (fun r0 h28 hw => ?_)
  obtain ⟨rfl, hw⟩ := hw
  refine V_wide (cs' := 0) (sl' := 0) (by decide) (by decide) ?_
  refine V_st (st' := []) rfl ?_
  refine V_aload_n hc 0 d_Bytes_putStat_49 rfl rfl ?_
  refine V_aload_n hc 1 d_Bytes_putStat_50 rfl rfl ?_
  obtain ⟨a30, q31, hw⟩ := hw
  obtain ⟨q32, hw⟩ := hw
  refine V_get (v := .int (mm_I h28 a30 5)) hc gf_Bytes_56 q31 q32 rfl d_Bytes_putStat_51 ?_
  refine V_i2l hc d_Bytes_putStat_54 ?_
  refine V_iconst (v := 4) hc d_Bytes_putStat_55 (by decide) ?_
  obtain ⟨q33, hw⟩ := hw
  refine V_callV (rm' := rm_Bytes_put) (As := [.long (Int32.toInt64 (mm_I h28 a30 5)), .int (4)]) (rest := []) (n := 2) (cn := 3) hc rfl q33 (sat_Bytes_put (eG E) _ _ _ _ _ hw) rfl cv_Bytes_23 (gw_of (tw_2 (List.mem_of_getElem? (i := 155) rfl)) rfl) ss_Bytes_put rfl ⟨by decide, by decide⟩ (by decide) (by decide) rfl (by simp [cat_rf, cat_i, cat_l]) d_Bytes_putStat_56 (fun r0 h34 hw => ?_)
  obtain ⟨rfl, hw⟩ := hw
  refine V_wide (cs' := 0) (sl' := 0) (by decide) (by decide) ?_
  refine V_st (st' := []) rfl ?_
  refine V_aload_n hc 0 d_Bytes_putStat_59 rfl rfl ?_
  refine V_aload_n hc 1 d_Bytes_putStat_60 rfl rfl ?_
  obtain ⟨a36, q37, hw⟩ := hw
  obtain ⟨q38, hw⟩ := hw
  refine V_get (v := va_rf (mm_P h34 a36 6)) hc gf_Bytes_59 q37 q38 rfl d_Bytes_putStat_61 ?_
  obtain ⟨a39, q40, hw⟩ := hw
  obtain ⟨q41, hw⟩ := hw
  refine V_alen (t := 1) (ty := .byte) hc rfl q40 q41 d_Bytes_putStat_64 ?_
  refine V_i2l hc d_Bytes_putStat_65 ?_
  refine V_bipush (v := 8) hc d_Bytes_putStat_66 (by decide) ?_
  obtain ⟨q42, hw⟩ := hw
  refine V_callV (rm' := rm_Bytes_put) (As := [.long (Int32.toInt64 (Nat.toInt32 (mm_n h34 a39))), .int (8)]) (rest := []) (n := 2) (cn := 3) hc rfl q42 (sat_Bytes_put (eG E) _ _ _ _ _ hw) rfl cv_Bytes_23 (gw_of (tw_2 (List.mem_of_getElem? (i := 155) rfl)) rfl) ss_Bytes_put rfl ⟨by decide, by decide⟩ (by decide) (by decide) rfl (by simp [cat_rf, cat_i, cat_l]) d_Bytes_putStat_68 (fun r0 h43 hw => ?_)
  obtain ⟨rfl, hw⟩ := hw
  refine V_wide (cs' := 0) (sl' := 0) (by decide) (by decide) ?_
  refine V_st (st' := []) rfl ?_
  refine V_aload_n hc 0 d_Bytes_putStat_71 rfl rfl ?_
  refine V_aload_n hc 1 d_Bytes_putStat_72 rfl rfl ?_
  obtain ⟨a45, q46, hw⟩ := hw
  obtain ⟨q47, hw⟩ := hw
  refine V_get (v := va_rf (mm_P h43 a45 2)) hc gf_Bytes_62 q46 q47 rfl d_Bytes_putStat_73 ?_
  obtain ⟨q48, hw⟩ := hw
  refine V_callV (rm' := rm_Bytes_putText) (As := [va_rf (mm_P h43 a45 2)]) (rest := []) (n := 1) (cn := 3) hc rfl q48 (sat_Bytes_putText (eG E) _ _ _ _ hw) rfl cv_Bytes_65 (gw_of (tw_3 (List.mem_of_getElem? (i := 11) rfl)) rfl) ss_Bytes_putText rfl ⟨by decide, by decide⟩ (by decide) (by decide) rfl (by simp [cat_rf, cat_i, cat_l]) d_Bytes_putStat_76 (fun r0 h49 hw => ?_)
  obtain ⟨rfl, hw⟩ := hw
  refine V_wide (cs' := 0) (sl' := 0) (by decide) (by decide) ?_
  refine V_st (st' := []) rfl ?_
  refine V_iconst (v := 0) hc d_Bytes_putStat_79 (by decide) ?_
  refine V_istore_n (i := 2) (lv' := [(2, .int (0)), (0, va_rf (some v0)), (1, va_rf (v1))]) hc d_Bytes_putStat_80 rfl (by decide) (by simp [cat_rf, cat_i, cat_l]) ?_
  refine V_sub (lv' := [(0, va_rf (some v0)), (2, .int (0))]) [1, 0] rfl ?_
  exact vl_Bytes_putStat_81 hc hq  _ _ _ hw
def wq_Bytes_putStat (ge : Nat → Nat) (v0 : Nat) (v1 : Option Nat) (h : mm_M) (Z : mm_M → Prop) : Prop := wq_Bytes_putStat_0 ge v0 v1 h Z
theorem sat_Bytes_putStat (G : mm_G) (v0 : Nat) (v1 : Option Nat) (h : mm_M) (Z : mm_M → Prop) (hw : wq_Bytes_putStat (mm_ge G) v0 v1 h Z) : mm_Met G y_Bytes_putStat c_Bytes_putStat 3 none rm_Bytes_putStat [va_rf (some v0), va_rf (v1)] h (pV Z) := by
  refine mm_intro (own := "EpochServer$Bytes") (by decide) rfl (by simp [lg_sl, cat_rf, cat_i, cat_l]) (fun E e1 hc hq hi => ?_)
  subst e1
  have e2 : lv_args 0 [va_rf (some v0), va_rf (v1)] = [(0, va_rf (some v0)), (1, va_rf (v1))] := by simp [lv_args, cat_rf, cat_i, cat_l]
  rw [e2]
  refine V_sub (lv' := [(0, va_rf (some v0)), (1, va_rf (v1))]) [0, 1] rfl ?_
  exact vb_Bytes_putStat_0 hc hq v0 v1 h hw
/-! Bytes.putHighestFirst(I)V -/
abbrev rm_Bytes_putHighestFirst : Room := { frames := 1, cells := 0, slots := 0, locals := 24 }
def wq_Bytes_putHighestFirst_0  (ge : Nat → Nat) (v0 : Nat) (v1 : Int32) (h : mm_M) (Z : mm_M → Prop) : Prop :=
  mm_k h (v0) = kd_Bytes ∧ wq_Bytes_put ge (v0) (Int32.toInt64 ((v1) >>> ((24 : Int32) &&& 31))) (1) h (fun h2 : mm_M => mm_k h2 (v0) = kd_Bytes ∧ wq_Bytes_put ge (v0) (Int32.toInt64 ((v1) >>> ((16 : Int32) &&& 31))) (1) h2 (fun h5 : mm_M => mm_k h5 (v0) = kd_Bytes ∧ wq_Bytes_put ge (v0) (Int32.toInt64 ((v1) >>> ((8 : Int32) &&& 31))) (1) h5 (fun h8 : mm_M => mm_k h8 (v0) = kd_Bytes ∧ wq_Bytes_put ge (v0) (Int32.toInt64 (v1)) (1) h8 (fun h11 : mm_M => Z h11))))
set_option maxRecDepth 100000 in
set_option maxHeartbeats 4000000 in
theorem vb_Bytes_putHighestFirst_0 {E : mm_E} {Z : mm_M → Prop} (hc : cx E "EpochServer$Bytes" c_Bytes_putHighestFirst 2 none rm_Bytes_putHighestFirst) (hq : cq E rm_Bytes_putHighestFirst (pV Z))  (v0 : Nat) (v1 : Int32) (h : mm_M) (hw : wq_Bytes_putHighestFirst_0  (mm_ge (eG E)) v0 v1 h Z) : V E 2 0 0 h 0 [(0, va_rf (some v0)), (1, .int (v1))] [] := by
  unfold wq_Bytes_putHighestFirst_0 at hw
  refine V_aload_n hc 0 d_Bytes_putHighestFirst_0 rfl rfl ?_
  refine V_iload_n hc 1 d_Bytes_putHighestFirst_1 rfl rfl ?_
  refine V_bipush (v := 24) hc d_Bytes_putHighestFirst_2 (by decide) ?_
  refine V_ishr hc d_Bytes_putHighestFirst_4 ?_
  refine V_i2l hc d_Bytes_putHighestFirst_5 ?_
  refine V_iconst (v := 1) hc d_Bytes_putHighestFirst_6 (by decide) ?_
  obtain ⟨q1, hw⟩ := hw
  refine V_callV (rm' := rm_Bytes_put) (As := [.long (Int32.toInt64 ((v1) >>> ((24 : Int32) &&& 31))), .int (1)]) (rest := []) (n := 2) (cn := 3) hc rfl q1 (sat_Bytes_put (eG E) _ _ _ _ _ hw) rfl cv_Bytes_23 (gw_of (tw_2 (List.mem_of_getElem? (i := 155) rfl)) rfl) ss_Bytes_put rfl ⟨by decide, by decide⟩ (by decide) (by decide) rfl (by simp [cat_rf, cat_i, cat_l]) d_Bytes_putHighestFirst_7 (fun r0 h2 hw => ?_)
  obtain ⟨rfl, hw⟩ := hw
  refine V_wide (cs' := 0) (sl' := 0) (by decide) (by decide) ?_
  refine V_st (st' := []) rfl ?_
  refine V_aload_n hc 0 d_Bytes_putHighestFirst_10 rfl rfl ?_
  refine V_iload_n hc 1 d_Bytes_putHighestFirst_11 rfl rfl ?_
  refine V_bipush (v := 16) hc d_Bytes_putHighestFirst_12 (by decide) ?_
  refine V_ishr hc d_Bytes_putHighestFirst_14 ?_
  refine V_i2l hc d_Bytes_putHighestFirst_15 ?_
  refine V_iconst (v := 1) hc d_Bytes_putHighestFirst_16 (by decide) ?_
  obtain ⟨q4, hw⟩ := hw
  refine V_callV (rm' := rm_Bytes_put) (As := [.long (Int32.toInt64 ((v1) >>> ((16 : Int32) &&& 31))), .int (1)]) (rest := []) (n := 2) (cn := 3) hc rfl q4 (sat_Bytes_put (eG E) _ _ _ _ _ hw) rfl cv_Bytes_23 (gw_of (tw_2 (List.mem_of_getElem? (i := 155) rfl)) rfl) ss_Bytes_put rfl ⟨by decide, by decide⟩ (by decide) (by decide) rfl (by simp [cat_rf, cat_i, cat_l]) d_Bytes_putHighestFirst_17 (fun r0 h5 hw => ?_)
  obtain ⟨rfl, hw⟩ := hw
  refine V_wide (cs' := 0) (sl' := 0) (by decide) (by decide) ?_
  refine V_st (st' := []) rfl ?_
  refine V_aload_n hc 0 d_Bytes_putHighestFirst_20 rfl rfl ?_
  refine V_iload_n hc 1 d_Bytes_putHighestFirst_21 rfl rfl ?_
  refine V_bipush (v := 8) hc d_Bytes_putHighestFirst_22 (by decide) ?_
  refine V_ishr hc d_Bytes_putHighestFirst_24 ?_
  refine V_i2l hc d_Bytes_putHighestFirst_25 ?_
  refine V_iconst (v := 1) hc d_Bytes_putHighestFirst_26 (by decide) ?_
  obtain ⟨q7, hw⟩ := hw
  refine V_callV (rm' := rm_Bytes_put) (As := [.long (Int32.toInt64 ((v1) >>> ((8 : Int32) &&& 31))), .int (1)]) (rest := []) (n := 2) (cn := 3) hc rfl q7 (sat_Bytes_put (eG E) _ _ _ _ _ hw) rfl cv_Bytes_23 (gw_of (tw_2 (List.mem_of_getElem? (i := 155) rfl)) rfl) ss_Bytes_put rfl ⟨by decide, by decide⟩ (by decide) (by decide) rfl (by simp [cat_rf, cat_i, cat_l]) d_Bytes_putHighestFirst_27 (fun r0 h8 hw => ?_)
  obtain ⟨rfl, hw⟩ := hw
  refine V_wide (cs' := 0) (sl' := 0) (by decide) (by decide) ?_
  refine V_st (st' := []) rfl ?_
  refine V_aload_n hc 0 d_Bytes_putHighestFirst_30 rfl rfl ?_
  refine V_iload_n hc 1 d_Bytes_putHighestFirst_31 rfl rfl ?_
  refine V_i2l hc d_Bytes_putHighestFirst_32 ?_
  refine V_iconst (v := 1) hc d_Bytes_putHighestFirst_33 (by decide) ?_
  obtain ⟨q10, hw⟩ := hw
  refine V_callV (rm' := rm_Bytes_put) (As := [.long (Int32.toInt64 (v1)), .int (1)]) (rest := []) (n := 2) (cn := 3) hc rfl q10 (sat_Bytes_put (eG E) _ _ _ _ _ hw) rfl cv_Bytes_23 (gw_of (tw_2 (List.mem_of_getElem? (i := 155) rfl)) rfl) ss_Bytes_put rfl ⟨by decide, by decide⟩ (by decide) (by decide) rfl (by simp [cat_rf, cat_i, cat_l]) d_Bytes_putHighestFirst_34 (fun r0 h11 hw => ?_)
  obtain ⟨rfl, hw⟩ := hw
  refine V_wide (cs' := 0) (sl' := 0) (by decide) (by decide) ?_
  refine V_st (st' := []) rfl ?_
  exact V_vret hc hq ⟨rfl, hw⟩ (by decide) (by decide) d_Bytes_putHighestFirst_37
def wq_Bytes_putHighestFirst (ge : Nat → Nat) (v0 : Nat) (v1 : Int32) (h : mm_M) (Z : mm_M → Prop) : Prop := wq_Bytes_putHighestFirst_0 ge v0 v1 h Z
theorem sat_Bytes_putHighestFirst (G : mm_G) (v0 : Nat) (v1 : Int32) (h : mm_M) (Z : mm_M → Prop) (hw : wq_Bytes_putHighestFirst (mm_ge G) v0 v1 h Z) : mm_Met G y_Bytes_putHighestFirst c_Bytes_putHighestFirst 2 none rm_Bytes_putHighestFirst [va_rf (some v0), .int (v1)] h (pV Z) := by
  refine mm_intro (own := "EpochServer$Bytes") (by decide) rfl (by simp [lg_sl, cat_rf, cat_i, cat_l]) (fun E e1 hc hq hi => ?_)
  subst e1
  have e2 : lv_args 0 [va_rf (some v0), .int (v1)] = [(0, va_rf (some v0)), (1, .int (v1))] := by simp [lv_args, cat_rf, cat_i, cat_l]
  rw [e2]
  refine V_sub (lv' := [(0, va_rf (some v0)), (1, .int (v1))]) [0, 1] rfl ?_
  exact vb_Bytes_putHighestFirst_0 hc hq v0 v1 h hw
