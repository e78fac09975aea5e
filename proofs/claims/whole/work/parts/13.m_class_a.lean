/-! Store.<init>()V -/
abbrev rm_Store_init : Room := { frames := 1, cells := 1, slots := 3000, locals := 24 }
def wq_Store_init_0  (ge : Nat → Nat) (v0 : Nat) (h : mm_M) (Z : mm_M → Prop) : Prop :=
  mm_k h (v0) = kd_Store ∧ ge 0 ≤ v0 ∧ ∀ h3 : mm_M, h3 = mm_uI h (v0) 0 (0) → mm_k h3 (v0) = kd_Store ∧ ge 0 ≤ v0 ∧ ∀ h6 : mm_M, h6 = mm_uI h3 (v0) 1 (0) → ∀ h7 : mm_M, h7 = mm_nw h6 100 3000 → ∀ a8 : Nat, a8 = mm_z h6 → mm_k h7 (v0) = kd_Store ∧ ge 0 ≤ v0 ∧ ∀ h11 : mm_M, h11 = mm_uP h7 (v0) 2 (some a8) → Z h11
set_option maxRecDepth 100000 in
set_option maxHeartbeats 4000000 in
theorem vb_Store_init_0 {E : mm_E} {Z : mm_M → Prop} (hc : cx E "EpochServer$Store" c_Store_init 1 none rm_Store_init) (hq : cq E rm_Store_init (pV Z)) (hin : ci E)  (v0 : Nat) (h : mm_M) (hw : wq_Store_init_0  (mm_ge (eG E)) v0 h Z) : V E 1 0 0 h 0 [(0, va_rf (some v0))] [] := by
  unfold wq_Store_init_0 at hw
  refine V_aload_n hc 0 d_Store_init_0 rfl rfl ?_
  refine V_objInit hc rfl (gw_of (tw_1 (List.mem_of_getElem? (i := 237) rfl)) rfl) (gw_of (tw_1 (List.mem_of_getElem? (i := 27) rfl)) rfl) (gw_of (tw_1 (List.mem_of_getElem? (i := 28) rfl)) rfl) d_Store_init_1 (by decide) (by decide) ?_
  refine V_aload_n hc 0 d_Store_init_4 rfl rfl ?_
  refine V_iconst (v := 0) hc d_Store_init_5 (by decide) ?_
  obtain ⟨q1, hw⟩ := hw
  obtain ⟨q2, hw⟩ := hw
  obtain ⟨h3, eq_h3⟩ : ∃ x, x = mm_uI h (v0) 0 (0) := ⟨_, rfl⟩
  replace hw := hw _ eq_h3
  refine V_put (h' := h3) hc gf_Store_9 rfl rfl q1 q2 (by rw [eq_h3]; exact mm_Up_I _ _ _ _) (by rw [eq_h3]; exact up_vI rfl) (vp_nar_int _) rfl d_Store_init_6 ?_
  refine V_aload_n hc 0 d_Store_init_9 rfl rfl ?_
  refine V_iconst (v := 0) hc d_Store_init_10 (by decide) ?_
  obtain ⟨q4, hw⟩ := hw
  obtain ⟨q5, hw⟩ := hw
  obtain ⟨h6, eq_h6⟩ : ∃ x, x = mm_uI h3 (v0) 1 (0) := ⟨_, rfl⟩
  replace hw := hw _ eq_h6
  refine V_put (h' := h6) hc gf_Store_15 rfl rfl q4 q5 (by rw [eq_h6]; exact mm_Up_I _ _ _ _) (by rw [eq_h6]; exact up_vI rfl) (vp_nar_int _) rfl d_Store_init_11 ?_
  refine V_aload_n hc 0 d_Store_init_14 rfl rfl ?_
  refine V_sipush (v := 3000) hc d_Store_init_15 (by decide) ?_
  obtain ⟨h7, eq_h7⟩ : ∃ x, x = mm_nw h6 100 3000 := ⟨_, rfl⟩
  replace hw := hw _ eq_h7
  refine V_newa (t := 0) (N := 3000) (ty := .int) hc rfl rfl (fun _ q => q) (gw_of (tw_1 (List.mem_of_getElem? (i := 224) rfl)) rfl) (by decide) (by decide) (by decide) (by decide) (by decide) (by decide) (by decide) d_Store_init_18 ?_
  rw [← eq_h7]
  obtain ⟨a8, eq_a8⟩ : ∃ x, x = mm_z h6 := ⟨_, rfl⟩
  replace hw := hw _ eq_a8
  rw [← eq_a8]
  refine V_wide (cs' := 1) (sl' := 3000) (by decide) (by decide) ?_
  obtain ⟨q9, hw⟩ := hw
  obtain ⟨q10, hw⟩ := hw
  obtain ⟨h11, eq_h11⟩ : ∃ x, x = mm_uP h7 (v0) 2 (some a8) := ⟨_, rfl⟩
  replace hw := hw _ eq_h11
  refine V_putF (h' := h11) hc hin rfl (fun r hr => by cases hr; rfl) gf_Store_18 rfl rfl q9 q10 (by rw [eq_h11]; exact mm_Up_P _ _ _ _) (by rw [eq_h11]; exact up_vP rfl) (pa_nar _) (pa_fit _) d_Store_init_20 ?_
  exact V_vret hc hq ⟨rfl, hw⟩ (by decide) (by decide) d_Store_init_23
def wq_Store_init (ge : Nat → Nat) (v0 : Nat) (h : mm_M) (Z : mm_M → Prop) : Prop := wq_Store_init_0 ge v0 h Z
theorem sat_Store_init (G : mm_G) (v0 : Nat) (h : mm_M) (Z : mm_M → Prop) (hw : wq_Store_init (mm_ge G) v0 h Z) : mm_Met G y_Store_init c_Store_init 1 none rm_Store_init [va_rf (some v0)] h (pV Z) := by
  refine mm_intro (own := "EpochServer$Store") (by decide) rfl (by simp [lg_sl, cat_rf, cat_i, cat_l]) (fun E e1 hc hq hi => ?_)
  subst e1
  have e2 : lv_args 0 [va_rf (some v0)] = [(0, va_rf (some v0))] := by simp [lv_args, cat_rf, cat_i, cat_l]
  rw [e2]
  refine V_sub (lv' := [(0, va_rf (some v0))]) [0] rfl ?_
  exact vb_Store_init_0 hc hq (hi rfl) v0 h hw
/-! Sha.<init>()V -/
abbrev rm_Sha_init : Room := { frames := 1, cells := 2, slots := 85, locals := 24 }
def wq_Sha_init_0  (ge : Nat → Nat) (v0 : Nat) (h : mm_M) (Z : mm_M → Prop) : Prop :=
  ∀ h1 : mm_M, h1 = mm_nw h 100 5 → ∀ a2 : Nat, a2 = mm_z h → mm_k h1 (v0) = kd_Sha ∧ ge 0 ≤ v0 ∧ ∀ h5 : mm_M, h5 = mm_uP h1 (v0) 0 (some a2) → ∀ h6 : mm_M, h6 = mm_nw h5 100 80 → ∀ a7 : Nat, a7 = mm_z h5 → mm_k h6 (v0) = kd_Sha ∧ ge 0 ≤ v0 ∧ ∀ h10 : mm_M, h10 = mm_uP h6 (v0) 1 (some a7) → Z h10
set_option maxRecDepth 100000 in
set_option maxHeartbeats 4000000 in
theorem vb_Sha_init_0 {E : mm_E} {Z : mm_M → Prop} (hc : cx E "EpochServer$Sha" c_Sha_init 1 none rm_Sha_init) (hq : cq E rm_Sha_init (pV Z)) (hin : ci E)  (v0 : Nat) (h : mm_M) (hw : wq_Sha_init_0  (mm_ge (eG E)) v0 h Z) : V E 1 0 0 h 0 [(0, va_rf (some v0))] [] := by
  unfold wq_Sha_init_0 at hw
  refine V_aload_n hc 0 d_Sha_init_0 rfl rfl ?_
  refine V_objInit hc rfl (gw_of (tw_2 (List.mem_of_getElem? (i := 17) rfl)) rfl) (gw_of (tw_1 (List.mem_of_getElem? (i := 27) rfl)) rfl) (gw_of (tw_1 (List.mem_of_getElem? (i := 28) rfl)) rfl) d_Sha_init_1 (by decide) (by decide) ?_
  refine V_aload_n hc 0 d_Sha_init_4 rfl rfl ?_
  refine V_iconst (v := 5) hc d_Sha_init_5 (by decide) ?_
  obtain ⟨h1, eq_h1⟩ : ∃ x, x = mm_nw h 100 5 := ⟨_, rfl⟩
  replace hw := hw _ eq_h1
  refine V_newa (t := 0) (N := 5) (ty := .int) hc rfl rfl (fun _ q => q) (gw_of (tw_1 (List.mem_of_getElem? (i := 224) rfl)) rfl) (by decide) (by decide) (by decide) (by decide) (by decide) (by decide) (by decide) d_Sha_init_6 ?_
  rw [← eq_h1]
  obtain ⟨a2, eq_a2⟩ : ∃ x, x = mm_z h := ⟨_, rfl⟩
  replace hw := hw _ eq_a2
  rw [← eq_a2]
  refine V_wide (cs' := 1) (sl' := 5) (by decide) (by decide) ?_
  obtain ⟨q3, hw⟩ := hw
  obtain ⟨q4, hw⟩ := hw
  obtain ⟨h5, eq_h5⟩ : ∃ x, x = mm_uP h1 (v0) 0 (some a2) := ⟨_, rfl⟩
  replace hw := hw _ eq_h5
  refine V_putF (h' := h5) hc hin rfl (fun r hr => by cases hr; rfl) gf_Sha_9 rfl rfl q3 q4 (by rw [eq_h5]; exact mm_Up_P _ _ _ _) (by rw [eq_h5]; exact up_vP rfl) (pa_nar _) (pa_fit _) d_Sha_init_8 ?_
  refine V_aload_n hc 0 d_Sha_init_11 rfl rfl ?_
  refine V_bipush (v := 80) hc d_Sha_init_12 (by decide) ?_
  obtain ⟨h6, eq_h6⟩ : ∃ x, x = mm_nw h5 100 80 := ⟨_, rfl⟩
  replace hw := hw _ eq_h6
  refine V_newa (t := 0) (N := 80) (ty := .int) hc rfl rfl (fun _ q => q) (gw_of (tw_1 (List.mem_of_getElem? (i := 224) rfl)) rfl) (by decide) (by decide) (by decide) (by decide) (by decide) (by decide) (by decide) d_Sha_init_14 ?_
  rw [← eq_h6]
  obtain ⟨a7, eq_a7⟩ : ∃ x, x = mm_z h5 := ⟨_, rfl⟩
  replace hw := hw _ eq_a7
  rw [← eq_a7]
  refine V_wide (cs' := 2) (sl' := 85) (by decide) (by decide) ?_
  obtain ⟨q8, hw⟩ := hw
  obtain ⟨q9, hw⟩ := hw
  obtain ⟨h10, eq_h10⟩ : ∃ x, x = mm_uP h6 (v0) 1 (some a7) := ⟨_, rfl⟩
  replace hw := hw _ eq_h10
  refine V_putF (h' := h10) hc hin rfl (fun r hr => by cases hr; rfl) gf_Sha_15 rfl rfl q8 q9 (by rw [eq_h10]; exact mm_Up_P _ _ _ _) (by rw [eq_h10]; exact up_vP rfl) (pa_nar _) (pa_fit _) d_Sha_init_16 ?_
  exact V_vret hc hq ⟨rfl, hw⟩ (by decide) (by decide) d_Sha_init_19
def wq_Sha_init (ge : Nat → Nat) (v0 : Nat) (h : mm_M) (Z : mm_M → Prop) : Prop := wq_Sha_init_0 ge v0 h Z
theorem sat_Sha_init (G : mm_G) (v0 : Nat) (h : mm_M) (Z : mm_M → Prop) (hw : wq_Sha_init (mm_ge G) v0 h Z) : mm_Met G y_Sha_init c_Sha_init 1 none rm_Sha_init [va_rf (some v0)] h (pV Z) := by
  refine mm_intro (own := "EpochServer$Sha") (by decide) rfl (by simp [lg_sl, cat_rf, cat_i, cat_l]) (fun E e1 hc hq hi => ?_)
  subst e1
  have e2 : lv_args 0 [va_rf (some v0)] = [(0, va_rf (some v0))] := by simp [lv_args, cat_rf, cat_i, cat_l]
  rw [e2]
  refine V_sub (lv' := [(0, va_rf (some v0))]) [0] rfl ?_
  exact vb_Sha_init_0 hc hq (hi rfl) v0 h hw
/-! Bytes.<init>(I)V -/
abbrev rm_Bytes_init : Room := { frames := 1, cells := 1, slots := 5520, locals := 24 }
def wq_Bytes_init_0  (ge : Nat → Nat) (v0 : Nat) (v1 : Int32) (h : mm_M) (Z : mm_M → Prop) : Prop :=
  mm_k h (v0) = kd_Bytes ∧ ge 0 ≤ v0 ∧ ∀ h3 : mm_M, h3 = mm_uI h (v0) 1 (0) → ¬ (if (0 : Int32) < (v1) then (v1) else (0)) < 0 ∧ Int32.toNatClampNeg (if (0 : Int32) < (v1) then (v1) else (0)) ≤ 5520 ∧ ∀ h6 : mm_M, h6 = mm_nw h3 101 (Int32.toNatClampNeg (if (0 : Int32) < (v1) then (v1) else (0))) → ∀ a7 : Nat, a7 = mm_z h3 → mm_k h6 (v0) = kd_Bytes ∧ ge 0 ≤ v0 ∧ ∀ h10 : mm_M, h10 = mm_uP h6 (v0) 0 (some a7) → Z h10
set_option maxRecDepth 100000 in
set_option maxHeartbeats 4000000 in
theorem vb_Bytes_init_0 {E : mm_E} {Z : mm_M → Prop} (hc : cx E "EpochServer$Bytes" c_Bytes_init 2 none rm_Bytes_init) (hq : cq E rm_Bytes_init (pV Z)) (hin : ci E)  (v0 : Nat) (v1 : Int32) (h : mm_M) (hw : wq_Bytes_init_0  (mm_ge (eG E)) v0 v1 h Z) : V E 2 0 0 h 0 [(0, va_rf (some v0)), (1, .int (v1))] [] := by
  unfold wq_Bytes_init_0 at hw
  refine V_aload_n hc 0 d_Bytes_init_0 rfl rfl ?_
  refine V_objInit hc rfl (gw_of (tw_1 (List.mem_of_getElem? (i := 34) rfl)) rfl) (gw_of (tw_1 (List.mem_of_getElem? (i := 27) rfl)) rfl) (gw_of (tw_1 (List.mem_of_getElem? (i := 28) rfl)) rfl) d_Bytes_init_1 (by decide) (by decide) ?_
  refine V_aload_n hc 0 d_Bytes_init_4 rfl rfl ?_
  refine V_iconst (v := 0) hc d_Bytes_init_5 (by decide) ?_
  obtain ⟨q1, hw⟩ := hw
  obtain ⟨q2, hw⟩ := hw
  obtain ⟨h3, eq_h3⟩ : ∃ x, x = mm_uI h (v0) 1 (0) := ⟨_, rfl⟩
  replace hw := hw _ eq_h3
  refine V_put (h' := h3) hc gf_Bytes_7 rfl rfl q1 q2 (by rw [eq_h3]; exact mm_Up_I _ _ _ _) (by rw [eq_h3]; exact up_vI rfl) (vp_nar_int _) rfl d_Bytes_init_6 ?_
  refine V_aload_n hc 0 d_Bytes_init_9 rfl rfl ?_
  refine V_iconst (v := 0) hc d_Bytes_init_10 (by decide) ?_
  refine V_iload_n hc 1 d_Bytes_init_11 rfl rfl ?_
  refine V_mmax hc cv_Bytes_13 (by simp [cat_rf, cat_i, cat_l]) (by decide) (by decide) (by decide) (by decide) d_Bytes_init_12 ?_
  obtain ⟨q4, q5, hw⟩ := hw
  obtain ⟨h6, eq_h6⟩ : ∃ x, x = mm_nw h3 101 (Int32.toNatClampNeg (if (0 : Int32) < (v1) then (v1) else (0))) := ⟨_, rfl⟩
  replace hw := hw _ eq_h6
  refine V_newa (t := 1) (N := (Int32.toNatClampNeg (if (0 : Int32) < (v1) then (v1) else (0)))) (ty := .byte) hc rfl rfl (fun _ q => q) (gw_of (tw_1 (List.mem_of_getElem? (i := 46) rfl)) rfl) (by decide) (by decide) q4 rfl (by show _ * 1 ≤ _; omega) (by decide) (by show 0 + _ ≤ 5520; omega) d_Bytes_init_15 ?_
  rw [← eq_h6]
  obtain ⟨a7, eq_a7⟩ : ∃ x, x = mm_z h3 := ⟨_, rfl⟩
  replace hw := hw _ eq_a7
  rw [← eq_a7]
  refine V_wide (cs' := 1) (sl' := 5520) (by omega) (by omega) ?_
  obtain ⟨q8, hw⟩ := hw
  obtain ⟨q9, hw⟩ := hw
  obtain ⟨h10, eq_h10⟩ : ∃ x, x = mm_uP h6 (v0) 0 (some a7) := ⟨_, rfl⟩
  replace hw := hw _ eq_h10
  refine V_putF (h' := h10) hc hin rfl (fun r hr => by cases hr; rfl) gf_Bytes_19 rfl rfl q8 q9 (by rw [eq_h10]; exact mm_Up_P _ _ _ _) (by rw [eq_h10]; exact up_vP rfl) (pa_nar _) (pa_fit _) d_Bytes_init_17 ?_
  exact V_vret hc hq ⟨rfl, hw⟩ (by decide) (by decide) d_Bytes_init_20
def wq_Bytes_init (ge : Nat → Nat) (v0 : Nat) (v1 : Int32) (h : mm_M) (Z : mm_M → Prop) : Prop := wq_Bytes_init_0 ge v0 v1 h Z
theorem sat_Bytes_init (G : mm_G) (v0 : Nat) (v1 : Int32) (h : mm_M) (Z : mm_M → Prop) (hw : wq_Bytes_init (mm_ge G) v0 v1 h Z) : mm_Met G y_Bytes_init c_Bytes_init 2 none rm_Bytes_init [va_rf (some v0), .int (v1)] h (pV Z) := by
  refine mm_intro (own := "EpochServer$Bytes") (by decide) rfl (by simp [lg_sl, cat_rf, cat_i, cat_l]) (fun E e1 hc hq hi => ?_)
  subst e1
  have e2 : lv_args 0 [va_rf (some v0), .int (v1)] = [(0, va_rf (some v0)), (1, .int (v1))] := by simp [lv_args, cat_rf, cat_i, cat_l]
  rw [e2]
  refine V_sub (lv' := [(0, va_rf (some v0)), (1, .int (v1))]) [0, 1] rfl ?_
  exact vb_Bytes_init_0 hc hq (hi rfl) v0 v1 h hw
/-! Archiver.<init>()V -/
abbrev rm_Archiver_init : Room := { frames := 2, cells := 9, slots := 8972, locals := 45 }
def wq_Archiver_init_0  (ge : Nat → Nat) (v0 : Nat) (h : mm_M) (Z : mm_M → Prop) : Prop :=
  ∀ h1 : mm_M, h1 = mm_nw h 12 0 → ∀ a2 : Nat, a2 = mm_z h → wq_Store_init ge (a2) h1 (fun h3 : mm_M => mm_k h3 (v0) = kd_Archiver ∧ ge 0 ≤ v0 ∧ ∀ h7 : mm_M, h7 = mm_uP h3 (v0) 0 (some a2) → ∀ h8 : mm_M, h8 = mm_nw h7 10 0 → ∀ a9 : Nat, a9 = mm_z h7 → wq_Sha_init ge (a9) h8 (fun h10 : mm_M => mm_k h10 (v0) = kd_Archiver ∧ ge 0 ≤ v0 ∧ ∀ h14 : mm_M, h14 = mm_uP h10 (v0) 1 (some a9) → ∀ h15 : mm_M, h15 = mm_nw h14 4 0 → ∀ a16 : Nat, a16 = mm_z h14 → wq_Bytes_init ge (a16) (5520) h15 (fun h17 : mm_M => mm_k h17 (v0) = kd_Archiver ∧ ge 0 ≤ v0 ∧ ∀ h21 : mm_M, h21 = mm_uP h17 (v0) 2 (some a16) → ∀ h22 : mm_M, h22 = mm_nw h21 100 300 → ∀ a23 : Nat, a23 = mm_z h21 → mm_k h22 (v0) = kd_Archiver ∧ ge 0 ≤ v0 ∧ ∀ h26 : mm_M, h26 = mm_uP h22 (v0) 3 (some a23) → ∀ h27 : mm_M, h27 = mm_nw h26 100 60 → ∀ a28 : Nat, a28 = mm_z h26 → mm_k h27 (v0) = kd_Archiver ∧ ge 0 ≤ v0 ∧ ∀ h31 : mm_M, h31 = mm_uP h27 (v0) 4 (some a28) → mm_k h31 (v0) = kd_Archiver ∧ ge 0 ≤ v0 ∧ ∀ h34 : mm_M, h34 = mm_uI h31 (v0) 5 (0) → mm_k h34 (v0) = kd_Archiver ∧ ge 0 ≤ v0 ∧ ∀ h37 : mm_M, h37 = mm_uI h34 (v0) 6 (0) → Z h37)))
set_option maxRecDepth 100000 in
set_option maxHeartbeats 4000000 in
theorem vb_Archiver_init_0 {E : mm_E} {Z : mm_M → Prop} (hc : cx E "EpochServer$Archiver" c_Archiver_init 1 none rm_Archiver_init) (hq : cq E rm_Archiver_init (pV Z)) (hin : ci E)  (v0 : Nat) (h : mm_M) (hw : wq_Archiver_init_0  (mm_ge (eG E)) v0 h Z) : V E 1 0 0 h 0 [(0, va_rf (some v0))] [] := by
  unfold wq_Archiver_init_0 at hw
  refine V_aload_n hc 0 d_Archiver_init_0 rfl rfl ?_
  refine V_objInit hc rfl (gw_of (tw_1 (List.mem_of_getElem? (i := 231) rfl)) rfl) (gw_of (tw_1 (List.mem_of_getElem? (i := 27) rfl)) rfl) (gw_of (tw_1 (List.mem_of_getElem? (i := 28) rfl)) rfl) d_Archiver_init_1 (by decide) (by decide) ?_
  refine V_aload_n hc 0 d_Archiver_init_4 rfl rfl ?_
  obtain ⟨h1, eq_h1⟩ : ∃ x, x = mm_nw h 12 0 := ⟨_, rfl⟩
  replace hw := hw _ eq_h1
  refine V_new (cn := 11) (N := 3) (r := (R_Store, T_Store, 3, t_Store)) hc rfl rfl (gw_of (tw_1 (List.mem_of_getElem? (i := 232) rfl)) rfl) (gw_of (tw_1 (List.mem_of_getElem? (i := 233) rfl)) rfl) (gw_of (tw_1 (List.mem_of_getElem? (i := 11) rfl)) rfl) (by decide) (by decide) (by decide) d_Archiver_init_5 ?_
  rw [← eq_h1]
  obtain ⟨a2, eq_a2⟩ : ∃ x, x = mm_z h := ⟨_, rfl⟩
  replace hw := hw _ eq_a2
  rw [← eq_a2]
  refine V_wide (cs' := 1) (sl' := 3) (by decide) (by decide) ?_
  refine V_dup hc d_Archiver_init_8 (cat_rf _) ?_
  refine V_callIN (rm' := rm_Store_init) (As := []) (rest := [va_rf (some a2), va_rf (some v0)]) (n := 0) hc rfl (sat_Store_init (eG E) _ _ _ hw) cv_Archiver_11 (gw_of (tw_1 (List.mem_of_getElem? (i := 235) rfl)) rfl) rfl rfl ⟨by decide, by decide⟩ (by decide) (by decide) rfl (by simp [cat_rf, cat_i, cat_l]) d_Archiver_init_9 (fun r0 h3 hw => ?_)
  obtain ⟨rfl, hw⟩ := hw
  refine V_wide (cs' := 2) (sl' := 3003) (by decide) (by decide) ?_
  refine V_st (st' := [va_rf (some a2), va_rf (some v0)]) rfl ?_
  obtain ⟨q5, hw⟩ := hw
  obtain ⟨q6, hw⟩ := hw
  obtain ⟨h7, eq_h7⟩ : ∃ x, x = mm_uP h3 (v0) 0 (some a2) := ⟨_, rfl⟩
  replace hw := hw _ eq_h7
  refine V_putF (h' := h7) hc hin rfl (fun r hr => by cases hr; rfl) gf_Archiver_12 rfl rfl q5 q6 (by rw [eq_h7]; exact mm_Up_P _ _ _ _) (by rw [eq_h7]; exact up_vP rfl) (pp_nar _) (pp_fit _) d_Archiver_init_12 ?_
  refine V_aload_n hc 0 d_Archiver_init_15 rfl rfl ?_
  obtain ⟨h8, eq_h8⟩ : ∃ x, x = mm_nw h7 10 0 := ⟨_, rfl⟩
  replace hw := hw _ eq_h8
  refine V_new (cn := 9) (N := 2) (r := (R_Sha, T_Sha, 2, t_Sha)) hc rfl rfl (gw_of (tw_2 (List.mem_of_getElem? (i := 12) rfl)) rfl) (gw_of (tw_2 (List.mem_of_getElem? (i := 13) rfl)) rfl) (gw_of (tw_1 (List.mem_of_getElem? (i := 12) rfl)) rfl) (by decide) (by decide) (by decide) d_Archiver_init_16 ?_
  rw [← eq_h8]
  obtain ⟨a9, eq_a9⟩ : ∃ x, x = mm_z h7 := ⟨_, rfl⟩
  replace hw := hw _ eq_a9
  rw [← eq_a9]
  refine V_wide (cs' := 3) (sl' := 3005) (by decide) (by decide) ?_
  refine V_dup hc d_Archiver_init_19 (cat_rf _) ?_
  refine V_callIN (rm' := rm_Sha_init) (As := []) (rest := [va_rf (some a9), va_rf (some v0)]) (n := 0) hc rfl (sat_Sha_init (eG E) _ _ _ hw) cv_Archiver_20 (gw_of (tw_2 (List.mem_of_getElem? (i := 15) rfl)) rfl) rfl rfl ⟨by decide, by decide⟩ (by decide) (by decide) rfl (by simp [cat_rf, cat_i, cat_l]) d_Archiver_init_20 (fun r0 h10 hw => ?_)
  obtain ⟨rfl, hw⟩ := hw
  refine V_wide (cs' := 5) (sl' := 3090) (by decide) (by decide) ?_
  refine V_st (st' := [va_rf (some a9), va_rf (some v0)]) rfl ?_
  obtain ⟨q12, hw⟩ := hw
  obtain ⟨q13, hw⟩ := hw
  obtain ⟨h14, eq_h14⟩ : ∃ x, x = mm_uP h10 (v0) 1 (some a9) := ⟨_, rfl⟩
  replace hw := hw _ eq_h14
  refine V_putF (h' := h14) hc hin rfl (fun r hr => by cases hr; rfl) gf_Archiver_21 rfl rfl q12 q13 (by rw [eq_h14]; exact mm_Up_P _ _ _ _) (by rw [eq_h14]; exact up_vP rfl) (pp_nar _) (pp_fit _) d_Archiver_init_23 ?_
  refine V_aload_n hc 0 d_Archiver_init_26 rfl rfl ?_
  obtain ⟨h15, eq_h15⟩ : ∃ x, x = mm_nw h14 4 0 := ⟨_, rfl⟩
  replace hw := hw _ eq_h15
  refine V_new (cn := 3) (N := 2) (r := (R_Bytes, T_Bytes, 2, t_Bytes)) hc rfl rfl (gw_of (tw_2 (List.mem_of_getElem? (i := 26) rfl)) rfl) (gw_of (tw_1 (List.mem_of_getElem? (i := 30) rfl)) rfl) (gw_of (tw_1 (List.mem_of_getElem? (i := 2) rfl)) rfl) (by decide) (by decide) (by decide) d_Archiver_init_27 ?_
  rw [← eq_h15]
  obtain ⟨a16, eq_a16⟩ : ∃ x, x = mm_z h14 := ⟨_, rfl⟩
  replace hw := hw _ eq_a16
  rw [← eq_a16]
  refine V_wide (cs' := 6) (sl' := 3092) (by decide) (by decide) ?_
  refine V_dup hc d_Archiver_init_30 (cat_rf _) ?_
  refine V_sipush (v := 5520) hc d_Archiver_init_31 (by decide) ?_
  refine V_callI (rm' := rm_Bytes_init) (As := [.int (5520)]) (rest := [va_rf (some a16), va_rf (some v0)]) (n := 1) hc rfl (sat_Bytes_init (eG E) _ _ _ _ hw) cv_Archiver_27 (gw_of (tw_1 (List.mem_of_getElem? (i := 32) rfl)) rfl) rfl rfl ⟨by decide, by decide⟩ (by decide) (by decide) rfl (by simp [cat_rf, cat_i, cat_l]) d_Archiver_init_34 (fun r0 h17 hw => ?_)
  obtain ⟨rfl, hw⟩ := hw
  refine V_wide (cs' := 7) (sl' := 8612) (by decide) (by decide) ?_
  refine V_st (st' := [va_rf (some a16), va_rf (some v0)]) rfl ?_
  obtain ⟨q19, hw⟩ := hw
  obtain ⟨q20, hw⟩ := hw
  obtain ⟨h21, eq_h21⟩ : ∃ x, x = mm_uP h17 (v0) 2 (some a16) := ⟨_, rfl⟩
  replace hw := hw _ eq_h21
  refine V_putF (h' := h21) hc hin rfl (fun r hr => by cases hr; rfl) gf_Archiver_30 rfl rfl q19 q20 (by rw [eq_h21]; exact mm_Up_P _ _ _ _) (by rw [eq_h21]; exact up_vP rfl) (pp_nar _) (pp_fit _) d_Archiver_init_37 ?_
  refine V_aload_n hc 0 d_Archiver_init_40 rfl rfl ?_
  refine V_sipush (v := 300) hc d_Archiver_init_41 (by decide) ?_
  obtain ⟨h22, eq_h22⟩ : ∃ x, x = mm_nw h21 100 300 := ⟨_, rfl⟩
  replace hw := hw _ eq_h22
  refine V_newa (t := 0) (N := 300) (ty := .int) hc rfl rfl (fun _ q => q) (gw_of (tw_1 (List.mem_of_getElem? (i := 224) rfl)) rfl) (by decide) (by decide) (by decide) (by decide) (by decide) (by decide) (by decide) d_Archiver_init_44 ?_
  rw [← eq_h22]
  obtain ⟨a23, eq_a23⟩ : ∃ x, x = mm_z h21 := ⟨_, rfl⟩
  replace hw := hw _ eq_a23
  rw [← eq_a23]
  refine V_wide (cs' := 8) (sl' := 8912) (by decide) (by decide) ?_
  obtain ⟨q24, hw⟩ := hw
  obtain ⟨q25, hw⟩ := hw
  obtain ⟨h26, eq_h26⟩ : ∃ x, x = mm_uP h22 (v0) 3 (some a23) := ⟨_, rfl⟩
  replace hw := hw _ eq_h26
  refine V_putF (h' := h26) hc hin rfl (fun r hr => by cases hr; rfl) gf_Archiver_34 rfl rfl q24 q25 (by rw [eq_h26]; exact mm_Up_P _ _ _ _) (by rw [eq_h26]; exact up_vP rfl) (pa_nar _) (pa_fit _) d_Archiver_init_46 ?_
  refine V_aload_n hc 0 d_Archiver_init_49 rfl rfl ?_
  refine V_bipush (v := 60) hc d_Archiver_init_50 (by decide) ?_
  obtain ⟨h27, eq_h27⟩ : ∃ x, x = mm_nw h26 100 60 := ⟨_, rfl⟩
  replace hw := hw _ eq_h27
  refine V_newa (t := 0) (N := 60) (ty := .int) hc rfl rfl (fun _ q => q) (gw_of (tw_1 (List.mem_of_getElem? (i := 224) rfl)) rfl) (by decide) (by decide) (by decide) (by decide) (by decide) (by decide) (by decide) d_Archiver_init_52 ?_
  rw [← eq_h27]
  obtain ⟨a28, eq_a28⟩ : ∃ x, x = mm_z h26 := ⟨_, rfl⟩
  replace hw := hw _ eq_a28
  rw [← eq_a28]
  refine V_wide (cs' := 9) (sl' := 8972) (by decide) (by decide) ?_
  obtain ⟨q29, hw⟩ := hw
  obtain ⟨q30, hw⟩ := hw
  obtain ⟨h31, eq_h31⟩ : ∃ x, x = mm_uP h27 (v0) 4 (some a28) := ⟨_, rfl⟩
  replace hw := hw _ eq_h31
  refine V_putF (h' := h31) hc hin rfl (fun r hr => by cases hr; rfl) gf_Archiver_38 rfl rfl q29 q30 (by rw [eq_h31]; exact mm_Up_P _ _ _ _) (by rw [eq_h31]; exact up_vP rfl) (pa_nar _) (pa_fit _) d_Archiver_init_54 ?_
  refine V_aload_n hc 0 d_Archiver_init_57 rfl rfl ?_
  refine V_iconst (v := 0) hc d_Archiver_init_58 (by decide) ?_
  obtain ⟨q32, hw⟩ := hw
  obtain ⟨q33, hw⟩ := hw
  obtain ⟨h34, eq_h34⟩ : ∃ x, x = mm_uI h31 (v0) 5 (0) := ⟨_, rfl⟩
  replace hw := hw _ eq_h34
  refine V_put (h' := h34) hc gf_Archiver_41 rfl rfl q32 q33 (by rw [eq_h34]; exact mm_Up_I _ _ _ _) (by rw [eq_h34]; exact up_vI rfl) (by decide) (by decide) d_Archiver_init_59 ?_
  refine V_aload_n hc 0 d_Archiver_init_62 rfl rfl ?_
  refine V_iconst (v := 0) hc d_Archiver_init_63 (by decide) ?_
  obtain ⟨q35, hw⟩ := hw
  obtain ⟨q36, hw⟩ := hw
  obtain ⟨h37, eq_h37⟩ : ∃ x, x = mm_uI h34 (v0) 6 (0) := ⟨_, rfl⟩
  replace hw := hw _ eq_h37
  refine V_put (h' := h37) hc gf_Archiver_45 rfl rfl q35 q36 (by rw [eq_h37]; exact mm_Up_I _ _ _ _) (by rw [eq_h37]; exact up_vI rfl) (by decide) (by decide) d_Archiver_init_64 ?_
  exact V_vret hc hq ⟨rfl, hw⟩ (by decide) (by decide) d_Archiver_init_67
def wq_Archiver_init (ge : Nat → Nat) (v0 : Nat) (h : mm_M) (Z : mm_M → Prop) : Prop := wq_Archiver_init_0 ge v0 h Z
theorem sat_Archiver_init (G : mm_G) (v0 : Nat) (h : mm_M) (Z : mm_M → Prop) (hw : wq_Archiver_init (mm_ge G) v0 h Z) : mm_Met G y_Archiver_init c_Archiver_init 1 none rm_Archiver_init [va_rf (some v0)] h (pV Z) := by
  refine mm_intro (own := "EpochServer$Archiver") (by decide) rfl (by simp [lg_sl, cat_rf, cat_i, cat_l]) (fun E e1 hc hq hi => ?_)
  subst e1
  have e2 : lv_args 0 [va_rf (some v0)] = [(0, va_rf (some v0))] := by simp [lv_args, cat_rf, cat_i, cat_l]
  rw [e2]
  refine V_sub (lv' := [(0, va_rf (some v0))]) [0] rfl ?_
  exact vb_Archiver_init_0 hc hq (hi rfl) v0 h hw
/-! Tree.at(I)LEpochServer$Node; -/
abbrev rm_Tree_at : Room := { frames := 0, cells := 0, slots := 0, locals := 0 }
def wq_Tree_at_20  (ge : Nat → Nat) (s0 : Option Nat) (h : mm_M) (Z : Option Nat → mm_M → Prop) : Prop :=
  Z (s0) h
def wq_Tree_at_10  (ge : Nat → Nat)  (h : mm_M) (Z : Option Nat → mm_M → Prop) : Prop :=
  wq_Tree_at_20  ge (none) h Z
def wq_Tree_at_0  (ge : Nat → Nat) (v0 : Nat) (v1 : Int32) (h : mm_M) (Z : Option Nat → mm_M → Prop) : Prop :=
  (((v1) < 0 → wq_Tree_at_10  ge h Z) ∧ (¬ (v1) < 0 → (((v1 : Int32) < (60 : Int32) → mm_k h (v0) = kd_Tree ∧ ∃ a2, mm_P h v0 0 = some a2 ∧ mm_k h (a2) = ka_Node ∧ vp_in (v1) (mm_n h a2) ∧ wq_Tree_at_20  ge (mm_P h a2 (Int32.toNatClampNeg (v1))) h Z) ∧ (¬ (v1 : Int32) < (60 : Int32) → wq_Tree_at_10  ge h Z))))
set_option maxRecDepth 100000 in
set_option maxHeartbeats 4000000 in
theorem vb_Tree_at_20 {E : mm_E} {Z : Option Nat → mm_M → Prop} (hc : cx E "EpochServer$Tree" c_Tree_at 2 (some ((.object "EpochServer$Node"))) rm_Tree_at) (hq : cq E rm_Tree_at (pP Z))  (s0 : Option Nat) (h : mm_M) (hw : wq_Tree_at_20  (mm_ge (eG E)) s0 h Z) : V E 2 0 0 h 20 [] [va_rf (s0)] := by
  unfold wq_Tree_at_20 at hw
  exact V_aret hc hq (by first | exact Or.inl ⟨_, rfl⟩ | exact Or.inr ⟨_, rfl⟩) ⟨_, rfl, hw⟩ (by decide) (by decide) d_Tree_at_20
set_option maxRecDepth 100000 in
set_option maxHeartbeats 4000000 in
theorem vb_Tree_at_10 {E : mm_E} {Z : Option Nat → mm_M → Prop} (hc : cx E "EpochServer$Tree" c_Tree_at 2 (some ((.object "EpochServer$Node"))) rm_Tree_at) (hq : cq E rm_Tree_at (pP Z))   (h : mm_M) (hw : wq_Tree_at_10  (mm_ge (eG E))  h Z) : V E 2 0 0 h 10 [] [] := by
  unfold wq_Tree_at_10 at hw
  refine V_null hc d_Tree_at_10 ?_
  refine V_goto (tgt := 20) hc d_Tree_at_11 (by decide) ?_
  refine V_sub (lv' := []) [] rfl ?_
  exact vb_Tree_at_20 hc hq  _ _ hw
set_option maxRecDepth 100000 in
set_option maxHeartbeats 4000000 in
theorem vb_Tree_at_0 {E : mm_E} {Z : Option Nat → mm_M → Prop} (hc : cx E "EpochServer$Tree" c_Tree_at 2 (some ((.object "EpochServer$Node"))) rm_Tree_at) (hq : cq E rm_Tree_at (pP Z))  (v0 : Nat) (v1 : Int32) (h : mm_M) (hw : wq_Tree_at_0  (mm_ge (eG E)) v0 v1 h Z) : V E 2 0 0 h 0 [(0, va_rf (some v0)), (1, .int (v1))] [] := by
  unfold wq_Tree_at_0 at hw
  refine V_iload_n hc 1 d_Tree_at_0 rfl rfl ?_
  refine V_if_lt (tgt := 10) hc d_Tree_at_1 (by decide) (fun hq1 => ?_) (fun hq1 => ?_)
  · replace hw := hw.1 hq1
    refine V_sub (lv' := []) [] rfl ?_
    exact vb_Tree_at_10 hc hq  _ hw
  · replace hw := hw.2 hq1
    refine V_iload_n hc 1 d_Tree_at_4 rfl rfl ?_
    refine V_bipush (v := 60) hc d_Tree_at_5 (by decide) ?_
    refine V_icmp_lt (tgt := 14) hc d_Tree_at_7 (by decide) (fun hq1 => ?_) (fun hq1 => ?_)
    · replace hw := hw.1 hq1
      refine V_aload_n hc 0 d_Tree_at_14 rfl rfl ?_
      obtain ⟨q1, hw⟩ := hw
      refine V_get (v := va_rf (mm_P h v0 0)) hc gf_Tree_11 rfl q1 rfl d_Tree_at_15 ?_
      refine V_iload_n hc 1 d_Tree_at_18 rfl rfl ?_
      obtain ⟨a2, q3, hw⟩ := hw
      obtain ⟨q4, hw⟩ := hw
      obtain ⟨q5, hw⟩ := hw
      refine V_aald (t := 4) (ty := .object "EpochServer$Node") hc rfl rfl rfl q3 q4 q5 d_Tree_at_19 ?_
      refine V_sub (lv' := []) [] rfl ?_
      exact vb_Tree_at_20 hc hq  _ _ hw
    · replace hw := hw.2 hq1
      refine V_sub (lv' := []) [] rfl ?_
      exact vb_Tree_at_10 hc hq  _ hw
def wq_Tree_at (ge : Nat → Nat) (v0 : Nat) (v1 : Int32) (h : mm_M) (Z : Option Nat → mm_M → Prop) : Prop := wq_Tree_at_0 ge v0 v1 h Z
theorem sat_Tree_at (G : mm_G) (v0 : Nat) (v1 : Int32) (h : mm_M) (Z : Option Nat → mm_M → Prop) (hw : wq_Tree_at (mm_ge G) v0 v1 h Z) : mm_Met G y_Tree_at c_Tree_at 2 (some ((.object "EpochServer$Node"))) rm_Tree_at [va_rf (some v0), .int (v1)] h (pP Z) := by
  refine mm_intro (own := "EpochServer$Tree") (by decide) rfl (by simp [lg_sl, cat_rf, cat_i, cat_l]) (fun E e1 hc hq hi => ?_)
  subst e1
  have e2 : lv_args 0 [va_rf (some v0), .int (v1)] = [(0, va_rf (some v0)), (1, .int (v1))] := by simp [lv_args, cat_rf, cat_i, cat_l]
  rw [e2]
  refine V_sub (lv' := [(0, va_rf (some v0)), (1, .int (v1))]) [0, 1] rfl ?_
  exact vb_Tree_at_0 hc hq v0 v1 h hw
/-! Tree.in(II)LEpochServer$Node; -/
abbrev rm_Tree_in : Room := { frames := 1, cells := 0, slots := 0, locals := 21 }
def wq_Tree_in_27  (ge : Nat → Nat) (s0 : Option Nat) (h : mm_M) (Z : Option Nat → mm_M → Prop) : Prop :=
  Z (s0) h
def wq_Tree_in_22  (ge : Nat → Nat)  (h : mm_M) (Z : Option Nat → mm_M → Prop) : Prop :=
  wq_Tree_in_27  ge (none) h Z
def wq_Tree_in_0  (ge : Nat → Nat) (v0 : Nat) (v1 : Int32) (v2 : Int32) (h : mm_M) (Z : Option Nat → mm_M → Prop) : Prop :=
  mm_k h (v0) = kd_Tree ∧ wq_Tree_at ge (v0) (v2) h (fun (r3 : Option Nat) (h2 : mm_M) => ((r3 = none → wq_Tree_in_22  ge h2 Z) ∧ (∀ a4, r3 = some a4 → (((v2) = 0 → wq_Tree_in_22  ge h2 Z) ∧ (¬ (v2) = 0 → ∃ a5, r3 = some a5 ∧ mm_k h2 (a5) = kd_Node ∧ (((mm_I h2 a5 1 : Int32) = (v1 : Int32) → wq_Tree_in_27  ge (r3) h2 Z) ∧ (¬ (mm_I h2 a5 1 : Int32) = (v1 : Int32) → wq_Tree_in_22  ge h2 Z)))))))
set_option maxRecDepth 100000 in
set_option maxHeartbeats 4000000 in
theorem vb_Tree_in_27 {E : mm_E} {Z : Option Nat → mm_M → Prop} (hc : cx E "EpochServer$Tree" c_Tree_in 4 (some ((.object "EpochServer$Node"))) rm_Tree_in) (hq : cq E rm_Tree_in (pP Z))  (s0 : Option Nat) (h : mm_M) (hw : wq_Tree_in_27  (mm_ge (eG E)) s0 h Z) : V E 4 0 0 h 27 [] [va_rf (s0)] := by
  unfold wq_Tree_in_27 at hw
  exact V_aret hc hq (by first | exact Or.inl ⟨_, rfl⟩ | exact Or.inr ⟨_, rfl⟩) ⟨_, rfl, hw⟩ (by decide) (by decide) d_Tree_in_27
set_option maxRecDepth 100000 in
set_option maxHeartbeats 4000000 in
theorem vb_Tree_in_22 {E : mm_E} {Z : Option Nat → mm_M → Prop} (hc : cx E "EpochServer$Tree" c_Tree_in 4 (some ((.object "EpochServer$Node"))) rm_Tree_in) (hq : cq E rm_Tree_in (pP Z))   (h : mm_M) (hw : wq_Tree_in_22  (mm_ge (eG E))  h Z) : V E 4 0 0 h 22 [] [] := by
  unfold wq_Tree_in_22 at hw
  refine V_null hc d_Tree_in_22 ?_
  refine V_goto (tgt := 27) hc d_Tree_in_23 (by decide) ?_
  refine V_sub (lv' := []) [] rfl ?_
  exact vb_Tree_in_27 hc hq  _ _ hw
set_option maxRecDepth 100000 in
set_option maxHeartbeats 4000000 in
theorem vb_Tree_in_0 {E : mm_E} {Z : Option Nat → mm_M → Prop} (hc : cx E "EpochServer$Tree" c_Tree_in 4 (some ((.object "EpochServer$Node"))) rm_Tree_in) (hq : cq E rm_Tree_in (pP Z))  (v0 : Nat) (v1 : Int32) (v2 : Int32) (h : mm_M) (hw : wq_Tree_in_0  (mm_ge (eG E)) v0 v1 v2 h Z) : V E 4 0 0 h 0 [(0, va_rf (some v0)), (1, .int (v1)), (2, .int (v2))] [] := by
  unfold wq_Tree_in_0 at hw
  refine V_aload_n hc 0 d_Tree_in_0 rfl rfl ?_
  refine V_iload_n hc 2 d_Tree_in_1 rfl rfl ?_
  obtain ⟨q1, hw⟩ := hw
  refine V_callV (rm' := rm_Tree_at) (As := [.int (v2)]) (rest := []) (n := 1) (cn := 12) hc rfl q1 (sat_Tree_at (eG E) _ _ _ _ hw) rfl cv_Tree_21 (gw_of (tw_3 (List.mem_of_getElem? (i := 46) rfl)) rfl) ss_Tree_at rfl ⟨by decide, by decide⟩ (by decide) (by decide) rfl (by simp [cat_rf, cat_i, cat_l]) d_Tree_in_2 (fun r0 h2 hw => ?_)
  obtain ⟨r3, rfl, hw⟩ := hw
  refine V_wide (cs' := 0) (sl' := 0) (by decide) (by decide) ?_
  refine V_st (st' := [va_rf (r3)]) rfl ?_
  refine V_astore_n (i := 3) (lv' := [(3, va_rf (r3)), (0, va_rf (some v0)), (1, .int (v1)), (2, .int (v2))]) hc d_Tree_in_5 rfl (by decide) rfl ?_
  refine V_aload_n hc 0 d_Tree_in_6 rfl rfl ?_
  refine V_ifnull (tgt := 22) hc d_Tree_in_7 (by decide) (fun hq1 => ?_) (fun a4 hq1 => ?_)
  · replace hw := hw.1 hq1
    refine V_sub (lv' := []) [] rfl ?_
    exact vb_Tree_in_22 hc hq  _ hw
  · replace hw := hw.2 a4 hq1
    refine V_iload_n hc 3 d_Tree_in_10 rfl rfl ?_
    refine V_if_eq (tgt := 22) hc d_Tree_in_11 (by decide) (fun hq1 => ?_) (fun hq1 => ?_)
    · replace hw := hw.1 hq1
      refine V_sub (lv' := []) [] rfl ?_
      exact vb_Tree_in_22 hc hq  _ hw
    · replace hw := hw.2 hq1
      refine V_aload_n hc 0 d_Tree_in_14 rfl rfl ?_
      obtain ⟨a5, q6, hw⟩ := hw
      obtain ⟨q7, hw⟩ := hw
      refine V_get (v := .int (mm_I h2 a5 1)) hc gf_Tree_25 q6 q7 rfl d_Tree_in_15 ?_
      refine V_iload_n hc 2 d_Tree_in_18 rfl rfl ?_
      refine V_icmp_eq (tgt := 26) hc d_Tree_in_19 (by decide) (fun hq1 => ?_) (fun hq1 => ?_)
      · replace hw := hw.1 hq1
        refine V_aload_n hc 0 d_Tree_in_26 rfl rfl ?_
        refine V_sub (lv' := []) [] rfl ?_
        exact vb_Tree_in_27 hc hq  _ _ hw
      · replace hw := hw.2 hq1
        refine V_sub (lv' := []) [] rfl ?_
        exact vb_Tree_in_22 hc hq  _ hw
def wq_Tree_in (ge : Nat → Nat) (v0 : Nat) (v1 : Int32) (v2 : Int32) (h : mm_M) (Z : Option Nat → mm_M → Prop) : Prop := wq_Tree_in_0 ge v0 v1 v2 h Z
theorem sat_Tree_in (G : mm_G) (v0 : Nat) (v1 : Int32) (v2 : Int32) (h : mm_M) (Z : Option Nat → mm_M → Prop) (hw : wq_Tree_in (mm_ge G) v0 v1 v2 h Z) : mm_Met G y_Tree_in c_Tree_in 4 (some ((.object "EpochServer$Node"))) rm_Tree_in [va_rf (some v0), .int (v1), .int (v2)] h (pP Z) := by
  refine mm_intro (own := "EpochServer$Tree") (by decide) rfl (by simp [lg_sl, cat_rf, cat_i, cat_l]) (fun E e1 hc hq hi => ?_)
  subst e1
  have e2 : lv_args 0 [va_rf (some v0), .int (v1), .int (v2)] = [(0, va_rf (some v0)), (1, .int (v1)), (2, .int (v2))] := by simp [lv_args, cat_rf, cat_i, cat_l]
  rw [e2]
  refine V_sub (lv' := [(0, va_rf (some v0)), (1, .int (v1)), (2, .int (v2))]) [0, 1, 2] rfl ?_
  exact vb_Tree_in_0 hc hq v0 v1 v2 h hw
/-! Tree.nextIn(II)LEpochServer$Node; -/
abbrev rm_Tree_nextIn : Room := { frames := 2, cells := 0, slots := 0, locals := 44 }
def wq_Tree_nextIn_4 (X4 : Nat → Int32 → Int32 → mm_M → Prop) (ge : Nat → Nat) (v0 : Nat) (v1 : Int32) (v3 : Int32) (h : mm_M) (Z : Option Nat → mm_M → Prop) : Prop :=
  (((60 : Int32) ≤ (v3 : Int32) → Z (none) h) ∧ (¬ (60 : Int32) ≤ (v3 : Int32) → mm_k h (v0) = kd_Tree ∧ wq_Tree_in ge (v0) (v1) (v3) h (fun (r3 : Option Nat) (h2 : mm_M) => ((r3 = none → X4 (v0) (v1) (v3 + 1) h2) ∧ (∀ a4, r3 = some a4 → Z (r3) h2)))))
def lp_Tree_nextIn_4  (ge : Nat → Nat) (v0 : Nat) (v1 : Int32) (v3 : Int32) (h : mm_M) (Z : Option Nat → mm_M → Prop) : Prop :=
  ∀ X4 : Nat → Int32 → Int32 → mm_M → Prop, (∀ (v0 : Nat) (v1 : Int32) (v3 : Int32) (h : mm_M), wq_Tree_nextIn_4 X4 ge v0 v1 v3 h Z → X4 v0 v1 v3 h) → X4 v0 v1 v3 h
def wq_Tree_nextIn_0  (ge : Nat → Nat) (v0 : Nat) (v1 : Int32) (v2 : Int32) (h : mm_M) (Z : Option Nat → mm_M → Prop) : Prop :=
  lp_Tree_nextIn_4  ge (v0) (v1) ((v2) + (1 : Int32)) h Z
set_option maxRecDepth 100000 in
set_option maxHeartbeats 4000000 in
theorem vb_Tree_nextIn_4 {E : mm_E} {Z : Option Nat → mm_M → Prop} (hc : cx E "EpochServer$Tree" c_Tree_nextIn 5 (some ((.object "EpochServer$Node"))) rm_Tree_nextIn) (hq : cq E rm_Tree_nextIn (pP Z)) (X4 : Nat → Int32 → Int32 → mm_M → Prop) (hX4 : ∀ (v0 : Nat) (v1 : Int32) (v3 : Int32) (h : mm_M), X4 v0 v1 v3 h → V E 5 0 0 h 4 [(0, va_rf (some v0)), (1, .int (v1)), (3, .int (v3))] []) (v0 : Nat) (v1 : Int32) (v3 : Int32) (h : mm_M) (hw : wq_Tree_nextIn_4 X4 (mm_ge (eG E)) v0 v1 v3 h Z) : V E 5 0 0 h 4 [(0, va_rf (some v0)), (1, .int (v1)), (3, .int (v3))] [] := by
  unfold wq_Tree_nextIn_4 at hw
  refine V_iload_n hc 2 d_Tree_nextIn_4 rfl rfl ?_
  refine V_bipush (v := 60) hc d_Tree_nextIn_5 (by decide) ?_
  refine V_icmp_ge (tgt := 32) hc d_Tree_nextIn_7 (by decide) (fun hq1 => ?_) (fun hq1 => ?_)
  · replace hw := hw.1 hq1
    refine V_null hc d_Tree_nextIn_32 ?_
    exact V_aret hc hq (by first | exact Or.inl ⟨_, rfl⟩ | exact Or.inr ⟨_, rfl⟩) ⟨_, rfl, hw⟩ (by decide) (by decide) d_Tree_nextIn_33
  · replace hw := hw.2 hq1
    refine V_aload_n hc 0 d_Tree_nextIn_10 rfl rfl ?_
    refine V_iload_n hc 1 d_Tree_nextIn_11 rfl rfl ?_
    refine V_iload_n hc 2 d_Tree_nextIn_12 rfl rfl ?_
    obtain ⟨q1, hw⟩ := hw
    refine V_callV (rm' := rm_Tree_in) (As := [.int (v1), .int (v3)]) (rest := []) (n := 2) (cn := 12) hc rfl q1 (sat_Tree_in (eG E) _ _ _ _ _ hw) rfl cv_Tree_28 (gw_of (tw_3 (List.mem_of_getElem? (i := 88) rfl)) rfl) ss_Tree_in rfl ⟨by decide, by decide⟩ (by decide) (by decide) rfl (by simp [cat_rf, cat_i, cat_l]) d_Tree_nextIn_13 (fun r0 h2 hw => ?_)
    obtain ⟨r3, rfl, hw⟩ := hw
    refine V_wide (cs' := 0) (sl' := 0) (by decide) (by decide) ?_
    refine V_st (st' := [va_rf (r3)]) rfl ?_
    refine V_astore (i := 4) (lv' := [(4, va_rf (r3)), (0, va_rf (some v0)), (1, .int (v1)), (3, .int (v3))]) hc d_Tree_nextIn_16 (by decide) rfl ?_
    refine V_aload hc 0 d_Tree_nextIn_18 rfl ?_
    refine V_ifnull (tgt := 26) hc d_Tree_nextIn_20 (by decide) (fun hq1 => ?_) (fun a4 hq1 => ?_)
    · replace hw := hw.1 hq1
      refine V_iinc (v := v3 + 1) (lv' := [(3, .int (v3 + 1)), (4, va_rf (r3)), (0, va_rf (some v0)), (1, .int (v1))]) hc 3 d_Tree_nextIn_26 rfl rfl (by decide) rfl ?_
      refine V_goto (tgt := 4) hc d_Tree_nextIn_29 (by decide) ?_
      refine V_sub (lv' := [(0, va_rf (some v0)), (1, .int (v1)), (3, .int (v3 + 1))]) [2, 3, 0] rfl ?_
      exact hX4 _ _ _ _ hw
    · replace hw := hw.2 a4 hq1
      refine V_aload hc 0 d_Tree_nextIn_23 rfl ?_
      exact V_aret hc hq (by first | exact Or.inl ⟨_, rfl⟩ | exact Or.inr ⟨_, rfl⟩) ⟨_, rfl, hw⟩ (by decide) (by decide) d_Tree_nextIn_25
theorem vl_Tree_nextIn_4 {E : mm_E} {Z : Option Nat → mm_M → Prop} (hc : cx E "EpochServer$Tree" c_Tree_nextIn 5 (some ((.object "EpochServer$Node"))) rm_Tree_nextIn) (hq : cq E rm_Tree_nextIn (pP Z))  (v0 : Nat) (v1 : Int32) (v3 : Int32) (h : mm_M) (hw : lp_Tree_nextIn_4  (mm_ge (eG E)) v0 v1 v3 h Z) : V E 5 0 0 h 4 [(0, va_rf (some v0)), (1, .int (v1)), (3, .int (v3))] [] :=
  hw (fun v0 v1 v3 h => V E 5 0 0 h 4 [(0, va_rf (some v0)), (1, .int (v1)), (3, .int (v3))] []) (fun v0 v1 v3 h hb => vb_Tree_nextIn_4 hc hq  _ (fun _ _ _ _ q => q) v0 v1 v3 h hb)
set_option maxRecDepth 100000 in
set_option maxHeartbeats 4000000 in
theorem vb_Tree_nextIn_0 {E : mm_E} {Z : Option Nat → mm_M → Prop} (hc : cx E "EpochServer$Tree" c_Tree_nextIn 5 (some ((.object "EpochServer$Node"))) rm_Tree_nextIn) (hq : cq E rm_Tree_nextIn (pP Z))  (v0 : Nat) (v1 : Int32) (v2 : Int32) (h : mm_M) (hw : wq_Tree_nextIn_0  (mm_ge (eG E)) v0 v1 v2 h Z) : V E 5 0 0 h 0 [(0, va_rf (some v0)), (1, .int (v1)), (2, .int (v2))] [] := by
  unfold wq_Tree_nextIn_0 at hw
  refine V_iload_n hc 2 d_Tree_nextIn_0 rfl rfl ?_
  refine V_iconst (v := 1) hc d_Tree_nextIn_1 (by decide) ?_
  refine V_iadd hc d_Tree_nextIn_2 ?_
  refine V_istore_n (i := 3) (lv' := [(3, .int ((v2) + (1 : Int32))), (0, va_rf (some v0)), (1, .int (v1)), (2, .int (v2))]) hc d_Tree_nextIn_3 rfl (by decide) rfl ?_
  refine V_sub (lv' := [(0, va_rf (some v0)), (1, .int (v1)), (3, .int ((v2) + (1 : Int32)))]) [1, 2, 0] rfl ?_
  exact vl_Tree_nextIn_4 hc hq  _ _ _ _ hw
def wq_Tree_nextIn (ge : Nat → Nat) (v0 : Nat) (v1 : Int32) (v2 : Int32) (h : mm_M) (Z : Option Nat → mm_M → Prop) : Prop := wq_Tree_nextIn_0 ge v0 v1 v2 h Z
theorem sat_Tree_nextIn (G : mm_G) (v0 : Nat) (v1 : Int32) (v2 : Int32) (h : mm_M) (Z : Option Nat → mm_M → Prop) (hw : wq_Tree_nextIn (mm_ge G) v0 v1 v2 h Z) : mm_Met G y_Tree_nextIn c_Tree_nextIn 5 (some ((.object "EpochServer$Node"))) rm_Tree_nextIn [va_rf (some v0), .int (v1), .int (v2)] h (pP Z) := by
  refine mm_intro (own := "EpochServer$Tree") (by decide) rfl (by simp [lg_sl, cat_rf, cat_i, cat_l]) (fun E e1 hc hq hi => ?_)
  subst e1
  have e2 : lv_args 0 [va_rf (some v0), .int (v1), .int (v2)] = [(0, va_rf (some v0)), (1, .int (v1)), (2, .int (v2))] := by simp [lv_args, cat_rf, cat_i, cat_l]
  rw [e2]
  refine V_sub (lv' := [(0, va_rf (some v0)), (1, .int (v1)), (2, .int (v2))]) [0, 1, 2] rfl ?_
  exact vb_Tree_nextIn_0 hc hq v0 v1 v2 h hw
/-! Node.isDirectory()Z -/
abbrev rm_Node_isDirectory : Room := { frames := 0, cells := 0, slots := 0, locals := 0 }
def wq_Node_isDirectory_12  (ge : Nat → Nat) (s0 : Int32) (h : mm_M) (Z : Int32 → mm_M → Prop) : Prop :=
  ((s0) = 0 ∨ (s0) = 1) ∧ Z (s0) h
def wq_Node_isDirectory_0  (ge : Nat → Nat) (v0 : Nat) (h : mm_M) (Z : Int32 → mm_M → Prop) : Prop :=
  mm_k h (v0) = kd_Node ∧ ((0 ≤ (mm_I h v0 3) → wq_Node_isDirectory_12  ge (0) h Z) ∧ (¬ 0 ≤ (mm_I h v0 3) → wq_Node_isDirectory_12  ge (1) h Z))
set_option maxRecDepth 100000 in
set_option maxHeartbeats 4000000 in
theorem vb_Node_isDirectory_12 {E : mm_E} {Z : Int32 → mm_M → Prop} (hc : cx E "EpochServer$Node" c_Node_isDirectory 1 (some (.boolean)) rm_Node_isDirectory) (hq : cq E rm_Node_isDirectory (pI Z))  (s0 : Int32) (h : mm_M) (hw : wq_Node_isDirectory_12  (mm_ge (eG E)) s0 h Z) : V E 1 0 0 h 12 [] [.int (s0)] := by
  unfold wq_Node_isDirectory_12 at hw
  obtain ⟨q1, hw⟩ := hw
  exact V_zret hc hq (zz_nar q1) ⟨_, rfl, hw⟩ (by decide) (by decide) d_Node_isDirectory_12
set_option maxRecDepth 100000 in
set_option maxHeartbeats 4000000 in
theorem vb_Node_isDirectory_0 {E : mm_E} {Z : Int32 → mm_M → Prop} (hc : cx E "EpochServer$Node" c_Node_isDirectory 1 (some (.boolean)) rm_Node_isDirectory) (hq : cq E rm_Node_isDirectory (pI Z))  (v0 : Nat) (h : mm_M) (hw : wq_Node_isDirectory_0  (mm_ge (eG E)) v0 h Z) : V E 1 0 0 h 0 [(0, va_rf (some v0))] [] := by
  unfold wq_Node_isDirectory_0 at hw
  refine V_aload_n hc 0 d_Node_isDirectory_0 rfl rfl ?_
  obtain ⟨q1, hw⟩ := hw
  refine V_get (v := .int (mm_I h v0 3)) hc gf_Node_22 rfl q1 rfl d_Node_isDirectory_1 ?_
  refine V_if_ge (tgt := 11) hc d_Node_isDirectory_4 (by decide) (fun hq1 => ?_) (fun hq1 => ?_)
  · replace hw := hw.1 hq1
    refine V_iconst (v := 0) hc d_Node_isDirectory_11 (by decide) ?_
    refine V_sub (lv' := []) [] rfl ?_
    exact vb_Node_isDirectory_12 hc hq  _ _ hw
  · replace hw := hw.2 hq1
    refine V_iconst (v := 1) hc d_Node_isDirectory_7 (by decide) ?_
    refine V_goto (tgt := 12) hc d_Node_isDirectory_8 (by decide) ?_
    refine V_sub (lv' := []) [] rfl ?_
    exact vb_Node_isDirectory_12 hc hq  _ _ hw
def wq_Node_isDirectory (ge : Nat → Nat) (v0 : Nat) (h : mm_M) (Z : Int32 → mm_M → Prop) : Prop := wq_Node_isDirectory_0 ge v0 h Z
theorem sat_Node_isDirectory (G : mm_G) (v0 : Nat) (h : mm_M) (Z : Int32 → mm_M → Prop) (hw : wq_Node_isDirectory (mm_ge G) v0 h Z) : mm_Met G y_Node_isDirectory c_Node_isDirectory 1 (some (.boolean)) rm_Node_isDirectory [va_rf (some v0)] h (pI Z) := by
  refine mm_intro (own := "EpochServer$Node") (by decide) rfl (by simp [lg_sl, cat_rf, cat_i, cat_l]) (fun E e1 hc hq hi => ?_)
  subst e1
  have e2 : lv_args 0 [va_rf (some v0)] = [(0, va_rf (some v0))] := by simp [lv_args, cat_rf, cat_i, cat_l]
  rw [e2]
  refine V_sub (lv' := [(0, va_rf (some v0))]) [0] rfl ?_
  exact vb_Node_isDirectory_0 hc hq v0 h hw
/-! Tree.listInnermostFirst([I)I -/
abbrev rm_Tree_listInnermostFirst : Room := { frames := 3, cells := 0, slots := 0, locals := 68 }
def wq_Tree_listInnermostFirst_128  (ge : Nat → Nat) (v2 : Int32) (h : mm_M) (Z : Int32 → mm_M → Prop) : Prop :=
  Z (v2) h
def wq_Tree_listInnermostFirst_122 (X14 : Nat → Option Nat → Int32 → Int32 → Option Nat → Int32 → mm_M → Prop) (ge : Nat → Nat) (v0 : Nat) (v1 : Option Nat) (v2 : Int32) (v3 : Int32) (v4 : Option Nat) (v5 : Int32) (h : mm_M) (Z : Int32 → mm_M → Prop) : Prop :=
  X14 (v0) (v1) (v2) (v3) (v4) (v5 + 1) h
def wq_Tree_listInnermostFirst_119 (X14 : Nat → Option Nat → Int32 → Int32 → Option Nat → Int32 → mm_M → Prop) (ge : Nat → Nat) (v0 : Nat) (v1 : Option Nat) (v2 : Int32) (v4 : Option Nat) (v5 : Int32) (v7 : Int32) (h : mm_M) (Z : Int32 → mm_M → Prop) : Prop :=
  wq_Tree_listInnermostFirst_122 X14 ge (v0) (v1) (v2) (v7) (v4) (v5) h Z
def wq_Tree_listInnermostFirst_117 (X14 : Nat → Option Nat → Int32 → Int32 → Option Nat → Int32 → mm_M → Prop) (ge : Nat → Nat) (v0 : Nat) (v1 : Option Nat) (v2 : Int32) (v5 : Int32) (v7 : Int32) (s0 : Option Nat) (h : mm_M) (Z : Int32 → mm_M → Prop) : Prop :=
  wq_Tree_listInnermostFirst_119 X14 ge (v0) (v1) (v2) (s0) (v5) (v7) h Z
def wq_Tree_listInnermostFirst_94 (X14 : Nat → Option Nat → Int32 → Int32 → Option Nat → Int32 → mm_M → Prop) (ge : Nat → Nat) (v0 : Nat) (v1 : Option Nat) (v2 : Int32) (v4 : Option Nat) (v5 : Int32) (v6 : Option Nat) (v7 : Int32) (h : mm_M) (Z : Int32 → mm_M → Prop) : Prop :=
  ((∀ a1, v6 = some a1 → wq_Tree_listInnermostFirst_119 X14 ge (v0) (v1) (v2) (v4) (v5) (v7) h Z) ∧ (v6 = none → ((¬ (v7) = 0 → ∃ a2, v4 = some a2 ∧ mm_k h (a2) = kd_Node ∧ mm_k h (v0) = kd_Tree ∧ wq_Tree_at ge (v0) (mm_I h a2 1) h (fun (r7 : Option Nat) (h6 : mm_M) => wq_Tree_listInnermostFirst_117 X14 ge (v0) (v1) (v2) (v5) (v7) (r7) h6 Z)) ∧ ((v7) = 0 → wq_Tree_listInnermostFirst_117 X14 ge (v0) (v1) (v2) (v5) (v7) (none) h Z))))
def wq_Tree_listInnermostFirst_78 (X14 : Nat → Option Nat → Int32 → Int32 → Option Nat → Int32 → mm_M → Prop) (ge : Nat → Nat) (v0 : Nat) (v1 : Option Nat) (v2 : Int32) (v4 : Option Nat) (v5 : Int32) (v6 : Option Nat) (s0 : Int32) (h : mm_M) (Z : Int32 → mm_M → Prop) : Prop :=
  ∃ a1, v1 = some a1 ∧ mm_k h (a1) = ka_I ∧ (((Nat.toInt32 (mm_n h a1) : Int32) ≤ (v2 : Int32) → wq_Tree_listInnermostFirst_94 X14 ge (v0) (v1) (v2) (v4) (v5) (v6) (s0) h Z) ∧ (¬ (Nat.toInt32 (mm_n h a1) : Int32) ≤ (v2 : Int32) → vp_in (v2) (mm_n h a1) ∧ ge 0 ≤ a1 ∧ ∀ h6 : mm_M, h6 = mm_uI h a1 (Int32.toNatClampNeg (v2)) (s0) → wq_Tree_listInnermostFirst_94 X14 ge (v0) (v1) (v2 + 1) (v4) (v5) (v6) (s0) h6 Z))
def wq_Tree_listInnermostFirst_60 (X14 : Nat → Option Nat → Int32 → Int32 → Option Nat → Int32 → mm_M → Prop) (ge : Nat → Nat) (v0 : Nat) (v1 : Option Nat) (v2 : Int32) (v4 : Option Nat) (v5 : Int32) (v6 : Option Nat) (h : mm_M) (Z : Int32 → mm_M → Prop) : Prop :=
  ((∀ a1, v6 = some a1 → ∃ a2, v6 = some a2 ∧ mm_k h (a2) = kd_Node ∧ wq_Tree_listInnermostFirst_78 X14 ge (v0) (v1) (v2) (v4) (v5) (v6) (mm_I h a2 0) h Z) ∧ (v6 = none → ∃ a5, v4 = some a5 ∧ mm_k h (a5) = kd_Node ∧ wq_Tree_listInnermostFirst_78 X14 ge (v0) (v1) (v2) (v4) (v5) (v6) (mm_I h a5 0) h Z))
def wq_Tree_listInnermostFirst_14 (X14 : Nat → Option Nat → Int32 → Int32 → Option Nat → Int32 → mm_M → Prop) (ge : Nat → Nat) (v0 : Nat) (v1 : Option Nat) (v2 : Int32) (v3 : Int32) (v4 : Option Nat) (v5 : Int32) (h : mm_M) (Z : Int32 → mm_M → Prop) : Prop :=
  (((120 : Int32) ≤ (v5 : Int32) → wq_Tree_listInnermostFirst_128  ge (v2) h Z) ∧ (¬ (120 : Int32) ≤ (v5 : Int32) → ((v4 = none → wq_Tree_listInnermostFirst_128  ge (v2) h Z) ∧ (∀ a1, v4 = some a1 → ∃ a2, v4 = some a2 ∧ mm_k h (a2) = kd_Node ∧ mm_k h (v0) = kd_Tree ∧ wq_Tree_nextIn ge (v0) (mm_I h a2 0) (v3) h (fun (r7 : Option Nat) (h6 : mm_M) => ((r7 = none → wq_Tree_listInnermostFirst_60 X14 ge (v0) (v1) (v2) (v4) (v5) (r7) h6 Z) ∧ (∀ a8, r7 = some a8 → ∃ a9, r7 = some a9 ∧ mm_k h6 (a9) = kd_Node ∧ wq_Node_isDirectory ge (a9) h6 (fun (r13 : Int32) (h12 : mm_M) => (((r13) = 0 → wq_Tree_listInnermostFirst_60 X14 ge (v0) (v1) (v2) (v4) (v5) (r7) h12 Z) ∧ (¬ (r13) = 0 → wq_Tree_listInnermostFirst_122 X14 ge (v0) (v1) (v2) (0) (r7) (v5) h12 Z))))))))))
def lp_Tree_listInnermostFirst_14  (ge : Nat → Nat) (v0 : Nat) (v1 : Option Nat) (v2 : Int32) (v3 : Int32) (v4 : Option Nat) (v5 : Int32) (h : mm_M) (Z : Int32 → mm_M → Prop) : Prop :=
  ∀ X14 : Nat → Option Nat → Int32 → Int32 → Option Nat → Int32 → mm_M → Prop, (∀ (v0 : Nat) (v1 : Option Nat) (v2 : Int32) (v3 : Int32) (v4 : Option Nat) (v5 : Int32) (h : mm_M), wq_Tree_listInnermostFirst_14 X14 ge v0 v1 v2 v3 v4 v5 h Z → X14 v0 v1 v2 v3 v4 v5 h) → X14 v0 v1 v2 v3 v4 v5 h
def wq_Tree_listInnermostFirst_0  (ge : Nat → Nat) (v0 : Nat) (v1 : Option Nat) (h : mm_M) (Z : Int32 → mm_M → Prop) : Prop :=
  mm_k h (v0) = kd_Tree ∧ wq_Tree_at ge (v0) (0) h (fun (r3 : Option Nat) (h2 : mm_M) => lp_Tree_listInnermostFirst_14  ge (v0) (v1) (0) (0) (r3) (0) h2 Z)
set_option maxRecDepth 100000 in
set_option maxHeartbeats 4000000 in
theorem vb_Tree_listInnermostFirst_128 {E : mm_E} {Z : Int32 → mm_M → Prop} (hc : cx E "EpochServer$Tree" c_Tree_listInnermostFirst 8 (some (.int)) rm_Tree_listInnermostFirst) (hq : cq E rm_Tree_listInnermostFirst (pI Z))  (v2 : Int32) (h : mm_M) (hw : wq_Tree_listInnermostFirst_128  (mm_ge (eG E)) v2 h Z) : V E 8 0 0 h 128 [(2, .int (v2))] [] := by
  unfold wq_Tree_listInnermostFirst_128 at hw
  refine V_iload_n hc 0 d_Tree_listInnermostFirst_128 rfl rfl ?_
  exact V_iret hc hq ⟨_, rfl, hw⟩ (by decide) (by decide) d_Tree_listInnermostFirst_129
set_option maxRecDepth 100000 in
set_option maxHeartbeats 4000000 in
theorem vb_Tree_listInnermostFirst_122 {E : mm_E} {Z : Int32 → mm_M → Prop} (hc : cx E "EpochServer$Tree" c_Tree_listInnermostFirst 8 (some (.int)) rm_Tree_listInnermostFirst) (hq : cq E rm_Tree_listInnermostFirst (pI Z)) (X14 : Nat → Option Nat → Int32 → Int32 → Option Nat → Int32 → mm_M → Prop) (hX14 : ∀ (v0 : Nat) (v1 : Option Nat) (v2 : Int32) (v3 : Int32) (v4 : Option Nat) (v5 : Int32) (h : mm_M), X14 v0 v1 v2 v3 v4 v5 h → V E 8 0 0 h 14 [(0, va_rf (some v0)), (1, va_rf (v1)), (2, .int (v2)), (3, .int (v3)), (4, va_rf (v4)), (5, .int (v5))] []) (v0 : Nat) (v1 : Option Nat) (v2 : Int32) (v3 : Int32) (v4 : Option Nat) (v5 : Int32) (h : mm_M) (hw : wq_Tree_listInnermostFirst_122 X14 (mm_ge (eG E)) v0 v1 v2 v3 v4 v5 h Z) : V E 8 0 0 h 122 [(0, va_rf (some v0)), (1, va_rf (v1)), (2, .int (v2)), (3, .int (v3)), (4, va_rf (v4)), (5, .int (v5))] [] := by
  unfold wq_Tree_listInnermostFirst_122 at hw
  refine V_iinc (v := v5 + 1) (lv' := [(5, .int (v5 + 1)), (0, va_rf (some v0)), (1, va_rf (v1)), (2, .int (v2)), (3, .int (v3)), (4, va_rf (v4))]) hc 5 d_Tree_listInnermostFirst_122 rfl rfl (by decide) (by simp [cat_rf, cat_i, cat_l]) ?_
  refine V_goto (tgt := 14) hc d_Tree_listInnermostFirst_125 (by decide) ?_
  refine V_sub (lv' := [(0, va_rf (some v0)), (1, va_rf (v1)), (2, .int (v2)), (3, .int (v3)), (4, va_rf (v4)), (5, .int (v5 + 1))]) [1, 2, 3, 4, 5, 0] rfl ?_
  exact hX14 _ _ _ _ _ _ _ hw
set_option maxRecDepth 100000 in
set_option maxHeartbeats 4000000 in
theorem vb_Tree_listInnermostFirst_119 {E : mm_E} {Z : Int32 → mm_M → Prop} (hc : cx E "EpochServer$Tree" c_Tree_listInnermostFirst 8 (some (.int)) rm_Tree_listInnermostFirst) (hq : cq E rm_Tree_listInnermostFirst (pI Z)) (X14 : Nat → Option Nat → Int32 → Int32 → Option Nat → Int32 → mm_M → Prop) (hX14 : ∀ (v0 : Nat) (v1 : Option Nat) (v2 : Int32) (v3 : Int32) (v4 : Option Nat) (v5 : Int32) (h : mm_M), X14 v0 v1 v2 v3 v4 v5 h → V E 8 0 0 h 14 [(0, va_rf (some v0)), (1, va_rf (v1)), (2, .int (v2)), (3, .int (v3)), (4, va_rf (v4)), (5, .int (v5))] []) (v0 : Nat) (v1 : Option Nat) (v2 : Int32) (v4 : Option Nat) (v5 : Int32) (v7 : Int32) (h : mm_M) (hw : wq_Tree_listInnermostFirst_119 X14 (mm_ge (eG E)) v0 v1 v2 v4 v5 v7 h Z) : V E 8 0 0 h 119 [(0, va_rf (some v0)), (1, va_rf (v1)), (2, .int (v2)), (4, va_rf (v4)), (5, .int (v5)), (7, .int (v7))] [] := by
  unfold wq_Tree_listInnermostFirst_119 at hw
  refine V_iload hc 5 d_Tree_listInnermostFirst_119 rfl ?_
  refine V_istore_n (i := 3) (lv' := [(3, .int (v7)), (0, va_rf (some v0)), (1, va_rf (v1)), (2, .int (v2)), (4, va_rf (v4)), (5, .int (v5)), (7, .int (v7))]) hc d_Tree_listInnermostFirst_121 rfl (by decide) rfl ?_
  refine V_sub (lv' := [(0, va_rf (some v0)), (1, va_rf (v1)), (2, .int (v2)), (3, .int (v7)), (4, va_rf (v4)), (5, .int (v5))]) [1, 2, 3, 0, 4, 5] rfl ?_
  exact vb_Tree_listInnermostFirst_122 hc hq X14 hX14 _ _ _ _ _ _ _ hw
set_option maxRecDepth 100000 in
set_option maxHeartbeats 4000000 in
theorem vb_Tree_listInnermostFirst_117 {E : mm_E} {Z : Int32 → mm_M → Prop} (hc : cx E "EpochServer$Tree" c_Tree_listInnermostFirst 8 (some (.int)) rm_Tree_listInnermostFirst) (hq : cq E rm_Tree_listInnermostFirst (pI Z)) (X14 : Nat → Option Nat → Int32 → Int32 → Option Nat → Int32 → mm_M → Prop) (hX14 : ∀ (v0 : Nat) (v1 : Option Nat) (v2 : Int32) (v3 : Int32) (v4 : Option Nat) (v5 : Int32) (h : mm_M), X14 v0 v1 v2 v3 v4 v5 h → V E 8 0 0 h 14 [(0, va_rf (some v0)), (1, va_rf (v1)), (2, .int (v2)), (3, .int (v3)), (4, va_rf (v4)), (5, .int (v5))] []) (v0 : Nat) (v1 : Option Nat) (v2 : Int32) (v5 : Int32) (v7 : Int32) (s0 : Option Nat) (h : mm_M) (hw : wq_Tree_listInnermostFirst_117 X14 (mm_ge (eG E)) v0 v1 v2 v5 v7 s0 h Z) : V E 8 0 0 h 117 [(0, va_rf (some v0)), (1, va_rf (v1)), (2, .int (v2)), (5, .int (v5)), (7, .int (v7))] [va_rf (s0)] := by
  unfold wq_Tree_listInnermostFirst_117 at hw
  refine V_astore (i := 4) (lv' := [(4, va_rf (s0)), (0, va_rf (some v0)), (1, va_rf (v1)), (2, .int (v2)), (5, .int (v5)), (7, .int (v7))]) hc d_Tree_listInnermostFirst_117 (by decide) rfl ?_
  refine V_sub (lv' := [(0, va_rf (some v0)), (1, va_rf (v1)), (2, .int (v2)), (4, va_rf (s0)), (5, .int (v5)), (7, .int (v7))]) [1, 2, 3, 0, 4, 5] rfl ?_
  exact vb_Tree_listInnermostFirst_119 hc hq X14 hX14 _ _ _ _ _ _ _ hw
set_option maxRecDepth 100000 in
set_option maxHeartbeats 4000000 in
theorem vb_Tree_listInnermostFirst_94 {E : mm_E} {Z : Int32 → mm_M → Prop} (hc : cx E "EpochServer$Tree" c_Tree_listInnermostFirst 8 (some (.int)) rm_Tree_listInnermostFirst) (hq : cq E rm_Tree_listInnermostFirst (pI Z)) (X14 : Nat → Option Nat → Int32 → Int32 → Option Nat → Int32 → mm_M → Prop) (hX14 : ∀ (v0 : Nat) (v1 : Option Nat) (v2 : Int32) (v3 : Int32) (v4 : Option Nat) (v5 : Int32) (h : mm_M), X14 v0 v1 v2 v3 v4 v5 h → V E 8 0 0 h 14 [(0, va_rf (some v0)), (1, va_rf (v1)), (2, .int (v2)), (3, .int (v3)), (4, va_rf (v4)), (5, .int (v5))] []) (v0 : Nat) (v1 : Option Nat) (v2 : Int32) (v4 : Option Nat) (v5 : Int32) (v6 : Option Nat) (v7 : Int32) (h : mm_M) (hw : wq_Tree_listInnermostFirst_94 X14 (mm_ge (eG E)) v0 v1 v2 v4 v5 v6 v7 h Z) : V E 8 0 0 h 94 [(0, va_rf (some v0)), (1, va_rf (v1)), (2, .int (v2)), (4, va_rf (v4)), (5, .int (v5)), (6, va_rf (v6)), (7, .int (v7))] [] := by
  unfold wq_Tree_listInnermostFirst_94 at hw
  refine V_aload hc 5 d_Tree_listInnermostFirst_94 rfl ?_
  refine V_ifnonnull (tgt := 119) hc d_Tree_listInnermostFirst_96 (by decide) (fun a1 hq1 => ?_) (fun hq1 => ?_)
  · replace hw := hw.1 a1 hq1
    refine V_sub (lv' := [(0, va_rf (some v0)), (1, va_rf (v1)), (2, .int (v2)), (4, va_rf (v4)), (5, .int (v5)), (7, .int (v7))]) [0, 1, 2, 3, 4, 6] rfl ?_
    exact vb_Tree_listInnermostFirst_119 hc hq X14 hX14 _ _ _ _ _ _ _ hw
  · replace hw := hw.2 hq1
    refine V_iload hc 6 d_Tree_listInnermostFirst_99 rfl ?_
    refine V_if_ne (tgt := 108) hc d_Tree_listInnermostFirst_101 (by decide) (fun hq1 => ?_) (fun hq1 => ?_)
    · replace hw := hw.1 hq1
      refine V_aload_n hc 0 d_Tree_listInnermostFirst_108 rfl rfl ?_
      refine V_aload hc 3 d_Tree_listInnermostFirst_109 rfl ?_
      obtain ⟨a2, q3, hw⟩ := hw
      obtain ⟨q4, hw⟩ := hw
      refine V_get (v := .int (mm_I h a2 1)) hc gf_Tree_25 q3 q4 rfl d_Tree_listInnermostFirst_111 ?_
      obtain ⟨q5, hw⟩ := hw
      refine V_callV (rm' := rm_Tree_at) (As := [.int (mm_I h a2 1)]) (rest := []) (n := 1) (cn := 12) hc rfl q5 (sat_Tree_at (eG E) _ _ _ _ hw) rfl cv_Tree_21 (gw_of (tw_3 (List.mem_of_getElem? (i := 46) rfl)) rfl) ss_Tree_at rfl ⟨by decide, by decide⟩ (by decide) (by decide) rfl (by simp [cat_rf, cat_i, cat_l]) d_Tree_listInnermostFirst_114 (fun r0 h6 hw => ?_)
      obtain ⟨r7, rfl, hw⟩ := hw
      refine V_wide (cs' := 0) (sl' := 0) (by decide) (by decide) ?_
      refine V_st (st' := [va_rf (r7)]) rfl ?_
      refine V_sub (lv' := [(0, va_rf (some v0)), (1, va_rf (v1)), (2, .int (v2)), (5, .int (v5)), (7, .int (v7))]) [0, 1, 2, 4, 6] rfl ?_
      exact vb_Tree_listInnermostFirst_117 hc hq X14 hX14 _ _ _ _ _ _ _ hw
    · replace hw := hw.2 hq1
      refine V_null hc d_Tree_listInnermostFirst_104 ?_
      refine V_goto (tgt := 117) hc d_Tree_listInnermostFirst_105 (by decide) ?_
      refine V_sub (lv' := [(0, va_rf (some v0)), (1, va_rf (v1)), (2, .int (v2)), (5, .int (v5)), (7, .int (v7))]) [0, 1, 2, 4, 6] rfl ?_
      exact vb_Tree_listInnermostFirst_117 hc hq X14 hX14 _ _ _ _ _ _ _ hw
set_option maxRecDepth 100000 in
set_option maxHeartbeats 4000000 in
theorem vb_Tree_listInnermostFirst_78 {E : mm_E} {Z : Int32 → mm_M → Prop} (hc : cx E "EpochServer$Tree" c_Tree_listInnermostFirst 8 (some (.int)) rm_Tree_listInnermostFirst) (hq : cq E rm_Tree_listInnermostFirst (pI Z)) (X14 : Nat → Option Nat → Int32 → Int32 → Option Nat → Int32 → mm_M → Prop) (hX14 : ∀ (v0 : Nat) (v1 : Option Nat) (v2 : Int32) (v3 : Int32) (v4 : Option Nat) (v5 : Int32) (h : mm_M), X14 v0 v1 v2 v3 v4 v5 h → V E 8 0 0 h 14 [(0, va_rf (some v0)), (1, va_rf (v1)), (2, .int (v2)), (3, .int (v3)), (4, va_rf (v4)), (5, .int (v5))] []) (v0 : Nat) (v1 : Option Nat) (v2 : Int32) (v4 : Option Nat) (v5 : Int32) (v6 : Option Nat) (s0 : Int32) (h : mm_M) (hw : wq_Tree_listInnermostFirst_78 X14 (mm_ge (eG E)) v0 v1 v2 v4 v5 v6 s0 h Z) : V E 8 0 0 h 78 [(0, va_rf (some v0)), (1, va_rf (v1)), (2, .int (v2)), (4, va_rf (v4)), (5, .int (v5)), (6, va_rf (v6))] [.int (s0)] := by
  unfold wq_Tree_listInnermostFirst_78 at hw
  refine V_istore (i := 7) (lv' := [(7, .int (s0)), (0, va_rf (some v0)), (1, va_rf (v1)), (2, .int (v2)), (4, va_rf (v4)), (5, .int (v5)), (6, va_rf (v6))]) hc d_Tree_listInnermostFirst_78 (by decide) (by simp [cat_rf, cat_i, cat_l]) ?_
  refine V_iload_n hc 3 d_Tree_listInnermostFirst_80 rfl rfl ?_
  refine V_aload_n hc 2 d_Tree_listInnermostFirst_81 rfl rfl ?_
  obtain ⟨a1, q2, hw⟩ := hw
  obtain ⟨q3, hw⟩ := hw
  refine V_alen (t := 0) (ty := .int) hc rfl q2 q3 d_Tree_listInnermostFirst_82 ?_
  refine V_icmp_ge (tgt := 94) hc d_Tree_listInnermostFirst_83 (by decide) (fun hq1 => ?_) (fun hq1 => ?_)
  · replace hw := hw.1 hq1
    refine V_sub (lv' := [(0, va_rf (some v0)), (1, va_rf (v1)), (2, .int (v2)), (4, va_rf (v4)), (5, .int (v5)), (6, va_rf (v6)), (7, .int (s0))]) [1, 2, 3, 4, 5, 6, 0] rfl ?_
    exact vb_Tree_listInnermostFirst_94 hc hq X14 hX14 _ _ _ _ _ _ _ _ hw
  · replace hw := hw.2 hq1
    refine V_aload_n hc 2 d_Tree_listInnermostFirst_86 rfl rfl ?_
    refine V_iload_n hc 3 d_Tree_listInnermostFirst_87 rfl rfl ?_
    refine V_iload hc 0 d_Tree_listInnermostFirst_88 rfl ?_
    obtain ⟨q4, hw⟩ := hw
    obtain ⟨q5, hw⟩ := hw
    obtain ⟨h6, eq_h6⟩ : ∃ x, x = mm_uI h a1 (Int32.toNatClampNeg (v2)) (s0) := ⟨_, rfl⟩
    replace hw := hw _ eq_h6
    refine V_iast hc q2 q3 q4 q5 d_Tree_listInnermostFirst_90 ?_
    rw [← eq_h6]
    refine V_iinc (v := v2 + 1) (lv' := [(2, .int (v2 + 1)), (7, .int (s0)), (0, va_rf (some v0)), (1, va_rf (v1)), (4, va_rf (v4)), (5, .int (v5)), (6, va_rf (v6))]) hc 3 d_Tree_listInnermostFirst_91 rfl rfl (by decide) (by simp [cat_rf, cat_i, cat_l]) ?_
    refine V_sub (lv' := [(0, va_rf (some v0)), (1, va_rf (v1)), (2, .int (v2 + 1)), (4, va_rf (v4)), (5, .int (v5)), (6, va_rf (v6)), (7, .int (s0))]) [2, 3, 0, 4, 5, 6, 1] rfl ?_
    exact vb_Tree_listInnermostFirst_94 hc hq X14 hX14 _ _ _ _ _ _ _ _ hw
set_option maxRecDepth 100000 in
set_option maxHeartbeats 4000000 in
theorem vb_Tree_listInnermostFirst_60 {E : mm_E} {Z : Int32 → mm_M → Prop} (hc : cx E "EpochServer$Tree" c_Tree_listInnermostFirst 8 (some (.int)) rm_Tree_listInnermostFirst) (hq : cq E rm_Tree_listInnermostFirst (pI Z)) (X14 : Nat → Option Nat → Int32 → Int32 → Option Nat → Int32 → mm_M → Prop) (hX14 : ∀ (v0 : Nat) (v1 : Option Nat) (v2 : Int32) (v3 : Int32) (v4 : Option Nat) (v5 : Int32) (h : mm_M), X14 v0 v1 v2 v3 v4 v5 h → V E 8 0 0 h 14 [(0, va_rf (some v0)), (1, va_rf (v1)), (2, .int (v2)), (3, .int (v3)), (4, va_rf (v4)), (5, .int (v5))] []) (v0 : Nat) (v1 : Option Nat) (v2 : Int32) (v4 : Option Nat) (v5 : Int32) (v6 : Option Nat) (h : mm_M) (hw : wq_Tree_listInnermostFirst_60 X14 (mm_ge (eG E)) v0 v1 v2 v4 v5 v6 h Z) : V E 8 0 0 h 60 [(0, va_rf (some v0)), (1, va_rf (v1)), (2, .int (v2)), (4, va_rf (v4)), (5, .int (v5)), (6, va_rf (v6))] [] := by
  unfold wq_Tree_listInnermostFirst_60 at hw
  refine V_aload hc 5 d_Tree_listInnermostFirst_60 rfl ?_
  refine V_ifnonnull (tgt := 73) hc d_Tree_listInnermostFirst_62 (by decide) (fun a1 hq1 => ?_) (fun hq1 => ?_)
  · replace hw := hw.1 a1 hq1
    refine V_aload hc 5 d_Tree_listInnermostFirst_73 rfl ?_
    obtain ⟨a2, q3, hw⟩ := hw
    obtain ⟨q4, hw⟩ := hw
    refine V_get (v := .int (mm_I h a2 0)) hc gf_Tree_17 q3 q4 rfl d_Tree_listInnermostFirst_75 ?_
    refine V_sub (lv' := [(0, va_rf (some v0)), (1, va_rf (v1)), (2, .int (v2)), (4, va_rf (v4)), (5, .int (v5)), (6, va_rf (v6))]) [0, 1, 2, 3, 4, 5] rfl ?_
    exact vb_Tree_listInnermostFirst_78 hc hq X14 hX14 _ _ _ _ _ _ _ _ hw
  · replace hw := hw.2 hq1
    refine V_aload hc 3 d_Tree_listInnermostFirst_65 rfl ?_
    obtain ⟨a5, q6, hw⟩ := hw
    obtain ⟨q7, hw⟩ := hw
    refine V_get (v := .int (mm_I h a5 0)) hc gf_Tree_17 q6 q7 rfl d_Tree_listInnermostFirst_67 ?_
    refine V_goto (tgt := 78) hc d_Tree_listInnermostFirst_70 (by decide) ?_
    refine V_sub (lv' := [(0, va_rf (some v0)), (1, va_rf (v1)), (2, .int (v2)), (4, va_rf (v4)), (5, .int (v5)), (6, va_rf (v6))]) [0, 1, 2, 3, 4, 5] rfl ?_
    exact vb_Tree_listInnermostFirst_78 hc hq X14 hX14 _ _ _ _ _ _ _ _ hw
set_option maxRecDepth 100000 in
set_option maxHeartbeats 4000000 in
theorem vb_Tree_listInnermostFirst_14 {E : mm_E} {Z : Int32 → mm_M → Prop} (hc : cx E "EpochServer$Tree" c_Tree_listInnermostFirst 8 (some (.int)) rm_Tree_listInnermostFirst) (hq : cq E rm_Tree_listInnermostFirst (pI Z)) (X14 : Nat → Option Nat → Int32 → Int32 → Option Nat → Int32 → mm_M → Prop) (hX14 : ∀ (v0 : Nat) (v1 : Option Nat) (v2 : Int32) (v3 : Int32) (v4 : Option Nat) (v5 : Int32) (h : mm_M), X14 v0 v1 v2 v3 v4 v5 h → V E 8 0 0 h 14 [(0, va_rf (some v0)), (1, va_rf (v1)), (2, .int (v2)), (3, .int (v3)), (4, va_rf (v4)), (5, .int (v5))] []) (v0 : Nat) (v1 : Option Nat) (v2 : Int32) (v3 : Int32) (v4 : Option Nat) (v5 : Int32) (h : mm_M) (hw : wq_Tree_listInnermostFirst_14 X14 (mm_ge (eG E)) v0 v1 v2 v3 v4 v5 h Z) : V E 8 0 0 h 14 [(0, va_rf (some v0)), (1, va_rf (v1)), (2, .int (v2)), (3, .int (v3)), (4, va_rf (v4)), (5, .int (v5))] [] := by
  unfold wq_Tree_listInnermostFirst_14 at hw
  refine V_iload hc 5 d_Tree_listInnermostFirst_14 rfl ?_
  refine V_bipush (v := 120) hc d_Tree_listInnermostFirst_16 (by decide) ?_
  refine V_icmp_ge (tgt := 128) hc d_Tree_listInnermostFirst_18 (by decide) (fun hq1 => ?_) (fun hq1 => ?_)
  · replace hw := hw.1 hq1
    refine V_sub (lv' := [(2, .int (v2))]) [2] rfl ?_
    exact vb_Tree_listInnermostFirst_128 hc hq  _ _ hw
  · replace hw := hw.2 hq1
    refine V_aload hc 4 d_Tree_listInnermostFirst_21 rfl ?_
    refine V_ifnull (tgt := 128) hc d_Tree_listInnermostFirst_23 (by decide) (fun hq1 => ?_) (fun a1 hq1 => ?_)
    · replace hw := hw.1 hq1
      refine V_sub (lv' := [(2, .int (v2))]) [2] rfl ?_
      exact vb_Tree_listInnermostFirst_128 hc hq  _ _ hw
    · replace hw := hw.2 a1 hq1
      refine V_aload_n hc 0 d_Tree_listInnermostFirst_26 rfl rfl ?_
      refine V_aload hc 4 d_Tree_listInnermostFirst_27 rfl ?_
      obtain ⟨a2, q3, hw⟩ := hw
      obtain ⟨q4, hw⟩ := hw
      refine V_get (v := .int (mm_I h a2 0)) hc gf_Tree_17 q3 q4 rfl d_Tree_listInnermostFirst_29 ?_
      refine V_iload_n hc 3 d_Tree_listInnermostFirst_32 rfl rfl ?_
      obtain ⟨q5, hw⟩ := hw
      refine V_callV (rm' := rm_Tree_nextIn) (As := [.int (mm_I h a2 0), .int (v3)]) (rest := []) (n := 2) (cn := 12) hc rfl q5 (sat_Tree_nextIn (eG E) _ _ _ _ _ hw) rfl cv_Tree_32 (gw_of (tw_4 (List.mem_of_getElem? (i := 73) rfl)) rfl) ss_Tree_nextIn rfl ⟨by decide, by decide⟩ (by decide) (by decide) rfl (by simp [cat_rf, cat_i, cat_l]) d_Tree_listInnermostFirst_33 (fun r0 h6 hw => ?_)
      obtain ⟨r7, rfl, hw⟩ := hw
      refine V_wide (cs' := 0) (sl' := 0) (by decide) (by decide) ?_
      refine V_st (st' := [va_rf (r7)]) rfl ?_
      refine V_astore (i := 6) (lv' := [(6, va_rf (r7)), (0, va_rf (some v0)), (1, va_rf (v1)), (2, .int (v2)), (3, .int (v3)), (4, va_rf (v4)), (5, .int (v5))]) hc d_Tree_listInnermostFirst_36 (by decide) rfl ?_
      refine V_aload hc 0 d_Tree_listInnermostFirst_38 rfl ?_
      refine V_ifnull (tgt := 60) hc d_Tree_listInnermostFirst_40 (by decide) (fun hq1 => ?_) (fun a8 hq1 => ?_)
      · replace hw := hw.1 hq1
        refine V_sub (lv' := [(0, va_rf (some v0)), (1, va_rf (v1)), (2, .int (v2)), (4, va_rf (v4)), (5, .int (v5)), (6, va_rf (r7))]) [1, 2, 3, 5, 6, 0] rfl ?_
        exact vb_Tree_listInnermostFirst_60 hc hq X14 hX14 _ _ _ _ _ _ _ hw
      · replace hw := hw.2 a8 hq1
        refine V_aload hc 0 d_Tree_listInnermostFirst_43 rfl ?_
        obtain ⟨a9, q10, hw⟩ := hw
        obtain ⟨q11, hw⟩ := hw
        refine V_callV (rm' := rm_Node_isDirectory) (As := []) (rest := []) (n := 0) (cn := 7) hc q10 q11 (sat_Node_isDirectory (eG E) _ _ _ hw) rfl cv_Tree_35 (gw_of (tw_3 (List.mem_of_getElem? (i := 62) rfl)) rfl) ss_Node_isDirectory rfl ⟨by decide, by decide⟩ (by decide) (by decide) rfl (by simp [cat_rf, cat_i, cat_l]) d_Tree_listInnermostFirst_45 (fun r0 h12 hw => ?_)
        obtain ⟨r13, rfl, hw⟩ := hw
        refine V_wide (cs' := 0) (sl' := 0) (by decide) (by decide) ?_
        refine V_st (st' := [.int (r13)]) rfl ?_
        refine V_if_eq (tgt := 60) hc d_Tree_listInnermostFirst_48 (by decide) (fun hq1 => ?_) (fun hq1 => ?_)
        · replace hw := hw.1 hq1
          refine V_sub (lv' := [(0, va_rf (some v0)), (1, va_rf (v1)), (2, .int (v2)), (4, va_rf (v4)), (5, .int (v5)), (6, va_rf (r7))]) [1, 2, 3, 5, 6, 0] rfl ?_
          exact vb_Tree_listInnermostFirst_60 hc hq X14 hX14 _ _ _ _ _ _ _ hw
        · replace hw := hw.2 hq1
          refine V_aload hc 0 d_Tree_listInnermostFirst_51 rfl ?_
          refine V_astore (i := 4) (lv' := [(4, va_rf (r7)), (6, va_rf (r7)), (0, va_rf (some v0)), (1, va_rf (v1)), (2, .int (v2)), (3, .int (v3)), (5, .int (v5))]) hc d_Tree_listInnermostFirst_53 (by decide) rfl ?_
          refine V_iconst (v := 0) hc d_Tree_listInnermostFirst_55 (by decide) ?_
          refine V_istore_n (i := 3) (lv' := [(3, .int (0)), (4, va_rf (r7)), (6, va_rf (r7)), (0, va_rf (some v0)), (1, va_rf (v1)), (2, .int (v2)), (5, .int (v5))]) hc d_Tree_listInnermostFirst_56 rfl (by decide) rfl ?_
          refine V_goto (tgt := 122) hc d_Tree_listInnermostFirst_57 (by decide) ?_
          refine V_sub (lv' := [(0, va_rf (some v0)), (1, va_rf (v1)), (2, .int (v2)), (3, .int (0)), (4, va_rf (r7)), (5, .int (v5))]) [3, 4, 5, 0, 1, 6] rfl ?_
          exact vb_Tree_listInnermostFirst_122 hc hq X14 hX14 _ _ _ _ _ _ _ hw
theorem vl_Tree_listInnermostFirst_14 {E : mm_E} {Z : Int32 → mm_M → Prop} (hc : cx E "EpochServer$Tree" c_Tree_listInnermostFirst 8 (some (.int)) rm_Tree_listInnermostFirst) (hq : cq E rm_Tree_listInnermostFirst (pI Z))  (v0 : Nat) (v1 : Option Nat) (v2 : Int32) (v3 : Int32) (v4 : Option Nat) (v5 : Int32) (h : mm_M) (hw : lp_Tree_listInnermostFirst_14  (mm_ge (eG E)) v0 v1 v2 v3 v4 v5 h Z) : V E 8 0 0 h 14 [(0, va_rf (some v0)), (1, va_rf (v1)), (2, .int (v2)), (3, .int (v3)), (4, va_rf (v4)), (5, .int (v5))] [] :=
  hw (fun v0 v1 v2 v3 v4 v5 h => V E 8 0 0 h 14 [(0, va_rf (some v0)), (1, va_rf (v1)), (2, .int (v2)), (3, .int (v3)), (4, va_rf (v4)), (5, .int (v5))] []) (fun v0 v1 v2 v3 v4 v5 h hb => vb_Tree_listInnermostFirst_14 hc hq  _ (fun _ _ _ _ _ _ _ q => q) v0 v1 v2 v3 v4 v5 h hb)
set_option maxRecDepth 100000 in
set_option maxHeartbeats 4000000 in
theorem vb_Tree_listInnermostFirst_0 {E : mm_E} {Z : Int32 → mm_M → Prop} (hc : cx E "EpochServer$Tree" c_Tree_listInnermostFirst 8 (some (.int)) rm_Tree_listInnermostFirst) (hq : cq E rm_Tree_listInnermostFirst (pI Z))  (v0 : Nat) (v1 : Option Nat) (h : mm_M) (hw : wq_Tree_listInnermostFirst_0  (mm_ge (eG E)) v0 v1 h Z) : V E 8 0 0 h 0 [(0, va_rf (some v0)), (1, va_rf (v1))] [] := by
  unfold wq_Tree_listInnermostFirst_0 at hw
  refine V_iconst (v := 0) hc d_Tree_listInnermostFirst_0 (by decide) ?_
  refine V_istore_n (i := 2) (lv' := [(2, .int (0)), (0, va_rf (some v0)), (1, va_rf (v1))]) hc d_Tree_listInnermostFirst_1 rfl (by decide) (by simp [cat_rf, cat_i, cat_l]) ?_
  refine V_iconst (v := 0) hc d_Tree_listInnermostFirst_2 (by decide) ?_
  refine V_istore_n (i := 3) (lv' := [(3, .int (0)), (2, .int (0)), (0, va_rf (some v0)), (1, va_rf (v1))]) hc d_Tree_listInnermostFirst_3 rfl (by decide) rfl ?_
  refine V_aload_n hc 2 d_Tree_listInnermostFirst_4 rfl rfl ?_
  refine V_iconst (v := 0) hc d_Tree_listInnermostFirst_5 (by decide) ?_
  obtain ⟨q1, hw⟩ := hw
  refine V_callV (rm' := rm_Tree_at) (As := [.int (0)]) (rest := []) (n := 1) (cn := 12) hc rfl q1 (sat_Tree_at (eG E) _ _ _ _ hw) rfl cv_Tree_21 (gw_of (tw_3 (List.mem_of_getElem? (i := 46) rfl)) rfl) ss_Tree_at rfl ⟨by decide, by decide⟩ (by decide) (by decide) rfl (by simp [cat_rf, cat_i, cat_l]) d_Tree_listInnermostFirst_6 (fun r0 h2 hw => ?_)
  obtain ⟨r3, rfl, hw⟩ := hw
  refine V_wide (cs' := 0) (sl' := 0) (by decide) (by decide) ?_
  refine V_st (st' := [va_rf (r3)]) rfl ?_
  refine V_astore (i := 4) (lv' := [(4, va_rf (r3)), (3, .int (0)), (2, .int (0)), (0, va_rf (some v0)), (1, va_rf (v1))]) hc d_Tree_listInnermostFirst_9 (by decide) rfl ?_
  refine V_iconst (v := 0) hc d_Tree_listInnermostFirst_11 (by decide) ?_
  refine V_istore (i := 5) (lv' := [(5, .int (0)), (4, va_rf (r3)), (3, .int (0)), (2, .int (0)), (0, va_rf (some v0)), (1, va_rf (v1))]) hc d_Tree_listInnermostFirst_12 (by decide) (by simp [cat_rf, cat_i, cat_l]) ?_
  refine V_sub (lv' := [(0, va_rf (some v0)), (1, va_rf (v1)), (2, .int (0)), (3, .int (0)), (4, va_rf (r3)), (5, .int (0))]) [4, 5, 3, 2, 1, 0] rfl ?_
  exact vl_Tree_listInnermostFirst_14 hc hq  _ _ _ _ _ _ _ hw
def wq_Tree_listInnermostFirst (ge : Nat → Nat) (v0 : Nat) (v1 : Option Nat) (h : mm_M) (Z : Int32 → mm_M → Prop) : Prop := wq_Tree_listInnermostFirst_0 ge v0 v1 h Z
theorem sat_Tree_listInnermostFirst (G : mm_G) (v0 : Nat) (v1 : Option Nat) (h : mm_M) (Z : Int32 → mm_M → Prop) (hw : wq_Tree_listInnermostFirst (mm_ge G) v0 v1 h Z) : mm_Met G y_Tree_listInnermostFirst c_Tree_listInnermostFirst 8 (some (.int)) rm_Tree_listInnermostFirst [va_rf (some v0), va_rf (v1)] h (pI Z) := by
  refine mm_intro (own := "EpochServer$Tree") (by decide) rfl (by simp [lg_sl, cat_rf, cat_i, cat_l]) (fun E e1 hc hq hi => ?_)
  subst e1
  have e2 : lv_args 0 [va_rf (some v0), va_rf (v1)] = [(0, va_rf (some v0)), (1, va_rf (v1))] := by simp [lv_args, cat_rf, cat_i, cat_l]
  rw [e2]
  refine V_sub (lv' := [(0, va_rf (some v0)), (1, va_rf (v1))]) [0, 1] rfl ?_
  exact vb_Tree_listInnermostFirst_0 hc hq v0 v1 h hw
/-! Bytes.clear()V -/
abbrev rm_Bytes_clear : Room := { frames := 0, cells := 0, slots := 0, locals := 0 }
def wq_Bytes_clear_0  (ge : Nat → Nat) (v0 : Nat) (h : mm_M) (Z : mm_M → Prop) : Prop :=
  mm_k h (v0) = kd_Bytes ∧ ge 0 ≤ v0 ∧ ∀ h3 : mm_M, h3 = mm_uI h (v0) 1 (0) → Z h3
set_option maxRecDepth 100000 in
set_option maxHeartbeats 4000000 in
theorem vb_Bytes_clear_0 {E : mm_E} {Z : mm_M → Prop} (hc : cx E "EpochServer$Bytes" c_Bytes_clear 1 none rm_Bytes_clear) (hq : cq E rm_Bytes_clear (pV Z))  (v0 : Nat) (h : mm_M) (hw : wq_Bytes_clear_0  (mm_ge (eG E)) v0 h Z) : V E 1 0 0 h 0 [(0, va_rf (some v0))] [] := by
  unfold wq_Bytes_clear_0 at hw
  refine V_aload_n hc 0 d_Bytes_clear_0 rfl rfl ?_
  refine V_iconst (v := 0) hc d_Bytes_clear_1 (by decide) ?_
  obtain ⟨q1, hw⟩ := hw
  obtain ⟨q2, hw⟩ := hw
  obtain ⟨h3, eq_h3⟩ : ∃ x, x = mm_uI h (v0) 1 (0) := ⟨_, rfl⟩
  replace hw := hw _ eq_h3
  refine V_put (h' := h3) hc gf_Bytes_7 rfl rfl q1 q2 (by rw [eq_h3]; exact mm_Up_I _ _ _ _) (by rw [eq_h3]; exact up_vI rfl) (vp_nar_int _) rfl d_Bytes_clear_2 ?_
  exact V_vret hc hq ⟨rfl, hw⟩ (by decide) (by decide) d_Bytes_clear_5
def wq_Bytes_clear (ge : Nat → Nat) (v0 : Nat) (h : mm_M) (Z : mm_M → Prop) : Prop := wq_Bytes_clear_0 ge v0 h Z
theorem sat_Bytes_clear (G : mm_G) (v0 : Nat) (h : mm_M) (Z : mm_M → Prop) (hw : wq_Bytes_clear (mm_ge G) v0 h Z) : mm_Met G y_Bytes_clear c_Bytes_clear 1 none rm_Bytes_clear [va_rf (some v0)] h (pV Z) := by
  refine mm_intro (own := "EpochServer$Bytes") (by decide) rfl (by simp [lg_sl, cat_rf, cat_i, cat_l]) (fun E e1 hc hq hi => ?_)
  subst e1
  have e2 : lv_args 0 [va_rf (some v0)] = [(0, va_rf (some v0))] := by simp [lv_args, cat_rf, cat_i, cat_l]
  rw [e2]
  refine V_sub (lv' := [(0, va_rf (some v0))]) [0] rfl ?_
  exact vb_Bytes_clear_0 hc hq v0 h hw
/-! Node.statSize()I -/
abbrev rm_Node_statSize : Room := { frames := 0, cells := 0, slots := 0, locals := 0 }
def wq_Node_statSize_0  (ge : Nat → Nat) (v0 : Nat) (h : mm_M) (Z : Int32 → mm_M → Prop) : Prop :=
  mm_k h (v0) = kd_Node ∧ ∃ a2, mm_P h v0 2 = some a2 ∧ mm_k h (a2) = ka_B ∧ Z ((52 : Int32) + (Nat.toInt32 (mm_n h a2))) h
set_option maxRecDepth 100000 in
set_option maxHeartbeats 4000000 in
theorem vb_Node_statSize_0 {E : mm_E} {Z : Int32 → mm_M → Prop} (hc : cx E "EpochServer$Node" c_Node_statSize 1 (some (.int)) rm_Node_statSize) (hq : cq E rm_Node_statSize (pI Z))  (v0 : Nat) (h : mm_M) (hw : wq_Node_statSize_0  (mm_ge (eG E)) v0 h Z) : V E 1 0 0 h 0 [(0, va_rf (some v0))] [] := by
  unfold wq_Node_statSize_0 at hw
  refine V_bipush (v := 52) hc d_Node_statSize_0 (by decide) ?_
  refine V_aload_n hc 0 d_Node_statSize_2 rfl rfl ?_
  obtain ⟨q1, hw⟩ := hw
  refine V_get (v := va_rf (mm_P h v0 2)) hc gf_Node_18 rfl q1 rfl d_Node_statSize_3 ?_
  obtain ⟨a2, q3, hw⟩ := hw
  obtain ⟨q4, hw⟩ := hw
  refine V_alen (t := 1) (ty := .byte) hc rfl q3 q4 d_Node_statSize_6 ?_
  refine V_iadd hc d_Node_statSize_7 ?_
  exact V_iret hc hq ⟨_, rfl, hw⟩ (by decide) (by decide) d_Node_statSize_8
def wq_Node_statSize (ge : Nat → Nat) (v0 : Nat) (h : mm_M) (Z : Int32 → mm_M → Prop) : Prop := wq_Node_statSize_0 ge v0 h Z
theorem sat_Node_statSize (G : mm_G) (v0 : Nat) (h : mm_M) (Z : Int32 → mm_M → Prop) (hw : wq_Node_statSize (mm_ge G) v0 h Z) : mm_Met G y_Node_statSize c_Node_statSize 1 (some (.int)) rm_Node_statSize [va_rf (some v0)] h (pI Z) := by
  refine mm_intro (own := "EpochServer$Node") (by decide) rfl (by simp [lg_sl, cat_rf, cat_i, cat_l]) (fun E e1 hc hq hi => ?_)
  subst e1
  have e2 : lv_args 0 [va_rf (some v0)] = [(0, va_rf (some v0))] := by simp [lv_args, cat_rf, cat_i, cat_l]
  rw [e2]
  refine V_sub (lv' := [(0, va_rf (some v0))]) [0] rfl ?_
  exact vb_Node_statSize_0 hc hq v0 h hw
/-! Bytes.put(JI)V -/
abbrev rm_Bytes_put : Room := { frames := 0, cells := 0, slots := 0, locals := 0 }
def wq_Bytes_put_49 (X3 : Nat → Int64 → Int32 → Int32 → mm_M → Prop) (ge : Nat → Nat) (v0 : Nat) (v1 : Int64) (v3 : Int32) (v4 : Int32) (h : mm_M) (Z : mm_M → Prop) : Prop :=
  X3 (v0) (v1) (v3) (v4 + 1) h
def wq_Bytes_put_3 (X3 : Nat → Int64 → Int32 → Int32 → mm_M → Prop) (ge : Nat → Nat) (v0 : Nat) (v1 : Int64) (v3 : Int32) (v4 : Int32) (h : mm_M) (Z : mm_M → Prop) : Prop :=
  (((v3 : Int32) ≤ (v4 : Int32) → Z h) ∧ (¬ (v3 : Int32) ≤ (v4 : Int32) → mm_k h (v0) = kd_Bytes ∧ ∃ a2, mm_P h v0 0 = some a2 ∧ mm_k h (a2) = ka_B ∧ (((Nat.toInt32 (mm_n h a2) : Int32) ≤ (mm_I h v0 1 : Int32) → wq_Bytes_put_49 X3 ge (v0) (v1) (v3) (v4) h Z) ∧ (¬ (Nat.toInt32 (mm_n h a2) : Int32) ≤ (mm_I h v0 1 : Int32) → vp_in (mm_I h v0 1) (mm_n h a2) ∧ ge 0 ≤ a2 ∧ ∀ h7 : mm_M, h7 = mm_uI h a2 (Int32.toNatClampNeg (mm_I h v0 1)) (vp_nar .byte (Int8.toInt32 (Int32.toInt8 (Int64.toInt32 ((v1) >>> (((8 : Int32) * (v4)).toInt64 &&& 63)))))) → mm_k h7 (v0) = kd_Bytes ∧ ge 0 ≤ v0 ∧ ∀ h10 : mm_M, h10 = mm_uI h7 (v0) 1 ((mm_I h7 v0 1) + (1 : Int32)) → wq_Bytes_put_49 X3 ge (v0) (v1) (v3) (v4) h10 Z))))
def lp_Bytes_put_3  (ge : Nat → Nat) (v0 : Nat) (v1 : Int64) (v3 : Int32) (v4 : Int32) (h : mm_M) (Z : mm_M → Prop) : Prop :=
  ∀ X3 : Nat → Int64 → Int32 → Int32 → mm_M → Prop, (∀ (v0 : Nat) (v1 : Int64) (v3 : Int32) (v4 : Int32) (h : mm_M), wq_Bytes_put_3 X3 ge v0 v1 v3 v4 h Z → X3 v0 v1 v3 v4 h) → X3 v0 v1 v3 v4 h
def wq_Bytes_put_0  (ge : Nat → Nat) (v0 : Nat) (v1 : Int64) (v3 : Int32) (h : mm_M) (Z : mm_M → Prop) : Prop :=
  lp_Bytes_put_3  ge (v0) (v1) (v3) (0) h Z
set_option maxRecDepth 100000 in
set_option maxHeartbeats 4000000 in
theorem vb_Bytes_put_49 {E : mm_E} {Z : mm_M → Prop} (hc : cx E "EpochServer$Bytes" c_Bytes_put 5 none rm_Bytes_put) (hq : cq E rm_Bytes_put (pV Z)) (X3 : Nat → Int64 → Int32 → Int32 → mm_M → Prop) (hX3 : ∀ (v0 : Nat) (v1 : Int64) (v3 : Int32) (v4 : Int32) (h : mm_M), X3 v0 v1 v3 v4 h → V E 5 0 0 h 3 [(0, va_rf (some v0)), (1, .long (v1)), (3, .int (v3)), (4, .int (v4))] []) (v0 : Nat) (v1 : Int64) (v3 : Int32) (v4 : Int32) (h : mm_M) (hw : wq_Bytes_put_49 X3 (mm_ge (eG E)) v0 v1 v3 v4 h Z) : V E 5 0 0 h 49 [(0, va_rf (some v0)), (1, .long (v1)), (3, .int (v3)), (4, .int (v4))] [] := by
  unfold wq_Bytes_put_49 at hw
  refine V_iinc (v := v4 + 1) (lv' := [(4, .int (v4 + 1)), (0, va_rf (some v0)), (1, .long (v1)), (3, .int (v3))]) hc 3 d_Bytes_put_49 rfl rfl (by decide) rfl ?_
  refine V_goto (tgt := 3) hc d_Bytes_put_52 (by decide) ?_
  refine V_sub (lv' := [(0, va_rf (some v0)), (1, .long (v1)), (3, .int (v3)), (4, .int (v4 + 1))]) [1, 2, 3, 0] rfl ?_
  exact hX3 _ _ _ _ _ hw
set_option maxRecDepth 100000 in
set_option maxHeartbeats 4000000 in
theorem vb_Bytes_put_3 {E : mm_E} {Z : mm_M → Prop} (hc : cx E "EpochServer$Bytes" c_Bytes_put 5 none rm_Bytes_put) (hq : cq E rm_Bytes_put (pV Z)) (X3 : Nat → Int64 → Int32 → Int32 → mm_M → Prop) (hX3 : ∀ (v0 : Nat) (v1 : Int64) (v3 : Int32) (v4 : Int32) (h : mm_M), X3 v0 v1 v3 v4 h → V E 5 0 0 h 3 [(0, va_rf (some v0)), (1, .long (v1)), (3, .int (v3)), (4, .int (v4))] []) (v0 : Nat) (v1 : Int64) (v3 : Int32) (v4 : Int32) (h : mm_M) (hw : wq_Bytes_put_3 X3 (mm_ge (eG E)) v0 v1 v3 v4 h Z) : V E 5 0 0 h 3 [(0, va_rf (some v0)), (1, .long (v1)), (3, .int (v3)), (4, .int (v4))] [] := by
  unfold wq_Bytes_put_3 at hw
  refine V_iload hc 3 d_Bytes_put_3 rfl ?_
  refine V_iload_n hc 2 d_Bytes_put_5 rfl rfl ?_
  refine V_icmp_ge (tgt := 55) hc d_Bytes_put_6 (by decide) (fun hq1 => ?_) (fun hq1 => ?_)
  · replace hw := hw.1 hq1
    exact V_vret hc hq ⟨rfl, hw⟩ (by decide) (by decide) d_Bytes_put_55
  · replace hw := hw.2 hq1
    refine V_aload_n hc 0 d_Bytes_put_9 rfl rfl ?_
    obtain ⟨q1, hw⟩ := hw
    refine V_get (v := .int (mm_I h v0 1)) hc gf_Bytes_7 rfl q1 rfl d_Bytes_put_10 ?_
    refine V_aload_n hc 0 d_Bytes_put_13 rfl rfl ?_
    refine V_get (v := va_rf (mm_P h v0 0)) hc gf_Bytes_19 rfl q1 rfl d_Bytes_put_14 ?_
    obtain ⟨a2, q3, hw⟩ := hw
    obtain ⟨q4, hw⟩ := hw
    refine V_alen (t := 1) (ty := .byte) hc rfl q3 q4 d_Bytes_put_17 ?_
    refine V_icmp_ge (tgt := 49) hc d_Bytes_put_18 (by decide) (fun hq1 => ?_) (fun hq1 => ?_)
    · replace hw := hw.1 hq1
      refine V_sub (lv' := [(0, va_rf (some v0)), (1, .long (v1)), (3, .int (v3)), (4, .int (v4))]) [0, 1, 2, 3] rfl ?_
      exact vb_Bytes_put_49 hc hq X3 hX3 _ _ _ _ _ hw
    · replace hw := hw.2 hq1
      refine V_aload_n hc 0 d_Bytes_put_21 rfl rfl ?_
      refine V_get (v := va_rf (mm_P h v0 0)) hc gf_Bytes_19 rfl q1 rfl d_Bytes_put_22 ?_
      refine V_aload_n hc 0 d_Bytes_put_25 rfl rfl ?_
      refine V_get (v := .int (mm_I h v0 1)) hc gf_Bytes_7 rfl q1 rfl d_Bytes_put_26 ?_
      refine V_lload_n hc 1 d_Bytes_put_29 rfl rfl ?_
      refine V_bipush (v := 8) hc d_Bytes_put_30 (by decide) ?_
      refine V_iload hc 3 d_Bytes_put_32 rfl ?_
      refine V_imul hc d_Bytes_put_34 ?_
      refine V_lshr hc d_Bytes_put_35 ?_
      refine V_l2i hc d_Bytes_put_36 ?_
      refine V_i2b hc d_Bytes_put_37 ?_
      obtain ⟨q5, hw⟩ := hw
      obtain ⟨q6, hw⟩ := hw
      obtain ⟨h7, eq_h7⟩ : ∃ x, x = mm_uI h a2 (Int32.toNatClampNeg (mm_I h v0 1)) (vp_nar .byte (Int8.toInt32 (Int32.toInt8 (Int64.toInt32 ((v1) >>> (((8 : Int32) * (v4)).toInt64 &&& 63)))))) := ⟨_, rfl⟩
      replace hw := hw _ eq_h7
      refine V_bast hc q3 q4 q5 q6 d_Bytes_put_38 ?_
      rw [← eq_h7]
      refine V_aload_n hc 0 d_Bytes_put_39 rfl rfl ?_
      refine V_dup hc d_Bytes_put_40 (cat_rf _) ?_
      obtain ⟨q8, hw⟩ := hw
      refine V_get (v := .int (mm_I h7 v0 1)) hc gf_Bytes_7 rfl q8 rfl d_Bytes_put_41 ?_
      refine V_iconst (v := 1) hc d_Bytes_put_44 (by decide) ?_
      refine V_iadd hc d_Bytes_put_45 ?_
      obtain ⟨q9, hw⟩ := hw
      obtain ⟨h10, eq_h10⟩ : ∃ x, x = mm_uI h7 (v0) 1 ((mm_I h7 v0 1) + (1 : Int32)) := ⟨_, rfl⟩
      replace hw := hw _ eq_h10
      refine V_put (h' := h10) hc gf_Bytes_7 rfl rfl q8 q9 (by rw [eq_h10]; exact mm_Up_I _ _ _ _) (by rw [eq_h10]; exact up_vI rfl) (vp_nar_int _) rfl d_Bytes_put_46 ?_
      refine V_sub (lv' := [(0, va_rf (some v0)), (1, .long (v1)), (3, .int (v3)), (4, .int (v4))]) [0, 1, 2, 3] rfl ?_
      exact vb_Bytes_put_49 hc hq X3 hX3 _ _ _ _ _ hw
theorem vl_Bytes_put_3 {E : mm_E} {Z : mm_M → Prop} (hc : cx E "EpochServer$Bytes" c_Bytes_put 5 none rm_Bytes_put) (hq : cq E rm_Bytes_put (pV Z))  (v0 : Nat) (v1 : Int64) (v3 : Int32) (v4 : Int32) (h : mm_M) (hw : lp_Bytes_put_3  (mm_ge (eG E)) v0 v1 v3 v4 h Z) : V E 5 0 0 h 3 [(0, va_rf (some v0)), (1, .long (v1)), (3, .int (v3)), (4, .int (v4))] [] :=
  hw (fun v0 v1 v3 v4 h => V E 5 0 0 h 3 [(0, va_rf (some v0)), (1, .long (v1)), (3, .int (v3)), (4, .int (v4))] []) (fun v0 v1 v3 v4 h hb => vb_Bytes_put_3 hc hq  _ (fun _ _ _ _ _ q => q) v0 v1 v3 v4 h hb)
set_option maxRecDepth 100000 in
set_option maxHeartbeats 4000000 in
theorem vb_Bytes_put_0 {E : mm_E} {Z : mm_M → Prop} (hc : cx E "EpochServer$Bytes" c_Bytes_put 5 none rm_Bytes_put) (hq : cq E rm_Bytes_put (pV Z))  (v0 : Nat) (v1 : Int64) (v3 : Int32) (h : mm_M) (hw : wq_Bytes_put_0  (mm_ge (eG E)) v0 v1 v3 h Z) : V E 5 0 0 h 0 [(0, va_rf (some v0)), (1, .long (v1)), (3, .int (v3))] [] := by
  unfold wq_Bytes_put_0 at hw
  refine V_iconst (v := 0) hc d_Bytes_put_0 (by decide) ?_
  refine V_istore (i := 4) (lv' := [(4, .int (0)), (0, va_rf (some v0)), (1, .long (v1)), (3, .int (v3))]) hc d_Bytes_put_1 (by decide) rfl ?_
  refine V_sub (lv' := [(0, va_rf (some v0)), (1, .long (v1)), (3, .int (v3)), (4, .int (0))]) [1, 2, 3, 0] rfl ?_
  exact vl_Bytes_put_3 hc hq  _ _ _ _ _ hw
def wq_Bytes_put (ge : Nat → Nat) (v0 : Nat) (v1 : Int64) (v3 : Int32) (h : mm_M) (Z : mm_M → Prop) : Prop := wq_Bytes_put_0 ge v0 v1 v3 h Z
theorem sat_Bytes_put (G : mm_G) (v0 : Nat) (v1 : Int64) (v3 : Int32) (h : mm_M) (Z : mm_M → Prop) (hw : wq_Bytes_put (mm_ge G) v0 v1 v3 h Z) : mm_Met G y_Bytes_put c_Bytes_put 5 none rm_Bytes_put [va_rf (some v0), .long (v1), .int (v3)] h (pV Z) := by
  refine mm_intro (own := "EpochServer$Bytes") (by decide) rfl (by simp [lg_sl, cat_rf, cat_i, cat_l]) (fun E e1 hc hq hi => ?_)
  subst e1
  have e2 : lv_args 0 [va_rf (some v0), .long (v1), .int (v3)] = [(0, va_rf (some v0)), (1, .long (v1)), (3, .int (v3))] := by simp [lv_args, cat_rf, cat_i, cat_l]
  rw [e2]
  refine V_sub (lv' := [(0, va_rf (some v0)), (1, .long (v1)), (3, .int (v3))]) [0, 1, 2] rfl ?_
  exact vb_Bytes_put_0 hc hq v0 v1 v3 h hw
/-! Bytes.putQid(LEpochServer$Node;)V -/
abbrev rm_Bytes_putQid : Room := { frames := 1, cells := 0, slots := 0, locals := 24 }
def wq_Bytes_putQid_15  (ge : Nat → Nat) (v0 : Nat) (v1 : Option Nat) (s0 : Option Nat) (s1 : Int64) (h : mm_M) (Z : mm_M → Prop) : Prop :=
  ∃ a1, s0 = some a1 ∧ mm_k h (a1) = kd_Bytes ∧ wq_Bytes_put ge (a1) (s1) (1) h (fun h4 : mm_M => ∃ a6, v1 = some a6 ∧ mm_k h4 (a6) = kd_Node ∧ mm_k h4 (v0) = kd_Bytes ∧ wq_Bytes_put ge (v0) (Int32.toInt64 (mm_I h4 a6 4)) (4) h4 (fun h10 : mm_M => ∃ a12, v1 = some a12 ∧ mm_k h10 (a12) = kd_Node ∧ mm_k h10 (v0) = kd_Bytes ∧ wq_Bytes_put ge (v0) (Int32.toInt64 (mm_I h10 a12 0)) (8) h10 (fun h16 : mm_M => Z h16)))
def wq_Bytes_putQid_0  (ge : Nat → Nat) (v0 : Nat) (v1 : Option Nat) (h : mm_M) (Z : mm_M → Prop) : Prop :=
  ∃ a1, v1 = some a1 ∧ mm_k h (a1) = kd_Node ∧ wq_Node_isDirectory ge (a1) h (fun (r5 : Int32) (h4 : mm_M) => (((r5) = 0 → wq_Bytes_putQid_15  ge (v0) (v1) (some v0) (0) h4 Z) ∧ (¬ (r5) = 0 → wq_Bytes_putQid_15  ge (v0) (v1) (some v0) (128) h4 Z)))
set_option maxRecDepth 100000 in
set_option maxHeartbeats 4000000 in
theorem vb_Bytes_putQid_15 {E : mm_E} {Z : mm_M → Prop} (hc : cx E "EpochServer$Bytes" c_Bytes_putQid 2 none rm_Bytes_putQid) (hq : cq E rm_Bytes_putQid (pV Z))  (v0 : Nat) (v1 : Option Nat) (s0 : Option Nat) (s1 : Int64) (h : mm_M) (hw : wq_Bytes_putQid_15  (mm_ge (eG E)) v0 v1 s0 s1 h Z) : V E 2 0 0 h 15 [(0, va_rf (some v0)), (1, va_rf (v1))] [.long (s1), va_rf (s0)] := by
  unfold wq_Bytes_putQid_15 at hw
  refine V_iconst (v := 1) hc d_Bytes_putQid_15 (by decide) ?_
  obtain ⟨a1, q2, hw⟩ := hw
  obtain ⟨q3, hw⟩ := hw
  refine V_callV (rm' := rm_Bytes_put) (As := [.long (s1), .int (1)]) (rest := []) (n := 2) (cn := 3) hc q2 q3 (sat_Bytes_put (eG E) _ _ _ _ _ hw) rfl cv_Bytes_23 (gw_of (tw_2 (List.mem_of_getElem? (i := 158) rfl)) rfl) ss_Bytes_put rfl ⟨by decide, by decide⟩ (by decide) (by decide) rfl (by simp [cat_rf, cat_i, cat_l]) d_Bytes_putQid_16 (fun r0 h4 hw => ?_)
  obtain ⟨rfl, hw⟩ := hw
  refine V_wide (cs' := 0) (sl' := 0) (by decide) (by decide) ?_
  refine V_st (st' := []) rfl ?_
  refine V_aload_n hc 0 d_Bytes_putQid_19 rfl rfl ?_
  refine V_aload_n hc 1 d_Bytes_putQid_20 rfl rfl ?_
  obtain ⟨a6, q7, hw⟩ := hw
  obtain ⟨q8, hw⟩ := hw
  refine V_get (v := .int (mm_I h4 a6 4)) hc gf_Bytes_39 q7 q8 rfl d_Bytes_putQid_21 ?_
  refine V_i2l hc d_Bytes_putQid_24 ?_
  refine V_iconst (v := 4) hc d_Bytes_putQid_25 (by decide) ?_
  obtain ⟨q9, hw⟩ := hw
  refine V_callV (rm' := rm_Bytes_put) (As := [.long (Int32.toInt64 (mm_I h4 a6 4)), .int (4)]) (rest := []) (n := 2) (cn := 3) hc rfl q9 (sat_Bytes_put (eG E) _ _ _ _ _ hw) rfl cv_Bytes_23 (gw_of (tw_2 (List.mem_of_getElem? (i := 158) rfl)) rfl) ss_Bytes_put rfl ⟨by decide, by decide⟩ (by decide) (by decide) rfl (by simp [cat_rf, cat_i, cat_l]) d_Bytes_putQid_26 (fun r0 h10 hw => ?_)
  obtain ⟨rfl, hw⟩ := hw
  refine V_wide (cs' := 0) (sl' := 0) (by decide) (by decide) ?_
  refine V_st (st' := []) rfl ?_
  refine V_aload_n hc 0 d_Bytes_putQid_29 rfl rfl ?_
  refine V_aload_n hc 1 d_Bytes_putQid_30 rfl rfl ?_
  obtain ⟨a12, q13, hw⟩ := hw
  obtain ⟨q14, hw⟩ := hw
  refine V_get (v := .int (mm_I h10 a12 0)) hc gf_Bytes_42 q13 q14 rfl d_Bytes_putQid_31 ?_
  refine V_i2l hc d_Bytes_putQid_34 ?_
  refine V_bipush (v := 8) hc d_Bytes_putQid_35 (by decide) ?_
  obtain ⟨q15, hw⟩ := hw
  refine V_callV (rm' := rm_Bytes_put) (As := [.long (Int32.toInt64 (mm_I h10 a12 0)), .int (8)]) (rest := []) (n := 2) (cn := 3) hc rfl q15 (sat_Bytes_put (eG E) _ _ _ _ _ hw) rfl cv_Bytes_23 (gw_of (tw_2 (List.mem_of_getElem? (i := 158) rfl)) rfl) ss_Bytes_put rfl ⟨by decide, by decide⟩ (by decide) (by decide) rfl (by simp [cat_rf, cat_i, cat_l]) d_Bytes_putQid_37 (fun r0 h16 hw => ?_)
  obtain ⟨rfl, hw⟩ := hw
  refine V_wide (cs' := 0) (sl' := 0) (by decide) (by decide) ?_
  refine V_st (st' := []) rfl ?_
  exact V_vret hc hq ⟨rfl, hw⟩ (by decide) (by decide) d_Bytes_putQid_40
set_option maxRecDepth 100000 in
set_option maxHeartbeats 4000000 in
theorem vb_Bytes_putQid_0 {E : mm_E} {Z : mm_M → Prop} (hc : cx E "EpochServer$Bytes" c_Bytes_putQid 2 none rm_Bytes_putQid) (hq : cq E rm_Bytes_putQid (pV Z))  (v0 : Nat) (v1 : Option Nat) (h : mm_M) (hw : wq_Bytes_putQid_0  (mm_ge (eG E)) v0 v1 h Z) : V E 2 0 0 h 0 [(0, va_rf (some v0)), (1, va_rf (v1))] [] := by
  unfold wq_Bytes_putQid_0 at hw
  refine V_aload_n hc 0 d_Bytes_putQid_0 rfl rfl ?_
  refine V_aload_n hc 1 d_Bytes_putQid_1 rfl rfl ?_
  obtain ⟨a1, q2, hw⟩ := hw
  obtain ⟨q3, hw⟩ := hw
  refine V_callV (rm' := rm_Node_isDirectory) (As := []) (rest := [va_rf (some v0)]) (n := 0) (cn := 7) hc q2 q3 (sat_Node_isDirectory (eG E) _ _ _ hw) rfl cv_Bytes_31 (gw_of (tw_3 (List.mem_of_getElem? (i := 62) rfl)) rfl) ss_Node_isDirectory rfl ⟨by decide, by decide⟩ (by decide) (by decide) rfl (by simp [cat_rf, cat_i, cat_l]) d_Bytes_putQid_2 (fun r0 h4 hw => ?_)
  obtain ⟨r5, rfl, hw⟩ := hw
  refine V_wide (cs' := 0) (sl' := 0) (by decide) (by decide) ?_
  refine V_st (st' := [.int (r5), va_rf (some v0)]) rfl ?_
  refine V_if_eq (tgt := 14) hc d_Bytes_putQid_5 (by decide) (fun hq1 => ?_) (fun hq1 => ?_)
  · replace hw := hw.1 hq1
    refine V_lconst (v := 0) hc d_Bytes_putQid_14 (by decide) ?_
    refine V_sub (lv' := [(0, va_rf (some v0)), (1, va_rf (v1))]) [0, 1] rfl ?_
    exact vb_Bytes_putQid_15 hc hq  _ _ _ _ _ hw
  · replace hw := hw.2 hq1
    refine V_ldc2 (v := 128) hc (gw_of (tw_3 (List.mem_of_getElem? (i := 65) rfl)) rfl) d_Bytes_putQid_8 ?_
    refine V_goto (tgt := 15) hc d_Bytes_putQid_11 (by decide) ?_
    refine V_sub (lv' := [(0, va_rf (some v0)), (1, va_rf (v1))]) [0, 1] rfl ?_
    exact vb_Bytes_putQid_15 hc hq  _ _ _ _ _ hw
def wq_Bytes_putQid (ge : Nat → Nat) (v0 : Nat) (v1 : Option Nat) (h : mm_M) (Z : mm_M → Prop) : Prop := wq_Bytes_putQid_0 ge v0 v1 h Z
theorem sat_Bytes_putQid (G : mm_G) (v0 : Nat) (v1 : Option Nat) (h : mm_M) (Z : mm_M → Prop) (hw : wq_Bytes_putQid (mm_ge G) v0 v1 h Z) : mm_Met G y_Bytes_putQid c_Bytes_putQid 2 none rm_Bytes_putQid [va_rf (some v0), va_rf (v1)] h (pV Z) := by
  refine mm_intro (own := "EpochServer$Bytes") (by decide) rfl (by simp [lg_sl, cat_rf, cat_i, cat_l]) (fun E e1 hc hq hi => ?_)
  subst e1
  have e2 : lv_args 0 [va_rf (some v0), va_rf (v1)] = [(0, va_rf (some v0)), (1, va_rf (v1))] := by simp [lv_args, cat_rf, cat_i, cat_l]
  rw [e2]
  refine V_sub (lv' := [(0, va_rf (some v0)), (1, va_rf (v1))]) [0, 1] rfl ?_
  exact vb_Bytes_putQid_0 hc hq v0 v1 h hw
