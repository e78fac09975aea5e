/-! Model.<init>()V -/
abbrev rm_Model_init : Room := { frames := 1, cells := 26, slots := 920871, locals := 24 }
def wq_Model_init_0  (ge : Nat → Nat) (v0 : Nat) (h : mm_M) (Z : mm_M → Prop) : Prop :=
  ∀ h1 : mm_M, h1 = mm_nw h 102 1680 → ∀ a2 : Nat, a2 = mm_z h → mm_k h1 (v0) = kd_Model ∧ ge 0 ≤ v0 ∧ ∀ h5 : mm_M, h5 = mm_uP h1 (v0) 0 (some a2) → ∀ h6 : mm_M, h6 = mm_nw h5 100 1680 → ∀ a7 : Nat, a7 = mm_z h5 → mm_k h6 (v0) = kd_Model ∧ ge 0 ≤ v0 ∧ ∀ h10 : mm_M, h10 = mm_uP h6 (v0) 1 (some a7) → ∀ h11 : mm_M, h11 = mm_nw h10 100 1680 → ∀ a12 : Nat, a12 = mm_z h10 → mm_k h11 (v0) = kd_Model ∧ ge 0 ≤ v0 ∧ ∀ h15 : mm_M, h15 = mm_uP h11 (v0) 2 (some a12) → ∀ h16 : mm_M, h16 = mm_nw h15 100 1680 → ∀ a17 : Nat, a17 = mm_z h15 → mm_k h16 (v0) = kd_Model ∧ ge 0 ≤ v0 ∧ ∀ h20 : mm_M, h20 = mm_uP h16 (v0) 3 (some a17) → ∀ h21 : mm_M, h21 = mm_nw h20 100 1680 → ∀ a22 : Nat, a22 = mm_z h20 → mm_k h21 (v0) = kd_Model ∧ ge 0 ≤ v0 ∧ ∀ h25 : mm_M, h25 = mm_uP h21 (v0) 4 (some a22) → ∀ h26 : mm_M, h26 = mm_nw h25 100 1680 → ∀ a27 : Nat, a27 = mm_z h25 → mm_k h26 (v0) = kd_Model ∧ ge 0 ≤ v0 ∧ ∀ h30 : mm_M, h30 = mm_uP h26 (v0) 5 (some a27) → ∀ h31 : mm_M, h31 = mm_nw h30 100 1680 → ∀ a32 : Nat, a32 = mm_z h30 → mm_k h31 (v0) = kd_Model ∧ ge 0 ≤ v0 ∧ ∀ h35 : mm_M, h35 = mm_uP h31 (v0) 6 (some a32) → ∀ h36 : mm_M, h36 = mm_nw h35 100 33600 → ∀ a37 : Nat, a37 = mm_z h35 → mm_k h36 (v0) = kd_Model ∧ ge 0 ≤ v0 ∧ ∀ h40 : mm_M, h40 = mm_uP h36 (v0) 7 (some a37) → ∀ h41 : mm_M, h41 = mm_nw h40 100 860160 → ∀ a42 : Nat, a42 = mm_z h40 → mm_k h41 (v0) = kd_Model ∧ ge 0 ≤ v0 ∧ ∀ h45 : mm_M, h45 = mm_uP h41 (v0) 8 (some a42) → mm_k h45 (v0) = kd_Model ∧ ge 0 ≤ v0 ∧ ∀ h48 : mm_M, h48 = mm_uI h45 (v0) 9 (1) → ∀ h49 : mm_M, h49 = mm_nw h48 100 1400 → ∀ a50 : Nat, a50 = mm_z h48 → mm_k h49 (v0) = kd_Model ∧ ge 0 ≤ v0 ∧ ∀ h53 : mm_M, h53 = mm_uP h49 (v0) 14 (some a50) → ∀ h54 : mm_M, h54 = mm_nw h53 100 1500 → ∀ a55 : Nat, a55 = mm_z h53 → mm_k h54 (v0) = kd_Model ∧ ge 0 ≤ v0 ∧ ∀ h58 : mm_M, h58 = mm_uP h54 (v0) 15 (some a55) → ∀ h59 : mm_M, h59 = mm_nw h58 100 24 → ∀ a60 : Nat, a60 = mm_z h58 → mm_k h59 (v0) = kd_Model ∧ ge 0 ≤ v0 ∧ ∀ h63 : mm_M, h63 = mm_uP h59 (v0) 21 (some a60) → ∀ h64 : mm_M, h64 = mm_nw h63 100 24 → ∀ a65 : Nat, a65 = mm_z h63 → mm_k h64 (v0) = kd_Model ∧ ge 0 ≤ v0 ∧ ∀ h68 : mm_M, h68 = mm_uP h64 (v0) 22 (some a65) → ∀ h69 : mm_M, h69 = mm_nw h68 100 24 → ∀ a70 : Nat, a70 = mm_z h68 → mm_k h69 (v0) = kd_Model ∧ ge 0 ≤ v0 ∧ ∀ h73 : mm_M, h73 = mm_uP h69 (v0) 23 (some a70) → ∀ h74 : mm_M, h74 = mm_nw h73 100 24 → ∀ a75 : Nat, a75 = mm_z h73 → mm_k h74 (v0) = kd_Model ∧ ge 0 ≤ v0 ∧ ∀ h78 : mm_M, h78 = mm_uP h74 (v0) 24 (some a75) → ∀ h79 : mm_M, h79 = mm_nw h78 100 24 → ∀ a80 : Nat, a80 = mm_z h78 → mm_k h79 (v0) = kd_Model ∧ ge 0 ≤ v0 ∧ ∀ h83 : mm_M, h83 = mm_uP h79 (v0) 25 (some a80) → ∀ h84 : mm_M, h84 = mm_nw h83 100 24 → ∀ a85 : Nat, a85 = mm_z h83 → mm_k h84 (v0) = kd_Model ∧ ge 0 ≤ v0 ∧ ∀ h88 : mm_M, h88 = mm_uP h84 (v0) 26 (some a85) → ∀ h89 : mm_M, h89 = mm_nw h88 100 1400 → ∀ a90 : Nat, a90 = mm_z h88 → mm_k h89 (v0) = kd_Model ∧ ge 0 ≤ v0 ∧ ∀ h93 : mm_M, h93 = mm_uP h89 (v0) 45 (some a90) → ∀ h94 : mm_M, h94 = mm_nw h93 100 1400 → ∀ a95 : Nat, a95 = mm_z h93 → mm_k h94 (v0) = kd_Model ∧ ge 0 ≤ v0 ∧ ∀ h98 : mm_M, h98 = mm_uP h94 (v0) 46 (some a95) → ∀ h99 : mm_M, h99 = mm_nw h98 102 2 → ∀ a100 : Nat, a100 = mm_z h98 → mm_k h99 (v0) = kd_Model ∧ ge 0 ≤ v0 ∧ ∀ h103 : mm_M, h103 = mm_uP h99 (v0) 47 (some a100) → ∀ h104 : mm_M, h104 = mm_nw h103 100 3000 → ∀ a105 : Nat, a105 = mm_z h103 → mm_k h104 (v0) = kd_Model ∧ ge 0 ≤ v0 ∧ ∀ h108 : mm_M, h108 = mm_uP h104 (v0) 54 (some a105) → ∀ h109 : mm_M, h109 = mm_nw h108 100 6080 → ∀ a110 : Nat, a110 = mm_z h108 → mm_k h109 (v0) = kd_Model ∧ ge 0 ≤ v0 ∧ ∀ h113 : mm_M, h113 = mm_uP h109 (v0) 55 (some a110) → ∀ h114 : mm_M, h114 = mm_nw h113 100 80 → ∀ a115 : Nat, a115 = mm_z h113 → mm_k h114 (v0) = kd_Model ∧ ge 0 ≤ v0 ∧ ∀ h118 : mm_M, h118 = mm_uP h114 (v0) 56 (some a115) → ∀ h119 : mm_M, h119 = mm_nw h118 100 5 → ∀ a120 : Nat, a120 = mm_z h118 → mm_k h119 (v0) = kd_Model ∧ ge 0 ≤ v0 ∧ ∀ h123 : mm_M, h123 = mm_uP h119 (v0) 57 (some a120) → ∀ h124 : mm_M, h124 = mm_nw h123 100 300 → ∀ a125 : Nat, a125 = mm_z h123 → mm_k h124 (v0) = kd_Model ∧ ge 0 ≤ v0 ∧ ∀ h128 : mm_M, h128 = mm_uP h124 (v0) 58 (some a125) → ∀ h129 : mm_M, h129 = mm_nw h128 100 40 → ∀ a130 : Nat, a130 = mm_z h128 → mm_k h129 (v0) = kd_Model ∧ ge 0 ≤ v0 ∧ ∀ h133 : mm_M, h133 = mm_uP h129 (v0) 65 (some a130) → mm_k h133 (v0) = kd_Model ∧ ∃ a135, mm_P h133 v0 0 = some a135 ∧ mm_k h133 (a135) = ka_Z ∧ vp_in (0) (mm_n h133 a135) ∧ ge 0 ≤ a135 ∧ ∀ h140 : mm_M, h140 = mm_uI h133 a135 (Int32.toNatClampNeg (0)) (vp_nar .boolean (1)) → mm_k h140 (v0) = kd_Model ∧ ∃ a142, mm_P h140 v0 2 = some a142 ∧ mm_k h140 (a142) = ka_I ∧ vp_in (0) (mm_n h140 a142) ∧ ge 0 ≤ a142 ∧ ∀ h147 : mm_M, h147 = mm_uI h140 a142 (Int32.toNatClampNeg (0)) ((-2147483137)) → mm_k h147 (v0) = kd_Model ∧ ∃ a149, mm_P h147 v0 6 = some a149 ∧ mm_k h147 (a149) = ka_I ∧ vp_in (0) (mm_n h147 a149) ∧ ge 0 ≤ a149 ∧ ∀ h154 : mm_M, h154 = mm_uI h147 a149 (Int32.toNatClampNeg (0)) (1) → mm_k h154 (v0) = kd_Model ∧ ∃ a156, mm_P h154 v0 7 = some a156 ∧ mm_k h154 (a156) = ka_I ∧ vp_in (0) (mm_n h154 a156) ∧ ge 0 ≤ a156 ∧ ∀ h161 : mm_M, h161 = mm_uI h154 a156 (Int32.toNatClampNeg (0)) (47) → Z h161
set_option maxRecDepth 100000 in
set_option maxHeartbeats 4000000 in
theorem vb_Model_init_0 {E : mm_E} {Z : mm_M → Prop} (hc : cx E "EpochServerModel" c_Model_init 1 none rm_Model_init) (hq : cq E rm_Model_init (pV Z)) (hin : ci E)  (v0 : Nat) (h : mm_M) (hw : wq_Model_init_0  (mm_ge (eG E)) v0 h Z) : V E 1 0 0 h 0 [(0, va_rf (some v0))] [] := by
  unfold wq_Model_init_0 at hw
  refine V_aload_n hc 0 d_Model_init_0 rfl rfl ?_
  refine V_objInit hc rfl (gw_of (tw_4 (List.mem_of_getElem? (i := 193) rfl)) rfl) (gw_of (tw_1 (List.mem_of_getElem? (i := 27) rfl)) rfl) (gw_of (tw_1 (List.mem_of_getElem? (i := 28) rfl)) rfl) d_Model_init_1 (by decide) (by decide) ?_
  refine V_aload_n hc 0 d_Model_init_4 rfl rfl ?_
  refine V_sipush (v := 1680) hc d_Model_init_5 (by decide) ?_
  obtain ⟨h1, eq_h1⟩ : ∃ x, x = mm_nw h 102 1680 := ⟨_, rfl⟩
  replace hw := hw _ eq_h1
  refine V_newa (t := 2) (N := 1680) (ty := .boolean) hc rfl rfl (fun _ q => q) (gw_of (tw_1 (List.mem_of_getElem? (i := 225) rfl)) rfl) (by decide) (by decide) (by decide) (by decide) (by decide) (by decide) (by decide) d_Model_init_8 ?_
  rw [← eq_h1]
  obtain ⟨a2, eq_a2⟩ : ∃ x, x = mm_z h := ⟨_, rfl⟩
  replace hw := hw _ eq_a2
  rw [← eq_a2]
  refine V_wide (cs' := 1) (sl' := 1680) (by decide) (by decide) ?_
  obtain ⟨q3, hw⟩ := hw
  obtain ⟨q4, hw⟩ := hw
  obtain ⟨h5, eq_h5⟩ : ∃ x, x = mm_uP h1 (v0) 0 (some a2) := ⟨_, rfl⟩
  replace hw := hw _ eq_h5
  refine V_putF (h' := h5) hc hin rfl (fun r hr => by cases hr; rfl) gf_Model_9 rfl rfl q3 q4 (by rw [eq_h5]; exact mm_Up_P _ _ _ _) (by rw [eq_h5]; exact up_vP rfl) (pa_nar _) (pa_fit _) d_Model_init_10 ?_
  refine V_aload_n hc 0 d_Model_init_13 rfl rfl ?_
  refine V_sipush (v := 1680) hc d_Model_init_14 (by decide) ?_
  obtain ⟨h6, eq_h6⟩ : ∃ x, x = mm_nw h5 100 1680 := ⟨_, rfl⟩
  replace hw := hw _ eq_h6
  refine V_newa (t := 0) (N := 1680) (ty := .int) hc rfl rfl (fun _ q => q) (gw_of (tw_1 (List.mem_of_getElem? (i := 224) rfl)) rfl) (by decide) (by decide) (by decide) (by decide) (by decide) (by decide) (by decide) d_Model_init_17 ?_
  rw [← eq_h6]
  obtain ⟨a7, eq_a7⟩ : ∃ x, x = mm_z h5 := ⟨_, rfl⟩
  replace hw := hw _ eq_a7
  rw [← eq_a7]
  refine V_wide (cs' := 2) (sl' := 3360) (by decide) (by decide) ?_
  obtain ⟨q8, hw⟩ := hw
  obtain ⟨q9, hw⟩ := hw
  obtain ⟨h10, eq_h10⟩ : ∃ x, x = mm_uP h6 (v0) 1 (some a7) := ⟨_, rfl⟩
  replace hw := hw _ eq_h10
  refine V_putF (h' := h10) hc hin rfl (fun r hr => by cases hr; rfl) gf_Model_13 rfl rfl q8 q9 (by rw [eq_h10]; exact mm_Up_P _ _ _ _) (by rw [eq_h10]; exact up_vP rfl) (pa_nar _) (pa_fit _) d_Model_init_19 ?_
  refine V_aload_n hc 0 d_Model_init_22 rfl rfl ?_
  refine V_sipush (v := 1680) hc d_Model_init_23 (by decide) ?_
  obtain ⟨h11, eq_h11⟩ : ∃ x, x = mm_nw h10 100 1680 := ⟨_, rfl⟩
  replace hw := hw _ eq_h11
  refine V_newa (t := 0) (N := 1680) (ty := .int) hc rfl rfl (fun _ q => q) (gw_of (tw_1 (List.mem_of_getElem? (i := 224) rfl)) rfl) (by decide) (by decide) (by decide) (by decide) (by decide) (by decide) (by decide) d_Model_init_26 ?_
  rw [← eq_h11]
  obtain ⟨a12, eq_a12⟩ : ∃ x, x = mm_z h10 := ⟨_, rfl⟩
  replace hw := hw _ eq_a12
  rw [← eq_a12]
  refine V_wide (cs' := 3) (sl' := 5040) (by decide) (by decide) ?_
  obtain ⟨q13, hw⟩ := hw
  obtain ⟨q14, hw⟩ := hw
  obtain ⟨h15, eq_h15⟩ : ∃ x, x = mm_uP h11 (v0) 2 (some a12) := ⟨_, rfl⟩
  replace hw := hw _ eq_h15
  refine V_putF (h' := h15) hc hin rfl (fun r hr => by cases hr; rfl) gf_Model_17 rfl rfl q13 q14 (by rw [eq_h15]; exact mm_Up_P _ _ _ _) (by rw [eq_h15]; exact up_vP rfl) (pa_nar _) (pa_fit _) d_Model_init_28 ?_
  refine V_aload_n hc 0 d_Model_init_31 rfl rfl ?_
  refine V_sipush (v := 1680) hc d_Model_init_32 (by decide) ?_
  obtain ⟨h16, eq_h16⟩ : ∃ x, x = mm_nw h15 100 1680 := ⟨_, rfl⟩
  replace hw := hw _ eq_h16
  refine V_newa (t := 0) (N := 1680) (ty := .int) hc rfl rfl (fun _ q => q) (gw_of (tw_1 (List.mem_of_getElem? (i := 224) rfl)) rfl) (by decide) (by decide) (by decide) (by decide) (by decide) (by decide) (by decide) d_Model_init_35 ?_
  rw [← eq_h16]
  obtain ⟨a17, eq_a17⟩ : ∃ x, x = mm_z h15 := ⟨_, rfl⟩
  replace hw := hw _ eq_a17
  rw [← eq_a17]
  refine V_wide (cs' := 4) (sl' := 6720) (by decide) (by decide) ?_
  obtain ⟨q18, hw⟩ := hw
  obtain ⟨q19, hw⟩ := hw
  obtain ⟨h20, eq_h20⟩ : ∃ x, x = mm_uP h16 (v0) 3 (some a17) := ⟨_, rfl⟩
  replace hw := hw _ eq_h20
  refine V_putF (h' := h20) hc hin rfl (fun r hr => by cases hr; rfl) gf_Model_20 rfl rfl q18 q19 (by rw [eq_h20]; exact mm_Up_P _ _ _ _) (by rw [eq_h20]; exact up_vP rfl) (pa_nar _) (pa_fit _) d_Model_init_37 ?_
  refine V_aload_n hc 0 d_Model_init_40 rfl rfl ?_
  refine V_sipush (v := 1680) hc d_Model_init_41 (by decide) ?_
  obtain ⟨h21, eq_h21⟩ : ∃ x, x = mm_nw h20 100 1680 := ⟨_, rfl⟩
  replace hw := hw _ eq_h21
  refine V_newa (t := 0) (N := 1680) (ty := .int) hc rfl rfl (fun _ q => q) (gw_of (tw_1 (List.mem_of_getElem? (i := 224) rfl)) rfl) (by decide) (by decide) (by decide) (by decide) (by decide) (by decide) (by decide) d_Model_init_44 ?_
  rw [← eq_h21]
  obtain ⟨a22, eq_a22⟩ : ∃ x, x = mm_z h20 := ⟨_, rfl⟩
  replace hw := hw _ eq_a22
  rw [← eq_a22]
  refine V_wide (cs' := 5) (sl' := 8400) (by decide) (by decide) ?_
  obtain ⟨q23, hw⟩ := hw
  obtain ⟨q24, hw⟩ := hw
  obtain ⟨h25, eq_h25⟩ : ∃ x, x = mm_uP h21 (v0) 4 (some a22) := ⟨_, rfl⟩
  replace hw := hw _ eq_h25
  refine V_putF (h' := h25) hc hin rfl (fun r hr => by cases hr; rfl) gf_Model_23 rfl rfl q23 q24 (by rw [eq_h25]; exact mm_Up_P _ _ _ _) (by rw [eq_h25]; exact up_vP rfl) (pa_nar _) (pa_fit _) d_Model_init_46 ?_
  refine V_aload_n hc 0 d_Model_init_49 rfl rfl ?_
  refine V_sipush (v := 1680) hc d_Model_init_50 (by decide) ?_
  obtain ⟨h26, eq_h26⟩ : ∃ x, x = mm_nw h25 100 1680 := ⟨_, rfl⟩
  replace hw := hw _ eq_h26
  refine V_newa (t := 0) (N := 1680) (ty := .int) hc rfl rfl (fun _ q => q) (gw_of (tw_1 (List.mem_of_getElem? (i := 224) rfl)) rfl) (by decide) (by decide) (by decide) (by decide) (by decide) (by decide) (by decide) d_Model_init_53 ?_
  rw [← eq_h26]
  obtain ⟨a27, eq_a27⟩ : ∃ x, x = mm_z h25 := ⟨_, rfl⟩
  replace hw := hw _ eq_a27
  rw [← eq_a27]
  refine V_wide (cs' := 6) (sl' := 10080) (by decide) (by decide) ?_
  obtain ⟨q28, hw⟩ := hw
  obtain ⟨q29, hw⟩ := hw
  obtain ⟨h30, eq_h30⟩ : ∃ x, x = mm_uP h26 (v0) 5 (some a27) := ⟨_, rfl⟩
  replace hw := hw _ eq_h30
  refine V_putF (h' := h30) hc hin rfl (fun r hr => by cases hr; rfl) gf_Model_26 rfl rfl q28 q29 (by rw [eq_h30]; exact mm_Up_P _ _ _ _) (by rw [eq_h30]; exact up_vP rfl) (pa_nar _) (pa_fit _) d_Model_init_55 ?_
  refine V_aload_n hc 0 d_Model_init_58 rfl rfl ?_
  refine V_sipush (v := 1680) hc d_Model_init_59 (by decide) ?_
  obtain ⟨h31, eq_h31⟩ : ∃ x, x = mm_nw h30 100 1680 := ⟨_, rfl⟩
  replace hw := hw _ eq_h31
  refine V_newa (t := 0) (N := 1680) (ty := .int) hc rfl rfl (fun _ q => q) (gw_of (tw_1 (List.mem_of_getElem? (i := 224) rfl)) rfl) (by decide) (by decide) (by decide) (by decide) (by decide) (by decide) (by decide) d_Model_init_62 ?_
  rw [← eq_h31]
  obtain ⟨a32, eq_a32⟩ : ∃ x, x = mm_z h30 := ⟨_, rfl⟩
  replace hw := hw _ eq_a32
  rw [← eq_a32]
  refine V_wide (cs' := 7) (sl' := 11760) (by decide) (by decide) ?_
  obtain ⟨q33, hw⟩ := hw
  obtain ⟨q34, hw⟩ := hw
  obtain ⟨h35, eq_h35⟩ : ∃ x, x = mm_uP h31 (v0) 6 (some a32) := ⟨_, rfl⟩
  replace hw := hw _ eq_h35
  refine V_putF (h' := h35) hc hin rfl (fun r hr => by cases hr; rfl) gf_Model_29 rfl rfl q33 q34 (by rw [eq_h35]; exact mm_Up_P _ _ _ _) (by rw [eq_h35]; exact up_vP rfl) (pa_nar _) (pa_fit _) d_Model_init_64 ?_
  refine V_aload_n hc 0 d_Model_init_67 rfl rfl ?_
  refine V_ldc (v := 33600) hc (gw_of (tw_4 (List.mem_of_getElem? (i := 194) rfl)) rfl) d_Model_init_68 ?_
  obtain ⟨h36, eq_h36⟩ : ∃ x, x = mm_nw h35 100 33600 := ⟨_, rfl⟩
  replace hw := hw _ eq_h36
  refine V_newa (t := 0) (N := 33600) (ty := .int) hc rfl rfl (fun _ q => q) (gw_of (tw_1 (List.mem_of_getElem? (i := 224) rfl)) rfl) (by decide) (by decide) (by decide) (by decide) (by decide) (by decide) (by decide) d_Model_init_70 ?_
  rw [← eq_h36]
  obtain ⟨a37, eq_a37⟩ : ∃ x, x = mm_z h35 := ⟨_, rfl⟩
  replace hw := hw _ eq_a37
  rw [← eq_a37]
  refine V_wide (cs' := 8) (sl' := 45360) (by decide) (by decide) ?_
  obtain ⟨q38, hw⟩ := hw
  obtain ⟨q39, hw⟩ := hw
  obtain ⟨h40, eq_h40⟩ : ∃ x, x = mm_uP h36 (v0) 7 (some a37) := ⟨_, rfl⟩
  replace hw := hw _ eq_h40
  refine V_putF (h' := h40) hc hin rfl (fun r hr => by cases hr; rfl) gf_Model_33 rfl rfl q38 q39 (by rw [eq_h40]; exact mm_Up_P _ _ _ _) (by rw [eq_h40]; exact up_vP rfl) (pa_nar _) (pa_fit _) d_Model_init_72 ?_
  refine V_aload_n hc 0 d_Model_init_75 rfl rfl ?_
  refine V_ldc (v := 860160) hc (gw_of (tw_4 (List.mem_of_getElem? (i := 195) rfl)) rfl) d_Model_init_76 ?_
  obtain ⟨h41, eq_h41⟩ : ∃ x, x = mm_nw h40 100 860160 := ⟨_, rfl⟩
  replace hw := hw _ eq_h41
  refine V_newa (t := 0) (N := 860160) (ty := .int) hc rfl rfl (fun _ q => q) (gw_of (tw_1 (List.mem_of_getElem? (i := 224) rfl)) rfl) (by decide) (by decide) (by decide) (by decide) (by decide) (by decide) (by decide) d_Model_init_78 ?_
  rw [← eq_h41]
  obtain ⟨a42, eq_a42⟩ : ∃ x, x = mm_z h40 := ⟨_, rfl⟩
  replace hw := hw _ eq_a42
  rw [← eq_a42]
  refine V_wide (cs' := 9) (sl' := 905520) (by decide) (by decide) ?_
  obtain ⟨q43, hw⟩ := hw
  obtain ⟨q44, hw⟩ := hw
  obtain ⟨h45, eq_h45⟩ : ∃ x, x = mm_uP h41 (v0) 8 (some a42) := ⟨_, rfl⟩
  replace hw := hw _ eq_h45
  refine V_putF (h' := h45) hc hin rfl (fun r hr => by cases hr; rfl) gf_Model_37 rfl rfl q43 q44 (by rw [eq_h45]; exact mm_Up_P _ _ _ _) (by rw [eq_h45]; exact up_vP rfl) (pa_nar _) (pa_fit _) d_Model_init_80 ?_
  refine V_aload_n hc 0 d_Model_init_83 rfl rfl ?_
  refine V_iconst (v := 1) hc d_Model_init_84 (by decide) ?_
  obtain ⟨q46, hw⟩ := hw
  obtain ⟨q47, hw⟩ := hw
  obtain ⟨h48, eq_h48⟩ : ∃ x, x = mm_uI h45 (v0) 9 (1) := ⟨_, rfl⟩
  replace hw := hw _ eq_h48
  refine V_put (h' := h48) hc gf_Model_40 rfl rfl q46 q47 (by rw [eq_h48]; exact mm_Up_I _ _ _ _) (by rw [eq_h48]; exact up_vI rfl) (vp_nar_int _) rfl d_Model_init_85 ?_
  refine V_aload_n hc 0 d_Model_init_88 rfl rfl ?_
  refine V_sipush (v := 1400) hc d_Model_init_89 (by decide) ?_
  obtain ⟨h49, eq_h49⟩ : ∃ x, x = mm_nw h48 100 1400 := ⟨_, rfl⟩
  replace hw := hw _ eq_h49
  refine V_newa (t := 0) (N := 1400) (ty := .int) hc rfl rfl (fun _ q => q) (gw_of (tw_1 (List.mem_of_getElem? (i := 224) rfl)) rfl) (by decide) (by decide) (by decide) (by decide) (by decide) (by decide) (by decide) d_Model_init_92 ?_
  rw [← eq_h49]
  obtain ⟨a50, eq_a50⟩ : ∃ x, x = mm_z h48 := ⟨_, rfl⟩
  replace hw := hw _ eq_a50
  rw [← eq_a50]
  refine V_wide (cs' := 10) (sl' := 906920) (by decide) (by decide) ?_
  obtain ⟨q51, hw⟩ := hw
  obtain ⟨q52, hw⟩ := hw
  obtain ⟨h53, eq_h53⟩ : ∃ x, x = mm_uP h49 (v0) 14 (some a50) := ⟨_, rfl⟩
  replace hw := hw _ eq_h53
  refine V_putF (h' := h53) hc hin rfl (fun r hr => by cases hr; rfl) gf_Model_44 rfl rfl q51 q52 (by rw [eq_h53]; exact mm_Up_P _ _ _ _) (by rw [eq_h53]; exact up_vP rfl) (pa_nar _) (pa_fit _) d_Model_init_94 ?_
  refine V_aload_n hc 0 d_Model_init_97 rfl rfl ?_
  refine V_sipush (v := 1500) hc d_Model_init_98 (by decide) ?_
  obtain ⟨h54, eq_h54⟩ : ∃ x, x = mm_nw h53 100 1500 := ⟨_, rfl⟩
  replace hw := hw _ eq_h54
  refine V_newa (t := 0) (N := 1500) (ty := .int) hc rfl rfl (fun _ q => q) (gw_of (tw_1 (List.mem_of_getElem? (i := 224) rfl)) rfl) (by decide) (by decide) (by decide) (by decide) (by decide) (by decide) (by decide) d_Model_init_101 ?_
  rw [← eq_h54]
  obtain ⟨a55, eq_a55⟩ : ∃ x, x = mm_z h53 := ⟨_, rfl⟩
  replace hw := hw _ eq_a55
  rw [← eq_a55]
  refine V_wide (cs' := 11) (sl' := 908420) (by decide) (by decide) ?_
  obtain ⟨q56, hw⟩ := hw
  obtain ⟨q57, hw⟩ := hw
  obtain ⟨h58, eq_h58⟩ : ∃ x, x = mm_uP h54 (v0) 15 (some a55) := ⟨_, rfl⟩
  replace hw := hw _ eq_h58
  refine V_putF (h' := h58) hc hin rfl (fun r hr => by cases hr; rfl) gf_Model_47 rfl rfl q56 q57 (by rw [eq_h58]; exact mm_Up_P _ _ _ _) (by rw [eq_h58]; exact up_vP rfl) (pa_nar _) (pa_fit _) d_Model_init_103 ?_
  refine V_aload_n hc 0 d_Model_init_106 rfl rfl ?_
  refine V_bipush (v := 24) hc d_Model_init_107 (by decide) ?_
  obtain ⟨h59, eq_h59⟩ : ∃ x, x = mm_nw h58 100 24 := ⟨_, rfl⟩
  replace hw := hw _ eq_h59
  refine V_newa (t := 0) (N := 24) (ty := .int) hc rfl rfl (fun _ q => q) (gw_of (tw_1 (List.mem_of_getElem? (i := 224) rfl)) rfl) (by decide) (by decide) (by decide) (by decide) (by decide) (by decide) (by decide) d_Model_init_109 ?_
  rw [← eq_h59]
  obtain ⟨a60, eq_a60⟩ : ∃ x, x = mm_z h58 := ⟨_, rfl⟩
  replace hw := hw _ eq_a60
  rw [← eq_a60]
  refine V_wide (cs' := 12) (sl' := 908444) (by decide) (by decide) ?_
  obtain ⟨q61, hw⟩ := hw
  obtain ⟨q62, hw⟩ := hw
  obtain ⟨h63, eq_h63⟩ : ∃ x, x = mm_uP h59 (v0) 21 (some a60) := ⟨_, rfl⟩
  replace hw := hw _ eq_h63
  refine V_putF (h' := h63) hc hin rfl (fun r hr => by cases hr; rfl) gf_Model_50 rfl rfl q61 q62 (by rw [eq_h63]; exact mm_Up_P _ _ _ _) (by rw [eq_h63]; exact up_vP rfl) (pa_nar _) (pa_fit _) d_Model_init_111 ?_
  refine V_aload_n hc 0 d_Model_init_114 rfl rfl ?_
  refine V_bipush (v := 24) hc d_Model_init_115 (by decide) ?_
  obtain ⟨h64, eq_h64⟩ : ∃ x, x = mm_nw h63 100 24 := ⟨_, rfl⟩
  replace hw := hw _ eq_h64
  refine V_newa (t := 0) (N := 24) (ty := .int) hc rfl rfl (fun _ q => q) (gw_of (tw_1 (List.mem_of_getElem? (i := 224) rfl)) rfl) (by decide) (by decide) (by decide) (by decide) (by decide) (by decide) (by decide) d_Model_init_117 ?_
  rw [← eq_h64]
  obtain ⟨a65, eq_a65⟩ : ∃ x, x = mm_z h63 := ⟨_, rfl⟩
  replace hw := hw _ eq_a65
  rw [← eq_a65]
  refine V_wide (cs' := 13) (sl' := 908468) (by decide) (by decide) ?_
  obtain ⟨q66, hw⟩ := hw
  obtain ⟨q67, hw⟩ := hw
  obtain ⟨h68, eq_h68⟩ : ∃ x, x = mm_uP h64 (v0) 22 (some a65) := ⟨_, rfl⟩
  replace hw := hw _ eq_h68
  refine V_putF (h' := h68) hc hin rfl (fun r hr => by cases hr; rfl) gf_Model_53 rfl rfl q66 q67 (by rw [eq_h68]; exact mm_Up_P _ _ _ _) (by rw [eq_h68]; exact up_vP rfl) (pa_nar _) (pa_fit _) d_Model_init_119 ?_
  refine V_aload_n hc 0 d_Model_init_122 rfl rfl ?_
  refine V_bipush (v := 24) hc d_Model_init_123 (by decide) ?_
  obtain ⟨h69, eq_h69⟩ : ∃ x, x = mm_nw h68 100 24 := ⟨_, rfl⟩
  replace hw := hw _ eq_h69
  refine V_newa (t := 0) (N := 24) (ty := .int) hc rfl rfl (fun _ q => q) (gw_of (tw_1 (List.mem_of_getElem? (i := 224) rfl)) rfl) (by decide) (by decide) (by decide) (by decide) (by decide) (by decide) (by decide) d_Model_init_125 ?_
  rw [← eq_h69]
  obtain ⟨a70, eq_a70⟩ : ∃ x, x = mm_z h68 := ⟨_, rfl⟩
  replace hw := hw _ eq_a70
  rw [← eq_a70]
  refine V_wide (cs' := 14) (sl' := 908492) (by decide) (by decide) ?_
  obtain ⟨q71, hw⟩ := hw
  obtain ⟨q72, hw⟩ := hw
  obtain ⟨h73, eq_h73⟩ : ∃ x, x = mm_uP h69 (v0) 23 (some a70) := ⟨_, rfl⟩
  replace hw := hw _ eq_h73
  refine V_putF (h' := h73) hc hin rfl (fun r hr => by cases hr; rfl) gf_Model_56 rfl rfl q71 q72 (by rw [eq_h73]; exact mm_Up_P _ _ _ _) (by rw [eq_h73]; exact up_vP rfl) (pa_nar _) (pa_fit _) d_Model_init_127 ?_
  refine V_aload_n hc 0 d_Model_init_130 rfl rfl ?_
  refine V_bipush (v := 24) hc d_Model_init_131 (by decide) ?_
  obtain ⟨h74, eq_h74⟩ : ∃ x, x = mm_nw h73 100 24 := ⟨_, rfl⟩
  replace hw := hw _ eq_h74
  refine V_newa (t := 0) (N := 24) (ty := .int) hc rfl rfl (fun _ q => q) (gw_of (tw_1 (List.mem_of_getElem? (i := 224) rfl)) rfl) (by decide) (by decide) (by decide) (by decide) (by decide) (by decide) (by decide) d_Model_init_133 ?_
  rw [← eq_h74]
  obtain ⟨a75, eq_a75⟩ : ∃ x, x = mm_z h73 := ⟨_, rfl⟩
  replace hw := hw _ eq_a75
  rw [← eq_a75]
  refine V_wide (cs' := 15) (sl' := 908516) (by decide) (by decide) ?_
  obtain ⟨q76, hw⟩ := hw
  obtain ⟨q77, hw⟩ := hw
  obtain ⟨h78, eq_h78⟩ : ∃ x, x = mm_uP h74 (v0) 24 (some a75) := ⟨_, rfl⟩
  replace hw := hw _ eq_h78
  refine V_putF (h' := h78) hc hin rfl (fun r hr => by cases hr; rfl) gf_Model_59 rfl rfl q76 q77 (by rw [eq_h78]; exact mm_Up_P _ _ _ _) (by rw [eq_h78]; exact up_vP rfl) (pa_nar _) (pa_fit _) d_Model_init_135 ?_
  refine V_aload_n hc 0 d_Model_init_138 rfl rfl ?_
  refine V_bipush (v := 24) hc d_Model_init_139 (by decide) ?_
  obtain ⟨h79, eq_h79⟩ : ∃ x, x = mm_nw h78 100 24 := ⟨_, rfl⟩
  replace hw := hw _ eq_h79
  refine V_newa (t := 0) (N := 24) (ty := .int) hc rfl rfl (fun _ q => q) (gw_of (tw_1 (List.mem_of_getElem? (i := 224) rfl)) rfl) (by decide) (by decide) (by decide) (by decide) (by decide) (by decide) (by decide) d_Model_init_141 ?_
  rw [← eq_h79]
  obtain ⟨a80, eq_a80⟩ : ∃ x, x = mm_z h78 := ⟨_, rfl⟩
  replace hw := hw _ eq_a80
  rw [← eq_a80]
  refine V_wide (cs' := 16) (sl' := 908540) (by decide) (by decide) ?_
  obtain ⟨q81, hw⟩ := hw
  obtain ⟨q82, hw⟩ := hw
  obtain ⟨h83, eq_h83⟩ : ∃ x, x = mm_uP h79 (v0) 25 (some a80) := ⟨_, rfl⟩
  replace hw := hw _ eq_h83
  refine V_putF (h' := h83) hc hin rfl (fun r hr => by cases hr; rfl) gf_Model_62 rfl rfl q81 q82 (by rw [eq_h83]; exact mm_Up_P _ _ _ _) (by rw [eq_h83]; exact up_vP rfl) (pa_nar _) (pa_fit _) d_Model_init_143 ?_
  refine V_aload_n hc 0 d_Model_init_146 rfl rfl ?_
  refine V_bipush (v := 24) hc d_Model_init_147 (by decide) ?_
  obtain ⟨h84, eq_h84⟩ : ∃ x, x = mm_nw h83 100 24 := ⟨_, rfl⟩
  replace hw := hw _ eq_h84
  refine V_newa (t := 0) (N := 24) (ty := .int) hc rfl rfl (fun _ q => q) (gw_of (tw_1 (List.mem_of_getElem? (i := 224) rfl)) rfl) (by decide) (by decide) (by decide) (by decide) (by decide) (by decide) (by decide) d_Model_init_149 ?_
  rw [← eq_h84]
  obtain ⟨a85, eq_a85⟩ : ∃ x, x = mm_z h83 := ⟨_, rfl⟩
  replace hw := hw _ eq_a85
  rw [← eq_a85]
  refine V_wide (cs' := 17) (sl' := 908564) (by decide) (by decide) ?_
  obtain ⟨q86, hw⟩ := hw
  obtain ⟨q87, hw⟩ := hw
  obtain ⟨h88, eq_h88⟩ : ∃ x, x = mm_uP h84 (v0) 26 (some a85) := ⟨_, rfl⟩
  replace hw := hw _ eq_h88
  refine V_putF (h' := h88) hc hin rfl (fun r hr => by cases hr; rfl) gf_Model_65 rfl rfl q86 q87 (by rw [eq_h88]; exact mm_Up_P _ _ _ _) (by rw [eq_h88]; exact up_vP rfl) (pa_nar _) (pa_fit _) d_Model_init_151 ?_
  refine V_aload_n hc 0 d_Model_init_154 rfl rfl ?_
  refine V_sipush (v := 1400) hc d_Model_init_155 (by decide) ?_
  obtain ⟨h89, eq_h89⟩ : ∃ x, x = mm_nw h88 100 1400 := ⟨_, rfl⟩
  replace hw := hw _ eq_h89
  refine V_newa (t := 0) (N := 1400) (ty := .int) hc rfl rfl (fun _ q => q) (gw_of (tw_1 (List.mem_of_getElem? (i := 224) rfl)) rfl) (by decide) (by decide) (by decide) (by decide) (by decide) (by decide) (by decide) d_Model_init_158 ?_
  rw [← eq_h89]
  obtain ⟨a90, eq_a90⟩ : ∃ x, x = mm_z h88 := ⟨_, rfl⟩
  replace hw := hw _ eq_a90
  rw [← eq_a90]
  refine V_wide (cs' := 18) (sl' := 909964) (by decide) (by decide) ?_
  obtain ⟨q91, hw⟩ := hw
  obtain ⟨q92, hw⟩ := hw
  obtain ⟨h93, eq_h93⟩ : ∃ x, x = mm_uP h89 (v0) 45 (some a90) := ⟨_, rfl⟩
  replace hw := hw _ eq_h93
  refine V_putF (h' := h93) hc hin rfl (fun r hr => by cases hr; rfl) gf_Model_68 rfl rfl q91 q92 (by rw [eq_h93]; exact mm_Up_P _ _ _ _) (by rw [eq_h93]; exact up_vP rfl) (pa_nar _) (pa_fit _) d_Model_init_160 ?_
  refine V_aload_n hc 0 d_Model_init_163 rfl rfl ?_
  refine V_sipush (v := 1400) hc d_Model_init_164 (by decide) ?_
  obtain ⟨h94, eq_h94⟩ : ∃ x, x = mm_nw h93 100 1400 := ⟨_, rfl⟩
  replace hw := hw _ eq_h94
  refine V_newa (t := 0) (N := 1400) (ty := .int) hc rfl rfl (fun _ q => q) (gw_of (tw_1 (List.mem_of_getElem? (i := 224) rfl)) rfl) (by decide) (by decide) (by decide) (by decide) (by decide) (by decide) (by decide) d_Model_init_167 ?_
  rw [← eq_h94]
  obtain ⟨a95, eq_a95⟩ : ∃ x, x = mm_z h93 := ⟨_, rfl⟩
  replace hw := hw _ eq_a95
  rw [← eq_a95]
  refine V_wide (cs' := 19) (sl' := 911364) (by decide) (by decide) ?_
  obtain ⟨q96, hw⟩ := hw
  obtain ⟨q97, hw⟩ := hw
  obtain ⟨h98, eq_h98⟩ : ∃ x, x = mm_uP h94 (v0) 46 (some a95) := ⟨_, rfl⟩
  replace hw := hw _ eq_h98
  refine V_putF (h' := h98) hc hin rfl (fun r hr => by cases hr; rfl) gf_Model_71 rfl rfl q96 q97 (by rw [eq_h98]; exact mm_Up_P _ _ _ _) (by rw [eq_h98]; exact up_vP rfl) (pa_nar _) (pa_fit _) d_Model_init_169 ?_
  refine V_aload_n hc 0 d_Model_init_172 rfl rfl ?_
  refine V_iconst (v := 2) hc d_Model_init_173 (by decide) ?_
  obtain ⟨h99, eq_h99⟩ : ∃ x, x = mm_nw h98 102 2 := ⟨_, rfl⟩
  replace hw := hw _ eq_h99
  refine V_newa (t := 2) (N := 2) (ty := .boolean) hc rfl rfl (fun _ q => q) (gw_of (tw_1 (List.mem_of_getElem? (i := 225) rfl)) rfl) (by decide) (by decide) (by decide) (by decide) (by decide) (by decide) (by decide) d_Model_init_174 ?_
  rw [← eq_h99]
  obtain ⟨a100, eq_a100⟩ : ∃ x, x = mm_z h98 := ⟨_, rfl⟩
  replace hw := hw _ eq_a100
  rw [← eq_a100]
  refine V_wide (cs' := 20) (sl' := 911366) (by decide) (by decide) ?_
  obtain ⟨q101, hw⟩ := hw
  obtain ⟨q102, hw⟩ := hw
  obtain ⟨h103, eq_h103⟩ : ∃ x, x = mm_uP h99 (v0) 47 (some a100) := ⟨_, rfl⟩
  replace hw := hw _ eq_h103
  refine V_putF (h' := h103) hc hin rfl (fun r hr => by cases hr; rfl) gf_Model_74 rfl rfl q101 q102 (by rw [eq_h103]; exact mm_Up_P _ _ _ _) (by rw [eq_h103]; exact up_vP rfl) (pa_nar _) (pa_fit _) d_Model_init_176 ?_
  refine V_aload_n hc 0 d_Model_init_179 rfl rfl ?_
  refine V_sipush (v := 3000) hc d_Model_init_180 (by decide) ?_
  obtain ⟨h104, eq_h104⟩ : ∃ x, x = mm_nw h103 100 3000 := ⟨_, rfl⟩
  replace hw := hw _ eq_h104
  refine V_newa (t := 0) (N := 3000) (ty := .int) hc rfl rfl (fun _ q => q) (gw_of (tw_1 (List.mem_of_getElem? (i := 224) rfl)) rfl) (by decide) (by decide) (by decide) (by decide) (by decide) (by decide) (by decide) d_Model_init_183 ?_
  rw [← eq_h104]
  obtain ⟨a105, eq_a105⟩ : ∃ x, x = mm_z h103 := ⟨_, rfl⟩
  replace hw := hw _ eq_a105
  rw [← eq_a105]
  refine V_wide (cs' := 21) (sl' := 914366) (by decide) (by decide) ?_
  obtain ⟨q106, hw⟩ := hw
  obtain ⟨q107, hw⟩ := hw
  obtain ⟨h108, eq_h108⟩ : ∃ x, x = mm_uP h104 (v0) 54 (some a105) := ⟨_, rfl⟩
  replace hw := hw _ eq_h108
  refine V_putF (h' := h108) hc hin rfl (fun r hr => by cases hr; rfl) gf_Model_77 rfl rfl q106 q107 (by rw [eq_h108]; exact mm_Up_P _ _ _ _) (by rw [eq_h108]; exact up_vP rfl) (pa_nar _) (pa_fit _) d_Model_init_185 ?_
  refine V_aload_n hc 0 d_Model_init_188 rfl rfl ?_
  refine V_sipush (v := 6080) hc d_Model_init_189 (by decide) ?_
  obtain ⟨h109, eq_h109⟩ : ∃ x, x = mm_nw h108 100 6080 := ⟨_, rfl⟩
  replace hw := hw _ eq_h109
  refine V_newa (t := 0) (N := 6080) (ty := .int) hc rfl rfl (fun _ q => q) (gw_of (tw_1 (List.mem_of_getElem? (i := 224) rfl)) rfl) (by decide) (by decide) (by decide) (by decide) (by decide) (by decide) (by decide) d_Model_init_192 ?_
  rw [← eq_h109]
  obtain ⟨a110, eq_a110⟩ : ∃ x, x = mm_z h108 := ⟨_, rfl⟩
  replace hw := hw _ eq_a110
  rw [← eq_a110]
  refine V_wide (cs' := 22) (sl' := 920446) (by decide) (by decide) ?_
  obtain ⟨q111, hw⟩ := hw
  obtain ⟨q112, hw⟩ := hw
  obtain ⟨h113, eq_h113⟩ : ∃ x, x = mm_uP h109 (v0) 55 (some a110) := ⟨_, rfl⟩
  replace hw := hw _ eq_h113
  refine V_putF (h' := h113) hc hin rfl (fun r hr => by cases hr; rfl) gf_Model_80 rfl rfl q111 q112 (by rw [eq_h113]; exact mm_Up_P _ _ _ _) (by rw [eq_h113]; exact up_vP rfl) (pa_nar _) (pa_fit _) d_Model_init_194 ?_
  refine V_aload_n hc 0 d_Model_init_197 rfl rfl ?_
  refine V_bipush (v := 80) hc d_Model_init_198 (by decide) ?_
  obtain ⟨h114, eq_h114⟩ : ∃ x, x = mm_nw h113 100 80 := ⟨_, rfl⟩
  replace hw := hw _ eq_h114
  refine V_newa (t := 0) (N := 80) (ty := .int) hc rfl rfl (fun _ q => q) (gw_of (tw_1 (List.mem_of_getElem? (i := 224) rfl)) rfl) (by decide) (by decide) (by decide) (by decide) (by decide) (by decide) (by decide) d_Model_init_200 ?_
  rw [← eq_h114]
  obtain ⟨a115, eq_a115⟩ : ∃ x, x = mm_z h113 := ⟨_, rfl⟩
  replace hw := hw _ eq_a115
  rw [← eq_a115]
  refine V_wide (cs' := 23) (sl' := 920526) (by decide) (by decide) ?_
  obtain ⟨q116, hw⟩ := hw
  obtain ⟨q117, hw⟩ := hw
  obtain ⟨h118, eq_h118⟩ : ∃ x, x = mm_uP h114 (v0) 56 (some a115) := ⟨_, rfl⟩
  replace hw := hw _ eq_h118
  refine V_putF (h' := h118) hc hin rfl (fun r hr => by cases hr; rfl) gf_Model_83 rfl rfl q116 q117 (by rw [eq_h118]; exact mm_Up_P _ _ _ _) (by rw [eq_h118]; exact up_vP rfl) (pa_nar _) (pa_fit _) d_Model_init_202 ?_
  refine V_aload_n hc 0 d_Model_init_205 rfl rfl ?_
  refine V_iconst (v := 5) hc d_Model_init_206 (by decide) ?_
  obtain ⟨h119, eq_h119⟩ : ∃ x, x = mm_nw h118 100 5 := ⟨_, rfl⟩
  replace hw := hw _ eq_h119
  refine V_newa (t := 0) (N := 5) (ty := .int) hc rfl rfl (fun _ q => q) (gw_of (tw_1 (List.mem_of_getElem? (i := 224) rfl)) rfl) (by decide) (by decide) (by decide) (by decide) (by decide) (by decide) (by decide) d_Model_init_207 ?_
  rw [← eq_h119]
  obtain ⟨a120, eq_a120⟩ : ∃ x, x = mm_z h118 := ⟨_, rfl⟩
  replace hw := hw _ eq_a120
  rw [← eq_a120]
  refine V_wide (cs' := 24) (sl' := 920531) (by decide) (by decide) ?_
  obtain ⟨q121, hw⟩ := hw
  obtain ⟨q122, hw⟩ := hw
  obtain ⟨h123, eq_h123⟩ : ∃ x, x = mm_uP h119 (v0) 57 (some a120) := ⟨_, rfl⟩
  replace hw := hw _ eq_h123
  refine V_putF (h' := h123) hc hin rfl (fun r hr => by cases hr; rfl) gf_Model_86 rfl rfl q121 q122 (by rw [eq_h123]; exact mm_Up_P _ _ _ _) (by rw [eq_h123]; exact up_vP rfl) (pa_nar _) (pa_fit _) d_Model_init_209 ?_
  refine V_aload_n hc 0 d_Model_init_212 rfl rfl ?_
  refine V_sipush (v := 300) hc d_Model_init_213 (by decide) ?_
  obtain ⟨h124, eq_h124⟩ : ∃ x, x = mm_nw h123 100 300 := ⟨_, rfl⟩
  replace hw := hw _ eq_h124
  refine V_newa (t := 0) (N := 300) (ty := .int) hc rfl rfl (fun _ q => q) (gw_of (tw_1 (List.mem_of_getElem? (i := 224) rfl)) rfl) (by decide) (by decide) (by decide) (by decide) (by decide) (by decide) (by decide) d_Model_init_216 ?_
  rw [← eq_h124]
  obtain ⟨a125, eq_a125⟩ : ∃ x, x = mm_z h123 := ⟨_, rfl⟩
  replace hw := hw _ eq_a125
  rw [← eq_a125]
  refine V_wide (cs' := 25) (sl' := 920831) (by decide) (by decide) ?_
  obtain ⟨q126, hw⟩ := hw
  obtain ⟨q127, hw⟩ := hw
  obtain ⟨h128, eq_h128⟩ : ∃ x, x = mm_uP h124 (v0) 58 (some a125) := ⟨_, rfl⟩
  replace hw := hw _ eq_h128
  refine V_putF (h' := h128) hc hin rfl (fun r hr => by cases hr; rfl) gf_Model_89 rfl rfl q126 q127 (by rw [eq_h128]; exact mm_Up_P _ _ _ _) (by rw [eq_h128]; exact up_vP rfl) (pa_nar _) (pa_fit _) d_Model_init_218 ?_
  refine V_aload_n hc 0 d_Model_init_221 rfl rfl ?_
  refine V_bipush (v := 40) hc d_Model_init_222 (by decide) ?_
  obtain ⟨h129, eq_h129⟩ : ∃ x, x = mm_nw h128 100 40 := ⟨_, rfl⟩
  replace hw := hw _ eq_h129
  refine V_newa (t := 0) (N := 40) (ty := .int) hc rfl rfl (fun _ q => q) (gw_of (tw_1 (List.mem_of_getElem? (i := 224) rfl)) rfl) (by decide) (by decide) (by decide) (by decide) (by decide) (by decide) (by decide) d_Model_init_224 ?_
  rw [← eq_h129]
  obtain ⟨a130, eq_a130⟩ : ∃ x, x = mm_z h128 := ⟨_, rfl⟩
  replace hw := hw _ eq_a130
  rw [← eq_a130]
  refine V_wide (cs' := 26) (sl' := 920871) (by decide) (by decide) ?_
  obtain ⟨q131, hw⟩ := hw
  obtain ⟨q132, hw⟩ := hw
  obtain ⟨h133, eq_h133⟩ : ∃ x, x = mm_uP h129 (v0) 65 (some a130) := ⟨_, rfl⟩
  replace hw := hw _ eq_h133
  refine V_putF (h' := h133) hc hin rfl (fun r hr => by cases hr; rfl) gf_Model_92 rfl rfl q131 q132 (by rw [eq_h133]; exact mm_Up_P _ _ _ _) (by rw [eq_h133]; exact up_vP rfl) (pa_nar _) (pa_fit _) d_Model_init_226 ?_
  refine V_aload_n hc 0 d_Model_init_229 rfl rfl ?_
  obtain ⟨q134, hw⟩ := hw
  refine V_get (v := va_rf (mm_P h133 v0 0)) hc gf_Model_9 rfl q134 rfl d_Model_init_230 ?_
  refine V_iconst (v := 0) hc d_Model_init_233 (by decide) ?_
  refine V_iconst (v := 1) hc d_Model_init_234 (by decide) ?_
  obtain ⟨a135, q136, hw⟩ := hw
  obtain ⟨q137, hw⟩ := hw
  obtain ⟨q138, hw⟩ := hw
  obtain ⟨q139, hw⟩ := hw
  obtain ⟨h140, eq_h140⟩ : ∃ x, x = mm_uI h133 a135 (Int32.toNatClampNeg (0)) (vp_nar .boolean (1)) := ⟨_, rfl⟩
  replace hw := hw _ eq_h140
  refine V_zast hc q136 q137 q138 q139 d_Model_init_235 ?_
  rw [← eq_h140]
  refine V_aload_n hc 0 d_Model_init_236 rfl rfl ?_
  obtain ⟨q141, hw⟩ := hw
  refine V_get (v := va_rf (mm_P h140 v0 2)) hc gf_Model_17 rfl q141 rfl d_Model_init_237 ?_
  refine V_iconst (v := 0) hc d_Model_init_240 (by decide) ?_
  refine V_ldc (v := (-2147483137)) hc (gw_of (tw_4 (List.mem_of_getElem? (i := 196) rfl)) rfl) d_Model_init_241 ?_
  obtain ⟨a142, q143, hw⟩ := hw
  obtain ⟨q144, hw⟩ := hw
  obtain ⟨q145, hw⟩ := hw
  obtain ⟨q146, hw⟩ := hw
  obtain ⟨h147, eq_h147⟩ : ∃ x, x = mm_uI h140 a142 (Int32.toNatClampNeg (0)) ((-2147483137)) := ⟨_, rfl⟩
  replace hw := hw _ eq_h147
  refine V_iast hc q143 q144 q145 q146 d_Model_init_243 ?_
  rw [← eq_h147]
  refine V_aload_n hc 0 d_Model_init_244 rfl rfl ?_
  obtain ⟨q148, hw⟩ := hw
  refine V_get (v := va_rf (mm_P h147 v0 6)) hc gf_Model_29 rfl q148 rfl d_Model_init_245 ?_
  refine V_iconst (v := 0) hc d_Model_init_248 (by decide) ?_
  refine V_iconst (v := 1) hc d_Model_init_249 (by decide) ?_
  obtain ⟨a149, q150, hw⟩ := hw
  obtain ⟨q151, hw⟩ := hw
  obtain ⟨q152, hw⟩ := hw
  obtain ⟨q153, hw⟩ := hw
  obtain ⟨h154, eq_h154⟩ : ∃ x, x = mm_uI h147 a149 (Int32.toNatClampNeg (0)) (1) := ⟨_, rfl⟩
  replace hw := hw _ eq_h154
  refine V_iast hc q150 q151 q152 q153 d_Model_init_250 ?_
  rw [← eq_h154]
  refine V_aload_n hc 0 d_Model_init_251 rfl rfl ?_
  obtain ⟨q155, hw⟩ := hw
  refine V_get (v := va_rf (mm_P h154 v0 7)) hc gf_Model_33 rfl q155 rfl d_Model_init_252 ?_
  refine V_iconst (v := 0) hc d_Model_init_255 (by decide) ?_
  refine V_bipush (v := 47) hc d_Model_init_256 (by decide) ?_
  obtain ⟨a156, q157, hw⟩ := hw
  obtain ⟨q158, hw⟩ := hw
  obtain ⟨q159, hw⟩ := hw
  obtain ⟨q160, hw⟩ := hw
  obtain ⟨h161, eq_h161⟩ : ∃ x, x = mm_uI h154 a156 (Int32.toNatClampNeg (0)) (47) := ⟨_, rfl⟩
  replace hw := hw _ eq_h161
  refine V_iast hc q157 q158 q159 q160 d_Model_init_258 ?_
  rw [← eq_h161]
  exact V_vret hc hq ⟨rfl, hw⟩ (by decide) (by decide) d_Model_init_259
def wq_Model_init (ge : Nat → Nat) (v0 : Nat) (h : mm_M) (Z : mm_M → Prop) : Prop := wq_Model_init_0 ge v0 h Z
theorem sat_Model_init (G : mm_G) (v0 : Nat) (h : mm_M) (Z : mm_M → Prop) (hw : wq_Model_init (mm_ge G) v0 h Z) : mm_Met G y_Model_init c_Model_init 1 none rm_Model_init [va_rf (some v0)] h (pV Z) := by
  refine mm_intro (own := "EpochServerModel") (by decide) rfl (by simp [lg_sl, cat_rf, cat_i, cat_l]) (fun E e1 hc hq hi => ?_)
  subst e1
  have e2 : lv_args 0 [va_rf (some v0)] = [(0, va_rf (some v0))] := by simp [lv_args, cat_rf, cat_i, cat_l]
  rw [e2]
  refine V_sub (lv' := [(0, va_rf (some v0))]) [0] rfl ?_
  exact vb_Model_init_0 hc hq (hi rfl) v0 h hw
/-! Model.isIn(II)Z -/
abbrev rm_Model_isIn : Room := { frames := 0, cells := 0, slots := 0, locals := 0 }
def wq_Model_isIn_14  (ge : Nat → Nat) (s0 : Int32) (h : mm_M) (Z : Int32 → mm_M → Prop) : Prop :=
  ((s0) = 0 ∨ (s0) = 1) ∧ Z (s0) h
def wq_Model_isIn_13  (ge : Nat → Nat)  (h : mm_M) (Z : Int32 → mm_M → Prop) : Prop :=
  wq_Model_isIn_14  ge (0) h Z
def wq_Model_isIn_0  (ge : Nat → Nat) (v0 : Int32) (v1 : Int32) (h : mm_M) (Z : Int32 → mm_M → Prop) : Prop :=
  (((v0) < 0 → wq_Model_isIn_13  ge h Z) ∧ (¬ (v0) < 0 → (((v1 : Int32) ≤ (v0 : Int32) → wq_Model_isIn_13  ge h Z) ∧ (¬ (v1 : Int32) ≤ (v0 : Int32) → wq_Model_isIn_14  ge (1) h Z))))
set_option maxRecDepth 100000 in
set_option maxHeartbeats 4000000 in
theorem vb_Model_isIn_14 {E : mm_E} {Z : Int32 → mm_M → Prop} (hc : cx E "EpochServerModel" c_Model_isIn 2 (some (.boolean)) rm_Model_isIn) (hq : cq E rm_Model_isIn (pI Z))  (s0 : Int32) (h : mm_M) (hw : wq_Model_isIn_14  (mm_ge (eG E)) s0 h Z) : V E 2 0 0 h 14 [] [.int (s0)] := by
  unfold wq_Model_isIn_14 at hw
  obtain ⟨q1, hw⟩ := hw
  exact V_zret hc hq (zz_nar q1) ⟨_, rfl, hw⟩ (by decide) (by decide) d_Model_isIn_14
set_option maxRecDepth 100000 in
set_option maxHeartbeats 4000000 in
theorem vb_Model_isIn_13 {E : mm_E} {Z : Int32 → mm_M → Prop} (hc : cx E "EpochServerModel" c_Model_isIn 2 (some (.boolean)) rm_Model_isIn) (hq : cq E rm_Model_isIn (pI Z))   (h : mm_M) (hw : wq_Model_isIn_13  (mm_ge (eG E))  h Z) : V E 2 0 0 h 13 [] [] := by
  unfold wq_Model_isIn_13 at hw
  refine V_iconst (v := 0) hc d_Model_isIn_13 (by decide) ?_
  refine V_sub (lv' := []) [] rfl ?_
  exact vb_Model_isIn_14 hc hq  _ _ hw
set_option maxRecDepth 100000 in
set_option maxHeartbeats 4000000 in
theorem vb_Model_isIn_0 {E : mm_E} {Z : Int32 → mm_M → Prop} (hc : cx E "EpochServerModel" c_Model_isIn 2 (some (.boolean)) rm_Model_isIn) (hq : cq E rm_Model_isIn (pI Z))  (v0 : Int32) (v1 : Int32) (h : mm_M) (hw : wq_Model_isIn_0  (mm_ge (eG E)) v0 v1 h Z) : V E 2 0 0 h 0 [(0, .int (v0)), (1, .int (v1))] [] := by
  unfold wq_Model_isIn_0 at hw
  refine V_iload_n hc 0 d_Model_isIn_0 rfl rfl ?_
  refine V_if_lt (tgt := 13) hc d_Model_isIn_1 (by decide) (fun hq1 => ?_) (fun hq1 => ?_)
  · replace hw := hw.1 hq1
    refine V_sub (lv' := []) [] rfl ?_
    exact vb_Model_isIn_13 hc hq  _ hw
  · replace hw := hw.2 hq1
    refine V_iload_n hc 0 d_Model_isIn_4 rfl rfl ?_
    refine V_iload_n hc 1 d_Model_isIn_5 rfl rfl ?_
    refine V_icmp_ge (tgt := 13) hc d_Model_isIn_6 (by decide) (fun hq1 => ?_) (fun hq1 => ?_)
    · replace hw := hw.1 hq1
      refine V_sub (lv' := []) [] rfl ?_
      exact vb_Model_isIn_13 hc hq  _ hw
    · replace hw := hw.2 hq1
      refine V_iconst (v := 1) hc d_Model_isIn_9 (by decide) ?_
      refine V_goto (tgt := 14) hc d_Model_isIn_10 (by decide) ?_
      refine V_sub (lv' := []) [] rfl ?_
      exact vb_Model_isIn_14 hc hq  _ _ hw
def wq_Model_isIn (ge : Nat → Nat) (v0 : Int32) (v1 : Int32) (h : mm_M) (Z : Int32 → mm_M → Prop) : Prop := wq_Model_isIn_0 ge v0 v1 h Z
theorem sat_Model_isIn (G : mm_G) (v0 : Int32) (v1 : Int32) (h : mm_M) (Z : Int32 → mm_M → Prop) (hw : wq_Model_isIn (mm_ge G) v0 v1 h Z) : mm_Met G y_Model_isIn c_Model_isIn 2 (some (.boolean)) rm_Model_isIn [.int (v0), .int (v1)] h (pI Z) := by
  refine mm_intro (own := "EpochServerModel") (by decide) rfl (by simp [lg_sl, cat_rf, cat_i, cat_l]) (fun E e1 hc hq hi => ?_)
  subst e1
  have e2 : lv_args 0 [.int (v0), .int (v1)] = [(0, .int (v0)), (1, .int (v1))] := by simp [lv_args, cat_rf, cat_i, cat_l]
  rw [e2]
  refine V_sub (lv' := [(0, .int (v0)), (1, .int (v1))]) [0, 1] rfl ?_
  exact vb_Model_isIn_0 hc hq v0 v1 h hw
/-! Model.spot(II)I -/
abbrev rm_Model_spot : Room := { frames := 0, cells := 0, slots := 0, locals := 0 }
def wq_Model_spot_0  (ge : Nat → Nat) (v0 : Int32) (v1 : Int32) (h : mm_M) (Z : Int32 → mm_M → Prop) : Prop :=
  Z (((60 : Int32) * (v0)) + (v1)) h
set_option maxRecDepth 100000 in
set_option maxHeartbeats 4000000 in
theorem vb_Model_spot_0 {E : mm_E} {Z : Int32 → mm_M → Prop} (hc : cx E "EpochServerModel" c_Model_spot 2 (some (.int)) rm_Model_spot) (hq : cq E rm_Model_spot (pI Z))  (v0 : Int32) (v1 : Int32) (h : mm_M) (hw : wq_Model_spot_0  (mm_ge (eG E)) v0 v1 h Z) : V E 2 0 0 h 0 [(0, .int (v0)), (1, .int (v1))] [] := by
  unfold wq_Model_spot_0 at hw
  refine V_bipush (v := 60) hc d_Model_spot_0 (by decide) ?_
  refine V_iload_n hc 0 d_Model_spot_2 rfl rfl ?_
  refine V_imul hc d_Model_spot_3 ?_
  refine V_iload_n hc 1 d_Model_spot_4 rfl rfl ?_
  refine V_iadd hc d_Model_spot_5 ?_
  exact V_iret hc hq ⟨_, rfl, hw⟩ (by decide) (by decide) d_Model_spot_6
def wq_Model_spot (ge : Nat → Nat) (v0 : Int32) (v1 : Int32) (h : mm_M) (Z : Int32 → mm_M → Prop) : Prop := wq_Model_spot_0 ge v0 v1 h Z
theorem sat_Model_spot (G : mm_G) (v0 : Int32) (v1 : Int32) (h : mm_M) (Z : Int32 → mm_M → Prop) (hw : wq_Model_spot (mm_ge G) v0 v1 h Z) : mm_Met G y_Model_spot c_Model_spot 2 (some (.int)) rm_Model_spot [.int (v0), .int (v1)] h (pI Z) := by
  refine mm_intro (own := "EpochServerModel") (by decide) rfl (by simp [lg_sl, cat_rf, cat_i, cat_l]) (fun E e1 hc hq hi => ?_)
  subst e1
  have e2 : lv_args 0 [.int (v0), .int (v1)] = [(0, .int (v0)), (1, .int (v1))] := by simp [lv_args, cat_rf, cat_i, cat_l]
  rw [e2]
  refine V_sub (lv' := [(0, .int (v0)), (1, .int (v1))]) [0, 1] rfl ?_
  exact vb_Model_spot_0 hc hq v0 v1 h hw
/-! Model.copy(II)V -/
abbrev rm_Model_copy : Room := { frames := 1, cells := 0, slots := 0, locals := 21 }
def wq_Model_copy_229 (X2 : Nat → Int32 → Int32 → Int32 → mm_M → Prop) (ge : Nat → Nat) (v0 : Nat) (v1 : Int32) (v2 : Int32) (v3 : Int32) (h : mm_M) (Z : mm_M → Prop) : Prop :=
  X2 (v0) (v1) (v2) (v3 + 1) h
def wq_Model_copy_183 (X2 : Nat → Int32 → Int32 → Int32 → mm_M → Prop) (X183 : Nat → Int32 → Int32 → Int32 → Int32 → Int32 → Int32 → mm_M → Prop) (ge : Nat → Nat) (v0 : Nat) (v1 : Int32) (v2 : Int32) (v3 : Int32) (v4 : Int32) (v5 : Int32) (v6 : Int32) (h : mm_M) (Z : mm_M → Prop) : Prop :=
  mm_k h (v0) = kd_Model ∧ ∃ a2, mm_P h v0 5 = some a2 ∧ mm_k h (a2) = ka_I ∧ vp_in (v4) (mm_n h a2) ∧ (((mm_I h a2 (Int32.toNatClampNeg (v4)) : Int32) ≤ (v6 : Int32) → wq_Model_copy_229 X2 ge (v0) (v1) (v2) (v3) h Z) ∧ (¬ (mm_I h a2 (Int32.toNatClampNeg (v4)) : Int32) ≤ (v6 : Int32) → ∃ a6, mm_P h v0 8 = some a6 ∧ mm_k h (a6) = ka_I ∧ vp_in (((512 : Int32) * (v4)) + (v6)) (mm_n h a6) ∧ vp_in (((512 : Int32) * (v5)) + (v6)) (mm_n h a6) ∧ ge 0 ≤ a6 ∧ ∀ h12 : mm_M, h12 = mm_uI h a6 (Int32.toNatClampNeg (((512 : Int32) * (v5)) + (v6))) (mm_I h a6 (Int32.toNatClampNeg (((512 : Int32) * (v4)) + (v6)))) → X183 (v0) (v1) (v2) (v3) (v4) (v5) (v6 + 1) h12))
def lp_Model_copy_183 (X2 : Nat → Int32 → Int32 → Int32 → mm_M → Prop) (ge : Nat → Nat) (v0 : Nat) (v1 : Int32) (v2 : Int32) (v3 : Int32) (v4 : Int32) (v5 : Int32) (v6 : Int32) (h : mm_M) (Z : mm_M → Prop) : Prop :=
  ∀ X183 : Nat → Int32 → Int32 → Int32 → Int32 → Int32 → Int32 → mm_M → Prop, (∀ (v0 : Nat) (v1 : Int32) (v2 : Int32) (v3 : Int32) (v4 : Int32) (v5 : Int32) (v6 : Int32) (h : mm_M), wq_Model_copy_183 X2 X183 ge v0 v1 v2 v3 v4 v5 v6 h Z → X183 v0 v1 v2 v3 v4 v5 v6 h) → X183 v0 v1 v2 v3 v4 v5 v6 h
def wq_Model_copy_136 (X2 : Nat → Int32 → Int32 → Int32 → mm_M → Prop) (X136 : Nat → Int32 → Int32 → Int32 → Int32 → Int32 → Int32 → mm_M → Prop) (ge : Nat → Nat) (v0 : Nat) (v1 : Int32) (v2 : Int32) (v3 : Int32) (v4 : Int32) (v5 : Int32) (v6 : Int32) (h : mm_M) (Z : mm_M → Prop) : Prop :=
  mm_k h (v0) = kd_Model ∧ ∃ a2, mm_P h v0 6 = some a2 ∧ mm_k h (a2) = ka_I ∧ vp_in (v4) (mm_n h a2) ∧ (((mm_I h a2 (Int32.toNatClampNeg (v4)) : Int32) ≤ (v6 : Int32) → lp_Model_copy_183 X2 ge (v0) (v1) (v2) (v3) (v4) (v5) (0) h Z) ∧ (¬ (mm_I h a2 (Int32.toNatClampNeg (v4)) : Int32) ≤ (v6 : Int32) → ∃ a6, mm_P h v0 7 = some a6 ∧ mm_k h (a6) = ka_I ∧ vp_in (((20 : Int32) * (v4)) + (v6)) (mm_n h a6) ∧ vp_in (((20 : Int32) * (v5)) + (v6)) (mm_n h a6) ∧ ge 0 ≤ a6 ∧ ∀ h12 : mm_M, h12 = mm_uI h a6 (Int32.toNatClampNeg (((20 : Int32) * (v5)) + (v6))) (mm_I h a6 (Int32.toNatClampNeg (((20 : Int32) * (v4)) + (v6)))) → X136 (v0) (v1) (v2) (v3) (v4) (v5) (v6 + 1) h12))
def lp_Model_copy_136 (X2 : Nat → Int32 → Int32 → Int32 → mm_M → Prop) (ge : Nat → Nat) (v0 : Nat) (v1 : Int32) (v2 : Int32) (v3 : Int32) (v4 : Int32) (v5 : Int32) (v6 : Int32) (h : mm_M) (Z : mm_M → Prop) : Prop :=
  ∀ X136 : Nat → Int32 → Int32 → Int32 → Int32 → Int32 → Int32 → mm_M → Prop, (∀ (v0 : Nat) (v1 : Int32) (v2 : Int32) (v3 : Int32) (v4 : Int32) (v5 : Int32) (v6 : Int32) (h : mm_M), wq_Model_copy_136 X2 X136 ge v0 v1 v2 v3 v4 v5 v6 h Z → X136 v0 v1 v2 v3 v4 v5 v6 h) → X136 v0 v1 v2 v3 v4 v5 v6 h
def wq_Model_copy_2 (X2 : Nat → Int32 → Int32 → Int32 → mm_M → Prop) (ge : Nat → Nat) (v0 : Nat) (v1 : Int32) (v2 : Int32) (v3 : Int32) (h : mm_M) (Z : mm_M → Prop) : Prop :=
  (((60 : Int32) ≤ (v3 : Int32) → Z h) ∧ (¬ (60 : Int32) ≤ (v3 : Int32) → wq_Model_spot ge (v1) (v3) h (fun (r2 : Int32) (h1 : mm_M) => wq_Model_spot ge (v2) (v3) h1 (fun (r4 : Int32) (h3 : mm_M) => mm_k h3 (v0) = kd_Model ∧ ∃ a6, mm_P h3 v0 0 = some a6 ∧ mm_k h3 (a6) = ka_Z ∧ vp_in (r2) (mm_n h3 a6) ∧ vp_in (r4) (mm_n h3 a6) ∧ ge 0 ≤ a6 ∧ ∀ h12 : mm_M, h12 = mm_uI h3 a6 (Int32.toNatClampNeg (r4)) (vp_nar .boolean (mm_I h3 a6 (Int32.toNatClampNeg (r2)))) → mm_k h12 (v0) = kd_Model ∧ ∃ a14, mm_P h12 v0 0 = some a14 ∧ mm_k h12 (a14) = ka_Z ∧ vp_in (r2) (mm_n h12 a14) ∧ ((¬ (mm_I h12 a14 (Int32.toNatClampNeg (r2))) = 0 → ∃ a18, mm_P h12 v0 1 = some a18 ∧ mm_k h12 (a18) = ka_I ∧ vp_in (r2) (mm_n h12 a18) ∧ vp_in (r4) (mm_n h12 a18) ∧ ge 0 ≤ a18 ∧ ∀ h24 : mm_M, h24 = mm_uI h12 a18 (Int32.toNatClampNeg (r4)) (mm_I h12 a18 (Int32.toNatClampNeg (r2))) → mm_k h24 (v0) = kd_Model ∧ ∃ a26, mm_P h24 v0 2 = some a26 ∧ mm_k h24 (a26) = ka_I ∧ vp_in (r2) (mm_n h24 a26) ∧ vp_in (r4) (mm_n h24 a26) ∧ ge 0 ≤ a26 ∧ ∀ h32 : mm_M, h32 = mm_uI h24 a26 (Int32.toNatClampNeg (r4)) (mm_I h24 a26 (Int32.toNatClampNeg (r2))) → mm_k h32 (v0) = kd_Model ∧ ∃ a34, mm_P h32 v0 3 = some a34 ∧ mm_k h32 (a34) = ka_I ∧ vp_in (r2) (mm_n h32 a34) ∧ vp_in (r4) (mm_n h32 a34) ∧ ge 0 ≤ a34 ∧ ∀ h40 : mm_M, h40 = mm_uI h32 a34 (Int32.toNatClampNeg (r4)) (mm_I h32 a34 (Int32.toNatClampNeg (r2))) → mm_k h40 (v0) = kd_Model ∧ ∃ a42, mm_P h40 v0 4 = some a42 ∧ mm_k h40 (a42) = ka_I ∧ vp_in (r2) (mm_n h40 a42) ∧ vp_in (r4) (mm_n h40 a42) ∧ ge 0 ≤ a42 ∧ ∀ h48 : mm_M, h48 = mm_uI h40 a42 (Int32.toNatClampNeg (r4)) (mm_I h40 a42 (Int32.toNatClampNeg (r2))) → mm_k h48 (v0) = kd_Model ∧ ∃ a50, mm_P h48 v0 5 = some a50 ∧ mm_k h48 (a50) = ka_I ∧ vp_in (r2) (mm_n h48 a50) ∧ vp_in (r4) (mm_n h48 a50) ∧ ge 0 ≤ a50 ∧ ∀ h56 : mm_M, h56 = mm_uI h48 a50 (Int32.toNatClampNeg (r4)) (mm_I h48 a50 (Int32.toNatClampNeg (r2))) → mm_k h56 (v0) = kd_Model ∧ ∃ a58, mm_P h56 v0 6 = some a58 ∧ mm_k h56 (a58) = ka_I ∧ vp_in (r2) (mm_n h56 a58) ∧ vp_in (r4) (mm_n h56 a58) ∧ ge 0 ≤ a58 ∧ ∀ h64 : mm_M, h64 = mm_uI h56 a58 (Int32.toNatClampNeg (r4)) (mm_I h56 a58 (Int32.toNatClampNeg (r2))) → lp_Model_copy_136 X2 ge (v0) (v1) (v2) (v3) (r2) (r4) (0) h64 Z) ∧ ((mm_I h12 a14 (Int32.toNatClampNeg (r2))) = 0 → wq_Model_copy_229 X2 ge (v0) (v1) (v2) (v3) h12 Z))))))
def lp_Model_copy_2  (ge : Nat → Nat) (v0 : Nat) (v1 : Int32) (v2 : Int32) (v3 : Int32) (h : mm_M) (Z : mm_M → Prop) : Prop :=
  ∀ X2 : Nat → Int32 → Int32 → Int32 → mm_M → Prop, (∀ (v0 : Nat) (v1 : Int32) (v2 : Int32) (v3 : Int32) (h : mm_M), wq_Model_copy_2 X2 ge v0 v1 v2 v3 h Z → X2 v0 v1 v2 v3 h) → X2 v0 v1 v2 v3 h
def wq_Model_copy_0  (ge : Nat → Nat) (v0 : Nat) (v1 : Int32) (v2 : Int32) (h : mm_M) (Z : mm_M → Prop) : Prop :=
  lp_Model_copy_2  ge (v0) (v1) (v2) (0) h Z
set_option maxRecDepth 100000 in
set_option maxHeartbeats 4000000 in
theorem vb_Model_copy_229 {E : mm_E} {Z : mm_M → Prop} (hc : cx E "EpochServerModel" c_Model_copy 7 none rm_Model_copy) (hq : cq E rm_Model_copy (pV Z)) (X2 : Nat → Int32 → Int32 → Int32 → mm_M → Prop) (hX2 : ∀ (v0 : Nat) (v1 : Int32) (v2 : Int32) (v3 : Int32) (h : mm_M), X2 v0 v1 v2 v3 h → V E 7 0 0 h 2 [(0, va_rf (some v0)), (1, .int (v1)), (2, .int (v2)), (3, .int (v3))] []) (v0 : Nat) (v1 : Int32) (v2 : Int32) (v3 : Int32) (h : mm_M) (hw : wq_Model_copy_229 X2 (mm_ge (eG E)) v0 v1 v2 v3 h Z) : V E 7 0 0 h 229 [(0, va_rf (some v0)), (1, .int (v1)), (2, .int (v2)), (3, .int (v3))] [] := by
  unfold wq_Model_copy_229 at hw
  refine V_iinc (v := v3 + 1) (lv' := [(3, .int (v3 + 1)), (0, va_rf (some v0)), (1, .int (v1)), (2, .int (v2))]) hc 3 d_Model_copy_229 rfl rfl (by decide) rfl ?_
  refine V_goto (tgt := 2) hc d_Model_copy_232 (by decide) ?_
  refine V_sub (lv' := [(0, va_rf (some v0)), (1, .int (v1)), (2, .int (v2)), (3, .int (v3 + 1))]) [1, 2, 3, 0] rfl ?_
  exact hX2 _ _ _ _ _ hw
set_option maxRecDepth 100000 in
set_option maxHeartbeats 4000000 in
theorem vb_Model_copy_183 {E : mm_E} {Z : mm_M → Prop} (hc : cx E "EpochServerModel" c_Model_copy 7 none rm_Model_copy) (hq : cq E rm_Model_copy (pV Z)) (X2 : Nat → Int32 → Int32 → Int32 → mm_M → Prop) (hX2 : ∀ (v0 : Nat) (v1 : Int32) (v2 : Int32) (v3 : Int32) (h : mm_M), X2 v0 v1 v2 v3 h → V E 7 0 0 h 2 [(0, va_rf (some v0)), (1, .int (v1)), (2, .int (v2)), (3, .int (v3))] []) (X183 : Nat → Int32 → Int32 → Int32 → Int32 → Int32 → Int32 → mm_M → Prop) (hX183 : ∀ (v0 : Nat) (v1 : Int32) (v2 : Int32) (v3 : Int32) (v4 : Int32) (v5 : Int32) (v6 : Int32) (h : mm_M), X183 v0 v1 v2 v3 v4 v5 v6 h → V E 7 0 0 h 183 [(0, va_rf (some v0)), (1, .int (v1)), (2, .int (v2)), (3, .int (v3)), (4, .int (v4)), (5, .int (v5)), (6, .int (v6))] []) (v0 : Nat) (v1 : Int32) (v2 : Int32) (v3 : Int32) (v4 : Int32) (v5 : Int32) (v6 : Int32) (h : mm_M) (hw : wq_Model_copy_183 X2 X183 (mm_ge (eG E)) v0 v1 v2 v3 v4 v5 v6 h Z) : V E 7 0 0 h 183 [(0, va_rf (some v0)), (1, .int (v1)), (2, .int (v2)), (3, .int (v3)), (4, .int (v4)), (5, .int (v5)), (6, .int (v6))] [] := by
  unfold wq_Model_copy_183 at hw
  refine V_iload hc 6 d_Model_copy_183 rfl ?_
  refine V_aload_n hc 0 d_Model_copy_185 rfl rfl ?_
  obtain ⟨q1, hw⟩ := hw
  refine V_get (v := va_rf (mm_P h v0 5)) hc gf_Model_26 rfl q1 rfl d_Model_copy_186 ?_
  refine V_iload hc 4 d_Model_copy_189 rfl ?_
  obtain ⟨a2, q3, hw⟩ := hw
  obtain ⟨q4, hw⟩ := hw
  obtain ⟨q5, hw⟩ := hw
  refine V_iald hc q3 q4 q5 d_Model_copy_191 ?_
  refine V_icmp_ge (tgt := 229) hc d_Model_copy_192 (by decide) (fun hq1 => ?_) (fun hq1 => ?_)
  · replace hw := hw.1 hq1
    refine V_sub (lv' := [(0, va_rf (some v0)), (1, .int (v1)), (2, .int (v2)), (3, .int (v3))]) [0, 1, 2, 3] rfl ?_
    exact vb_Model_copy_229 hc hq X2 hX2 _ _ _ _ _ hw
  · replace hw := hw.2 hq1
    refine V_aload_n hc 0 d_Model_copy_195 rfl rfl ?_
    refine V_get (v := va_rf (mm_P h v0 8)) hc gf_Model_37 rfl q1 rfl d_Model_copy_196 ?_
    refine V_sipush (v := 512) hc d_Model_copy_199 (by decide) ?_
    refine V_iload hc 5 d_Model_copy_202 rfl ?_
    refine V_imul hc d_Model_copy_204 ?_
    refine V_iload hc 6 d_Model_copy_205 rfl ?_
    refine V_iadd hc d_Model_copy_207 ?_
    refine V_aload_n hc 0 d_Model_copy_208 rfl rfl ?_
    refine V_get (v := va_rf (mm_P h v0 8)) hc gf_Model_37 rfl q1 rfl d_Model_copy_209 ?_
    refine V_sipush (v := 512) hc d_Model_copy_212 (by decide) ?_
    refine V_iload hc 4 d_Model_copy_215 rfl ?_
    refine V_imul hc d_Model_copy_217 ?_
    refine V_iload hc 6 d_Model_copy_218 rfl ?_
    refine V_iadd hc d_Model_copy_220 ?_
    obtain ⟨a6, q7, hw⟩ := hw
    obtain ⟨q8, hw⟩ := hw
    obtain ⟨q9, hw⟩ := hw
    refine V_iald hc q7 q8 q9 d_Model_copy_221 ?_
    obtain ⟨q10, hw⟩ := hw
    obtain ⟨q11, hw⟩ := hw
    obtain ⟨h12, eq_h12⟩ : ∃ x, x = mm_uI h a6 (Int32.toNatClampNeg (((512 : Int32) * (v5)) + (v6))) (mm_I h a6 (Int32.toNatClampNeg (((512 : Int32) * (v4)) + (v6)))) := ⟨_, rfl⟩
    replace hw := hw _ eq_h12
    refine V_iast hc q7 q8 q10 q11 d_Model_copy_222 ?_
    rw [← eq_h12]
    refine V_iinc (v := v6 + 1) (lv' := [(6, .int (v6 + 1)), (0, va_rf (some v0)), (1, .int (v1)), (2, .int (v2)), (3, .int (v3)), (4, .int (v4)), (5, .int (v5))]) hc 6 d_Model_copy_223 rfl rfl (by decide) rfl ?_
    refine V_goto (tgt := 183) hc d_Model_copy_226 (by decide) ?_
    refine V_sub (lv' := [(0, va_rf (some v0)), (1, .int (v1)), (2, .int (v2)), (3, .int (v3)), (4, .int (v4)), (5, .int (v5)), (6, .int (v6 + 1))]) [1, 2, 3, 4, 5, 6, 0] rfl ?_
    exact hX183 _ _ _ _ _ _ _ _ hw
theorem vl_Model_copy_183 {E : mm_E} {Z : mm_M → Prop} (hc : cx E "EpochServerModel" c_Model_copy 7 none rm_Model_copy) (hq : cq E rm_Model_copy (pV Z)) (X2 : Nat → Int32 → Int32 → Int32 → mm_M → Prop) (hX2 : ∀ (v0 : Nat) (v1 : Int32) (v2 : Int32) (v3 : Int32) (h : mm_M), X2 v0 v1 v2 v3 h → V E 7 0 0 h 2 [(0, va_rf (some v0)), (1, .int (v1)), (2, .int (v2)), (3, .int (v3))] []) (v0 : Nat) (v1 : Int32) (v2 : Int32) (v3 : Int32) (v4 : Int32) (v5 : Int32) (v6 : Int32) (h : mm_M) (hw : lp_Model_copy_183 X2 (mm_ge (eG E)) v0 v1 v2 v3 v4 v5 v6 h Z) : V E 7 0 0 h 183 [(0, va_rf (some v0)), (1, .int (v1)), (2, .int (v2)), (3, .int (v3)), (4, .int (v4)), (5, .int (v5)), (6, .int (v6))] [] :=
  hw (fun v0 v1 v2 v3 v4 v5 v6 h => V E 7 0 0 h 183 [(0, va_rf (some v0)), (1, .int (v1)), (2, .int (v2)), (3, .int (v3)), (4, .int (v4)), (5, .int (v5)), (6, .int (v6))] []) (fun v0 v1 v2 v3 v4 v5 v6 h hb => vb_Model_copy_183 hc hq X2 hX2 _ (fun _ _ _ _ _ _ _ _ q => q) v0 v1 v2 v3 v4 v5 v6 h hb)
set_option maxRecDepth 100000 in
set_option maxHeartbeats 4000000 in
theorem vb_Model_copy_136 {E : mm_E} {Z : mm_M → Prop} (hc : cx E "EpochServerModel" c_Model_copy 7 none rm_Model_copy) (hq : cq E rm_Model_copy (pV Z)) (X2 : Nat → Int32 → Int32 → Int32 → mm_M → Prop) (hX2 : ∀ (v0 : Nat) (v1 : Int32) (v2 : Int32) (v3 : Int32) (h : mm_M), X2 v0 v1 v2 v3 h → V E 7 0 0 h 2 [(0, va_rf (some v0)), (1, .int (v1)), (2, .int (v2)), (3, .int (v3))] []) (X136 : Nat → Int32 → Int32 → Int32 → Int32 → Int32 → Int32 → mm_M → Prop) (hX136 : ∀ (v0 : Nat) (v1 : Int32) (v2 : Int32) (v3 : Int32) (v4 : Int32) (v5 : Int32) (v6 : Int32) (h : mm_M), X136 v0 v1 v2 v3 v4 v5 v6 h → V E 7 0 0 h 136 [(0, va_rf (some v0)), (1, .int (v1)), (2, .int (v2)), (3, .int (v3)), (4, .int (v4)), (5, .int (v5)), (6, .int (v6))] []) (v0 : Nat) (v1 : Int32) (v2 : Int32) (v3 : Int32) (v4 : Int32) (v5 : Int32) (v6 : Int32) (h : mm_M) (hw : wq_Model_copy_136 X2 X136 (mm_ge (eG E)) v0 v1 v2 v3 v4 v5 v6 h Z) : V E 7 0 0 h 136 [(0, va_rf (some v0)), (1, .int (v1)), (2, .int (v2)), (3, .int (v3)), (4, .int (v4)), (5, .int (v5)), (6, .int (v6))] [] := by
  unfold wq_Model_copy_136 at hw
  refine V_iload hc 6 d_Model_copy_136 rfl ?_
  refine V_aload_n hc 0 d_Model_copy_138 rfl rfl ?_
  obtain ⟨q1, hw⟩ := hw
  refine V_get (v := va_rf (mm_P h v0 6)) hc gf_Model_29 rfl q1 rfl d_Model_copy_139 ?_
  refine V_iload hc 4 d_Model_copy_142 rfl ?_
  obtain ⟨a2, q3, hw⟩ := hw
  obtain ⟨q4, hw⟩ := hw
  obtain ⟨q5, hw⟩ := hw
  refine V_iald hc q3 q4 q5 d_Model_copy_144 ?_
  refine V_icmp_ge (tgt := 180) hc d_Model_copy_145 (by decide) (fun hq1 => ?_) (fun hq1 => ?_)
  · replace hw := hw.1 hq1
    refine V_iconst (v := 0) hc d_Model_copy_180 (by decide) ?_
    refine V_istore (i := 6) (lv' := [(6, .int (0)), (0, va_rf (some v0)), (1, .int (v1)), (2, .int (v2)), (3, .int (v3)), (4, .int (v4)), (5, .int (v5))]) hc d_Model_copy_181 (by decide) rfl ?_
    refine V_sub (lv' := [(0, va_rf (some v0)), (1, .int (v1)), (2, .int (v2)), (3, .int (v3)), (4, .int (v4)), (5, .int (v5)), (6, .int (0))]) [1, 2, 3, 4, 5, 6, 0] rfl ?_
    exact vl_Model_copy_183 hc hq X2 hX2 _ _ _ _ _ _ _ _ hw
  · replace hw := hw.2 hq1
    refine V_aload_n hc 0 d_Model_copy_148 rfl rfl ?_
    refine V_get (v := va_rf (mm_P h v0 7)) hc gf_Model_33 rfl q1 rfl d_Model_copy_149 ?_
    refine V_bipush (v := 20) hc d_Model_copy_152 (by decide) ?_
    refine V_iload hc 5 d_Model_copy_154 rfl ?_
    refine V_imul hc d_Model_copy_156 ?_
    refine V_iload hc 6 d_Model_copy_157 rfl ?_
    refine V_iadd hc d_Model_copy_159 ?_
    refine V_aload_n hc 0 d_Model_copy_160 rfl rfl ?_
    refine V_get (v := va_rf (mm_P h v0 7)) hc gf_Model_33 rfl q1 rfl d_Model_copy_161 ?_
    refine V_bipush (v := 20) hc d_Model_copy_164 (by decide) ?_
    refine V_iload hc 4 d_Model_copy_166 rfl ?_
    refine V_imul hc d_Model_copy_168 ?_
    refine V_iload hc 6 d_Model_copy_169 rfl ?_
    refine V_iadd hc d_Model_copy_171 ?_
    obtain ⟨a6, q7, hw⟩ := hw
    obtain ⟨q8, hw⟩ := hw
    obtain ⟨q9, hw⟩ := hw
    refine V_iald hc q7 q8 q9 d_Model_copy_172 ?_
    obtain ⟨q10, hw⟩ := hw
    obtain ⟨q11, hw⟩ := hw
    obtain ⟨h12, eq_h12⟩ : ∃ x, x = mm_uI h a6 (Int32.toNatClampNeg (((20 : Int32) * (v5)) + (v6))) (mm_I h a6 (Int32.toNatClampNeg (((20 : Int32) * (v4)) + (v6)))) := ⟨_, rfl⟩
    replace hw := hw _ eq_h12
    refine V_iast hc q7 q8 q10 q11 d_Model_copy_173 ?_
    rw [← eq_h12]
    refine V_iinc (v := v6 + 1) (lv' := [(6, .int (v6 + 1)), (0, va_rf (some v0)), (1, .int (v1)), (2, .int (v2)), (3, .int (v3)), (4, .int (v4)), (5, .int (v5))]) hc 6 d_Model_copy_174 rfl rfl (by decide) rfl ?_
    refine V_goto (tgt := 136) hc d_Model_copy_177 (by decide) ?_
    refine V_sub (lv' := [(0, va_rf (some v0)), (1, .int (v1)), (2, .int (v2)), (3, .int (v3)), (4, .int (v4)), (5, .int (v5)), (6, .int (v6 + 1))]) [1, 2, 3, 4, 5, 6, 0] rfl ?_
    exact hX136 _ _ _ _ _ _ _ _ hw
theorem vl_Model_copy_136 {E : mm_E} {Z : mm_M → Prop} (hc : cx E "EpochServerModel" c_Model_copy 7 none rm_Model_copy) (hq : cq E rm_Model_copy (pV Z)) (X2 : Nat → Int32 → Int32 → Int32 → mm_M → Prop) (hX2 : ∀ (v0 : Nat) (v1 : Int32) (v2 : Int32) (v3 : Int32) (h : mm_M), X2 v0 v1 v2 v3 h → V E 7 0 0 h 2 [(0, va_rf (some v0)), (1, .int (v1)), (2, .int (v2)), (3, .int (v3))] []) (v0 : Nat) (v1 : Int32) (v2 : Int32) (v3 : Int32) (v4 : Int32) (v5 : Int32) (v6 : Int32) (h : mm_M) (hw : lp_Model_copy_136 X2 (mm_ge (eG E)) v0 v1 v2 v3 v4 v5 v6 h Z) : V E 7 0 0 h 136 [(0, va_rf (some v0)), (1, .int (v1)), (2, .int (v2)), (3, .int (v3)), (4, .int (v4)), (5, .int (v5)), (6, .int (v6))] [] :=
  hw (fun v0 v1 v2 v3 v4 v5 v6 h => V E 7 0 0 h 136 [(0, va_rf (some v0)), (1, .int (v1)), (2, .int (v2)), (3, .int (v3)), (4, .int (v4)), (5, .int (v5)), (6, .int (v6))] []) (fun v0 v1 v2 v3 v4 v5 v6 h hb => vb_Model_copy_136 hc hq X2 hX2 _ (fun _ _ _ _ _ _ _ _ q => q) v0 v1 v2 v3 v4 v5 v6 h hb)
set_option maxRecDepth 100000 in
set_option maxHeartbeats 4000000 in
theorem vb_Model_copy_2 {E : mm_E} {Z : mm_M → Prop} (hc : cx E "EpochServerModel" c_Model_copy 7 none rm_Model_copy) (hq : cq E rm_Model_copy (pV Z)) (X2 : Nat → Int32 → Int32 → Int32 → mm_M → Prop) (hX2 : ∀ (v0 : Nat) (v1 : Int32) (v2 : Int32) (v3 : Int32) (h : mm_M), X2 v0 v1 v2 v3 h → V E 7 0 0 h 2 [(0, va_rf (some v0)), (1, .int (v1)), (2, .int (v2)), (3, .int (v3))] []) (v0 : Nat) (v1 : Int32) (v2 : Int32) (v3 : Int32) (h : mm_M) (hw : wq_Model_copy_2 X2 (mm_ge (eG E)) v0 v1 v2 v3 h Z) : V E 7 0 0 h 2 [(0, va_rf (some v0)), (1, .int (v1)), (2, .int (v2)), (3, .int (v3))] [] := by
  unfold wq_Model_copy_2 at hw
  refine V_iload_n hc 3 d_Model_copy_2 rfl rfl ?_
  refine V_bipush (v := 60) hc d_Model_copy_3 (by decide) ?_
  refine V_icmp_ge (tgt := 235) hc d_Model_copy_5 (by decide) (fun hq1 => ?_) (fun hq1 => ?_)
  · replace hw := hw.1 hq1
    exact V_vret hc hq ⟨rfl, hw⟩ (by decide) (by decide) d_Model_copy_235
  · replace hw := hw.2 hq1
    refine V_iload_n hc 1 d_Model_copy_8 rfl rfl ?_
    refine V_iload_n hc 3 d_Model_copy_9 rfl rfl ?_
    refine V_callS (rm' := rm_Model_spot) (As := [.int (v1), .int (v3)]) (rest := []) (n := 2) hc (sat_Model_spot (eG E) _ _ _ _ hw) cv_Model_96 (gw_of (tw_5 (List.mem_of_getElem? (i := 196) rfl)) rfl) rfl ⟨by decide, by decide⟩ (by decide) (by decide) rfl (by simp [cat_rf, cat_i, cat_l]) d_Model_copy_10 (fun r0 h1 hw => ?_)
    obtain ⟨r2, rfl, hw⟩ := hw
    refine V_wide (cs' := 0) (sl' := 0) (by decide) (by decide) ?_
    refine V_st (st' := [.int (r2)]) rfl ?_
    refine V_istore (i := 4) (lv' := [(4, .int (r2)), (0, va_rf (some v0)), (1, .int (v1)), (2, .int (v2)), (3, .int (v3))]) hc d_Model_copy_13 (by decide) rfl ?_
    refine V_iload_n hc 3 d_Model_copy_15 rfl rfl ?_
    refine V_iload_n hc 4 d_Model_copy_16 rfl rfl ?_
    refine V_callS (rm' := rm_Model_spot) (As := [.int (v2), .int (v3)]) (rest := []) (n := 2) hc (sat_Model_spot (eG E) _ _ _ _ hw) cv_Model_96 (gw_of (tw_5 (List.mem_of_getElem? (i := 196) rfl)) rfl) rfl ⟨by decide, by decide⟩ (by decide) (by decide) rfl (by simp [cat_rf, cat_i, cat_l]) d_Model_copy_17 (fun r0 h3 hw => ?_)
    obtain ⟨r4, rfl, hw⟩ := hw
    refine V_wide (cs' := 0) (sl' := 0) (by decide) (by decide) ?_
    refine V_st (st' := [.int (r4)]) rfl ?_
    refine V_istore (i := 5) (lv' := [(5, .int (r4)), (4, .int (r2)), (0, va_rf (some v0)), (1, .int (v1)), (2, .int (v2)), (3, .int (v3))]) hc d_Model_copy_20 (by decide) rfl ?_
    refine V_aload_n hc 2 d_Model_copy_22 rfl rfl ?_
    obtain ⟨q5, hw⟩ := hw
    refine V_get (v := va_rf (mm_P h3 v0 0)) hc gf_Model_9 rfl q5 rfl d_Model_copy_23 ?_
    refine V_iload hc 0 d_Model_copy_26 rfl ?_
    refine V_aload_n hc 2 d_Model_copy_28 rfl rfl ?_
    refine V_get (v := va_rf (mm_P h3 v0 0)) hc gf_Model_9 rfl q5 rfl d_Model_copy_29 ?_
    refine V_iload hc 1 d_Model_copy_32 rfl ?_
    obtain ⟨a6, q7, hw⟩ := hw
    obtain ⟨q8, hw⟩ := hw
    obtain ⟨q9, hw⟩ := hw
    refine V_zald hc q7 q8 q9 d_Model_copy_34 ?_
    obtain ⟨q10, hw⟩ := hw
    obtain ⟨q11, hw⟩ := hw
    obtain ⟨h12, eq_h12⟩ : ∃ x, x = mm_uI h3 a6 (Int32.toNatClampNeg (r4)) (vp_nar .boolean (mm_I h3 a6 (Int32.toNatClampNeg (r2)))) := ⟨_, rfl⟩
    replace hw := hw _ eq_h12
    refine V_zast hc q7 q8 q10 q11 d_Model_copy_35 ?_
    rw [← eq_h12]
    refine V_aload_n hc 2 d_Model_copy_36 rfl rfl ?_
    obtain ⟨q13, hw⟩ := hw
    refine V_get (v := va_rf (mm_P h12 v0 0)) hc gf_Model_9 rfl q13 rfl d_Model_copy_37 ?_
    refine V_iload hc 1 d_Model_copy_40 rfl ?_
    obtain ⟨a14, q15, hw⟩ := hw
    obtain ⟨q16, hw⟩ := hw
    obtain ⟨q17, hw⟩ := hw
    refine V_zald hc q15 q16 q17 d_Model_copy_42 ?_
    refine V_if_ne (tgt := 49) hc d_Model_copy_43 (by decide) (fun hq1 => ?_) (fun hq1 => ?_)
    · replace hw := hw.1 hq1
      refine V_aload_n hc 2 d_Model_copy_49 rfl rfl ?_
      refine V_get (v := va_rf (mm_P h12 v0 1)) hc gf_Model_13 rfl q13 rfl d_Model_copy_50 ?_
      refine V_iload hc 0 d_Model_copy_53 rfl ?_
      refine V_aload_n hc 2 d_Model_copy_55 rfl rfl ?_
      refine V_get (v := va_rf (mm_P h12 v0 1)) hc gf_Model_13 rfl q13 rfl d_Model_copy_56 ?_
      refine V_iload hc 1 d_Model_copy_59 rfl ?_
      obtain ⟨a18, q19, hw⟩ := hw
      obtain ⟨q20, hw⟩ := hw
      obtain ⟨q21, hw⟩ := hw
      refine V_iald hc q19 q20 q21 d_Model_copy_61 ?_
      obtain ⟨q22, hw⟩ := hw
      obtain ⟨q23, hw⟩ := hw
      obtain ⟨h24, eq_h24⟩ : ∃ x, x = mm_uI h12 a18 (Int32.toNatClampNeg (r4)) (mm_I h12 a18 (Int32.toNatClampNeg (r2))) := ⟨_, rfl⟩
      replace hw := hw _ eq_h24
      refine V_iast hc q19 q20 q22 q23 d_Model_copy_62 ?_
      rw [← eq_h24]
      refine V_aload_n hc 2 d_Model_copy_63 rfl rfl ?_
      obtain ⟨q25, hw⟩ := hw
      refine V_get (v := va_rf (mm_P h24 v0 2)) hc gf_Model_17 rfl q25 rfl d_Model_copy_64 ?_
      refine V_iload hc 0 d_Model_copy_67 rfl ?_
      refine V_aload_n hc 2 d_Model_copy_69 rfl rfl ?_
      refine V_get (v := va_rf (mm_P h24 v0 2)) hc gf_Model_17 rfl q25 rfl d_Model_copy_70 ?_
      refine V_iload hc 1 d_Model_copy_73 rfl ?_
      obtain ⟨a26, q27, hw⟩ := hw
      obtain ⟨q28, hw⟩ := hw
      obtain ⟨q29, hw⟩ := hw
      refine V_iald hc q27 q28 q29 d_Model_copy_75 ?_
      obtain ⟨q30, hw⟩ := hw
      obtain ⟨q31, hw⟩ := hw
      obtain ⟨h32, eq_h32⟩ : ∃ x, x = mm_uI h24 a26 (Int32.toNatClampNeg (r4)) (mm_I h24 a26 (Int32.toNatClampNeg (r2))) := ⟨_, rfl⟩
      replace hw := hw _ eq_h32
      refine V_iast hc q27 q28 q30 q31 d_Model_copy_76 ?_
      rw [← eq_h32]
      refine V_aload_n hc 2 d_Model_copy_77 rfl rfl ?_
      obtain ⟨q33, hw⟩ := hw
      refine V_get (v := va_rf (mm_P h32 v0 3)) hc gf_Model_20 rfl q33 rfl d_Model_copy_78 ?_
      refine V_iload hc 0 d_Model_copy_81 rfl ?_
      refine V_aload_n hc 2 d_Model_copy_83 rfl rfl ?_
      refine V_get (v := va_rf (mm_P h32 v0 3)) hc gf_Model_20 rfl q33 rfl d_Model_copy_84 ?_
      refine V_iload hc 1 d_Model_copy_87 rfl ?_
      obtain ⟨a34, q35, hw⟩ := hw
      obtain ⟨q36, hw⟩ := hw
      obtain ⟨q37, hw⟩ := hw
      refine V_iald hc q35 q36 q37 d_Model_copy_89 ?_
      obtain ⟨q38, hw⟩ := hw
      obtain ⟨q39, hw⟩ := hw
      obtain ⟨h40, eq_h40⟩ : ∃ x, x = mm_uI h32 a34 (Int32.toNatClampNeg (r4)) (mm_I h32 a34 (Int32.toNatClampNeg (r2))) := ⟨_, rfl⟩
      replace hw := hw _ eq_h40
      refine V_iast hc q35 q36 q38 q39 d_Model_copy_90 ?_
      rw [← eq_h40]
      refine V_aload_n hc 2 d_Model_copy_91 rfl rfl ?_
      obtain ⟨q41, hw⟩ := hw
      refine V_get (v := va_rf (mm_P h40 v0 4)) hc gf_Model_23 rfl q41 rfl d_Model_copy_92 ?_
      refine V_iload hc 0 d_Model_copy_95 rfl ?_
      refine V_aload_n hc 2 d_Model_copy_97 rfl rfl ?_
      refine V_get (v := va_rf (mm_P h40 v0 4)) hc gf_Model_23 rfl q41 rfl d_Model_copy_98 ?_
      refine V_iload hc 1 d_Model_copy_101 rfl ?_
      obtain ⟨a42, q43, hw⟩ := hw
      obtain ⟨q44, hw⟩ := hw
      obtain ⟨q45, hw⟩ := hw
      refine V_iald hc q43 q44 q45 d_Model_copy_103 ?_
      obtain ⟨q46, hw⟩ := hw
      obtain ⟨q47, hw⟩ := hw
      obtain ⟨h48, eq_h48⟩ : ∃ x, x = mm_uI h40 a42 (Int32.toNatClampNeg (r4)) (mm_I h40 a42 (Int32.toNatClampNeg (r2))) := ⟨_, rfl⟩
      replace hw := hw _ eq_h48
      refine V_iast hc q43 q44 q46 q47 d_Model_copy_104 ?_
      rw [← eq_h48]
      refine V_aload_n hc 2 d_Model_copy_105 rfl rfl ?_
      obtain ⟨q49, hw⟩ := hw
      refine V_get (v := va_rf (mm_P h48 v0 5)) hc gf_Model_26 rfl q49 rfl d_Model_copy_106 ?_
      refine V_iload hc 0 d_Model_copy_109 rfl ?_
      refine V_aload_n hc 2 d_Model_copy_111 rfl rfl ?_
      refine V_get (v := va_rf (mm_P h48 v0 5)) hc gf_Model_26 rfl q49 rfl d_Model_copy_112 ?_
      refine V_iload hc 1 d_Model_copy_115 rfl ?_
      obtain ⟨a50, q51, hw⟩ := hw
      obtain ⟨q52, hw⟩ := hw
      obtain ⟨q53, hw⟩ := hw
      refine V_iald hc q51 q52 q53 d_Model_copy_117 ?_
      obtain ⟨q54, hw⟩ := hw
      obtain ⟨q55, hw⟩ := hw
      obtain ⟨h56, eq_h56⟩ : ∃ x, x = mm_uI h48 a50 (Int32.toNatClampNeg (r4)) (mm_I h48 a50 (Int32.toNatClampNeg (r2))) := ⟨_, rfl⟩
      replace hw := hw _ eq_h56
      refine V_iast hc q51 q52 q54 q55 d_Model_copy_118 ?_
      rw [← eq_h56]
      refine V_aload_n hc 2 d_Model_copy_119 rfl rfl ?_
      obtain ⟨q57, hw⟩ := hw
      refine V_get (v := va_rf (mm_P h56 v0 6)) hc gf_Model_29 rfl q57 rfl d_Model_copy_120 ?_
      refine V_iload hc 0 d_Model_copy_123 rfl ?_
      refine V_aload_n hc 2 d_Model_copy_125 rfl rfl ?_
      refine V_get (v := va_rf (mm_P h56 v0 6)) hc gf_Model_29 rfl q57 rfl d_Model_copy_126 ?_
      refine V_iload hc 1 d_Model_copy_129 rfl ?_
      obtain ⟨a58, q59, hw⟩ := hw
      obtain ⟨q60, hw⟩ := hw
      obtain ⟨q61, hw⟩ := hw
      refine V_iald hc q59 q60 q61 d_Model_copy_131 ?_
      obtain ⟨q62, hw⟩ := hw
      obtain ⟨q63, hw⟩ := hw
      obtain ⟨h64, eq_h64⟩ : ∃ x, x = mm_uI h56 a58 (Int32.toNatClampNeg (r4)) (mm_I h56 a58 (Int32.toNatClampNeg (r2))) := ⟨_, rfl⟩
      replace hw := hw _ eq_h64
      refine V_iast hc q59 q60 q62 q63 d_Model_copy_132 ?_
      rw [← eq_h64]
      refine V_iconst (v := 0) hc d_Model_copy_133 (by decide) ?_
      refine V_istore (i := 6) (lv' := [(6, .int (0)), (5, .int (r4)), (4, .int (r2)), (0, va_rf (some v0)), (1, .int (v1)), (2, .int (v2)), (3, .int (v3))]) hc d_Model_copy_134 (by decide) rfl ?_
      refine V_sub (lv' := [(0, va_rf (some v0)), (1, .int (v1)), (2, .int (v2)), (3, .int (v3)), (4, .int (r2)), (5, .int (r4)), (6, .int (0))]) [3, 4, 5, 6, 2, 1, 0] rfl ?_
      exact vl_Model_copy_136 hc hq X2 hX2 _ _ _ _ _ _ _ _ hw
    · replace hw := hw.2 hq1
      refine V_goto (tgt := 229) hc d_Model_copy_46 (by decide) ?_
      refine V_sub (lv' := [(0, va_rf (some v0)), (1, .int (v1)), (2, .int (v2)), (3, .int (v3))]) [2, 3, 4, 5] rfl ?_
      exact vb_Model_copy_229 hc hq X2 hX2 _ _ _ _ _ hw
theorem vl_Model_copy_2 {E : mm_E} {Z : mm_M → Prop} (hc : cx E "EpochServerModel" c_Model_copy 7 none rm_Model_copy) (hq : cq E rm_Model_copy (pV Z))  (v0 : Nat) (v1 : Int32) (v2 : Int32) (v3 : Int32) (h : mm_M) (hw : lp_Model_copy_2  (mm_ge (eG E)) v0 v1 v2 v3 h Z) : V E 7 0 0 h 2 [(0, va_rf (some v0)), (1, .int (v1)), (2, .int (v2)), (3, .int (v3))] [] :=
  hw (fun v0 v1 v2 v3 h => V E 7 0 0 h 2 [(0, va_rf (some v0)), (1, .int (v1)), (2, .int (v2)), (3, .int (v3))] []) (fun v0 v1 v2 v3 h hb => vb_Model_copy_2 hc hq  _ (fun _ _ _ _ _ q => q) v0 v1 v2 v3 h hb)
set_option maxRecDepth 100000 in
set_option maxHeartbeats 4000000 in
theorem vb_Model_copy_0 {E : mm_E} {Z : mm_M → Prop} (hc : cx E "EpochServerModel" c_Model_copy 7 none rm_Model_copy) (hq : cq E rm_Model_copy (pV Z))  (v0 : Nat) (v1 : Int32) (v2 : Int32) (h : mm_M) (hw : wq_Model_copy_0  (mm_ge (eG E)) v0 v1 v2 h Z) : V E 7 0 0 h 0 [(0, va_rf (some v0)), (1, .int (v1)), (2, .int (v2))] [] := by
  unfold wq_Model_copy_0 at hw
  refine V_iconst (v := 0) hc d_Model_copy_0 (by decide) ?_
  refine V_istore_n (i := 3) (lv' := [(3, .int (0)), (0, va_rf (some v0)), (1, .int (v1)), (2, .int (v2))]) hc d_Model_copy_1 rfl (by decide) rfl ?_
  refine V_sub (lv' := [(0, va_rf (some v0)), (1, .int (v1)), (2, .int (v2)), (3, .int (0))]) [1, 2, 3, 0] rfl ?_
  exact vl_Model_copy_2 hc hq  _ _ _ _ _ hw
def wq_Model_copy (ge : Nat → Nat) (v0 : Nat) (v1 : Int32) (v2 : Int32) (h : mm_M) (Z : mm_M → Prop) : Prop := wq_Model_copy_0 ge v0 v1 v2 h Z
theorem sat_Model_copy (G : mm_G) (v0 : Nat) (v1 : Int32) (v2 : Int32) (h : mm_M) (Z : mm_M → Prop) (hw : wq_Model_copy (mm_ge G) v0 v1 v2 h Z) : mm_Met G y_Model_copy c_Model_copy 7 none rm_Model_copy [va_rf (some v0), .int (v1), .int (v2)] h (pV Z) := by
  refine mm_intro (own := "EpochServerModel") (by decide) rfl (by simp [lg_sl, cat_rf, cat_i, cat_l]) (fun E e1 hc hq hi => ?_)
  subst e1
  have e2 : lv_args 0 [va_rf (some v0), .int (v1), .int (v2)] = [(0, va_rf (some v0)), (1, .int (v1)), (2, .int (v2))] := by simp [lv_args, cat_rf, cat_i, cat_l]
  rw [e2]
  refine V_sub (lv' := [(0, va_rf (some v0)), (1, .int (v1)), (2, .int (v2))]) [0, 1, 2] rfl ?_
  exact vb_Model_copy_0 hc hq v0 v1 v2 h hw
