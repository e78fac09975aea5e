/-! Journal.<init>()V -/
abbrev rm_Journal_init : Room := { frames := 2, cells := 43, slots := 1301, locals := 44 }
def wq_Journal_init_25 (X25 : Nat → Nat → Int32 → mm_M → Prop) (ge : Nat → Nat) (g : Nat) (v0 : Nat) (v1 : Int32) (h : mm_M) (Z : mm_M → Prop) : Prop :=
  g ≤ 20 ∧ (((20 : Int32) ≤ (v1 : Int32) → Z h) ∧ (¬ (20 : Int32) ≤ (v1 : Int32) → mm_k h (v0) = kd_Journal ∧ ∀ h2 : mm_M, h2 = mm_nw h 13 0 → ∀ a3 : Nat, a3 = mm_z h → wq_Tree_init ge (a3) h2 (fun h4 : mm_M => ∃ a6, mm_P h v0 0 = some a6 ∧ mm_k h4 (a6) = ka_Tree ∧ vp_in (v1) (mm_n h4 a6) ∧ ge 0 ≤ a6 ∧ (∀ b12, some a3 = some b12 → mm_k h4 b12 = kd_Tree) ∧ ∀ h13 : mm_M, h13 = mm_uP h4 a6 (Int32.toNatClampNeg (v1)) (some a3) → X25 (g + 1) (v0) (v1 + 1) h13)))
def lp_Journal_init_25  (ge : Nat → Nat) (g : Nat) (v0 : Nat) (v1 : Int32) (h : mm_M) (Z : mm_M → Prop) : Prop :=
  ∀ X25 : Nat → Nat → Int32 → mm_M → Prop, (∀ (g : Nat) (v0 : Nat) (v1 : Int32) (h : mm_M), wq_Journal_init_25 X25 ge g v0 v1 h Z → X25 g v0 v1 h) → X25 g v0 v1 h
def wq_Journal_init_0  (ge : Nat → Nat) (v0 : Nat) (h : mm_M) (Z : mm_M → Prop) : Prop :=
  ∀ h1 : mm_M, h1 = mm_nw h 105 20 → ∀ a2 : Nat, a2 = mm_z h → mm_k h1 (v0) = kd_Journal ∧ ge 0 ≤ v0 ∧ ∀ h5 : mm_M, h5 = mm_uP h1 (v0) 0 (some a2) → mm_k h5 (v0) = kd_Journal ∧ ge 0 ≤ v0 ∧ ∀ h8 : mm_M, h8 = mm_uI h5 (v0) 1 (0) → mm_k h8 (v0) = kd_Journal ∧ ge 0 ≤ v0 ∧ ∀ h11 : mm_M, h11 = mm_uI h8 (v0) 2 (0) → lp_Journal_init_25  ge (0) (v0) (0) h11 Z
set_option maxRecDepth 100000 in
set_option maxHeartbeats 4000000 in
theorem vb_Journal_init_25 {E : mm_E} {Z : mm_M → Prop} (hc : cx E "EpochServer$Journal" c_Journal_init 2 none rm_Journal_init) (hq : cq E rm_Journal_init (pV Z)) (hin : ci E) (X25 : Nat → Nat → Int32 → mm_M → Prop) (hX25 : ∀ (g : Nat) (v0 : Nat) (v1 : Int32) (h : mm_M), X25 g v0 v1 h → V E 2 (1 + g * 2) (20 + g * 61) h 25 [(0, va_rf (some v0)), (1, .int (v1))] []) (g : Nat) (v0 : Nat) (v1 : Int32) (h : mm_M) (hw : wq_Journal_init_25 X25 (mm_ge (eG E)) g v0 v1 h Z) : V E 2 (1 + g * 2) (20 + g * 61) h 25 [(0, va_rf (some v0)), (1, .int (v1))] [] := by
  unfold wq_Journal_init_25 at hw
  obtain ⟨hg, hw⟩ := hw
  refine V_iload_n hc 1 d_Journal_init_25 rfl rfl ?_
  refine V_bipush (v := 20) hc d_Journal_init_26 (by decide) ?_
  refine V_icmp_ge (tgt := 50) hc d_Journal_init_28 (by decide) (fun hq1 => ?_) (fun hq1 => ?_)
  · replace hw := hw.1 hq1
    exact V_vret hc hq ⟨rfl, hw⟩ (by show (1 + g * 2) + 0 ≤ 43; omega) (by show (20 + g * 61) + 0 ≤ 1301; omega) d_Journal_init_50
  · replace hw := hw.2 hq1
    refine V_aload_n hc 0 d_Journal_init_31 rfl rfl ?_
    obtain ⟨q1, hw⟩ := hw
    refine V_get (v := va_rf (mm_P h v0 0)) hc gf_Journal_11 rfl q1 rfl d_Journal_init_32 ?_
    refine V_iload_n hc 1 d_Journal_init_35 rfl rfl ?_
    obtain ⟨h2, eq_h2⟩ : ∃ x, x = mm_nw h 13 0 := ⟨_, rfl⟩
    replace hw := hw _ eq_h2
    refine V_new (cn := 12) (N := 1) (r := (R_Tree, T_Tree, 1, t_Tree)) hc rfl rfl (gw_of (tw_1 (List.mem_of_getElem? (i := 190) rfl)) rfl) (gw_of (tw_1 (List.mem_of_getElem? (i := 173) rfl)) rfl) (gw_of (tw_1 (List.mem_of_getElem? (i := 7) rfl)) rfl) (by decide) (by show (1 + g * 2) + 1 ≤ 43; omega) (by show (20 + g * 61) + 1 ≤ 1301; omega) d_Journal_init_36 ?_
    rw [← eq_h2]
    obtain ⟨a3, eq_a3⟩ : ∃ x, x = mm_z h := ⟨_, rfl⟩
    replace hw := hw _ eq_a3
    rw [← eq_a3]
    refine V_wide (cs' := (2 + g * 2)) (sl' := (21 + g * 61)) (by omega) (by omega) ?_
    refine V_dup hc d_Journal_init_39 (cat_rf _) ?_
    refine V_callIN (rm' := rm_Tree_init) (As := []) (rest := [va_rf (some a3), .int (v1), va_rf (mm_P h v0 0)]) (n := 0) hc rfl (sat_Tree_init (eG E) _ _ _ hw) cv_Journal_24 (gw_of (tw_1 (List.mem_of_getElem? (i := 175) rfl)) rfl) rfl rfl ⟨by decide, by decide⟩ (by show (2 + g * 2) + 1 ≤ 43; omega) (by show (21 + g * 61) + 60 ≤ 1301; omega) rfl (by simp [cat_rf, cat_i, cat_l]) d_Journal_init_40 (fun r0 h4 hw => ?_)
    obtain ⟨rfl, hw⟩ := hw
    refine V_wide (cs' := (3 + g * 2)) (sl' := (81 + g * 61)) (by show (2 + g * 2) + 1 ≤ _; omega) (by show (21 + g * 61) + 60 ≤ _; omega) ?_
    refine V_st (st' := [va_rf (some a3), .int (v1), va_rf (mm_P h v0 0)]) rfl ?_
    obtain ⟨a6, q7, hw⟩ := hw
    obtain ⟨q8, hw⟩ := hw
    obtain ⟨q9, hw⟩ := hw
    obtain ⟨q10, hw⟩ := hw
    obtain ⟨q11, hw⟩ := hw
    obtain ⟨h13, eq_h13⟩ : ∃ x, x = mm_uP h4 a6 (Int32.toNatClampNeg (v1)) (some a3) := ⟨_, rfl⟩
    replace hw := hw _ eq_h13
    refine V_aast (t := 5) (cn := 12) (C := R_Tree) hc rfl rfl q7 q8 q9 q11 q10 d_Journal_init_43 ?_
    rw [← eq_h13]
    refine V_iinc (v := v1 + 1) (lv' := [(1, .int (v1 + 1)), (0, va_rf (some v0))]) hc 1 d_Journal_init_44 rfl rfl (by decide) rfl ?_
    refine V_goto (tgt := 25) hc d_Journal_init_47 (by decide) ?_
    refine V_sub (lv' := [(0, va_rf (some v0)), (1, .int (v1 + 1))]) [1, 0] rfl ?_
    refine V_wide (cs' := (1 + (g + 1) * 2)) (sl' := (20 + (g + 1) * 61)) (by omega) (by omega) ?_
    exact hX25 _ _ _ _ hw
theorem vl_Journal_init_25 {E : mm_E} {Z : mm_M → Prop} (hc : cx E "EpochServer$Journal" c_Journal_init 2 none rm_Journal_init) (hq : cq E rm_Journal_init (pV Z)) (hin : ci E)  (g : Nat) (v0 : Nat) (v1 : Int32) (h : mm_M) (hw : lp_Journal_init_25  (mm_ge (eG E)) g v0 v1 h Z) : V E 2 (1 + g * 2) (20 + g * 61) h 25 [(0, va_rf (some v0)), (1, .int (v1))] [] :=
  hw (fun g v0 v1 h => V E 2 (1 + g * 2) (20 + g * 61) h 25 [(0, va_rf (some v0)), (1, .int (v1))] []) (fun g v0 v1 h hb => vb_Journal_init_25 hc hq hin  _ (fun _ _ _ _ q => q) g v0 v1 h hb)
set_option maxRecDepth 100000 in
set_option maxHeartbeats 4000000 in
theorem vb_Journal_init_0 {E : mm_E} {Z : mm_M → Prop} (hc : cx E "EpochServer$Journal" c_Journal_init 2 none rm_Journal_init) (hq : cq E rm_Journal_init (pV Z)) (hin : ci E)  (v0 : Nat) (h : mm_M) (hw : wq_Journal_init_0  (mm_ge (eG E)) v0 h Z) : V E 2 0 0 h 0 [(0, va_rf (some v0))] [] := by
  unfold wq_Journal_init_0 at hw
  refine V_aload_n hc 0 d_Journal_init_0 rfl rfl ?_
  refine V_objInit hc rfl (gw_of (tw_1 (List.mem_of_getElem? (i := 189) rfl)) rfl) (gw_of (tw_1 (List.mem_of_getElem? (i := 27) rfl)) rfl) (gw_of (tw_1 (List.mem_of_getElem? (i := 28) rfl)) rfl) d_Journal_init_1 (by decide) (by decide) ?_
  refine V_aload_n hc 0 d_Journal_init_4 rfl rfl ?_
  refine V_bipush (v := 20) hc d_Journal_init_5 (by decide) ?_
  obtain ⟨h1, eq_h1⟩ : ∃ x, x = mm_nw h 105 20 := ⟨_, rfl⟩
  replace hw := hw _ eq_h1
  refine V_anew (t := 5) (N := 20) (C := "EpochServer$Tree") hc rfl (by decide) (gw_of (tw_1 (List.mem_of_getElem? (i := 190) rfl)) rfl) (by decide) (by decide) (by decide) (by decide) (by decide) d_Journal_init_7 ?_
  rw [← eq_h1]
  obtain ⟨a2, eq_a2⟩ : ∃ x, x = mm_z h := ⟨_, rfl⟩
  replace hw := hw _ eq_a2
  rw [← eq_a2]
  refine V_wide (cs' := 1) (sl' := 20) (by decide) (by decide) ?_
  obtain ⟨q3, hw⟩ := hw
  obtain ⟨q4, hw⟩ := hw
  obtain ⟨h5, eq_h5⟩ : ∃ x, x = mm_uP h1 (v0) 0 (some a2) := ⟨_, rfl⟩
  replace hw := hw _ eq_h5
  refine V_putF (h' := h5) hc hin rfl (fun r hr => by cases hr; rfl) gf_Journal_11 rfl rfl q3 q4 (by rw [eq_h5]; exact mm_Up_P _ _ _ _) (by rw [eq_h5]; exact up_vP rfl) (pa_nar _) (pa_fit _) d_Journal_init_10 ?_
  refine V_aload_n hc 0 d_Journal_init_13 rfl rfl ?_
  refine V_iconst (v := 0) hc d_Journal_init_14 (by decide) ?_
  obtain ⟨q6, hw⟩ := hw
  obtain ⟨q7, hw⟩ := hw
  obtain ⟨h8, eq_h8⟩ : ∃ x, x = mm_uI h5 (v0) 1 (0) := ⟨_, rfl⟩
  replace hw := hw _ eq_h8
  refine V_put (h' := h8) hc gf_Journal_17 rfl rfl q6 q7 (by rw [eq_h8]; exact mm_Up_I _ _ _ _) (by rw [eq_h8]; exact up_vI rfl) (vp_nar_int _) rfl d_Journal_init_15 ?_
  refine V_aload_n hc 0 d_Journal_init_18 rfl rfl ?_
  refine V_iconst (v := 0) hc d_Journal_init_19 (by decide) ?_
  obtain ⟨q9, hw⟩ := hw
  obtain ⟨q10, hw⟩ := hw
  obtain ⟨h11, eq_h11⟩ : ∃ x, x = mm_uI h8 (v0) 2 (0) := ⟨_, rfl⟩
  replace hw := hw _ eq_h11
  refine V_put (h' := h11) hc gf_Journal_21 rfl rfl q9 q10 (by rw [eq_h11]; exact mm_Up_I _ _ _ _) (by rw [eq_h11]; exact up_vI rfl) (vp_nar_int _) rfl d_Journal_init_20 ?_
  refine V_iconst (v := 0) hc d_Journal_init_23 (by decide) ?_
  refine V_istore_n (i := 1) (lv' := [(1, .int (0)), (0, va_rf (some v0))]) hc d_Journal_init_24 rfl (by decide) rfl ?_
  refine V_sub (lv' := [(0, va_rf (some v0)), (1, .int (0))]) [1, 0] rfl ?_
  refine V_wide (cs' := (1 + 0 * 2)) (sl' := (20 + 0 * 61)) (by omega) (by omega) ?_
  exact vl_Journal_init_25 hc hq hin  _ _ _ _ hw
def wq_Journal_init (ge : Nat → Nat) (v0 : Nat) (h : mm_M) (Z : mm_M → Prop) : Prop := wq_Journal_init_0 ge v0 h Z
theorem sat_Journal_init (G : mm_G) (v0 : Nat) (h : mm_M) (Z : mm_M → Prop) (hw : wq_Journal_init (mm_ge G) v0 h Z) : mm_Met G y_Journal_init c_Journal_init 2 none rm_Journal_init [va_rf (some v0)] h (pV Z) := by
  refine mm_intro (own := "EpochServer$Journal") (by decide) rfl (by simp [lg_sl, cat_rf, cat_i, cat_l]) (fun E e1 hc hq hi => ?_)
  subst e1
  have e2 : lv_args 0 [va_rf (some v0)] = [(0, va_rf (some v0))] := by simp [lv_args, cat_rf, cat_i, cat_l]
  rw [e2]
  refine V_sub (lv' := [(0, va_rf (some v0))]) [0] rfl ?_
  exact vb_Journal_init_0 hc hq (hi rfl) v0 h hw
/-! Journal.size()I -/
abbrev rm_Journal_size : Room := { frames := 0, cells := 0, slots := 0, locals := 0 }
def wq_Journal_size_0  (ge : Nat → Nat) (v0 : Nat) (h : mm_M) (Z : Int32 → mm_M → Prop) : Prop :=
  mm_k h (v0) = kd_Journal ∧ Z (mm_I h v0 2) h
set_option maxRecDepth 100000 in
set_option maxHeartbeats 4000000 in
theorem vb_Journal_size_0 {E : mm_E} {Z : Int32 → mm_M → Prop} (hc : cx E "EpochServer$Journal" c_Journal_size 1 (some (.int)) rm_Journal_size) (hq : cq E rm_Journal_size (pI Z))  (v0 : Nat) (h : mm_M) (hw : wq_Journal_size_0  (mm_ge (eG E)) v0 h Z) : V E 1 0 0 h 0 [(0, va_rf (some v0))] [] := by
  unfold wq_Journal_size_0 at hw
  refine V_aload_n hc 0 d_Journal_size_0 rfl rfl ?_
  obtain ⟨q1, hw⟩ := hw
  refine V_get (v := .int (mm_I h v0 2)) hc gf_Journal_21 rfl q1 rfl d_Journal_size_1 ?_
  exact V_iret hc hq ⟨_, rfl, hw⟩ (by decide) (by decide) d_Journal_size_4
def wq_Journal_size (ge : Nat → Nat) (v0 : Nat) (h : mm_M) (Z : Int32 → mm_M → Prop) : Prop := wq_Journal_size_0 ge v0 h Z
theorem sat_Journal_size (G : mm_G) (v0 : Nat) (h : mm_M) (Z : Int32 → mm_M → Prop) (hw : wq_Journal_size (mm_ge G) v0 h Z) : mm_Met G y_Journal_size c_Journal_size 1 (some (.int)) rm_Journal_size [va_rf (some v0)] h (pI Z) := by
  refine mm_intro (own := "EpochServer$Journal") (by decide) rfl (by simp [lg_sl, cat_rf, cat_i, cat_l]) (fun E e1 hc hq hi => ?_)
  subst e1
  have e2 : lv_args 0 [va_rf (some v0)] = [(0, va_rf (some v0))] := by simp [lv_args, cat_rf, cat_i, cat_l]
  rw [e2]
  refine V_sub (lv' := [(0, va_rf (some v0))]) [0] rfl ?_
  exact vb_Journal_size_0 hc hq v0 h hw
/-! Tree.takeOver(LEpochServer$Tree;)V -/
abbrev rm_Tree_takeOver : Room := { frames := 0, cells := 0, slots := 0, locals := 0 }
def wq_Tree_takeOver_2 (X2 : Nat → Option Nat → Int32 → mm_M → Prop) (ge : Nat → Nat) (v0 : Nat) (v1 : Option Nat) (v2 : Int32) (h : mm_M) (Z : mm_M → Prop) : Prop :=
  (((60 : Int32) ≤ (v2 : Int32) → Z h) ∧ (¬ (60 : Int32) ≤ (v2 : Int32) → mm_k h (v0) = kd_Tree ∧ ∃ a2, v1 = some a2 ∧ mm_k h (a2) = kd_Tree ∧ ∃ a5, mm_P h a2 0 = some a5 ∧ mm_k h (a5) = ka_Node ∧ vp_in (v2) (mm_n h a5) ∧ ∃ a9, mm_P h v0 0 = some a9 ∧ mm_k h (a9) = ka_Node ∧ vp_in (v2) (mm_n h a9) ∧ ge 0 ≤ a9 ∧ (∀ b15, mm_P h a5 (Int32.toNatClampNeg (v2)) = some b15 → mm_k h b15 = kd_Node) ∧ ∀ h16 : mm_M, h16 = mm_uP h a9 (Int32.toNatClampNeg (v2)) (mm_P h a5 (Int32.toNatClampNeg (v2))) → X2 (v0) (v1) (v2 + 1) h16))
def lp_Tree_takeOver_2  (ge : Nat → Nat) (v0 : Nat) (v1 : Option Nat) (v2 : Int32) (h : mm_M) (Z : mm_M → Prop) : Prop :=
  ∀ X2 : Nat → Option Nat → Int32 → mm_M → Prop, (∀ (v0 : Nat) (v1 : Option Nat) (v2 : Int32) (h : mm_M), wq_Tree_takeOver_2 X2 ge v0 v1 v2 h Z → X2 v0 v1 v2 h) → X2 v0 v1 v2 h
def wq_Tree_takeOver_0  (ge : Nat → Nat) (v0 : Nat) (v1 : Option Nat) (h : mm_M) (Z : mm_M → Prop) : Prop :=
  lp_Tree_takeOver_2  ge (v0) (v1) (0) h Z
set_option maxRecDepth 100000 in
set_option maxHeartbeats 4000000 in
theorem vb_Tree_takeOver_2 {E : mm_E} {Z : mm_M → Prop} (hc : cx E "EpochServer$Tree" c_Tree_takeOver 3 none rm_Tree_takeOver) (hq : cq E rm_Tree_takeOver (pV Z)) (X2 : Nat → Option Nat → Int32 → mm_M → Prop) (hX2 : ∀ (v0 : Nat) (v1 : Option Nat) (v2 : Int32) (h : mm_M), X2 v0 v1 v2 h → V E 3 0 0 h 2 [(0, va_rf (some v0)), (1, va_rf (v1)), (2, .int (v2))] []) (v0 : Nat) (v1 : Option Nat) (v2 : Int32) (h : mm_M) (hw : wq_Tree_takeOver_2 X2 (mm_ge (eG E)) v0 v1 v2 h Z) : V E 3 0 0 h 2 [(0, va_rf (some v0)), (1, va_rf (v1)), (2, .int (v2))] [] := by
  unfold wq_Tree_takeOver_2 at hw
  refine V_iload_n hc 2 d_Tree_takeOver_2 rfl rfl ?_
  refine V_bipush (v := 60) hc d_Tree_takeOver_3 (by decide) ?_
  refine V_icmp_ge (tgt := 26) hc d_Tree_takeOver_5 (by decide) (fun hq1 => ?_) (fun hq1 => ?_)
  · replace hw := hw.1 hq1
    exact V_vret hc hq ⟨rfl, hw⟩ (by decide) (by decide) d_Tree_takeOver_26
  · replace hw := hw.2 hq1
    refine V_aload_n hc 0 d_Tree_takeOver_8 rfl rfl ?_
    obtain ⟨q1, hw⟩ := hw
    refine V_get (v := va_rf (mm_P h v0 0)) hc gf_Tree_11 rfl q1 rfl d_Tree_takeOver_9 ?_
    refine V_iload_n hc 2 d_Tree_takeOver_12 rfl rfl ?_
    refine V_aload_n hc 1 d_Tree_takeOver_13 rfl rfl ?_
    obtain ⟨a2, q3, hw⟩ := hw
    obtain ⟨q4, hw⟩ := hw
    refine V_get (v := va_rf (mm_P h a2 0)) hc gf_Tree_11 q3 q4 rfl d_Tree_takeOver_14 ?_
    refine V_iload_n hc 2 d_Tree_takeOver_17 rfl rfl ?_
    obtain ⟨a5, q6, hw⟩ := hw
    obtain ⟨q7, hw⟩ := hw
    obtain ⟨q8, hw⟩ := hw
    refine V_aald (t := 4) (ty := .object "EpochServer$Node") hc rfl rfl rfl q6 q7 q8 d_Tree_takeOver_18 ?_
    obtain ⟨a9, q10, hw⟩ := hw
    obtain ⟨q11, hw⟩ := hw
    obtain ⟨q12, hw⟩ := hw
    obtain ⟨q13, hw⟩ := hw
    obtain ⟨q14, hw⟩ := hw
    obtain ⟨h16, eq_h16⟩ : ∃ x, x = mm_uP h a9 (Int32.toNatClampNeg (v2)) (mm_P h a5 (Int32.toNatClampNeg (v2))) := ⟨_, rfl⟩
    replace hw := hw _ eq_h16
    refine V_aast (t := 4) (cn := 7) (C := R_Node) hc rfl rfl q10 q11 q12 q14 q13 d_Tree_takeOver_19 ?_
    rw [← eq_h16]
    refine V_iinc (v := v2 + 1) (lv' := [(2, .int (v2 + 1)), (0, va_rf (some v0)), (1, va_rf (v1))]) hc 2 d_Tree_takeOver_20 rfl rfl (by decide) (by simp [cat_rf, cat_i, cat_l]) ?_
    refine V_goto (tgt := 2) hc d_Tree_takeOver_23 (by decide) ?_
    refine V_sub (lv' := [(0, va_rf (some v0)), (1, va_rf (v1)), (2, .int (v2 + 1))]) [1, 2, 0] rfl ?_
    exact hX2 _ _ _ _ hw
theorem vl_Tree_takeOver_2 {E : mm_E} {Z : mm_M → Prop} (hc : cx E "EpochServer$Tree" c_Tree_takeOver 3 none rm_Tree_takeOver) (hq : cq E rm_Tree_takeOver (pV Z))  (v0 : Nat) (v1 : Option Nat) (v2 : Int32) (h : mm_M) (hw : lp_Tree_takeOver_2  (mm_ge (eG E)) v0 v1 v2 h Z) : V E 3 0 0 h 2 [(0, va_rf (some v0)), (1, va_rf (v1)), (2, .int (v2))] [] :=
  hw (fun v0 v1 v2 h => V E 3 0 0 h 2 [(0, va_rf (some v0)), (1, va_rf (v1)), (2, .int (v2))] []) (fun v0 v1 v2 h hb => vb_Tree_takeOver_2 hc hq  _ (fun _ _ _ _ q => q) v0 v1 v2 h hb)
set_option maxRecDepth 100000 in
set_option maxHeartbeats 4000000 in
theorem vb_Tree_takeOver_0 {E : mm_E} {Z : mm_M → Prop} (hc : cx E "EpochServer$Tree" c_Tree_takeOver 3 none rm_Tree_takeOver) (hq : cq E rm_Tree_takeOver (pV Z))  (v0 : Nat) (v1 : Option Nat) (h : mm_M) (hw : wq_Tree_takeOver_0  (mm_ge (eG E)) v0 v1 h Z) : V E 3 0 0 h 0 [(0, va_rf (some v0)), (1, va_rf (v1))] [] := by
  unfold wq_Tree_takeOver_0 at hw
  refine V_iconst (v := 0) hc d_Tree_takeOver_0 (by decide) ?_
  refine V_istore_n (i := 2) (lv' := [(2, .int (0)), (0, va_rf (some v0)), (1, va_rf (v1))]) hc d_Tree_takeOver_1 rfl (by decide) (by simp [cat_rf, cat_i, cat_l]) ?_
  refine V_sub (lv' := [(0, va_rf (some v0)), (1, va_rf (v1)), (2, .int (0))]) [1, 2, 0] rfl ?_
  exact vl_Tree_takeOver_2 hc hq  _ _ _ _ hw
def wq_Tree_takeOver (ge : Nat → Nat) (v0 : Nat) (v1 : Option Nat) (h : mm_M) (Z : mm_M → Prop) : Prop := wq_Tree_takeOver_0 ge v0 v1 h Z
theorem sat_Tree_takeOver (G : mm_G) (v0 : Nat) (v1 : Option Nat) (h : mm_M) (Z : mm_M → Prop) (hw : wq_Tree_takeOver (mm_ge G) v0 v1 h Z) : mm_Met G y_Tree_takeOver c_Tree_takeOver 3 none rm_Tree_takeOver [va_rf (some v0), va_rf (v1)] h (pV Z) := by
  refine mm_intro (own := "EpochServer$Tree") (by decide) rfl (by simp [lg_sl, cat_rf, cat_i, cat_l]) (fun E e1 hc hq hi => ?_)
  subst e1
  have e2 : lv_args 0 [va_rf (some v0), va_rf (v1)] = [(0, va_rf (some v0)), (1, va_rf (v1))] := by simp [lv_args, cat_rf, cat_i, cat_l]
  rw [e2]
  refine V_sub (lv' := [(0, va_rf (some v0)), (1, va_rf (v1))]) [0, 1] rfl ?_
  exact vb_Tree_takeOver_0 hc hq v0 v1 h hw
/-! Journal.keep(LEpochServer$Tree;)V -/
abbrev rm_Journal_keep : Room := { frames := 1, cells := 0, slots := 0, locals := 24 }
def wq_Journal_keep_35  (ge : Nat → Nat) (v0 : Nat) (s0 : Option Nat) (s1 : Int32) (h : mm_M) (Z : mm_M → Prop) : Prop :=
  ∃ a1, s0 = some a1 ∧ mm_k h (a1) = kd_Journal ∧ ge 0 ≤ a1 ∧ ∀ h5 : mm_M, h5 = mm_uI h (a1) 1 (s1) → mm_k h5 (v0) = kd_Journal ∧ ge 0 ≤ v0 ∧ ∀ h8 : mm_M, h8 = mm_uI h5 (v0) 2 (if (20 : Int32) < ((mm_I h5 v0 2) + (1 : Int32)) then (20) else ((mm_I h5 v0 2) + (1 : Int32))) → Z h8
def wq_Journal_keep_0  (ge : Nat → Nat) (v0 : Nat) (v1 : Option Nat) (h : mm_M) (Z : mm_M → Prop) : Prop :=
  mm_k h (v0) = kd_Journal ∧ ∃ a2, mm_P h v0 0 = some a2 ∧ mm_k h (a2) = ka_Tree ∧ vp_in (mm_I h v0 1) (mm_n h a2) ∧ ∃ a6, mm_P h a2 (Int32.toNatClampNeg (mm_I h v0 1)) = some a6 ∧ mm_k h (a6) = kd_Tree ∧ wq_Tree_takeOver ge (a6) (v1) h (fun h9 : mm_M => mm_k h9 (v0) = kd_Journal ∧ (((20 : Int32) ≤ ((mm_I h9 v0 1) + (1 : Int32) : Int32) → wq_Journal_keep_35  ge (v0) (some v0) (0) h9 Z) ∧ (¬ (20 : Int32) ≤ ((mm_I h9 v0 1) + (1 : Int32) : Int32) → wq_Journal_keep_35  ge (v0) (some v0) ((mm_I h9 v0 1) + (1 : Int32)) h9 Z)))
set_option maxRecDepth 100000 in
set_option maxHeartbeats 4000000 in
theorem vb_Journal_keep_35 {E : mm_E} {Z : mm_M → Prop} (hc : cx E "EpochServer$Journal" c_Journal_keep 2 none rm_Journal_keep) (hq : cq E rm_Journal_keep (pV Z))  (v0 : Nat) (s0 : Option Nat) (s1 : Int32) (h : mm_M) (hw : wq_Journal_keep_35  (mm_ge (eG E)) v0 s0 s1 h Z) : V E 2 0 0 h 35 [(0, va_rf (some v0))] [.int (s1), va_rf (s0)] := by
  unfold wq_Journal_keep_35 at hw
  obtain ⟨a1, q2, hw⟩ := hw
  obtain ⟨q3, hw⟩ := hw
  obtain ⟨q4, hw⟩ := hw
  obtain ⟨h5, eq_h5⟩ : ∃ x, x = mm_uI h (a1) 1 (s1) := ⟨_, rfl⟩
  replace hw := hw _ eq_h5
  refine V_put (h' := h5) hc gf_Journal_17 rfl q2 q3 q4 (by rw [eq_h5]; exact mm_Up_I _ _ _ _) (by rw [eq_h5]; exact up_vI rfl) (vp_nar_int _) rfl d_Journal_keep_35 ?_
  refine V_aload_n hc 0 d_Journal_keep_38 rfl rfl ?_
  refine V_aload_n hc 0 d_Journal_keep_39 rfl rfl ?_
  obtain ⟨q6, hw⟩ := hw
  refine V_get (v := .int (mm_I h5 v0 2)) hc gf_Journal_21 rfl q6 rfl d_Journal_keep_40 ?_
  refine V_iconst (v := 1) hc d_Journal_keep_43 (by decide) ?_
  refine V_iadd hc d_Journal_keep_44 ?_
  refine V_bipush (v := 20) hc d_Journal_keep_45 (by decide) ?_
  refine V_mmin hc cv_Journal_29 (by simp [cat_rf, cat_i, cat_l]) (by decide) (by decide) (by decide) (by decide) d_Journal_keep_47 ?_
  obtain ⟨q7, hw⟩ := hw
  obtain ⟨h8, eq_h8⟩ : ∃ x, x = mm_uI h5 (v0) 2 (if (20 : Int32) < ((mm_I h5 v0 2) + (1 : Int32)) then (20) else ((mm_I h5 v0 2) + (1 : Int32))) := ⟨_, rfl⟩
  replace hw := hw _ eq_h8
  refine V_put (h' := h8) hc gf_Journal_21 rfl rfl q6 q7 (by rw [eq_h8]; exact mm_Up_I _ _ _ _) (by rw [eq_h8]; exact up_vI rfl) (vp_nar_int _) rfl d_Journal_keep_50 ?_
  exact V_vret hc hq ⟨rfl, hw⟩ (by decide) (by decide) d_Journal_keep_53
set_option maxRecDepth 100000 in
set_option maxHeartbeats 4000000 in
theorem vb_Journal_keep_0 {E : mm_E} {Z : mm_M → Prop} (hc : cx E "EpochServer$Journal" c_Journal_keep 2 none rm_Journal_keep) (hq : cq E rm_Journal_keep (pV Z))  (v0 : Nat) (v1 : Option Nat) (h : mm_M) (hw : wq_Journal_keep_0  (mm_ge (eG E)) v0 v1 h Z) : V E 2 0 0 h 0 [(0, va_rf (some v0)), (1, va_rf (v1))] [] := by
  unfold wq_Journal_keep_0 at hw
  refine V_aload_n hc 0 d_Journal_keep_0 rfl rfl ?_
  obtain ⟨q1, hw⟩ := hw
  refine V_get (v := va_rf (mm_P h v0 0)) hc gf_Journal_11 rfl q1 rfl d_Journal_keep_1 ?_
  refine V_aload_n hc 0 d_Journal_keep_4 rfl rfl ?_
  refine V_get (v := .int (mm_I h v0 1)) hc gf_Journal_17 rfl q1 rfl d_Journal_keep_5 ?_
  obtain ⟨a2, q3, hw⟩ := hw
  obtain ⟨q4, hw⟩ := hw
  obtain ⟨q5, hw⟩ := hw
  refine V_aald (t := 5) (ty := .object "EpochServer$Tree") hc rfl rfl rfl q3 q4 q5 d_Journal_keep_8 ?_
  refine V_aload_n hc 1 d_Journal_keep_9 rfl rfl ?_
  obtain ⟨a6, q7, hw⟩ := hw
  obtain ⟨q8, hw⟩ := hw
  refine V_callV (rm' := rm_Tree_takeOver) (As := [va_rf (v1)]) (rest := []) (n := 1) (cn := 12) hc q7 q8 (sat_Tree_takeOver (eG E) _ _ _ _ hw) rfl cv_Journal_25 (gw_of (tw_3 (List.mem_of_getElem? (i := 101) rfl)) rfl) ss_Tree_takeOver rfl ⟨by decide, by decide⟩ (by decide) (by decide) rfl (by simp [cat_rf, cat_i, cat_l]) d_Journal_keep_10 (fun r0 h9 hw => ?_)
  obtain ⟨rfl, hw⟩ := hw
  refine V_wide (cs' := 0) (sl' := 0) (by decide) (by decide) ?_
  refine V_st (st' := []) rfl ?_
  refine V_aload_n hc 0 d_Journal_keep_13 rfl rfl ?_
  refine V_aload_n hc 0 d_Journal_keep_14 rfl rfl ?_
  obtain ⟨q11, hw⟩ := hw
  refine V_get (v := .int (mm_I h9 v0 1)) hc gf_Journal_17 rfl q11 rfl d_Journal_keep_15 ?_
  refine V_iconst (v := 1) hc d_Journal_keep_18 (by decide) ?_
  refine V_iadd hc d_Journal_keep_19 ?_
  refine V_bipush (v := 20) hc d_Journal_keep_20 (by decide) ?_
  refine V_icmp_ge (tgt := 34) hc d_Journal_keep_22 (by decide) (fun hq1 => ?_) (fun hq1 => ?_)
  · replace hw := hw.1 hq1
    refine V_iconst (v := 0) hc d_Journal_keep_34 (by decide) ?_
    refine V_sub (lv' := [(0, va_rf (some v0))]) [0] rfl ?_
    exact vb_Journal_keep_35 hc hq  _ _ _ _ hw
  · replace hw := hw.2 hq1
    refine V_aload_n hc 0 d_Journal_keep_25 rfl rfl ?_
    refine V_get (v := .int (mm_I h9 v0 1)) hc gf_Journal_17 rfl q11 rfl d_Journal_keep_26 ?_
    refine V_iconst (v := 1) hc d_Journal_keep_29 (by decide) ?_
    refine V_iadd hc d_Journal_keep_30 ?_
    refine V_goto (tgt := 35) hc d_Journal_keep_31 (by decide) ?_
    refine V_sub (lv' := [(0, va_rf (some v0))]) [0] rfl ?_
    exact vb_Journal_keep_35 hc hq  _ _ _ _ hw
def wq_Journal_keep (ge : Nat → Nat) (v0 : Nat) (v1 : Option Nat) (h : mm_M) (Z : mm_M → Prop) : Prop := wq_Journal_keep_0 ge v0 v1 h Z
theorem sat_Journal_keep (G : mm_G) (v0 : Nat) (v1 : Option Nat) (h : mm_M) (Z : mm_M → Prop) (hw : wq_Journal_keep (mm_ge G) v0 v1 h Z) : mm_Met G y_Journal_keep c_Journal_keep 2 none rm_Journal_keep [va_rf (some v0), va_rf (v1)] h (pV Z) := by
  refine mm_intro (own := "EpochServer$Journal") (by decide) rfl (by simp [lg_sl, cat_rf, cat_i, cat_l]) (fun E e1 hc hq hi => ?_)
  subst e1
  have e2 : lv_args 0 [va_rf (some v0), va_rf (v1)] = [(0, va_rf (some v0)), (1, va_rf (v1))] := by simp [lv_args, cat_rf, cat_i, cat_l]
  rw [e2]
  refine V_sub (lv' := [(0, va_rf (some v0)), (1, va_rf (v1))]) [0, 1] rfl ?_
  exact vb_Journal_keep_0 hc hq v0 v1 h hw
/-! Journal.before(I)LEpochServer$Tree; -/
abbrev rm_Journal_before : Room := { frames := 0, cells := 0, slots := 0, locals := 0 }
def wq_Journal_before_13  (ge : Nat → Nat)  (h : mm_M) (Z : Option Nat → mm_M → Prop) : Prop :=
  Z (none) h
def wq_Journal_before_45  (ge : Nat → Nat) (s0 : Option Nat) (s1 : Int32) (h : mm_M) (Z : Option Nat → mm_M → Prop) : Prop :=
  ∃ a1, s0 = some a1 ∧ mm_k h (a1) = ka_Tree ∧ vp_in (s1) (mm_n h a1) ∧ Z (mm_P h a1 (Int32.toNatClampNeg (s1))) h
def wq_Journal_before_0  (ge : Nat → Nat) (v0 : Nat) (v1 : Int32) (h : mm_M) (Z : Option Nat → mm_M → Prop) : Prop :=
  (((v1 : Int32) < (1 : Int32) → wq_Journal_before_13  ge h Z) ∧ (¬ (v1 : Int32) < (1 : Int32) → mm_k h (v0) = kd_Journal ∧ (((v1 : Int32) ≤ (mm_I h v0 2 : Int32) → (((mm_I h v0 1 : Int32) < (v1 : Int32) → wq_Journal_before_45  ge (mm_P h v0 0) (((mm_I h v0 1) - (v1)) + (20 : Int32)) h Z) ∧ (¬ (mm_I h v0 1 : Int32) < (v1 : Int32) → wq_Journal_before_45  ge (mm_P h v0 0) ((mm_I h v0 1) - (v1)) h Z))) ∧ (¬ (v1 : Int32) ≤ (mm_I h v0 2 : Int32) → wq_Journal_before_13  ge h Z))))
set_option maxRecDepth 100000 in
set_option maxHeartbeats 4000000 in
theorem vb_Journal_before_13 {E : mm_E} {Z : Option Nat → mm_M → Prop} (hc : cx E "EpochServer$Journal" c_Journal_before 2 (some ((.object "EpochServer$Tree"))) rm_Journal_before) (hq : cq E rm_Journal_before (pP Z))   (h : mm_M) (hw : wq_Journal_before_13  (mm_ge (eG E))  h Z) : V E 2 0 0 h 13 [] [] := by
  unfold wq_Journal_before_13 at hw
  refine V_null hc d_Journal_before_13 ?_
  exact V_aret hc hq (by first | exact Or.inl ⟨_, rfl⟩ | exact Or.inr ⟨_, rfl⟩) ⟨_, rfl, hw⟩ (by decide) (by decide) d_Journal_before_14
set_option maxRecDepth 100000 in
set_option maxHeartbeats 4000000 in
theorem vb_Journal_before_45 {E : mm_E} {Z : Option Nat → mm_M → Prop} (hc : cx E "EpochServer$Journal" c_Journal_before 2 (some ((.object "EpochServer$Tree"))) rm_Journal_before) (hq : cq E rm_Journal_before (pP Z))  (s0 : Option Nat) (s1 : Int32) (h : mm_M) (hw : wq_Journal_before_45  (mm_ge (eG E)) s0 s1 h Z) : V E 2 0 0 h 45 [] [.int (s1), va_rf (s0)] := by
  unfold wq_Journal_before_45 at hw
  obtain ⟨a1, q2, hw⟩ := hw
  obtain ⟨q3, hw⟩ := hw
  obtain ⟨q4, hw⟩ := hw
  refine V_aald (t := 5) (ty := .object "EpochServer$Tree") hc rfl rfl rfl q2 q3 q4 d_Journal_before_45 ?_
  exact V_aret hc hq (by first | exact Or.inl ⟨_, rfl⟩ | exact Or.inr ⟨_, rfl⟩) ⟨_, rfl, hw⟩ (by decide) (by decide) d_Journal_before_46
set_option maxRecDepth 100000 in
set_option maxHeartbeats 4000000 in
theorem vb_Journal_before_0 {E : mm_E} {Z : Option Nat → mm_M → Prop} (hc : cx E "EpochServer$Journal" c_Journal_before 2 (some ((.object "EpochServer$Tree"))) rm_Journal_before) (hq : cq E rm_Journal_before (pP Z))  (v0 : Nat) (v1 : Int32) (h : mm_M) (hw : wq_Journal_before_0  (mm_ge (eG E)) v0 v1 h Z) : V E 2 0 0 h 0 [(0, va_rf (some v0)), (1, .int (v1))] [] := by
  unfold wq_Journal_before_0 at hw
  refine V_iload_n hc 1 d_Journal_before_0 rfl rfl ?_
  refine V_iconst (v := 1) hc d_Journal_before_1 (by decide) ?_
  refine V_icmp_lt (tgt := 13) hc d_Journal_before_2 (by decide) (fun hq1 => ?_) (fun hq1 => ?_)
  · replace hw := hw.1 hq1
    refine V_sub (lv' := []) [] rfl ?_
    exact vb_Journal_before_13 hc hq  _ hw
  · replace hw := hw.2 hq1
    refine V_iload_n hc 1 d_Journal_before_5 rfl rfl ?_
    refine V_aload_n hc 0 d_Journal_before_6 rfl rfl ?_
    obtain ⟨q1, hw⟩ := hw
    refine V_get (v := .int (mm_I h v0 2)) hc gf_Journal_21 rfl q1 rfl d_Journal_before_7 ?_
    refine V_icmp_le (tgt := 15) hc d_Journal_before_10 (by decide) (fun hq1 => ?_) (fun hq1 => ?_)
    · replace hw := hw.1 hq1
      refine V_aload_n hc 0 d_Journal_before_15 rfl rfl ?_
      refine V_get (v := va_rf (mm_P h v0 0)) hc gf_Journal_11 rfl q1 rfl d_Journal_before_16 ?_
      refine V_aload_n hc 0 d_Journal_before_19 rfl rfl ?_
      refine V_get (v := .int (mm_I h v0 1)) hc gf_Journal_17 rfl q1 rfl d_Journal_before_20 ?_
      refine V_iload_n hc 1 d_Journal_before_23 rfl rfl ?_
      refine V_icmp_lt (tgt := 36) hc d_Journal_before_24 (by decide) (fun hq1 => ?_) (fun hq1 => ?_)
      · replace hw := hw.1 hq1
        refine V_aload_n hc 0 d_Journal_before_36 rfl rfl ?_
        refine V_get (v := .int (mm_I h v0 1)) hc gf_Journal_17 rfl q1 rfl d_Journal_before_37 ?_
        refine V_iload_n hc 1 d_Journal_before_40 rfl rfl ?_
        refine V_isub hc d_Journal_before_41 ?_
        refine V_bipush (v := 20) hc d_Journal_before_42 (by decide) ?_
        refine V_iadd hc d_Journal_before_44 ?_
        refine V_sub (lv' := []) [] rfl ?_
        exact vb_Journal_before_45 hc hq  _ _ _ hw
      · replace hw := hw.2 hq1
        refine V_aload_n hc 0 d_Journal_before_27 rfl rfl ?_
        refine V_get (v := .int (mm_I h v0 1)) hc gf_Journal_17 rfl q1 rfl d_Journal_before_28 ?_
        refine V_iload_n hc 1 d_Journal_before_31 rfl rfl ?_
        refine V_isub hc d_Journal_before_32 ?_
        refine V_goto (tgt := 45) hc d_Journal_before_33 (by decide) ?_
        refine V_sub (lv' := []) [] rfl ?_
        exact vb_Journal_before_45 hc hq  _ _ _ hw
    · replace hw := hw.2 hq1
      refine V_sub (lv' := []) [] rfl ?_
      exact vb_Journal_before_13 hc hq  _ hw
def wq_Journal_before (ge : Nat → Nat) (v0 : Nat) (v1 : Int32) (h : mm_M) (Z : Option Nat → mm_M → Prop) : Prop := wq_Journal_before_0 ge v0 v1 h Z
theorem sat_Journal_before (G : mm_G) (v0 : Nat) (v1 : Int32) (h : mm_M) (Z : Option Nat → mm_M → Prop) (hw : wq_Journal_before (mm_ge G) v0 v1 h Z) : mm_Met G y_Journal_before c_Journal_before 2 (some ((.object "EpochServer$Tree"))) rm_Journal_before [va_rf (some v0), .int (v1)] h (pP Z) := by
  refine mm_intro (own := "EpochServer$Journal") (by decide) rfl (by simp [lg_sl, cat_rf, cat_i, cat_l]) (fun E e1 hc hq hi => ?_)
  subst e1
  have e2 : lv_args 0 [va_rf (some v0), .int (v1)] = [(0, va_rf (some v0)), (1, .int (v1))] := by simp [lv_args, cat_rf, cat_i, cat_l]
  rw [e2]
  refine V_sub (lv' := [(0, va_rf (some v0)), (1, .int (v1))]) [0, 1] rfl ?_
  exact vb_Journal_before_0 hc hq v0 v1 h hw
/-! Journal.clear()V -/
abbrev rm_Journal_clear : Room := { frames := 0, cells := 0, slots := 0, locals := 0 }
def wq_Journal_clear_0  (ge : Nat → Nat) (v0 : Nat) (h : mm_M) (Z : mm_M → Prop) : Prop :=
  mm_k h (v0) = kd_Journal ∧ ge 0 ≤ v0 ∧ ∀ h3 : mm_M, h3 = mm_uI h (v0) 2 (0) → Z h3
set_option maxRecDepth 100000 in
set_option maxHeartbeats 4000000 in
theorem vb_Journal_clear_0 {E : mm_E} {Z : mm_M → Prop} (hc : cx E "EpochServer$Journal" c_Journal_clear 1 none rm_Journal_clear) (hq : cq E rm_Journal_clear (pV Z))  (v0 : Nat) (h : mm_M) (hw : wq_Journal_clear_0  (mm_ge (eG E)) v0 h Z) : V E 1 0 0 h 0 [(0, va_rf (some v0))] [] := by
  unfold wq_Journal_clear_0 at hw
  refine V_aload_n hc 0 d_Journal_clear_0 rfl rfl ?_
  refine V_iconst (v := 0) hc d_Journal_clear_1 (by decide) ?_
  obtain ⟨q1, hw⟩ := hw
  obtain ⟨q2, hw⟩ := hw
  obtain ⟨h3, eq_h3⟩ : ∃ x, x = mm_uI h (v0) 2 (0) := ⟨_, rfl⟩
  replace hw := hw _ eq_h3
  refine V_put (h' := h3) hc gf_Journal_21 rfl rfl q1 q2 (by rw [eq_h3]; exact mm_Up_I _ _ _ _) (by rw [eq_h3]; exact up_vI rfl) (vp_nar_int _) rfl d_Journal_clear_2 ?_
  exact V_vret hc hq ⟨rfl, hw⟩ (by decide) (by decide) d_Journal_clear_5
def wq_Journal_clear (ge : Nat → Nat) (v0 : Nat) (h : mm_M) (Z : mm_M → Prop) : Prop := wq_Journal_clear_0 ge v0 h Z
theorem sat_Journal_clear (G : mm_G) (v0 : Nat) (h : mm_M) (Z : mm_M → Prop) (hw : wq_Journal_clear (mm_ge G) v0 h Z) : mm_Met G y_Journal_clear c_Journal_clear 1 none rm_Journal_clear [va_rf (some v0)] h (pV Z) := by
  refine mm_intro (own := "EpochServer$Journal") (by decide) rfl (by simp [lg_sl, cat_rf, cat_i, cat_l]) (fun E e1 hc hq hi => ?_)
  subst e1
  have e2 : lv_args 0 [va_rf (some v0)] = [(0, va_rf (some v0))] := by simp [lv_args, cat_rf, cat_i, cat_l]
  rw [e2]
  refine V_sub (lv' := [(0, va_rf (some v0))]) [0] rfl ?_
  exact vb_Journal_clear_0 hc hq v0 h hw
/-! Node.<init>(II[BIII[B)V -/
abbrev rm_Node_init : Room := { frames := 1, cells := 0, slots := 0, locals := 24 }
def wq_Node_init_0  (ge : Nat → Nat) (v0 : Nat) (v1 : Int32) (v2 : Int32) (v3 : Option Nat) (v4 : Int32) (v5 : Int32) (v6 : Int32) (v7 : Option Nat) (h : mm_M) (Z : mm_M → Prop) : Prop :=
  mm_k h (v0) = kd_Node ∧ ge 0 ≤ v0 ∧ ∀ h3 : mm_M, h3 = mm_uI h (v0) 0 (v1) → mm_k h3 (v0) = kd_Node ∧ ge 0 ≤ v0 ∧ ∀ h6 : mm_M, h6 = mm_uI h3 (v0) 1 (v2) → mm_k h6 (v0) = kd_Node ∧ ge 0 ≤ v0 ∧ ∀ h9 : mm_M, h9 = mm_uP h6 (v0) 2 (v3) → mm_k h9 (v0) = kd_Node ∧ ge 0 ≤ v0 ∧ ∀ h12 : mm_M, h12 = mm_uI h9 (v0) 3 (v4) → mm_k h12 (v0) = kd_Node ∧ ge 0 ≤ v0 ∧ ∀ h15 : mm_M, h15 = mm_uI h12 (v0) 4 (v5) → mm_k h15 (v0) = kd_Node ∧ ge 0 ≤ v0 ∧ ∀ h18 : mm_M, h18 = mm_uI h15 (v0) 5 (v6) → mm_k h18 (v0) = kd_Node ∧ ge 0 ≤ v0 ∧ ∀ h21 : mm_M, h21 = mm_uP h18 (v0) 6 (v7) → Z h21
set_option maxRecDepth 100000 in
set_option maxHeartbeats 4000000 in
theorem vb_Node_init_0 {E : mm_E} {Z : mm_M → Prop} (hc : cx E "EpochServer$Node" c_Node_init 8 none rm_Node_init) (hq : cq E rm_Node_init (pV Z)) (hin : ci E)  (v0 : Nat) (v1 : Int32) (v2 : Int32) (v3 : Option Nat) (v4 : Int32) (v5 : Int32) (v6 : Int32) (v7 : Option Nat) (h : mm_M) (hw : wq_Node_init_0  (mm_ge (eG E)) v0 v1 v2 v3 v4 v5 v6 v7 h Z) : V E 8 0 0 h 0 [(0, va_rf (some v0)), (1, .int (v1)), (2, .int (v2)), (3, va_rf (v3)), (4, .int (v4)), (5, .int (v5)), (6, .int (v6)), (7, va_rf (v7))] [] := by
  unfold wq_Node_init_0 at hw
  refine V_aload_n hc 0 d_Node_init_0 rfl rfl ?_
  refine V_objInit hc rfl (gw_of (tw_2 (List.mem_of_getElem? (i := 61) rfl)) rfl) (gw_of (tw_1 (List.mem_of_getElem? (i := 27) rfl)) rfl) (gw_of (tw_1 (List.mem_of_getElem? (i := 28) rfl)) rfl) d_Node_init_1 (by decide) (by decide) ?_
  refine V_aload_n hc 0 d_Node_init_4 rfl rfl ?_
  refine V_iload_n hc 1 d_Node_init_5 rfl rfl ?_
  obtain ⟨q1, hw⟩ := hw
  obtain ⟨q2, hw⟩ := hw
  obtain ⟨h3, eq_h3⟩ : ∃ x, x = mm_uI h (v0) 0 (v1) := ⟨_, rfl⟩
  replace hw := hw _ eq_h3
  refine V_putF (h' := h3) hc hin rfl (fun r hr => by cases hr; rfl) gf_Node_9 rfl rfl q1 q2 (by rw [eq_h3]; exact mm_Up_I _ _ _ _) (by rw [eq_h3]; exact up_vI rfl) (vp_nar_int _) rfl d_Node_init_6 ?_
  refine V_aload_n hc 0 d_Node_init_9 rfl rfl ?_
  refine V_iload_n hc 2 d_Node_init_10 rfl rfl ?_
  obtain ⟨q4, hw⟩ := hw
  obtain ⟨q5, hw⟩ := hw
  obtain ⟨h6, eq_h6⟩ : ∃ x, x = mm_uI h3 (v0) 1 (v2) := ⟨_, rfl⟩
  replace hw := hw _ eq_h6
  refine V_putF (h' := h6) hc hin rfl (fun r hr => by cases hr; rfl) gf_Node_15 rfl rfl q4 q5 (by rw [eq_h6]; exact mm_Up_I _ _ _ _) (by rw [eq_h6]; exact up_vI rfl) (vp_nar_int _) rfl d_Node_init_11 ?_
  refine V_aload_n hc 0 d_Node_init_14 rfl rfl ?_
  refine V_aload_n hc 3 d_Node_init_15 rfl rfl ?_
  obtain ⟨q7, hw⟩ := hw
  obtain ⟨q8, hw⟩ := hw
  obtain ⟨h9, eq_h9⟩ : ∃ x, x = mm_uP h6 (v0) 2 (v3) := ⟨_, rfl⟩
  replace hw := hw _ eq_h9
  refine V_putF (h' := h9) hc hin rfl (fun r hr => by cases hr; rfl) gf_Node_18 rfl rfl q7 q8 (by rw [eq_h9]; exact mm_Up_P _ _ _ _) (by rw [eq_h9]; exact up_vP rfl) (pa_nar _) (pa_fit _) d_Node_init_16 ?_
  refine V_aload_n hc 0 d_Node_init_19 rfl rfl ?_
  refine V_iload hc 4 d_Node_init_20 rfl ?_
  obtain ⟨q10, hw⟩ := hw
  obtain ⟨q11, hw⟩ := hw
  obtain ⟨h12, eq_h12⟩ : ∃ x, x = mm_uI h9 (v0) 3 (v4) := ⟨_, rfl⟩
  replace hw := hw _ eq_h12
  refine V_putF (h' := h12) hc hin rfl (fun r hr => by cases hr; rfl) gf_Node_22 rfl rfl q10 q11 (by rw [eq_h12]; exact mm_Up_I _ _ _ _) (by rw [eq_h12]; exact up_vI rfl) (vp_nar_int _) rfl d_Node_init_22 ?_
  refine V_aload_n hc 0 d_Node_init_25 rfl rfl ?_
  refine V_iload hc 5 d_Node_init_26 rfl ?_
  obtain ⟨q13, hw⟩ := hw
  obtain ⟨q14, hw⟩ := hw
  obtain ⟨h15, eq_h15⟩ : ∃ x, x = mm_uI h12 (v0) 4 (v5) := ⟨_, rfl⟩
  replace hw := hw _ eq_h15
  refine V_putF (h' := h15) hc hin rfl (fun r hr => by cases hr; rfl) gf_Node_25 rfl rfl q13 q14 (by rw [eq_h15]; exact mm_Up_I _ _ _ _) (by rw [eq_h15]; exact up_vI rfl) (vp_nar_int _) rfl d_Node_init_28 ?_
  refine V_aload_n hc 0 d_Node_init_31 rfl rfl ?_
  refine V_iload hc 6 d_Node_init_32 rfl ?_
  obtain ⟨q16, hw⟩ := hw
  obtain ⟨q17, hw⟩ := hw
  obtain ⟨h18, eq_h18⟩ : ∃ x, x = mm_uI h15 (v0) 5 (v6) := ⟨_, rfl⟩
  replace hw := hw _ eq_h18
  refine V_putF (h' := h18) hc hin rfl (fun r hr => by cases hr; rfl) gf_Node_28 rfl rfl q16 q17 (by rw [eq_h18]; exact mm_Up_I _ _ _ _) (by rw [eq_h18]; exact up_vI rfl) (vp_nar_int _) rfl d_Node_init_34 ?_
  refine V_aload_n hc 0 d_Node_init_37 rfl rfl ?_
  refine V_aload hc 7 d_Node_init_38 rfl ?_
  obtain ⟨q19, hw⟩ := hw
  obtain ⟨q20, hw⟩ := hw
  obtain ⟨h21, eq_h21⟩ : ∃ x, x = mm_uP h18 (v0) 6 (v7) := ⟨_, rfl⟩
  replace hw := hw _ eq_h21
  refine V_putF (h' := h21) hc hin rfl (fun r hr => by cases hr; rfl) gf_Node_31 rfl rfl q19 q20 (by rw [eq_h21]; exact mm_Up_P _ _ _ _) (by rw [eq_h21]; exact up_vP rfl) (pa_nar _) (pa_fit _) d_Node_init_40 ?_
  exact V_vret hc hq ⟨rfl, hw⟩ (by decide) (by decide) d_Node_init_43
def wq_Node_init (ge : Nat → Nat) (v0 : Nat) (v1 : Int32) (v2 : Int32) (v3 : Option Nat) (v4 : Int32) (v5 : Int32) (v6 : Int32) (v7 : Option Nat) (h : mm_M) (Z : mm_M → Prop) : Prop := wq_Node_init_0 ge v0 v1 v2 v3 v4 v5 v6 v7 h Z
theorem sat_Node_init (G : mm_G) (v0 : Nat) (v1 : Int32) (v2 : Int32) (v3 : Option Nat) (v4 : Int32) (v5 : Int32) (v6 : Int32) (v7 : Option Nat) (h : mm_M) (Z : mm_M → Prop) (hw : wq_Node_init (mm_ge G) v0 v1 v2 v3 v4 v5 v6 v7 h Z) : mm_Met G y_Node_init c_Node_init 8 none rm_Node_init [va_rf (some v0), .int (v1), .int (v2), va_rf (v3), .int (v4), .int (v5), .int (v6), va_rf (v7)] h (pV Z) := by
  refine mm_intro (own := "EpochServer$Node") (by decide) rfl (by simp [lg_sl, cat_rf, cat_i, cat_l]) (fun E e1 hc hq hi => ?_)
  subst e1
  have e2 : lv_args 0 [va_rf (some v0), .int (v1), .int (v2), va_rf (v3), .int (v4), .int (v5), .int (v6), va_rf (v7)] = [(0, va_rf (some v0)), (1, .int (v1)), (2, .int (v2)), (3, va_rf (v3)), (4, .int (v4)), (5, .int (v5)), (6, .int (v6)), (7, va_rf (v7))] := by simp [lv_args, cat_rf, cat_i, cat_l]
  rw [e2]
  refine V_sub (lv' := [(0, va_rf (some v0)), (1, .int (v1)), (2, .int (v2)), (3, va_rf (v3)), (4, .int (v4)), (5, .int (v5)), (6, .int (v6)), (7, va_rf (v7))]) [0, 1, 2, 3, 4, 5, 6, 7] rfl ?_
  exact vb_Node_init_0 hc hq (hi rfl) v0 v1 v2 v3 v4 v5 v6 v7 h hw
/-! Node.withData([BI)LEpochServer$Node; -/
abbrev rm_Node_withData : Room := { frames := 2, cells := 1, slots := 7, locals := 51 }
def wq_Node_withData_0  (ge : Nat → Nat) (v0 : Nat) (v1 : Option Nat) (v2 : Int32) (h : mm_M) (Z : Option Nat → mm_M → Prop) : Prop :=
  ∀ h1 : mm_M, h1 = mm_nw h 8 0 → ∀ a2 : Nat, a2 = mm_z h → mm_k h1 (v0) = kd_Node ∧ wq_Node_init ge (a2) (mm_I h1 v0 0) (mm_I h1 v0 1) (mm_P h1 v0 2) (mm_I h1 v0 3) ((mm_I h1 v0 4) + (1 : Int32)) (v2) (v1) h1 (fun h4 : mm_M => Z (some a2) h4)
set_option maxRecDepth 100000 in
set_option maxHeartbeats 4000000 in
theorem vb_Node_withData_0 {E : mm_E} {Z : Option Nat → mm_M → Prop} (hc : cx E "EpochServer$Node" c_Node_withData 3 (some ((.object "EpochServer$Node"))) rm_Node_withData) (hq : cq E rm_Node_withData (pP Z))  (v0 : Nat) (v1 : Option Nat) (v2 : Int32) (h : mm_M) (hw : wq_Node_withData_0  (mm_ge (eG E)) v0 v1 v2 h Z) : V E 3 0 0 h 0 [(0, va_rf (some v0)), (1, va_rf (v1)), (2, .int (v2))] [] := by
  unfold wq_Node_withData_0 at hw
  obtain ⟨h1, eq_h1⟩ : ∃ x, x = mm_nw h 8 0 := ⟨_, rfl⟩
  replace hw := hw _ eq_h1
  refine V_new (cn := 7) (N := 7) (r := (R_Node, T_Node, 7, t_Node)) hc rfl rfl (gw_of (tw_3 (List.mem_of_getElem? (i := 115) rfl)) rfl) (gw_of (tw_2 (List.mem_of_getElem? (i := 52) rfl)) rfl) (gw_of (tw_1 (List.mem_of_getElem? (i := 13) rfl)) rfl) (by decide) (by decide) (by decide) d_Node_withData_0 ?_
  rw [← eq_h1]
  obtain ⟨a2, eq_a2⟩ : ∃ x, x = mm_z h := ⟨_, rfl⟩
  replace hw := hw _ eq_a2
  rw [← eq_a2]
  refine V_wide (cs' := 1) (sl' := 7) (by decide) (by decide) ?_
  refine V_dup hc d_Node_withData_3 (cat_rf _) ?_
  refine V_aload_n hc 0 d_Node_withData_4 rfl rfl ?_
  obtain ⟨q3, hw⟩ := hw
  refine V_get (v := .int (mm_I h1 v0 0)) hc gf_Node_9 rfl q3 rfl d_Node_withData_5 ?_
  refine V_aload_n hc 0 d_Node_withData_8 rfl rfl ?_
  refine V_get (v := .int (mm_I h1 v0 1)) hc gf_Node_15 rfl q3 rfl d_Node_withData_9 ?_
  refine V_aload_n hc 0 d_Node_withData_12 rfl rfl ?_
  refine V_get (v := va_rf (mm_P h1 v0 2)) hc gf_Node_18 rfl q3 rfl d_Node_withData_13 ?_
  refine V_aload_n hc 0 d_Node_withData_16 rfl rfl ?_
  refine V_get (v := .int (mm_I h1 v0 3)) hc gf_Node_22 rfl q3 rfl d_Node_withData_17 ?_
  refine V_aload_n hc 0 d_Node_withData_20 rfl rfl ?_
  refine V_get (v := .int (mm_I h1 v0 4)) hc gf_Node_25 rfl q3 rfl d_Node_withData_21 ?_
  refine V_iconst (v := 1) hc d_Node_withData_24 (by decide) ?_
  refine V_iadd hc d_Node_withData_25 ?_
  refine V_iload_n hc 2 d_Node_withData_26 rfl rfl ?_
  refine V_aload_n hc 1 d_Node_withData_27 rfl rfl ?_
  refine V_callI (rm' := rm_Node_init) (As := [.int (mm_I h1 v0 0), .int (mm_I h1 v0 1), va_rf (mm_P h1 v0 2), .int (mm_I h1 v0 3), .int ((mm_I h1 v0 4) + (1 : Int32)), .int (v2), va_rf (v1)]) (rest := [va_rf (some a2)]) (n := 7) hc rfl (sat_Node_init (eG E) _ _ _ _ _ _ _ _ _ _ hw) cv_Node_34 (gw_of (tw_2 (List.mem_of_getElem? (i := 59) rfl)) rfl) rfl rfl ⟨by decide, by decide⟩ (by decide) (by decide) rfl (by simp [cat_rf, cat_i, cat_l]) d_Node_withData_28 (fun r0 h4 hw => ?_)
  obtain ⟨rfl, hw⟩ := hw
  refine V_wide (cs' := 1) (sl' := 7) (by decide) (by decide) ?_
  refine V_st (st' := [va_rf (some a2)]) rfl ?_
  exact V_aret hc hq (by first | exact Or.inl ⟨_, rfl⟩ | exact Or.inr ⟨_, rfl⟩) ⟨_, rfl, hw⟩ (by decide) (by decide) d_Node_withData_31
def wq_Node_withData (ge : Nat → Nat) (v0 : Nat) (v1 : Option Nat) (v2 : Int32) (h : mm_M) (Z : Option Nat → mm_M → Prop) : Prop := wq_Node_withData_0 ge v0 v1 v2 h Z
theorem sat_Node_withData (G : mm_G) (v0 : Nat) (v1 : Option Nat) (v2 : Int32) (h : mm_M) (Z : Option Nat → mm_M → Prop) (hw : wq_Node_withData (mm_ge G) v0 v1 v2 h Z) : mm_Met G y_Node_withData c_Node_withData 3 (some ((.object "EpochServer$Node"))) rm_Node_withData [va_rf (some v0), va_rf (v1), .int (v2)] h (pP Z) := by
  refine mm_intro (own := "EpochServer$Node") (by decide) rfl (by simp [lg_sl, cat_rf, cat_i, cat_l]) (fun E e1 hc hq hi => ?_)
  subst e1
  have e2 : lv_args 0 [va_rf (some v0), va_rf (v1), .int (v2)] = [(0, va_rf (some v0)), (1, va_rf (v1)), (2, .int (v2))] := by simp [lv_args, cat_rf, cat_i, cat_l]
  rw [e2]
  refine V_sub (lv' := [(0, va_rf (some v0)), (1, va_rf (v1)), (2, .int (v2))]) [0, 1, 2] rfl ?_
  exact vb_Node_withData_0 hc hq v0 v1 v2 h hw
/-! Node.isNamedAs(LEpochServer$Node;)Z -/
abbrev rm_Node_isNamedAs : Room := { frames := 0, cells := 0, slots := 0, locals := 0 }
def wq_Node_isNamedAs_64  (ge : Nat → Nat) (s0 : Int32) (h : mm_M) (Z : Int32 → mm_M → Prop) : Prop :=
  ((s0) = 0 ∨ (s0) = 1) ∧ Z (s0) h
def wq_Node_isNamedAs_63  (ge : Nat → Nat)  (h : mm_M) (Z : Int32 → mm_M → Prop) : Prop :=
  wq_Node_isNamedAs_64  ge (0) h Z
def wq_Node_isNamedAs_41  (ge : Nat → Nat) (v0 : Nat) (v1 : Option Nat) (v2 : Int32) (h : mm_M) (Z : Int32 → mm_M → Prop) : Prop :=
  mm_k h (v0) = kd_Node ∧ ∃ a2, mm_P h v0 2 = some a2 ∧ mm_k h (a2) = ka_B ∧ ((¬ (v2 : Int32) = (Nat.toInt32 (mm_n h a2) : Int32) → wq_Node_isNamedAs_63  ge h Z) ∧ ((v2 : Int32) = (Nat.toInt32 (mm_n h a2) : Int32) → ∃ a5, v1 = some a5 ∧ mm_k h (a5) = kd_Node ∧ ∃ a8, mm_P h a5 2 = some a8 ∧ mm_k h (a8) = ka_B ∧ ((¬ (v2 : Int32) = (Nat.toInt32 (mm_n h a8) : Int32) → wq_Node_isNamedAs_63  ge h Z) ∧ ((v2 : Int32) = (Nat.toInt32 (mm_n h a8) : Int32) → wq_Node_isNamedAs_64  ge (1) h Z))))
def wq_Node_isNamedAs_2 (X2 : Nat → Option Nat → Int32 → mm_M → Prop) (ge : Nat → Nat) (v0 : Nat) (v1 : Option Nat) (v2 : Int32) (h : mm_M) (Z : Int32 → mm_M → Prop) : Prop :=
  mm_k h (v0) = kd_Node ∧ ∃ a2, mm_P h v0 2 = some a2 ∧ mm_k h (a2) = ka_B ∧ (((Nat.toInt32 (mm_n h a2) : Int32) ≤ (v2 : Int32) → wq_Node_isNamedAs_41  ge (v0) (v1) (v2) h Z) ∧ (¬ (Nat.toInt32 (mm_n h a2) : Int32) ≤ (v2 : Int32) → ∃ a5, v1 = some a5 ∧ mm_k h (a5) = kd_Node ∧ ∃ a8, mm_P h a5 2 = some a8 ∧ mm_k h (a8) = ka_B ∧ (((Nat.toInt32 (mm_n h a8) : Int32) ≤ (v2 : Int32) → wq_Node_isNamedAs_41  ge (v0) (v1) (v2) h Z) ∧ (¬ (Nat.toInt32 (mm_n h a8) : Int32) ≤ (v2 : Int32) → vp_in (v2) (mm_n h a2) ∧ vp_in (v2) (mm_n h a8) ∧ ((¬ (mm_I h a2 (Int32.toNatClampNeg (v2)) : Int32) = (mm_I h a8 (Int32.toNatClampNeg (v2)) : Int32) → wq_Node_isNamedAs_41  ge (v0) (v1) (v2) h Z) ∧ ((mm_I h a2 (Int32.toNatClampNeg (v2)) : Int32) = (mm_I h a8 (Int32.toNatClampNeg (v2)) : Int32) → X2 (v0) (v1) (v2 + 1) h))))))
def lp_Node_isNamedAs_2  (ge : Nat → Nat) (v0 : Nat) (v1 : Option Nat) (v2 : Int32) (h : mm_M) (Z : Int32 → mm_M → Prop) : Prop :=
  ∀ X2 : Nat → Option Nat → Int32 → mm_M → Prop, (∀ (v0 : Nat) (v1 : Option Nat) (v2 : Int32) (h : mm_M), wq_Node_isNamedAs_2 X2 ge v0 v1 v2 h Z → X2 v0 v1 v2 h) → X2 v0 v1 v2 h
def wq_Node_isNamedAs_0  (ge : Nat → Nat) (v0 : Nat) (v1 : Option Nat) (h : mm_M) (Z : Int32 → mm_M → Prop) : Prop :=
  lp_Node_isNamedAs_2  ge (v0) (v1) (0) h Z
set_option maxRecDepth 100000 in
set_option maxHeartbeats 4000000 in
theorem vb_Node_isNamedAs_64 {E : mm_E} {Z : Int32 → mm_M → Prop} (hc : cx E "EpochServer$Node" c_Node_isNamedAs 3 (some (.boolean)) rm_Node_isNamedAs) (hq : cq E rm_Node_isNamedAs (pI Z))  (s0 : Int32) (h : mm_M) (hw : wq_Node_isNamedAs_64  (mm_ge (eG E)) s0 h Z) : V E 3 0 0 h 64 [] [.int (s0)] := by
  unfold wq_Node_isNamedAs_64 at hw
  obtain ⟨q1, hw⟩ := hw
  exact V_zret hc hq (zz_nar q1) ⟨_, rfl, hw⟩ (by decide) (by decide) d_Node_isNamedAs_64
set_option maxRecDepth 100000 in
set_option maxHeartbeats 4000000 in
theorem vb_Node_isNamedAs_63 {E : mm_E} {Z : Int32 → mm_M → Prop} (hc : cx E "EpochServer$Node" c_Node_isNamedAs 3 (some (.boolean)) rm_Node_isNamedAs) (hq : cq E rm_Node_isNamedAs (pI Z))   (h : mm_M) (hw : wq_Node_isNamedAs_63  (mm_ge (eG E))  h Z) : V E 3 0 0 h 63 [] [] := by
  unfold wq_Node_isNamedAs_63 at hw
  refine V_iconst (v := 0) hc d_Node_isNamedAs_63 (by decide) ?_
  refine V_sub (lv' := []) [] rfl ?_
  exact vb_Node_isNamedAs_64 hc hq  _ _ hw
set_option maxRecDepth 100000 in
set_option maxHeartbeats 4000000 in
theorem vb_Node_isNamedAs_41 {E : mm_E} {Z : Int32 → mm_M → Prop} (hc : cx E "EpochServer$Node" c_Node_isNamedAs 3 (some (.boolean)) rm_Node_isNamedAs) (hq : cq E rm_Node_isNamedAs (pI Z))  (v0 : Nat) (v1 : Option Nat) (v2 : Int32) (h : mm_M) (hw : wq_Node_isNamedAs_41  (mm_ge (eG E)) v0 v1 v2 h Z) : V E 3 0 0 h 41 [(0, va_rf (some v0)), (1, va_rf (v1)), (2, .int (v2))] [] := by
  unfold wq_Node_isNamedAs_41 at hw
  refine V_iload_n hc 2 d_Node_isNamedAs_41 rfl rfl ?_
  refine V_aload_n hc 0 d_Node_isNamedAs_42 rfl rfl ?_
  obtain ⟨q1, hw⟩ := hw
  refine V_get (v := va_rf (mm_P h v0 2)) hc gf_Node_18 rfl q1 rfl d_Node_isNamedAs_43 ?_
  obtain ⟨a2, q3, hw⟩ := hw
  obtain ⟨q4, hw⟩ := hw
  refine V_alen (t := 1) (ty := .byte) hc rfl q3 q4 d_Node_isNamedAs_46 ?_
  refine V_icmp_ne (tgt := 63) hc d_Node_isNamedAs_47 (by decide) (fun hq1 => ?_) (fun hq1 => ?_)
  · replace hw := hw.1 hq1
    refine V_sub (lv' := []) [] rfl ?_
    exact vb_Node_isNamedAs_63 hc hq  _ hw
  · replace hw := hw.2 hq1
    refine V_iload_n hc 2 d_Node_isNamedAs_50 rfl rfl ?_
    refine V_aload_n hc 1 d_Node_isNamedAs_51 rfl rfl ?_
    obtain ⟨a5, q6, hw⟩ := hw
    obtain ⟨q7, hw⟩ := hw
    refine V_get (v := va_rf (mm_P h a5 2)) hc gf_Node_18 q6 q7 rfl d_Node_isNamedAs_52 ?_
    obtain ⟨a8, q9, hw⟩ := hw
    obtain ⟨q10, hw⟩ := hw
    refine V_alen (t := 1) (ty := .byte) hc rfl q9 q10 d_Node_isNamedAs_55 ?_
    refine V_icmp_ne (tgt := 63) hc d_Node_isNamedAs_56 (by decide) (fun hq1 => ?_) (fun hq1 => ?_)
    · replace hw := hw.1 hq1
      refine V_sub (lv' := []) [] rfl ?_
      exact vb_Node_isNamedAs_63 hc hq  _ hw
    · replace hw := hw.2 hq1
      refine V_iconst (v := 1) hc d_Node_isNamedAs_59 (by decide) ?_
      refine V_goto (tgt := 64) hc d_Node_isNamedAs_60 (by decide) ?_
      refine V_sub (lv' := []) [] rfl ?_
      exact vb_Node_isNamedAs_64 hc hq  _ _ hw
set_option maxRecDepth 100000 in
set_option maxHeartbeats 4000000 in
theorem vb_Node_isNamedAs_2 {E : mm_E} {Z : Int32 → mm_M → Prop} (hc : cx E "EpochServer$Node" c_Node_isNamedAs 3 (some (.boolean)) rm_Node_isNamedAs) (hq : cq E rm_Node_isNamedAs (pI Z)) (X2 : Nat → Option Nat → Int32 → mm_M → Prop) (hX2 : ∀ (v0 : Nat) (v1 : Option Nat) (v2 : Int32) (h : mm_M), X2 v0 v1 v2 h → V E 3 0 0 h 2 [(0, va_rf (some v0)), (1, va_rf (v1)), (2, .int (v2))] []) (v0 : Nat) (v1 : Option Nat) (v2 : Int32) (h : mm_M) (hw : wq_Node_isNamedAs_2 X2 (mm_ge (eG E)) v0 v1 v2 h Z) : V E 3 0 0 h 2 [(0, va_rf (some v0)), (1, va_rf (v1)), (2, .int (v2))] [] := by
  unfold wq_Node_isNamedAs_2 at hw
  refine V_iload_n hc 2 d_Node_isNamedAs_2 rfl rfl ?_
  refine V_aload_n hc 0 d_Node_isNamedAs_3 rfl rfl ?_
  obtain ⟨q1, hw⟩ := hw
  refine V_get (v := va_rf (mm_P h v0 2)) hc gf_Node_18 rfl q1 rfl d_Node_isNamedAs_4 ?_
  obtain ⟨a2, q3, hw⟩ := hw
  obtain ⟨q4, hw⟩ := hw
  refine V_alen (t := 1) (ty := .byte) hc rfl q3 q4 d_Node_isNamedAs_7 ?_
  refine V_icmp_ge (tgt := 41) hc d_Node_isNamedAs_8 (by decide) (fun hq1 => ?_) (fun hq1 => ?_)
  · replace hw := hw.1 hq1
    refine V_sub (lv' := [(0, va_rf (some v0)), (1, va_rf (v1)), (2, .int (v2))]) [0, 1, 2] rfl ?_
    exact vb_Node_isNamedAs_41 hc hq  _ _ _ _ hw
  · replace hw := hw.2 hq1
    refine V_iload_n hc 2 d_Node_isNamedAs_11 rfl rfl ?_
    refine V_aload_n hc 1 d_Node_isNamedAs_12 rfl rfl ?_
    obtain ⟨a5, q6, hw⟩ := hw
    obtain ⟨q7, hw⟩ := hw
    refine V_get (v := va_rf (mm_P h a5 2)) hc gf_Node_18 q6 q7 rfl d_Node_isNamedAs_13 ?_
    obtain ⟨a8, q9, hw⟩ := hw
    obtain ⟨q10, hw⟩ := hw
    refine V_alen (t := 1) (ty := .byte) hc rfl q9 q10 d_Node_isNamedAs_16 ?_
    refine V_icmp_ge (tgt := 41) hc d_Node_isNamedAs_17 (by decide) (fun hq1 => ?_) (fun hq1 => ?_)
    · replace hw := hw.1 hq1
      refine V_sub (lv' := [(0, va_rf (some v0)), (1, va_rf (v1)), (2, .int (v2))]) [0, 1, 2] rfl ?_
      exact vb_Node_isNamedAs_41 hc hq  _ _ _ _ hw
    · replace hw := hw.2 hq1
      refine V_aload_n hc 0 d_Node_isNamedAs_20 rfl rfl ?_
      refine V_get (v := va_rf (mm_P h v0 2)) hc gf_Node_18 rfl q1 rfl d_Node_isNamedAs_21 ?_
      refine V_iload_n hc 2 d_Node_isNamedAs_24 rfl rfl ?_
      obtain ⟨q11, hw⟩ := hw
      refine V_bald hc q3 q4 q11 d_Node_isNamedAs_25 ?_
      refine V_aload_n hc 1 d_Node_isNamedAs_26 rfl rfl ?_
      refine V_get (v := va_rf (mm_P h a5 2)) hc gf_Node_18 q6 q7 rfl d_Node_isNamedAs_27 ?_
      refine V_iload_n hc 2 d_Node_isNamedAs_30 rfl rfl ?_
      obtain ⟨q12, hw⟩ := hw
      refine V_bald hc q9 q10 q12 d_Node_isNamedAs_31 ?_
      refine V_icmp_ne (tgt := 41) hc d_Node_isNamedAs_32 (by decide) (fun hq1 => ?_) (fun hq1 => ?_)
      · replace hw := hw.1 hq1
        refine V_sub (lv' := [(0, va_rf (some v0)), (1, va_rf (v1)), (2, .int (v2))]) [0, 1, 2] rfl ?_
        exact vb_Node_isNamedAs_41 hc hq  _ _ _ _ hw
      · replace hw := hw.2 hq1
        refine V_iinc (v := v2 + 1) (lv' := [(2, .int (v2 + 1)), (0, va_rf (some v0)), (1, va_rf (v1))]) hc 2 d_Node_isNamedAs_35 rfl rfl (by decide) (by simp [cat_rf, cat_i, cat_l]) ?_
        refine V_goto (tgt := 2) hc d_Node_isNamedAs_38 (by decide) ?_
        refine V_sub (lv' := [(0, va_rf (some v0)), (1, va_rf (v1)), (2, .int (v2 + 1))]) [1, 2, 0] rfl ?_
        exact hX2 _ _ _ _ hw
theorem vl_Node_isNamedAs_2 {E : mm_E} {Z : Int32 → mm_M → Prop} (hc : cx E "EpochServer$Node" c_Node_isNamedAs 3 (some (.boolean)) rm_Node_isNamedAs) (hq : cq E rm_Node_isNamedAs (pI Z))  (v0 : Nat) (v1 : Option Nat) (v2 : Int32) (h : mm_M) (hw : lp_Node_isNamedAs_2  (mm_ge (eG E)) v0 v1 v2 h Z) : V E 3 0 0 h 2 [(0, va_rf (some v0)), (1, va_rf (v1)), (2, .int (v2))] [] :=
  hw (fun v0 v1 v2 h => V E 3 0 0 h 2 [(0, va_rf (some v0)), (1, va_rf (v1)), (2, .int (v2))] []) (fun v0 v1 v2 h hb => vb_Node_isNamedAs_2 hc hq  _ (fun _ _ _ _ q => q) v0 v1 v2 h hb)
set_option maxRecDepth 100000 in
set_option maxHeartbeats 4000000 in
theorem vb_Node_isNamedAs_0 {E : mm_E} {Z : Int32 → mm_M → Prop} (hc : cx E "EpochServer$Node" c_Node_isNamedAs 3 (some (.boolean)) rm_Node_isNamedAs) (hq : cq E rm_Node_isNamedAs (pI Z))  (v0 : Nat) (v1 : Option Nat) (h : mm_M) (hw : wq_Node_isNamedAs_0  (mm_ge (eG E)) v0 v1 h Z) : V E 3 0 0 h 0 [(0, va_rf (some v0)), (1, va_rf (v1))] [] := by
  unfold wq_Node_isNamedAs_0 at hw
  refine V_iconst (v := 0) hc d_Node_isNamedAs_0 (by decide) ?_
  refine V_istore_n (i := 2) (lv' := [(2, .int (0)), (0, va_rf (some v0)), (1, va_rf (v1))]) hc d_Node_isNamedAs_1 rfl (by decide) (by simp [cat_rf, cat_i, cat_l]) ?_
  refine V_sub (lv' := [(0, va_rf (some v0)), (1, va_rf (v1)), (2, .int (0))]) [1, 2, 0] rfl ?_
  exact vl_Node_isNamedAs_2 hc hq  _ _ _ _ hw
def wq_Node_isNamedAs (ge : Nat → Nat) (v0 : Nat) (v1 : Option Nat) (h : mm_M) (Z : Int32 → mm_M → Prop) : Prop := wq_Node_isNamedAs_0 ge v0 v1 h Z
theorem sat_Node_isNamedAs (G : mm_G) (v0 : Nat) (v1 : Option Nat) (h : mm_M) (Z : Int32 → mm_M → Prop) (hw : wq_Node_isNamedAs (mm_ge G) v0 v1 h Z) : mm_Met G y_Node_isNamedAs c_Node_isNamedAs 3 (some (.boolean)) rm_Node_isNamedAs [va_rf (some v0), va_rf (v1)] h (pI Z) := by
  refine mm_intro (own := "EpochServer$Node") (by decide) rfl (by simp [lg_sl, cat_rf, cat_i, cat_l]) (fun E e1 hc hq hi => ?_)
  subst e1
  have e2 : lv_args 0 [va_rf (some v0), va_rf (v1)] = [(0, va_rf (some v0)), (1, va_rf (v1))] := by simp [lv_args, cat_rf, cat_i, cat_l]
  rw [e2]
  refine V_sub (lv' := [(0, va_rf (some v0)), (1, va_rf (v1))]) [0, 1] rfl ?_
  exact vb_Node_isNamedAs_0 hc hq v0 v1 h hw
/-! Node.isAs(LEpochServer$Node;)Z -/
abbrev rm_Node_isAs : Room := { frames := 1, cells := 0, slots := 0, locals := 22 }
def wq_Node_isAs_46  (ge : Nat → Nat) (s0 : Int32) (h : mm_M) (Z : Int32 → mm_M → Prop) : Prop :=
  ((s0) = 0 ∨ (s0) = 1) ∧ Z (s0) h
def wq_Node_isAs_45  (ge : Nat → Nat)  (h : mm_M) (Z : Int32 → mm_M → Prop) : Prop :=
  wq_Node_isAs_46  ge (0) h Z
def wq_Node_isAs_0  (ge : Nat → Nat) (v0 : Nat) (v1 : Option Nat) (h : mm_M) (Z : Int32 → mm_M → Prop) : Prop :=
  mm_k h (v0) = kd_Node ∧ ∃ a2, v1 = some a2 ∧ mm_k h (a2) = kd_Node ∧ ((¬ (mm_I h v0 3 : Int32) = (mm_I h a2 3 : Int32) → wq_Node_isAs_45  ge h Z) ∧ ((mm_I h v0 3 : Int32) = (mm_I h a2 3 : Int32) → ((¬ (mm_I h v0 4 : Int32) = (mm_I h a2 4 : Int32) → wq_Node_isAs_45  ge h Z) ∧ ((mm_I h v0 4 : Int32) = (mm_I h a2 4 : Int32) → ((¬ (mm_I h v0 5 : Int32) = (mm_I h a2 5 : Int32) → wq_Node_isAs_45  ge h Z) ∧ ((mm_I h v0 5 : Int32) = (mm_I h a2 5 : Int32) → wq_Node_isNamedAs ge (v0) (v1) h (fun (r6 : Int32) (h5 : mm_M) => (((r6) = 0 → wq_Node_isAs_45  ge h5 Z) ∧ (¬ (r6) = 0 → wq_Node_isAs_46  ge (1) h5 Z)))))))))
set_option maxRecDepth 100000 in
set_option maxHeartbeats 4000000 in
theorem vb_Node_isAs_46 {E : mm_E} {Z : Int32 → mm_M → Prop} (hc : cx E "EpochServer$Node" c_Node_isAs 2 (some (.boolean)) rm_Node_isAs) (hq : cq E rm_Node_isAs (pI Z))  (s0 : Int32) (h : mm_M) (hw : wq_Node_isAs_46  (mm_ge (eG E)) s0 h Z) : V E 2 0 0 h 46 [] [.int (s0)] := by
  unfold wq_Node_isAs_46 at hw
  obtain ⟨q1, hw⟩ := hw
  exact V_zret hc hq (zz_nar q1) ⟨_, rfl, hw⟩ (by decide) (by decide) d_Node_isAs_46
set_option maxRecDepth 100000 in
set_option maxHeartbeats 4000000 in
theorem vb_Node_isAs_45 {E : mm_E} {Z : Int32 → mm_M → Prop} (hc : cx E "EpochServer$Node" c_Node_isAs 2 (some (.boolean)) rm_Node_isAs) (hq : cq E rm_Node_isAs (pI Z))   (h : mm_M) (hw : wq_Node_isAs_45  (mm_ge (eG E))  h Z) : V E 2 0 0 h 45 [] [] := by
  unfold wq_Node_isAs_45 at hw
  refine V_iconst (v := 0) hc d_Node_isAs_45 (by decide) ?_
  refine V_sub (lv' := []) [] rfl ?_
  exact vb_Node_isAs_46 hc hq  _ _ hw
set_option maxRecDepth 100000 in
set_option maxHeartbeats 4000000 in
theorem vb_Node_isAs_0 {E : mm_E} {Z : Int32 → mm_M → Prop} (hc : cx E "EpochServer$Node" c_Node_isAs 2 (some (.boolean)) rm_Node_isAs) (hq : cq E rm_Node_isAs (pI Z))  (v0 : Nat) (v1 : Option Nat) (h : mm_M) (hw : wq_Node_isAs_0  (mm_ge (eG E)) v0 v1 h Z) : V E 2 0 0 h 0 [(0, va_rf (some v0)), (1, va_rf (v1))] [] := by
  unfold wq_Node_isAs_0 at hw
  refine V_aload_n hc 0 d_Node_isAs_0 rfl rfl ?_
  obtain ⟨q1, hw⟩ := hw
  refine V_get (v := .int (mm_I h v0 3)) hc gf_Node_22 rfl q1 rfl d_Node_isAs_1 ?_
  refine V_aload_n hc 1 d_Node_isAs_4 rfl rfl ?_
  obtain ⟨a2, q3, hw⟩ := hw
  obtain ⟨q4, hw⟩ := hw
  refine V_get (v := .int (mm_I h a2 3)) hc gf_Node_22 q3 q4 rfl d_Node_isAs_5 ?_
  refine V_icmp_ne (tgt := 45) hc d_Node_isAs_8 (by decide) (fun hq1 => ?_) (fun hq1 => ?_)
  · replace hw := hw.1 hq1
    refine V_sub (lv' := []) [] rfl ?_
    exact vb_Node_isAs_45 hc hq  _ hw
  · replace hw := hw.2 hq1
    refine V_aload_n hc 0 d_Node_isAs_11 rfl rfl ?_
    refine V_get (v := .int (mm_I h v0 4)) hc gf_Node_25 rfl q1 rfl d_Node_isAs_12 ?_
    refine V_aload_n hc 1 d_Node_isAs_15 rfl rfl ?_
    refine V_get (v := .int (mm_I h a2 4)) hc gf_Node_25 q3 q4 rfl d_Node_isAs_16 ?_
    refine V_icmp_ne (tgt := 45) hc d_Node_isAs_19 (by decide) (fun hq1 => ?_) (fun hq1 => ?_)
    · replace hw := hw.1 hq1
      refine V_sub (lv' := []) [] rfl ?_
      exact vb_Node_isAs_45 hc hq  _ hw
    · replace hw := hw.2 hq1
      refine V_aload_n hc 0 d_Node_isAs_22 rfl rfl ?_
      refine V_get (v := .int (mm_I h v0 5)) hc gf_Node_28 rfl q1 rfl d_Node_isAs_23 ?_
      refine V_aload_n hc 1 d_Node_isAs_26 rfl rfl ?_
      refine V_get (v := .int (mm_I h a2 5)) hc gf_Node_28 q3 q4 rfl d_Node_isAs_27 ?_
      refine V_icmp_ne (tgt := 45) hc d_Node_isAs_30 (by decide) (fun hq1 => ?_) (fun hq1 => ?_)
      · replace hw := hw.1 hq1
        refine V_sub (lv' := []) [] rfl ?_
        exact vb_Node_isAs_45 hc hq  _ hw
      · replace hw := hw.2 hq1
        refine V_aload_n hc 0 d_Node_isAs_33 rfl rfl ?_
        refine V_aload_n hc 1 d_Node_isAs_34 rfl rfl ?_
        refine V_callV (rm' := rm_Node_isNamedAs) (As := [va_rf (v1)]) (rest := []) (n := 1) (cn := 7) hc rfl q1 (sat_Node_isNamedAs (eG E) _ _ _ _ hw) rfl cv_Node_37 (gw_of (tw_4 (List.mem_of_getElem? (i := 35) rfl)) rfl) ss_Node_isNamedAs rfl ⟨by decide, by decide⟩ (by decide) (by decide) rfl (by simp [cat_rf, cat_i, cat_l]) d_Node_isAs_35 (fun r0 h5 hw => ?_)
        obtain ⟨r6, rfl, hw⟩ := hw
        refine V_wide (cs' := 0) (sl' := 0) (by decide) (by decide) ?_
        refine V_st (st' := [.int (r6)]) rfl ?_
        refine V_if_eq (tgt := 45) hc d_Node_isAs_38 (by decide) (fun hq1 => ?_) (fun hq1 => ?_)
        · replace hw := hw.1 hq1
          refine V_sub (lv' := []) [] rfl ?_
          exact vb_Node_isAs_45 hc hq  _ hw
        · replace hw := hw.2 hq1
          refine V_iconst (v := 1) hc d_Node_isAs_41 (by decide) ?_
          refine V_goto (tgt := 46) hc d_Node_isAs_42 (by decide) ?_
          refine V_sub (lv' := []) [] rfl ?_
          exact vb_Node_isAs_46 hc hq  _ _ hw
def wq_Node_isAs (ge : Nat → Nat) (v0 : Nat) (v1 : Option Nat) (h : mm_M) (Z : Int32 → mm_M → Prop) : Prop := wq_Node_isAs_0 ge v0 v1 h Z
theorem sat_Node_isAs (G : mm_G) (v0 : Nat) (v1 : Option Nat) (h : mm_M) (Z : Int32 → mm_M → Prop) (hw : wq_Node_isAs (mm_ge G) v0 v1 h Z) : mm_Met G y_Node_isAs c_Node_isAs 2 (some (.boolean)) rm_Node_isAs [va_rf (some v0), va_rf (v1)] h (pI Z) := by
  refine mm_intro (own := "EpochServer$Node") (by decide) rfl (by simp [lg_sl, cat_rf, cat_i, cat_l]) (fun E e1 hc hq hi => ?_)
  subst e1
  have e2 : lv_args 0 [va_rf (some v0), va_rf (v1)] = [(0, va_rf (some v0)), (1, va_rf (v1))] := by simp [lv_args, cat_rf, cat_i, cat_l]
  rw [e2]
  refine V_sub (lv' := [(0, va_rf (some v0)), (1, va_rf (v1))]) [0, 1] rfl ?_
  exact vb_Node_isAs_0 hc hq v0 v1 h hw
/-! Request.<init>(LEpochServer$Bytes;)V -/
abbrev rm_Request_init : Room := { frames := 1, cells := 0, slots := 0, locals := 24 }
def wq_Request_init_0  (ge : Nat → Nat) (v0 : Nat) (v1 : Option Nat) (h : mm_M) (Z : mm_M → Prop) : Prop :=
  mm_k h (v0) = kd_Request ∧ ge 0 ≤ v0 ∧ ∀ h3 : mm_M, h3 = mm_uI h (v0) 1 (0) → mm_k h3 (v0) = kd_Request ∧ ge 0 ≤ v0 ∧ ∀ h6 : mm_M, h6 = mm_uI h3 (v0) 2 (0) → mm_k h6 (v0) = kd_Request ∧ ge 0 ≤ v0 ∧ ∀ h9 : mm_M, h9 = mm_uI h6 (v0) 3 (0) → mm_k h9 (v0) = kd_Request ∧ ge 0 ≤ v0 ∧ ∀ h12 : mm_M, h12 = mm_uI h9 (v0) 4 (0) → mm_k h12 (v0) = kd_Request ∧ ge 0 ≤ v0 ∧ ∀ h15 : mm_M, h15 = mm_uI h12 (v0) 5 (0) → mm_k h15 (v0) = kd_Request ∧ ge 0 ≤ v0 ∧ ∀ h18 : mm_M, h18 = mm_uI h15 (v0) 6 (0) → mm_k h18 (v0) = kd_Request ∧ ge 0 ≤ v0 ∧ ∀ h21 : mm_M, h21 = mm_uI h18 (v0) 7 (0) → mm_k h21 (v0) = kd_Request ∧ ge 0 ≤ v0 ∧ ∀ h24 : mm_M, h24 = mm_uI h21 (v0) 8 (0) → mm_k h24 (v0) = kd_Request ∧ ge 0 ≤ v0 ∧ ∀ h27 : mm_M, h27 = mm_uI h24 (v0) 9 (0) → mm_k h27 (v0) = kd_Request ∧ ge 0 ≤ v0 ∧ ∀ h30 : mm_M, h30 = mm_uI h27 (v0) 10 (0) → mm_k h30 (v0) = kd_Request ∧ ge 0 ≤ v0 ∧ ∀ h33 : mm_M, h33 = mm_uI h30 (v0) 11 (0) → mm_k h33 (v0) = kd_Request ∧ ge 0 ≤ v0 ∧ ∀ h36 : mm_M, h36 = mm_uI h33 (v0) 12 (0) → mm_k h36 (v0) = kd_Request ∧ ge 0 ≤ v0 ∧ ∀ h39 : mm_M, h39 = mm_uL h36 (v0) 13 (0) → mm_k h39 (v0) = kd_Request ∧ ge 0 ≤ v0 ∧ ∀ h42 : mm_M, h42 = mm_uI h39 (v0) 14 (0) → mm_k h42 (v0) = kd_Request ∧ ge 0 ≤ v0 ∧ ∀ h45 : mm_M, h45 = mm_uI h42 (v0) 15 (0) → mm_k h45 (v0) = kd_Request ∧ ge 0 ≤ v0 ∧ ∀ h48 : mm_M, h48 = mm_uI h45 (v0) 16 (0) → mm_k h48 (v0) = kd_Request ∧ ge 0 ≤ v0 ∧ ∀ h51 : mm_M, h51 = mm_uP h48 (v0) 0 (v1) → Z h51
set_option maxRecDepth 100000 in
set_option maxHeartbeats 4000000 in
theorem vb_Request_init_0 {E : mm_E} {Z : mm_M → Prop} (hc : cx E "EpochServer$Request" c_Request_init 2 none rm_Request_init) (hq : cq E rm_Request_init (pV Z)) (hin : ci E)  (v0 : Nat) (v1 : Option Nat) (h : mm_M) (hw : wq_Request_init_0  (mm_ge (eG E)) v0 v1 h Z) : V E 2 0 0 h 0 [(0, va_rf (some v0)), (1, va_rf (v1))] [] := by
  unfold wq_Request_init_0 at hw
  refine V_aload_n hc 0 d_Request_init_0 rfl rfl ?_
  refine V_objInit hc rfl (gw_of (tw_1 (List.mem_of_getElem? (i := 52) rfl)) rfl) (gw_of (tw_1 (List.mem_of_getElem? (i := 27) rfl)) rfl) (gw_of (tw_1 (List.mem_of_getElem? (i := 28) rfl)) rfl) d_Request_init_1 (by decide) (by decide) ?_
  refine V_aload_n hc 0 d_Request_init_4 rfl rfl ?_
  refine V_iconst (v := 0) hc d_Request_init_5 (by decide) ?_
  obtain ⟨q1, hw⟩ := hw
  obtain ⟨q2, hw⟩ := hw
  obtain ⟨h3, eq_h3⟩ : ∃ x, x = mm_uI h (v0) 1 (0) := ⟨_, rfl⟩
  replace hw := hw _ eq_h3
  refine V_put (h' := h3) hc gf_Request_9 rfl rfl q1 q2 (by rw [eq_h3]; exact mm_Up_I _ _ _ _) (by rw [eq_h3]; exact up_vI rfl) (vp_nar_int _) rfl d_Request_init_6 ?_
  refine V_aload_n hc 0 d_Request_init_9 rfl rfl ?_
  refine V_iconst (v := 0) hc d_Request_init_10 (by decide) ?_
  obtain ⟨q4, hw⟩ := hw
  obtain ⟨q5, hw⟩ := hw
  obtain ⟨h6, eq_h6⟩ : ∃ x, x = mm_uI h3 (v0) 2 (0) := ⟨_, rfl⟩
  replace hw := hw _ eq_h6
  refine V_put (h' := h6) hc gf_Request_15 rfl rfl q4 q5 (by rw [eq_h6]; exact mm_Up_I _ _ _ _) (by rw [eq_h6]; exact up_vI rfl) (vp_nar_int _) rfl d_Request_init_11 ?_
  refine V_aload_n hc 0 d_Request_init_14 rfl rfl ?_
  refine V_iconst (v := 0) hc d_Request_init_15 (by decide) ?_
  obtain ⟨q7, hw⟩ := hw
  obtain ⟨q8, hw⟩ := hw
  obtain ⟨h9, eq_h9⟩ : ∃ x, x = mm_uI h6 (v0) 3 (0) := ⟨_, rfl⟩
  replace hw := hw _ eq_h9
  refine V_put (h' := h9) hc gf_Request_18 rfl rfl q7 q8 (by rw [eq_h9]; exact mm_Up_I _ _ _ _) (by rw [eq_h9]; exact up_vI rfl) (by decide) (by decide) d_Request_init_16 ?_
  refine V_aload_n hc 0 d_Request_init_19 rfl rfl ?_
  refine V_iconst (v := 0) hc d_Request_init_20 (by decide) ?_
  obtain ⟨q10, hw⟩ := hw
  obtain ⟨q11, hw⟩ := hw
  obtain ⟨h12, eq_h12⟩ : ∃ x, x = mm_uI h9 (v0) 4 (0) := ⟨_, rfl⟩
  replace hw := hw _ eq_h12
  refine V_put (h' := h12) hc gf_Request_22 rfl rfl q10 q11 (by rw [eq_h12]; exact mm_Up_I _ _ _ _) (by rw [eq_h12]; exact up_vI rfl) (vp_nar_int _) rfl d_Request_init_21 ?_
  refine V_aload_n hc 0 d_Request_init_24 rfl rfl ?_
  refine V_iconst (v := 0) hc d_Request_init_25 (by decide) ?_
  obtain ⟨q13, hw⟩ := hw
  obtain ⟨q14, hw⟩ := hw
  obtain ⟨h15, eq_h15⟩ : ∃ x, x = mm_uI h12 (v0) 5 (0) := ⟨_, rfl⟩
  replace hw := hw _ eq_h15
  refine V_put (h' := h15) hc gf_Request_25 rfl rfl q13 q14 (by rw [eq_h15]; exact mm_Up_I _ _ _ _) (by rw [eq_h15]; exact up_vI rfl) (vp_nar_int _) rfl d_Request_init_26 ?_
  refine V_aload_n hc 0 d_Request_init_29 rfl rfl ?_
  refine V_iconst (v := 0) hc d_Request_init_30 (by decide) ?_
  obtain ⟨q16, hw⟩ := hw
  obtain ⟨q17, hw⟩ := hw
  obtain ⟨h18, eq_h18⟩ : ∃ x, x = mm_uI h15 (v0) 6 (0) := ⟨_, rfl⟩
  replace hw := hw _ eq_h18
  refine V_put (h' := h18) hc gf_Request_28 rfl rfl q16 q17 (by rw [eq_h18]; exact mm_Up_I _ _ _ _) (by rw [eq_h18]; exact up_vI rfl) (vp_nar_int _) rfl d_Request_init_31 ?_
  refine V_aload_n hc 0 d_Request_init_34 rfl rfl ?_
  refine V_iconst (v := 0) hc d_Request_init_35 (by decide) ?_
  obtain ⟨q19, hw⟩ := hw
  obtain ⟨q20, hw⟩ := hw
  obtain ⟨h21, eq_h21⟩ : ∃ x, x = mm_uI h18 (v0) 7 (0) := ⟨_, rfl⟩
  replace hw := hw _ eq_h21
  refine V_put (h' := h21) hc gf_Request_31 rfl rfl q19 q20 (by rw [eq_h21]; exact mm_Up_I _ _ _ _) (by rw [eq_h21]; exact up_vI rfl) (vp_nar_int _) rfl d_Request_init_36 ?_
  refine V_aload_n hc 0 d_Request_init_39 rfl rfl ?_
  refine V_iconst (v := 0) hc d_Request_init_40 (by decide) ?_
  obtain ⟨q22, hw⟩ := hw
  obtain ⟨q23, hw⟩ := hw
  obtain ⟨h24, eq_h24⟩ : ∃ x, x = mm_uI h21 (v0) 8 (0) := ⟨_, rfl⟩
  replace hw := hw _ eq_h24
  refine V_put (h' := h24) hc gf_Request_34 rfl rfl q22 q23 (by rw [eq_h24]; exact mm_Up_I _ _ _ _) (by rw [eq_h24]; exact up_vI rfl) (vp_nar_int _) rfl d_Request_init_41 ?_
  refine V_aload_n hc 0 d_Request_init_44 rfl rfl ?_
  refine V_iconst (v := 0) hc d_Request_init_45 (by decide) ?_
  obtain ⟨q25, hw⟩ := hw
  obtain ⟨q26, hw⟩ := hw
  obtain ⟨h27, eq_h27⟩ : ∃ x, x = mm_uI h24 (v0) 9 (0) := ⟨_, rfl⟩
  replace hw := hw _ eq_h27
  refine V_put (h' := h27) hc gf_Request_37 rfl rfl q25 q26 (by rw [eq_h27]; exact mm_Up_I _ _ _ _) (by rw [eq_h27]; exact up_vI rfl) (vp_nar_int _) rfl d_Request_init_46 ?_
  refine V_aload_n hc 0 d_Request_init_49 rfl rfl ?_
  refine V_iconst (v := 0) hc d_Request_init_50 (by decide) ?_
  obtain ⟨q28, hw⟩ := hw
  obtain ⟨q29, hw⟩ := hw
  obtain ⟨h30, eq_h30⟩ : ∃ x, x = mm_uI h27 (v0) 10 (0) := ⟨_, rfl⟩
  replace hw := hw _ eq_h30
  refine V_put (h' := h30) hc gf_Request_40 rfl rfl q28 q29 (by rw [eq_h30]; exact mm_Up_I _ _ _ _) (by rw [eq_h30]; exact up_vI rfl) (vp_nar_int _) rfl d_Request_init_51 ?_
  refine V_aload_n hc 0 d_Request_init_54 rfl rfl ?_
  refine V_iconst (v := 0) hc d_Request_init_55 (by decide) ?_
  obtain ⟨q31, hw⟩ := hw
  obtain ⟨q32, hw⟩ := hw
  obtain ⟨h33, eq_h33⟩ : ∃ x, x = mm_uI h30 (v0) 11 (0) := ⟨_, rfl⟩
  replace hw := hw _ eq_h33
  refine V_put (h' := h33) hc gf_Request_43 rfl rfl q31 q32 (by rw [eq_h33]; exact mm_Up_I _ _ _ _) (by rw [eq_h33]; exact up_vI rfl) (vp_nar_int _) rfl d_Request_init_56 ?_
  refine V_aload_n hc 0 d_Request_init_59 rfl rfl ?_
  refine V_iconst (v := 0) hc d_Request_init_60 (by decide) ?_
  obtain ⟨q34, hw⟩ := hw
  obtain ⟨q35, hw⟩ := hw
  obtain ⟨h36, eq_h36⟩ : ∃ x, x = mm_uI h33 (v0) 12 (0) := ⟨_, rfl⟩
  replace hw := hw _ eq_h36
  refine V_put (h' := h36) hc gf_Request_46 rfl rfl q34 q35 (by rw [eq_h36]; exact mm_Up_I _ _ _ _) (by rw [eq_h36]; exact up_vI rfl) (vp_nar_int _) rfl d_Request_init_61 ?_
  refine V_aload_n hc 0 d_Request_init_64 rfl rfl ?_
  refine V_lconst (v := 0) hc d_Request_init_65 (by decide) ?_
  obtain ⟨q37, hw⟩ := hw
  obtain ⟨q38, hw⟩ := hw
  obtain ⟨h39, eq_h39⟩ : ∃ x, x = mm_uL h36 (v0) 13 (0) := ⟨_, rfl⟩
  replace hw := hw _ eq_h39
  refine V_put (h' := h39) hc gf_Request_49 rfl rfl q37 q38 (by rw [eq_h39]; exact mm_Up_L _ _ _ _) (by rw [eq_h39]; exact up_vL) rfl rfl d_Request_init_66 ?_
  refine V_aload_n hc 0 d_Request_init_69 rfl rfl ?_
  refine V_iconst (v := 0) hc d_Request_init_70 (by decide) ?_
  obtain ⟨q40, hw⟩ := hw
  obtain ⟨q41, hw⟩ := hw
  obtain ⟨h42, eq_h42⟩ : ∃ x, x = mm_uI h39 (v0) 14 (0) := ⟨_, rfl⟩
  replace hw := hw _ eq_h42
  refine V_put (h' := h42) hc gf_Request_53 rfl rfl q40 q41 (by rw [eq_h42]; exact mm_Up_I _ _ _ _) (by rw [eq_h42]; exact up_vI rfl) (vp_nar_int _) rfl d_Request_init_71 ?_
  refine V_aload_n hc 0 d_Request_init_74 rfl rfl ?_
  refine V_iconst (v := 0) hc d_Request_init_75 (by decide) ?_
  obtain ⟨q43, hw⟩ := hw
  obtain ⟨q44, hw⟩ := hw
  obtain ⟨h45, eq_h45⟩ : ∃ x, x = mm_uI h42 (v0) 15 (0) := ⟨_, rfl⟩
  replace hw := hw _ eq_h45
  refine V_put (h' := h45) hc gf_Request_56 rfl rfl q43 q44 (by rw [eq_h45]; exact mm_Up_I _ _ _ _) (by rw [eq_h45]; exact up_vI rfl) (vp_nar_int _) rfl d_Request_init_76 ?_
  refine V_aload_n hc 0 d_Request_init_79 rfl rfl ?_
  refine V_iconst (v := 0) hc d_Request_init_80 (by decide) ?_
  obtain ⟨q46, hw⟩ := hw
  obtain ⟨q47, hw⟩ := hw
  obtain ⟨h48, eq_h48⟩ : ∃ x, x = mm_uI h45 (v0) 16 (0) := ⟨_, rfl⟩
  replace hw := hw _ eq_h48
  refine V_put (h' := h48) hc gf_Request_59 rfl rfl q46 q47 (by rw [eq_h48]; exact mm_Up_I _ _ _ _) (by rw [eq_h48]; exact up_vI rfl) (by decide) (by decide) d_Request_init_81 ?_
  refine V_aload_n hc 0 d_Request_init_84 rfl rfl ?_
  refine V_aload_n hc 1 d_Request_init_85 rfl rfl ?_
  obtain ⟨q49, hw⟩ := hw
  obtain ⟨q50, hw⟩ := hw
  obtain ⟨h51, eq_h51⟩ : ∃ x, x = mm_uP h48 (v0) 0 (v1) := ⟨_, rfl⟩
  replace hw := hw _ eq_h51
  refine V_putF (h' := h51) hc hin rfl (fun r hr => by cases hr; rfl) gf_Request_62 rfl rfl q49 q50 (by rw [eq_h51]; exact mm_Up_P _ _ _ _) (by rw [eq_h51]; exact up_vP rfl) (pp_nar _) (pp_fit _) d_Request_init_86 ?_
  exact V_vret hc hq ⟨rfl, hw⟩ (by decide) (by decide) d_Request_init_89
def wq_Request_init (ge : Nat → Nat) (v0 : Nat) (v1 : Option Nat) (h : mm_M) (Z : mm_M → Prop) : Prop := wq_Request_init_0 ge v0 v1 h Z
theorem sat_Request_init (G : mm_G) (v0 : Nat) (v1 : Option Nat) (h : mm_M) (Z : mm_M → Prop) (hw : wq_Request_init (mm_ge G) v0 v1 h Z) : mm_Met G y_Request_init c_Request_init 2 none rm_Request_init [va_rf (some v0), va_rf (v1)] h (pV Z) := by
  refine mm_intro (own := "EpochServer$Request") (by decide) rfl (by simp [lg_sl, cat_rf, cat_i, cat_l]) (fun E e1 hc hq hi => ?_)
  subst e1
  have e2 : lv_args 0 [va_rf (some v0), va_rf (v1)] = [(0, va_rf (some v0)), (1, va_rf (v1))] := by simp [lv_args, cat_rf, cat_i, cat_l]
  rw [e2]
  refine V_sub (lv' := [(0, va_rf (some v0)), (1, va_rf (v1))]) [0, 1] rfl ?_
  exact vb_Request_init_0 hc hq (hi rfl) v0 v1 h hw
/-! Request.longNumber(I)J -/
abbrev rm_Request_longNumber : Room := { frames := 1, cells := 0, slots := 0, locals := 21 }
def wq_Request_longNumber_25 (X25 : Nat → Int32 → Int64 → Int32 → mm_M → Prop) (ge : Nat → Nat) (v0 : Nat) (v1 : Int32) (v2 : Int64) (v4 : Int32) (h : mm_M) (Z : Int64 → mm_M → Prop) : Prop :=
  (((v1 : Int32) ≤ (v4 : Int32) → mm_k h (v0) = kd_Request ∧ ge 0 ≤ v0 ∧ ∀ h3 : mm_M, h3 = mm_uI h (v0) 2 ((mm_I h v0 2) + (v1)) → Z (v2) h3) ∧ (¬ (v1 : Int32) ≤ (v4 : Int32) → mm_k h (v0) = kd_Request ∧ ∃ a5, mm_P h v0 0 = some a5 ∧ mm_k h (a5) = kd_Bytes ∧ wq_Bytes_at ge (a5) ((mm_I h v0 2) + (v4)) h (fun (r9 : Int32) (h8 : mm_M) => X25 (v0) (v1) ((v2) ||| ((Int32.toInt64 (r9)) <<< (((8 : Int32) * (v4)).toInt64 &&& 63))) (v4 + 1) h8)))
def lp_Request_longNumber_25  (ge : Nat → Nat) (v0 : Nat) (v1 : Int32) (v2 : Int64) (v4 : Int32) (h : mm_M) (Z : Int64 → mm_M → Prop) : Prop :=
  ∀ X25 : Nat → Int32 → Int64 → Int32 → mm_M → Prop, (∀ (v0 : Nat) (v1 : Int32) (v2 : Int64) (v4 : Int32) (h : mm_M), wq_Request_longNumber_25 X25 ge v0 v1 v2 v4 h Z → X25 v0 v1 v2 v4 h) → X25 v0 v1 v2 v4 h
def wq_Request_longNumber_0  (ge : Nat → Nat) (v0 : Nat) (v1 : Int32) (h : mm_M) (Z : Int64 → mm_M → Prop) : Prop :=
  mm_k h (v0) = kd_Request ∧ (((v1 : Int32) ≤ ((mm_I h v0 1) - (mm_I h v0 2) : Int32) → lp_Request_longNumber_25  ge (v0) (v1) (0) (0) h Z) ∧ (¬ (v1 : Int32) ≤ ((mm_I h v0 1) - (mm_I h v0 2) : Int32) → ge 0 ≤ v0 ∧ ∀ h3 : mm_M, h3 = mm_uI h (v0) 3 (0) → Z (0) h3))
set_option maxRecDepth 100000 in
set_option maxHeartbeats 4000000 in
theorem vb_Request_longNumber_25 {E : mm_E} {Z : Int64 → mm_M → Prop} (hc : cx E "EpochServer$Request" c_Request_longNumber 5 (some (.long)) rm_Request_longNumber) (hq : cq E rm_Request_longNumber (pL Z)) (X25 : Nat → Int32 → Int64 → Int32 → mm_M → Prop) (hX25 : ∀ (v0 : Nat) (v1 : Int32) (v2 : Int64) (v4 : Int32) (h : mm_M), X25 v0 v1 v2 v4 h → V E 5 0 0 h 25 [(0, va_rf (some v0)), (1, .int (v1)), (2, .long (v2)), (4, .int (v4))] []) (v0 : Nat) (v1 : Int32) (v2 : Int64) (v4 : Int32) (h : mm_M) (hw : wq_Request_longNumber_25 X25 (mm_ge (eG E)) v0 v1 v2 v4 h Z) : V E 5 0 0 h 25 [(0, va_rf (some v0)), (1, .int (v1)), (2, .long (v2)), (4, .int (v4))] [] := by
  unfold wq_Request_longNumber_25 at hw
  refine V_iload hc 3 d_Request_longNumber_25 rfl ?_
  refine V_iload_n hc 1 d_Request_longNumber_27 rfl rfl ?_
  refine V_icmp_ge (tgt := 61) hc d_Request_longNumber_28 (by decide) (fun hq1 => ?_) (fun hq1 => ?_)
  · replace hw := hw.1 hq1
    refine V_aload_n hc 0 d_Request_longNumber_61 rfl rfl ?_
    refine V_dup hc d_Request_longNumber_62 (cat_rf _) ?_
    obtain ⟨q1, hw⟩ := hw
    refine V_get (v := .int (mm_I h v0 2)) hc gf_Request_15 rfl q1 rfl d_Request_longNumber_63 ?_
    refine V_iload_n hc 1 d_Request_longNumber_66 rfl rfl ?_
    refine V_iadd hc d_Request_longNumber_67 ?_
    obtain ⟨q2, hw⟩ := hw
    obtain ⟨h3, eq_h3⟩ : ∃ x, x = mm_uI h (v0) 2 ((mm_I h v0 2) + (v1)) := ⟨_, rfl⟩
    replace hw := hw _ eq_h3
    refine V_put (h' := h3) hc gf_Request_15 rfl rfl q1 q2 (by rw [eq_h3]; exact mm_Up_I _ _ _ _) (by rw [eq_h3]; exact up_vI rfl) (vp_nar_int _) rfl d_Request_longNumber_68 ?_
    refine V_lload_n hc 2 d_Request_longNumber_71 rfl rfl ?_
    exact V_lret hc hq ⟨_, rfl, hw⟩ (by decide) (by decide) d_Request_longNumber_72
  · replace hw := hw.2 hq1
    refine V_lload_n hc 2 d_Request_longNumber_31 rfl rfl ?_
    refine V_aload_n hc 0 d_Request_longNumber_32 rfl rfl ?_
    obtain ⟨q4, hw⟩ := hw
    refine V_get (v := va_rf (mm_P h v0 0)) hc gf_Request_62 rfl q4 rfl d_Request_longNumber_33 ?_
    refine V_aload_n hc 0 d_Request_longNumber_36 rfl rfl ?_
    refine V_get (v := .int (mm_I h v0 2)) hc gf_Request_15 rfl q4 rfl d_Request_longNumber_37 ?_
    refine V_iload hc 3 d_Request_longNumber_40 rfl ?_
    refine V_iadd hc d_Request_longNumber_42 ?_
    obtain ⟨a5, q6, hw⟩ := hw
    obtain ⟨q7, hw⟩ := hw
    refine V_callV (rm' := rm_Bytes_at) (As := [.int ((mm_I h v0 2) + (v4))]) (rest := [.long (v2)]) (n := 1) (cn := 3) hc q6 q7 (sat_Bytes_at (eG E) _ _ _ _ hw) rfl cv_Request_90 (gw_of (tw_2 (List.mem_of_getElem? (i := 170) rfl)) rfl) ss_Bytes_at rfl ⟨by decide, by decide⟩ (by decide) (by decide) rfl (by simp [cat_rf, cat_i, cat_l]) d_Request_longNumber_43 (fun r0 h8 hw => ?_)
    obtain ⟨r9, rfl, hw⟩ := hw
    refine V_wide (cs' := 0) (sl' := 0) (by decide) (by decide) ?_
    refine V_st (st' := [.int (r9), .long (v2)]) rfl ?_
    refine V_i2l hc d_Request_longNumber_46 ?_
    refine V_bipush (v := 8) hc d_Request_longNumber_47 (by decide) ?_
    refine V_iload hc 3 d_Request_longNumber_49 rfl ?_
    refine V_imul hc d_Request_longNumber_51 ?_
    refine V_lshl hc d_Request_longNumber_52 ?_
    refine V_lor hc d_Request_longNumber_53 ?_
    refine V_lstore_n (i := 2) (lv' := [(2, .long ((v2) ||| ((Int32.toInt64 (r9)) <<< (((8 : Int32) * (v4)).toInt64 &&& 63)))), (0, va_rf (some v0)), (1, .int (v1)), (4, .int (v4))]) hc d_Request_longNumber_54 rfl (by decide) rfl ?_
    refine V_iinc (v := v4 + 1) (lv' := [(4, .int (v4 + 1)), (2, .long ((v2) ||| ((Int32.toInt64 (r9)) <<< (((8 : Int32) * (v4)).toInt64 &&& 63)))), (0, va_rf (some v0)), (1, .int (v1))]) hc 3 d_Request_longNumber_55 rfl rfl (by decide) rfl ?_
    refine V_goto (tgt := 25) hc d_Request_longNumber_58 (by decide) ?_
    refine V_sub (lv' := [(0, va_rf (some v0)), (1, .int (v1)), (2, .long ((v2) ||| ((Int32.toInt64 (r9)) <<< (((8 : Int32) * (v4)).toInt64 &&& 63)))), (4, .int (v4 + 1))]) [2, 3, 1, 0] rfl ?_
    exact hX25 _ _ _ _ _ hw
theorem vl_Request_longNumber_25 {E : mm_E} {Z : Int64 → mm_M → Prop} (hc : cx E "EpochServer$Request" c_Request_longNumber 5 (some (.long)) rm_Request_longNumber) (hq : cq E rm_Request_longNumber (pL Z))  (v0 : Nat) (v1 : Int32) (v2 : Int64) (v4 : Int32) (h : mm_M) (hw : lp_Request_longNumber_25  (mm_ge (eG E)) v0 v1 v2 v4 h Z) : V E 5 0 0 h 25 [(0, va_rf (some v0)), (1, .int (v1)), (2, .long (v2)), (4, .int (v4))] [] :=
  hw (fun v0 v1 v2 v4 h => V E 5 0 0 h 25 [(0, va_rf (some v0)), (1, .int (v1)), (2, .long (v2)), (4, .int (v4))] []) (fun v0 v1 v2 v4 h hb => vb_Request_longNumber_25 hc hq  _ (fun _ _ _ _ _ q => q) v0 v1 v2 v4 h hb)
set_option maxRecDepth 100000 in
set_option maxHeartbeats 4000000 in
theorem vb_Request_longNumber_0 {E : mm_E} {Z : Int64 → mm_M → Prop} (hc : cx E "EpochServer$Request" c_Request_longNumber 5 (some (.long)) rm_Request_longNumber) (hq : cq E rm_Request_longNumber (pL Z))  (v0 : Nat) (v1 : Int32) (h : mm_M) (hw : wq_Request_longNumber_0  (mm_ge (eG E)) v0 v1 h Z) : V E 5 0 0 h 0 [(0, va_rf (some v0)), (1, .int (v1))] [] := by
  unfold wq_Request_longNumber_0 at hw
  refine V_iload_n hc 1 d_Request_longNumber_0 rfl rfl ?_
  refine V_aload_n hc 0 d_Request_longNumber_1 rfl rfl ?_
  obtain ⟨q1, hw⟩ := hw
  refine V_get (v := .int (mm_I h v0 1)) hc gf_Request_9 rfl q1 rfl d_Request_longNumber_2 ?_
  refine V_aload_n hc 0 d_Request_longNumber_5 rfl rfl ?_
  refine V_get (v := .int (mm_I h v0 2)) hc gf_Request_15 rfl q1 rfl d_Request_longNumber_6 ?_
  refine V_isub hc d_Request_longNumber_9 ?_
  refine V_icmp_le (tgt := 20) hc d_Request_longNumber_10 (by decide) (fun hq1 => ?_) (fun hq1 => ?_)
  · replace hw := hw.1 hq1
    refine V_lconst (v := 0) hc d_Request_longNumber_20 (by decide) ?_
    refine V_lstore_n (i := 2) (lv' := [(2, .long (0)), (0, va_rf (some v0)), (1, .int (v1))]) hc d_Request_longNumber_21 rfl (by decide) rfl ?_
    refine V_iconst (v := 0) hc d_Request_longNumber_22 (by decide) ?_
    refine V_istore (i := 4) (lv' := [(4, .int (0)), (2, .long (0)), (0, va_rf (some v0)), (1, .int (v1))]) hc d_Request_longNumber_23 (by decide) rfl ?_
    refine V_sub (lv' := [(0, va_rf (some v0)), (1, .int (v1)), (2, .long (0)), (4, .int (0))]) [2, 3, 1, 0] rfl ?_
    exact vl_Request_longNumber_25 hc hq  _ _ _ _ _ hw
  · replace hw := hw.2 hq1
    refine V_aload_n hc 0 d_Request_longNumber_13 rfl rfl ?_
    refine V_iconst (v := 0) hc d_Request_longNumber_14 (by decide) ?_
    obtain ⟨q2, hw⟩ := hw
    obtain ⟨h3, eq_h3⟩ : ∃ x, x = mm_uI h (v0) 3 (0) := ⟨_, rfl⟩
    replace hw := hw _ eq_h3
    refine V_put (h' := h3) hc gf_Request_18 rfl rfl q1 q2 (by rw [eq_h3]; exact mm_Up_I _ _ _ _) (by rw [eq_h3]; exact up_vI rfl) (by decide) (by decide) d_Request_longNumber_15 ?_
    refine V_lconst (v := 0) hc d_Request_longNumber_18 (by decide) ?_
    exact V_lret hc hq ⟨_, rfl, hw⟩ (by decide) (by decide) d_Request_longNumber_19
def wq_Request_longNumber (ge : Nat → Nat) (v0 : Nat) (v1 : Int32) (h : mm_M) (Z : Int64 → mm_M → Prop) : Prop := wq_Request_longNumber_0 ge v0 v1 h Z
theorem sat_Request_longNumber (G : mm_G) (v0 : Nat) (v1 : Int32) (h : mm_M) (Z : Int64 → mm_M → Prop) (hw : wq_Request_longNumber (mm_ge G) v0 v1 h Z) : mm_Met G y_Request_longNumber c_Request_longNumber 5 (some (.long)) rm_Request_longNumber [va_rf (some v0), .int (v1)] h (pL Z) := by
  refine mm_intro (own := "EpochServer$Request") (by decide) rfl (by simp [lg_sl, cat_rf, cat_i, cat_l]) (fun E e1 hc hq hi => ?_)
  subst e1
  have e2 : lv_args 0 [va_rf (some v0), .int (v1)] = [(0, va_rf (some v0)), (1, .int (v1))] := by simp [lv_args, cat_rf, cat_i, cat_l]
  rw [e2]
  refine V_sub (lv' := [(0, va_rf (some v0)), (1, .int (v1))]) [0, 1] rfl ?_
  exact vb_Request_longNumber_0 hc hq v0 v1 h hw
/-! Request.number(I)I -/
abbrev rm_Request_number : Room := { frames := 2, cells := 0, slots := 0, locals := 45 }
def wq_Request_number_0  (ge : Nat → Nat) (v0 : Nat) (v1 : Int32) (h : mm_M) (Z : Int32 → mm_M → Prop) : Prop :=
  mm_k h (v0) = kd_Request ∧ wq_Request_longNumber ge (v0) (v1) h (fun (r3 : Int64) (h2 : mm_M) => Z (Int64.toInt32 (r3)) h2)
set_option maxRecDepth 100000 in
set_option maxHeartbeats 4000000 in
theorem vb_Request_number_0 {E : mm_E} {Z : Int32 → mm_M → Prop} (hc : cx E "EpochServer$Request" c_Request_number 2 (some (.int)) rm_Request_number) (hq : cq E rm_Request_number (pI Z))  (v0 : Nat) (v1 : Int32) (h : mm_M) (hw : wq_Request_number_0  (mm_ge (eG E)) v0 v1 h Z) : V E 2 0 0 h 0 [(0, va_rf (some v0)), (1, .int (v1))] [] := by
  unfold wq_Request_number_0 at hw
  refine V_aload_n hc 0 d_Request_number_0 rfl rfl ?_
  refine V_iload_n hc 1 d_Request_number_1 rfl rfl ?_
  obtain ⟨q1, hw⟩ := hw
  refine V_callV (rm' := rm_Request_longNumber) (As := [.int (v1)]) (rest := []) (n := 1) (cn := 8) hc rfl q1 (sat_Request_longNumber (eG E) _ _ _ _ hw) rfl cv_Request_80 (gw_of (tw_2 (List.mem_of_getElem? (i := 191) rfl)) rfl) ss_Request_longNumber rfl ⟨by decide, by decide⟩ (by decide) (by decide) rfl (by simp [cat_rf, cat_i, cat_l]) d_Request_number_2 (fun r0 h2 hw => ?_)
  obtain ⟨r3, rfl, hw⟩ := hw
  refine V_wide (cs' := 0) (sl' := 0) (by decide) (by decide) ?_
  refine V_st (st' := [.long (r3)]) rfl ?_
  refine V_l2i hc d_Request_number_5 ?_
  exact V_iret hc hq ⟨_, rfl, hw⟩ (by decide) (by decide) d_Request_number_6
def wq_Request_number (ge : Nat → Nat) (v0 : Nat) (v1 : Int32) (h : mm_M) (Z : Int32 → mm_M → Prop) : Prop := wq_Request_number_0 ge v0 v1 h Z
theorem sat_Request_number (G : mm_G) (v0 : Nat) (v1 : Int32) (h : mm_M) (Z : Int32 → mm_M → Prop) (hw : wq_Request_number (mm_ge G) v0 v1 h Z) : mm_Met G y_Request_number c_Request_number 2 (some (.int)) rm_Request_number [va_rf (some v0), .int (v1)] h (pI Z) := by
  refine mm_intro (own := "EpochServer$Request") (by decide) rfl (by simp [lg_sl, cat_rf, cat_i, cat_l]) (fun E e1 hc hq hi => ?_)
  subst e1
  have e2 : lv_args 0 [va_rf (some v0), .int (v1)] = [(0, va_rf (some v0)), (1, .int (v1))] := by simp [lv_args, cat_rf, cat_i, cat_l]
  rw [e2]
  refine V_sub (lv' := [(0, va_rf (some v0)), (1, .int (v1))]) [0, 1] rfl ?_
  exact vb_Request_number_0 hc hq v0 v1 h hw
/-! Request.skip(I)V -/
abbrev rm_Request_skip : Room := { frames := 0, cells := 0, slots := 0, locals := 0 }
def wq_Request_skip_35  (ge : Nat → Nat)  (h : mm_M) (Z : mm_M → Prop) : Prop :=
  Z h
def wq_Request_skip_17  (ge : Nat → Nat) (v0 : Nat) (h : mm_M) (Z : mm_M → Prop) : Prop :=
  mm_k h (v0) = kd_Request ∧ ge 0 ≤ v0 ∧ ∀ h3 : mm_M, h3 = mm_uI h (v0) 3 (0) → wq_Request_skip_35  ge h3 Z
def wq_Request_skip_0  (ge : Nat → Nat) (v0 : Nat) (v1 : Int32) (h : mm_M) (Z : mm_M → Prop) : Prop :=
  (((v1) < 0 → wq_Request_skip_17  ge (v0) h Z) ∧ (¬ (v1) < 0 → mm_k h (v0) = kd_Request ∧ (((v1 : Int32) ≤ ((mm_I h v0 1) - (mm_I h v0 2) : Int32) → ge 0 ≤ v0 ∧ ∀ h3 : mm_M, h3 = mm_uI h (v0) 2 ((mm_I h v0 2) + (v1)) → wq_Request_skip_35  ge h3 Z) ∧ (¬ (v1 : Int32) ≤ ((mm_I h v0 1) - (mm_I h v0 2) : Int32) → wq_Request_skip_17  ge (v0) h Z))))
set_option maxRecDepth 100000 in
set_option maxHeartbeats 4000000 in
theorem vb_Request_skip_35 {E : mm_E} {Z : mm_M → Prop} (hc : cx E "EpochServer$Request" c_Request_skip 2 none rm_Request_skip) (hq : cq E rm_Request_skip (pV Z))   (h : mm_M) (hw : wq_Request_skip_35  (mm_ge (eG E))  h Z) : V E 2 0 0 h 35 [] [] := by
  unfold wq_Request_skip_35 at hw
  exact V_vret hc hq ⟨rfl, hw⟩ (by decide) (by decide) d_Request_skip_35
set_option maxRecDepth 100000 in
set_option maxHeartbeats 4000000 in
theorem vb_Request_skip_17 {E : mm_E} {Z : mm_M → Prop} (hc : cx E "EpochServer$Request" c_Request_skip 2 none rm_Request_skip) (hq : cq E rm_Request_skip (pV Z))  (v0 : Nat) (h : mm_M) (hw : wq_Request_skip_17  (mm_ge (eG E)) v0 h Z) : V E 2 0 0 h 17 [(0, va_rf (some v0))] [] := by
  unfold wq_Request_skip_17 at hw
  refine V_aload_n hc 0 d_Request_skip_17 rfl rfl ?_
  refine V_iconst (v := 0) hc d_Request_skip_18 (by decide) ?_
  obtain ⟨q1, hw⟩ := hw
  obtain ⟨q2, hw⟩ := hw
  obtain ⟨h3, eq_h3⟩ : ∃ x, x = mm_uI h (v0) 3 (0) := ⟨_, rfl⟩
  replace hw := hw _ eq_h3
  refine V_put (h' := h3) hc gf_Request_18 rfl rfl q1 q2 (by rw [eq_h3]; exact mm_Up_I _ _ _ _) (by rw [eq_h3]; exact up_vI rfl) (by decide) (by decide) d_Request_skip_19 ?_
  refine V_goto (tgt := 35) hc d_Request_skip_22 (by decide) ?_
  refine V_sub (lv' := []) [] rfl ?_
  exact vb_Request_skip_35 hc hq  _ hw
set_option maxRecDepth 100000 in
set_option maxHeartbeats 4000000 in
theorem vb_Request_skip_0 {E : mm_E} {Z : mm_M → Prop} (hc : cx E "EpochServer$Request" c_Request_skip 2 none rm_Request_skip) (hq : cq E rm_Request_skip (pV Z))  (v0 : Nat) (v1 : Int32) (h : mm_M) (hw : wq_Request_skip_0  (mm_ge (eG E)) v0 v1 h Z) : V E 2 0 0 h 0 [(0, va_rf (some v0)), (1, .int (v1))] [] := by
  unfold wq_Request_skip_0 at hw
  refine V_iload_n hc 1 d_Request_skip_0 rfl rfl ?_
  refine V_if_lt (tgt := 17) hc d_Request_skip_1 (by decide) (fun hq1 => ?_) (fun hq1 => ?_)
  · replace hw := hw.1 hq1
    refine V_sub (lv' := [(0, va_rf (some v0))]) [0] rfl ?_
    exact vb_Request_skip_17 hc hq  _ _ hw
  · replace hw := hw.2 hq1
    refine V_iload_n hc 1 d_Request_skip_4 rfl rfl ?_
    refine V_aload_n hc 0 d_Request_skip_5 rfl rfl ?_
    obtain ⟨q1, hw⟩ := hw
    refine V_get (v := .int (mm_I h v0 1)) hc gf_Request_9 rfl q1 rfl d_Request_skip_6 ?_
    refine V_aload_n hc 0 d_Request_skip_9 rfl rfl ?_
    refine V_get (v := .int (mm_I h v0 2)) hc gf_Request_15 rfl q1 rfl d_Request_skip_10 ?_
    refine V_isub hc d_Request_skip_13 ?_
    refine V_icmp_le (tgt := 25) hc d_Request_skip_14 (by decide) (fun hq1 => ?_) (fun hq1 => ?_)
    · replace hw := hw.1 hq1
      refine V_aload_n hc 0 d_Request_skip_25 rfl rfl ?_
      refine V_dup hc d_Request_skip_26 (cat_rf _) ?_
      refine V_get (v := .int (mm_I h v0 2)) hc gf_Request_15 rfl q1 rfl d_Request_skip_27 ?_
      refine V_iload_n hc 1 d_Request_skip_30 rfl rfl ?_
      refine V_iadd hc d_Request_skip_31 ?_
      obtain ⟨q2, hw⟩ := hw
      obtain ⟨h3, eq_h3⟩ : ∃ x, x = mm_uI h (v0) 2 ((mm_I h v0 2) + (v1)) := ⟨_, rfl⟩
      replace hw := hw _ eq_h3
      refine V_put (h' := h3) hc gf_Request_15 rfl rfl q1 q2 (by rw [eq_h3]; exact mm_Up_I _ _ _ _) (by rw [eq_h3]; exact up_vI rfl) (vp_nar_int _) rfl d_Request_skip_32 ?_
      refine V_sub (lv' := []) [] rfl ?_
      exact vb_Request_skip_35 hc hq  _ hw
    · replace hw := hw.2 hq1
      refine V_sub (lv' := [(0, va_rf (some v0))]) [0] rfl ?_
      exact vb_Request_skip_17 hc hq  _ _ hw
def wq_Request_skip (ge : Nat → Nat) (v0 : Nat) (v1 : Int32) (h : mm_M) (Z : mm_M → Prop) : Prop := wq_Request_skip_0 ge v0 v1 h Z
theorem sat_Request_skip (G : mm_G) (v0 : Nat) (v1 : Int32) (h : mm_M) (Z : mm_M → Prop) (hw : wq_Request_skip (mm_ge G) v0 v1 h Z) : mm_Met G y_Request_skip c_Request_skip 2 none rm_Request_skip [va_rf (some v0), .int (v1)] h (pV Z) := by
  refine mm_intro (own := "EpochServer$Request") (by decide) rfl (by simp [lg_sl, cat_rf, cat_i, cat_l]) (fun E e1 hc hq hi => ?_)
  subst e1
  have e2 : lv_args 0 [va_rf (some v0), .int (v1)] = [(0, va_rf (some v0)), (1, .int (v1))] := by simp [lv_args, cat_rf, cat_i, cat_l]
  rw [e2]
  refine V_sub (lv' := [(0, va_rf (some v0)), (1, .int (v1))]) [0, 1] rfl ?_
  exact vb_Request_skip_0 hc hq v0 v1 h hw
/-! Request.readText()V -/
abbrev rm_Request_readText : Room := { frames := 3, cells := 0, slots := 0, locals := 66 }
def wq_Request_readText_0  (ge : Nat → Nat) (v0 : Nat) (h : mm_M) (Z : mm_M → Prop) : Prop :=
  mm_k h (v0) = kd_Request ∧ wq_Request_number ge (v0) (2) h (fun (r3 : Int32) (h2 : mm_M) => mm_k h2 (v0) = kd_Request ∧ ge 0 ≤ v0 ∧ ∀ h6 : mm_M, h6 = mm_uI h2 (v0) 15 (r3) → mm_k h6 (v0) = kd_Request ∧ ge 0 ≤ v0 ∧ ∀ h9 : mm_M, h9 = mm_uI h6 (v0) 14 (mm_I h6 v0 2) → mm_k h9 (v0) = kd_Request ∧ wq_Request_skip ge (v0) (mm_I h9 v0 15) h9 (fun h11 : mm_M => Z h11))
set_option maxRecDepth 100000 in
set_option maxHeartbeats 4000000 in
theorem vb_Request_readText_0 {E : mm_E} {Z : mm_M → Prop} (hc : cx E "EpochServer$Request" c_Request_readText 1 none rm_Request_readText) (hq : cq E rm_Request_readText (pV Z))  (v0 : Nat) (h : mm_M) (hw : wq_Request_readText_0  (mm_ge (eG E)) v0 h Z) : V E 1 0 0 h 0 [(0, va_rf (some v0))] [] := by
  unfold wq_Request_readText_0 at hw
  refine V_aload_n hc 0 d_Request_readText_0 rfl rfl ?_
  refine V_aload_n hc 0 d_Request_readText_1 rfl rfl ?_
  refine V_iconst (v := 2) hc d_Request_readText_2 (by decide) ?_
  obtain ⟨q1, hw⟩ := hw
  refine V_callV (rm' := rm_Request_number) (As := [.int (2)]) (rest := [va_rf (some v0)]) (n := 1) (cn := 8) hc rfl q1 (sat_Request_number (eG E) _ _ _ _ hw) rfl cv_Request_66 (gw_of (tw_2 (List.mem_of_getElem? (i := 187) rfl)) rfl) ss_Request_number rfl ⟨by decide, by decide⟩ (by decide) (by decide) rfl (by simp [cat_rf, cat_i, cat_l]) d_Request_readText_3 (fun r0 h2 hw => ?_)
  obtain ⟨r3, rfl, hw⟩ := hw
  refine V_wide (cs' := 0) (sl' := 0) (by decide) (by decide) ?_
  refine V_st (st' := [.int (r3), va_rf (some v0)]) rfl ?_
  obtain ⟨q4, hw⟩ := hw
  obtain ⟨q5, hw⟩ := hw
  obtain ⟨h6, eq_h6⟩ : ∃ x, x = mm_uI h2 (v0) 15 (r3) := ⟨_, rfl⟩
  replace hw := hw _ eq_h6
  refine V_put (h' := h6) hc gf_Request_56 rfl rfl q4 q5 (by rw [eq_h6]; exact mm_Up_I _ _ _ _) (by rw [eq_h6]; exact up_vI rfl) (vp_nar_int _) rfl d_Request_readText_6 ?_
  refine V_aload_n hc 0 d_Request_readText_9 rfl rfl ?_
  refine V_aload_n hc 0 d_Request_readText_10 rfl rfl ?_
  obtain ⟨q7, hw⟩ := hw
  refine V_get (v := .int (mm_I h6 v0 2)) hc gf_Request_15 rfl q7 rfl d_Request_readText_11 ?_
  obtain ⟨q8, hw⟩ := hw
  obtain ⟨h9, eq_h9⟩ : ∃ x, x = mm_uI h6 (v0) 14 (mm_I h6 v0 2) := ⟨_, rfl⟩
  replace hw := hw _ eq_h9
  refine V_put (h' := h9) hc gf_Request_53 rfl rfl q7 q8 (by rw [eq_h9]; exact mm_Up_I _ _ _ _) (by rw [eq_h9]; exact up_vI rfl) (vp_nar_int _) rfl d_Request_readText_14 ?_
  refine V_aload_n hc 0 d_Request_readText_17 rfl rfl ?_
  refine V_aload_n hc 0 d_Request_readText_18 rfl rfl ?_
  obtain ⟨q10, hw⟩ := hw
  refine V_get (v := .int (mm_I h9 v0 15)) hc gf_Request_56 rfl q10 rfl d_Request_readText_19 ?_
  refine V_callV (rm' := rm_Request_skip) (As := [.int (mm_I h9 v0 15)]) (rest := []) (n := 1) (cn := 8) hc rfl q10 (sat_Request_skip (eG E) _ _ _ _ hw) rfl cv_Request_94 (gw_of (tw_2 (List.mem_of_getElem? (i := 204) rfl)) rfl) ss_Request_skip rfl ⟨by decide, by decide⟩ (by decide) (by decide) rfl (by simp [cat_rf, cat_i, cat_l]) d_Request_readText_22 (fun r0 h11 hw => ?_)
  obtain ⟨rfl, hw⟩ := hw
  refine V_wide (cs' := 0) (sl' := 0) (by decide) (by decide) ?_
  refine V_st (st' := []) rfl ?_
  exact V_vret hc hq ⟨rfl, hw⟩ (by decide) (by decide) d_Request_readText_25
def wq_Request_readText (ge : Nat → Nat) (v0 : Nat) (h : mm_M) (Z : mm_M → Prop) : Prop := wq_Request_readText_0 ge v0 h Z
theorem sat_Request_readText (G : mm_G) (v0 : Nat) (h : mm_M) (Z : mm_M → Prop) (hw : wq_Request_readText (mm_ge G) v0 h Z) : mm_Met G y_Request_readText c_Request_readText 1 none rm_Request_readText [va_rf (some v0)] h (pV Z) := by
  refine mm_intro (own := "EpochServer$Request") (by decide) rfl (by simp [lg_sl, cat_rf, cat_i, cat_l]) (fun E e1 hc hq hi => ?_)
  subst e1
  have e2 : lv_args 0 [va_rf (some v0)] = [(0, va_rf (some v0))] := by simp [lv_args, cat_rf, cat_i, cat_l]
  rw [e2]
  refine V_sub (lv' := [(0, va_rf (some v0))]) [0] rfl ?_
  exact vb_Request_readText_0 hc hq v0 h hw
