/-! Archiver.scoreOnly(LEpochServer$Tree;)V -/
abbrev rm_Archiver_scoreOnly : Room := { frames := 6, cells := 0, slots := 0, locals := 148 }
def wq_Archiver_scoreOnly_0  (ge : Nat → Nat) (v0 : Nat) (v1 : Option Nat) (h : mm_M) (Z : mm_M → Prop) : Prop :=
  mm_k h (v0) = kd_Archiver ∧ ge 0 ≤ v0 ∧ ∀ h3 : mm_M, h3 = mm_uI h (v0) 5 (0) → mm_k h3 (v0) = kd_Archiver ∧ wq_Archiver_goOver ge (v0) (v1) h3 (fun h5 : mm_M => Z h5)
set_option maxRecDepth 100000 in
set_option maxHeartbeats 4000000 in
theorem vb_Archiver_scoreOnly_0 {E : mm_E} {Z : mm_M → Prop} (hc : cx E "EpochServer$Archiver" c_Archiver_scoreOnly 2 none rm_Archiver_scoreOnly) (hq : cq E rm_Archiver_scoreOnly (pV Z))  (v0 : Nat) (v1 : Option Nat) (h : mm_M) (hw : wq_Archiver_scoreOnly_0  (mm_ge (eG E)) v0 v1 h Z) : V E 2 0 0 h 0 [(0, va_rf (some v0)), (1, va_rf (v1))] [] := by
  unfold wq_Archiver_scoreOnly_0 at hw
  refine V_aload_n hc 0 d_Archiver_scoreOnly_0 rfl rfl ?_
  refine V_iconst (v := 0) hc d_Archiver_scoreOnly_1 (by decide) ?_
  obtain ⟨q1, hw⟩ := hw
  obtain ⟨q2, hw⟩ := hw
  obtain ⟨h3, eq_h3⟩ : ∃ x, x = mm_uI h (v0) 5 (0) := ⟨_, rfl⟩
  replace hw := hw _ eq_h3
  refine V_put (h' := h3) hc gf_Archiver_41 rfl rfl q1 q2 (by rw [eq_h3]; exact mm_Up_I _ _ _ _) (by rw [eq_h3]; exact up_vI rfl) (by decide) (by decide) d_Archiver_scoreOnly_2 ?_
  refine V_aload_n hc 0 d_Archiver_scoreOnly_5 rfl rfl ?_
  refine V_aload_n hc 1 d_Archiver_scoreOnly_6 rfl rfl ?_
  obtain ⟨q4, hw⟩ := hw
  refine V_callV (rm' := rm_Archiver_goOver) (As := [va_rf (v1)]) (rest := []) (n := 1) (cn := 2) hc rfl q4 (sat_Archiver_goOver (eG E) _ _ _ _ hw) rfl cv_Archiver_55 (gw_of (tw_4 (List.mem_of_getElem? (i := 65) rfl)) rfl) ss_Archiver_goOver rfl ⟨by decide, by decide⟩ (by decide) (by decide) rfl (by simp [cat_rf, cat_i, cat_l]) d_Archiver_scoreOnly_7 (fun r0 h5 hw => ?_)
  obtain ⟨rfl, hw⟩ := hw
  refine V_wide (cs' := 0) (sl' := 0) (by decide) (by decide) ?_
  refine V_st (st' := []) rfl ?_
  exact V_vret hc hq ⟨rfl, hw⟩ (by decide) (by decide) d_Archiver_scoreOnly_10
def wq_Archiver_scoreOnly (ge : Nat → Nat) (v0 : Nat) (v1 : Option Nat) (h : mm_M) (Z : mm_M → Prop) : Prop := wq_Archiver_scoreOnly_0 ge v0 v1 h Z
theorem sat_Archiver_scoreOnly (G : mm_G) (v0 : Nat) (v1 : Option Nat) (h : mm_M) (Z : mm_M → Prop) (hw : wq_Archiver_scoreOnly (mm_ge G) v0 v1 h Z) : mm_Met G y_Archiver_scoreOnly c_Archiver_scoreOnly 2 none rm_Archiver_scoreOnly [va_rf (some v0), va_rf (v1)] h (pV Z) := by
  refine mm_intro (own := "EpochServer$Archiver") (by decide) rfl (by simp [lg_sl, cat_rf, cat_i, cat_l]) (fun E e1 hc hq hi => ?_)
  subst e1
  have e2 : lv_args 0 [va_rf (some v0), va_rf (v1)] = [(0, va_rf (some v0)), (1, va_rf (v1))] := by simp [lv_args, cat_rf, cat_i, cat_l]
  rw [e2]
  refine V_sub (lv' := [(0, va_rf (some v0)), (1, va_rf (v1))]) [0, 1] rfl ?_
  exact vb_Archiver_scoreOnly_0 hc hq v0 v1 h hw
/-! Archiver.copyRootScore([II)V -/
abbrev rm_Archiver_copyRootScore : Room := { frames := 0, cells := 0, slots := 0, locals := 0 }
def wq_Archiver_copyRootScore_36 (X2 : Nat → Option Nat → Int32 → Int32 → mm_M → Prop) (ge : Nat → Nat) (v0 : Nat) (v1 : Option Nat) (v2 : Int32) (v3 : Int32) (h : mm_M) (Z : mm_M → Prop) : Prop :=
  X2 (v0) (v1) (v2) (v3 + 1) h
def wq_Archiver_copyRootScore_2 (X2 : Nat → Option Nat → Int32 → Int32 → mm_M → Prop) (ge : Nat → Nat) (v0 : Nat) (v1 : Option Nat) (v2 : Int32) (v3 : Int32) (h : mm_M) (Z : mm_M → Prop) : Prop :=
  (((5 : Int32) ≤ (v3 : Int32) → Z h) ∧ (¬ (5 : Int32) ≤ (v3 : Int32) → ((((v2) + (v3)) < 0 → wq_Archiver_copyRootScore_36 X2 ge (v0) (v1) (v2) (v3) h Z) ∧ (¬ ((v2) + (v3)) < 0 → ∃ a1, v1 = some a1 ∧ mm_k h (a1) = ka_I ∧ (((Nat.toInt32 (mm_n h a1) : Int32) ≤ ((v2) + (v3) : Int32) → wq_Archiver_copyRootScore_36 X2 ge (v0) (v1) (v2) (v3) h Z) ∧ (¬ (Nat.toInt32 (mm_n h a1) : Int32) ≤ ((v2) + (v3) : Int32) → mm_k h (v0) = kd_Archiver ∧ ∃ a5, mm_P h v0 3 = some a5 ∧ mm_k h (a5) = ka_I ∧ vp_in ((0 : Int32) + (v3)) (mm_n h a5) ∧ vp_in ((v2) + (v3)) (mm_n h a1) ∧ ge 0 ≤ a1 ∧ ∀ h11 : mm_M, h11 = mm_uI h a1 (Int32.toNatClampNeg ((v2) + (v3))) (mm_I h a5 (Int32.toNatClampNeg ((0 : Int32) + (v3)))) → wq_Archiver_copyRootScore_36 X2 ge (v0) (v1) (v2) (v3) h11 Z))))))
def lp_Archiver_copyRootScore_2  (ge : Nat → Nat) (v0 : Nat) (v1 : Option Nat) (v2 : Int32) (v3 : Int32) (h : mm_M) (Z : mm_M → Prop) : Prop :=
  ∀ X2 : Nat → Option Nat → Int32 → Int32 → mm_M → Prop, (∀ (v0 : Nat) (v1 : Option Nat) (v2 : Int32) (v3 : Int32) (h : mm_M), wq_Archiver_copyRootScore_2 X2 ge v0 v1 v2 v3 h Z → X2 v0 v1 v2 v3 h) → X2 v0 v1 v2 v3 h
def wq_Archiver_copyRootScore_0  (ge : Nat → Nat) (v0 : Nat) (v1 : Option Nat) (v2 : Int32) (h : mm_M) (Z : mm_M → Prop) : Prop :=
  lp_Archiver_copyRootScore_2  ge (v0) (v1) (v2) (0) h Z
set_option maxRecDepth 100000 in
set_option maxHeartbeats 4000000 in
theorem vb_Archiver_copyRootScore_36 {E : mm_E} {Z : mm_M → Prop} (hc : cx E "EpochServer$Archiver" c_Archiver_copyRootScore 5 none rm_Archiver_copyRootScore) (hq : cq E rm_Archiver_copyRootScore (pV Z)) (X2 : Nat → Option Nat → Int32 → Int32 → mm_M → Prop) (hX2 : ∀ (v0 : Nat) (v1 : Option Nat) (v2 : Int32) (v3 : Int32) (h : mm_M), X2 v0 v1 v2 v3 h → V E 5 0 0 h 2 [(0, va_rf (some v0)), (1, va_rf (v1)), (2, .int (v2)), (3, .int (v3))] []) (v0 : Nat) (v1 : Option Nat) (v2 : Int32) (v3 : Int32) (h : mm_M) (hw : wq_Archiver_copyRootScore_36 X2 (mm_ge (eG E)) v0 v1 v2 v3 h Z) : V E 5 0 0 h 36 [(0, va_rf (some v0)), (1, va_rf (v1)), (2, .int (v2)), (3, .int (v3))] [] := by
  unfold wq_Archiver_copyRootScore_36 at hw
  refine V_iinc (v := v3 + 1) (lv' := [(3, .int (v3 + 1)), (0, va_rf (some v0)), (1, va_rf (v1)), (2, .int (v2))]) hc 3 d_Archiver_copyRootScore_36 rfl rfl (by decide) rfl ?_
  refine V_goto (tgt := 2) hc d_Archiver_copyRootScore_39 (by decide) ?_
  refine V_sub (lv' := [(0, va_rf (some v0)), (1, va_rf (v1)), (2, .int (v2)), (3, .int (v3 + 1))]) [1, 2, 3, 0] rfl ?_
  exact hX2 _ _ _ _ _ hw
set_option maxRecDepth 100000 in
set_option maxHeartbeats 4000000 in
theorem vb_Archiver_copyRootScore_2 {E : mm_E} {Z : mm_M → Prop} (hc : cx E "EpochServer$Archiver" c_Archiver_copyRootScore 5 none rm_Archiver_copyRootScore) (hq : cq E rm_Archiver_copyRootScore (pV Z)) (X2 : Nat → Option Nat → Int32 → Int32 → mm_M → Prop) (hX2 : ∀ (v0 : Nat) (v1 : Option Nat) (v2 : Int32) (v3 : Int32) (h : mm_M), X2 v0 v1 v2 v3 h → V E 5 0 0 h 2 [(0, va_rf (some v0)), (1, va_rf (v1)), (2, .int (v2)), (3, .int (v3))] []) (v0 : Nat) (v1 : Option Nat) (v2 : Int32) (v3 : Int32) (h : mm_M) (hw : wq_Archiver_copyRootScore_2 X2 (mm_ge (eG E)) v0 v1 v2 v3 h Z) : V E 5 0 0 h 2 [(0, va_rf (some v0)), (1, va_rf (v1)), (2, .int (v2)), (3, .int (v3))] [] := by
  unfold wq_Archiver_copyRootScore_2 at hw
  refine V_iload_n hc 3 d_Archiver_copyRootScore_2 rfl rfl ?_
  refine V_iconst (v := 5) hc d_Archiver_copyRootScore_3 (by decide) ?_
  refine V_icmp_ge (tgt := 42) hc d_Archiver_copyRootScore_4 (by decide) (fun hq1 => ?_) (fun hq1 => ?_)
  · replace hw := hw.1 hq1
    exact V_vret hc hq ⟨rfl, hw⟩ (by decide) (by decide) d_Archiver_copyRootScore_42
  · replace hw := hw.2 hq1
    refine V_iload_n hc 2 d_Archiver_copyRootScore_7 rfl rfl ?_
    refine V_iload_n hc 3 d_Archiver_copyRootScore_8 rfl rfl ?_
    refine V_iadd hc d_Archiver_copyRootScore_9 ?_
    refine V_istore (i := 4) (lv' := [(4, .int ((v2) + (v3))), (0, va_rf (some v0)), (1, va_rf (v1)), (2, .int (v2)), (3, .int (v3))]) hc d_Archiver_copyRootScore_10 (by decide) rfl ?_
    refine V_iload hc 0 d_Archiver_copyRootScore_12 rfl ?_
    refine V_if_lt (tgt := 36) hc d_Archiver_copyRootScore_14 (by decide) (fun hq1 => ?_) (fun hq1 => ?_)
    · replace hw := hw.1 hq1
      refine V_sub (lv' := [(0, va_rf (some v0)), (1, va_rf (v1)), (2, .int (v2)), (3, .int (v3))]) [1, 2, 3, 4] rfl ?_
      exact vb_Archiver_copyRootScore_36 hc hq X2 hX2 _ _ _ _ _ hw
    · replace hw := hw.2 hq1
      refine V_iload hc 0 d_Archiver_copyRootScore_17 rfl ?_
      refine V_aload_n hc 2 d_Archiver_copyRootScore_19 rfl rfl ?_
      obtain ⟨a1, q2, hw⟩ := hw
      obtain ⟨q3, hw⟩ := hw
      refine V_alen (t := 0) (ty := .int) hc rfl q2 q3 d_Archiver_copyRootScore_20 ?_
      refine V_icmp_ge (tgt := 36) hc d_Archiver_copyRootScore_21 (by decide) (fun hq1 => ?_) (fun hq1 => ?_)
      · replace hw := hw.1 hq1
        refine V_sub (lv' := [(0, va_rf (some v0)), (1, va_rf (v1)), (2, .int (v2)), (3, .int (v3))]) [1, 2, 3, 4] rfl ?_
        exact vb_Archiver_copyRootScore_36 hc hq X2 hX2 _ _ _ _ _ hw
      · replace hw := hw.2 hq1
        refine V_aload_n hc 2 d_Archiver_copyRootScore_24 rfl rfl ?_
        refine V_iload hc 0 d_Archiver_copyRootScore_25 rfl ?_
        refine V_aload_n hc 1 d_Archiver_copyRootScore_27 rfl rfl ?_
        obtain ⟨q4, hw⟩ := hw
        refine V_get (v := va_rf (mm_P h v0 3)) hc gf_Archiver_34 rfl q4 rfl d_Archiver_copyRootScore_28 ?_
        refine V_iconst (v := 0) hc d_Archiver_copyRootScore_31 (by decide) ?_
        refine V_iload_n hc 4 d_Archiver_copyRootScore_32 rfl rfl ?_
        refine V_iadd hc d_Archiver_copyRootScore_33 ?_
        obtain ⟨a5, q6, hw⟩ := hw
        obtain ⟨q7, hw⟩ := hw
        obtain ⟨q8, hw⟩ := hw
        refine V_iald hc q6 q7 q8 d_Archiver_copyRootScore_34 ?_
        obtain ⟨q9, hw⟩ := hw
        obtain ⟨q10, hw⟩ := hw
        obtain ⟨h11, eq_h11⟩ : ∃ x, x = mm_uI h a1 (Int32.toNatClampNeg ((v2) + (v3))) (mm_I h a5 (Int32.toNatClampNeg ((0 : Int32) + (v3)))) := ⟨_, rfl⟩
        replace hw := hw _ eq_h11
        refine V_iast hc q2 q3 q9 q10 d_Archiver_copyRootScore_35 ?_
        rw [← eq_h11]
        refine V_sub (lv' := [(0, va_rf (some v0)), (1, va_rf (v1)), (2, .int (v2)), (3, .int (v3))]) [1, 2, 3, 4] rfl ?_
        exact vb_Archiver_copyRootScore_36 hc hq X2 hX2 _ _ _ _ _ hw
theorem vl_Archiver_copyRootScore_2 {E : mm_E} {Z : mm_M → Prop} (hc : cx E "EpochServer$Archiver" c_Archiver_copyRootScore 5 none rm_Archiver_copyRootScore) (hq : cq E rm_Archiver_copyRootScore (pV Z))  (v0 : Nat) (v1 : Option Nat) (v2 : Int32) (v3 : Int32) (h : mm_M) (hw : lp_Archiver_copyRootScore_2  (mm_ge (eG E)) v0 v1 v2 v3 h Z) : V E 5 0 0 h 2 [(0, va_rf (some v0)), (1, va_rf (v1)), (2, .int (v2)), (3, .int (v3))] [] :=
  hw (fun v0 v1 v2 v3 h => V E 5 0 0 h 2 [(0, va_rf (some v0)), (1, va_rf (v1)), (2, .int (v2)), (3, .int (v3))] []) (fun v0 v1 v2 v3 h hb => vb_Archiver_copyRootScore_2 hc hq  _ (fun _ _ _ _ _ q => q) v0 v1 v2 v3 h hb)
set_option maxRecDepth 100000 in
set_option maxHeartbeats 4000000 in
theorem vb_Archiver_copyRootScore_0 {E : mm_E} {Z : mm_M → Prop} (hc : cx E "EpochServer$Archiver" c_Archiver_copyRootScore 5 none rm_Archiver_copyRootScore) (hq : cq E rm_Archiver_copyRootScore (pV Z))  (v0 : Nat) (v1 : Option Nat) (v2 : Int32) (h : mm_M) (hw : wq_Archiver_copyRootScore_0  (mm_ge (eG E)) v0 v1 v2 h Z) : V E 5 0 0 h 0 [(0, va_rf (some v0)), (1, va_rf (v1)), (2, .int (v2))] [] := by
  unfold wq_Archiver_copyRootScore_0 at hw
  refine V_iconst (v := 0) hc d_Archiver_copyRootScore_0 (by decide) ?_
  refine V_istore_n (i := 3) (lv' := [(3, .int (0)), (0, va_rf (some v0)), (1, va_rf (v1)), (2, .int (v2))]) hc d_Archiver_copyRootScore_1 rfl (by decide) rfl ?_
  refine V_sub (lv' := [(0, va_rf (some v0)), (1, va_rf (v1)), (2, .int (v2)), (3, .int (0))]) [1, 2, 3, 0] rfl ?_
  exact vl_Archiver_copyRootScore_2 hc hq  _ _ _ _ _ hw
def wq_Archiver_copyRootScore (ge : Nat → Nat) (v0 : Nat) (v1 : Option Nat) (v2 : Int32) (h : mm_M) (Z : mm_M → Prop) : Prop := wq_Archiver_copyRootScore_0 ge v0 v1 v2 h Z
theorem sat_Archiver_copyRootScore (G : mm_G) (v0 : Nat) (v1 : Option Nat) (v2 : Int32) (h : mm_M) (Z : mm_M → Prop) (hw : wq_Archiver_copyRootScore (mm_ge G) v0 v1 v2 h Z) : mm_Met G y_Archiver_copyRootScore c_Archiver_copyRootScore 5 none rm_Archiver_copyRootScore [va_rf (some v0), va_rf (v1), .int (v2)] h (pV Z) := by
  refine mm_intro (own := "EpochServer$Archiver") (by decide) rfl (by simp [lg_sl, cat_rf, cat_i, cat_l]) (fun E e1 hc hq hi => ?_)
  subst e1
  have e2 : lv_args 0 [va_rf (some v0), va_rf (v1), .int (v2)] = [(0, va_rf (some v0)), (1, va_rf (v1)), (2, .int (v2))] := by simp [lv_args, cat_rf, cat_i, cat_l]
  rw [e2]
  refine V_sub (lv' := [(0, va_rf (some v0)), (1, va_rf (v1)), (2, .int (v2))]) [0, 1, 2] rfl ?_
  exact vb_Archiver_copyRootScore_0 hc hq v0 v1 v2 h hw
/-! Bytes.room()I -/
abbrev rm_Bytes_room : Room := { frames := 0, cells := 0, slots := 0, locals := 0 }
def wq_Bytes_room_0  (ge : Nat → Nat) (v0 : Nat) (h : mm_M) (Z : Int32 → mm_M → Prop) : Prop :=
  mm_k h (v0) = kd_Bytes ∧ ∃ a2, mm_P h v0 0 = some a2 ∧ mm_k h (a2) = ka_B ∧ Z ((Nat.toInt32 (mm_n h a2)) - (mm_I h v0 1)) h
set_option maxRecDepth 100000 in
set_option maxHeartbeats 4000000 in
theorem vb_Bytes_room_0 {E : mm_E} {Z : Int32 → mm_M → Prop} (hc : cx E "EpochServer$Bytes" c_Bytes_room 1 (some (.int)) rm_Bytes_room) (hq : cq E rm_Bytes_room (pI Z))  (v0 : Nat) (h : mm_M) (hw : wq_Bytes_room_0  (mm_ge (eG E)) v0 h Z) : V E 1 0 0 h 0 [(0, va_rf (some v0))] [] := by
  unfold wq_Bytes_room_0 at hw
  refine V_aload_n hc 0 d_Bytes_room_0 rfl rfl ?_
  obtain ⟨q1, hw⟩ := hw
  refine V_get (v := va_rf (mm_P h v0 0)) hc gf_Bytes_19 rfl q1 rfl d_Bytes_room_1 ?_
  obtain ⟨a2, q3, hw⟩ := hw
  obtain ⟨q4, hw⟩ := hw
  refine V_alen (t := 1) (ty := .byte) hc rfl q3 q4 d_Bytes_room_4 ?_
  refine V_aload_n hc 0 d_Bytes_room_5 rfl rfl ?_
  refine V_get (v := .int (mm_I h v0 1)) hc gf_Bytes_7 rfl q1 rfl d_Bytes_room_6 ?_
  refine V_isub hc d_Bytes_room_9 ?_
  exact V_iret hc hq ⟨_, rfl, hw⟩ (by decide) (by decide) d_Bytes_room_10
def wq_Bytes_room (ge : Nat → Nat) (v0 : Nat) (h : mm_M) (Z : Int32 → mm_M → Prop) : Prop := wq_Bytes_room_0 ge v0 h Z
theorem sat_Bytes_room (G : mm_G) (v0 : Nat) (h : mm_M) (Z : Int32 → mm_M → Prop) (hw : wq_Bytes_room (mm_ge G) v0 h Z) : mm_Met G y_Bytes_room c_Bytes_room 1 (some (.int)) rm_Bytes_room [va_rf (some v0)] h (pI Z) := by
  refine mm_intro (own := "EpochServer$Bytes") (by decide) rfl (by simp [lg_sl, cat_rf, cat_i, cat_l]) (fun E e1 hc hq hi => ?_)
  subst e1
  have e2 : lv_args 0 [va_rf (some v0)] = [(0, va_rf (some v0))] := by simp [lv_args, cat_rf, cat_i, cat_l]
  rw [e2]
  refine V_sub (lv' := [(0, va_rf (some v0))]) [0] rfl ?_
  exact vb_Bytes_room_0 hc hq v0 h hw
/-! Bytes.at(I)I -/
abbrev rm_Bytes_at : Room := { frames := 0, cells := 0, slots := 0, locals := 0 }
def wq_Bytes_at_26  (ge : Nat → Nat) (s0 : Int32) (h : mm_M) (Z : Int32 → mm_M → Prop) : Prop :=
  Z (s0) h
def wq_Bytes_at_12  (ge : Nat → Nat)  (h : mm_M) (Z : Int32 → mm_M → Prop) : Prop :=
  wq_Bytes_at_26  ge ((-1)) h Z
def wq_Bytes_at_0  (ge : Nat → Nat) (v0 : Nat) (v1 : Int32) (h : mm_M) (Z : Int32 → mm_M → Prop) : Prop :=
  (((v1) < 0 → wq_Bytes_at_12  ge h Z) ∧ (¬ (v1) < 0 → mm_k h (v0) = kd_Bytes ∧ (((v1 : Int32) < (mm_I h v0 1 : Int32) → ∃ a2, mm_P h v0 0 = some a2 ∧ mm_k h (a2) = ka_B ∧ vp_in (v1) (mm_n h a2) ∧ wq_Bytes_at_26  ge ((mm_I h a2 (Int32.toNatClampNeg (v1))) &&& (255 : Int32)) h Z) ∧ (¬ (v1 : Int32) < (mm_I h v0 1 : Int32) → wq_Bytes_at_12  ge h Z))))
set_option maxRecDepth 100000 in
set_option maxHeartbeats 4000000 in
theorem vb_Bytes_at_26 {E : mm_E} {Z : Int32 → mm_M → Prop} (hc : cx E "EpochServer$Bytes" c_Bytes_at 2 (some (.int)) rm_Bytes_at) (hq : cq E rm_Bytes_at (pI Z))  (s0 : Int32) (h : mm_M) (hw : wq_Bytes_at_26  (mm_ge (eG E)) s0 h Z) : V E 2 0 0 h 26 [] [.int (s0)] := by
  unfold wq_Bytes_at_26 at hw
  exact V_iret hc hq ⟨_, rfl, hw⟩ (by decide) (by decide) d_Bytes_at_26
set_option maxRecDepth 100000 in
set_option maxHeartbeats 4000000 in
theorem vb_Bytes_at_12 {E : mm_E} {Z : Int32 → mm_M → Prop} (hc : cx E "EpochServer$Bytes" c_Bytes_at 2 (some (.int)) rm_Bytes_at) (hq : cq E rm_Bytes_at (pI Z))   (h : mm_M) (hw : wq_Bytes_at_12  (mm_ge (eG E))  h Z) : V E 2 0 0 h 12 [] [] := by
  unfold wq_Bytes_at_12 at hw
  refine V_iconst (v := (-1)) hc d_Bytes_at_12 (by decide) ?_
  refine V_goto (tgt := 26) hc d_Bytes_at_13 (by decide) ?_
  refine V_sub (lv' := []) [] rfl ?_
  exact vb_Bytes_at_26 hc hq  _ _ hw
set_option maxRecDepth 100000 in
set_option maxHeartbeats 4000000 in
theorem vb_Bytes_at_0 {E : mm_E} {Z : Int32 → mm_M → Prop} (hc : cx E "EpochServer$Bytes" c_Bytes_at 2 (some (.int)) rm_Bytes_at) (hq : cq E rm_Bytes_at (pI Z))  (v0 : Nat) (v1 : Int32) (h : mm_M) (hw : wq_Bytes_at_0  (mm_ge (eG E)) v0 v1 h Z) : V E 2 0 0 h 0 [(0, va_rf (some v0)), (1, .int (v1))] [] := by
  unfold wq_Bytes_at_0 at hw
  refine V_iload_n hc 1 d_Bytes_at_0 rfl rfl ?_
  refine V_if_lt (tgt := 12) hc d_Bytes_at_1 (by decide) (fun hq1 => ?_) (fun hq1 => ?_)
  · replace hw := hw.1 hq1
    refine V_sub (lv' := []) [] rfl ?_
    exact vb_Bytes_at_12 hc hq  _ hw
  · replace hw := hw.2 hq1
    refine V_iload_n hc 1 d_Bytes_at_4 rfl rfl ?_
    refine V_aload_n hc 0 d_Bytes_at_5 rfl rfl ?_
    obtain ⟨q1, hw⟩ := hw
    refine V_get (v := .int (mm_I h v0 1)) hc gf_Bytes_7 rfl q1 rfl d_Bytes_at_6 ?_
    refine V_icmp_lt (tgt := 16) hc d_Bytes_at_9 (by decide) (fun hq1 => ?_) (fun hq1 => ?_)
    · replace hw := hw.1 hq1
      refine V_aload_n hc 0 d_Bytes_at_16 rfl rfl ?_
      refine V_get (v := va_rf (mm_P h v0 0)) hc gf_Bytes_19 rfl q1 rfl d_Bytes_at_17 ?_
      refine V_iload_n hc 1 d_Bytes_at_20 rfl rfl ?_
      obtain ⟨a2, q3, hw⟩ := hw
      obtain ⟨q4, hw⟩ := hw
      obtain ⟨q5, hw⟩ := hw
      refine V_bald hc q3 q4 q5 d_Bytes_at_21 ?_
      refine V_sipush (v := 255) hc d_Bytes_at_22 (by decide) ?_
      refine V_iand hc d_Bytes_at_25 ?_
      refine V_sub (lv' := []) [] rfl ?_
      exact vb_Bytes_at_26 hc hq  _ _ hw
    · replace hw := hw.2 hq1
      refine V_sub (lv' := []) [] rfl ?_
      exact vb_Bytes_at_12 hc hq  _ hw
def wq_Bytes_at (ge : Nat → Nat) (v0 : Nat) (v1 : Int32) (h : mm_M) (Z : Int32 → mm_M → Prop) : Prop := wq_Bytes_at_0 ge v0 v1 h Z
theorem sat_Bytes_at (G : mm_G) (v0 : Nat) (v1 : Int32) (h : mm_M) (Z : Int32 → mm_M → Prop) (hw : wq_Bytes_at (mm_ge G) v0 v1 h Z) : mm_Met G y_Bytes_at c_Bytes_at 2 (some (.int)) rm_Bytes_at [va_rf (some v0), .int (v1)] h (pI Z) := by
  refine mm_intro (own := "EpochServer$Bytes") (by decide) rfl (by simp [lg_sl, cat_rf, cat_i, cat_l]) (fun E e1 hc hq hi => ?_)
  subst e1
  have e2 : lv_args 0 [va_rf (some v0), .int (v1)] = [(0, va_rf (some v0)), (1, .int (v1))] := by simp [lv_args, cat_rf, cat_i, cat_l]
  rw [e2]
  refine V_sub (lv' := [(0, va_rf (some v0)), (1, .int (v1))]) [0, 1] rfl ?_
  exact vb_Bytes_at_0 hc hq v0 v1 h hw
/-! Bytes.set(III)V -/
abbrev rm_Bytes_set : Room := { frames := 0, cells := 0, slots := 0, locals := 0 }
def wq_Bytes_set_41 (X3 : Nat → Int32 → Int32 → Int32 → Int32 → mm_M → Prop) (ge : Nat → Nat) (v0 : Nat) (v1 : Int32) (v2 : Int32) (v3 : Int32) (v4 : Int32) (h : mm_M) (Z : mm_M → Prop) : Prop :=
  X3 (v0) (v1) (v2) (v3) (v4 + 1) h
def wq_Bytes_set_3 (X3 : Nat → Int32 → Int32 → Int32 → Int32 → mm_M → Prop) (ge : Nat → Nat) (v0 : Nat) (v1 : Int32) (v2 : Int32) (v3 : Int32) (v4 : Int32) (h : mm_M) (Z : mm_M → Prop) : Prop :=
  (((v3 : Int32) ≤ (v4 : Int32) → Z h) ∧ (¬ (v3 : Int32) ≤ (v4 : Int32) → (((v1) < 0 → wq_Bytes_set_41 X3 ge (v0) (v1) (v2) (v3) (v4) h Z) ∧ (¬ (v1) < 0 → mm_k h (v0) = kd_Bytes ∧ ((((mm_I h v0 1) - (v4) : Int32) ≤ (v1 : Int32) → wq_Bytes_set_41 X3 ge (v0) (v1) (v2) (v3) (v4) h Z) ∧ (¬ ((mm_I h v0 1) - (v4) : Int32) ≤ (v1 : Int32) → ∃ a2, mm_P h v0 0 = some a2 ∧ mm_k h (a2) = ka_B ∧ vp_in ((v1) + (v4)) (mm_n h a2) ∧ ge 0 ≤ a2 ∧ ∀ h7 : mm_M, h7 = mm_uI h a2 (Int32.toNatClampNeg ((v1) + (v4))) (vp_nar .byte (Int8.toInt32 (Int32.toInt8 ((v2) >>> (((8 : Int32) * (v4)) &&& 31))))) → wq_Bytes_set_41 X3 ge (v0) (v1) (v2) (v3) (v4) h7 Z))))))
def lp_Bytes_set_3  (ge : Nat → Nat) (v0 : Nat) (v1 : Int32) (v2 : Int32) (v3 : Int32) (v4 : Int32) (h : mm_M) (Z : mm_M → Prop) : Prop :=
  ∀ X3 : Nat → Int32 → Int32 → Int32 → Int32 → mm_M → Prop, (∀ (v0 : Nat) (v1 : Int32) (v2 : Int32) (v3 : Int32) (v4 : Int32) (h : mm_M), wq_Bytes_set_3 X3 ge v0 v1 v2 v3 v4 h Z → X3 v0 v1 v2 v3 v4 h) → X3 v0 v1 v2 v3 v4 h
def wq_Bytes_set_0  (ge : Nat → Nat) (v0 : Nat) (v1 : Int32) (v2 : Int32) (v3 : Int32) (h : mm_M) (Z : mm_M → Prop) : Prop :=
  lp_Bytes_set_3  ge (v0) (v1) (v2) (v3) (0) h Z
set_option maxRecDepth 100000 in
set_option maxHeartbeats 4000000 in
theorem vb_Bytes_set_41 {E : mm_E} {Z : mm_M → Prop} (hc : cx E "EpochServer$Bytes" c_Bytes_set 5 none rm_Bytes_set) (hq : cq E rm_Bytes_set (pV Z)) (X3 : Nat → Int32 → Int32 → Int32 → Int32 → mm_M → Prop) (hX3 : ∀ (v0 : Nat) (v1 : Int32) (v2 : Int32) (v3 : Int32) (v4 : Int32) (h : mm_M), X3 v0 v1 v2 v3 v4 h → V E 5 0 0 h 3 [(0, va_rf (some v0)), (1, .int (v1)), (2, .int (v2)), (3, .int (v3)), (4, .int (v4))] []) (v0 : Nat) (v1 : Int32) (v2 : Int32) (v3 : Int32) (v4 : Int32) (h : mm_M) (hw : wq_Bytes_set_41 X3 (mm_ge (eG E)) v0 v1 v2 v3 v4 h Z) : V E 5 0 0 h 41 [(0, va_rf (some v0)), (1, .int (v1)), (2, .int (v2)), (3, .int (v3)), (4, .int (v4))] [] := by
  unfold wq_Bytes_set_41 at hw
  refine V_iinc (v := v4 + 1) (lv' := [(4, .int (v4 + 1)), (0, va_rf (some v0)), (1, .int (v1)), (2, .int (v2)), (3, .int (v3))]) hc 4 d_Bytes_set_41 rfl rfl (by decide) rfl ?_
  refine V_goto (tgt := 3) hc d_Bytes_set_44 (by decide) ?_
  refine V_sub (lv' := [(0, va_rf (some v0)), (1, .int (v1)), (2, .int (v2)), (3, .int (v3)), (4, .int (v4 + 1))]) [1, 2, 3, 4, 0] rfl ?_
  exact hX3 _ _ _ _ _ _ hw
set_option maxRecDepth 100000 in
set_option maxHeartbeats 4000000 in
theorem vb_Bytes_set_3 {E : mm_E} {Z : mm_M → Prop} (hc : cx E "EpochServer$Bytes" c_Bytes_set 5 none rm_Bytes_set) (hq : cq E rm_Bytes_set (pV Z)) (X3 : Nat → Int32 → Int32 → Int32 → Int32 → mm_M → Prop) (hX3 : ∀ (v0 : Nat) (v1 : Int32) (v2 : Int32) (v3 : Int32) (v4 : Int32) (h : mm_M), X3 v0 v1 v2 v3 v4 h → V E 5 0 0 h 3 [(0, va_rf (some v0)), (1, .int (v1)), (2, .int (v2)), (3, .int (v3)), (4, .int (v4))] []) (v0 : Nat) (v1 : Int32) (v2 : Int32) (v3 : Int32) (v4 : Int32) (h : mm_M) (hw : wq_Bytes_set_3 X3 (mm_ge (eG E)) v0 v1 v2 v3 v4 h Z) : V E 5 0 0 h 3 [(0, va_rf (some v0)), (1, .int (v1)), (2, .int (v2)), (3, .int (v3)), (4, .int (v4))] [] := by
  unfold wq_Bytes_set_3 at hw
  refine V_iload hc 4 d_Bytes_set_3 rfl ?_
  refine V_iload_n hc 3 d_Bytes_set_5 rfl rfl ?_
  refine V_icmp_ge (tgt := 47) hc d_Bytes_set_6 (by decide) (fun hq1 => ?_) (fun hq1 => ?_)
  · replace hw := hw.1 hq1
    exact V_vret hc hq ⟨rfl, hw⟩ (by decide) (by decide) d_Bytes_set_47
  · replace hw := hw.2 hq1
    refine V_iload_n hc 1 d_Bytes_set_9 rfl rfl ?_
    refine V_if_lt (tgt := 41) hc d_Bytes_set_10 (by decide) (fun hq1 => ?_) (fun hq1 => ?_)
    · replace hw := hw.1 hq1
      refine V_sub (lv' := [(0, va_rf (some v0)), (1, .int (v1)), (2, .int (v2)), (3, .int (v3)), (4, .int (v4))]) [0, 1, 2, 3, 4] rfl ?_
      exact vb_Bytes_set_41 hc hq X3 hX3 _ _ _ _ _ _ hw
    · replace hw := hw.2 hq1
      refine V_iload_n hc 1 d_Bytes_set_13 rfl rfl ?_
      refine V_aload_n hc 0 d_Bytes_set_14 rfl rfl ?_
      obtain ⟨q1, hw⟩ := hw
      refine V_get (v := .int (mm_I h v0 1)) hc gf_Bytes_7 rfl q1 rfl d_Bytes_set_15 ?_
      refine V_iload hc 4 d_Bytes_set_18 rfl ?_
      refine V_isub hc d_Bytes_set_20 ?_
      refine V_icmp_ge (tgt := 41) hc d_Bytes_set_21 (by decide) (fun hq1 => ?_) (fun hq1 => ?_)
      · replace hw := hw.1 hq1
        refine V_sub (lv' := [(0, va_rf (some v0)), (1, .int (v1)), (2, .int (v2)), (3, .int (v3)), (4, .int (v4))]) [0, 1, 2, 3, 4] rfl ?_
        exact vb_Bytes_set_41 hc hq X3 hX3 _ _ _ _ _ _ hw
      · replace hw := hw.2 hq1
        refine V_aload_n hc 0 d_Bytes_set_24 rfl rfl ?_
        refine V_get (v := va_rf (mm_P h v0 0)) hc gf_Bytes_19 rfl q1 rfl d_Bytes_set_25 ?_
        refine V_iload_n hc 1 d_Bytes_set_28 rfl rfl ?_
        refine V_iload hc 4 d_Bytes_set_29 rfl ?_
        refine V_iadd hc d_Bytes_set_31 ?_
        refine V_iload_n hc 2 d_Bytes_set_32 rfl rfl ?_
        refine V_bipush (v := 8) hc d_Bytes_set_33 (by decide) ?_
        refine V_iload hc 4 d_Bytes_set_35 rfl ?_
        refine V_imul hc d_Bytes_set_37 ?_
        refine V_ishr hc d_Bytes_set_38 ?_
        refine V_i2b hc d_Bytes_set_39 ?_
        obtain ⟨a2, q3, hw⟩ := hw
        obtain ⟨q4, hw⟩ := hw
        obtain ⟨q5, hw⟩ := hw
        obtain ⟨q6, hw⟩ := hw
        obtain ⟨h7, eq_h7⟩ : ∃ x, x = mm_uI h a2 (Int32.toNatClampNeg ((v1) + (v4))) (vp_nar .byte (Int8.toInt32 (Int32.toInt8 ((v2) >>> (((8 : Int32) * (v4)) &&& 31))))) := ⟨_, rfl⟩
        replace hw := hw _ eq_h7
        refine V_bast hc q3 q4 q5 q6 d_Bytes_set_40 ?_
        rw [← eq_h7]
        refine V_sub (lv' := [(0, va_rf (some v0)), (1, .int (v1)), (2, .int (v2)), (3, .int (v3)), (4, .int (v4))]) [0, 1, 2, 3, 4] rfl ?_
        exact vb_Bytes_set_41 hc hq X3 hX3 _ _ _ _ _ _ hw
theorem vl_Bytes_set_3 {E : mm_E} {Z : mm_M → Prop} (hc : cx E "EpochServer$Bytes" c_Bytes_set 5 none rm_Bytes_set) (hq : cq E rm_Bytes_set (pV Z))  (v0 : Nat) (v1 : Int32) (v2 : Int32) (v3 : Int32) (v4 : Int32) (h : mm_M) (hw : lp_Bytes_set_3  (mm_ge (eG E)) v0 v1 v2 v3 v4 h Z) : V E 5 0 0 h 3 [(0, va_rf (some v0)), (1, .int (v1)), (2, .int (v2)), (3, .int (v3)), (4, .int (v4))] [] :=
  hw (fun v0 v1 v2 v3 v4 h => V E 5 0 0 h 3 [(0, va_rf (some v0)), (1, .int (v1)), (2, .int (v2)), (3, .int (v3)), (4, .int (v4))] []) (fun v0 v1 v2 v3 v4 h hb => vb_Bytes_set_3 hc hq  _ (fun _ _ _ _ _ _ q => q) v0 v1 v2 v3 v4 h hb)
set_option maxRecDepth 100000 in
set_option maxHeartbeats 4000000 in
theorem vb_Bytes_set_0 {E : mm_E} {Z : mm_M → Prop} (hc : cx E "EpochServer$Bytes" c_Bytes_set 5 none rm_Bytes_set) (hq : cq E rm_Bytes_set (pV Z))  (v0 : Nat) (v1 : Int32) (v2 : Int32) (v3 : Int32) (h : mm_M) (hw : wq_Bytes_set_0  (mm_ge (eG E)) v0 v1 v2 v3 h Z) : V E 5 0 0 h 0 [(0, va_rf (some v0)), (1, .int (v1)), (2, .int (v2)), (3, .int (v3))] [] := by
  unfold wq_Bytes_set_0 at hw
  refine V_iconst (v := 0) hc d_Bytes_set_0 (by decide) ?_
  refine V_istore (i := 4) (lv' := [(4, .int (0)), (0, va_rf (some v0)), (1, .int (v1)), (2, .int (v2)), (3, .int (v3))]) hc d_Bytes_set_1 (by decide) rfl ?_
  refine V_sub (lv' := [(0, va_rf (some v0)), (1, .int (v1)), (2, .int (v2)), (3, .int (v3)), (4, .int (0))]) [1, 2, 3, 4, 0] rfl ?_
  exact vl_Bytes_set_3 hc hq  _ _ _ _ _ _ hw
def wq_Bytes_set (ge : Nat → Nat) (v0 : Nat) (v1 : Int32) (v2 : Int32) (v3 : Int32) (h : mm_M) (Z : mm_M → Prop) : Prop := wq_Bytes_set_0 ge v0 v1 v2 v3 h Z
theorem sat_Bytes_set (G : mm_G) (v0 : Nat) (v1 : Int32) (v2 : Int32) (v3 : Int32) (h : mm_M) (Z : mm_M → Prop) (hw : wq_Bytes_set (mm_ge G) v0 v1 v2 v3 h Z) : mm_Met G y_Bytes_set c_Bytes_set 5 none rm_Bytes_set [va_rf (some v0), .int (v1), .int (v2), .int (v3)] h (pV Z) := by
  refine mm_intro (own := "EpochServer$Bytes") (by decide) rfl (by simp [lg_sl, cat_rf, cat_i, cat_l]) (fun E e1 hc hq hi => ?_)
  subst e1
  have e2 : lv_args 0 [va_rf (some v0), .int (v1), .int (v2), .int (v3)] = [(0, va_rf (some v0)), (1, .int (v1)), (2, .int (v2)), (3, .int (v3))] := by simp [lv_args, cat_rf, cat_i, cat_l]
  rw [e2]
  refine V_sub (lv' := [(0, va_rf (some v0)), (1, .int (v1)), (2, .int (v2)), (3, .int (v3))]) [0, 1, 2, 3] rfl ?_
  exact vb_Bytes_set_0 hc hq v0 v1 v2 v3 h hw
/-! Fid.<init>()V -/
abbrev rm_Fid_init : Room := { frames := 1, cells := 0, slots := 0, locals := 24 }
def wq_Fid_init_0  (ge : Nat → Nat) (v0 : Nat) (h : mm_M) (Z : mm_M → Prop) : Prop :=
  mm_k h (v0) = kd_Fid ∧ ge 0 ≤ v0 ∧ ∀ h3 : mm_M, h3 = mm_uI h (v0) 0 (0) → mm_k h3 (v0) = kd_Fid ∧ ge 0 ≤ v0 ∧ ∀ h6 : mm_M, h6 = mm_uI h3 (v0) 1 (0) → mm_k h6 (v0) = kd_Fid ∧ ge 0 ≤ v0 ∧ ∀ h9 : mm_M, h9 = mm_uI h6 (v0) 2 ((-1)) → mm_k h9 (v0) = kd_Fid ∧ ge 0 ≤ v0 ∧ ∀ h12 : mm_M, h12 = mm_uI h9 (v0) 3 (0) → mm_k h12 (v0) = kd_Fid ∧ ge 0 ≤ v0 ∧ ∀ h15 : mm_M, h15 = mm_uI h12 (v0) 4 (0) → mm_k h15 (v0) = kd_Fid ∧ ge 0 ≤ v0 ∧ ∀ h18 : mm_M, h18 = mm_uI h15 (v0) 5 (0) → mm_k h18 (v0) = kd_Fid ∧ ge 0 ≤ v0 ∧ ∀ h21 : mm_M, h21 = mm_uI h18 (v0) 6 (0) → mm_k h21 (v0) = kd_Fid ∧ ge 0 ≤ v0 ∧ ∀ h24 : mm_M, h24 = mm_uI h21 (v0) 7 (0) → Z h24
set_option maxRecDepth 100000 in
set_option maxHeartbeats 4000000 in
theorem vb_Fid_init_0 {E : mm_E} {Z : mm_M → Prop} (hc : cx E "EpochServer$Fid" c_Fid_init 1 none rm_Fid_init) (hq : cq E rm_Fid_init (pV Z)) (hin : ci E)  (v0 : Nat) (h : mm_M) (hw : wq_Fid_init_0  (mm_ge (eG E)) v0 h Z) : V E 1 0 0 h 0 [(0, va_rf (some v0))] [] := by
  unfold wq_Fid_init_0 at hw
  refine V_aload_n hc 0 d_Fid_init_0 rfl rfl ?_
  refine V_objInit hc rfl (gw_of (tw_1 (List.mem_of_getElem? (i := 129) rfl)) rfl) (gw_of (tw_1 (List.mem_of_getElem? (i := 27) rfl)) rfl) (gw_of (tw_1 (List.mem_of_getElem? (i := 28) rfl)) rfl) d_Fid_init_1 (by decide) (by decide) ?_
  refine V_aload_n hc 0 d_Fid_init_4 rfl rfl ?_
  refine V_iconst (v := 0) hc d_Fid_init_5 (by decide) ?_
  obtain ⟨q1, hw⟩ := hw
  obtain ⟨q2, hw⟩ := hw
  obtain ⟨h3, eq_h3⟩ : ∃ x, x = mm_uI h (v0) 0 (0) := ⟨_, rfl⟩
  replace hw := hw _ eq_h3
  refine V_put (h' := h3) hc gf_Fid_9 rfl rfl q1 q2 (by rw [eq_h3]; exact mm_Up_I _ _ _ _) (by rw [eq_h3]; exact up_vI rfl) (by decide) (by decide) d_Fid_init_6 ?_
  refine V_aload_n hc 0 d_Fid_init_9 rfl rfl ?_
  refine V_iconst (v := 0) hc d_Fid_init_10 (by decide) ?_
  obtain ⟨q4, hw⟩ := hw
  obtain ⟨q5, hw⟩ := hw
  obtain ⟨h6, eq_h6⟩ : ∃ x, x = mm_uI h3 (v0) 1 (0) := ⟨_, rfl⟩
  replace hw := hw _ eq_h6
  refine V_put (h' := h6) hc gf_Fid_15 rfl rfl q4 q5 (by rw [eq_h6]; exact mm_Up_I _ _ _ _) (by rw [eq_h6]; exact up_vI rfl) (vp_nar_int _) rfl d_Fid_init_11 ?_
  refine V_aload_n hc 0 d_Fid_init_14 rfl rfl ?_
  refine V_iconst (v := (-1)) hc d_Fid_init_15 (by decide) ?_
  obtain ⟨q7, hw⟩ := hw
  obtain ⟨q8, hw⟩ := hw
  obtain ⟨h9, eq_h9⟩ : ∃ x, x = mm_uI h6 (v0) 2 ((-1)) := ⟨_, rfl⟩
  replace hw := hw _ eq_h9
  refine V_put (h' := h9) hc gf_Fid_19 rfl rfl q7 q8 (by rw [eq_h9]; exact mm_Up_I _ _ _ _) (by rw [eq_h9]; exact up_vI rfl) (vp_nar_int _) rfl d_Fid_init_16 ?_
  refine V_aload_n hc 0 d_Fid_init_19 rfl rfl ?_
  refine V_iconst (v := 0) hc d_Fid_init_20 (by decide) ?_
  obtain ⟨q10, hw⟩ := hw
  obtain ⟨q11, hw⟩ := hw
  obtain ⟨h12, eq_h12⟩ : ∃ x, x = mm_uI h9 (v0) 3 (0) := ⟨_, rfl⟩
  replace hw := hw _ eq_h12
  refine V_put (h' := h12) hc gf_Fid_22 rfl rfl q10 q11 (by rw [eq_h12]; exact mm_Up_I _ _ _ _) (by rw [eq_h12]; exact up_vI rfl) (vp_nar_int _) rfl d_Fid_init_21 ?_
  refine V_aload_n hc 0 d_Fid_init_24 rfl rfl ?_
  refine V_iconst (v := 0) hc d_Fid_init_25 (by decide) ?_
  obtain ⟨q13, hw⟩ := hw
  obtain ⟨q14, hw⟩ := hw
  obtain ⟨h15, eq_h15⟩ : ∃ x, x = mm_uI h12 (v0) 4 (0) := ⟨_, rfl⟩
  replace hw := hw _ eq_h15
  refine V_put (h' := h15) hc gf_Fid_25 rfl rfl q13 q14 (by rw [eq_h15]; exact mm_Up_I _ _ _ _) (by rw [eq_h15]; exact up_vI rfl) (by decide) (by decide) d_Fid_init_26 ?_
  refine V_aload_n hc 0 d_Fid_init_29 rfl rfl ?_
  refine V_iconst (v := 0) hc d_Fid_init_30 (by decide) ?_
  obtain ⟨q16, hw⟩ := hw
  obtain ⟨q17, hw⟩ := hw
  obtain ⟨h18, eq_h18⟩ : ∃ x, x = mm_uI h15 (v0) 5 (0) := ⟨_, rfl⟩
  replace hw := hw _ eq_h18
  refine V_put (h' := h18) hc gf_Fid_28 rfl rfl q16 q17 (by rw [eq_h18]; exact mm_Up_I _ _ _ _) (by rw [eq_h18]; exact up_vI rfl) (vp_nar_int _) rfl d_Fid_init_31 ?_
  refine V_aload_n hc 0 d_Fid_init_34 rfl rfl ?_
  refine V_iconst (v := 0) hc d_Fid_init_35 (by decide) ?_
  obtain ⟨q19, hw⟩ := hw
  obtain ⟨q20, hw⟩ := hw
  obtain ⟨h21, eq_h21⟩ : ∃ x, x = mm_uI h18 (v0) 6 (0) := ⟨_, rfl⟩
  replace hw := hw _ eq_h21
  refine V_put (h' := h21) hc gf_Fid_31 rfl rfl q19 q20 (by rw [eq_h21]; exact mm_Up_I _ _ _ _) (by rw [eq_h21]; exact up_vI rfl) (vp_nar_int _) rfl d_Fid_init_36 ?_
  refine V_aload_n hc 0 d_Fid_init_39 rfl rfl ?_
  refine V_iconst (v := 0) hc d_Fid_init_40 (by decide) ?_
  obtain ⟨q22, hw⟩ := hw
  obtain ⟨q23, hw⟩ := hw
  obtain ⟨h24, eq_h24⟩ : ∃ x, x = mm_uI h21 (v0) 7 (0) := ⟨_, rfl⟩
  replace hw := hw _ eq_h24
  refine V_put (h' := h24) hc gf_Fid_34 rfl rfl q22 q23 (by rw [eq_h24]; exact mm_Up_I _ _ _ _) (by rw [eq_h24]; exact up_vI rfl) (vp_nar_int _) rfl d_Fid_init_41 ?_
  exact V_vret hc hq ⟨rfl, hw⟩ (by decide) (by decide) d_Fid_init_44
def wq_Fid_init (ge : Nat → Nat) (v0 : Nat) (h : mm_M) (Z : mm_M → Prop) : Prop := wq_Fid_init_0 ge v0 h Z
theorem sat_Fid_init (G : mm_G) (v0 : Nat) (h : mm_M) (Z : mm_M → Prop) (hw : wq_Fid_init (mm_ge G) v0 h Z) : mm_Met G y_Fid_init c_Fid_init 1 none rm_Fid_init [va_rf (some v0)] h (pV Z) := by
  refine mm_intro (own := "EpochServer$Fid") (by decide) rfl (by simp [lg_sl, cat_rf, cat_i, cat_l]) (fun E e1 hc hq hi => ?_)
  subst e1
  have e2 : lv_args 0 [va_rf (some v0)] = [(0, va_rf (some v0))] := by simp [lv_args, cat_rf, cat_i, cat_l]
  rw [e2]
  refine V_sub (lv' := [(0, va_rf (some v0))]) [0] rfl ?_
  exact vb_Fid_init_0 hc hq (hi rfl) v0 h hw
/-! Fid.isOpenForReading()Z -/
abbrev rm_Fid_isOpenForReading : Room := { frames := 0, cells := 0, slots := 0, locals := 0 }
def wq_Fid_isOpenForReading_22  (ge : Nat → Nat) (s0 : Int32) (h : mm_M) (Z : Int32 → mm_M → Prop) : Prop :=
  ((s0) = 0 ∨ (s0) = 1) ∧ Z (s0) h
def wq_Fid_isOpenForReading_21  (ge : Nat → Nat)  (h : mm_M) (Z : Int32 → mm_M → Prop) : Prop :=
  wq_Fid_isOpenForReading_22  ge (0) h Z
def wq_Fid_isOpenForReading_0  (ge : Nat → Nat) (v0 : Nat) (h : mm_M) (Z : Int32 → mm_M → Prop) : Prop :=
  mm_k h (v0) = kd_Fid ∧ (((mm_I h v0 4) = 0 → wq_Fid_isOpenForReading_21  ge h Z) ∧ (¬ (mm_I h v0 4) = 0 → ((((mm_I h v0 5) &&& (3 : Int32) : Int32) = (1 : Int32) → wq_Fid_isOpenForReading_21  ge h Z) ∧ (¬ ((mm_I h v0 5) &&& (3 : Int32) : Int32) = (1 : Int32) → wq_Fid_isOpenForReading_22  ge (1) h Z))))
set_option maxRecDepth 100000 in
set_option maxHeartbeats 4000000 in
theorem vb_Fid_isOpenForReading_22 {E : mm_E} {Z : Int32 → mm_M → Prop} (hc : cx E "EpochServer$Fid" c_Fid_isOpenForReading 1 (some (.boolean)) rm_Fid_isOpenForReading) (hq : cq E rm_Fid_isOpenForReading (pI Z))  (s0 : Int32) (h : mm_M) (hw : wq_Fid_isOpenForReading_22  (mm_ge (eG E)) s0 h Z) : V E 1 0 0 h 22 [] [.int (s0)] := by
  unfold wq_Fid_isOpenForReading_22 at hw
  obtain ⟨q1, hw⟩ := hw
  exact V_zret hc hq (zz_nar q1) ⟨_, rfl, hw⟩ (by decide) (by decide) d_Fid_isOpenForReading_22
set_option maxRecDepth 100000 in
set_option maxHeartbeats 4000000 in
theorem vb_Fid_isOpenForReading_21 {E : mm_E} {Z : Int32 → mm_M → Prop} (hc : cx E "EpochServer$Fid" c_Fid_isOpenForReading 1 (some (.boolean)) rm_Fid_isOpenForReading) (hq : cq E rm_Fid_isOpenForReading (pI Z))   (h : mm_M) (hw : wq_Fid_isOpenForReading_21  (mm_ge (eG E))  h Z) : V E 1 0 0 h 21 [] [] := by
  unfold wq_Fid_isOpenForReading_21 at hw
  refine V_iconst (v := 0) hc d_Fid_isOpenForReading_21 (by decide) ?_
  refine V_sub (lv' := []) [] rfl ?_
  exact vb_Fid_isOpenForReading_22 hc hq  _ _ hw
set_option maxRecDepth 100000 in
set_option maxHeartbeats 4000000 in
theorem vb_Fid_isOpenForReading_0 {E : mm_E} {Z : Int32 → mm_M → Prop} (hc : cx E "EpochServer$Fid" c_Fid_isOpenForReading 1 (some (.boolean)) rm_Fid_isOpenForReading) (hq : cq E rm_Fid_isOpenForReading (pI Z))  (v0 : Nat) (h : mm_M) (hw : wq_Fid_isOpenForReading_0  (mm_ge (eG E)) v0 h Z) : V E 1 0 0 h 0 [(0, va_rf (some v0))] [] := by
  unfold wq_Fid_isOpenForReading_0 at hw
  refine V_aload_n hc 0 d_Fid_isOpenForReading_0 rfl rfl ?_
  obtain ⟨q1, hw⟩ := hw
  refine V_get (v := .int (mm_I h v0 4)) hc gf_Fid_25 rfl q1 rfl d_Fid_isOpenForReading_1 ?_
  refine V_if_eq (tgt := 21) hc d_Fid_isOpenForReading_4 (by decide) (fun hq1 => ?_) (fun hq1 => ?_)
  · replace hw := hw.1 hq1
    refine V_sub (lv' := []) [] rfl ?_
    exact vb_Fid_isOpenForReading_21 hc hq  _ hw
  · replace hw := hw.2 hq1
    refine V_aload_n hc 0 d_Fid_isOpenForReading_7 rfl rfl ?_
    refine V_get (v := .int (mm_I h v0 5)) hc gf_Fid_28 rfl q1 rfl d_Fid_isOpenForReading_8 ?_
    refine V_iconst (v := 3) hc d_Fid_isOpenForReading_11 (by decide) ?_
    refine V_iand hc d_Fid_isOpenForReading_12 ?_
    refine V_iconst (v := 1) hc d_Fid_isOpenForReading_13 (by decide) ?_
    refine V_icmp_eq (tgt := 21) hc d_Fid_isOpenForReading_14 (by decide) (fun hq1 => ?_) (fun hq1 => ?_)
    · replace hw := hw.1 hq1
      refine V_sub (lv' := []) [] rfl ?_
      exact vb_Fid_isOpenForReading_21 hc hq  _ hw
    · replace hw := hw.2 hq1
      refine V_iconst (v := 1) hc d_Fid_isOpenForReading_17 (by decide) ?_
      refine V_goto (tgt := 22) hc d_Fid_isOpenForReading_18 (by decide) ?_
      refine V_sub (lv' := []) [] rfl ?_
      exact vb_Fid_isOpenForReading_22 hc hq  _ _ hw
def wq_Fid_isOpenForReading (ge : Nat → Nat) (v0 : Nat) (h : mm_M) (Z : Int32 → mm_M → Prop) : Prop := wq_Fid_isOpenForReading_0 ge v0 h Z
theorem sat_Fid_isOpenForReading (G : mm_G) (v0 : Nat) (h : mm_M) (Z : Int32 → mm_M → Prop) (hw : wq_Fid_isOpenForReading (mm_ge G) v0 h Z) : mm_Met G y_Fid_isOpenForReading c_Fid_isOpenForReading 1 (some (.boolean)) rm_Fid_isOpenForReading [va_rf (some v0)] h (pI Z) := by
  refine mm_intro (own := "EpochServer$Fid") (by decide) rfl (by simp [lg_sl, cat_rf, cat_i, cat_l]) (fun E e1 hc hq hi => ?_)
  subst e1
  have e2 : lv_args 0 [va_rf (some v0)] = [(0, va_rf (some v0))] := by simp [lv_args, cat_rf, cat_i, cat_l]
  rw [e2]
  refine V_sub (lv' := [(0, va_rf (some v0))]) [0] rfl ?_
  exact vb_Fid_isOpenForReading_0 hc hq v0 h hw
/-! Fid.isOpenForWriting()Z -/
abbrev rm_Fid_isOpenForWriting : Room := { frames := 0, cells := 0, slots := 0, locals := 0 }
def wq_Fid_isOpenForWriting_21  (ge : Nat → Nat) (s0 : Int32) (h : mm_M) (Z : Int32 → mm_M → Prop) : Prop :=
  ((s0) = 0 ∨ (s0) = 1) ∧ Z (s0) h
def wq_Fid_isOpenForWriting_20  (ge : Nat → Nat)  (h : mm_M) (Z : Int32 → mm_M → Prop) : Prop :=
  wq_Fid_isOpenForWriting_21  ge (0) h Z
def wq_Fid_isOpenForWriting_0  (ge : Nat → Nat) (v0 : Nat) (h : mm_M) (Z : Int32 → mm_M → Prop) : Prop :=
  mm_k h (v0) = kd_Fid ∧ (((mm_I h v0 4) = 0 → wq_Fid_isOpenForWriting_20  ge h Z) ∧ (¬ (mm_I h v0 4) = 0 → ((((mm_I h v0 5) &&& (3 : Int32)) = 0 → wq_Fid_isOpenForWriting_20  ge h Z) ∧ (¬ ((mm_I h v0 5) &&& (3 : Int32)) = 0 → wq_Fid_isOpenForWriting_21  ge (1) h Z))))
set_option maxRecDepth 100000 in
set_option maxHeartbeats 4000000 in
theorem vb_Fid_isOpenForWriting_21 {E : mm_E} {Z : Int32 → mm_M → Prop} (hc : cx E "EpochServer$Fid" c_Fid_isOpenForWriting 1 (some (.boolean)) rm_Fid_isOpenForWriting) (hq : cq E rm_Fid_isOpenForWriting (pI Z))  (s0 : Int32) (h : mm_M) (hw : wq_Fid_isOpenForWriting_21  (mm_ge (eG E)) s0 h Z) : V E 1 0 0 h 21 [] [.int (s0)] := by
  unfold wq_Fid_isOpenForWriting_21 at hw
  obtain ⟨q1, hw⟩ := hw
  exact V_zret hc hq (zz_nar q1) ⟨_, rfl, hw⟩ (by decide) (by decide) d_Fid_isOpenForWriting_21
set_option maxRecDepth 100000 in
set_option maxHeartbeats 4000000 in
theorem vb_Fid_isOpenForWriting_20 {E : mm_E} {Z : Int32 → mm_M → Prop} (hc : cx E "EpochServer$Fid" c_Fid_isOpenForWriting 1 (some (.boolean)) rm_Fid_isOpenForWriting) (hq : cq E rm_Fid_isOpenForWriting (pI Z))   (h : mm_M) (hw : wq_Fid_isOpenForWriting_20  (mm_ge (eG E))  h Z) : V E 1 0 0 h 20 [] [] := by
  unfold wq_Fid_isOpenForWriting_20 at hw
  refine V_iconst (v := 0) hc d_Fid_isOpenForWriting_20 (by decide) ?_
  refine V_sub (lv' := []) [] rfl ?_
  exact vb_Fid_isOpenForWriting_21 hc hq  _ _ hw
set_option maxRecDepth 100000 in
set_option maxHeartbeats 4000000 in
theorem vb_Fid_isOpenForWriting_0 {E : mm_E} {Z : Int32 → mm_M → Prop} (hc : cx E "EpochServer$Fid" c_Fid_isOpenForWriting 1 (some (.boolean)) rm_Fid_isOpenForWriting) (hq : cq E rm_Fid_isOpenForWriting (pI Z))  (v0 : Nat) (h : mm_M) (hw : wq_Fid_isOpenForWriting_0  (mm_ge (eG E)) v0 h Z) : V E 1 0 0 h 0 [(0, va_rf (some v0))] [] := by
  unfold wq_Fid_isOpenForWriting_0 at hw
  refine V_aload_n hc 0 d_Fid_isOpenForWriting_0 rfl rfl ?_
  obtain ⟨q1, hw⟩ := hw
  refine V_get (v := .int (mm_I h v0 4)) hc gf_Fid_25 rfl q1 rfl d_Fid_isOpenForWriting_1 ?_
  refine V_if_eq (tgt := 20) hc d_Fid_isOpenForWriting_4 (by decide) (fun hq1 => ?_) (fun hq1 => ?_)
  · replace hw := hw.1 hq1
    refine V_sub (lv' := []) [] rfl ?_
    exact vb_Fid_isOpenForWriting_20 hc hq  _ hw
  · replace hw := hw.2 hq1
    refine V_aload_n hc 0 d_Fid_isOpenForWriting_7 rfl rfl ?_
    refine V_get (v := .int (mm_I h v0 5)) hc gf_Fid_28 rfl q1 rfl d_Fid_isOpenForWriting_8 ?_
    refine V_iconst (v := 3) hc d_Fid_isOpenForWriting_11 (by decide) ?_
    refine V_iand hc d_Fid_isOpenForWriting_12 ?_
    refine V_if_eq (tgt := 20) hc d_Fid_isOpenForWriting_13 (by decide) (fun hq1 => ?_) (fun hq1 => ?_)
    · replace hw := hw.1 hq1
      refine V_sub (lv' := []) [] rfl ?_
      exact vb_Fid_isOpenForWriting_20 hc hq  _ hw
    · replace hw := hw.2 hq1
      refine V_iconst (v := 1) hc d_Fid_isOpenForWriting_16 (by decide) ?_
      refine V_goto (tgt := 21) hc d_Fid_isOpenForWriting_17 (by decide) ?_
      refine V_sub (lv' := []) [] rfl ?_
      exact vb_Fid_isOpenForWriting_21 hc hq  _ _ hw
def wq_Fid_isOpenForWriting (ge : Nat → Nat) (v0 : Nat) (h : mm_M) (Z : Int32 → mm_M → Prop) : Prop := wq_Fid_isOpenForWriting_0 ge v0 h Z
theorem sat_Fid_isOpenForWriting (G : mm_G) (v0 : Nat) (h : mm_M) (Z : Int32 → mm_M → Prop) (hw : wq_Fid_isOpenForWriting (mm_ge G) v0 h Z) : mm_Met G y_Fid_isOpenForWriting c_Fid_isOpenForWriting 1 (some (.boolean)) rm_Fid_isOpenForWriting [va_rf (some v0)] h (pI Z) := by
  refine mm_intro (own := "EpochServer$Fid") (by decide) rfl (by simp [lg_sl, cat_rf, cat_i, cat_l]) (fun E e1 hc hq hi => ?_)
  subst e1
  have e2 : lv_args 0 [va_rf (some v0)] = [(0, va_rf (some v0))] := by simp [lv_args, cat_rf, cat_i, cat_l]
  rw [e2]
  refine V_sub (lv' := [(0, va_rf (some v0))]) [0] rfl ?_
  exact vb_Fid_isOpenForWriting_0 hc hq v0 h hw
/-! Fid.rewind()V -/
abbrev rm_Fid_rewind : Room := { frames := 0, cells := 0, slots := 0, locals := 0 }
def wq_Fid_rewind_0  (ge : Nat → Nat) (v0 : Nat) (h : mm_M) (Z : mm_M → Prop) : Prop :=
  mm_k h (v0) = kd_Fid ∧ ge 0 ≤ v0 ∧ ∀ h3 : mm_M, h3 = mm_uI h (v0) 6 (0) → mm_k h3 (v0) = kd_Fid ∧ ge 0 ≤ v0 ∧ ∀ h6 : mm_M, h6 = mm_uI h3 (v0) 7 (0) → Z h6
set_option maxRecDepth 100000 in
set_option maxHeartbeats 4000000 in
theorem vb_Fid_rewind_0 {E : mm_E} {Z : mm_M → Prop} (hc : cx E "EpochServer$Fid" c_Fid_rewind 1 none rm_Fid_rewind) (hq : cq E rm_Fid_rewind (pV Z))  (v0 : Nat) (h : mm_M) (hw : wq_Fid_rewind_0  (mm_ge (eG E)) v0 h Z) : V E 1 0 0 h 0 [(0, va_rf (some v0))] [] := by
  unfold wq_Fid_rewind_0 at hw
  refine V_aload_n hc 0 d_Fid_rewind_0 rfl rfl ?_
  refine V_iconst (v := 0) hc d_Fid_rewind_1 (by decide) ?_
  obtain ⟨q1, hw⟩ := hw
  obtain ⟨q2, hw⟩ := hw
  obtain ⟨h3, eq_h3⟩ : ∃ x, x = mm_uI h (v0) 6 (0) := ⟨_, rfl⟩
  replace hw := hw _ eq_h3
  refine V_put (h' := h3) hc gf_Fid_31 rfl rfl q1 q2 (by rw [eq_h3]; exact mm_Up_I _ _ _ _) (by rw [eq_h3]; exact up_vI rfl) (vp_nar_int _) rfl d_Fid_rewind_2 ?_
  refine V_aload_n hc 0 d_Fid_rewind_5 rfl rfl ?_
  refine V_iconst (v := 0) hc d_Fid_rewind_6 (by decide) ?_
  obtain ⟨q4, hw⟩ := hw
  obtain ⟨q5, hw⟩ := hw
  obtain ⟨h6, eq_h6⟩ : ∃ x, x = mm_uI h3 (v0) 7 (0) := ⟨_, rfl⟩
  replace hw := hw _ eq_h6
  refine V_put (h' := h6) hc gf_Fid_34 rfl rfl q4 q5 (by rw [eq_h6]; exact mm_Up_I _ _ _ _) (by rw [eq_h6]; exact up_vI rfl) (vp_nar_int _) rfl d_Fid_rewind_7 ?_
  exact V_vret hc hq ⟨rfl, hw⟩ (by decide) (by decide) d_Fid_rewind_10
def wq_Fid_rewind (ge : Nat → Nat) (v0 : Nat) (h : mm_M) (Z : mm_M → Prop) : Prop := wq_Fid_rewind_0 ge v0 h Z
theorem sat_Fid_rewind (G : mm_G) (v0 : Nat) (h : mm_M) (Z : mm_M → Prop) (hw : wq_Fid_rewind (mm_ge G) v0 h Z) : mm_Met G y_Fid_rewind c_Fid_rewind 1 none rm_Fid_rewind [va_rf (some v0)] h (pV Z) := by
  refine mm_intro (own := "EpochServer$Fid") (by decide) rfl (by simp [lg_sl, cat_rf, cat_i, cat_l]) (fun E e1 hc hq hi => ?_)
  subst e1
  have e2 : lv_args 0 [va_rf (some v0)] = [(0, va_rf (some v0))] := by simp [lv_args, cat_rf, cat_i, cat_l]
  rw [e2]
  refine V_sub (lv' := [(0, va_rf (some v0))]) [0] rfl ?_
  exact vb_Fid_rewind_0 hc hq v0 h hw
/-! Fid.openAs(I)V -/
abbrev rm_Fid_openAs : Room := { frames := 1, cells := 0, slots := 0, locals := 20 }
def wq_Fid_openAs_0  (ge : Nat → Nat) (v0 : Nat) (v1 : Int32) (h : mm_M) (Z : mm_M → Prop) : Prop :=
  mm_k h (v0) = kd_Fid ∧ ge 0 ≤ v0 ∧ ∀ h3 : mm_M, h3 = mm_uI h (v0) 4 (1) → mm_k h3 (v0) = kd_Fid ∧ ge 0 ≤ v0 ∧ ∀ h6 : mm_M, h6 = mm_uI h3 (v0) 5 (v1) → mm_k h6 (v0) = kd_Fid ∧ wq_Fid_rewind ge (v0) h6 (fun h8 : mm_M => Z h8)
set_option maxRecDepth 100000 in
set_option maxHeartbeats 4000000 in
theorem vb_Fid_openAs_0 {E : mm_E} {Z : mm_M → Prop} (hc : cx E "EpochServer$Fid" c_Fid_openAs 2 none rm_Fid_openAs) (hq : cq E rm_Fid_openAs (pV Z))  (v0 : Nat) (v1 : Int32) (h : mm_M) (hw : wq_Fid_openAs_0  (mm_ge (eG E)) v0 v1 h Z) : V E 2 0 0 h 0 [(0, va_rf (some v0)), (1, .int (v1))] [] := by
  unfold wq_Fid_openAs_0 at hw
  refine V_aload_n hc 0 d_Fid_openAs_0 rfl rfl ?_
  refine V_iconst (v := 1) hc d_Fid_openAs_1 (by decide) ?_
  obtain ⟨q1, hw⟩ := hw
  obtain ⟨q2, hw⟩ := hw
  obtain ⟨h3, eq_h3⟩ : ∃ x, x = mm_uI h (v0) 4 (1) := ⟨_, rfl⟩
  replace hw := hw _ eq_h3
  refine V_put (h' := h3) hc gf_Fid_25 rfl rfl q1 q2 (by rw [eq_h3]; exact mm_Up_I _ _ _ _) (by rw [eq_h3]; exact up_vI rfl) (by decide) (by decide) d_Fid_openAs_2 ?_
  refine V_aload_n hc 0 d_Fid_openAs_5 rfl rfl ?_
  refine V_iload_n hc 1 d_Fid_openAs_6 rfl rfl ?_
  obtain ⟨q4, hw⟩ := hw
  obtain ⟨q5, hw⟩ := hw
  obtain ⟨h6, eq_h6⟩ : ∃ x, x = mm_uI h3 (v0) 5 (v1) := ⟨_, rfl⟩
  replace hw := hw _ eq_h6
  refine V_put (h' := h6) hc gf_Fid_28 rfl rfl q4 q5 (by rw [eq_h6]; exact mm_Up_I _ _ _ _) (by rw [eq_h6]; exact up_vI rfl) (vp_nar_int _) rfl d_Fid_openAs_7 ?_
  refine V_aload_n hc 0 d_Fid_openAs_10 rfl rfl ?_
  obtain ⟨q7, hw⟩ := hw
  refine V_callV (rm' := rm_Fid_rewind) (As := []) (rest := []) (n := 0) (cn := 4) hc rfl q7 (sat_Fid_rewind (eG E) _ _ _ hw) rfl cv_Fid_37 (gw_of (tw_3 (List.mem_of_getElem? (i := 54) rfl)) rfl) ss_Fid_rewind rfl ⟨by decide, by decide⟩ (by decide) (by decide) rfl (by simp [cat_rf, cat_i, cat_l]) d_Fid_openAs_11 (fun r0 h8 hw => ?_)
  obtain ⟨rfl, hw⟩ := hw
  refine V_wide (cs' := 0) (sl' := 0) (by decide) (by decide) ?_
  refine V_st (st' := []) rfl ?_
  exact V_vret hc hq ⟨rfl, hw⟩ (by decide) (by decide) d_Fid_openAs_14
def wq_Fid_openAs (ge : Nat → Nat) (v0 : Nat) (v1 : Int32) (h : mm_M) (Z : mm_M → Prop) : Prop := wq_Fid_openAs_0 ge v0 v1 h Z
theorem sat_Fid_openAs (G : mm_G) (v0 : Nat) (v1 : Int32) (h : mm_M) (Z : mm_M → Prop) (hw : wq_Fid_openAs (mm_ge G) v0 v1 h Z) : mm_Met G y_Fid_openAs c_Fid_openAs 2 none rm_Fid_openAs [va_rf (some v0), .int (v1)] h (pV Z) := by
  refine mm_intro (own := "EpochServer$Fid") (by decide) rfl (by simp [lg_sl, cat_rf, cat_i, cat_l]) (fun E e1 hc hq hi => ?_)
  subst e1
  have e2 : lv_args 0 [va_rf (some v0), .int (v1)] = [(0, va_rf (some v0)), (1, .int (v1))] := by simp [lv_args, cat_rf, cat_i, cat_l]
  rw [e2]
  refine V_sub (lv' := [(0, va_rf (some v0)), (1, .int (v1))]) [0, 1] rfl ?_
  exact vb_Fid_openAs_0 hc hq v0 v1 h hw
/-! FidTable.<init>()V -/
abbrev rm_FidTable_init : Room := { frames := 2, cells := 26, slots := 224, locals := 44 }
def wq_FidTable_init_15 (X15 : Nat → Nat → Int32 → mm_M → Prop) (ge : Nat → Nat) (g : Nat) (v0 : Nat) (v1 : Int32) (h : mm_M) (Z : mm_M → Prop) : Prop :=
  g ≤ 24 ∧ (((24 : Int32) ≤ (v1 : Int32) → Z h) ∧ (¬ (24 : Int32) ≤ (v1 : Int32) → mm_k h (v0) = kd_FidTable ∧ ∀ h2 : mm_M, h2 = mm_nw h 5 0 → ∀ a3 : Nat, a3 = mm_z h → wq_Fid_init ge (a3) h2 (fun h4 : mm_M => ∃ a6, mm_P h v0 0 = some a6 ∧ mm_k h4 (a6) = ka_Fid ∧ vp_in (v1) (mm_n h4 a6) ∧ ge 0 ≤ a6 ∧ (∀ b12, some a3 = some b12 → mm_k h4 b12 = kd_Fid) ∧ ∀ h13 : mm_M, h13 = mm_uP h4 a6 (Int32.toNatClampNeg (v1)) (some a3) → X15 (g + 1) (v0) (v1 + 1) h13)))
def lp_FidTable_init_15  (ge : Nat → Nat) (g : Nat) (v0 : Nat) (v1 : Int32) (h : mm_M) (Z : mm_M → Prop) : Prop :=
  ∀ X15 : Nat → Nat → Int32 → mm_M → Prop, (∀ (g : Nat) (v0 : Nat) (v1 : Int32) (h : mm_M), wq_FidTable_init_15 X15 ge g v0 v1 h Z → X15 g v0 v1 h) → X15 g v0 v1 h
def wq_FidTable_init_0  (ge : Nat → Nat) (v0 : Nat) (h : mm_M) (Z : mm_M → Prop) : Prop :=
  ∀ h1 : mm_M, h1 = mm_nw h 103 24 → ∀ a2 : Nat, a2 = mm_z h → mm_k h1 (v0) = kd_FidTable ∧ ge 0 ≤ v0 ∧ ∀ h5 : mm_M, h5 = mm_uP h1 (v0) 0 (some a2) → lp_FidTable_init_15  ge (0) (v0) (0) h5 Z
set_option maxRecDepth 100000 in
set_option maxHeartbeats 4000000 in
theorem vb_FidTable_init_15 {E : mm_E} {Z : mm_M → Prop} (hc : cx E "EpochServer$FidTable" c_FidTable_init 2 none rm_FidTable_init) (hq : cq E rm_FidTable_init (pV Z)) (hin : ci E) (X15 : Nat → Nat → Int32 → mm_M → Prop) (hX15 : ∀ (g : Nat) (v0 : Nat) (v1 : Int32) (h : mm_M), X15 g v0 v1 h → V E 2 (1 + g * 1) (24 + g * 8) h 15 [(0, va_rf (some v0)), (1, .int (v1))] []) (g : Nat) (v0 : Nat) (v1 : Int32) (h : mm_M) (hw : wq_FidTable_init_15 X15 (mm_ge (eG E)) g v0 v1 h Z) : V E 2 (1 + g * 1) (24 + g * 8) h 15 [(0, va_rf (some v0)), (1, .int (v1))] [] := by
  unfold wq_FidTable_init_15 at hw
  obtain ⟨hg, hw⟩ := hw
  refine V_iload_n hc 1 d_FidTable_init_15 rfl rfl ?_
  refine V_bipush (v := 24) hc d_FidTable_init_16 (by decide) ?_
  refine V_icmp_ge (tgt := 40) hc d_FidTable_init_18 (by decide) (fun hq1 => ?_) (fun hq1 => ?_)
  · replace hw := hw.1 hq1
    exact V_vret hc hq ⟨rfl, hw⟩ (by show (1 + g * 1) + 0 ≤ 26; omega) (by show (24 + g * 8) + 0 ≤ 224; omega) d_FidTable_init_40
  · replace hw := hw.2 hq1
    refine V_aload_n hc 0 d_FidTable_init_21 rfl rfl ?_
    obtain ⟨q1, hw⟩ := hw
    refine V_get (v := va_rf (mm_P h v0 0)) hc gf_FidTable_11 rfl q1 rfl d_FidTable_init_22 ?_
    refine V_iload_n hc 1 d_FidTable_init_25 rfl rfl ?_
    obtain ⟨h2, eq_h2⟩ : ∃ x, x = mm_nw h 5 0 := ⟨_, rfl⟩
    replace hw := hw _ eq_h2
    refine V_new (cn := 4) (N := 8) (r := (R_Fid, T_Fid, 8, t_Fid)) hc rfl rfl (gw_of (tw_1 (List.mem_of_getElem? (i := 123) rfl)) rfl) (gw_of (tw_1 (List.mem_of_getElem? (i := 125) rfl)) rfl) (gw_of (tw_1 (List.mem_of_getElem? (i := 6) rfl)) rfl) (by decide) (by show (1 + g * 1) + 1 ≤ 26; omega) (by show (24 + g * 8) + 8 ≤ 224; omega) d_FidTable_init_26 ?_
    rw [← eq_h2]
    obtain ⟨a3, eq_a3⟩ : ∃ x, x = mm_z h := ⟨_, rfl⟩
    replace hw := hw _ eq_a3
    rw [← eq_a3]
    refine V_wide (cs' := (2 + g * 1)) (sl' := (32 + g * 8)) (by omega) (by omega) ?_
    refine V_dup hc d_FidTable_init_29 (cat_rf _) ?_
    refine V_callIN (rm' := rm_Fid_init) (As := []) (rest := [va_rf (some a3), .int (v1), va_rf (mm_P h v0 0)]) (n := 0) hc rfl (sat_Fid_init (eG E) _ _ _ hw) cv_FidTable_17 (gw_of (tw_1 (List.mem_of_getElem? (i := 127) rfl)) rfl) rfl rfl ⟨by decide, by decide⟩ (by show (2 + g * 1) + 0 ≤ 26; omega) (by show (32 + g * 8) + 0 ≤ 224; omega) rfl (by simp [cat_rf, cat_i, cat_l]) d_FidTable_init_30 (fun r0 h4 hw => ?_)
    obtain ⟨rfl, hw⟩ := hw
    refine V_wide (cs' := (2 + g * 1)) (sl' := (32 + g * 8)) (by show (2 + g * 1) + 0 ≤ _; omega) (by show (32 + g * 8) + 0 ≤ _; omega) ?_
    refine V_st (st' := [va_rf (some a3), .int (v1), va_rf (mm_P h v0 0)]) rfl ?_
    obtain ⟨a6, q7, hw⟩ := hw
    obtain ⟨q8, hw⟩ := hw
    obtain ⟨q9, hw⟩ := hw
    obtain ⟨q10, hw⟩ := hw
    obtain ⟨q11, hw⟩ := hw
    obtain ⟨h13, eq_h13⟩ : ∃ x, x = mm_uP h4 a6 (Int32.toNatClampNeg (v1)) (some a3) := ⟨_, rfl⟩
    replace hw := hw _ eq_h13
    refine V_aast (t := 3) (cn := 4) (C := R_Fid) hc rfl rfl q7 q8 q9 q11 q10 d_FidTable_init_33 ?_
    rw [← eq_h13]
    refine V_iinc (v := v1 + 1) (lv' := [(1, .int (v1 + 1)), (0, va_rf (some v0))]) hc 1 d_FidTable_init_34 rfl rfl (by decide) rfl ?_
    refine V_goto (tgt := 15) hc d_FidTable_init_37 (by decide) ?_
    refine V_sub (lv' := [(0, va_rf (some v0)), (1, .int (v1 + 1))]) [1, 0] rfl ?_
    refine V_wide (cs' := (1 + (g + 1) * 1)) (sl' := (24 + (g + 1) * 8)) (by omega) (by omega) ?_
    exact hX15 _ _ _ _ hw
theorem vl_FidTable_init_15 {E : mm_E} {Z : mm_M → Prop} (hc : cx E "EpochServer$FidTable" c_FidTable_init 2 none rm_FidTable_init) (hq : cq E rm_FidTable_init (pV Z)) (hin : ci E)  (g : Nat) (v0 : Nat) (v1 : Int32) (h : mm_M) (hw : lp_FidTable_init_15  (mm_ge (eG E)) g v0 v1 h Z) : V E 2 (1 + g * 1) (24 + g * 8) h 15 [(0, va_rf (some v0)), (1, .int (v1))] [] :=
  hw (fun g v0 v1 h => V E 2 (1 + g * 1) (24 + g * 8) h 15 [(0, va_rf (some v0)), (1, .int (v1))] []) (fun g v0 v1 h hb => vb_FidTable_init_15 hc hq hin  _ (fun _ _ _ _ q => q) g v0 v1 h hb)
set_option maxRecDepth 100000 in
set_option maxHeartbeats 4000000 in
theorem vb_FidTable_init_0 {E : mm_E} {Z : mm_M → Prop} (hc : cx E "EpochServer$FidTable" c_FidTable_init 2 none rm_FidTable_init) (hq : cq E rm_FidTable_init (pV Z)) (hin : ci E)  (v0 : Nat) (h : mm_M) (hw : wq_FidTable_init_0  (mm_ge (eG E)) v0 h Z) : V E 2 0 0 h 0 [(0, va_rf (some v0))] [] := by
  unfold wq_FidTable_init_0 at hw
  refine V_aload_n hc 0 d_FidTable_init_0 rfl rfl ?_
  refine V_objInit hc rfl (gw_of (tw_1 (List.mem_of_getElem? (i := 122) rfl)) rfl) (gw_of (tw_1 (List.mem_of_getElem? (i := 27) rfl)) rfl) (gw_of (tw_1 (List.mem_of_getElem? (i := 28) rfl)) rfl) d_FidTable_init_1 (by decide) (by decide) ?_
  refine V_aload_n hc 0 d_FidTable_init_4 rfl rfl ?_
  refine V_bipush (v := 24) hc d_FidTable_init_5 (by decide) ?_
  obtain ⟨h1, eq_h1⟩ : ∃ x, x = mm_nw h 103 24 := ⟨_, rfl⟩
  replace hw := hw _ eq_h1
  refine V_anew (t := 3) (N := 24) (C := "EpochServer$Fid") hc rfl (by decide) (gw_of (tw_1 (List.mem_of_getElem? (i := 123) rfl)) rfl) (by decide) (by decide) (by decide) (by decide) (by decide) d_FidTable_init_7 ?_
  rw [← eq_h1]
  obtain ⟨a2, eq_a2⟩ : ∃ x, x = mm_z h := ⟨_, rfl⟩
  replace hw := hw _ eq_a2
  rw [← eq_a2]
  refine V_wide (cs' := 1) (sl' := 24) (by decide) (by decide) ?_
  obtain ⟨q3, hw⟩ := hw
  obtain ⟨q4, hw⟩ := hw
  obtain ⟨h5, eq_h5⟩ : ∃ x, x = mm_uP h1 (v0) 0 (some a2) := ⟨_, rfl⟩
  replace hw := hw _ eq_h5
  refine V_putF (h' := h5) hc hin rfl (fun r hr => by cases hr; rfl) gf_FidTable_11 rfl rfl q3 q4 (by rw [eq_h5]; exact mm_Up_P _ _ _ _) (by rw [eq_h5]; exact up_vP rfl) (pa_nar _) (pa_fit _) d_FidTable_init_10 ?_
  refine V_iconst (v := 0) hc d_FidTable_init_13 (by decide) ?_
  refine V_istore_n (i := 1) (lv' := [(1, .int (0)), (0, va_rf (some v0))]) hc d_FidTable_init_14 rfl (by decide) rfl ?_
  refine V_sub (lv' := [(0, va_rf (some v0)), (1, .int (0))]) [1, 0] rfl ?_
  refine V_wide (cs' := (1 + 0 * 1)) (sl' := (24 + 0 * 8)) (by omega) (by omega) ?_
  exact vl_FidTable_init_15 hc hq hin  _ _ _ _ hw
def wq_FidTable_init (ge : Nat → Nat) (v0 : Nat) (h : mm_M) (Z : mm_M → Prop) : Prop := wq_FidTable_init_0 ge v0 h Z
theorem sat_FidTable_init (G : mm_G) (v0 : Nat) (h : mm_M) (Z : mm_M → Prop) (hw : wq_FidTable_init (mm_ge G) v0 h Z) : mm_Met G y_FidTable_init c_FidTable_init 2 none rm_FidTable_init [va_rf (some v0)] h (pV Z) := by
  refine mm_intro (own := "EpochServer$FidTable") (by decide) rfl (by simp [lg_sl, cat_rf, cat_i, cat_l]) (fun E e1 hc hq hi => ?_)
  subst e1
  have e2 : lv_args 0 [va_rf (some v0)] = [(0, va_rf (some v0))] := by simp [lv_args, cat_rf, cat_i, cat_l]
  rw [e2]
  refine V_sub (lv' := [(0, va_rf (some v0))]) [0] rfl ?_
  exact vb_FidTable_init_0 hc hq (hi rfl) v0 h hw
/-! FidTable.find(I)LEpochServer$Fid; -/
abbrev rm_FidTable_find : Room := { frames := 0, cells := 0, slots := 0, locals := 0 }
def wq_FidTable_find_40 (X2 : Nat → Int32 → Int32 → mm_M → Prop) (ge : Nat → Nat) (v0 : Nat) (v1 : Int32) (v2 : Int32) (h : mm_M) (Z : Option Nat → mm_M → Prop) : Prop :=
  X2 (v0) (v1) (v2 + 1) h
def wq_FidTable_find_2 (X2 : Nat → Int32 → Int32 → mm_M → Prop) (ge : Nat → Nat) (v0 : Nat) (v1 : Int32) (v2 : Int32) (h : mm_M) (Z : Option Nat → mm_M → Prop) : Prop :=
  (((24 : Int32) ≤ (v2 : Int32) → Z (none) h) ∧ (¬ (24 : Int32) ≤ (v2 : Int32) → mm_k h (v0) = kd_FidTable ∧ ∃ a2, mm_P h v0 0 = some a2 ∧ mm_k h (a2) = ka_Fid ∧ vp_in (v2) (mm_n h a2) ∧ ∃ a6, mm_P h a2 (Int32.toNatClampNeg (v2)) = some a6 ∧ mm_k h (a6) = kd_Fid ∧ (((mm_I h a6 0) = 0 → wq_FidTable_find_40 X2 ge (v0) (v1) (v2) h Z) ∧ (¬ (mm_I h a6 0) = 0 → vp_in (v2) (mm_n h a2) ∧ ((¬ (mm_I h a6 1 : Int32) = (v1 : Int32) → wq_FidTable_find_40 X2 ge (v0) (v1) (v2) h Z) ∧ ((mm_I h a6 1 : Int32) = (v1 : Int32) → vp_in (v2) (mm_n h a2) ∧ Z (mm_P h a2 (Int32.toNatClampNeg (v2))) h))))))
def lp_FidTable_find_2  (ge : Nat → Nat) (v0 : Nat) (v1 : Int32) (v2 : Int32) (h : mm_M) (Z : Option Nat → mm_M → Prop) : Prop :=
  ∀ X2 : Nat → Int32 → Int32 → mm_M → Prop, (∀ (v0 : Nat) (v1 : Int32) (v2 : Int32) (h : mm_M), wq_FidTable_find_2 X2 ge v0 v1 v2 h Z → X2 v0 v1 v2 h) → X2 v0 v1 v2 h
def wq_FidTable_find_0  (ge : Nat → Nat) (v0 : Nat) (v1 : Int32) (h : mm_M) (Z : Option Nat → mm_M → Prop) : Prop :=
  lp_FidTable_find_2  ge (v0) (v1) (0) h Z
set_option maxRecDepth 100000 in
set_option maxHeartbeats 4000000 in
theorem vb_FidTable_find_40 {E : mm_E} {Z : Option Nat → mm_M → Prop} (hc : cx E "EpochServer$FidTable" c_FidTable_find 3 (some ((.object "EpochServer$Fid"))) rm_FidTable_find) (hq : cq E rm_FidTable_find (pP Z)) (X2 : Nat → Int32 → Int32 → mm_M → Prop) (hX2 : ∀ (v0 : Nat) (v1 : Int32) (v2 : Int32) (h : mm_M), X2 v0 v1 v2 h → V E 3 0 0 h 2 [(0, va_rf (some v0)), (1, .int (v1)), (2, .int (v2))] []) (v0 : Nat) (v1 : Int32) (v2 : Int32) (h : mm_M) (hw : wq_FidTable_find_40 X2 (mm_ge (eG E)) v0 v1 v2 h Z) : V E 3 0 0 h 40 [(0, va_rf (some v0)), (1, .int (v1)), (2, .int (v2))] [] := by
  unfold wq_FidTable_find_40 at hw
  refine V_iinc (v := v2 + 1) (lv' := [(2, .int (v2 + 1)), (0, va_rf (some v0)), (1, .int (v1))]) hc 2 d_FidTable_find_40 rfl rfl (by decide) rfl ?_
  refine V_goto (tgt := 2) hc d_FidTable_find_43 (by decide) ?_
  refine V_sub (lv' := [(0, va_rf (some v0)), (1, .int (v1)), (2, .int (v2 + 1))]) [1, 2, 0] rfl ?_
  exact hX2 _ _ _ _ hw
set_option maxRecDepth 100000 in
set_option maxHeartbeats 4000000 in
theorem vb_FidTable_find_2 {E : mm_E} {Z : Option Nat → mm_M → Prop} (hc : cx E "EpochServer$FidTable" c_FidTable_find 3 (some ((.object "EpochServer$Fid"))) rm_FidTable_find) (hq : cq E rm_FidTable_find (pP Z)) (X2 : Nat → Int32 → Int32 → mm_M → Prop) (hX2 : ∀ (v0 : Nat) (v1 : Int32) (v2 : Int32) (h : mm_M), X2 v0 v1 v2 h → V E 3 0 0 h 2 [(0, va_rf (some v0)), (1, .int (v1)), (2, .int (v2))] []) (v0 : Nat) (v1 : Int32) (v2 : Int32) (h : mm_M) (hw : wq_FidTable_find_2 X2 (mm_ge (eG E)) v0 v1 v2 h Z) : V E 3 0 0 h 2 [(0, va_rf (some v0)), (1, .int (v1)), (2, .int (v2))] [] := by
  unfold wq_FidTable_find_2 at hw
  refine V_iload_n hc 2 d_FidTable_find_2 rfl rfl ?_
  refine V_bipush (v := 24) hc d_FidTable_find_3 (by decide) ?_
  refine V_icmp_ge (tgt := 46) hc d_FidTable_find_5 (by decide) (fun hq1 => ?_) (fun hq1 => ?_)
  · replace hw := hw.1 hq1
    refine V_null hc d_FidTable_find_46 ?_
    exact V_aret hc hq (by first | exact Or.inl ⟨_, rfl⟩ | exact Or.inr ⟨_, rfl⟩) ⟨_, rfl, hw⟩ (by decide) (by decide) d_FidTable_find_47
  · replace hw := hw.2 hq1
    refine V_aload_n hc 0 d_FidTable_find_8 rfl rfl ?_
    obtain ⟨q1, hw⟩ := hw
    refine V_get (v := va_rf (mm_P h v0 0)) hc gf_FidTable_11 rfl q1 rfl d_FidTable_find_9 ?_
    refine V_iload_n hc 2 d_FidTable_find_12 rfl rfl ?_
    obtain ⟨a2, q3, hw⟩ := hw
    obtain ⟨q4, hw⟩ := hw
    obtain ⟨q5, hw⟩ := hw
    refine V_aald (t := 3) (ty := .object "EpochServer$Fid") hc rfl rfl rfl q3 q4 q5 d_FidTable_find_13 ?_
    obtain ⟨a6, q7, hw⟩ := hw
    obtain ⟨q8, hw⟩ := hw
    refine V_get (v := .int (mm_I h a6 0)) hc gf_FidTable_18 q7 q8 rfl d_FidTable_find_14 ?_
    refine V_if_eq (tgt := 40) hc d_FidTable_find_17 (by decide) (fun hq1 => ?_) (fun hq1 => ?_)
    · replace hw := hw.1 hq1
      refine V_sub (lv' := [(0, va_rf (some v0)), (1, .int (v1)), (2, .int (v2))]) [0, 1, 2] rfl ?_
      exact vb_FidTable_find_40 hc hq X2 hX2 _ _ _ _ hw
    · replace hw := hw.2 hq1
      refine V_aload_n hc 0 d_FidTable_find_20 rfl rfl ?_
      refine V_get (v := va_rf (mm_P h v0 0)) hc gf_FidTable_11 rfl q1 rfl d_FidTable_find_21 ?_
      refine V_iload_n hc 2 d_FidTable_find_24 rfl rfl ?_
      obtain ⟨q9, hw⟩ := hw
      refine V_aald (t := 3) (ty := .object "EpochServer$Fid") hc rfl rfl rfl q3 q4 q9 d_FidTable_find_25 ?_
      refine V_get (v := .int (mm_I h a6 1)) hc gf_FidTable_22 q7 q8 rfl d_FidTable_find_26 ?_
      refine V_iload_n hc 1 d_FidTable_find_29 rfl rfl ?_
      refine V_icmp_ne (tgt := 40) hc d_FidTable_find_30 (by decide) (fun hq1 => ?_) (fun hq1 => ?_)
      · replace hw := hw.1 hq1
        refine V_sub (lv' := [(0, va_rf (some v0)), (1, .int (v1)), (2, .int (v2))]) [0, 1, 2] rfl ?_
        exact vb_FidTable_find_40 hc hq X2 hX2 _ _ _ _ hw
      · replace hw := hw.2 hq1
        refine V_aload_n hc 0 d_FidTable_find_33 rfl rfl ?_
        refine V_get (v := va_rf (mm_P h v0 0)) hc gf_FidTable_11 rfl q1 rfl d_FidTable_find_34 ?_
        refine V_iload_n hc 2 d_FidTable_find_37 rfl rfl ?_
        obtain ⟨q10, hw⟩ := hw
        refine V_aald (t := 3) (ty := .object "EpochServer$Fid") hc rfl rfl rfl q3 q4 q10 d_FidTable_find_38 ?_
        exact V_aret hc hq (by first | exact Or.inl ⟨_, rfl⟩ | exact Or.inr ⟨_, rfl⟩) ⟨_, rfl, hw⟩ (by decide) (by decide) d_FidTable_find_39
theorem vl_FidTable_find_2 {E : mm_E} {Z : Option Nat → mm_M → Prop} (hc : cx E "EpochServer$FidTable" c_FidTable_find 3 (some ((.object "EpochServer$Fid"))) rm_FidTable_find) (hq : cq E rm_FidTable_find (pP Z))  (v0 : Nat) (v1 : Int32) (v2 : Int32) (h : mm_M) (hw : lp_FidTable_find_2  (mm_ge (eG E)) v0 v1 v2 h Z) : V E 3 0 0 h 2 [(0, va_rf (some v0)), (1, .int (v1)), (2, .int (v2))] [] :=
  hw (fun v0 v1 v2 h => V E 3 0 0 h 2 [(0, va_rf (some v0)), (1, .int (v1)), (2, .int (v2))] []) (fun v0 v1 v2 h hb => vb_FidTable_find_2 hc hq  _ (fun _ _ _ _ q => q) v0 v1 v2 h hb)
set_option maxRecDepth 100000 in
set_option maxHeartbeats 4000000 in
theorem vb_FidTable_find_0 {E : mm_E} {Z : Option Nat → mm_M → Prop} (hc : cx E "EpochServer$FidTable" c_FidTable_find 3 (some ((.object "EpochServer$Fid"))) rm_FidTable_find) (hq : cq E rm_FidTable_find (pP Z))  (v0 : Nat) (v1 : Int32) (h : mm_M) (hw : wq_FidTable_find_0  (mm_ge (eG E)) v0 v1 h Z) : V E 3 0 0 h 0 [(0, va_rf (some v0)), (1, .int (v1))] [] := by
  unfold wq_FidTable_find_0 at hw
  refine V_iconst (v := 0) hc d_FidTable_find_0 (by decide) ?_
  refine V_istore_n (i := 2) (lv' := [(2, .int (0)), (0, va_rf (some v0)), (1, .int (v1))]) hc d_FidTable_find_1 rfl (by decide) rfl ?_
  refine V_sub (lv' := [(0, va_rf (some v0)), (1, .int (v1)), (2, .int (0))]) [1, 2, 0] rfl ?_
  exact vl_FidTable_find_2 hc hq  _ _ _ _ hw
def wq_FidTable_find (ge : Nat → Nat) (v0 : Nat) (v1 : Int32) (h : mm_M) (Z : Option Nat → mm_M → Prop) : Prop := wq_FidTable_find_0 ge v0 v1 h Z
theorem sat_FidTable_find (G : mm_G) (v0 : Nat) (v1 : Int32) (h : mm_M) (Z : Option Nat → mm_M → Prop) (hw : wq_FidTable_find (mm_ge G) v0 v1 h Z) : mm_Met G y_FidTable_find c_FidTable_find 3 (some ((.object "EpochServer$Fid"))) rm_FidTable_find [va_rf (some v0), .int (v1)] h (pP Z) := by
  refine mm_intro (own := "EpochServer$FidTable") (by decide) rfl (by simp [lg_sl, cat_rf, cat_i, cat_l]) (fun E e1 hc hq hi => ?_)
  subst e1
  have e2 : lv_args 0 [va_rf (some v0), .int (v1)] = [(0, va_rf (some v0)), (1, .int (v1))] := by simp [lv_args, cat_rf, cat_i, cat_l]
  rw [e2]
  refine V_sub (lv' := [(0, va_rf (some v0)), (1, .int (v1))]) [0, 1] rfl ?_
  exact vb_FidTable_find_0 hc hq v0 v1 h hw
/-! FidTable.size()I -/
abbrev rm_FidTable_size : Room := { frames := 0, cells := 0, slots := 0, locals := 0 }
def wq_FidTable_size_28 (X4 : Nat → Int32 → Int32 → mm_M → Prop) (ge : Nat → Nat) (v0 : Nat) (v2 : Int32) (s0 : Int32) (s1 : Int32) (h : mm_M) (Z : Int32 → mm_M → Prop) : Prop :=
  X4 (v0) ((s0) + (s1)) (v2 + 1) h
def wq_FidTable_size_4 (X4 : Nat → Int32 → Int32 → mm_M → Prop) (ge : Nat → Nat) (v0 : Nat) (v1 : Int32) (v2 : Int32) (h : mm_M) (Z : Int32 → mm_M → Prop) : Prop :=
  (((24 : Int32) ≤ (v2 : Int32) → Z (v1) h) ∧ (¬ (24 : Int32) ≤ (v2 : Int32) → mm_k h (v0) = kd_FidTable ∧ ∃ a2, mm_P h v0 0 = some a2 ∧ mm_k h (a2) = ka_Fid ∧ vp_in (v2) (mm_n h a2) ∧ ∃ a6, mm_P h a2 (Int32.toNatClampNeg (v2)) = some a6 ∧ mm_k h (a6) = kd_Fid ∧ (((mm_I h a6 0) = 0 → wq_FidTable_size_28 X4 ge (v0) (v2) (v1) (0) h Z) ∧ (¬ (mm_I h a6 0) = 0 → wq_FidTable_size_28 X4 ge (v0) (v2) (v1) (1) h Z))))
def lp_FidTable_size_4  (ge : Nat → Nat) (v0 : Nat) (v1 : Int32) (v2 : Int32) (h : mm_M) (Z : Int32 → mm_M → Prop) : Prop :=
  ∀ X4 : Nat → Int32 → Int32 → mm_M → Prop, (∀ (v0 : Nat) (v1 : Int32) (v2 : Int32) (h : mm_M), wq_FidTable_size_4 X4 ge v0 v1 v2 h Z → X4 v0 v1 v2 h) → X4 v0 v1 v2 h
def wq_FidTable_size_0  (ge : Nat → Nat) (v0 : Nat) (h : mm_M) (Z : Int32 → mm_M → Prop) : Prop :=
  lp_FidTable_size_4  ge (v0) (0) (0) h Z
set_option maxRecDepth 100000 in
set_option maxHeartbeats 4000000 in
theorem vb_FidTable_size_28 {E : mm_E} {Z : Int32 → mm_M → Prop} (hc : cx E "EpochServer$FidTable" c_FidTable_size 3 (some (.int)) rm_FidTable_size) (hq : cq E rm_FidTable_size (pI Z)) (X4 : Nat → Int32 → Int32 → mm_M → Prop) (hX4 : ∀ (v0 : Nat) (v1 : Int32) (v2 : Int32) (h : mm_M), X4 v0 v1 v2 h → V E 3 0 0 h 4 [(0, va_rf (some v0)), (1, .int (v1)), (2, .int (v2))] []) (v0 : Nat) (v2 : Int32) (s0 : Int32) (s1 : Int32) (h : mm_M) (hw : wq_FidTable_size_28 X4 (mm_ge (eG E)) v0 v2 s0 s1 h Z) : V E 3 0 0 h 28 [(0, va_rf (some v0)), (2, .int (v2))] [.int (s1), .int (s0)] := by
  unfold wq_FidTable_size_28 at hw
  refine V_iadd hc d_FidTable_size_28 ?_
  refine V_istore_n (i := 1) (lv' := [(1, .int ((s0) + (s1))), (0, va_rf (some v0)), (2, .int (v2))]) hc d_FidTable_size_29 rfl (by decide) rfl ?_
  refine V_iinc (v := v2 + 1) (lv' := [(2, .int (v2 + 1)), (1, .int ((s0) + (s1))), (0, va_rf (some v0))]) hc 2 d_FidTable_size_30 rfl rfl (by decide) rfl ?_
  refine V_goto (tgt := 4) hc d_FidTable_size_33 (by decide) ?_
  refine V_sub (lv' := [(0, va_rf (some v0)), (1, .int ((s0) + (s1))), (2, .int (v2 + 1))]) [2, 1, 0] rfl ?_
  exact hX4 _ _ _ _ hw
set_option maxRecDepth 100000 in
set_option maxHeartbeats 4000000 in
theorem vb_FidTable_size_4 {E : mm_E} {Z : Int32 → mm_M → Prop} (hc : cx E "EpochServer$FidTable" c_FidTable_size 3 (some (.int)) rm_FidTable_size) (hq : cq E rm_FidTable_size (pI Z)) (X4 : Nat → Int32 → Int32 → mm_M → Prop) (hX4 : ∀ (v0 : Nat) (v1 : Int32) (v2 : Int32) (h : mm_M), X4 v0 v1 v2 h → V E 3 0 0 h 4 [(0, va_rf (some v0)), (1, .int (v1)), (2, .int (v2))] []) (v0 : Nat) (v1 : Int32) (v2 : Int32) (h : mm_M) (hw : wq_FidTable_size_4 X4 (mm_ge (eG E)) v0 v1 v2 h Z) : V E 3 0 0 h 4 [(0, va_rf (some v0)), (1, .int (v1)), (2, .int (v2))] [] := by
  unfold wq_FidTable_size_4 at hw
  refine V_iload_n hc 2 d_FidTable_size_4 rfl rfl ?_
  refine V_bipush (v := 24) hc d_FidTable_size_5 (by decide) ?_
  refine V_icmp_ge (tgt := 36) hc d_FidTable_size_7 (by decide) (fun hq1 => ?_) (fun hq1 => ?_)
  · replace hw := hw.1 hq1
    refine V_iload_n hc 1 d_FidTable_size_36 rfl rfl ?_
    exact V_iret hc hq ⟨_, rfl, hw⟩ (by decide) (by decide) d_FidTable_size_37
  · replace hw := hw.2 hq1
    refine V_iload_n hc 1 d_FidTable_size_10 rfl rfl ?_
    refine V_aload_n hc 0 d_FidTable_size_11 rfl rfl ?_
    obtain ⟨q1, hw⟩ := hw
    refine V_get (v := va_rf (mm_P h v0 0)) hc gf_FidTable_11 rfl q1 rfl d_FidTable_size_12 ?_
    refine V_iload_n hc 2 d_FidTable_size_15 rfl rfl ?_
    obtain ⟨a2, q3, hw⟩ := hw
    obtain ⟨q4, hw⟩ := hw
    obtain ⟨q5, hw⟩ := hw
    refine V_aald (t := 3) (ty := .object "EpochServer$Fid") hc rfl rfl rfl q3 q4 q5 d_FidTable_size_16 ?_
    obtain ⟨a6, q7, hw⟩ := hw
    obtain ⟨q8, hw⟩ := hw
    refine V_get (v := .int (mm_I h a6 0)) hc gf_FidTable_18 q7 q8 rfl d_FidTable_size_17 ?_
    refine V_if_eq (tgt := 27) hc d_FidTable_size_20 (by decide) (fun hq1 => ?_) (fun hq1 => ?_)
    · replace hw := hw.1 hq1
      refine V_iconst (v := 0) hc d_FidTable_size_27 (by decide) ?_
      refine V_sub (lv' := [(0, va_rf (some v0)), (2, .int (v2))]) [0, 2] rfl ?_
      exact vb_FidTable_size_28 hc hq X4 hX4 _ _ _ _ _ hw
    · replace hw := hw.2 hq1
      refine V_iconst (v := 1) hc d_FidTable_size_23 (by decide) ?_
      refine V_goto (tgt := 28) hc d_FidTable_size_24 (by decide) ?_
      refine V_sub (lv' := [(0, va_rf (some v0)), (2, .int (v2))]) [0, 2] rfl ?_
      exact vb_FidTable_size_28 hc hq X4 hX4 _ _ _ _ _ hw
theorem vl_FidTable_size_4 {E : mm_E} {Z : Int32 → mm_M → Prop} (hc : cx E "EpochServer$FidTable" c_FidTable_size 3 (some (.int)) rm_FidTable_size) (hq : cq E rm_FidTable_size (pI Z))  (v0 : Nat) (v1 : Int32) (v2 : Int32) (h : mm_M) (hw : lp_FidTable_size_4  (mm_ge (eG E)) v0 v1 v2 h Z) : V E 3 0 0 h 4 [(0, va_rf (some v0)), (1, .int (v1)), (2, .int (v2))] [] :=
  hw (fun v0 v1 v2 h => V E 3 0 0 h 4 [(0, va_rf (some v0)), (1, .int (v1)), (2, .int (v2))] []) (fun v0 v1 v2 h hb => vb_FidTable_size_4 hc hq  _ (fun _ _ _ _ q => q) v0 v1 v2 h hb)
set_option maxRecDepth 100000 in
set_option maxHeartbeats 4000000 in
theorem vb_FidTable_size_0 {E : mm_E} {Z : Int32 → mm_M → Prop} (hc : cx E "EpochServer$FidTable" c_FidTable_size 3 (some (.int)) rm_FidTable_size) (hq : cq E rm_FidTable_size (pI Z))  (v0 : Nat) (h : mm_M) (hw : wq_FidTable_size_0  (mm_ge (eG E)) v0 h Z) : V E 3 0 0 h 0 [(0, va_rf (some v0))] [] := by
  unfold wq_FidTable_size_0 at hw
  refine V_iconst (v := 0) hc d_FidTable_size_0 (by decide) ?_
  refine V_istore_n (i := 1) (lv' := [(1, .int (0)), (0, va_rf (some v0))]) hc d_FidTable_size_1 rfl (by decide) rfl ?_
  refine V_iconst (v := 0) hc d_FidTable_size_2 (by decide) ?_
  refine V_istore_n (i := 2) (lv' := [(2, .int (0)), (1, .int (0)), (0, va_rf (some v0))]) hc d_FidTable_size_3 rfl (by decide) rfl ?_
  refine V_sub (lv' := [(0, va_rf (some v0)), (1, .int (0)), (2, .int (0))]) [2, 1, 0] rfl ?_
  exact vl_FidTable_size_4 hc hq  _ _ _ _ hw
def wq_FidTable_size (ge : Nat → Nat) (v0 : Nat) (h : mm_M) (Z : Int32 → mm_M → Prop) : Prop := wq_FidTable_size_0 ge v0 h Z
theorem sat_FidTable_size (G : mm_G) (v0 : Nat) (h : mm_M) (Z : Int32 → mm_M → Prop) (hw : wq_FidTable_size (mm_ge G) v0 h Z) : mm_Met G y_FidTable_size c_FidTable_size 3 (some (.int)) rm_FidTable_size [va_rf (some v0)] h (pI Z) := by
  refine mm_intro (own := "EpochServer$FidTable") (by decide) rfl (by simp [lg_sl, cat_rf, cat_i, cat_l]) (fun E e1 hc hq hi => ?_)
  subst e1
  have e2 : lv_args 0 [va_rf (some v0)] = [(0, va_rf (some v0))] := by simp [lv_args, cat_rf, cat_i, cat_l]
  rw [e2]
  refine V_sub (lv' := [(0, va_rf (some v0))]) [0] rfl ?_
  exact vb_FidTable_size_0 hc hq v0 h hw
/-! FidTable.make(III)Z -/
abbrev rm_FidTable_make : Room := { frames := 1, cells := 0, slots := 0, locals := 20 }
def wq_FidTable_make_3 (X3 : Nat → Int32 → Int32 → Int32 → Int32 → mm_M → Prop) (ge : Nat → Nat) (v0 : Nat) (v1 : Int32) (v2 : Int32) (v3 : Int32) (v4 : Int32) (h : mm_M) (Z : Int32 → mm_M → Prop) : Prop :=
  (((24 : Int32) ≤ (v4 : Int32) → Z (0) h) ∧ (¬ (24 : Int32) ≤ (v4 : Int32) → mm_k h (v0) = kd_FidTable ∧ ∃ a2, mm_P h v0 0 = some a2 ∧ mm_k h (a2) = ka_Fid ∧ vp_in (v4) (mm_n h a2) ∧ ∃ a6, mm_P h a2 (Int32.toNatClampNeg (v4)) = some a6 ∧ mm_k h (a6) = kd_Fid ∧ ((¬ (mm_I h a6 0) = 0 → X3 (v0) (v1) (v2) (v3) (v4 + 1) h) ∧ ((mm_I h a6 0) = 0 → ge 0 ≤ a6 ∧ ∀ h10 : mm_M, h10 = mm_uI h (a6) 0 (1) → ∃ a11, mm_P h a2 (Int32.toNatClampNeg (v4)) = some a11 ∧ mm_k h10 (a11) = kd_Fid ∧ ge 0 ≤ a11 ∧ ∀ h15 : mm_M, h15 = mm_uI h10 (a11) 1 (v1) → ∃ a16, mm_P h a2 (Int32.toNatClampNeg (v4)) = some a16 ∧ mm_k h15 (a16) = kd_Fid ∧ ge 0 ≤ a16 ∧ ∀ h20 : mm_M, h20 = mm_uI h15 (a16) 2 (v2) → ∃ a21, mm_P h a2 (Int32.toNatClampNeg (v4)) = some a21 ∧ mm_k h20 (a21) = kd_Fid ∧ ge 0 ≤ a21 ∧ ∀ h25 : mm_M, h25 = mm_uI h20 (a21) 3 (v3) → ∃ a26, mm_P h a2 (Int32.toNatClampNeg (v4)) = some a26 ∧ mm_k h25 (a26) = kd_Fid ∧ ge 0 ≤ a26 ∧ ∀ h30 : mm_M, h30 = mm_uI h25 (a26) 4 (0) → ∃ a31, mm_P h a2 (Int32.toNatClampNeg (v4)) = some a31 ∧ mm_k h30 (a31) = kd_Fid ∧ ge 0 ≤ a31 ∧ ∀ h35 : mm_M, h35 = mm_uI h30 (a31) 5 (0) → ∃ a36, mm_P h a2 (Int32.toNatClampNeg (v4)) = some a36 ∧ mm_k h35 (a36) = kd_Fid ∧ wq_Fid_rewind ge (a36) h35 (fun h39 : mm_M => Z (1) h39)))))
def lp_FidTable_make_3  (ge : Nat → Nat) (v0 : Nat) (v1 : Int32) (v2 : Int32) (v3 : Int32) (v4 : Int32) (h : mm_M) (Z : Int32 → mm_M → Prop) : Prop :=
  ∀ X3 : Nat → Int32 → Int32 → Int32 → Int32 → mm_M → Prop, (∀ (v0 : Nat) (v1 : Int32) (v2 : Int32) (v3 : Int32) (v4 : Int32) (h : mm_M), wq_FidTable_make_3 X3 ge v0 v1 v2 v3 v4 h Z → X3 v0 v1 v2 v3 v4 h) → X3 v0 v1 v2 v3 v4 h
def wq_FidTable_make_0  (ge : Nat → Nat) (v0 : Nat) (v1 : Int32) (v2 : Int32) (v3 : Int32) (h : mm_M) (Z : Int32 → mm_M → Prop) : Prop :=
  lp_FidTable_make_3  ge (v0) (v1) (v2) (v3) (0) h Z
set_option maxRecDepth 100000 in
set_option maxHeartbeats 4000000 in
theorem vb_FidTable_make_3 {E : mm_E} {Z : Int32 → mm_M → Prop} (hc : cx E "EpochServer$FidTable" c_FidTable_make 6 (some (.boolean)) rm_FidTable_make) (hq : cq E rm_FidTable_make (pI Z)) (X3 : Nat → Int32 → Int32 → Int32 → Int32 → mm_M → Prop) (hX3 : ∀ (v0 : Nat) (v1 : Int32) (v2 : Int32) (v3 : Int32) (v4 : Int32) (h : mm_M), X3 v0 v1 v2 v3 v4 h → V E 6 0 0 h 3 [(0, va_rf (some v0)), (1, .int (v1)), (2, .int (v2)), (3, .int (v3)), (4, .int (v4))] []) (v0 : Nat) (v1 : Int32) (v2 : Int32) (v3 : Int32) (v4 : Int32) (h : mm_M) (hw : wq_FidTable_make_3 X3 (mm_ge (eG E)) v0 v1 v2 v3 v4 h Z) : V E 6 0 0 h 3 [(0, va_rf (some v0)), (1, .int (v1)), (2, .int (v2)), (3, .int (v3)), (4, .int (v4))] [] := by
  unfold wq_FidTable_make_3 at hw
  refine V_iload hc 4 d_FidTable_make_3 rfl ?_
  refine V_bipush (v := 24) hc d_FidTable_make_5 (by decide) ?_
  refine V_icmp_ge (tgt := 76) hc d_FidTable_make_7 (by decide) (fun hq1 => ?_) (fun hq1 => ?_)
  · replace hw := hw.1 hq1
    refine V_iconst (v := 0) hc d_FidTable_make_76 (by decide) ?_
    exact V_zret hc hq (by decide) ⟨_, rfl, hw⟩ (by decide) (by decide) d_FidTable_make_77
  · replace hw := hw.2 hq1
    refine V_aload_n hc 0 d_FidTable_make_10 rfl rfl ?_
    obtain ⟨q1, hw⟩ := hw
    refine V_get (v := va_rf (mm_P h v0 0)) hc gf_FidTable_11 rfl q1 rfl d_FidTable_make_11 ?_
    refine V_iload hc 4 d_FidTable_make_14 rfl ?_
    obtain ⟨a2, q3, hw⟩ := hw
    obtain ⟨q4, hw⟩ := hw
    obtain ⟨q5, hw⟩ := hw
    refine V_aald (t := 3) (ty := .object "EpochServer$Fid") hc rfl rfl rfl q3 q4 q5 d_FidTable_make_16 ?_
    refine V_astore (i := 5) (lv' := [(5, va_rf (mm_P h a2 (Int32.toNatClampNeg (v4)))), (0, va_rf (some v0)), (1, .int (v1)), (2, .int (v2)), (3, .int (v3)), (4, .int (v4))]) hc d_FidTable_make_17 (by decide) rfl ?_
    refine V_aload hc 0 d_FidTable_make_19 rfl ?_
    obtain ⟨a6, q7, hw⟩ := hw
    obtain ⟨q8, hw⟩ := hw
    refine V_get (v := .int (mm_I h a6 0)) hc gf_FidTable_18 q7 q8 rfl d_FidTable_make_21 ?_
    refine V_if_ne (tgt := 70) hc d_FidTable_make_24 (by decide) (fun hq1 => ?_) (fun hq1 => ?_)
    · replace hw := hw.1 hq1
      refine V_iinc (v := v4 + 1) (lv' := [(4, .int (v4 + 1)), (5, va_rf (mm_P h a2 (Int32.toNatClampNeg (v4)))), (0, va_rf (some v0)), (1, .int (v1)), (2, .int (v2)), (3, .int (v3))]) hc 5 d_FidTable_make_70 rfl rfl (by decide) rfl ?_
      refine V_goto (tgt := 3) hc d_FidTable_make_73 (by decide) ?_
      refine V_sub (lv' := [(0, va_rf (some v0)), (1, .int (v1)), (2, .int (v2)), (3, .int (v3)), (4, .int (v4 + 1))]) [2, 3, 4, 5, 0] rfl ?_
      exact hX3 _ _ _ _ _ _ hw
    · replace hw := hw.2 hq1
      refine V_aload hc 0 d_FidTable_make_27 rfl ?_
      refine V_iconst (v := 1) hc d_FidTable_make_29 (by decide) ?_
      obtain ⟨q9, hw⟩ := hw
      obtain ⟨h10, eq_h10⟩ : ∃ x, x = mm_uI h (a6) 0 (1) := ⟨_, rfl⟩
      replace hw := hw _ eq_h10
      refine V_put (h' := h10) hc gf_FidTable_18 rfl q7 q8 q9 (by rw [eq_h10]; exact mm_Up_I _ _ _ _) (by rw [eq_h10]; exact up_vI rfl) (by decide) (by decide) d_FidTable_make_30 ?_
      refine V_aload hc 0 d_FidTable_make_33 rfl ?_
      refine V_iload_n hc 2 d_FidTable_make_35 rfl rfl ?_
      obtain ⟨a11, q12, hw⟩ := hw
      obtain ⟨q13, hw⟩ := hw
      obtain ⟨q14, hw⟩ := hw
      obtain ⟨h15, eq_h15⟩ : ∃ x, x = mm_uI h10 (a11) 1 (v1) := ⟨_, rfl⟩
      replace hw := hw _ eq_h15
      refine V_put (h' := h15) hc gf_FidTable_22 rfl q12 q13 q14 (by rw [eq_h15]; exact mm_Up_I _ _ _ _) (by rw [eq_h15]; exact up_vI rfl) (vp_nar_int _) rfl d_FidTable_make_36 ?_
      refine V_aload hc 0 d_FidTable_make_39 rfl ?_
      refine V_iload_n hc 3 d_FidTable_make_41 rfl rfl ?_
      obtain ⟨a16, q17, hw⟩ := hw
      obtain ⟨q18, hw⟩ := hw
      obtain ⟨q19, hw⟩ := hw
      obtain ⟨h20, eq_h20⟩ : ∃ x, x = mm_uI h15 (a16) 2 (v2) := ⟨_, rfl⟩
      replace hw := hw _ eq_h20
      refine V_put (h' := h20) hc gf_FidTable_26 rfl q17 q18 q19 (by rw [eq_h20]; exact mm_Up_I _ _ _ _) (by rw [eq_h20]; exact up_vI rfl) (vp_nar_int _) rfl d_FidTable_make_42 ?_
      refine V_aload hc 0 d_FidTable_make_45 rfl ?_
      refine V_iload_n hc 4 d_FidTable_make_47 rfl rfl ?_
      obtain ⟨a21, q22, hw⟩ := hw
      obtain ⟨q23, hw⟩ := hw
      obtain ⟨q24, hw⟩ := hw
      obtain ⟨h25, eq_h25⟩ : ∃ x, x = mm_uI h20 (a21) 3 (v3) := ⟨_, rfl⟩
      replace hw := hw _ eq_h25
      refine V_put (h' := h25) hc gf_FidTable_29 rfl q22 q23 q24 (by rw [eq_h25]; exact mm_Up_I _ _ _ _) (by rw [eq_h25]; exact up_vI rfl) (vp_nar_int _) rfl d_FidTable_make_48 ?_
      refine V_aload hc 0 d_FidTable_make_51 rfl ?_
      refine V_iconst (v := 0) hc d_FidTable_make_53 (by decide) ?_
      obtain ⟨a26, q27, hw⟩ := hw
      obtain ⟨q28, hw⟩ := hw
      obtain ⟨q29, hw⟩ := hw
      obtain ⟨h30, eq_h30⟩ : ∃ x, x = mm_uI h25 (a26) 4 (0) := ⟨_, rfl⟩
      replace hw := hw _ eq_h30
      refine V_put (h' := h30) hc gf_FidTable_32 rfl q27 q28 q29 (by rw [eq_h30]; exact mm_Up_I _ _ _ _) (by rw [eq_h30]; exact up_vI rfl) (by decide) (by decide) d_FidTable_make_54 ?_
      refine V_aload hc 0 d_FidTable_make_57 rfl ?_
      refine V_iconst (v := 0) hc d_FidTable_make_59 (by decide) ?_
      obtain ⟨a31, q32, hw⟩ := hw
      obtain ⟨q33, hw⟩ := hw
      obtain ⟨q34, hw⟩ := hw
      obtain ⟨h35, eq_h35⟩ : ∃ x, x = mm_uI h30 (a31) 5 (0) := ⟨_, rfl⟩
      replace hw := hw _ eq_h35
      refine V_put (h' := h35) hc gf_FidTable_35 rfl q32 q33 q34 (by rw [eq_h35]; exact mm_Up_I _ _ _ _) (by rw [eq_h35]; exact up_vI rfl) (vp_nar_int _) rfl d_FidTable_make_60 ?_
      refine V_aload hc 0 d_FidTable_make_63 rfl ?_
      obtain ⟨a36, q37, hw⟩ := hw
      obtain ⟨q38, hw⟩ := hw
      refine V_callV (rm' := rm_Fid_rewind) (As := []) (rest := []) (n := 0) (cn := 4) hc q37 q38 (sat_Fid_rewind (eG E) _ _ _ hw) rfl cv_FidTable_38 (gw_of (tw_3 (List.mem_of_getElem? (i := 54) rfl)) rfl) ss_Fid_rewind rfl ⟨by decide, by decide⟩ (by decide) (by decide) rfl (by simp [cat_rf, cat_i, cat_l]) d_FidTable_make_65 (fun r0 h39 hw => ?_)
      obtain ⟨rfl, hw⟩ := hw
      refine V_wide (cs' := 0) (sl' := 0) (by decide) (by decide) ?_
      refine V_st (st' := []) rfl ?_
      refine V_iconst (v := 1) hc d_FidTable_make_68 (by decide) ?_
      exact V_zret hc hq (by decide) ⟨_, rfl, hw⟩ (by decide) (by decide) d_FidTable_make_69
theorem vl_FidTable_make_3 {E : mm_E} {Z : Int32 → mm_M → Prop} (hc : cx E "EpochServer$FidTable" c_FidTable_make 6 (some (.boolean)) rm_FidTable_make) (hq : cq E rm_FidTable_make (pI Z))  (v0 : Nat) (v1 : Int32) (v2 : Int32) (v3 : Int32) (v4 : Int32) (h : mm_M) (hw : lp_FidTable_make_3  (mm_ge (eG E)) v0 v1 v2 v3 v4 h Z) : V E 6 0 0 h 3 [(0, va_rf (some v0)), (1, .int (v1)), (2, .int (v2)), (3, .int (v3)), (4, .int (v4))] [] :=
  hw (fun v0 v1 v2 v3 v4 h => V E 6 0 0 h 3 [(0, va_rf (some v0)), (1, .int (v1)), (2, .int (v2)), (3, .int (v3)), (4, .int (v4))] []) (fun v0 v1 v2 v3 v4 h hb => vb_FidTable_make_3 hc hq  _ (fun _ _ _ _ _ _ q => q) v0 v1 v2 v3 v4 h hb)
set_option maxRecDepth 100000 in
set_option maxHeartbeats 4000000 in
theorem vb_FidTable_make_0 {E : mm_E} {Z : Int32 → mm_M → Prop} (hc : cx E "EpochServer$FidTable" c_FidTable_make 6 (some (.boolean)) rm_FidTable_make) (hq : cq E rm_FidTable_make (pI Z))  (v0 : Nat) (v1 : Int32) (v2 : Int32) (v3 : Int32) (h : mm_M) (hw : wq_FidTable_make_0  (mm_ge (eG E)) v0 v1 v2 v3 h Z) : V E 6 0 0 h 0 [(0, va_rf (some v0)), (1, .int (v1)), (2, .int (v2)), (3, .int (v3))] [] := by
  unfold wq_FidTable_make_0 at hw
  refine V_iconst (v := 0) hc d_FidTable_make_0 (by decide) ?_
  refine V_istore (i := 4) (lv' := [(4, .int (0)), (0, va_rf (some v0)), (1, .int (v1)), (2, .int (v2)), (3, .int (v3))]) hc d_FidTable_make_1 (by decide) rfl ?_
  refine V_sub (lv' := [(0, va_rf (some v0)), (1, .int (v1)), (2, .int (v2)), (3, .int (v3)), (4, .int (0))]) [1, 2, 3, 4, 0] rfl ?_
  exact vl_FidTable_make_3 hc hq  _ _ _ _ _ _ hw
def wq_FidTable_make (ge : Nat → Nat) (v0 : Nat) (v1 : Int32) (v2 : Int32) (v3 : Int32) (h : mm_M) (Z : Int32 → mm_M → Prop) : Prop := wq_FidTable_make_0 ge v0 v1 v2 v3 h Z
theorem sat_FidTable_make (G : mm_G) (v0 : Nat) (v1 : Int32) (v2 : Int32) (v3 : Int32) (h : mm_M) (Z : Int32 → mm_M → Prop) (hw : wq_FidTable_make (mm_ge G) v0 v1 v2 v3 h Z) : mm_Met G y_FidTable_make c_FidTable_make 6 (some (.boolean)) rm_FidTable_make [va_rf (some v0), .int (v1), .int (v2), .int (v3)] h (pI Z) := by
  refine mm_intro (own := "EpochServer$FidTable") (by decide) rfl (by simp [lg_sl, cat_rf, cat_i, cat_l]) (fun E e1 hc hq hi => ?_)
  subst e1
  have e2 : lv_args 0 [va_rf (some v0), .int (v1), .int (v2), .int (v3)] = [(0, va_rf (some v0)), (1, .int (v1)), (2, .int (v2)), (3, .int (v3))] := by simp [lv_args, cat_rf, cat_i, cat_l]
  rw [e2]
  refine V_sub (lv' := [(0, va_rf (some v0)), (1, .int (v1)), (2, .int (v2)), (3, .int (v3))]) [0, 1, 2, 3] rfl ?_
  exact vb_FidTable_make_0 hc hq v0 v1 v2 v3 h hw
/-! FidTable.clear()V -/
abbrev rm_FidTable_clear : Room := { frames := 0, cells := 0, slots := 0, locals := 0 }
def wq_FidTable_clear_2 (X2 : Nat → Int32 → mm_M → Prop) (ge : Nat → Nat) (v0 : Nat) (v1 : Int32) (h : mm_M) (Z : mm_M → Prop) : Prop :=
  (((24 : Int32) ≤ (v1 : Int32) → Z h) ∧ (¬ (24 : Int32) ≤ (v1 : Int32) → mm_k h (v0) = kd_FidTable ∧ ∃ a2, mm_P h v0 0 = some a2 ∧ mm_k h (a2) = ka_Fid ∧ vp_in (v1) (mm_n h a2) ∧ ∃ a6, mm_P h a2 (Int32.toNatClampNeg (v1)) = some a6 ∧ mm_k h (a6) = kd_Fid ∧ ge 0 ≤ a6 ∧ ∀ h10 : mm_M, h10 = mm_uI h (a6) 0 (0) → X2 (v0) (v1 + 1) h10))
def lp_FidTable_clear_2  (ge : Nat → Nat) (v0 : Nat) (v1 : Int32) (h : mm_M) (Z : mm_M → Prop) : Prop :=
  ∀ X2 : Nat → Int32 → mm_M → Prop, (∀ (v0 : Nat) (v1 : Int32) (h : mm_M), wq_FidTable_clear_2 X2 ge v0 v1 h Z → X2 v0 v1 h) → X2 v0 v1 h
def wq_FidTable_clear_0  (ge : Nat → Nat) (v0 : Nat) (h : mm_M) (Z : mm_M → Prop) : Prop :=
  lp_FidTable_clear_2  ge (v0) (0) h Z
set_option maxRecDepth 100000 in
set_option maxHeartbeats 4000000 in
theorem vb_FidTable_clear_2 {E : mm_E} {Z : mm_M → Prop} (hc : cx E "EpochServer$FidTable" c_FidTable_clear 2 none rm_FidTable_clear) (hq : cq E rm_FidTable_clear (pV Z)) (X2 : Nat → Int32 → mm_M → Prop) (hX2 : ∀ (v0 : Nat) (v1 : Int32) (h : mm_M), X2 v0 v1 h → V E 2 0 0 h 2 [(0, va_rf (some v0)), (1, .int (v1))] []) (v0 : Nat) (v1 : Int32) (h : mm_M) (hw : wq_FidTable_clear_2 X2 (mm_ge (eG E)) v0 v1 h Z) : V E 2 0 0 h 2 [(0, va_rf (some v0)), (1, .int (v1))] [] := by
  unfold wq_FidTable_clear_2 at hw
  refine V_iload_n hc 1 d_FidTable_clear_2 rfl rfl ?_
  refine V_bipush (v := 24) hc d_FidTable_clear_3 (by decide) ?_
  refine V_icmp_ge (tgt := 24) hc d_FidTable_clear_5 (by decide) (fun hq1 => ?_) (fun hq1 => ?_)
  · replace hw := hw.1 hq1
    exact V_vret hc hq ⟨rfl, hw⟩ (by decide) (by decide) d_FidTable_clear_24
  · replace hw := hw.2 hq1
    refine V_aload_n hc 0 d_FidTable_clear_8 rfl rfl ?_
    obtain ⟨q1, hw⟩ := hw
    refine V_get (v := va_rf (mm_P h v0 0)) hc gf_FidTable_11 rfl q1 rfl d_FidTable_clear_9 ?_
    refine V_iload_n hc 1 d_FidTable_clear_12 rfl rfl ?_
    obtain ⟨a2, q3, hw⟩ := hw
    obtain ⟨q4, hw⟩ := hw
    obtain ⟨q5, hw⟩ := hw
    refine V_aald (t := 3) (ty := .object "EpochServer$Fid") hc rfl rfl rfl q3 q4 q5 d_FidTable_clear_13 ?_
    refine V_iconst (v := 0) hc d_FidTable_clear_14 (by decide) ?_
    obtain ⟨a6, q7, hw⟩ := hw
    obtain ⟨q8, hw⟩ := hw
    obtain ⟨q9, hw⟩ := hw
    obtain ⟨h10, eq_h10⟩ : ∃ x, x = mm_uI h (a6) 0 (0) := ⟨_, rfl⟩
    replace hw := hw _ eq_h10
    refine V_put (h' := h10) hc gf_FidTable_18 rfl q7 q8 q9 (by rw [eq_h10]; exact mm_Up_I _ _ _ _) (by rw [eq_h10]; exact up_vI rfl) (by decide) (by decide) d_FidTable_clear_15 ?_
    refine V_iinc (v := v1 + 1) (lv' := [(1, .int (v1 + 1)), (0, va_rf (some v0))]) hc 1 d_FidTable_clear_18 rfl rfl (by decide) rfl ?_
    refine V_goto (tgt := 2) hc d_FidTable_clear_21 (by decide) ?_
    refine V_sub (lv' := [(0, va_rf (some v0)), (1, .int (v1 + 1))]) [1, 0] rfl ?_
    exact hX2 _ _ _ hw
theorem vl_FidTable_clear_2 {E : mm_E} {Z : mm_M → Prop} (hc : cx E "EpochServer$FidTable" c_FidTable_clear 2 none rm_FidTable_clear) (hq : cq E rm_FidTable_clear (pV Z))  (v0 : Nat) (v1 : Int32) (h : mm_M) (hw : lp_FidTable_clear_2  (mm_ge (eG E)) v0 v1 h Z) : V E 2 0 0 h 2 [(0, va_rf (some v0)), (1, .int (v1))] [] :=
  hw (fun v0 v1 h => V E 2 0 0 h 2 [(0, va_rf (some v0)), (1, .int (v1))] []) (fun v0 v1 h hb => vb_FidTable_clear_2 hc hq  _ (fun _ _ _ q => q) v0 v1 h hb)
set_option maxRecDepth 100000 in
set_option maxHeartbeats 4000000 in
theorem vb_FidTable_clear_0 {E : mm_E} {Z : mm_M → Prop} (hc : cx E "EpochServer$FidTable" c_FidTable_clear 2 none rm_FidTable_clear) (hq : cq E rm_FidTable_clear (pV Z))  (v0 : Nat) (h : mm_M) (hw : wq_FidTable_clear_0  (mm_ge (eG E)) v0 h Z) : V E 2 0 0 h 0 [(0, va_rf (some v0))] [] := by
  unfold wq_FidTable_clear_0 at hw
  refine V_iconst (v := 0) hc d_FidTable_clear_0 (by decide) ?_
  refine V_istore_n (i := 1) (lv' := [(1, .int (0)), (0, va_rf (some v0))]) hc d_FidTable_clear_1 rfl (by decide) rfl ?_
  refine V_sub (lv' := [(0, va_rf (some v0)), (1, .int (0))]) [1, 0] rfl ?_
  exact vl_FidTable_clear_2 hc hq  _ _ _ hw
def wq_FidTable_clear (ge : Nat → Nat) (v0 : Nat) (h : mm_M) (Z : mm_M → Prop) : Prop := wq_FidTable_clear_0 ge v0 h Z
theorem sat_FidTable_clear (G : mm_G) (v0 : Nat) (h : mm_M) (Z : mm_M → Prop) (hw : wq_FidTable_clear (mm_ge G) v0 h Z) : mm_Met G y_FidTable_clear c_FidTable_clear 2 none rm_FidTable_clear [va_rf (some v0)] h (pV Z) := by
  refine mm_intro (own := "EpochServer$FidTable") (by decide) rfl (by simp [lg_sl, cat_rf, cat_i, cat_l]) (fun E e1 hc hq hi => ?_)
  subst e1
  have e2 : lv_args 0 [va_rf (some v0)] = [(0, va_rf (some v0))] := by simp [lv_args, cat_rf, cat_i, cat_l]
  rw [e2]
  refine V_sub (lv' := [(0, va_rf (some v0))]) [0] rfl ?_
  exact vb_FidTable_clear_0 hc hq v0 h hw
/-! Tree.<init>()V -/
abbrev rm_Tree_init : Room := { frames := 1, cells := 1, slots := 60, locals := 24 }
def wq_Tree_init_0  (ge : Nat → Nat) (v0 : Nat) (h : mm_M) (Z : mm_M → Prop) : Prop :=
  ∀ h1 : mm_M, h1 = mm_nw h 104 60 → ∀ a2 : Nat, a2 = mm_z h → mm_k h1 (v0) = kd_Tree ∧ ge 0 ≤ v0 ∧ ∀ h5 : mm_M, h5 = mm_uP h1 (v0) 0 (some a2) → Z h5
set_option maxRecDepth 100000 in
set_option maxHeartbeats 4000000 in
theorem vb_Tree_init_0 {E : mm_E} {Z : mm_M → Prop} (hc : cx E "EpochServer$Tree" c_Tree_init 1 none rm_Tree_init) (hq : cq E rm_Tree_init (pV Z)) (hin : ci E)  (v0 : Nat) (h : mm_M) (hw : wq_Tree_init_0  (mm_ge (eG E)) v0 h Z) : V E 1 0 0 h 0 [(0, va_rf (some v0))] [] := by
  unfold wq_Tree_init_0 at hw
  refine V_aload_n hc 0 d_Tree_init_0 rfl rfl ?_
  refine V_objInit hc rfl (gw_of (tw_1 (List.mem_of_getElem? (i := 177) rfl)) rfl) (gw_of (tw_1 (List.mem_of_getElem? (i := 27) rfl)) rfl) (gw_of (tw_1 (List.mem_of_getElem? (i := 28) rfl)) rfl) d_Tree_init_1 (by decide) (by decide) ?_
  refine V_aload_n hc 0 d_Tree_init_4 rfl rfl ?_
  refine V_bipush (v := 60) hc d_Tree_init_5 (by decide) ?_
  obtain ⟨h1, eq_h1⟩ : ∃ x, x = mm_nw h 104 60 := ⟨_, rfl⟩
  replace hw := hw _ eq_h1
  refine V_anew (t := 4) (N := 60) (C := "EpochServer$Node") hc rfl (by decide) (gw_of (tw_1 (List.mem_of_getElem? (i := 178) rfl)) rfl) (by decide) (by decide) (by decide) (by decide) (by decide) d_Tree_init_7 ?_
  rw [← eq_h1]
  obtain ⟨a2, eq_a2⟩ : ∃ x, x = mm_z h := ⟨_, rfl⟩
  replace hw := hw _ eq_a2
  rw [← eq_a2]
  refine V_wide (cs' := 1) (sl' := 60) (by decide) (by decide) ?_
  obtain ⟨q3, hw⟩ := hw
  obtain ⟨q4, hw⟩ := hw
  obtain ⟨h5, eq_h5⟩ : ∃ x, x = mm_uP h1 (v0) 0 (some a2) := ⟨_, rfl⟩
  replace hw := hw _ eq_h5
  refine V_putF (h' := h5) hc hin rfl (fun r hr => by cases hr; rfl) gf_Tree_11 rfl rfl q3 q4 (by rw [eq_h5]; exact mm_Up_P _ _ _ _) (by rw [eq_h5]; exact up_vP rfl) (pa_nar _) (pa_fit _) d_Tree_init_10 ?_
  exact V_vret hc hq ⟨rfl, hw⟩ (by decide) (by decide) d_Tree_init_13
def wq_Tree_init (ge : Nat → Nat) (v0 : Nat) (h : mm_M) (Z : mm_M → Prop) : Prop := wq_Tree_init_0 ge v0 h Z
theorem sat_Tree_init (G : mm_G) (v0 : Nat) (h : mm_M) (Z : mm_M → Prop) (hw : wq_Tree_init (mm_ge G) v0 h Z) : mm_Met G y_Tree_init c_Tree_init 1 none rm_Tree_init [va_rf (some v0)] h (pV Z) := by
  refine mm_intro (own := "EpochServer$Tree") (by decide) rfl (by simp [lg_sl, cat_rf, cat_i, cat_l]) (fun E e1 hc hq hi => ?_)
  subst e1
  have e2 : lv_args 0 [va_rf (some v0)] = [(0, va_rf (some v0))] := by simp [lv_args, cat_rf, cat_i, cat_l]
  rw [e2]
  refine V_sub (lv' := [(0, va_rf (some v0))]) [0] rfl ?_
  exact vb_Tree_init_0 hc hq (hi rfl) v0 h hw
