/-! Bytes.putAll([BII)V -/
abbrev rm_Bytes_putAll : Room := { frames := 1, cells := 0, slots := 0, locals := 24 }
def wq_Bytes_putAll_37 (X3 : Nat → Option Nat → Int32 → Int32 → Int32 → mm_M → Prop) (ge : Nat → Nat) (v0 : Nat) (v1 : Option Nat) (v2 : Int32) (v3 : Int32) (v4 : Int32) (h : mm_M) (Z : mm_M → Prop) : Prop :=
  X3 (v0) (v1) (v2) (v3) (v4 + 1) h
def wq_Bytes_putAll_3 (X3 : Nat → Option Nat → Int32 → Int32 → Int32 → mm_M → Prop) (ge : Nat → Nat) (v0 : Nat) (v1 : Option Nat) (v2 : Int32) (v3 : Int32) (v4 : Int32) (h : mm_M) (Z : mm_M → Prop) : Prop :=
  (((v3 : Int32) ≤ (v4 : Int32) → Z h) ∧ (¬ (v3 : Int32) ≤ (v4 : Int32) → ((((v2) + (v4)) < 0 → wq_Bytes_putAll_37 X3 ge (v0) (v1) (v2) (v3) (v4) h Z) ∧ (¬ ((v2) + (v4)) < 0 → ∃ a1, v1 = some a1 ∧ mm_k h (a1) = ka_B ∧ (((Nat.toInt32 (mm_n h a1) : Int32) ≤ ((v2) + (v4) : Int32) → wq_Bytes_putAll_37 X3 ge (v0) (v1) (v2) (v3) (v4) h Z) ∧ (¬ (Nat.toInt32 (mm_n h a1) : Int32) ≤ ((v2) + (v4) : Int32) → vp_in ((v2) + (v4)) (mm_n h a1) ∧ mm_k h (v0) = kd_Bytes ∧ wq_Bytes_put ge (v0) (Int32.toInt64 (mm_I h a1 (Int32.toNatClampNeg ((v2) + (v4))))) (1) h (fun h6 : mm_M => wq_Bytes_putAll_37 X3 ge (v0) (v1) (v2) (v3) (v4) h6 Z)))))))
def lp_Bytes_putAll_3  (ge : Nat → Nat) (v0 : Nat) (v1 : Option Nat) (v2 : Int32) (v3 : Int32) (v4 : Int32) (h : mm_M) (Z : mm_M → Prop) : Prop :=
  ∀ X3 : Nat → Option Nat → Int32 → Int32 → Int32 → mm_M → Prop, (∀ (v0 : Nat) (v1 : Option Nat) (v2 : Int32) (v3 : Int32) (v4 : Int32) (h : mm_M), wq_Bytes_putAll_3 X3 ge v0 v1 v2 v3 v4 h Z → X3 v0 v1 v2 v3 v4 h) → X3 v0 v1 v2 v3 v4 h
def wq_Bytes_putAll_0  (ge : Nat → Nat) (v0 : Nat) (v1 : Option Nat) (v2 : Int32) (v3 : Int32) (h : mm_M) (Z : mm_M → Prop) : Prop :=
  lp_Bytes_putAll_3  ge (v0) (v1) (v2) (v3) (0) h Z
set_option maxRecDepth 100000 in
set_option maxHeartbeats 4000000 in
theorem vb_Bytes_putAll_37 {E : mm_E} {Z : mm_M → Prop} (hc : cx E "EpochServer$Bytes" c_Bytes_putAll 6 none rm_Bytes_putAll) (hq : cq E rm_Bytes_putAll (pV Z)) (X3 : Nat → Option Nat → Int32 → Int32 → Int32 → mm_M → Prop) (hX3 : ∀ (v0 : Nat) (v1 : Option Nat) (v2 : Int32) (v3 : Int32) (v4 : Int32) (h : mm_M), X3 v0 v1 v2 v3 v4 h → V E 6 0 0 h 3 [(0, va_rf (some v0)), (1, va_rf (v1)), (2, .int (v2)), (3, .int (v3)), (4, .int (v4))] []) (v0 : Nat) (v1 : Option Nat) (v2 : Int32) (v3 : Int32) (v4 : Int32) (h : mm_M) (hw : wq_Bytes_putAll_37 X3 (mm_ge (eG E)) v0 v1 v2 v3 v4 h Z) : V E 6 0 0 h 37 [(0, va_rf (some v0)), (1, va_rf (v1)), (2, .int (v2)), (3, .int (v3)), (4, .int (v4))] [] := by
  unfold wq_Bytes_putAll_37 at hw
  refine V_iinc (v := v4 + 1) (lv' := [(4, .int (v4 + 1)), (0, va_rf (some v0)), (1, va_rf (v1)), (2, .int (v2)), (3, .int (v3))]) hc 4 d_Bytes_putAll_37 rfl rfl (by decide) rfl ?_
  refine V_goto (tgt := 3) hc d_Bytes_putAll_40 (by decide) ?_
  refine V_sub (lv' := [(0, va_rf (some v0)), (1, va_rf (v1)), (2, .int (v2)), (3, .int (v3)), (4, .int (v4 + 1))]) [1, 2, 3, 4, 0] rfl ?_
  exact hX3 _ _ _ _ _ _ hw
set_option maxRecDepth 100000 in
set_option maxHeartbeats 4000000 in
theorem vb_Bytes_putAll_3 {E : mm_E} {Z : mm_M → Prop} (hc : cx E "EpochServer$Bytes" c_Bytes_putAll 6 none rm_Bytes_putAll) (hq : cq E rm_Bytes_putAll (pV Z)) (X3 : Nat → Option Nat → Int32 → Int32 → Int32 → mm_M → Prop) (hX3 : ∀ (v0 : Nat) (v1 : Option Nat) (v2 : Int32) (v3 : Int32) (v4 : Int32) (h : mm_M), X3 v0 v1 v2 v3 v4 h → V E 6 0 0 h 3 [(0, va_rf (some v0)), (1, va_rf (v1)), (2, .int (v2)), (3, .int (v3)), (4, .int (v4))] []) (v0 : Nat) (v1 : Option Nat) (v2 : Int32) (v3 : Int32) (v4 : Int32) (h : mm_M) (hw : wq_Bytes_putAll_3 X3 (mm_ge (eG E)) v0 v1 v2 v3 v4 h Z) : V E 6 0 0 h 3 [(0, va_rf (some v0)), (1, va_rf (v1)), (2, .int (v2)), (3, .int (v3)), (4, .int (v4))] [] := by
  unfold wq_Bytes_putAll_3 at hw
  refine V_iload hc 4 d_Bytes_putAll_3 rfl ?_
  refine V_iload_n hc 3 d_Bytes_putAll_5 rfl rfl ?_
  refine V_icmp_ge (tgt := 43) hc d_Bytes_putAll_6 (by decide) (fun hq1 => ?_) (fun hq1 => ?_)
  · replace hw := hw.1 hq1
    exact V_vret hc hq ⟨rfl, hw⟩ (by decide) (by decide) d_Bytes_putAll_43
  · replace hw := hw.2 hq1
    refine V_iload_n hc 2 d_Bytes_putAll_9 rfl rfl ?_
    refine V_iload hc 4 d_Bytes_putAll_10 rfl ?_
    refine V_iadd hc d_Bytes_putAll_12 ?_
    refine V_istore (i := 5) (lv' := [(5, .int ((v2) + (v4))), (0, va_rf (some v0)), (1, va_rf (v1)), (2, .int (v2)), (3, .int (v3)), (4, .int (v4))]) hc d_Bytes_putAll_13 (by decide) rfl ?_
    refine V_iload hc 0 d_Bytes_putAll_15 rfl ?_
    refine V_if_lt (tgt := 37) hc d_Bytes_putAll_17 (by decide) (fun hq1 => ?_) (fun hq1 => ?_)
    · replace hw := hw.1 hq1
      refine V_sub (lv' := [(0, va_rf (some v0)), (1, va_rf (v1)), (2, .int (v2)), (3, .int (v3)), (4, .int (v4))]) [1, 2, 3, 4, 5] rfl ?_
      exact vb_Bytes_putAll_37 hc hq X3 hX3 _ _ _ _ _ _ hw
    · replace hw := hw.2 hq1
      refine V_iload hc 0 d_Bytes_putAll_20 rfl ?_
      refine V_aload_n hc 2 d_Bytes_putAll_22 rfl rfl ?_
      obtain ⟨a1, q2, hw⟩ := hw
      obtain ⟨q3, hw⟩ := hw
      refine V_alen (t := 1) (ty := .byte) hc rfl q2 q3 d_Bytes_putAll_23 ?_
      refine V_icmp_ge (tgt := 37) hc d_Bytes_putAll_24 (by decide) (fun hq1 => ?_) (fun hq1 => ?_)
      · replace hw := hw.1 hq1
        refine V_sub (lv' := [(0, va_rf (some v0)), (1, va_rf (v1)), (2, .int (v2)), (3, .int (v3)), (4, .int (v4))]) [1, 2, 3, 4, 5] rfl ?_
        exact vb_Bytes_putAll_37 hc hq X3 hX3 _ _ _ _ _ _ hw
      · replace hw := hw.2 hq1
        refine V_aload_n hc 1 d_Bytes_putAll_27 rfl rfl ?_
        refine V_aload_n hc 2 d_Bytes_putAll_28 rfl rfl ?_
        refine V_iload hc 0 d_Bytes_putAll_29 rfl ?_
        obtain ⟨q4, hw⟩ := hw
        refine V_bald hc q2 q3 q4 d_Bytes_putAll_31 ?_
        refine V_i2l hc d_Bytes_putAll_32 ?_
        refine V_iconst (v := 1) hc d_Bytes_putAll_33 (by decide) ?_
        obtain ⟨q5, hw⟩ := hw
        refine V_callV (rm' := rm_Bytes_put) (As := [.long (Int32.toInt64 (mm_I h a1 (Int32.toNatClampNeg ((v2) + (v4))))), .int (1)]) (rest := []) (n := 2) (cn := 3) hc rfl q5 (sat_Bytes_put (eG E) _ _ _ _ _ hw) rfl cv_Bytes_23 (gw_of (tw_2 (List.mem_of_getElem? (i := 158) rfl)) rfl) ss_Bytes_put rfl ⟨by decide, by decide⟩ (by decide) (by decide) rfl (by simp [cat_rf, cat_i, cat_l]) d_Bytes_putAll_34 (fun r0 h6 hw => ?_)
        obtain ⟨rfl, hw⟩ := hw
        refine V_wide (cs' := 0) (sl' := 0) (by decide) (by decide) ?_
        refine V_st (st' := []) rfl ?_
        refine V_sub (lv' := [(0, va_rf (some v0)), (1, va_rf (v1)), (2, .int (v2)), (3, .int (v3)), (4, .int (v4))]) [1, 2, 3, 4, 5] rfl ?_
        exact vb_Bytes_putAll_37 hc hq X3 hX3 _ _ _ _ _ _ hw
theorem vl_Bytes_putAll_3 {E : mm_E} {Z : mm_M → Prop} (hc : cx E "EpochServer$Bytes" c_Bytes_putAll 6 none rm_Bytes_putAll) (hq : cq E rm_Bytes_putAll (pV Z))  (v0 : Nat) (v1 : Option Nat) (v2 : Int32) (v3 : Int32) (v4 : Int32) (h : mm_M) (hw : lp_Bytes_putAll_3  (mm_ge (eG E)) v0 v1 v2 v3 v4 h Z) : V E 6 0 0 h 3 [(0, va_rf (some v0)), (1, va_rf (v1)), (2, .int (v2)), (3, .int (v3)), (4, .int (v4))] [] :=
  hw (fun v0 v1 v2 v3 v4 h => V E 6 0 0 h 3 [(0, va_rf (some v0)), (1, va_rf (v1)), (2, .int (v2)), (3, .int (v3)), (4, .int (v4))] []) (fun v0 v1 v2 v3 v4 h hb => vb_Bytes_putAll_3 hc hq  _ (fun _ _ _ _ _ _ q => q) v0 v1 v2 v3 v4 h hb)
set_option maxRecDepth 100000 in
set_option maxHeartbeats 4000000 in
theorem vb_Bytes_putAll_0 {E : mm_E} {Z : mm_M → Prop} (hc : cx E "EpochServer$Bytes" c_Bytes_putAll 6 none rm_Bytes_putAll) (hq : cq E rm_Bytes_putAll (pV Z))  (v0 : Nat) (v1 : Option Nat) (v2 : Int32) (v3 : Int32) (h : mm_M) (hw : wq_Bytes_putAll_0  (mm_ge (eG E)) v0 v1 v2 v3 h Z) : V E 6 0 0 h 0 [(0, va_rf (some v0)), (1, va_rf (v1)), (2, .int (v2)), (3, .int (v3))] [] := by
  unfold wq_Bytes_putAll_0 at hw
  refine V_iconst (v := 0) hc d_Bytes_putAll_0 (by decide) ?_
  refine V_istore (i := 4) (lv' := [(4, .int (0)), (0, va_rf (some v0)), (1, va_rf (v1)), (2, .int (v2)), (3, .int (v3))]) hc d_Bytes_putAll_1 (by decide) rfl ?_
  refine V_sub (lv' := [(0, va_rf (some v0)), (1, va_rf (v1)), (2, .int (v2)), (3, .int (v3)), (4, .int (0))]) [1, 2, 3, 4, 0] rfl ?_
  exact vl_Bytes_putAll_3 hc hq  _ _ _ _ _ _ hw
def wq_Bytes_putAll (ge : Nat → Nat) (v0 : Nat) (v1 : Option Nat) (v2 : Int32) (v3 : Int32) (h : mm_M) (Z : mm_M → Prop) : Prop := wq_Bytes_putAll_0 ge v0 v1 v2 v3 h Z
theorem sat_Bytes_putAll (G : mm_G) (v0 : Nat) (v1 : Option Nat) (v2 : Int32) (v3 : Int32) (h : mm_M) (Z : mm_M → Prop) (hw : wq_Bytes_putAll (mm_ge G) v0 v1 v2 v3 h Z) : mm_Met G y_Bytes_putAll c_Bytes_putAll 6 none rm_Bytes_putAll [va_rf (some v0), va_rf (v1), .int (v2), .int (v3)] h (pV Z) := by
  refine mm_intro (own := "EpochServer$Bytes") (by decide) rfl (by simp [lg_sl, cat_rf, cat_i, cat_l]) (fun E e1 hc hq hi => ?_)
  subst e1
  have e2 : lv_args 0 [va_rf (some v0), va_rf (v1), .int (v2), .int (v3)] = [(0, va_rf (some v0)), (1, va_rf (v1)), (2, .int (v2)), (3, .int (v3))] := by simp [lv_args, cat_rf, cat_i, cat_l]
  rw [e2]
  refine V_sub (lv' := [(0, va_rf (some v0)), (1, va_rf (v1)), (2, .int (v2)), (3, .int (v3))]) [0, 1, 2, 3] rfl ?_
  exact vb_Bytes_putAll_0 hc hq v0 v1 v2 v3 h hw
/-! Bytes.putText([B)V -/
abbrev rm_Bytes_putText : Room := { frames := 2, cells := 0, slots := 0, locals := 49 }
def wq_Bytes_putText_0  (ge : Nat → Nat) (v0 : Nat) (v1 : Option Nat) (h : mm_M) (Z : mm_M → Prop) : Prop :=
  ∃ a1, v1 = some a1 ∧ mm_k h (a1) = ka_B ∧ mm_k h (v0) = kd_Bytes ∧ wq_Bytes_put ge (v0) (Int32.toInt64 (Nat.toInt32 (mm_n h a1))) (2) h (fun h5 : mm_M => ∃ a7, v1 = some a7 ∧ mm_k h5 (a7) = ka_B ∧ mm_k h5 (v0) = kd_Bytes ∧ wq_Bytes_putAll ge (v0) (v1) (0) (Nat.toInt32 (mm_n h5 a7)) h5 (fun h11 : mm_M => Z h11))
set_option maxRecDepth 100000 in
set_option maxHeartbeats 4000000 in
theorem vb_Bytes_putText_0 {E : mm_E} {Z : mm_M → Prop} (hc : cx E "EpochServer$Bytes" c_Bytes_putText 2 none rm_Bytes_putText) (hq : cq E rm_Bytes_putText (pV Z))  (v0 : Nat) (v1 : Option Nat) (h : mm_M) (hw : wq_Bytes_putText_0  (mm_ge (eG E)) v0 v1 h Z) : V E 2 0 0 h 0 [(0, va_rf (some v0)), (1, va_rf (v1))] [] := by
  unfold wq_Bytes_putText_0 at hw
  refine V_aload_n hc 0 d_Bytes_putText_0 rfl rfl ?_
  refine V_aload_n hc 1 d_Bytes_putText_1 rfl rfl ?_
  obtain ⟨a1, q2, hw⟩ := hw
  obtain ⟨q3, hw⟩ := hw
  refine V_alen (t := 1) (ty := .byte) hc rfl q2 q3 d_Bytes_putText_2 ?_
  refine V_i2l hc d_Bytes_putText_3 ?_
  refine V_iconst (v := 2) hc d_Bytes_putText_4 (by decide) ?_
  obtain ⟨q4, hw⟩ := hw
  refine V_callV (rm' := rm_Bytes_put) (As := [.long (Int32.toInt64 (Nat.toInt32 (mm_n h a1))), .int (2)]) (rest := []) (n := 2) (cn := 3) hc rfl q4 (sat_Bytes_put (eG E) _ _ _ _ _ hw) rfl cv_Bytes_23 (gw_of (tw_2 (List.mem_of_getElem? (i := 158) rfl)) rfl) ss_Bytes_put rfl ⟨by decide, by decide⟩ (by decide) (by decide) rfl (by simp [cat_rf, cat_i, cat_l]) d_Bytes_putText_5 (fun r0 h5 hw => ?_)
  obtain ⟨rfl, hw⟩ := hw
  refine V_wide (cs' := 0) (sl' := 0) (by decide) (by decide) ?_
  refine V_st (st' := []) rfl ?_
  refine V_aload_n hc 0 d_Bytes_putText_8 rfl rfl ?_
  refine V_aload_n hc 1 d_Bytes_putText_9 rfl rfl ?_
  refine V_iconst (v := 0) hc d_Bytes_putText_10 (by decide) ?_
  refine V_aload_n hc 1 d_Bytes_putText_11 rfl rfl ?_
  obtain ⟨a7, q8, hw⟩ := hw
  obtain ⟨q9, hw⟩ := hw
  refine V_alen (t := 1) (ty := .byte) hc rfl q8 q9 d_Bytes_putText_12 ?_
  obtain ⟨q10, hw⟩ := hw
  refine V_callV (rm' := rm_Bytes_putAll) (As := [va_rf (v1), .int (0), .int (Nat.toInt32 (mm_n h5 a7))]) (rest := []) (n := 3) (cn := 3) hc rfl q10 (sat_Bytes_putAll (eG E) _ _ _ _ _ _ hw) rfl cv_Bytes_27 (gw_of (tw_3 (List.mem_of_getElem? (i := 18) rfl)) rfl) ss_Bytes_putAll rfl ⟨by decide, by decide⟩ (by decide) (by decide) rfl (by simp [cat_rf, cat_i, cat_l]) d_Bytes_putText_13 (fun r0 h11 hw => ?_)
  obtain ⟨rfl, hw⟩ := hw
  refine V_wide (cs' := 0) (sl' := 0) (by decide) (by decide) ?_
  refine V_st (st' := []) rfl ?_
  exact V_vret hc hq ⟨rfl, hw⟩ (by decide) (by decide) d_Bytes_putText_16
def wq_Bytes_putText (ge : Nat → Nat) (v0 : Nat) (v1 : Option Nat) (h : mm_M) (Z : mm_M → Prop) : Prop := wq_Bytes_putText_0 ge v0 v1 h Z
theorem sat_Bytes_putText (G : mm_G) (v0 : Nat) (v1 : Option Nat) (h : mm_M) (Z : mm_M → Prop) (hw : wq_Bytes_putText (mm_ge G) v0 v1 h Z) : mm_Met G y_Bytes_putText c_Bytes_putText 2 none rm_Bytes_putText [va_rf (some v0), va_rf (v1)] h (pV Z) := by
  refine mm_intro (own := "EpochServer$Bytes") (by decide) rfl (by simp [lg_sl, cat_rf, cat_i, cat_l]) (fun E e1 hc hq hi => ?_)
  subst e1
  have e2 : lv_args 0 [va_rf (some v0), va_rf (v1)] = [(0, va_rf (some v0)), (1, va_rf (v1))] := by simp [lv_args, cat_rf, cat_i, cat_l]
  rw [e2]
  refine V_sub (lv' := [(0, va_rf (some v0)), (1, va_rf (v1))]) [0, 1] rfl ?_
  exact vb_Bytes_putText_0 hc hq v0 v1 h hw
/-! Bytes.putStat(LEpochServer$Node;)V -/
abbrev rm_Bytes_putStat : Room := { frames := 3, cells := 0, slots := 0, locals := 70 }
def wq_Bytes_putStat_81 (X81 : Nat → Int32 → mm_M → Prop) (ge : Nat → Nat) (v0 : Nat) (v2 : Int32) (h : mm_M) (Z : mm_M → Prop) : Prop :=
  (((3 : Int32) ≤ (v2 : Int32) → Z h) ∧ (¬ (3 : Int32) ≤ (v2 : Int32) → mm_k h (v0) = kd_Bytes ∧ wq_Bytes_put ge (v0) (1) (2) h (fun h2 : mm_M => mm_k h2 (v0) = kd_Bytes ∧ wq_Bytes_put ge (v0) (103) (1) h2 (fun h5 : mm_M => X81 (v0) (v2 + 1) h5))))
def lp_Bytes_putStat_81  (ge : Nat → Nat) (v0 : Nat) (v2 : Int32) (h : mm_M) (Z : mm_M → Prop) : Prop :=
  ∀ X81 : Nat → Int32 → mm_M → Prop, (∀ (v0 : Nat) (v2 : Int32) (h : mm_M), wq_Bytes_putStat_81 X81 ge v0 v2 h Z → X81 v0 v2 h) → X81 v0 v2 h
def wq_Bytes_putStat_0  (ge : Nat → Nat) (v0 : Nat) (v1 : Option Nat) (h : mm_M) (Z : mm_M → Prop) : Prop :=
  ∃ a1, v1 = some a1 ∧ mm_k h (a1) = kd_Node ∧ wq_Node_statSize ge (a1) h (fun (r5 : Int32) (h4 : mm_M) => mm_k h4 (v0) = kd_Bytes ∧ wq_Bytes_put ge (v0) (Int32.toInt64 ((r5) - (2 : Int32))) (2) h4 (fun h7 : mm_M => mm_k h7 (v0) = kd_Bytes ∧ wq_Bytes_put ge (v0) (0) (2) h7 (fun h10 : mm_M => mm_k h10 (v0) = kd_Bytes ∧ wq_Bytes_put ge (v0) (0) (4) h10 (fun h13 : mm_M => mm_k h13 (v0) = kd_Bytes ∧ wq_Bytes_putQid ge (v0) (v1) h13 (fun h16 : mm_M => ∃ a18, v1 = some a18 ∧ mm_k h16 (a18) = kd_Node ∧ mm_k h16 (v0) = kd_Bytes ∧ wq_Bytes_put ge (v0) (Int32.toInt64 (mm_I h16 a18 3)) (4) h16 (fun h22 : mm_M => ∃ a24, v1 = some a24 ∧ mm_k h22 (a24) = kd_Node ∧ mm_k h22 (v0) = kd_Bytes ∧ wq_Bytes_put ge (v0) (Int32.toInt64 (mm_I h22 a24 5)) (4) h22 (fun h28 : mm_M => ∃ a30, v1 = some a30 ∧ mm_k h28 (a30) = kd_Node ∧ mm_k h28 (v0) = kd_Bytes ∧ wq_Bytes_put ge (v0) (Int32.toInt64 (mm_I h28 a30 5)) (4) h28 (fun h34 : mm_M => ∃ a36, v1 = some a36 ∧ mm_k h34 (a36) = kd_Node ∧ ∃ a39, mm_P h34 a36 6 = some a39 ∧ mm_k h34 (a39) = ka_B ∧ mm_k h34 (v0) = kd_Bytes ∧ wq_Bytes_put ge (v0) (Int32.toInt64 (Nat.toInt32 (mm_n h34 a39))) (8) h34 (fun h43 : mm_M => ∃ a45, v1 = some a45 ∧ mm_k h43 (a45) = kd_Node ∧ mm_k h43 (v0) = kd_Bytes ∧ wq_Bytes_putText ge (v0) (mm_P h43 a45 2) h43 (fun h49 : mm_M => lp_Bytes_putStat_81  ge (v0) (0) h49 Z))))))))))
set_option maxRecDepth 100000 in
set_option maxHeartbeats 4000000 in
theorem vb_Bytes_putStat_81 {E : mm_E} {Z : mm_M → Prop} (hc : cx E "EpochServer$Bytes" c_Bytes_putStat 3 none rm_Bytes_putStat) (hq : cq E rm_Bytes_putStat (pV Z)) (X81 : Nat → Int32 → mm_M → Prop) (hX81 : ∀ (v0 : Nat) (v2 : Int32) (h : mm_M), X81 v0 v2 h → V E 3 0 0 h 81 [(0, va_rf (some v0)), (2, .int (v2))] []) (v0 : Nat) (v2 : Int32) (h : mm_M) (hw : wq_Bytes_putStat_81 X81 (mm_ge (eG E)) v0 v2 h Z) : V E 3 0 0 h 81 [(0, va_rf (some v0)), (2, .int (v2))] [] := by
  unfold wq_Bytes_putStat_81 at hw
  refine V_iload_n hc 1 d_Bytes_putStat_81 rfl rfl ?_
  refine V_iconst (v := 3) hc d_Bytes_putStat_82 (by decide) ?_
  refine V_icmp_ge (tgt := 106) hc d_Bytes_putStat_83 (by decide) (fun hq1 => ?_) (fun hq1 => ?_)
  · replace hw := hw.1 hq1
    exact V_vret hc hq ⟨rfl, hw⟩ (by decide) (by decide) d_Bytes_putStat_106
  · replace hw := hw.2 hq1
    refine V_aload_n hc 0 d_Bytes_putStat_86 rfl rfl ?_
    refine V_lconst (v := 1) hc d_Bytes_putStat_87 (by decide) ?_
    refine V_iconst (v := 2) hc d_Bytes_putStat_88 (by decide) ?_
    obtain ⟨q1, hw⟩ := hw
    refine V_callV (rm' := rm_Bytes_put) (As := [.long (1), .int (2)]) (rest := []) (n := 2) (cn := 3) hc rfl q1 (sat_Bytes_put (eG E) _ _ _ _ _ hw) rfl cv_Bytes_23 (gw_of (tw_2 (List.mem_of_getElem? (i := 158) rfl)) rfl) ss_Bytes_put rfl ⟨by decide, by decide⟩ (by decide) (by decide) rfl (by simp [cat_rf, cat_i, cat_l]) d_Bytes_putStat_89 (fun r0 h2 hw => ?_)
    obtain ⟨rfl, hw⟩ := hw
    refine V_wide (cs' := 0) (sl' := 0) (by decide) (by decide) ?_
    refine V_st (st' := []) rfl ?_
    refine V_aload_n hc 0 d_Bytes_putStat_92 rfl rfl ?_
    refine V_ldc2 (v := 103) hc (gw_of (tw_3 (List.mem_of_getElem? (i := 208) rfl)) rfl) d_Bytes_putStat_93 ?_
    refine V_iconst (v := 1) hc d_Bytes_putStat_96 (by decide) ?_
    obtain ⟨q4, hw⟩ := hw
    refine V_callV (rm' := rm_Bytes_put) (As := [.long (103), .int (1)]) (rest := []) (n := 2) (cn := 3) hc rfl q4 (sat_Bytes_put (eG E) _ _ _ _ _ hw) rfl cv_Bytes_23 (gw_of (tw_2 (List.mem_of_getElem? (i := 158) rfl)) rfl) ss_Bytes_put rfl ⟨by decide, by decide⟩ (by decide) (by decide) rfl (by simp [cat_rf, cat_i, cat_l]) d_Bytes_putStat_97 (fun r0 h5 hw => ?_)
    obtain ⟨rfl, hw⟩ := hw
    refine V_wide (cs' := 0) (sl' := 0) (by decide) (by decide) ?_
    refine V_st (st' := []) rfl ?_
    refine V_iinc (v := v2 + 1) (lv' := [(2, .int (v2 + 1)), (0, va_rf (some v0))]) hc 1 d_Bytes_putStat_100 rfl rfl (by decide) rfl ?_
    refine V_goto (tgt := 81) hc d_Bytes_putStat_103 (by decide) ?_
    refine V_sub (lv' := [(0, va_rf (some v0)), (2, .int (v2 + 1))]) [1, 0] rfl ?_
    exact hX81 _ _ _ hw
theorem vl_Bytes_putStat_81 {E : mm_E} {Z : mm_M → Prop} (hc : cx E "EpochServer$Bytes" c_Bytes_putStat 3 none rm_Bytes_putStat) (hq : cq E rm_Bytes_putStat (pV Z))  (v0 : Nat) (v2 : Int32) (h : mm_M) (hw : lp_Bytes_putStat_81  (mm_ge (eG E)) v0 v2 h Z) : V E 3 0 0 h 81 [(0, va_rf (some v0)), (2, .int (v2))] [] :=
  hw (fun v0 v2 h => V E 3 0 0 h 81 [(0, va_rf (some v0)), (2, .int (v2))] []) (fun v0 v2 h hb => vb_Bytes_putStat_81 hc hq  _ (fun _ _ _ q => q) v0 v2 h hb)
set_option maxRecDepth 100000 in
set_option maxHeartbeats 4000000 in
theorem vb_Bytes_putStat_0 {E : mm_E} {Z : mm_M → Prop} (hc : cx E "EpochServer$Bytes" c_Bytes_putStat 3 none rm_Bytes_putStat) (hq : cq E rm_Bytes_putStat (pV Z))  (v0 : Nat) (v1 : Option Nat) (h : mm_M) (hw : wq_Bytes_putStat_0  (mm_ge (eG E)) v0 v1 h Z) : V E 3 0 0 h 0 [(0, va_rf (some v0)), (1, va_rf (v1))] [] := by
  unfold wq_Bytes_putStat_0 at hw
  refine V_aload_n hc 0 d_Bytes_putStat_0 rfl rfl ?_
  refine V_aload_n hc 1 d_Bytes_putStat_1 rfl rfl ?_
  obtain ⟨a1, q2, hw⟩ := hw
  obtain ⟨q3, hw⟩ := hw
  refine V_callV (rm' := rm_Node_statSize) (As := []) (rest := [va_rf (some v0)]) (n := 0) (cn := 7) hc q2 q3 (sat_Node_statSize (eG E) _ _ _ hw) rfl cv_Bytes_45 (gw_of (tw_3 (List.mem_of_getElem? (i := 198) rfl)) rfl) ss_Node_statSize rfl ⟨by decide, by decide⟩ (by decide) (by decide) rfl (by simp [cat_rf, cat_i, cat_l]) d_Bytes_putStat_2 (fun r0 h4 hw => ?_)
  obtain ⟨r5, rfl, hw⟩ := hw
  refine V_wide (cs' := 0) (sl' := 0) (by decide) (by decide) ?_
  refine V_st (st' := [.int (r5), va_rf (some v0)]) rfl ?_
  refine V_iconst (v := 2) hc d_Bytes_putStat_5 (by decide) ?_
  refine V_isub hc d_Bytes_putStat_6 ?_
  refine V_i2l hc d_Bytes_putStat_7 ?_
  refine V_iconst (v := 2) hc d_Bytes_putStat_8 (by decide) ?_
  obtain ⟨q6, hw⟩ := hw
  refine V_callV (rm' := rm_Bytes_put) (As := [.long (Int32.toInt64 ((r5) - (2 : Int32))), .int (2)]) (rest := []) (n := 2) (cn := 3) hc rfl q6 (sat_Bytes_put (eG E) _ _ _ _ _ hw) rfl cv_Bytes_23 (gw_of (tw_2 (List.mem_of_getElem? (i := 158) rfl)) rfl) ss_Bytes_put rfl ⟨by decide, by decide⟩ (by decide) (by decide) rfl (by simp [cat_rf, cat_i, cat_l]) d_Bytes_putStat_9 (fun r0 h7 hw => ?_)
  obtain ⟨rfl, hw⟩ := hw
  refine V_wide (cs' := 0) (sl' := 0) (by decide) (by decide) ?_
  refine V_st (st' := []) rfl ?_
  refine V_aload_n hc 0 d_Bytes_putStat_12 rfl rfl ?_
  refine V_lconst (v := 0) hc d_Bytes_putStat_13 (by decide) ?_
  refine V_iconst (v := 2) hc d_Bytes_putStat_14 (by decide) ?_
  obtain ⟨q9, hw⟩ := hw
  refine V_callV (rm' := rm_Bytes_put) (As := [.long (0), .int (2)]) (rest := []) (n := 2) (cn := 3) hc rfl q9 (sat_Bytes_put (eG E) _ _ _ _ _ hw) rfl cv_Bytes_23 (gw_of (tw_2 (List.mem_of_getElem? (i := 158) rfl)) rfl) ss_Bytes_put rfl ⟨by decide, by decide⟩ (by decide) (by decide) rfl (by simp [cat_rf, cat_i, cat_l]) d_Bytes_putStat_15 (fun r0 h10 hw => ?_)
  obtain ⟨rfl, hw⟩ := hw
  refine V_wide (cs' := 0) (sl' := 0) (by decide) (by decide) ?_
  refine V_st (st' := []) rfl ?_
  refine V_aload_n hc 0 d_Bytes_putStat_18 rfl rfl ?_
  refine V_lconst (v := 0) hc d_Bytes_putStat_19 (by decide) ?_
  refine V_iconst (v := 4) hc d_Bytes_putStat_20 (by decide) ?_
  obtain ⟨q12, hw⟩ := hw
  refine V_callV (rm' := rm_Bytes_put) (As := [.long (0), .int (4)]) (rest := []) (n := 2) (cn := 3) hc rfl q12 (sat_Bytes_put (eG E) _ _ _ _ _ hw) rfl cv_Bytes_23 (gw_of (tw_2 (List.mem_of_getElem? (i := 158) rfl)) rfl) ss_Bytes_put rfl ⟨by decide, by decide⟩ (by decide) (by decide) rfl (by simp [cat_rf, cat_i, cat_l]) d_Bytes_putStat_21 (fun r0 h13 hw => ?_)
  obtain ⟨rfl, hw⟩ := hw
  refine V_wide (cs' := 0) (sl' := 0) (by decide) (by decide) ?_
  refine V_st (st' := []) rfl ?_
  refine V_aload_n hc 0 d_Bytes_putStat_24 rfl rfl ?_
  refine V_aload_n hc 1 d_Bytes_putStat_25 rfl rfl ?_
  obtain ⟨q15, hw⟩ := hw
  refine V_callV (rm' := rm_Bytes_putQid) (As := [va_rf (v1)]) (rest := []) (n := 1) (cn := 3) hc rfl q15 (sat_Bytes_putQid (eG E) _ _ _ _ hw) rfl cv_Bytes_49 (gw_of (tw_3 (List.mem_of_getElem? (i := 58) rfl)) rfl) ss_Bytes_putQid rfl ⟨by decide, by decide⟩ (by decide) (by decide) rfl (by simp [cat_rf, cat_i, cat_l]) d_Bytes_putStat_26 (fun r0 h16 hw => ?_)
  obtain ⟨rfl, hw⟩ := hw
  refine V_wide (cs' := 0) (sl' := 0) (by decide) (by decide) ?_
  refine V_st (st' := []) rfl ?_
  refine V_aload_n hc 0 d_Bytes_putStat_29 rfl rfl ?_
  refine V_aload_n hc 1 d_Bytes_putStat_30 rfl rfl ?_
  obtain ⟨a18, q19, hw⟩ := hw
  obtain ⟨q20, hw⟩ := hw
  refine V_get (v := .int (mm_I h16 a18 3)) hc gf_Bytes_53 q19 q20 rfl d_Bytes_putStat_31 ?_
  refine V_i2l hc d_Bytes_putStat_34 ?_
  refine V_iconst (v := 4) hc d_Bytes_putStat_35 (by decide) ?_
  obtain ⟨q21, hw⟩ := hw
  refine V_callV (rm' := rm_Bytes_put) (As := [.long (Int32.toInt64 (mm_I h16 a18 3)), .int (4)]) (rest := []) (n := 2) (cn := 3) hc rfl q21 (sat_Bytes_put (eG E) _ _ _ _ _ hw) rfl cv_Bytes_23 (gw_of (tw_2 (List.mem_of_getElem? (i := 158) rfl)) rfl) ss_Bytes_put rfl ⟨by decide, by decide⟩ (by decide) (by decide) rfl (by simp [cat_rf, cat_i, cat_l]) d_Bytes_putStat_36 (fun r0 h22 hw => ?_)
  obtain ⟨rfl, hw⟩ := hw
  refine V_wide (cs' := 0) (sl' := 0) (by decide) (by decide) ?_
  refine V_st (st' := []) rfl ?_
  refine V_aload_n hc 0 d_Bytes_putStat_39 rfl rfl ?_
  refine V_aload_n hc 1 d_Bytes_putStat_40 rfl rfl ?_
  obtain ⟨a24, q25, hw⟩ := hw
  obtain ⟨q26, hw⟩ := hw
  refine V_get (v := .int (mm_I h22 a24 5)) hc gf_Bytes_56 q25 q26 rfl d_Bytes_putStat_41 ?_
  refine V_i2l hc d_Bytes_putStat_44 ?_
  refine V_iconst (v := 4) hc d_Bytes_putStat_45 (by decide) ?_
  obtain ⟨q27, hw⟩ := hw
  refine V_callV (rm' := rm_Bytes_put) (As := [.long (Int32.toInt64 (mm_I h22 a24 5)), .int (4)]) (rest := []) (n := 2) (cn := 3) hc rfl q27 (sat_Bytes_put (eG E) _ _ _ _ _ hw) rfl cv_Bytes_23 (gw_of (tw_2 (List.mem_of_getElem? (i := 158) rfl)) rfl) ss_Bytes_put rfl ⟨by decide, by decide⟩ (by decide) (by decide) rfl (by simp [cat_rf, cat_i, cat_l]) d_Bytes_putStat_46 (fun r0 h28 hw => ?_)
  obtain ⟨rfl, hw⟩ := hw
  refine V_wide (cs' := 0) (sl' := 0) (by decide) (by decide) ?_
  refine V_st (st' := []) rfl ?_
  refine V_aload_n hc 0 d_Bytes_putStat_49 rfl rfl ?_
  refine V_aload_n hc 1 d_Bytes_putStat_50 rfl rfl ?_
  obtain ⟨a30, q31, hw⟩ := hw
  obtain ⟨q32, hw⟩ := hw
  refine V_get (v := .int (mm_I h28 a30 5)) hc gf_Bytes_56 q31 q32 rfl d_Bytes_putStat_51 ?_
  refine V_i2l hc d_Bytes_putStat_54 ?_
  refine V_iconst (v := 4) hc d_Bytes_putStat_55 (by decide) ?_
  obtain ⟨q33, hw⟩ := hw
  refine V_callV (rm' := rm_Bytes_put) (As := [.long (Int32.toInt64 (mm_I h28 a30 5)), .int (4)]) (rest := []) (n := 2) (cn := 3) hc rfl q33 (sat_Bytes_put (eG E) _ _ _ _ _ hw) rfl cv_Bytes_23 (gw_of (tw_2 (List.mem_of_getElem? (i := 158) rfl)) rfl) ss_Bytes_put rfl ⟨by decide, by decide⟩ (by decide) (by decide) rfl (by simp [cat_rf, cat_i, cat_l]) d_Bytes_putStat_56 (fun r0 h34 hw => ?_)
  obtain ⟨rfl, hw⟩ := hw
  refine V_wide (cs' := 0) (sl' := 0) (by decide) (by decide) ?_
  refine V_st (st' := []) rfl ?_
  refine V_aload_n hc 0 d_Bytes_putStat_59 rfl rfl ?_
  refine V_aload_n hc 1 d_Bytes_putStat_60 rfl rfl ?_
  obtain ⟨a36, q37, hw⟩ := hw
  obtain ⟨q38, hw⟩ := hw
  refine V_get (v := va_rf (mm_P h34 a36 6)) hc gf_Bytes_59 q37 q38 rfl d_Bytes_putStat_61 ?_
  obtain ⟨a39, q40, hw⟩ := hw
  obtain ⟨q41, hw⟩ := hw
  refine V_alen (t := 1) (ty := .byte) hc rfl q40 q41 d_Bytes_putStat_64 ?_
  refine V_i2l hc d_Bytes_putStat_65 ?_
  refine V_bipush (v := 8) hc d_Bytes_putStat_66 (by decide) ?_
  obtain ⟨q42, hw⟩ := hw
  refine V_callV (rm' := rm_Bytes_put) (As := [.long (Int32.toInt64 (Nat.toInt32 (mm_n h34 a39))), .int (8)]) (rest := []) (n := 2) (cn := 3) hc rfl q42 (sat_Bytes_put (eG E) _ _ _ _ _ hw) rfl cv_Bytes_23 (gw_of (tw_2 (List.mem_of_getElem? (i := 158) rfl)) rfl) ss_Bytes_put rfl ⟨by decide, by decide⟩ (by decide) (by decide) rfl (by simp [cat_rf, cat_i, cat_l]) d_Bytes_putStat_68 (fun r0 h43 hw => ?_)
  obtain ⟨rfl, hw⟩ := hw
  refine V_wide (cs' := 0) (sl' := 0) (by decide) (by decide) ?_
  refine V_st (st' := []) rfl ?_
  refine V_aload_n hc 0 d_Bytes_putStat_71 rfl rfl ?_
  refine V_aload_n hc 1 d_Bytes_putStat_72 rfl rfl ?_
  obtain ⟨a45, q46, hw⟩ := hw
  obtain ⟨q47, hw⟩ := hw
  refine V_get (v := va_rf (mm_P h43 a45 2)) hc gf_Bytes_62 q46 q47 rfl d_Bytes_putStat_73 ?_
  obtain ⟨q48, hw⟩ := hw
  refine V_callV (rm' := rm_Bytes_putText) (As := [va_rf (mm_P h43 a45 2)]) (rest := []) (n := 1) (cn := 3) hc rfl q48 (sat_Bytes_putText (eG E) _ _ _ _ hw) rfl cv_Bytes_65 (gw_of (tw_3 (List.mem_of_getElem? (i := 14) rfl)) rfl) ss_Bytes_putText rfl ⟨by decide, by decide⟩ (by decide) (by decide) rfl (by simp [cat_rf, cat_i, cat_l]) d_Bytes_putStat_76 (fun r0 h49 hw => ?_)
  obtain ⟨rfl, hw⟩ := hw
  refine V_wide (cs' := 0) (sl' := 0) (by decide) (by decide) ?_
  refine V_st (st' := []) rfl ?_
  refine V_iconst (v := 0) hc d_Bytes_putStat_79 (by decide) ?_
  refine V_istore_n (i := 2) (lv' := [(2, .int (0)), (0, va_rf (some v0)), (1, va_rf (v1))]) hc d_Bytes_putStat_80 rfl (by decide) (by simp [cat_rf, cat_i, cat_l]) ?_
  refine V_sub (lv' := [(0, va_rf (some v0)), (2, .int (0))]) [1, 0] rfl ?_
  exact vl_Bytes_putStat_81 hc hq  _ _ _ hw
def wq_Bytes_putStat (ge : Nat → Nat) (v0 : Nat) (v1 : Option Nat) (h : mm_M) (Z : mm_M → Prop) : Prop := wq_Bytes_putStat_0 ge v0 v1 h Z
theorem sat_Bytes_putStat (G : mm_G) (v0 : Nat) (v1 : Option Nat) (h : mm_M) (Z : mm_M → Prop) (hw : wq_Bytes_putStat (mm_ge G) v0 v1 h Z) : mm_Met G y_Bytes_putStat c_Bytes_putStat 3 none rm_Bytes_putStat [va_rf (some v0), va_rf (v1)] h (pV Z) := by
  refine mm_intro (own := "EpochServer$Bytes") (by decide) rfl (by simp [lg_sl, cat_rf, cat_i, cat_l]) (fun E e1 hc hq hi => ?_)
  subst e1
  have e2 : lv_args 0 [va_rf (some v0), va_rf (v1)] = [(0, va_rf (some v0)), (1, va_rf (v1))] := by simp [lv_args, cat_rf, cat_i, cat_l]
  rw [e2]
  refine V_sub (lv' := [(0, va_rf (some v0)), (1, va_rf (v1))]) [0, 1] rfl ?_
  exact vb_Bytes_putStat_0 hc hq v0 v1 h hw
/-! Bytes.putHighestFirst(I)V -/
abbrev rm_Bytes_putHighestFirst : Room := { frames := 1, cells := 0, slots := 0, locals := 24 }
def wq_Bytes_putHighestFirst_0  (ge : Nat → Nat) (v0 : Nat) (v1 : Int32) (h : mm_M) (Z : mm_M → Prop) : Prop :=
  mm_k h (v0) = kd_Bytes ∧ wq_Bytes_put ge (v0) (Int32.toInt64 ((v1) >>> ((24 : Int32) &&& 31))) (1) h (fun h2 : mm_M => mm_k h2 (v0) = kd_Bytes ∧ wq_Bytes_put ge (v0) (Int32.toInt64 ((v1) >>> ((16 : Int32) &&& 31))) (1) h2 (fun h5 : mm_M => mm_k h5 (v0) = kd_Bytes ∧ wq_Bytes_put ge (v0) (Int32.toInt64 ((v1) >>> ((8 : Int32) &&& 31))) (1) h5 (fun h8 : mm_M => mm_k h8 (v0) = kd_Bytes ∧ wq_Bytes_put ge (v0) (Int32.toInt64 (v1)) (1) h8 (fun h11 : mm_M => Z h11))))
set_option maxRecDepth 100000 in
set_option maxHeartbeats 4000000 in
theorem vb_Bytes_putHighestFirst_0 {E : mm_E} {Z : mm_M → Prop} (hc : cx E "EpochServer$Bytes" c_Bytes_putHighestFirst 2 none rm_Bytes_putHighestFirst) (hq : cq E rm_Bytes_putHighestFirst (pV Z))  (v0 : Nat) (v1 : Int32) (h : mm_M) (hw : wq_Bytes_putHighestFirst_0  (mm_ge (eG E)) v0 v1 h Z) : V E 2 0 0 h 0 [(0, va_rf (some v0)), (1, .int (v1))] [] := by
  unfold wq_Bytes_putHighestFirst_0 at hw
  refine V_aload_n hc 0 d_Bytes_putHighestFirst_0 rfl rfl ?_
  refine V_iload_n hc 1 d_Bytes_putHighestFirst_1 rfl rfl ?_
  refine V_bipush (v := 24) hc d_Bytes_putHighestFirst_2 (by decide) ?_
  refine V_ishr hc d_Bytes_putHighestFirst_4 ?_
  refine V_i2l hc d_Bytes_putHighestFirst_5 ?_
  refine V_iconst (v := 1) hc d_Bytes_putHighestFirst_6 (by decide) ?_
  obtain ⟨q1, hw⟩ := hw
  refine V_callV (rm' := rm_Bytes_put) (As := [.long (Int32.toInt64 ((v1) >>> ((24 : Int32) &&& 31))), .int (1)]) (rest := []) (n := 2) (cn := 3) hc rfl q1 (sat_Bytes_put (eG E) _ _ _ _ _ hw) rfl cv_Bytes_23 (gw_of (tw_2 (List.mem_of_getElem? (i := 158) rfl)) rfl) ss_Bytes_put rfl ⟨by decide, by decide⟩ (by decide) (by decide) rfl (by simp [cat_rf, cat_i, cat_l]) d_Bytes_putHighestFirst_7 (fun r0 h2 hw => ?_)
  obtain ⟨rfl, hw⟩ := hw
  refine V_wide (cs' := 0) (sl' := 0) (by decide) (by decide) ?_
  refine V_st (st' := []) rfl ?_
  refine V_aload_n hc 0 d_Bytes_putHighestFirst_10 rfl rfl ?_
  refine V_iload_n hc 1 d_Bytes_putHighestFirst_11 rfl rfl ?_
  refine V_bipush (v := 16) hc d_Bytes_putHighestFirst_12 (by decide) ?_
  refine V_ishr hc d_Bytes_putHighestFirst_14 ?_
  refine V_i2l hc d_Bytes_putHighestFirst_15 ?_
  refine V_iconst (v := 1) hc d_Bytes_putHighestFirst_16 (by decide) ?_
  obtain ⟨q4, hw⟩ := hw
  refine V_callV (rm' := rm_Bytes_put) (As := [.long (Int32.toInt64 ((v1) >>> ((16 : Int32) &&& 31))), .int (1)]) (rest := []) (n := 2) (cn := 3) hc rfl q4 (sat_Bytes_put (eG E) _ _ _ _ _ hw) rfl cv_Bytes_23 (gw_of (tw_2 (List.mem_of_getElem? (i := 158) rfl)) rfl) ss_Bytes_put rfl ⟨by decide, by decide⟩ (by decide) (by decide) rfl (by simp [cat_rf, cat_i, cat_l]) d_Bytes_putHighestFirst_17 (fun r0 h5 hw => ?_)
  obtain ⟨rfl, hw⟩ := hw
  refine V_wide (cs' := 0) (sl' := 0) (by decide) (by decide) ?_
  refine V_st (st' := []) rfl ?_
  refine V_aload_n hc 0 d_Bytes_putHighestFirst_20 rfl rfl ?_
  refine V_iload_n hc 1 d_Bytes_putHighestFirst_21 rfl rfl ?_
  refine V_bipush (v := 8) hc d_Bytes_putHighestFirst_22 (by decide) ?_
  refine V_ishr hc d_Bytes_putHighestFirst_24 ?_
  refine V_i2l hc d_Bytes_putHighestFirst_25 ?_
  refine V_iconst (v := 1) hc d_Bytes_putHighestFirst_26 (by decide) ?_
  obtain ⟨q7, hw⟩ := hw
  refine V_callV (rm' := rm_Bytes_put) (As := [.long (Int32.toInt64 ((v1) >>> ((8 : Int32) &&& 31))), .int (1)]) (rest := []) (n := 2) (cn := 3) hc rfl q7 (sat_Bytes_put (eG E) _ _ _ _ _ hw) rfl cv_Bytes_23 (gw_of (tw_2 (List.mem_of_getElem? (i := 158) rfl)) rfl) ss_Bytes_put rfl ⟨by decide, by decide⟩ (by decide) (by decide) rfl (by simp [cat_rf, cat_i, cat_l]) d_Bytes_putHighestFirst_27 (fun r0 h8 hw => ?_)
  obtain ⟨rfl, hw⟩ := hw
  refine V_wide (cs' := 0) (sl' := 0) (by decide) (by decide) ?_
  refine V_st (st' := []) rfl ?_
  refine V_aload_n hc 0 d_Bytes_putHighestFirst_30 rfl rfl ?_
  refine V_iload_n hc 1 d_Bytes_putHighestFirst_31 rfl rfl ?_
  refine V_i2l hc d_Bytes_putHighestFirst_32 ?_
  refine V_iconst (v := 1) hc d_Bytes_putHighestFirst_33 (by decide) ?_
  obtain ⟨q10, hw⟩ := hw
  refine V_callV (rm' := rm_Bytes_put) (As := [.long (Int32.toInt64 (v1)), .int (1)]) (rest := []) (n := 2) (cn := 3) hc rfl q10 (sat_Bytes_put (eG E) _ _ _ _ _ hw) rfl cv_Bytes_23 (gw_of (tw_2 (List.mem_of_getElem? (i := 158) rfl)) rfl) ss_Bytes_put rfl ⟨by decide, by decide⟩ (by decide) (by decide) rfl (by simp [cat_rf, cat_i, cat_l]) d_Bytes_putHighestFirst_34 (fun r0 h11 hw => ?_)
  obtain ⟨rfl, hw⟩ := hw
  refine V_wide (cs' := 0) (sl' := 0) (by decide) (by decide) ?_
  refine V_st (st' := []) rfl ?_
  exact V_vret hc hq ⟨rfl, hw⟩ (by decide) (by decide) d_Bytes_putHighestFirst_37
def wq_Bytes_putHighestFirst (ge : Nat → Nat) (v0 : Nat) (v1 : Int32) (h : mm_M) (Z : mm_M → Prop) : Prop := wq_Bytes_putHighestFirst_0 ge v0 v1 h Z
theorem sat_Bytes_putHighestFirst (G : mm_G) (v0 : Nat) (v1 : Int32) (h : mm_M) (Z : mm_M → Prop) (hw : wq_Bytes_putHighestFirst (mm_ge G) v0 v1 h Z) : mm_Met G y_Bytes_putHighestFirst c_Bytes_putHighestFirst 2 none rm_Bytes_putHighestFirst [va_rf (some v0), .int (v1)] h (pV Z) := by
  refine mm_intro (own := "EpochServer$Bytes") (by decide) rfl (by simp [lg_sl, cat_rf, cat_i, cat_l]) (fun E e1 hc hq hi => ?_)
  subst e1
  have e2 : lv_args 0 [va_rf (some v0), .int (v1)] = [(0, va_rf (some v0)), (1, .int (v1))] := by simp [lv_args, cat_rf, cat_i, cat_l]
  rw [e2]
  refine V_sub (lv' := [(0, va_rf (some v0)), (1, .int (v1))]) [0, 1] rfl ?_
  exact vb_Bytes_putHighestFirst_0 hc hq v0 v1 h hw
/-! Archiver.fillFromDirectory(LEpochServer$Tree;I)V -/
abbrev rm_Archiver_fillFromDirectory : Room := { frames := 4, cells := 0, slots := 0, locals := 92 }
def wq_Archiver_fillFromDirectory_63 (X2 : Nat → Option Nat → Int32 → Int32 → mm_M → Prop) (ge : Nat → Nat) (v0 : Nat) (v1 : Option Nat) (v2 : Int32) (v3 : Int32) (h : mm_M) (Z : mm_M → Prop) : Prop :=
  X2 (v0) (v1) (v2) (v3 + 1) h
def wq_Archiver_fillFromDirectory_33 (X2 : Nat → Option Nat → Int32 → Int32 → mm_M → Prop) (X33 : Nat → Option Nat → Int32 → Int32 → Int32 → mm_M → Prop) (ge : Nat → Nat) (v0 : Nat) (v1 : Option Nat) (v2 : Int32) (v3 : Int32) (v5 : Int32) (h : mm_M) (Z : mm_M → Prop) : Prop :=
  (((5 : Int32) ≤ (v5 : Int32) → wq_Archiver_fillFromDirectory_63 X2 ge (v0) (v1) (v2) (v3) h Z) ∧ (¬ (5 : Int32) ≤ (v5 : Int32) → mm_k h (v0) = kd_Archiver ∧ ∃ a2, mm_P h v0 3 = some a2 ∧ mm_k h (a2) = ka_I ∧ vp_in (((v3) * (5 : Int32)) + (v5)) (mm_n h a2) ∧ ∃ a6, mm_P h v0 2 = some a6 ∧ mm_k h (a6) = kd_Bytes ∧ wq_Bytes_putHighestFirst ge (a6) (mm_I h a2 (Int32.toNatClampNeg (((v3) * (5 : Int32)) + (v5)))) h (fun h9 : mm_M => X33 (v0) (v1) (v2) (v3) (v5 + 1) h9)))
def lp_Archiver_fillFromDirectory_33 (X2 : Nat → Option Nat → Int32 → Int32 → mm_M → Prop) (ge : Nat → Nat) (v0 : Nat) (v1 : Option Nat) (v2 : Int32) (v3 : Int32) (v5 : Int32) (h : mm_M) (Z : mm_M → Prop) : Prop :=
  ∀ X33 : Nat → Option Nat → Int32 → Int32 → Int32 → mm_M → Prop, (∀ (v0 : Nat) (v1 : Option Nat) (v2 : Int32) (v3 : Int32) (v5 : Int32) (h : mm_M), wq_Archiver_fillFromDirectory_33 X2 X33 ge v0 v1 v2 v3 v5 h Z → X33 v0 v1 v2 v3 v5 h) → X33 v0 v1 v2 v3 v5 h
def wq_Archiver_fillFromDirectory_2 (X2 : Nat → Option Nat → Int32 → Int32 → mm_M → Prop) (ge : Nat → Nat) (v0 : Nat) (v1 : Option Nat) (v2 : Int32) (v3 : Int32) (h : mm_M) (Z : mm_M → Prop) : Prop :=
  (((60 : Int32) ≤ (v3 : Int32) → Z h) ∧ (¬ (60 : Int32) ≤ (v3 : Int32) → ∃ a1, v1 = some a1 ∧ mm_k h (a1) = kd_Tree ∧ wq_Tree_in ge (a1) (v2) (v3) h (fun (r5 : Option Nat) (h4 : mm_M) => ((r5 = none → wq_Archiver_fillFromDirectory_63 X2 ge (v0) (v1) (v2) (v3) h4 Z) ∧ (∀ a6, r5 = some a6 → mm_k h4 (v0) = kd_Archiver ∧ ∃ a8, mm_P h4 v0 2 = some a8 ∧ mm_k h4 (a8) = kd_Bytes ∧ wq_Bytes_putStat ge (a8) (r5) h4 (fun h11 : mm_M => lp_Archiver_fillFromDirectory_33 X2 ge (v0) (v1) (v2) (v3) (0) h11 Z))))))
def lp_Archiver_fillFromDirectory_2  (ge : Nat → Nat) (v0 : Nat) (v1 : Option Nat) (v2 : Int32) (v3 : Int32) (h : mm_M) (Z : mm_M → Prop) : Prop :=
  ∀ X2 : Nat → Option Nat → Int32 → Int32 → mm_M → Prop, (∀ (v0 : Nat) (v1 : Option Nat) (v2 : Int32) (v3 : Int32) (h : mm_M), wq_Archiver_fillFromDirectory_2 X2 ge v0 v1 v2 v3 h Z → X2 v0 v1 v2 v3 h) → X2 v0 v1 v2 v3 h
def wq_Archiver_fillFromDirectory_0  (ge : Nat → Nat) (v0 : Nat) (v1 : Option Nat) (v2 : Int32) (h : mm_M) (Z : mm_M → Prop) : Prop :=
  lp_Archiver_fillFromDirectory_2  ge (v0) (v1) (v2) (0) h Z
set_option maxRecDepth 100000 in
set_option maxHeartbeats 4000000 in
theorem vb_Archiver_fillFromDirectory_63 {E : mm_E} {Z : mm_M → Prop} (hc : cx E "EpochServer$Archiver" c_Archiver_fillFromDirectory 6 none rm_Archiver_fillFromDirectory) (hq : cq E rm_Archiver_fillFromDirectory (pV Z)) (X2 : Nat → Option Nat → Int32 → Int32 → mm_M → Prop) (hX2 : ∀ (v0 : Nat) (v1 : Option Nat) (v2 : Int32) (v3 : Int32) (h : mm_M), X2 v0 v1 v2 v3 h → V E 6 0 0 h 2 [(0, va_rf (some v0)), (1, va_rf (v1)), (2, .int (v2)), (3, .int (v3))] []) (v0 : Nat) (v1 : Option Nat) (v2 : Int32) (v3 : Int32) (h : mm_M) (hw : wq_Archiver_fillFromDirectory_63 X2 (mm_ge (eG E)) v0 v1 v2 v3 h Z) : V E 6 0 0 h 63 [(0, va_rf (some v0)), (1, va_rf (v1)), (2, .int (v2)), (3, .int (v3))] [] := by
  unfold wq_Archiver_fillFromDirectory_63 at hw
  refine V_iinc (v := v3 + 1) (lv' := [(3, .int (v3 + 1)), (0, va_rf (some v0)), (1, va_rf (v1)), (2, .int (v2))]) hc 3 d_Archiver_fillFromDirectory_63 rfl rfl (by decide) rfl ?_
  refine V_goto (tgt := 2) hc d_Archiver_fillFromDirectory_66 (by decide) ?_
  refine V_sub (lv' := [(0, va_rf (some v0)), (1, va_rf (v1)), (2, .int (v2)), (3, .int (v3 + 1))]) [1, 2, 3, 0] rfl ?_
  exact hX2 _ _ _ _ _ hw
set_option maxRecDepth 100000 in
set_option maxHeartbeats 4000000 in
theorem vb_Archiver_fillFromDirectory_33 {E : mm_E} {Z : mm_M → Prop} (hc : cx E "EpochServer$Archiver" c_Archiver_fillFromDirectory 6 none rm_Archiver_fillFromDirectory) (hq : cq E rm_Archiver_fillFromDirectory (pV Z)) (X2 : Nat → Option Nat → Int32 → Int32 → mm_M → Prop) (hX2 : ∀ (v0 : Nat) (v1 : Option Nat) (v2 : Int32) (v3 : Int32) (h : mm_M), X2 v0 v1 v2 v3 h → V E 6 0 0 h 2 [(0, va_rf (some v0)), (1, va_rf (v1)), (2, .int (v2)), (3, .int (v3))] []) (X33 : Nat → Option Nat → Int32 → Int32 → Int32 → mm_M → Prop) (hX33 : ∀ (v0 : Nat) (v1 : Option Nat) (v2 : Int32) (v3 : Int32) (v5 : Int32) (h : mm_M), X33 v0 v1 v2 v3 v5 h → V E 6 0 0 h 33 [(0, va_rf (some v0)), (1, va_rf (v1)), (2, .int (v2)), (3, .int (v3)), (5, .int (v5))] []) (v0 : Nat) (v1 : Option Nat) (v2 : Int32) (v3 : Int32) (v5 : Int32) (h : mm_M) (hw : wq_Archiver_fillFromDirectory_33 X2 X33 (mm_ge (eG E)) v0 v1 v2 v3 v5 h Z) : V E 6 0 0 h 33 [(0, va_rf (some v0)), (1, va_rf (v1)), (2, .int (v2)), (3, .int (v3)), (5, .int (v5))] [] := by
  unfold wq_Archiver_fillFromDirectory_33 at hw
  refine V_iload hc 4 d_Archiver_fillFromDirectory_33 rfl ?_
  refine V_iconst (v := 5) hc d_Archiver_fillFromDirectory_35 (by decide) ?_
  refine V_icmp_ge (tgt := 63) hc d_Archiver_fillFromDirectory_36 (by decide) (fun hq1 => ?_) (fun hq1 => ?_)
  · replace hw := hw.1 hq1
    refine V_sub (lv' := [(0, va_rf (some v0)), (1, va_rf (v1)), (2, .int (v2)), (3, .int (v3))]) [0, 1, 2, 3] rfl ?_
    exact vb_Archiver_fillFromDirectory_63 hc hq X2 hX2 _ _ _ _ _ hw
  · replace hw := hw.2 hq1
    refine V_aload_n hc 0 d_Archiver_fillFromDirectory_39 rfl rfl ?_
    obtain ⟨q1, hw⟩ := hw
    refine V_get (v := va_rf (mm_P h v0 2)) hc gf_Archiver_30 rfl q1 rfl d_Archiver_fillFromDirectory_40 ?_
    refine V_aload_n hc 0 d_Archiver_fillFromDirectory_43 rfl rfl ?_
    refine V_get (v := va_rf (mm_P h v0 3)) hc gf_Archiver_34 rfl q1 rfl d_Archiver_fillFromDirectory_44 ?_
    refine V_iload_n hc 3 d_Archiver_fillFromDirectory_47 rfl rfl ?_
    refine V_iconst (v := 5) hc d_Archiver_fillFromDirectory_48 (by decide) ?_
    refine V_imul hc d_Archiver_fillFromDirectory_49 ?_
    refine V_iload hc 4 d_Archiver_fillFromDirectory_50 rfl ?_
    refine V_iadd hc d_Archiver_fillFromDirectory_52 ?_
    obtain ⟨a2, q3, hw⟩ := hw
    obtain ⟨q4, hw⟩ := hw
    obtain ⟨q5, hw⟩ := hw
    refine V_iald hc q3 q4 q5 d_Archiver_fillFromDirectory_53 ?_
    obtain ⟨a6, q7, hw⟩ := hw
    obtain ⟨q8, hw⟩ := hw
    refine V_callV (rm' := rm_Bytes_putHighestFirst) (As := [.int (mm_I h a2 (Int32.toNatClampNeg (((v3) * (5 : Int32)) + (v5))))]) (rest := []) (n := 1) (cn := 3) hc q7 q8 (sat_Bytes_putHighestFirst (eG E) _ _ _ _ hw) rfl cv_Archiver_115 (gw_of (tw_2 (List.mem_of_getElem? (i := 154) rfl)) rfl) ss_Bytes_putHighestFirst rfl ⟨by decide, by decide⟩ (by decide) (by decide) rfl (by simp [cat_rf, cat_i, cat_l]) d_Archiver_fillFromDirectory_54 (fun r0 h9 hw => ?_)
    obtain ⟨rfl, hw⟩ := hw
    refine V_wide (cs' := 0) (sl' := 0) (by decide) (by decide) ?_
    refine V_st (st' := []) rfl ?_
    refine V_iinc (v := v5 + 1) (lv' := [(5, .int (v5 + 1)), (0, va_rf (some v0)), (1, va_rf (v1)), (2, .int (v2)), (3, .int (v3))]) hc 4 d_Archiver_fillFromDirectory_57 rfl rfl (by decide) rfl ?_
    refine V_goto (tgt := 33) hc d_Archiver_fillFromDirectory_60 (by decide) ?_
    refine V_sub (lv' := [(0, va_rf (some v0)), (1, va_rf (v1)), (2, .int (v2)), (3, .int (v3)), (5, .int (v5 + 1))]) [1, 2, 3, 4, 0] rfl ?_
    exact hX33 _ _ _ _ _ _ hw
theorem vl_Archiver_fillFromDirectory_33 {E : mm_E} {Z : mm_M → Prop} (hc : cx E "EpochServer$Archiver" c_Archiver_fillFromDirectory 6 none rm_Archiver_fillFromDirectory) (hq : cq E rm_Archiver_fillFromDirectory (pV Z)) (X2 : Nat → Option Nat → Int32 → Int32 → mm_M → Prop) (hX2 : ∀ (v0 : Nat) (v1 : Option Nat) (v2 : Int32) (v3 : Int32) (h : mm_M), X2 v0 v1 v2 v3 h → V E 6 0 0 h 2 [(0, va_rf (some v0)), (1, va_rf (v1)), (2, .int (v2)), (3, .int (v3))] []) (v0 : Nat) (v1 : Option Nat) (v2 : Int32) (v3 : Int32) (v5 : Int32) (h : mm_M) (hw : lp_Archiver_fillFromDirectory_33 X2 (mm_ge (eG E)) v0 v1 v2 v3 v5 h Z) : V E 6 0 0 h 33 [(0, va_rf (some v0)), (1, va_rf (v1)), (2, .int (v2)), (3, .int (v3)), (5, .int (v5))] [] :=
  hw (fun v0 v1 v2 v3 v5 h => V E 6 0 0 h 33 [(0, va_rf (some v0)), (1, va_rf (v1)), (2, .int (v2)), (3, .int (v3)), (5, .int (v5))] []) (fun v0 v1 v2 v3 v5 h hb => vb_Archiver_fillFromDirectory_33 hc hq X2 hX2 _ (fun _ _ _ _ _ _ q => q) v0 v1 v2 v3 v5 h hb)
set_option maxRecDepth 100000 in
set_option maxHeartbeats 4000000 in
theorem vb_Archiver_fillFromDirectory_2 {E : mm_E} {Z : mm_M → Prop} (hc : cx E "EpochServer$Archiver" c_Archiver_fillFromDirectory 6 none rm_Archiver_fillFromDirectory) (hq : cq E rm_Archiver_fillFromDirectory (pV Z)) (X2 : Nat → Option Nat → Int32 → Int32 → mm_M → Prop) (hX2 : ∀ (v0 : Nat) (v1 : Option Nat) (v2 : Int32) (v3 : Int32) (h : mm_M), X2 v0 v1 v2 v3 h → V E 6 0 0 h 2 [(0, va_rf (some v0)), (1, va_rf (v1)), (2, .int (v2)), (3, .int (v3))] []) (v0 : Nat) (v1 : Option Nat) (v2 : Int32) (v3 : Int32) (h : mm_M) (hw : wq_Archiver_fillFromDirectory_2 X2 (mm_ge (eG E)) v0 v1 v2 v3 h Z) : V E 6 0 0 h 2 [(0, va_rf (some v0)), (1, va_rf (v1)), (2, .int (v2)), (3, .int (v3))] [] := by
  unfold wq_Archiver_fillFromDirectory_2 at hw
  refine V_iload_n hc 3 d_Archiver_fillFromDirectory_2 rfl rfl ?_
  refine V_bipush (v := 60) hc d_Archiver_fillFromDirectory_3 (by decide) ?_
  refine V_icmp_ge (tgt := 69) hc d_Archiver_fillFromDirectory_5 (by decide) (fun hq1 => ?_) (fun hq1 => ?_)
  · replace hw := hw.1 hq1
    exact V_vret hc hq ⟨rfl, hw⟩ (by decide) (by decide) d_Archiver_fillFromDirectory_69
  · replace hw := hw.2 hq1
    refine V_aload_n hc 1 d_Archiver_fillFromDirectory_8 rfl rfl ?_
    refine V_iload_n hc 2 d_Archiver_fillFromDirectory_9 rfl rfl ?_
    refine V_iload_n hc 3 d_Archiver_fillFromDirectory_10 rfl rfl ?_
    obtain ⟨a1, q2, hw⟩ := hw
    obtain ⟨q3, hw⟩ := hw
    refine V_callV (rm' := rm_Tree_in) (As := [.int (v2), .int (v3)]) (rest := []) (n := 2) (cn := 12) hc q2 q3 (sat_Tree_in (eG E) _ _ _ _ _ hw) rfl cv_Archiver_107 (gw_of (tw_3 (List.mem_of_getElem? (i := 88) rfl)) rfl) ss_Tree_in rfl ⟨by decide, by decide⟩ (by decide) (by decide) rfl (by simp [cat_rf, cat_i, cat_l]) d_Archiver_fillFromDirectory_11 (fun r0 h4 hw => ?_)
    obtain ⟨r5, rfl, hw⟩ := hw
    refine V_wide (cs' := 0) (sl' := 0) (by decide) (by decide) ?_
    refine V_st (st' := [va_rf (r5)]) rfl ?_
    refine V_astore (i := 4) (lv' := [(4, va_rf (r5)), (0, va_rf (some v0)), (1, va_rf (v1)), (2, .int (v2)), (3, .int (v3))]) hc d_Archiver_fillFromDirectory_14 (by decide) rfl ?_
    refine V_aload hc 0 d_Archiver_fillFromDirectory_16 rfl ?_
    refine V_ifnull (tgt := 63) hc d_Archiver_fillFromDirectory_18 (by decide) (fun hq1 => ?_) (fun a6 hq1 => ?_)
    · replace hw := hw.1 hq1
      refine V_sub (lv' := [(0, va_rf (some v0)), (1, va_rf (v1)), (2, .int (v2)), (3, .int (v3))]) [1, 2, 3, 4] rfl ?_
      exact vb_Archiver_fillFromDirectory_63 hc hq X2 hX2 _ _ _ _ _ hw
    · replace hw := hw.2 a6 hq1
      refine V_aload_n hc 1 d_Archiver_fillFromDirectory_21 rfl rfl ?_
      obtain ⟨q7, hw⟩ := hw
      refine V_get (v := va_rf (mm_P h4 v0 2)) hc gf_Archiver_30 rfl q7 rfl d_Archiver_fillFromDirectory_22 ?_
      refine V_aload hc 0 d_Archiver_fillFromDirectory_25 rfl ?_
      obtain ⟨a8, q9, hw⟩ := hw
      obtain ⟨q10, hw⟩ := hw
      refine V_callV (rm' := rm_Bytes_putStat) (As := [va_rf (r5)]) (rest := []) (n := 1) (cn := 3) hc q9 q10 (sat_Bytes_putStat (eG E) _ _ _ _ hw) rfl cv_Archiver_111 (gw_of (tw_3 (List.mem_of_getElem? (i := 202) rfl)) rfl) ss_Bytes_putStat rfl ⟨by decide, by decide⟩ (by decide) (by decide) rfl (by simp [cat_rf, cat_i, cat_l]) d_Archiver_fillFromDirectory_27 (fun r0 h11 hw => ?_)
      obtain ⟨rfl, hw⟩ := hw
      refine V_wide (cs' := 0) (sl' := 0) (by decide) (by decide) ?_
      refine V_st (st' := []) rfl ?_
      refine V_iconst (v := 0) hc d_Archiver_fillFromDirectory_30 (by decide) ?_
      refine V_istore (i := 5) (lv' := [(5, .int (0)), (4, va_rf (r5)), (0, va_rf (some v0)), (1, va_rf (v1)), (2, .int (v2)), (3, .int (v3))]) hc d_Archiver_fillFromDirectory_31 (by decide) (by simp [cat_rf, cat_i, cat_l]) ?_
      refine V_sub (lv' := [(0, va_rf (some v0)), (1, va_rf (v1)), (2, .int (v2)), (3, .int (v3)), (5, .int (0))]) [2, 3, 4, 5, 0] rfl ?_
      exact vl_Archiver_fillFromDirectory_33 hc hq X2 hX2 _ _ _ _ _ _ hw
theorem vl_Archiver_fillFromDirectory_2 {E : mm_E} {Z : mm_M → Prop} (hc : cx E "EpochServer$Archiver" c_Archiver_fillFromDirectory 6 none rm_Archiver_fillFromDirectory) (hq : cq E rm_Archiver_fillFromDirectory (pV Z))  (v0 : Nat) (v1 : Option Nat) (v2 : Int32) (v3 : Int32) (h : mm_M) (hw : lp_Archiver_fillFromDirectory_2  (mm_ge (eG E)) v0 v1 v2 v3 h Z) : V E 6 0 0 h 2 [(0, va_rf (some v0)), (1, va_rf (v1)), (2, .int (v2)), (3, .int (v3))] [] :=
  hw (fun v0 v1 v2 v3 h => V E 6 0 0 h 2 [(0, va_rf (some v0)), (1, va_rf (v1)), (2, .int (v2)), (3, .int (v3))] []) (fun v0 v1 v2 v3 h hb => vb_Archiver_fillFromDirectory_2 hc hq  _ (fun _ _ _ _ _ q => q) v0 v1 v2 v3 h hb)
set_option maxRecDepth 100000 in
set_option maxHeartbeats 4000000 in
theorem vb_Archiver_fillFromDirectory_0 {E : mm_E} {Z : mm_M → Prop} (hc : cx E "EpochServer$Archiver" c_Archiver_fillFromDirectory 6 none rm_Archiver_fillFromDirectory) (hq : cq E rm_Archiver_fillFromDirectory (pV Z))  (v0 : Nat) (v1 : Option Nat) (v2 : Int32) (h : mm_M) (hw : wq_Archiver_fillFromDirectory_0  (mm_ge (eG E)) v0 v1 v2 h Z) : V E 6 0 0 h 0 [(0, va_rf (some v0)), (1, va_rf (v1)), (2, .int (v2))] [] := by
  unfold wq_Archiver_fillFromDirectory_0 at hw
  refine V_iconst (v := 0) hc d_Archiver_fillFromDirectory_0 (by decide) ?_
  refine V_istore_n (i := 3) (lv' := [(3, .int (0)), (0, va_rf (some v0)), (1, va_rf (v1)), (2, .int (v2))]) hc d_Archiver_fillFromDirectory_1 rfl (by decide) rfl ?_
  refine V_sub (lv' := [(0, va_rf (some v0)), (1, va_rf (v1)), (2, .int (v2)), (3, .int (0))]) [1, 2, 3, 0] rfl ?_
  exact vl_Archiver_fillFromDirectory_2 hc hq  _ _ _ _ _ hw
def wq_Archiver_fillFromDirectory (ge : Nat → Nat) (v0 : Nat) (v1 : Option Nat) (v2 : Int32) (h : mm_M) (Z : mm_M → Prop) : Prop := wq_Archiver_fillFromDirectory_0 ge v0 v1 v2 h Z
theorem sat_Archiver_fillFromDirectory (G : mm_G) (v0 : Nat) (v1 : Option Nat) (v2 : Int32) (h : mm_M) (Z : mm_M → Prop) (hw : wq_Archiver_fillFromDirectory (mm_ge G) v0 v1 v2 h Z) : mm_Met G y_Archiver_fillFromDirectory c_Archiver_fillFromDirectory 6 none rm_Archiver_fillFromDirectory [va_rf (some v0), va_rf (v1), .int (v2)] h (pV Z) := by
  refine mm_intro (own := "EpochServer$Archiver") (by decide) rfl (by simp [lg_sl, cat_rf, cat_i, cat_l]) (fun E e1 hc hq hi => ?_)
  subst e1
  have e2 : lv_args 0 [va_rf (some v0), va_rf (v1), .int (v2)] = [(0, va_rf (some v0)), (1, va_rf (v1)), (2, .int (v2))] := by simp [lv_args, cat_rf, cat_i, cat_l]
  rw [e2]
  refine V_sub (lv' := [(0, va_rf (some v0)), (1, va_rf (v1)), (2, .int (v2))]) [0, 1, 2] rfl ?_
  exact vb_Archiver_fillFromDirectory_0 hc hq v0 v1 v2 h hw
/-! Sha.paddedWord([BIII)I -/
abbrev rm_Sha_paddedWord : Room := { frames := 0, cells := 0, slots := 0, locals := 0 }
def wq_Sha_paddedWord_63 (X6 : Option Nat → Int32 → Int32 → Int32 → Int32 → Int32 → mm_M → Prop) (ge : Nat → Nat) (v0 : Option Nat) (v1 : Int32) (v2 : Int32) (v3 : Int32) (v4 : Int32) (v5 : Int32) (v7 : Int32) (h : mm_M) (Z : Int32 → mm_M → Prop) : Prop :=
  X6 (v0) (v1) (v2) (v3) (((v4) <<< ((8 : Int32) &&& 31)) ||| (v7)) (v5 + 1) h
def wq_Sha_paddedWord_33 (X6 : Option Nat → Int32 → Int32 → Int32 → Int32 → Int32 → mm_M → Prop) (ge : Nat → Nat) (v0 : Option Nat) (v1 : Int32) (v2 : Int32) (v3 : Int32) (v4 : Int32) (v5 : Int32) (v6 : Int32) (s0 : Int32) (h : mm_M) (Z : Int32 → mm_M → Prop) : Prop :=
  (((v2 : Int32) ≤ (v5 : Int32) → wq_Sha_paddedWord_63 X6 ge (v0) (v1) (v2) (v3) (v4) (v5) (s0) h Z) ∧ (¬ (v2 : Int32) ≤ (v5 : Int32) → (((v6) < 0 → wq_Sha_paddedWord_63 X6 ge (v0) (v1) (v2) (v3) (v4) (v5) (s0) h Z) ∧ (¬ (v6) < 0 → ∃ a1, v0 = some a1 ∧ mm_k h (a1) = ka_B ∧ (((Nat.toInt32 (mm_n h a1) : Int32) ≤ (v6 : Int32) → wq_Sha_paddedWord_63 X6 ge (v0) (v1) (v2) (v3) (v4) (v5) (s0) h Z) ∧ (¬ (Nat.toInt32 (mm_n h a1) : Int32) ≤ (v6 : Int32) → vp_in (v6) (mm_n h a1) ∧ wq_Sha_paddedWord_63 X6 ge (v0) (v1) (v2) (v3) (v4) (v5) ((mm_I h a1 (Int32.toNatClampNeg (v6))) &&& (255 : Int32)) h Z))))))
def wq_Sha_paddedWord_6 (X6 : Option Nat → Int32 → Int32 → Int32 → Int32 → Int32 → mm_M → Prop) (ge : Nat → Nat) (v0 : Option Nat) (v1 : Int32) (v2 : Int32) (v3 : Int32) (v4 : Int32) (v5 : Int32) (h : mm_M) (Z : Int32 → mm_M → Prop) : Prop :=
  ((((v3) + (4 : Int32) : Int32) ≤ (v5 : Int32) → Z (v4) h) ∧ (¬ ((v3) + (4 : Int32) : Int32) ≤ (v5 : Int32) → ((¬ (v5 : Int32) = (v2 : Int32) → wq_Sha_paddedWord_33 X6 ge (v0) (v1) (v2) (v3) (v4) (v5) ((v1) + (v5)) (0) h Z) ∧ ((v5 : Int32) = (v2 : Int32) → wq_Sha_paddedWord_33 X6 ge (v0) (v1) (v2) (v3) (v4) (v5) ((v1) + (v5)) (128) h Z))))
def lp_Sha_paddedWord_6  (ge : Nat → Nat) (v0 : Option Nat) (v1 : Int32) (v2 : Int32) (v3 : Int32) (v4 : Int32) (v5 : Int32) (h : mm_M) (Z : Int32 → mm_M → Prop) : Prop :=
  ∀ X6 : Option Nat → Int32 → Int32 → Int32 → Int32 → Int32 → mm_M → Prop, (∀ (v0 : Option Nat) (v1 : Int32) (v2 : Int32) (v3 : Int32) (v4 : Int32) (v5 : Int32) (h : mm_M), wq_Sha_paddedWord_6 X6 ge v0 v1 v2 v3 v4 v5 h Z → X6 v0 v1 v2 v3 v4 v5 h) → X6 v0 v1 v2 v3 v4 v5 h
def wq_Sha_paddedWord_0  (ge : Nat → Nat) (v0 : Option Nat) (v1 : Int32) (v2 : Int32) (v3 : Int32) (h : mm_M) (Z : Int32 → mm_M → Prop) : Prop :=
  lp_Sha_paddedWord_6  ge (v0) (v1) (v2) (v3) (0) (v3) h Z
set_option maxRecDepth 100000 in
set_option maxHeartbeats 4000000 in
theorem vb_Sha_paddedWord_63 {E : mm_E} {Z : Int32 → mm_M → Prop} (hc : cx E "EpochServer$Sha" c_Sha_paddedWord 8 (some (.int)) rm_Sha_paddedWord) (hq : cq E rm_Sha_paddedWord (pI Z)) (X6 : Option Nat → Int32 → Int32 → Int32 → Int32 → Int32 → mm_M → Prop) (hX6 : ∀ (v0 : Option Nat) (v1 : Int32) (v2 : Int32) (v3 : Int32) (v4 : Int32) (v5 : Int32) (h : mm_M), X6 v0 v1 v2 v3 v4 v5 h → V E 8 0 0 h 6 [(0, va_rf (v0)), (1, .int (v1)), (2, .int (v2)), (3, .int (v3)), (4, .int (v4)), (5, .int (v5))] []) (v0 : Option Nat) (v1 : Int32) (v2 : Int32) (v3 : Int32) (v4 : Int32) (v5 : Int32) (v7 : Int32) (h : mm_M) (hw : wq_Sha_paddedWord_63 X6 (mm_ge (eG E)) v0 v1 v2 v3 v4 v5 v7 h Z) : V E 8 0 0 h 63 [(0, va_rf (v0)), (1, .int (v1)), (2, .int (v2)), (3, .int (v3)), (4, .int (v4)), (5, .int (v5)), (7, .int (v7))] [] := by
  unfold wq_Sha_paddedWord_63 at hw
  refine V_iload hc 4 d_Sha_paddedWord_63 rfl ?_
  refine V_bipush (v := 8) hc d_Sha_paddedWord_65 (by decide) ?_
  refine V_ishl hc d_Sha_paddedWord_67 ?_
  refine V_iload hc 6 d_Sha_paddedWord_68 rfl ?_
  refine V_ior hc d_Sha_paddedWord_70 ?_
  refine V_istore (i := 4) (lv' := [(4, .int (((v4) <<< ((8 : Int32) &&& 31)) ||| (v7))), (0, va_rf (v0)), (1, .int (v1)), (2, .int (v2)), (3, .int (v3)), (5, .int (v5)), (7, .int (v7))]) hc d_Sha_paddedWord_71 (by decide) rfl ?_
  refine V_iinc (v := v5 + 1) (lv' := [(5, .int (v5 + 1)), (4, .int (((v4) <<< ((8 : Int32) &&& 31)) ||| (v7))), (0, va_rf (v0)), (1, .int (v1)), (2, .int (v2)), (3, .int (v3)), (7, .int (v7))]) hc 5 d_Sha_paddedWord_73 rfl rfl (by decide) rfl ?_
  refine V_goto (tgt := 6) hc d_Sha_paddedWord_76 (by decide) ?_
  refine V_sub (lv' := [(0, va_rf (v0)), (1, .int (v1)), (2, .int (v2)), (3, .int (v3)), (4, .int (((v4) <<< ((8 : Int32) &&& 31)) ||| (v7))), (5, .int (v5 + 1))]) [2, 3, 4, 5, 1, 0] rfl ?_
  exact hX6 _ _ _ _ _ _ _ hw
set_option maxRecDepth 100000 in
set_option maxHeartbeats 4000000 in
theorem vb_Sha_paddedWord_33 {E : mm_E} {Z : Int32 → mm_M → Prop} (hc : cx E "EpochServer$Sha" c_Sha_paddedWord 8 (some (.int)) rm_Sha_paddedWord) (hq : cq E rm_Sha_paddedWord (pI Z)) (X6 : Option Nat → Int32 → Int32 → Int32 → Int32 → Int32 → mm_M → Prop) (hX6 : ∀ (v0 : Option Nat) (v1 : Int32) (v2 : Int32) (v3 : Int32) (v4 : Int32) (v5 : Int32) (h : mm_M), X6 v0 v1 v2 v3 v4 v5 h → V E 8 0 0 h 6 [(0, va_rf (v0)), (1, .int (v1)), (2, .int (v2)), (3, .int (v3)), (4, .int (v4)), (5, .int (v5))] []) (v0 : Option Nat) (v1 : Int32) (v2 : Int32) (v3 : Int32) (v4 : Int32) (v5 : Int32) (v6 : Int32) (s0 : Int32) (h : mm_M) (hw : wq_Sha_paddedWord_33 X6 (mm_ge (eG E)) v0 v1 v2 v3 v4 v5 v6 s0 h Z) : V E 8 0 0 h 33 [(0, va_rf (v0)), (1, .int (v1)), (2, .int (v2)), (3, .int (v3)), (4, .int (v4)), (5, .int (v5)), (6, .int (v6))] [.int (s0)] := by
  unfold wq_Sha_paddedWord_33 at hw
  refine V_istore (i := 7) (lv' := [(7, .int (s0)), (0, va_rf (v0)), (1, .int (v1)), (2, .int (v2)), (3, .int (v3)), (4, .int (v4)), (5, .int (v5)), (6, .int (v6))]) hc d_Sha_paddedWord_33 (by decide) rfl ?_
  refine V_iload hc 6 d_Sha_paddedWord_35 rfl ?_
  refine V_iload_n hc 3 d_Sha_paddedWord_37 rfl rfl ?_
  refine V_icmp_ge (tgt := 63) hc d_Sha_paddedWord_38 (by decide) (fun hq1 => ?_) (fun hq1 => ?_)
  · replace hw := hw.1 hq1
    refine V_sub (lv' := [(0, va_rf (v0)), (1, .int (v1)), (2, .int (v2)), (3, .int (v3)), (4, .int (v4)), (5, .int (v5)), (7, .int (s0))]) [1, 2, 3, 4, 5, 6, 0] rfl ?_
    exact vb_Sha_paddedWord_63 hc hq X6 hX6 _ _ _ _ _ _ _ _ hw
  · replace hw := hw.2 hq1
    refine V_iload hc 7 d_Sha_paddedWord_41 rfl ?_
    refine V_if_lt (tgt := 63) hc d_Sha_paddedWord_43 (by decide) (fun hq1 => ?_) (fun hq1 => ?_)
    · replace hw := hw.1 hq1
      refine V_sub (lv' := [(0, va_rf (v0)), (1, .int (v1)), (2, .int (v2)), (3, .int (v3)), (4, .int (v4)), (5, .int (v5)), (7, .int (s0))]) [1, 2, 3, 4, 5, 6, 0] rfl ?_
      exact vb_Sha_paddedWord_63 hc hq X6 hX6 _ _ _ _ _ _ _ _ hw
    · replace hw := hw.2 hq1
      refine V_iload hc 7 d_Sha_paddedWord_46 rfl ?_
      refine V_aload_n hc 1 d_Sha_paddedWord_48 rfl rfl ?_
      obtain ⟨a1, q2, hw⟩ := hw
      obtain ⟨q3, hw⟩ := hw
      refine V_alen (t := 1) (ty := .byte) hc rfl q2 q3 d_Sha_paddedWord_49 ?_
      refine V_icmp_ge (tgt := 63) hc d_Sha_paddedWord_50 (by decide) (fun hq1 => ?_) (fun hq1 => ?_)
      · replace hw := hw.1 hq1
        refine V_sub (lv' := [(0, va_rf (v0)), (1, .int (v1)), (2, .int (v2)), (3, .int (v3)), (4, .int (v4)), (5, .int (v5)), (7, .int (s0))]) [1, 2, 3, 4, 5, 6, 0] rfl ?_
        exact vb_Sha_paddedWord_63 hc hq X6 hX6 _ _ _ _ _ _ _ _ hw
      · replace hw := hw.2 hq1
        refine V_aload_n hc 1 d_Sha_paddedWord_53 rfl rfl ?_
        refine V_iload hc 7 d_Sha_paddedWord_54 rfl ?_
        obtain ⟨q4, hw⟩ := hw
        refine V_bald hc q2 q3 q4 d_Sha_paddedWord_56 ?_
        refine V_sipush (v := 255) hc d_Sha_paddedWord_57 (by decide) ?_
        refine V_iand hc d_Sha_paddedWord_60 ?_
        refine V_istore (i := 7) (lv' := [(7, .int ((mm_I h a1 (Int32.toNatClampNeg (v6))) &&& (255 : Int32))), (0, va_rf (v0)), (1, .int (v1)), (2, .int (v2)), (3, .int (v3)), (4, .int (v4)), (5, .int (v5)), (6, .int (v6))]) hc d_Sha_paddedWord_61 (by decide) rfl ?_
        refine V_sub (lv' := [(0, va_rf (v0)), (1, .int (v1)), (2, .int (v2)), (3, .int (v3)), (4, .int (v4)), (5, .int (v5)), (7, .int ((mm_I h a1 (Int32.toNatClampNeg (v6))) &&& (255 : Int32)))]) [1, 2, 3, 4, 5, 6, 0] rfl ?_
        exact vb_Sha_paddedWord_63 hc hq X6 hX6 _ _ _ _ _ _ _ _ hw
set_option maxRecDepth 100000 in
set_option maxHeartbeats 4000000 in
theorem vb_Sha_paddedWord_6 {E : mm_E} {Z : Int32 → mm_M → Prop} (hc : cx E "EpochServer$Sha" c_Sha_paddedWord 8 (some (.int)) rm_Sha_paddedWord) (hq : cq E rm_Sha_paddedWord (pI Z)) (X6 : Option Nat → Int32 → Int32 → Int32 → Int32 → Int32 → mm_M → Prop) (hX6 : ∀ (v0 : Option Nat) (v1 : Int32) (v2 : Int32) (v3 : Int32) (v4 : Int32) (v5 : Int32) (h : mm_M), X6 v0 v1 v2 v3 v4 v5 h → V E 8 0 0 h 6 [(0, va_rf (v0)), (1, .int (v1)), (2, .int (v2)), (3, .int (v3)), (4, .int (v4)), (5, .int (v5))] []) (v0 : Option Nat) (v1 : Int32) (v2 : Int32) (v3 : Int32) (v4 : Int32) (v5 : Int32) (h : mm_M) (hw : wq_Sha_paddedWord_6 X6 (mm_ge (eG E)) v0 v1 v2 v3 v4 v5 h Z) : V E 8 0 0 h 6 [(0, va_rf (v0)), (1, .int (v1)), (2, .int (v2)), (3, .int (v3)), (4, .int (v4)), (5, .int (v5))] [] := by
  unfold wq_Sha_paddedWord_6 at hw
  refine V_iload hc 5 d_Sha_paddedWord_6 rfl ?_
  refine V_iload_n hc 3 d_Sha_paddedWord_8 rfl rfl ?_
  refine V_iconst (v := 4) hc d_Sha_paddedWord_9 (by decide) ?_
  refine V_iadd hc d_Sha_paddedWord_10 ?_
  refine V_icmp_ge (tgt := 79) hc d_Sha_paddedWord_11 (by decide) (fun hq1 => ?_) (fun hq1 => ?_)
  · replace hw := hw.1 hq1
    refine V_iload hc 4 d_Sha_paddedWord_79 rfl ?_
    exact V_iret hc hq ⟨_, rfl, hw⟩ (by decide) (by decide) d_Sha_paddedWord_81
  · replace hw := hw.2 hq1
    refine V_iload_n hc 1 d_Sha_paddedWord_14 rfl rfl ?_
    refine V_iload hc 5 d_Sha_paddedWord_15 rfl ?_
    refine V_iadd hc d_Sha_paddedWord_17 ?_
    refine V_istore (i := 6) (lv' := [(6, .int ((v1) + (v5))), (0, va_rf (v0)), (1, .int (v1)), (2, .int (v2)), (3, .int (v3)), (4, .int (v4)), (5, .int (v5))]) hc d_Sha_paddedWord_18 (by decide) rfl ?_
    refine V_iload hc 6 d_Sha_paddedWord_20 rfl ?_
    refine V_iload_n hc 3 d_Sha_paddedWord_22 rfl rfl ?_
    refine V_icmp_ne (tgt := 32) hc d_Sha_paddedWord_23 (by decide) (fun hq1 => ?_) (fun hq1 => ?_)
    · replace hw := hw.1 hq1
      refine V_iconst (v := 0) hc d_Sha_paddedWord_32 (by decide) ?_
      refine V_sub (lv' := [(0, va_rf (v0)), (1, .int (v1)), (2, .int (v2)), (3, .int (v3)), (4, .int (v4)), (5, .int (v5)), (6, .int ((v1) + (v5)))]) [1, 2, 3, 4, 5, 6, 0] rfl ?_
      exact vb_Sha_paddedWord_33 hc hq X6 hX6 _ _ _ _ _ _ _ _ _ hw
    · replace hw := hw.2 hq1
      refine V_sipush (v := 128) hc d_Sha_paddedWord_26 (by decide) ?_
      refine V_goto (tgt := 33) hc d_Sha_paddedWord_29 (by decide) ?_
      refine V_sub (lv' := [(0, va_rf (v0)), (1, .int (v1)), (2, .int (v2)), (3, .int (v3)), (4, .int (v4)), (5, .int (v5)), (6, .int ((v1) + (v5)))]) [1, 2, 3, 4, 5, 6, 0] rfl ?_
      exact vb_Sha_paddedWord_33 hc hq X6 hX6 _ _ _ _ _ _ _ _ _ hw
theorem vl_Sha_paddedWord_6 {E : mm_E} {Z : Int32 → mm_M → Prop} (hc : cx E "EpochServer$Sha" c_Sha_paddedWord 8 (some (.int)) rm_Sha_paddedWord) (hq : cq E rm_Sha_paddedWord (pI Z))  (v0 : Option Nat) (v1 : Int32) (v2 : Int32) (v3 : Int32) (v4 : Int32) (v5 : Int32) (h : mm_M) (hw : lp_Sha_paddedWord_6  (mm_ge (eG E)) v0 v1 v2 v3 v4 v5 h Z) : V E 8 0 0 h 6 [(0, va_rf (v0)), (1, .int (v1)), (2, .int (v2)), (3, .int (v3)), (4, .int (v4)), (5, .int (v5))] [] :=
  hw (fun v0 v1 v2 v3 v4 v5 h => V E 8 0 0 h 6 [(0, va_rf (v0)), (1, .int (v1)), (2, .int (v2)), (3, .int (v3)), (4, .int (v4)), (5, .int (v5))] []) (fun v0 v1 v2 v3 v4 v5 h hb => vb_Sha_paddedWord_6 hc hq  _ (fun _ _ _ _ _ _ _ q => q) v0 v1 v2 v3 v4 v5 h hb)
set_option maxRecDepth 100000 in
set_option maxHeartbeats 4000000 in
theorem vb_Sha_paddedWord_0 {E : mm_E} {Z : Int32 → mm_M → Prop} (hc : cx E "EpochServer$Sha" c_Sha_paddedWord 8 (some (.int)) rm_Sha_paddedWord) (hq : cq E rm_Sha_paddedWord (pI Z))  (v0 : Option Nat) (v1 : Int32) (v2 : Int32) (v3 : Int32) (h : mm_M) (hw : wq_Sha_paddedWord_0  (mm_ge (eG E)) v0 v1 v2 v3 h Z) : V E 8 0 0 h 0 [(0, va_rf (v0)), (1, .int (v1)), (2, .int (v2)), (3, .int (v3))] [] := by
  unfold wq_Sha_paddedWord_0 at hw
  refine V_iconst (v := 0) hc d_Sha_paddedWord_0 (by decide) ?_
  refine V_istore (i := 4) (lv' := [(4, .int (0)), (0, va_rf (v0)), (1, .int (v1)), (2, .int (v2)), (3, .int (v3))]) hc d_Sha_paddedWord_1 (by decide) rfl ?_
  refine V_iload_n hc 4 d_Sha_paddedWord_3 rfl rfl ?_
  refine V_istore (i := 5) (lv' := [(5, .int (v3)), (4, .int (0)), (0, va_rf (v0)), (1, .int (v1)), (2, .int (v2)), (3, .int (v3))]) hc d_Sha_paddedWord_4 (by decide) rfl ?_
  refine V_sub (lv' := [(0, va_rf (v0)), (1, .int (v1)), (2, .int (v2)), (3, .int (v3)), (4, .int (0)), (5, .int (v3))]) [2, 3, 4, 5, 1, 0] rfl ?_
  exact vl_Sha_paddedWord_6 hc hq  _ _ _ _ _ _ _ hw
def wq_Sha_paddedWord (ge : Nat → Nat) (v0 : Option Nat) (v1 : Int32) (v2 : Int32) (v3 : Int32) (h : mm_M) (Z : Int32 → mm_M → Prop) : Prop := wq_Sha_paddedWord_0 ge v0 v1 v2 v3 h Z
theorem sat_Sha_paddedWord (G : mm_G) (v0 : Option Nat) (v1 : Int32) (v2 : Int32) (v3 : Int32) (h : mm_M) (Z : Int32 → mm_M → Prop) (hw : wq_Sha_paddedWord (mm_ge G) v0 v1 v2 v3 h Z) : mm_Met G y_Sha_paddedWord c_Sha_paddedWord 8 (some (.int)) rm_Sha_paddedWord [va_rf (v0), .int (v1), .int (v2), .int (v3)] h (pI Z) := by
  refine mm_intro (own := "EpochServer$Sha") (by decide) rfl (by simp [lg_sl, cat_rf, cat_i, cat_l]) (fun E e1 hc hq hi => ?_)
  subst e1
  have e2 : lv_args 0 [va_rf (v0), .int (v1), .int (v2), .int (v3)] = [(0, va_rf (v0)), (1, .int (v1)), (2, .int (v2)), (3, .int (v3))] := by simp [lv_args, cat_rf, cat_i, cat_l]
  rw [e2]
  refine V_sub (lv' := [(0, va_rf (v0)), (1, .int (v1)), (2, .int (v2)), (3, .int (v3))]) [0, 1, 2, 3] rfl ?_
  exact vb_Sha_paddedWord_0 hc hq v0 v1 v2 v3 h hw
/-! Sha.blend(IIII)I -/
abbrev rm_Sha_blend : Room := { frames := 0, cells := 0, slots := 0, locals := 0 }
def wq_Sha_blend_0  (ge : Nat → Nat) (v0 : Int32) (v1 : Int32) (v2 : Int32) (v3 : Int32) (h : mm_M) (Z : Int32 → mm_M → Prop) : Prop :=
  (((20 : Int32) ≤ (v0 : Int32) → (((40 : Int32) ≤ (v0 : Int32) → (((60 : Int32) ≤ (v0 : Int32) → Z ((((v1) ^^^ (v2)) ^^^ (v3)) + ((-899497514) : Int32)) h) ∧ (¬ (60 : Int32) ≤ (v0 : Int32) → Z (((((v1) &&& (v2)) ||| ((v1) &&& (v3))) ||| ((v2) &&& (v3))) + ((-1894007588) : Int32)) h))) ∧ (¬ (40 : Int32) ≤ (v0 : Int32) → Z ((((v1) ^^^ (v2)) ^^^ (v3)) + (1859775393 : Int32)) h))) ∧ (¬ (20 : Int32) ≤ (v0 : Int32) → Z ((((v1) &&& (v2)) ||| (((v1) ^^^ ((-1) : Int32)) &&& (v3))) + (1518500249 : Int32)) h))
set_option maxRecDepth 100000 in
set_option maxHeartbeats 4000000 in
theorem vb_Sha_blend_0 {E : mm_E} {Z : Int32 → mm_M → Prop} (hc : cx E "EpochServer$Sha" c_Sha_blend 4 (some (.int)) rm_Sha_blend) (hq : cq E rm_Sha_blend (pI Z))  (v0 : Int32) (v1 : Int32) (v2 : Int32) (v3 : Int32) (h : mm_M) (hw : wq_Sha_blend_0  (mm_ge (eG E)) v0 v1 v2 v3 h Z) : V E 4 0 0 h 0 [(0, .int (v0)), (1, .int (v1)), (2, .int (v2)), (3, .int (v3))] [] := by
  unfold wq_Sha_blend_0 at hw
  refine V_iload_n hc 0 d_Sha_blend_0 rfl rfl ?_
  refine V_bipush (v := 20) hc d_Sha_blend_1 (by decide) ?_
  refine V_icmp_ge (tgt := 19) hc d_Sha_blend_3 (by decide) (fun hq1 => ?_) (fun hq1 => ?_)
  · replace hw := hw.1 hq1
    refine V_iload_n hc 0 d_Sha_blend_19 rfl rfl ?_
    refine V_bipush (v := 40) hc d_Sha_blend_20 (by decide) ?_
    refine V_icmp_ge (tgt := 34) hc d_Sha_blend_22 (by decide) (fun hq1 => ?_) (fun hq1 => ?_)
    · replace hw := hw.1 hq1
      refine V_iload_n hc 0 d_Sha_blend_34 rfl rfl ?_
      refine V_bipush (v := 60) hc d_Sha_blend_35 (by decide) ?_
      refine V_icmp_ge (tgt := 55) hc d_Sha_blend_37 (by decide) (fun hq1 => ?_) (fun hq1 => ?_)
      · replace hw := hw.1 hq1
        refine V_iload_n hc 1 d_Sha_blend_55 rfl rfl ?_
        refine V_iload_n hc 2 d_Sha_blend_56 rfl rfl ?_
        refine V_ixor hc d_Sha_blend_57 ?_
        refine V_iload_n hc 3 d_Sha_blend_58 rfl rfl ?_
        refine V_ixor hc d_Sha_blend_59 ?_
        refine V_ldc (v := (-899497514)) hc (gw_of (tw_4 (List.mem_of_getElem? (i := 117) rfl)) rfl) d_Sha_blend_60 ?_
        refine V_iadd hc d_Sha_blend_62 ?_
        exact V_iret hc hq ⟨_, rfl, hw⟩ (by decide) (by decide) d_Sha_blend_63
      · replace hw := hw.2 hq1
        refine V_iload_n hc 1 d_Sha_blend_40 rfl rfl ?_
        refine V_iload_n hc 2 d_Sha_blend_41 rfl rfl ?_
        refine V_iand hc d_Sha_blend_42 ?_
        refine V_iload_n hc 1 d_Sha_blend_43 rfl rfl ?_
        refine V_iload_n hc 3 d_Sha_blend_44 rfl rfl ?_
        refine V_iand hc d_Sha_blend_45 ?_
        refine V_ior hc d_Sha_blend_46 ?_
        refine V_iload_n hc 2 d_Sha_blend_47 rfl rfl ?_
        refine V_iload_n hc 3 d_Sha_blend_48 rfl rfl ?_
        refine V_iand hc d_Sha_blend_49 ?_
        refine V_ior hc d_Sha_blend_50 ?_
        refine V_ldc (v := (-1894007588)) hc (gw_of (tw_4 (List.mem_of_getElem? (i := 116) rfl)) rfl) d_Sha_blend_51 ?_
        refine V_iadd hc d_Sha_blend_53 ?_
        exact V_iret hc hq ⟨_, rfl, hw⟩ (by decide) (by decide) d_Sha_blend_54
    · replace hw := hw.2 hq1
      refine V_iload_n hc 1 d_Sha_blend_25 rfl rfl ?_
      refine V_iload_n hc 2 d_Sha_blend_26 rfl rfl ?_
      refine V_ixor hc d_Sha_blend_27 ?_
      refine V_iload_n hc 3 d_Sha_blend_28 rfl rfl ?_
      refine V_ixor hc d_Sha_blend_29 ?_
      refine V_ldc (v := 1859775393) hc (gw_of (tw_4 (List.mem_of_getElem? (i := 115) rfl)) rfl) d_Sha_blend_30 ?_
      refine V_iadd hc d_Sha_blend_32 ?_
      exact V_iret hc hq ⟨_, rfl, hw⟩ (by decide) (by decide) d_Sha_blend_33
  · replace hw := hw.2 hq1
    refine V_iload_n hc 1 d_Sha_blend_6 rfl rfl ?_
    refine V_iload_n hc 2 d_Sha_blend_7 rfl rfl ?_
    refine V_iand hc d_Sha_blend_8 ?_
    refine V_iload_n hc 1 d_Sha_blend_9 rfl rfl ?_
    refine V_iconst (v := (-1)) hc d_Sha_blend_10 (by decide) ?_
    refine V_ixor hc d_Sha_blend_11 ?_
    refine V_iload_n hc 3 d_Sha_blend_12 rfl rfl ?_
    refine V_iand hc d_Sha_blend_13 ?_
    refine V_ior hc d_Sha_blend_14 ?_
    refine V_ldc (v := 1518500249) hc (gw_of (tw_4 (List.mem_of_getElem? (i := 114) rfl)) rfl) d_Sha_blend_15 ?_
    refine V_iadd hc d_Sha_blend_17 ?_
    exact V_iret hc hq ⟨_, rfl, hw⟩ (by decide) (by decide) d_Sha_blend_18
def wq_Sha_blend (ge : Nat → Nat) (v0 : Int32) (v1 : Int32) (v2 : Int32) (v3 : Int32) (h : mm_M) (Z : Int32 → mm_M → Prop) : Prop := wq_Sha_blend_0 ge v0 v1 v2 v3 h Z
theorem sat_Sha_blend (G : mm_G) (v0 : Int32) (v1 : Int32) (v2 : Int32) (v3 : Int32) (h : mm_M) (Z : Int32 → mm_M → Prop) (hw : wq_Sha_blend (mm_ge G) v0 v1 v2 v3 h Z) : mm_Met G y_Sha_blend c_Sha_blend 4 (some (.int)) rm_Sha_blend [.int (v0), .int (v1), .int (v2), .int (v3)] h (pI Z) := by
  refine mm_intro (own := "EpochServer$Sha") (by decide) rfl (by simp [lg_sl, cat_rf, cat_i, cat_l]) (fun E e1 hc hq hi => ?_)
  subst e1
  have e2 : lv_args 0 [.int (v0), .int (v1), .int (v2), .int (v3)] = [(0, .int (v0)), (1, .int (v1)), (2, .int (v2)), (3, .int (v3))] := by simp [lv_args, cat_rf, cat_i, cat_l]
  rw [e2]
  refine V_sub (lv' := [(0, .int (v0)), (1, .int (v1)), (2, .int (v2)), (3, .int (v3))]) [0, 1, 2, 3] rfl ?_
  exact vb_Sha_blend_0 hc hq v0 v1 v2 v3 h hw
/-! Sha.mix()V -/
abbrev rm_Sha_mix : Room := { frames := 1, cells := 0, slots := 0, locals := 23 }
def wq_Sha_mix_108 (X108 : Nat → Int32 → Int32 → Int32 → Int32 → Int32 → Int32 → mm_M → Prop) (ge : Nat → Nat) (v0 : Nat) (v1 : Int32) (v2 : Int32) (v3 : Int32) (v4 : Int32) (v5 : Int32) (v6 : Int32) (h : mm_M) (Z : mm_M → Prop) : Prop :=
  (((80 : Int32) ≤ (v6 : Int32) → mm_k h (v0) = kd_Sha ∧ ∃ a2, mm_P h v0 0 = some a2 ∧ mm_k h (a2) = ka_I ∧ vp_in (0) (mm_n h a2) ∧ vp_in (0) (mm_n h a2) ∧ ge 0 ≤ a2 ∧ ∀ h8 : mm_M, h8 = mm_uI h a2 (Int32.toNatClampNeg (0)) ((mm_I h a2 (Int32.toNatClampNeg (0))) + (v1)) → mm_k h8 (v0) = kd_Sha ∧ ∃ a10, mm_P h8 v0 0 = some a10 ∧ mm_k h8 (a10) = ka_I ∧ vp_in (1) (mm_n h8 a10) ∧ vp_in (1) (mm_n h8 a10) ∧ ge 0 ≤ a10 ∧ ∀ h16 : mm_M, h16 = mm_uI h8 a10 (Int32.toNatClampNeg (1)) ((mm_I h8 a10 (Int32.toNatClampNeg (1))) + (v2)) → mm_k h16 (v0) = kd_Sha ∧ ∃ a18, mm_P h16 v0 0 = some a18 ∧ mm_k h16 (a18) = ka_I ∧ vp_in (2) (mm_n h16 a18) ∧ vp_in (2) (mm_n h16 a18) ∧ ge 0 ≤ a18 ∧ ∀ h24 : mm_M, h24 = mm_uI h16 a18 (Int32.toNatClampNeg (2)) ((mm_I h16 a18 (Int32.toNatClampNeg (2))) + (v3)) → mm_k h24 (v0) = kd_Sha ∧ ∃ a26, mm_P h24 v0 0 = some a26 ∧ mm_k h24 (a26) = ka_I ∧ vp_in (3) (mm_n h24 a26) ∧ vp_in (3) (mm_n h24 a26) ∧ ge 0 ≤ a26 ∧ ∀ h32 : mm_M, h32 = mm_uI h24 a26 (Int32.toNatClampNeg (3)) ((mm_I h24 a26 (Int32.toNatClampNeg (3))) + (v4)) → mm_k h32 (v0) = kd_Sha ∧ ∃ a34, mm_P h32 v0 0 = some a34 ∧ mm_k h32 (a34) = ka_I ∧ vp_in (4) (mm_n h32 a34) ∧ vp_in (4) (mm_n h32 a34) ∧ ge 0 ≤ a34 ∧ ∀ h40 : mm_M, h40 = mm_uI h32 a34 (Int32.toNatClampNeg (4)) ((mm_I h32 a34 (Int32.toNatClampNeg (4))) + (v5)) → Z h40) ∧ (¬ (80 : Int32) ≤ (v6 : Int32) → wq_Sha_blend ge (v6) (v2) (v3) (v4) h (fun (r42 : Int32) (h41 : mm_M) => mm_k h41 (v0) = kd_Sha ∧ ∃ a44, mm_P h41 v0 1 = some a44 ∧ mm_k h41 (a44) = ka_I ∧ vp_in (v6) (mm_n h41 a44) ∧ X108 (v0) ((((((v1) <<< ((5 : Int32) &&& 31)) ||| (((v1).toUInt32 >>> ((27 : Int32).toUInt32 &&& Int32.toUInt32 31)).toInt32)) + (r42)) + (v5)) + (mm_I h41 a44 (Int32.toNatClampNeg (v6)))) (v1) (((v2) <<< ((30 : Int32) &&& 31)) ||| (((v2).toUInt32 >>> ((2 : Int32).toUInt32 &&& Int32.toUInt32 31)).toInt32)) (v3) (v4) (v6 + 1) h41)))
def lp_Sha_mix_108  (ge : Nat → Nat) (v0 : Nat) (v1 : Int32) (v2 : Int32) (v3 : Int32) (v4 : Int32) (v5 : Int32) (v6 : Int32) (h : mm_M) (Z : mm_M → Prop) : Prop :=
  ∀ X108 : Nat → Int32 → Int32 → Int32 → Int32 → Int32 → Int32 → mm_M → Prop, (∀ (v0 : Nat) (v1 : Int32) (v2 : Int32) (v3 : Int32) (v4 : Int32) (v5 : Int32) (v6 : Int32) (h : mm_M), wq_Sha_mix_108 X108 ge v0 v1 v2 v3 v4 v5 v6 h Z → X108 v0 v1 v2 v3 v4 v5 v6 h) → X108 v0 v1 v2 v3 v4 v5 v6 h
def wq_Sha_mix_3 (X3 : Nat → Int32 → mm_M → Prop) (ge : Nat → Nat) (v0 : Nat) (v1 : Int32) (h : mm_M) (Z : mm_M → Prop) : Prop :=
  (((80 : Int32) ≤ (v1 : Int32) → mm_k h (v0) = kd_Sha ∧ ∃ a2, mm_P h v0 0 = some a2 ∧ mm_k h (a2) = ka_I ∧ vp_in (0) (mm_n h a2) ∧ vp_in (1) (mm_n h a2) ∧ vp_in (2) (mm_n h a2) ∧ vp_in (3) (mm_n h a2) ∧ vp_in (4) (mm_n h a2) ∧ lp_Sha_mix_108  ge (v0) (mm_I h a2 (Int32.toNatClampNeg (0))) (mm_I h a2 (Int32.toNatClampNeg (1))) (mm_I h a2 (Int32.toNatClampNeg (2))) (mm_I h a2 (Int32.toNatClampNeg (3))) (mm_I h a2 (Int32.toNatClampNeg (4))) (0) h Z) ∧ (¬ (80 : Int32) ≤ (v1 : Int32) → mm_k h (v0) = kd_Sha ∧ ∃ a11, mm_P h v0 1 = some a11 ∧ mm_k h (a11) = ka_I ∧ vp_in ((v1) - (3 : Int32)) (mm_n h a11) ∧ vp_in ((v1) - (8 : Int32)) (mm_n h a11) ∧ vp_in ((v1) - (14 : Int32)) (mm_n h a11) ∧ vp_in ((v1) - (16 : Int32)) (mm_n h a11) ∧ vp_in (v1) (mm_n h a11) ∧ ge 0 ≤ a11 ∧ ∀ h20 : mm_M, h20 = mm_uI h a11 (Int32.toNatClampNeg (v1)) ((((((mm_I h a11 (Int32.toNatClampNeg ((v1) - (3 : Int32)))) ^^^ (mm_I h a11 (Int32.toNatClampNeg ((v1) - (8 : Int32))))) ^^^ (mm_I h a11 (Int32.toNatClampNeg ((v1) - (14 : Int32))))) ^^^ (mm_I h a11 (Int32.toNatClampNeg ((v1) - (16 : Int32))))) <<< ((1 : Int32) &&& 31)) ||| ((((((mm_I h a11 (Int32.toNatClampNeg ((v1) - (3 : Int32)))) ^^^ (mm_I h a11 (Int32.toNatClampNeg ((v1) - (8 : Int32))))) ^^^ (mm_I h a11 (Int32.toNatClampNeg ((v1) - (14 : Int32))))) ^^^ (mm_I h a11 (Int32.toNatClampNeg ((v1) - (16 : Int32))))).toUInt32 >>> ((31 : Int32).toUInt32 &&& Int32.toUInt32 31)).toInt32)) → X3 (v0) (v1 + 1) h20))
def lp_Sha_mix_3  (ge : Nat → Nat) (v0 : Nat) (v1 : Int32) (h : mm_M) (Z : mm_M → Prop) : Prop :=
  ∀ X3 : Nat → Int32 → mm_M → Prop, (∀ (v0 : Nat) (v1 : Int32) (h : mm_M), wq_Sha_mix_3 X3 ge v0 v1 h Z → X3 v0 v1 h) → X3 v0 v1 h
def wq_Sha_mix_0  (ge : Nat → Nat) (v0 : Nat) (h : mm_M) (Z : mm_M → Prop) : Prop :=
  lp_Sha_mix_3  ge (v0) (16) h Z
set_option maxRecDepth 100000 in
set_option maxHeartbeats 4000000 in
theorem vb_Sha_mix_108 {E : mm_E} {Z : mm_M → Prop} (hc : cx E "EpochServer$Sha" c_Sha_mix 8 none rm_Sha_mix) (hq : cq E rm_Sha_mix (pV Z)) (X108 : Nat → Int32 → Int32 → Int32 → Int32 → Int32 → Int32 → mm_M → Prop) (hX108 : ∀ (v0 : Nat) (v1 : Int32) (v2 : Int32) (v3 : Int32) (v4 : Int32) (v5 : Int32) (v6 : Int32) (h : mm_M), X108 v0 v1 v2 v3 v4 v5 v6 h → V E 8 0 0 h 108 [(0, va_rf (some v0)), (1, .int (v1)), (2, .int (v2)), (3, .int (v3)), (4, .int (v4)), (5, .int (v5)), (6, .int (v6))] []) (v0 : Nat) (v1 : Int32) (v2 : Int32) (v3 : Int32) (v4 : Int32) (v5 : Int32) (v6 : Int32) (h : mm_M) (hw : wq_Sha_mix_108 X108 (mm_ge (eG E)) v0 v1 v2 v3 v4 v5 v6 h Z) : V E 8 0 0 h 108 [(0, va_rf (some v0)), (1, .int (v1)), (2, .int (v2)), (3, .int (v3)), (4, .int (v4)), (5, .int (v5)), (6, .int (v6))] [] := by
  unfold wq_Sha_mix_108 at hw
  refine V_iload hc 6 d_Sha_mix_108 rfl ?_
  refine V_bipush (v := 80) hc d_Sha_mix_110 (by decide) ?_
  refine V_icmp_ge (tgt := 173) hc d_Sha_mix_112 (by decide) (fun hq1 => ?_) (fun hq1 => ?_)
  · replace hw := hw.1 hq1
    refine V_aload_n hc 0 d_Sha_mix_173 rfl rfl ?_
    obtain ⟨q1, hw⟩ := hw
    refine V_get (v := va_rf (mm_P h v0 0)) hc gf_Sha_9 rfl q1 rfl d_Sha_mix_174 ?_
    refine V_iconst (v := 0) hc d_Sha_mix_177 (by decide) ?_
    refine V_dup2 hc d_Sha_mix_178 rfl (cat_rf _) ?_
    obtain ⟨a2, q3, hw⟩ := hw
    obtain ⟨q4, hw⟩ := hw
    obtain ⟨q5, hw⟩ := hw
    refine V_iald hc q3 q4 q5 d_Sha_mix_179 ?_
    refine V_iload_n hc 1 d_Sha_mix_180 rfl rfl ?_
    refine V_iadd hc d_Sha_mix_181 ?_
    obtain ⟨q6, hw⟩ := hw
    obtain ⟨q7, hw⟩ := hw
    obtain ⟨h8, eq_h8⟩ : ∃ x, x = mm_uI h a2 (Int32.toNatClampNeg (0)) ((mm_I h a2 (Int32.toNatClampNeg (0))) + (v1)) := ⟨_, rfl⟩
    replace hw := hw _ eq_h8
    refine V_iast hc q3 q4 q6 q7 d_Sha_mix_182 ?_
    rw [← eq_h8]
    refine V_aload_n hc 0 d_Sha_mix_183 rfl rfl ?_
    obtain ⟨q9, hw⟩ := hw
    refine V_get (v := va_rf (mm_P h8 v0 0)) hc gf_Sha_9 rfl q9 rfl d_Sha_mix_184 ?_
    refine V_iconst (v := 1) hc d_Sha_mix_187 (by decide) ?_
    refine V_dup2 hc d_Sha_mix_188 rfl (cat_rf _) ?_
    obtain ⟨a10, q11, hw⟩ := hw
    obtain ⟨q12, hw⟩ := hw
    obtain ⟨q13, hw⟩ := hw
    refine V_iald hc q11 q12 q13 d_Sha_mix_189 ?_
    refine V_iload_n hc 2 d_Sha_mix_190 rfl rfl ?_
    refine V_iadd hc d_Sha_mix_191 ?_
    obtain ⟨q14, hw⟩ := hw
    obtain ⟨q15, hw⟩ := hw
    obtain ⟨h16, eq_h16⟩ : ∃ x, x = mm_uI h8 a10 (Int32.toNatClampNeg (1)) ((mm_I h8 a10 (Int32.toNatClampNeg (1))) + (v2)) := ⟨_, rfl⟩
    replace hw := hw _ eq_h16
    refine V_iast hc q11 q12 q14 q15 d_Sha_mix_192 ?_
    rw [← eq_h16]
    refine V_aload_n hc 0 d_Sha_mix_193 rfl rfl ?_
    obtain ⟨q17, hw⟩ := hw
    refine V_get (v := va_rf (mm_P h16 v0 0)) hc gf_Sha_9 rfl q17 rfl d_Sha_mix_194 ?_
    refine V_iconst (v := 2) hc d_Sha_mix_197 (by decide) ?_
    refine V_dup2 hc d_Sha_mix_198 rfl (cat_rf _) ?_
    obtain ⟨a18, q19, hw⟩ := hw
    obtain ⟨q20, hw⟩ := hw
    obtain ⟨q21, hw⟩ := hw
    refine V_iald hc q19 q20 q21 d_Sha_mix_199 ?_
    refine V_iload_n hc 3 d_Sha_mix_200 rfl rfl ?_
    refine V_iadd hc d_Sha_mix_201 ?_
    obtain ⟨q22, hw⟩ := hw
    obtain ⟨q23, hw⟩ := hw
    obtain ⟨h24, eq_h24⟩ : ∃ x, x = mm_uI h16 a18 (Int32.toNatClampNeg (2)) ((mm_I h16 a18 (Int32.toNatClampNeg (2))) + (v3)) := ⟨_, rfl⟩
    replace hw := hw _ eq_h24
    refine V_iast hc q19 q20 q22 q23 d_Sha_mix_202 ?_
    rw [← eq_h24]
    refine V_aload_n hc 0 d_Sha_mix_203 rfl rfl ?_
    obtain ⟨q25, hw⟩ := hw
    refine V_get (v := va_rf (mm_P h24 v0 0)) hc gf_Sha_9 rfl q25 rfl d_Sha_mix_204 ?_
    refine V_iconst (v := 3) hc d_Sha_mix_207 (by decide) ?_
    refine V_dup2 hc d_Sha_mix_208 rfl (cat_rf _) ?_
    obtain ⟨a26, q27, hw⟩ := hw
    obtain ⟨q28, hw⟩ := hw
    obtain ⟨q29, hw⟩ := hw
    refine V_iald hc q27 q28 q29 d_Sha_mix_209 ?_
    refine V_iload hc 4 d_Sha_mix_210 rfl ?_
    refine V_iadd hc d_Sha_mix_212 ?_
    obtain ⟨q30, hw⟩ := hw
    obtain ⟨q31, hw⟩ := hw
    obtain ⟨h32, eq_h32⟩ : ∃ x, x = mm_uI h24 a26 (Int32.toNatClampNeg (3)) ((mm_I h24 a26 (Int32.toNatClampNeg (3))) + (v4)) := ⟨_, rfl⟩
    replace hw := hw _ eq_h32
    refine V_iast hc q27 q28 q30 q31 d_Sha_mix_213 ?_
    rw [← eq_h32]
    refine V_aload_n hc 0 d_Sha_mix_214 rfl rfl ?_
    obtain ⟨q33, hw⟩ := hw
    refine V_get (v := va_rf (mm_P h32 v0 0)) hc gf_Sha_9 rfl q33 rfl d_Sha_mix_215 ?_
    refine V_iconst (v := 4) hc d_Sha_mix_218 (by decide) ?_
    refine V_dup2 hc d_Sha_mix_219 rfl (cat_rf _) ?_
    obtain ⟨a34, q35, hw⟩ := hw
    obtain ⟨q36, hw⟩ := hw
    obtain ⟨q37, hw⟩ := hw
    refine V_iald hc q35 q36 q37 d_Sha_mix_220 ?_
    refine V_iload hc 5 d_Sha_mix_221 rfl ?_
    refine V_iadd hc d_Sha_mix_223 ?_
    obtain ⟨q38, hw⟩ := hw
    obtain ⟨q39, hw⟩ := hw
    obtain ⟨h40, eq_h40⟩ : ∃ x, x = mm_uI h32 a34 (Int32.toNatClampNeg (4)) ((mm_I h32 a34 (Int32.toNatClampNeg (4))) + (v5)) := ⟨_, rfl⟩
    replace hw := hw _ eq_h40
    refine V_iast hc q35 q36 q38 q39 d_Sha_mix_224 ?_
    rw [← eq_h40]
    exact V_vret hc hq ⟨rfl, hw⟩ (by decide) (by decide) d_Sha_mix_225
  · replace hw := hw.2 hq1
    refine V_iload_n hc 1 d_Sha_mix_115 rfl rfl ?_
    refine V_iconst (v := 5) hc d_Sha_mix_116 (by decide) ?_
    refine V_ishl hc d_Sha_mix_117 ?_
    refine V_iload_n hc 1 d_Sha_mix_118 rfl rfl ?_
    refine V_bipush (v := 27) hc d_Sha_mix_119 (by decide) ?_
    refine V_iushr hc d_Sha_mix_121 ?_
    refine V_ior hc d_Sha_mix_122 ?_
    refine V_iload hc 6 d_Sha_mix_123 rfl ?_
    refine V_iload_n hc 2 d_Sha_mix_125 rfl rfl ?_
    refine V_iload_n hc 3 d_Sha_mix_126 rfl rfl ?_
    refine V_iload hc 4 d_Sha_mix_127 rfl ?_
    refine V_callS (rm' := rm_Sha_blend) (As := [.int (v6), .int (v2), .int (v3), .int (v4)]) (rest := [.int (((v1) <<< ((5 : Int32) &&& 31)) ||| (((v1).toUInt32 >>> ((27 : Int32).toUInt32 &&& Int32.toUInt32 31)).toInt32))]) (n := 4) hc (sat_Sha_blend (eG E) _ _ _ _ _ _ hw) cv_Sha_30 (gw_of (tw_4 (List.mem_of_getElem? (i := 112) rfl)) rfl) rfl ⟨by decide, by decide⟩ (by decide) (by decide) rfl (by simp [cat_rf, cat_i, cat_l]) d_Sha_mix_129 (fun r0 h41 hw => ?_)
    obtain ⟨r42, rfl, hw⟩ := hw
    refine V_wide (cs' := 0) (sl' := 0) (by decide) (by decide) ?_
    refine V_st (st' := [.int (r42), .int (((v1) <<< ((5 : Int32) &&& 31)) ||| (((v1).toUInt32 >>> ((27 : Int32).toUInt32 &&& Int32.toUInt32 31)).toInt32))]) rfl ?_
    refine V_iadd hc d_Sha_mix_132 ?_
    refine V_iload hc 5 d_Sha_mix_133 rfl ?_
    refine V_iadd hc d_Sha_mix_135 ?_
    refine V_aload_n hc 0 d_Sha_mix_136 rfl rfl ?_
    obtain ⟨q43, hw⟩ := hw
    refine V_get (v := va_rf (mm_P h41 v0 1)) hc gf_Sha_15 rfl q43 rfl d_Sha_mix_137 ?_
    refine V_iload hc 6 d_Sha_mix_140 rfl ?_
    obtain ⟨a44, q45, hw⟩ := hw
    obtain ⟨q46, hw⟩ := hw
    obtain ⟨q47, hw⟩ := hw
    refine V_iald hc q45 q46 q47 d_Sha_mix_142 ?_
    refine V_iadd hc d_Sha_mix_143 ?_
    refine V_istore (i := 7) (lv' := [(7, .int ((((((v1) <<< ((5 : Int32) &&& 31)) ||| (((v1).toUInt32 >>> ((27 : Int32).toUInt32 &&& Int32.toUInt32 31)).toInt32)) + (r42)) + (v5)) + (mm_I h41 a44 (Int32.toNatClampNeg (v6))))), (0, va_rf (some v0)), (1, .int (v1)), (2, .int (v2)), (3, .int (v3)), (4, .int (v4)), (5, .int (v5)), (6, .int (v6))]) hc d_Sha_mix_144 (by decide) rfl ?_
    refine V_iload hc 5 d_Sha_mix_146 rfl ?_
    refine V_istore (i := 5) (lv' := [(5, .int (v4)), (7, .int ((((((v1) <<< ((5 : Int32) &&& 31)) ||| (((v1).toUInt32 >>> ((27 : Int32).toUInt32 &&& Int32.toUInt32 31)).toInt32)) + (r42)) + (v5)) + (mm_I h41 a44 (Int32.toNatClampNeg (v6))))), (0, va_rf (some v0)), (1, .int (v1)), (2, .int (v2)), (3, .int (v3)), (4, .int (v4)), (6, .int (v6))]) hc d_Sha_mix_148 (by decide) rfl ?_
    refine V_iload_n hc 5 d_Sha_mix_150 rfl rfl ?_
    refine V_istore (i := 4) (lv' := [(4, .int (v3)), (5, .int (v4)), (7, .int ((((((v1) <<< ((5 : Int32) &&& 31)) ||| (((v1).toUInt32 >>> ((27 : Int32).toUInt32 &&& Int32.toUInt32 31)).toInt32)) + (r42)) + (v5)) + (mm_I h41 a44 (Int32.toNatClampNeg (v6))))), (0, va_rf (some v0)), (1, .int (v1)), (2, .int (v2)), (3, .int (v3)), (6, .int (v6))]) hc d_Sha_mix_151 (by decide) rfl ?_
    refine V_iload_n hc 5 d_Sha_mix_153 rfl rfl ?_
    refine V_bipush (v := 30) hc d_Sha_mix_154 (by decide) ?_
    refine V_ishl hc d_Sha_mix_156 ?_
    refine V_iload_n hc 5 d_Sha_mix_157 rfl rfl ?_
    refine V_iconst (v := 2) hc d_Sha_mix_158 (by decide) ?_
    refine V_iushr hc d_Sha_mix_159 ?_
    refine V_ior hc d_Sha_mix_160 ?_
    refine V_istore_n (i := 3) (lv' := [(3, .int (((v2) <<< ((30 : Int32) &&& 31)) ||| (((v2).toUInt32 >>> ((2 : Int32).toUInt32 &&& Int32.toUInt32 31)).toInt32))), (4, .int (v3)), (5, .int (v4)), (7, .int ((((((v1) <<< ((5 : Int32) &&& 31)) ||| (((v1).toUInt32 >>> ((27 : Int32).toUInt32 &&& Int32.toUInt32 31)).toInt32)) + (r42)) + (v5)) + (mm_I h41 a44 (Int32.toNatClampNeg (v6))))), (0, va_rf (some v0)), (1, .int (v1)), (2, .int (v2)), (6, .int (v6))]) hc d_Sha_mix_161 rfl (by decide) rfl ?_
    refine V_iload_n hc 5 d_Sha_mix_162 rfl rfl ?_
    refine V_istore_n (i := 2) (lv' := [(2, .int (v1)), (3, .int (((v2) <<< ((30 : Int32) &&& 31)) ||| (((v2).toUInt32 >>> ((2 : Int32).toUInt32 &&& Int32.toUInt32 31)).toInt32))), (4, .int (v3)), (5, .int (v4)), (7, .int ((((((v1) <<< ((5 : Int32) &&& 31)) ||| (((v1).toUInt32 >>> ((27 : Int32).toUInt32 &&& Int32.toUInt32 31)).toInt32)) + (r42)) + (v5)) + (mm_I h41 a44 (Int32.toNatClampNeg (v6))))), (0, va_rf (some v0)), (1, .int (v1)), (6, .int (v6))]) hc d_Sha_mix_163 rfl (by decide) rfl ?_
    refine V_iload hc 4 d_Sha_mix_164 rfl ?_
    refine V_istore_n (i := 1) (lv' := [(1, .int ((((((v1) <<< ((5 : Int32) &&& 31)) ||| (((v1).toUInt32 >>> ((27 : Int32).toUInt32 &&& Int32.toUInt32 31)).toInt32)) + (r42)) + (v5)) + (mm_I h41 a44 (Int32.toNatClampNeg (v6))))), (2, .int (v1)), (3, .int (((v2) <<< ((30 : Int32) &&& 31)) ||| (((v2).toUInt32 >>> ((2 : Int32).toUInt32 &&& Int32.toUInt32 31)).toInt32))), (4, .int (v3)), (5, .int (v4)), (7, .int ((((((v1) <<< ((5 : Int32) &&& 31)) ||| (((v1).toUInt32 >>> ((27 : Int32).toUInt32 &&& Int32.toUInt32 31)).toInt32)) + (r42)) + (v5)) + (mm_I h41 a44 (Int32.toNatClampNeg (v6))))), (0, va_rf (some v0)), (6, .int (v6))]) hc d_Sha_mix_166 rfl (by decide) rfl ?_
    refine V_iinc (v := v6 + 1) (lv' := [(6, .int (v6 + 1)), (1, .int ((((((v1) <<< ((5 : Int32) &&& 31)) ||| (((v1).toUInt32 >>> ((27 : Int32).toUInt32 &&& Int32.toUInt32 31)).toInt32)) + (r42)) + (v5)) + (mm_I h41 a44 (Int32.toNatClampNeg (v6))))), (2, .int (v1)), (3, .int (((v2) <<< ((30 : Int32) &&& 31)) ||| (((v2).toUInt32 >>> ((2 : Int32).toUInt32 &&& Int32.toUInt32 31)).toInt32))), (4, .int (v3)), (5, .int (v4)), (7, .int ((((((v1) <<< ((5 : Int32) &&& 31)) ||| (((v1).toUInt32 >>> ((27 : Int32).toUInt32 &&& Int32.toUInt32 31)).toInt32)) + (r42)) + (v5)) + (mm_I h41 a44 (Int32.toNatClampNeg (v6))))), (0, va_rf (some v0))]) hc 7 d_Sha_mix_167 rfl rfl (by decide) rfl ?_
    refine V_goto (tgt := 108) hc d_Sha_mix_170 (by decide) ?_
    refine V_sub (lv' := [(0, va_rf (some v0)), (1, .int ((((((v1) <<< ((5 : Int32) &&& 31)) ||| (((v1).toUInt32 >>> ((27 : Int32).toUInt32 &&& Int32.toUInt32 31)).toInt32)) + (r42)) + (v5)) + (mm_I h41 a44 (Int32.toNatClampNeg (v6))))), (2, .int (v1)), (3, .int (((v2) <<< ((30 : Int32) &&& 31)) ||| (((v2).toUInt32 >>> ((2 : Int32).toUInt32 &&& Int32.toUInt32 31)).toInt32))), (4, .int (v3)), (5, .int (v4)), (6, .int (v6 + 1))]) [7, 1, 2, 3, 4, 5, 0] rfl ?_
    exact hX108 _ _ _ _ _ _ _ _ hw
theorem vl_Sha_mix_108 {E : mm_E} {Z : mm_M → Prop} (hc : cx E "EpochServer$Sha" c_Sha_mix 8 none rm_Sha_mix) (hq : cq E rm_Sha_mix (pV Z))  (v0 : Nat) (v1 : Int32) (v2 : Int32) (v3 : Int32) (v4 : Int32) (v5 : Int32) (v6 : Int32) (h : mm_M) (hw : lp_Sha_mix_108  (mm_ge (eG E)) v0 v1 v2 v3 v4 v5 v6 h Z) : V E 8 0 0 h 108 [(0, va_rf (some v0)), (1, .int (v1)), (2, .int (v2)), (3, .int (v3)), (4, .int (v4)), (5, .int (v5)), (6, .int (v6))] [] :=
  hw (fun v0 v1 v2 v3 v4 v5 v6 h => V E 8 0 0 h 108 [(0, va_rf (some v0)), (1, .int (v1)), (2, .int (v2)), (3, .int (v3)), (4, .int (v4)), (5, .int (v5)), (6, .int (v6))] []) (fun v0 v1 v2 v3 v4 v5 v6 h hb => vb_Sha_mix_108 hc hq  _ (fun _ _ _ _ _ _ _ _ q => q) v0 v1 v2 v3 v4 v5 v6 h hb)
set_option maxRecDepth 100000 in
set_option maxHeartbeats 4000000 in
theorem vb_Sha_mix_3 {E : mm_E} {Z : mm_M → Prop} (hc : cx E "EpochServer$Sha" c_Sha_mix 8 none rm_Sha_mix) (hq : cq E rm_Sha_mix (pV Z)) (X3 : Nat → Int32 → mm_M → Prop) (hX3 : ∀ (v0 : Nat) (v1 : Int32) (h : mm_M), X3 v0 v1 h → V E 8 0 0 h 3 [(0, va_rf (some v0)), (1, .int (v1))] []) (v0 : Nat) (v1 : Int32) (h : mm_M) (hw : wq_Sha_mix_3 X3 (mm_ge (eG E)) v0 v1 h Z) : V E 8 0 0 h 3 [(0, va_rf (some v0)), (1, .int (v1))] [] := by
  unfold wq_Sha_mix_3 at hw
  refine V_iload_n hc 1 d_Sha_mix_3 rfl rfl ?_
  refine V_bipush (v := 80) hc d_Sha_mix_4 (by decide) ?_
  refine V_icmp_ge (tgt := 68) hc d_Sha_mix_6 (by decide) (fun hq1 => ?_) (fun hq1 => ?_)
  · replace hw := hw.1 hq1
    refine V_aload_n hc 0 d_Sha_mix_68 rfl rfl ?_
    obtain ⟨q1, hw⟩ := hw
    refine V_get (v := va_rf (mm_P h v0 0)) hc gf_Sha_9 rfl q1 rfl d_Sha_mix_69 ?_
    refine V_iconst (v := 0) hc d_Sha_mix_72 (by decide) ?_
    obtain ⟨a2, q3, hw⟩ := hw
    obtain ⟨q4, hw⟩ := hw
    obtain ⟨q5, hw⟩ := hw
    refine V_iald hc q3 q4 q5 d_Sha_mix_73 ?_
    refine V_istore_n (i := 1) (lv' := [(1, .int (mm_I h a2 (Int32.toNatClampNeg (0)))), (0, va_rf (some v0))]) hc d_Sha_mix_74 rfl (by decide) rfl ?_
    refine V_aload_n hc 1 d_Sha_mix_75 rfl rfl ?_
    refine V_get (v := va_rf (mm_P h v0 0)) hc gf_Sha_9 rfl q1 rfl d_Sha_mix_76 ?_
    refine V_iconst (v := 1) hc d_Sha_mix_79 (by decide) ?_
    obtain ⟨q6, hw⟩ := hw
    refine V_iald hc q3 q4 q6 d_Sha_mix_80 ?_
    refine V_istore_n (i := 2) (lv' := [(2, .int (mm_I h a2 (Int32.toNatClampNeg (1)))), (1, .int (mm_I h a2 (Int32.toNatClampNeg (0)))), (0, va_rf (some v0))]) hc d_Sha_mix_81 rfl (by decide) rfl ?_
    refine V_aload_n hc 2 d_Sha_mix_82 rfl rfl ?_
    refine V_get (v := va_rf (mm_P h v0 0)) hc gf_Sha_9 rfl q1 rfl d_Sha_mix_83 ?_
    refine V_iconst (v := 2) hc d_Sha_mix_86 (by decide) ?_
    obtain ⟨q7, hw⟩ := hw
    refine V_iald hc q3 q4 q7 d_Sha_mix_87 ?_
    refine V_istore_n (i := 3) (lv' := [(3, .int (mm_I h a2 (Int32.toNatClampNeg (2)))), (2, .int (mm_I h a2 (Int32.toNatClampNeg (1)))), (1, .int (mm_I h a2 (Int32.toNatClampNeg (0)))), (0, va_rf (some v0))]) hc d_Sha_mix_88 rfl (by decide) rfl ?_
    refine V_aload_n hc 3 d_Sha_mix_89 rfl rfl ?_
    refine V_get (v := va_rf (mm_P h v0 0)) hc gf_Sha_9 rfl q1 rfl d_Sha_mix_90 ?_
    refine V_iconst (v := 3) hc d_Sha_mix_93 (by decide) ?_
    obtain ⟨q8, hw⟩ := hw
    refine V_iald hc q3 q4 q8 d_Sha_mix_94 ?_
    refine V_istore (i := 4) (lv' := [(4, .int (mm_I h a2 (Int32.toNatClampNeg (3)))), (3, .int (mm_I h a2 (Int32.toNatClampNeg (2)))), (2, .int (mm_I h a2 (Int32.toNatClampNeg (1)))), (1, .int (mm_I h a2 (Int32.toNatClampNeg (0)))), (0, va_rf (some v0))]) hc d_Sha_mix_95 (by decide) rfl ?_
    refine V_aload_n hc 4 d_Sha_mix_97 rfl rfl ?_
    refine V_get (v := va_rf (mm_P h v0 0)) hc gf_Sha_9 rfl q1 rfl d_Sha_mix_98 ?_
    refine V_iconst (v := 4) hc d_Sha_mix_101 (by decide) ?_
    obtain ⟨q9, hw⟩ := hw
    refine V_iald hc q3 q4 q9 d_Sha_mix_102 ?_
    refine V_istore (i := 5) (lv' := [(5, .int (mm_I h a2 (Int32.toNatClampNeg (4)))), (4, .int (mm_I h a2 (Int32.toNatClampNeg (3)))), (3, .int (mm_I h a2 (Int32.toNatClampNeg (2)))), (2, .int (mm_I h a2 (Int32.toNatClampNeg (1)))), (1, .int (mm_I h a2 (Int32.toNatClampNeg (0)))), (0, va_rf (some v0))]) hc d_Sha_mix_103 (by decide) rfl ?_
    refine V_iconst (v := 0) hc d_Sha_mix_105 (by decide) ?_
    refine V_istore (i := 6) (lv' := [(6, .int (0)), (5, .int (mm_I h a2 (Int32.toNatClampNeg (4)))), (4, .int (mm_I h a2 (Int32.toNatClampNeg (3)))), (3, .int (mm_I h a2 (Int32.toNatClampNeg (2)))), (2, .int (mm_I h a2 (Int32.toNatClampNeg (1)))), (1, .int (mm_I h a2 (Int32.toNatClampNeg (0)))), (0, va_rf (some v0))]) hc d_Sha_mix_106 (by decide) rfl ?_
    refine V_sub (lv' := [(0, va_rf (some v0)), (1, .int (mm_I h a2 (Int32.toNatClampNeg (0)))), (2, .int (mm_I h a2 (Int32.toNatClampNeg (1)))), (3, .int (mm_I h a2 (Int32.toNatClampNeg (2)))), (4, .int (mm_I h a2 (Int32.toNatClampNeg (3)))), (5, .int (mm_I h a2 (Int32.toNatClampNeg (4)))), (6, .int (0))]) [6, 5, 4, 3, 2, 1, 0] rfl ?_
    exact vl_Sha_mix_108 hc hq  _ _ _ _ _ _ _ _ hw
  · replace hw := hw.2 hq1
    refine V_aload_n hc 0 d_Sha_mix_9 rfl rfl ?_
    obtain ⟨q10, hw⟩ := hw
    refine V_get (v := va_rf (mm_P h v0 1)) hc gf_Sha_15 rfl q10 rfl d_Sha_mix_10 ?_
    refine V_iload_n hc 1 d_Sha_mix_13 rfl rfl ?_
    refine V_iconst (v := 3) hc d_Sha_mix_14 (by decide) ?_
    refine V_isub hc d_Sha_mix_15 ?_
    obtain ⟨a11, q12, hw⟩ := hw
    obtain ⟨q13, hw⟩ := hw
    obtain ⟨q14, hw⟩ := hw
    refine V_iald hc q12 q13 q14 d_Sha_mix_16 ?_
    refine V_aload_n hc 0 d_Sha_mix_17 rfl rfl ?_
    refine V_get (v := va_rf (mm_P h v0 1)) hc gf_Sha_15 rfl q10 rfl d_Sha_mix_18 ?_
    refine V_iload_n hc 1 d_Sha_mix_21 rfl rfl ?_
    refine V_bipush (v := 8) hc d_Sha_mix_22 (by decide) ?_
    refine V_isub hc d_Sha_mix_24 ?_
    obtain ⟨q15, hw⟩ := hw
    refine V_iald hc q12 q13 q15 d_Sha_mix_25 ?_
    refine V_ixor hc d_Sha_mix_26 ?_
    refine V_aload_n hc 0 d_Sha_mix_27 rfl rfl ?_
    refine V_get (v := va_rf (mm_P h v0 1)) hc gf_Sha_15 rfl q10 rfl d_Sha_mix_28 ?_
    refine V_iload_n hc 1 d_Sha_mix_31 rfl rfl ?_
    refine V_bipush (v := 14) hc d_Sha_mix_32 (by decide) ?_
    refine V_isub hc d_Sha_mix_34 ?_
    obtain ⟨q16, hw⟩ := hw
    refine V_iald hc q12 q13 q16 d_Sha_mix_35 ?_
    refine V_ixor hc d_Sha_mix_36 ?_
    refine V_aload_n hc 0 d_Sha_mix_37 rfl rfl ?_
    refine V_get (v := va_rf (mm_P h v0 1)) hc gf_Sha_15 rfl q10 rfl d_Sha_mix_38 ?_
    refine V_iload_n hc 1 d_Sha_mix_41 rfl rfl ?_
    refine V_bipush (v := 16) hc d_Sha_mix_42 (by decide) ?_
    refine V_isub hc d_Sha_mix_44 ?_
    obtain ⟨q17, hw⟩ := hw
    refine V_iald hc q12 q13 q17 d_Sha_mix_45 ?_
    refine V_ixor hc d_Sha_mix_46 ?_
    refine V_istore_n (i := 2) (lv' := [(2, .int ((((mm_I h a11 (Int32.toNatClampNeg ((v1) - (3 : Int32)))) ^^^ (mm_I h a11 (Int32.toNatClampNeg ((v1) - (8 : Int32))))) ^^^ (mm_I h a11 (Int32.toNatClampNeg ((v1) - (14 : Int32))))) ^^^ (mm_I h a11 (Int32.toNatClampNeg ((v1) - (16 : Int32)))))), (0, va_rf (some v0)), (1, .int (v1))]) hc d_Sha_mix_47 rfl (by decide) rfl ?_
    refine V_aload_n hc 1 d_Sha_mix_48 rfl rfl ?_
    refine V_get (v := va_rf (mm_P h v0 1)) hc gf_Sha_15 rfl q10 rfl d_Sha_mix_49 ?_
    refine V_iload_n hc 2 d_Sha_mix_52 rfl rfl ?_
    refine V_iload_n hc 0 d_Sha_mix_53 rfl rfl ?_
    refine V_iconst (v := 1) hc d_Sha_mix_54 (by decide) ?_
    refine V_ishl hc d_Sha_mix_55 ?_
    refine V_iload_n hc 0 d_Sha_mix_56 rfl rfl ?_
    refine V_bipush (v := 31) hc d_Sha_mix_57 (by decide) ?_
    refine V_iushr hc d_Sha_mix_59 ?_
    refine V_ior hc d_Sha_mix_60 ?_
    obtain ⟨q18, hw⟩ := hw
    obtain ⟨q19, hw⟩ := hw
    obtain ⟨h20, eq_h20⟩ : ∃ x, x = mm_uI h a11 (Int32.toNatClampNeg (v1)) ((((((mm_I h a11 (Int32.toNatClampNeg ((v1) - (3 : Int32)))) ^^^ (mm_I h a11 (Int32.toNatClampNeg ((v1) - (8 : Int32))))) ^^^ (mm_I h a11 (Int32.toNatClampNeg ((v1) - (14 : Int32))))) ^^^ (mm_I h a11 (Int32.toNatClampNeg ((v1) - (16 : Int32))))) <<< ((1 : Int32) &&& 31)) ||| ((((((mm_I h a11 (Int32.toNatClampNeg ((v1) - (3 : Int32)))) ^^^ (mm_I h a11 (Int32.toNatClampNeg ((v1) - (8 : Int32))))) ^^^ (mm_I h a11 (Int32.toNatClampNeg ((v1) - (14 : Int32))))) ^^^ (mm_I h a11 (Int32.toNatClampNeg ((v1) - (16 : Int32))))).toUInt32 >>> ((31 : Int32).toUInt32 &&& Int32.toUInt32 31)).toInt32)) := ⟨_, rfl⟩
    replace hw := hw _ eq_h20
    refine V_iast hc q12 q13 q18 q19 d_Sha_mix_61 ?_
    rw [← eq_h20]
    refine V_iinc (v := v1 + 1) (lv' := [(1, .int (v1 + 1)), (2, .int ((((mm_I h a11 (Int32.toNatClampNeg ((v1) - (3 : Int32)))) ^^^ (mm_I h a11 (Int32.toNatClampNeg ((v1) - (8 : Int32))))) ^^^ (mm_I h a11 (Int32.toNatClampNeg ((v1) - (14 : Int32))))) ^^^ (mm_I h a11 (Int32.toNatClampNeg ((v1) - (16 : Int32)))))), (0, va_rf (some v0))]) hc 2 d_Sha_mix_62 rfl rfl (by decide) rfl ?_
    refine V_goto (tgt := 3) hc d_Sha_mix_65 (by decide) ?_
    refine V_sub (lv' := [(0, va_rf (some v0)), (1, .int (v1 + 1))]) [2, 0] rfl ?_
    exact hX3 _ _ _ hw
theorem vl_Sha_mix_3 {E : mm_E} {Z : mm_M → Prop} (hc : cx E "EpochServer$Sha" c_Sha_mix 8 none rm_Sha_mix) (hq : cq E rm_Sha_mix (pV Z))  (v0 : Nat) (v1 : Int32) (h : mm_M) (hw : lp_Sha_mix_3  (mm_ge (eG E)) v0 v1 h Z) : V E 8 0 0 h 3 [(0, va_rf (some v0)), (1, .int (v1))] [] :=
  hw (fun v0 v1 h => V E 8 0 0 h 3 [(0, va_rf (some v0)), (1, .int (v1))] []) (fun v0 v1 h hb => vb_Sha_mix_3 hc hq  _ (fun _ _ _ q => q) v0 v1 h hb)
set_option maxRecDepth 100000 in
set_option maxHeartbeats 4000000 in
theorem vb_Sha_mix_0 {E : mm_E} {Z : mm_M → Prop} (hc : cx E "EpochServer$Sha" c_Sha_mix 8 none rm_Sha_mix) (hq : cq E rm_Sha_mix (pV Z))  (v0 : Nat) (h : mm_M) (hw : wq_Sha_mix_0  (mm_ge (eG E)) v0 h Z) : V E 8 0 0 h 0 [(0, va_rf (some v0))] [] := by
  unfold wq_Sha_mix_0 at hw
  refine V_bipush (v := 16) hc d_Sha_mix_0 (by decide) ?_
  refine V_istore_n (i := 1) (lv' := [(1, .int (16)), (0, va_rf (some v0))]) hc d_Sha_mix_2 rfl (by decide) rfl ?_
  refine V_sub (lv' := [(0, va_rf (some v0)), (1, .int (16))]) [1, 0] rfl ?_
  exact vl_Sha_mix_3 hc hq  _ _ _ hw
def wq_Sha_mix (ge : Nat → Nat) (v0 : Nat) (h : mm_M) (Z : mm_M → Prop) : Prop := wq_Sha_mix_0 ge v0 h Z
theorem sat_Sha_mix (G : mm_G) (v0 : Nat) (h : mm_M) (Z : mm_M → Prop) (hw : wq_Sha_mix (mm_ge G) v0 h Z) : mm_Met G y_Sha_mix c_Sha_mix 8 none rm_Sha_mix [va_rf (some v0)] h (pV Z) := by
  refine mm_intro (own := "EpochServer$Sha") (by decide) rfl (by simp [lg_sl, cat_rf, cat_i, cat_l]) (fun E e1 hc hq hi => ?_)
  subst e1
  have e2 : lv_args 0 [va_rf (some v0)] = [(0, va_rf (some v0))] := by simp [lv_args, cat_rf, cat_i, cat_l]
  rw [e2]
  refine V_sub (lv' := [(0, va_rf (some v0))]) [0] rfl ?_
  exact vb_Sha_mix_0 hc hq v0 h hw
