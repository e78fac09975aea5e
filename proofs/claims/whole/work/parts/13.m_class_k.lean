/-! Server.readData(LEpochServer$Fid;LEpochServer$Node;)I -/
abbrev rm_Server_readData : Room := { frames := 2, cells := 0, slots := 0, locals := 49 }
def wq_Server_readData_41  (ge : Nat → Nat) (v0 : Nat) (v2 : Option Nat) (v3 : Int32) (s0 : Int32) (h : mm_M) (Z : Int32 → mm_M → Prop) : Prop :=
  mm_k h (v0) = kd_Server ∧ wq_Server_roomToRead ge (v0) h (fun (r3 : Int32) (h2 : mm_M) => mm_k h2 (v0) = kd_Server ∧ ∃ a5, mm_P h2 v0 1 = some a5 ∧ mm_k h2 (a5) = kd_Bytes ∧ wq_Bytes_put ge (a5) (Int32.toInt64 (if ((v3) - (s0) : Int32) < (r3) then ((v3) - (s0)) else (r3))) (4) h2 (fun h8 : mm_M => mm_k h8 (v0) = kd_Server ∧ ∃ a11, v2 = some a11 ∧ mm_k h8 (a11) = kd_Node ∧ ∃ a14, mm_P h8 v0 1 = some a14 ∧ mm_k h8 (a14) = kd_Bytes ∧ wq_Bytes_putAll ge (a14) (mm_P h8 a11 6) (s0) (if ((v3) - (s0) : Int32) < (r3) then ((v3) - (s0)) else (r3)) h8 (fun h17 : mm_M => Z (0) h17)))
def wq_Server_readData_0  (ge : Nat → Nat) (v0 : Nat) (v1 : Option Nat) (v2 : Option Nat) (h : mm_M) (Z : Int32 → mm_M → Prop) : Prop :=
  ∃ a1, v1 = some a1 ∧ mm_k h (a1) = kd_Fid ∧ wq_Fid_isOpenForReading ge (a1) h (fun (r5 : Int32) (h4 : mm_M) => ((¬ (r5) = 0 → ∃ a6, v2 = some a6 ∧ mm_k h4 (a6) = kd_Node ∧ ∃ a9, mm_P h4 a6 6 = some a9 ∧ mm_k h4 (a9) = ka_B ∧ mm_k h4 (v0) = kd_Server ∧ ∃ a13, mm_P h4 v0 2 = some a13 ∧ mm_k h4 (a13) = kd_Request ∧ wq_Server_isAbove ge (mm_L h4 a13 13) (Nat.toInt32 (mm_n h4 a9)) h4 (fun (r17 : Int32) (h16 : mm_M) => (((r17) = 0 → mm_k h16 (v0) = kd_Server ∧ ∃ a19, mm_P h16 v0 2 = some a19 ∧ mm_k h16 (a19) = kd_Request ∧ wq_Server_readData_41  ge (v0) (v2) (Nat.toInt32 (mm_n h4 a9)) (Int64.toInt32 (mm_L h16 a19 13)) h16 Z) ∧ (¬ (r17) = 0 → wq_Server_readData_41  ge (v0) (v2) (Nat.toInt32 (mm_n h4 a9)) (Nat.toInt32 (mm_n h4 a9)) h16 Z)))) ∧ ((r5) = 0 → Z (3) h4)))
set_option maxRecDepth 100000 in
set_option maxHeartbeats 4000000 in
theorem vb_Server_readData_41 {E : mm_E} {Z : Int32 → mm_M → Prop} (hc : cx E "EpochServer" c_Server_readData 6 (some (.int)) rm_Server_readData) (hq : cq E rm_Server_readData (pI Z))  (v0 : Nat) (v2 : Option Nat) (v3 : Int32) (s0 : Int32) (h : mm_M) (hw : wq_Server_readData_41  (mm_ge (eG E)) v0 v2 v3 s0 h Z) : V E 6 0 0 h 41 [(0, va_rf (some v0)), (2, va_rf (v2)), (3, .int (v3))] [.int (s0)] := by
  unfold wq_Server_readData_41 at hw
  refine V_istore (i := 4) (lv' := [(4, .int (s0)), (0, va_rf (some v0)), (2, va_rf (v2)), (3, .int (v3))]) hc d_Server_readData_41 (by decide) rfl ?_
  refine V_aload_n hc 1 d_Server_readData_43 rfl rfl ?_
  obtain ⟨q1, hw⟩ := hw
  refine V_callV (rm' := rm_Server_roomToRead) (As := []) (rest := []) (n := 0) (cn := 1) hc rfl q1 (sat_Server_roomToRead (eG E) _ _ _ hw) rfl cv_Server_397 (gw_of (tw_3 (List.mem_of_getElem? (i := 194) rfl)) rfl) ss_Server_roomToRead rfl ⟨by decide, by decide⟩ (by decide) (by decide) rfl (by simp [cat_rf, cat_i, cat_l]) d_Server_readData_44 (fun r0 h2 hw => ?_)
  obtain ⟨r3, rfl, hw⟩ := hw
  refine V_wide (cs' := 0) (sl' := 0) (by decide) (by decide) ?_
  refine V_st (st' := [.int (r3)]) rfl ?_
  refine V_iload_n hc 3 d_Server_readData_47 rfl rfl ?_
  refine V_iload hc 0 d_Server_readData_48 rfl ?_
  refine V_isub hc d_Server_readData_50 ?_
  refine V_mmin hc cv_Server_400 (by simp [cat_rf, cat_i, cat_l]) (by decide) (by decide) (by decide) (by decide) d_Server_readData_51 ?_
  refine V_istore (i := 5) (lv' := [(5, .int (if ((v3) - (s0) : Int32) < (r3) then ((v3) - (s0)) else (r3))), (4, .int (s0)), (0, va_rf (some v0)), (2, va_rf (v2)), (3, .int (v3))]) hc d_Server_readData_54 (by decide) rfl ?_
  refine V_aload_n hc 2 d_Server_readData_56 rfl rfl ?_
  obtain ⟨q4, hw⟩ := hw
  refine V_get (v := va_rf (mm_P h2 v0 1)) hc gf_Server_18 rfl q4 rfl d_Server_readData_57 ?_
  refine V_iload hc 0 d_Server_readData_60 rfl ?_
  refine V_i2l hc d_Server_readData_62 ?_
  refine V_iconst (v := 4) hc d_Server_readData_63 (by decide) ?_
  obtain ⟨a5, q6, hw⟩ := hw
  obtain ⟨q7, hw⟩ := hw
  refine V_callV (rm' := rm_Bytes_put) (As := [.long (Int32.toInt64 (if ((v3) - (s0) : Int32) < (r3) then ((v3) - (s0)) else (r3))), .int (4)]) (rest := []) (n := 2) (cn := 3) hc q6 q7 (sat_Bytes_put (eG E) _ _ _ _ _ hw) rfl cv_Server_129 (gw_of (tw_2 (List.mem_of_getElem? (i := 158) rfl)) rfl) ss_Bytes_put rfl ⟨by decide, by decide⟩ (by decide) (by decide) rfl (by simp [cat_rf, cat_i, cat_l]) d_Server_readData_64 (fun r0 h8 hw => ?_)
  obtain ⟨rfl, hw⟩ := hw
  refine V_wide (cs' := 0) (sl' := 0) (by decide) (by decide) ?_
  refine V_st (st' := []) rfl ?_
  refine V_aload_n hc 2 d_Server_readData_67 rfl rfl ?_
  obtain ⟨q10, hw⟩ := hw
  refine V_get (v := va_rf (mm_P h8 v0 1)) hc gf_Server_18 rfl q10 rfl d_Server_readData_68 ?_
  refine V_aload_n hc 3 d_Server_readData_71 rfl rfl ?_
  obtain ⟨a11, q12, hw⟩ := hw
  obtain ⟨q13, hw⟩ := hw
  refine V_get (v := va_rf (mm_P h8 a11 6)) hc gf_Server_207 q12 q13 rfl d_Server_readData_72 ?_
  refine V_iload hc 1 d_Server_readData_75 rfl ?_
  refine V_iload hc 0 d_Server_readData_77 rfl ?_
  obtain ⟨a14, q15, hw⟩ := hw
  obtain ⟨q16, hw⟩ := hw
  refine V_callV (rm' := rm_Bytes_putAll) (As := [va_rf (mm_P h8 a11 6), .int (s0), .int (if ((v3) - (s0) : Int32) < (r3) then ((v3) - (s0)) else (r3))]) (rest := []) (n := 3) (cn := 3) hc q15 q16 (sat_Bytes_putAll (eG E) _ _ _ _ _ _ hw) rfl cv_Server_402 (gw_of (tw_3 (List.mem_of_getElem? (i := 18) rfl)) rfl) ss_Bytes_putAll rfl ⟨by decide, by decide⟩ (by decide) (by decide) rfl (by simp [cat_rf, cat_i, cat_l]) d_Server_readData_79 (fun r0 h17 hw => ?_)
  obtain ⟨rfl, hw⟩ := hw
  refine V_wide (cs' := 0) (sl' := 0) (by decide) (by decide) ?_
  refine V_st (st' := []) rfl ?_
  refine V_iconst (v := 0) hc d_Server_readData_82 (by decide) ?_
  exact V_iret hc hq ⟨_, rfl, hw⟩ (by decide) (by decide) d_Server_readData_83
set_option maxRecDepth 100000 in
set_option maxHeartbeats 4000000 in
theorem vb_Server_readData_0 {E : mm_E} {Z : Int32 → mm_M → Prop} (hc : cx E "EpochServer" c_Server_readData 6 (some (.int)) rm_Server_readData) (hq : cq E rm_Server_readData (pI Z))  (v0 : Nat) (v1 : Option Nat) (v2 : Option Nat) (h : mm_M) (hw : wq_Server_readData_0  (mm_ge (eG E)) v0 v1 v2 h Z) : V E 6 0 0 h 0 [(0, va_rf (some v0)), (1, va_rf (v1)), (2, va_rf (v2))] [] := by
  unfold wq_Server_readData_0 at hw
  refine V_aload_n hc 1 d_Server_readData_0 rfl rfl ?_
  obtain ⟨a1, q2, hw⟩ := hw
  obtain ⟨q3, hw⟩ := hw
  refine V_callV (rm' := rm_Fid_isOpenForReading) (As := []) (rest := []) (n := 0) (cn := 4) hc q2 q3 (sat_Fid_isOpenForReading (eG E) _ _ _ hw) rfl cv_Server_386 (gw_of (tw_3 (List.mem_of_getElem? (i := 188) rfl)) rfl) ss_Fid_isOpenForReading rfl ⟨by decide, by decide⟩ (by decide) (by decide) rfl (by simp [cat_rf, cat_i, cat_l]) d_Server_readData_1 (fun r0 h4 hw => ?_)
  obtain ⟨r5, rfl, hw⟩ := hw
  refine V_wide (cs' := 0) (sl' := 0) (by decide) (by decide) ?_
  refine V_st (st' := [.int (r5)]) rfl ?_
  refine V_if_ne (tgt := 9) hc d_Server_readData_4 (by decide) (fun hq1 => ?_) (fun hq1 => ?_)
  · replace hw := hw.1 hq1
    refine V_aload_n hc 2 d_Server_readData_9 rfl rfl ?_
    obtain ⟨a6, q7, hw⟩ := hw
    obtain ⟨q8, hw⟩ := hw
    refine V_get (v := va_rf (mm_P h4 a6 6)) hc gf_Server_207 q7 q8 rfl d_Server_readData_10 ?_
    obtain ⟨a9, q10, hw⟩ := hw
    obtain ⟨q11, hw⟩ := hw
    refine V_alen (t := 1) (ty := .byte) hc rfl q10 q11 d_Server_readData_13 ?_
    refine V_istore_n (i := 3) (lv' := [(3, .int (Nat.toInt32 (mm_n h4 a9))), (0, va_rf (some v0)), (1, va_rf (v1)), (2, va_rf (v2))]) hc d_Server_readData_14 rfl (by decide) (by simp [cat_rf, cat_i, cat_l]) ?_
    refine V_aload_n hc 1 d_Server_readData_15 rfl rfl ?_
    obtain ⟨q12, hw⟩ := hw
    refine V_get (v := va_rf (mm_P h4 v0 2)) hc gf_Server_26 rfl q12 rfl d_Server_readData_16 ?_
    obtain ⟨a13, q14, hw⟩ := hw
    obtain ⟨q15, hw⟩ := hw
    refine V_get (v := .long (mm_L h4 a13 13)) hc gf_Server_389 q14 q15 rfl d_Server_readData_19 ?_
    refine V_iload_n hc 0 d_Server_readData_22 rfl rfl ?_
    refine V_callS (rm' := rm_Server_isAbove) (As := [.long (mm_L h4 a13 13), .int (Nat.toInt32 (mm_n h4 a9))]) (rest := []) (n := 2) hc (sat_Server_isAbove (eG E) _ _ _ _ hw) cv_Server_393 (gw_of (tw_3 (List.mem_of_getElem? (i := 214) rfl)) rfl) rfl ⟨by decide, by decide⟩ (by decide) (by decide) rfl (by simp [cat_rf, cat_i, cat_l]) d_Server_readData_23 (fun r0 h16 hw => ?_)
    obtain ⟨r17, rfl, hw⟩ := hw
    refine V_wide (cs' := 0) (sl' := 0) (by decide) (by decide) ?_
    refine V_st (st' := [.int (r17)]) rfl ?_
    refine V_if_eq (tgt := 33) hc d_Server_readData_26 (by decide) (fun hq1 => ?_) (fun hq1 => ?_)
    · replace hw := hw.1 hq1
      refine V_aload_n hc 1 d_Server_readData_33 rfl rfl ?_
      obtain ⟨q18, hw⟩ := hw
      refine V_get (v := va_rf (mm_P h16 v0 2)) hc gf_Server_26 rfl q18 rfl d_Server_readData_34 ?_
      obtain ⟨a19, q20, hw⟩ := hw
      obtain ⟨q21, hw⟩ := hw
      refine V_get (v := .long (mm_L h16 a19 13)) hc gf_Server_389 q20 q21 rfl d_Server_readData_37 ?_
      refine V_l2i hc d_Server_readData_40 ?_
      refine V_sub (lv' := [(0, va_rf (some v0)), (2, va_rf (v2)), (3, .int (Nat.toInt32 (mm_n h4 a9)))]) [1, 3, 0] rfl ?_
      exact vb_Server_readData_41 hc hq  _ _ _ _ _ hw
    · replace hw := hw.2 hq1
      refine V_iload_n hc 0 d_Server_readData_29 rfl rfl ?_
      refine V_goto (tgt := 41) hc d_Server_readData_30 (by decide) ?_
      refine V_sub (lv' := [(0, va_rf (some v0)), (2, va_rf (v2)), (3, .int (Nat.toInt32 (mm_n h4 a9)))]) [1, 3, 0] rfl ?_
      exact vb_Server_readData_41 hc hq  _ _ _ _ _ hw
  · replace hw := hw.2 hq1
    refine V_iconst (v := 3) hc d_Server_readData_7 (by decide) ?_
    exact V_iret hc hq ⟨_, rfl, hw⟩ (by decide) (by decide) d_Server_readData_8
def wq_Server_readData (ge : Nat → Nat) (v0 : Nat) (v1 : Option Nat) (v2 : Option Nat) (h : mm_M) (Z : Int32 → mm_M → Prop) : Prop := wq_Server_readData_0 ge v0 v1 v2 h Z
theorem sat_Server_readData (G : mm_G) (v0 : Nat) (v1 : Option Nat) (v2 : Option Nat) (h : mm_M) (Z : Int32 → mm_M → Prop) (hw : wq_Server_readData (mm_ge G) v0 v1 v2 h Z) : mm_Met G y_Server_readData c_Server_readData 6 (some (.int)) rm_Server_readData [va_rf (some v0), va_rf (v1), va_rf (v2)] h (pI Z) := by
  refine mm_intro (own := "EpochServer") (by decide) rfl (by simp [lg_sl, cat_rf, cat_i, cat_l]) (fun E e1 hc hq hi => ?_)
  subst e1
  have e2 : lv_args 0 [va_rf (some v0), va_rf (v1), va_rf (v2)] = [(0, va_rf (some v0)), (1, va_rf (v1)), (2, va_rf (v2))] := by simp [lv_args, cat_rf, cat_i, cat_l]
  rw [e2]
  refine V_sub (lv' := [(0, va_rf (some v0)), (1, va_rf (v1)), (2, va_rf (v2))]) [0, 1, 2] rfl ?_
  exact vb_Server_readData_0 hc hq v0 v1 v2 h hw
/-! Server.write(LEpochServer$Fid;LEpochServer$Node;)I -/
abbrev rm_Server_write : Room := { frames := 3, cells := 2, slots := 519, locals := 86 }
def wq_Server_write_49  (ge : Nat → Nat)  (h : mm_M) (Z : Int32 → mm_M → Prop) : Prop :=
  Z (5) h
def wq_Server_write_135  (ge : Nat → Nat)  (h : mm_M) (Z : Int32 → mm_M → Prop) : Prop :=
  Z (0) h
def wq_Server_write_0  (ge : Nat → Nat) (v0 : Nat) (v1 : Option Nat) (v2 : Option Nat) (h : mm_M) (Z : Int32 → mm_M → Prop) : Prop :=
  ∃ a1, v1 = some a1 ∧ mm_k h (a1) = kd_Fid ∧ wq_Fid_isOpenForWriting ge (a1) h (fun (r5 : Int32) (h4 : mm_M) => ((¬ (r5) = 0 → mm_k h4 (v0) = kd_Server ∧ ∃ a7, mm_P h4 v0 2 = some a7 ∧ mm_k h4 (a7) = kd_Request ∧ wq_Server_isAbove ge (mm_L h4 a7 13) (512) h4 (fun (r11 : Int32) (h10 : mm_M) => ((¬ (r11) = 0 → wq_Server_write_49  ge h10 Z) ∧ ((r11) = 0 → mm_k h10 (v0) = kd_Server ∧ ∃ a13, mm_P h10 v0 2 = some a13 ∧ mm_k h10 (a13) = kd_Request ∧ (((mm_I h4 a7 9 : Int32) ≤ ((512 : Int32) - (Int64.toInt32 (mm_L h10 a13 13)) : Int32) → ∃ a16, mm_P h10 v0 1 = some a16 ∧ mm_k h10 (a16) = kd_Bytes ∧ wq_Bytes_put ge (a16) (Int32.toInt64 (mm_I h4 a7 9)) (4) h10 (fun h19 : mm_M => (((mm_I h4 a7 9) ≤ 0 → wq_Server_write_135  ge h19 Z) ∧ (¬ (mm_I h4 a7 9) ≤ 0 → mm_k h19 (v0) = kd_Server ∧ ∃ a22, mm_P h19 v0 2 = some a22 ∧ mm_k h19 (a22) = kd_Request ∧ ∃ a25, v2 = some a25 ∧ mm_k h19 (a25) = kd_Node ∧ ∃ a28, mm_P h19 a25 6 = some a28 ∧ mm_k h19 (a28) = ka_B ∧ wq_Arrays_copyOf_9075b ge (mm_P h19 a25 6) (if (Nat.toInt32 (mm_n h19 a28) : Int32) < ((Int64.toInt32 (mm_L h19 a22 13)) + (mm_I h4 a7 9)) then ((Int64.toInt32 (mm_L h19 a22 13)) + (mm_I h4 a7 9)) else (Nat.toInt32 (mm_n h19 a28))) h19 (fun (r32 : Option Nat) (h31 : mm_M) => mm_k h31 (v0) = kd_Server ∧ ∃ a34, mm_P h31 v0 2 = some a34 ∧ mm_k h31 (a34) = kd_Request ∧ wq_Request_copyTextInto ge (a34) (r32) (Int64.toInt32 (mm_L h19 a22 13)) h31 (fun h37 : mm_M => mm_k h37 (v0) = kd_Server ∧ ∃ a40, mm_P h37 v0 5 = some a40 ∧ mm_k h37 (a40) = kd_Journal ∧ wq_Journal_keep ge (a40) (mm_P h37 v0 4) h37 (fun h43 : mm_M => mm_k h43 (v0) = kd_Server ∧ ∃ a46, v2 = some a46 ∧ mm_k h43 (a46) = kd_Node ∧ wq_Node_withData ge (a46) (r32) (mm_I h43 v0 9) h43 (fun (r50 : Option Nat) (h49 : mm_M) => ∃ a51, mm_P h43 v0 4 = some a51 ∧ mm_k h49 (a51) = kd_Tree ∧ wq_Tree_put ge (a51) (r50) h49 (fun h54 : mm_M => wq_Server_write_135  ge h54 Z))))))))) ∧ (¬ (mm_I h4 a7 9 : Int32) ≤ ((512 : Int32) - (Int64.toInt32 (mm_L h10 a13 13)) : Int32) → wq_Server_write_49  ge h10 Z)))))) ∧ ((r5) = 0 → Z (3) h4)))
set_option maxRecDepth 100000 in
set_option maxHeartbeats 4000000 in
theorem vb_Server_write_49 {E : mm_E} {Z : Int32 → mm_M → Prop} (hc : cx E "EpochServer" c_Server_write 6 (some (.int)) rm_Server_write) (hq : cq E rm_Server_write (pI Z))   (h : mm_M) (hw : wq_Server_write_49  (mm_ge (eG E))  h Z) : V E 6 0 0 h 49 [] [] := by
  unfold wq_Server_write_49 at hw
  refine V_iconst (v := 5) hc d_Server_write_49 (by decide) ?_
  exact V_iret hc hq ⟨_, rfl, hw⟩ (by decide) (by decide) d_Server_write_50
set_option maxRecDepth 100000 in
set_option maxHeartbeats 4000000 in
theorem vb_Server_write_135 {E : mm_E} {Z : Int32 → mm_M → Prop} (hc : cx E "EpochServer" c_Server_write 6 (some (.int)) rm_Server_write) (hq : cq E rm_Server_write (pI Z))   (h : mm_M) (hw : wq_Server_write_135  (mm_ge (eG E))  h Z) : V E 6 2 519 h 135 [] [] := by
  unfold wq_Server_write_135 at hw
  refine V_iconst (v := 0) hc d_Server_write_135 (by decide) ?_
  exact V_iret hc hq ⟨_, rfl, hw⟩ (by decide) (by decide) d_Server_write_136
set_option maxRecDepth 100000 in
set_option maxHeartbeats 4000000 in
theorem vb_Server_write_0 {E : mm_E} {Z : Int32 → mm_M → Prop} (hc : cx E "EpochServer" c_Server_write 6 (some (.int)) rm_Server_write) (hq : cq E rm_Server_write (pI Z))  (v0 : Nat) (v1 : Option Nat) (v2 : Option Nat) (h : mm_M) (hw : wq_Server_write_0  (mm_ge (eG E)) v0 v1 v2 h Z) : V E 6 0 0 h 0 [(0, va_rf (some v0)), (1, va_rf (v1)), (2, va_rf (v2))] [] := by
  unfold wq_Server_write_0 at hw
  refine V_aload_n hc 1 d_Server_write_0 rfl rfl ?_
  obtain ⟨a1, q2, hw⟩ := hw
  obtain ⟨q3, hw⟩ := hw
  refine V_callV (rm' := rm_Fid_isOpenForWriting) (As := []) (rest := []) (n := 0) (cn := 4) hc q2 q3 (sat_Fid_isOpenForWriting (eG E) _ _ _ hw) rfl cv_Server_425 (gw_of (tw_3 (List.mem_of_getElem? (i := 223) rfl)) rfl) ss_Fid_isOpenForWriting rfl ⟨by decide, by decide⟩ (by decide) (by decide) rfl (by simp [cat_rf, cat_i, cat_l]) d_Server_write_1 (fun r0 h4 hw => ?_)
  obtain ⟨r5, rfl, hw⟩ := hw
  refine V_wide (cs' := 0) (sl' := 0) (by decide) (by decide) ?_
  refine V_st (st' := [.int (r5)]) rfl ?_
  refine V_if_ne (tgt := 9) hc d_Server_write_4 (by decide) (fun hq1 => ?_) (fun hq1 => ?_)
  · replace hw := hw.1 hq1
    refine V_aload_n hc 0 d_Server_write_9 rfl rfl ?_
    obtain ⟨q6, hw⟩ := hw
    refine V_get (v := va_rf (mm_P h4 v0 2)) hc gf_Server_26 rfl q6 rfl d_Server_write_10 ?_
    obtain ⟨a7, q8, hw⟩ := hw
    obtain ⟨q9, hw⟩ := hw
    refine V_get (v := .int (mm_I h4 a7 9)) hc gf_Server_333 q8 q9 rfl d_Server_write_13 ?_
    refine V_istore_n (i := 3) (lv' := [(3, .int (mm_I h4 a7 9)), (0, va_rf (some v0)), (1, va_rf (v1)), (2, va_rf (v2))]) hc d_Server_write_16 rfl (by decide) (by simp [cat_rf, cat_i, cat_l]) ?_
    refine V_aload_n hc 1 d_Server_write_17 rfl rfl ?_
    refine V_get (v := va_rf (mm_P h4 v0 2)) hc gf_Server_26 rfl q6 rfl d_Server_write_18 ?_
    refine V_get (v := .long (mm_L h4 a7 13)) hc gf_Server_389 q8 q9 rfl d_Server_write_21 ?_
    refine V_sipush (v := 512) hc d_Server_write_24 (by decide) ?_
    refine V_callS (rm' := rm_Server_isAbove) (As := [.long (mm_L h4 a7 13), .int (512)]) (rest := []) (n := 2) hc (sat_Server_isAbove (eG E) _ _ _ _ hw) cv_Server_393 (gw_of (tw_3 (List.mem_of_getElem? (i := 214) rfl)) rfl) rfl ⟨by decide, by decide⟩ (by decide) (by decide) rfl (by simp [cat_rf, cat_i, cat_l]) d_Server_write_27 (fun r0 h10 hw => ?_)
    obtain ⟨r11, rfl, hw⟩ := hw
    refine V_wide (cs' := 0) (sl' := 0) (by decide) (by decide) ?_
    refine V_st (st' := [.int (r11)]) rfl ?_
    refine V_if_ne (tgt := 49) hc d_Server_write_30 (by decide) (fun hq1 => ?_) (fun hq1 => ?_)
    · replace hw := hw.1 hq1
      refine V_sub (lv' := []) [] rfl ?_
      exact vb_Server_write_49 hc hq  _ hw
    · replace hw := hw.2 hq1
      refine V_iload_n hc 0 d_Server_write_33 rfl rfl ?_
      refine V_sipush (v := 512) hc d_Server_write_34 (by decide) ?_
      refine V_aload_n hc 1 d_Server_write_37 rfl rfl ?_
      obtain ⟨q12, hw⟩ := hw
      refine V_get (v := va_rf (mm_P h10 v0 2)) hc gf_Server_26 rfl q12 rfl d_Server_write_38 ?_
      obtain ⟨a13, q14, hw⟩ := hw
      obtain ⟨q15, hw⟩ := hw
      refine V_get (v := .long (mm_L h10 a13 13)) hc gf_Server_389 q14 q15 rfl d_Server_write_41 ?_
      refine V_l2i hc d_Server_write_44 ?_
      refine V_isub hc d_Server_write_45 ?_
      refine V_icmp_le (tgt := 51) hc d_Server_write_46 (by decide) (fun hq1 => ?_) (fun hq1 => ?_)
      · replace hw := hw.1 hq1
        refine V_aload_n hc 1 d_Server_write_51 rfl rfl ?_
        refine V_get (v := va_rf (mm_P h10 v0 1)) hc gf_Server_18 rfl q12 rfl d_Server_write_52 ?_
        refine V_iload_n hc 0 d_Server_write_55 rfl rfl ?_
        refine V_i2l hc d_Server_write_56 ?_
        refine V_iconst (v := 4) hc d_Server_write_57 (by decide) ?_
        obtain ⟨a16, q17, hw⟩ := hw
        obtain ⟨q18, hw⟩ := hw
        refine V_callV (rm' := rm_Bytes_put) (As := [.long (Int32.toInt64 (mm_I h4 a7 9)), .int (4)]) (rest := []) (n := 2) (cn := 3) hc q17 q18 (sat_Bytes_put (eG E) _ _ _ _ _ hw) rfl cv_Server_129 (gw_of (tw_2 (List.mem_of_getElem? (i := 158) rfl)) rfl) ss_Bytes_put rfl ⟨by decide, by decide⟩ (by decide) (by decide) rfl (by simp [cat_rf, cat_i, cat_l]) d_Server_write_58 (fun r0 h19 hw => ?_)
        obtain ⟨rfl, hw⟩ := hw
        refine V_wide (cs' := 0) (sl' := 0) (by decide) (by decide) ?_
        refine V_st (st' := []) rfl ?_
        refine V_iload_n hc 0 d_Server_write_61 rfl rfl ?_
        refine V_if_le (tgt := 135) hc d_Server_write_62 (by decide) (fun hq1 => ?_) (fun hq1 => ?_)
        · replace hw := hw.1 hq1
          refine V_sub (lv' := []) [] rfl ?_
          refine V_wide (cs' := 2) (sl' := 519) (by omega) (by omega) ?_
          exact vb_Server_write_135 hc hq  _ hw
        · replace hw := hw.2 hq1
          refine V_aload_n hc 1 d_Server_write_65 rfl rfl ?_
          obtain ⟨q21, hw⟩ := hw
          refine V_get (v := va_rf (mm_P h19 v0 2)) hc gf_Server_26 rfl q21 rfl d_Server_write_66 ?_
          obtain ⟨a22, q23, hw⟩ := hw
          obtain ⟨q24, hw⟩ := hw
          refine V_get (v := .long (mm_L h19 a22 13)) hc gf_Server_389 q23 q24 rfl d_Server_write_69 ?_
          refine V_l2i hc d_Server_write_72 ?_
          refine V_istore (i := 4) (lv' := [(4, .int (Int64.toInt32 (mm_L h19 a22 13))), (3, .int (mm_I h4 a7 9)), (0, va_rf (some v0)), (1, va_rf (v1)), (2, va_rf (v2))]) hc d_Server_write_73 (by decide) rfl ?_
          refine V_aload_n hc 4 d_Server_write_75 rfl rfl ?_
          obtain ⟨a25, q26, hw⟩ := hw
          obtain ⟨q27, hw⟩ := hw
          refine V_get (v := va_rf (mm_P h19 a25 6)) hc gf_Server_207 q26 q27 rfl d_Server_write_76 ?_
          refine V_aload_n hc 4 d_Server_write_79 rfl rfl ?_
          refine V_get (v := va_rf (mm_P h19 a25 6)) hc gf_Server_207 q26 q27 rfl d_Server_write_80 ?_
          obtain ⟨a28, q29, hw⟩ := hw
          obtain ⟨q30, hw⟩ := hw
          refine V_alen (t := 1) (ty := .byte) hc rfl q29 q30 d_Server_write_83 ?_
          refine V_iload hc 0 d_Server_write_84 rfl ?_
          refine V_iload_n hc 1 d_Server_write_86 rfl rfl ?_
          refine V_iadd hc d_Server_write_87 ?_
          refine V_mmax hc cv_Server_135 (by simp [cat_rf, cat_i, cat_l]) (by decide) (by decide) (by decide) (by decide) d_Server_write_88 ?_
          refine V_callS (rm' := rm_Arrays_copyOf_9075b) (As := [va_rf (mm_P h19 a25 6), .int (if (Nat.toInt32 (mm_n h19 a28) : Int32) < ((Int64.toInt32 (mm_L h19 a22 13)) + (mm_I h4 a7 9)) then ((Int64.toInt32 (mm_L h19 a22 13)) + (mm_I h4 a7 9)) else (Nat.toInt32 (mm_n h19 a28)))]) (rest := []) (n := 2) hc (sat_Arrays_copyOf_9075b (eG E) _ _ _ _ hw) cv_Server_428 (gw_of (tw_3 (List.mem_of_getElem? (i := 228) rfl)) rfl) rfl ⟨by decide, by decide⟩ (by decide) (by decide) rfl (by simp [cat_rf, cat_i, cat_l]) d_Server_write_91 (fun r0 h31 hw => ?_)
          obtain ⟨r32, rfl, hw⟩ := hw
          refine V_wide (cs' := 1) (sl' := 512) (by decide) (by decide) ?_
          refine V_st (st' := [va_rf (r32)]) rfl ?_
          refine V_astore (i := 5) (lv' := [(5, va_rf (r32)), (4, .int (Int64.toInt32 (mm_L h19 a22 13))), (3, .int (mm_I h4 a7 9)), (0, va_rf (some v0)), (1, va_rf (v1)), (2, va_rf (v2))]) hc d_Server_write_94 (by decide) rfl ?_
          refine V_aload_n hc 3 d_Server_write_96 rfl rfl ?_
          obtain ⟨q33, hw⟩ := hw
          refine V_get (v := va_rf (mm_P h31 v0 2)) hc gf_Server_26 rfl q33 rfl d_Server_write_97 ?_
          refine V_aload hc 0 d_Server_write_100 rfl ?_
          refine V_iload hc 1 d_Server_write_102 rfl ?_
          obtain ⟨a34, q35, hw⟩ := hw
          obtain ⟨q36, hw⟩ := hw
          refine V_callV (rm' := rm_Request_copyTextInto) (As := [va_rf (r32), .int (Int64.toInt32 (mm_L h19 a22 13))]) (rest := []) (n := 2) (cn := 8) hc q35 q36 (sat_Request_copyTextInto (eG E) _ _ _ _ _ hw) rfl cv_Server_434 (gw_of (tw_3 (List.mem_of_getElem? (i := 180) rfl)) rfl) ss_Request_copyTextInto rfl ⟨by decide, by decide⟩ (by decide) (by decide) rfl (by simp [cat_rf, cat_i, cat_l]) d_Server_write_104 (fun r0 h37 hw => ?_)
          obtain ⟨rfl, hw⟩ := hw
          refine V_wide (cs' := 1) (sl' := 512) (by decide) (by decide) ?_
          refine V_st (st' := []) rfl ?_
          refine V_aload_n hc 3 d_Server_write_107 rfl rfl ?_
          obtain ⟨q39, hw⟩ := hw
          refine V_get (v := va_rf (mm_P h37 v0 5)) hc gf_Server_47 rfl q39 rfl d_Server_write_108 ?_
          refine V_aload_n hc 3 d_Server_write_111 rfl rfl ?_
          refine V_get (v := va_rf (mm_P h37 v0 4)) hc gf_Server_40 rfl q39 rfl d_Server_write_112 ?_
          obtain ⟨a40, q41, hw⟩ := hw
          obtain ⟨q42, hw⟩ := hw
          refine V_callV (rm' := rm_Journal_keep) (As := [va_rf (mm_P h37 v0 4)]) (rest := []) (n := 1) (cn := 6) hc q41 q42 (sat_Journal_keep (eG E) _ _ _ _ hw) rfl cv_Server_373 (gw_of (tw_3 (List.mem_of_getElem? (i := 97) rfl)) rfl) ss_Journal_keep rfl ⟨by decide, by decide⟩ (by decide) (by decide) rfl (by simp [cat_rf, cat_i, cat_l]) d_Server_write_115 (fun r0 h43 hw => ?_)
          obtain ⟨rfl, hw⟩ := hw
          refine V_wide (cs' := 1) (sl' := 512) (by decide) (by decide) ?_
          refine V_st (st' := []) rfl ?_
          refine V_aload_n hc 3 d_Server_write_118 rfl rfl ?_
          obtain ⟨q45, hw⟩ := hw
          refine V_get (v := va_rf (mm_P h43 v0 4)) hc gf_Server_40 rfl q45 rfl d_Server_write_119 ?_
          refine V_aload_n hc 5 d_Server_write_122 rfl rfl ?_
          refine V_aload hc 0 d_Server_write_123 rfl ?_
          refine V_aload_n hc 3 d_Server_write_125 rfl rfl ?_
          refine V_get (v := .int (mm_I h43 v0 9)) hc gf_Server_69 rfl q45 rfl d_Server_write_126 ?_
          obtain ⟨a46, q47, hw⟩ := hw
          obtain ⟨q48, hw⟩ := hw
          refine V_callV (rm' := rm_Node_withData) (As := [va_rf (r32), .int (mm_I h43 v0 9)]) (rest := [va_rf (mm_P h43 v0 4)]) (n := 2) (cn := 7) hc q47 q48 (sat_Node_withData (eG E) _ _ _ _ _ hw) rfl cv_Server_369 (gw_of (tw_3 (List.mem_of_getElem? (i := 112) rfl)) rfl) ss_Node_withData rfl ⟨by decide, by decide⟩ (by decide) (by decide) rfl (by simp [cat_rf, cat_i, cat_l]) d_Server_write_129 (fun r0 h49 hw => ?_)
          obtain ⟨r50, rfl, hw⟩ := hw
          refine V_wide (cs' := 2) (sl' := 519) (by decide) (by decide) ?_
          refine V_st (st' := [va_rf (r50), va_rf (mm_P h43 v0 4)]) rfl ?_
          obtain ⟨a51, q52, hw⟩ := hw
          obtain ⟨q53, hw⟩ := hw
          refine V_callV (rm' := rm_Tree_put) (As := [va_rf (r50)]) (rest := []) (n := 1) (cn := 12) hc q52 q53 (sat_Tree_put (eG E) _ _ _ _ hw) rfl cv_Server_94 (gw_of (tw_2 (List.mem_of_getElem? (i := 102) rfl)) rfl) ss_Tree_put rfl ⟨by decide, by decide⟩ (by decide) (by decide) rfl (by simp [cat_rf, cat_i, cat_l]) d_Server_write_132 (fun r0 h54 hw => ?_)
          obtain ⟨rfl, hw⟩ := hw
          refine V_wide (cs' := 2) (sl' := 519) (by decide) (by decide) ?_
          refine V_st (st' := []) rfl ?_
          refine V_sub (lv' := []) [] rfl ?_
          exact vb_Server_write_135 hc hq  _ hw
      · replace hw := hw.2 hq1
        refine V_sub (lv' := []) [] rfl ?_
        exact vb_Server_write_49 hc hq  _ hw
  · replace hw := hw.2 hq1
    refine V_iconst (v := 3) hc d_Server_write_7 (by decide) ?_
    exact V_iret hc hq ⟨_, rfl, hw⟩ (by decide) (by decide) d_Server_write_8
def wq_Server_write (ge : Nat → Nat) (v0 : Nat) (v1 : Option Nat) (v2 : Option Nat) (h : mm_M) (Z : Int32 → mm_M → Prop) : Prop := wq_Server_write_0 ge v0 v1 v2 h Z
theorem sat_Server_write (G : mm_G) (v0 : Nat) (v1 : Option Nat) (v2 : Option Nat) (h : mm_M) (Z : Int32 → mm_M → Prop) (hw : wq_Server_write (mm_ge G) v0 v1 v2 h Z) : mm_Met G y_Server_write c_Server_write 6 (some (.int)) rm_Server_write [va_rf (some v0), va_rf (v1), va_rf (v2)] h (pI Z) := by
  refine mm_intro (own := "EpochServer") (by decide) rfl (by simp [lg_sl, cat_rf, cat_i, cat_l]) (fun E e1 hc hq hi => ?_)
  subst e1
  have e2 : lv_args 0 [va_rf (some v0), va_rf (v1), va_rf (v2)] = [(0, va_rf (some v0)), (1, va_rf (v1)), (2, va_rf (v2))] := by simp [lv_args, cat_rf, cat_i, cat_l]
  rw [e2]
  refine V_sub (lv' := [(0, va_rf (some v0)), (1, va_rf (v1)), (2, va_rf (v2))]) [0, 1, 2] rfl ?_
  exact vb_Server_write_0 hc hq v0 v1 v2 h hw
/-! Server.stat(LEpochServer$Node;)I -/
abbrev rm_Server_stat : Room := { frames := 4, cells := 0, slots := 0, locals := 92 }
def wq_Server_stat_0  (ge : Nat → Nat) (v0 : Nat) (v1 : Option Nat) (h : mm_M) (Z : Int32 → mm_M → Prop) : Prop :=
  mm_k h (v0) = kd_Server ∧ ∃ a2, v1 = some a2 ∧ mm_k h (a2) = kd_Node ∧ wq_Node_statSize ge (a2) h (fun (r6 : Int32) (h5 : mm_M) => ∃ a7, mm_P h v0 1 = some a7 ∧ mm_k h5 (a7) = kd_Bytes ∧ wq_Bytes_put ge (a7) (Int32.toInt64 (r6)) (2) h5 (fun h10 : mm_M => mm_k h10 (v0) = kd_Server ∧ ∃ a13, mm_P h10 v0 1 = some a13 ∧ mm_k h10 (a13) = kd_Bytes ∧ wq_Bytes_putStat ge (a13) (v1) h10 (fun h16 : mm_M => Z (0) h16)))
set_option maxRecDepth 100000 in
set_option maxHeartbeats 4000000 in
theorem vb_Server_stat_0 {E : mm_E} {Z : Int32 → mm_M → Prop} (hc : cx E "EpochServer" c_Server_stat 2 (some (.int)) rm_Server_stat) (hq : cq E rm_Server_stat (pI Z))  (v0 : Nat) (v1 : Option Nat) (h : mm_M) (hw : wq_Server_stat_0  (mm_ge (eG E)) v0 v1 h Z) : V E 2 0 0 h 0 [(0, va_rf (some v0)), (1, va_rf (v1))] [] := by
  unfold wq_Server_stat_0 at hw
  refine V_aload_n hc 0 d_Server_stat_0 rfl rfl ?_
  obtain ⟨q1, hw⟩ := hw
  refine V_get (v := va_rf (mm_P h v0 1)) hc gf_Server_18 rfl q1 rfl d_Server_stat_1 ?_
  refine V_aload_n hc 1 d_Server_stat_4 rfl rfl ?_
  obtain ⟨a2, q3, hw⟩ := hw
  obtain ⟨q4, hw⟩ := hw
  refine V_callV (rm' := rm_Node_statSize) (As := []) (rest := [va_rf (mm_P h v0 1)]) (n := 0) (cn := 7) hc q3 q4 (sat_Node_statSize (eG E) _ _ _ hw) rfl cv_Server_419 (gw_of (tw_3 (List.mem_of_getElem? (i := 198) rfl)) rfl) ss_Node_statSize rfl ⟨by decide, by decide⟩ (by decide) (by decide) rfl (by simp [cat_rf, cat_i, cat_l]) d_Server_stat_5 (fun r0 h5 hw => ?_)
  obtain ⟨r6, rfl, hw⟩ := hw
  refine V_wide (cs' := 0) (sl' := 0) (by decide) (by decide) ?_
  refine V_st (st' := [.int (r6), va_rf (mm_P h v0 1)]) rfl ?_
  refine V_i2l hc d_Server_stat_8 ?_
  refine V_iconst (v := 2) hc d_Server_stat_9 (by decide) ?_
  obtain ⟨a7, q8, hw⟩ := hw
  obtain ⟨q9, hw⟩ := hw
  refine V_callV (rm' := rm_Bytes_put) (As := [.long (Int32.toInt64 (r6)), .int (2)]) (rest := []) (n := 2) (cn := 3) hc q8 q9 (sat_Bytes_put (eG E) _ _ _ _ _ hw) rfl cv_Server_129 (gw_of (tw_2 (List.mem_of_getElem? (i := 158) rfl)) rfl) ss_Bytes_put rfl ⟨by decide, by decide⟩ (by decide) (by decide) rfl (by simp [cat_rf, cat_i, cat_l]) d_Server_stat_10 (fun r0 h10 hw => ?_)
  obtain ⟨rfl, hw⟩ := hw
  refine V_wide (cs' := 0) (sl' := 0) (by decide) (by decide) ?_
  refine V_st (st' := []) rfl ?_
  refine V_aload_n hc 0 d_Server_stat_13 rfl rfl ?_
  obtain ⟨q12, hw⟩ := hw
  refine V_get (v := va_rf (mm_P h10 v0 1)) hc gf_Server_18 rfl q12 rfl d_Server_stat_14 ?_
  refine V_aload_n hc 1 d_Server_stat_17 rfl rfl ?_
  obtain ⟨a13, q14, hw⟩ := hw
  obtain ⟨q15, hw⟩ := hw
  refine V_callV (rm' := rm_Bytes_putStat) (As := [va_rf (v1)]) (rest := []) (n := 1) (cn := 3) hc q14 q15 (sat_Bytes_putStat (eG E) _ _ _ _ hw) rfl cv_Server_422 (gw_of (tw_3 (List.mem_of_getElem? (i := 202) rfl)) rfl) ss_Bytes_putStat rfl ⟨by decide, by decide⟩ (by decide) (by decide) rfl (by simp [cat_rf, cat_i, cat_l]) d_Server_stat_18 (fun r0 h16 hw => ?_)
  obtain ⟨rfl, hw⟩ := hw
  refine V_wide (cs' := 0) (sl' := 0) (by decide) (by decide) ?_
  refine V_st (st' := []) rfl ?_
  refine V_iconst (v := 0) hc d_Server_stat_21 (by decide) ?_
  exact V_iret hc hq ⟨_, rfl, hw⟩ (by decide) (by decide) d_Server_stat_22
def wq_Server_stat (ge : Nat → Nat) (v0 : Nat) (v1 : Option Nat) (h : mm_M) (Z : Int32 → mm_M → Prop) : Prop := wq_Server_stat_0 ge v0 v1 h Z
theorem sat_Server_stat (G : mm_G) (v0 : Nat) (v1 : Option Nat) (h : mm_M) (Z : Int32 → mm_M → Prop) (hw : wq_Server_stat (mm_ge G) v0 v1 h Z) : mm_Met G y_Server_stat c_Server_stat 2 (some (.int)) rm_Server_stat [va_rf (some v0), va_rf (v1)] h (pI Z) := by
  refine mm_intro (own := "EpochServer") (by decide) rfl (by simp [lg_sl, cat_rf, cat_i, cat_l]) (fun E e1 hc hq hi => ?_)
  subst e1
  have e2 : lv_args 0 [va_rf (some v0), va_rf (v1)] = [(0, va_rf (some v0)), (1, va_rf (v1))] := by simp [lv_args, cat_rf, cat_i, cat_l]
  rw [e2]
  refine V_sub (lv' := [(0, va_rf (some v0)), (1, va_rf (v1))]) [0, 1] rfl ?_
  exact vb_Server_stat_0 hc hq v0 v1 h hw
/-! Server.whyNotBent(LEpochServer$Fid;LEpochServer$Node;)I -/
abbrev rm_Server_whyNotBent : Room := { frames := 3, cells := 0, slots := 0, locals := 68 }
def wq_Server_whyNotBent_169  (ge : Nat → Nat)  (h : mm_M) (Z : Int32 → mm_M → Prop) : Prop :=
  Z (0) h
def wq_Server_whyNotBent_166  (ge : Nat → Nat)  (h : mm_M) (Z : Int32 → mm_M → Prop) : Prop :=
  Z (9) h
def wq_Server_whyNotBent_129  (ge : Nat → Nat) (v0 : Nat) (v2 : Option Nat) (h : mm_M) (Z : Int32 → mm_M → Prop) : Prop :=
  mm_k h (v0) = kd_Server ∧ ∃ a2, mm_P h v0 2 = some a2 ∧ mm_k h (a2) = kd_Request ∧ (((lg_cmp (mm_L h a2 13) ((-1))) = 0 → wq_Server_whyNotBent_169  ge h Z) ∧ (¬ (lg_cmp (mm_L h a2 13) ((-1))) = 0 → ∃ a5, v2 = some a5 ∧ mm_k h (a5) = kd_Node ∧ wq_Node_isDirectory ge (a5) h (fun (r9 : Int32) (h8 : mm_M) => ((¬ (r9) = 0 → wq_Server_whyNotBent_166  ge h8 Z) ∧ ((r9) = 0 → mm_k h8 (v0) = kd_Server ∧ ∃ a11, mm_P h8 v0 2 = some a11 ∧ mm_k h8 (a11) = kd_Request ∧ wq_Server_isAbove ge (mm_L h8 a11 13) (512) h8 (fun (r15 : Int32) (h14 : mm_M) => (((r15) = 0 → wq_Server_whyNotBent_169  ge h14 Z) ∧ (¬ (r15) = 0 → wq_Server_whyNotBent_166  ge h14 Z))))))))
def wq_Server_whyNotBent_126  (ge : Nat → Nat)  (h : mm_M) (Z : Int32 → mm_M → Prop) : Prop :=
  Z (8) h
def wq_Server_whyNotBent_86  (ge : Nat → Nat) (v0 : Nat) (v2 : Option Nat) (h : mm_M) (Z : Int32 → mm_M → Prop) : Prop :=
  mm_k h (v0) = kd_Server ∧ ∃ a2, mm_P h v0 2 = some a2 ∧ mm_k h (a2) = kd_Request ∧ (((mm_I h a2 11 : Int32) = ((-1) : Int32) → wq_Server_whyNotBent_129  ge (v0) (v2) h Z) ∧ (¬ (mm_I h a2 11 : Int32) = ((-1) : Int32) → ∃ a5, v2 = some a5 ∧ mm_k h (a5) = kd_Node ∧ ((((mm_I h a2 11) ^^^ (mm_I h a5 3)) < 0 → wq_Server_whyNotBent_126  ge h Z) ∧ (¬ ((mm_I h a2 11) ^^^ (mm_I h a5 3)) < 0 → ((((mm_I h a2 11) &&& (2147483136 : Int32)) = 0 → wq_Server_whyNotBent_129  ge (v0) (v2) h Z) ∧ (¬ ((mm_I h a2 11) &&& (2147483136 : Int32)) = 0 → wq_Server_whyNotBent_126  ge h Z))))))
def wq_Server_whyNotBent_49  (ge : Nat → Nat)  (h : mm_M) (Z : Int32 → mm_M → Prop) : Prop :=
  Z (6) h
def wq_Server_whyNotBent_0  (ge : Nat → Nat) (v0 : Nat) (v1 : Option Nat) (v2 : Option Nat) (h : mm_M) (Z : Int32 → mm_M → Prop) : Prop :=
  ∃ a1, v1 = some a1 ∧ mm_k h (a1) = kd_Fid ∧ (((mm_I h a1 2 : Int32) = ((-1) : Int32) → mm_k h (v0) = kd_Server ∧ ∃ a5, mm_P h v0 2 = some a5 ∧ mm_k h (a5) = kd_Request ∧ ((¬ (mm_I h a5 16) = 0 → (((mm_I h a5 15) ≤ 0 → wq_Server_whyNotBent_86  ge (v0) (v2) h Z) ∧ (¬ (mm_I h a5 15) ≤ 0 → ∃ a8, v2 = some a8 ∧ mm_k h (a8) = kd_Node ∧ (((mm_I h a8 0) = 0 → wq_Server_whyNotBent_49  ge h Z) ∧ (¬ (mm_I h a8 0) = 0 → wq_Request_textMayBeName ge (a5) h (fun (r12 : Int32) (h11 : mm_M) => ((¬ (r12) = 0 → mm_k h11 (v0) = kd_Server ∧ ∃ a14, v2 = some a14 ∧ mm_k h11 (a14) = kd_Node ∧ ∃ a17, mm_P h11 v0 4 = some a17 ∧ mm_k h11 (a17) = kd_Tree ∧ wq_Tree_named ge (a17) (mm_I h11 a14 1) (mm_P h11 v0 2) h11 (fun (r21 : Option Nat) (h20 : mm_M) => ((r21 = none → wq_Server_whyNotBent_86  ge (v0) (v2) h20 Z) ∧ (∀ a22, r21 = some a22 → ∃ a23, r21 = some a23 ∧ mm_k h20 (a23) = kd_Node ∧ ∃ a26, v2 = some a26 ∧ mm_k h20 (a26) = kd_Node ∧ (((mm_I h20 a23 0 : Int32) = (mm_I h20 a26 0 : Int32) → wq_Server_whyNotBent_86  ge (v0) (v2) h20 Z) ∧ (¬ (mm_I h20 a23 0 : Int32) = (mm_I h20 a26 0 : Int32) → Z (7) h20)))))) ∧ ((r12) = 0 → wq_Server_whyNotBent_49  ge h11 Z)))))))) ∧ ((mm_I h a5 16) = 0 → Z (5) h))) ∧ (¬ (mm_I h a1 2 : Int32) = ((-1) : Int32) → Z (3) h))
set_option maxRecDepth 100000 in
set_option maxHeartbeats 4000000 in
theorem vb_Server_whyNotBent_169 {E : mm_E} {Z : Int32 → mm_M → Prop} (hc : cx E "EpochServer" c_Server_whyNotBent 4 (some (.int)) rm_Server_whyNotBent) (hq : cq E rm_Server_whyNotBent (pI Z))   (h : mm_M) (hw : wq_Server_whyNotBent_169  (mm_ge (eG E))  h Z) : V E 4 0 0 h 169 [] [] := by
  unfold wq_Server_whyNotBent_169 at hw
  refine V_iconst (v := 0) hc d_Server_whyNotBent_169 (by decide) ?_
  exact V_iret hc hq ⟨_, rfl, hw⟩ (by decide) (by decide) d_Server_whyNotBent_170
set_option maxRecDepth 100000 in
set_option maxHeartbeats 4000000 in
theorem vb_Server_whyNotBent_166 {E : mm_E} {Z : Int32 → mm_M → Prop} (hc : cx E "EpochServer" c_Server_whyNotBent 4 (some (.int)) rm_Server_whyNotBent) (hq : cq E rm_Server_whyNotBent (pI Z))   (h : mm_M) (hw : wq_Server_whyNotBent_166  (mm_ge (eG E))  h Z) : V E 4 0 0 h 166 [] [] := by
  unfold wq_Server_whyNotBent_166 at hw
  refine V_bipush (v := 9) hc d_Server_whyNotBent_166 (by decide) ?_
  exact V_iret hc hq ⟨_, rfl, hw⟩ (by decide) (by decide) d_Server_whyNotBent_168
set_option maxRecDepth 100000 in
set_option maxHeartbeats 4000000 in
theorem vb_Server_whyNotBent_129 {E : mm_E} {Z : Int32 → mm_M → Prop} (hc : cx E "EpochServer" c_Server_whyNotBent 4 (some (.int)) rm_Server_whyNotBent) (hq : cq E rm_Server_whyNotBent (pI Z))  (v0 : Nat) (v2 : Option Nat) (h : mm_M) (hw : wq_Server_whyNotBent_129  (mm_ge (eG E)) v0 v2 h Z) : V E 4 0 0 h 129 [(0, va_rf (some v0)), (2, va_rf (v2))] [] := by
  unfold wq_Server_whyNotBent_129 at hw
  refine V_aload_n hc 0 d_Server_whyNotBent_129 rfl rfl ?_
  obtain ⟨q1, hw⟩ := hw
  refine V_get (v := va_rf (mm_P h v0 2)) hc gf_Server_26 rfl q1 rfl d_Server_whyNotBent_130 ?_
  obtain ⟨a2, q3, hw⟩ := hw
  obtain ⟨q4, hw⟩ := hw
  refine V_get (v := .long (mm_L h a2 13)) hc gf_Server_389 q3 q4 rfl d_Server_whyNotBent_133 ?_
  refine V_ldc2 (v := (-1)) hc (gw_of (tw_4 (List.mem_of_getElem? (i := 15) rfl)) rfl) d_Server_whyNotBent_136 ?_
  refine V_lcmp hc d_Server_whyNotBent_139 ?_
  refine V_if_eq (tgt := 169) hc d_Server_whyNotBent_140 (by decide) (fun hq1 => ?_) (fun hq1 => ?_)
  · replace hw := hw.1 hq1
    refine V_sub (lv' := []) [] rfl ?_
    exact vb_Server_whyNotBent_169 hc hq  _ hw
  · replace hw := hw.2 hq1
    refine V_aload_n hc 1 d_Server_whyNotBent_143 rfl rfl ?_
    obtain ⟨a5, q6, hw⟩ := hw
    obtain ⟨q7, hw⟩ := hw
    refine V_callV (rm' := rm_Node_isDirectory) (As := []) (rest := []) (n := 0) (cn := 7) hc q6 q7 (sat_Node_isDirectory (eG E) _ _ _ hw) rfl cv_Server_200 (gw_of (tw_3 (List.mem_of_getElem? (i := 62) rfl)) rfl) ss_Node_isDirectory rfl ⟨by decide, by decide⟩ (by decide) (by decide) rfl (by simp [cat_rf, cat_i, cat_l]) d_Server_whyNotBent_144 (fun r0 h8 hw => ?_)
    obtain ⟨r9, rfl, hw⟩ := hw
    refine V_wide (cs' := 0) (sl' := 0) (by decide) (by decide) ?_
    refine V_st (st' := [.int (r9)]) rfl ?_
    refine V_if_ne (tgt := 166) hc d_Server_whyNotBent_147 (by decide) (fun hq1 => ?_) (fun hq1 => ?_)
    · replace hw := hw.1 hq1
      refine V_sub (lv' := []) [] rfl ?_
      exact vb_Server_whyNotBent_166 hc hq  _ hw
    · replace hw := hw.2 hq1
      refine V_aload_n hc 0 d_Server_whyNotBent_150 rfl rfl ?_
      obtain ⟨q10, hw⟩ := hw
      refine V_get (v := va_rf (mm_P h8 v0 2)) hc gf_Server_26 rfl q10 rfl d_Server_whyNotBent_151 ?_
      obtain ⟨a11, q12, hw⟩ := hw
      obtain ⟨q13, hw⟩ := hw
      refine V_get (v := .long (mm_L h8 a11 13)) hc gf_Server_389 q12 q13 rfl d_Server_whyNotBent_154 ?_
      refine V_sipush (v := 512) hc d_Server_whyNotBent_157 (by decide) ?_
      refine V_callS (rm' := rm_Server_isAbove) (As := [.long (mm_L h8 a11 13), .int (512)]) (rest := []) (n := 2) hc (sat_Server_isAbove (eG E) _ _ _ _ hw) cv_Server_393 (gw_of (tw_3 (List.mem_of_getElem? (i := 214) rfl)) rfl) rfl ⟨by decide, by decide⟩ (by decide) (by decide) rfl (by simp [cat_rf, cat_i, cat_l]) d_Server_whyNotBent_160 (fun r0 h14 hw => ?_)
      obtain ⟨r15, rfl, hw⟩ := hw
      refine V_wide (cs' := 0) (sl' := 0) (by decide) (by decide) ?_
      refine V_st (st' := [.int (r15)]) rfl ?_
      refine V_if_eq (tgt := 169) hc d_Server_whyNotBent_163 (by decide) (fun hq1 => ?_) (fun hq1 => ?_)
      · replace hw := hw.1 hq1
        refine V_sub (lv' := []) [] rfl ?_
        exact vb_Server_whyNotBent_169 hc hq  _ hw
      · replace hw := hw.2 hq1
        refine V_sub (lv' := []) [] rfl ?_
        exact vb_Server_whyNotBent_166 hc hq  _ hw
set_option maxRecDepth 100000 in
set_option maxHeartbeats 4000000 in
theorem vb_Server_whyNotBent_126 {E : mm_E} {Z : Int32 → mm_M → Prop} (hc : cx E "EpochServer" c_Server_whyNotBent 4 (some (.int)) rm_Server_whyNotBent) (hq : cq E rm_Server_whyNotBent (pI Z))   (h : mm_M) (hw : wq_Server_whyNotBent_126  (mm_ge (eG E))  h Z) : V E 4 0 0 h 126 [] [] := by
  unfold wq_Server_whyNotBent_126 at hw
  refine V_bipush (v := 8) hc d_Server_whyNotBent_126 (by decide) ?_
  exact V_iret hc hq ⟨_, rfl, hw⟩ (by decide) (by decide) d_Server_whyNotBent_128
set_option maxRecDepth 100000 in
set_option maxHeartbeats 4000000 in
theorem vb_Server_whyNotBent_86 {E : mm_E} {Z : Int32 → mm_M → Prop} (hc : cx E "EpochServer" c_Server_whyNotBent 4 (some (.int)) rm_Server_whyNotBent) (hq : cq E rm_Server_whyNotBent (pI Z))  (v0 : Nat) (v2 : Option Nat) (h : mm_M) (hw : wq_Server_whyNotBent_86  (mm_ge (eG E)) v0 v2 h Z) : V E 4 0 0 h 86 [(0, va_rf (some v0)), (2, va_rf (v2))] [] := by
  unfold wq_Server_whyNotBent_86 at hw
  refine V_aload_n hc 0 d_Server_whyNotBent_86 rfl rfl ?_
  obtain ⟨q1, hw⟩ := hw
  refine V_get (v := va_rf (mm_P h v0 2)) hc gf_Server_26 rfl q1 rfl d_Server_whyNotBent_87 ?_
  obtain ⟨a2, q3, hw⟩ := hw
  obtain ⟨q4, hw⟩ := hw
  refine V_get (v := .int (mm_I h a2 11)) hc gf_Server_379 q3 q4 rfl d_Server_whyNotBent_90 ?_
  refine V_iconst (v := (-1)) hc d_Server_whyNotBent_93 (by decide) ?_
  refine V_icmp_eq (tgt := 129) hc d_Server_whyNotBent_94 (by decide) (fun hq1 => ?_) (fun hq1 => ?_)
  · replace hw := hw.1 hq1
    refine V_sub (lv' := [(0, va_rf (some v0)), (2, va_rf (v2))]) [0, 1] rfl ?_
    exact vb_Server_whyNotBent_129 hc hq  _ _ _ hw
  · replace hw := hw.2 hq1
    refine V_aload_n hc 0 d_Server_whyNotBent_97 rfl rfl ?_
    refine V_get (v := va_rf (mm_P h v0 2)) hc gf_Server_26 rfl q1 rfl d_Server_whyNotBent_98 ?_
    refine V_get (v := .int (mm_I h a2 11)) hc gf_Server_379 q3 q4 rfl d_Server_whyNotBent_101 ?_
    refine V_aload_n hc 1 d_Server_whyNotBent_104 rfl rfl ?_
    obtain ⟨a5, q6, hw⟩ := hw
    obtain ⟨q7, hw⟩ := hw
    refine V_get (v := .int (mm_I h a5 3)) hc gf_Server_194 q6 q7 rfl d_Server_whyNotBent_105 ?_
    refine V_ixor hc d_Server_whyNotBent_108 ?_
    refine V_if_lt (tgt := 126) hc d_Server_whyNotBent_109 (by decide) (fun hq1 => ?_) (fun hq1 => ?_)
    · replace hw := hw.1 hq1
      refine V_sub (lv' := []) [] rfl ?_
      exact vb_Server_whyNotBent_126 hc hq  _ hw
    · replace hw := hw.2 hq1
      refine V_aload_n hc 0 d_Server_whyNotBent_112 rfl rfl ?_
      refine V_get (v := va_rf (mm_P h v0 2)) hc gf_Server_26 rfl q1 rfl d_Server_whyNotBent_113 ?_
      refine V_get (v := .int (mm_I h a2 11)) hc gf_Server_379 q3 q4 rfl d_Server_whyNotBent_116 ?_
      refine V_ldc_w (v := 2147483136) hc (gw_of (tw_4 (List.mem_of_getElem? (i := 14) rfl)) rfl) d_Server_whyNotBent_119 ?_
      refine V_iand hc d_Server_whyNotBent_122 ?_
      refine V_if_eq (tgt := 129) hc d_Server_whyNotBent_123 (by decide) (fun hq1 => ?_) (fun hq1 => ?_)
      · replace hw := hw.1 hq1
        refine V_sub (lv' := [(0, va_rf (some v0)), (2, va_rf (v2))]) [0, 1] rfl ?_
        exact vb_Server_whyNotBent_129 hc hq  _ _ _ hw
      · replace hw := hw.2 hq1
        refine V_sub (lv' := []) [] rfl ?_
        exact vb_Server_whyNotBent_126 hc hq  _ hw
set_option maxRecDepth 100000 in
set_option maxHeartbeats 4000000 in
theorem vb_Server_whyNotBent_49 {E : mm_E} {Z : Int32 → mm_M → Prop} (hc : cx E "EpochServer" c_Server_whyNotBent 4 (some (.int)) rm_Server_whyNotBent) (hq : cq E rm_Server_whyNotBent (pI Z))   (h : mm_M) (hw : wq_Server_whyNotBent_49  (mm_ge (eG E))  h Z) : V E 4 0 0 h 49 [] [] := by
  unfold wq_Server_whyNotBent_49 at hw
  refine V_bipush (v := 6) hc d_Server_whyNotBent_49 (by decide) ?_
  exact V_iret hc hq ⟨_, rfl, hw⟩ (by decide) (by decide) d_Server_whyNotBent_51
set_option maxRecDepth 100000 in
set_option maxHeartbeats 4000000 in
theorem vb_Server_whyNotBent_0 {E : mm_E} {Z : Int32 → mm_M → Prop} (hc : cx E "EpochServer" c_Server_whyNotBent 4 (some (.int)) rm_Server_whyNotBent) (hq : cq E rm_Server_whyNotBent (pI Z))  (v0 : Nat) (v1 : Option Nat) (v2 : Option Nat) (h : mm_M) (hw : wq_Server_whyNotBent_0  (mm_ge (eG E)) v0 v1 v2 h Z) : V E 4 0 0 h 0 [(0, va_rf (some v0)), (1, va_rf (v1)), (2, va_rf (v2))] [] := by
  unfold wq_Server_whyNotBent_0 at hw
  refine V_aload_n hc 1 d_Server_whyNotBent_0 rfl rfl ?_
  obtain ⟨a1, q2, hw⟩ := hw
  obtain ⟨q3, hw⟩ := hw
  refine V_get (v := .int (mm_I h a1 2)) hc gf_Server_217 q2 q3 rfl d_Server_whyNotBent_1 ?_
  refine V_iconst (v := (-1)) hc d_Server_whyNotBent_4 (by decide) ?_
  refine V_icmp_eq (tgt := 10) hc d_Server_whyNotBent_5 (by decide) (fun hq1 => ?_) (fun hq1 => ?_)
  · replace hw := hw.1 hq1
    refine V_aload_n hc 0 d_Server_whyNotBent_10 rfl rfl ?_
    obtain ⟨q4, hw⟩ := hw
    refine V_get (v := va_rf (mm_P h v0 2)) hc gf_Server_26 rfl q4 rfl d_Server_whyNotBent_11 ?_
    obtain ⟨a5, q6, hw⟩ := hw
    obtain ⟨q7, hw⟩ := hw
    refine V_get (v := .int (mm_I h a5 16)) hc gf_Server_464 q6 q7 rfl d_Server_whyNotBent_14 ?_
    refine V_if_ne (tgt := 22) hc d_Server_whyNotBent_17 (by decide) (fun hq1 => ?_) (fun hq1 => ?_)
    · replace hw := hw.1 hq1
      refine V_aload_n hc 0 d_Server_whyNotBent_22 rfl rfl ?_
      refine V_get (v := va_rf (mm_P h v0 2)) hc gf_Server_26 rfl q4 rfl d_Server_whyNotBent_23 ?_
      refine V_get (v := .int (mm_I h a5 15)) hc gf_Server_467 q6 q7 rfl d_Server_whyNotBent_26 ?_
      refine V_if_le (tgt := 86) hc d_Server_whyNotBent_29 (by decide) (fun hq1 => ?_) (fun hq1 => ?_)
      · replace hw := hw.1 hq1
        refine V_sub (lv' := [(0, va_rf (some v0)), (2, va_rf (v2))]) [0, 2] rfl ?_
        exact vb_Server_whyNotBent_86 hc hq  _ _ _ hw
      · replace hw := hw.2 hq1
        refine V_aload_n hc 2 d_Server_whyNotBent_32 rfl rfl ?_
        obtain ⟨a8, q9, hw⟩ := hw
        obtain ⟨q10, hw⟩ := hw
        refine V_get (v := .int (mm_I h a8 0)) hc gf_Server_346 q9 q10 rfl d_Server_whyNotBent_33 ?_
        refine V_if_eq (tgt := 49) hc d_Server_whyNotBent_36 (by decide) (fun hq1 => ?_) (fun hq1 => ?_)
        · replace hw := hw.1 hq1
          refine V_sub (lv' := []) [] rfl ?_
          exact vb_Server_whyNotBent_49 hc hq  _ hw
        · replace hw := hw.2 hq1
          refine V_aload_n hc 0 d_Server_whyNotBent_39 rfl rfl ?_
          refine V_get (v := va_rf (mm_P h v0 2)) hc gf_Server_26 rfl q4 rfl d_Server_whyNotBent_40 ?_
          refine V_callV (rm' := rm_Request_textMayBeName) (As := []) (rest := []) (n := 0) (cn := 8) hc q6 q7 (sat_Request_textMayBeName (eG E) _ _ _ hw) rfl cv_Server_376 (gw_of (tw_3 (List.mem_of_getElem? (i := 171) rfl)) rfl) ss_Request_textMayBeName rfl ⟨by decide, by decide⟩ (by decide) (by decide) rfl (by simp [cat_rf, cat_i, cat_l]) d_Server_whyNotBent_43 (fun r0 h11 hw => ?_)
          obtain ⟨r12, rfl, hw⟩ := hw
          refine V_wide (cs' := 0) (sl' := 0) (by decide) (by decide) ?_
          refine V_st (st' := [.int (r12)]) rfl ?_
          refine V_if_ne (tgt := 52) hc d_Server_whyNotBent_46 (by decide) (fun hq1 => ?_) (fun hq1 => ?_)
          · replace hw := hw.1 hq1
            refine V_aload_n hc 0 d_Server_whyNotBent_52 rfl rfl ?_
            obtain ⟨q13, hw⟩ := hw
            refine V_get (v := va_rf (mm_P h11 v0 4)) hc gf_Server_40 rfl q13 rfl d_Server_whyNotBent_53 ?_
            refine V_aload_n hc 2 d_Server_whyNotBent_56 rfl rfl ?_
            obtain ⟨a14, q15, hw⟩ := hw
            obtain ⟨q16, hw⟩ := hw
            refine V_get (v := .int (mm_I h11 a14 1)) hc gf_Server_188 q15 q16 rfl d_Server_whyNotBent_57 ?_
            refine V_aload_n hc 0 d_Server_whyNotBent_60 rfl rfl ?_
            refine V_get (v := va_rf (mm_P h11 v0 2)) hc gf_Server_26 rfl q13 rfl d_Server_whyNotBent_61 ?_
            obtain ⟨a17, q18, hw⟩ := hw
            obtain ⟨q19, hw⟩ := hw
            refine V_callV (rm' := rm_Tree_named) (As := [.int (mm_I h11 a14 1), va_rf (mm_P h11 v0 2)]) (rest := []) (n := 2) (cn := 12) hc q18 q19 (sat_Tree_named (eG E) _ _ _ _ _ hw) rfl cv_Server_354 (gw_of (tw_3 (List.mem_of_getElem? (i := 143) rfl)) rfl) ss_Tree_named rfl ⟨by decide, by decide⟩ (by decide) (by decide) rfl (by simp [cat_rf, cat_i, cat_l]) d_Server_whyNotBent_64 (fun r0 h20 hw => ?_)
            obtain ⟨r21, rfl, hw⟩ := hw
            refine V_wide (cs' := 0) (sl' := 0) (by decide) (by decide) ?_
            refine V_st (st' := [va_rf (r21)]) rfl ?_
            refine V_astore_n (i := 3) (lv' := [(3, va_rf (r21)), (0, va_rf (some v0)), (1, va_rf (v1)), (2, va_rf (v2))]) hc d_Server_whyNotBent_67 rfl (by decide) (by simp [cat_rf, cat_i, cat_l]) ?_
            refine V_aload_n hc 0 d_Server_whyNotBent_68 rfl rfl ?_
            refine V_ifnull (tgt := 86) hc d_Server_whyNotBent_69 (by decide) (fun hq1 => ?_) (fun a22 hq1 => ?_)
            · replace hw := hw.1 hq1
              refine V_sub (lv' := [(0, va_rf (some v0)), (2, va_rf (v2))]) [1, 3] rfl ?_
              exact vb_Server_whyNotBent_86 hc hq  _ _ _ hw
            · replace hw := hw.2 a22 hq1
              refine V_aload_n hc 0 d_Server_whyNotBent_72 rfl rfl ?_
              obtain ⟨a23, q24, hw⟩ := hw
              obtain ⟨q25, hw⟩ := hw
              refine V_get (v := .int (mm_I h20 a23 0)) hc gf_Server_346 q24 q25 rfl d_Server_whyNotBent_73 ?_
              refine V_aload_n hc 3 d_Server_whyNotBent_76 rfl rfl ?_
              obtain ⟨a26, q27, hw⟩ := hw
              obtain ⟨q28, hw⟩ := hw
              refine V_get (v := .int (mm_I h20 a26 0)) hc gf_Server_346 q27 q28 rfl d_Server_whyNotBent_77 ?_
              refine V_icmp_eq (tgt := 86) hc d_Server_whyNotBent_80 (by decide) (fun hq1 => ?_) (fun hq1 => ?_)
              · replace hw := hw.1 hq1
                refine V_sub (lv' := [(0, va_rf (some v0)), (2, va_rf (v2))]) [1, 3] rfl ?_
                exact vb_Server_whyNotBent_86 hc hq  _ _ _ hw
              · replace hw := hw.2 hq1
                refine V_bipush (v := 7) hc d_Server_whyNotBent_83 (by decide) ?_
                exact V_iret hc hq ⟨_, rfl, hw⟩ (by decide) (by decide) d_Server_whyNotBent_85
          · replace hw := hw.2 hq1
            refine V_sub (lv' := []) [] rfl ?_
            exact vb_Server_whyNotBent_49 hc hq  _ hw
    · replace hw := hw.2 hq1
      refine V_iconst (v := 5) hc d_Server_whyNotBent_20 (by decide) ?_
      exact V_iret hc hq ⟨_, rfl, hw⟩ (by decide) (by decide) d_Server_whyNotBent_21
  · replace hw := hw.2 hq1
    refine V_iconst (v := 3) hc d_Server_whyNotBent_8 (by decide) ?_
    exact V_iret hc hq ⟨_, rfl, hw⟩ (by decide) (by decide) d_Server_whyNotBent_9
def wq_Server_whyNotBent (ge : Nat → Nat) (v0 : Nat) (v1 : Option Nat) (v2 : Option Nat) (h : mm_M) (Z : Int32 → mm_M → Prop) : Prop := wq_Server_whyNotBent_0 ge v0 v1 v2 h Z
theorem sat_Server_whyNotBent (G : mm_G) (v0 : Nat) (v1 : Option Nat) (v2 : Option Nat) (h : mm_M) (Z : Int32 → mm_M → Prop) (hw : wq_Server_whyNotBent (mm_ge G) v0 v1 v2 h Z) : mm_Met G y_Server_whyNotBent c_Server_whyNotBent 4 (some (.int)) rm_Server_whyNotBent [va_rf (some v0), va_rf (v1), va_rf (v2)] h (pI Z) := by
  refine mm_intro (own := "EpochServer") (by decide) rfl (by simp [lg_sl, cat_rf, cat_i, cat_l]) (fun E e1 hc hq hi => ?_)
  subst e1
  have e2 : lv_args 0 [va_rf (some v0), va_rf (v1), va_rf (v2)] = [(0, va_rf (some v0)), (1, va_rf (v1)), (2, va_rf (v2))] := by simp [lv_args, cat_rf, cat_i, cat_l]
  rw [e2]
  refine V_sub (lv' := [(0, va_rf (some v0)), (1, va_rf (v1)), (2, va_rf (v2))]) [0, 1, 2] rfl ?_
  exact vb_Server_whyNotBent_0 hc hq v0 v1 v2 h hw
/-! Server.bent(LEpochServer$Node;)LEpochServer$Node; -/
abbrev rm_Server_bent : Room := { frames := 3, cells := 4, slots := 590, locals := 86 }
def wq_Server_bent_150  (ge : Nat → Nat) (v2 : Option Nat) (v3 : Option Nat) (v4 : Int32) (s0 : Int32) (h : mm_M) (Z : Option Nat → mm_M → Prop) : Prop :=
  ∀ h1 : mm_M, h1 = mm_nw h 8 0 → ∀ a2 : Nat, a2 = mm_z h → ∃ a3, v2 = some a3 ∧ mm_k h1 (a3) = kd_Node ∧ wq_Node_init ge (a2) (mm_I h1 a3 0) (mm_I h1 a3 1) (v3) (v4) (mm_I h1 a3 4) (s0) (mm_P h1 a3 6) h1 (fun h6 : mm_M => Z (some a2) h6)
def wq_Server_bent_123  (ge : Nat → Nat) (v0 : Nat) (v2 : Option Nat) (v3 : Option Nat) (s0 : Int32) (h : mm_M) (Z : Option Nat → mm_M → Prop) : Prop :=
  mm_k h (v0) = kd_Server ∧ ∃ a2, mm_P h v0 2 = some a2 ∧ mm_k h (a2) = kd_Request ∧ (((mm_I h a2 12 : Int32) = ((-1) : Int32) → ∃ a5, v2 = some a5 ∧ mm_k h (a5) = kd_Node ∧ wq_Server_bent_150  ge (v2) (v3) (s0) (mm_I h a5 5) h Z) ∧ (¬ (mm_I h a2 12 : Int32) = ((-1) : Int32) → wq_Server_bent_150  ge (v2) (v3) (s0) (mm_I h a2 12) h Z))
def wq_Server_bent_97  (ge : Nat → Nat) (v0 : Nat) (v2 : Option Nat) (s0 : Option Nat) (h : mm_M) (Z : Option Nat → mm_M → Prop) : Prop :=
  mm_k h (v0) = kd_Server ∧ ∃ a2, mm_P h v0 2 = some a2 ∧ mm_k h (a2) = kd_Request ∧ (((mm_I h a2 11 : Int32) = ((-1) : Int32) → ∃ a5, v2 = some a5 ∧ mm_k h (a5) = kd_Node ∧ wq_Server_bent_123  ge (v0) (v2) (s0) (mm_I h a5 3) h Z) ∧ (¬ (mm_I h a2 11 : Int32) = ((-1) : Int32) → wq_Server_bent_123  ge (v0) (v2) (s0) (mm_I h a2 11) h Z))
def wq_Server_bent_73  (ge : Nat → Nat) (v0 : Nat) (v2 : Option Nat) (h : mm_M) (Z : Option Nat → mm_M → Prop) : Prop :=
  mm_k h (v0) = kd_Server ∧ ∃ a2, mm_P h v0 2 = some a2 ∧ mm_k h (a2) = kd_Request ∧ (((mm_I h a2 15) ≤ 0 → ∃ a5, v2 = some a5 ∧ mm_k h (a5) = kd_Node ∧ wq_Server_bent_97  ge (v0) (v2) (mm_P h a5 2) h Z) ∧ (¬ (mm_I h a2 15) ≤ 0 → wq_Request_copyText ge (a2) h (fun (r9 : Option Nat) (h8 : mm_M) => wq_Server_bent_97  ge (v0) (v2) (r9) h8 Z)))
def wq_Server_bent_0  (ge : Nat → Nat) (v0 : Nat) (v1 : Option Nat) (h : mm_M) (Z : Option Nat → mm_M → Prop) : Prop :=
  mm_k h (v0) = kd_Server ∧ ∃ a2, mm_P h v0 2 = some a2 ∧ mm_k h (a2) = kd_Request ∧ (((lg_cmp (mm_L h a2 13) ((-1))) = 0 → wq_Server_bent_73  ge (v0) (v1) h Z) ∧ (¬ (lg_cmp (mm_L h a2 13) ((-1))) = 0 → ∃ a5, v1 = some a5 ∧ mm_k h (a5) = kd_Node ∧ ∃ a8, mm_P h a5 6 = some a8 ∧ mm_k h (a8) = ka_B ∧ (((lg_cmp (mm_L h a2 13) (Int32.toInt64 (Nat.toInt32 (mm_n h a8)))) = 0 → wq_Server_bent_73  ge (v0) (v1) h Z) ∧ (¬ (lg_cmp (mm_L h a2 13) (Int32.toInt64 (Nat.toInt32 (mm_n h a8)))) = 0 → wq_Server_isAbove ge (mm_L h a2 13) (512) h (fun (r12 : Int32) (h11 : mm_M) => ((¬ (r12) = 0 → wq_Server_bent_73  ge (v0) (v1) h11 Z) ∧ ((r12) = 0 → ∃ a13, v1 = some a13 ∧ mm_k h11 (a13) = kd_Node ∧ mm_k h11 (v0) = kd_Server ∧ ∃ a17, mm_P h11 v0 2 = some a17 ∧ mm_k h11 (a17) = kd_Request ∧ wq_Arrays_copyOf_9075b ge (mm_P h11 a13 6) (Int64.toInt32 (mm_L h11 a17 13)) h11 (fun (r21 : Option Nat) (h20 : mm_M) => mm_k h20 (v0) = kd_Server ∧ ∃ a23, v1 = some a23 ∧ mm_k h20 (a23) = kd_Node ∧ wq_Node_withData ge (a23) (r21) (mm_I h20 v0 9) h20 (fun (r27 : Option Nat) (h26 : mm_M) => wq_Server_bent_73  ge (v0) (r27) h26 Z)))))))))
set_option maxRecDepth 100000 in
set_option maxHeartbeats 4000000 in
theorem vb_Server_bent_150 {E : mm_E} {Z : Option Nat → mm_M → Prop} (hc : cx E "EpochServer" c_Server_bent 6 (some ((.object "EpochServer$Node"))) rm_Server_bent) (hq : cq E rm_Server_bent (pP Z))  (v2 : Option Nat) (v3 : Option Nat) (v4 : Int32) (s0 : Int32) (h : mm_M) (hw : wq_Server_bent_150  (mm_ge (eG E)) v2 v3 v4 s0 h Z) : V E 6 3 583 h 150 [(2, va_rf (v2)), (3, va_rf (v3)), (4, .int (v4))] [.int (s0)] := by
  unfold wq_Server_bent_150 at hw
  refine V_istore (i := 5) (lv' := [(5, .int (s0)), (2, va_rf (v2)), (3, va_rf (v3)), (4, .int (v4))]) hc d_Server_bent_150 (by decide) rfl ?_
  obtain ⟨h1, eq_h1⟩ : ∃ x, x = mm_nw h 8 0 := ⟨_, rfl⟩
  replace hw := hw _ eq_h1
  refine V_new (cn := 7) (N := 7) (r := (R_Node, T_Node, 7, t_Node)) hc rfl rfl (gw_of (tw_2 (List.mem_of_getElem? (i := 51) rfl)) rfl) (gw_of (tw_2 (List.mem_of_getElem? (i := 52) rfl)) rfl) (gw_of (tw_1 (List.mem_of_getElem? (i := 13) rfl)) rfl) (by decide) (by decide) (by decide) d_Server_bent_152 ?_
  rw [← eq_h1]
  obtain ⟨a2, eq_a2⟩ : ∃ x, x = mm_z h := ⟨_, rfl⟩
  replace hw := hw _ eq_a2
  rw [← eq_a2]
  refine V_wide (cs' := 4) (sl' := 590) (by decide) (by decide) ?_
  refine V_dup hc d_Server_bent_155 (cat_rf _) ?_
  refine V_aload_n hc 1 d_Server_bent_156 rfl rfl ?_
  obtain ⟨a3, q4, hw⟩ := hw
  obtain ⟨q5, hw⟩ := hw
  refine V_get (v := .int (mm_I h1 a3 0)) hc gf_Server_346 q4 q5 rfl d_Server_bent_157 ?_
  refine V_aload_n hc 1 d_Server_bent_160 rfl rfl ?_
  refine V_get (v := .int (mm_I h1 a3 1)) hc gf_Server_188 q4 q5 rfl d_Server_bent_161 ?_
  refine V_aload_n hc 2 d_Server_bent_164 rfl rfl ?_
  refine V_iload hc 3 d_Server_bent_165 rfl ?_
  refine V_aload_n hc 1 d_Server_bent_167 rfl rfl ?_
  refine V_get (v := .int (mm_I h1 a3 4)) hc gf_Server_191 q4 q5 rfl d_Server_bent_168 ?_
  refine V_iload hc 0 d_Server_bent_171 rfl ?_
  refine V_aload_n hc 1 d_Server_bent_173 rfl rfl ?_
  refine V_get (v := va_rf (mm_P h1 a3 6)) hc gf_Server_207 q4 q5 rfl d_Server_bent_174 ?_
  refine V_callI (rm' := rm_Node_init) (As := [.int (mm_I h1 a3 0), .int (mm_I h1 a3 1), va_rf (v3), .int (v4), .int (mm_I h1 a3 4), .int (s0), va_rf (mm_P h1 a3 6)]) (rest := [va_rf (some a2)]) (n := 7) hc rfl (sat_Node_init (eG E) _ _ _ _ _ _ _ _ _ _ hw) cv_Server_91 (gw_of (tw_2 (List.mem_of_getElem? (i := 59) rfl)) rfl) rfl rfl ⟨by decide, by decide⟩ (by decide) (by decide) rfl (by simp [cat_rf, cat_i, cat_l]) d_Server_bent_177 (fun r0 h6 hw => ?_)
  obtain ⟨rfl, hw⟩ := hw
  refine V_wide (cs' := 4) (sl' := 590) (by decide) (by decide) ?_
  refine V_st (st' := [va_rf (some a2)]) rfl ?_
  exact V_aret hc hq (by first | exact Or.inl ⟨_, rfl⟩ | exact Or.inr ⟨_, rfl⟩) ⟨_, rfl, hw⟩ (by decide) (by decide) d_Server_bent_180
set_option maxRecDepth 100000 in
set_option maxHeartbeats 4000000 in
theorem vb_Server_bent_123 {E : mm_E} {Z : Option Nat → mm_M → Prop} (hc : cx E "EpochServer" c_Server_bent 6 (some ((.object "EpochServer$Node"))) rm_Server_bent) (hq : cq E rm_Server_bent (pP Z))  (v0 : Nat) (v2 : Option Nat) (v3 : Option Nat) (s0 : Int32) (h : mm_M) (hw : wq_Server_bent_123  (mm_ge (eG E)) v0 v2 v3 s0 h Z) : V E 6 3 583 h 123 [(0, va_rf (some v0)), (2, va_rf (v2)), (3, va_rf (v3))] [.int (s0)] := by
  unfold wq_Server_bent_123 at hw
  refine V_istore (i := 4) (lv' := [(4, .int (s0)), (0, va_rf (some v0)), (2, va_rf (v2)), (3, va_rf (v3))]) hc d_Server_bent_123 (by decide) (by simp [cat_rf, cat_i, cat_l]) ?_
  refine V_aload_n hc 1 d_Server_bent_125 rfl rfl ?_
  obtain ⟨q1, hw⟩ := hw
  refine V_get (v := va_rf (mm_P h v0 2)) hc gf_Server_26 rfl q1 rfl d_Server_bent_126 ?_
  obtain ⟨a2, q3, hw⟩ := hw
  obtain ⟨q4, hw⟩ := hw
  refine V_get (v := .int (mm_I h a2 12)) hc gf_Server_473 q3 q4 rfl d_Server_bent_129 ?_
  refine V_iconst (v := (-1)) hc d_Server_bent_132 (by decide) ?_
  refine V_icmp_eq (tgt := 146) hc d_Server_bent_133 (by decide) (fun hq1 => ?_) (fun hq1 => ?_)
  · replace hw := hw.1 hq1
    refine V_aload_n hc 2 d_Server_bent_146 rfl rfl ?_
    obtain ⟨a5, q6, hw⟩ := hw
    obtain ⟨q7, hw⟩ := hw
    refine V_get (v := .int (mm_I h a5 5)) hc gf_Server_197 q6 q7 rfl d_Server_bent_147 ?_
    refine V_sub (lv' := [(2, va_rf (v2)), (3, va_rf (v3)), (4, .int (s0))]) [2, 3, 0] rfl ?_
    exact vb_Server_bent_150 hc hq  _ _ _ _ _ hw
  · replace hw := hw.2 hq1
    refine V_aload_n hc 1 d_Server_bent_136 rfl rfl ?_
    refine V_get (v := va_rf (mm_P h v0 2)) hc gf_Server_26 rfl q1 rfl d_Server_bent_137 ?_
    refine V_get (v := .int (mm_I h a2 12)) hc gf_Server_473 q3 q4 rfl d_Server_bent_140 ?_
    refine V_goto (tgt := 150) hc d_Server_bent_143 (by decide) ?_
    refine V_sub (lv' := [(2, va_rf (v2)), (3, va_rf (v3)), (4, .int (s0))]) [2, 3, 0] rfl ?_
    exact vb_Server_bent_150 hc hq  _ _ _ _ _ hw
set_option maxRecDepth 100000 in
set_option maxHeartbeats 4000000 in
theorem vb_Server_bent_97 {E : mm_E} {Z : Option Nat → mm_M → Prop} (hc : cx E "EpochServer" c_Server_bent 6 (some ((.object "EpochServer$Node"))) rm_Server_bent) (hq : cq E rm_Server_bent (pP Z))  (v0 : Nat) (v2 : Option Nat) (s0 : Option Nat) (h : mm_M) (hw : wq_Server_bent_97  (mm_ge (eG E)) v0 v2 s0 h Z) : V E 6 3 583 h 97 [(0, va_rf (some v0)), (2, va_rf (v2))] [va_rf (s0)] := by
  unfold wq_Server_bent_97 at hw
  refine V_astore_n (i := 3) (lv' := [(3, va_rf (s0)), (0, va_rf (some v0)), (2, va_rf (v2))]) hc d_Server_bent_97 rfl (by decide) (by simp [cat_rf, cat_i, cat_l]) ?_
  refine V_aload_n hc 1 d_Server_bent_98 rfl rfl ?_
  obtain ⟨q1, hw⟩ := hw
  refine V_get (v := va_rf (mm_P h v0 2)) hc gf_Server_26 rfl q1 rfl d_Server_bent_99 ?_
  obtain ⟨a2, q3, hw⟩ := hw
  obtain ⟨q4, hw⟩ := hw
  refine V_get (v := .int (mm_I h a2 11)) hc gf_Server_379 q3 q4 rfl d_Server_bent_102 ?_
  refine V_iconst (v := (-1)) hc d_Server_bent_105 (by decide) ?_
  refine V_icmp_eq (tgt := 119) hc d_Server_bent_106 (by decide) (fun hq1 => ?_) (fun hq1 => ?_)
  · replace hw := hw.1 hq1
    refine V_aload_n hc 2 d_Server_bent_119 rfl rfl ?_
    obtain ⟨a5, q6, hw⟩ := hw
    obtain ⟨q7, hw⟩ := hw
    refine V_get (v := .int (mm_I h a5 3)) hc gf_Server_194 q6 q7 rfl d_Server_bent_120 ?_
    refine V_sub (lv' := [(0, va_rf (some v0)), (2, va_rf (v2)), (3, va_rf (s0))]) [1, 2, 0] rfl ?_
    exact vb_Server_bent_123 hc hq  _ _ _ _ _ hw
  · replace hw := hw.2 hq1
    refine V_aload_n hc 1 d_Server_bent_109 rfl rfl ?_
    refine V_get (v := va_rf (mm_P h v0 2)) hc gf_Server_26 rfl q1 rfl d_Server_bent_110 ?_
    refine V_get (v := .int (mm_I h a2 11)) hc gf_Server_379 q3 q4 rfl d_Server_bent_113 ?_
    refine V_goto (tgt := 123) hc d_Server_bent_116 (by decide) ?_
    refine V_sub (lv' := [(0, va_rf (some v0)), (2, va_rf (v2)), (3, va_rf (s0))]) [1, 2, 0] rfl ?_
    exact vb_Server_bent_123 hc hq  _ _ _ _ _ hw
set_option maxRecDepth 100000 in
set_option maxHeartbeats 4000000 in
theorem vb_Server_bent_73 {E : mm_E} {Z : Option Nat → mm_M → Prop} (hc : cx E "EpochServer" c_Server_bent 6 (some ((.object "EpochServer$Node"))) rm_Server_bent) (hq : cq E rm_Server_bent (pP Z))  (v0 : Nat) (v2 : Option Nat) (h : mm_M) (hw : wq_Server_bent_73  (mm_ge (eG E)) v0 v2 h Z) : V E 6 2 519 h 73 [(0, va_rf (some v0)), (2, va_rf (v2))] [] := by
  unfold wq_Server_bent_73 at hw
  refine V_aload_n hc 0 d_Server_bent_73 rfl rfl ?_
  obtain ⟨q1, hw⟩ := hw
  refine V_get (v := va_rf (mm_P h v0 2)) hc gf_Server_26 rfl q1 rfl d_Server_bent_74 ?_
  obtain ⟨a2, q3, hw⟩ := hw
  obtain ⟨q4, hw⟩ := hw
  refine V_get (v := .int (mm_I h a2 15)) hc gf_Server_467 q3 q4 rfl d_Server_bent_77 ?_
  refine V_if_le (tgt := 93) hc d_Server_bent_80 (by decide) (fun hq1 => ?_) (fun hq1 => ?_)
  · replace hw := hw.1 hq1
    refine V_aload_n hc 1 d_Server_bent_93 rfl rfl ?_
    obtain ⟨a5, q6, hw⟩ := hw
    obtain ⟨q7, hw⟩ := hw
    refine V_get (v := va_rf (mm_P h a5 2)) hc gf_Server_210 q6 q7 rfl d_Server_bent_94 ?_
    refine V_sub (lv' := [(0, va_rf (some v0)), (2, va_rf (v2))]) [0, 1] rfl ?_
    refine V_wide (cs' := 3) (sl' := 583) (by omega) (by omega) ?_
    exact vb_Server_bent_97 hc hq  _ _ _ _ hw
  · replace hw := hw.2 hq1
    refine V_aload_n hc 0 d_Server_bent_83 rfl rfl ?_
    refine V_get (v := va_rf (mm_P h v0 2)) hc gf_Server_26 rfl q1 rfl d_Server_bent_84 ?_
    refine V_callV (rm' := rm_Request_copyText) (As := []) (rest := []) (n := 0) (cn := 8) hc q3 q4 (sat_Request_copyText (eG E) _ _ _ hw) rfl cv_Server_382 (gw_of (tw_3 (List.mem_of_getElem? (i := 175) rfl)) rfl) ss_Request_copyText rfl ⟨by decide, by decide⟩ (by decide) (by decide) rfl (by simp [cat_rf, cat_i, cat_l]) d_Server_bent_87 (fun r0 h8 hw => ?_)
    obtain ⟨r9, rfl, hw⟩ := hw
    refine V_wide (cs' := 3) (sl' := 583) (by decide) (by decide) ?_
    refine V_st (st' := [va_rf (r9)]) rfl ?_
    refine V_goto (tgt := 97) hc d_Server_bent_90 (by decide) ?_
    refine V_sub (lv' := [(0, va_rf (some v0)), (2, va_rf (v2))]) [0, 1] rfl ?_
    exact vb_Server_bent_97 hc hq  _ _ _ _ hw
set_option maxRecDepth 100000 in
set_option maxHeartbeats 4000000 in
theorem vb_Server_bent_0 {E : mm_E} {Z : Option Nat → mm_M → Prop} (hc : cx E "EpochServer" c_Server_bent 6 (some ((.object "EpochServer$Node"))) rm_Server_bent) (hq : cq E rm_Server_bent (pP Z))  (v0 : Nat) (v1 : Option Nat) (h : mm_M) (hw : wq_Server_bent_0  (mm_ge (eG E)) v0 v1 h Z) : V E 6 0 0 h 0 [(0, va_rf (some v0)), (1, va_rf (v1))] [] := by
  unfold wq_Server_bent_0 at hw
  refine V_aload_n hc 1 d_Server_bent_0 rfl rfl ?_
  refine V_astore_n (i := 2) (lv' := [(2, va_rf (v1)), (0, va_rf (some v0)), (1, va_rf (v1))]) hc d_Server_bent_1 rfl (by decide) (by simp [cat_rf, cat_i, cat_l]) ?_
  refine V_aload_n hc 1 d_Server_bent_2 rfl rfl ?_
  obtain ⟨q1, hw⟩ := hw
  refine V_get (v := va_rf (mm_P h v0 2)) hc gf_Server_26 rfl q1 rfl d_Server_bent_3 ?_
  obtain ⟨a2, q3, hw⟩ := hw
  obtain ⟨q4, hw⟩ := hw
  refine V_get (v := .long (mm_L h a2 13)) hc gf_Server_389 q3 q4 rfl d_Server_bent_6 ?_
  refine V_ldc2 (v := (-1)) hc (gw_of (tw_4 (List.mem_of_getElem? (i := 15) rfl)) rfl) d_Server_bent_9 ?_
  refine V_lcmp hc d_Server_bent_12 ?_
  refine V_if_eq (tgt := 73) hc d_Server_bent_13 (by decide) (fun hq1 => ?_) (fun hq1 => ?_)
  · replace hw := hw.1 hq1
    refine V_sub (lv' := [(0, va_rf (some v0)), (2, va_rf (v1))]) [1, 0] rfl ?_
    refine V_wide (cs' := 2) (sl' := 519) (by omega) (by omega) ?_
    exact vb_Server_bent_73 hc hq  _ _ _ hw
  · replace hw := hw.2 hq1
    refine V_aload_n hc 1 d_Server_bent_16 rfl rfl ?_
    refine V_get (v := va_rf (mm_P h v0 2)) hc gf_Server_26 rfl q1 rfl d_Server_bent_17 ?_
    refine V_get (v := .long (mm_L h a2 13)) hc gf_Server_389 q3 q4 rfl d_Server_bent_20 ?_
    refine V_aload_n hc 2 d_Server_bent_23 rfl rfl ?_
    obtain ⟨a5, q6, hw⟩ := hw
    obtain ⟨q7, hw⟩ := hw
    refine V_get (v := va_rf (mm_P h a5 6)) hc gf_Server_207 q6 q7 rfl d_Server_bent_24 ?_
    obtain ⟨a8, q9, hw⟩ := hw
    obtain ⟨q10, hw⟩ := hw
    refine V_alen (t := 1) (ty := .byte) hc rfl q9 q10 d_Server_bent_27 ?_
    refine V_i2l hc d_Server_bent_28 ?_
    refine V_lcmp hc d_Server_bent_29 ?_
    refine V_if_eq (tgt := 73) hc d_Server_bent_30 (by decide) (fun hq1 => ?_) (fun hq1 => ?_)
    · replace hw := hw.1 hq1
      refine V_sub (lv' := [(0, va_rf (some v0)), (2, va_rf (v1))]) [1, 0] rfl ?_
      refine V_wide (cs' := 2) (sl' := 519) (by omega) (by omega) ?_
      exact vb_Server_bent_73 hc hq  _ _ _ hw
    · replace hw := hw.2 hq1
      refine V_aload_n hc 1 d_Server_bent_33 rfl rfl ?_
      refine V_get (v := va_rf (mm_P h v0 2)) hc gf_Server_26 rfl q1 rfl d_Server_bent_34 ?_
      refine V_get (v := .long (mm_L h a2 13)) hc gf_Server_389 q3 q4 rfl d_Server_bent_37 ?_
      refine V_sipush (v := 512) hc d_Server_bent_40 (by decide) ?_
      refine V_callS (rm' := rm_Server_isAbove) (As := [.long (mm_L h a2 13), .int (512)]) (rest := []) (n := 2) hc (sat_Server_isAbove (eG E) _ _ _ _ hw) cv_Server_393 (gw_of (tw_3 (List.mem_of_getElem? (i := 214) rfl)) rfl) rfl ⟨by decide, by decide⟩ (by decide) (by decide) rfl (by simp [cat_rf, cat_i, cat_l]) d_Server_bent_43 (fun r0 h11 hw => ?_)
      obtain ⟨r12, rfl, hw⟩ := hw
      refine V_wide (cs' := 0) (sl' := 0) (by decide) (by decide) ?_
      refine V_st (st' := [.int (r12)]) rfl ?_
      refine V_if_ne (tgt := 73) hc d_Server_bent_46 (by decide) (fun hq1 => ?_) (fun hq1 => ?_)
      · replace hw := hw.1 hq1
        refine V_sub (lv' := [(0, va_rf (some v0)), (2, va_rf (v1))]) [1, 0] rfl ?_
        refine V_wide (cs' := 2) (sl' := 519) (by omega) (by omega) ?_
        exact vb_Server_bent_73 hc hq  _ _ _ hw
      · replace hw := hw.2 hq1
        refine V_aload_n hc 2 d_Server_bent_49 rfl rfl ?_
        refine V_aload_n hc 2 d_Server_bent_50 rfl rfl ?_
        obtain ⟨a13, q14, hw⟩ := hw
        obtain ⟨q15, hw⟩ := hw
        refine V_get (v := va_rf (mm_P h11 a13 6)) hc gf_Server_207 q14 q15 rfl d_Server_bent_51 ?_
        refine V_aload_n hc 1 d_Server_bent_54 rfl rfl ?_
        obtain ⟨q16, hw⟩ := hw
        refine V_get (v := va_rf (mm_P h11 v0 2)) hc gf_Server_26 rfl q16 rfl d_Server_bent_55 ?_
        obtain ⟨a17, q18, hw⟩ := hw
        obtain ⟨q19, hw⟩ := hw
        refine V_get (v := .long (mm_L h11 a17 13)) hc gf_Server_389 q18 q19 rfl d_Server_bent_58 ?_
        refine V_l2i hc d_Server_bent_61 ?_
        refine V_callS (rm' := rm_Arrays_copyOf_9075b) (As := [va_rf (mm_P h11 a13 6), .int (Int64.toInt32 (mm_L h11 a17 13))]) (rest := [va_rf (v1)]) (n := 2) hc (sat_Arrays_copyOf_9075b (eG E) _ _ _ _ hw) cv_Server_428 (gw_of (tw_3 (List.mem_of_getElem? (i := 228) rfl)) rfl) rfl ⟨by decide, by decide⟩ (by decide) (by decide) rfl (by simp [cat_rf, cat_i, cat_l]) d_Server_bent_62 (fun r0 h20 hw => ?_)
        obtain ⟨r21, rfl, hw⟩ := hw
        refine V_wide (cs' := 1) (sl' := 512) (by decide) (by decide) ?_
        refine V_st (st' := [va_rf (r21), va_rf (v1)]) rfl ?_
        refine V_aload_n hc 1 d_Server_bent_65 rfl rfl ?_
        obtain ⟨q22, hw⟩ := hw
        refine V_get (v := .int (mm_I h20 v0 9)) hc gf_Server_69 rfl q22 rfl d_Server_bent_66 ?_
        obtain ⟨a23, q24, hw⟩ := hw
        obtain ⟨q25, hw⟩ := hw
        refine V_callV (rm' := rm_Node_withData) (As := [va_rf (r21), .int (mm_I h20 v0 9)]) (rest := []) (n := 2) (cn := 7) hc q24 q25 (sat_Node_withData (eG E) _ _ _ _ _ hw) rfl cv_Server_369 (gw_of (tw_3 (List.mem_of_getElem? (i := 112) rfl)) rfl) ss_Node_withData rfl ⟨by decide, by decide⟩ (by decide) (by decide) rfl (by simp [cat_rf, cat_i, cat_l]) d_Server_bent_69 (fun r0 h26 hw => ?_)
        obtain ⟨r27, rfl, hw⟩ := hw
        refine V_wide (cs' := 2) (sl' := 519) (by decide) (by decide) ?_
        refine V_st (st' := [va_rf (r27)]) rfl ?_
        refine V_astore_n (i := 2) (lv' := [(2, va_rf (r27)), (0, va_rf (some v0)), (1, va_rf (v1))]) hc d_Server_bent_72 rfl (by decide) (by simp [cat_rf, cat_i, cat_l]) ?_
        refine V_sub (lv' := [(0, va_rf (some v0)), (2, va_rf (r27))]) [1, 0] rfl ?_
        exact vb_Server_bent_73 hc hq  _ _ _ hw
def wq_Server_bent (ge : Nat → Nat) (v0 : Nat) (v1 : Option Nat) (h : mm_M) (Z : Option Nat → mm_M → Prop) : Prop := wq_Server_bent_0 ge v0 v1 h Z
theorem sat_Server_bent (G : mm_G) (v0 : Nat) (v1 : Option Nat) (h : mm_M) (Z : Option Nat → mm_M → Prop) (hw : wq_Server_bent (mm_ge G) v0 v1 h Z) : mm_Met G y_Server_bent c_Server_bent 6 (some ((.object "EpochServer$Node"))) rm_Server_bent [va_rf (some v0), va_rf (v1)] h (pP Z) := by
  refine mm_intro (own := "EpochServer") (by decide) rfl (by simp [lg_sl, cat_rf, cat_i, cat_l]) (fun E e1 hc hq hi => ?_)
  subst e1
  have e2 : lv_args 0 [va_rf (some v0), va_rf (v1)] = [(0, va_rf (some v0)), (1, va_rf (v1))] := by simp [lv_args, cat_rf, cat_i, cat_l]
  rw [e2]
  refine V_sub (lv' := [(0, va_rf (some v0)), (1, va_rf (v1))]) [0, 1] rfl ?_
  exact vb_Server_bent_0 hc hq v0 v1 h hw
/-! Server.wstat(LEpochServer$Fid;LEpochServer$Node;)I -/
abbrev rm_Server_wstat : Room := { frames := 4, cells := 4, slots := 590, locals := 111 }
def wq_Server_wstat_68  (ge : Nat → Nat)  (h : mm_M) (Z : Int32 → mm_M → Prop) : Prop :=
  Z (0) h
def wq_Server_wstat_0  (ge : Nat → Nat) (v0 : Nat) (v1 : Option Nat) (v2 : Option Nat) (h : mm_M) (Z : Int32 → mm_M → Prop) : Prop :=
  mm_k h (v0) = kd_Server ∧ wq_Server_whyNotBent ge (v0) (v1) (v2) h (fun (r3 : Int32) (h2 : mm_M) => (((r3) = 0 → mm_k h2 (v0) = kd_Server ∧ ∃ a5, mm_P h2 v0 2 = some a5 ∧ mm_k h2 (a5) = kd_Request ∧ wq_Request_asksNothing ge (a5) h2 (fun (r9 : Int32) (h8 : mm_M) => (((r9) = 0 → mm_k h8 (v0) = kd_Server ∧ wq_Server_bent ge (v0) (v2) h8 (fun (r12 : Option Nat) (h11 : mm_M) => ∃ a13, r12 = some a13 ∧ mm_k h11 (a13) = kd_Node ∧ wq_Node_isAs ge (a13) (v2) h11 (fun (r17 : Int32) (h16 : mm_M) => ((¬ (r17) = 0 → wq_Server_wstat_68  ge h16 Z) ∧ ((r17) = 0 → mm_k h16 (v0) = kd_Server ∧ ∃ a19, mm_P h16 v0 5 = some a19 ∧ mm_k h16 (a19) = kd_Journal ∧ wq_Journal_keep ge (a19) (mm_P h16 v0 4) h16 (fun h22 : mm_M => mm_k h22 (v0) = kd_Server ∧ ∃ a25, mm_P h22 v0 4 = some a25 ∧ mm_k h22 (a25) = kd_Tree ∧ wq_Tree_put ge (a25) (r12) h22 (fun h28 : mm_M => wq_Server_wstat_68  ge h28 Z))))))) ∧ (¬ (r9) = 0 → mm_k h8 (v0) = kd_Server ∧ ∃ a31, mm_P h8 v0 5 = some a31 ∧ mm_k h8 (a31) = kd_Journal ∧ wq_Journal_clear ge (a31) h8 (fun h34 : mm_M => Z (0) h34))))) ∧ (¬ (r3) = 0 → Z (r3) h2)))
set_option maxRecDepth 100000 in
set_option maxHeartbeats 4000000 in
theorem vb_Server_wstat_68 {E : mm_E} {Z : Int32 → mm_M → Prop} (hc : cx E "EpochServer" c_Server_wstat 5 (some (.int)) rm_Server_wstat) (hq : cq E rm_Server_wstat (pI Z))   (h : mm_M) (hw : wq_Server_wstat_68  (mm_ge (eG E))  h Z) : V E 5 4 590 h 68 [] [] := by
  unfold wq_Server_wstat_68 at hw
  refine V_iconst (v := 0) hc d_Server_wstat_68 (by decide) ?_
  exact V_iret hc hq ⟨_, rfl, hw⟩ (by decide) (by decide) d_Server_wstat_69
set_option maxRecDepth 100000 in
set_option maxHeartbeats 4000000 in
theorem vb_Server_wstat_0 {E : mm_E} {Z : Int32 → mm_M → Prop} (hc : cx E "EpochServer" c_Server_wstat 5 (some (.int)) rm_Server_wstat) (hq : cq E rm_Server_wstat (pI Z))  (v0 : Nat) (v1 : Option Nat) (v2 : Option Nat) (h : mm_M) (hw : wq_Server_wstat_0  (mm_ge (eG E)) v0 v1 v2 h Z) : V E 5 0 0 h 0 [(0, va_rf (some v0)), (1, va_rf (v1)), (2, va_rf (v2))] [] := by
  unfold wq_Server_wstat_0 at hw
  refine V_aload_n hc 0 d_Server_wstat_0 rfl rfl ?_
  refine V_aload_n hc 1 d_Server_wstat_1 rfl rfl ?_
  refine V_aload_n hc 2 d_Server_wstat_2 rfl rfl ?_
  obtain ⟨q1, hw⟩ := hw
  refine V_callV (rm' := rm_Server_whyNotBent) (As := [va_rf (v1), va_rf (v2)]) (rest := []) (n := 2) (cn := 1) hc rfl q1 (sat_Server_whyNotBent (eG E) _ _ _ _ _ hw) rfl cv_Server_450 (gw_of (tw_4 (List.mem_of_getElem? (i := 12) rfl)) rfl) ss_Server_whyNotBent rfl ⟨by decide, by decide⟩ (by decide) (by decide) rfl (by simp [cat_rf, cat_i, cat_l]) d_Server_wstat_3 (fun r0 h2 hw => ?_)
  obtain ⟨r3, rfl, hw⟩ := hw
  refine V_wide (cs' := 0) (sl' := 0) (by decide) (by decide) ?_
  refine V_st (st' := [.int (r3)]) rfl ?_
  refine V_istore_n (i := 3) (lv' := [(3, .int (r3)), (0, va_rf (some v0)), (1, va_rf (v1)), (2, va_rf (v2))]) hc d_Server_wstat_6 rfl (by decide) (by simp [cat_rf, cat_i, cat_l]) ?_
  refine V_iload_n hc 0 d_Server_wstat_7 rfl rfl ?_
  refine V_if_eq (tgt := 13) hc d_Server_wstat_8 (by decide) (fun hq1 => ?_) (fun hq1 => ?_)
  · replace hw := hw.1 hq1
    refine V_aload_n hc 1 d_Server_wstat_13 rfl rfl ?_
    obtain ⟨q4, hw⟩ := hw
    refine V_get (v := va_rf (mm_P h2 v0 2)) hc gf_Server_26 rfl q4 rfl d_Server_wstat_14 ?_
    obtain ⟨a5, q6, hw⟩ := hw
    obtain ⟨q7, hw⟩ := hw
    refine V_callV (rm' := rm_Request_asksNothing) (As := []) (rest := []) (n := 0) (cn := 8) hc q6 q7 (sat_Request_asksNothing (eG E) _ _ _ hw) rfl cv_Server_453 (gw_of (tw_4 (List.mem_of_getElem? (i := 17) rfl)) rfl) ss_Request_asksNothing rfl ⟨by decide, by decide⟩ (by decide) (by decide) rfl (by simp [cat_rf, cat_i, cat_l]) d_Server_wstat_17 (fun r0 h8 hw => ?_)
    obtain ⟨r9, rfl, hw⟩ := hw
    refine V_wide (cs' := 0) (sl' := 0) (by decide) (by decide) ?_
    refine V_st (st' := [.int (r9)]) rfl ?_
    refine V_if_eq (tgt := 32) hc d_Server_wstat_20 (by decide) (fun hq1 => ?_) (fun hq1 => ?_)
    · replace hw := hw.1 hq1
      refine V_aload_n hc 1 d_Server_wstat_32 rfl rfl ?_
      refine V_aload_n hc 3 d_Server_wstat_33 rfl rfl ?_
      obtain ⟨q10, hw⟩ := hw
      refine V_callV (rm' := rm_Server_bent) (As := [va_rf (v2)]) (rest := []) (n := 1) (cn := 1) hc rfl q10 (sat_Server_bent (eG E) _ _ _ _ hw) rfl cv_Server_456 (gw_of (tw_4 (List.mem_of_getElem? (i := 27) rfl)) rfl) ss_Server_bent rfl ⟨by decide, by decide⟩ (by decide) (by decide) rfl (by simp [cat_rf, cat_i, cat_l]) d_Server_wstat_34 (fun r0 h11 hw => ?_)
      obtain ⟨r12, rfl, hw⟩ := hw
      refine V_wide (cs' := 4) (sl' := 590) (by decide) (by decide) ?_
      refine V_st (st' := [va_rf (r12)]) rfl ?_
      refine V_astore (i := 4) (lv' := [(4, va_rf (r12)), (3, .int (r3)), (0, va_rf (some v0)), (1, va_rf (v1)), (2, va_rf (v2))]) hc d_Server_wstat_37 (by decide) rfl ?_
      refine V_aload hc 0 d_Server_wstat_39 rfl ?_
      refine V_aload_n hc 4 d_Server_wstat_41 rfl rfl ?_
      obtain ⟨a13, q14, hw⟩ := hw
      obtain ⟨q15, hw⟩ := hw
      refine V_callV (rm' := rm_Node_isAs) (As := [va_rf (v2)]) (rest := []) (n := 1) (cn := 7) hc q14 q15 (sat_Node_isAs (eG E) _ _ _ _ hw) rfl cv_Server_460 (gw_of (tw_4 (List.mem_of_getElem? (i := 30) rfl)) rfl) ss_Node_isAs rfl ⟨by decide, by decide⟩ (by decide) (by decide) rfl (by simp [cat_rf, cat_i, cat_l]) d_Server_wstat_42 (fun r0 h16 hw => ?_)
      obtain ⟨r17, rfl, hw⟩ := hw
      refine V_wide (cs' := 4) (sl' := 590) (by decide) (by decide) ?_
      refine V_st (st' := [.int (r17)]) rfl ?_
      refine V_if_ne (tgt := 68) hc d_Server_wstat_45 (by decide) (fun hq1 => ?_) (fun hq1 => ?_)
      · replace hw := hw.1 hq1
        refine V_sub (lv' := []) [] rfl ?_
        exact vb_Server_wstat_68 hc hq  _ hw
      · replace hw := hw.2 hq1
        refine V_aload_n hc 2 d_Server_wstat_48 rfl rfl ?_
        obtain ⟨q18, hw⟩ := hw
        refine V_get (v := va_rf (mm_P h16 v0 5)) hc gf_Server_47 rfl q18 rfl d_Server_wstat_49 ?_
        refine V_aload_n hc 2 d_Server_wstat_52 rfl rfl ?_
        refine V_get (v := va_rf (mm_P h16 v0 4)) hc gf_Server_40 rfl q18 rfl d_Server_wstat_53 ?_
        obtain ⟨a19, q20, hw⟩ := hw
        obtain ⟨q21, hw⟩ := hw
        refine V_callV (rm' := rm_Journal_keep) (As := [va_rf (mm_P h16 v0 4)]) (rest := []) (n := 1) (cn := 6) hc q20 q21 (sat_Journal_keep (eG E) _ _ _ _ hw) rfl cv_Server_373 (gw_of (tw_3 (List.mem_of_getElem? (i := 97) rfl)) rfl) ss_Journal_keep rfl ⟨by decide, by decide⟩ (by decide) (by decide) rfl (by simp [cat_rf, cat_i, cat_l]) d_Server_wstat_56 (fun r0 h22 hw => ?_)
        obtain ⟨rfl, hw⟩ := hw
        refine V_wide (cs' := 4) (sl' := 590) (by decide) (by decide) ?_
        refine V_st (st' := []) rfl ?_
        refine V_aload_n hc 2 d_Server_wstat_59 rfl rfl ?_
        obtain ⟨q24, hw⟩ := hw
        refine V_get (v := va_rf (mm_P h22 v0 4)) hc gf_Server_40 rfl q24 rfl d_Server_wstat_60 ?_
        refine V_aload hc 0 d_Server_wstat_63 rfl ?_
        obtain ⟨a25, q26, hw⟩ := hw
        obtain ⟨q27, hw⟩ := hw
        refine V_callV (rm' := rm_Tree_put) (As := [va_rf (r12)]) (rest := []) (n := 1) (cn := 12) hc q26 q27 (sat_Tree_put (eG E) _ _ _ _ hw) rfl cv_Server_94 (gw_of (tw_2 (List.mem_of_getElem? (i := 102) rfl)) rfl) ss_Tree_put rfl ⟨by decide, by decide⟩ (by decide) (by decide) rfl (by simp [cat_rf, cat_i, cat_l]) d_Server_wstat_65 (fun r0 h28 hw => ?_)
        obtain ⟨rfl, hw⟩ := hw
        refine V_wide (cs' := 4) (sl' := 590) (by decide) (by decide) ?_
        refine V_st (st' := []) rfl ?_
        refine V_sub (lv' := []) [] rfl ?_
        exact vb_Server_wstat_68 hc hq  _ hw
    · replace hw := hw.2 hq1
      refine V_aload_n hc 1 d_Server_wstat_23 rfl rfl ?_
      obtain ⟨q30, hw⟩ := hw
      refine V_get (v := va_rf (mm_P h8 v0 5)) hc gf_Server_47 rfl q30 rfl d_Server_wstat_24 ?_
      obtain ⟨a31, q32, hw⟩ := hw
      obtain ⟨q33, hw⟩ := hw
      refine V_callV (rm' := rm_Journal_clear) (As := []) (rest := []) (n := 0) (cn := 6) hc q32 q33 (sat_Journal_clear (eG E) _ _ _ hw) rfl cv_Server_180 (gw_of (tw_4 (List.mem_of_getElem? (i := 22) rfl)) rfl) ss_Journal_clear rfl ⟨by decide, by decide⟩ (by decide) (by decide) rfl (by simp [cat_rf, cat_i, cat_l]) d_Server_wstat_27 (fun r0 h34 hw => ?_)
      obtain ⟨rfl, hw⟩ := hw
      refine V_wide (cs' := 0) (sl' := 0) (by decide) (by decide) ?_
      refine V_st (st' := []) rfl ?_
      refine V_iconst (v := 0) hc d_Server_wstat_30 (by decide) ?_
      exact V_iret hc hq ⟨_, rfl, hw⟩ (by decide) (by decide) d_Server_wstat_31
  · replace hw := hw.2 hq1
    refine V_iload_n hc 0 d_Server_wstat_11 rfl rfl ?_
    exact V_iret hc hq ⟨_, rfl, hw⟩ (by decide) (by decide) d_Server_wstat_12
def wq_Server_wstat (ge : Nat → Nat) (v0 : Nat) (v1 : Option Nat) (v2 : Option Nat) (h : mm_M) (Z : Int32 → mm_M → Prop) : Prop := wq_Server_wstat_0 ge v0 v1 v2 h Z
theorem sat_Server_wstat (G : mm_G) (v0 : Nat) (v1 : Option Nat) (v2 : Option Nat) (h : mm_M) (Z : Int32 → mm_M → Prop) (hw : wq_Server_wstat (mm_ge G) v0 v1 v2 h Z) : mm_Met G y_Server_wstat c_Server_wstat 5 (some (.int)) rm_Server_wstat [va_rf (some v0), va_rf (v1), va_rf (v2)] h (pI Z) := by
  refine mm_intro (own := "EpochServer") (by decide) rfl (by simp [lg_sl, cat_rf, cat_i, cat_l]) (fun E e1 hc hq hi => ?_)
  subst e1
  have e2 : lv_args 0 [va_rf (some v0), va_rf (v1), va_rf (v2)] = [(0, va_rf (some v0)), (1, va_rf (v1)), (2, va_rf (v2))] := by simp [lv_args, cat_rf, cat_i, cat_l]
  rw [e2]
  refine V_sub (lv' := [(0, va_rf (some v0)), (1, va_rf (v1)), (2, va_rf (v2))]) [0, 1, 2] rfl ?_
  exact vb_Server_wstat_0 hc hq v0 v1 v2 h hw
