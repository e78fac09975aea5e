/-! Server.file(III)I -/
abbrev rm_Server_file : Room := { frames := 3, cells := 0, slots := 0, locals := 67 }
def wq_Server_file_119  (ge : Nat → Nat) (s0 : Int32) (h : mm_M) (Z : Int32 → mm_M → Prop) : Prop :=
  Z (s0) h
def wq_Server_file_22  (ge : Nat → Nat) (v2 : Int32) (v3 : Int32) (v4 : Option Nat) (s0 : Option Nat) (h : mm_M) (Z : Int32 → mm_M → Prop) : Prop :=
  ((∀ a1, s0 = some a1 → (((v3) = (0 : Int32) → ∃ a2, s0 = some a2 ∧ mm_k h (a2) = kd_Node ∧ Z (mm_I h a2 1) h) ∧ ((v3) = (1 : Int32) → ∃ a5, s0 = some a5 ∧ mm_k h (a5) = kd_Node ∧ Z (mm_I h a5 4) h) ∧ ((v3) = (2 : Int32) → ∃ a8, s0 = some a8 ∧ mm_k h (a8) = kd_Node ∧ Z (mm_I h a8 3) h) ∧ ((v3) = (3 : Int32) → ∃ a11, s0 = some a11 ∧ mm_k h (a11) = kd_Node ∧ Z (mm_I h a11 5) h) ∧ ((v3) = (4 : Int32) → ∃ a14, s0 = some a14 ∧ mm_k h (a14) = kd_Node ∧ wq_Node_isDirectory ge (a14) h (fun (r18 : Int32) (h17 : mm_M) => (((r18) = 0 → ∃ a19, s0 = some a19 ∧ mm_k h17 (a19) = kd_Node ∧ ∃ a22, mm_P h17 a19 6 = some a22 ∧ mm_k h17 (a22) = ka_B ∧ wq_Server_file_119  ge (Nat.toInt32 (mm_n h17 a22)) h17 Z) ∧ (¬ (r18) = 0 → ∃ a25, v4 = some a25 ∧ mm_k h17 (a25) = kd_Tree ∧ wq_Tree_sizeOf ge (a25) (v2) h17 (fun (r29 : Int32) (h28 : mm_M) => wq_Server_file_119  ge (r29) h28 Z))))) ∧ ((v3) = (5 : Int32) → ∃ a30, s0 = some a30 ∧ mm_k h (a30) = kd_Node ∧ ∃ a33, mm_P h a30 2 = some a33 ∧ mm_k h (a33) = ka_B ∧ Z (Nat.toInt32 (mm_n h a33)) h) ∧ ((¬ (v3) = (0 : Int32) ∧ ¬ (v3) = (1 : Int32) ∧ ¬ (v3) = (2 : Int32) ∧ ¬ (v3) = (3 : Int32) ∧ ¬ (v3) = (4 : Int32) ∧ ¬ (v3) = (5 : Int32)) → Z ((-9)) h))) ∧ (s0 = none → Z ((-9)) h))
def wq_Server_file_0  (ge : Nat → Nat) (v0 : Nat) (v1 : Int32) (v2 : Int32) (v3 : Int32) (h : mm_M) (Z : Int32 → mm_M → Prop) : Prop :=
  mm_k h (v0) = kd_Server ∧ wq_Server_treeOf ge (v0) (v1) h (fun (r3 : Option Nat) (h2 : mm_M) => ((∀ a4, r3 = some a4 → ∃ a5, r3 = some a5 ∧ mm_k h2 (a5) = kd_Tree ∧ wq_Tree_at ge (a5) (v2) h2 (fun (r9 : Option Nat) (h8 : mm_M) => wq_Server_file_22  ge (v2) (v3) (r3) (r9) h8 Z)) ∧ (r3 = none → wq_Server_file_22  ge (v2) (v3) (r3) (none) h2 Z)))
set_option maxRecDepth 100000 in
set_option maxHeartbeats 4000000 in
theorem vb_Server_file_119 {E : mm_E} {Z : Int32 → mm_M → Prop} (hc : cx E "EpochServer" c_Server_file 6 (some (.int)) rm_Server_file) (hq : cq E rm_Server_file (pI Z))  (s0 : Int32) (h : mm_M) (hw : wq_Server_file_119  (mm_ge (eG E)) s0 h Z) : V E 6 0 0 h 119 [] [.int (s0)] := by
  unfold wq_Server_file_119 at hw
  exact V_iret hc hq ⟨_, rfl, hw⟩ (by decide) (by decide) d_Server_file_119
set_option maxRecDepth 100000 in
set_option maxHeartbeats 4000000 in
theorem vb_Server_file_22 {E : mm_E} {Z : Int32 → mm_M → Prop} (hc : cx E "EpochServer" c_Server_file 6 (some (.int)) rm_Server_file) (hq : cq E rm_Server_file (pI Z))  (v2 : Int32) (v3 : Int32) (v4 : Option Nat) (s0 : Option Nat) (h : mm_M) (hw : wq_Server_file_22  (mm_ge (eG E)) v2 v3 v4 s0 h Z) : V E 6 0 0 h 22 [(2, .int (v2)), (3, .int (v3)), (4, va_rf (v4))] [va_rf (s0)] := by
  unfold wq_Server_file_22 at hw
  refine V_astore (i := 5) (lv' := [(5, va_rf (s0)), (2, .int (v2)), (3, .int (v3)), (4, va_rf (v4))]) hc d_Server_file_22 (by decide) (by simp [cat_rf, cat_i, cat_l]) ?_
  refine V_aload hc 0 d_Server_file_24 rfl ?_
  refine V_ifnonnull (tgt := 32) hc d_Server_file_26 (by decide) (fun a1 hq1 => ?_) (fun hq1 => ?_)
  · replace hw := hw.1 a1 hq1
    refine V_iload_n hc 2 d_Server_file_32 rfl rfl ?_
    by_cases hs0 : (v3) = (0 : Int32)
    · replace hw := hw.1 hs0
      refine V_tabIn (off := 39) (tgt := 72) hc d_Server_file_33 (by rw [hs0]; decide) (by rw [hs0]; decide) (by rw [hs0]; rfl) (by decide) ?_
      refine V_aload hc 0 d_Server_file_72 rfl ?_
      obtain ⟨a2, q3, hw⟩ := hw
      obtain ⟨q4, hw⟩ := hw
      refine V_get (v := .int (mm_I h a2 1)) hc gf_Server_188 q3 q4 rfl d_Server_file_74 ?_
      exact V_iret hc hq ⟨_, rfl, hw⟩ (by decide) (by decide) d_Server_file_77
    by_cases hs1 : (v3) = (1 : Int32)
    · replace hw := hw.2.1 hs1
      refine V_tabIn (off := 45) (tgt := 78) hc d_Server_file_33 (by rw [hs1]; decide) (by rw [hs1]; decide) (by rw [hs1]; rfl) (by decide) ?_
      refine V_aload hc 0 d_Server_file_78 rfl ?_
      obtain ⟨a5, q6, hw⟩ := hw
      obtain ⟨q7, hw⟩ := hw
      refine V_get (v := .int (mm_I h a5 4)) hc gf_Server_191 q6 q7 rfl d_Server_file_80 ?_
      exact V_iret hc hq ⟨_, rfl, hw⟩ (by decide) (by decide) d_Server_file_83
    by_cases hs2 : (v3) = (2 : Int32)
    · replace hw := hw.2.2.1 hs2
      refine V_tabIn (off := 51) (tgt := 84) hc d_Server_file_33 (by rw [hs2]; decide) (by rw [hs2]; decide) (by rw [hs2]; rfl) (by decide) ?_
      refine V_aload hc 0 d_Server_file_84 rfl ?_
      obtain ⟨a8, q9, hw⟩ := hw
      obtain ⟨q10, hw⟩ := hw
      refine V_get (v := .int (mm_I h a8 3)) hc gf_Server_194 q9 q10 rfl d_Server_file_86 ?_
      exact V_iret hc hq ⟨_, rfl, hw⟩ (by decide) (by decide) d_Server_file_89
    by_cases hs3 : (v3) = (3 : Int32)
    · replace hw := hw.2.2.2.1 hs3
      refine V_tabIn (off := 57) (tgt := 90) hc d_Server_file_33 (by rw [hs3]; decide) (by rw [hs3]; decide) (by rw [hs3]; rfl) (by decide) ?_
      refine V_aload hc 0 d_Server_file_90 rfl ?_
      obtain ⟨a11, q12, hw⟩ := hw
      obtain ⟨q13, hw⟩ := hw
      refine V_get (v := .int (mm_I h a11 5)) hc gf_Server_197 q12 q13 rfl d_Server_file_92 ?_
      exact V_iret hc hq ⟨_, rfl, hw⟩ (by decide) (by decide) d_Server_file_95
    by_cases hs4 : (v3) = (4 : Int32)
    · replace hw := hw.2.2.2.2.1 hs4
      refine V_tabIn (off := 63) (tgt := 96) hc d_Server_file_33 (by rw [hs4]; decide) (by rw [hs4]; decide) (by rw [hs4]; rfl) (by decide) ?_
      refine V_aload hc 0 d_Server_file_96 rfl ?_
      obtain ⟨a14, q15, hw⟩ := hw
      obtain ⟨q16, hw⟩ := hw
      refine V_callV (rm' := rm_Node_isDirectory) (As := []) (rest := []) (n := 0) (cn := 7) hc q15 q16 (sat_Node_isDirectory (eG E) _ _ _ hw) rfl cv_Server_200 (gw_of (tw_3 (List.mem_of_getElem? (i := 62) rfl)) rfl) ss_Node_isDirectory rfl ⟨by decide, by decide⟩ (by decide) (by decide) rfl (by simp [cat_rf, cat_i, cat_l]) d_Server_file_98 (fun r0 h17 hw => ?_)
      obtain ⟨r18, rfl, hw⟩ := hw
      refine V_wide (cs' := 0) (sl' := 0) (by decide) (by decide) ?_
      refine V_st (st' := [.int (r18)]) rfl ?_
      refine V_if_eq (tgt := 113) hc d_Server_file_101 (by decide) (fun hq1 => ?_) (fun hq1 => ?_)
      · replace hw := hw.1 hq1
        refine V_aload hc 0 d_Server_file_113 rfl ?_
        obtain ⟨a19, q20, hw⟩ := hw
        obtain ⟨q21, hw⟩ := hw
        refine V_get (v := va_rf (mm_P h17 a19 6)) hc gf_Server_207 q20 q21 rfl d_Server_file_115 ?_
        obtain ⟨a22, q23, hw⟩ := hw
        obtain ⟨q24, hw⟩ := hw
        refine V_alen (t := 1) (ty := .byte) hc rfl q23 q24 d_Server_file_118 ?_
        refine V_sub (lv' := []) [] rfl ?_
        exact vb_Server_file_119 hc hq  _ _ hw
      · replace hw := hw.2 hq1
        refine V_aload hc 3 d_Server_file_104 rfl ?_
        refine V_iload_n hc 1 d_Server_file_106 rfl rfl ?_
        obtain ⟨a25, q26, hw⟩ := hw
        obtain ⟨q27, hw⟩ := hw
        refine V_callV (rm' := rm_Tree_sizeOf) (As := [.int (v2)]) (rest := []) (n := 1) (cn := 12) hc q26 q27 (sat_Tree_sizeOf (eG E) _ _ _ _ hw) rfl cv_Server_204 (gw_of (tw_3 (List.mem_of_getElem? (i := 84) rfl)) rfl) ss_Tree_sizeOf rfl ⟨by decide, by decide⟩ (by decide) (by decide) rfl (by simp [cat_rf, cat_i, cat_l]) d_Server_file_107 (fun r0 h28 hw => ?_)
        obtain ⟨r29, rfl, hw⟩ := hw
        refine V_wide (cs' := 0) (sl' := 0) (by decide) (by decide) ?_
        refine V_st (st' := [.int (r29)]) rfl ?_
        refine V_goto (tgt := 119) hc d_Server_file_110 (by decide) ?_
        refine V_sub (lv' := []) [] rfl ?_
        exact vb_Server_file_119 hc hq  _ _ hw
    by_cases hs5 : (v3) = (5 : Int32)
    · replace hw := hw.2.2.2.2.2.1 hs5
      refine V_tabIn (off := 87) (tgt := 120) hc d_Server_file_33 (by rw [hs5]; decide) (by rw [hs5]; decide) (by rw [hs5]; rfl) (by decide) ?_
      refine V_aload hc 0 d_Server_file_120 rfl ?_
      obtain ⟨a30, q31, hw⟩ := hw
      obtain ⟨q32, hw⟩ := hw
      refine V_get (v := va_rf (mm_P h a30 2)) hc gf_Server_210 q31 q32 rfl d_Server_file_122 ?_
      obtain ⟨a33, q34, hw⟩ := hw
      obtain ⟨q35, hw⟩ := hw
      refine V_alen (t := 1) (ty := .byte) hc rfl q34 q35 d_Server_file_125 ?_
      exact V_iret hc hq ⟨_, rfl, hw⟩ (by decide) (by decide) d_Server_file_126
    replace hw := hw.2.2.2.2.2.2 ⟨hs0, hs1, hs2, hs3, hs4, hs5⟩
    suffices hsD : V E 6 0 0 h 127 [(5, va_rf (s0)), (2, .int (v2)), (3, .int (v3)), (4, va_rf (v4))] [] by
      have nhs0 := lv_neT (a := 0) hs0 (by decide)
      have nhs1 := lv_neT (a := 1) hs1 (by decide)
      have nhs2 := lv_neT (a := 2) hs2 (by decide)
      have nhs3 := lv_neT (a := 3) hs3 (by decide)
      have nhs4 := lv_neT (a := 4) hs4 (by decide)
      have nhs5 := lv_neT (a := 5) hs5 (by decide)
      exact V_tabOut (tgt := 127) hc d_Server_file_33 (by omega) (by decide) hsD
    refine V_bipush (v := (-9)) hc d_Server_file_127 (by decide) ?_
    exact V_iret hc hq ⟨_, rfl, hw⟩ (by decide) (by decide) d_Server_file_129
  · replace hw := hw.2 hq1
    refine V_bipush (v := (-9)) hc d_Server_file_29 (by decide) ?_
    exact V_iret hc hq ⟨_, rfl, hw⟩ (by decide) (by decide) d_Server_file_31
set_option maxRecDepth 100000 in
set_option maxHeartbeats 4000000 in
theorem vb_Server_file_0 {E : mm_E} {Z : Int32 → mm_M → Prop} (hc : cx E "EpochServer" c_Server_file 6 (some (.int)) rm_Server_file) (hq : cq E rm_Server_file (pI Z))  (v0 : Nat) (v1 : Int32) (v2 : Int32) (v3 : Int32) (h : mm_M) (hw : wq_Server_file_0  (mm_ge (eG E)) v0 v1 v2 v3 h Z) : V E 6 0 0 h 0 [(0, va_rf (some v0)), (1, .int (v1)), (2, .int (v2)), (3, .int (v3))] [] := by
  unfold wq_Server_file_0 at hw
  refine V_aload_n hc 0 d_Server_file_0 rfl rfl ?_
  refine V_iload_n hc 1 d_Server_file_1 rfl rfl ?_
  obtain ⟨q1, hw⟩ := hw
  refine V_callV (rm' := rm_Server_treeOf) (As := [.int (v1)]) (rest := []) (n := 1) (cn := 1) hc rfl q1 (sat_Server_treeOf (eG E) _ _ _ _ hw) rfl cv_Server_182 (gw_of (tw_3 (List.mem_of_getElem? (i := 39) rfl)) rfl) ss_Server_treeOf rfl ⟨by decide, by decide⟩ (by decide) (by decide) rfl (by simp [cat_rf, cat_i, cat_l]) d_Server_file_2 (fun r0 h2 hw => ?_)
  obtain ⟨r3, rfl, hw⟩ := hw
  refine V_wide (cs' := 0) (sl' := 0) (by decide) (by decide) ?_
  refine V_st (st' := [va_rf (r3)]) rfl ?_
  refine V_astore (i := 4) (lv' := [(4, va_rf (r3)), (0, va_rf (some v0)), (1, .int (v1)), (2, .int (v2)), (3, .int (v3))]) hc d_Server_file_5 (by decide) rfl ?_
  refine V_aload hc 0 d_Server_file_7 rfl ?_
  refine V_ifnonnull (tgt := 16) hc d_Server_file_9 (by decide) (fun a4 hq1 => ?_) (fun hq1 => ?_)
  · replace hw := hw.1 a4 hq1
    refine V_aload hc 0 d_Server_file_16 rfl ?_
    refine V_iload_n hc 3 d_Server_file_18 rfl rfl ?_
    obtain ⟨a5, q6, hw⟩ := hw
    obtain ⟨q7, hw⟩ := hw
    refine V_callV (rm' := rm_Tree_at) (As := [.int (v2)]) (rest := []) (n := 1) (cn := 12) hc q6 q7 (sat_Tree_at (eG E) _ _ _ _ hw) rfl cv_Server_185 (gw_of (tw_3 (List.mem_of_getElem? (i := 46) rfl)) rfl) ss_Tree_at rfl ⟨by decide, by decide⟩ (by decide) (by decide) rfl (by simp [cat_rf, cat_i, cat_l]) d_Server_file_19 (fun r0 h8 hw => ?_)
    obtain ⟨r9, rfl, hw⟩ := hw
    refine V_wide (cs' := 0) (sl' := 0) (by decide) (by decide) ?_
    refine V_st (st' := [va_rf (r9)]) rfl ?_
    refine V_sub (lv' := [(2, .int (v2)), (3, .int (v3)), (4, va_rf (r3))]) [3, 4, 0] rfl ?_
    exact vb_Server_file_22 hc hq  _ _ _ _ _ hw
  · replace hw := hw.2 hq1
    refine V_null hc d_Server_file_12 ?_
    refine V_goto (tgt := 22) hc d_Server_file_13 (by decide) ?_
    refine V_sub (lv' := [(2, .int (v2)), (3, .int (v3)), (4, va_rf (r3))]) [3, 4, 0] rfl ?_
    exact vb_Server_file_22 hc hq  _ _ _ _ _ hw
def wq_Server_file (ge : Nat → Nat) (v0 : Nat) (v1 : Int32) (v2 : Int32) (v3 : Int32) (h : mm_M) (Z : Int32 → mm_M → Prop) : Prop := wq_Server_file_0 ge v0 v1 v2 v3 h Z
theorem sat_Server_file (G : mm_G) (v0 : Nat) (v1 : Int32) (v2 : Int32) (v3 : Int32) (h : mm_M) (Z : Int32 → mm_M → Prop) (hw : wq_Server_file (mm_ge G) v0 v1 v2 v3 h Z) : mm_Met G y_Server_file c_Server_file 6 (some (.int)) rm_Server_file [va_rf (some v0), .int (v1), .int (v2), .int (v3)] h (pI Z) := by
  refine mm_intro (own := "EpochServer") (by decide) rfl (by simp [lg_sl, cat_rf, cat_i, cat_l]) (fun E e1 hc hq hi => ?_)
  subst e1
  have e2 : lv_args 0 [va_rf (some v0), .int (v1), .int (v2), .int (v3)] = [(0, va_rf (some v0)), (1, .int (v1)), (2, .int (v2)), (3, .int (v3))] := by simp [lv_args, cat_rf, cat_i, cat_l]
  rw [e2]
  refine V_sub (lv' := [(0, va_rf (some v0)), (1, .int (v1)), (2, .int (v2)), (3, .int (v3))]) [0, 1, 2, 3] rfl ?_
  exact vb_Server_file_0 hc hq v0 v1 v2 v3 h hw
/-! Server.fid(II)I -/
abbrev rm_Server_fid : Room := { frames := 3, cells := 0, slots := 0, locals := 64 }
def wq_Server_fid_74  (ge : Nat → Nat) (s0 : Int32) (h : mm_M) (Z : Int32 → mm_M → Prop) : Prop :=
  Z (s0) h
def wq_Server_fid_93  (ge : Nat → Nat) (s0 : Int32) (h : mm_M) (Z : Int32 → mm_M → Prop) : Prop :=
  Z (s0) h
def wq_Server_fid_0  (ge : Nat → Nat) (v0 : Nat) (v1 : Int32) (v2 : Int32) (h : mm_M) (Z : Int32 → mm_M → Prop) : Prop :=
  mm_k h (v0) = kd_Server ∧ ∃ a2, mm_P h v0 3 = some a2 ∧ mm_k h (a2) = kd_FidTable ∧ wq_FidTable_find ge (a2) (v1) h (fun (r6 : Option Nat) (h5 : mm_M) => ((∀ a7, r6 = some a7 → (((v2) = (0 : Int32) → ∃ a8, r6 = some a8 ∧ mm_k h5 (a8) = kd_Fid ∧ Z (mm_I h5 a8 2) h5) ∧ ((v2) = (1 : Int32) → ∃ a11, r6 = some a11 ∧ mm_k h5 (a11) = kd_Fid ∧ Z (mm_I h5 a11 3) h5) ∧ ((v2) = (2 : Int32) → ∃ a14, r6 = some a14 ∧ mm_k h5 (a14) = kd_Fid ∧ (((mm_I h5 a14 4) = 0 → wq_Server_fid_74  ge (0) h5 Z) ∧ (¬ (mm_I h5 a14 4) = 0 → wq_Server_fid_74  ge (1) h5 Z))) ∧ ((v2) = (3 : Int32) → ∃ a17, r6 = some a17 ∧ mm_k h5 (a17) = kd_Fid ∧ Z (mm_I h5 a17 5) h5) ∧ ((v2) = (4 : Int32) → mm_k h5 (v0) = kd_Server ∧ wq_Server_nodeOf ge (v0) (r6) h5 (fun (r22 : Option Nat) (h21 : mm_M) => ((∀ a23, r22 = some a23 → wq_Server_fid_93  ge (0) h21 Z) ∧ (r22 = none → wq_Server_fid_93  ge (1) h21 Z)))) ∧ ((¬ (v2) = (0 : Int32) ∧ ¬ (v2) = (1 : Int32) ∧ ¬ (v2) = (2 : Int32) ∧ ¬ (v2) = (3 : Int32) ∧ ¬ (v2) = (4 : Int32)) → Z ((-9)) h5))) ∧ (r6 = none → Z ((-9)) h5)))
set_option maxRecDepth 100000 in
set_option maxHeartbeats 4000000 in
theorem vb_Server_fid_74 {E : mm_E} {Z : Int32 → mm_M → Prop} (hc : cx E "EpochServer" c_Server_fid 4 (some (.int)) rm_Server_fid) (hq : cq E rm_Server_fid (pI Z))  (s0 : Int32) (h : mm_M) (hw : wq_Server_fid_74  (mm_ge (eG E)) s0 h Z) : V E 4 0 0 h 74 [] [.int (s0)] := by
  unfold wq_Server_fid_74 at hw
  exact V_iret hc hq ⟨_, rfl, hw⟩ (by decide) (by decide) d_Server_fid_74
set_option maxRecDepth 100000 in
set_option maxHeartbeats 4000000 in
theorem vb_Server_fid_93 {E : mm_E} {Z : Int32 → mm_M → Prop} (hc : cx E "EpochServer" c_Server_fid 4 (some (.int)) rm_Server_fid) (hq : cq E rm_Server_fid (pI Z))  (s0 : Int32) (h : mm_M) (hw : wq_Server_fid_93  (mm_ge (eG E)) s0 h Z) : V E 4 0 0 h 93 [] [.int (s0)] := by
  unfold wq_Server_fid_93 at hw
  exact V_iret hc hq ⟨_, rfl, hw⟩ (by decide) (by decide) d_Server_fid_93
set_option maxRecDepth 100000 in
set_option maxHeartbeats 4000000 in
theorem vb_Server_fid_0 {E : mm_E} {Z : Int32 → mm_M → Prop} (hc : cx E "EpochServer" c_Server_fid 4 (some (.int)) rm_Server_fid) (hq : cq E rm_Server_fid (pI Z))  (v0 : Nat) (v1 : Int32) (v2 : Int32) (h : mm_M) (hw : wq_Server_fid_0  (mm_ge (eG E)) v0 v1 v2 h Z) : V E 4 0 0 h 0 [(0, va_rf (some v0)), (1, .int (v1)), (2, .int (v2))] [] := by
  unfold wq_Server_fid_0 at hw
  refine V_aload_n hc 0 d_Server_fid_0 rfl rfl ?_
  obtain ⟨q1, hw⟩ := hw
  refine V_get (v := va_rf (mm_P h v0 3)) hc gf_Server_33 rfl q1 rfl d_Server_fid_1 ?_
  refine V_iload_n hc 1 d_Server_fid_4 rfl rfl ?_
  obtain ⟨a2, q3, hw⟩ := hw
  obtain ⟨q4, hw⟩ := hw
  refine V_callV (rm' := rm_FidTable_find) (As := [.int (v1)]) (rest := []) (n := 1) (cn := 5) hc q3 q4 (sat_FidTable_find (eG E) _ _ _ _ hw) rfl cv_Server_213 (gw_of (tw_3 (List.mem_of_getElem? (i := 26) rfl)) rfl) ss_FidTable_find rfl ⟨by decide, by decide⟩ (by decide) (by decide) rfl (by simp [cat_rf, cat_i, cat_l]) d_Server_fid_5 (fun r0 h5 hw => ?_)
  obtain ⟨r6, rfl, hw⟩ := hw
  refine V_wide (cs' := 0) (sl' := 0) (by decide) (by decide) ?_
  refine V_st (st' := [va_rf (r6)]) rfl ?_
  refine V_astore_n (i := 3) (lv' := [(3, va_rf (r6)), (0, va_rf (some v0)), (1, .int (v1)), (2, .int (v2))]) hc d_Server_fid_8 rfl (by decide) rfl ?_
  refine V_aload_n hc 0 d_Server_fid_9 rfl rfl ?_
  refine V_ifnonnull (tgt := 16) hc d_Server_fid_10 (by decide) (fun a7 hq1 => ?_) (fun hq1 => ?_)
  · replace hw := hw.1 a7 hq1
    refine V_iload_n hc 3 d_Server_fid_16 rfl rfl ?_
    by_cases hs0 : (v2) = (0 : Int32)
    · replace hw := hw.1 hs0
      refine V_tabIn (off := 35) (tgt := 52) hc d_Server_fid_17 (by rw [hs0]; decide) (by rw [hs0]; decide) (by rw [hs0]; rfl) (by decide) ?_
      refine V_aload_n hc 0 d_Server_fid_52 rfl rfl ?_
      obtain ⟨a8, q9, hw⟩ := hw
      obtain ⟨q10, hw⟩ := hw
      refine V_get (v := .int (mm_I h5 a8 2)) hc gf_Server_217 q9 q10 rfl d_Server_fid_53 ?_
      exact V_iret hc hq ⟨_, rfl, hw⟩ (by decide) (by decide) d_Server_fid_56
    by_cases hs1 : (v2) = (1 : Int32)
    · replace hw := hw.2.1 hs1
      refine V_tabIn (off := 40) (tgt := 57) hc d_Server_fid_17 (by rw [hs1]; decide) (by rw [hs1]; decide) (by rw [hs1]; rfl) (by decide) ?_
      refine V_aload_n hc 0 d_Server_fid_57 rfl rfl ?_
      obtain ⟨a11, q12, hw⟩ := hw
      obtain ⟨q13, hw⟩ := hw
      refine V_get (v := .int (mm_I h5 a11 3)) hc gf_Server_221 q12 q13 rfl d_Server_fid_58 ?_
      exact V_iret hc hq ⟨_, rfl, hw⟩ (by decide) (by decide) d_Server_fid_61
    by_cases hs2 : (v2) = (2 : Int32)
    · replace hw := hw.2.2.1 hs2
      refine V_tabIn (off := 45) (tgt := 62) hc d_Server_fid_17 (by rw [hs2]; decide) (by rw [hs2]; decide) (by rw [hs2]; rfl) (by decide) ?_
      refine V_aload_n hc 0 d_Server_fid_62 rfl rfl ?_
      obtain ⟨a14, q15, hw⟩ := hw
      obtain ⟨q16, hw⟩ := hw
      refine V_get (v := .int (mm_I h5 a14 4)) hc gf_Server_224 q15 q16 rfl d_Server_fid_63 ?_
      refine V_if_eq (tgt := 73) hc d_Server_fid_66 (by decide) (fun hq1 => ?_) (fun hq1 => ?_)
      · replace hw := hw.1 hq1
        refine V_iconst (v := 0) hc d_Server_fid_73 (by decide) ?_
        refine V_sub (lv' := []) [] rfl ?_
        exact vb_Server_fid_74 hc hq  _ _ hw
      · replace hw := hw.2 hq1
        refine V_iconst (v := 1) hc d_Server_fid_69 (by decide) ?_
        refine V_goto (tgt := 74) hc d_Server_fid_70 (by decide) ?_
        refine V_sub (lv' := []) [] rfl ?_
        exact vb_Server_fid_74 hc hq  _ _ hw
    by_cases hs3 : (v2) = (3 : Int32)
    · replace hw := hw.2.2.2.1 hs3
      refine V_tabIn (off := 58) (tgt := 75) hc d_Server_fid_17 (by rw [hs3]; decide) (by rw [hs3]; decide) (by rw [hs3]; rfl) (by decide) ?_
      refine V_aload_n hc 0 d_Server_fid_75 rfl rfl ?_
      obtain ⟨a17, q18, hw⟩ := hw
      obtain ⟨q19, hw⟩ := hw
      refine V_get (v := .int (mm_I h5 a17 5)) hc gf_Server_228 q18 q19 rfl d_Server_fid_76 ?_
      exact V_iret hc hq ⟨_, rfl, hw⟩ (by decide) (by decide) d_Server_fid_79
    by_cases hs4 : (v2) = (4 : Int32)
    · replace hw := hw.2.2.2.2.1 hs4
      refine V_tabIn (off := 63) (tgt := 80) hc d_Server_fid_17 (by rw [hs4]; decide) (by rw [hs4]; decide) (by rw [hs4]; rfl) (by decide) ?_
      refine V_aload_n hc 1 d_Server_fid_80 rfl rfl ?_
      refine V_aload_n hc 0 d_Server_fid_81 rfl rfl ?_
      obtain ⟨q20, hw⟩ := hw
      refine V_callV (rm' := rm_Server_nodeOf) (As := [va_rf (r6)]) (rest := []) (n := 1) (cn := 1) hc rfl q20 (sat_Server_nodeOf (eG E) _ _ _ _ hw) rfl cv_Server_229 (gw_of (tw_3 (List.mem_of_getElem? (i := 72) rfl)) rfl) ss_Server_nodeOf rfl ⟨by decide, by decide⟩ (by decide) (by decide) rfl (by simp [cat_rf, cat_i, cat_l]) d_Server_fid_82 (fun r0 h21 hw => ?_)
      obtain ⟨r22, rfl, hw⟩ := hw
      refine V_wide (cs' := 0) (sl' := 0) (by decide) (by decide) ?_
      refine V_st (st' := [va_rf (r22)]) rfl ?_
      refine V_ifnonnull (tgt := 92) hc d_Server_fid_85 (by decide) (fun a23 hq1 => ?_) (fun hq1 => ?_)
      · replace hw := hw.1 a23 hq1
        refine V_iconst (v := 0) hc d_Server_fid_92 (by decide) ?_
        refine V_sub (lv' := []) [] rfl ?_
        exact vb_Server_fid_93 hc hq  _ _ hw
      · replace hw := hw.2 hq1
        refine V_iconst (v := 1) hc d_Server_fid_88 (by decide) ?_
        refine V_goto (tgt := 93) hc d_Server_fid_89 (by decide) ?_
        refine V_sub (lv' := []) [] rfl ?_
        exact vb_Server_fid_93 hc hq  _ _ hw
    replace hw := hw.2.2.2.2.2 ⟨hs0, hs1, hs2, hs3, hs4⟩
    suffices hsD : V E 4 0 0 h5 94 [(3, va_rf (r6)), (0, va_rf (some v0)), (1, .int (v1)), (2, .int (v2))] [] by
      have nhs0 := lv_neT (a := 0) hs0 (by decide)
      have nhs1 := lv_neT (a := 1) hs1 (by decide)
      have nhs2 := lv_neT (a := 2) hs2 (by decide)
      have nhs3 := lv_neT (a := 3) hs3 (by decide)
      have nhs4 := lv_neT (a := 4) hs4 (by decide)
      exact V_tabOut (tgt := 94) hc d_Server_fid_17 (by omega) (by decide) hsD
    refine V_bipush (v := (-9)) hc d_Server_fid_94 (by decide) ?_
    exact V_iret hc hq ⟨_, rfl, hw⟩ (by decide) (by decide) d_Server_fid_96
  · replace hw := hw.2 hq1
    refine V_bipush (v := (-9)) hc d_Server_fid_13 (by decide) ?_
    exact V_iret hc hq ⟨_, rfl, hw⟩ (by decide) (by decide) d_Server_fid_15
def wq_Server_fid (ge : Nat → Nat) (v0 : Nat) (v1 : Int32) (v2 : Int32) (h : mm_M) (Z : Int32 → mm_M → Prop) : Prop := wq_Server_fid_0 ge v0 v1 v2 h Z
theorem sat_Server_fid (G : mm_G) (v0 : Nat) (v1 : Int32) (v2 : Int32) (h : mm_M) (Z : Int32 → mm_M → Prop) (hw : wq_Server_fid (mm_ge G) v0 v1 v2 h Z) : mm_Met G y_Server_fid c_Server_fid 4 (some (.int)) rm_Server_fid [va_rf (some v0), .int (v1), .int (v2)] h (pI Z) := by
  refine mm_intro (own := "EpochServer") (by decide) rfl (by simp [lg_sl, cat_rf, cat_i, cat_l]) (fun E e1 hc hq hi => ?_)
  subst e1
  have e2 : lv_args 0 [va_rf (some v0), .int (v1), .int (v2)] = [(0, va_rf (some v0)), (1, .int (v1)), (2, .int (v2))] := by simp [lv_args, cat_rf, cat_i, cat_l]
  rw [e2]
  refine V_sub (lv' := [(0, va_rf (some v0)), (1, .int (v1)), (2, .int (v2))]) [0, 1, 2] rfl ?_
  exact vb_Server_fid_0 hc hq v0 v1 v2 h hw
/-! Server.count(I)I -/
abbrev rm_Server_count : Room := { frames := 1, cells := 0, slots := 0, locals := 22 }
def wq_Server_count_0  (ge : Nat → Nat) (v0 : Nat) (v1 : Int32) (h : mm_M) (Z : Int32 → mm_M → Prop) : Prop :=
  (((v1) = (0 : Int32) → mm_k h (v0) = kd_Server ∧ Z (mm_I h v0 9) h) ∧ ((v1) = (1 : Int32) → mm_k h (v0) = kd_Server ∧ ∃ a3, mm_P h v0 4 = some a3 ∧ mm_k h (a3) = kd_Tree ∧ wq_Tree_size ge (a3) h (fun (r7 : Int32) (h6 : mm_M) => Z (r7) h6)) ∧ ((v1) = (2 : Int32) → mm_k h (v0) = kd_Server ∧ Z (mm_I h v0 8) h) ∧ ((v1) = (3 : Int32) → mm_k h (v0) = kd_Server ∧ ∃ a10, mm_P h v0 3 = some a10 ∧ mm_k h (a10) = kd_FidTable ∧ wq_FidTable_size ge (a10) h (fun (r14 : Int32) (h13 : mm_M) => Z (r14) h13)) ∧ ((v1) = (4 : Int32) → mm_k h (v0) = kd_Server ∧ ∃ a16, mm_P h v0 6 = some a16 ∧ mm_k h (a16) = kd_Snapshots ∧ wq_Snapshots_size ge (a16) h (fun (r20 : Int32) (h19 : mm_M) => Z (r20) h19)) ∧ ((v1) = (5 : Int32) → mm_k h (v0) = kd_Server ∧ ∃ a22, mm_P h v0 5 = some a22 ∧ mm_k h (a22) = kd_Journal ∧ wq_Journal_size ge (a22) h (fun (r26 : Int32) (h25 : mm_M) => Z (r26) h25)) ∧ ((v1) = (6 : Int32) → mm_k h (v0) = kd_Server ∧ ∃ a28, mm_P h v0 7 = some a28 ∧ mm_k h (a28) = kd_Archiver ∧ ∃ a31, mm_P h a28 0 = some a31 ∧ mm_k h (a31) = kd_Store ∧ Z (mm_I h a31 0) h) ∧ ((v1) = (7 : Int32) → mm_k h (v0) = kd_Server ∧ ∃ a35, mm_P h v0 7 = some a35 ∧ mm_k h (a35) = kd_Archiver ∧ ∃ a38, mm_P h a35 0 = some a38 ∧ mm_k h (a38) = kd_Store ∧ Z (mm_I h a38 1) h) ∧ ((v1) = (8 : Int32) → mm_k h (v0) = kd_Server ∧ Z (mm_I h v0 10) h) ∧ ((v1) = (9 : Int32) → mm_k h (v0) = kd_Server ∧ ∃ a43, mm_P h v0 0 = some a43 ∧ mm_k h (a43) = kd_Bytes ∧ wq_Bytes_size ge (a43) h (fun (r47 : Int32) (h46 : mm_M) => Z (r47) h46)) ∧ ((v1) = (10 : Int32) → mm_k h (v0) = kd_Server ∧ ∃ a49, mm_P h v0 1 = some a49 ∧ mm_k h (a49) = kd_Bytes ∧ wq_Bytes_size ge (a49) h (fun (r53 : Int32) (h52 : mm_M) => Z (r53) h52)) ∧ ((v1) = (11 : Int32) → mm_k h (v0) = kd_Server ∧ Z (mm_I h v0 11) h) ∧ ((v1) = (12 : Int32) → mm_k h (v0) = kd_Server ∧ Z (mm_I h v0 12) h) ∧ ((¬ (v1) = (0 : Int32) ∧ ¬ (v1) = (1 : Int32) ∧ ¬ (v1) = (2 : Int32) ∧ ¬ (v1) = (3 : Int32) ∧ ¬ (v1) = (4 : Int32) ∧ ¬ (v1) = (5 : Int32) ∧ ¬ (v1) = (6 : Int32) ∧ ¬ (v1) = (7 : Int32) ∧ ¬ (v1) = (8 : Int32) ∧ ¬ (v1) = (9 : Int32) ∧ ¬ (v1) = (10 : Int32) ∧ ¬ (v1) = (11 : Int32) ∧ ¬ (v1) = (12 : Int32)) → Z ((-9)) h))
set_option maxRecDepth 100000 in
set_option maxHeartbeats 4000000 in
theorem vb_Server_count_0 {E : mm_E} {Z : Int32 → mm_M → Prop} (hc : cx E "EpochServer" c_Server_count 2 (some (.int)) rm_Server_count) (hq : cq E rm_Server_count (pI Z))  (v0 : Nat) (v1 : Int32) (h : mm_M) (hw : wq_Server_count_0  (mm_ge (eG E)) v0 v1 h Z) : V E 2 0 0 h 0 [(0, va_rf (some v0)), (1, .int (v1))] [] := by
  unfold wq_Server_count_0 at hw
  refine V_iload_n hc 1 d_Server_count_0 rfl rfl ?_
  by_cases hs0 : (v1) = (0 : Int32)
  · replace hw := hw.1 hs0
    refine V_tabIn (off := 67) (tgt := 68) hc d_Server_count_1 (by rw [hs0]; decide) (by rw [hs0]; decide) (by rw [hs0]; rfl) (by decide) ?_
    refine V_aload_n hc 0 d_Server_count_68 rfl rfl ?_
    obtain ⟨q1, hw⟩ := hw
    refine V_get (v := .int (mm_I h v0 9)) hc gf_Server_69 rfl q1 rfl d_Server_count_69 ?_
    exact V_iret hc hq ⟨_, rfl, hw⟩ (by decide) (by decide) d_Server_count_72
  by_cases hs1 : (v1) = (1 : Int32)
  · replace hw := hw.2.1 hs1
    refine V_tabIn (off := 72) (tgt := 73) hc d_Server_count_1 (by rw [hs1]; decide) (by rw [hs1]; decide) (by rw [hs1]; rfl) (by decide) ?_
    refine V_aload_n hc 0 d_Server_count_73 rfl rfl ?_
    obtain ⟨q2, hw⟩ := hw
    refine V_get (v := va_rf (mm_P h v0 4)) hc gf_Server_40 rfl q2 rfl d_Server_count_74 ?_
    obtain ⟨a3, q4, hw⟩ := hw
    obtain ⟨q5, hw⟩ := hw
    refine V_callV (rm' := rm_Tree_size) (As := []) (rest := []) (n := 0) (cn := 12) hc q4 q5 (sat_Tree_size (eG E) _ _ _ hw) rfl cv_Server_233 (gw_of (tw_4 (List.mem_of_getElem? (i := 181) rfl)) rfl) ss_Tree_size rfl ⟨by decide, by decide⟩ (by decide) (by decide) rfl (by simp [cat_rf, cat_i, cat_l]) d_Server_count_77 (fun r0 h6 hw => ?_)
    obtain ⟨r7, rfl, hw⟩ := hw
    refine V_wide (cs' := 0) (sl' := 0) (by decide) (by decide) ?_
    refine V_st (st' := [.int (r7)]) rfl ?_
    exact V_iret hc hq ⟨_, rfl, hw⟩ (by decide) (by decide) d_Server_count_80
  by_cases hs2 : (v1) = (2 : Int32)
  · replace hw := hw.2.2.1 hs2
    refine V_tabIn (off := 80) (tgt := 81) hc d_Server_count_1 (by rw [hs2]; decide) (by rw [hs2]; decide) (by rw [hs2]; rfl) (by decide) ?_
    refine V_aload_n hc 0 d_Server_count_81 rfl rfl ?_
    obtain ⟨q8, hw⟩ := hw
    refine V_get (v := .int (mm_I h v0 8)) hc gf_Server_65 rfl q8 rfl d_Server_count_82 ?_
    exact V_iret hc hq ⟨_, rfl, hw⟩ (by decide) (by decide) d_Server_count_85
  by_cases hs3 : (v1) = (3 : Int32)
  · replace hw := hw.2.2.2.1 hs3
    refine V_tabIn (off := 85) (tgt := 86) hc d_Server_count_1 (by rw [hs3]; decide) (by rw [hs3]; decide) (by rw [hs3]; rfl) (by decide) ?_
    refine V_aload_n hc 0 d_Server_count_86 rfl rfl ?_
    obtain ⟨q9, hw⟩ := hw
    refine V_get (v := va_rf (mm_P h v0 3)) hc gf_Server_33 rfl q9 rfl d_Server_count_87 ?_
    obtain ⟨a10, q11, hw⟩ := hw
    obtain ⟨q12, hw⟩ := hw
    refine V_callV (rm' := rm_FidTable_size) (As := []) (rest := []) (n := 0) (cn := 5) hc q11 q12 (sat_FidTable_size (eG E) _ _ _ hw) rfl cv_Server_234 (gw_of (tw_3 (List.mem_of_getElem? (i := 126) rfl)) rfl) ss_FidTable_size rfl ⟨by decide, by decide⟩ (by decide) (by decide) rfl (by simp [cat_rf, cat_i, cat_l]) d_Server_count_90 (fun r0 h13 hw => ?_)
    obtain ⟨r14, rfl, hw⟩ := hw
    refine V_wide (cs' := 0) (sl' := 0) (by decide) (by decide) ?_
    refine V_st (st' := [.int (r14)]) rfl ?_
    exact V_iret hc hq ⟨_, rfl, hw⟩ (by decide) (by decide) d_Server_count_93
  by_cases hs4 : (v1) = (4 : Int32)
  · replace hw := hw.2.2.2.2.1 hs4
    refine V_tabIn (off := 93) (tgt := 94) hc d_Server_count_1 (by rw [hs4]; decide) (by rw [hs4]; decide) (by rw [hs4]; rfl) (by decide) ?_
    refine V_aload_n hc 0 d_Server_count_94 rfl rfl ?_
    obtain ⟨q15, hw⟩ := hw
    refine V_get (v := va_rf (mm_P h v0 6)) hc gf_Server_54 rfl q15 rfl d_Server_count_95 ?_
    obtain ⟨a16, q17, hw⟩ := hw
    obtain ⟨q18, hw⟩ := hw
    refine V_callV (rm' := rm_Snapshots_size) (As := []) (rest := []) (n := 0) (cn := 10) hc q17 q18 (sat_Snapshots_size (eG E) _ _ _ hw) rfl cv_Server_235 (gw_of (tw_4 (List.mem_of_getElem? (i := 185) rfl)) rfl) ss_Snapshots_size rfl ⟨by decide, by decide⟩ (by decide) (by decide) rfl (by simp [cat_rf, cat_i, cat_l]) d_Server_count_98 (fun r0 h19 hw => ?_)
    obtain ⟨r20, rfl, hw⟩ := hw
    refine V_wide (cs' := 0) (sl' := 0) (by decide) (by decide) ?_
    refine V_st (st' := [.int (r20)]) rfl ?_
    exact V_iret hc hq ⟨_, rfl, hw⟩ (by decide) (by decide) d_Server_count_101
  by_cases hs5 : (v1) = (5 : Int32)
  · replace hw := hw.2.2.2.2.2.1 hs5
    refine V_tabIn (off := 101) (tgt := 102) hc d_Server_count_1 (by rw [hs5]; decide) (by rw [hs5]; decide) (by rw [hs5]; rfl) (by decide) ?_
    refine V_aload_n hc 0 d_Server_count_102 rfl rfl ?_
    obtain ⟨q21, hw⟩ := hw
    refine V_get (v := va_rf (mm_P h v0 5)) hc gf_Server_47 rfl q21 rfl d_Server_count_103 ?_
    obtain ⟨a22, q23, hw⟩ := hw
    obtain ⟨q24, hw⟩ := hw
    refine V_callV (rm' := rm_Journal_size) (As := []) (rest := []) (n := 0) (cn := 6) hc q23 q24 (sat_Journal_size (eG E) _ _ _ hw) rfl cv_Server_173 (gw_of (tw_4 (List.mem_of_getElem? (i := 160) rfl)) rfl) ss_Journal_size rfl ⟨by decide, by decide⟩ (by decide) (by decide) rfl (by simp [cat_rf, cat_i, cat_l]) d_Server_count_106 (fun r0 h25 hw => ?_)
    obtain ⟨r26, rfl, hw⟩ := hw
    refine V_wide (cs' := 0) (sl' := 0) (by decide) (by decide) ?_
    refine V_st (st' := [.int (r26)]) rfl ?_
    exact V_iret hc hq ⟨_, rfl, hw⟩ (by decide) (by decide) d_Server_count_109
  by_cases hs6 : (v1) = (6 : Int32)
  · replace hw := hw.2.2.2.2.2.2.1 hs6
    refine V_tabIn (off := 109) (tgt := 110) hc d_Server_count_1 (by rw [hs6]; decide) (by rw [hs6]; decide) (by rw [hs6]; rfl) (by decide) ?_
    refine V_aload_n hc 0 d_Server_count_110 rfl rfl ?_
    obtain ⟨q27, hw⟩ := hw
    refine V_get (v := va_rf (mm_P h v0 7)) hc gf_Server_61 rfl q27 rfl d_Server_count_111 ?_
    obtain ⟨a28, q29, hw⟩ := hw
    obtain ⟨q30, hw⟩ := hw
    refine V_get (v := va_rf (mm_P h a28 0)) hc gf_Server_236 q29 q30 rfl d_Server_count_114 ?_
    obtain ⟨a31, q32, hw⟩ := hw
    obtain ⟨q33, hw⟩ := hw
    refine V_get (v := .int (mm_I h a31 0)) hc gf_Server_240 q32 q33 rfl d_Server_count_117 ?_
    exact V_iret hc hq ⟨_, rfl, hw⟩ (by decide) (by decide) d_Server_count_120
  by_cases hs7 : (v1) = (7 : Int32)
  · replace hw := hw.2.2.2.2.2.2.2.1 hs7
    refine V_tabIn (off := 120) (tgt := 121) hc d_Server_count_1 (by rw [hs7]; decide) (by rw [hs7]; decide) (by rw [hs7]; rfl) (by decide) ?_
    refine V_aload_n hc 0 d_Server_count_121 rfl rfl ?_
    obtain ⟨q34, hw⟩ := hw
    refine V_get (v := va_rf (mm_P h v0 7)) hc gf_Server_61 rfl q34 rfl d_Server_count_122 ?_
    obtain ⟨a35, q36, hw⟩ := hw
    obtain ⟨q37, hw⟩ := hw
    refine V_get (v := va_rf (mm_P h a35 0)) hc gf_Server_236 q36 q37 rfl d_Server_count_125 ?_
    obtain ⟨a38, q39, hw⟩ := hw
    obtain ⟨q40, hw⟩ := hw
    refine V_get (v := .int (mm_I h a38 1)) hc gf_Server_244 q39 q40 rfl d_Server_count_128 ?_
    exact V_iret hc hq ⟨_, rfl, hw⟩ (by decide) (by decide) d_Server_count_131
  by_cases hs8 : (v1) = (8 : Int32)
  · replace hw := hw.2.2.2.2.2.2.2.2.1 hs8
    refine V_tabIn (off := 131) (tgt := 132) hc d_Server_count_1 (by rw [hs8]; decide) (by rw [hs8]; decide) (by rw [hs8]; rfl) (by decide) ?_
    refine V_aload_n hc 0 d_Server_count_132 rfl rfl ?_
    obtain ⟨q41, hw⟩ := hw
    refine V_get (v := .int (mm_I h v0 10)) hc gf_Server_72 rfl q41 rfl d_Server_count_133 ?_
    exact V_iret hc hq ⟨_, rfl, hw⟩ (by decide) (by decide) d_Server_count_136
  by_cases hs9 : (v1) = (9 : Int32)
  · replace hw := hw.2.2.2.2.2.2.2.2.2.1 hs9
    refine V_tabIn (off := 136) (tgt := 137) hc d_Server_count_1 (by rw [hs9]; decide) (by rw [hs9]; decide) (by rw [hs9]; rfl) (by decide) ?_
    refine V_aload_n hc 0 d_Server_count_137 rfl rfl ?_
    obtain ⟨q42, hw⟩ := hw
    refine V_get (v := va_rf (mm_P h v0 0)) hc gf_Server_14 rfl q42 rfl d_Server_count_138 ?_
    obtain ⟨a43, q44, hw⟩ := hw
    obtain ⟨q45, hw⟩ := hw
    refine V_callV (rm' := rm_Bytes_size) (As := []) (rest := []) (n := 0) (cn := 3) hc q44 q45 (sat_Bytes_size (eG E) _ _ _ hw) rfl cv_Server_105 (gw_of (tw_2 (List.mem_of_getElem? (i := 162) rfl)) rfl) ss_Bytes_size rfl ⟨by decide, by decide⟩ (by decide) (by decide) rfl (by simp [cat_rf, cat_i, cat_l]) d_Server_count_141 (fun r0 h46 hw => ?_)
    obtain ⟨r47, rfl, hw⟩ := hw
    refine V_wide (cs' := 0) (sl' := 0) (by decide) (by decide) ?_
    refine V_st (st' := [.int (r47)]) rfl ?_
    exact V_iret hc hq ⟨_, rfl, hw⟩ (by decide) (by decide) d_Server_count_144
  by_cases hs10 : (v1) = (10 : Int32)
  · replace hw := hw.2.2.2.2.2.2.2.2.2.2.1 hs10
    refine V_tabIn (off := 144) (tgt := 145) hc d_Server_count_1 (by rw [hs10]; decide) (by rw [hs10]; decide) (by rw [hs10]; rfl) (by decide) ?_
    refine V_aload_n hc 0 d_Server_count_145 rfl rfl ?_
    obtain ⟨q48, hw⟩ := hw
    refine V_get (v := va_rf (mm_P h v0 1)) hc gf_Server_18 rfl q48 rfl d_Server_count_146 ?_
    obtain ⟨a49, q50, hw⟩ := hw
    obtain ⟨q51, hw⟩ := hw
    refine V_callV (rm' := rm_Bytes_size) (As := []) (rest := []) (n := 0) (cn := 3) hc q50 q51 (sat_Bytes_size (eG E) _ _ _ hw) rfl cv_Server_105 (gw_of (tw_2 (List.mem_of_getElem? (i := 162) rfl)) rfl) ss_Bytes_size rfl ⟨by decide, by decide⟩ (by decide) (by decide) rfl (by simp [cat_rf, cat_i, cat_l]) d_Server_count_149 (fun r0 h52 hw => ?_)
    obtain ⟨r53, rfl, hw⟩ := hw
    refine V_wide (cs' := 0) (sl' := 0) (by decide) (by decide) ?_
    refine V_st (st' := [.int (r53)]) rfl ?_
    exact V_iret hc hq ⟨_, rfl, hw⟩ (by decide) (by decide) d_Server_count_152
  by_cases hs11 : (v1) = (11 : Int32)
  · replace hw := hw.2.2.2.2.2.2.2.2.2.2.2.1 hs11
    refine V_tabIn (off := 152) (tgt := 153) hc d_Server_count_1 (by rw [hs11]; decide) (by rw [hs11]; decide) (by rw [hs11]; rfl) (by decide) ?_
    refine V_aload_n hc 0 d_Server_count_153 rfl rfl ?_
    obtain ⟨q54, hw⟩ := hw
    refine V_get (v := .int (mm_I h v0 11)) hc gf_Server_75 rfl q54 rfl d_Server_count_154 ?_
    exact V_iret hc hq ⟨_, rfl, hw⟩ (by decide) (by decide) d_Server_count_157
  by_cases hs12 : (v1) = (12 : Int32)
  · replace hw := hw.2.2.2.2.2.2.2.2.2.2.2.2.1 hs12
    refine V_tabIn (off := 157) (tgt := 158) hc d_Server_count_1 (by rw [hs12]; decide) (by rw [hs12]; decide) (by rw [hs12]; rfl) (by decide) ?_
    refine V_aload_n hc 0 d_Server_count_158 rfl rfl ?_
    obtain ⟨q55, hw⟩ := hw
    refine V_get (v := .int (mm_I h v0 12)) hc gf_Server_78 rfl q55 rfl d_Server_count_159 ?_
    exact V_iret hc hq ⟨_, rfl, hw⟩ (by decide) (by decide) d_Server_count_162
  replace hw := hw.2.2.2.2.2.2.2.2.2.2.2.2.2 ⟨hs0, hs1, hs2, hs3, hs4, hs5, hs6, hs7, hs8, hs9, hs10, hs11, hs12⟩
  suffices hsD : V E 2 0 0 h 163 [(0, va_rf (some v0)), (1, .int (v1))] [] by
    have nhs0 := lv_neT (a := 0) hs0 (by decide)
    have nhs1 := lv_neT (a := 1) hs1 (by decide)
    have nhs2 := lv_neT (a := 2) hs2 (by decide)
    have nhs3 := lv_neT (a := 3) hs3 (by decide)
    have nhs4 := lv_neT (a := 4) hs4 (by decide)
    have nhs5 := lv_neT (a := 5) hs5 (by decide)
    have nhs6 := lv_neT (a := 6) hs6 (by decide)
    have nhs7 := lv_neT (a := 7) hs7 (by decide)
    have nhs8 := lv_neT (a := 8) hs8 (by decide)
    have nhs9 := lv_neT (a := 9) hs9 (by decide)
    have nhs10 := lv_neT (a := 10) hs10 (by decide)
    have nhs11 := lv_neT (a := 11) hs11 (by decide)
    have nhs12 := lv_neT (a := 12) hs12 (by decide)
    exact V_tabOut (tgt := 163) hc d_Server_count_1 (by omega) (by decide) hsD
  refine V_bipush (v := (-9)) hc d_Server_count_163 (by decide) ?_
  exact V_iret hc hq ⟨_, rfl, hw⟩ (by decide) (by decide) d_Server_count_165
def wq_Server_count (ge : Nat → Nat) (v0 : Nat) (v1 : Int32) (h : mm_M) (Z : Int32 → mm_M → Prop) : Prop := wq_Server_count_0 ge v0 v1 h Z
theorem sat_Server_count (G : mm_G) (v0 : Nat) (v1 : Int32) (h : mm_M) (Z : Int32 → mm_M → Prop) (hw : wq_Server_count (mm_ge G) v0 v1 h Z) : mm_Met G y_Server_count c_Server_count 2 (some (.int)) rm_Server_count [va_rf (some v0), .int (v1)] h (pI Z) := by
  refine mm_intro (own := "EpochServer") (by decide) rfl (by simp [lg_sl, cat_rf, cat_i, cat_l]) (fun E e1 hc hq hi => ?_)
  subst e1
  have e2 : lv_args 0 [va_rf (some v0), .int (v1)] = [(0, va_rf (some v0)), (1, .int (v1))] := by simp [lv_args, cat_rf, cat_i, cat_l]
  rw [e2]
  refine V_sub (lv' := [(0, va_rf (some v0)), (1, .int (v1))]) [0, 1] rfl ?_
  exact vb_Server_count_0 hc hq v0 v1 h hw
