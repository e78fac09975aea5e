/-! Server.count(I)I -/
abbrev rm_Server_count : Room := { frames := 1, cells := 0, slots := 0, locals := 22 }
def wq_Server_count_0  (ge : Nat → Nat) (v0 : Nat) (v1 : Int32) (h : mm_M) (Z : Int32 → mm_M → Prop) : Prop :=
  (((v1) = (0 : Int32) → mm_k h (v0) = kd_Server ∧ Z (mm_I h v0 9) h) ∧ ((v1) = (1 : Int32) → mm_k h (v0) = kd_Server ∧ ∃ a3, mm_P h v0 4 = some a3 ∧ mm_k h (a3) = kd_Tree ∧ wq_Tree_size ge (a3) h (fun (r7 : Int32) (h6 : mm_M) => Z (r7) h6)) ∧ ((v1) = (2 : Int32) → mm_k h (v0) = kd_Server ∧ Z (mm_I h v0 8) h) ∧ ((v1) = (3 : Int32) → mm_k h (v0) = kd_Server ∧ ∃ a10, mm_P h v0 3 = some a10 ∧ mm_k h (a10) = kd_FidTable ∧ wq_FidTable_size ge (a10) h (fun (r14 : Int32) (h13 : mm_M) => Z (r14) h13)) ∧ ((v1) = (4 : Int32) → mm_k h (v0) = kd_Server ∧ ∃ a16, mm_P h v0 6 = some a16 ∧ mm_k h (a16) = kd_Snapshots ∧ wq_Snapshots_size ge (a16) h (fun (r20 : Int32) (h19 : mm_M) => Z (r20) h19)) ∧ ((v1) = (5 : Int32) → mm_k h (v0) = kd_Server ∧ ∃ a22, mm_P h v0 5 = some a22 ∧ mm_k h (a22) = kd_Journal ∧ wq_Journal_size ge (a22) h (fun (r26 : Int32) (h25 : mm_M) => Z (r26) h25)) ∧ ((v1) = (6 : Int32) → mm_k h (v0) = kd_Server ∧ ∃ a28, mm_P h v0 7 = some a28 ∧ mm_k h (a28) = kd_Archiver ∧ ∃ a31, mm_P h a28 0 = some a31 ∧ mm_k h (a31) = kd_Store ∧ Z (mm_I h a31 0) h) ∧ ((v1) = (7 : Int32) → mm_k h (v0) = kd_Server ∧ ∃ a35, mm_P h v0 7 = some a35 ∧ mm_k h (a35) = kd_Archiver ∧ ∃ a38, mm_P h a35 0 = some a38 ∧ mm_k h (a38) = kd_Store ∧ Z (mm_I h a38 1) h) ∧ ((v1) = (8 : Int32) → mm_k h (v0) = kd_Server ∧ Z (mm_I h v0 10) h) ∧ ((v1) = (9 : Int32) → mm_k h (v0) = kd_Server ∧ ∃ a43, mm_P h v0 0 = some a43 ∧ mm_k h (a43) = kd_Bytes ∧ wq_Bytes_size ge (a43) h (fun (r47 : Int32) (h46 : mm_M) => Z (r47) h46)) ∧ ((v1) = (10 : Int32) → mm_k h (v0) = kd_Server ∧ ∃ a49, mm_P h v0 1 = some a49 ∧ mm_k h (a49) = kd_Bytes ∧ wq_Bytes_size ge (a49) h (fun (r53 : Int32) (h52 : mm_M) => Z (r53) h52)) ∧ ((v1) = (11 : Int32) → mm_k h (v0) = kd_Server ∧ Z (mm_I h v0 11) h) ∧ ((v1) = (12 : Int32) → mm_k h (v0) = kd_Server ∧ Z (mm_I h v0 12) h) ∧ ((¬ (v1) = (0 : Int32) ∧ ¬ (v1) = (1 : Int32) ∧ ¬ (v1) = (2 : Int32) ∧ ¬ (v1) = (3 : Int32) ∧ ¬ (v1) = (4 : Int32) ∧ ¬ (v1) = (5 : Int32) ∧ ¬ (v1) = (6 : Int32) ∧ ¬ (v1) = (7 : Int32) ∧ ¬ (v1) = (8 : Int32) ∧ ¬ (v1) = (9 : Int32) ∧ ¬ (v1) = (10 : Int32) ∧ ¬ (v1) = (11 : Int32) ∧ ¬ (v1) = (12 : Int32)) → Z ((-9)) h))
set_option maxRecDepth 100000 in
set_option maxHeartbeats 4000000 in
theorem vb_Server_count_0 {E : mm_E} {Z : Int32 → mm_M → Prop} (hc : cx E "EpochServer" c_Server_count 2 (some (.int)) rm_Server_count) (hq : cq E rm_Server_count (pI Z))  (v0 : Nat) (v1 : Int32) (h : mm_M) (hw : wq_Server_count_0  (mm_ge (eG E)) v0 v1 h Z) : V E 2 0 0 h 0 [(0, va_rf (some v0)), (1, .int (v1))] [] := by
  unfold wq_Server_count_0 at hw
  refine V_iload_n hc 1 d_Server_count_0 rfl rfl ?_
  by_cases hs0 : (v1) = (0 : Int32)
  · replace hw := hw.1 hs0
    refine V_tabIn (off := 67) (tgt := 68) hc d_Server_count_1 (by rw [hs0]; decide) (by rw [hs0]; decide) (by rw [hs0]; rfl) (by decide) ?_
    refine V_aload_n hc 0 d_Server_count_68 rfl rfl ?_
    obtain ⟨q1, hw⟩ := hw
    refine V_get (v := .int (mm_I h v0 9)) hc gf_Server_69 rfl q1 rfl d_Server_count_69 ?_
    exact V_iret hc hq ⟨_, rfl, hw⟩ (by decide) (by decide) d_Server_count_72
  by_cases hs1 : (v1) = (1 : Int32)
  · replace hw := hw.2.1 hs1
    refine V_tabIn (off := 72) (tgt := 73) hc d_Server_count_1 (by rw [hs1]; decide) (by rw [hs1]; decide) (by rw [hs1]; rfl) (by decide) ?_
    refine V_aload_n hc 0 d_Server_count_73 rfl rfl ?_
    obtain ⟨q2, hw⟩ := hw
    refine V_get (v := va_rf (mm_P h v0 4)) hc gf_Server_40 rfl q2 rfl d_Server_count_74 ?_
    obtain ⟨a3, q4, hw⟩ := hw
    obtain ⟨q5, hw⟩ := hw
    refine V_callV (rm' := rm_Tree_size) (As := []) (rest := []) (n := 0) (cn := 12) hc q4 q5 (sat_Tree_size (eG E) _ _ _ hw) rfl cv_Server_233 (gw_of (tw_4 (List.mem_of_getElem? (i := 169) rfl)) rfl) ss_Tree_size rfl ⟨by decide, by decide⟩ (by decide) (by decide) rfl (by simp [cat_rf, cat_i, cat_l]) d_Server_count_77 (fun r0 h6 hw => ?_)
    obtain ⟨r7, rfl, hw⟩ := hw
    refine V_wide (cs' := 0) (sl' := 0) (by decide) (by decide) ?_
    refine V_st (st' := [.int (r7)]) rfl ?_
    exact V_iret hc hq ⟨_, rfl, hw⟩ (by decide) (by decide) d_Server_count_80
  by_cases hs2 : (v1) = (2 : Int32)
  · replace hw := hw.2.2.1 hs2
    refine V_tabIn (off := 80) (tgt := 81) hc d_Server_count_1 (by rw [hs2]; decide) (by rw [hs2]; decide) (by rw [hs2]; rfl) (by decide) ?_
    refine V_aload_n hc 0 d_Server_count_81 rfl rfl ?_
    obtain ⟨q8, hw⟩ := hw
    refine V_get (v := .int (mm_I h v0 8)) hc gf_Server_65 rfl q8 rfl d_Server_count_82 ?_
    exact V_iret hc hq ⟨_, rfl, hw⟩ (by decide) (by decide) d_Server_count_85
  by_cases hs3 : (v1) = (3 : Int32)
  · replace hw := hw.2.2.2.1 hs3
    refine V_tabIn (off := 85) (tgt := 86) hc d_Server_count_1 (by rw [hs3]; decide) (by rw [hs3]; decide) (by rw [hs3]; rfl) (by decide) ?_
    refine V_aload_n hc 0 d_Server_count_86 rfl rfl ?_
    obtain ⟨q9, hw⟩ := hw
    refine V_get (v := va_rf (mm_P h v0 3)) hc gf_Server_33 rfl q9 rfl d_Server_count_87 ?_
    obtain ⟨a10, q11, hw⟩ := hw
    obtain ⟨q12, hw⟩ := hw
    refine V_callV (rm' := rm_FidTable_size) (As := []) (rest := []) (n := 0) (cn := 5) hc q11 q12 (sat_FidTable_size (eG E) _ _ _ hw) rfl cv_Server_234 (gw_of (tw_3 (List.mem_of_getElem? (i := 123) rfl)) rfl) ss_FidTable_size rfl ⟨by decide, by decide⟩ (by decide) (by decide) rfl (by simp [cat_rf, cat_i, cat_l]) d_Server_count_90 (fun r0 h13 hw => ?_)
    obtain ⟨r14, rfl, hw⟩ := hw
    refine V_wide (cs' := 0) (sl' := 0) (by decide) (by decide) ?_
    refine V_st (st' := [.int (r14)]) rfl ?_
    exact V_iret hc hq ⟨_, rfl, hw⟩ (by decide) (by decide) d_Server_count_93
  by_cases hs4 : (v1) = (4 : Int32)
  · replace hw := hw.2.2.2.2.1 hs4
    refine V_tabIn (off := 93) (tgt := 94) hc d_Server_count_1 (by rw [hs4]; decide) (by rw [hs4]; decide) (by rw [hs4]; rfl) (by decide) ?_
    refine V_aload_n hc 0 d_Server_count_94 rfl rfl ?_
    obtain ⟨q15, hw⟩ := hw
    refine V_get (v := va_rf (mm_P h v0 6)) hc gf_Server_54 rfl q15 rfl d_Server_count_95 ?_
    obtain ⟨a16, q17, hw⟩ := hw
    obtain ⟨q18, hw⟩ := hw
    refine V_callV (rm' := rm_Snapshots_size) (As := []) (rest := []) (n := 0) (cn := 10) hc q17 q18 (sat_Snapshots_size (eG E) _ _ _ hw) rfl cv_Server_235 (gw_of (tw_4 (List.mem_of_getElem? (i := 173) rfl)) rfl) ss_Snapshots_size rfl ⟨by decide, by decide⟩ (by decide) (by decide) rfl (by simp [cat_rf, cat_i, cat_l]) d_Server_count_98 (fun r0 h19 hw => ?_)
    obtain ⟨r20, rfl, hw⟩ := hw
    refine V_wide (cs' := 0) (sl' := 0) (by decide) (by decide) ?_
    refine V_st (st' := [.int (r20)]) rfl ?_
    exact V_iret hc hq ⟨_, rfl, hw⟩ (by decide) (by decide) d_Server_count_101
  by_cases hs5 : (v1) = (5 : Int32)
  · replace hw := hw.2.2.2.2.2.1 hs5
    refine V_tabIn (off := 101) (tgt := 102) hc d_Server_count_1 (by rw [hs5]; decide) (by rw [hs5]; decide) (by rw [hs5]; rfl) (by decide) ?_
    refine V_aload_n hc 0 d_Server_count_102 rfl rfl ?_
    obtain ⟨q21, hw⟩ := hw
    refine V_get (v := va_rf (mm_P h v0 5)) hc gf_Server_47 rfl q21 rfl d_Server_count_103 ?_
    obtain ⟨a22, q23, hw⟩ := hw
    obtain ⟨q24, hw⟩ := hw
    refine V_callV (rm' := rm_Journal_size) (As := []) (rest := []) (n := 0) (cn := 6) hc q23 q24 (sat_Journal_size (eG E) _ _ _ hw) rfl cv_Server_173 (gw_of (tw_4 (List.mem_of_getElem? (i := 148) rfl)) rfl) ss_Journal_size rfl ⟨by decide, by decide⟩ (by decide) (by decide) rfl (by simp [cat_rf, cat_i, cat_l]) d_Server_count_106 (fun r0 h25 hw => ?_)
    obtain ⟨r26, rfl, hw⟩ := hw
    refine V_wide (cs' := 0) (sl' := 0) (by decide) (by decide) ?_
    refine V_st (st' := [.int (r26)]) rfl ?_
    exact V_iret hc hq ⟨_, rfl, hw⟩ (by decide) (by decide) d_Server_count_109
  by_cases hs6 : (v1) = (6 : Int32)
  · replace hw := hw.2.2.2.2.2.2.1 hs6
    refine V_tabIn (off := 109) (tgt := 110) hc d_Server_count_1 (by rw [hs6]; decide) (by rw [hs6]; decide) (by rw [hs6]; rfl) (by decide) ?_
    refine V_aload_n hc 0 d_Server_count_110 rfl rfl ?_
    obtain ⟨q27, hw⟩ := hw
    refine V_get (v := va_rf (mm_P h v0 7)) hc gf_Server_61 rfl q27 rfl d_Server_count_111 ?_
    obtain ⟨a28, q29, hw⟩ := hw
    obtain ⟨q30, hw⟩ := hw
    refine V_get (v := va_rf (mm_P h a28 0)) hc gf_Server_236 q29 q30 rfl d_Server_count_114 ?_
    obtain ⟨a31, q32, hw⟩ := hw
    obtain ⟨q33, hw⟩ := hw
    refine V_get (v := .int (mm_I h a31 0)) hc gf_Server_240 q32 q33 rfl d_Server_count_117 ?_
    exact V_iret hc hq ⟨_, rfl, hw⟩ (by decide) (by decide) d_Server_count_120
  by_cases hs7 : (v1) = (7 : Int32)
  · replace hw := hw.2.2.2.2.2.2.2.1 hs7
    refine V_tabIn (off := 120) (tgt := 121) hc d_Server_count_1 (by rw [hs7]; decide) (by rw [hs7]; decide) (by rw [hs7]; rfl) (by decide) ?_
    refine V_aload_n hc 0 d_Server_count_121 rfl rfl ?_
    obtain ⟨q34, hw⟩ := hw
    refine V_get (v := va_rf (mm_P h v0 7)) hc gf_Server_61 rfl q34 rfl d_Server_count_122 ?_
    obtain ⟨a35, q36, hw⟩ := hw
    obtain ⟨q37, hw⟩ := hw
    refine V_get (v := va_rf (mm_P h a35 0)) hc gf_Server_236 q36 q37 rfl d_Server_count_125 ?_
    obtain ⟨a38, q39, hw⟩ := hw
    obtain ⟨q40, hw⟩ := hw
    refine V_get (v := .int (mm_I h a38 1)) hc gf_Server_244 q39 q40 rfl d_Server_count_128 ?_
    exact V_iret hc hq ⟨_, rfl, hw⟩ (by decide) (by decide) d_Server_count_131
  by_cases hs8 : (v1) = (8 : Int32)
  · replace hw := hw.2.2.2.2.2.2.2.2.1 hs8
    refine V_tabIn (off := 131) (tgt := 132) hc d_Server_count_1 (by rw [hs8]; decide) (by rw [hs8]; decide) (by rw [hs8]; rfl) (by decide) ?_
    refine V_aload_n hc 0 d_Server_count_132 rfl rfl ?_
    obtain ⟨q41, hw⟩ := hw
    refine V_get (v := .int (mm_I h v0 10)) hc gf_Server_72 rfl q41 rfl d_Server_count_133 ?_
    exact V_iret hc hq ⟨_, rfl, hw⟩ (by decide) (by decide) d_Server_count_136
  by_cases hs9 : (v1) = (9 : Int32)
  · replace hw := hw.2.2.2.2.2.2.2.2.2.1 hs9
    refine V_tabIn (off := 136) (tgt := 137) hc d_Server_count_1 (by rw [hs9]; decide) (by rw [hs9]; decide) (by rw [hs9]; rfl) (by decide) ?_
    refine V_aload_n hc 0 d_Server_count_137 rfl rfl ?_
    obtain ⟨q42, hw⟩ := hw
    refine V_get (v := va_rf (mm_P h v0 0)) hc gf_Server_14 rfl q42 rfl d_Server_count_138 ?_
    obtain ⟨a43, q44, hw⟩ := hw
    obtain ⟨q45, hw⟩ := hw
    refine V_callV (rm' := rm_Bytes_size) (As := []) (rest := []) (n := 0) (cn := 3) hc q44 q45 (sat_Bytes_size (eG E) _ _ _ hw) rfl cv_Server_105 (gw_of (tw_2 (List.mem_of_getElem? (i := 159) rfl)) rfl) ss_Bytes_size rfl ⟨by decide, by decide⟩ (by decide) (by decide) rfl (by simp [cat_rf, cat_i, cat_l]) d_Server_count_141 (fun r0 h46 hw => ?_)
    obtain ⟨r47, rfl, hw⟩ := hw
    refine V_wide (cs' := 0) (sl' := 0) (by decide) (by decide) ?_
    refine V_st (st' := [.int (r47)]) rfl ?_
    exact V_iret hc hq ⟨_, rfl, hw⟩ (by decide) (by decide) d_Server_count_144
  by_cases hs10 : (v1) = (10 : Int32)
  · replace hw := hw.2.2.2.2.2.2.2.2.2.2.1 hs10
    refine V_tabIn (off := 144) (tgt := 145) hc d_Server_count_1 (by rw [hs10]; decide) (by rw [hs10]; decide) (by rw [hs10]; rfl) (by decide) ?_
    refine V_aload_n hc 0 d_Server_count_145 rfl rfl ?_
    obtain ⟨q48, hw⟩ := hw
    refine V_get (v := va_rf (mm_P h v0 1)) hc gf_Server_18 rfl q48 rfl d_Server_count_146 ?_
    obtain ⟨a49, q50, hw⟩ := hw
    obtain ⟨q51, hw⟩ := hw
    refine V_callV (rm' := rm_Bytes_size) (As := []) (rest := []) (n := 0) (cn := 3) hc q50 q51 (sat_Bytes_size (eG E) _ _ _ hw) rfl cv_Server_105 (gw_of (tw_2 (List.mem_of_getElem? (i := 159) rfl)) rfl) ss_Bytes_size rfl ⟨by decide, by decide⟩ (by decide) (by decide) rfl (by simp [cat_rf, cat_i, cat_l]) d_Server_count_149 (fun r0 h52 hw => ?_)
    obtain ⟨r53, rfl, hw⟩ := hw
    refine V_wide (cs' := 0) (sl' := 0) (by decide) (by decide) ?_
    refine V_st (st' := [.int (r53)]) rfl ?_
    exact V_iret hc hq ⟨_, rfl, hw⟩ (by decide) (by decide) d_Server_count_152
  by_cases hs11 : (v1) = (11 : Int32)
  · replace hw := hw.2.2.2.2.2.2.2.2.2.2.2.1 hs11
    refine V_tabIn (off := 152) (tgt := 153) hc d_Server_count_1 (by rw [hs11]; decide) (by rw [hs11]; decide) (by rw [hs11]; rfl) (by decide) ?_
    refine V_aload_n hc 0 d_Server_count_153 rfl rfl ?_
    obtain ⟨q54, hw⟩ := hw
    refine V_get (v := .int (mm_I h v0 11)) hc gf_Server_75 rfl q54 rfl d_Server_count_154 ?_
    exact V_iret hc hq ⟨_, rfl, hw⟩ (by decide) (by decide) d_Server_count_157
  by_cases hs12 : (v1) = (12 : Int32)
  · replace hw := hw.2.2.2.2.2.2.2.2.2.2.2.2.1 hs12
    refine V_tabIn (off := 157) (tgt := 158) hc d_Server_count_1 (by rw [hs12]; decide) (by rw [hs12]; decide) (by rw [hs12]; rfl) (by decide) ?_
    refine V_aload_n hc 0 d_Server_count_158 rfl rfl ?_
    obtain ⟨q55, hw⟩ := hw
    refine V_get (v := .int (mm_I h v0 12)) hc gf_Server_78 rfl q55 rfl d_Server_count_159 ?_
    exact V_iret hc hq ⟨_, rfl, hw⟩ (by decide) (by decide) d_Server_count_162
  replace hw := hw.2.2.2.2.2.2.2.2.2.2.2.2.2 ⟨hs0, hs1, hs2, hs3, hs4, hs5, hs6, hs7, hs8, hs9, hs10, hs11, hs12⟩
  suffices hsD : V E 2 0 0 h 163 [(0, va_rf (some v0)), (1, .int (v1))] [] by
    have nhs0 := lv_neT (a := 0) hs0 (by decide)
    have nhs1 := lv_neT (a := 1) hs1 (by decide)
    have nhs2 := lv_neT (a := 2) hs2 (by decide)
    have nhs3 := lv_neT (a := 3) hs3 (by decide)
    have nhs4 := lv_neT (a := 4) hs4 (by decide)
    have nhs5 := lv_neT (a := 5) hs5 (by decide)
    have nhs6 := lv_neT (a := 6) hs6 (by decide)
    have nhs7 := lv_neT (a := 7) hs7 (by decide)
    have nhs8 := lv_neT (a := 8) hs8 (by decide)
    have nhs9 := lv_neT (a := 9) hs9 (by decide)
    have nhs10 := lv_neT (a := 10) hs10 (by decide)
    have nhs11 := lv_neT (a := 11) hs11 (by decide)
    have nhs12 := lv_neT (a := 12) hs12 (by decide)
    exact V_tabOut (tgt := 163) hc d_Server_count_1 (by omega) (by decide) hsD
  refine V_bipush (v := (-9)) hc d_Server_count_163 (by decide) ?_
  exact V_iret hc hq ⟨_, rfl, hw⟩ (by decide) (by decide) d_Server_count_165
def wq_Server_count (ge : Nat → Nat) (v0 : Nat) (v1 : Int32) (h : mm_M) (Z : Int32 → mm_M → Prop) : Prop := wq_Server_count_0 ge v0 v1 h Z
theorem sat_Server_count (G : mm_G) (v0 : Nat) (v1 : Int32) (h : mm_M) (Z : Int32 → mm_M → Prop) (hw : wq_Server_count (mm_ge G) v0 v1 h Z) : mm_Met G y_Server_count c_Server_count 2 (some (.int)) rm_Server_count [va_rf (some v0), .int (v1)] h (pI Z) := by
  refine mm_intro (own := "EpochServer") (by decide) rfl (by simp [lg_sl, cat_rf, cat_i, cat_l]) (fun E e1 hc hq hi => ?_)
  subst e1
  have e2 : lv_args 0 [va_rf (some v0), .int (v1)] = [(0, va_rf (some v0)), (1, .int (v1))] := by simp [lv_args, cat_rf, cat_i, cat_l]
  rw [e2]
  refine V_sub (lv' := [(0, va_rf (some v0)), (1, .int (v1))]) [0, 1] rfl ?_
  exact vb_Server_count_0 hc hq v0 v1 h hw
