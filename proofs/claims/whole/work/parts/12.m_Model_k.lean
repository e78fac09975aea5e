/-! Model.file(III)I -/
abbrev rm_Model_file : Room := { frames := 2, cells := 0, slots := 0, locals := 45 }
def wq_Model_file_37  (ge : Nat → Nat)  (h : mm_M) (Z : Int32 → mm_M → Prop) : Prop :=
  Z ((-9)) h
def wq_Model_file_147  (ge : Nat → Nat) (s0 : Int32) (h : mm_M) (Z : Int32 → mm_M → Prop) : Prop :=
  Z (s0) h
def wq_Model_file_0  (ge : Nat → Nat) (v0 : Nat) (v1 : Int32) (v2 : Int32) (v3 : Int32) (h : mm_M) (Z : Int32 → mm_M → Prop) : Prop :=
  (((v1 : Int32) < ((-1) : Int32) → wq_Model_file_37  ge h Z) ∧ (¬ (v1 : Int32) < ((-1) : Int32) → mm_k h (v0) = kd_Model ∧ (((mm_I h v0 11 : Int32) ≤ (v1 : Int32) → wq_Model_file_37  ge h Z) ∧ (¬ (mm_I h v0 11 : Int32) ≤ (v1 : Int32) → wq_Model_isIn ge (v2) (60) h (fun (r3 : Int32) (h2 : mm_M) => (((r3) = 0 → wq_Model_file_37  ge h2 Z) ∧ (¬ (r3) = 0 → mm_k h2 (v0) = kd_Model ∧ wq_Model_spot ge ((v1) + (1 : Int32)) (v2) h2 (fun (r6 : Int32) (h5 : mm_M) => ∃ a7, mm_P h2 v0 0 = some a7 ∧ mm_k h5 (a7) = ka_Z ∧ vp_in (r6) (mm_n h5 a7) ∧ ((¬ (mm_I h5 a7 (Int32.toNatClampNeg (r6))) = 0 → wq_Model_spot ge ((v1) + (1 : Int32)) (v2) h5 (fun (r12 : Int32) (h11 : mm_M) => (((v3) = (0 : Int32) → mm_k h11 (v0) = kd_Model ∧ ∃ a14, mm_P h11 v0 1 = some a14 ∧ mm_k h11 (a14) = ka_I ∧ vp_in (r12) (mm_n h11 a14) ∧ Z (mm_I h11 a14 (Int32.toNatClampNeg (r12))) h11) ∧ ((v3) = (1 : Int32) → mm_k h11 (v0) = kd_Model ∧ ∃ a19, mm_P h11 v0 3 = some a19 ∧ mm_k h11 (a19) = ka_I ∧ vp_in (r12) (mm_n h11 a19) ∧ Z (mm_I h11 a19 (Int32.toNatClampNeg (r12))) h11) ∧ ((v3) = (2 : Int32) → mm_k h11 (v0) = kd_Model ∧ ∃ a24, mm_P h11 v0 2 = some a24 ∧ mm_k h11 (a24) = ka_I ∧ vp_in (r12) (mm_n h11 a24) ∧ Z (mm_I h11 a24 (Int32.toNatClampNeg (r12))) h11) ∧ ((v3) = (3 : Int32) → mm_k h11 (v0) = kd_Model ∧ ∃ a29, mm_P h11 v0 4 = some a29 ∧ mm_k h11 (a29) = ka_I ∧ vp_in (r12) (mm_n h11 a29) ∧ Z (mm_I h11 a29 (Int32.toNatClampNeg (r12))) h11) ∧ ((v3) = (4 : Int32) → mm_k h11 (v0) = kd_Model ∧ wq_Model_isDirectory ge (v0) (r12) h11 (fun (r35 : Int32) (h34 : mm_M) => (((r35) = 0 → mm_k h34 (v0) = kd_Model ∧ ∃ a37, mm_P h34 v0 5 = some a37 ∧ mm_k h34 (a37) = ka_I ∧ vp_in (r12) (mm_n h34 a37) ∧ wq_Model_file_147  ge (mm_I h34 a37 (Int32.toNatClampNeg (r12))) h34 Z) ∧ (¬ (r35) = 0 → mm_k h34 (v0) = kd_Model ∧ wq_Model_filesIn ge (v0) ((v1) + (1 : Int32)) (v2) h34 (fun (r43 : Int32) (h42 : mm_M) => wq_Model_file_147  ge (r43) h42 Z))))) ∧ ((v3) = (5 : Int32) → mm_k h11 (v0) = kd_Model ∧ ∃ a45, mm_P h11 v0 6 = some a45 ∧ mm_k h11 (a45) = ka_I ∧ vp_in (r12) (mm_n h11 a45) ∧ Z (mm_I h11 a45 (Int32.toNatClampNeg (r12))) h11) ∧ ((¬ (v3) = (0 : Int32) ∧ ¬ (v3) = (1 : Int32) ∧ ¬ (v3) = (2 : Int32) ∧ ¬ (v3) = (3 : Int32) ∧ ¬ (v3) = (4 : Int32) ∧ ¬ (v3) = (5 : Int32)) → Z ((-9)) h11)))) ∧ ((mm_I h5 a7 (Int32.toNatClampNeg (r6))) = 0 → wq_Model_file_37  ge h5 Z))))))))))
set_option maxRecDepth 100000 in
set_option maxHeartbeats 4000000 in
theorem vb_Model_file_37 {E : mm_E} {Z : Int32 → mm_M → Prop} (hc : cx E "EpochServerModel" c_Model_file 5 (some (.int)) rm_Model_file) (hq : cq E rm_Model_file (pI Z))   (h : mm_M) (hw : wq_Model_file_37  (mm_ge (eG E))  h Z) : V E 5 0 0 h 37 [] [] := by
  unfold wq_Model_file_37 at hw
  refine V_bipush (v := (-9)) hc d_Model_file_37 (by decide) ?_
  exact V_iret hc hq ⟨_, rfl, hw⟩ (by decide) (by decide) d_Model_file_39
set_option maxRecDepth 100000 in
set_option maxHeartbeats 4000000 in
theorem vb_Model_file_147 {E : mm_E} {Z : Int32 → mm_M → Prop} (hc : cx E "EpochServerModel" c_Model_file 5 (some (.int)) rm_Model_file) (hq : cq E rm_Model_file (pI Z))  (s0 : Int32) (h : mm_M) (hw : wq_Model_file_147  (mm_ge (eG E)) s0 h Z) : V E 5 0 0 h 147 [] [.int (s0)] := by
  unfold wq_Model_file_147 at hw
  exact V_iret hc hq ⟨_, rfl, hw⟩ (by decide) (by decide) d_Model_file_147
set_option maxRecDepth 100000 in
set_option maxHeartbeats 4000000 in
theorem vb_Model_file_0 {E : mm_E} {Z : Int32 → mm_M → Prop} (hc : cx E "EpochServerModel" c_Model_file 5 (some (.int)) rm_Model_file) (hq : cq E rm_Model_file (pI Z))  (v0 : Nat) (v1 : Int32) (v2 : Int32) (v3 : Int32) (h : mm_M) (hw : wq_Model_file_0  (mm_ge (eG E)) v0 v1 v2 v3 h Z) : V E 5 0 0 h 0 [(0, va_rf (some v0)), (1, .int (v1)), (2, .int (v2)), (3, .int (v3))] [] := by
  unfold wq_Model_file_0 at hw
  refine V_iload_n hc 1 d_Model_file_0 rfl rfl ?_
  refine V_iconst (v := (-1)) hc d_Model_file_1 (by decide) ?_
  refine V_icmp_lt (tgt := 37) hc d_Model_file_2 (by decide) (fun hq1 => ?_) (fun hq1 => ?_)
  · replace hw := hw.1 hq1
    refine V_sub (lv' := []) [] rfl ?_
    exact vb_Model_file_37 hc hq  _ hw
  · replace hw := hw.2 hq1
    refine V_iload_n hc 1 d_Model_file_5 rfl rfl ?_
    refine V_aload_n hc 0 d_Model_file_6 rfl rfl ?_
    obtain ⟨q1, hw⟩ := hw
    refine V_get (v := .int (mm_I h v0 11)) hc gf_Model_315 rfl q1 rfl d_Model_file_7 ?_
    refine V_icmp_ge (tgt := 37) hc d_Model_file_10 (by decide) (fun hq1 => ?_) (fun hq1 => ?_)
    · replace hw := hw.1 hq1
      refine V_sub (lv' := []) [] rfl ?_
      exact vb_Model_file_37 hc hq  _ hw
    · replace hw := hw.2 hq1
      refine V_iload_n hc 2 d_Model_file_13 rfl rfl ?_
      refine V_bipush (v := 60) hc d_Model_file_14 (by decide) ?_
      refine V_callS (rm' := rm_Model_isIn) (As := [.int (v2), .int (60)]) (rest := []) (n := 2) hc (sat_Model_isIn (eG E) _ _ _ _ hw) cv_Model_110 (gw_of (tw_5 (List.mem_of_getElem? (i := 165) rfl)) rfl) rfl ⟨by decide, by decide⟩ (by decide) (by decide) rfl (by simp [cat_rf, cat_i, cat_l]) d_Model_file_16 (fun r0 h2 hw => ?_)
      obtain ⟨r3, rfl, hw⟩ := hw
      refine V_wide (cs' := 0) (sl' := 0) (by decide) (by decide) ?_
      refine V_st (st' := [.int (r3)]) rfl ?_
      refine V_if_eq (tgt := 37) hc d_Model_file_19 (by decide) (fun hq1 => ?_) (fun hq1 => ?_)
      · replace hw := hw.1 hq1
        refine V_sub (lv' := []) [] rfl ?_
        exact vb_Model_file_37 hc hq  _ hw
      · replace hw := hw.2 hq1
        refine V_aload_n hc 0 d_Model_file_22 rfl rfl ?_
        obtain ⟨q4, hw⟩ := hw
        refine V_get (v := va_rf (mm_P h2 v0 0)) hc gf_Model_9 rfl q4 rfl d_Model_file_23 ?_
        refine V_iload_n hc 1 d_Model_file_26 rfl rfl ?_
        refine V_iconst (v := 1) hc d_Model_file_27 (by decide) ?_
        refine V_iadd hc d_Model_file_28 ?_
        refine V_iload_n hc 2 d_Model_file_29 rfl rfl ?_
        refine V_callS (rm' := rm_Model_spot) (As := [.int ((v1) + (1 : Int32)), .int (v2)]) (rest := [va_rf (mm_P h2 v0 0)]) (n := 2) hc (sat_Model_spot (eG E) _ _ _ _ hw) cv_Model_96 (gw_of (tw_5 (List.mem_of_getElem? (i := 196) rfl)) rfl) rfl ⟨by decide, by decide⟩ (by decide) (by decide) rfl (by simp [cat_rf, cat_i, cat_l]) d_Model_file_30 (fun r0 h5 hw => ?_)
        obtain ⟨r6, rfl, hw⟩ := hw
        refine V_wide (cs' := 0) (sl' := 0) (by decide) (by decide) ?_
        refine V_st (st' := [.int (r6), va_rf (mm_P h2 v0 0)]) rfl ?_
        obtain ⟨a7, q8, hw⟩ := hw
        obtain ⟨q9, hw⟩ := hw
        obtain ⟨q10, hw⟩ := hw
        refine V_zald hc q8 q9 q10 d_Model_file_33 ?_
        refine V_if_ne (tgt := 40) hc d_Model_file_34 (by decide) (fun hq1 => ?_) (fun hq1 => ?_)
        · replace hw := hw.1 hq1
          refine V_iload_n hc 1 d_Model_file_40 rfl rfl ?_
          refine V_iconst (v := 1) hc d_Model_file_41 (by decide) ?_
          refine V_iadd hc d_Model_file_42 ?_
          refine V_iload_n hc 2 d_Model_file_43 rfl rfl ?_
          refine V_callS (rm' := rm_Model_spot) (As := [.int ((v1) + (1 : Int32)), .int (v2)]) (rest := []) (n := 2) hc (sat_Model_spot (eG E) _ _ _ _ hw) cv_Model_96 (gw_of (tw_5 (List.mem_of_getElem? (i := 196) rfl)) rfl) rfl ⟨by decide, by decide⟩ (by decide) (by decide) rfl (by simp [cat_rf, cat_i, cat_l]) d_Model_file_44 (fun r0 h11 hw => ?_)
          obtain ⟨r12, rfl, hw⟩ := hw
          refine V_wide (cs' := 0) (sl' := 0) (by decide) (by decide) ?_
          refine V_st (st' := [.int (r12)]) rfl ?_
          refine V_istore (i := 4) (lv' := [(4, .int (r12)), (0, va_rf (some v0)), (1, .int (v1)), (2, .int (v2)), (3, .int (v3))]) hc d_Model_file_47 (by decide) rfl ?_
          refine V_iload_n hc 4 d_Model_file_49 rfl rfl ?_
          by_cases hs0 : (v3) = (0 : Int32)
          · replace hw := hw.1 hs0
            refine V_tabIn (off := 38) (tgt := 88) hc d_Model_file_50 (by rw [hs0]; decide) (by rw [hs0]; decide) (by rw [hs0]; rfl) (by decide) ?_
            refine V_aload_n hc 1 d_Model_file_88 rfl rfl ?_
            obtain ⟨q13, hw⟩ := hw
            refine V_get (v := va_rf (mm_P h11 v0 1)) hc gf_Model_13 rfl q13 rfl d_Model_file_89 ?_
            refine V_iload hc 0 d_Model_file_92 rfl ?_
            obtain ⟨a14, q15, hw⟩ := hw
            obtain ⟨q16, hw⟩ := hw
            obtain ⟨q17, hw⟩ := hw
            refine V_iald hc q15 q16 q17 d_Model_file_94 ?_
            exact V_iret hc hq ⟨_, rfl, hw⟩ (by decide) (by decide) d_Model_file_95
          by_cases hs1 : (v3) = (1 : Int32)
          · replace hw := hw.2.1 hs1
            refine V_tabIn (off := 46) (tgt := 96) hc d_Model_file_50 (by rw [hs1]; decide) (by rw [hs1]; decide) (by rw [hs1]; rfl) (by decide) ?_
            refine V_aload_n hc 1 d_Model_file_96 rfl rfl ?_
            obtain ⟨q18, hw⟩ := hw
            refine V_get (v := va_rf (mm_P h11 v0 3)) hc gf_Model_20 rfl q18 rfl d_Model_file_97 ?_
            refine V_iload hc 0 d_Model_file_100 rfl ?_
            obtain ⟨a19, q20, hw⟩ := hw
            obtain ⟨q21, hw⟩ := hw
            obtain ⟨q22, hw⟩ := hw
            refine V_iald hc q20 q21 q22 d_Model_file_102 ?_
            exact V_iret hc hq ⟨_, rfl, hw⟩ (by decide) (by decide) d_Model_file_103
          by_cases hs2 : (v3) = (2 : Int32)
          · replace hw := hw.2.2.1 hs2
            refine V_tabIn (off := 54) (tgt := 104) hc d_Model_file_50 (by rw [hs2]; decide) (by rw [hs2]; decide) (by rw [hs2]; rfl) (by decide) ?_
            refine V_aload_n hc 1 d_Model_file_104 rfl rfl ?_
            obtain ⟨q23, hw⟩ := hw
            refine V_get (v := va_rf (mm_P h11 v0 2)) hc gf_Model_17 rfl q23 rfl d_Model_file_105 ?_
            refine V_iload hc 0 d_Model_file_108 rfl ?_
            obtain ⟨a24, q25, hw⟩ := hw
            obtain ⟨q26, hw⟩ := hw
            obtain ⟨q27, hw⟩ := hw
            refine V_iald hc q25 q26 q27 d_Model_file_110 ?_
            exact V_iret hc hq ⟨_, rfl, hw⟩ (by decide) (by decide) d_Model_file_111
          by_cases hs3 : (v3) = (3 : Int32)
          · replace hw := hw.2.2.2.1 hs3
            refine V_tabIn (off := 62) (tgt := 112) hc d_Model_file_50 (by rw [hs3]; decide) (by rw [hs3]; decide) (by rw [hs3]; rfl) (by decide) ?_
            refine V_aload_n hc 1 d_Model_file_112 rfl rfl ?_
            obtain ⟨q28, hw⟩ := hw
            refine V_get (v := va_rf (mm_P h11 v0 4)) hc gf_Model_23 rfl q28 rfl d_Model_file_113 ?_
            refine V_iload hc 0 d_Model_file_116 rfl ?_
            obtain ⟨a29, q30, hw⟩ := hw
            obtain ⟨q31, hw⟩ := hw
            obtain ⟨q32, hw⟩ := hw
            refine V_iald hc q30 q31 q32 d_Model_file_118 ?_
            exact V_iret hc hq ⟨_, rfl, hw⟩ (by decide) (by decide) d_Model_file_119
          by_cases hs4 : (v3) = (4 : Int32)
          · replace hw := hw.2.2.2.2.1 hs4
            refine V_tabIn (off := 70) (tgt := 120) hc d_Model_file_50 (by rw [hs4]; decide) (by rw [hs4]; decide) (by rw [hs4]; rfl) (by decide) ?_
            refine V_aload_n hc 1 d_Model_file_120 rfl rfl ?_
            refine V_iload hc 0 d_Model_file_121 rfl ?_
            obtain ⟨q33, hw⟩ := hw
            refine V_callV (rm' := rm_Model_isDirectory) (As := [.int (r12)]) (rest := []) (n := 1) (cn := 0) hc rfl q33 (sat_Model_isDirectory (eG E) _ _ _ _ hw) rfl cv_Model_230 (gw_of (tw_6 (List.mem_of_getElem? (i := 39) rfl)) rfl) ss_Model_isDirectory rfl ⟨by decide, by decide⟩ (by decide) (by decide) rfl (by simp [cat_rf, cat_i, cat_l]) d_Model_file_123 (fun r0 h34 hw => ?_)
            obtain ⟨r35, rfl, hw⟩ := hw
            refine V_wide (cs' := 0) (sl' := 0) (by decide) (by decide) ?_
            refine V_st (st' := [.int (r35)]) rfl ?_
            refine V_if_eq (tgt := 140) hc d_Model_file_126 (by decide) (fun hq1 => ?_) (fun hq1 => ?_)
            · replace hw := hw.1 hq1
              refine V_aload_n hc 1 d_Model_file_140 rfl rfl ?_
              obtain ⟨q36, hw⟩ := hw
              refine V_get (v := va_rf (mm_P h34 v0 5)) hc gf_Model_26 rfl q36 rfl d_Model_file_141 ?_
              refine V_iload hc 0 d_Model_file_144 rfl ?_
              obtain ⟨a37, q38, hw⟩ := hw
              obtain ⟨q39, hw⟩ := hw
              obtain ⟨q40, hw⟩ := hw
              refine V_iald hc q38 q39 q40 d_Model_file_146 ?_
              refine V_sub (lv' := []) [] rfl ?_
              exact vb_Model_file_147 hc hq  _ _ hw
            · replace hw := hw.2 hq1
              refine V_aload_n hc 1 d_Model_file_129 rfl rfl ?_
              refine V_iload_n hc 2 d_Model_file_130 rfl rfl ?_
              refine V_iconst (v := 1) hc d_Model_file_131 (by decide) ?_
              refine V_iadd hc d_Model_file_132 ?_
              refine V_iload_n hc 3 d_Model_file_133 rfl rfl ?_
              obtain ⟨q41, hw⟩ := hw
              refine V_callV (rm' := rm_Model_filesIn) (As := [.int ((v1) + (1 : Int32)), .int (v2)]) (rest := []) (n := 2) (cn := 0) hc rfl q41 (sat_Model_filesIn (eG E) _ _ _ _ _ hw) rfl cv_Model_349 (gw_of (tw_6 (List.mem_of_getElem? (i := 56) rfl)) rfl) ss_Model_filesIn rfl ⟨by decide, by decide⟩ (by decide) (by decide) rfl (by simp [cat_rf, cat_i, cat_l]) d_Model_file_134 (fun r0 h42 hw => ?_)
              obtain ⟨r43, rfl, hw⟩ := hw
              refine V_wide (cs' := 0) (sl' := 0) (by decide) (by decide) ?_
              refine V_st (st' := [.int (r43)]) rfl ?_
              refine V_goto (tgt := 147) hc d_Model_file_137 (by decide) ?_
              refine V_sub (lv' := []) [] rfl ?_
              exact vb_Model_file_147 hc hq  _ _ hw
          by_cases hs5 : (v3) = (5 : Int32)
          · replace hw := hw.2.2.2.2.2.1 hs5
            refine V_tabIn (off := 98) (tgt := 148) hc d_Model_file_50 (by rw [hs5]; decide) (by rw [hs5]; decide) (by rw [hs5]; rfl) (by decide) ?_
            refine V_aload_n hc 1 d_Model_file_148 rfl rfl ?_
            obtain ⟨q44, hw⟩ := hw
            refine V_get (v := va_rf (mm_P h11 v0 6)) hc gf_Model_29 rfl q44 rfl d_Model_file_149 ?_
            refine V_iload hc 0 d_Model_file_152 rfl ?_
            obtain ⟨a45, q46, hw⟩ := hw
            obtain ⟨q47, hw⟩ := hw
            obtain ⟨q48, hw⟩ := hw
            refine V_iald hc q46 q47 q48 d_Model_file_154 ?_
            exact V_iret hc hq ⟨_, rfl, hw⟩ (by decide) (by decide) d_Model_file_155
          replace hw := hw.2.2.2.2.2.2 ⟨hs0, hs1, hs2, hs3, hs4, hs5⟩
          suffices hsD : V E 5 0 0 h11 156 [(4, .int (r12)), (0, va_rf (some v0)), (1, .int (v1)), (2, .int (v2)), (3, .int (v3))] [] by
            have nhs0 := lv_neT (a := 0) hs0 (by decide)
            have nhs1 := lv_neT (a := 1) hs1 (by decide)
            have nhs2 := lv_neT (a := 2) hs2 (by decide)
            have nhs3 := lv_neT (a := 3) hs3 (by decide)
            have nhs4 := lv_neT (a := 4) hs4 (by decide)
            have nhs5 := lv_neT (a := 5) hs5 (by decide)
            exact V_tabOut (tgt := 156) hc d_Model_file_50 (by omega) (by decide) hsD
          refine V_bipush (v := (-9)) hc d_Model_file_156 (by decide) ?_
          exact V_iret hc hq ⟨_, rfl, hw⟩ (by decide) (by decide) d_Model_file_158
        · replace hw := hw.2 hq1
          refine V_sub (lv' := []) [] rfl ?_
          exact vb_Model_file_37 hc hq  _ hw
def wq_Model_file (ge : Nat → Nat) (v0 : Nat) (v1 : Int32) (v2 : Int32) (v3 : Int32) (h : mm_M) (Z : Int32 → mm_M → Prop) : Prop := wq_Model_file_0 ge v0 v1 v2 v3 h Z
theorem sat_Model_file (G : mm_G) (v0 : Nat) (v1 : Int32) (v2 : Int32) (v3 : Int32) (h : mm_M) (Z : Int32 → mm_M → Prop) (hw : wq_Model_file (mm_ge G) v0 v1 v2 v3 h Z) : mm_Met G y_Model_file c_Model_file 5 (some (.int)) rm_Model_file [va_rf (some v0), .int (v1), .int (v2), .int (v3)] h (pI Z) := by
  refine mm_intro (own := "EpochServerModel") (by decide) rfl (by simp [lg_sl, cat_rf, cat_i, cat_l]) (fun E e1 hc hq hi => ?_)
  subst e1
  have e2 : lv_args 0 [va_rf (some v0), .int (v1), .int (v2), .int (v3)] = [(0, va_rf (some v0)), (1, .int (v1)), (2, .int (v2)), (3, .int (v3))] := by simp [lv_args, cat_rf, cat_i, cat_l]
  rw [e2]
  refine V_sub (lv' := [(0, va_rf (some v0)), (1, .int (v1)), (2, .int (v2)), (3, .int (v3))]) [0, 1, 2, 3] rfl ?_
  exact vb_Model_file_0 hc hq v0 v1 v2 v3 h hw
/-! Model.fid(II)I -/
abbrev rm_Model_fid : Room := { frames := 2, cells := 0, slots := 0, locals := 42 }
def wq_Model_fid_78  (ge : Nat → Nat) (s0 : Int32) (h : mm_M) (Z : Int32 → mm_M → Prop) : Prop :=
  Z (s0) h
def wq_Model_fid_98  (ge : Nat → Nat) (s0 : Int32) (h : mm_M) (Z : Int32 → mm_M → Prop) : Prop :=
  Z (s0) h
def wq_Model_fid_112  (ge : Nat → Nat) (s0 : Int32) (h : mm_M) (Z : Int32 → mm_M → Prop) : Prop :=
  Z (s0) h
def wq_Model_fid_0  (ge : Nat → Nat) (v0 : Nat) (v1 : Int32) (v2 : Int32) (h : mm_M) (Z : Int32 → mm_M → Prop) : Prop :=
  mm_k h (v0) = kd_Model ∧ wq_Model_fidOf ge (v0) (v1) h (fun (r3 : Int32) (h2 : mm_M) => ((0 ≤ (r3) → (((v2) = (0 : Int32) → mm_k h2 (v0) = kd_Model ∧ ∃ a5, mm_P h2 v0 22 = some a5 ∧ mm_k h2 (a5) = ka_I ∧ vp_in (r3) (mm_n h2 a5) ∧ Z ((mm_I h2 a5 (Int32.toNatClampNeg (r3))) - (1 : Int32)) h2) ∧ ((v2) = (1 : Int32) → mm_k h2 (v0) = kd_Model ∧ ∃ a10, mm_P h2 v0 23 = some a10 ∧ mm_k h2 (a10) = ka_I ∧ vp_in (r3) (mm_n h2 a10) ∧ Z (mm_I h2 a10 (Int32.toNatClampNeg (r3))) h2) ∧ ((v2) = (2 : Int32) → mm_k h2 (v0) = kd_Model ∧ ∃ a15, mm_P h2 v0 24 = some a15 ∧ mm_k h2 (a15) = ka_I ∧ vp_in (r3) (mm_n h2 a15) ∧ ((0 ≤ (mm_I h2 a15 (Int32.toNatClampNeg (r3))) → wq_Model_fid_78  ge (1) h2 Z) ∧ (¬ 0 ≤ (mm_I h2 a15 (Int32.toNatClampNeg (r3))) → wq_Model_fid_78  ge (0) h2 Z))) ∧ ((v2) = (3 : Int32) → mm_k h2 (v0) = kd_Model ∧ ∃ a20, mm_P h2 v0 24 = some a20 ∧ mm_k h2 (a20) = ka_I ∧ vp_in (r3) (mm_n h2 a20) ∧ ((0 ≤ (mm_I h2 a20 (Int32.toNatClampNeg (r3))) → vp_in (r3) (mm_n h2 a20) ∧ wq_Model_fid_98  ge (mm_I h2 a20 (Int32.toNatClampNeg (r3))) h2 Z) ∧ (¬ 0 ≤ (mm_I h2 a20 (Int32.toNatClampNeg (r3))) → wq_Model_fid_98  ge (0) h2 Z))) ∧ ((v2) = (4 : Int32) → mm_k h2 (v0) = kd_Model ∧ wq_Model_isLost ge (v0) (r3) h2 (fun (r27 : Int32) (h26 : mm_M) => (((r27) = 0 → wq_Model_fid_112  ge (0) h26 Z) ∧ (¬ (r27) = 0 → wq_Model_fid_112  ge (1) h26 Z)))) ∧ ((¬ (v2) = (0 : Int32) ∧ ¬ (v2) = (1 : Int32) ∧ ¬ (v2) = (2 : Int32) ∧ ¬ (v2) = (3 : Int32) ∧ ¬ (v2) = (4 : Int32)) → Z ((-9)) h2))) ∧ (¬ 0 ≤ (r3) → Z ((-9)) h2)))
set_option maxRecDepth 100000 in
set_option maxHeartbeats 4000000 in
theorem vb_Model_fid_78 {E : mm_E} {Z : Int32 → mm_M → Prop} (hc : cx E "EpochServerModel" c_Model_fid 4 (some (.int)) rm_Model_fid) (hq : cq E rm_Model_fid (pI Z))  (s0 : Int32) (h : mm_M) (hw : wq_Model_fid_78  (mm_ge (eG E)) s0 h Z) : V E 4 0 0 h 78 [] [.int (s0)] := by
  unfold wq_Model_fid_78 at hw
  exact V_iret hc hq ⟨_, rfl, hw⟩ (by decide) (by decide) d_Model_fid_78
set_option maxRecDepth 100000 in
set_option maxHeartbeats 4000000 in
theorem vb_Model_fid_98 {E : mm_E} {Z : Int32 → mm_M → Prop} (hc : cx E "EpochServerModel" c_Model_fid 4 (some (.int)) rm_Model_fid) (hq : cq E rm_Model_fid (pI Z))  (s0 : Int32) (h : mm_M) (hw : wq_Model_fid_98  (mm_ge (eG E)) s0 h Z) : V E 4 0 0 h 98 [] [.int (s0)] := by
  unfold wq_Model_fid_98 at hw
  exact V_iret hc hq ⟨_, rfl, hw⟩ (by decide) (by decide) d_Model_fid_98
set_option maxRecDepth 100000 in
set_option maxHeartbeats 4000000 in
theorem vb_Model_fid_112 {E : mm_E} {Z : Int32 → mm_M → Prop} (hc : cx E "EpochServerModel" c_Model_fid 4 (some (.int)) rm_Model_fid) (hq : cq E rm_Model_fid (pI Z))  (s0 : Int32) (h : mm_M) (hw : wq_Model_fid_112  (mm_ge (eG E)) s0 h Z) : V E 4 0 0 h 112 [] [.int (s0)] := by
  unfold wq_Model_fid_112 at hw
  exact V_iret hc hq ⟨_, rfl, hw⟩ (by decide) (by decide) d_Model_fid_112
set_option maxRecDepth 100000 in
set_option maxHeartbeats 4000000 in
theorem vb_Model_fid_0 {E : mm_E} {Z : Int32 → mm_M → Prop} (hc : cx E "EpochServerModel" c_Model_fid 4 (some (.int)) rm_Model_fid) (hq : cq E rm_Model_fid (pI Z))  (v0 : Nat) (v1 : Int32) (v2 : Int32) (h : mm_M) (hw : wq_Model_fid_0  (mm_ge (eG E)) v0 v1 v2 h Z) : V E 4 0 0 h 0 [(0, va_rf (some v0)), (1, .int (v1)), (2, .int (v2))] [] := by
  unfold wq_Model_fid_0 at hw
  refine V_aload_n hc 0 d_Model_fid_0 rfl rfl ?_
  refine V_iload_n hc 1 d_Model_fid_1 rfl rfl ?_
  obtain ⟨q1, hw⟩ := hw
  refine V_callV (rm' := rm_Model_fidOf) (As := [.int (v1)]) (rest := []) (n := 1) (cn := 0) hc rfl q1 (sat_Model_fidOf (eG E) _ _ _ _ hw) rfl cv_Model_256 (gw_of (tw_6 (List.mem_of_getElem? (i := 27) rfl)) rfl) ss_Model_fidOf rfl ⟨by decide, by decide⟩ (by decide) (by decide) rfl (by simp [cat_rf, cat_i, cat_l]) d_Model_fid_2 (fun r0 h2 hw => ?_)
  obtain ⟨r3, rfl, hw⟩ := hw
  refine V_wide (cs' := 0) (sl' := 0) (by decide) (by decide) ?_
  refine V_st (st' := [.int (r3)]) rfl ?_
  refine V_istore_n (i := 3) (lv' := [(3, .int (r3)), (0, va_rf (some v0)), (1, .int (v1)), (2, .int (v2))]) hc d_Model_fid_5 rfl (by decide) rfl ?_
  refine V_iload_n hc 0 d_Model_fid_6 rfl rfl ?_
  refine V_if_ge (tgt := 13) hc d_Model_fid_7 (by decide) (fun hq1 => ?_) (fun hq1 => ?_)
  · replace hw := hw.1 hq1
    refine V_iload_n hc 3 d_Model_fid_13 rfl rfl ?_
    by_cases hs0 : (v2) = (0 : Int32)
    · replace hw := hw.1 hs0
      refine V_tabIn (off := 34) (tgt := 48) hc d_Model_fid_14 (by rw [hs0]; decide) (by rw [hs0]; decide) (by rw [hs0]; rfl) (by decide) ?_
      refine V_aload_n hc 1 d_Model_fid_48 rfl rfl ?_
      obtain ⟨q4, hw⟩ := hw
      refine V_get (v := va_rf (mm_P h2 v0 22)) hc gf_Model_53 rfl q4 rfl d_Model_fid_49 ?_
      refine V_iload_n hc 0 d_Model_fid_52 rfl rfl ?_
      obtain ⟨a5, q6, hw⟩ := hw
      obtain ⟨q7, hw⟩ := hw
      obtain ⟨q8, hw⟩ := hw
      refine V_iald hc q6 q7 q8 d_Model_fid_53 ?_
      refine V_iconst (v := 1) hc d_Model_fid_54 (by decide) ?_
      refine V_isub hc d_Model_fid_55 ?_
      exact V_iret hc hq ⟨_, rfl, hw⟩ (by decide) (by decide) d_Model_fid_56
    by_cases hs1 : (v2) = (1 : Int32)
    · replace hw := hw.2.1 hs1
      refine V_tabIn (off := 43) (tgt := 57) hc d_Model_fid_14 (by rw [hs1]; decide) (by rw [hs1]; decide) (by rw [hs1]; rfl) (by decide) ?_
      refine V_aload_n hc 1 d_Model_fid_57 rfl rfl ?_
      obtain ⟨q9, hw⟩ := hw
      refine V_get (v := va_rf (mm_P h2 v0 23)) hc gf_Model_56 rfl q9 rfl d_Model_fid_58 ?_
      refine V_iload_n hc 0 d_Model_fid_61 rfl rfl ?_
      obtain ⟨a10, q11, hw⟩ := hw
      obtain ⟨q12, hw⟩ := hw
      obtain ⟨q13, hw⟩ := hw
      refine V_iald hc q11 q12 q13 d_Model_fid_62 ?_
      exact V_iret hc hq ⟨_, rfl, hw⟩ (by decide) (by decide) d_Model_fid_63
    by_cases hs2 : (v2) = (2 : Int32)
    · replace hw := hw.2.2.1 hs2
      refine V_tabIn (off := 50) (tgt := 64) hc d_Model_fid_14 (by rw [hs2]; decide) (by rw [hs2]; decide) (by rw [hs2]; rfl) (by decide) ?_
      refine V_aload_n hc 1 d_Model_fid_64 rfl rfl ?_
      obtain ⟨q14, hw⟩ := hw
      refine V_get (v := va_rf (mm_P h2 v0 24)) hc gf_Model_59 rfl q14 rfl d_Model_fid_65 ?_
      refine V_iload_n hc 0 d_Model_fid_68 rfl rfl ?_
      obtain ⟨a15, q16, hw⟩ := hw
      obtain ⟨q17, hw⟩ := hw
      obtain ⟨q18, hw⟩ := hw
      refine V_iald hc q16 q17 q18 d_Model_fid_69 ?_
      refine V_if_ge (tgt := 77) hc d_Model_fid_70 (by decide) (fun hq1 => ?_) (fun hq1 => ?_)
      · replace hw := hw.1 hq1
        refine V_iconst (v := 1) hc d_Model_fid_77 (by decide) ?_
        refine V_sub (lv' := []) [] rfl ?_
        exact vb_Model_fid_78 hc hq  _ _ hw
      · replace hw := hw.2 hq1
        refine V_iconst (v := 0) hc d_Model_fid_73 (by decide) ?_
        refine V_goto (tgt := 78) hc d_Model_fid_74 (by decide) ?_
        refine V_sub (lv' := []) [] rfl ?_
        exact vb_Model_fid_78 hc hq  _ _ hw
    by_cases hs3 : (v2) = (3 : Int32)
    · replace hw := hw.2.2.2.1 hs3
      refine V_tabIn (off := 65) (tgt := 79) hc d_Model_fid_14 (by rw [hs3]; decide) (by rw [hs3]; decide) (by rw [hs3]; rfl) (by decide) ?_
      refine V_aload_n hc 1 d_Model_fid_79 rfl rfl ?_
      obtain ⟨q19, hw⟩ := hw
      refine V_get (v := va_rf (mm_P h2 v0 24)) hc gf_Model_59 rfl q19 rfl d_Model_fid_80 ?_
      refine V_iload_n hc 0 d_Model_fid_83 rfl rfl ?_
      obtain ⟨a20, q21, hw⟩ := hw
      obtain ⟨q22, hw⟩ := hw
      obtain ⟨q23, hw⟩ := hw
      refine V_iald hc q21 q22 q23 d_Model_fid_84 ?_
      refine V_if_ge (tgt := 92) hc d_Model_fid_85 (by decide) (fun hq1 => ?_) (fun hq1 => ?_)
      · replace hw := hw.1 hq1
        refine V_aload_n hc 1 d_Model_fid_92 rfl rfl ?_
        refine V_get (v := va_rf (mm_P h2 v0 24)) hc gf_Model_59 rfl q19 rfl d_Model_fid_93 ?_
        refine V_iload_n hc 0 d_Model_fid_96 rfl rfl ?_
        obtain ⟨q24, hw⟩ := hw
        refine V_iald hc q21 q22 q24 d_Model_fid_97 ?_
        refine V_sub (lv' := []) [] rfl ?_
        exact vb_Model_fid_98 hc hq  _ _ hw
      · replace hw := hw.2 hq1
        refine V_iconst (v := 0) hc d_Model_fid_88 (by decide) ?_
        refine V_goto (tgt := 98) hc d_Model_fid_89 (by decide) ?_
        refine V_sub (lv' := []) [] rfl ?_
        exact vb_Model_fid_98 hc hq  _ _ hw
    by_cases hs4 : (v2) = (4 : Int32)
    · replace hw := hw.2.2.2.2.1 hs4
      refine V_tabIn (off := 85) (tgt := 99) hc d_Model_fid_14 (by rw [hs4]; decide) (by rw [hs4]; decide) (by rw [hs4]; rfl) (by decide) ?_
      refine V_aload_n hc 1 d_Model_fid_99 rfl rfl ?_
      refine V_iload_n hc 0 d_Model_fid_100 rfl rfl ?_
      obtain ⟨q25, hw⟩ := hw
      refine V_callV (rm' := rm_Model_isLost) (As := [.int (r3)]) (rest := []) (n := 1) (cn := 0) hc rfl q25 (sat_Model_isLost (eG E) _ _ _ _ hw) rfl cv_Model_260 (gw_of (tw_6 (List.mem_of_getElem? (i := 44) rfl)) rfl) ss_Model_isLost rfl ⟨by decide, by decide⟩ (by decide) (by decide) rfl (by simp [cat_rf, cat_i, cat_l]) d_Model_fid_101 (fun r0 h26 hw => ?_)
      obtain ⟨r27, rfl, hw⟩ := hw
      refine V_wide (cs' := 0) (sl' := 0) (by decide) (by decide) ?_
      refine V_st (st' := [.int (r27)]) rfl ?_
      refine V_if_eq (tgt := 111) hc d_Model_fid_104 (by decide) (fun hq1 => ?_) (fun hq1 => ?_)
      · replace hw := hw.1 hq1
        refine V_iconst (v := 0) hc d_Model_fid_111 (by decide) ?_
        refine V_sub (lv' := []) [] rfl ?_
        exact vb_Model_fid_112 hc hq  _ _ hw
      · replace hw := hw.2 hq1
        refine V_iconst (v := 1) hc d_Model_fid_107 (by decide) ?_
        refine V_goto (tgt := 112) hc d_Model_fid_108 (by decide) ?_
        refine V_sub (lv' := []) [] rfl ?_
        exact vb_Model_fid_112 hc hq  _ _ hw
    replace hw := hw.2.2.2.2.2 ⟨hs0, hs1, hs2, hs3, hs4⟩
    suffices hsD : V E 4 0 0 h2 113 [(3, .int (r3)), (0, va_rf (some v0)), (1, .int (v1)), (2, .int (v2))] [] by
      have nhs0 := lv_neT (a := 0) hs0 (by decide)
      have nhs1 := lv_neT (a := 1) hs1 (by decide)
      have nhs2 := lv_neT (a := 2) hs2 (by decide)
      have nhs3 := lv_neT (a := 3) hs3 (by decide)
      have nhs4 := lv_neT (a := 4) hs4 (by decide)
      exact V_tabOut (tgt := 113) hc d_Model_fid_14 (by omega) (by decide) hsD
    refine V_bipush (v := (-9)) hc d_Model_fid_113 (by decide) ?_
    exact V_iret hc hq ⟨_, rfl, hw⟩ (by decide) (by decide) d_Model_fid_115
  · replace hw := hw.2 hq1
    refine V_bipush (v := (-9)) hc d_Model_fid_10 (by decide) ?_
    exact V_iret hc hq ⟨_, rfl, hw⟩ (by decide) (by decide) d_Model_fid_12
def wq_Model_fid (ge : Nat → Nat) (v0 : Nat) (v1 : Int32) (v2 : Int32) (h : mm_M) (Z : Int32 → mm_M → Prop) : Prop := wq_Model_fid_0 ge v0 v1 v2 h Z
theorem sat_Model_fid (G : mm_G) (v0 : Nat) (v1 : Int32) (v2 : Int32) (h : mm_M) (Z : Int32 → mm_M → Prop) (hw : wq_Model_fid (mm_ge G) v0 v1 v2 h Z) : mm_Met G y_Model_fid c_Model_fid 4 (some (.int)) rm_Model_fid [va_rf (some v0), .int (v1), .int (v2)] h (pI Z) := by
  refine mm_intro (own := "EpochServerModel") (by decide) rfl (by simp [lg_sl, cat_rf, cat_i, cat_l]) (fun E e1 hc hq hi => ?_)
  subst e1
  have e2 : lv_args 0 [va_rf (some v0), .int (v1), .int (v2)] = [(0, va_rf (some v0)), (1, .int (v1)), (2, .int (v2))] := by simp [lv_args, cat_rf, cat_i, cat_l]
  rw [e2]
  refine V_sub (lv' := [(0, va_rf (some v0)), (1, .int (v1)), (2, .int (v2))]) [0, 1, 2] rfl ?_
  exact vb_Model_fid_0 hc hq v0 v1 v2 h hw
/-! Model.count(I)I -/
abbrev rm_Model_count : Room := { frames := 0, cells := 0, slots := 0, locals := 0 }
def wq_Model_count_96 (X75 : Nat → Int32 → Int32 → mm_M → Prop) (ge : Nat → Nat) (v0 : Nat) (v3 : Int32) (s0 : Int32) (s1 : Int32) (h : mm_M) (Z : Int32 → mm_M → Prop) : Prop :=
  X75 (v0) ((s0) + (s1)) (v3 + 1) h
def wq_Model_count_75 (X75 : Nat → Int32 → Int32 → mm_M → Prop) (ge : Nat → Nat) (v0 : Nat) (v2 : Int32) (v3 : Int32) (h : mm_M) (Z : Int32 → mm_M → Prop) : Prop :=
  (((60 : Int32) ≤ (v3 : Int32) → Z (v2) h) ∧ (¬ (60 : Int32) ≤ (v3 : Int32) → mm_k h (v0) = kd_Model ∧ ∃ a2, mm_P h v0 0 = some a2 ∧ mm_k h (a2) = ka_Z ∧ vp_in (v3) (mm_n h a2) ∧ (((mm_I h a2 (Int32.toNatClampNeg (v3))) = 0 → wq_Model_count_96 X75 ge (v0) (v3) (v2) (0) h Z) ∧ (¬ (mm_I h a2 (Int32.toNatClampNeg (v3))) = 0 → wq_Model_count_96 X75 ge (v0) (v3) (v2) (1) h Z))))
def lp_Model_count_75  (ge : Nat → Nat) (v0 : Nat) (v2 : Int32) (v3 : Int32) (h : mm_M) (Z : Int32 → mm_M → Prop) : Prop :=
  ∀ X75 : Nat → Int32 → Int32 → mm_M → Prop, (∀ (v0 : Nat) (v2 : Int32) (v3 : Int32) (h : mm_M), wq_Model_count_75 X75 ge v0 v2 v3 h Z → X75 v0 v2 v3 h) → X75 v0 v2 v3 h
def wq_Model_count_0  (ge : Nat → Nat) (v0 : Nat) (v1 : Int32) (h : mm_M) (Z : Int32 → mm_M → Prop) : Prop :=
  (((v1) = (0 : Int32) → mm_k h (v0) = kd_Model ∧ Z (mm_I h v0 10) h) ∧ ((v1) = (1 : Int32) → lp_Model_count_75  ge (v0) (0) (0) h Z) ∧ ((v1) = (2 : Int32) → mm_k h (v0) = kd_Model ∧ Z (mm_I h v0 9) h) ∧ ((v1) = (3 : Int32) → mm_k h (v0) = kd_Model ∧ Z (mm_I h v0 27) h) ∧ ((v1) = (4 : Int32) → mm_k h (v0) = kd_Model ∧ Z (mm_I h v0 11) h) ∧ ((v1) = (5 : Int32) → mm_k h (v0) = kd_Model ∧ Z (mm_I h v0 13) h) ∧ ((v1) = (6 : Int32) → mm_k h (v0) = kd_Model ∧ Z (mm_I h v0 59) h) ∧ ((v1) = (7 : Int32) → mm_k h (v0) = kd_Model ∧ Z (mm_I h v0 60) h) ∧ ((v1) = (8 : Int32) → mm_k h (v0) = kd_Model ∧ Z (mm_I h v0 20) h) ∧ ((v1) = (9 : Int32) → mm_k h (v0) = kd_Model ∧ Z (mm_I h v0 16) h) ∧ ((v1) = (10 : Int32) → mm_k h (v0) = kd_Model ∧ Z (mm_I h v0 17) h) ∧ ((v1) = (11 : Int32) → mm_k h (v0) = kd_Model ∧ Z (mm_I h v0 18) h) ∧ ((v1) = (12 : Int32) → mm_k h (v0) = kd_Model ∧ Z (mm_I h v0 19) h) ∧ ((¬ (v1) = (0 : Int32) ∧ ¬ (v1) = (1 : Int32) ∧ ¬ (v1) = (2 : Int32) ∧ ¬ (v1) = (3 : Int32) ∧ ¬ (v1) = (4 : Int32) ∧ ¬ (v1) = (5 : Int32) ∧ ¬ (v1) = (6 : Int32) ∧ ¬ (v1) = (7 : Int32) ∧ ¬ (v1) = (8 : Int32) ∧ ¬ (v1) = (9 : Int32) ∧ ¬ (v1) = (10 : Int32) ∧ ¬ (v1) = (11 : Int32) ∧ ¬ (v1) = (12 : Int32)) → Z ((-9)) h))
set_option maxRecDepth 100000 in
set_option maxHeartbeats 4000000 in
theorem vb_Model_count_96 {E : mm_E} {Z : Int32 → mm_M → Prop} (hc : cx E "EpochServerModel" c_Model_count 4 (some (.int)) rm_Model_count) (hq : cq E rm_Model_count (pI Z)) (X75 : Nat → Int32 → Int32 → mm_M → Prop) (hX75 : ∀ (v0 : Nat) (v2 : Int32) (v3 : Int32) (h : mm_M), X75 v0 v2 v3 h → V E 4 0 0 h 75 [(0, va_rf (some v0)), (2, .int (v2)), (3, .int (v3))] []) (v0 : Nat) (v3 : Int32) (s0 : Int32) (s1 : Int32) (h : mm_M) (hw : wq_Model_count_96 X75 (mm_ge (eG E)) v0 v3 s0 s1 h Z) : V E 4 0 0 h 96 [(0, va_rf (some v0)), (3, .int (v3))] [.int (s1), .int (s0)] := by
  unfold wq_Model_count_96 at hw
  refine V_iadd hc d_Model_count_96 ?_
  refine V_istore_n (i := 2) (lv' := [(2, .int ((s0) + (s1))), (0, va_rf (some v0)), (3, .int (v3))]) hc d_Model_count_97 rfl (by decide) rfl ?_
  refine V_iinc (v := v3 + 1) (lv' := [(3, .int (v3 + 1)), (2, .int ((s0) + (s1))), (0, va_rf (some v0))]) hc 2 d_Model_count_98 rfl rfl (by decide) rfl ?_
  refine V_goto (tgt := 75) hc d_Model_count_101 (by decide) ?_
  refine V_sub (lv' := [(0, va_rf (some v0)), (2, .int ((s0) + (s1))), (3, .int (v3 + 1))]) [2, 1, 0] rfl ?_
  exact hX75 _ _ _ _ hw
set_option maxRecDepth 100000 in
set_option maxHeartbeats 4000000 in
theorem vb_Model_count_75 {E : mm_E} {Z : Int32 → mm_M → Prop} (hc : cx E "EpochServerModel" c_Model_count 4 (some (.int)) rm_Model_count) (hq : cq E rm_Model_count (pI Z)) (X75 : Nat → Int32 → Int32 → mm_M → Prop) (hX75 : ∀ (v0 : Nat) (v2 : Int32) (v3 : Int32) (h : mm_M), X75 v0 v2 v3 h → V E 4 0 0 h 75 [(0, va_rf (some v0)), (2, .int (v2)), (3, .int (v3))] []) (v0 : Nat) (v2 : Int32) (v3 : Int32) (h : mm_M) (hw : wq_Model_count_75 X75 (mm_ge (eG E)) v0 v2 v3 h Z) : V E 4 0 0 h 75 [(0, va_rf (some v0)), (2, .int (v2)), (3, .int (v3))] [] := by
  unfold wq_Model_count_75 at hw
  refine V_iload_n hc 2 d_Model_count_75 rfl rfl ?_
  refine V_bipush (v := 60) hc d_Model_count_76 (by decide) ?_
  refine V_icmp_ge (tgt := 104) hc d_Model_count_78 (by decide) (fun hq1 => ?_) (fun hq1 => ?_)
  · replace hw := hw.1 hq1
    refine V_iload_n hc 1 d_Model_count_104 rfl rfl ?_
    exact V_iret hc hq ⟨_, rfl, hw⟩ (by decide) (by decide) d_Model_count_105
  · replace hw := hw.2 hq1
    refine V_iload_n hc 1 d_Model_count_81 rfl rfl ?_
    refine V_aload_n hc 0 d_Model_count_82 rfl rfl ?_
    obtain ⟨q1, hw⟩ := hw
    refine V_get (v := va_rf (mm_P h v0 0)) hc gf_Model_9 rfl q1 rfl d_Model_count_83 ?_
    refine V_iload_n hc 2 d_Model_count_86 rfl rfl ?_
    obtain ⟨a2, q3, hw⟩ := hw
    obtain ⟨q4, hw⟩ := hw
    obtain ⟨q5, hw⟩ := hw
    refine V_zald hc q3 q4 q5 d_Model_count_87 ?_
    refine V_if_eq (tgt := 95) hc d_Model_count_88 (by decide) (fun hq1 => ?_) (fun hq1 => ?_)
    · replace hw := hw.1 hq1
      refine V_iconst (v := 0) hc d_Model_count_95 (by decide) ?_
      refine V_sub (lv' := [(0, va_rf (some v0)), (3, .int (v3))]) [0, 2] rfl ?_
      exact vb_Model_count_96 hc hq X75 hX75 _ _ _ _ _ hw
    · replace hw := hw.2 hq1
      refine V_iconst (v := 1) hc d_Model_count_91 (by decide) ?_
      refine V_goto (tgt := 96) hc d_Model_count_92 (by decide) ?_
      refine V_sub (lv' := [(0, va_rf (some v0)), (3, .int (v3))]) [0, 2] rfl ?_
      exact vb_Model_count_96 hc hq X75 hX75 _ _ _ _ _ hw
theorem vl_Model_count_75 {E : mm_E} {Z : Int32 → mm_M → Prop} (hc : cx E "EpochServerModel" c_Model_count 4 (some (.int)) rm_Model_count) (hq : cq E rm_Model_count (pI Z))  (v0 : Nat) (v2 : Int32) (v3 : Int32) (h : mm_M) (hw : lp_Model_count_75  (mm_ge (eG E)) v0 v2 v3 h Z) : V E 4 0 0 h 75 [(0, va_rf (some v0)), (2, .int (v2)), (3, .int (v3))] [] :=
  hw (fun v0 v2 v3 h => V E 4 0 0 h 75 [(0, va_rf (some v0)), (2, .int (v2)), (3, .int (v3))] []) (fun v0 v2 v3 h hb => vb_Model_count_75 hc hq  _ (fun _ _ _ _ q => q) v0 v2 v3 h hb)
set_option maxRecDepth 100000 in
set_option maxHeartbeats 4000000 in
theorem vb_Model_count_0 {E : mm_E} {Z : Int32 → mm_M → Prop} (hc : cx E "EpochServerModel" c_Model_count 4 (some (.int)) rm_Model_count) (hq : cq E rm_Model_count (pI Z))  (v0 : Nat) (v1 : Int32) (h : mm_M) (hw : wq_Model_count_0  (mm_ge (eG E)) v0 v1 h Z) : V E 4 0 0 h 0 [(0, va_rf (some v0)), (1, .int (v1))] [] := by
  unfold wq_Model_count_0 at hw
  refine V_iconst (v := 0) hc d_Model_count_0 (by decide) ?_
  refine V_istore_n (i := 2) (lv' := [(2, .int (0)), (0, va_rf (some v0)), (1, .int (v1))]) hc d_Model_count_1 rfl (by decide) rfl ?_
  refine V_iload_n hc 2 d_Model_count_2 rfl rfl ?_
  by_cases hs0 : (v1) = (0 : Int32)
  · replace hw := hw.1 hs0
    refine V_tabIn (off := 65) (tgt := 68) hc d_Model_count_3 (by rw [hs0]; decide) (by rw [hs0]; decide) (by rw [hs0]; rfl) (by decide) ?_
    refine V_aload_n hc 1 d_Model_count_68 rfl rfl ?_
    obtain ⟨q1, hw⟩ := hw
    refine V_get (v := .int (mm_I h v0 10)) hc gf_Model_100 rfl q1 rfl d_Model_count_69 ?_
    exact V_iret hc hq ⟨_, rfl, hw⟩ (by decide) (by decide) d_Model_count_72
  by_cases hs1 : (v1) = (1 : Int32)
  · replace hw := hw.2.1 hs1
    refine V_tabIn (off := 70) (tgt := 73) hc d_Model_count_3 (by rw [hs1]; decide) (by rw [hs1]; decide) (by rw [hs1]; rfl) (by decide) ?_
    refine V_iconst (v := 0) hc d_Model_count_73 (by decide) ?_
    refine V_istore_n (i := 3) (lv' := [(3, .int (0)), (2, .int (0)), (0, va_rf (some v0)), (1, .int (v1))]) hc d_Model_count_74 rfl (by decide) rfl ?_
    refine V_sub (lv' := [(0, va_rf (some v0)), (2, .int (0)), (3, .int (0))]) [2, 1, 0] rfl ?_
    exact vl_Model_count_75 hc hq  _ _ _ _ hw
  by_cases hs2 : (v1) = (2 : Int32)
  · replace hw := hw.2.2.1 hs2
    refine V_tabIn (off := 103) (tgt := 106) hc d_Model_count_3 (by rw [hs2]; decide) (by rw [hs2]; decide) (by rw [hs2]; rfl) (by decide) ?_
    refine V_aload_n hc 1 d_Model_count_106 rfl rfl ?_
    obtain ⟨q2, hw⟩ := hw
    refine V_get (v := .int (mm_I h v0 9)) hc gf_Model_40 rfl q2 rfl d_Model_count_107 ?_
    exact V_iret hc hq ⟨_, rfl, hw⟩ (by decide) (by decide) d_Model_count_110
  by_cases hs3 : (v1) = (3 : Int32)
  · replace hw := hw.2.2.2.1 hs3
    refine V_tabIn (off := 108) (tgt := 111) hc d_Model_count_3 (by rw [hs3]; decide) (by rw [hs3]; decide) (by rw [hs3]; rfl) (by decide) ?_
    refine V_aload_n hc 1 d_Model_count_111 rfl rfl ?_
    obtain ⟨q3, hw⟩ := hw
    refine V_get (v := .int (mm_I h v0 27)) hc gf_Model_240 rfl q3 rfl d_Model_count_112 ?_
    exact V_iret hc hq ⟨_, rfl, hw⟩ (by decide) (by decide) d_Model_count_115
  by_cases hs4 : (v1) = (4 : Int32)
  · replace hw := hw.2.2.2.2.1 hs4
    refine V_tabIn (off := 113) (tgt := 116) hc d_Model_count_3 (by rw [hs4]; decide) (by rw [hs4]; decide) (by rw [hs4]; rfl) (by decide) ?_
    refine V_aload_n hc 1 d_Model_count_116 rfl rfl ?_
    obtain ⟨q4, hw⟩ := hw
    refine V_get (v := .int (mm_I h v0 11)) hc gf_Model_315 rfl q4 rfl d_Model_count_117 ?_
    exact V_iret hc hq ⟨_, rfl, hw⟩ (by decide) (by decide) d_Model_count_120
  by_cases hs5 : (v1) = (5 : Int32)
  · replace hw := hw.2.2.2.2.2.1 hs5
    refine V_tabIn (off := 118) (tgt := 121) hc d_Model_count_3 (by rw [hs5]; decide) (by rw [hs5]; decide) (by rw [hs5]; rfl) (by decide) ?_
    refine V_aload_n hc 1 d_Model_count_121 rfl rfl ?_
    obtain ⟨q5, hw⟩ := hw
    refine V_get (v := .int (mm_I h v0 13)) hc gf_Model_222 rfl q5 rfl d_Model_count_122 ?_
    exact V_iret hc hq ⟨_, rfl, hw⟩ (by decide) (by decide) d_Model_count_125
  by_cases hs6 : (v1) = (6 : Int32)
  · replace hw := hw.2.2.2.2.2.2.1 hs6
    refine V_tabIn (off := 123) (tgt := 126) hc d_Model_count_3 (by rw [hs6]; decide) (by rw [hs6]; decide) (by rw [hs6]; rfl) (by decide) ?_
    refine V_aload_n hc 1 d_Model_count_126 rfl rfl ?_
    obtain ⟨q6, hw⟩ := hw
    refine V_get (v := .int (mm_I h v0 59)) hc gf_Model_355 rfl q6 rfl d_Model_count_127 ?_
    exact V_iret hc hq ⟨_, rfl, hw⟩ (by decide) (by decide) d_Model_count_130
  by_cases hs7 : (v1) = (7 : Int32)
  · replace hw := hw.2.2.2.2.2.2.2.1 hs7
    refine V_tabIn (off := 128) (tgt := 131) hc d_Model_count_3 (by rw [hs7]; decide) (by rw [hs7]; decide) (by rw [hs7]; rfl) (by decide) ?_
    refine V_aload_n hc 1 d_Model_count_131 rfl rfl ?_
    obtain ⟨q7, hw⟩ := hw
    refine V_get (v := .int (mm_I h v0 60)) hc gf_Model_358 rfl q7 rfl d_Model_count_132 ?_
    exact V_iret hc hq ⟨_, rfl, hw⟩ (by decide) (by decide) d_Model_count_135
  by_cases hs8 : (v1) = (8 : Int32)
  · replace hw := hw.2.2.2.2.2.2.2.2.1 hs8
    refine V_tabIn (off := 133) (tgt := 136) hc d_Model_count_3 (by rw [hs8]; decide) (by rw [hs8]; decide) (by rw [hs8]; rfl) (by decide) ?_
    refine V_aload_n hc 1 d_Model_count_136 rfl rfl ?_
    obtain ⟨q8, hw⟩ := hw
    refine V_get (v := .int (mm_I h v0 20)) hc gf_Model_246 rfl q8 rfl d_Model_count_137 ?_
    exact V_iret hc hq ⟨_, rfl, hw⟩ (by decide) (by decide) d_Model_count_140
  by_cases hs9 : (v1) = (9 : Int32)
  · replace hw := hw.2.2.2.2.2.2.2.2.2.1 hs9
    refine V_tabIn (off := 138) (tgt := 141) hc d_Model_count_3 (by rw [hs9]; decide) (by rw [hs9]; decide) (by rw [hs9]; rfl) (by decide) ?_
    refine V_aload_n hc 1 d_Model_count_141 rfl rfl ?_
    obtain ⟨q9, hw⟩ := hw
    refine V_get (v := .int (mm_I h v0 16)) hc gf_Model_103 rfl q9 rfl d_Model_count_142 ?_
    exact V_iret hc hq ⟨_, rfl, hw⟩ (by decide) (by decide) d_Model_count_145
  by_cases hs10 : (v1) = (10 : Int32)
  · replace hw := hw.2.2.2.2.2.2.2.2.2.2.1 hs10
    refine V_tabIn (off := 143) (tgt := 146) hc d_Model_count_3 (by rw [hs10]; decide) (by rw [hs10]; decide) (by rw [hs10]; rfl) (by decide) ?_
    refine V_aload_n hc 1 d_Model_count_146 rfl rfl ?_
    obtain ⟨q10, hw⟩ := hw
    refine V_get (v := .int (mm_I h v0 17)) hc gf_Model_197 rfl q10 rfl d_Model_count_147 ?_
    exact V_iret hc hq ⟨_, rfl, hw⟩ (by decide) (by decide) d_Model_count_150
  by_cases hs11 : (v1) = (11 : Int32)
  · replace hw := hw.2.2.2.2.2.2.2.2.2.2.2.1 hs11
    refine V_tabIn (off := 148) (tgt := 151) hc d_Model_count_3 (by rw [hs11]; decide) (by rw [hs11]; decide) (by rw [hs11]; rfl) (by decide) ?_
    refine V_aload_n hc 1 d_Model_count_151 rfl rfl ?_
    obtain ⟨q11, hw⟩ := hw
    refine V_get (v := .int (mm_I h v0 18)) hc gf_Model_190 rfl q11 rfl d_Model_count_152 ?_
    exact V_iret hc hq ⟨_, rfl, hw⟩ (by decide) (by decide) d_Model_count_155
  by_cases hs12 : (v1) = (12 : Int32)
  · replace hw := hw.2.2.2.2.2.2.2.2.2.2.2.2.1 hs12
    refine V_tabIn (off := 153) (tgt := 156) hc d_Model_count_3 (by rw [hs12]; decide) (by rw [hs12]; decide) (by rw [hs12]; rfl) (by decide) ?_
    refine V_aload_n hc 1 d_Model_count_156 rfl rfl ?_
    obtain ⟨q12, hw⟩ := hw
    refine V_get (v := .int (mm_I h v0 19)) hc gf_Model_209 rfl q12 rfl d_Model_count_157 ?_
    exact V_iret hc hq ⟨_, rfl, hw⟩ (by decide) (by decide) d_Model_count_160
  replace hw := hw.2.2.2.2.2.2.2.2.2.2.2.2.2 ⟨hs0, hs1, hs2, hs3, hs4, hs5, hs6, hs7, hs8, hs9, hs10, hs11, hs12⟩
  suffices hsD : V E 4 0 0 h 161 [(2, .int (0)), (0, va_rf (some v0)), (1, .int (v1))] [] by
    have nhs0 := lv_neT (a := 0) hs0 (by decide)
    have nhs1 := lv_neT (a := 1) hs1 (by decide)
    have nhs2 := lv_neT (a := 2) hs2 (by decide)
    have nhs3 := lv_neT (a := 3) hs3 (by decide)
    have nhs4 := lv_neT (a := 4) hs4 (by decide)
    have nhs5 := lv_neT (a := 5) hs5 (by decide)
    have nhs6 := lv_neT (a := 6) hs6 (by decide)
    have nhs7 := lv_neT (a := 7) hs7 (by decide)
    have nhs8 := lv_neT (a := 8) hs8 (by decide)
    have nhs9 := lv_neT (a := 9) hs9 (by decide)
    have nhs10 := lv_neT (a := 10) hs10 (by decide)
    have nhs11 := lv_neT (a := 11) hs11 (by decide)
    have nhs12 := lv_neT (a := 12) hs12 (by decide)
    exact V_tabOut (tgt := 161) hc d_Model_count_3 (by omega) (by decide) hsD
  refine V_bipush (v := (-9)) hc d_Model_count_161 (by decide) ?_
  exact V_iret hc hq ⟨_, rfl, hw⟩ (by decide) (by decide) d_Model_count_163
def wq_Model_count (ge : Nat → Nat) (v0 : Nat) (v1 : Int32) (h : mm_M) (Z : Int32 → mm_M → Prop) : Prop := wq_Model_count_0 ge v0 v1 h Z
theorem sat_Model_count (G : mm_G) (v0 : Nat) (v1 : Int32) (h : mm_M) (Z : Int32 → mm_M → Prop) (hw : wq_Model_count (mm_ge G) v0 v1 h Z) : mm_Met G y_Model_count c_Model_count 4 (some (.int)) rm_Model_count [va_rf (some v0), .int (v1)] h (pI Z) := by
  refine mm_intro (own := "EpochServerModel") (by decide) rfl (by simp [lg_sl, cat_rf, cat_i, cat_l]) (fun E e1 hc hq hi => ?_)
  subst e1
  have e2 : lv_args 0 [va_rf (some v0), .int (v1)] = [(0, va_rf (some v0)), (1, .int (v1))] := by simp [lv_args, cat_rf, cat_i, cat_l]
  rw [e2]
  refine V_sub (lv' := [(0, va_rf (some v0)), (1, .int (v1))]) [0, 1] rfl ?_
  exact vb_Model_count_0 hc hq v0 v1 h hw
/-! Model.turn(II)I -/
abbrev rm_Model_turn : Room := { frames := 0, cells := 0, slots := 0, locals := 0 }
def wq_Model_turn_0  (ge : Nat → Nat) (v0 : Int32) (v1 : Int32) (h : mm_M) (Z : Int32 → mm_M → Prop) : Prop :=
  Z (((v0) <<< ((v1) &&& 31)) ||| (((v0).toUInt32 >>> (((32 : Int32) - (v1)).toUInt32 &&& Int32.toUInt32 31)).toInt32)) h
set_option maxRecDepth 100000 in
set_option maxHeartbeats 4000000 in
theorem vb_Model_turn_0 {E : mm_E} {Z : Int32 → mm_M → Prop} (hc : cx E "EpochServerModel" c_Model_turn 2 (some (.int)) rm_Model_turn) (hq : cq E rm_Model_turn (pI Z))  (v0 : Int32) (v1 : Int32) (h : mm_M) (hw : wq_Model_turn_0  (mm_ge (eG E)) v0 v1 h Z) : V E 2 0 0 h 0 [(0, .int (v0)), (1, .int (v1))] [] := by
  unfold wq_Model_turn_0 at hw
  refine V_iload_n hc 0 d_Model_turn_0 rfl rfl ?_
  refine V_iload_n hc 1 d_Model_turn_1 rfl rfl ?_
  refine V_ishl hc d_Model_turn_2 ?_
  refine V_iload_n hc 0 d_Model_turn_3 rfl rfl ?_
  refine V_bipush (v := 32) hc d_Model_turn_4 (by decide) ?_
  refine V_iload_n hc 1 d_Model_turn_6 rfl rfl ?_
  refine V_isub hc d_Model_turn_7 ?_
  refine V_iushr hc d_Model_turn_8 ?_
  refine V_ior hc d_Model_turn_9 ?_
  exact V_iret hc hq ⟨_, rfl, hw⟩ (by decide) (by decide) d_Model_turn_10
def wq_Model_turn (ge : Nat → Nat) (v0 : Int32) (v1 : Int32) (h : mm_M) (Z : Int32 → mm_M → Prop) : Prop := wq_Model_turn_0 ge v0 v1 h Z
theorem sat_Model_turn (G : mm_G) (v0 : Int32) (v1 : Int32) (h : mm_M) (Z : Int32 → mm_M → Prop) (hw : wq_Model_turn (mm_ge G) v0 v1 h Z) : mm_Met G y_Model_turn c_Model_turn 2 (some (.int)) rm_Model_turn [.int (v0), .int (v1)] h (pI Z) := by
  refine mm_intro (own := "EpochServerModel") (by decide) rfl (by simp [lg_sl, cat_rf, cat_i, cat_l]) (fun E e1 hc hq hi => ?_)
  subst e1
  have e2 : lv_args 0 [.int (v0), .int (v1)] = [(0, .int (v0)), (1, .int (v1))] := by simp [lv_args, cat_rf, cat_i, cat_l]
  rw [e2]
  refine V_sub (lv' := [(0, .int (v0)), (1, .int (v1))]) [0, 1] rfl ?_
  exact vb_Model_turn_0 hc hq v0 v1 h hw
/-! Model.rounds(I)V -/
abbrev rm_Model_rounds : Room := { frames := 1, cells := 0, slots := 0, locals := 21 }
def wq_Model_rounds_303 (X182 : Nat → Int32 → Int32 → Int32 → Int32 → Int32 → Int32 → mm_M → Prop) (ge : Nat → Nat) (v0 : Nat) (v2 : Int32) (v3 : Int32) (v4 : Int32) (v5 : Int32) (v6 : Int32) (v7 : Int32) (v8 : Int32) (s0 : Int32) (h : mm_M) (Z : mm_M → Prop) : Prop :=
  wq_Model_turn ge (v2) (5) h (fun (r2 : Int32) (h1 : mm_M) => mm_k h1 (v0) = kd_Model ∧ ∃ a4, mm_P h1 v0 56 = some a4 ∧ mm_k h1 (a4) = ka_I ∧ vp_in (v7) (mm_n h1 a4) ∧ wq_Model_turn ge (v3) (30) h1 (fun (r9 : Int32) (h8 : mm_M) => X182 (v0) (((((r2) + (v8)) + (v6)) + (s0)) + (mm_I h1 a4 (Int32.toNatClampNeg (v7)))) (v2) (r9) (v4) (v5) (v7 + 1) h8))
def wq_Model_rounds_259 (X182 : Nat → Int32 → Int32 → Int32 → Int32 → Int32 → Int32 → mm_M → Prop) (ge : Nat → Nat) (v0 : Nat) (v2 : Int32) (v3 : Int32) (v4 : Int32) (v5 : Int32) (v6 : Int32) (v7 : Int32) (s0 : Int32) (h : mm_M) (Z : mm_M → Prop) : Prop :=
  (((20 : Int32) ≤ (v7 : Int32) → (((40 : Int32) ≤ (v7 : Int32) → (((60 : Int32) ≤ (v7 : Int32) → wq_Model_rounds_303 X182 ge (v0) (v2) (v3) (v4) (v5) (v6) (v7) (s0) ((-899497514)) h Z) ∧ (¬ (60 : Int32) ≤ (v7 : Int32) → wq_Model_rounds_303 X182 ge (v0) (v2) (v3) (v4) (v5) (v6) (v7) (s0) ((-1894007588)) h Z))) ∧ (¬ (40 : Int32) ≤ (v7 : Int32) → wq_Model_rounds_303 X182 ge (v0) (v2) (v3) (v4) (v5) (v6) (v7) (s0) (1859775393) h Z))) ∧ (¬ (20 : Int32) ≤ (v7 : Int32) → wq_Model_rounds_303 X182 ge (v0) (v2) (v3) (v4) (v5) (v6) (v7) (s0) (1518500249) h Z))
def wq_Model_rounds_182 (X182 : Nat → Int32 → Int32 → Int32 → Int32 → Int32 → Int32 → mm_M → Prop) (ge : Nat → Nat) (v0 : Nat) (v2 : Int32) (v3 : Int32) (v4 : Int32) (v5 : Int32) (v6 : Int32) (v7 : Int32) (h : mm_M) (Z : mm_M → Prop) : Prop :=
  (((80 : Int32) ≤ (v7 : Int32) → mm_k h (v0) = kd_Model ∧ ∃ a2, mm_P h v0 57 = some a2 ∧ mm_k h (a2) = ka_I ∧ vp_in (0) (mm_n h a2) ∧ vp_in (0) (mm_n h a2) ∧ ge 0 ≤ a2 ∧ ∀ h8 : mm_M, h8 = mm_uI h a2 (Int32.toNatClampNeg (0)) ((mm_I h a2 (Int32.toNatClampNeg (0))) + (v2)) → mm_k h8 (v0) = kd_Model ∧ ∃ a10, mm_P h8 v0 57 = some a10 ∧ mm_k h8 (a10) = ka_I ∧ vp_in (1) (mm_n h8 a10) ∧ vp_in (1) (mm_n h8 a10) ∧ ge 0 ≤ a10 ∧ ∀ h16 : mm_M, h16 = mm_uI h8 a10 (Int32.toNatClampNeg (1)) ((mm_I h8 a10 (Int32.toNatClampNeg (1))) + (v3)) → mm_k h16 (v0) = kd_Model ∧ ∃ a18, mm_P h16 v0 57 = some a18 ∧ mm_k h16 (a18) = ka_I ∧ vp_in (2) (mm_n h16 a18) ∧ vp_in (2) (mm_n h16 a18) ∧ ge 0 ≤ a18 ∧ ∀ h24 : mm_M, h24 = mm_uI h16 a18 (Int32.toNatClampNeg (2)) ((mm_I h16 a18 (Int32.toNatClampNeg (2))) + (v4)) → mm_k h24 (v0) = kd_Model ∧ ∃ a26, mm_P h24 v0 57 = some a26 ∧ mm_k h24 (a26) = ka_I ∧ vp_in (3) (mm_n h24 a26) ∧ vp_in (3) (mm_n h24 a26) ∧ ge 0 ≤ a26 ∧ ∀ h32 : mm_M, h32 = mm_uI h24 a26 (Int32.toNatClampNeg (3)) ((mm_I h24 a26 (Int32.toNatClampNeg (3))) + (v5)) → mm_k h32 (v0) = kd_Model ∧ ∃ a34, mm_P h32 v0 57 = some a34 ∧ mm_k h32 (a34) = ka_I ∧ vp_in (4) (mm_n h32 a34) ∧ vp_in (4) (mm_n h32 a34) ∧ ge 0 ≤ a34 ∧ ∀ h40 : mm_M, h40 = mm_uI h32 a34 (Int32.toNatClampNeg (4)) ((mm_I h32 a34 (Int32.toNatClampNeg (4))) + (v6)) → Z h40) ∧ (¬ (80 : Int32) ≤ (v7 : Int32) → (((20 : Int32) ≤ (v7 : Int32) → (((40 : Int32) ≤ (v7 : Int32) → (((60 : Int32) ≤ (v7 : Int32) → wq_Model_rounds_259 X182 ge (v0) (v2) (v3) (v4) (v5) (v6) (v7) (((v3) ^^^ (v4)) ^^^ (v5)) h Z) ∧ (¬ (60 : Int32) ≤ (v7 : Int32) → wq_Model_rounds_259 X182 ge (v0) (v2) (v3) (v4) (v5) (v6) (v7) ((((v3) &&& (v4)) ||| ((v3) &&& (v5))) ||| ((v4) &&& (v5))) h Z))) ∧ (¬ (40 : Int32) ≤ (v7 : Int32) → wq_Model_rounds_259 X182 ge (v0) (v2) (v3) (v4) (v5) (v6) (v7) (((v3) ^^^ (v4)) ^^^ (v5)) h Z))) ∧ (¬ (20 : Int32) ≤ (v7 : Int32) → wq_Model_rounds_259 X182 ge (v0) (v2) (v3) (v4) (v5) (v6) (v7) (((v3) &&& (v4)) ||| (((v3) ^^^ ((-1) : Int32)) &&& (v5))) h Z))))
def lp_Model_rounds_182  (ge : Nat → Nat) (v0 : Nat) (v2 : Int32) (v3 : Int32) (v4 : Int32) (v5 : Int32) (v6 : Int32) (v7 : Int32) (h : mm_M) (Z : mm_M → Prop) : Prop :=
  ∀ X182 : Nat → Int32 → Int32 → Int32 → Int32 → Int32 → Int32 → mm_M → Prop, (∀ (v0 : Nat) (v2 : Int32) (v3 : Int32) (v4 : Int32) (v5 : Int32) (v6 : Int32) (v7 : Int32) (h : mm_M), wq_Model_rounds_182 X182 ge v0 v2 v3 v4 v5 v6 v7 h Z → X182 v0 v2 v3 v4 v5 v6 v7 h) → X182 v0 v2 v3 v4 v5 v6 v7 h
def wq_Model_rounds_81 (X81 : Nat → Int32 → mm_M → Prop) (ge : Nat → Nat) (v0 : Nat) (v2 : Int32) (h : mm_M) (Z : mm_M → Prop) : Prop :=
  (((80 : Int32) ≤ (v2 : Int32) → mm_k h (v0) = kd_Model ∧ ∃ a2, mm_P h v0 57 = some a2 ∧ mm_k h (a2) = ka_I ∧ vp_in (0) (mm_n h a2) ∧ vp_in (1) (mm_n h a2) ∧ vp_in (2) (mm_n h a2) ∧ vp_in (3) (mm_n h a2) ∧ vp_in (4) (mm_n h a2) ∧ lp_Model_rounds_182  ge (v0) (mm_I h a2 (Int32.toNatClampNeg (0))) (mm_I h a2 (Int32.toNatClampNeg (1))) (mm_I h a2 (Int32.toNatClampNeg (2))) (mm_I h a2 (Int32.toNatClampNeg (3))) (mm_I h a2 (Int32.toNatClampNeg (4))) (0) h Z) ∧ (¬ (80 : Int32) ≤ (v2 : Int32) → mm_k h (v0) = kd_Model ∧ ∃ a11, mm_P h v0 56 = some a11 ∧ mm_k h (a11) = ka_I ∧ vp_in ((v2) - (3 : Int32)) (mm_n h a11) ∧ vp_in ((v2) - (8 : Int32)) (mm_n h a11) ∧ vp_in ((v2) - (14 : Int32)) (mm_n h a11) ∧ vp_in ((v2) - (16 : Int32)) (mm_n h a11) ∧ wq_Model_turn ge ((((mm_I h a11 (Int32.toNatClampNeg ((v2) - (3 : Int32)))) ^^^ (mm_I h a11 (Int32.toNatClampNeg ((v2) - (8 : Int32))))) ^^^ (mm_I h a11 (Int32.toNatClampNeg ((v2) - (14 : Int32))))) ^^^ (mm_I h a11 (Int32.toNatClampNeg ((v2) - (16 : Int32))))) (1) h (fun (r19 : Int32) (h18 : mm_M) => ∃ a20, mm_P h v0 56 = some a20 ∧ mm_k h18 (a20) = ka_I ∧ vp_in (v2) (mm_n h18 a20) ∧ ge 0 ≤ a20 ∧ ∀ h25 : mm_M, h25 = mm_uI h18 a20 (Int32.toNatClampNeg (v2)) (r19) → X81 (v0) (v2 + 1) h25)))
def lp_Model_rounds_81  (ge : Nat → Nat) (v0 : Nat) (v2 : Int32) (h : mm_M) (Z : mm_M → Prop) : Prop :=
  ∀ X81 : Nat → Int32 → mm_M → Prop, (∀ (v0 : Nat) (v2 : Int32) (h : mm_M), wq_Model_rounds_81 X81 ge v0 v2 h Z → X81 v0 v2 h) → X81 v0 v2 h
def wq_Model_rounds_2 (X2 : Nat → Int32 → Int32 → mm_M → Prop) (ge : Nat → Nat) (v0 : Nat) (v1 : Int32) (v2 : Int32) (h : mm_M) (Z : mm_M → Prop) : Prop :=
  (((16 : Int32) ≤ (v2 : Int32) → lp_Model_rounds_81  ge (v0) (16) h Z) ∧ (¬ (16 : Int32) ≤ (v2 : Int32) → mm_k h (v0) = kd_Model ∧ ∃ a2, mm_P h v0 55 = some a2 ∧ mm_k h (a2) = ka_I ∧ vp_in ((v1) + ((4 : Int32) * (v2))) (mm_n h a2) ∧ vp_in (((v1) + ((4 : Int32) * (v2))) + (1 : Int32)) (mm_n h a2) ∧ vp_in (((v1) + ((4 : Int32) * (v2))) + (2 : Int32)) (mm_n h a2) ∧ vp_in (((v1) + ((4 : Int32) * (v2))) + (3 : Int32)) (mm_n h a2) ∧ ∃ a9, mm_P h v0 56 = some a9 ∧ mm_k h (a9) = ka_I ∧ vp_in (v2) (mm_n h a9) ∧ ge 0 ≤ a9 ∧ ∀ h14 : mm_M, h14 = mm_uI h a9 (Int32.toNatClampNeg (v2)) (((((mm_I h a2 (Int32.toNatClampNeg ((v1) + ((4 : Int32) * (v2))))) <<< ((24 : Int32) &&& 31)) ||| ((mm_I h a2 (Int32.toNatClampNeg (((v1) + ((4 : Int32) * (v2))) + (1 : Int32)))) <<< ((16 : Int32) &&& 31))) ||| ((mm_I h a2 (Int32.toNatClampNeg (((v1) + ((4 : Int32) * (v2))) + (2 : Int32)))) <<< ((8 : Int32) &&& 31))) ||| (mm_I h a2 (Int32.toNatClampNeg (((v1) + ((4 : Int32) * (v2))) + (3 : Int32))))) → X2 (v0) (v1) (v2 + 1) h14))
def lp_Model_rounds_2  (ge : Nat → Nat) (v0 : Nat) (v1 : Int32) (v2 : Int32) (h : mm_M) (Z : mm_M → Prop) : Prop :=
  ∀ X2 : Nat → Int32 → Int32 → mm_M → Prop, (∀ (v0 : Nat) (v1 : Int32) (v2 : Int32) (h : mm_M), wq_Model_rounds_2 X2 ge v0 v1 v2 h Z → X2 v0 v1 v2 h) → X2 v0 v1 v2 h
def wq_Model_rounds_0  (ge : Nat → Nat) (v0 : Nat) (v1 : Int32) (h : mm_M) (Z : mm_M → Prop) : Prop :=
  lp_Model_rounds_2  ge (v0) (v1) (0) h Z
set_option maxRecDepth 100000 in
set_option maxHeartbeats 4000000 in
theorem vb_Model_rounds_303 {E : mm_E} {Z : mm_M → Prop} (hc : cx E "EpochServerModel" c_Model_rounds 11 none rm_Model_rounds) (hq : cq E rm_Model_rounds (pV Z)) (X182 : Nat → Int32 → Int32 → Int32 → Int32 → Int32 → Int32 → mm_M → Prop) (hX182 : ∀ (v0 : Nat) (v2 : Int32) (v3 : Int32) (v4 : Int32) (v5 : Int32) (v6 : Int32) (v7 : Int32) (h : mm_M), X182 v0 v2 v3 v4 v5 v6 v7 h → V E 11 0 0 h 182 [(0, va_rf (some v0)), (2, .int (v2)), (3, .int (v3)), (4, .int (v4)), (5, .int (v5)), (6, .int (v6)), (7, .int (v7))] []) (v0 : Nat) (v2 : Int32) (v3 : Int32) (v4 : Int32) (v5 : Int32) (v6 : Int32) (v7 : Int32) (v8 : Int32) (s0 : Int32) (h : mm_M) (hw : wq_Model_rounds_303 X182 (mm_ge (eG E)) v0 v2 v3 v4 v5 v6 v7 v8 s0 h Z) : V E 11 0 0 h 303 [(0, va_rf (some v0)), (2, .int (v2)), (3, .int (v3)), (4, .int (v4)), (5, .int (v5)), (6, .int (v6)), (7, .int (v7)), (8, .int (v8))] [.int (s0)] := by
  unfold wq_Model_rounds_303 at hw
  refine V_istore (i := 9) (lv' := [(9, .int (s0)), (0, va_rf (some v0)), (2, .int (v2)), (3, .int (v3)), (4, .int (v4)), (5, .int (v5)), (6, .int (v6)), (7, .int (v7)), (8, .int (v8))]) hc d_Model_rounds_303 (by decide) rfl ?_
  refine V_iload_n hc 2 d_Model_rounds_305 rfl rfl ?_
  refine V_iconst (v := 5) hc d_Model_rounds_306 (by decide) ?_
  refine V_callS (rm' := rm_Model_turn) (As := [.int (v2), .int (5)]) (rest := []) (n := 2) hc (sat_Model_turn (eG E) _ _ _ _ hw) cv_Model_369 (gw_of (tw_6 (List.mem_of_getElem? (i := 193) rfl)) rfl) rfl ⟨by decide, by decide⟩ (by decide) (by decide) rfl (by simp [cat_rf, cat_i, cat_l]) d_Model_rounds_307 (fun r0 h1 hw => ?_)
  obtain ⟨r2, rfl, hw⟩ := hw
  refine V_wide (cs' := 0) (sl' := 0) (by decide) (by decide) ?_
  refine V_st (st' := [.int (r2)]) rfl ?_
  refine V_iload hc 8 d_Model_rounds_310 rfl ?_
  refine V_iadd hc d_Model_rounds_312 ?_
  refine V_iload hc 6 d_Model_rounds_313 rfl ?_
  refine V_iadd hc d_Model_rounds_315 ?_
  refine V_iload hc 0 d_Model_rounds_316 rfl ?_
  refine V_iadd hc d_Model_rounds_318 ?_
  refine V_aload_n hc 1 d_Model_rounds_319 rfl rfl ?_
  obtain ⟨q3, hw⟩ := hw
  refine V_get (v := va_rf (mm_P h1 v0 56)) hc gf_Model_83 rfl q3 rfl d_Model_rounds_320 ?_
  refine V_iload hc 7 d_Model_rounds_323 rfl ?_
  obtain ⟨a4, q5, hw⟩ := hw
  obtain ⟨q6, hw⟩ := hw
  obtain ⟨q7, hw⟩ := hw
  refine V_iald hc q5 q6 q7 d_Model_rounds_325 ?_
  refine V_iadd hc d_Model_rounds_326 ?_
  refine V_istore (i := 10) (lv' := [(10, .int (((((r2) + (v8)) + (v6)) + (s0)) + (mm_I h1 a4 (Int32.toNatClampNeg (v7))))), (9, .int (s0)), (0, va_rf (some v0)), (2, .int (v2)), (3, .int (v3)), (4, .int (v4)), (5, .int (v5)), (6, .int (v6)), (7, .int (v7)), (8, .int (v8))]) hc d_Model_rounds_327 (by decide) rfl ?_
  refine V_iload hc 6 d_Model_rounds_329 rfl ?_
  refine V_istore (i := 6) (lv' := [(6, .int (v5)), (10, .int (((((r2) + (v8)) + (v6)) + (s0)) + (mm_I h1 a4 (Int32.toNatClampNeg (v7))))), (9, .int (s0)), (0, va_rf (some v0)), (2, .int (v2)), (3, .int (v3)), (4, .int (v4)), (5, .int (v5)), (7, .int (v7)), (8, .int (v8))]) hc d_Model_rounds_331 (by decide) rfl ?_
  refine V_iload hc 6 d_Model_rounds_333 rfl ?_
  refine V_istore (i := 5) (lv' := [(5, .int (v4)), (6, .int (v5)), (10, .int (((((r2) + (v8)) + (v6)) + (s0)) + (mm_I h1 a4 (Int32.toNatClampNeg (v7))))), (9, .int (s0)), (0, va_rf (some v0)), (2, .int (v2)), (3, .int (v3)), (4, .int (v4)), (7, .int (v7)), (8, .int (v8))]) hc d_Model_rounds_335 (by decide) rfl ?_
  refine V_iload_n hc 6 d_Model_rounds_337 rfl rfl ?_
  refine V_bipush (v := 30) hc d_Model_rounds_338 (by decide) ?_
  refine V_callS (rm' := rm_Model_turn) (As := [.int (v3), .int (30)]) (rest := []) (n := 2) hc (sat_Model_turn (eG E) _ _ _ _ hw) cv_Model_369 (gw_of (tw_6 (List.mem_of_getElem? (i := 193) rfl)) rfl) rfl ⟨by decide, by decide⟩ (by decide) (by decide) rfl (by simp [cat_rf, cat_i, cat_l]) d_Model_rounds_340 (fun r0 h8 hw => ?_)
  obtain ⟨r9, rfl, hw⟩ := hw
  refine V_wide (cs' := 0) (sl' := 0) (by decide) (by decide) ?_
  refine V_st (st' := [.int (r9)]) rfl ?_
  refine V_istore (i := 4) (lv' := [(4, .int (r9)), (5, .int (v4)), (6, .int (v5)), (10, .int (((((r2) + (v8)) + (v6)) + (s0)) + (mm_I h1 a4 (Int32.toNatClampNeg (v7))))), (9, .int (s0)), (0, va_rf (some v0)), (2, .int (v2)), (3, .int (v3)), (7, .int (v7)), (8, .int (v8))]) hc d_Model_rounds_343 (by decide) rfl ?_
  refine V_iload_n hc 6 d_Model_rounds_345 rfl rfl ?_
  refine V_istore_n (i := 3) (lv' := [(3, .int (v2)), (4, .int (r9)), (5, .int (v4)), (6, .int (v5)), (10, .int (((((r2) + (v8)) + (v6)) + (s0)) + (mm_I h1 a4 (Int32.toNatClampNeg (v7))))), (9, .int (s0)), (0, va_rf (some v0)), (2, .int (v2)), (7, .int (v7)), (8, .int (v8))]) hc d_Model_rounds_346 rfl (by decide) rfl ?_
  refine V_iload hc 4 d_Model_rounds_347 rfl ?_
  refine V_istore_n (i := 2) (lv' := [(2, .int (((((r2) + (v8)) + (v6)) + (s0)) + (mm_I h1 a4 (Int32.toNatClampNeg (v7))))), (3, .int (v2)), (4, .int (r9)), (5, .int (v4)), (6, .int (v5)), (10, .int (((((r2) + (v8)) + (v6)) + (s0)) + (mm_I h1 a4 (Int32.toNatClampNeg (v7))))), (9, .int (s0)), (0, va_rf (some v0)), (7, .int (v7)), (8, .int (v8))]) hc d_Model_rounds_349 rfl (by decide) rfl ?_
  refine V_iinc (v := v7 + 1) (lv' := [(7, .int (v7 + 1)), (2, .int (((((r2) + (v8)) + (v6)) + (s0)) + (mm_I h1 a4 (Int32.toNatClampNeg (v7))))), (3, .int (v2)), (4, .int (r9)), (5, .int (v4)), (6, .int (v5)), (10, .int (((((r2) + (v8)) + (v6)) + (s0)) + (mm_I h1 a4 (Int32.toNatClampNeg (v7))))), (9, .int (s0)), (0, va_rf (some v0)), (8, .int (v8))]) hc 8 d_Model_rounds_350 rfl rfl (by decide) rfl ?_
  refine V_goto (tgt := 182) hc d_Model_rounds_353 (by decide) ?_
  refine V_sub (lv' := [(0, va_rf (some v0)), (2, .int (((((r2) + (v8)) + (v6)) + (s0)) + (mm_I h1 a4 (Int32.toNatClampNeg (v7))))), (3, .int (v2)), (4, .int (r9)), (5, .int (v4)), (6, .int (v5)), (7, .int (v7 + 1))]) [8, 1, 2, 3, 4, 5, 0] rfl ?_
  exact hX182 _ _ _ _ _ _ _ _ hw
set_option maxRecDepth 100000 in
set_option maxHeartbeats 4000000 in
theorem vb_Model_rounds_259 {E : mm_E} {Z : mm_M → Prop} (hc : cx E "EpochServerModel" c_Model_rounds 11 none rm_Model_rounds) (hq : cq E rm_Model_rounds (pV Z)) (X182 : Nat → Int32 → Int32 → Int32 → Int32 → Int32 → Int32 → mm_M → Prop) (hX182 : ∀ (v0 : Nat) (v2 : Int32) (v3 : Int32) (v4 : Int32) (v5 : Int32) (v6 : Int32) (v7 : Int32) (h : mm_M), X182 v0 v2 v3 v4 v5 v6 v7 h → V E 11 0 0 h 182 [(0, va_rf (some v0)), (2, .int (v2)), (3, .int (v3)), (4, .int (v4)), (5, .int (v5)), (6, .int (v6)), (7, .int (v7))] []) (v0 : Nat) (v2 : Int32) (v3 : Int32) (v4 : Int32) (v5 : Int32) (v6 : Int32) (v7 : Int32) (s0 : Int32) (h : mm_M) (hw : wq_Model_rounds_259 X182 (mm_ge (eG E)) v0 v2 v3 v4 v5 v6 v7 s0 h Z) : V E 11 0 0 h 259 [(0, va_rf (some v0)), (2, .int (v2)), (3, .int (v3)), (4, .int (v4)), (5, .int (v5)), (6, .int (v6)), (7, .int (v7))] [.int (s0)] := by
  unfold wq_Model_rounds_259 at hw
  refine V_istore (i := 8) (lv' := [(8, .int (s0)), (0, va_rf (some v0)), (2, .int (v2)), (3, .int (v3)), (4, .int (v4)), (5, .int (v5)), (6, .int (v6)), (7, .int (v7))]) hc d_Model_rounds_259 (by decide) rfl ?_
  refine V_iload hc 7 d_Model_rounds_261 rfl ?_
  refine V_bipush (v := 20) hc d_Model_rounds_263 (by decide) ?_
  refine V_icmp_ge (tgt := 274) hc d_Model_rounds_265 (by decide) (fun hq1 => ?_) (fun hq1 => ?_)
  · replace hw := hw.1 hq1
    refine V_iload hc 7 d_Model_rounds_274 rfl ?_
    refine V_bipush (v := 40) hc d_Model_rounds_276 (by decide) ?_
    refine V_icmp_ge (tgt := 287) hc d_Model_rounds_278 (by decide) (fun hq1 => ?_) (fun hq1 => ?_)
    · replace hw := hw.1 hq1
      refine V_iload hc 7 d_Model_rounds_287 rfl ?_
      refine V_bipush (v := 60) hc d_Model_rounds_289 (by decide) ?_
      refine V_icmp_ge (tgt := 300) hc d_Model_rounds_291 (by decide) (fun hq1 => ?_) (fun hq1 => ?_)
      · replace hw := hw.1 hq1
        refine V_ldc_w (v := (-899497514)) hc (gw_of (tw_6 (List.mem_of_getElem? (i := 198) rfl)) rfl) d_Model_rounds_300 ?_
        refine V_sub (lv' := [(0, va_rf (some v0)), (2, .int (v2)), (3, .int (v3)), (4, .int (v4)), (5, .int (v5)), (6, .int (v6)), (7, .int (v7)), (8, .int (s0))]) [1, 2, 3, 4, 5, 6, 7, 0] rfl ?_
        exact vb_Model_rounds_303 hc hq X182 hX182 _ _ _ _ _ _ _ _ _ _ hw
      · replace hw := hw.2 hq1
        refine V_ldc_w (v := (-1894007588)) hc (gw_of (tw_6 (List.mem_of_getElem? (i := 197) rfl)) rfl) d_Model_rounds_294 ?_
        refine V_goto (tgt := 303) hc d_Model_rounds_297 (by decide) ?_
        refine V_sub (lv' := [(0, va_rf (some v0)), (2, .int (v2)), (3, .int (v3)), (4, .int (v4)), (5, .int (v5)), (6, .int (v6)), (7, .int (v7)), (8, .int (s0))]) [1, 2, 3, 4, 5, 6, 7, 0] rfl ?_
        exact vb_Model_rounds_303 hc hq X182 hX182 _ _ _ _ _ _ _ _ _ _ hw
    · replace hw := hw.2 hq1
      refine V_ldc_w (v := 1859775393) hc (gw_of (tw_6 (List.mem_of_getElem? (i := 196) rfl)) rfl) d_Model_rounds_281 ?_
      refine V_goto (tgt := 303) hc d_Model_rounds_284 (by decide) ?_
      refine V_sub (lv' := [(0, va_rf (some v0)), (2, .int (v2)), (3, .int (v3)), (4, .int (v4)), (5, .int (v5)), (6, .int (v6)), (7, .int (v7)), (8, .int (s0))]) [1, 2, 3, 4, 5, 6, 7, 0] rfl ?_
      exact vb_Model_rounds_303 hc hq X182 hX182 _ _ _ _ _ _ _ _ _ _ hw
  · replace hw := hw.2 hq1
    refine V_ldc_w (v := 1518500249) hc (gw_of (tw_6 (List.mem_of_getElem? (i := 195) rfl)) rfl) d_Model_rounds_268 ?_
    refine V_goto (tgt := 303) hc d_Model_rounds_271 (by decide) ?_
    refine V_sub (lv' := [(0, va_rf (some v0)), (2, .int (v2)), (3, .int (v3)), (4, .int (v4)), (5, .int (v5)), (6, .int (v6)), (7, .int (v7)), (8, .int (s0))]) [1, 2, 3, 4, 5, 6, 7, 0] rfl ?_
    exact vb_Model_rounds_303 hc hq X182 hX182 _ _ _ _ _ _ _ _ _ _ hw
set_option maxRecDepth 100000 in
set_option maxHeartbeats 4000000 in
theorem vb_Model_rounds_182 {E : mm_E} {Z : mm_M → Prop} (hc : cx E "EpochServerModel" c_Model_rounds 11 none rm_Model_rounds) (hq : cq E rm_Model_rounds (pV Z)) (X182 : Nat → Int32 → Int32 → Int32 → Int32 → Int32 → Int32 → mm_M → Prop) (hX182 : ∀ (v0 : Nat) (v2 : Int32) (v3 : Int32) (v4 : Int32) (v5 : Int32) (v6 : Int32) (v7 : Int32) (h : mm_M), X182 v0 v2 v3 v4 v5 v6 v7 h → V E 11 0 0 h 182 [(0, va_rf (some v0)), (2, .int (v2)), (3, .int (v3)), (4, .int (v4)), (5, .int (v5)), (6, .int (v6)), (7, .int (v7))] []) (v0 : Nat) (v2 : Int32) (v3 : Int32) (v4 : Int32) (v5 : Int32) (v6 : Int32) (v7 : Int32) (h : mm_M) (hw : wq_Model_rounds_182 X182 (mm_ge (eG E)) v0 v2 v3 v4 v5 v6 v7 h Z) : V E 11 0 0 h 182 [(0, va_rf (some v0)), (2, .int (v2)), (3, .int (v3)), (4, .int (v4)), (5, .int (v5)), (6, .int (v6)), (7, .int (v7))] [] := by
  unfold wq_Model_rounds_182 at hw
  refine V_iload hc 6 d_Model_rounds_182 rfl ?_
  refine V_bipush (v := 80) hc d_Model_rounds_184 (by decide) ?_
  refine V_icmp_ge (tgt := 356) hc d_Model_rounds_186 (by decide) (fun hq1 => ?_) (fun hq1 => ?_)
  · replace hw := hw.1 hq1
    refine V_aload_n hc 0 d_Model_rounds_356 rfl rfl ?_
    obtain ⟨q1, hw⟩ := hw
    refine V_get (v := va_rf (mm_P h v0 57)) hc gf_Model_86 rfl q1 rfl d_Model_rounds_357 ?_
    refine V_iconst (v := 0) hc d_Model_rounds_360 (by decide) ?_
    refine V_dup2 hc d_Model_rounds_361 rfl (cat_rf _) ?_
    obtain ⟨a2, q3, hw⟩ := hw
    obtain ⟨q4, hw⟩ := hw
    obtain ⟨q5, hw⟩ := hw
    refine V_iald hc q3 q4 q5 d_Model_rounds_362 ?_
    refine V_iload_n hc 1 d_Model_rounds_363 rfl rfl ?_
    refine V_iadd hc d_Model_rounds_364 ?_
    obtain ⟨q6, hw⟩ := hw
    obtain ⟨q7, hw⟩ := hw
    obtain ⟨h8, eq_h8⟩ : ∃ x, x = mm_uI h a2 (Int32.toNatClampNeg (0)) ((mm_I h a2 (Int32.toNatClampNeg (0))) + (v2)) := ⟨_, rfl⟩
    replace hw := hw _ eq_h8
    refine V_iast hc q3 q4 q6 q7 d_Model_rounds_365 ?_
    rw [← eq_h8]
    refine V_aload_n hc 0 d_Model_rounds_366 rfl rfl ?_
    obtain ⟨q9, hw⟩ := hw
    refine V_get (v := va_rf (mm_P h8 v0 57)) hc gf_Model_86 rfl q9 rfl d_Model_rounds_367 ?_
    refine V_iconst (v := 1) hc d_Model_rounds_370 (by decide) ?_
    refine V_dup2 hc d_Model_rounds_371 rfl (cat_rf _) ?_
    obtain ⟨a10, q11, hw⟩ := hw
    obtain ⟨q12, hw⟩ := hw
    obtain ⟨q13, hw⟩ := hw
    refine V_iald hc q11 q12 q13 d_Model_rounds_372 ?_
    refine V_iload_n hc 2 d_Model_rounds_373 rfl rfl ?_
    refine V_iadd hc d_Model_rounds_374 ?_
    obtain ⟨q14, hw⟩ := hw
    obtain ⟨q15, hw⟩ := hw
    obtain ⟨h16, eq_h16⟩ : ∃ x, x = mm_uI h8 a10 (Int32.toNatClampNeg (1)) ((mm_I h8 a10 (Int32.toNatClampNeg (1))) + (v3)) := ⟨_, rfl⟩
    replace hw := hw _ eq_h16
    refine V_iast hc q11 q12 q14 q15 d_Model_rounds_375 ?_
    rw [← eq_h16]
    refine V_aload_n hc 0 d_Model_rounds_376 rfl rfl ?_
    obtain ⟨q17, hw⟩ := hw
    refine V_get (v := va_rf (mm_P h16 v0 57)) hc gf_Model_86 rfl q17 rfl d_Model_rounds_377 ?_
    refine V_iconst (v := 2) hc d_Model_rounds_380 (by decide) ?_
    refine V_dup2 hc d_Model_rounds_381 rfl (cat_rf _) ?_
    obtain ⟨a18, q19, hw⟩ := hw
    obtain ⟨q20, hw⟩ := hw
    obtain ⟨q21, hw⟩ := hw
    refine V_iald hc q19 q20 q21 d_Model_rounds_382 ?_
    refine V_iload hc 3 d_Model_rounds_383 rfl ?_
    refine V_iadd hc d_Model_rounds_385 ?_
    obtain ⟨q22, hw⟩ := hw
    obtain ⟨q23, hw⟩ := hw
    obtain ⟨h24, eq_h24⟩ : ∃ x, x = mm_uI h16 a18 (Int32.toNatClampNeg (2)) ((mm_I h16 a18 (Int32.toNatClampNeg (2))) + (v4)) := ⟨_, rfl⟩
    replace hw := hw _ eq_h24
    refine V_iast hc q19 q20 q22 q23 d_Model_rounds_386 ?_
    rw [← eq_h24]
    refine V_aload_n hc 0 d_Model_rounds_387 rfl rfl ?_
    obtain ⟨q25, hw⟩ := hw
    refine V_get (v := va_rf (mm_P h24 v0 57)) hc gf_Model_86 rfl q25 rfl d_Model_rounds_388 ?_
    refine V_iconst (v := 3) hc d_Model_rounds_391 (by decide) ?_
    refine V_dup2 hc d_Model_rounds_392 rfl (cat_rf _) ?_
    obtain ⟨a26, q27, hw⟩ := hw
    obtain ⟨q28, hw⟩ := hw
    obtain ⟨q29, hw⟩ := hw
    refine V_iald hc q27 q28 q29 d_Model_rounds_393 ?_
    refine V_iload hc 4 d_Model_rounds_394 rfl ?_
    refine V_iadd hc d_Model_rounds_396 ?_
    obtain ⟨q30, hw⟩ := hw
    obtain ⟨q31, hw⟩ := hw
    obtain ⟨h32, eq_h32⟩ : ∃ x, x = mm_uI h24 a26 (Int32.toNatClampNeg (3)) ((mm_I h24 a26 (Int32.toNatClampNeg (3))) + (v5)) := ⟨_, rfl⟩
    replace hw := hw _ eq_h32
    refine V_iast hc q27 q28 q30 q31 d_Model_rounds_397 ?_
    rw [← eq_h32]
    refine V_aload_n hc 0 d_Model_rounds_398 rfl rfl ?_
    obtain ⟨q33, hw⟩ := hw
    refine V_get (v := va_rf (mm_P h32 v0 57)) hc gf_Model_86 rfl q33 rfl d_Model_rounds_399 ?_
    refine V_iconst (v := 4) hc d_Model_rounds_402 (by decide) ?_
    refine V_dup2 hc d_Model_rounds_403 rfl (cat_rf _) ?_
    obtain ⟨a34, q35, hw⟩ := hw
    obtain ⟨q36, hw⟩ := hw
    obtain ⟨q37, hw⟩ := hw
    refine V_iald hc q35 q36 q37 d_Model_rounds_404 ?_
    refine V_iload hc 5 d_Model_rounds_405 rfl ?_
    refine V_iadd hc d_Model_rounds_407 ?_
    obtain ⟨q38, hw⟩ := hw
    obtain ⟨q39, hw⟩ := hw
    obtain ⟨h40, eq_h40⟩ : ∃ x, x = mm_uI h32 a34 (Int32.toNatClampNeg (4)) ((mm_I h32 a34 (Int32.toNatClampNeg (4))) + (v6)) := ⟨_, rfl⟩
    replace hw := hw _ eq_h40
    refine V_iast hc q35 q36 q38 q39 d_Model_rounds_408 ?_
    rw [← eq_h40]
    exact V_vret hc hq ⟨rfl, hw⟩ (by decide) (by decide) d_Model_rounds_409
  · replace hw := hw.2 hq1
    refine V_iload hc 6 d_Model_rounds_189 rfl ?_
    refine V_bipush (v := 20) hc d_Model_rounds_191 (by decide) ?_
    refine V_icmp_ge (tgt := 210) hc d_Model_rounds_193 (by decide) (fun hq1 => ?_) (fun hq1 => ?_)
    · replace hw := hw.1 hq1
      refine V_iload hc 6 d_Model_rounds_210 rfl ?_
      refine V_bipush (v := 40) hc d_Model_rounds_212 (by decide) ?_
      refine V_icmp_ge (tgt := 227) hc d_Model_rounds_214 (by decide) (fun hq1 => ?_) (fun hq1 => ?_)
      · replace hw := hw.1 hq1
        refine V_iload hc 6 d_Model_rounds_227 rfl ?_
        refine V_bipush (v := 60) hc d_Model_rounds_229 (by decide) ?_
        refine V_icmp_ge (tgt := 252) hc d_Model_rounds_231 (by decide) (fun hq1 => ?_) (fun hq1 => ?_)
        · replace hw := hw.1 hq1
          refine V_iload_n hc 2 d_Model_rounds_252 rfl rfl ?_
          refine V_iload hc 3 d_Model_rounds_253 rfl ?_
          refine V_ixor hc d_Model_rounds_255 ?_
          refine V_iload hc 4 d_Model_rounds_256 rfl ?_
          refine V_ixor hc d_Model_rounds_258 ?_
          refine V_sub (lv' := [(0, va_rf (some v0)), (2, .int (v2)), (3, .int (v3)), (4, .int (v4)), (5, .int (v5)), (6, .int (v6)), (7, .int (v7))]) [0, 1, 2, 3, 4, 5, 6] rfl ?_
          exact vb_Model_rounds_259 hc hq X182 hX182 _ _ _ _ _ _ _ _ _ hw
        · replace hw := hw.2 hq1
          refine V_iload_n hc 2 d_Model_rounds_234 rfl rfl ?_
          refine V_iload hc 3 d_Model_rounds_235 rfl ?_
          refine V_iand hc d_Model_rounds_237 ?_
          refine V_iload_n hc 2 d_Model_rounds_238 rfl rfl ?_
          refine V_iload hc 4 d_Model_rounds_239 rfl ?_
          refine V_iand hc d_Model_rounds_241 ?_
          refine V_ior hc d_Model_rounds_242 ?_
          refine V_iload hc 3 d_Model_rounds_243 rfl ?_
          refine V_iload hc 4 d_Model_rounds_245 rfl ?_
          refine V_iand hc d_Model_rounds_247 ?_
          refine V_ior hc d_Model_rounds_248 ?_
          refine V_goto (tgt := 259) hc d_Model_rounds_249 (by decide) ?_
          refine V_sub (lv' := [(0, va_rf (some v0)), (2, .int (v2)), (3, .int (v3)), (4, .int (v4)), (5, .int (v5)), (6, .int (v6)), (7, .int (v7))]) [0, 1, 2, 3, 4, 5, 6] rfl ?_
          exact vb_Model_rounds_259 hc hq X182 hX182 _ _ _ _ _ _ _ _ _ hw
      · replace hw := hw.2 hq1
        refine V_iload_n hc 2 d_Model_rounds_217 rfl rfl ?_
        refine V_iload hc 3 d_Model_rounds_218 rfl ?_
        refine V_ixor hc d_Model_rounds_220 ?_
        refine V_iload hc 4 d_Model_rounds_221 rfl ?_
        refine V_ixor hc d_Model_rounds_223 ?_
        refine V_goto (tgt := 259) hc d_Model_rounds_224 (by decide) ?_
        refine V_sub (lv' := [(0, va_rf (some v0)), (2, .int (v2)), (3, .int (v3)), (4, .int (v4)), (5, .int (v5)), (6, .int (v6)), (7, .int (v7))]) [0, 1, 2, 3, 4, 5, 6] rfl ?_
        exact vb_Model_rounds_259 hc hq X182 hX182 _ _ _ _ _ _ _ _ _ hw
    · replace hw := hw.2 hq1
      refine V_iload_n hc 2 d_Model_rounds_196 rfl rfl ?_
      refine V_iload hc 3 d_Model_rounds_197 rfl ?_
      refine V_iand hc d_Model_rounds_199 ?_
      refine V_iload_n hc 2 d_Model_rounds_200 rfl rfl ?_
      refine V_iconst (v := (-1)) hc d_Model_rounds_201 (by decide) ?_
      refine V_ixor hc d_Model_rounds_202 ?_
      refine V_iload hc 4 d_Model_rounds_203 rfl ?_
      refine V_iand hc d_Model_rounds_205 ?_
      refine V_ior hc d_Model_rounds_206 ?_
      refine V_goto (tgt := 259) hc d_Model_rounds_207 (by decide) ?_
      refine V_sub (lv' := [(0, va_rf (some v0)), (2, .int (v2)), (3, .int (v3)), (4, .int (v4)), (5, .int (v5)), (6, .int (v6)), (7, .int (v7))]) [0, 1, 2, 3, 4, 5, 6] rfl ?_
      exact vb_Model_rounds_259 hc hq X182 hX182 _ _ _ _ _ _ _ _ _ hw
theorem vl_Model_rounds_182 {E : mm_E} {Z : mm_M → Prop} (hc : cx E "EpochServerModel" c_Model_rounds 11 none rm_Model_rounds) (hq : cq E rm_Model_rounds (pV Z))  (v0 : Nat) (v2 : Int32) (v3 : Int32) (v4 : Int32) (v5 : Int32) (v6 : Int32) (v7 : Int32) (h : mm_M) (hw : lp_Model_rounds_182  (mm_ge (eG E)) v0 v2 v3 v4 v5 v6 v7 h Z) : V E 11 0 0 h 182 [(0, va_rf (some v0)), (2, .int (v2)), (3, .int (v3)), (4, .int (v4)), (5, .int (v5)), (6, .int (v6)), (7, .int (v7))] [] :=
  hw (fun v0 v2 v3 v4 v5 v6 v7 h => V E 11 0 0 h 182 [(0, va_rf (some v0)), (2, .int (v2)), (3, .int (v3)), (4, .int (v4)), (5, .int (v5)), (6, .int (v6)), (7, .int (v7))] []) (fun v0 v2 v3 v4 v5 v6 v7 h hb => vb_Model_rounds_182 hc hq  _ (fun _ _ _ _ _ _ _ _ q => q) v0 v2 v3 v4 v5 v6 v7 h hb)
set_option maxRecDepth 100000 in
set_option maxHeartbeats 4000000 in
theorem vb_Model_rounds_81 {E : mm_E} {Z : mm_M → Prop} (hc : cx E "EpochServerModel" c_Model_rounds 11 none rm_Model_rounds) (hq : cq E rm_Model_rounds (pV Z)) (X81 : Nat → Int32 → mm_M → Prop) (hX81 : ∀ (v0 : Nat) (v2 : Int32) (h : mm_M), X81 v0 v2 h → V E 11 0 0 h 81 [(0, va_rf (some v0)), (2, .int (v2))] []) (v0 : Nat) (v2 : Int32) (h : mm_M) (hw : wq_Model_rounds_81 X81 (mm_ge (eG E)) v0 v2 h Z) : V E 11 0 0 h 81 [(0, va_rf (some v0)), (2, .int (v2))] [] := by
  unfold wq_Model_rounds_81 at hw
  refine V_iload_n hc 1 d_Model_rounds_81 rfl rfl ?_
  refine V_bipush (v := 80) hc d_Model_rounds_82 (by decide) ?_
  refine V_icmp_ge (tgt := 141) hc d_Model_rounds_84 (by decide) (fun hq1 => ?_) (fun hq1 => ?_)
  · replace hw := hw.1 hq1
    refine V_aload_n hc 0 d_Model_rounds_141 rfl rfl ?_
    obtain ⟨q1, hw⟩ := hw
    refine V_get (v := va_rf (mm_P h v0 57)) hc gf_Model_86 rfl q1 rfl d_Model_rounds_142 ?_
    refine V_iconst (v := 0) hc d_Model_rounds_145 (by decide) ?_
    obtain ⟨a2, q3, hw⟩ := hw
    obtain ⟨q4, hw⟩ := hw
    obtain ⟨q5, hw⟩ := hw
    refine V_iald hc q3 q4 q5 d_Model_rounds_146 ?_
    refine V_istore_n (i := 2) (lv' := [(2, .int (mm_I h a2 (Int32.toNatClampNeg (0)))), (0, va_rf (some v0))]) hc d_Model_rounds_147 rfl (by decide) rfl ?_
    refine V_aload_n hc 1 d_Model_rounds_148 rfl rfl ?_
    refine V_get (v := va_rf (mm_P h v0 57)) hc gf_Model_86 rfl q1 rfl d_Model_rounds_149 ?_
    refine V_iconst (v := 1) hc d_Model_rounds_152 (by decide) ?_
    obtain ⟨q6, hw⟩ := hw
    refine V_iald hc q3 q4 q6 d_Model_rounds_153 ?_
    refine V_istore_n (i := 3) (lv' := [(3, .int (mm_I h a2 (Int32.toNatClampNeg (1)))), (2, .int (mm_I h a2 (Int32.toNatClampNeg (0)))), (0, va_rf (some v0))]) hc d_Model_rounds_154 rfl (by decide) rfl ?_
    refine V_aload_n hc 2 d_Model_rounds_155 rfl rfl ?_
    refine V_get (v := va_rf (mm_P h v0 57)) hc gf_Model_86 rfl q1 rfl d_Model_rounds_156 ?_
    refine V_iconst (v := 2) hc d_Model_rounds_159 (by decide) ?_
    obtain ⟨q7, hw⟩ := hw
    refine V_iald hc q3 q4 q7 d_Model_rounds_160 ?_
    refine V_istore (i := 4) (lv' := [(4, .int (mm_I h a2 (Int32.toNatClampNeg (2)))), (3, .int (mm_I h a2 (Int32.toNatClampNeg (1)))), (2, .int (mm_I h a2 (Int32.toNatClampNeg (0)))), (0, va_rf (some v0))]) hc d_Model_rounds_161 (by decide) rfl ?_
    refine V_aload_n hc 3 d_Model_rounds_163 rfl rfl ?_
    refine V_get (v := va_rf (mm_P h v0 57)) hc gf_Model_86 rfl q1 rfl d_Model_rounds_164 ?_
    refine V_iconst (v := 3) hc d_Model_rounds_167 (by decide) ?_
    obtain ⟨q8, hw⟩ := hw
    refine V_iald hc q3 q4 q8 d_Model_rounds_168 ?_
    refine V_istore (i := 5) (lv' := [(5, .int (mm_I h a2 (Int32.toNatClampNeg (3)))), (4, .int (mm_I h a2 (Int32.toNatClampNeg (2)))), (3, .int (mm_I h a2 (Int32.toNatClampNeg (1)))), (2, .int (mm_I h a2 (Int32.toNatClampNeg (0)))), (0, va_rf (some v0))]) hc d_Model_rounds_169 (by decide) rfl ?_
    refine V_aload_n hc 4 d_Model_rounds_171 rfl rfl ?_
    refine V_get (v := va_rf (mm_P h v0 57)) hc gf_Model_86 rfl q1 rfl d_Model_rounds_172 ?_
    refine V_iconst (v := 4) hc d_Model_rounds_175 (by decide) ?_
    obtain ⟨q9, hw⟩ := hw
    refine V_iald hc q3 q4 q9 d_Model_rounds_176 ?_
    refine V_istore (i := 6) (lv' := [(6, .int (mm_I h a2 (Int32.toNatClampNeg (4)))), (5, .int (mm_I h a2 (Int32.toNatClampNeg (3)))), (4, .int (mm_I h a2 (Int32.toNatClampNeg (2)))), (3, .int (mm_I h a2 (Int32.toNatClampNeg (1)))), (2, .int (mm_I h a2 (Int32.toNatClampNeg (0)))), (0, va_rf (some v0))]) hc d_Model_rounds_177 (by decide) rfl ?_
    refine V_iconst (v := 0) hc d_Model_rounds_179 (by decide) ?_
    refine V_istore (i := 7) (lv' := [(7, .int (0)), (6, .int (mm_I h a2 (Int32.toNatClampNeg (4)))), (5, .int (mm_I h a2 (Int32.toNatClampNeg (3)))), (4, .int (mm_I h a2 (Int32.toNatClampNeg (2)))), (3, .int (mm_I h a2 (Int32.toNatClampNeg (1)))), (2, .int (mm_I h a2 (Int32.toNatClampNeg (0)))), (0, va_rf (some v0))]) hc d_Model_rounds_180 (by decide) rfl ?_
    refine V_sub (lv' := [(0, va_rf (some v0)), (2, .int (mm_I h a2 (Int32.toNatClampNeg (0)))), (3, .int (mm_I h a2 (Int32.toNatClampNeg (1)))), (4, .int (mm_I h a2 (Int32.toNatClampNeg (2)))), (5, .int (mm_I h a2 (Int32.toNatClampNeg (3)))), (6, .int (mm_I h a2 (Int32.toNatClampNeg (4)))), (7, .int (0))]) [6, 5, 4, 3, 2, 1, 0] rfl ?_
    exact vl_Model_rounds_182 hc hq  _ _ _ _ _ _ _ _ hw
  · replace hw := hw.2 hq1
    refine V_aload_n hc 0 d_Model_rounds_87 rfl rfl ?_
    obtain ⟨q10, hw⟩ := hw
    refine V_get (v := va_rf (mm_P h v0 56)) hc gf_Model_83 rfl q10 rfl d_Model_rounds_88 ?_
    refine V_iload_n hc 1 d_Model_rounds_91 rfl rfl ?_
    refine V_aload_n hc 0 d_Model_rounds_92 rfl rfl ?_
    refine V_get (v := va_rf (mm_P h v0 56)) hc gf_Model_83 rfl q10 rfl d_Model_rounds_93 ?_
    refine V_iload_n hc 1 d_Model_rounds_96 rfl rfl ?_
    refine V_iconst (v := 3) hc d_Model_rounds_97 (by decide) ?_
    refine V_isub hc d_Model_rounds_98 ?_
    obtain ⟨a11, q12, hw⟩ := hw
    obtain ⟨q13, hw⟩ := hw
    obtain ⟨q14, hw⟩ := hw
    refine V_iald hc q12 q13 q14 d_Model_rounds_99 ?_
    refine V_aload_n hc 0 d_Model_rounds_100 rfl rfl ?_
    refine V_get (v := va_rf (mm_P h v0 56)) hc gf_Model_83 rfl q10 rfl d_Model_rounds_101 ?_
    refine V_iload_n hc 1 d_Model_rounds_104 rfl rfl ?_
    refine V_bipush (v := 8) hc d_Model_rounds_105 (by decide) ?_
    refine V_isub hc d_Model_rounds_107 ?_
    obtain ⟨q15, hw⟩ := hw
    refine V_iald hc q12 q13 q15 d_Model_rounds_108 ?_
    refine V_ixor hc d_Model_rounds_109 ?_
    refine V_aload_n hc 0 d_Model_rounds_110 rfl rfl ?_
    refine V_get (v := va_rf (mm_P h v0 56)) hc gf_Model_83 rfl q10 rfl d_Model_rounds_111 ?_
    refine V_iload_n hc 1 d_Model_rounds_114 rfl rfl ?_
    refine V_bipush (v := 14) hc d_Model_rounds_115 (by decide) ?_
    refine V_isub hc d_Model_rounds_117 ?_
    obtain ⟨q16, hw⟩ := hw
    refine V_iald hc q12 q13 q16 d_Model_rounds_118 ?_
    refine V_ixor hc d_Model_rounds_119 ?_
    refine V_aload_n hc 0 d_Model_rounds_120 rfl rfl ?_
    refine V_get (v := va_rf (mm_P h v0 56)) hc gf_Model_83 rfl q10 rfl d_Model_rounds_121 ?_
    refine V_iload_n hc 1 d_Model_rounds_124 rfl rfl ?_
    refine V_bipush (v := 16) hc d_Model_rounds_125 (by decide) ?_
    refine V_isub hc d_Model_rounds_127 ?_
    obtain ⟨q17, hw⟩ := hw
    refine V_iald hc q12 q13 q17 d_Model_rounds_128 ?_
    refine V_ixor hc d_Model_rounds_129 ?_
    refine V_iconst (v := 1) hc d_Model_rounds_130 (by decide) ?_
    refine V_callS (rm' := rm_Model_turn) (As := [.int ((((mm_I h a11 (Int32.toNatClampNeg ((v2) - (3 : Int32)))) ^^^ (mm_I h a11 (Int32.toNatClampNeg ((v2) - (8 : Int32))))) ^^^ (mm_I h a11 (Int32.toNatClampNeg ((v2) - (14 : Int32))))) ^^^ (mm_I h a11 (Int32.toNatClampNeg ((v2) - (16 : Int32))))), .int (1)]) (rest := [.int (v2), va_rf (mm_P h v0 56)]) (n := 2) hc (sat_Model_turn (eG E) _ _ _ _ hw) cv_Model_369 (gw_of (tw_6 (List.mem_of_getElem? (i := 193) rfl)) rfl) rfl ⟨by decide, by decide⟩ (by decide) (by decide) rfl (by simp [cat_rf, cat_i, cat_l]) d_Model_rounds_131 (fun r0 h18 hw => ?_)
    obtain ⟨r19, rfl, hw⟩ := hw
    refine V_wide (cs' := 0) (sl' := 0) (by decide) (by decide) ?_
    refine V_st (st' := [.int (r19), .int (v2), va_rf (mm_P h v0 56)]) rfl ?_
    obtain ⟨a20, q21, hw⟩ := hw
    obtain ⟨q22, hw⟩ := hw
    obtain ⟨q23, hw⟩ := hw
    obtain ⟨q24, hw⟩ := hw
    obtain ⟨h25, eq_h25⟩ : ∃ x, x = mm_uI h18 a20 (Int32.toNatClampNeg (v2)) (r19) := ⟨_, rfl⟩
    replace hw := hw _ eq_h25
    refine V_iast hc q21 q22 q23 q24 d_Model_rounds_134 ?_
    rw [← eq_h25]
    refine V_iinc (v := v2 + 1) (lv' := [(2, .int (v2 + 1)), (0, va_rf (some v0))]) hc 1 d_Model_rounds_135 rfl rfl (by decide) rfl ?_
    refine V_goto (tgt := 81) hc d_Model_rounds_138 (by decide) ?_
    refine V_sub (lv' := [(0, va_rf (some v0)), (2, .int (v2 + 1))]) [1, 0] rfl ?_
    exact hX81 _ _ _ hw
theorem vl_Model_rounds_81 {E : mm_E} {Z : mm_M → Prop} (hc : cx E "EpochServerModel" c_Model_rounds 11 none rm_Model_rounds) (hq : cq E rm_Model_rounds (pV Z))  (v0 : Nat) (v2 : Int32) (h : mm_M) (hw : lp_Model_rounds_81  (mm_ge (eG E)) v0 v2 h Z) : V E 11 0 0 h 81 [(0, va_rf (some v0)), (2, .int (v2))] [] :=
  hw (fun v0 v2 h => V E 11 0 0 h 81 [(0, va_rf (some v0)), (2, .int (v2))] []) (fun v0 v2 h hb => vb_Model_rounds_81 hc hq  _ (fun _ _ _ q => q) v0 v2 h hb)
set_option maxRecDepth 100000 in
set_option maxHeartbeats 4000000 in
theorem vb_Model_rounds_2 {E : mm_E} {Z : mm_M → Prop} (hc : cx E "EpochServerModel" c_Model_rounds 11 none rm_Model_rounds) (hq : cq E rm_Model_rounds (pV Z)) (X2 : Nat → Int32 → Int32 → mm_M → Prop) (hX2 : ∀ (v0 : Nat) (v1 : Int32) (v2 : Int32) (h : mm_M), X2 v0 v1 v2 h → V E 11 0 0 h 2 [(0, va_rf (some v0)), (1, .int (v1)), (2, .int (v2))] []) (v0 : Nat) (v1 : Int32) (v2 : Int32) (h : mm_M) (hw : wq_Model_rounds_2 X2 (mm_ge (eG E)) v0 v1 v2 h Z) : V E 11 0 0 h 2 [(0, va_rf (some v0)), (1, .int (v1)), (2, .int (v2))] [] := by
  unfold wq_Model_rounds_2 at hw
  refine V_iload_n hc 2 d_Model_rounds_2 rfl rfl ?_
  refine V_bipush (v := 16) hc d_Model_rounds_3 (by decide) ?_
  refine V_icmp_ge (tgt := 78) hc d_Model_rounds_5 (by decide) (fun hq1 => ?_) (fun hq1 => ?_)
  · replace hw := hw.1 hq1
    refine V_bipush (v := 16) hc d_Model_rounds_78 (by decide) ?_
    refine V_istore_n (i := 2) (lv' := [(2, .int (16)), (0, va_rf (some v0)), (1, .int (v1))]) hc d_Model_rounds_80 rfl (by decide) rfl ?_
    refine V_sub (lv' := [(0, va_rf (some v0)), (2, .int (16))]) [1, 0] rfl ?_
    exact vl_Model_rounds_81 hc hq  _ _ _ hw
  · replace hw := hw.2 hq1
    refine V_aload_n hc 0 d_Model_rounds_8 rfl rfl ?_
    obtain ⟨q1, hw⟩ := hw
    refine V_get (v := va_rf (mm_P h v0 56)) hc gf_Model_83 rfl q1 rfl d_Model_rounds_9 ?_
    refine V_iload_n hc 2 d_Model_rounds_12 rfl rfl ?_
    refine V_aload_n hc 0 d_Model_rounds_13 rfl rfl ?_
    refine V_get (v := va_rf (mm_P h v0 55)) hc gf_Model_80 rfl q1 rfl d_Model_rounds_14 ?_
    refine V_iload_n hc 1 d_Model_rounds_17 rfl rfl ?_
    refine V_iconst (v := 4) hc d_Model_rounds_18 (by decide) ?_
    refine V_iload_n hc 2 d_Model_rounds_19 rfl rfl ?_
    refine V_imul hc d_Model_rounds_20 ?_
    refine V_iadd hc d_Model_rounds_21 ?_
    obtain ⟨a2, q3, hw⟩ := hw
    obtain ⟨q4, hw⟩ := hw
    obtain ⟨q5, hw⟩ := hw
    refine V_iald hc q3 q4 q5 d_Model_rounds_22 ?_
    refine V_bipush (v := 24) hc d_Model_rounds_23 (by decide) ?_
    refine V_ishl hc d_Model_rounds_25 ?_
    refine V_aload_n hc 0 d_Model_rounds_26 rfl rfl ?_
    refine V_get (v := va_rf (mm_P h v0 55)) hc gf_Model_80 rfl q1 rfl d_Model_rounds_27 ?_
    refine V_iload_n hc 1 d_Model_rounds_30 rfl rfl ?_
    refine V_iconst (v := 4) hc d_Model_rounds_31 (by decide) ?_
    refine V_iload_n hc 2 d_Model_rounds_32 rfl rfl ?_
    refine V_imul hc d_Model_rounds_33 ?_
    refine V_iadd hc d_Model_rounds_34 ?_
    refine V_iconst (v := 1) hc d_Model_rounds_35 (by decide) ?_
    refine V_iadd hc d_Model_rounds_36 ?_
    obtain ⟨q6, hw⟩ := hw
    refine V_iald hc q3 q4 q6 d_Model_rounds_37 ?_
    refine V_bipush (v := 16) hc d_Model_rounds_38 (by decide) ?_
    refine V_ishl hc d_Model_rounds_40 ?_
    refine V_ior hc d_Model_rounds_41 ?_
    refine V_aload_n hc 0 d_Model_rounds_42 rfl rfl ?_
    refine V_get (v := va_rf (mm_P h v0 55)) hc gf_Model_80 rfl q1 rfl d_Model_rounds_43 ?_
    refine V_iload_n hc 1 d_Model_rounds_46 rfl rfl ?_
    refine V_iconst (v := 4) hc d_Model_rounds_47 (by decide) ?_
    refine V_iload_n hc 2 d_Model_rounds_48 rfl rfl ?_
    refine V_imul hc d_Model_rounds_49 ?_
    refine V_iadd hc d_Model_rounds_50 ?_
    refine V_iconst (v := 2) hc d_Model_rounds_51 (by decide) ?_
    refine V_iadd hc d_Model_rounds_52 ?_
    obtain ⟨q7, hw⟩ := hw
    refine V_iald hc q3 q4 q7 d_Model_rounds_53 ?_
    refine V_bipush (v := 8) hc d_Model_rounds_54 (by decide) ?_
    refine V_ishl hc d_Model_rounds_56 ?_
    refine V_ior hc d_Model_rounds_57 ?_
    refine V_aload_n hc 0 d_Model_rounds_58 rfl rfl ?_
    refine V_get (v := va_rf (mm_P h v0 55)) hc gf_Model_80 rfl q1 rfl d_Model_rounds_59 ?_
    refine V_iload_n hc 1 d_Model_rounds_62 rfl rfl ?_
    refine V_iconst (v := 4) hc d_Model_rounds_63 (by decide) ?_
    refine V_iload_n hc 2 d_Model_rounds_64 rfl rfl ?_
    refine V_imul hc d_Model_rounds_65 ?_
    refine V_iadd hc d_Model_rounds_66 ?_
    refine V_iconst (v := 3) hc d_Model_rounds_67 (by decide) ?_
    refine V_iadd hc d_Model_rounds_68 ?_
    obtain ⟨q8, hw⟩ := hw
    refine V_iald hc q3 q4 q8 d_Model_rounds_69 ?_
    refine V_ior hc d_Model_rounds_70 ?_
    obtain ⟨a9, q10, hw⟩ := hw
    obtain ⟨q11, hw⟩ := hw
    obtain ⟨q12, hw⟩ := hw
    obtain ⟨q13, hw⟩ := hw
    obtain ⟨h14, eq_h14⟩ : ∃ x, x = mm_uI h a9 (Int32.toNatClampNeg (v2)) (((((mm_I h a2 (Int32.toNatClampNeg ((v1) + ((4 : Int32) * (v2))))) <<< ((24 : Int32) &&& 31)) ||| ((mm_I h a2 (Int32.toNatClampNeg (((v1) + ((4 : Int32) * (v2))) + (1 : Int32)))) <<< ((16 : Int32) &&& 31))) ||| ((mm_I h a2 (Int32.toNatClampNeg (((v1) + ((4 : Int32) * (v2))) + (2 : Int32)))) <<< ((8 : Int32) &&& 31))) ||| (mm_I h a2 (Int32.toNatClampNeg (((v1) + ((4 : Int32) * (v2))) + (3 : Int32))))) := ⟨_, rfl⟩
    replace hw := hw _ eq_h14
    refine V_iast hc q10 q11 q12 q13 d_Model_rounds_71 ?_
    rw [← eq_h14]
    refine V_iinc (v := v2 + 1) (lv' := [(2, .int (v2 + 1)), (0, va_rf (some v0)), (1, .int (v1))]) hc 2 d_Model_rounds_72 rfl rfl (by decide) rfl ?_
    refine V_goto (tgt := 2) hc d_Model_rounds_75 (by decide) ?_
    refine V_sub (lv' := [(0, va_rf (some v0)), (1, .int (v1)), (2, .int (v2 + 1))]) [1, 2, 0] rfl ?_
    exact hX2 _ _ _ _ hw
theorem vl_Model_rounds_2 {E : mm_E} {Z : mm_M → Prop} (hc : cx E "EpochServerModel" c_Model_rounds 11 none rm_Model_rounds) (hq : cq E rm_Model_rounds (pV Z))  (v0 : Nat) (v1 : Int32) (v2 : Int32) (h : mm_M) (hw : lp_Model_rounds_2  (mm_ge (eG E)) v0 v1 v2 h Z) : V E 11 0 0 h 2 [(0, va_rf (some v0)), (1, .int (v1)), (2, .int (v2))] [] :=
  hw (fun v0 v1 v2 h => V E 11 0 0 h 2 [(0, va_rf (some v0)), (1, .int (v1)), (2, .int (v2))] []) (fun v0 v1 v2 h hb => vb_Model_rounds_2 hc hq  _ (fun _ _ _ _ q => q) v0 v1 v2 h hb)
set_option maxRecDepth 100000 in
set_option maxHeartbeats 4000000 in
theorem vb_Model_rounds_0 {E : mm_E} {Z : mm_M → Prop} (hc : cx E "EpochServerModel" c_Model_rounds 11 none rm_Model_rounds) (hq : cq E rm_Model_rounds (pV Z))  (v0 : Nat) (v1 : Int32) (h : mm_M) (hw : wq_Model_rounds_0  (mm_ge (eG E)) v0 v1 h Z) : V E 11 0 0 h 0 [(0, va_rf (some v0)), (1, .int (v1))] [] := by
  unfold wq_Model_rounds_0 at hw
  refine V_iconst (v := 0) hc d_Model_rounds_0 (by decide) ?_
  refine V_istore_n (i := 2) (lv' := [(2, .int (0)), (0, va_rf (some v0)), (1, .int (v1))]) hc d_Model_rounds_1 rfl (by decide) rfl ?_
  refine V_sub (lv' := [(0, va_rf (some v0)), (1, .int (v1)), (2, .int (0))]) [1, 2, 0] rfl ?_
  exact vl_Model_rounds_2 hc hq  _ _ _ _ hw
def wq_Model_rounds (ge : Nat → Nat) (v0 : Nat) (v1 : Int32) (h : mm_M) (Z : mm_M → Prop) : Prop := wq_Model_rounds_0 ge v0 v1 h Z
theorem sat_Model_rounds (G : mm_G) (v0 : Nat) (v1 : Int32) (h : mm_M) (Z : mm_M → Prop) (hw : wq_Model_rounds (mm_ge G) v0 v1 h Z) : mm_Met G y_Model_rounds c_Model_rounds 11 none rm_Model_rounds [va_rf (some v0), .int (v1)] h (pV Z) := by
  refine mm_intro (own := "EpochServerModel") (by decide) rfl (by simp [lg_sl, cat_rf, cat_i, cat_l]) (fun E e1 hc hq hi => ?_)
  subst e1
  have e2 : lv_args 0 [va_rf (some v0), .int (v1)] = [(0, va_rf (some v0)), (1, .int (v1))] := by simp [lv_args, cat_rf, cat_i, cat_l]
  rw [e2]
  refine V_sub (lv' := [(0, va_rf (some v0)), (1, .int (v1))]) [0, 1] rfl ?_
  exact vb_Model_rounds_0 hc hq v0 v1 h hw
