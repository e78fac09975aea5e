/-! Server.serveFid(LEpochServer$Fid;)I -/
abbrev rm_Server_serveFid : Room := { frames := 5, cells := 12, slots := 1208, locals := 135 }
def wq_Server_serveFid_61  (ge : Nat → Nat)  (h : mm_M) (Z : Int32 → mm_M → Prop) : Prop :=
  Z (4) h
def wq_Server_serveFid_196  (ge : Nat → Nat) (s0 : Int32) (h : mm_M) (Z : Int32 → mm_M → Prop) : Prop :=
  Z (s0) h
def wq_Server_serveFid_0  (ge : Nat → Nat) (v0 : Nat) (v1 : Option Nat) (h : mm_M) (Z : Int32 → mm_M → Prop) : Prop :=
  ∃ a1, v1 = some a1 ∧ mm_k h (a1) = kd_Fid ∧ mm_k h (v0) = kd_Server ∧ wq_Server_treeOf ge (v0) (mm_I h a1 2) h (fun (r6 : Option Nat) (h5 : mm_M) => mm_k h5 (v0) = kd_Server ∧ wq_Server_nodeOf ge (v0) (v1) h5 (fun (r9 : Option Nat) (h8 : mm_M) => mm_k h8 (v0) = kd_Server ∧ ∃ a11, mm_P h8 v0 2 = some a11 ∧ mm_k h8 (a11) = kd_Request ∧ ((¬ (mm_I h8 a11 5 : Int32) = (120 : Int32) → ((¬ (mm_I h8 a11 5 : Int32) = (122 : Int32) → ((r6 = none → wq_Server_serveFid_61  ge h8 Z) ∧ (∀ a14, r6 = some a14 → ((∀ a15, r9 = some a15 → (((mm_I h8 a11 5) = (110 : Int32) → wq_Server_walk ge (v0) (v1) (r6) (r9) h8 (fun (r17 : Int32) (h16 : mm_M) => Z (r17) h16)) ∧ ((mm_I h8 a11 5) = (112 : Int32) → wq_Server_open ge (v0) (v1) (r9) h8 (fun (r19 : Int32) (h18 : mm_M) => Z (r19) h18)) ∧ ((mm_I h8 a11 5) = (114 : Int32) → wq_Server_create ge (v0) (v1) (r9) h8 (fun (r21 : Int32) (h20 : mm_M) => Z (r21) h20)) ∧ ((mm_I h8 a11 5) = (116 : Int32) → ∃ a22, r9 = some a22 ∧ mm_k h8 (a22) = kd_Node ∧ wq_Node_isDirectory ge (a22) h8 (fun (r26 : Int32) (h25 : mm_M) => (((r26) = 0 → mm_k h25 (v0) = kd_Server ∧ wq_Server_readData ge (v0) (v1) (r9) h25 (fun (r29 : Int32) (h28 : mm_M) => wq_Server_serveFid_196  ge (r29) h28 Z)) ∧ (¬ (r26) = 0 → mm_k h25 (v0) = kd_Server ∧ wq_Server_readDirectory ge (v0) (v1) (r6) h25 (fun (r32 : Int32) (h31 : mm_M) => wq_Server_serveFid_196  ge (r32) h31 Z))))) ∧ ((mm_I h8 a11 5) = (118 : Int32) → wq_Server_write ge (v0) (v1) (r9) h8 (fun (r34 : Int32) (h33 : mm_M) => Z (r34) h33)) ∧ ((mm_I h8 a11 5) = (124 : Int32) → wq_Server_stat ge (v0) (r9) h8 (fun (r36 : Int32) (h35 : mm_M) => Z (r36) h35)) ∧ ((mm_I h8 a11 5) = (126 : Int32) → wq_Server_wstat ge (v0) (v1) (r9) h8 (fun (r38 : Int32) (h37 : mm_M) => Z (r38) h37)) ∧ ((¬ (mm_I h8 a11 5) = (110 : Int32) ∧ ¬ (mm_I h8 a11 5) = (112 : Int32) ∧ ¬ (mm_I h8 a11 5) = (114 : Int32) ∧ ¬ (mm_I h8 a11 5) = (116 : Int32) ∧ ¬ (mm_I h8 a11 5) = (118 : Int32) ∧ ¬ (mm_I h8 a11 5) = (124 : Int32) ∧ ¬ (mm_I h8 a11 5) = (126 : Int32)) → Z (0) h8))) ∧ (r9 = none → wq_Server_serveFid_61  ge h8 Z))))) ∧ ((mm_I h8 a11 5 : Int32) = (122 : Int32) → wq_Server_remove ge (v0) (v1) (r9) h8 (fun (r40 : Int32) (h39 : mm_M) => Z (r40) h39)))) ∧ ((mm_I h8 a11 5 : Int32) = (120 : Int32) → wq_Server_clunk ge (v0) (v1) (r9) h8 (fun (r42 : Int32) (h41 : mm_M) => Z (r42) h41)))))
set_option maxRecDepth 100000 in
set_option maxHeartbeats 4000000 in
theorem vb_Server_serveFid_61 {E : mm_E} {Z : Int32 → mm_M → Prop} (hc : cx E "EpochServer" c_Server_serveFid 4 (some (.int)) rm_Server_serveFid) (hq : cq E rm_Server_serveFid (pI Z))   (h : mm_M) (hw : wq_Server_serveFid_61  (mm_ge (eG E))  h Z) : V E 4 0 0 h 61 [] [] := by
  unfold wq_Server_serveFid_61 at hw
  refine V_iconst (v := 4) hc d_Server_serveFid_61 (by decide) ?_
  exact V_iret hc hq ⟨_, rfl, hw⟩ (by decide) (by decide) d_Server_serveFid_62
set_option maxRecDepth 100000 in
set_option maxHeartbeats 4000000 in
theorem vb_Server_serveFid_196 {E : mm_E} {Z : Int32 → mm_M → Prop} (hc : cx E "EpochServer" c_Server_serveFid 4 (some (.int)) rm_Server_serveFid) (hq : cq E rm_Server_serveFid (pI Z))  (s0 : Int32) (h : mm_M) (hw : wq_Server_serveFid_196  (mm_ge (eG E)) s0 h Z) : V E 4 0 0 h 196 [] [.int (s0)] := by
  unfold wq_Server_serveFid_196 at hw
  exact V_iret hc hq ⟨_, rfl, hw⟩ (by decide) (by decide) d_Server_serveFid_196
set_option maxRecDepth 100000 in
set_option maxHeartbeats 4000000 in
theorem vb_Server_serveFid_0 {E : mm_E} {Z : Int32 → mm_M → Prop} (hc : cx E "EpochServer" c_Server_serveFid 4 (some (.int)) rm_Server_serveFid) (hq : cq E rm_Server_serveFid (pI Z))  (v0 : Nat) (v1 : Option Nat) (h : mm_M) (hw : wq_Server_serveFid_0  (mm_ge (eG E)) v0 v1 h Z) : V E 4 0 0 h 0 [(0, va_rf (some v0)), (1, va_rf (v1))] [] := by
  unfold wq_Server_serveFid_0 at hw
  refine V_aload_n hc 0 d_Server_serveFid_0 rfl rfl ?_
  refine V_aload_n hc 1 d_Server_serveFid_1 rfl rfl ?_
  obtain ⟨a1, q2, hw⟩ := hw
  obtain ⟨q3, hw⟩ := hw
  refine V_get (v := .int (mm_I h a1 2)) hc gf_Server_217 q2 q3 rfl d_Server_serveFid_2 ?_
  obtain ⟨q4, hw⟩ := hw
  refine V_callV (rm' := rm_Server_treeOf) (As := [.int (mm_I h a1 2)]) (rest := []) (n := 1) (cn := 1) hc rfl q4 (sat_Server_treeOf (eG E) _ _ _ _ hw) rfl cv_Server_182 (gw_of (tw_3 (List.mem_of_getElem? (i := 39) rfl)) rfl) ss_Server_treeOf rfl ⟨by decide, by decide⟩ (by decide) (by decide) rfl (by simp [cat_rf, cat_i, cat_l]) d_Server_serveFid_5 (fun r0 h5 hw => ?_)
  obtain ⟨r6, rfl, hw⟩ := hw
  refine V_wide (cs' := 0) (sl' := 0) (by decide) (by decide) ?_
  refine V_st (st' := [va_rf (r6)]) rfl ?_
  refine V_astore_n (i := 2) (lv' := [(2, va_rf (r6)), (0, va_rf (some v0)), (1, va_rf (v1))]) hc d_Server_serveFid_8 rfl (by decide) (by simp [cat_rf, cat_i, cat_l]) ?_
  refine V_aload_n hc 1 d_Server_serveFid_9 rfl rfl ?_
  refine V_aload_n hc 2 d_Server_serveFid_10 rfl rfl ?_
  obtain ⟨q7, hw⟩ := hw
  refine V_callV (rm' := rm_Server_nodeOf) (As := [va_rf (v1)]) (rest := []) (n := 1) (cn := 1) hc rfl q7 (sat_Server_nodeOf (eG E) _ _ _ _ hw) rfl cv_Server_229 (gw_of (tw_3 (List.mem_of_getElem? (i := 72) rfl)) rfl) ss_Server_nodeOf rfl ⟨by decide, by decide⟩ (by decide) (by decide) rfl (by simp [cat_rf, cat_i, cat_l]) d_Server_serveFid_11 (fun r0 h8 hw => ?_)
  obtain ⟨r9, rfl, hw⟩ := hw
  refine V_wide (cs' := 0) (sl' := 0) (by decide) (by decide) ?_
  refine V_st (st' := [va_rf (r9)]) rfl ?_
  refine V_astore_n (i := 3) (lv' := [(3, va_rf (r9)), (2, va_rf (r6)), (0, va_rf (some v0)), (1, va_rf (v1))]) hc d_Server_serveFid_14 rfl (by decide) (by simp [cat_rf, cat_i, cat_l]) ?_
  refine V_aload_n hc 2 d_Server_serveFid_15 rfl rfl ?_
  obtain ⟨q10, hw⟩ := hw
  refine V_get (v := va_rf (mm_P h8 v0 2)) hc gf_Server_26 rfl q10 rfl d_Server_serveFid_16 ?_
  obtain ⟨a11, q12, hw⟩ := hw
  obtain ⟨q13, hw⟩ := hw
  refine V_get (v := .int (mm_I h8 a11 5)) hc gf_Server_120 q12 q13 rfl d_Server_serveFid_19 ?_
  refine V_bipush (v := 120) hc d_Server_serveFid_22 (by decide) ?_
  refine V_icmp_ne (tgt := 34) hc d_Server_serveFid_24 (by decide) (fun hq1 => ?_) (fun hq1 => ?_)
  · replace hw := hw.1 hq1
    refine V_aload_n hc 2 d_Server_serveFid_34 rfl rfl ?_
    refine V_get (v := va_rf (mm_P h8 v0 2)) hc gf_Server_26 rfl q10 rfl d_Server_serveFid_35 ?_
    refine V_get (v := .int (mm_I h8 a11 5)) hc gf_Server_120 q12 q13 rfl d_Server_serveFid_38 ?_
    refine V_bipush (v := 122) hc d_Server_serveFid_41 (by decide) ?_
    refine V_icmp_ne (tgt := 53) hc d_Server_serveFid_43 (by decide) (fun hq1 => ?_) (fun hq1 => ?_)
    · replace hw := hw.1 hq1
      refine V_aload_n hc 1 d_Server_serveFid_53 rfl rfl ?_
      refine V_ifnull (tgt := 61) hc d_Server_serveFid_54 (by decide) (fun hq1 => ?_) (fun a14 hq1 => ?_)
      · replace hw := hw.1 hq1
        refine V_sub (lv' := []) [] rfl ?_
        exact vb_Server_serveFid_61 hc hq  _ hw
      · replace hw := hw.2 a14 hq1
        refine V_aload_n hc 0 d_Server_serveFid_57 rfl rfl ?_
        refine V_ifnonnull (tgt := 63) hc d_Server_serveFid_58 (by decide) (fun a15 hq1 => ?_) (fun hq1 => ?_)
        · replace hw := hw.1 a15 hq1
          refine V_aload_n hc 2 d_Server_serveFid_63 rfl rfl ?_
          refine V_get (v := va_rf (mm_P h8 v0 2)) hc gf_Server_26 rfl q10 rfl d_Server_serveFid_64 ?_
          refine V_get (v := .int (mm_I h8 a11 5)) hc gf_Server_120 q12 q13 rfl d_Server_serveFid_67 ?_
          by_cases hs0 : (mm_I h8 a11 5) = (110 : Int32)
          · replace hw := hw.1 hs0
            refine V_tabIn (off := 82) (tgt := 152) hc d_Server_serveFid_70 (by rw [hs0]; decide) (by rw [hs0]; decide) (by rw [hs0]; rfl) (by decide) ?_
            refine V_aload_n hc 2 d_Server_serveFid_152 rfl rfl ?_
            refine V_aload_n hc 3 d_Server_serveFid_153 rfl rfl ?_
            refine V_aload_n hc 1 d_Server_serveFid_154 rfl rfl ?_
            refine V_aload_n hc 0 d_Server_serveFid_155 rfl rfl ?_
            refine V_callV (rm' := rm_Server_walk) (As := [va_rf (v1), va_rf (r6), va_rf (r9)]) (rest := []) (n := 3) (cn := 1) hc rfl q10 (sat_Server_walk (eG E) _ _ _ _ _ _ hw) rfl cv_Server_270 (gw_of (tw_3 (List.mem_of_getElem? (i := 123) rfl)) rfl) ss_Server_walk rfl ⟨by decide, by decide⟩ (by decide) (by decide) rfl (by simp [cat_rf, cat_i, cat_l]) d_Server_serveFid_156 (fun r0 h16 hw => ?_)
            obtain ⟨r17, rfl, hw⟩ := hw
            refine V_wide (cs' := 0) (sl' := 0) (by decide) (by decide) ?_
            refine V_st (st' := [.int (r17)]) rfl ?_
            exact V_iret hc hq ⟨_, rfl, hw⟩ (by decide) (by decide) d_Server_serveFid_159
          by_cases hs1 : (mm_I h8 a11 5) = (112 : Int32)
          · replace hw := hw.2.1 hs1
            refine V_tabIn (off := 90) (tgt := 160) hc d_Server_serveFid_70 (by rw [hs1]; decide) (by rw [hs1]; decide) (by rw [hs1]; rfl) (by decide) ?_
            refine V_aload_n hc 2 d_Server_serveFid_160 rfl rfl ?_
            refine V_aload_n hc 3 d_Server_serveFid_161 rfl rfl ?_
            refine V_aload_n hc 0 d_Server_serveFid_162 rfl rfl ?_
            refine V_callV (rm' := rm_Server_open) (As := [va_rf (v1), va_rf (r9)]) (rest := []) (n := 2) (cn := 1) hc rfl q10 (sat_Server_open (eG E) _ _ _ _ _ hw) rfl cv_Server_274 (gw_of (tw_3 (List.mem_of_getElem? (i := 153) rfl)) rfl) ss_Server_open rfl ⟨by decide, by decide⟩ (by decide) (by decide) rfl (by simp [cat_rf, cat_i, cat_l]) d_Server_serveFid_163 (fun r0 h18 hw => ?_)
            obtain ⟨r19, rfl, hw⟩ := hw
            refine V_wide (cs' := 1) (sl' := 7) (by decide) (by decide) ?_
            refine V_st (st' := [.int (r19)]) rfl ?_
            exact V_iret hc hq ⟨_, rfl, hw⟩ (by decide) (by decide) d_Server_serveFid_166
          by_cases hs2 : (mm_I h8 a11 5) = (114 : Int32)
          · replace hw := hw.2.2.1 hs2
            refine V_tabIn (off := 97) (tgt := 167) hc d_Server_serveFid_70 (by rw [hs2]; decide) (by rw [hs2]; decide) (by rw [hs2]; rfl) (by decide) ?_
            refine V_aload_n hc 2 d_Server_serveFid_167 rfl rfl ?_
            refine V_aload_n hc 3 d_Server_serveFid_168 rfl rfl ?_
            refine V_aload_n hc 0 d_Server_serveFid_169 rfl rfl ?_
            refine V_callV (rm' := rm_Server_create) (As := [va_rf (v1), va_rf (r9)]) (rest := []) (n := 2) (cn := 1) hc rfl q10 (sat_Server_create (eG E) _ _ _ _ _ hw) rfl cv_Server_276 (gw_of (tw_3 (List.mem_of_getElem? (i := 168) rfl)) rfl) ss_Server_create rfl ⟨by decide, by decide⟩ (by decide) (by decide) rfl (by simp [cat_rf, cat_i, cat_l]) d_Server_serveFid_170 (fun r0 h20 hw => ?_)
            obtain ⟨r21, rfl, hw⟩ := hw
            refine V_wide (cs' := 3) (sl' := 78) (by decide) (by decide) ?_
            refine V_st (st' := [.int (r21)]) rfl ?_
            exact V_iret hc hq ⟨_, rfl, hw⟩ (by decide) (by decide) d_Server_serveFid_173
          by_cases hs3 : (mm_I h8 a11 5) = (116 : Int32)
          · replace hw := hw.2.2.2.1 hs3
            refine V_tabIn (off := 104) (tgt := 174) hc d_Server_serveFid_70 (by rw [hs3]; decide) (by rw [hs3]; decide) (by rw [hs3]; rfl) (by decide) ?_
            refine V_aload_n hc 0 d_Server_serveFid_174 rfl rfl ?_
            obtain ⟨a22, q23, hw⟩ := hw
            obtain ⟨q24, hw⟩ := hw
            refine V_callV (rm' := rm_Node_isDirectory) (As := []) (rest := []) (n := 0) (cn := 7) hc q23 q24 (sat_Node_isDirectory (eG E) _ _ _ hw) rfl cv_Server_200 (gw_of (tw_3 (List.mem_of_getElem? (i := 62) rfl)) rfl) ss_Node_isDirectory rfl ⟨by decide, by decide⟩ (by decide) (by decide) rfl (by simp [cat_rf, cat_i, cat_l]) d_Server_serveFid_175 (fun r0 h25 hw => ?_)
            obtain ⟨r26, rfl, hw⟩ := hw
            refine V_wide (cs' := 0) (sl' := 0) (by decide) (by decide) ?_
            refine V_st (st' := [.int (r26)]) rfl ?_
            refine V_if_eq (tgt := 190) hc d_Server_serveFid_178 (by decide) (fun hq1 => ?_) (fun hq1 => ?_)
            · replace hw := hw.1 hq1
              refine V_aload_n hc 2 d_Server_serveFid_190 rfl rfl ?_
              refine V_aload_n hc 3 d_Server_serveFid_191 rfl rfl ?_
              refine V_aload_n hc 0 d_Server_serveFid_192 rfl rfl ?_
              obtain ⟨q27, hw⟩ := hw
              refine V_callV (rm' := rm_Server_readData) (As := [va_rf (v1), va_rf (r9)]) (rest := []) (n := 2) (cn := 1) hc rfl q27 (sat_Server_readData (eG E) _ _ _ _ _ hw) rfl cv_Server_283 (gw_of (tw_3 (List.mem_of_getElem? (i := 211) rfl)) rfl) ss_Server_readData rfl ⟨by decide, by decide⟩ (by decide) (by decide) rfl (by simp [cat_rf, cat_i, cat_l]) d_Server_serveFid_193 (fun r0 h28 hw => ?_)
              obtain ⟨r29, rfl, hw⟩ := hw
              refine V_wide (cs' := 0) (sl' := 0) (by decide) (by decide) ?_
              refine V_st (st' := [.int (r29)]) rfl ?_
              refine V_sub (lv' := []) [] rfl ?_
              exact vb_Server_serveFid_196 hc hq  _ _ hw
            · replace hw := hw.2 hq1
              refine V_aload_n hc 2 d_Server_serveFid_181 rfl rfl ?_
              refine V_aload_n hc 3 d_Server_serveFid_182 rfl rfl ?_
              refine V_aload_n hc 1 d_Server_serveFid_183 rfl rfl ?_
              obtain ⟨q30, hw⟩ := hw
              refine V_callV (rm' := rm_Server_readDirectory) (As := [va_rf (v1), va_rf (r6)]) (rest := []) (n := 2) (cn := 1) hc rfl q30 (sat_Server_readDirectory (eG E) _ _ _ _ _ hw) rfl cv_Server_279 (gw_of (tw_3 (List.mem_of_getElem? (i := 185) rfl)) rfl) ss_Server_readDirectory rfl ⟨by decide, by decide⟩ (by decide) (by decide) rfl (by simp [cat_rf, cat_i, cat_l]) d_Server_serveFid_184 (fun r0 h31 hw => ?_)
              obtain ⟨r32, rfl, hw⟩ := hw
              refine V_wide (cs' := 0) (sl' := 0) (by decide) (by decide) ?_
              refine V_st (st' := [.int (r32)]) rfl ?_
              refine V_goto (tgt := 196) hc d_Server_serveFid_187 (by decide) ?_
              refine V_sub (lv' := []) [] rfl ?_
              exact vb_Server_serveFid_196 hc hq  _ _ hw
          by_cases hs4 : (mm_I h8 a11 5) = (118 : Int32)
          · replace hw := hw.2.2.2.2.1 hs4
            refine V_tabIn (off := 127) (tgt := 197) hc d_Server_serveFid_70 (by rw [hs4]; decide) (by rw [hs4]; decide) (by rw [hs4]; rfl) (by decide) ?_
            refine V_aload_n hc 2 d_Server_serveFid_197 rfl rfl ?_
            refine V_aload_n hc 3 d_Server_serveFid_198 rfl rfl ?_
            refine V_aload_n hc 0 d_Server_serveFid_199 rfl rfl ?_
            refine V_callV (rm' := rm_Server_write) (As := [va_rf (v1), va_rf (r9)]) (rest := []) (n := 2) (cn := 1) hc rfl q10 (sat_Server_write (eG E) _ _ _ _ _ hw) rfl cv_Server_286 (gw_of (tw_3 (List.mem_of_getElem? (i := 220) rfl)) rfl) ss_Server_write rfl ⟨by decide, by decide⟩ (by decide) (by decide) rfl (by simp [cat_rf, cat_i, cat_l]) d_Server_serveFid_200 (fun r0 h33 hw => ?_)
            obtain ⟨r34, rfl, hw⟩ := hw
            refine V_wide (cs' := 2) (sl' := 519) (by decide) (by decide) ?_
            refine V_st (st' := [.int (r34)]) rfl ?_
            exact V_iret hc hq ⟨_, rfl, hw⟩ (by decide) (by decide) d_Server_serveFid_203
          by_cases hs5 : (mm_I h8 a11 5) = (124 : Int32)
          · replace hw := hw.2.2.2.2.2.1 hs5
            refine V_tabIn (off := 134) (tgt := 204) hc d_Server_serveFid_70 (by rw [hs5]; decide) (by rw [hs5]; decide) (by rw [hs5]; rfl) (by decide) ?_
            refine V_aload_n hc 2 d_Server_serveFid_204 rfl rfl ?_
            refine V_aload_n hc 0 d_Server_serveFid_205 rfl rfl ?_
            refine V_callV (rm' := rm_Server_stat) (As := [va_rf (r9)]) (rest := []) (n := 1) (cn := 1) hc rfl q10 (sat_Server_stat (eG E) _ _ _ _ hw) rfl cv_Server_289 (gw_of (tw_4 (List.mem_of_getElem? (i := 4) rfl)) rfl) ss_Server_stat rfl ⟨by decide, by decide⟩ (by decide) (by decide) rfl (by simp [cat_rf, cat_i, cat_l]) d_Server_serveFid_206 (fun r0 h35 hw => ?_)
            obtain ⟨r36, rfl, hw⟩ := hw
            refine V_wide (cs' := 0) (sl' := 0) (by decide) (by decide) ?_
            refine V_st (st' := [.int (r36)]) rfl ?_
            exact V_iret hc hq ⟨_, rfl, hw⟩ (by decide) (by decide) d_Server_serveFid_209
          by_cases hs6 : (mm_I h8 a11 5) = (126 : Int32)
          · replace hw := hw.2.2.2.2.2.2.1 hs6
            refine V_tabIn (off := 140) (tgt := 210) hc d_Server_serveFid_70 (by rw [hs6]; decide) (by rw [hs6]; decide) (by rw [hs6]; rfl) (by decide) ?_
            refine V_aload_n hc 2 d_Server_serveFid_210 rfl rfl ?_
            refine V_aload_n hc 3 d_Server_serveFid_211 rfl rfl ?_
            refine V_aload_n hc 0 d_Server_serveFid_212 rfl rfl ?_
            refine V_callV (rm' := rm_Server_wstat) (As := [va_rf (v1), va_rf (r9)]) (rest := []) (n := 2) (cn := 1) hc rfl q10 (sat_Server_wstat (eG E) _ _ _ _ _ hw) rfl cv_Server_293 (gw_of (tw_4 (List.mem_of_getElem? (i := 8) rfl)) rfl) ss_Server_wstat rfl ⟨by decide, by decide⟩ (by decide) (by decide) rfl (by simp [cat_rf, cat_i, cat_l]) d_Server_serveFid_213 (fun r0 h37 hw => ?_)
            obtain ⟨r38, rfl, hw⟩ := hw
            refine V_wide (cs' := 4) (sl' := 590) (by decide) (by decide) ?_
            refine V_st (st' := [.int (r38)]) rfl ?_
            exact V_iret hc hq ⟨_, rfl, hw⟩ (by decide) (by decide) d_Server_serveFid_216
          replace hw := hw.2.2.2.2.2.2.2 ⟨hs0, hs1, hs2, hs3, hs4, hs5, hs6⟩
          suffices hsD : V E 4 0 0 h8 217 [(3, va_rf (r9)), (2, va_rf (r6)), (0, va_rf (some v0)), (1, va_rf (v1))] [] by
            by_cases ht0 : (mm_I h8 a11 5) = (111 : Int32)
            · exact V_tabIn (off := 147) (tgt := 217) hc d_Server_serveFid_70 (by rw [ht0]; decide) (by rw [ht0]; decide) (by rw [ht0]; rfl) (by decide) hsD
            by_cases ht1 : (mm_I h8 a11 5) = (113 : Int32)
            · exact V_tabIn (off := 147) (tgt := 217) hc d_Server_serveFid_70 (by rw [ht1]; decide) (by rw [ht1]; decide) (by rw [ht1]; rfl) (by decide) hsD
            by_cases ht2 : (mm_I h8 a11 5) = (115 : Int32)
            · exact V_tabIn (off := 147) (tgt := 217) hc d_Server_serveFid_70 (by rw [ht2]; decide) (by rw [ht2]; decide) (by rw [ht2]; rfl) (by decide) hsD
            by_cases ht3 : (mm_I h8 a11 5) = (117 : Int32)
            · exact V_tabIn (off := 147) (tgt := 217) hc d_Server_serveFid_70 (by rw [ht3]; decide) (by rw [ht3]; decide) (by rw [ht3]; rfl) (by decide) hsD
            by_cases ht4 : (mm_I h8 a11 5) = (119 : Int32)
            · exact V_tabIn (off := 147) (tgt := 217) hc d_Server_serveFid_70 (by rw [ht4]; decide) (by rw [ht4]; decide) (by rw [ht4]; rfl) (by decide) hsD
            by_cases ht5 : (mm_I h8 a11 5) = (120 : Int32)
            · exact V_tabIn (off := 147) (tgt := 217) hc d_Server_serveFid_70 (by rw [ht5]; decide) (by rw [ht5]; decide) (by rw [ht5]; rfl) (by decide) hsD
            by_cases ht6 : (mm_I h8 a11 5) = (121 : Int32)
            · exact V_tabIn (off := 147) (tgt := 217) hc d_Server_serveFid_70 (by rw [ht6]; decide) (by rw [ht6]; decide) (by rw [ht6]; rfl) (by decide) hsD
            by_cases ht7 : (mm_I h8 a11 5) = (122 : Int32)
            · exact V_tabIn (off := 147) (tgt := 217) hc d_Server_serveFid_70 (by rw [ht7]; decide) (by rw [ht7]; decide) (by rw [ht7]; rfl) (by decide) hsD
            by_cases ht8 : (mm_I h8 a11 5) = (123 : Int32)
            · exact V_tabIn (off := 147) (tgt := 217) hc d_Server_serveFid_70 (by rw [ht8]; decide) (by rw [ht8]; decide) (by rw [ht8]; rfl) (by decide) hsD
            by_cases ht9 : (mm_I h8 a11 5) = (125 : Int32)
            · exact V_tabIn (off := 147) (tgt := 217) hc d_Server_serveFid_70 (by rw [ht9]; decide) (by rw [ht9]; decide) (by rw [ht9]; rfl) (by decide) hsD
            have nhs0 := lv_neT (a := 110) hs0 (by decide)
            have nhs1 := lv_neT (a := 112) hs1 (by decide)
            have nhs2 := lv_neT (a := 114) hs2 (by decide)
            have nhs3 := lv_neT (a := 116) hs3 (by decide)
            have nhs4 := lv_neT (a := 118) hs4 (by decide)
            have nhs5 := lv_neT (a := 124) hs5 (by decide)
            have nhs6 := lv_neT (a := 126) hs6 (by decide)
            have nht0 := lv_neT (a := 111) ht0 (by decide)
            have nht1 := lv_neT (a := 113) ht1 (by decide)
            have nht2 := lv_neT (a := 115) ht2 (by decide)
            have nht3 := lv_neT (a := 117) ht3 (by decide)
            have nht4 := lv_neT (a := 119) ht4 (by decide)
            have nht5 := lv_neT (a := 120) ht5 (by decide)
            have nht6 := lv_neT (a := 121) ht6 (by decide)
            have nht7 := lv_neT (a := 122) ht7 (by decide)
            have nht8 := lv_neT (a := 123) ht8 (by decide)
            have nht9 := lv_neT (a := 125) ht9 (by decide)
            exact V_tabOut (tgt := 217) hc d_Server_serveFid_70 (by omega) (by decide) hsD
          refine V_iconst (v := 0) hc d_Server_serveFid_217 (by decide) ?_
          exact V_iret hc hq ⟨_, rfl, hw⟩ (by decide) (by decide) d_Server_serveFid_218
        · replace hw := hw.2 hq1
          refine V_sub (lv' := []) [] rfl ?_
          exact vb_Server_serveFid_61 hc hq  _ hw
    · replace hw := hw.2 hq1
      refine V_aload_n hc 2 d_Server_serveFid_46 rfl rfl ?_
      refine V_aload_n hc 3 d_Server_serveFid_47 rfl rfl ?_
      refine V_aload_n hc 0 d_Server_serveFid_48 rfl rfl ?_
      refine V_callV (rm' := rm_Server_remove) (As := [va_rf (v1), va_rf (r9)]) (rest := []) (n := 2) (cn := 1) hc rfl q10 (sat_Server_remove (eG E) _ _ _ _ _ hw) rfl cv_Server_267 (gw_of (tw_3 (List.mem_of_getElem? (i := 119) rfl)) rfl) ss_Server_remove rfl ⟨by decide, by decide⟩ (by decide) (by decide) rfl (by simp [cat_rf, cat_i, cat_l]) d_Server_serveFid_49 (fun r0 h39 hw => ?_)
      obtain ⟨r40, rfl, hw⟩ := hw
      refine V_wide (cs' := 1) (sl' := 7) (by decide) (by decide) ?_
      refine V_st (st' := [.int (r40)]) rfl ?_
      exact V_iret hc hq ⟨_, rfl, hw⟩ (by decide) (by decide) d_Server_serveFid_52
  · replace hw := hw.2 hq1
    refine V_aload_n hc 2 d_Server_serveFid_27 rfl rfl ?_
    refine V_aload_n hc 3 d_Server_serveFid_28 rfl rfl ?_
    refine V_aload_n hc 0 d_Server_serveFid_29 rfl rfl ?_
    refine V_callV (rm' := rm_Server_clunk) (As := [va_rf (v1), va_rf (r9)]) (rest := []) (n := 2) (cn := 1) hc rfl q10 (sat_Server_clunk (eG E) _ _ _ _ _ hw) rfl cv_Server_263 (gw_of (tw_3 (List.mem_of_getElem? (i := 76) rfl)) rfl) ss_Server_clunk rfl ⟨by decide, by decide⟩ (by decide) (by decide) rfl (by simp [cat_rf, cat_i, cat_l]) d_Server_serveFid_30 (fun r0 h41 hw => ?_)
    obtain ⟨r42, rfl, hw⟩ := hw
    refine V_wide (cs' := 1) (sl' := 7) (by decide) (by decide) ?_
    refine V_st (st' := [.int (r42)]) rfl ?_
    exact V_iret hc hq ⟨_, rfl, hw⟩ (by decide) (by decide) d_Server_serveFid_33
def wq_Server_serveFid (ge : Nat → Nat) (v0 : Nat) (v1 : Option Nat) (h : mm_M) (Z : Int32 → mm_M → Prop) : Prop := wq_Server_serveFid_0 ge v0 v1 h Z
theorem sat_Server_serveFid (G : mm_G) (v0 : Nat) (v1 : Option Nat) (h : mm_M) (Z : Int32 → mm_M → Prop) (hw : wq_Server_serveFid (mm_ge G) v0 v1 h Z) : mm_Met G y_Server_serveFid c_Server_serveFid 4 (some (.int)) rm_Server_serveFid [va_rf (some v0), va_rf (v1)] h (pI Z) := by
  refine mm_intro (own := "EpochServer") (by decide) rfl (by simp [lg_sl, cat_rf, cat_i, cat_l]) (fun E e1 hc hq hi => ?_)
  subst e1
  have e2 : lv_args 0 [va_rf (some v0), va_rf (v1)] = [(0, va_rf (some v0)), (1, va_rf (v1))] := by simp [lv_args, cat_rf, cat_i, cat_l]
  rw [e2]
  refine V_sub (lv' := [(0, va_rf (some v0)), (1, va_rf (v1))]) [0, 1] rfl ?_
  exact vb_Server_serveFid_0 hc hq v0 v1 h hw
/-! Server.serve()I -/
abbrev rm_Server_serve : Room := { frames := 6, cells := 12, slots := 1208, locals := 158 }
def wq_Server_serve_105  (ge : Nat → Nat) (s0 : Int32) (h : mm_M) (Z : Int32 → mm_M → Prop) : Prop :=
  Z (s0) h
def wq_Server_serve_0  (ge : Nat → Nat) (v0 : Nat) (h : mm_M) (Z : Int32 → mm_M → Prop) : Prop :=
  mm_k h (v0) = kd_Server ∧ ∃ a2, mm_P h v0 2 = some a2 ∧ mm_k h (a2) = kd_Request ∧ ((¬ (mm_I h a2 5 : Int32) = (100 : Int32) → ((¬ (mm_I h v0 10) = 0 → (((mm_I h a2 5) = (102 : Int32) → Z (3) h) ∧ ((mm_I h a2 5) = (104 : Int32) → wq_Server_attach ge (v0) h (fun (r6 : Int32) (h5 : mm_M) => Z (r6) h5)) ∧ ((mm_I h a2 5) = (108 : Int32) → Z (0) h) ∧ ((¬ (mm_I h a2 5) = (102 : Int32) ∧ ¬ (mm_I h a2 5) = (104 : Int32) ∧ ¬ (mm_I h a2 5) = (108 : Int32)) → ∃ a7, mm_P h v0 3 = some a7 ∧ mm_k h (a7) = kd_FidTable ∧ wq_FidTable_find ge (a7) (mm_I h a2 7) h (fun (r11 : Option Nat) (h10 : mm_M) => ((∀ a12, r11 = some a12 → mm_k h10 (v0) = kd_Server ∧ wq_Server_serveFid ge (v0) (r11) h10 (fun (r15 : Int32) (h14 : mm_M) => wq_Server_serve_105  ge (r15) h14 Z)) ∧ (r11 = none → wq_Server_serve_105  ge (2) h10 Z)))))) ∧ ((mm_I h v0 10) = 0 → Z (1) h))) ∧ ((mm_I h a2 5 : Int32) = (100 : Int32) → wq_Server_agreeOnVersion ge (v0) h (fun (r17 : Int32) (h16 : mm_M) => Z (r17) h16)))
set_option maxRecDepth 100000 in
set_option maxHeartbeats 4000000 in
theorem vb_Server_serve_105 {E : mm_E} {Z : Int32 → mm_M → Prop} (hc : cx E "EpochServer" c_Server_serve 2 (some (.int)) rm_Server_serve) (hq : cq E rm_Server_serve (pI Z))  (s0 : Int32) (h : mm_M) (hw : wq_Server_serve_105  (mm_ge (eG E)) s0 h Z) : V E 2 12 1208 h 105 [] [.int (s0)] := by
  unfold wq_Server_serve_105 at hw
  exact V_iret hc hq ⟨_, rfl, hw⟩ (by decide) (by decide) d_Server_serve_105
set_option maxRecDepth 100000 in
set_option maxHeartbeats 4000000 in
theorem vb_Server_serve_0 {E : mm_E} {Z : Int32 → mm_M → Prop} (hc : cx E "EpochServer" c_Server_serve 2 (some (.int)) rm_Server_serve) (hq : cq E rm_Server_serve (pI Z))  (v0 : Nat) (h : mm_M) (hw : wq_Server_serve_0  (mm_ge (eG E)) v0 h Z) : V E 2 0 0 h 0 [(0, va_rf (some v0))] [] := by
  unfold wq_Server_serve_0 at hw
  refine V_aload_n hc 0 d_Server_serve_0 rfl rfl ?_
  obtain ⟨q1, hw⟩ := hw
  refine V_get (v := va_rf (mm_P h v0 2)) hc gf_Server_26 rfl q1 rfl d_Server_serve_1 ?_
  obtain ⟨a2, q3, hw⟩ := hw
  obtain ⟨q4, hw⟩ := hw
  refine V_get (v := .int (mm_I h a2 5)) hc gf_Server_120 q3 q4 rfl d_Server_serve_4 ?_
  refine V_bipush (v := 100) hc d_Server_serve_7 (by decide) ?_
  refine V_icmp_ne (tgt := 17) hc d_Server_serve_9 (by decide) (fun hq1 => ?_) (fun hq1 => ?_)
  · replace hw := hw.1 hq1
    refine V_aload_n hc 0 d_Server_serve_17 rfl rfl ?_
    refine V_get (v := .int (mm_I h v0 10)) hc gf_Server_72 rfl q1 rfl d_Server_serve_18 ?_
    refine V_if_ne (tgt := 26) hc d_Server_serve_21 (by decide) (fun hq1 => ?_) (fun hq1 => ?_)
    · replace hw := hw.1 hq1
      refine V_aload_n hc 0 d_Server_serve_26 rfl rfl ?_
      refine V_get (v := va_rf (mm_P h v0 2)) hc gf_Server_26 rfl q1 rfl d_Server_serve_27 ?_
      refine V_get (v := .int (mm_I h a2 5)) hc gf_Server_120 q3 q4 rfl d_Server_serve_30 ?_
      by_cases hs0 : (mm_I h a2 5) = (102 : Int32)
      · replace hw := hw.1 hs0
        refine V_lookup (off := 35) (tgt := 68) hc d_Server_serve_33 (by decide) (by rw [hs0]; rfl) (by decide) ?_
        refine V_iconst (v := 3) hc d_Server_serve_68 (by decide) ?_
        exact V_iret hc hq ⟨_, rfl, hw⟩ (by decide) (by decide) d_Server_serve_69
      by_cases hs1 : (mm_I h a2 5) = (104 : Int32)
      · replace hw := hw.2.1 hs1
        refine V_lookup (off := 37) (tgt := 70) hc d_Server_serve_33 (by decide) (by rw [hs1]; rfl) (by decide) ?_
        refine V_aload_n hc 0 d_Server_serve_70 rfl rfl ?_
        refine V_callV (rm' := rm_Server_attach) (As := []) (rest := []) (n := 0) (cn := 1) hc rfl q1 (sat_Server_attach (eG E) _ _ _ hw) rfl cv_Server_253 (gw_of (tw_3 (List.mem_of_getElem? (i := 23) rfl)) rfl) ss_Server_attach rfl ⟨by decide, by decide⟩ (by decide) (by decide) rfl (by simp [cat_rf, cat_i, cat_l]) d_Server_serve_71 (fun r0 h5 hw => ?_)
        obtain ⟨r6, rfl, hw⟩ := hw
        refine V_wide (cs' := 0) (sl' := 0) (by decide) (by decide) ?_
        refine V_st (st' := [.int (r6)]) rfl ?_
        exact V_iret hc hq ⟨_, rfl, hw⟩ (by decide) (by decide) d_Server_serve_74
      by_cases hs2 : (mm_I h a2 5) = (108 : Int32)
      · replace hw := hw.2.2.1 hs2
        refine V_lookup (off := 42) (tgt := 75) hc d_Server_serve_33 (by decide) (by rw [hs2]; rfl) (by decide) ?_
        refine V_iconst (v := 0) hc d_Server_serve_75 (by decide) ?_
        exact V_iret hc hq ⟨_, rfl, hw⟩ (by decide) (by decide) d_Server_serve_76
      replace hw := hw.2.2.2 ⟨hs0, hs1, hs2⟩
      refine V_lookup (off := 44) (tgt := 77) hc d_Server_serve_33 (by decide) (by show Op.lookupswitch.offset [(102, 35), (104, 37), (108, 42)] _ _ = _; rw [lv_osw hs0 (by decide), lv_osw hs1 (by decide), lv_osw hs2 (by decide)]; rfl) (by decide) ?_
      refine V_aload_n hc 0 d_Server_serve_77 rfl rfl ?_
      refine V_get (v := va_rf (mm_P h v0 3)) hc gf_Server_33 rfl q1 rfl d_Server_serve_78 ?_
      refine V_aload_n hc 0 d_Server_serve_81 rfl rfl ?_
      refine V_get (v := va_rf (mm_P h v0 2)) hc gf_Server_26 rfl q1 rfl d_Server_serve_82 ?_
      refine V_get (v := .int (mm_I h a2 7)) hc gf_Server_256 q3 q4 rfl d_Server_serve_85 ?_
      obtain ⟨a7, q8, hw⟩ := hw
      obtain ⟨q9, hw⟩ := hw
      refine V_callV (rm' := rm_FidTable_find) (As := [.int (mm_I h a2 7)]) (rest := []) (n := 1) (cn := 5) hc q8 q9 (sat_FidTable_find (eG E) _ _ _ _ hw) rfl cv_Server_213 (gw_of (tw_3 (List.mem_of_getElem? (i := 26) rfl)) rfl) ss_FidTable_find rfl ⟨by decide, by decide⟩ (by decide) (by decide) rfl (by simp [cat_rf, cat_i, cat_l]) d_Server_serve_88 (fun r0 h10 hw => ?_)
      obtain ⟨r11, rfl, hw⟩ := hw
      refine V_wide (cs' := 0) (sl' := 0) (by decide) (by decide) ?_
      refine V_st (st' := [va_rf (r11)]) rfl ?_
      refine V_astore_n (i := 1) (lv' := [(1, va_rf (r11)), (0, va_rf (some v0))]) hc d_Server_serve_91 rfl (by decide) rfl ?_
      refine V_aload_n hc 0 d_Server_serve_92 rfl rfl ?_
      refine V_ifnonnull (tgt := 100) hc d_Server_serve_93 (by decide) (fun a12 hq1 => ?_) (fun hq1 => ?_)
      · replace hw := hw.1 a12 hq1
        refine V_aload_n hc 1 d_Server_serve_100 rfl rfl ?_
        refine V_aload_n hc 0 d_Server_serve_101 rfl rfl ?_
        obtain ⟨q13, hw⟩ := hw
        refine V_callV (rm' := rm_Server_serveFid) (As := [va_rf (r11)]) (rest := []) (n := 1) (cn := 1) hc rfl q13 (sat_Server_serveFid (eG E) _ _ _ _ hw) rfl cv_Server_259 (gw_of (tw_3 (List.mem_of_getElem? (i := 68) rfl)) rfl) ss_Server_serveFid rfl ⟨by decide, by decide⟩ (by decide) (by decide) rfl (by simp [cat_rf, cat_i, cat_l]) d_Server_serve_102 (fun r0 h14 hw => ?_)
        obtain ⟨r15, rfl, hw⟩ := hw
        refine V_wide (cs' := 12) (sl' := 1208) (by decide) (by decide) ?_
        refine V_st (st' := [.int (r15)]) rfl ?_
        refine V_sub (lv' := []) [] rfl ?_
        exact vb_Server_serve_105 hc hq  _ _ hw
      · replace hw := hw.2 hq1
        refine V_iconst (v := 2) hc d_Server_serve_96 (by decide) ?_
        refine V_goto (tgt := 105) hc d_Server_serve_97 (by decide) ?_
        refine V_sub (lv' := []) [] rfl ?_
        refine V_wide (cs' := 12) (sl' := 1208) (by omega) (by omega) ?_
        exact vb_Server_serve_105 hc hq  _ _ hw
    · replace hw := hw.2 hq1
      refine V_iconst (v := 1) hc d_Server_serve_24 (by decide) ?_
      exact V_iret hc hq ⟨_, rfl, hw⟩ (by decide) (by decide) d_Server_serve_25
  · replace hw := hw.2 hq1
    refine V_aload_n hc 0 d_Server_serve_12 rfl rfl ?_
    refine V_callV (rm' := rm_Server_agreeOnVersion) (As := []) (rest := []) (n := 0) (cn := 1) hc rfl q1 (sat_Server_agreeOnVersion (eG E) _ _ _ hw) rfl cv_Server_250 (gw_of (tw_2 (List.mem_of_getElem? (i := 233) rfl)) rfl) ss_Server_agreeOnVersion rfl ⟨by decide, by decide⟩ (by decide) (by decide) rfl (by simp [cat_rf, cat_i, cat_l]) d_Server_serve_13 (fun r0 h16 hw => ?_)
    obtain ⟨r17, rfl, hw⟩ := hw
    refine V_wide (cs' := 0) (sl' := 0) (by decide) (by decide) ?_
    refine V_st (st' := [.int (r17)]) rfl ?_
    exact V_iret hc hq ⟨_, rfl, hw⟩ (by decide) (by decide) d_Server_serve_16
def wq_Server_serve (ge : Nat → Nat) (v0 : Nat) (h : mm_M) (Z : Int32 → mm_M → Prop) : Prop := wq_Server_serve_0 ge v0 h Z
theorem sat_Server_serve (G : mm_G) (v0 : Nat) (h : mm_M) (Z : Int32 → mm_M → Prop) (hw : wq_Server_serve (mm_ge G) v0 h Z) : mm_Met G y_Server_serve c_Server_serve 2 (some (.int)) rm_Server_serve [va_rf (some v0)] h (pI Z) := by
  refine mm_intro (own := "EpochServer") (by decide) rfl (by simp [lg_sl, cat_rf, cat_i, cat_l]) (fun E e1 hc hq hi => ?_)
  subst e1
  have e2 : lv_args 0 [va_rf (some v0)] = [(0, va_rf (some v0))] := by simp [lv_args, cat_rf, cat_i, cat_l]
  rw [e2]
  refine V_sub (lv' := [(0, va_rf (some v0))]) [0] rfl ?_
  exact vb_Server_serve_0 hc hq v0 h hw
/-! Server.message(I)I -/
abbrev rm_Server_message : Room := { frames := 7, cells := 12, slots := 1208, locals := 179 }
def wq_Server_message_15  (ge : Nat → Nat)  (h : mm_M) (Z : Int32 → mm_M → Prop) : Prop :=
  Z ((-2)) h
def wq_Server_message_152  (ge : Nat → Nat) (s0 : Int32) (h : mm_M) (Z : Int32 → mm_M → Prop) : Prop :=
  Z (s0) h
def wq_Server_message_130  (ge : Nat → Nat) (v0 : Nat) (v2 : Int32) (h : mm_M) (Z : Int32 → mm_M → Prop) : Prop :=
  mm_k h (v0) = kd_Server ∧ ∃ a2, mm_P h v0 0 = some a2 ∧ mm_k h (a2) = kd_Bytes ∧ wq_Bytes_clear ge (a2) h (fun h5 : mm_M => (((v2) = 0 → wq_Server_message_152  ge ((-1)) h5 Z) ∧ (¬ (v2) = 0 → mm_k h5 (v0) = kd_Server ∧ ∃ a8, mm_P h5 v0 1 = some a8 ∧ mm_k h5 (a8) = kd_Bytes ∧ wq_Bytes_size ge (a8) h5 (fun (r12 : Int32) (h11 : mm_M) => wq_Server_message_152  ge (r12) h11 Z))))
def wq_Server_message_101  (ge : Nat → Nat) (v0 : Nat) (v2 : Int32) (h : mm_M) (Z : Int32 → mm_M → Prop) : Prop :=
  mm_k h (v0) = kd_Server ∧ ∃ a2, mm_P h v0 1 = some a2 ∧ mm_k h (a2) = kd_Bytes ∧ wq_Bytes_size ge (a2) h (fun (r6 : Int32) (h5 : mm_M) => ∃ a7, mm_P h v0 1 = some a7 ∧ mm_k h5 (a7) = kd_Bytes ∧ wq_Bytes_set ge (a7) (0) (r6) (4) h5 (fun h10 : mm_M => wq_Server_message_130  ge (v0) (v2) h10 Z))
def wq_Server_message_0  (ge : Nat → Nat) (v0 : Nat) (v1 : Int32) (h : mm_M) (Z : Int32 → mm_M → Prop) : Prop :=
  (((v1) < 0 → wq_Server_message_15  ge h Z) ∧ (¬ (v1) < 0 → mm_k h (v0) = kd_Server ∧ ∃ a2, mm_P h v0 0 = some a2 ∧ mm_k h (a2) = kd_Bytes ∧ wq_Bytes_size ge (a2) h (fun (r6 : Int32) (h5 : mm_M) => (((v1 : Int32) ≤ (r6 : Int32) → mm_k h5 (v0) = kd_Server ∧ ∃ a8, mm_P h5 v0 2 = some a8 ∧ mm_k h5 (a8) = kd_Request ∧ wq_Request_parse ge (a8) (v1) h5 (fun (r12 : Int32) (h11 : mm_M) => (((r12) = 0 → mm_k h11 (v0) = kd_Server ∧ ge 0 ≤ v0 ∧ ∀ h15 : mm_M, h15 = mm_uI h11 (v0) 11 ((mm_I h11 v0 11) + (1 : Int32)) → wq_Server_message_130  ge (v0) (r12) h15 Z) ∧ (¬ (r12) = 0 → mm_k h11 (v0) = kd_Server ∧ ge 0 ≤ v0 ∧ ∀ h18 : mm_M, h18 = mm_uI h11 (v0) 9 ((mm_I h11 v0 9) + (1 : Int32)) → mm_k h18 (v0) = kd_Server ∧ ∃ a20, mm_P h18 v0 2 = some a20 ∧ mm_k h18 (a20) = kd_Request ∧ wq_Server_startReply ge (v0) ((mm_I h18 a20 5) + (1 : Int32)) h18 (fun h23 : mm_M => mm_k h23 (v0) = kd_Server ∧ wq_Server_serve ge (v0) h23 (fun (r27 : Int32) (h26 : mm_M) => (((r27) = 0 → wq_Server_message_101  ge (v0) (r12) h26 Z) ∧ (¬ (r27) = 0 → mm_k h26 (v0) = kd_Server ∧ ge 0 ≤ v0 ∧ ∀ h30 : mm_M, h30 = mm_uI h26 (v0) 12 ((mm_I h26 v0 12) + (1 : Int32)) → mm_k h30 (v0) = kd_Server ∧ wq_Server_startReply ge (v0) (107) h30 (fun h32 : mm_M => mm_k h32 (v0) = kd_Server ∧ ∃ a35, mm_P h32 v0 1 = some a35 ∧ mm_k h32 (a35) = kd_Bytes ∧ wq_Bytes_put ge (a35) (1) (2) h32 (fun h38 : mm_M => mm_k h38 (v0) = kd_Server ∧ ∃ a41, mm_P h38 v0 1 = some a41 ∧ mm_k h38 (a41) = kd_Bytes ∧ wq_Bytes_put ge (a41) (Int32.toInt64 ((48 : Int32) + (r27))) (1) h38 (fun h44 : mm_M => wq_Server_message_101  ge (v0) (r12) h44 Z))))))))))) ∧ (¬ (v1 : Int32) ≤ (r6 : Int32) → wq_Server_message_15  ge h5 Z)))))
set_option maxRecDepth 100000 in
set_option maxHeartbeats 4000000 in
theorem vb_Server_message_15 {E : mm_E} {Z : Int32 → mm_M → Prop} (hc : cx E "EpochServer" c_Server_message 4 (some (.int)) rm_Server_message) (hq : cq E rm_Server_message (pI Z))   (h : mm_M) (hw : wq_Server_message_15  (mm_ge (eG E))  h Z) : V E 4 0 0 h 15 [] [] := by
  unfold wq_Server_message_15 at hw
  refine V_bipush (v := (-2)) hc d_Server_message_15 (by decide) ?_
  exact V_iret hc hq ⟨_, rfl, hw⟩ (by decide) (by decide) d_Server_message_17
set_option maxRecDepth 100000 in
set_option maxHeartbeats 4000000 in
theorem vb_Server_message_152 {E : mm_E} {Z : Int32 → mm_M → Prop} (hc : cx E "EpochServer" c_Server_message 4 (some (.int)) rm_Server_message) (hq : cq E rm_Server_message (pI Z))  (s0 : Int32) (h : mm_M) (hw : wq_Server_message_152  (mm_ge (eG E)) s0 h Z) : V E 4 12 1208 h 152 [] [.int (s0)] := by
  unfold wq_Server_message_152 at hw
  exact V_iret hc hq ⟨_, rfl, hw⟩ (by decide) (by decide) d_Server_message_152
set_option maxRecDepth 100000 in
set_option maxHeartbeats 4000000 in
theorem vb_Server_message_130 {E : mm_E} {Z : Int32 → mm_M → Prop} (hc : cx E "EpochServer" c_Server_message 4 (some (.int)) rm_Server_message) (hq : cq E rm_Server_message (pI Z))  (v0 : Nat) (v2 : Int32) (h : mm_M) (hw : wq_Server_message_130  (mm_ge (eG E)) v0 v2 h Z) : V E 4 12 1208 h 130 [(0, va_rf (some v0)), (2, .int (v2))] [] := by
  unfold wq_Server_message_130 at hw
  refine V_aload_n hc 0 d_Server_message_130 rfl rfl ?_
  obtain ⟨q1, hw⟩ := hw
  refine V_get (v := va_rf (mm_P h v0 0)) hc gf_Server_14 rfl q1 rfl d_Server_message_131 ?_
  obtain ⟨a2, q3, hw⟩ := hw
  obtain ⟨q4, hw⟩ := hw
  refine V_callV (rm' := rm_Bytes_clear) (As := []) (rest := []) (n := 0) (cn := 3) hc q3 q4 (sat_Bytes_clear (eG E) _ _ _ hw) rfl cv_Server_132 (gw_of (tw_2 (List.mem_of_getElem? (i := 223) rfl)) rfl) ss_Bytes_clear rfl ⟨by decide, by decide⟩ (by decide) (by decide) rfl (by simp [cat_rf, cat_i, cat_l]) d_Server_message_134 (fun r0 h5 hw => ?_)
  obtain ⟨rfl, hw⟩ := hw
  refine V_wide (cs' := 12) (sl' := 1208) (by decide) (by decide) ?_
  refine V_st (st' := []) rfl ?_
  refine V_iload_n hc 1 d_Server_message_137 rfl rfl ?_
  refine V_if_eq (tgt := 151) hc d_Server_message_138 (by decide) (fun hq1 => ?_) (fun hq1 => ?_)
  · replace hw := hw.1 hq1
    refine V_iconst (v := (-1)) hc d_Server_message_151 (by decide) ?_
    refine V_sub (lv' := []) [] rfl ?_
    exact vb_Server_message_152 hc hq  _ _ hw
  · replace hw := hw.2 hq1
    refine V_aload_n hc 0 d_Server_message_141 rfl rfl ?_
    obtain ⟨q7, hw⟩ := hw
    refine V_get (v := va_rf (mm_P h5 v0 1)) hc gf_Server_18 rfl q7 rfl d_Server_message_142 ?_
    obtain ⟨a8, q9, hw⟩ := hw
    obtain ⟨q10, hw⟩ := hw
    refine V_callV (rm' := rm_Bytes_size) (As := []) (rest := []) (n := 0) (cn := 3) hc q9 q10 (sat_Bytes_size (eG E) _ _ _ hw) rfl cv_Server_105 (gw_of (tw_2 (List.mem_of_getElem? (i := 162) rfl)) rfl) ss_Bytes_size rfl ⟨by decide, by decide⟩ (by decide) (by decide) rfl (by simp [cat_rf, cat_i, cat_l]) d_Server_message_145 (fun r0 h11 hw => ?_)
    obtain ⟨r12, rfl, hw⟩ := hw
    refine V_wide (cs' := 12) (sl' := 1208) (by decide) (by decide) ?_
    refine V_st (st' := [.int (r12)]) rfl ?_
    refine V_goto (tgt := 152) hc d_Server_message_148 (by decide) ?_
    refine V_sub (lv' := []) [] rfl ?_
    exact vb_Server_message_152 hc hq  _ _ hw
set_option maxRecDepth 100000 in
set_option maxHeartbeats 4000000 in
theorem vb_Server_message_101 {E : mm_E} {Z : Int32 → mm_M → Prop} (hc : cx E "EpochServer" c_Server_message 4 (some (.int)) rm_Server_message) (hq : cq E rm_Server_message (pI Z))  (v0 : Nat) (v2 : Int32) (h : mm_M) (hw : wq_Server_message_101  (mm_ge (eG E)) v0 v2 h Z) : V E 4 12 1208 h 101 [(0, va_rf (some v0)), (2, .int (v2))] [] := by
  unfold wq_Server_message_101 at hw
  refine V_aload_n hc 0 d_Server_message_101 rfl rfl ?_
  obtain ⟨q1, hw⟩ := hw
  refine V_get (v := va_rf (mm_P h v0 1)) hc gf_Server_18 rfl q1 rfl d_Server_message_102 ?_
  refine V_iconst (v := 0) hc d_Server_message_105 (by decide) ?_
  refine V_aload_n hc 0 d_Server_message_106 rfl rfl ?_
  refine V_get (v := va_rf (mm_P h v0 1)) hc gf_Server_18 rfl q1 rfl d_Server_message_107 ?_
  obtain ⟨a2, q3, hw⟩ := hw
  obtain ⟨q4, hw⟩ := hw
  refine V_callV (rm' := rm_Bytes_size) (As := []) (rest := [.int (0), va_rf (mm_P h v0 1)]) (n := 0) (cn := 3) hc q3 q4 (sat_Bytes_size (eG E) _ _ _ hw) rfl cv_Server_105 (gw_of (tw_2 (List.mem_of_getElem? (i := 162) rfl)) rfl) ss_Bytes_size rfl ⟨by decide, by decide⟩ (by decide) (by decide) rfl (by simp [cat_rf, cat_i, cat_l]) d_Server_message_110 (fun r0 h5 hw => ?_)
  obtain ⟨r6, rfl, hw⟩ := hw
  refine V_wide (cs' := 12) (sl' := 1208) (by decide) (by decide) ?_
  refine V_st (st' := [.int (r6), .int (0), va_rf (mm_P h v0 1)]) rfl ?_
  refine V_iconst (v := 4) hc d_Server_message_113 (by decide) ?_
  obtain ⟨a7, q8, hw⟩ := hw
  obtain ⟨q9, hw⟩ := hw
  refine V_callV (rm' := rm_Bytes_set) (As := [.int (0), .int (r6), .int (4)]) (rest := []) (n := 3) (cn := 3) hc q8 q9 (sat_Bytes_set (eG E) _ _ _ _ _ _ hw) rfl cv_Server_112 (gw_of (tw_2 (List.mem_of_getElem? (i := 174) rfl)) rfl) ss_Bytes_set rfl ⟨by decide, by decide⟩ (by decide) (by decide) rfl (by simp [cat_rf, cat_i, cat_l]) d_Server_message_114 (fun r0 h10 hw => ?_)
  obtain ⟨rfl, hw⟩ := hw
  refine V_wide (cs' := 12) (sl' := 1208) (by decide) (by decide) ?_
  refine V_st (st' := []) rfl ?_
  refine V_goto (tgt := 130) hc d_Server_message_117 (by decide) ?_
  refine V_sub (lv' := [(0, va_rf (some v0)), (2, .int (v2))]) [0, 1] rfl ?_
  exact vb_Server_message_130 hc hq  _ _ _ hw
set_option maxRecDepth 100000 in
set_option maxHeartbeats 4000000 in
theorem vb_Server_message_0 {E : mm_E} {Z : Int32 → mm_M → Prop} (hc : cx E "EpochServer" c_Server_message 4 (some (.int)) rm_Server_message) (hq : cq E rm_Server_message (pI Z))  (v0 : Nat) (v1 : Int32) (h : mm_M) (hw : wq_Server_message_0  (mm_ge (eG E)) v0 v1 h Z) : V E 4 0 0 h 0 [(0, va_rf (some v0)), (1, .int (v1))] [] := by
  unfold wq_Server_message_0 at hw
  refine V_iload_n hc 1 d_Server_message_0 rfl rfl ?_
  refine V_if_lt (tgt := 15) hc d_Server_message_1 (by decide) (fun hq1 => ?_) (fun hq1 => ?_)
  · replace hw := hw.1 hq1
    refine V_sub (lv' := []) [] rfl ?_
    exact vb_Server_message_15 hc hq  _ hw
  · replace hw := hw.2 hq1
    refine V_iload_n hc 1 d_Server_message_4 rfl rfl ?_
    refine V_aload_n hc 0 d_Server_message_5 rfl rfl ?_
    obtain ⟨q1, hw⟩ := hw
    refine V_get (v := va_rf (mm_P h v0 0)) hc gf_Server_14 rfl q1 rfl d_Server_message_6 ?_
    obtain ⟨a2, q3, hw⟩ := hw
    obtain ⟨q4, hw⟩ := hw
    refine V_callV (rm' := rm_Bytes_size) (As := []) (rest := [.int (v1)]) (n := 0) (cn := 3) hc q3 q4 (sat_Bytes_size (eG E) _ _ _ hw) rfl cv_Server_105 (gw_of (tw_2 (List.mem_of_getElem? (i := 162) rfl)) rfl) ss_Bytes_size rfl ⟨by decide, by decide⟩ (by decide) (by decide) rfl (by simp [cat_rf, cat_i, cat_l]) d_Server_message_9 (fun r0 h5 hw => ?_)
    obtain ⟨r6, rfl, hw⟩ := hw
    refine V_wide (cs' := 0) (sl' := 0) (by decide) (by decide) ?_
    refine V_st (st' := [.int (r6), .int (v1)]) rfl ?_
    refine V_icmp_le (tgt := 18) hc d_Server_message_12 (by decide) (fun hq1 => ?_) (fun hq1 => ?_)
    · replace hw := hw.1 hq1
      refine V_aload_n hc 0 d_Server_message_18 rfl rfl ?_
      obtain ⟨q7, hw⟩ := hw
      refine V_get (v := va_rf (mm_P h5 v0 2)) hc gf_Server_26 rfl q7 rfl d_Server_message_19 ?_
      refine V_iload_n hc 1 d_Server_message_22 rfl rfl ?_
      obtain ⟨a8, q9, hw⟩ := hw
      obtain ⟨q10, hw⟩ := hw
      refine V_callV (rm' := rm_Request_parse) (As := [.int (v1)]) (rest := []) (n := 1) (cn := 8) hc q9 q10 (sat_Request_parse (eG E) _ _ _ _ hw) rfl cv_Server_116 (gw_of (tw_2 (List.mem_of_getElem? (i := 182) rfl)) rfl) ss_Request_parse rfl ⟨by decide, by decide⟩ (by decide) (by decide) rfl (by simp [cat_rf, cat_i, cat_l]) d_Server_message_23 (fun r0 h11 hw => ?_)
      obtain ⟨r12, rfl, hw⟩ := hw
      refine V_wide (cs' := 0) (sl' := 0) (by decide) (by decide) ?_
      refine V_st (st' := [.int (r12)]) rfl ?_
      refine V_istore_n (i := 2) (lv' := [(2, .int (r12)), (0, va_rf (some v0)), (1, .int (v1))]) hc d_Server_message_26 rfl (by decide) rfl ?_
      refine V_iload_n hc 0 d_Server_message_27 rfl rfl ?_
      refine V_if_eq (tgt := 120) hc d_Server_message_28 (by decide) (fun hq1 => ?_) (fun hq1 => ?_)
      · replace hw := hw.1 hq1
        refine V_aload_n hc 1 d_Server_message_120 rfl rfl ?_
        refine V_dup hc d_Server_message_121 (cat_rf _) ?_
        obtain ⟨q13, hw⟩ := hw
        refine V_get (v := .int (mm_I h11 v0 11)) hc gf_Server_75 rfl q13 rfl d_Server_message_122 ?_
        refine V_iconst (v := 1) hc d_Server_message_125 (by decide) ?_
        refine V_iadd hc d_Server_message_126 ?_
        obtain ⟨q14, hw⟩ := hw
        obtain ⟨h15, eq_h15⟩ : ∃ x, x = mm_uI h11 (v0) 11 ((mm_I h11 v0 11) + (1 : Int32)) := ⟨_, rfl⟩
        replace hw := hw _ eq_h15
        refine V_put (h' := h15) hc gf_Server_75 rfl rfl q13 q14 (by rw [eq_h15]; exact mm_Up_I _ _ _ _) (by rw [eq_h15]; exact up_vI rfl) (vp_nar_int _) rfl d_Server_message_127 ?_
        refine V_sub (lv' := [(0, va_rf (some v0)), (2, .int (r12))]) [1, 0] rfl ?_
        refine V_wide (cs' := 12) (sl' := 1208) (by omega) (by omega) ?_
        exact vb_Server_message_130 hc hq  _ _ _ hw
      · replace hw := hw.2 hq1
        refine V_aload_n hc 1 d_Server_message_31 rfl rfl ?_
        refine V_dup hc d_Server_message_32 (cat_rf _) ?_
        obtain ⟨q16, hw⟩ := hw
        refine V_get (v := .int (mm_I h11 v0 9)) hc gf_Server_69 rfl q16 rfl d_Server_message_33 ?_
        refine V_iconst (v := 1) hc d_Server_message_36 (by decide) ?_
        refine V_iadd hc d_Server_message_37 ?_
        obtain ⟨q17, hw⟩ := hw
        obtain ⟨h18, eq_h18⟩ : ∃ x, x = mm_uI h11 (v0) 9 ((mm_I h11 v0 9) + (1 : Int32)) := ⟨_, rfl⟩
        replace hw := hw _ eq_h18
        refine V_put (h' := h18) hc gf_Server_69 rfl rfl q16 q17 (by rw [eq_h18]; exact mm_Up_I _ _ _ _) (by rw [eq_h18]; exact up_vI rfl) (vp_nar_int _) rfl d_Server_message_38 ?_
        refine V_aload_n hc 1 d_Server_message_41 rfl rfl ?_
        refine V_aload_n hc 1 d_Server_message_42 rfl rfl ?_
        obtain ⟨q19, hw⟩ := hw
        refine V_get (v := va_rf (mm_P h18 v0 2)) hc gf_Server_26 rfl q19 rfl d_Server_message_43 ?_
        obtain ⟨a20, q21, hw⟩ := hw
        obtain ⟨q22, hw⟩ := hw
        refine V_get (v := .int (mm_I h18 a20 5)) hc gf_Server_120 q21 q22 rfl d_Server_message_46 ?_
        refine V_iconst (v := 1) hc d_Server_message_49 (by decide) ?_
        refine V_iadd hc d_Server_message_50 ?_
        refine V_callV (rm' := rm_Server_startReply) (As := [.int ((mm_I h18 a20 5) + (1 : Int32))]) (rest := []) (n := 1) (cn := 1) hc rfl q19 (sat_Server_startReply (eG E) _ _ _ _ hw) rfl cv_Server_123 (gw_of (tw_2 (List.mem_of_getElem? (i := 220) rfl)) rfl) ss_Server_startReply rfl ⟨by decide, by decide⟩ (by decide) (by decide) rfl (by simp [cat_rf, cat_i, cat_l]) d_Server_message_51 (fun r0 h23 hw => ?_)
        obtain ⟨rfl, hw⟩ := hw
        refine V_wide (cs' := 0) (sl' := 0) (by decide) (by decide) ?_
        refine V_st (st' := []) rfl ?_
        refine V_aload_n hc 1 d_Server_message_54 rfl rfl ?_
        obtain ⟨q25, hw⟩ := hw
        refine V_callV (rm' := rm_Server_serve) (As := []) (rest := []) (n := 0) (cn := 1) hc rfl q25 (sat_Server_serve (eG E) _ _ _ hw) rfl cv_Server_126 (gw_of (tw_2 (List.mem_of_getElem? (i := 229) rfl)) rfl) ss_Server_serve rfl ⟨by decide, by decide⟩ (by decide) (by decide) rfl (by simp [cat_rf, cat_i, cat_l]) d_Server_message_55 (fun r0 h26 hw => ?_)
        obtain ⟨r27, rfl, hw⟩ := hw
        refine V_wide (cs' := 12) (sl' := 1208) (by decide) (by decide) ?_
        refine V_st (st' := [.int (r27)]) rfl ?_
        refine V_istore_n (i := 3) (lv' := [(3, .int (r27)), (2, .int (r12)), (0, va_rf (some v0)), (1, .int (v1))]) hc d_Server_message_58 rfl (by decide) rfl ?_
        refine V_iload_n hc 0 d_Server_message_59 rfl rfl ?_
        refine V_if_eq (tgt := 101) hc d_Server_message_60 (by decide) (fun hq1 => ?_) (fun hq1 => ?_)
        · replace hw := hw.1 hq1
          refine V_sub (lv' := [(0, va_rf (some v0)), (2, .int (r12))]) [2, 1] rfl ?_
          exact vb_Server_message_101 hc hq  _ _ _ hw
        · replace hw := hw.2 hq1
          refine V_aload_n hc 2 d_Server_message_63 rfl rfl ?_
          refine V_dup hc d_Server_message_64 (cat_rf _) ?_
          obtain ⟨q28, hw⟩ := hw
          refine V_get (v := .int (mm_I h26 v0 12)) hc gf_Server_78 rfl q28 rfl d_Server_message_65 ?_
          refine V_iconst (v := 1) hc d_Server_message_68 (by decide) ?_
          refine V_iadd hc d_Server_message_69 ?_
          obtain ⟨q29, hw⟩ := hw
          obtain ⟨h30, eq_h30⟩ : ∃ x, x = mm_uI h26 (v0) 12 ((mm_I h26 v0 12) + (1 : Int32)) := ⟨_, rfl⟩
          replace hw := hw _ eq_h30
          refine V_put (h' := h30) hc gf_Server_78 rfl rfl q28 q29 (by rw [eq_h30]; exact mm_Up_I _ _ _ _) (by rw [eq_h30]; exact up_vI rfl) (vp_nar_int _) rfl d_Server_message_70 ?_
          refine V_aload_n hc 2 d_Server_message_73 rfl rfl ?_
          refine V_bipush (v := 107) hc d_Server_message_74 (by decide) ?_
          obtain ⟨q31, hw⟩ := hw
          refine V_callV (rm' := rm_Server_startReply) (As := [.int (107)]) (rest := []) (n := 1) (cn := 1) hc rfl q31 (sat_Server_startReply (eG E) _ _ _ _ hw) rfl cv_Server_123 (gw_of (tw_2 (List.mem_of_getElem? (i := 220) rfl)) rfl) ss_Server_startReply rfl ⟨by decide, by decide⟩ (by decide) (by decide) rfl (by simp [cat_rf, cat_i, cat_l]) d_Server_message_76 (fun r0 h32 hw => ?_)
          obtain ⟨rfl, hw⟩ := hw
          refine V_wide (cs' := 12) (sl' := 1208) (by decide) (by decide) ?_
          refine V_st (st' := []) rfl ?_
          refine V_aload_n hc 2 d_Server_message_79 rfl rfl ?_
          obtain ⟨q34, hw⟩ := hw
          refine V_get (v := va_rf (mm_P h32 v0 1)) hc gf_Server_18 rfl q34 rfl d_Server_message_80 ?_
          refine V_lconst (v := 1) hc d_Server_message_83 (by decide) ?_
          refine V_iconst (v := 2) hc d_Server_message_84 (by decide) ?_
          obtain ⟨a35, q36, hw⟩ := hw
          obtain ⟨q37, hw⟩ := hw
          refine V_callV (rm' := rm_Bytes_put) (As := [.long (1), .int (2)]) (rest := []) (n := 2) (cn := 3) hc q36 q37 (sat_Bytes_put (eG E) _ _ _ _ _ hw) rfl cv_Server_129 (gw_of (tw_2 (List.mem_of_getElem? (i := 158) rfl)) rfl) ss_Bytes_put rfl ⟨by decide, by decide⟩ (by decide) (by decide) rfl (by simp [cat_rf, cat_i, cat_l]) d_Server_message_85 (fun r0 h38 hw => ?_)
          obtain ⟨rfl, hw⟩ := hw
          refine V_wide (cs' := 12) (sl' := 1208) (by decide) (by decide) ?_
          refine V_st (st' := []) rfl ?_
          refine V_aload_n hc 2 d_Server_message_88 rfl rfl ?_
          obtain ⟨q40, hw⟩ := hw
          refine V_get (v := va_rf (mm_P h38 v0 1)) hc gf_Server_18 rfl q40 rfl d_Server_message_89 ?_
          refine V_bipush (v := 48) hc d_Server_message_92 (by decide) ?_
          refine V_iload_n hc 0 d_Server_message_94 rfl rfl ?_
          refine V_iadd hc d_Server_message_95 ?_
          refine V_i2l hc d_Server_message_96 ?_
          refine V_iconst (v := 1) hc d_Server_message_97 (by decide) ?_
          obtain ⟨a41, q42, hw⟩ := hw
          obtain ⟨q43, hw⟩ := hw
          refine V_callV (rm' := rm_Bytes_put) (As := [.long (Int32.toInt64 ((48 : Int32) + (r27))), .int (1)]) (rest := []) (n := 2) (cn := 3) hc q42 q43 (sat_Bytes_put (eG E) _ _ _ _ _ hw) rfl cv_Server_129 (gw_of (tw_2 (List.mem_of_getElem? (i := 158) rfl)) rfl) ss_Bytes_put rfl ⟨by decide, by decide⟩ (by decide) (by decide) rfl (by simp [cat_rf, cat_i, cat_l]) d_Server_message_98 (fun r0 h44 hw => ?_)
          obtain ⟨rfl, hw⟩ := hw
          refine V_wide (cs' := 12) (sl' := 1208) (by decide) (by decide) ?_
          refine V_st (st' := []) rfl ?_
          refine V_sub (lv' := [(0, va_rf (some v0)), (2, .int (r12))]) [2, 1] rfl ?_
          exact vb_Server_message_101 hc hq  _ _ _ hw
    · replace hw := hw.2 hq1
      refine V_sub (lv' := []) [] rfl ?_
      exact vb_Server_message_15 hc hq  _ hw
def wq_Server_message (ge : Nat → Nat) (v0 : Nat) (v1 : Int32) (h : mm_M) (Z : Int32 → mm_M → Prop) : Prop := wq_Server_message_0 ge v0 v1 h Z
theorem sat_Server_message (G : mm_G) (v0 : Nat) (v1 : Int32) (h : mm_M) (Z : Int32 → mm_M → Prop) (hw : wq_Server_message (mm_ge G) v0 v1 h Z) : mm_Met G y_Server_message c_Server_message 4 (some (.int)) rm_Server_message [va_rf (some v0), .int (v1)] h (pI Z) := by
  refine mm_intro (own := "EpochServer") (by decide) rfl (by simp [lg_sl, cat_rf, cat_i, cat_l]) (fun E e1 hc hq hi => ?_)
  subst e1
  have e2 : lv_args 0 [va_rf (some v0), .int (v1)] = [(0, va_rf (some v0)), (1, .int (v1))] := by simp [lv_args, cat_rf, cat_i, cat_l]
  rw [e2]
  refine V_sub (lv' := [(0, va_rf (some v0)), (1, .int (v1))]) [0, 1] rfl ?_
  exact vb_Server_message_0 hc hq v0 v1 h hw
/-! Server.answer(I)I -/
abbrev rm_Server_answer : Room := { frames := 1, cells := 0, slots := 0, locals := 21 }
def wq_Server_answer_0  (ge : Nat → Nat) (v0 : Nat) (v1 : Int32) (h : mm_M) (Z : Int32 → mm_M → Prop) : Prop :=
  mm_k h (v0) = kd_Server ∧ ∃ a2, mm_P h v0 1 = some a2 ∧ mm_k h (a2) = kd_Bytes ∧ wq_Bytes_at ge (a2) (v1) h (fun (r6 : Int32) (h5 : mm_M) => Z (r6) h5)
set_option maxRecDepth 100000 in
set_option maxHeartbeats 4000000 in
theorem vb_Server_answer_0 {E : mm_E} {Z : Int32 → mm_M → Prop} (hc : cx E "EpochServer" c_Server_answer 2 (some (.int)) rm_Server_answer) (hq : cq E rm_Server_answer (pI Z))  (v0 : Nat) (v1 : Int32) (h : mm_M) (hw : wq_Server_answer_0  (mm_ge (eG E)) v0 v1 h Z) : V E 2 0 0 h 0 [(0, va_rf (some v0)), (1, .int (v1))] [] := by
  unfold wq_Server_answer_0 at hw
  refine V_aload_n hc 0 d_Server_answer_0 rfl rfl ?_
  obtain ⟨q1, hw⟩ := hw
  refine V_get (v := va_rf (mm_P h v0 1)) hc gf_Server_18 rfl q1 rfl d_Server_answer_1 ?_
  refine V_iload_n hc 1 d_Server_answer_4 rfl rfl ?_
  obtain ⟨a2, q3, hw⟩ := hw
  obtain ⟨q4, hw⟩ := hw
  refine V_callV (rm' := rm_Bytes_at) (As := [.int (v1)]) (rest := []) (n := 1) (cn := 3) hc q3 q4 (sat_Bytes_at (eG E) _ _ _ _ hw) rfl cv_Server_108 (gw_of (tw_2 (List.mem_of_getElem? (i := 170) rfl)) rfl) ss_Bytes_at rfl ⟨by decide, by decide⟩ (by decide) (by decide) rfl (by simp [cat_rf, cat_i, cat_l]) d_Server_answer_5 (fun r0 h5 hw => ?_)
  obtain ⟨r6, rfl, hw⟩ := hw
  refine V_wide (cs' := 0) (sl' := 0) (by decide) (by decide) ?_
  refine V_st (st' := [.int (r6)]) rfl ?_
  exact V_iret hc hq ⟨_, rfl, hw⟩ (by decide) (by decide) d_Server_answer_8
def wq_Server_answer (ge : Nat → Nat) (v0 : Nat) (v1 : Int32) (h : mm_M) (Z : Int32 → mm_M → Prop) : Prop := wq_Server_answer_0 ge v0 v1 h Z
theorem sat_Server_answer (G : mm_G) (v0 : Nat) (v1 : Int32) (h : mm_M) (Z : Int32 → mm_M → Prop) (hw : wq_Server_answer (mm_ge G) v0 v1 h Z) : mm_Met G y_Server_answer c_Server_answer 2 (some (.int)) rm_Server_answer [va_rf (some v0), .int (v1)] h (pI Z) := by
  refine mm_intro (own := "EpochServer") (by decide) rfl (by simp [lg_sl, cat_rf, cat_i, cat_l]) (fun E e1 hc hq hi => ?_)
  subst e1
  have e2 : lv_args 0 [va_rf (some v0), .int (v1)] = [(0, va_rf (some v0)), (1, .int (v1))] := by simp [lv_args, cat_rf, cat_i, cat_l]
  rw [e2]
  refine V_sub (lv' := [(0, va_rf (some v0)), (1, .int (v1))]) [0, 1] rfl ?_
  exact vb_Server_answer_0 hc hq v0 v1 h hw
/-! Server.word(I)I -/
abbrev rm_Server_word : Room := { frames := 1, cells := 0, slots := 0, locals := 24 }
def wq_Server_word_15  (ge : Nat → Nat)  (h : mm_M) (Z : Int32 → mm_M → Prop) : Prop :=
  Z (0) h
def wq_Server_word_21 (X21 : Nat → Int32 → Int32 → Int32 → mm_M → Prop) (ge : Nat → Nat) (v0 : Nat) (v1 : Int32) (v2 : Int32) (v3 : Int32) (h : mm_M) (Z : Int32 → mm_M → Prop) : Prop :=
  (((v3) < 0 → Z (v2) h) ∧ (¬ (v3) < 0 → mm_k h (v0) = kd_Server ∧ ∃ a2, mm_P h v0 1 = some a2 ∧ mm_k h (a2) = kd_Bytes ∧ wq_Bytes_at ge (a2) ((v1) + (v3)) h (fun (r6 : Int32) (h5 : mm_M) => X21 (v0) (v1) (((v2) <<< ((8 : Int32) &&& 31)) ||| (if (0 : Int32) < (r6) then (r6) else (0))) (v3 + (-1)) h5)))
def lp_Server_word_21  (ge : Nat → Nat) (v0 : Nat) (v1 : Int32) (v2 : Int32) (v3 : Int32) (h : mm_M) (Z : Int32 → mm_M → Prop) : Prop :=
  ∀ X21 : Nat → Int32 → Int32 → Int32 → mm_M → Prop, (∀ (v0 : Nat) (v1 : Int32) (v2 : Int32) (v3 : Int32) (h : mm_M), wq_Server_word_21 X21 ge v0 v1 v2 v3 h Z → X21 v0 v1 v2 v3 h) → X21 v0 v1 v2 v3 h
def wq_Server_word_0  (ge : Nat → Nat) (v0 : Nat) (v1 : Int32) (h : mm_M) (Z : Int32 → mm_M → Prop) : Prop :=
  (((v1) < 0 → wq_Server_word_15  ge h Z) ∧ (¬ (v1) < 0 → mm_k h (v0) = kd_Server ∧ ∃ a2, mm_P h v0 1 = some a2 ∧ mm_k h (a2) = kd_Bytes ∧ wq_Bytes_size ge (a2) h (fun (r6 : Int32) (h5 : mm_M) => (((v1 : Int32) < (r6 : Int32) → lp_Server_word_21  ge (v0) (v1) (0) (3) h5 Z) ∧ (¬ (v1 : Int32) < (r6 : Int32) → wq_Server_word_15  ge h5 Z)))))
set_option maxRecDepth 100000 in
set_option maxHeartbeats 4000000 in
theorem vb_Server_word_15 {E : mm_E} {Z : Int32 → mm_M → Prop} (hc : cx E "EpochServer" c_Server_word 4 (some (.int)) rm_Server_word) (hq : cq E rm_Server_word (pI Z))   (h : mm_M) (hw : wq_Server_word_15  (mm_ge (eG E))  h Z) : V E 4 0 0 h 15 [] [] := by
  unfold wq_Server_word_15 at hw
  refine V_iconst (v := 0) hc d_Server_word_15 (by decide) ?_
  exact V_iret hc hq ⟨_, rfl, hw⟩ (by decide) (by decide) d_Server_word_16
set_option maxRecDepth 100000 in
set_option maxHeartbeats 4000000 in
theorem vb_Server_word_21 {E : mm_E} {Z : Int32 → mm_M → Prop} (hc : cx E "EpochServer" c_Server_word 4 (some (.int)) rm_Server_word) (hq : cq E rm_Server_word (pI Z)) (X21 : Nat → Int32 → Int32 → Int32 → mm_M → Prop) (hX21 : ∀ (v0 : Nat) (v1 : Int32) (v2 : Int32) (v3 : Int32) (h : mm_M), X21 v0 v1 v2 v3 h → V E 4 0 0 h 21 [(0, va_rf (some v0)), (1, .int (v1)), (2, .int (v2)), (3, .int (v3))] []) (v0 : Nat) (v1 : Int32) (v2 : Int32) (v3 : Int32) (h : mm_M) (hw : wq_Server_word_21 X21 (mm_ge (eG E)) v0 v1 v2 v3 h Z) : V E 4 0 0 h 21 [(0, va_rf (some v0)), (1, .int (v1)), (2, .int (v2)), (3, .int (v3))] [] := by
  unfold wq_Server_word_21 at hw
  refine V_iload_n hc 3 d_Server_word_21 rfl rfl ?_
  refine V_if_lt (tgt := 51) hc d_Server_word_22 (by decide) (fun hq1 => ?_) (fun hq1 => ?_)
  · replace hw := hw.1 hq1
    refine V_iload_n hc 2 d_Server_word_51 rfl rfl ?_
    exact V_iret hc hq ⟨_, rfl, hw⟩ (by decide) (by decide) d_Server_word_52
  · replace hw := hw.2 hq1
    refine V_iload_n hc 2 d_Server_word_25 rfl rfl ?_
    refine V_bipush (v := 8) hc d_Server_word_26 (by decide) ?_
    refine V_ishl hc d_Server_word_28 ?_
    refine V_iconst (v := 0) hc d_Server_word_29 (by decide) ?_
    refine V_aload_n hc 0 d_Server_word_30 rfl rfl ?_
    obtain ⟨q1, hw⟩ := hw
    refine V_get (v := va_rf (mm_P h v0 1)) hc gf_Server_18 rfl q1 rfl d_Server_word_31 ?_
    refine V_iload_n hc 1 d_Server_word_34 rfl rfl ?_
    refine V_iload_n hc 3 d_Server_word_35 rfl rfl ?_
    refine V_iadd hc d_Server_word_36 ?_
    obtain ⟨a2, q3, hw⟩ := hw
    obtain ⟨q4, hw⟩ := hw
    refine V_callV (rm' := rm_Bytes_at) (As := [.int ((v1) + (v3))]) (rest := [.int (0), .int ((v2) <<< ((8 : Int32) &&& 31))]) (n := 1) (cn := 3) hc q3 q4 (sat_Bytes_at (eG E) _ _ _ _ hw) rfl cv_Server_108 (gw_of (tw_2 (List.mem_of_getElem? (i := 170) rfl)) rfl) ss_Bytes_at rfl ⟨by decide, by decide⟩ (by decide) (by decide) rfl (by simp [cat_rf, cat_i, cat_l]) d_Server_word_37 (fun r0 h5 hw => ?_)
    obtain ⟨r6, rfl, hw⟩ := hw
    refine V_wide (cs' := 0) (sl' := 0) (by decide) (by decide) ?_
    refine V_st (st' := [.int (r6), .int (0), .int ((v2) <<< ((8 : Int32) &&& 31))]) rfl ?_
    refine V_mmax hc cv_Server_135 (by simp [cat_rf, cat_i, cat_l]) (by decide) (by decide) (by decide) (by decide) d_Server_word_40 ?_
    refine V_ior hc d_Server_word_43 ?_
    refine V_istore_n (i := 2) (lv' := [(2, .int (((v2) <<< ((8 : Int32) &&& 31)) ||| (if (0 : Int32) < (r6) then (r6) else (0)))), (0, va_rf (some v0)), (1, .int (v1)), (3, .int (v3))]) hc d_Server_word_44 rfl (by decide) rfl ?_
    refine V_iinc (v := v3 + (-1)) (lv' := [(3, .int (v3 + (-1))), (2, .int (((v2) <<< ((8 : Int32) &&& 31)) ||| (if (0 : Int32) < (r6) then (r6) else (0)))), (0, va_rf (some v0)), (1, .int (v1))]) hc 3 d_Server_word_45 rfl rfl (by decide) rfl ?_
    refine V_goto (tgt := 21) hc d_Server_word_48 (by decide) ?_
    refine V_sub (lv' := [(0, va_rf (some v0)), (1, .int (v1)), (2, .int (((v2) <<< ((8 : Int32) &&& 31)) ||| (if (0 : Int32) < (r6) then (r6) else (0)))), (3, .int (v3 + (-1)))]) [2, 3, 1, 0] rfl ?_
    exact hX21 _ _ _ _ _ hw
theorem vl_Server_word_21 {E : mm_E} {Z : Int32 → mm_M → Prop} (hc : cx E "EpochServer" c_Server_word 4 (some (.int)) rm_Server_word) (hq : cq E rm_Server_word (pI Z))  (v0 : Nat) (v1 : Int32) (v2 : Int32) (v3 : Int32) (h : mm_M) (hw : lp_Server_word_21  (mm_ge (eG E)) v0 v1 v2 v3 h Z) : V E 4 0 0 h 21 [(0, va_rf (some v0)), (1, .int (v1)), (2, .int (v2)), (3, .int (v3))] [] :=
  hw (fun v0 v1 v2 v3 h => V E 4 0 0 h 21 [(0, va_rf (some v0)), (1, .int (v1)), (2, .int (v2)), (3, .int (v3))] []) (fun v0 v1 v2 v3 h hb => vb_Server_word_21 hc hq  _ (fun _ _ _ _ _ q => q) v0 v1 v2 v3 h hb)
set_option maxRecDepth 100000 in
set_option maxHeartbeats 4000000 in
theorem vb_Server_word_0 {E : mm_E} {Z : Int32 → mm_M → Prop} (hc : cx E "EpochServer" c_Server_word 4 (some (.int)) rm_Server_word) (hq : cq E rm_Server_word (pI Z))  (v0 : Nat) (v1 : Int32) (h : mm_M) (hw : wq_Server_word_0  (mm_ge (eG E)) v0 v1 h Z) : V E 4 0 0 h 0 [(0, va_rf (some v0)), (1, .int (v1))] [] := by
  unfold wq_Server_word_0 at hw
  refine V_iload_n hc 1 d_Server_word_0 rfl rfl ?_
  refine V_if_lt (tgt := 15) hc d_Server_word_1 (by decide) (fun hq1 => ?_) (fun hq1 => ?_)
  · replace hw := hw.1 hq1
    refine V_sub (lv' := []) [] rfl ?_
    exact vb_Server_word_15 hc hq  _ hw
  · replace hw := hw.2 hq1
    refine V_iload_n hc 1 d_Server_word_4 rfl rfl ?_
    refine V_aload_n hc 0 d_Server_word_5 rfl rfl ?_
    obtain ⟨q1, hw⟩ := hw
    refine V_get (v := va_rf (mm_P h v0 1)) hc gf_Server_18 rfl q1 rfl d_Server_word_6 ?_
    obtain ⟨a2, q3, hw⟩ := hw
    obtain ⟨q4, hw⟩ := hw
    refine V_callV (rm' := rm_Bytes_size) (As := []) (rest := [.int (v1)]) (n := 0) (cn := 3) hc q3 q4 (sat_Bytes_size (eG E) _ _ _ hw) rfl cv_Server_105 (gw_of (tw_2 (List.mem_of_getElem? (i := 162) rfl)) rfl) ss_Bytes_size rfl ⟨by decide, by decide⟩ (by decide) (by decide) rfl (by simp [cat_rf, cat_i, cat_l]) d_Server_word_9 (fun r0 h5 hw => ?_)
    obtain ⟨r6, rfl, hw⟩ := hw
    refine V_wide (cs' := 0) (sl' := 0) (by decide) (by decide) ?_
    refine V_st (st' := [.int (r6), .int (v1)]) rfl ?_
    refine V_icmp_lt (tgt := 17) hc d_Server_word_12 (by decide) (fun hq1 => ?_) (fun hq1 => ?_)
    · replace hw := hw.1 hq1
      refine V_iconst (v := 0) hc d_Server_word_17 (by decide) ?_
      refine V_istore_n (i := 2) (lv' := [(2, .int (0)), (0, va_rf (some v0)), (1, .int (v1))]) hc d_Server_word_18 rfl (by decide) rfl ?_
      refine V_iconst (v := 3) hc d_Server_word_19 (by decide) ?_
      refine V_istore_n (i := 3) (lv' := [(3, .int (3)), (2, .int (0)), (0, va_rf (some v0)), (1, .int (v1))]) hc d_Server_word_20 rfl (by decide) rfl ?_
      refine V_sub (lv' := [(0, va_rf (some v0)), (1, .int (v1)), (2, .int (0)), (3, .int (3))]) [2, 3, 1, 0] rfl ?_
      exact vl_Server_word_21 hc hq  _ _ _ _ _ hw
    · replace hw := hw.2 hq1
      refine V_sub (lv' := []) [] rfl ?_
      exact vb_Server_word_15 hc hq  _ hw
def wq_Server_word (ge : Nat → Nat) (v0 : Nat) (v1 : Int32) (h : mm_M) (Z : Int32 → mm_M → Prop) : Prop := wq_Server_word_0 ge v0 v1 h Z
theorem sat_Server_word (G : mm_G) (v0 : Nat) (v1 : Int32) (h : mm_M) (Z : Int32 → mm_M → Prop) (hw : wq_Server_word (mm_ge G) v0 v1 h Z) : mm_Met G y_Server_word c_Server_word 4 (some (.int)) rm_Server_word [va_rf (some v0), .int (v1)] h (pI Z) := by
  refine mm_intro (own := "EpochServer") (by decide) rfl (by simp [lg_sl, cat_rf, cat_i, cat_l]) (fun E e1 hc hq hi => ?_)
  subst e1
  have e2 : lv_args 0 [va_rf (some v0), .int (v1)] = [(0, va_rf (some v0)), (1, .int (v1))] := by simp [lv_args, cat_rf, cat_i, cat_l]
  rw [e2]
  refine V_sub (lv' := [(0, va_rf (some v0)), (1, .int (v1))]) [0, 1] rfl ?_
  exact vb_Server_word_0 hc hq v0 v1 h hw
/-! Server.snap()I -/
abbrev rm_Server_snap : Room := { frames := 3, cells := 2, slots := 61, locals := 66 }
def wq_Server_snap_0  (ge : Nat → Nat) (v0 : Nat) (h : mm_M) (Z : Int32 → mm_M → Prop) : Prop :=
  mm_k h (v0) = kd_Server ∧ ∃ a2, mm_P h v0 6 = some a2 ∧ mm_k h (a2) = kd_Snapshots ∧ wq_Snapshots_take ge (a2) (mm_P h v0 4) h (fun (r6 : Int32) (h5 : mm_M) => Z (r6) h5)
set_option maxRecDepth 100000 in
set_option maxHeartbeats 4000000 in
theorem vb_Server_snap_0 {E : mm_E} {Z : Int32 → mm_M → Prop} (hc : cx E "EpochServer" c_Server_snap 1 (some (.int)) rm_Server_snap) (hq : cq E rm_Server_snap (pI Z))  (v0 : Nat) (h : mm_M) (hw : wq_Server_snap_0  (mm_ge (eG E)) v0 h Z) : V E 1 0 0 h 0 [(0, va_rf (some v0))] [] := by
  unfold wq_Server_snap_0 at hw
  refine V_aload_n hc 0 d_Server_snap_0 rfl rfl ?_
  obtain ⟨q1, hw⟩ := hw
  refine V_get (v := va_rf (mm_P h v0 6)) hc gf_Server_54 rfl q1 rfl d_Server_snap_1 ?_
  refine V_aload_n hc 0 d_Server_snap_4 rfl rfl ?_
  refine V_get (v := va_rf (mm_P h v0 4)) hc gf_Server_40 rfl q1 rfl d_Server_snap_5 ?_
  obtain ⟨a2, q3, hw⟩ := hw
  obtain ⟨q4, hw⟩ := hw
  refine V_callV (rm' := rm_Snapshots_take) (As := [va_rf (mm_P h v0 4)]) (rest := []) (n := 1) (cn := 10) hc q3 q4 (sat_Snapshots_take (eG E) _ _ _ _ hw) rfl cv_Server_141 (gw_of (tw_4 (List.mem_of_getElem? (i := 50) rfl)) rfl) ss_Snapshots_take rfl ⟨by decide, by decide⟩ (by decide) (by decide) rfl (by simp [cat_rf, cat_i, cat_l]) d_Server_snap_8 (fun r0 h5 hw => ?_)
  obtain ⟨r6, rfl, hw⟩ := hw
  refine V_wide (cs' := 2) (sl' := 61) (by decide) (by decide) ?_
  refine V_st (st' := [.int (r6)]) rfl ?_
  exact V_iret hc hq ⟨_, rfl, hw⟩ (by decide) (by decide) d_Server_snap_11
def wq_Server_snap (ge : Nat → Nat) (v0 : Nat) (h : mm_M) (Z : Int32 → mm_M → Prop) : Prop := wq_Server_snap_0 ge v0 h Z
theorem sat_Server_snap (G : mm_G) (v0 : Nat) (h : mm_M) (Z : Int32 → mm_M → Prop) (hw : wq_Server_snap (mm_ge G) v0 h Z) : mm_Met G y_Server_snap c_Server_snap 1 (some (.int)) rm_Server_snap [va_rf (some v0)] h (pI Z) := by
  refine mm_intro (own := "EpochServer") (by decide) rfl (by simp [lg_sl, cat_rf, cat_i, cat_l]) (fun E e1 hc hq hi => ?_)
  subst e1
  have e2 : lv_args 0 [va_rf (some v0)] = [(0, va_rf (some v0))] := by simp [lv_args, cat_rf, cat_i, cat_l]
  rw [e2]
  refine V_sub (lv' := [(0, va_rf (some v0))]) [0] rfl ?_
  exact vb_Server_snap_0 hc hq v0 h hw
/-! Server.archive(I)I -/
abbrev rm_Server_archive : Room := { frames := 7, cells := 0, slots := 0, locals := 171 }
def wq_Server_archive_25  (ge : Nat → Nat) (s0 : Int32) (h : mm_M) (Z : Int32 → mm_M → Prop) : Prop :=
  Z (s0) h
def wq_Server_archive_0  (ge : Nat → Nat) (v0 : Nat) (v1 : Int32) (h : mm_M) (Z : Int32 → mm_M → Prop) : Prop :=
  mm_k h (v0) = kd_Server ∧ ∃ a2, mm_P h v0 6 = some a2 ∧ mm_k h (a2) = kd_Snapshots ∧ wq_Snapshots_tree ge (a2) (v1) h (fun (r6 : Option Nat) (h5 : mm_M) => ((∀ a7, r6 = some a7 → mm_k h5 (v0) = kd_Server ∧ ∃ a9, mm_P h5 v0 7 = some a9 ∧ mm_k h5 (a9) = kd_Archiver ∧ wq_Archiver_putAway ge (a9) (r6) h5 (fun (r13 : Int32) (h12 : mm_M) => wq_Server_archive_25  ge (r13) h12 Z)) ∧ (r6 = none → wq_Server_archive_25  ge ((-1)) h5 Z)))
set_option maxRecDepth 100000 in
set_option maxHeartbeats 4000000 in
theorem vb_Server_archive_25 {E : mm_E} {Z : Int32 → mm_M → Prop} (hc : cx E "EpochServer" c_Server_archive 3 (some (.int)) rm_Server_archive) (hq : cq E rm_Server_archive (pI Z))  (s0 : Int32) (h : mm_M) (hw : wq_Server_archive_25  (mm_ge (eG E)) s0 h Z) : V E 3 0 0 h 25 [] [.int (s0)] := by
  unfold wq_Server_archive_25 at hw
  exact V_iret hc hq ⟨_, rfl, hw⟩ (by decide) (by decide) d_Server_archive_25
set_option maxRecDepth 100000 in
set_option maxHeartbeats 4000000 in
theorem vb_Server_archive_0 {E : mm_E} {Z : Int32 → mm_M → Prop} (hc : cx E "EpochServer" c_Server_archive 3 (some (.int)) rm_Server_archive) (hq : cq E rm_Server_archive (pI Z))  (v0 : Nat) (v1 : Int32) (h : mm_M) (hw : wq_Server_archive_0  (mm_ge (eG E)) v0 v1 h Z) : V E 3 0 0 h 0 [(0, va_rf (some v0)), (1, .int (v1))] [] := by
  unfold wq_Server_archive_0 at hw
  refine V_aload_n hc 0 d_Server_archive_0 rfl rfl ?_
  obtain ⟨q1, hw⟩ := hw
  refine V_get (v := va_rf (mm_P h v0 6)) hc gf_Server_54 rfl q1 rfl d_Server_archive_1 ?_
  refine V_iload_n hc 1 d_Server_archive_4 rfl rfl ?_
  obtain ⟨a2, q3, hw⟩ := hw
  obtain ⟨q4, hw⟩ := hw
  refine V_callV (rm' := rm_Snapshots_tree) (As := [.int (v1)]) (rest := []) (n := 1) (cn := 10) hc q3 q4 (sat_Snapshots_tree (eG E) _ _ _ _ hw) rfl cv_Server_145 (gw_of (tw_3 (List.mem_of_getElem? (i := 42) rfl)) rfl) ss_Snapshots_tree rfl ⟨by decide, by decide⟩ (by decide) (by decide) rfl (by simp [cat_rf, cat_i, cat_l]) d_Server_archive_5 (fun r0 h5 hw => ?_)
  obtain ⟨r6, rfl, hw⟩ := hw
  refine V_wide (cs' := 0) (sl' := 0) (by decide) (by decide) ?_
  refine V_st (st' := [va_rf (r6)]) rfl ?_
  refine V_astore_n (i := 2) (lv' := [(2, va_rf (r6)), (0, va_rf (some v0)), (1, .int (v1))]) hc d_Server_archive_8 rfl (by decide) rfl ?_
  refine V_aload_n hc 0 d_Server_archive_9 rfl rfl ?_
  refine V_ifnonnull (tgt := 17) hc d_Server_archive_10 (by decide) (fun a7 hq1 => ?_) (fun hq1 => ?_)
  · replace hw := hw.1 a7 hq1
    refine V_aload_n hc 1 d_Server_archive_17 rfl rfl ?_
    obtain ⟨q8, hw⟩ := hw
    refine V_get (v := va_rf (mm_P h5 v0 7)) hc gf_Server_61 rfl q8 rfl d_Server_archive_18 ?_
    refine V_aload_n hc 0 d_Server_archive_21 rfl rfl ?_
    obtain ⟨a9, q10, hw⟩ := hw
    obtain ⟨q11, hw⟩ := hw
    refine V_callV (rm' := rm_Archiver_putAway) (As := [va_rf (r6)]) (rest := []) (n := 1) (cn := 2) hc q10 q11 (sat_Archiver_putAway (eG E) _ _ _ _ hw) rfl cv_Server_149 (gw_of (tw_4 (List.mem_of_getElem? (i := 60) rfl)) rfl) ss_Archiver_putAway rfl ⟨by decide, by decide⟩ (by decide) (by decide) rfl (by simp [cat_rf, cat_i, cat_l]) d_Server_archive_22 (fun r0 h12 hw => ?_)
    obtain ⟨r13, rfl, hw⟩ := hw
    refine V_wide (cs' := 0) (sl' := 0) (by decide) (by decide) ?_
    refine V_st (st' := [.int (r13)]) rfl ?_
    refine V_sub (lv' := []) [] rfl ?_
    exact vb_Server_archive_25 hc hq  _ _ hw
  · replace hw := hw.2 hq1
    refine V_iconst (v := (-1)) hc d_Server_archive_13 (by decide) ?_
    refine V_goto (tgt := 25) hc d_Server_archive_14 (by decide) ?_
    refine V_sub (lv' := []) [] rfl ?_
    exact vb_Server_archive_25 hc hq  _ _ hw
def wq_Server_archive (ge : Nat → Nat) (v0 : Nat) (v1 : Int32) (h : mm_M) (Z : Int32 → mm_M → Prop) : Prop := wq_Server_archive_0 ge v0 v1 h Z
theorem sat_Server_archive (G : mm_G) (v0 : Nat) (v1 : Int32) (h : mm_M) (Z : Int32 → mm_M → Prop) (hw : wq_Server_archive (mm_ge G) v0 v1 h Z) : mm_Met G y_Server_archive c_Server_archive 3 (some (.int)) rm_Server_archive [va_rf (some v0), .int (v1)] h (pI Z) := by
  refine mm_intro (own := "EpochServer") (by decide) rfl (by simp [lg_sl, cat_rf, cat_i, cat_l]) (fun E e1 hc hq hi => ?_)
  subst e1
  have e2 : lv_args 0 [va_rf (some v0), .int (v1)] = [(0, va_rf (some v0)), (1, .int (v1))] := by simp [lv_args, cat_rf, cat_i, cat_l]
  rw [e2]
  refine V_sub (lv' := [(0, va_rf (some v0)), (1, .int (v1))]) [0, 1] rfl ?_
  exact vb_Server_archive_0 hc hq v0 v1 h hw
/-! Server.score(II)I -/
abbrev rm_Server_score : Room := { frames := 7, cells := 0, slots := 0, locals := 169 }
def wq_Server_score_23  (ge : Nat → Nat)  (h : mm_M) (Z : Int32 → mm_M → Prop) : Prop :=
  Z ((-1)) h
def wq_Server_score_69  (ge : Nat → Nat) (v0 : Nat) (v1 : Int32) (v2 : Int32) (h : mm_M) (Z : Int32 → mm_M → Prop) : Prop :=
  mm_k h (v0) = kd_Server ∧ ∃ a2, mm_P h v0 6 = some a2 ∧ mm_k h (a2) = kd_Snapshots ∧ wq_Snapshots_scoreByte ge (a2) (v1) (v2) h (fun (r6 : Int32) (h5 : mm_M) => Z (r6) h5)
def wq_Server_score_0  (ge : Nat → Nat) (v0 : Nat) (v1 : Int32) (v2 : Int32) (h : mm_M) (Z : Int32 → mm_M → Prop) : Prop :=
  mm_k h (v0) = kd_Server ∧ ∃ a2, mm_P h v0 6 = some a2 ∧ mm_k h (a2) = kd_Snapshots ∧ wq_Snapshots_tree ge (a2) (v1) h (fun (r6 : Option Nat) (h5 : mm_M) => ((r6 = none → wq_Server_score_23  ge h5 Z) ∧ (∀ a7, r6 = some a7 → (((v2) < 0 → wq_Server_score_23  ge h5 Z) ∧ (¬ (v2) < 0 → (((v2 : Int32) < (20 : Int32) → mm_k h5 (v0) = kd_Server ∧ ∃ a9, mm_P h5 v0 6 = some a9 ∧ mm_k h5 (a9) = kd_Snapshots ∧ wq_Snapshots_isScored ge (a9) (v1) h5 (fun (r13 : Int32) (h12 : mm_M) => ((¬ (r13) = 0 → wq_Server_score_69  ge (v0) (v1) (v2) h12 Z) ∧ ((r13) = 0 → mm_k h12 (v0) = kd_Server ∧ ∃ a15, mm_P h12 v0 7 = some a15 ∧ mm_k h12 (a15) = kd_Archiver ∧ wq_Archiver_scoreOnly ge (a15) (r6) h12 (fun h18 : mm_M => mm_k h18 (v0) = kd_Server ∧ ∃ a21, mm_P h18 v0 6 = some a21 ∧ mm_k h18 (a21) = kd_Snapshots ∧ ∃ a24, mm_P h18 v0 7 = some a24 ∧ mm_k h18 (a24) = kd_Archiver ∧ wq_Archiver_copyRootScore ge (a24) (mm_P h18 a21 0) ((v1) * (5 : Int32)) h18 (fun h27 : mm_M => mm_k h27 (v0) = kd_Server ∧ ∃ a30, mm_P h27 v0 6 = some a30 ∧ mm_k h27 (a30) = kd_Snapshots ∧ wq_Snapshots_setScored ge (a30) (v1) h27 (fun h33 : mm_M => wq_Server_score_69  ge (v0) (v1) (v2) h33 Z))))))) ∧ (¬ (v2 : Int32) < (20 : Int32) → wq_Server_score_23  ge h5 Z)))))))
set_option maxRecDepth 100000 in
set_option maxHeartbeats 4000000 in
theorem vb_Server_score_23 {E : mm_E} {Z : Int32 → mm_M → Prop} (hc : cx E "EpochServer" c_Server_score 4 (some (.int)) rm_Server_score) (hq : cq E rm_Server_score (pI Z))   (h : mm_M) (hw : wq_Server_score_23  (mm_ge (eG E))  h Z) : V E 4 0 0 h 23 [] [] := by
  unfold wq_Server_score_23 at hw
  refine V_iconst (v := (-1)) hc d_Server_score_23 (by decide) ?_
  exact V_iret hc hq ⟨_, rfl, hw⟩ (by decide) (by decide) d_Server_score_24
set_option maxRecDepth 100000 in
set_option maxHeartbeats 4000000 in
theorem vb_Server_score_69 {E : mm_E} {Z : Int32 → mm_M → Prop} (hc : cx E "EpochServer" c_Server_score 4 (some (.int)) rm_Server_score) (hq : cq E rm_Server_score (pI Z))  (v0 : Nat) (v1 : Int32) (v2 : Int32) (h : mm_M) (hw : wq_Server_score_69  (mm_ge (eG E)) v0 v1 v2 h Z) : V E 4 0 0 h 69 [(0, va_rf (some v0)), (1, .int (v1)), (2, .int (v2))] [] := by
  unfold wq_Server_score_69 at hw
  refine V_aload_n hc 0 d_Server_score_69 rfl rfl ?_
  obtain ⟨q1, hw⟩ := hw
  refine V_get (v := va_rf (mm_P h v0 6)) hc gf_Server_54 rfl q1 rfl d_Server_score_70 ?_
  refine V_iload_n hc 1 d_Server_score_73 rfl rfl ?_
  refine V_iload_n hc 2 d_Server_score_74 rfl rfl ?_
  obtain ⟨a2, q3, hw⟩ := hw
  obtain ⟨q4, hw⟩ := hw
  refine V_callV (rm' := rm_Snapshots_scoreByte) (As := [.int (v1), .int (v2)]) (rest := []) (n := 2) (cn := 10) hc q3 q4 (sat_Snapshots_scoreByte (eG E) _ _ _ _ _ hw) rfl cv_Server_170 (gw_of (tw_4 (List.mem_of_getElem? (i := 152) rfl)) rfl) ss_Snapshots_scoreByte rfl ⟨by decide, by decide⟩ (by decide) (by decide) rfl (by simp [cat_rf, cat_i, cat_l]) d_Server_score_75 (fun r0 h5 hw => ?_)
  obtain ⟨r6, rfl, hw⟩ := hw
  refine V_wide (cs' := 0) (sl' := 0) (by decide) (by decide) ?_
  refine V_st (st' := [.int (r6)]) rfl ?_
  exact V_iret hc hq ⟨_, rfl, hw⟩ (by decide) (by decide) d_Server_score_78
set_option maxRecDepth 100000 in
set_option maxHeartbeats 4000000 in
theorem vb_Server_score_0 {E : mm_E} {Z : Int32 → mm_M → Prop} (hc : cx E "EpochServer" c_Server_score 4 (some (.int)) rm_Server_score) (hq : cq E rm_Server_score (pI Z))  (v0 : Nat) (v1 : Int32) (v2 : Int32) (h : mm_M) (hw : wq_Server_score_0  (mm_ge (eG E)) v0 v1 v2 h Z) : V E 4 0 0 h 0 [(0, va_rf (some v0)), (1, .int (v1)), (2, .int (v2))] [] := by
  unfold wq_Server_score_0 at hw
  refine V_aload_n hc 0 d_Server_score_0 rfl rfl ?_
  obtain ⟨q1, hw⟩ := hw
  refine V_get (v := va_rf (mm_P h v0 6)) hc gf_Server_54 rfl q1 rfl d_Server_score_1 ?_
  refine V_iload_n hc 1 d_Server_score_4 rfl rfl ?_
  obtain ⟨a2, q3, hw⟩ := hw
  obtain ⟨q4, hw⟩ := hw
  refine V_callV (rm' := rm_Snapshots_tree) (As := [.int (v1)]) (rest := []) (n := 1) (cn := 10) hc q3 q4 (sat_Snapshots_tree (eG E) _ _ _ _ hw) rfl cv_Server_145 (gw_of (tw_3 (List.mem_of_getElem? (i := 42) rfl)) rfl) ss_Snapshots_tree rfl ⟨by decide, by decide⟩ (by decide) (by decide) rfl (by simp [cat_rf, cat_i, cat_l]) d_Server_score_5 (fun r0 h5 hw => ?_)
  obtain ⟨r6, rfl, hw⟩ := hw
  refine V_wide (cs' := 0) (sl' := 0) (by decide) (by decide) ?_
  refine V_st (st' := [va_rf (r6)]) rfl ?_
  refine V_astore_n (i := 3) (lv' := [(3, va_rf (r6)), (0, va_rf (some v0)), (1, .int (v1)), (2, .int (v2))]) hc d_Server_score_8 rfl (by decide) rfl ?_
  refine V_aload_n hc 0 d_Server_score_9 rfl rfl ?_
  refine V_ifnull (tgt := 23) hc d_Server_score_10 (by decide) (fun hq1 => ?_) (fun a7 hq1 => ?_)
  · replace hw := hw.1 hq1
    refine V_sub (lv' := []) [] rfl ?_
    exact vb_Server_score_23 hc hq  _ hw
  · replace hw := hw.2 a7 hq1
    refine V_iload_n hc 3 d_Server_score_13 rfl rfl ?_
    refine V_if_lt (tgt := 23) hc d_Server_score_14 (by decide) (fun hq1 => ?_) (fun hq1 => ?_)
    · replace hw := hw.1 hq1
      refine V_sub (lv' := []) [] rfl ?_
      exact vb_Server_score_23 hc hq  _ hw
    · replace hw := hw.2 hq1
      refine V_iload_n hc 3 d_Server_score_17 rfl rfl ?_
      refine V_bipush (v := 20) hc d_Server_score_18 (by decide) ?_
      refine V_icmp_lt (tgt := 25) hc d_Server_score_20 (by decide) (fun hq1 => ?_) (fun hq1 => ?_)
      · replace hw := hw.1 hq1
        refine V_aload_n hc 1 d_Server_score_25 rfl rfl ?_
        obtain ⟨q8, hw⟩ := hw
        refine V_get (v := va_rf (mm_P h5 v0 6)) hc gf_Server_54 rfl q8 rfl d_Server_score_26 ?_
        refine V_iload_n hc 2 d_Server_score_29 rfl rfl ?_
        obtain ⟨a9, q10, hw⟩ := hw
        obtain ⟨q11, hw⟩ := hw
        refine V_callV (rm' := rm_Snapshots_isScored) (As := [.int (v1)]) (rest := []) (n := 1) (cn := 10) hc q10 q11 (sat_Snapshots_isScored (eG E) _ _ _ _ hw) rfl cv_Server_152 (gw_of (tw_4 (List.mem_of_getElem? (i := 136) rfl)) rfl) ss_Snapshots_isScored rfl ⟨by decide, by decide⟩ (by decide) (by decide) rfl (by simp [cat_rf, cat_i, cat_l]) d_Server_score_30 (fun r0 h12 hw => ?_)
        obtain ⟨r13, rfl, hw⟩ := hw
        refine V_wide (cs' := 0) (sl' := 0) (by decide) (by decide) ?_
        refine V_st (st' := [.int (r13)]) rfl ?_
        refine V_if_ne (tgt := 69) hc d_Server_score_33 (by decide) (fun hq1 => ?_) (fun hq1 => ?_)
        · replace hw := hw.1 hq1
          refine V_sub (lv' := [(0, va_rf (some v0)), (1, .int (v1)), (2, .int (v2))]) [1, 2, 3] rfl ?_
          exact vb_Server_score_69 hc hq  _ _ _ _ hw
        · replace hw := hw.2 hq1
          refine V_aload_n hc 1 d_Server_score_36 rfl rfl ?_
          obtain ⟨q14, hw⟩ := hw
          refine V_get (v := va_rf (mm_P h12 v0 7)) hc gf_Server_61 rfl q14 rfl d_Server_score_37 ?_
          refine V_aload_n hc 0 d_Server_score_40 rfl rfl ?_
          obtain ⟨a15, q16, hw⟩ := hw
          obtain ⟨q17, hw⟩ := hw
          refine V_callV (rm' := rm_Archiver_scoreOnly) (As := [va_rf (r6)]) (rest := []) (n := 1) (cn := 2) hc q16 q17 (sat_Archiver_scoreOnly (eG E) _ _ _ _ hw) rfl cv_Server_155 (gw_of (tw_4 (List.mem_of_getElem? (i := 140) rfl)) rfl) ss_Archiver_scoreOnly rfl ⟨by decide, by decide⟩ (by decide) (by decide) rfl (by simp [cat_rf, cat_i, cat_l]) d_Server_score_41 (fun r0 h18 hw => ?_)
          obtain ⟨rfl, hw⟩ := hw
          refine V_wide (cs' := 0) (sl' := 0) (by decide) (by decide) ?_
          refine V_st (st' := []) rfl ?_
          refine V_aload_n hc 1 d_Server_score_44 rfl rfl ?_
          obtain ⟨q20, hw⟩ := hw
          refine V_get (v := va_rf (mm_P h18 v0 7)) hc gf_Server_61 rfl q20 rfl d_Server_score_45 ?_
          refine V_aload_n hc 1 d_Server_score_48 rfl rfl ?_
          refine V_get (v := va_rf (mm_P h18 v0 6)) hc gf_Server_54 rfl q20 rfl d_Server_score_49 ?_
          obtain ⟨a21, q22, hw⟩ := hw
          obtain ⟨q23, hw⟩ := hw
          refine V_get (v := va_rf (mm_P h18 a21 0)) hc gf_Server_159 q22 q23 rfl d_Server_score_52 ?_
          refine V_iload_n hc 2 d_Server_score_55 rfl rfl ?_
          refine V_iconst (v := 5) hc d_Server_score_56 (by decide) ?_
          refine V_imul hc d_Server_score_57 ?_
          obtain ⟨a24, q25, hw⟩ := hw
          obtain ⟨q26, hw⟩ := hw
          refine V_callV (rm' := rm_Archiver_copyRootScore) (As := [va_rf (mm_P h18 a21 0), .int ((v1) * (5 : Int32))]) (rest := []) (n := 2) (cn := 2) hc q25 q26 (sat_Archiver_copyRootScore (eG E) _ _ _ _ _ hw) rfl cv_Server_163 (gw_of (tw_4 (List.mem_of_getElem? (i := 144) rfl)) rfl) ss_Archiver_copyRootScore rfl ⟨by decide, by decide⟩ (by decide) (by decide) rfl (by simp [cat_rf, cat_i, cat_l]) d_Server_score_58 (fun r0 h27 hw => ?_)
          obtain ⟨rfl, hw⟩ := hw
          refine V_wide (cs' := 0) (sl' := 0) (by decide) (by decide) ?_
          refine V_st (st' := []) rfl ?_
          refine V_aload_n hc 1 d_Server_score_61 rfl rfl ?_
          obtain ⟨q29, hw⟩ := hw
          refine V_get (v := va_rf (mm_P h27 v0 6)) hc gf_Server_54 rfl q29 rfl d_Server_score_62 ?_
          refine V_iload_n hc 2 d_Server_score_65 rfl rfl ?_
          obtain ⟨a30, q31, hw⟩ := hw
          obtain ⟨q32, hw⟩ := hw
          refine V_callV (rm' := rm_Snapshots_setScored) (As := [.int (v1)]) (rest := []) (n := 1) (cn := 10) hc q31 q32 (sat_Snapshots_setScored (eG E) _ _ _ _ hw) rfl cv_Server_167 (gw_of (tw_4 (List.mem_of_getElem? (i := 148) rfl)) rfl) ss_Snapshots_setScored rfl ⟨by decide, by decide⟩ (by decide) (by decide) rfl (by simp [cat_rf, cat_i, cat_l]) d_Server_score_66 (fun r0 h33 hw => ?_)
          obtain ⟨rfl, hw⟩ := hw
          refine V_wide (cs' := 0) (sl' := 0) (by decide) (by decide) ?_
          refine V_st (st' := []) rfl ?_
          refine V_sub (lv' := [(0, va_rf (some v0)), (1, .int (v1)), (2, .int (v2))]) [1, 2, 3] rfl ?_
          exact vb_Server_score_69 hc hq  _ _ _ _ hw
      · replace hw := hw.2 hq1
        refine V_sub (lv' := []) [] rfl ?_
        exact vb_Server_score_23 hc hq  _ hw
def wq_Server_score (ge : Nat → Nat) (v0 : Nat) (v1 : Int32) (v2 : Int32) (h : mm_M) (Z : Int32 → mm_M → Prop) : Prop := wq_Server_score_0 ge v0 v1 v2 h Z
theorem sat_Server_score (G : mm_G) (v0 : Nat) (v1 : Int32) (v2 : Int32) (h : mm_M) (Z : Int32 → mm_M → Prop) (hw : wq_Server_score (mm_ge G) v0 v1 v2 h Z) : mm_Met G y_Server_score c_Server_score 4 (some (.int)) rm_Server_score [va_rf (some v0), .int (v1), .int (v2)] h (pI Z) := by
  refine mm_intro (own := "EpochServer") (by decide) rfl (by simp [lg_sl, cat_rf, cat_i, cat_l]) (fun E e1 hc hq hi => ?_)
  subst e1
  have e2 : lv_args 0 [va_rf (some v0), .int (v1), .int (v2)] = [(0, va_rf (some v0)), (1, .int (v1)), (2, .int (v2))] := by simp [lv_args, cat_rf, cat_i, cat_l]
  rw [e2]
  refine V_sub (lv' := [(0, va_rf (some v0)), (1, .int (v1)), (2, .int (v2))]) [0, 1, 2] rfl ?_
  exact vb_Server_score_0 hc hq v0 v1 v2 h hw
/-! Server.crash(I)I -/
abbrev rm_Server_crash : Room := { frames := 1, cells := 0, slots := 0, locals := 22 }
def wq_Server_crash_15  (ge : Nat → Nat)  (h : mm_M) (Z : Int32 → mm_M → Prop) : Prop :=
  Z ((-1)) h
def wq_Server_crash_38  (ge : Nat → Nat) (v0 : Nat) (h : mm_M) (Z : Int32 → mm_M → Prop) : Prop :=
  mm_k h (v0) = kd_Server ∧ ∃ a2, mm_P h v0 5 = some a2 ∧ mm_k h (a2) = kd_Journal ∧ wq_Journal_clear ge (a2) h (fun h5 : mm_M => mm_k h5 (v0) = kd_Server ∧ ∃ a8, mm_P h5 v0 3 = some a8 ∧ mm_k h5 (a8) = kd_FidTable ∧ wq_FidTable_clear ge (a8) h5 (fun h11 : mm_M => mm_k h11 (v0) = kd_Server ∧ ge 0 ≤ v0 ∧ ∀ h15 : mm_M, h15 = mm_uI h11 (v0) 10 (0) → Z (1) h15))
def wq_Server_crash_0  (ge : Nat → Nat) (v0 : Nat) (v1 : Int32) (h : mm_M) (Z : Int32 → mm_M → Prop) : Prop :=
  (((v1) < 0 → wq_Server_crash_15  ge h Z) ∧ (¬ (v1) < 0 → mm_k h (v0) = kd_Server ∧ ∃ a2, mm_P h v0 5 = some a2 ∧ mm_k h (a2) = kd_Journal ∧ wq_Journal_size ge (a2) h (fun (r6 : Int32) (h5 : mm_M) => (((v1 : Int32) ≤ (r6 : Int32) → mm_k h5 (v0) = kd_Server ∧ ∃ a8, mm_P h5 v0 5 = some a8 ∧ mm_k h5 (a8) = kd_Journal ∧ wq_Journal_before ge (a8) (v1) h5 (fun (r12 : Option Nat) (h11 : mm_M) => ((r12 = none → wq_Server_crash_38  ge (v0) h11 Z) ∧ (∀ a13, r12 = some a13 → mm_k h11 (v0) = kd_Server ∧ ∃ a15, mm_P h11 v0 4 = some a15 ∧ mm_k h11 (a15) = kd_Tree ∧ wq_Tree_takeOver ge (a15) (r12) h11 (fun h18 : mm_M => wq_Server_crash_38  ge (v0) h18 Z))))) ∧ (¬ (v1 : Int32) ≤ (r6 : Int32) → wq_Server_crash_15  ge h5 Z)))))
set_option maxRecDepth 100000 in
set_option maxHeartbeats 4000000 in
theorem vb_Server_crash_15 {E : mm_E} {Z : Int32 → mm_M → Prop} (hc : cx E "EpochServer" c_Server_crash 3 (some (.int)) rm_Server_crash) (hq : cq E rm_Server_crash (pI Z))   (h : mm_M) (hw : wq_Server_crash_15  (mm_ge (eG E))  h Z) : V E 3 0 0 h 15 [] [] := by
  unfold wq_Server_crash_15 at hw
  refine V_iconst (v := (-1)) hc d_Server_crash_15 (by decide) ?_
  exact V_iret hc hq ⟨_, rfl, hw⟩ (by decide) (by decide) d_Server_crash_16
set_option maxRecDepth 100000 in
set_option maxHeartbeats 4000000 in
theorem vb_Server_crash_38 {E : mm_E} {Z : Int32 → mm_M → Prop} (hc : cx E "EpochServer" c_Server_crash 3 (some (.int)) rm_Server_crash) (hq : cq E rm_Server_crash (pI Z))  (v0 : Nat) (h : mm_M) (hw : wq_Server_crash_38  (mm_ge (eG E)) v0 h Z) : V E 3 0 0 h 38 [(0, va_rf (some v0))] [] := by
  unfold wq_Server_crash_38 at hw
  refine V_aload_n hc 0 d_Server_crash_38 rfl rfl ?_
  obtain ⟨q1, hw⟩ := hw
  refine V_get (v := va_rf (mm_P h v0 5)) hc gf_Server_47 rfl q1 rfl d_Server_crash_39 ?_
  obtain ⟨a2, q3, hw⟩ := hw
  obtain ⟨q4, hw⟩ := hw
  refine V_callV (rm' := rm_Journal_clear) (As := []) (rest := []) (n := 0) (cn := 6) hc q3 q4 (sat_Journal_clear (eG E) _ _ _ hw) rfl cv_Server_180 (gw_of (tw_4 (List.mem_of_getElem? (i := 22) rfl)) rfl) ss_Journal_clear rfl ⟨by decide, by decide⟩ (by decide) (by decide) rfl (by simp [cat_rf, cat_i, cat_l]) d_Server_crash_42 (fun r0 h5 hw => ?_)
  obtain ⟨rfl, hw⟩ := hw
  refine V_wide (cs' := 0) (sl' := 0) (by decide) (by decide) ?_
  refine V_st (st' := []) rfl ?_
  refine V_aload_n hc 0 d_Server_crash_45 rfl rfl ?_
  obtain ⟨q7, hw⟩ := hw
  refine V_get (v := va_rf (mm_P h5 v0 3)) hc gf_Server_33 rfl q7 rfl d_Server_crash_46 ?_
  obtain ⟨a8, q9, hw⟩ := hw
  obtain ⟨q10, hw⟩ := hw
  refine V_callV (rm' := rm_FidTable_clear) (As := []) (rest := []) (n := 0) (cn := 5) hc q9 q10 (sat_FidTable_clear (eG E) _ _ _ hw) rfl cv_Server_181 (gw_of (tw_2 (List.mem_of_getElem? (i := 236) rfl)) rfl) ss_FidTable_clear rfl ⟨by decide, by decide⟩ (by decide) (by decide) rfl (by simp [cat_rf, cat_i, cat_l]) d_Server_crash_49 (fun r0 h11 hw => ?_)
  obtain ⟨rfl, hw⟩ := hw
  refine V_wide (cs' := 0) (sl' := 0) (by decide) (by decide) ?_
  refine V_st (st' := []) rfl ?_
  refine V_aload_n hc 0 d_Server_crash_52 rfl rfl ?_
  refine V_iconst (v := 0) hc d_Server_crash_53 (by decide) ?_
  obtain ⟨q13, hw⟩ := hw
  obtain ⟨q14, hw⟩ := hw
  obtain ⟨h15, eq_h15⟩ : ∃ x, x = mm_uI h11 (v0) 10 (0) := ⟨_, rfl⟩
  replace hw := hw _ eq_h15
  refine V_put (h' := h15) hc gf_Server_72 rfl rfl q13 q14 (by rw [eq_h15]; exact mm_Up_I _ _ _ _) (by rw [eq_h15]; exact up_vI rfl) (vp_nar_int _) rfl d_Server_crash_54 ?_
  refine V_iconst (v := 1) hc d_Server_crash_57 (by decide) ?_
  exact V_iret hc hq ⟨_, rfl, hw⟩ (by decide) (by decide) d_Server_crash_58
set_option maxRecDepth 100000 in
set_option maxHeartbeats 4000000 in
theorem vb_Server_crash_0 {E : mm_E} {Z : Int32 → mm_M → Prop} (hc : cx E "EpochServer" c_Server_crash 3 (some (.int)) rm_Server_crash) (hq : cq E rm_Server_crash (pI Z))  (v0 : Nat) (v1 : Int32) (h : mm_M) (hw : wq_Server_crash_0  (mm_ge (eG E)) v0 v1 h Z) : V E 3 0 0 h 0 [(0, va_rf (some v0)), (1, .int (v1))] [] := by
  unfold wq_Server_crash_0 at hw
  refine V_iload_n hc 1 d_Server_crash_0 rfl rfl ?_
  refine V_if_lt (tgt := 15) hc d_Server_crash_1 (by decide) (fun hq1 => ?_) (fun hq1 => ?_)
  · replace hw := hw.1 hq1
    refine V_sub (lv' := []) [] rfl ?_
    exact vb_Server_crash_15 hc hq  _ hw
  · replace hw := hw.2 hq1
    refine V_iload_n hc 1 d_Server_crash_4 rfl rfl ?_
    refine V_aload_n hc 0 d_Server_crash_5 rfl rfl ?_
    obtain ⟨q1, hw⟩ := hw
    refine V_get (v := va_rf (mm_P h v0 5)) hc gf_Server_47 rfl q1 rfl d_Server_crash_6 ?_
    obtain ⟨a2, q3, hw⟩ := hw
    obtain ⟨q4, hw⟩ := hw
    refine V_callV (rm' := rm_Journal_size) (As := []) (rest := [.int (v1)]) (n := 0) (cn := 6) hc q3 q4 (sat_Journal_size (eG E) _ _ _ hw) rfl cv_Server_173 (gw_of (tw_4 (List.mem_of_getElem? (i := 160) rfl)) rfl) ss_Journal_size rfl ⟨by decide, by decide⟩ (by decide) (by decide) rfl (by simp [cat_rf, cat_i, cat_l]) d_Server_crash_9 (fun r0 h5 hw => ?_)
    obtain ⟨r6, rfl, hw⟩ := hw
    refine V_wide (cs' := 0) (sl' := 0) (by decide) (by decide) ?_
    refine V_st (st' := [.int (r6), .int (v1)]) rfl ?_
    refine V_icmp_le (tgt := 17) hc d_Server_crash_12 (by decide) (fun hq1 => ?_) (fun hq1 => ?_)
    · replace hw := hw.1 hq1
      refine V_aload_n hc 0 d_Server_crash_17 rfl rfl ?_
      obtain ⟨q7, hw⟩ := hw
      refine V_get (v := va_rf (mm_P h5 v0 5)) hc gf_Server_47 rfl q7 rfl d_Server_crash_18 ?_
      refine V_iload_n hc 1 d_Server_crash_21 rfl rfl ?_
      obtain ⟨a8, q9, hw⟩ := hw
      obtain ⟨q10, hw⟩ := hw
      refine V_callV (rm' := rm_Journal_before) (As := [.int (v1)]) (rest := []) (n := 1) (cn := 6) hc q9 q10 (sat_Journal_before (eG E) _ _ _ _ hw) rfl cv_Server_174 (gw_of (tw_4 (List.mem_of_getElem? (i := 164) rfl)) rfl) ss_Journal_before rfl ⟨by decide, by decide⟩ (by decide) (by decide) rfl (by simp [cat_rf, cat_i, cat_l]) d_Server_crash_22 (fun r0 h11 hw => ?_)
      obtain ⟨r12, rfl, hw⟩ := hw
      refine V_wide (cs' := 0) (sl' := 0) (by decide) (by decide) ?_
      refine V_st (st' := [va_rf (r12)]) rfl ?_
      refine V_astore_n (i := 2) (lv' := [(2, va_rf (r12)), (0, va_rf (some v0)), (1, .int (v1))]) hc d_Server_crash_25 rfl (by decide) rfl ?_
      refine V_aload_n hc 0 d_Server_crash_26 rfl rfl ?_
      refine V_ifnull (tgt := 38) hc d_Server_crash_27 (by decide) (fun hq1 => ?_) (fun a13 hq1 => ?_)
      · replace hw := hw.1 hq1
        refine V_sub (lv' := [(0, va_rf (some v0))]) [1] rfl ?_
        exact vb_Server_crash_38 hc hq  _ _ hw
      · replace hw := hw.2 a13 hq1
        refine V_aload_n hc 1 d_Server_crash_30 rfl rfl ?_
        obtain ⟨q14, hw⟩ := hw
        refine V_get (v := va_rf (mm_P h11 v0 4)) hc gf_Server_40 rfl q14 rfl d_Server_crash_31 ?_
        refine V_aload_n hc 0 d_Server_crash_34 rfl rfl ?_
        obtain ⟨a15, q16, hw⟩ := hw
        obtain ⟨q17, hw⟩ := hw
        refine V_callV (rm' := rm_Tree_takeOver) (As := [va_rf (r12)]) (rest := []) (n := 1) (cn := 12) hc q16 q17 (sat_Tree_takeOver (eG E) _ _ _ _ hw) rfl cv_Server_177 (gw_of (tw_3 (List.mem_of_getElem? (i := 101) rfl)) rfl) ss_Tree_takeOver rfl ⟨by decide, by decide⟩ (by decide) (by decide) rfl (by simp [cat_rf, cat_i, cat_l]) d_Server_crash_35 (fun r0 h18 hw => ?_)
        obtain ⟨rfl, hw⟩ := hw
        refine V_wide (cs' := 0) (sl' := 0) (by decide) (by decide) ?_
        refine V_st (st' := []) rfl ?_
        refine V_sub (lv' := [(0, va_rf (some v0))]) [1] rfl ?_
        exact vb_Server_crash_38 hc hq  _ _ hw
    · replace hw := hw.2 hq1
      refine V_sub (lv' := []) [] rfl ?_
      exact vb_Server_crash_15 hc hq  _ hw
def wq_Server_crash (ge : Nat → Nat) (v0 : Nat) (v1 : Int32) (h : mm_M) (Z : Int32 → mm_M → Prop) : Prop := wq_Server_crash_0 ge v0 v1 h Z
theorem sat_Server_crash (G : mm_G) (v0 : Nat) (v1 : Int32) (h : mm_M) (Z : Int32 → mm_M → Prop) (hw : wq_Server_crash (mm_ge G) v0 v1 h Z) : mm_Met G y_Server_crash c_Server_crash 3 (some (.int)) rm_Server_crash [va_rf (some v0), .int (v1)] h (pI Z) := by
  refine mm_intro (own := "EpochServer") (by decide) rfl (by simp [lg_sl, cat_rf, cat_i, cat_l]) (fun E e1 hc hq hi => ?_)
  subst e1
  have e2 : lv_args 0 [va_rf (some v0), .int (v1)] = [(0, va_rf (some v0)), (1, .int (v1))] := by simp [lv_args, cat_rf, cat_i, cat_l]
  rw [e2]
  refine V_sub (lv' := [(0, va_rf (some v0)), (1, .int (v1))]) [0, 1] rfl ?_
  exact vb_Server_crash_0 hc hq v0 v1 h hw
