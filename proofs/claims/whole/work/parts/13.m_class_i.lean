/-! Server.treeOf(I)LEpochServer$Tree; -/
abbrev rm_Server_treeOf : Room := { frames := 1, cells := 0, slots := 0, locals := 21 }
def wq_Server_treeOf_20  (ge : Nat → Nat) (s0 : Option Nat) (h : mm_M) (Z : Option Nat → mm_M → Prop) : Prop :=
  Z (s0) h
def wq_Server_treeOf_0  (ge : Nat → Nat) (v0 : Nat) (v1 : Int32) (h : mm_M) (Z : Option Nat → mm_M → Prop) : Prop :=
  ((¬ (v1 : Int32) = ((-1) : Int32) → mm_k h (v0) = kd_Server ∧ ∃ a2, mm_P h v0 6 = some a2 ∧ mm_k h (a2) = kd_Snapshots ∧ wq_Snapshots_tree ge (a2) (v1) h (fun (r6 : Option Nat) (h5 : mm_M) => wq_Server_treeOf_20  ge (r6) h5 Z)) ∧ ((v1 : Int32) = ((-1) : Int32) → mm_k h (v0) = kd_Server ∧ wq_Server_treeOf_20  ge (mm_P h v0 4) h Z))
set_option maxRecDepth 100000 in
set_option maxHeartbeats 4000000 in
theorem vb_Server_treeOf_20 {E : mm_E} {Z : Option Nat → mm_M → Prop} (hc : cx E "EpochServer" c_Server_treeOf 2 (some ((.object "EpochServer$Tree"))) rm_Server_treeOf) (hq : cq E rm_Server_treeOf (pP Z))  (s0 : Option Nat) (h : mm_M) (hw : wq_Server_treeOf_20  (mm_ge (eG E)) s0 h Z) : V E 2 0 0 h 20 [] [va_rf (s0)] := by
  unfold wq_Server_treeOf_20 at hw
  exact V_aret hc hq (by first | exact Or.inl ⟨_, rfl⟩ | exact Or.inr ⟨_, rfl⟩) ⟨_, rfl, hw⟩ (by decide) (by decide) d_Server_treeOf_20
set_option maxRecDepth 100000 in
set_option maxHeartbeats 4000000 in
theorem vb_Server_treeOf_0 {E : mm_E} {Z : Option Nat → mm_M → Prop} (hc : cx E "EpochServer" c_Server_treeOf 2 (some ((.object "EpochServer$Tree"))) rm_Server_treeOf) (hq : cq E rm_Server_treeOf (pP Z))  (v0 : Nat) (v1 : Int32) (h : mm_M) (hw : wq_Server_treeOf_0  (mm_ge (eG E)) v0 v1 h Z) : V E 2 0 0 h 0 [(0, va_rf (some v0)), (1, .int (v1))] [] := by
  unfold wq_Server_treeOf_0 at hw
  refine V_iload_n hc 1 d_Server_treeOf_0 rfl rfl ?_
  refine V_iconst (v := (-1)) hc d_Server_treeOf_1 (by decide) ?_
  refine V_icmp_ne (tgt := 12) hc d_Server_treeOf_2 (by decide) (fun hq1 => ?_) (fun hq1 => ?_)
  · replace hw := hw.1 hq1
    refine V_aload_n hc 0 d_Server_treeOf_12 rfl rfl ?_
    obtain ⟨q1, hw⟩ := hw
    refine V_get (v := va_rf (mm_P h v0 6)) hc gf_Server_54 rfl q1 rfl d_Server_treeOf_13 ?_
    refine V_iload_n hc 1 d_Server_treeOf_16 rfl rfl ?_
    obtain ⟨a2, q3, hw⟩ := hw
    obtain ⟨q4, hw⟩ := hw
    refine V_callV (rm' := rm_Snapshots_tree) (As := [.int (v1)]) (rest := []) (n := 1) (cn := 10) hc q3 q4 (sat_Snapshots_tree (eG E) _ _ _ _ hw) rfl cv_Server_145 (gw_of (tw_3 (List.mem_of_getElem? (i := 42) rfl)) rfl) ss_Snapshots_tree rfl ⟨by decide, by decide⟩ (by decide) (by decide) rfl (by simp [cat_rf, cat_i, cat_l]) d_Server_treeOf_17 (fun r0 h5 hw => ?_)
    obtain ⟨r6, rfl, hw⟩ := hw
    refine V_wide (cs' := 0) (sl' := 0) (by decide) (by decide) ?_
    refine V_st (st' := [va_rf (r6)]) rfl ?_
    refine V_sub (lv' := []) [] rfl ?_
    exact vb_Server_treeOf_20 hc hq  _ _ hw
  · replace hw := hw.2 hq1
    refine V_aload_n hc 0 d_Server_treeOf_5 rfl rfl ?_
    obtain ⟨q7, hw⟩ := hw
    refine V_get (v := va_rf (mm_P h v0 4)) hc gf_Server_40 rfl q7 rfl d_Server_treeOf_6 ?_
    refine V_goto (tgt := 20) hc d_Server_treeOf_9 (by decide) ?_
    refine V_sub (lv' := []) [] rfl ?_
    exact vb_Server_treeOf_20 hc hq  _ _ hw
def wq_Server_treeOf (ge : Nat → Nat) (v0 : Nat) (v1 : Int32) (h : mm_M) (Z : Option Nat → mm_M → Prop) : Prop := wq_Server_treeOf_0 ge v0 v1 h Z
theorem sat_Server_treeOf (G : mm_G) (v0 : Nat) (v1 : Int32) (h : mm_M) (Z : Option Nat → mm_M → Prop) (hw : wq_Server_treeOf (mm_ge G) v0 v1 h Z) : mm_Met G y_Server_treeOf c_Server_treeOf 2 (some ((.object "EpochServer$Tree"))) rm_Server_treeOf [va_rf (some v0), .int (v1)] h (pP Z) := by
  refine mm_intro (own := "EpochServer") (by decide) rfl (by simp [lg_sl, cat_rf, cat_i, cat_l]) (fun E e1 hc hq hi => ?_)
  subst e1
  have e2 : lv_args 0 [va_rf (some v0), .int (v1)] = [(0, va_rf (some v0)), (1, .int (v1))] := by simp [lv_args, cat_rf, cat_i, cat_l]
  rw [e2]
  refine V_sub (lv' := [(0, va_rf (some v0)), (1, .int (v1))]) [0, 1] rfl ?_
  exact vb_Server_treeOf_0 hc hq v0 v1 h hw
/-! Server.attach()I -/
abbrev rm_Server_attach : Room := { frames := 3, cells := 0, slots := 0, locals := 64 }
def wq_Server_attach_59  (ge : Nat → Nat) (v0 : Nat) (v1 : Int32) (s0 : Option Nat) (h : mm_M) (Z : Int32 → mm_M → Prop) : Prop :=
  ((∀ a1, s0 = some a1 → mm_k h (v0) = kd_Server ∧ ∃ a3, mm_P h v0 2 = some a3 ∧ mm_k h (a3) = kd_Request ∧ ∃ a6, mm_P h v0 3 = some a6 ∧ mm_k h (a6) = kd_FidTable ∧ wq_FidTable_make ge (a6) (mm_I h a3 7) (v1) (0) h (fun (r10 : Int32) (h9 : mm_M) => ((¬ (r10) = 0 → mm_k h9 (v0) = kd_Server ∧ ∃ a12, mm_P h9 v0 1 = some a12 ∧ mm_k h9 (a12) = kd_Bytes ∧ wq_Bytes_putQid ge (a12) (s0) h9 (fun h15 : mm_M => Z (0) h15)) ∧ ((r10) = 0 → Z (7) h9)))) ∧ (s0 = none → Z (6) h))
def wq_Server_attach_0  (ge : Nat → Nat) (v0 : Nat) (h : mm_M) (Z : Int32 → mm_M → Prop) : Prop :=
  mm_k h (v0) = kd_Server ∧ ∃ a2, mm_P h v0 2 = some a2 ∧ mm_k h (a2) = kd_Request ∧ (((mm_I h a2 8 : Int32) = ((-1) : Int32) → ∃ a5, mm_P h v0 3 = some a5 ∧ mm_k h (a5) = kd_FidTable ∧ wq_FidTable_find ge (a5) (mm_I h a2 7) h (fun (r9 : Option Nat) (h8 : mm_M) => ((r9 = none → mm_k h8 (v0) = kd_Server ∧ ∃ a12, mm_P h8 v0 2 = some a12 ∧ mm_k h8 (a12) = kd_Request ∧ wq_Request_treeAsked ge (a12) h8 (fun (r16 : Int32) (h15 : mm_M) => mm_k h15 (v0) = kd_Server ∧ wq_Server_treeOf ge (v0) (r16) h15 (fun (r19 : Option Nat) (h18 : mm_M) => ((∀ a20, r19 = some a20 → ∃ a21, r19 = some a21 ∧ mm_k h18 (a21) = kd_Tree ∧ wq_Tree_at ge (a21) (0) h18 (fun (r25 : Option Nat) (h24 : mm_M) => wq_Server_attach_59  ge (v0) (r16) (r25) h24 Z)) ∧ (r19 = none → wq_Server_attach_59  ge (v0) (r16) (none) h18 Z))))) ∧ (∀ a10, r9 = some a10 → Z (5) h8)))) ∧ (¬ (mm_I h a2 8 : Int32) = ((-1) : Int32) → Z (3) h))
set_option maxRecDepth 100000 in
set_option maxHeartbeats 4000000 in
theorem vb_Server_attach_59 {E : mm_E} {Z : Int32 → mm_M → Prop} (hc : cx E "EpochServer" c_Server_attach 4 (some (.int)) rm_Server_attach) (hq : cq E rm_Server_attach (pI Z))  (v0 : Nat) (v1 : Int32) (s0 : Option Nat) (h : mm_M) (hw : wq_Server_attach_59  (mm_ge (eG E)) v0 v1 s0 h Z) : V E 4 0 0 h 59 [(0, va_rf (some v0)), (1, .int (v1))] [va_rf (s0)] := by
  unfold wq_Server_attach_59 at hw
  refine V_astore_n (i := 3) (lv' := [(3, va_rf (s0)), (0, va_rf (some v0)), (1, .int (v1))]) hc d_Server_attach_59 rfl (by decide) rfl ?_
  refine V_aload_n hc 0 d_Server_attach_60 rfl rfl ?_
  refine V_ifnonnull (tgt := 67) hc d_Server_attach_61 (by decide) (fun a1 hq1 => ?_) (fun hq1 => ?_)
  · replace hw := hw.1 a1 hq1
    refine V_aload_n hc 1 d_Server_attach_67 rfl rfl ?_
    obtain ⟨q2, hw⟩ := hw
    refine V_get (v := va_rf (mm_P h v0 3)) hc gf_Server_33 rfl q2 rfl d_Server_attach_68 ?_
    refine V_aload_n hc 1 d_Server_attach_71 rfl rfl ?_
    refine V_get (v := va_rf (mm_P h v0 2)) hc gf_Server_26 rfl q2 rfl d_Server_attach_72 ?_
    obtain ⟨a3, q4, hw⟩ := hw
    obtain ⟨q5, hw⟩ := hw
    refine V_get (v := .int (mm_I h a3 7)) hc gf_Server_256 q4 q5 rfl d_Server_attach_75 ?_
    refine V_iload_n hc 2 d_Server_attach_78 rfl rfl ?_
    refine V_iconst (v := 0) hc d_Server_attach_79 (by decide) ?_
    obtain ⟨a6, q7, hw⟩ := hw
    obtain ⟨q8, hw⟩ := hw
    refine V_callV (rm' := rm_FidTable_make) (As := [.int (mm_I h a3 7), .int (v1), .int (0)]) (rest := []) (n := 3) (cn := 5) hc q7 q8 (sat_FidTable_make (eG E) _ _ _ _ _ _ hw) rfl cv_Server_326 (gw_of (tw_3 (List.mem_of_getElem? (i := 50) rfl)) rfl) ss_FidTable_make rfl ⟨by decide, by decide⟩ (by decide) (by decide) rfl (by simp [cat_rf, cat_i, cat_l]) d_Server_attach_80 (fun r0 h9 hw => ?_)
    obtain ⟨r10, rfl, hw⟩ := hw
    refine V_wide (cs' := 0) (sl' := 0) (by decide) (by decide) ?_
    refine V_st (st' := [.int (r10)]) rfl ?_
    refine V_if_ne (tgt := 89) hc d_Server_attach_83 (by decide) (fun hq1 => ?_) (fun hq1 => ?_)
    · replace hw := hw.1 hq1
      refine V_aload_n hc 1 d_Server_attach_89 rfl rfl ?_
      obtain ⟨q11, hw⟩ := hw
      refine V_get (v := va_rf (mm_P h9 v0 1)) hc gf_Server_18 rfl q11 rfl d_Server_attach_90 ?_
      refine V_aload_n hc 0 d_Server_attach_93 rfl rfl ?_
      obtain ⟨a12, q13, hw⟩ := hw
      obtain ⟨q14, hw⟩ := hw
      refine V_callV (rm' := rm_Bytes_putQid) (As := [va_rf (s0)]) (rest := []) (n := 1) (cn := 3) hc q13 q14 (sat_Bytes_putQid (eG E) _ _ _ _ hw) rfl cv_Server_330 (gw_of (tw_3 (List.mem_of_getElem? (i := 58) rfl)) rfl) ss_Bytes_putQid rfl ⟨by decide, by decide⟩ (by decide) (by decide) rfl (by simp [cat_rf, cat_i, cat_l]) d_Server_attach_94 (fun r0 h15 hw => ?_)
      obtain ⟨rfl, hw⟩ := hw
      refine V_wide (cs' := 0) (sl' := 0) (by decide) (by decide) ?_
      refine V_st (st' := []) rfl ?_
      refine V_iconst (v := 0) hc d_Server_attach_97 (by decide) ?_
      exact V_iret hc hq ⟨_, rfl, hw⟩ (by decide) (by decide) d_Server_attach_98
    · replace hw := hw.2 hq1
      refine V_bipush (v := 7) hc d_Server_attach_86 (by decide) ?_
      exact V_iret hc hq ⟨_, rfl, hw⟩ (by decide) (by decide) d_Server_attach_88
  · replace hw := hw.2 hq1
    refine V_bipush (v := 6) hc d_Server_attach_64 (by decide) ?_
    exact V_iret hc hq ⟨_, rfl, hw⟩ (by decide) (by decide) d_Server_attach_66
set_option maxRecDepth 100000 in
set_option maxHeartbeats 4000000 in
theorem vb_Server_attach_0 {E : mm_E} {Z : Int32 → mm_M → Prop} (hc : cx E "EpochServer" c_Server_attach 4 (some (.int)) rm_Server_attach) (hq : cq E rm_Server_attach (pI Z))  (v0 : Nat) (h : mm_M) (hw : wq_Server_attach_0  (mm_ge (eG E)) v0 h Z) : V E 4 0 0 h 0 [(0, va_rf (some v0))] [] := by
  unfold wq_Server_attach_0 at hw
  refine V_aload_n hc 0 d_Server_attach_0 rfl rfl ?_
  obtain ⟨q1, hw⟩ := hw
  refine V_get (v := va_rf (mm_P h v0 2)) hc gf_Server_26 rfl q1 rfl d_Server_attach_1 ?_
  obtain ⟨a2, q3, hw⟩ := hw
  obtain ⟨q4, hw⟩ := hw
  refine V_get (v := .int (mm_I h a2 8)) hc gf_Server_296 q3 q4 rfl d_Server_attach_4 ?_
  refine V_iconst (v := (-1)) hc d_Server_attach_7 (by decide) ?_
  refine V_icmp_eq (tgt := 13) hc d_Server_attach_8 (by decide) (fun hq1 => ?_) (fun hq1 => ?_)
  · replace hw := hw.1 hq1
    refine V_aload_n hc 0 d_Server_attach_13 rfl rfl ?_
    refine V_get (v := va_rf (mm_P h v0 3)) hc gf_Server_33 rfl q1 rfl d_Server_attach_14 ?_
    refine V_aload_n hc 0 d_Server_attach_17 rfl rfl ?_
    refine V_get (v := va_rf (mm_P h v0 2)) hc gf_Server_26 rfl q1 rfl d_Server_attach_18 ?_
    refine V_get (v := .int (mm_I h a2 7)) hc gf_Server_256 q3 q4 rfl d_Server_attach_21 ?_
    obtain ⟨a5, q6, hw⟩ := hw
    obtain ⟨q7, hw⟩ := hw
    refine V_callV (rm' := rm_FidTable_find) (As := [.int (mm_I h a2 7)]) (rest := []) (n := 1) (cn := 5) hc q6 q7 (sat_FidTable_find (eG E) _ _ _ _ hw) rfl cv_Server_213 (gw_of (tw_3 (List.mem_of_getElem? (i := 26) rfl)) rfl) ss_FidTable_find rfl ⟨by decide, by decide⟩ (by decide) (by decide) rfl (by simp [cat_rf, cat_i, cat_l]) d_Server_attach_24 (fun r0 h8 hw => ?_)
    obtain ⟨r9, rfl, hw⟩ := hw
    refine V_wide (cs' := 0) (sl' := 0) (by decide) (by decide) ?_
    refine V_st (st' := [va_rf (r9)]) rfl ?_
    refine V_ifnull (tgt := 32) hc d_Server_attach_27 (by decide) (fun hq1 => ?_) (fun a10 hq1 => ?_)
    · replace hw := hw.1 hq1
      refine V_aload_n hc 0 d_Server_attach_32 rfl rfl ?_
      obtain ⟨q11, hw⟩ := hw
      refine V_get (v := va_rf (mm_P h8 v0 2)) hc gf_Server_26 rfl q11 rfl d_Server_attach_33 ?_
      obtain ⟨a12, q13, hw⟩ := hw
      obtain ⟨q14, hw⟩ := hw
      refine V_callV (rm' := rm_Request_treeAsked) (As := []) (rest := []) (n := 0) (cn := 8) hc q13 q14 (sat_Request_treeAsked (eG E) _ _ _ hw) rfl cv_Server_323 (gw_of (tw_3 (List.mem_of_getElem? (i := 30) rfl)) rfl) ss_Request_treeAsked rfl ⟨by decide, by decide⟩ (by decide) (by decide) rfl (by simp [cat_rf, cat_i, cat_l]) d_Server_attach_36 (fun r0 h15 hw => ?_)
      obtain ⟨r16, rfl, hw⟩ := hw
      refine V_wide (cs' := 0) (sl' := 0) (by decide) (by decide) ?_
      refine V_st (st' := [.int (r16)]) rfl ?_
      refine V_istore_n (i := 1) (lv' := [(1, .int (r16)), (0, va_rf (some v0))]) hc d_Server_attach_39 rfl (by decide) rfl ?_
      refine V_aload_n hc 1 d_Server_attach_40 rfl rfl ?_
      refine V_iload_n hc 0 d_Server_attach_41 rfl rfl ?_
      obtain ⟨q17, hw⟩ := hw
      refine V_callV (rm' := rm_Server_treeOf) (As := [.int (r16)]) (rest := []) (n := 1) (cn := 1) hc rfl q17 (sat_Server_treeOf (eG E) _ _ _ _ hw) rfl cv_Server_182 (gw_of (tw_3 (List.mem_of_getElem? (i := 39) rfl)) rfl) ss_Server_treeOf rfl ⟨by decide, by decide⟩ (by decide) (by decide) rfl (by simp [cat_rf, cat_i, cat_l]) d_Server_attach_42 (fun r0 h18 hw => ?_)
      obtain ⟨r19, rfl, hw⟩ := hw
      refine V_wide (cs' := 0) (sl' := 0) (by decide) (by decide) ?_
      refine V_st (st' := [va_rf (r19)]) rfl ?_
      refine V_astore_n (i := 2) (lv' := [(2, va_rf (r19)), (1, .int (r16)), (0, va_rf (some v0))]) hc d_Server_attach_45 rfl (by decide) rfl ?_
      refine V_aload_n hc 0 d_Server_attach_46 rfl rfl ?_
      refine V_ifnonnull (tgt := 54) hc d_Server_attach_47 (by decide) (fun a20 hq1 => ?_) (fun hq1 => ?_)
      · replace hw := hw.1 a20 hq1
        refine V_aload_n hc 0 d_Server_attach_54 rfl rfl ?_
        refine V_iconst (v := 0) hc d_Server_attach_55 (by decide) ?_
        obtain ⟨a21, q22, hw⟩ := hw
        obtain ⟨q23, hw⟩ := hw
        refine V_callV (rm' := rm_Tree_at) (As := [.int (0)]) (rest := []) (n := 1) (cn := 12) hc q22 q23 (sat_Tree_at (eG E) _ _ _ _ hw) rfl cv_Server_185 (gw_of (tw_3 (List.mem_of_getElem? (i := 46) rfl)) rfl) ss_Tree_at rfl ⟨by decide, by decide⟩ (by decide) (by decide) rfl (by simp [cat_rf, cat_i, cat_l]) d_Server_attach_56 (fun r0 h24 hw => ?_)
        obtain ⟨r25, rfl, hw⟩ := hw
        refine V_wide (cs' := 0) (sl' := 0) (by decide) (by decide) ?_
        refine V_st (st' := [va_rf (r25)]) rfl ?_
        refine V_sub (lv' := [(0, va_rf (some v0)), (1, .int (r16))]) [2, 1] rfl ?_
        exact vb_Server_attach_59 hc hq  _ _ _ _ hw
      · replace hw := hw.2 hq1
        refine V_null hc d_Server_attach_50 ?_
        refine V_goto (tgt := 59) hc d_Server_attach_51 (by decide) ?_
        refine V_sub (lv' := [(0, va_rf (some v0)), (1, .int (r16))]) [2, 1] rfl ?_
        exact vb_Server_attach_59 hc hq  _ _ _ _ hw
    · replace hw := hw.2 a10 hq1
      refine V_iconst (v := 5) hc d_Server_attach_30 (by decide) ?_
      exact V_iret hc hq ⟨_, rfl, hw⟩ (by decide) (by decide) d_Server_attach_31
  · replace hw := hw.2 hq1
    refine V_iconst (v := 3) hc d_Server_attach_11 (by decide) ?_
    exact V_iret hc hq ⟨_, rfl, hw⟩ (by decide) (by decide) d_Server_attach_12
def wq_Server_attach (ge : Nat → Nat) (v0 : Nat) (h : mm_M) (Z : Int32 → mm_M → Prop) : Prop := wq_Server_attach_0 ge v0 h Z
theorem sat_Server_attach (G : mm_G) (v0 : Nat) (h : mm_M) (Z : Int32 → mm_M → Prop) (hw : wq_Server_attach (mm_ge G) v0 h Z) : mm_Met G y_Server_attach c_Server_attach 4 (some (.int)) rm_Server_attach [va_rf (some v0)] h (pI Z) := by
  refine mm_intro (own := "EpochServer") (by decide) rfl (by simp [lg_sl, cat_rf, cat_i, cat_l]) (fun E e1 hc hq hi => ?_)
  subst e1
  have e2 : lv_args 0 [va_rf (some v0)] = [(0, va_rf (some v0))] := by simp [lv_args, cat_rf, cat_i, cat_l]
  rw [e2]
  refine V_sub (lv' := [(0, va_rf (some v0))]) [0] rfl ?_
  exact vb_Server_attach_0 hc hq v0 h hw
/-! Server.nodeOf(LEpochServer$Fid;)LEpochServer$Node; -/
abbrev rm_Server_nodeOf : Room := { frames := 2, cells := 0, slots := 0, locals := 42 }
def wq_Server_nodeOf_25  (ge : Nat → Nat) (s0 : Option Nat) (h : mm_M) (Z : Option Nat → mm_M → Prop) : Prop :=
  Z (s0) h
def wq_Server_nodeOf_0  (ge : Nat → Nat) (v0 : Nat) (v1 : Option Nat) (h : mm_M) (Z : Option Nat → mm_M → Prop) : Prop :=
  ∃ a1, v1 = some a1 ∧ mm_k h (a1) = kd_Fid ∧ mm_k h (v0) = kd_Server ∧ wq_Server_treeOf ge (v0) (mm_I h a1 2) h (fun (r6 : Option Nat) (h5 : mm_M) => ((∀ a7, r6 = some a7 → ∃ a8, v1 = some a8 ∧ mm_k h5 (a8) = kd_Fid ∧ ∃ a11, r6 = some a11 ∧ mm_k h5 (a11) = kd_Tree ∧ wq_Tree_at ge (a11) (mm_I h5 a8 3) h5 (fun (r15 : Option Nat) (h14 : mm_M) => wq_Server_nodeOf_25  ge (r15) h14 Z)) ∧ (r6 = none → wq_Server_nodeOf_25  ge (none) h5 Z)))
set_option maxRecDepth 100000 in
set_option maxHeartbeats 4000000 in
theorem vb_Server_nodeOf_25 {E : mm_E} {Z : Option Nat → mm_M → Prop} (hc : cx E "EpochServer" c_Server_nodeOf 3 (some ((.object "EpochServer$Node"))) rm_Server_nodeOf) (hq : cq E rm_Server_nodeOf (pP Z))  (s0 : Option Nat) (h : mm_M) (hw : wq_Server_nodeOf_25  (mm_ge (eG E)) s0 h Z) : V E 3 0 0 h 25 [] [va_rf (s0)] := by
  unfold wq_Server_nodeOf_25 at hw
  exact V_aret hc hq (by first | exact Or.inl ⟨_, rfl⟩ | exact Or.inr ⟨_, rfl⟩) ⟨_, rfl, hw⟩ (by decide) (by decide) d_Server_nodeOf_25
set_option maxRecDepth 100000 in
set_option maxHeartbeats 4000000 in
theorem vb_Server_nodeOf_0 {E : mm_E} {Z : Option Nat → mm_M → Prop} (hc : cx E "EpochServer" c_Server_nodeOf 3 (some ((.object "EpochServer$Node"))) rm_Server_nodeOf) (hq : cq E rm_Server_nodeOf (pP Z))  (v0 : Nat) (v1 : Option Nat) (h : mm_M) (hw : wq_Server_nodeOf_0  (mm_ge (eG E)) v0 v1 h Z) : V E 3 0 0 h 0 [(0, va_rf (some v0)), (1, va_rf (v1))] [] := by
  unfold wq_Server_nodeOf_0 at hw
  refine V_aload_n hc 0 d_Server_nodeOf_0 rfl rfl ?_
  refine V_aload_n hc 1 d_Server_nodeOf_1 rfl rfl ?_
  obtain ⟨a1, q2, hw⟩ := hw
  obtain ⟨q3, hw⟩ := hw
  refine V_get (v := .int (mm_I h a1 2)) hc gf_Server_217 q2 q3 rfl d_Server_nodeOf_2 ?_
  obtain ⟨q4, hw⟩ := hw
  refine V_callV (rm' := rm_Server_treeOf) (As := [.int (mm_I h a1 2)]) (rest := []) (n := 1) (cn := 1) hc rfl q4 (sat_Server_treeOf (eG E) _ _ _ _ hw) rfl cv_Server_182 (gw_of (tw_3 (List.mem_of_getElem? (i := 39) rfl)) rfl) ss_Server_treeOf rfl ⟨by decide, by decide⟩ (by decide) (by decide) rfl (by simp [cat_rf, cat_i, cat_l]) d_Server_nodeOf_5 (fun r0 h5 hw => ?_)
  obtain ⟨r6, rfl, hw⟩ := hw
  refine V_wide (cs' := 0) (sl' := 0) (by decide) (by decide) ?_
  refine V_st (st' := [va_rf (r6)]) rfl ?_
  refine V_astore_n (i := 2) (lv' := [(2, va_rf (r6)), (0, va_rf (some v0)), (1, va_rf (v1))]) hc d_Server_nodeOf_8 rfl (by decide) (by simp [cat_rf, cat_i, cat_l]) ?_
  refine V_aload_n hc 0 d_Server_nodeOf_9 rfl rfl ?_
  refine V_ifnonnull (tgt := 17) hc d_Server_nodeOf_10 (by decide) (fun a7 hq1 => ?_) (fun hq1 => ?_)
  · replace hw := hw.1 a7 hq1
    refine V_aload_n hc 0 d_Server_nodeOf_17 rfl rfl ?_
    refine V_aload_n hc 2 d_Server_nodeOf_18 rfl rfl ?_
    obtain ⟨a8, q9, hw⟩ := hw
    obtain ⟨q10, hw⟩ := hw
    refine V_get (v := .int (mm_I h5 a8 3)) hc gf_Server_221 q9 q10 rfl d_Server_nodeOf_19 ?_
    obtain ⟨a11, q12, hw⟩ := hw
    obtain ⟨q13, hw⟩ := hw
    refine V_callV (rm' := rm_Tree_at) (As := [.int (mm_I h5 a8 3)]) (rest := []) (n := 1) (cn := 12) hc q12 q13 (sat_Tree_at (eG E) _ _ _ _ hw) rfl cv_Server_185 (gw_of (tw_3 (List.mem_of_getElem? (i := 46) rfl)) rfl) ss_Tree_at rfl ⟨by decide, by decide⟩ (by decide) (by decide) rfl (by simp [cat_rf, cat_i, cat_l]) d_Server_nodeOf_22 (fun r0 h14 hw => ?_)
    obtain ⟨r15, rfl, hw⟩ := hw
    refine V_wide (cs' := 0) (sl' := 0) (by decide) (by decide) ?_
    refine V_st (st' := [va_rf (r15)]) rfl ?_
    refine V_sub (lv' := []) [] rfl ?_
    exact vb_Server_nodeOf_25 hc hq  _ _ hw
  · replace hw := hw.2 hq1
    refine V_null hc d_Server_nodeOf_13 ?_
    refine V_goto (tgt := 25) hc d_Server_nodeOf_14 (by decide) ?_
    refine V_sub (lv' := []) [] rfl ?_
    exact vb_Server_nodeOf_25 hc hq  _ _ hw
def wq_Server_nodeOf (ge : Nat → Nat) (v0 : Nat) (v1 : Option Nat) (h : mm_M) (Z : Option Nat → mm_M → Prop) : Prop := wq_Server_nodeOf_0 ge v0 v1 h Z
theorem sat_Server_nodeOf (G : mm_G) (v0 : Nat) (v1 : Option Nat) (h : mm_M) (Z : Option Nat → mm_M → Prop) (hw : wq_Server_nodeOf (mm_ge G) v0 v1 h Z) : mm_Met G y_Server_nodeOf c_Server_nodeOf 3 (some ((.object "EpochServer$Node"))) rm_Server_nodeOf [va_rf (some v0), va_rf (v1)] h (pP Z) := by
  refine mm_intro (own := "EpochServer") (by decide) rfl (by simp [lg_sl, cat_rf, cat_i, cat_l]) (fun E e1 hc hq hi => ?_)
  subst e1
  have e2 : lv_args 0 [va_rf (some v0), va_rf (v1)] = [(0, va_rf (some v0)), (1, va_rf (v1))] := by simp [lv_args, cat_rf, cat_i, cat_l]
  rw [e2]
  refine V_sub (lv' := [(0, va_rf (some v0)), (1, va_rf (v1))]) [0, 1] rfl ?_
  exact vb_Server_nodeOf_0 hc hq v0 v1 h hw
/-! Server.whyNotRemoved(ILEpochServer$Node;)I -/
abbrev rm_Server_whyNotRemoved : Room := { frames := 3, cells := 0, slots := 0, locals := 67 }
def wq_Server_whyNotRemoved_18  (ge : Nat → Nat)  (h : mm_M) (Z : Int32 → mm_M → Prop) : Prop :=
  Z (3) h
def wq_Server_whyNotRemoved_46  (ge : Nat → Nat) (s0 : Int32) (h : mm_M) (Z : Int32 → mm_M → Prop) : Prop :=
  Z (s0) h
def wq_Server_whyNotRemoved_45  (ge : Nat → Nat)  (h : mm_M) (Z : Int32 → mm_M → Prop) : Prop :=
  wq_Server_whyNotRemoved_46  ge (0) h Z
def wq_Server_whyNotRemoved_0  (ge : Nat → Nat) (v0 : Nat) (v1 : Int32) (v2 : Option Nat) (h : mm_M) (Z : Int32 → mm_M → Prop) : Prop :=
  ((∀ a1, v2 = some a1 → ∃ a2, v2 = some a2 ∧ mm_k h (a2) = kd_Node ∧ (((mm_I h a2 0) = 0 → wq_Server_whyNotRemoved_18  ge h Z) ∧ (¬ (mm_I h a2 0) = 0 → (((v1 : Int32) = ((-1) : Int32) → wq_Node_isDirectory ge (a2) h (fun (r6 : Int32) (h5 : mm_M) => (((r6) = 0 → wq_Server_whyNotRemoved_45  ge h5 Z) ∧ (¬ (r6) = 0 → mm_k h5 (v0) = kd_Server ∧ ∃ a8, v2 = some a8 ∧ mm_k h5 (a8) = kd_Node ∧ ∃ a11, mm_P h5 v0 4 = some a11 ∧ mm_k h5 (a11) = kd_Tree ∧ wq_Tree_sizeOf ge (a11) (mm_I h5 a8 0) h5 (fun (r15 : Int32) (h14 : mm_M) => (((r15) ≤ 0 → wq_Server_whyNotRemoved_45  ge h14 Z) ∧ (¬ (r15) ≤ 0 → wq_Server_whyNotRemoved_46  ge (5) h14 Z))))))) ∧ (¬ (v1 : Int32) = ((-1) : Int32) → wq_Server_whyNotRemoved_18  ge h Z))))) ∧ (v2 = none → Z (4) h))
set_option maxRecDepth 100000 in
set_option maxHeartbeats 4000000 in
theorem vb_Server_whyNotRemoved_18 {E : mm_E} {Z : Int32 → mm_M → Prop} (hc : cx E "EpochServer" c_Server_whyNotRemoved 3 (some (.int)) rm_Server_whyNotRemoved) (hq : cq E rm_Server_whyNotRemoved (pI Z))   (h : mm_M) (hw : wq_Server_whyNotRemoved_18  (mm_ge (eG E))  h Z) : V E 3 0 0 h 18 [] [] := by
  unfold wq_Server_whyNotRemoved_18 at hw
  refine V_iconst (v := 3) hc d_Server_whyNotRemoved_18 (by decide) ?_
  exact V_iret hc hq ⟨_, rfl, hw⟩ (by decide) (by decide) d_Server_whyNotRemoved_19
set_option maxRecDepth 100000 in
set_option maxHeartbeats 4000000 in
theorem vb_Server_whyNotRemoved_46 {E : mm_E} {Z : Int32 → mm_M → Prop} (hc : cx E "EpochServer" c_Server_whyNotRemoved 3 (some (.int)) rm_Server_whyNotRemoved) (hq : cq E rm_Server_whyNotRemoved (pI Z))  (s0 : Int32) (h : mm_M) (hw : wq_Server_whyNotRemoved_46  (mm_ge (eG E)) s0 h Z) : V E 3 0 0 h 46 [] [.int (s0)] := by
  unfold wq_Server_whyNotRemoved_46 at hw
  exact V_iret hc hq ⟨_, rfl, hw⟩ (by decide) (by decide) d_Server_whyNotRemoved_46
set_option maxRecDepth 100000 in
set_option maxHeartbeats 4000000 in
theorem vb_Server_whyNotRemoved_45 {E : mm_E} {Z : Int32 → mm_M → Prop} (hc : cx E "EpochServer" c_Server_whyNotRemoved 3 (some (.int)) rm_Server_whyNotRemoved) (hq : cq E rm_Server_whyNotRemoved (pI Z))   (h : mm_M) (hw : wq_Server_whyNotRemoved_45  (mm_ge (eG E))  h Z) : V E 3 0 0 h 45 [] [] := by
  unfold wq_Server_whyNotRemoved_45 at hw
  refine V_iconst (v := 0) hc d_Server_whyNotRemoved_45 (by decide) ?_
  refine V_sub (lv' := []) [] rfl ?_
  exact vb_Server_whyNotRemoved_46 hc hq  _ _ hw
set_option maxRecDepth 100000 in
set_option maxHeartbeats 4000000 in
theorem vb_Server_whyNotRemoved_0 {E : mm_E} {Z : Int32 → mm_M → Prop} (hc : cx E "EpochServer" c_Server_whyNotRemoved 3 (some (.int)) rm_Server_whyNotRemoved) (hq : cq E rm_Server_whyNotRemoved (pI Z))  (v0 : Nat) (v1 : Int32) (v2 : Option Nat) (h : mm_M) (hw : wq_Server_whyNotRemoved_0  (mm_ge (eG E)) v0 v1 v2 h Z) : V E 3 0 0 h 0 [(0, va_rf (some v0)), (1, .int (v1)), (2, va_rf (v2))] [] := by
  unfold wq_Server_whyNotRemoved_0 at hw
  refine V_aload_n hc 2 d_Server_whyNotRemoved_0 rfl rfl ?_
  refine V_ifnonnull (tgt := 6) hc d_Server_whyNotRemoved_1 (by decide) (fun a1 hq1 => ?_) (fun hq1 => ?_)
  · replace hw := hw.1 a1 hq1
    refine V_aload_n hc 2 d_Server_whyNotRemoved_6 rfl rfl ?_
    obtain ⟨a2, q3, hw⟩ := hw
    obtain ⟨q4, hw⟩ := hw
    refine V_get (v := .int (mm_I h a2 0)) hc gf_Server_346 q3 q4 rfl d_Server_whyNotRemoved_7 ?_
    refine V_if_eq (tgt := 18) hc d_Server_whyNotRemoved_10 (by decide) (fun hq1 => ?_) (fun hq1 => ?_)
    · replace hw := hw.1 hq1
      refine V_sub (lv' := []) [] rfl ?_
      exact vb_Server_whyNotRemoved_18 hc hq  _ hw
    · replace hw := hw.2 hq1
      refine V_iload_n hc 1 d_Server_whyNotRemoved_13 rfl rfl ?_
      refine V_iconst (v := (-1)) hc d_Server_whyNotRemoved_14 (by decide) ?_
      refine V_icmp_eq (tgt := 20) hc d_Server_whyNotRemoved_15 (by decide) (fun hq1 => ?_) (fun hq1 => ?_)
      · replace hw := hw.1 hq1
        refine V_aload_n hc 2 d_Server_whyNotRemoved_20 rfl rfl ?_
        refine V_callV (rm' := rm_Node_isDirectory) (As := []) (rest := []) (n := 0) (cn := 7) hc q3 q4 (sat_Node_isDirectory (eG E) _ _ _ hw) rfl cv_Server_200 (gw_of (tw_3 (List.mem_of_getElem? (i := 62) rfl)) rfl) ss_Node_isDirectory rfl ⟨by decide, by decide⟩ (by decide) (by decide) rfl (by simp [cat_rf, cat_i, cat_l]) d_Server_whyNotRemoved_21 (fun r0 h5 hw => ?_)
        obtain ⟨r6, rfl, hw⟩ := hw
        refine V_wide (cs' := 0) (sl' := 0) (by decide) (by decide) ?_
        refine V_st (st' := [.int (r6)]) rfl ?_
        refine V_if_eq (tgt := 45) hc d_Server_whyNotRemoved_24 (by decide) (fun hq1 => ?_) (fun hq1 => ?_)
        · replace hw := hw.1 hq1
          refine V_sub (lv' := []) [] rfl ?_
          exact vb_Server_whyNotRemoved_45 hc hq  _ hw
        · replace hw := hw.2 hq1
          refine V_aload_n hc 0 d_Server_whyNotRemoved_27 rfl rfl ?_
          obtain ⟨q7, hw⟩ := hw
          refine V_get (v := va_rf (mm_P h5 v0 4)) hc gf_Server_40 rfl q7 rfl d_Server_whyNotRemoved_28 ?_
          refine V_aload_n hc 2 d_Server_whyNotRemoved_31 rfl rfl ?_
          obtain ⟨a8, q9, hw⟩ := hw
          obtain ⟨q10, hw⟩ := hw
          refine V_get (v := .int (mm_I h5 a8 0)) hc gf_Server_346 q9 q10 rfl d_Server_whyNotRemoved_32 ?_
          obtain ⟨a11, q12, hw⟩ := hw
          obtain ⟨q13, hw⟩ := hw
          refine V_callV (rm' := rm_Tree_sizeOf) (As := [.int (mm_I h5 a8 0)]) (rest := []) (n := 1) (cn := 12) hc q12 q13 (sat_Tree_sizeOf (eG E) _ _ _ _ hw) rfl cv_Server_204 (gw_of (tw_3 (List.mem_of_getElem? (i := 84) rfl)) rfl) ss_Tree_sizeOf rfl ⟨by decide, by decide⟩ (by decide) (by decide) rfl (by simp [cat_rf, cat_i, cat_l]) d_Server_whyNotRemoved_35 (fun r0 h14 hw => ?_)
          obtain ⟨r15, rfl, hw⟩ := hw
          refine V_wide (cs' := 0) (sl' := 0) (by decide) (by decide) ?_
          refine V_st (st' := [.int (r15)]) rfl ?_
          refine V_if_le (tgt := 45) hc d_Server_whyNotRemoved_38 (by decide) (fun hq1 => ?_) (fun hq1 => ?_)
          · replace hw := hw.1 hq1
            refine V_sub (lv' := []) [] rfl ?_
            exact vb_Server_whyNotRemoved_45 hc hq  _ hw
          · replace hw := hw.2 hq1
            refine V_iconst (v := 5) hc d_Server_whyNotRemoved_41 (by decide) ?_
            refine V_goto (tgt := 46) hc d_Server_whyNotRemoved_42 (by decide) ?_
            refine V_sub (lv' := []) [] rfl ?_
            exact vb_Server_whyNotRemoved_46 hc hq  _ _ hw
      · replace hw := hw.2 hq1
        refine V_sub (lv' := []) [] rfl ?_
        exact vb_Server_whyNotRemoved_18 hc hq  _ hw
  · replace hw := hw.2 hq1
    refine V_iconst (v := 4) hc d_Server_whyNotRemoved_4 (by decide) ?_
    exact V_iret hc hq ⟨_, rfl, hw⟩ (by decide) (by decide) d_Server_whyNotRemoved_5
def wq_Server_whyNotRemoved (ge : Nat → Nat) (v0 : Nat) (v1 : Int32) (v2 : Option Nat) (h : mm_M) (Z : Int32 → mm_M → Prop) : Prop := wq_Server_whyNotRemoved_0 ge v0 v1 v2 h Z
theorem sat_Server_whyNotRemoved (G : mm_G) (v0 : Nat) (v1 : Int32) (v2 : Option Nat) (h : mm_M) (Z : Int32 → mm_M → Prop) (hw : wq_Server_whyNotRemoved (mm_ge G) v0 v1 v2 h Z) : mm_Met G y_Server_whyNotRemoved c_Server_whyNotRemoved 3 (some (.int)) rm_Server_whyNotRemoved [va_rf (some v0), .int (v1), va_rf (v2)] h (pI Z) := by
  refine mm_intro (own := "EpochServer") (by decide) rfl (by simp [lg_sl, cat_rf, cat_i, cat_l]) (fun E e1 hc hq hi => ?_)
  subst e1
  have e2 : lv_args 0 [va_rf (some v0), .int (v1), va_rf (v2)] = [(0, va_rf (some v0)), (1, .int (v1)), (2, va_rf (v2))] := by simp [lv_args, cat_rf, cat_i, cat_l]
  rw [e2]
  refine V_sub (lv' := [(0, va_rf (some v0)), (1, .int (v1)), (2, va_rf (v2))]) [0, 1, 2] rfl ?_
  exact vb_Server_whyNotRemoved_0 hc hq v0 v1 v2 h hw
/-! Server.drop(LEpochServer$Node;)V -/
abbrev rm_Server_drop : Room := { frames := 3, cells := 1, slots := 7, locals := 73 }
def wq_Server_drop_57  (ge : Nat → Nat)  (h : mm_M) (Z : mm_M → Prop) : Prop :=
  Z h
def wq_Server_drop_0  (ge : Nat → Nat) (v0 : Nat) (v1 : Option Nat) (h : mm_M) (Z : mm_M → Prop) : Prop :=
  mm_k h (v0) = kd_Server ∧ ∃ a2, mm_P h v0 5 = some a2 ∧ mm_k h (a2) = kd_Journal ∧ wq_Journal_keep ge (a2) (mm_P h v0 4) h (fun h5 : mm_M => mm_k h5 (v0) = kd_Server ∧ ∃ a8, v1 = some a8 ∧ mm_k h5 (a8) = kd_Node ∧ ∃ a11, mm_P h5 v0 4 = some a11 ∧ mm_k h5 (a11) = kd_Tree ∧ wq_Tree_drop ge (a11) (mm_I h5 a8 0) h5 (fun h14 : mm_M => mm_k h14 (v0) = kd_Server ∧ ∃ a17, v1 = some a17 ∧ mm_k h14 (a17) = kd_Node ∧ ∃ a20, mm_P h14 v0 4 = some a20 ∧ mm_k h14 (a20) = kd_Tree ∧ wq_Tree_at ge (a20) (mm_I h14 a17 1) h14 (fun (r24 : Option Nat) (h23 : mm_M) => ((r24 = none → wq_Server_drop_57  ge h23 Z) ∧ (∀ a25, r24 = some a25 → mm_k h23 (v0) = kd_Server ∧ ∃ a27, r24 = some a27 ∧ mm_k h23 (a27) = kd_Node ∧ wq_Node_withData ge (a27) (mm_P h23 a27 6) (mm_I h23 v0 9) h23 (fun (r31 : Option Nat) (h30 : mm_M) => ∃ a32, mm_P h23 v0 4 = some a32 ∧ mm_k h30 (a32) = kd_Tree ∧ wq_Tree_put ge (a32) (r31) h30 (fun h35 : mm_M => wq_Server_drop_57  ge h35 Z)))))))
set_option maxRecDepth 100000 in
set_option maxHeartbeats 4000000 in
theorem vb_Server_drop_57 {E : mm_E} {Z : mm_M → Prop} (hc : cx E "EpochServer" c_Server_drop 3 none rm_Server_drop) (hq : cq E rm_Server_drop (pV Z))   (h : mm_M) (hw : wq_Server_drop_57  (mm_ge (eG E))  h Z) : V E 3 1 7 h 57 [] [] := by
  unfold wq_Server_drop_57 at hw
  exact V_vret hc hq ⟨rfl, hw⟩ (by decide) (by decide) d_Server_drop_57
set_option maxRecDepth 100000 in
set_option maxHeartbeats 4000000 in
theorem vb_Server_drop_0 {E : mm_E} {Z : mm_M → Prop} (hc : cx E "EpochServer" c_Server_drop 3 none rm_Server_drop) (hq : cq E rm_Server_drop (pV Z))  (v0 : Nat) (v1 : Option Nat) (h : mm_M) (hw : wq_Server_drop_0  (mm_ge (eG E)) v0 v1 h Z) : V E 3 0 0 h 0 [(0, va_rf (some v0)), (1, va_rf (v1))] [] := by
  unfold wq_Server_drop_0 at hw
  refine V_aload_n hc 0 d_Server_drop_0 rfl rfl ?_
  obtain ⟨q1, hw⟩ := hw
  refine V_get (v := va_rf (mm_P h v0 5)) hc gf_Server_47 rfl q1 rfl d_Server_drop_1 ?_
  refine V_aload_n hc 0 d_Server_drop_4 rfl rfl ?_
  refine V_get (v := va_rf (mm_P h v0 4)) hc gf_Server_40 rfl q1 rfl d_Server_drop_5 ?_
  obtain ⟨a2, q3, hw⟩ := hw
  obtain ⟨q4, hw⟩ := hw
  refine V_callV (rm' := rm_Journal_keep) (As := [va_rf (mm_P h v0 4)]) (rest := []) (n := 1) (cn := 6) hc q3 q4 (sat_Journal_keep (eG E) _ _ _ _ hw) rfl cv_Server_373 (gw_of (tw_3 (List.mem_of_getElem? (i := 97) rfl)) rfl) ss_Journal_keep rfl ⟨by decide, by decide⟩ (by decide) (by decide) rfl (by simp [cat_rf, cat_i, cat_l]) d_Server_drop_8 (fun r0 h5 hw => ?_)
  obtain ⟨rfl, hw⟩ := hw
  refine V_wide (cs' := 0) (sl' := 0) (by decide) (by decide) ?_
  refine V_st (st' := []) rfl ?_
  refine V_aload_n hc 0 d_Server_drop_11 rfl rfl ?_
  obtain ⟨q7, hw⟩ := hw
  refine V_get (v := va_rf (mm_P h5 v0 4)) hc gf_Server_40 rfl q7 rfl d_Server_drop_12 ?_
  refine V_aload_n hc 1 d_Server_drop_15 rfl rfl ?_
  obtain ⟨a8, q9, hw⟩ := hw
  obtain ⟨q10, hw⟩ := hw
  refine V_get (v := .int (mm_I h5 a8 0)) hc gf_Server_346 q9 q10 rfl d_Server_drop_16 ?_
  obtain ⟨a11, q12, hw⟩ := hw
  obtain ⟨q13, hw⟩ := hw
  refine V_callV (rm' := rm_Tree_drop) (As := [.int (mm_I h5 a8 0)]) (rest := []) (n := 1) (cn := 12) hc q12 q13 (sat_Tree_drop (eG E) _ _ _ _ hw) rfl cv_Server_448 (gw_of (tw_3 (List.mem_of_getElem? (i := 108) rfl)) rfl) ss_Tree_drop rfl ⟨by decide, by decide⟩ (by decide) (by decide) rfl (by simp [cat_rf, cat_i, cat_l]) d_Server_drop_19 (fun r0 h14 hw => ?_)
  obtain ⟨rfl, hw⟩ := hw
  refine V_wide (cs' := 0) (sl' := 0) (by decide) (by decide) ?_
  refine V_st (st' := []) rfl ?_
  refine V_aload_n hc 0 d_Server_drop_22 rfl rfl ?_
  obtain ⟨q16, hw⟩ := hw
  refine V_get (v := va_rf (mm_P h14 v0 4)) hc gf_Server_40 rfl q16 rfl d_Server_drop_23 ?_
  refine V_aload_n hc 1 d_Server_drop_26 rfl rfl ?_
  obtain ⟨a17, q18, hw⟩ := hw
  obtain ⟨q19, hw⟩ := hw
  refine V_get (v := .int (mm_I h14 a17 1)) hc gf_Server_188 q18 q19 rfl d_Server_drop_27 ?_
  obtain ⟨a20, q21, hw⟩ := hw
  obtain ⟨q22, hw⟩ := hw
  refine V_callV (rm' := rm_Tree_at) (As := [.int (mm_I h14 a17 1)]) (rest := []) (n := 1) (cn := 12) hc q21 q22 (sat_Tree_at (eG E) _ _ _ _ hw) rfl cv_Server_185 (gw_of (tw_3 (List.mem_of_getElem? (i := 46) rfl)) rfl) ss_Tree_at rfl ⟨by decide, by decide⟩ (by decide) (by decide) rfl (by simp [cat_rf, cat_i, cat_l]) d_Server_drop_30 (fun r0 h23 hw => ?_)
  obtain ⟨r24, rfl, hw⟩ := hw
  refine V_wide (cs' := 0) (sl' := 0) (by decide) (by decide) ?_
  refine V_st (st' := [va_rf (r24)]) rfl ?_
  refine V_astore_n (i := 2) (lv' := [(2, va_rf (r24)), (0, va_rf (some v0)), (1, va_rf (v1))]) hc d_Server_drop_33 rfl (by decide) (by simp [cat_rf, cat_i, cat_l]) ?_
  refine V_aload_n hc 0 d_Server_drop_34 rfl rfl ?_
  refine V_ifnull (tgt := 57) hc d_Server_drop_35 (by decide) (fun hq1 => ?_) (fun a25 hq1 => ?_)
  · replace hw := hw.1 hq1
    refine V_sub (lv' := []) [] rfl ?_
    refine V_wide (cs' := 1) (sl' := 7) (by omega) (by omega) ?_
    exact vb_Server_drop_57 hc hq  _ hw
  · replace hw := hw.2 a25 hq1
    refine V_aload_n hc 1 d_Server_drop_38 rfl rfl ?_
    obtain ⟨q26, hw⟩ := hw
    refine V_get (v := va_rf (mm_P h23 v0 4)) hc gf_Server_40 rfl q26 rfl d_Server_drop_39 ?_
    refine V_aload_n hc 0 d_Server_drop_42 rfl rfl ?_
    refine V_aload_n hc 0 d_Server_drop_43 rfl rfl ?_
    obtain ⟨a27, q28, hw⟩ := hw
    obtain ⟨q29, hw⟩ := hw
    refine V_get (v := va_rf (mm_P h23 a27 6)) hc gf_Server_207 q28 q29 rfl d_Server_drop_44 ?_
    refine V_aload_n hc 1 d_Server_drop_47 rfl rfl ?_
    refine V_get (v := .int (mm_I h23 v0 9)) hc gf_Server_69 rfl q26 rfl d_Server_drop_48 ?_
    refine V_callV (rm' := rm_Node_withData) (As := [va_rf (mm_P h23 a27 6), .int (mm_I h23 v0 9)]) (rest := [va_rf (mm_P h23 v0 4)]) (n := 2) (cn := 7) hc q28 q29 (sat_Node_withData (eG E) _ _ _ _ _ hw) rfl cv_Server_369 (gw_of (tw_3 (List.mem_of_getElem? (i := 112) rfl)) rfl) ss_Node_withData rfl ⟨by decide, by decide⟩ (by decide) (by decide) rfl (by simp [cat_rf, cat_i, cat_l]) d_Server_drop_51 (fun r0 h30 hw => ?_)
    obtain ⟨r31, rfl, hw⟩ := hw
    refine V_wide (cs' := 1) (sl' := 7) (by decide) (by decide) ?_
    refine V_st (st' := [va_rf (r31), va_rf (mm_P h23 v0 4)]) rfl ?_
    obtain ⟨a32, q33, hw⟩ := hw
    obtain ⟨q34, hw⟩ := hw
    refine V_callV (rm' := rm_Tree_put) (As := [va_rf (r31)]) (rest := []) (n := 1) (cn := 12) hc q33 q34 (sat_Tree_put (eG E) _ _ _ _ hw) rfl cv_Server_94 (gw_of (tw_2 (List.mem_of_getElem? (i := 102) rfl)) rfl) ss_Tree_put rfl ⟨by decide, by decide⟩ (by decide) (by decide) rfl (by simp [cat_rf, cat_i, cat_l]) d_Server_drop_54 (fun r0 h35 hw => ?_)
    obtain ⟨rfl, hw⟩ := hw
    refine V_wide (cs' := 1) (sl' := 7) (by decide) (by decide) ?_
    refine V_st (st' := []) rfl ?_
    refine V_sub (lv' := []) [] rfl ?_
    exact vb_Server_drop_57 hc hq  _ hw
def wq_Server_drop (ge : Nat → Nat) (v0 : Nat) (v1 : Option Nat) (h : mm_M) (Z : mm_M → Prop) : Prop := wq_Server_drop_0 ge v0 v1 h Z
theorem sat_Server_drop (G : mm_G) (v0 : Nat) (v1 : Option Nat) (h : mm_M) (Z : mm_M → Prop) (hw : wq_Server_drop (mm_ge G) v0 v1 h Z) : mm_Met G y_Server_drop c_Server_drop 3 none rm_Server_drop [va_rf (some v0), va_rf (v1)] h (pV Z) := by
  refine mm_intro (own := "EpochServer") (by decide) rfl (by simp [lg_sl, cat_rf, cat_i, cat_l]) (fun E e1 hc hq hi => ?_)
  subst e1
  have e2 : lv_args 0 [va_rf (some v0), va_rf (v1)] = [(0, va_rf (some v0)), (1, va_rf (v1))] := by simp [lv_args, cat_rf, cat_i, cat_l]
  rw [e2]
  refine V_sub (lv' := [(0, va_rf (some v0)), (1, va_rf (v1))]) [0, 1] rfl ?_
  exact vb_Server_drop_0 hc hq v0 v1 h hw
/-! Server.clunk(LEpochServer$Fid;LEpochServer$Node;)I -/
abbrev rm_Server_clunk : Room := { frames := 4, cells := 1, slots := 7, locals := 95 }
def wq_Server_clunk_49  (ge : Nat → Nat)  (h : mm_M) (Z : Int32 → mm_M → Prop) : Prop :=
  Z (0) h
def wq_Server_clunk_22  (ge : Nat → Nat) (v0 : Nat) (v1 : Option Nat) (v2 : Option Nat) (s0 : Int32) (h : mm_M) (Z : Int32 → mm_M → Prop) : Prop :=
  ∃ a1, v1 = some a1 ∧ mm_k h (a1) = kd_Fid ∧ ge 0 ≤ a1 ∧ ∀ h5 : mm_M, h5 = mm_uI h (a1) 0 (0) → (((s0) = 0 → wq_Server_clunk_49  ge h5 Z) ∧ (¬ (s0) = 0 → ∃ a6, v1 = some a6 ∧ mm_k h5 (a6) = kd_Fid ∧ mm_k h5 (v0) = kd_Server ∧ wq_Server_whyNotRemoved ge (v0) (mm_I h5 a6 2) (v2) h5 (fun (r11 : Int32) (h10 : mm_M) => ((¬ (r11) = 0 → wq_Server_clunk_49  ge h10 Z) ∧ ((r11) = 0 → mm_k h10 (v0) = kd_Server ∧ wq_Server_drop ge (v0) (v2) h10 (fun h13 : mm_M => wq_Server_clunk_49  ge h13 Z))))))
def wq_Server_clunk_21  (ge : Nat → Nat) (v0 : Nat) (v1 : Option Nat) (v2 : Option Nat) (h : mm_M) (Z : Int32 → mm_M → Prop) : Prop :=
  wq_Server_clunk_22  ge (v0) (v1) (v2) (0) h Z
def wq_Server_clunk_0  (ge : Nat → Nat) (v0 : Nat) (v1 : Option Nat) (v2 : Option Nat) (h : mm_M) (Z : Int32 → mm_M → Prop) : Prop :=
  ∃ a1, v1 = some a1 ∧ mm_k h (a1) = kd_Fid ∧ (((mm_I h a1 4) = 0 → wq_Server_clunk_21  ge (v0) (v1) (v2) h Z) ∧ (¬ (mm_I h a1 4) = 0 → ((((mm_I h a1 5) &&& (64 : Int32)) = 0 → wq_Server_clunk_21  ge (v0) (v1) (v2) h Z) ∧ (¬ ((mm_I h a1 5) &&& (64 : Int32)) = 0 → wq_Server_clunk_22  ge (v0) (v1) (v2) (1) h Z))))
set_option maxRecDepth 100000 in
set_option maxHeartbeats 4000000 in
theorem vb_Server_clunk_49 {E : mm_E} {Z : Int32 → mm_M → Prop} (hc : cx E "EpochServer" c_Server_clunk 4 (some (.int)) rm_Server_clunk) (hq : cq E rm_Server_clunk (pI Z))   (h : mm_M) (hw : wq_Server_clunk_49  (mm_ge (eG E))  h Z) : V E 4 1 7 h 49 [] [] := by
  unfold wq_Server_clunk_49 at hw
  refine V_iconst (v := 0) hc d_Server_clunk_49 (by decide) ?_
  exact V_iret hc hq ⟨_, rfl, hw⟩ (by decide) (by decide) d_Server_clunk_50
set_option maxRecDepth 100000 in
set_option maxHeartbeats 4000000 in
theorem vb_Server_clunk_22 {E : mm_E} {Z : Int32 → mm_M → Prop} (hc : cx E "EpochServer" c_Server_clunk 4 (some (.int)) rm_Server_clunk) (hq : cq E rm_Server_clunk (pI Z))  (v0 : Nat) (v1 : Option Nat) (v2 : Option Nat) (s0 : Int32) (h : mm_M) (hw : wq_Server_clunk_22  (mm_ge (eG E)) v0 v1 v2 s0 h Z) : V E 4 0 0 h 22 [(0, va_rf (some v0)), (1, va_rf (v1)), (2, va_rf (v2))] [.int (s0)] := by
  unfold wq_Server_clunk_22 at hw
  refine V_istore_n (i := 3) (lv' := [(3, .int (s0)), (0, va_rf (some v0)), (1, va_rf (v1)), (2, va_rf (v2))]) hc d_Server_clunk_22 rfl (by decide) (by simp [cat_rf, cat_i, cat_l]) ?_
  refine V_aload_n hc 2 d_Server_clunk_23 rfl rfl ?_
  refine V_iconst (v := 0) hc d_Server_clunk_24 (by decide) ?_
  obtain ⟨a1, q2, hw⟩ := hw
  obtain ⟨q3, hw⟩ := hw
  obtain ⟨q4, hw⟩ := hw
  obtain ⟨h5, eq_h5⟩ : ∃ x, x = mm_uI h (a1) 0 (0) := ⟨_, rfl⟩
  replace hw := hw _ eq_h5
  refine V_put (h' := h5) hc gf_Server_438 rfl q2 q3 q4 (by rw [eq_h5]; exact mm_Up_I _ _ _ _) (by rw [eq_h5]; exact up_vI rfl) (by decide) (by decide) d_Server_clunk_25 ?_
  refine V_iload_n hc 0 d_Server_clunk_28 rfl rfl ?_
  refine V_if_eq (tgt := 49) hc d_Server_clunk_29 (by decide) (fun hq1 => ?_) (fun hq1 => ?_)
  · replace hw := hw.1 hq1
    refine V_sub (lv' := []) [] rfl ?_
    refine V_wide (cs' := 1) (sl' := 7) (by omega) (by omega) ?_
    exact vb_Server_clunk_49 hc hq  _ hw
  · replace hw := hw.2 hq1
    refine V_aload_n hc 1 d_Server_clunk_32 rfl rfl ?_
    refine V_aload_n hc 2 d_Server_clunk_33 rfl rfl ?_
    obtain ⟨a6, q7, hw⟩ := hw
    obtain ⟨q8, hw⟩ := hw
    refine V_get (v := .int (mm_I h5 a6 2)) hc gf_Server_217 q7 q8 rfl d_Server_clunk_34 ?_
    refine V_aload_n hc 3 d_Server_clunk_37 rfl rfl ?_
    obtain ⟨q9, hw⟩ := hw
    refine V_callV (rm' := rm_Server_whyNotRemoved) (As := [.int (mm_I h5 a6 2), va_rf (v2)]) (rest := []) (n := 2) (cn := 1) hc rfl q9 (sat_Server_whyNotRemoved (eG E) _ _ _ _ _ hw) rfl cv_Server_441 (gw_of (tw_3 (List.mem_of_getElem? (i := 80) rfl)) rfl) ss_Server_whyNotRemoved rfl ⟨by decide, by decide⟩ (by decide) (by decide) rfl (by simp [cat_rf, cat_i, cat_l]) d_Server_clunk_38 (fun r0 h10 hw => ?_)
    obtain ⟨r11, rfl, hw⟩ := hw
    refine V_wide (cs' := 0) (sl' := 0) (by decide) (by decide) ?_
    refine V_st (st' := [.int (r11)]) rfl ?_
    refine V_if_ne (tgt := 49) hc d_Server_clunk_41 (by decide) (fun hq1 => ?_) (fun hq1 => ?_)
    · replace hw := hw.1 hq1
      refine V_sub (lv' := []) [] rfl ?_
      refine V_wide (cs' := 1) (sl' := 7) (by omega) (by omega) ?_
      exact vb_Server_clunk_49 hc hq  _ hw
    · replace hw := hw.2 hq1
      refine V_aload_n hc 1 d_Server_clunk_44 rfl rfl ?_
      refine V_aload_n hc 3 d_Server_clunk_45 rfl rfl ?_
      obtain ⟨q12, hw⟩ := hw
      refine V_callV (rm' := rm_Server_drop) (As := [va_rf (v2)]) (rest := []) (n := 1) (cn := 1) hc rfl q12 (sat_Server_drop (eG E) _ _ _ _ hw) rfl cv_Server_445 (gw_of (tw_3 (List.mem_of_getElem? (i := 94) rfl)) rfl) ss_Server_drop rfl ⟨by decide, by decide⟩ (by decide) (by decide) rfl (by simp [cat_rf, cat_i, cat_l]) d_Server_clunk_46 (fun r0 h13 hw => ?_)
      obtain ⟨rfl, hw⟩ := hw
      refine V_wide (cs' := 1) (sl' := 7) (by decide) (by decide) ?_
      refine V_st (st' := []) rfl ?_
      refine V_sub (lv' := []) [] rfl ?_
      exact vb_Server_clunk_49 hc hq  _ hw
set_option maxRecDepth 100000 in
set_option maxHeartbeats 4000000 in
theorem vb_Server_clunk_21 {E : mm_E} {Z : Int32 → mm_M → Prop} (hc : cx E "EpochServer" c_Server_clunk 4 (some (.int)) rm_Server_clunk) (hq : cq E rm_Server_clunk (pI Z))  (v0 : Nat) (v1 : Option Nat) (v2 : Option Nat) (h : mm_M) (hw : wq_Server_clunk_21  (mm_ge (eG E)) v0 v1 v2 h Z) : V E 4 0 0 h 21 [(0, va_rf (some v0)), (1, va_rf (v1)), (2, va_rf (v2))] [] := by
  unfold wq_Server_clunk_21 at hw
  refine V_iconst (v := 0) hc d_Server_clunk_21 (by decide) ?_
  refine V_sub (lv' := [(0, va_rf (some v0)), (1, va_rf (v1)), (2, va_rf (v2))]) [0, 1, 2] rfl ?_
  exact vb_Server_clunk_22 hc hq  _ _ _ _ _ hw
set_option maxRecDepth 100000 in
set_option maxHeartbeats 4000000 in
theorem vb_Server_clunk_0 {E : mm_E} {Z : Int32 → mm_M → Prop} (hc : cx E "EpochServer" c_Server_clunk 4 (some (.int)) rm_Server_clunk) (hq : cq E rm_Server_clunk (pI Z))  (v0 : Nat) (v1 : Option Nat) (v2 : Option Nat) (h : mm_M) (hw : wq_Server_clunk_0  (mm_ge (eG E)) v0 v1 v2 h Z) : V E 4 0 0 h 0 [(0, va_rf (some v0)), (1, va_rf (v1)), (2, va_rf (v2))] [] := by
  unfold wq_Server_clunk_0 at hw
  refine V_aload_n hc 1 d_Server_clunk_0 rfl rfl ?_
  obtain ⟨a1, q2, hw⟩ := hw
  obtain ⟨q3, hw⟩ := hw
  refine V_get (v := .int (mm_I h a1 4)) hc gf_Server_224 q2 q3 rfl d_Server_clunk_1 ?_
  refine V_if_eq (tgt := 21) hc d_Server_clunk_4 (by decide) (fun hq1 => ?_) (fun hq1 => ?_)
  · replace hw := hw.1 hq1
    refine V_sub (lv' := [(0, va_rf (some v0)), (1, va_rf (v1)), (2, va_rf (v2))]) [0, 1, 2] rfl ?_
    exact vb_Server_clunk_21 hc hq  _ _ _ _ hw
  · replace hw := hw.2 hq1
    refine V_aload_n hc 1 d_Server_clunk_7 rfl rfl ?_
    refine V_get (v := .int (mm_I h a1 5)) hc gf_Server_228 q2 q3 rfl d_Server_clunk_8 ?_
    refine V_bipush (v := 64) hc d_Server_clunk_11 (by decide) ?_
    refine V_iand hc d_Server_clunk_13 ?_
    refine V_if_eq (tgt := 21) hc d_Server_clunk_14 (by decide) (fun hq1 => ?_) (fun hq1 => ?_)
    · replace hw := hw.1 hq1
      refine V_sub (lv' := [(0, va_rf (some v0)), (1, va_rf (v1)), (2, va_rf (v2))]) [0, 1, 2] rfl ?_
      exact vb_Server_clunk_21 hc hq  _ _ _ _ hw
    · replace hw := hw.2 hq1
      refine V_iconst (v := 1) hc d_Server_clunk_17 (by decide) ?_
      refine V_goto (tgt := 22) hc d_Server_clunk_18 (by decide) ?_
      refine V_sub (lv' := [(0, va_rf (some v0)), (1, va_rf (v1)), (2, va_rf (v2))]) [0, 1, 2] rfl ?_
      exact vb_Server_clunk_22 hc hq  _ _ _ _ _ hw
def wq_Server_clunk (ge : Nat → Nat) (v0 : Nat) (v1 : Option Nat) (v2 : Option Nat) (h : mm_M) (Z : Int32 → mm_M → Prop) : Prop := wq_Server_clunk_0 ge v0 v1 v2 h Z
theorem sat_Server_clunk (G : mm_G) (v0 : Nat) (v1 : Option Nat) (v2 : Option Nat) (h : mm_M) (Z : Int32 → mm_M → Prop) (hw : wq_Server_clunk (mm_ge G) v0 v1 v2 h Z) : mm_Met G y_Server_clunk c_Server_clunk 4 (some (.int)) rm_Server_clunk [va_rf (some v0), va_rf (v1), va_rf (v2)] h (pI Z) := by
  refine mm_intro (own := "EpochServer") (by decide) rfl (by simp [lg_sl, cat_rf, cat_i, cat_l]) (fun E e1 hc hq hi => ?_)
  subst e1
  have e2 : lv_args 0 [va_rf (some v0), va_rf (v1), va_rf (v2)] = [(0, va_rf (some v0)), (1, va_rf (v1)), (2, va_rf (v2))] := by simp [lv_args, cat_rf, cat_i, cat_l]
  rw [e2]
  refine V_sub (lv' := [(0, va_rf (some v0)), (1, va_rf (v1)), (2, va_rf (v2))]) [0, 1, 2] rfl ?_
  exact vb_Server_clunk_0 hc hq v0 v1 v2 h hw
/-! Server.remove(LEpochServer$Fid;LEpochServer$Node;)I -/
abbrev rm_Server_remove : Room := { frames := 4, cells := 1, slots := 7, locals := 95 }
def wq_Server_remove_24  (ge : Nat → Nat) (v3 : Int32) (h : mm_M) (Z : Int32 → mm_M → Prop) : Prop :=
  Z (v3) h
def wq_Server_remove_0  (ge : Nat → Nat) (v0 : Nat) (v1 : Option Nat) (v2 : Option Nat) (h : mm_M) (Z : Int32 → mm_M → Prop) : Prop :=
  ∃ a1, v1 = some a1 ∧ mm_k h (a1) = kd_Fid ∧ ge 0 ≤ a1 ∧ ∀ h5 : mm_M, h5 = mm_uI h (a1) 0 (0) → ∃ a6, v1 = some a6 ∧ mm_k h5 (a6) = kd_Fid ∧ mm_k h5 (v0) = kd_Server ∧ wq_Server_whyNotRemoved ge (v0) (mm_I h5 a6 2) (v2) h5 (fun (r11 : Int32) (h10 : mm_M) => ((¬ (r11) = 0 → wq_Server_remove_24  ge (r11) h10 Z) ∧ ((r11) = 0 → mm_k h10 (v0) = kd_Server ∧ wq_Server_drop ge (v0) (v2) h10 (fun h13 : mm_M => wq_Server_remove_24  ge (r11) h13 Z))))
set_option maxRecDepth 100000 in
set_option maxHeartbeats 4000000 in
theorem vb_Server_remove_24 {E : mm_E} {Z : Int32 → mm_M → Prop} (hc : cx E "EpochServer" c_Server_remove 4 (some (.int)) rm_Server_remove) (hq : cq E rm_Server_remove (pI Z))  (v3 : Int32) (h : mm_M) (hw : wq_Server_remove_24  (mm_ge (eG E)) v3 h Z) : V E 4 1 7 h 24 [(3, .int (v3))] [] := by
  unfold wq_Server_remove_24 at hw
  refine V_iload_n hc 0 d_Server_remove_24 rfl rfl ?_
  exact V_iret hc hq ⟨_, rfl, hw⟩ (by decide) (by decide) d_Server_remove_25
set_option maxRecDepth 100000 in
set_option maxHeartbeats 4000000 in
theorem vb_Server_remove_0 {E : mm_E} {Z : Int32 → mm_M → Prop} (hc : cx E "EpochServer" c_Server_remove 4 (some (.int)) rm_Server_remove) (hq : cq E rm_Server_remove (pI Z))  (v0 : Nat) (v1 : Option Nat) (v2 : Option Nat) (h : mm_M) (hw : wq_Server_remove_0  (mm_ge (eG E)) v0 v1 v2 h Z) : V E 4 0 0 h 0 [(0, va_rf (some v0)), (1, va_rf (v1)), (2, va_rf (v2))] [] := by
  unfold wq_Server_remove_0 at hw
  refine V_aload_n hc 1 d_Server_remove_0 rfl rfl ?_
  refine V_iconst (v := 0) hc d_Server_remove_1 (by decide) ?_
  obtain ⟨a1, q2, hw⟩ := hw
  obtain ⟨q3, hw⟩ := hw
  obtain ⟨q4, hw⟩ := hw
  obtain ⟨h5, eq_h5⟩ : ∃ x, x = mm_uI h (a1) 0 (0) := ⟨_, rfl⟩
  replace hw := hw _ eq_h5
  refine V_put (h' := h5) hc gf_Server_438 rfl q2 q3 q4 (by rw [eq_h5]; exact mm_Up_I _ _ _ _) (by rw [eq_h5]; exact up_vI rfl) (by decide) (by decide) d_Server_remove_2 ?_
  refine V_aload_n hc 0 d_Server_remove_5 rfl rfl ?_
  refine V_aload_n hc 1 d_Server_remove_6 rfl rfl ?_
  obtain ⟨a6, q7, hw⟩ := hw
  obtain ⟨q8, hw⟩ := hw
  refine V_get (v := .int (mm_I h5 a6 2)) hc gf_Server_217 q7 q8 rfl d_Server_remove_7 ?_
  refine V_aload_n hc 2 d_Server_remove_10 rfl rfl ?_
  obtain ⟨q9, hw⟩ := hw
  refine V_callV (rm' := rm_Server_whyNotRemoved) (As := [.int (mm_I h5 a6 2), va_rf (v2)]) (rest := []) (n := 2) (cn := 1) hc rfl q9 (sat_Server_whyNotRemoved (eG E) _ _ _ _ _ hw) rfl cv_Server_441 (gw_of (tw_3 (List.mem_of_getElem? (i := 80) rfl)) rfl) ss_Server_whyNotRemoved rfl ⟨by decide, by decide⟩ (by decide) (by decide) rfl (by simp [cat_rf, cat_i, cat_l]) d_Server_remove_11 (fun r0 h10 hw => ?_)
  obtain ⟨r11, rfl, hw⟩ := hw
  refine V_wide (cs' := 0) (sl' := 0) (by decide) (by decide) ?_
  refine V_st (st' := [.int (r11)]) rfl ?_
  refine V_istore_n (i := 3) (lv' := [(3, .int (r11)), (0, va_rf (some v0)), (1, va_rf (v1)), (2, va_rf (v2))]) hc d_Server_remove_14 rfl (by decide) (by simp [cat_rf, cat_i, cat_l]) ?_
  refine V_iload_n hc 0 d_Server_remove_15 rfl rfl ?_
  refine V_if_ne (tgt := 24) hc d_Server_remove_16 (by decide) (fun hq1 => ?_) (fun hq1 => ?_)
  · replace hw := hw.1 hq1
    refine V_sub (lv' := [(3, .int (r11))]) [0] rfl ?_
    refine V_wide (cs' := 1) (sl' := 7) (by omega) (by omega) ?_
    exact vb_Server_remove_24 hc hq  _ _ hw
  · replace hw := hw.2 hq1
    refine V_aload_n hc 1 d_Server_remove_19 rfl rfl ?_
    refine V_aload_n hc 3 d_Server_remove_20 rfl rfl ?_
    obtain ⟨q12, hw⟩ := hw
    refine V_callV (rm' := rm_Server_drop) (As := [va_rf (v2)]) (rest := []) (n := 1) (cn := 1) hc rfl q12 (sat_Server_drop (eG E) _ _ _ _ hw) rfl cv_Server_445 (gw_of (tw_3 (List.mem_of_getElem? (i := 94) rfl)) rfl) ss_Server_drop rfl ⟨by decide, by decide⟩ (by decide) (by decide) rfl (by simp [cat_rf, cat_i, cat_l]) d_Server_remove_21 (fun r0 h13 hw => ?_)
    obtain ⟨rfl, hw⟩ := hw
    refine V_wide (cs' := 1) (sl' := 7) (by decide) (by decide) ?_
    refine V_st (st' := []) rfl ?_
    refine V_sub (lv' := [(3, .int (r11))]) [0] rfl ?_
    exact vb_Server_remove_24 hc hq  _ _ hw
def wq_Server_remove (ge : Nat → Nat) (v0 : Nat) (v1 : Option Nat) (v2 : Option Nat) (h : mm_M) (Z : Int32 → mm_M → Prop) : Prop := wq_Server_remove_0 ge v0 v1 v2 h Z
theorem sat_Server_remove (G : mm_G) (v0 : Nat) (v1 : Option Nat) (v2 : Option Nat) (h : mm_M) (Z : Int32 → mm_M → Prop) (hw : wq_Server_remove (mm_ge G) v0 v1 v2 h Z) : mm_Met G y_Server_remove c_Server_remove 4 (some (.int)) rm_Server_remove [va_rf (some v0), va_rf (v1), va_rf (v2)] h (pI Z) := by
  refine mm_intro (own := "EpochServer") (by decide) rfl (by simp [lg_sl, cat_rf, cat_i, cat_l]) (fun E e1 hc hq hi => ?_)
  subst e1
  have e2 : lv_args 0 [va_rf (some v0), va_rf (v1), va_rf (v2)] = [(0, va_rf (some v0)), (1, va_rf (v1)), (2, va_rf (v2))] := by simp [lv_args, cat_rf, cat_i, cat_l]
  rw [e2]
  refine V_sub (lv' := [(0, va_rf (some v0)), (1, va_rf (v1)), (2, va_rf (v2))]) [0, 1, 2] rfl ?_
  exact vb_Server_remove_0 hc hq v0 v1 v2 h hw
/-! Server.step(LEpochServer$Tree;LEpochServer$Node;)LEpochServer$Node; -/
abbrev rm_Server_step : Room := { frames := 3, cells := 0, slots := 0, locals := 68 }
def wq_Server_step_42  (ge : Nat → Nat) (s0 : Option Nat) (h : mm_M) (Z : Option Nat → mm_M → Prop) : Prop :=
  Z (s0) h
def wq_Server_step_0  (ge : Nat → Nat) (v0 : Nat) (v1 : Option Nat) (v2 : Option Nat) (h : mm_M) (Z : Option Nat → mm_M → Prop) : Prop :=
  ∃ a1, v2 = some a1 ∧ mm_k h (a1) = kd_Node ∧ wq_Node_isDirectory ge (a1) h (fun (r5 : Int32) (h4 : mm_M) => ((¬ (r5) = 0 → mm_k h4 (v0) = kd_Server ∧ ∃ a7, mm_P h4 v0 2 = some a7 ∧ mm_k h4 (a7) = kd_Request ∧ wq_Request_textIsDotDot ge (a7) h4 (fun (r11 : Int32) (h10 : mm_M) => (((r11) = 0 → ∃ a12, v2 = some a12 ∧ mm_k h10 (a12) = kd_Node ∧ mm_k h10 (v0) = kd_Server ∧ ∃ a16, v1 = some a16 ∧ mm_k h10 (a16) = kd_Tree ∧ wq_Tree_named ge (a16) (mm_I h10 a12 0) (mm_P h10 v0 2) h10 (fun (r20 : Option Nat) (h19 : mm_M) => wq_Server_step_42  ge (r20) h19 Z)) ∧ (¬ (r11) = 0 → ∃ a21, v2 = some a21 ∧ mm_k h10 (a21) = kd_Node ∧ ∃ a24, v1 = some a24 ∧ mm_k h10 (a24) = kd_Tree ∧ wq_Tree_at ge (a24) (mm_I h10 a21 1) h10 (fun (r28 : Option Nat) (h27 : mm_M) => wq_Server_step_42  ge (r28) h27 Z))))) ∧ ((r5) = 0 → Z (none) h4)))
set_option maxRecDepth 100000 in
set_option maxHeartbeats 4000000 in
theorem vb_Server_step_42 {E : mm_E} {Z : Option Nat → mm_M → Prop} (hc : cx E "EpochServer" c_Server_step 3 (some ((.object "EpochServer$Node"))) rm_Server_step) (hq : cq E rm_Server_step (pP Z))  (s0 : Option Nat) (h : mm_M) (hw : wq_Server_step_42  (mm_ge (eG E)) s0 h Z) : V E 3 0 0 h 42 [] [va_rf (s0)] := by
  unfold wq_Server_step_42 at hw
  exact V_aret hc hq (by first | exact Or.inl ⟨_, rfl⟩ | exact Or.inr ⟨_, rfl⟩) ⟨_, rfl, hw⟩ (by decide) (by decide) d_Server_step_42
set_option maxRecDepth 100000 in
set_option maxHeartbeats 4000000 in
theorem vb_Server_step_0 {E : mm_E} {Z : Option Nat → mm_M → Prop} (hc : cx E "EpochServer" c_Server_step 3 (some ((.object "EpochServer$Node"))) rm_Server_step) (hq : cq E rm_Server_step (pP Z))  (v0 : Nat) (v1 : Option Nat) (v2 : Option Nat) (h : mm_M) (hw : wq_Server_step_0  (mm_ge (eG E)) v0 v1 v2 h Z) : V E 3 0 0 h 0 [(0, va_rf (some v0)), (1, va_rf (v1)), (2, va_rf (v2))] [] := by
  unfold wq_Server_step_0 at hw
  refine V_aload_n hc 2 d_Server_step_0 rfl rfl ?_
  obtain ⟨a1, q2, hw⟩ := hw
  obtain ⟨q3, hw⟩ := hw
  refine V_callV (rm' := rm_Node_isDirectory) (As := []) (rest := []) (n := 0) (cn := 7) hc q2 q3 (sat_Node_isDirectory (eG E) _ _ _ hw) rfl cv_Server_200 (gw_of (tw_3 (List.mem_of_getElem? (i := 62) rfl)) rfl) ss_Node_isDirectory rfl ⟨by decide, by decide⟩ (by decide) (by decide) rfl (by simp [cat_rf, cat_i, cat_l]) d_Server_step_1 (fun r0 h4 hw => ?_)
  obtain ⟨r5, rfl, hw⟩ := hw
  refine V_wide (cs' := 0) (sl' := 0) (by decide) (by decide) ?_
  refine V_st (st' := [.int (r5)]) rfl ?_
  refine V_if_ne (tgt := 9) hc d_Server_step_4 (by decide) (fun hq1 => ?_) (fun hq1 => ?_)
  · replace hw := hw.1 hq1
    refine V_aload_n hc 0 d_Server_step_9 rfl rfl ?_
    obtain ⟨q6, hw⟩ := hw
    refine V_get (v := va_rf (mm_P h4 v0 2)) hc gf_Server_26 rfl q6 rfl d_Server_step_10 ?_
    obtain ⟨a7, q8, hw⟩ := hw
    obtain ⟨q9, hw⟩ := hw
    refine V_callV (rm' := rm_Request_textIsDotDot) (As := []) (rest := []) (n := 0) (cn := 8) hc q8 q9 (sat_Request_textIsDotDot (eG E) _ _ _ hw) rfl cv_Server_351 (gw_of (tw_3 (List.mem_of_getElem? (i := 139) rfl)) rfl) ss_Request_textIsDotDot rfl ⟨by decide, by decide⟩ (by decide) (by decide) rfl (by simp [cat_rf, cat_i, cat_l]) d_Server_step_13 (fun r0 h10 hw => ?_)
    obtain ⟨r11, rfl, hw⟩ := hw
    refine V_wide (cs' := 0) (sl' := 0) (by decide) (by decide) ?_
    refine V_st (st' := [.int (r11)]) rfl ?_
    refine V_if_eq (tgt := 30) hc d_Server_step_16 (by decide) (fun hq1 => ?_) (fun hq1 => ?_)
    · replace hw := hw.1 hq1
      refine V_aload_n hc 1 d_Server_step_30 rfl rfl ?_
      refine V_aload_n hc 2 d_Server_step_31 rfl rfl ?_
      obtain ⟨a12, q13, hw⟩ := hw
      obtain ⟨q14, hw⟩ := hw
      refine V_get (v := .int (mm_I h10 a12 0)) hc gf_Server_346 q13 q14 rfl d_Server_step_32 ?_
      refine V_aload_n hc 0 d_Server_step_35 rfl rfl ?_
      obtain ⟨q15, hw⟩ := hw
      refine V_get (v := va_rf (mm_P h10 v0 2)) hc gf_Server_26 rfl q15 rfl d_Server_step_36 ?_
      obtain ⟨a16, q17, hw⟩ := hw
      obtain ⟨q18, hw⟩ := hw
      refine V_callV (rm' := rm_Tree_named) (As := [.int (mm_I h10 a12 0), va_rf (mm_P h10 v0 2)]) (rest := []) (n := 2) (cn := 12) hc q17 q18 (sat_Tree_named (eG E) _ _ _ _ _ hw) rfl cv_Server_354 (gw_of (tw_3 (List.mem_of_getElem? (i := 143) rfl)) rfl) ss_Tree_named rfl ⟨by decide, by decide⟩ (by decide) (by decide) rfl (by simp [cat_rf, cat_i, cat_l]) d_Server_step_39 (fun r0 h19 hw => ?_)
      obtain ⟨r20, rfl, hw⟩ := hw
      refine V_wide (cs' := 0) (sl' := 0) (by decide) (by decide) ?_
      refine V_st (st' := [va_rf (r20)]) rfl ?_
      refine V_sub (lv' := []) [] rfl ?_
      exact vb_Server_step_42 hc hq  _ _ hw
    · replace hw := hw.2 hq1
      refine V_aload_n hc 1 d_Server_step_19 rfl rfl ?_
      refine V_aload_n hc 2 d_Server_step_20 rfl rfl ?_
      obtain ⟨a21, q22, hw⟩ := hw
      obtain ⟨q23, hw⟩ := hw
      refine V_get (v := .int (mm_I h10 a21 1)) hc gf_Server_188 q22 q23 rfl d_Server_step_21 ?_
      obtain ⟨a24, q25, hw⟩ := hw
      obtain ⟨q26, hw⟩ := hw
      refine V_callV (rm' := rm_Tree_at) (As := [.int (mm_I h10 a21 1)]) (rest := []) (n := 1) (cn := 12) hc q25 q26 (sat_Tree_at (eG E) _ _ _ _ hw) rfl cv_Server_185 (gw_of (tw_3 (List.mem_of_getElem? (i := 46) rfl)) rfl) ss_Tree_at rfl ⟨by decide, by decide⟩ (by decide) (by decide) rfl (by simp [cat_rf, cat_i, cat_l]) d_Server_step_24 (fun r0 h27 hw => ?_)
      obtain ⟨r28, rfl, hw⟩ := hw
      refine V_wide (cs' := 0) (sl' := 0) (by decide) (by decide) ?_
      refine V_st (st' := [va_rf (r28)]) rfl ?_
      refine V_goto (tgt := 42) hc d_Server_step_27 (by decide) ?_
      refine V_sub (lv' := []) [] rfl ?_
      exact vb_Server_step_42 hc hq  _ _ hw
  · replace hw := hw.2 hq1
    refine V_null hc d_Server_step_7 ?_
    exact V_aret hc hq (by first | exact Or.inl ⟨_, rfl⟩ | exact Or.inr ⟨_, rfl⟩) ⟨_, rfl, hw⟩ (by decide) (by decide) d_Server_step_8
def wq_Server_step (ge : Nat → Nat) (v0 : Nat) (v1 : Option Nat) (v2 : Option Nat) (h : mm_M) (Z : Option Nat → mm_M → Prop) : Prop := wq_Server_step_0 ge v0 v1 v2 h Z
theorem sat_Server_step (G : mm_G) (v0 : Nat) (v1 : Option Nat) (v2 : Option Nat) (h : mm_M) (Z : Option Nat → mm_M → Prop) (hw : wq_Server_step (mm_ge G) v0 v1 v2 h Z) : mm_Met G y_Server_step c_Server_step 3 (some ((.object "EpochServer$Node"))) rm_Server_step [va_rf (some v0), va_rf (v1), va_rf (v2)] h (pP Z) := by
  refine mm_intro (own := "EpochServer") (by decide) rfl (by simp [lg_sl, cat_rf, cat_i, cat_l]) (fun E e1 hc hq hi => ?_)
  subst e1
  have e2 : lv_args 0 [va_rf (some v0), va_rf (v1), va_rf (v2)] = [(0, va_rf (some v0)), (1, va_rf (v1)), (2, va_rf (v2))] := by simp [lv_args, cat_rf, cat_i, cat_l]
  rw [e2]
  refine V_sub (lv' := [(0, va_rf (some v0)), (1, va_rf (v1)), (2, va_rf (v2))]) [0, 1, 2] rfl ?_
  exact vb_Server_step_0 hc hq v0 v1 v2 h hw
/-! Server.settle(LEpochServer$Fid;ZI)V -/
abbrev rm_Server_settle : Room := { frames := 2, cells := 0, slots := 0, locals := 45 }
def wq_Server_settle_32  (ge : Nat → Nat)  (h : mm_M) (Z : mm_M → Prop) : Prop :=
  Z h
def wq_Server_settle_0  (ge : Nat → Nat) (v0 : Nat) (v1 : Option Nat) (v2 : Int32) (v3 : Int32) (h : mm_M) (Z : mm_M → Prop) : Prop :=
  (((v2) = 0 → mm_k h (v0) = kd_Server ∧ ∃ a2, mm_P h v0 2 = some a2 ∧ mm_k h (a2) = kd_Request ∧ ∃ a5, v1 = some a5 ∧ mm_k h (a5) = kd_Fid ∧ ∃ a8, mm_P h v0 3 = some a8 ∧ mm_k h (a8) = kd_FidTable ∧ wq_FidTable_make ge (a8) (mm_I h a2 8) (mm_I h a5 2) (v3) h (fun (r12 : Int32) (h11 : mm_M) => wq_Server_settle_32  ge h11 Z)) ∧ (¬ (v2) = 0 → ∃ a13, v1 = some a13 ∧ mm_k h (a13) = kd_Fid ∧ ge 0 ≤ a13 ∧ ∀ h17 : mm_M, h17 = mm_uI h (a13) 3 (v3) → wq_Server_settle_32  ge h17 Z))
set_option maxRecDepth 100000 in
set_option maxHeartbeats 4000000 in
theorem vb_Server_settle_32 {E : mm_E} {Z : mm_M → Prop} (hc : cx E "EpochServer" c_Server_settle 4 none rm_Server_settle) (hq : cq E rm_Server_settle (pV Z))   (h : mm_M) (hw : wq_Server_settle_32  (mm_ge (eG E))  h Z) : V E 4 0 0 h 32 [] [] := by
  unfold wq_Server_settle_32 at hw
  exact V_vret hc hq ⟨rfl, hw⟩ (by decide) (by decide) d_Server_settle_32
set_option maxRecDepth 100000 in
set_option maxHeartbeats 4000000 in
theorem vb_Server_settle_0 {E : mm_E} {Z : mm_M → Prop} (hc : cx E "EpochServer" c_Server_settle 4 none rm_Server_settle) (hq : cq E rm_Server_settle (pV Z))  (v0 : Nat) (v1 : Option Nat) (v2 : Int32) (v3 : Int32) (h : mm_M) (hw : wq_Server_settle_0  (mm_ge (eG E)) v0 v1 v2 v3 h Z) : V E 4 0 0 h 0 [(0, va_rf (some v0)), (1, va_rf (v1)), (2, .int (v2)), (3, .int (v3))] [] := by
  unfold wq_Server_settle_0 at hw
  refine V_iload_n hc 2 d_Server_settle_0 rfl rfl ?_
  refine V_if_eq (tgt := 12) hc d_Server_settle_1 (by decide) (fun hq1 => ?_) (fun hq1 => ?_)
  · replace hw := hw.1 hq1
    refine V_aload_n hc 0 d_Server_settle_12 rfl rfl ?_
    obtain ⟨q1, hw⟩ := hw
    refine V_get (v := va_rf (mm_P h v0 3)) hc gf_Server_33 rfl q1 rfl d_Server_settle_13 ?_
    refine V_aload_n hc 0 d_Server_settle_16 rfl rfl ?_
    refine V_get (v := va_rf (mm_P h v0 2)) hc gf_Server_26 rfl q1 rfl d_Server_settle_17 ?_
    obtain ⟨a2, q3, hw⟩ := hw
    obtain ⟨q4, hw⟩ := hw
    refine V_get (v := .int (mm_I h a2 8)) hc gf_Server_296 q3 q4 rfl d_Server_settle_20 ?_
    refine V_aload_n hc 1 d_Server_settle_23 rfl rfl ?_
    obtain ⟨a5, q6, hw⟩ := hw
    obtain ⟨q7, hw⟩ := hw
    refine V_get (v := .int (mm_I h a5 2)) hc gf_Server_217 q6 q7 rfl d_Server_settle_24 ?_
    refine V_iload_n hc 3 d_Server_settle_27 rfl rfl ?_
    obtain ⟨a8, q9, hw⟩ := hw
    obtain ⟨q10, hw⟩ := hw
    refine V_callV (rm' := rm_FidTable_make) (As := [.int (mm_I h a2 8), .int (mm_I h a5 2), .int (v3)]) (rest := []) (n := 3) (cn := 5) hc q9 q10 (sat_FidTable_make (eG E) _ _ _ _ _ _ hw) rfl cv_Server_326 (gw_of (tw_3 (List.mem_of_getElem? (i := 50) rfl)) rfl) ss_FidTable_make rfl ⟨by decide, by decide⟩ (by decide) (by decide) rfl (by simp [cat_rf, cat_i, cat_l]) d_Server_settle_28 (fun r0 h11 hw => ?_)
    obtain ⟨r12, rfl, hw⟩ := hw
    refine V_wide (cs' := 0) (sl' := 0) (by decide) (by decide) ?_
    refine V_st (st' := [.int (r12)]) rfl ?_
    refine V_pop hc d_Server_settle_31 rfl ?_
    refine V_sub (lv' := []) [] rfl ?_
    exact vb_Server_settle_32 hc hq  _ hw
  · replace hw := hw.2 hq1
    refine V_aload_n hc 1 d_Server_settle_4 rfl rfl ?_
    refine V_iload_n hc 3 d_Server_settle_5 rfl rfl ?_
    obtain ⟨a13, q14, hw⟩ := hw
    obtain ⟨q15, hw⟩ := hw
    obtain ⟨q16, hw⟩ := hw
    obtain ⟨h17, eq_h17⟩ : ∃ x, x = mm_uI h (a13) 3 (v3) := ⟨_, rfl⟩
    replace hw := hw _ eq_h17
    refine V_put (h' := h17) hc gf_Server_221 rfl q14 q15 q16 (by rw [eq_h17]; exact mm_Up_I _ _ _ _) (by rw [eq_h17]; exact up_vI rfl) (vp_nar_int _) rfl d_Server_settle_6 ?_
    refine V_goto (tgt := 32) hc d_Server_settle_9 (by decide) ?_
    refine V_sub (lv' := []) [] rfl ?_
    exact vb_Server_settle_32 hc hq  _ hw
def wq_Server_settle (ge : Nat → Nat) (v0 : Nat) (v1 : Option Nat) (v2 : Int32) (v3 : Int32) (h : mm_M) (Z : mm_M → Prop) : Prop := wq_Server_settle_0 ge v0 v1 v2 v3 h Z
theorem sat_Server_settle (G : mm_G) (v0 : Nat) (v1 : Option Nat) (v2 : Int32) (v3 : Int32) (h : mm_M) (Z : mm_M → Prop) (hw : wq_Server_settle (mm_ge G) v0 v1 v2 v3 h Z) : mm_Met G y_Server_settle c_Server_settle 4 none rm_Server_settle [va_rf (some v0), va_rf (v1), .int (v2), .int (v3)] h (pV Z) := by
  refine mm_intro (own := "EpochServer") (by decide) rfl (by simp [lg_sl, cat_rf, cat_i, cat_l]) (fun E e1 hc hq hi => ?_)
  subst e1
  have e2 : lv_args 0 [va_rf (some v0), va_rf (v1), .int (v2), .int (v3)] = [(0, va_rf (some v0)), (1, va_rf (v1)), (2, .int (v2)), (3, .int (v3))] := by simp [lv_args, cat_rf, cat_i, cat_l]
  rw [e2]
  refine V_sub (lv' := [(0, va_rf (some v0)), (1, va_rf (v1)), (2, .int (v2)), (3, .int (v3))]) [0, 1, 2, 3] rfl ?_
  exact vb_Server_settle_0 hc hq v0 v1 v2 v3 h hw
/-! Server.walk(LEpochServer$Fid;LEpochServer$Tree;LEpochServer$Node;)I -/
abbrev rm_Server_walk : Room := { frames := 4, cells := 0, slots := 0, locals := 90 }
def wq_Server_walk_229  (ge : Nat → Nat)  (h : mm_M) (Z : Int32 → mm_M → Prop) : Prop :=
  Z (0) h
def wq_Server_walk_193  (ge : Nat → Nat) (v0 : Nat) (v1 : Option Nat) (v4 : Int32) (v5 : Option Nat) (v6 : Int32) (h : mm_M) (Z : Int32 → mm_M → Prop) : Prop :=
  mm_k h (v0) = kd_Server ∧ ∃ a2, mm_P h v0 1 = some a2 ∧ mm_k h (a2) = kd_Bytes ∧ wq_Bytes_set ge (a2) (7) (v6) (2) h (fun h5 : mm_M => mm_k h5 (v0) = kd_Server ∧ ∃ a8, mm_P h5 v0 2 = some a8 ∧ mm_k h5 (a8) = kd_Request ∧ ((¬ (v6 : Int32) = (mm_I h5 a8 9 : Int32) → wq_Server_walk_229  ge h5 Z) ∧ ((v6 : Int32) = (mm_I h5 a8 9 : Int32) → ∃ a11, v5 = some a11 ∧ mm_k h5 (a11) = kd_Node ∧ wq_Server_settle ge (v0) (v1) (v4) (mm_I h5 a11 0) h5 (fun h14 : mm_M => wq_Server_walk_229  ge h14 Z))))
def wq_Server_walk_175  (ge : Nat → Nat) (v0 : Nat) (v1 : Option Nat) (v4 : Int32) (v5 : Option Nat) (v6 : Int32) (h : mm_M) (Z : Int32 → mm_M → Prop) : Prop :=
  ((¬ (v6) = 0 → wq_Server_walk_193  ge (v0) (v1) (v4) (v5) (v6) h Z) ∧ ((v6) = 0 → mm_k h (v0) = kd_Server ∧ ∃ a2, mm_P h v0 2 = some a2 ∧ mm_k h (a2) = kd_Request ∧ (((mm_I h a2 9) ≤ 0 → wq_Server_walk_193  ge (v0) (v1) (v4) (v5) (v6) h Z) ∧ (¬ (mm_I h a2 9) ≤ 0 → Z (8) h))))
def wq_Server_walk_117 (X117 : Nat → Option Nat → Option Nat → Int32 → Option Nat → Int32 → Int32 → mm_M → Prop) (ge : Nat → Nat) (v0 : Nat) (v1 : Option Nat) (v2 : Option Nat) (v4 : Int32) (v5 : Option Nat) (v6 : Int32) (v7 : Int32) (h : mm_M) (Z : Int32 → mm_M → Prop) : Prop :=
  mm_k h (v0) = kd_Server ∧ ∃ a2, mm_P h v0 2 = some a2 ∧ mm_k h (a2) = kd_Request ∧ (((mm_I h a2 9 : Int32) ≤ (v7 : Int32) → wq_Server_walk_175  ge (v0) (v1) (v4) (v5) (v6) h Z) ∧ (¬ (mm_I h a2 9 : Int32) ≤ (v7 : Int32) → wq_Request_readText ge (a2) h (fun h5 : mm_M => mm_k h5 (v0) = kd_Server ∧ wq_Server_step ge (v0) (v2) (v5) h5 (fun (r9 : Option Nat) (h8 : mm_M) => ((∀ a10, r9 = some a10 → mm_k h8 (v0) = kd_Server ∧ ∃ a12, mm_P h8 v0 1 = some a12 ∧ mm_k h8 (a12) = kd_Bytes ∧ wq_Bytes_putQid ge (a12) (r9) h8 (fun h15 : mm_M => X117 (v0) (v1) (v2) (v4) (r9) (v6 + 1) (v7 + 1) h15)) ∧ (r9 = none → wq_Server_walk_175  ge (v0) (v1) (v4) (v5) (v6) h8 Z))))))
def lp_Server_walk_117  (ge : Nat → Nat) (v0 : Nat) (v1 : Option Nat) (v2 : Option Nat) (v4 : Int32) (v5 : Option Nat) (v6 : Int32) (v7 : Int32) (h : mm_M) (Z : Int32 → mm_M → Prop) : Prop :=
  ∀ X117 : Nat → Option Nat → Option Nat → Int32 → Option Nat → Int32 → Int32 → mm_M → Prop, (∀ (v0 : Nat) (v1 : Option Nat) (v2 : Option Nat) (v4 : Int32) (v5 : Option Nat) (v6 : Int32) (v7 : Int32) (h : mm_M), wq_Server_walk_117 X117 ge v0 v1 v2 v4 v5 v6 v7 h Z → X117 v0 v1 v2 v4 v5 v6 v7 h) → X117 v0 v1 v2 v4 v5 v6 v7 h
def wq_Server_walk_92  (ge : Nat → Nat) (v0 : Nat) (v1 : Option Nat) (v2 : Option Nat) (v3 : Option Nat) (v4 : Int32) (h : mm_M) (Z : Int32 → mm_M → Prop) : Prop :=
  mm_k h (v0) = kd_Server ∧ ∃ a2, mm_P h v0 1 = some a2 ∧ mm_k h (a2) = kd_Bytes ∧ wq_Bytes_put ge (a2) (0) (2) h (fun h5 : mm_M => mm_k h5 (v0) = kd_Server ∧ ∃ a8, mm_P h5 v0 2 = some a8 ∧ mm_k h5 (a8) = kd_Request ∧ wq_Request_toFirstName ge (a8) h5 (fun h11 : mm_M => lp_Server_walk_117  ge (v0) (v1) (v2) (v4) (v3) (0) (0) h11 Z))
def wq_Server_walk_57  (ge : Nat → Nat) (v0 : Nat) (v1 : Option Nat) (v2 : Option Nat) (v3 : Option Nat) (v4 : Int32) (h : mm_M) (Z : Int32 → mm_M → Prop) : Prop :=
  mm_k h (v0) = kd_Server ∧ ∃ a2, mm_P h v0 2 = some a2 ∧ mm_k h (a2) = kd_Request ∧ (((mm_I h a2 9 : Int32) ≤ (16 : Int32) → ((¬ (v4) = 0 → wq_Server_walk_92  ge (v0) (v1) (v2) (v3) (v4) h Z) ∧ ((v4) = 0 → ∃ a5, mm_P h v0 3 = some a5 ∧ mm_k h (a5) = kd_FidTable ∧ wq_FidTable_size ge (a5) h (fun (r9 : Int32) (h8 : mm_M) => (((r9 : Int32) < (24 : Int32) → wq_Server_walk_92  ge (v0) (v1) (v2) (v3) (v4) h8 Z) ∧ (¬ (r9 : Int32) < (24 : Int32) → Z (7) h8)))))) ∧ (¬ (mm_I h a2 9 : Int32) ≤ (16 : Int32) → Z (6) h))
def wq_Server_walk_22  (ge : Nat → Nat) (v0 : Nat) (v1 : Option Nat) (v2 : Option Nat) (v3 : Option Nat) (s0 : Int32) (h : mm_M) (Z : Int32 → mm_M → Prop) : Prop :=
  ∃ a1, v1 = some a1 ∧ mm_k h (a1) = kd_Fid ∧ (((mm_I h a1 4) = 0 → ((¬ (s0) = 0 → wq_Server_walk_57  ge (v0) (v1) (v2) (v3) (s0) h Z) ∧ ((s0) = 0 → mm_k h (v0) = kd_Server ∧ ∃ a5, mm_P h v0 2 = some a5 ∧ mm_k h (a5) = kd_Request ∧ ∃ a8, mm_P h v0 3 = some a8 ∧ mm_k h (a8) = kd_FidTable ∧ wq_FidTable_find ge (a8) (mm_I h a5 8) h (fun (r12 : Option Nat) (h11 : mm_M) => ((r12 = none → wq_Server_walk_57  ge (v0) (v1) (v2) (v3) (s0) h11 Z) ∧ (∀ a13, r12 = some a13 → Z (5) h11)))))) ∧ (¬ (mm_I h a1 4) = 0 → Z (3) h))
def wq_Server_walk_0  (ge : Nat → Nat) (v0 : Nat) (v1 : Option Nat) (v2 : Option Nat) (v3 : Option Nat) (h : mm_M) (Z : Int32 → mm_M → Prop) : Prop :=
  mm_k h (v0) = kd_Server ∧ ∃ a2, mm_P h v0 2 = some a2 ∧ mm_k h (a2) = kd_Request ∧ ((¬ (mm_I h a2 8 : Int32) = (mm_I h a2 7 : Int32) → wq_Server_walk_22  ge (v0) (v1) (v2) (v3) (0) h Z) ∧ ((mm_I h a2 8 : Int32) = (mm_I h a2 7 : Int32) → wq_Server_walk_22  ge (v0) (v1) (v2) (v3) (1) h Z))
set_option maxRecDepth 100000 in
set_option maxHeartbeats 4000000 in
theorem vb_Server_walk_229 {E : mm_E} {Z : Int32 → mm_M → Prop} (hc : cx E "EpochServer" c_Server_walk 9 (some (.int)) rm_Server_walk) (hq : cq E rm_Server_walk (pI Z))   (h : mm_M) (hw : wq_Server_walk_229  (mm_ge (eG E))  h Z) : V E 9 0 0 h 229 [] [] := by
  unfold wq_Server_walk_229 at hw
  refine V_iconst (v := 0) hc d_Server_walk_229 (by decide) ?_
  exact V_iret hc hq ⟨_, rfl, hw⟩ (by decide) (by decide) d_Server_walk_230
set_option maxRecDepth 100000 in
set_option maxHeartbeats 4000000 in
theorem vb_Server_walk_193 {E : mm_E} {Z : Int32 → mm_M → Prop} (hc : cx E "EpochServer" c_Server_walk 9 (some (.int)) rm_Server_walk) (hq : cq E rm_Server_walk (pI Z))  (v0 : Nat) (v1 : Option Nat) (v4 : Int32) (v5 : Option Nat) (v6 : Int32) (h : mm_M) (hw : wq_Server_walk_193  (mm_ge (eG E)) v0 v1 v4 v5 v6 h Z) : V E 9 0 0 h 193 [(0, va_rf (some v0)), (1, va_rf (v1)), (4, .int (v4)), (5, va_rf (v5)), (6, .int (v6))] [] := by
  unfold wq_Server_walk_193 at hw
  refine V_aload_n hc 0 d_Server_walk_193 rfl rfl ?_
  obtain ⟨q1, hw⟩ := hw
  refine V_get (v := va_rf (mm_P h v0 1)) hc gf_Server_18 rfl q1 rfl d_Server_walk_194 ?_
  refine V_bipush (v := 7) hc d_Server_walk_197 (by decide) ?_
  refine V_iload hc 4 d_Server_walk_199 rfl ?_
  refine V_iconst (v := 2) hc d_Server_walk_201 (by decide) ?_
  obtain ⟨a2, q3, hw⟩ := hw
  obtain ⟨q4, hw⟩ := hw
  refine V_callV (rm' := rm_Bytes_set) (As := [.int (7), .int (v6), .int (2)]) (rest := []) (n := 3) (cn := 3) hc q3 q4 (sat_Bytes_set (eG E) _ _ _ _ _ _ hw) rfl cv_Server_112 (gw_of (tw_2 (List.mem_of_getElem? (i := 174) rfl)) rfl) ss_Bytes_set rfl ⟨by decide, by decide⟩ (by decide) (by decide) rfl (by simp [cat_rf, cat_i, cat_l]) d_Server_walk_202 (fun r0 h5 hw => ?_)
  obtain ⟨rfl, hw⟩ := hw
  refine V_wide (cs' := 0) (sl' := 0) (by decide) (by decide) ?_
  refine V_st (st' := []) rfl ?_
  refine V_iload hc 4 d_Server_walk_205 rfl ?_
  refine V_aload_n hc 0 d_Server_walk_207 rfl rfl ?_
  obtain ⟨q7, hw⟩ := hw
  refine V_get (v := va_rf (mm_P h5 v0 2)) hc gf_Server_26 rfl q7 rfl d_Server_walk_208 ?_
  obtain ⟨a8, q9, hw⟩ := hw
  obtain ⟨q10, hw⟩ := hw
  refine V_get (v := .int (mm_I h5 a8 9)) hc gf_Server_333 q9 q10 rfl d_Server_walk_211 ?_
  refine V_icmp_ne (tgt := 229) hc d_Server_walk_214 (by decide) (fun hq1 => ?_) (fun hq1 => ?_)
  · replace hw := hw.1 hq1
    refine V_sub (lv' := []) [] rfl ?_
    exact vb_Server_walk_229 hc hq  _ hw
  · replace hw := hw.2 hq1
    refine V_aload_n hc 0 d_Server_walk_217 rfl rfl ?_
    refine V_aload_n hc 1 d_Server_walk_218 rfl rfl ?_
    refine V_iload hc 2 d_Server_walk_219 rfl ?_
    refine V_aload hc 3 d_Server_walk_221 rfl ?_
    obtain ⟨a11, q12, hw⟩ := hw
    obtain ⟨q13, hw⟩ := hw
    refine V_get (v := .int (mm_I h5 a11 0)) hc gf_Server_346 q12 q13 rfl d_Server_walk_223 ?_
    refine V_callV (rm' := rm_Server_settle) (As := [va_rf (v1), .int (v4), .int (mm_I h5 a11 0)]) (rest := []) (n := 3) (cn := 1) hc rfl q7 (sat_Server_settle (eG E) _ _ _ _ _ _ hw) rfl cv_Server_347 (gw_of (tw_3 (List.mem_of_getElem? (i := 149) rfl)) rfl) ss_Server_settle rfl ⟨by decide, by decide⟩ (by decide) (by decide) rfl (by simp [cat_rf, cat_i, cat_l]) d_Server_walk_226 (fun r0 h14 hw => ?_)
    obtain ⟨rfl, hw⟩ := hw
    refine V_wide (cs' := 0) (sl' := 0) (by decide) (by decide) ?_
    refine V_st (st' := []) rfl ?_
    refine V_sub (lv' := []) [] rfl ?_
    exact vb_Server_walk_229 hc hq  _ hw
set_option maxRecDepth 100000 in
set_option maxHeartbeats 4000000 in
theorem vb_Server_walk_175 {E : mm_E} {Z : Int32 → mm_M → Prop} (hc : cx E "EpochServer" c_Server_walk 9 (some (.int)) rm_Server_walk) (hq : cq E rm_Server_walk (pI Z))  (v0 : Nat) (v1 : Option Nat) (v4 : Int32) (v5 : Option Nat) (v6 : Int32) (h : mm_M) (hw : wq_Server_walk_175  (mm_ge (eG E)) v0 v1 v4 v5 v6 h Z) : V E 9 0 0 h 175 [(0, va_rf (some v0)), (1, va_rf (v1)), (4, .int (v4)), (5, va_rf (v5)), (6, .int (v6))] [] := by
  unfold wq_Server_walk_175 at hw
  refine V_iload hc 4 d_Server_walk_175 rfl ?_
  refine V_if_ne (tgt := 193) hc d_Server_walk_177 (by decide) (fun hq1 => ?_) (fun hq1 => ?_)
  · replace hw := hw.1 hq1
    refine V_sub (lv' := [(0, va_rf (some v0)), (1, va_rf (v1)), (4, .int (v4)), (5, va_rf (v5)), (6, .int (v6))]) [0, 1, 2, 3, 4] rfl ?_
    exact vb_Server_walk_193 hc hq  _ _ _ _ _ _ hw
  · replace hw := hw.2 hq1
    refine V_aload_n hc 0 d_Server_walk_180 rfl rfl ?_
    obtain ⟨q1, hw⟩ := hw
    refine V_get (v := va_rf (mm_P h v0 2)) hc gf_Server_26 rfl q1 rfl d_Server_walk_181 ?_
    obtain ⟨a2, q3, hw⟩ := hw
    obtain ⟨q4, hw⟩ := hw
    refine V_get (v := .int (mm_I h a2 9)) hc gf_Server_333 q3 q4 rfl d_Server_walk_184 ?_
    refine V_if_le (tgt := 193) hc d_Server_walk_187 (by decide) (fun hq1 => ?_) (fun hq1 => ?_)
    · replace hw := hw.1 hq1
      refine V_sub (lv' := [(0, va_rf (some v0)), (1, va_rf (v1)), (4, .int (v4)), (5, va_rf (v5)), (6, .int (v6))]) [0, 1, 2, 3, 4] rfl ?_
      exact vb_Server_walk_193 hc hq  _ _ _ _ _ _ hw
    · replace hw := hw.2 hq1
      refine V_bipush (v := 8) hc d_Server_walk_190 (by decide) ?_
      exact V_iret hc hq ⟨_, rfl, hw⟩ (by decide) (by decide) d_Server_walk_192
set_option maxRecDepth 100000 in
set_option maxHeartbeats 4000000 in
theorem vb_Server_walk_117 {E : mm_E} {Z : Int32 → mm_M → Prop} (hc : cx E "EpochServer" c_Server_walk 9 (some (.int)) rm_Server_walk) (hq : cq E rm_Server_walk (pI Z)) (X117 : Nat → Option Nat → Option Nat → Int32 → Option Nat → Int32 → Int32 → mm_M → Prop) (hX117 : ∀ (v0 : Nat) (v1 : Option Nat) (v2 : Option Nat) (v4 : Int32) (v5 : Option Nat) (v6 : Int32) (v7 : Int32) (h : mm_M), X117 v0 v1 v2 v4 v5 v6 v7 h → V E 9 0 0 h 117 [(0, va_rf (some v0)), (1, va_rf (v1)), (2, va_rf (v2)), (4, .int (v4)), (5, va_rf (v5)), (6, .int (v6)), (7, .int (v7))] []) (v0 : Nat) (v1 : Option Nat) (v2 : Option Nat) (v4 : Int32) (v5 : Option Nat) (v6 : Int32) (v7 : Int32) (h : mm_M) (hw : wq_Server_walk_117 X117 (mm_ge (eG E)) v0 v1 v2 v4 v5 v6 v7 h Z) : V E 9 0 0 h 117 [(0, va_rf (some v0)), (1, va_rf (v1)), (2, va_rf (v2)), (4, .int (v4)), (5, va_rf (v5)), (6, .int (v6)), (7, .int (v7))] [] := by
  unfold wq_Server_walk_117 at hw
  refine V_iload hc 6 d_Server_walk_117 rfl ?_
  refine V_aload_n hc 0 d_Server_walk_119 rfl rfl ?_
  obtain ⟨q1, hw⟩ := hw
  refine V_get (v := va_rf (mm_P h v0 2)) hc gf_Server_26 rfl q1 rfl d_Server_walk_120 ?_
  obtain ⟨a2, q3, hw⟩ := hw
  obtain ⟨q4, hw⟩ := hw
  refine V_get (v := .int (mm_I h a2 9)) hc gf_Server_333 q3 q4 rfl d_Server_walk_123 ?_
  refine V_icmp_ge (tgt := 175) hc d_Server_walk_126 (by decide) (fun hq1 => ?_) (fun hq1 => ?_)
  · replace hw := hw.1 hq1
    refine V_sub (lv' := [(0, va_rf (some v0)), (1, va_rf (v1)), (4, .int (v4)), (5, va_rf (v5)), (6, .int (v6))]) [0, 1, 3, 4, 5] rfl ?_
    exact vb_Server_walk_175 hc hq  _ _ _ _ _ _ hw
  · replace hw := hw.2 hq1
    refine V_aload_n hc 0 d_Server_walk_129 rfl rfl ?_
    refine V_get (v := va_rf (mm_P h v0 2)) hc gf_Server_26 rfl q1 rfl d_Server_walk_130 ?_
    refine V_callV (rm' := rm_Request_readText) (As := []) (rest := []) (n := 0) (cn := 8) hc q3 q4 (sat_Request_readText (eG E) _ _ _ hw) rfl cv_Server_339 (gw_of (tw_2 (List.mem_of_getElem? (i := 199) rfl)) rfl) ss_Request_readText rfl ⟨by decide, by decide⟩ (by decide) (by decide) rfl (by simp [cat_rf, cat_i, cat_l]) d_Server_walk_133 (fun r0 h5 hw => ?_)
    obtain ⟨rfl, hw⟩ := hw
    refine V_wide (cs' := 0) (sl' := 0) (by decide) (by decide) ?_
    refine V_st (st' := []) rfl ?_
    refine V_aload_n hc 0 d_Server_walk_136 rfl rfl ?_
    refine V_aload_n hc 2 d_Server_walk_137 rfl rfl ?_
    refine V_aload hc 4 d_Server_walk_138 rfl ?_
    obtain ⟨q7, hw⟩ := hw
    refine V_callV (rm' := rm_Server_step) (As := [va_rf (v2), va_rf (v5)]) (rest := []) (n := 2) (cn := 1) hc rfl q7 (sat_Server_step (eG E) _ _ _ _ _ hw) rfl cv_Server_342 (gw_of (tw_3 (List.mem_of_getElem? (i := 136) rfl)) rfl) ss_Server_step rfl ⟨by decide, by decide⟩ (by decide) (by decide) rfl (by simp [cat_rf, cat_i, cat_l]) d_Server_walk_140 (fun r0 h8 hw => ?_)
    obtain ⟨r9, rfl, hw⟩ := hw
    refine V_wide (cs' := 0) (sl' := 0) (by decide) (by decide) ?_
    refine V_st (st' := [va_rf (r9)]) rfl ?_
    refine V_astore (i := 8) (lv' := [(8, va_rf (r9)), (0, va_rf (some v0)), (1, va_rf (v1)), (2, va_rf (v2)), (4, .int (v4)), (5, va_rf (v5)), (6, .int (v6)), (7, .int (v7))]) hc d_Server_walk_143 (by decide) rfl ?_
    refine V_aload hc 0 d_Server_walk_145 rfl ?_
    refine V_ifnonnull (tgt := 153) hc d_Server_walk_147 (by decide) (fun a10 hq1 => ?_) (fun hq1 => ?_)
    · replace hw := hw.1 a10 hq1
      refine V_aload hc 0 d_Server_walk_153 rfl ?_
      refine V_astore (i := 5) (lv' := [(5, va_rf (r9)), (8, va_rf (r9)), (0, va_rf (some v0)), (1, va_rf (v1)), (2, va_rf (v2)), (4, .int (v4)), (6, .int (v6)), (7, .int (v7))]) hc d_Server_walk_155 (by decide) rfl ?_
      refine V_iinc (v := v6 + 1) (lv' := [(6, .int (v6 + 1)), (5, va_rf (r9)), (8, va_rf (r9)), (0, va_rf (some v0)), (1, va_rf (v1)), (2, va_rf (v2)), (4, .int (v4)), (7, .int (v7))]) hc 6 d_Server_walk_157 rfl rfl (by decide) (by simp [cat_rf, cat_i, cat_l]) ?_
      refine V_aload_n hc 3 d_Server_walk_160 rfl rfl ?_
      obtain ⟨q11, hw⟩ := hw
      refine V_get (v := va_rf (mm_P h8 v0 1)) hc gf_Server_18 rfl q11 rfl d_Server_walk_161 ?_
      refine V_aload hc 1 d_Server_walk_164 rfl ?_
      obtain ⟨a12, q13, hw⟩ := hw
      obtain ⟨q14, hw⟩ := hw
      refine V_callV (rm' := rm_Bytes_putQid) (As := [va_rf (r9)]) (rest := []) (n := 1) (cn := 3) hc q13 q14 (sat_Bytes_putQid (eG E) _ _ _ _ hw) rfl cv_Server_330 (gw_of (tw_3 (List.mem_of_getElem? (i := 58) rfl)) rfl) ss_Bytes_putQid rfl ⟨by decide, by decide⟩ (by decide) (by decide) rfl (by simp [cat_rf, cat_i, cat_l]) d_Server_walk_166 (fun r0 h15 hw => ?_)
      obtain ⟨rfl, hw⟩ := hw
      refine V_wide (cs' := 0) (sl' := 0) (by decide) (by decide) ?_
      refine V_st (st' := []) rfl ?_
      refine V_iinc (v := v7 + 1) (lv' := [(7, .int (v7 + 1)), (6, .int (v6 + 1)), (5, va_rf (r9)), (8, va_rf (r9)), (0, va_rf (some v0)), (1, va_rf (v1)), (2, va_rf (v2)), (4, .int (v4))]) hc 7 d_Server_walk_169 rfl rfl (by decide) rfl ?_
      refine V_goto (tgt := 117) hc d_Server_walk_172 (by decide) ?_
      refine V_sub (lv' := [(0, va_rf (some v0)), (1, va_rf (v1)), (2, va_rf (v2)), (4, .int (v4)), (5, va_rf (r9)), (6, .int (v6 + 1)), (7, .int (v7 + 1))]) [4, 5, 6, 7, 2, 1, 0] rfl ?_
      exact hX117 _ _ _ _ _ _ _ _ hw
    · replace hw := hw.2 hq1
      refine V_goto (tgt := 175) hc d_Server_walk_150 (by decide) ?_
      refine V_sub (lv' := [(0, va_rf (some v0)), (1, va_rf (v1)), (4, .int (v4)), (5, va_rf (v5)), (6, .int (v6))]) [1, 2, 4, 5, 6] rfl ?_
      exact vb_Server_walk_175 hc hq  _ _ _ _ _ _ hw
theorem vl_Server_walk_117 {E : mm_E} {Z : Int32 → mm_M → Prop} (hc : cx E "EpochServer" c_Server_walk 9 (some (.int)) rm_Server_walk) (hq : cq E rm_Server_walk (pI Z))  (v0 : Nat) (v1 : Option Nat) (v2 : Option Nat) (v4 : Int32) (v5 : Option Nat) (v6 : Int32) (v7 : Int32) (h : mm_M) (hw : lp_Server_walk_117  (mm_ge (eG E)) v0 v1 v2 v4 v5 v6 v7 h Z) : V E 9 0 0 h 117 [(0, va_rf (some v0)), (1, va_rf (v1)), (2, va_rf (v2)), (4, .int (v4)), (5, va_rf (v5)), (6, .int (v6)), (7, .int (v7))] [] :=
  hw (fun v0 v1 v2 v4 v5 v6 v7 h => V E 9 0 0 h 117 [(0, va_rf (some v0)), (1, va_rf (v1)), (2, va_rf (v2)), (4, .int (v4)), (5, va_rf (v5)), (6, .int (v6)), (7, .int (v7))] []) (fun v0 v1 v2 v4 v5 v6 v7 h hb => vb_Server_walk_117 hc hq  _ (fun _ _ _ _ _ _ _ _ q => q) v0 v1 v2 v4 v5 v6 v7 h hb)
set_option maxRecDepth 100000 in
set_option maxHeartbeats 4000000 in
theorem vb_Server_walk_92 {E : mm_E} {Z : Int32 → mm_M → Prop} (hc : cx E "EpochServer" c_Server_walk 9 (some (.int)) rm_Server_walk) (hq : cq E rm_Server_walk (pI Z))  (v0 : Nat) (v1 : Option Nat) (v2 : Option Nat) (v3 : Option Nat) (v4 : Int32) (h : mm_M) (hw : wq_Server_walk_92  (mm_ge (eG E)) v0 v1 v2 v3 v4 h Z) : V E 9 0 0 h 92 [(0, va_rf (some v0)), (1, va_rf (v1)), (2, va_rf (v2)), (3, va_rf (v3)), (4, .int (v4))] [] := by
  unfold wq_Server_walk_92 at hw
  refine V_aload_n hc 3 d_Server_walk_92 rfl rfl ?_
  refine V_astore (i := 5) (lv' := [(5, va_rf (v3)), (0, va_rf (some v0)), (1, va_rf (v1)), (2, va_rf (v2)), (3, va_rf (v3)), (4, .int (v4))]) hc d_Server_walk_93 (by decide) rfl ?_
  refine V_iconst (v := 0) hc d_Server_walk_95 (by decide) ?_
  refine V_istore (i := 6) (lv' := [(6, .int (0)), (5, va_rf (v3)), (0, va_rf (some v0)), (1, va_rf (v1)), (2, va_rf (v2)), (3, va_rf (v3)), (4, .int (v4))]) hc d_Server_walk_96 (by decide) (by simp [cat_rf, cat_i, cat_l]) ?_
  refine V_aload_n hc 2 d_Server_walk_98 rfl rfl ?_
  obtain ⟨q1, hw⟩ := hw
  refine V_get (v := va_rf (mm_P h v0 1)) hc gf_Server_18 rfl q1 rfl d_Server_walk_99 ?_
  refine V_lconst (v := 0) hc d_Server_walk_102 (by decide) ?_
  refine V_iconst (v := 2) hc d_Server_walk_103 (by decide) ?_
  obtain ⟨a2, q3, hw⟩ := hw
  obtain ⟨q4, hw⟩ := hw
  refine V_callV (rm' := rm_Bytes_put) (As := [.long (0), .int (2)]) (rest := []) (n := 2) (cn := 3) hc q3 q4 (sat_Bytes_put (eG E) _ _ _ _ _ hw) rfl cv_Server_129 (gw_of (tw_2 (List.mem_of_getElem? (i := 158) rfl)) rfl) ss_Bytes_put rfl ⟨by decide, by decide⟩ (by decide) (by decide) rfl (by simp [cat_rf, cat_i, cat_l]) d_Server_walk_104 (fun r0 h5 hw => ?_)
  obtain ⟨rfl, hw⟩ := hw
  refine V_wide (cs' := 0) (sl' := 0) (by decide) (by decide) ?_
  refine V_st (st' := []) rfl ?_
  refine V_aload_n hc 2 d_Server_walk_107 rfl rfl ?_
  obtain ⟨q7, hw⟩ := hw
  refine V_get (v := va_rf (mm_P h5 v0 2)) hc gf_Server_26 rfl q7 rfl d_Server_walk_108 ?_
  obtain ⟨a8, q9, hw⟩ := hw
  obtain ⟨q10, hw⟩ := hw
  refine V_callV (rm' := rm_Request_toFirstName) (As := []) (rest := []) (n := 0) (cn := 8) hc q9 q10 (sat_Request_toFirstName (eG E) _ _ _ hw) rfl cv_Server_336 (gw_of (tw_3 (List.mem_of_getElem? (i := 130) rfl)) rfl) ss_Request_toFirstName rfl ⟨by decide, by decide⟩ (by decide) (by decide) rfl (by simp [cat_rf, cat_i, cat_l]) d_Server_walk_111 (fun r0 h11 hw => ?_)
  obtain ⟨rfl, hw⟩ := hw
  refine V_wide (cs' := 0) (sl' := 0) (by decide) (by decide) ?_
  refine V_st (st' := []) rfl ?_
  refine V_iconst (v := 0) hc d_Server_walk_114 (by decide) ?_
  refine V_istore (i := 7) (lv' := [(7, .int (0)), (6, .int (0)), (5, va_rf (v3)), (0, va_rf (some v0)), (1, va_rf (v1)), (2, va_rf (v2)), (3, va_rf (v3)), (4, .int (v4))]) hc d_Server_walk_115 (by decide) rfl ?_
  refine V_sub (lv' := [(0, va_rf (some v0)), (1, va_rf (v1)), (2, va_rf (v2)), (4, .int (v4)), (5, va_rf (v3)), (6, .int (0)), (7, .int (0))]) [3, 4, 5, 7, 2, 1, 0] rfl ?_
  exact vl_Server_walk_117 hc hq  _ _ _ _ _ _ _ _ hw
set_option maxRecDepth 100000 in
set_option maxHeartbeats 4000000 in
theorem vb_Server_walk_57 {E : mm_E} {Z : Int32 → mm_M → Prop} (hc : cx E "EpochServer" c_Server_walk 9 (some (.int)) rm_Server_walk) (hq : cq E rm_Server_walk (pI Z))  (v0 : Nat) (v1 : Option Nat) (v2 : Option Nat) (v3 : Option Nat) (v4 : Int32) (h : mm_M) (hw : wq_Server_walk_57  (mm_ge (eG E)) v0 v1 v2 v3 v4 h Z) : V E 9 0 0 h 57 [(0, va_rf (some v0)), (1, va_rf (v1)), (2, va_rf (v2)), (3, va_rf (v3)), (4, .int (v4))] [] := by
  unfold wq_Server_walk_57 at hw
  refine V_aload_n hc 0 d_Server_walk_57 rfl rfl ?_
  obtain ⟨q1, hw⟩ := hw
  refine V_get (v := va_rf (mm_P h v0 2)) hc gf_Server_26 rfl q1 rfl d_Server_walk_58 ?_
  obtain ⟨a2, q3, hw⟩ := hw
  obtain ⟨q4, hw⟩ := hw
  refine V_get (v := .int (mm_I h a2 9)) hc gf_Server_333 q3 q4 rfl d_Server_walk_61 ?_
  refine V_bipush (v := 16) hc d_Server_walk_64 (by decide) ?_
  refine V_icmp_le (tgt := 72) hc d_Server_walk_66 (by decide) (fun hq1 => ?_) (fun hq1 => ?_)
  · replace hw := hw.1 hq1
    refine V_iload hc 4 d_Server_walk_72 rfl ?_
    refine V_if_ne (tgt := 92) hc d_Server_walk_74 (by decide) (fun hq1 => ?_) (fun hq1 => ?_)
    · replace hw := hw.1 hq1
      refine V_sub (lv' := [(0, va_rf (some v0)), (1, va_rf (v1)), (2, va_rf (v2)), (3, va_rf (v3)), (4, .int (v4))]) [0, 1, 2, 3, 4] rfl ?_
      exact vb_Server_walk_92 hc hq  _ _ _ _ _ _ hw
    · replace hw := hw.2 hq1
      refine V_aload_n hc 0 d_Server_walk_77 rfl rfl ?_
      refine V_get (v := va_rf (mm_P h v0 3)) hc gf_Server_33 rfl q1 rfl d_Server_walk_78 ?_
      obtain ⟨a5, q6, hw⟩ := hw
      obtain ⟨q7, hw⟩ := hw
      refine V_callV (rm' := rm_FidTable_size) (As := []) (rest := []) (n := 0) (cn := 5) hc q6 q7 (sat_FidTable_size (eG E) _ _ _ hw) rfl cv_Server_234 (gw_of (tw_3 (List.mem_of_getElem? (i := 126) rfl)) rfl) ss_FidTable_size rfl ⟨by decide, by decide⟩ (by decide) (by decide) rfl (by simp [cat_rf, cat_i, cat_l]) d_Server_walk_81 (fun r0 h8 hw => ?_)
      obtain ⟨r9, rfl, hw⟩ := hw
      refine V_wide (cs' := 0) (sl' := 0) (by decide) (by decide) ?_
      refine V_st (st' := [.int (r9)]) rfl ?_
      refine V_bipush (v := 24) hc d_Server_walk_84 (by decide) ?_
      refine V_icmp_lt (tgt := 92) hc d_Server_walk_86 (by decide) (fun hq1 => ?_) (fun hq1 => ?_)
      · replace hw := hw.1 hq1
        refine V_sub (lv' := [(0, va_rf (some v0)), (1, va_rf (v1)), (2, va_rf (v2)), (3, va_rf (v3)), (4, .int (v4))]) [0, 1, 2, 3, 4] rfl ?_
        exact vb_Server_walk_92 hc hq  _ _ _ _ _ _ hw
      · replace hw := hw.2 hq1
        refine V_bipush (v := 7) hc d_Server_walk_89 (by decide) ?_
        exact V_iret hc hq ⟨_, rfl, hw⟩ (by decide) (by decide) d_Server_walk_91
  · replace hw := hw.2 hq1
    refine V_bipush (v := 6) hc d_Server_walk_69 (by decide) ?_
    exact V_iret hc hq ⟨_, rfl, hw⟩ (by decide) (by decide) d_Server_walk_71
set_option maxRecDepth 100000 in
set_option maxHeartbeats 4000000 in
theorem vb_Server_walk_22 {E : mm_E} {Z : Int32 → mm_M → Prop} (hc : cx E "EpochServer" c_Server_walk 9 (some (.int)) rm_Server_walk) (hq : cq E rm_Server_walk (pI Z))  (v0 : Nat) (v1 : Option Nat) (v2 : Option Nat) (v3 : Option Nat) (s0 : Int32) (h : mm_M) (hw : wq_Server_walk_22  (mm_ge (eG E)) v0 v1 v2 v3 s0 h Z) : V E 9 0 0 h 22 [(0, va_rf (some v0)), (1, va_rf (v1)), (2, va_rf (v2)), (3, va_rf (v3))] [.int (s0)] := by
  unfold wq_Server_walk_22 at hw
  refine V_istore (i := 4) (lv' := [(4, .int (s0)), (0, va_rf (some v0)), (1, va_rf (v1)), (2, va_rf (v2)), (3, va_rf (v3))]) hc d_Server_walk_22 (by decide) (by simp [cat_rf, cat_i, cat_l]) ?_
  refine V_aload_n hc 2 d_Server_walk_24 rfl rfl ?_
  obtain ⟨a1, q2, hw⟩ := hw
  obtain ⟨q3, hw⟩ := hw
  refine V_get (v := .int (mm_I h a1 4)) hc gf_Server_224 q2 q3 rfl d_Server_walk_25 ?_
  refine V_if_eq (tgt := 33) hc d_Server_walk_28 (by decide) (fun hq1 => ?_) (fun hq1 => ?_)
  · replace hw := hw.1 hq1
    refine V_iload hc 0 d_Server_walk_33 rfl ?_
    refine V_if_ne (tgt := 57) hc d_Server_walk_35 (by decide) (fun hq1 => ?_) (fun hq1 => ?_)
    · replace hw := hw.1 hq1
      refine V_sub (lv' := [(0, va_rf (some v0)), (1, va_rf (v1)), (2, va_rf (v2)), (3, va_rf (v3)), (4, .int (s0))]) [1, 2, 3, 4, 0] rfl ?_
      exact vb_Server_walk_57 hc hq  _ _ _ _ _ _ hw
    · replace hw := hw.2 hq1
      refine V_aload_n hc 1 d_Server_walk_38 rfl rfl ?_
      obtain ⟨q4, hw⟩ := hw
      refine V_get (v := va_rf (mm_P h v0 3)) hc gf_Server_33 rfl q4 rfl d_Server_walk_39 ?_
      refine V_aload_n hc 1 d_Server_walk_42 rfl rfl ?_
      refine V_get (v := va_rf (mm_P h v0 2)) hc gf_Server_26 rfl q4 rfl d_Server_walk_43 ?_
      obtain ⟨a5, q6, hw⟩ := hw
      obtain ⟨q7, hw⟩ := hw
      refine V_get (v := .int (mm_I h a5 8)) hc gf_Server_296 q6 q7 rfl d_Server_walk_46 ?_
      obtain ⟨a8, q9, hw⟩ := hw
      obtain ⟨q10, hw⟩ := hw
      refine V_callV (rm' := rm_FidTable_find) (As := [.int (mm_I h a5 8)]) (rest := []) (n := 1) (cn := 5) hc q9 q10 (sat_FidTable_find (eG E) _ _ _ _ hw) rfl cv_Server_213 (gw_of (tw_3 (List.mem_of_getElem? (i := 26) rfl)) rfl) ss_FidTable_find rfl ⟨by decide, by decide⟩ (by decide) (by decide) rfl (by simp [cat_rf, cat_i, cat_l]) d_Server_walk_49 (fun r0 h11 hw => ?_)
      obtain ⟨r12, rfl, hw⟩ := hw
      refine V_wide (cs' := 0) (sl' := 0) (by decide) (by decide) ?_
      refine V_st (st' := [va_rf (r12)]) rfl ?_
      refine V_ifnull (tgt := 57) hc d_Server_walk_52 (by decide) (fun hq1 => ?_) (fun a13 hq1 => ?_)
      · replace hw := hw.1 hq1
        refine V_sub (lv' := [(0, va_rf (some v0)), (1, va_rf (v1)), (2, va_rf (v2)), (3, va_rf (v3)), (4, .int (s0))]) [1, 2, 3, 4, 0] rfl ?_
        exact vb_Server_walk_57 hc hq  _ _ _ _ _ _ hw
      · replace hw := hw.2 a13 hq1
        refine V_iconst (v := 5) hc d_Server_walk_55 (by decide) ?_
        exact V_iret hc hq ⟨_, rfl, hw⟩ (by decide) (by decide) d_Server_walk_56
  · replace hw := hw.2 hq1
    refine V_iconst (v := 3) hc d_Server_walk_31 (by decide) ?_
    exact V_iret hc hq ⟨_, rfl, hw⟩ (by decide) (by decide) d_Server_walk_32
set_option maxRecDepth 100000 in
set_option maxHeartbeats 4000000 in
theorem vb_Server_walk_0 {E : mm_E} {Z : Int32 → mm_M → Prop} (hc : cx E "EpochServer" c_Server_walk 9 (some (.int)) rm_Server_walk) (hq : cq E rm_Server_walk (pI Z))  (v0 : Nat) (v1 : Option Nat) (v2 : Option Nat) (v3 : Option Nat) (h : mm_M) (hw : wq_Server_walk_0  (mm_ge (eG E)) v0 v1 v2 v3 h Z) : V E 9 0 0 h 0 [(0, va_rf (some v0)), (1, va_rf (v1)), (2, va_rf (v2)), (3, va_rf (v3))] [] := by
  unfold wq_Server_walk_0 at hw
  refine V_aload_n hc 0 d_Server_walk_0 rfl rfl ?_
  obtain ⟨q1, hw⟩ := hw
  refine V_get (v := va_rf (mm_P h v0 2)) hc gf_Server_26 rfl q1 rfl d_Server_walk_1 ?_
  obtain ⟨a2, q3, hw⟩ := hw
  obtain ⟨q4, hw⟩ := hw
  refine V_get (v := .int (mm_I h a2 8)) hc gf_Server_296 q3 q4 rfl d_Server_walk_4 ?_
  refine V_aload_n hc 0 d_Server_walk_7 rfl rfl ?_
  refine V_get (v := va_rf (mm_P h v0 2)) hc gf_Server_26 rfl q1 rfl d_Server_walk_8 ?_
  refine V_get (v := .int (mm_I h a2 7)) hc gf_Server_256 q3 q4 rfl d_Server_walk_11 ?_
  refine V_icmp_ne (tgt := 21) hc d_Server_walk_14 (by decide) (fun hq1 => ?_) (fun hq1 => ?_)
  · replace hw := hw.1 hq1
    refine V_iconst (v := 0) hc d_Server_walk_21 (by decide) ?_
    refine V_sub (lv' := [(0, va_rf (some v0)), (1, va_rf (v1)), (2, va_rf (v2)), (3, va_rf (v3))]) [0, 1, 2, 3] rfl ?_
    exact vb_Server_walk_22 hc hq  _ _ _ _ _ _ hw
  · replace hw := hw.2 hq1
    refine V_iconst (v := 1) hc d_Server_walk_17 (by decide) ?_
    refine V_goto (tgt := 22) hc d_Server_walk_18 (by decide) ?_
    refine V_sub (lv' := [(0, va_rf (some v0)), (1, va_rf (v1)), (2, va_rf (v2)), (3, va_rf (v3))]) [0, 1, 2, 3] rfl ?_
    exact vb_Server_walk_22 hc hq  _ _ _ _ _ _ hw
def wq_Server_walk (ge : Nat → Nat) (v0 : Nat) (v1 : Option Nat) (v2 : Option Nat) (v3 : Option Nat) (h : mm_M) (Z : Int32 → mm_M → Prop) : Prop := wq_Server_walk_0 ge v0 v1 v2 v3 h Z
theorem sat_Server_walk (G : mm_G) (v0 : Nat) (v1 : Option Nat) (v2 : Option Nat) (v3 : Option Nat) (h : mm_M) (Z : Int32 → mm_M → Prop) (hw : wq_Server_walk (mm_ge G) v0 v1 v2 v3 h Z) : mm_Met G y_Server_walk c_Server_walk 9 (some (.int)) rm_Server_walk [va_rf (some v0), va_rf (v1), va_rf (v2), va_rf (v3)] h (pI Z) := by
  refine mm_intro (own := "EpochServer") (by decide) rfl (by simp [lg_sl, cat_rf, cat_i, cat_l]) (fun E e1 hc hq hi => ?_)
  subst e1
  have e2 : lv_args 0 [va_rf (some v0), va_rf (v1), va_rf (v2), va_rf (v3)] = [(0, va_rf (some v0)), (1, va_rf (v1)), (2, va_rf (v2)), (3, va_rf (v3))] := by simp [lv_args, cat_rf, cat_i, cat_l]
  rw [e2]
  refine V_sub (lv' := [(0, va_rf (some v0)), (1, va_rf (v1)), (2, va_rf (v2)), (3, va_rf (v3))]) [0, 1, 2, 3] rfl ?_
  exact vb_Server_walk_0 hc hq v0 v1 v2 v3 h hw
