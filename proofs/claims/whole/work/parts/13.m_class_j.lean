/-! Server.isBadMode(I)Z -/
abbrev rm_Server_isBadMode : Room := { frames := 0, cells := 0, slots := 0, locals := 0 }
def wq_Server_isBadMode_19  (ge : Nat → Nat) (s0 : Int32) (h : mm_M) (Z : Int32 → mm_M → Prop) : Prop :=
  ((s0) = 0 ∨ (s0) = 1) ∧ Z (s0) h
def wq_Server_isBadMode_14  (ge : Nat → Nat)  (h : mm_M) (Z : Int32 → mm_M → Prop) : Prop :=
  wq_Server_isBadMode_19  ge (1) h Z
def wq_Server_isBadMode_0  (ge : Nat → Nat) (v0 : Int32) (h : mm_M) (Z : Int32 → mm_M → Prop) : Prop :=
  ((¬ ((v0) &&& ((-84) : Int32)) = 0 → wq_Server_isBadMode_14  ge h Z) ∧ (((v0) &&& ((-84) : Int32)) = 0 → ((¬ ((v0) &&& (3 : Int32) : Int32) = (3 : Int32) → wq_Server_isBadMode_19  ge (0) h Z) ∧ (((v0) &&& (3 : Int32) : Int32) = (3 : Int32) → wq_Server_isBadMode_14  ge h Z))))
set_option maxRecDepth 100000 in
set_option maxHeartbeats 4000000 in
theorem vb_Server_isBadMode_19 {E : mm_E} {Z : Int32 → mm_M → Prop} (hc : cx E "EpochServer" c_Server_isBadMode 1 (some (.boolean)) rm_Server_isBadMode) (hq : cq E rm_Server_isBadMode (pI Z))  (s0 : Int32) (h : mm_M) (hw : wq_Server_isBadMode_19  (mm_ge (eG E)) s0 h Z) : V E 1 0 0 h 19 [] [.int (s0)] := by
  unfold wq_Server_isBadMode_19 at hw
  obtain ⟨q1, hw⟩ := hw
  exact V_zret hc hq (zz_nar q1) ⟨_, rfl, hw⟩ (by decide) (by decide) d_Server_isBadMode_19
set_option maxRecDepth 100000 in
set_option maxHeartbeats 4000000 in
theorem vb_Server_isBadMode_14 {E : mm_E} {Z : Int32 → mm_M → Prop} (hc : cx E "EpochServer" c_Server_isBadMode 1 (some (.boolean)) rm_Server_isBadMode) (hq : cq E rm_Server_isBadMode (pI Z))   (h : mm_M) (hw : wq_Server_isBadMode_14  (mm_ge (eG E))  h Z) : V E 1 0 0 h 14 [] [] := by
  unfold wq_Server_isBadMode_14 at hw
  refine V_iconst (v := 1) hc d_Server_isBadMode_14 (by decide) ?_
  refine V_goto (tgt := 19) hc d_Server_isBadMode_15 (by decide) ?_
  refine V_sub (lv' := []) [] rfl ?_
  exact vb_Server_isBadMode_19 hc hq  _ _ hw
set_option maxRecDepth 100000 in
set_option maxHeartbeats 4000000 in
theorem vb_Server_isBadMode_0 {E : mm_E} {Z : Int32 → mm_M → Prop} (hc : cx E "EpochServer" c_Server_isBadMode 1 (some (.boolean)) rm_Server_isBadMode) (hq : cq E rm_Server_isBadMode (pI Z))  (v0 : Int32) (h : mm_M) (hw : wq_Server_isBadMode_0  (mm_ge (eG E)) v0 h Z) : V E 1 0 0 h 0 [(0, .int (v0))] [] := by
  unfold wq_Server_isBadMode_0 at hw
  refine V_iload_n hc 0 d_Server_isBadMode_0 rfl rfl ?_
  refine V_bipush (v := (-84)) hc d_Server_isBadMode_1 (by decide) ?_
  refine V_iand hc d_Server_isBadMode_3 ?_
  refine V_if_ne (tgt := 14) hc d_Server_isBadMode_4 (by decide) (fun hq1 => ?_) (fun hq1 => ?_)
  · replace hw := hw.1 hq1
    refine V_sub (lv' := []) [] rfl ?_
    exact vb_Server_isBadMode_14 hc hq  _ hw
  · replace hw := hw.2 hq1
    refine V_iload_n hc 0 d_Server_isBadMode_7 rfl rfl ?_
    refine V_iconst (v := 3) hc d_Server_isBadMode_8 (by decide) ?_
    refine V_iand hc d_Server_isBadMode_9 ?_
    refine V_iconst (v := 3) hc d_Server_isBadMode_10 (by decide) ?_
    refine V_icmp_ne (tgt := 18) hc d_Server_isBadMode_11 (by decide) (fun hq1 => ?_) (fun hq1 => ?_)
    · replace hw := hw.1 hq1
      refine V_iconst (v := 0) hc d_Server_isBadMode_18 (by decide) ?_
      refine V_sub (lv' := []) [] rfl ?_
      exact vb_Server_isBadMode_19 hc hq  _ _ hw
    · replace hw := hw.2 hq1
      refine V_sub (lv' := []) [] rfl ?_
      exact vb_Server_isBadMode_14 hc hq  _ hw
def wq_Server_isBadMode (ge : Nat → Nat) (v0 : Int32) (h : mm_M) (Z : Int32 → mm_M → Prop) : Prop := wq_Server_isBadMode_0 ge v0 h Z
theorem sat_Server_isBadMode (G : mm_G) (v0 : Int32) (h : mm_M) (Z : Int32 → mm_M → Prop) (hw : wq_Server_isBadMode (mm_ge G) v0 h Z) : mm_Met G y_Server_isBadMode c_Server_isBadMode 1 (some (.boolean)) rm_Server_isBadMode [.int (v0)] h (pI Z) := by
  refine mm_intro (own := "EpochServer") (by decide) rfl (by simp [lg_sl, cat_rf, cat_i, cat_l]) (fun E e1 hc hq hi => ?_)
  subst e1
  have e2 : lv_args 0 [.int (v0)] = [(0, .int (v0))] := by simp [lv_args, cat_rf, cat_i, cat_l]
  rw [e2]
  refine V_sub (lv' := [(0, .int (v0))]) [0] rfl ?_
  exact vb_Server_isBadMode_0 hc hq v0 h hw
/-! Server.lacks(II)Z -/
abbrev rm_Server_lacks : Room := { frames := 0, cells := 0, slots := 0, locals := 0 }
def wq_Server_lacks_61  (ge : Nat → Nat) (s0 : Int32) (h : mm_M) (Z : Int32 → mm_M → Prop) : Prop :=
  ((s0) = 0 ∨ (s0) = 1) ∧ Z (s0) h
def wq_Server_lacks_60  (ge : Nat → Nat)  (h : mm_M) (Z : Int32 → mm_M → Prop) : Prop :=
  wq_Server_lacks_61  ge (0) h Z
def wq_Server_lacks_56  (ge : Nat → Nat)  (h : mm_M) (Z : Int32 → mm_M → Prop) : Prop :=
  wq_Server_lacks_61  ge (1) h Z
def wq_Server_lacks_44  (ge : Nat → Nat) (v0 : Int32) (v3 : Int32) (h : mm_M) (Z : Int32 → mm_M → Prop) : Prop :=
  (((v3) = 0 → wq_Server_lacks_60  ge h Z) ∧ (¬ (v3) = 0 → ((¬ ((v0) &&& (128 : Int32)) = 0 → wq_Server_lacks_60  ge h Z) ∧ (((v0) &&& (128 : Int32)) = 0 → wq_Server_lacks_56  ge h Z))))
def wq_Server_lacks_31  (ge : Nat → Nat) (v0 : Int32) (v2 : Int32) (s0 : Int32) (h : mm_M) (Z : Int32 → mm_M → Prop) : Prop :=
  (((v2) = 0 → wq_Server_lacks_44  ge (v0) (s0) h Z) ∧ (¬ (v2) = 0 → ((((v0) &&& (256 : Int32)) = 0 → wq_Server_lacks_56  ge h Z) ∧ (¬ ((v0) &&& (256 : Int32)) = 0 → wq_Server_lacks_44  ge (v0) (s0) h Z))))
def wq_Server_lacks_26  (ge : Nat → Nat) (v0 : Int32) (v2 : Int32) (h : mm_M) (Z : Int32 → mm_M → Prop) : Prop :=
  wq_Server_lacks_31  ge (v0) (v2) (1) h Z
def wq_Server_lacks_12  (ge : Nat → Nat) (v0 : Int32) (v1 : Int32) (s0 : Int32) (h : mm_M) (Z : Int32 → mm_M → Prop) : Prop :=
  ((¬ ((v1) &&& (3 : Int32)) = 0 → wq_Server_lacks_26  ge (v0) (s0) h Z) ∧ (((v1) &&& (3 : Int32)) = 0 → ((((v1) &&& (16 : Int32)) = 0 → wq_Server_lacks_31  ge (v0) (s0) (0) h Z) ∧ (¬ ((v1) &&& (16 : Int32)) = 0 → wq_Server_lacks_26  ge (v0) (s0) h Z))))
def wq_Server_lacks_0  (ge : Nat → Nat) (v0 : Int32) (v1 : Int32) (h : mm_M) (Z : Int32 → mm_M → Prop) : Prop :=
  ((((v1) &&& (3 : Int32) : Int32) = (1 : Int32) → wq_Server_lacks_12  ge (v0) (v1) (0) h Z) ∧ (¬ ((v1) &&& (3 : Int32) : Int32) = (1 : Int32) → wq_Server_lacks_12  ge (v0) (v1) (1) h Z))
set_option maxRecDepth 100000 in
set_option maxHeartbeats 4000000 in
theorem vb_Server_lacks_61 {E : mm_E} {Z : Int32 → mm_M → Prop} (hc : cx E "EpochServer" c_Server_lacks 4 (some (.boolean)) rm_Server_lacks) (hq : cq E rm_Server_lacks (pI Z))  (s0 : Int32) (h : mm_M) (hw : wq_Server_lacks_61  (mm_ge (eG E)) s0 h Z) : V E 4 0 0 h 61 [] [.int (s0)] := by
  unfold wq_Server_lacks_61 at hw
  obtain ⟨q1, hw⟩ := hw
  exact V_zret hc hq (zz_nar q1) ⟨_, rfl, hw⟩ (by decide) (by decide) d_Server_lacks_61
set_option maxRecDepth 100000 in
set_option maxHeartbeats 4000000 in
theorem vb_Server_lacks_60 {E : mm_E} {Z : Int32 → mm_M → Prop} (hc : cx E "EpochServer" c_Server_lacks 4 (some (.boolean)) rm_Server_lacks) (hq : cq E rm_Server_lacks (pI Z))   (h : mm_M) (hw : wq_Server_lacks_60  (mm_ge (eG E))  h Z) : V E 4 0 0 h 60 [] [] := by
  unfold wq_Server_lacks_60 at hw
  refine V_iconst (v := 0) hc d_Server_lacks_60 (by decide) ?_
  refine V_sub (lv' := []) [] rfl ?_
  exact vb_Server_lacks_61 hc hq  _ _ hw
set_option maxRecDepth 100000 in
set_option maxHeartbeats 4000000 in
theorem vb_Server_lacks_56 {E : mm_E} {Z : Int32 → mm_M → Prop} (hc : cx E "EpochServer" c_Server_lacks 4 (some (.boolean)) rm_Server_lacks) (hq : cq E rm_Server_lacks (pI Z))   (h : mm_M) (hw : wq_Server_lacks_56  (mm_ge (eG E))  h Z) : V E 4 0 0 h 56 [] [] := by
  unfold wq_Server_lacks_56 at hw
  refine V_iconst (v := 1) hc d_Server_lacks_56 (by decide) ?_
  refine V_goto (tgt := 61) hc d_Server_lacks_57 (by decide) ?_
  refine V_sub (lv' := []) [] rfl ?_
  exact vb_Server_lacks_61 hc hq  _ _ hw
set_option maxRecDepth 100000 in
set_option maxHeartbeats 4000000 in
theorem vb_Server_lacks_44 {E : mm_E} {Z : Int32 → mm_M → Prop} (hc : cx E "EpochServer" c_Server_lacks 4 (some (.boolean)) rm_Server_lacks) (hq : cq E rm_Server_lacks (pI Z))  (v0 : Int32) (v3 : Int32) (h : mm_M) (hw : wq_Server_lacks_44  (mm_ge (eG E)) v0 v3 h Z) : V E 4 0 0 h 44 [(0, .int (v0)), (3, .int (v3))] [] := by
  unfold wq_Server_lacks_44 at hw
  refine V_iload_n hc 1 d_Server_lacks_44 rfl rfl ?_
  refine V_if_eq (tgt := 60) hc d_Server_lacks_45 (by decide) (fun hq1 => ?_) (fun hq1 => ?_)
  · replace hw := hw.1 hq1
    refine V_sub (lv' := []) [] rfl ?_
    exact vb_Server_lacks_60 hc hq  _ hw
  · replace hw := hw.2 hq1
    refine V_iload_n hc 0 d_Server_lacks_48 rfl rfl ?_
    refine V_sipush (v := 128) hc d_Server_lacks_49 (by decide) ?_
    refine V_iand hc d_Server_lacks_52 ?_
    refine V_if_ne (tgt := 60) hc d_Server_lacks_53 (by decide) (fun hq1 => ?_) (fun hq1 => ?_)
    · replace hw := hw.1 hq1
      refine V_sub (lv' := []) [] rfl ?_
      exact vb_Server_lacks_60 hc hq  _ hw
    · replace hw := hw.2 hq1
      refine V_sub (lv' := []) [] rfl ?_
      exact vb_Server_lacks_56 hc hq  _ hw
set_option maxRecDepth 100000 in
set_option maxHeartbeats 4000000 in
theorem vb_Server_lacks_31 {E : mm_E} {Z : Int32 → mm_M → Prop} (hc : cx E "EpochServer" c_Server_lacks 4 (some (.boolean)) rm_Server_lacks) (hq : cq E rm_Server_lacks (pI Z))  (v0 : Int32) (v2 : Int32) (s0 : Int32) (h : mm_M) (hw : wq_Server_lacks_31  (mm_ge (eG E)) v0 v2 s0 h Z) : V E 4 0 0 h 31 [(0, .int (v0)), (2, .int (v2))] [.int (s0)] := by
  unfold wq_Server_lacks_31 at hw
  refine V_istore_n (i := 3) (lv' := [(3, .int (s0)), (0, .int (v0)), (2, .int (v2))]) hc d_Server_lacks_31 rfl (by decide) rfl ?_
  refine V_iload_n hc 2 d_Server_lacks_32 rfl rfl ?_
  refine V_if_eq (tgt := 44) hc d_Server_lacks_33 (by decide) (fun hq1 => ?_) (fun hq1 => ?_)
  · replace hw := hw.1 hq1
    refine V_sub (lv' := [(0, .int (v0)), (3, .int (s0))]) [1, 0] rfl ?_
    exact vb_Server_lacks_44 hc hq  _ _ _ hw
  · replace hw := hw.2 hq1
    refine V_iload_n hc 1 d_Server_lacks_36 rfl rfl ?_
    refine V_sipush (v := 256) hc d_Server_lacks_37 (by decide) ?_
    refine V_iand hc d_Server_lacks_40 ?_
    refine V_if_eq (tgt := 56) hc d_Server_lacks_41 (by decide) (fun hq1 => ?_) (fun hq1 => ?_)
    · replace hw := hw.1 hq1
      refine V_sub (lv' := []) [] rfl ?_
      exact vb_Server_lacks_56 hc hq  _ hw
    · replace hw := hw.2 hq1
      refine V_sub (lv' := [(0, .int (v0)), (3, .int (s0))]) [1, 0] rfl ?_
      exact vb_Server_lacks_44 hc hq  _ _ _ hw
set_option maxRecDepth 100000 in
set_option maxHeartbeats 4000000 in
theorem vb_Server_lacks_26 {E : mm_E} {Z : Int32 → mm_M → Prop} (hc : cx E "EpochServer" c_Server_lacks 4 (some (.boolean)) rm_Server_lacks) (hq : cq E rm_Server_lacks (pI Z))  (v0 : Int32) (v2 : Int32) (h : mm_M) (hw : wq_Server_lacks_26  (mm_ge (eG E)) v0 v2 h Z) : V E 4 0 0 h 26 [(0, .int (v0)), (2, .int (v2))] [] := by
  unfold wq_Server_lacks_26 at hw
  refine V_iconst (v := 1) hc d_Server_lacks_26 (by decide) ?_
  refine V_goto (tgt := 31) hc d_Server_lacks_27 (by decide) ?_
  refine V_sub (lv' := [(0, .int (v0)), (2, .int (v2))]) [0, 1] rfl ?_
  exact vb_Server_lacks_31 hc hq  _ _ _ _ hw
set_option maxRecDepth 100000 in
set_option maxHeartbeats 4000000 in
theorem vb_Server_lacks_12 {E : mm_E} {Z : Int32 → mm_M → Prop} (hc : cx E "EpochServer" c_Server_lacks 4 (some (.boolean)) rm_Server_lacks) (hq : cq E rm_Server_lacks (pI Z))  (v0 : Int32) (v1 : Int32) (s0 : Int32) (h : mm_M) (hw : wq_Server_lacks_12  (mm_ge (eG E)) v0 v1 s0 h Z) : V E 4 0 0 h 12 [(0, .int (v0)), (1, .int (v1))] [.int (s0)] := by
  unfold wq_Server_lacks_12 at hw
  refine V_istore_n (i := 2) (lv' := [(2, .int (s0)), (0, .int (v0)), (1, .int (v1))]) hc d_Server_lacks_12 rfl (by decide) rfl ?_
  refine V_iload_n hc 2 d_Server_lacks_13 rfl rfl ?_
  refine V_iconst (v := 3) hc d_Server_lacks_14 (by decide) ?_
  refine V_iand hc d_Server_lacks_15 ?_
  refine V_if_ne (tgt := 26) hc d_Server_lacks_16 (by decide) (fun hq1 => ?_) (fun hq1 => ?_)
  · replace hw := hw.1 hq1
    refine V_sub (lv' := [(0, .int (v0)), (2, .int (s0))]) [1, 0] rfl ?_
    exact vb_Server_lacks_26 hc hq  _ _ _ hw
  · replace hw := hw.2 hq1
    refine V_iload_n hc 2 d_Server_lacks_19 rfl rfl ?_
    refine V_bipush (v := 16) hc d_Server_lacks_20 (by decide) ?_
    refine V_iand hc d_Server_lacks_22 ?_
    refine V_if_eq (tgt := 30) hc d_Server_lacks_23 (by decide) (fun hq1 => ?_) (fun hq1 => ?_)
    · replace hw := hw.1 hq1
      refine V_iconst (v := 0) hc d_Server_lacks_30 (by decide) ?_
      refine V_sub (lv' := [(0, .int (v0)), (2, .int (s0))]) [1, 0] rfl ?_
      exact vb_Server_lacks_31 hc hq  _ _ _ _ hw
    · replace hw := hw.2 hq1
      refine V_sub (lv' := [(0, .int (v0)), (2, .int (s0))]) [1, 0] rfl ?_
      exact vb_Server_lacks_26 hc hq  _ _ _ hw
set_option maxRecDepth 100000 in
set_option maxHeartbeats 4000000 in
theorem vb_Server_lacks_0 {E : mm_E} {Z : Int32 → mm_M → Prop} (hc : cx E "EpochServer" c_Server_lacks 4 (some (.boolean)) rm_Server_lacks) (hq : cq E rm_Server_lacks (pI Z))  (v0 : Int32) (v1 : Int32) (h : mm_M) (hw : wq_Server_lacks_0  (mm_ge (eG E)) v0 v1 h Z) : V E 4 0 0 h 0 [(0, .int (v0)), (1, .int (v1))] [] := by
  unfold wq_Server_lacks_0 at hw
  refine V_iload_n hc 1 d_Server_lacks_0 rfl rfl ?_
  refine V_iconst (v := 3) hc d_Server_lacks_1 (by decide) ?_
  refine V_iand hc d_Server_lacks_2 ?_
  refine V_iconst (v := 1) hc d_Server_lacks_3 (by decide) ?_
  refine V_icmp_eq (tgt := 11) hc d_Server_lacks_4 (by decide) (fun hq1 => ?_) (fun hq1 => ?_)
  · replace hw := hw.1 hq1
    refine V_iconst (v := 0) hc d_Server_lacks_11 (by decide) ?_
    refine V_sub (lv' := [(0, .int (v0)), (1, .int (v1))]) [0, 1] rfl ?_
    exact vb_Server_lacks_12 hc hq  _ _ _ _ hw
  · replace hw := hw.2 hq1
    refine V_iconst (v := 1) hc d_Server_lacks_7 (by decide) ?_
    refine V_goto (tgt := 12) hc d_Server_lacks_8 (by decide) ?_
    refine V_sub (lv' := [(0, .int (v0)), (1, .int (v1))]) [0, 1] rfl ?_
    exact vb_Server_lacks_12 hc hq  _ _ _ _ hw
def wq_Server_lacks (ge : Nat → Nat) (v0 : Int32) (v1 : Int32) (h : mm_M) (Z : Int32 → mm_M → Prop) : Prop := wq_Server_lacks_0 ge v0 v1 h Z
theorem sat_Server_lacks (G : mm_G) (v0 : Int32) (v1 : Int32) (h : mm_M) (Z : Int32 → mm_M → Prop) (hw : wq_Server_lacks (mm_ge G) v0 v1 h Z) : mm_Met G y_Server_lacks c_Server_lacks 4 (some (.boolean)) rm_Server_lacks [.int (v0), .int (v1)] h (pI Z) := by
  refine mm_intro (own := "EpochServer") (by decide) rfl (by simp [lg_sl, cat_rf, cat_i, cat_l]) (fun E e1 hc hq hi => ?_)
  subst e1
  have e2 : lv_args 0 [.int (v0), .int (v1)] = [(0, .int (v0)), (1, .int (v1))] := by simp [lv_args, cat_rf, cat_i, cat_l]
  rw [e2]
  refine V_sub (lv' := [(0, .int (v0)), (1, .int (v1))]) [0, 1] rfl ?_
  exact vb_Server_lacks_0 hc hq v0 v1 h hw
/-! Server.open(LEpochServer$Fid;LEpochServer$Node;)I -/
abbrev rm_Server_open : Room := { frames := 3, cells := 1, slots := 7, locals := 73 }
def wq_Server_open_118  (ge : Nat → Nat) (v0 : Nat) (v4 : Option Nat) (h : mm_M) (Z : Int32 → mm_M → Prop) : Prop :=
  mm_k h (v0) = kd_Server ∧ ∃ a2, mm_P h v0 1 = some a2 ∧ mm_k h (a2) = kd_Bytes ∧ wq_Bytes_putQid ge (a2) (v4) h (fun h5 : mm_M => mm_k h5 (v0) = kd_Server ∧ ∃ a8, mm_P h5 v0 1 = some a8 ∧ mm_k h5 (a8) = kd_Bytes ∧ wq_Bytes_put ge (a8) (0) (4) h5 (fun h11 : mm_M => Z (0) h11))
def wq_Server_open_48  (ge : Nat → Nat) (v0 : Nat) (v1 : Option Nat) (v2 : Option Nat) (v3 : Int32) (h : mm_M) (Z : Int32 → mm_M → Prop) : Prop :=
  ∃ a1, v2 = some a1 ∧ mm_k h (a1) = kd_Node ∧ wq_Server_lacks ge (mm_I h a1 3) (v3) h (fun (r5 : Int32) (h4 : mm_M) => (((r5) = 0 → ∃ a6, v1 = some a6 ∧ mm_k h4 (a6) = kd_Fid ∧ wq_Fid_openAs ge (a6) (v3) h4 (fun h9 : mm_M => ((((v3) &&& (16 : Int32)) = 0 → wq_Server_open_118  ge (v0) (v2) h9 Z) ∧ (¬ ((v3) &&& (16 : Int32)) = 0 → ∃ a11, v2 = some a11 ∧ mm_k h9 (a11) = kd_Node ∧ ∃ a14, mm_P h9 a11 6 = some a14 ∧ mm_k h9 (a14) = ka_B ∧ (((Nat.toInt32 (mm_n h9 a14)) ≤ 0 → wq_Server_open_118  ge (v0) (v2) h9 Z) ∧ (¬ (Nat.toInt32 (mm_n h9 a14)) ≤ 0 → mm_k h9 (v0) = kd_Server ∧ wq_Node_withData ge (a11) (some (ge 2)) (mm_I h9 v0 9) h9 (fun (r19 : Option Nat) (h18 : mm_M) => mm_k h18 (v0) = kd_Server ∧ ∃ a21, mm_P h18 v0 5 = some a21 ∧ mm_k h18 (a21) = kd_Journal ∧ wq_Journal_keep ge (a21) (mm_P h18 v0 4) h18 (fun h24 : mm_M => mm_k h24 (v0) = kd_Server ∧ ∃ a27, mm_P h24 v0 4 = some a27 ∧ mm_k h24 (a27) = kd_Tree ∧ wq_Tree_put ge (a27) (r19) h24 (fun h30 : mm_M => wq_Server_open_118  ge (v0) (r19) h30 Z))))))))) ∧ (¬ (r5) = 0 → Z (7) h4)))
def wq_Server_open_45  (ge : Nat → Nat)  (h : mm_M) (Z : Int32 → mm_M → Prop) : Prop :=
  Z (6) h
def wq_Server_open_0  (ge : Nat → Nat) (v0 : Nat) (v1 : Option Nat) (v2 : Option Nat) (h : mm_M) (Z : Int32 → mm_M → Prop) : Prop :=
  mm_k h (v0) = kd_Server ∧ ∃ a2, mm_P h v0 2 = some a2 ∧ mm_k h (a2) = kd_Request ∧ ∃ a5, v1 = some a5 ∧ mm_k h (a5) = kd_Fid ∧ (((mm_I h a5 4) = 0 → wq_Server_isBadMode ge (mm_I h a2 10) h (fun (r9 : Int32) (h8 : mm_M) => (((r9) = 0 → (((mm_I h a2 10) = 0 → wq_Server_open_48  ge (v0) (v1) (v2) (mm_I h a2 10) h8 Z) ∧ (¬ (mm_I h a2 10) = 0 → ∃ a10, v2 = some a10 ∧ mm_k h8 (a10) = kd_Node ∧ wq_Node_isDirectory ge (a10) h8 (fun (r14 : Int32) (h13 : mm_M) => ((¬ (r14) = 0 → wq_Server_open_45  ge h13 Z) ∧ ((r14) = 0 → ∃ a15, v1 = some a15 ∧ mm_k h13 (a15) = kd_Fid ∧ (((mm_I h13 a15 2 : Int32) = ((-1) : Int32) → wq_Server_open_48  ge (v0) (v1) (v2) (mm_I h a2 10) h13 Z) ∧ (¬ (mm_I h13 a15 2 : Int32) = ((-1) : Int32) → wq_Server_open_45  ge h13 Z)))))))) ∧ (¬ (r9) = 0 → Z (5) h8)))) ∧ (¬ (mm_I h a5 4) = 0 → Z (3) h))
set_option maxRecDepth 100000 in
set_option maxHeartbeats 4000000 in
theorem vb_Server_open_118 {E : mm_E} {Z : Int32 → mm_M → Prop} (hc : cx E "EpochServer" c_Server_open 5 (some (.int)) rm_Server_open) (hq : cq E rm_Server_open (pI Z))  (v0 : Nat) (v4 : Option Nat) (h : mm_M) (hw : wq_Server_open_118  (mm_ge (eG E)) v0 v4 h Z) : V E 5 1 7 h 118 [(0, va_rf (some v0)), (4, va_rf (v4))] [] := by
  unfold wq_Server_open_118 at hw
  refine V_aload_n hc 0 d_Server_open_118 rfl rfl ?_
  obtain ⟨q1, hw⟩ := hw
  refine V_get (v := va_rf (mm_P h v0 1)) hc gf_Server_18 rfl q1 rfl d_Server_open_119 ?_
  refine V_aload hc 1 d_Server_open_122 rfl ?_
  obtain ⟨a2, q3, hw⟩ := hw
  obtain ⟨q4, hw⟩ := hw
  refine V_callV (rm' := rm_Bytes_putQid) (As := [va_rf (v4)]) (rest := []) (n := 1) (cn := 3) hc q3 q4 (sat_Bytes_putQid (eG E) _ _ _ _ hw) rfl cv_Server_330 (gw_of (tw_3 (List.mem_of_getElem? (i := 58) rfl)) rfl) ss_Bytes_putQid rfl ⟨by decide, by decide⟩ (by decide) (by decide) rfl (by simp [cat_rf, cat_i, cat_l]) d_Server_open_124 (fun r0 h5 hw => ?_)
  obtain ⟨rfl, hw⟩ := hw
  refine V_wide (cs' := 1) (sl' := 7) (by decide) (by decide) ?_
  refine V_st (st' := []) rfl ?_
  refine V_aload_n hc 0 d_Server_open_127 rfl rfl ?_
  obtain ⟨q7, hw⟩ := hw
  refine V_get (v := va_rf (mm_P h5 v0 1)) hc gf_Server_18 rfl q7 rfl d_Server_open_128 ?_
  refine V_lconst (v := 0) hc d_Server_open_131 (by decide) ?_
  refine V_iconst (v := 4) hc d_Server_open_132 (by decide) ?_
  obtain ⟨a8, q9, hw⟩ := hw
  obtain ⟨q10, hw⟩ := hw
  refine V_callV (rm' := rm_Bytes_put) (As := [.long (0), .int (4)]) (rest := []) (n := 2) (cn := 3) hc q9 q10 (sat_Bytes_put (eG E) _ _ _ _ _ hw) rfl cv_Server_129 (gw_of (tw_2 (List.mem_of_getElem? (i := 158) rfl)) rfl) ss_Bytes_put rfl ⟨by decide, by decide⟩ (by decide) (by decide) rfl (by simp [cat_rf, cat_i, cat_l]) d_Server_open_133 (fun r0 h11 hw => ?_)
  obtain ⟨rfl, hw⟩ := hw
  refine V_wide (cs' := 1) (sl' := 7) (by decide) (by decide) ?_
  refine V_st (st' := []) rfl ?_
  refine V_iconst (v := 0) hc d_Server_open_136 (by decide) ?_
  exact V_iret hc hq ⟨_, rfl, hw⟩ (by decide) (by decide) d_Server_open_137
set_option maxRecDepth 100000 in
set_option maxHeartbeats 4000000 in
theorem vb_Server_open_48 {E : mm_E} {Z : Int32 → mm_M → Prop} (hc : cx E "EpochServer" c_Server_open 5 (some (.int)) rm_Server_open) (hq : cq E rm_Server_open (pI Z))  (v0 : Nat) (v1 : Option Nat) (v2 : Option Nat) (v3 : Int32) (h : mm_M) (hw : wq_Server_open_48  (mm_ge (eG E)) v0 v1 v2 v3 h Z) : V E 5 0 0 h 48 [(0, va_rf (some v0)), (1, va_rf (v1)), (2, va_rf (v2)), (3, .int (v3))] [] := by
  unfold wq_Server_open_48 at hw
  refine V_aload_n hc 2 d_Server_open_48 rfl rfl ?_
  obtain ⟨a1, q2, hw⟩ := hw
  obtain ⟨q3, hw⟩ := hw
  refine V_get (v := .int (mm_I h a1 3)) hc gf_Server_194 q2 q3 rfl d_Server_open_49 ?_
  refine V_iload_n hc 3 d_Server_open_52 rfl rfl ?_
  refine V_callS (rm' := rm_Server_lacks) (As := [.int (mm_I h a1 3), .int (v3)]) (rest := []) (n := 2) hc (sat_Server_lacks (eG E) _ _ _ _ hw) cv_Server_362 (gw_of (tw_3 (List.mem_of_getElem? (i := 159) rfl)) rfl) rfl ⟨by decide, by decide⟩ (by decide) (by decide) rfl (by simp [cat_rf, cat_i, cat_l]) d_Server_open_53 (fun r0 h4 hw => ?_)
  obtain ⟨r5, rfl, hw⟩ := hw
  refine V_wide (cs' := 0) (sl' := 0) (by decide) (by decide) ?_
  refine V_st (st' := [.int (r5)]) rfl ?_
  refine V_if_eq (tgt := 62) hc d_Server_open_56 (by decide) (fun hq1 => ?_) (fun hq1 => ?_)
  · replace hw := hw.1 hq1
    refine V_aload_n hc 1 d_Server_open_62 rfl rfl ?_
    refine V_iload_n hc 3 d_Server_open_63 rfl rfl ?_
    obtain ⟨a6, q7, hw⟩ := hw
    obtain ⟨q8, hw⟩ := hw
    refine V_callV (rm' := rm_Fid_openAs) (As := [.int (v3)]) (rest := []) (n := 1) (cn := 4) hc q7 q8 (sat_Fid_openAs (eG E) _ _ _ _ hw) rfl cv_Server_366 (gw_of (tw_3 (List.mem_of_getElem? (i := 162) rfl)) rfl) ss_Fid_openAs rfl ⟨by decide, by decide⟩ (by decide) (by decide) rfl (by simp [cat_rf, cat_i, cat_l]) d_Server_open_64 (fun r0 h9 hw => ?_)
    obtain ⟨rfl, hw⟩ := hw
    refine V_wide (cs' := 0) (sl' := 0) (by decide) (by decide) ?_
    refine V_st (st' := []) rfl ?_
    refine V_aload_n hc 2 d_Server_open_67 rfl rfl ?_
    refine V_astore (i := 4) (lv' := [(4, va_rf (v2)), (0, va_rf (some v0)), (1, va_rf (v1)), (2, va_rf (v2)), (3, .int (v3))]) hc d_Server_open_68 (by decide) rfl ?_
    refine V_iload_n hc 4 d_Server_open_70 rfl rfl ?_
    refine V_bipush (v := 16) hc d_Server_open_71 (by decide) ?_
    refine V_iand hc d_Server_open_73 ?_
    refine V_if_eq (tgt := 118) hc d_Server_open_74 (by decide) (fun hq1 => ?_) (fun hq1 => ?_)
    · replace hw := hw.1 hq1
      refine V_sub (lv' := [(0, va_rf (some v0)), (4, va_rf (v2))]) [1, 0] rfl ?_
      refine V_wide (cs' := 1) (sl' := 7) (by omega) (by omega) ?_
      exact vb_Server_open_118 hc hq  _ _ _ hw
    · replace hw := hw.2 hq1
      refine V_aload_n hc 3 d_Server_open_77 rfl rfl ?_
      obtain ⟨a11, q12, hw⟩ := hw
      obtain ⟨q13, hw⟩ := hw
      refine V_get (v := va_rf (mm_P h9 a11 6)) hc gf_Server_207 q12 q13 rfl d_Server_open_78 ?_
      obtain ⟨a14, q15, hw⟩ := hw
      obtain ⟨q16, hw⟩ := hw
      refine V_alen (t := 1) (ty := .byte) hc rfl q15 q16 d_Server_open_81 ?_
      refine V_if_le (tgt := 118) hc d_Server_open_82 (by decide) (fun hq1 => ?_) (fun hq1 => ?_)
      · replace hw := hw.1 hq1
        refine V_sub (lv' := [(0, va_rf (some v0)), (4, va_rf (v2))]) [1, 0] rfl ?_
        refine V_wide (cs' := 1) (sl' := 7) (by omega) (by omega) ?_
        exact vb_Server_open_118 hc hq  _ _ _ hw
      · replace hw := hw.2 hq1
        refine V_aload_n hc 3 d_Server_open_85 rfl rfl ?_
        refine V_gets (j := 1) (r := ("EpochServer", "NO_BYTES", "[B")) hc rfl (gw_of (tw_2 (List.mem_of_getElem? (i := 56) rfl)) rfl) d_Server_open_86 ?_
        refine V_aload_n hc 1 d_Server_open_89 rfl rfl ?_
        obtain ⟨q17, hw⟩ := hw
        refine V_get (v := .int (mm_I h9 v0 9)) hc gf_Server_69 rfl q17 rfl d_Server_open_90 ?_
        refine V_callV (rm' := rm_Node_withData) (As := [va_rf (some (mm_ge (eG E) 2)), .int (mm_I h9 v0 9)]) (rest := []) (n := 2) (cn := 7) hc q12 q13 (sat_Node_withData (eG E) _ _ _ _ _ hw) rfl cv_Server_369 (gw_of (tw_3 (List.mem_of_getElem? (i := 112) rfl)) rfl) ss_Node_withData rfl ⟨by decide, by decide⟩ (by decide) (by decide) rfl (by simp [cat_rf, cat_i, cat_l]) d_Server_open_93 (fun r0 h18 hw => ?_)
        obtain ⟨r19, rfl, hw⟩ := hw
        refine V_wide (cs' := 1) (sl' := 7) (by decide) (by decide) ?_
        refine V_st (st' := [va_rf (r19)]) rfl ?_
        refine V_astore (i := 4) (lv' := [(4, va_rf (r19)), (0, va_rf (some v0)), (1, va_rf (v1)), (2, va_rf (v2)), (3, .int (v3))]) hc d_Server_open_96 (by decide) rfl ?_
        refine V_aload_n hc 1 d_Server_open_98 rfl rfl ?_
        obtain ⟨q20, hw⟩ := hw
        refine V_get (v := va_rf (mm_P h18 v0 5)) hc gf_Server_47 rfl q20 rfl d_Server_open_99 ?_
        refine V_aload_n hc 1 d_Server_open_102 rfl rfl ?_
        refine V_get (v := va_rf (mm_P h18 v0 4)) hc gf_Server_40 rfl q20 rfl d_Server_open_103 ?_
        obtain ⟨a21, q22, hw⟩ := hw
        obtain ⟨q23, hw⟩ := hw
        refine V_callV (rm' := rm_Journal_keep) (As := [va_rf (mm_P h18 v0 4)]) (rest := []) (n := 1) (cn := 6) hc q22 q23 (sat_Journal_keep (eG E) _ _ _ _ hw) rfl cv_Server_373 (gw_of (tw_3 (List.mem_of_getElem? (i := 97) rfl)) rfl) ss_Journal_keep rfl ⟨by decide, by decide⟩ (by decide) (by decide) rfl (by simp [cat_rf, cat_i, cat_l]) d_Server_open_106 (fun r0 h24 hw => ?_)
        obtain ⟨rfl, hw⟩ := hw
        refine V_wide (cs' := 1) (sl' := 7) (by decide) (by decide) ?_
        refine V_st (st' := []) rfl ?_
        refine V_aload_n hc 1 d_Server_open_109 rfl rfl ?_
        obtain ⟨q26, hw⟩ := hw
        refine V_get (v := va_rf (mm_P h24 v0 4)) hc gf_Server_40 rfl q26 rfl d_Server_open_110 ?_
        refine V_aload hc 0 d_Server_open_113 rfl ?_
        obtain ⟨a27, q28, hw⟩ := hw
        obtain ⟨q29, hw⟩ := hw
        refine V_callV (rm' := rm_Tree_put) (As := [va_rf (r19)]) (rest := []) (n := 1) (cn := 12) hc q28 q29 (sat_Tree_put (eG E) _ _ _ _ hw) rfl cv_Server_94 (gw_of (tw_2 (List.mem_of_getElem? (i := 102) rfl)) rfl) ss_Tree_put rfl ⟨by decide, by decide⟩ (by decide) (by decide) rfl (by simp [cat_rf, cat_i, cat_l]) d_Server_open_115 (fun r0 h30 hw => ?_)
        obtain ⟨rfl, hw⟩ := hw
        refine V_wide (cs' := 1) (sl' := 7) (by decide) (by decide) ?_
        refine V_st (st' := []) rfl ?_
        refine V_sub (lv' := [(0, va_rf (some v0)), (4, va_rf (r19))]) [1, 0] rfl ?_
        exact vb_Server_open_118 hc hq  _ _ _ hw
  · replace hw := hw.2 hq1
    refine V_bipush (v := 7) hc d_Server_open_59 (by decide) ?_
    exact V_iret hc hq ⟨_, rfl, hw⟩ (by decide) (by decide) d_Server_open_61
set_option maxRecDepth 100000 in
set_option maxHeartbeats 4000000 in
theorem vb_Server_open_45 {E : mm_E} {Z : Int32 → mm_M → Prop} (hc : cx E "EpochServer" c_Server_open 5 (some (.int)) rm_Server_open) (hq : cq E rm_Server_open (pI Z))   (h : mm_M) (hw : wq_Server_open_45  (mm_ge (eG E))  h Z) : V E 5 0 0 h 45 [] [] := by
  unfold wq_Server_open_45 at hw
  refine V_bipush (v := 6) hc d_Server_open_45 (by decide) ?_
  exact V_iret hc hq ⟨_, rfl, hw⟩ (by decide) (by decide) d_Server_open_47
set_option maxRecDepth 100000 in
set_option maxHeartbeats 4000000 in
theorem vb_Server_open_0 {E : mm_E} {Z : Int32 → mm_M → Prop} (hc : cx E "EpochServer" c_Server_open 5 (some (.int)) rm_Server_open) (hq : cq E rm_Server_open (pI Z))  (v0 : Nat) (v1 : Option Nat) (v2 : Option Nat) (h : mm_M) (hw : wq_Server_open_0  (mm_ge (eG E)) v0 v1 v2 h Z) : V E 5 0 0 h 0 [(0, va_rf (some v0)), (1, va_rf (v1)), (2, va_rf (v2))] [] := by
  unfold wq_Server_open_0 at hw
  refine V_aload_n hc 0 d_Server_open_0 rfl rfl ?_
  obtain ⟨q1, hw⟩ := hw
  refine V_get (v := va_rf (mm_P h v0 2)) hc gf_Server_26 rfl q1 rfl d_Server_open_1 ?_
  obtain ⟨a2, q3, hw⟩ := hw
  obtain ⟨q4, hw⟩ := hw
  refine V_get (v := .int (mm_I h a2 10)) hc gf_Server_358 q3 q4 rfl d_Server_open_4 ?_
  refine V_istore_n (i := 3) (lv' := [(3, .int (mm_I h a2 10)), (0, va_rf (some v0)), (1, va_rf (v1)), (2, va_rf (v2))]) hc d_Server_open_7 rfl (by decide) (by simp [cat_rf, cat_i, cat_l]) ?_
  refine V_aload_n hc 2 d_Server_open_8 rfl rfl ?_
  obtain ⟨a5, q6, hw⟩ := hw
  obtain ⟨q7, hw⟩ := hw
  refine V_get (v := .int (mm_I h a5 4)) hc gf_Server_224 q6 q7 rfl d_Server_open_9 ?_
  refine V_if_eq (tgt := 17) hc d_Server_open_12 (by decide) (fun hq1 => ?_) (fun hq1 => ?_)
  · replace hw := hw.1 hq1
    refine V_iload_n hc 0 d_Server_open_17 rfl rfl ?_
    refine V_callS (rm' := rm_Server_isBadMode) (As := [.int (mm_I h a2 10)]) (rest := []) (n := 1) hc (sat_Server_isBadMode (eG E) _ _ _ hw) cv_Server_359 (gw_of (tw_3 (List.mem_of_getElem? (i := 156) rfl)) rfl) rfl ⟨by decide, by decide⟩ (by decide) (by decide) rfl (by simp [cat_rf, cat_i, cat_l]) d_Server_open_18 (fun r0 h8 hw => ?_)
    obtain ⟨r9, rfl, hw⟩ := hw
    refine V_wide (cs' := 0) (sl' := 0) (by decide) (by decide) ?_
    refine V_st (st' := [.int (r9)]) rfl ?_
    refine V_if_eq (tgt := 26) hc d_Server_open_21 (by decide) (fun hq1 => ?_) (fun hq1 => ?_)
    · replace hw := hw.1 hq1
      refine V_iload_n hc 0 d_Server_open_26 rfl rfl ?_
      refine V_if_eq (tgt := 48) hc d_Server_open_27 (by decide) (fun hq1 => ?_) (fun hq1 => ?_)
      · replace hw := hw.1 hq1
        refine V_sub (lv' := [(0, va_rf (some v0)), (1, va_rf (v1)), (2, va_rf (v2)), (3, .int (mm_I h a2 10))]) [1, 2, 3, 0] rfl ?_
        exact vb_Server_open_48 hc hq  _ _ _ _ _ hw
      · replace hw := hw.2 hq1
        refine V_aload_n hc 3 d_Server_open_30 rfl rfl ?_
        obtain ⟨a10, q11, hw⟩ := hw
        obtain ⟨q12, hw⟩ := hw
        refine V_callV (rm' := rm_Node_isDirectory) (As := []) (rest := []) (n := 0) (cn := 7) hc q11 q12 (sat_Node_isDirectory (eG E) _ _ _ hw) rfl cv_Server_200 (gw_of (tw_3 (List.mem_of_getElem? (i := 62) rfl)) rfl) ss_Node_isDirectory rfl ⟨by decide, by decide⟩ (by decide) (by decide) rfl (by simp [cat_rf, cat_i, cat_l]) d_Server_open_31 (fun r0 h13 hw => ?_)
        obtain ⟨r14, rfl, hw⟩ := hw
        refine V_wide (cs' := 0) (sl' := 0) (by decide) (by decide) ?_
        refine V_st (st' := [.int (r14)]) rfl ?_
        refine V_if_ne (tgt := 45) hc d_Server_open_34 (by decide) (fun hq1 => ?_) (fun hq1 => ?_)
        · replace hw := hw.1 hq1
          refine V_sub (lv' := []) [] rfl ?_
          exact vb_Server_open_45 hc hq  _ hw
        · replace hw := hw.2 hq1
          refine V_aload_n hc 2 d_Server_open_37 rfl rfl ?_
          obtain ⟨a15, q16, hw⟩ := hw
          obtain ⟨q17, hw⟩ := hw
          refine V_get (v := .int (mm_I h13 a15 2)) hc gf_Server_217 q16 q17 rfl d_Server_open_38 ?_
          refine V_iconst (v := (-1)) hc d_Server_open_41 (by decide) ?_
          refine V_icmp_eq (tgt := 48) hc d_Server_open_42 (by decide) (fun hq1 => ?_) (fun hq1 => ?_)
          · replace hw := hw.1 hq1
            refine V_sub (lv' := [(0, va_rf (some v0)), (1, va_rf (v1)), (2, va_rf (v2)), (3, .int (mm_I h a2 10))]) [1, 2, 3, 0] rfl ?_
            exact vb_Server_open_48 hc hq  _ _ _ _ _ hw
          · replace hw := hw.2 hq1
            refine V_sub (lv' := []) [] rfl ?_
            exact vb_Server_open_45 hc hq  _ hw
    · replace hw := hw.2 hq1
      refine V_iconst (v := 5) hc d_Server_open_24 (by decide) ?_
      exact V_iret hc hq ⟨_, rfl, hw⟩ (by decide) (by decide) d_Server_open_25
  · replace hw := hw.2 hq1
    refine V_iconst (v := 3) hc d_Server_open_15 (by decide) ?_
    exact V_iret hc hq ⟨_, rfl, hw⟩ (by decide) (by decide) d_Server_open_16
def wq_Server_open (ge : Nat → Nat) (v0 : Nat) (v1 : Option Nat) (v2 : Option Nat) (h : mm_M) (Z : Int32 → mm_M → Prop) : Prop := wq_Server_open_0 ge v0 v1 v2 h Z
theorem sat_Server_open (G : mm_G) (v0 : Nat) (v1 : Option Nat) (v2 : Option Nat) (h : mm_M) (Z : Int32 → mm_M → Prop) (hw : wq_Server_open (mm_ge G) v0 v1 v2 h Z) : mm_Met G y_Server_open c_Server_open 5 (some (.int)) rm_Server_open [va_rf (some v0), va_rf (v1), va_rf (v2)] h (pI Z) := by
  refine mm_intro (own := "EpochServer") (by decide) rfl (by simp [lg_sl, cat_rf, cat_i, cat_l]) (fun E e1 hc hq hi => ?_)
  subst e1
  have e2 : lv_args 0 [va_rf (some v0), va_rf (v1), va_rf (v2)] = [(0, va_rf (some v0)), (1, va_rf (v1)), (2, va_rf (v2))] := by simp [lv_args, cat_rf, cat_i, cat_l]
  rw [e2]
  refine V_sub (lv' := [(0, va_rf (some v0)), (1, va_rf (v1)), (2, va_rf (v2))]) [0, 1, 2] rfl ?_
  exact vb_Server_open_0 hc hq v0 v1 v2 h hw
/-! Server.create(LEpochServer$Fid;LEpochServer$Node;)I -/
abbrev rm_Server_create : Room := { frames := 3, cells := 3, slots := 78, locals := 73 }
def wq_Server_create_24  (ge : Nat → Nat)  (h : mm_M) (Z : Int32 → mm_M → Prop) : Prop :=
  Z (5) h
def wq_Server_create_93  (ge : Nat → Nat)  (h : mm_M) (Z : Int32 → mm_M → Prop) : Prop :=
  Z (8) h
def wq_Server_create_96  (ge : Nat → Nat) (v0 : Nat) (v1 : Option Nat) (v2 : Option Nat) (h : mm_M) (Z : Int32 → mm_M → Prop) : Prop :=
  mm_k h (v0) = kd_Server ∧ (((mm_I h v0 8 : Int32) < (60 : Int32) → ∃ a2, mm_P h v0 5 = some a2 ∧ mm_k h (a2) = kd_Journal ∧ wq_Journal_keep ge (a2) (mm_P h v0 4) h (fun h5 : mm_M => ∀ h7 : mm_M, h7 = mm_nw h5 8 0 → ∀ a8 : Nat, a8 = mm_z h5 → mm_k h7 (v0) = kd_Server ∧ ∃ a10, v2 = some a10 ∧ mm_k h7 (a10) = kd_Node ∧ ∃ a13, mm_P h7 v0 2 = some a13 ∧ mm_k h7 (a13) = kd_Request ∧ wq_Request_copyText ge (a13) h7 (fun (r17 : Option Nat) (h16 : mm_M) => mm_k h16 (v0) = kd_Server ∧ ∃ a19, mm_P h16 v0 2 = some a19 ∧ mm_k h16 (a19) = kd_Request ∧ wq_Node_init ge (a8) (mm_I h7 v0 8) (mm_I h7 a10 0) (r17) ((mm_I h16 a19 11) &&& ((-2147483137) : Int32)) (0) (mm_I h16 v0 9) (some (ge 2)) h16 (fun h22 : mm_M => mm_k h22 (v0) = kd_Server ∧ ge 0 ≤ v0 ∧ ∀ h26 : mm_M, h26 = mm_uI h22 (v0) 8 ((mm_I h22 v0 8) + (1 : Int32)) → mm_k h26 (v0) = kd_Server ∧ ∃ a28, mm_P h26 v0 4 = some a28 ∧ mm_k h26 (a28) = kd_Tree ∧ wq_Tree_put ge (a28) (some a8) h26 (fun h31 : mm_M => mm_k h31 (v0) = kd_Server ∧ ∃ a34, v2 = some a34 ∧ mm_k h31 (a34) = kd_Node ∧ wq_Node_withData ge (a34) (mm_P h31 a34 6) (mm_I h31 v0 9) h31 (fun (r38 : Option Nat) (h37 : mm_M) => ∃ a39, mm_P h31 v0 4 = some a39 ∧ mm_k h37 (a39) = kd_Tree ∧ wq_Tree_put ge (a39) (r38) h37 (fun h42 : mm_M => mm_k h42 (a8) = kd_Node ∧ ∃ a45, v1 = some a45 ∧ mm_k h42 (a45) = kd_Fid ∧ ge 0 ≤ a45 ∧ ∀ h49 : mm_M, h49 = mm_uI h42 (a45) 3 (mm_I h42 a8 0) → mm_k h49 (v0) = kd_Server ∧ ∃ a51, mm_P h49 v0 2 = some a51 ∧ mm_k h49 (a51) = kd_Request ∧ ∃ a54, v1 = some a54 ∧ mm_k h49 (a54) = kd_Fid ∧ wq_Fid_openAs ge (a54) (mm_I h49 a51 10) h49 (fun h57 : mm_M => mm_k h57 (v0) = kd_Server ∧ ∃ a60, mm_P h57 v0 1 = some a60 ∧ mm_k h57 (a60) = kd_Bytes ∧ wq_Bytes_putQid ge (a60) (some a8) h57 (fun h63 : mm_M => mm_k h63 (v0) = kd_Server ∧ ∃ a66, mm_P h63 v0 1 = some a66 ∧ mm_k h63 (a66) = kd_Bytes ∧ wq_Bytes_put ge (a66) (0) (4) h63 (fun h69 : mm_M => Z (0) h69)))))))))) ∧ (¬ (mm_I h v0 8 : Int32) < (60 : Int32) → Z (9) h))
def wq_Server_create_0  (ge : Nat → Nat) (v0 : Nat) (v1 : Option Nat) (v2 : Option Nat) (h : mm_M) (Z : Int32 → mm_M → Prop) : Prop :=
  ∃ a1, v1 = some a1 ∧ mm_k h (a1) = kd_Fid ∧ (((mm_I h a1 4) = 0 → ∃ a4, v2 = some a4 ∧ mm_k h (a4) = kd_Node ∧ wq_Node_isDirectory ge (a4) h (fun (r8 : Int32) (h7 : mm_M) => (((r8) = 0 → wq_Server_create_24  ge h7 Z) ∧ (¬ (r8) = 0 → ∃ a9, v1 = some a9 ∧ mm_k h7 (a9) = kd_Fid ∧ (((mm_I h7 a9 2 : Int32) = ((-1) : Int32) → mm_k h7 (v0) = kd_Server ∧ ∃ a13, mm_P h7 v0 2 = some a13 ∧ mm_k h7 (a13) = kd_Request ∧ wq_Request_textMayBeName ge (a13) h7 (fun (r17 : Int32) (h16 : mm_M) => ((¬ (r17) = 0 → mm_k h16 (v0) = kd_Server ∧ ∃ a19, v2 = some a19 ∧ mm_k h16 (a19) = kd_Node ∧ ∃ a22, mm_P h16 v0 4 = some a22 ∧ mm_k h16 (a22) = kd_Tree ∧ wq_Tree_named ge (a22) (mm_I h16 a19 0) (mm_P h16 v0 2) h16 (fun (r26 : Option Nat) (h25 : mm_M) => ((r26 = none → mm_k h25 (v0) = kd_Server ∧ ∃ a29, mm_P h25 v0 2 = some a29 ∧ mm_k h25 (a29) = kd_Request ∧ wq_Server_isBadMode ge (mm_I h25 a29 10) h25 (fun (r33 : Int32) (h32 : mm_M) => ((¬ (r33) = 0 → wq_Server_create_93  ge h32 Z) ∧ ((r33) = 0 → mm_k h32 (v0) = kd_Server ∧ ∃ a35, mm_P h32 v0 2 = some a35 ∧ mm_k h32 (a35) = kd_Request ∧ ((0 ≤ (mm_I h32 a35 11) → wq_Server_create_96  ge (v0) (v1) (v2) h32 Z) ∧ (¬ 0 ≤ (mm_I h32 a35 11) → (((mm_I h32 a35 10) = 0 → wq_Server_create_96  ge (v0) (v1) (v2) h32 Z) ∧ (¬ (mm_I h32 a35 10) = 0 → wq_Server_create_93  ge h32 Z)))))))) ∧ (∀ a27, r26 = some a27 → Z (7) h25)))) ∧ ((r17) = 0 → Z (6) h16)))) ∧ (¬ (mm_I h7 a9 2 : Int32) = ((-1) : Int32) → wq_Server_create_24  ge h7 Z)))))) ∧ (¬ (mm_I h a1 4) = 0 → Z (3) h))
set_option maxRecDepth 100000 in
set_option maxHeartbeats 4000000 in
theorem vb_Server_create_24 {E : mm_E} {Z : Int32 → mm_M → Prop} (hc : cx E "EpochServer" c_Server_create 4 (some (.int)) rm_Server_create) (hq : cq E rm_Server_create (pI Z))   (h : mm_M) (hw : wq_Server_create_24  (mm_ge (eG E))  h Z) : V E 4 0 0 h 24 [] [] := by
  unfold wq_Server_create_24 at hw
  refine V_iconst (v := 5) hc d_Server_create_24 (by decide) ?_
  exact V_iret hc hq ⟨_, rfl, hw⟩ (by decide) (by decide) d_Server_create_25
set_option maxRecDepth 100000 in
set_option maxHeartbeats 4000000 in
theorem vb_Server_create_93 {E : mm_E} {Z : Int32 → mm_M → Prop} (hc : cx E "EpochServer" c_Server_create 4 (some (.int)) rm_Server_create) (hq : cq E rm_Server_create (pI Z))   (h : mm_M) (hw : wq_Server_create_93  (mm_ge (eG E))  h Z) : V E 4 0 0 h 93 [] [] := by
  unfold wq_Server_create_93 at hw
  refine V_bipush (v := 8) hc d_Server_create_93 (by decide) ?_
  exact V_iret hc hq ⟨_, rfl, hw⟩ (by decide) (by decide) d_Server_create_95
set_option maxRecDepth 100000 in
set_option maxHeartbeats 4000000 in
theorem vb_Server_create_96 {E : mm_E} {Z : Int32 → mm_M → Prop} (hc : cx E "EpochServer" c_Server_create 4 (some (.int)) rm_Server_create) (hq : cq E rm_Server_create (pI Z))  (v0 : Nat) (v1 : Option Nat) (v2 : Option Nat) (h : mm_M) (hw : wq_Server_create_96  (mm_ge (eG E)) v0 v1 v2 h Z) : V E 4 0 0 h 96 [(0, va_rf (some v0)), (1, va_rf (v1)), (2, va_rf (v2))] [] := by
  unfold wq_Server_create_96 at hw
  refine V_aload_n hc 0 d_Server_create_96 rfl rfl ?_
  obtain ⟨q1, hw⟩ := hw
  refine V_get (v := .int (mm_I h v0 8)) hc gf_Server_65 rfl q1 rfl d_Server_create_97 ?_
  refine V_bipush (v := 60) hc d_Server_create_100 (by decide) ?_
  refine V_icmp_lt (tgt := 108) hc d_Server_create_102 (by decide) (fun hq1 => ?_) (fun hq1 => ?_)
  · replace hw := hw.1 hq1
    refine V_aload_n hc 0 d_Server_create_108 rfl rfl ?_
    refine V_get (v := va_rf (mm_P h v0 5)) hc gf_Server_47 rfl q1 rfl d_Server_create_109 ?_
    refine V_aload_n hc 0 d_Server_create_112 rfl rfl ?_
    refine V_get (v := va_rf (mm_P h v0 4)) hc gf_Server_40 rfl q1 rfl d_Server_create_113 ?_
    obtain ⟨a2, q3, hw⟩ := hw
    obtain ⟨q4, hw⟩ := hw
    refine V_callV (rm' := rm_Journal_keep) (As := [va_rf (mm_P h v0 4)]) (rest := []) (n := 1) (cn := 6) hc q3 q4 (sat_Journal_keep (eG E) _ _ _ _ hw) rfl cv_Server_373 (gw_of (tw_3 (List.mem_of_getElem? (i := 97) rfl)) rfl) ss_Journal_keep rfl ⟨by decide, by decide⟩ (by decide) (by decide) rfl (by simp [cat_rf, cat_i, cat_l]) d_Server_create_116 (fun r0 h5 hw => ?_)
    obtain ⟨rfl, hw⟩ := hw
    refine V_wide (cs' := 0) (sl' := 0) (by decide) (by decide) ?_
    refine V_st (st' := []) rfl ?_
    obtain ⟨h7, eq_h7⟩ : ∃ x, x = mm_nw h5 8 0 := ⟨_, rfl⟩
    replace hw := hw _ eq_h7
    refine V_new (cn := 7) (N := 7) (r := (R_Node, T_Node, 7, t_Node)) hc rfl rfl (gw_of (tw_2 (List.mem_of_getElem? (i := 51) rfl)) rfl) (gw_of (tw_2 (List.mem_of_getElem? (i := 52) rfl)) rfl) (gw_of (tw_1 (List.mem_of_getElem? (i := 13) rfl)) rfl) (by decide) (by decide) (by decide) d_Server_create_119 ?_
    rw [← eq_h7]
    obtain ⟨a8, eq_a8⟩ : ∃ x, x = mm_z h5 := ⟨_, rfl⟩
    replace hw := hw _ eq_a8
    rw [← eq_a8]
    refine V_wide (cs' := 1) (sl' := 7) (by decide) (by decide) ?_
    refine V_dup hc d_Server_create_122 (cat_rf _) ?_
    refine V_aload_n hc 0 d_Server_create_123 rfl rfl ?_
    obtain ⟨q9, hw⟩ := hw
    refine V_get (v := .int (mm_I h7 v0 8)) hc gf_Server_65 rfl q9 rfl d_Server_create_124 ?_
    refine V_aload_n hc 2 d_Server_create_127 rfl rfl ?_
    obtain ⟨a10, q11, hw⟩ := hw
    obtain ⟨q12, hw⟩ := hw
    refine V_get (v := .int (mm_I h7 a10 0)) hc gf_Server_346 q11 q12 rfl d_Server_create_128 ?_
    refine V_aload_n hc 0 d_Server_create_131 rfl rfl ?_
    refine V_get (v := va_rf (mm_P h7 v0 2)) hc gf_Server_26 rfl q9 rfl d_Server_create_132 ?_
    obtain ⟨a13, q14, hw⟩ := hw
    obtain ⟨q15, hw⟩ := hw
    refine V_callV (rm' := rm_Request_copyText) (As := []) (rest := [.int (mm_I h7 a10 0), .int (mm_I h7 v0 8), va_rf (some a8), va_rf (some a8)]) (n := 0) (cn := 8) hc q14 q15 (sat_Request_copyText (eG E) _ _ _ hw) rfl cv_Server_382 (gw_of (tw_3 (List.mem_of_getElem? (i := 175) rfl)) rfl) ss_Request_copyText rfl ⟨by decide, by decide⟩ (by decide) (by decide) rfl (by simp [cat_rf, cat_i, cat_l]) d_Server_create_135 (fun r0 h16 hw => ?_)
    obtain ⟨r17, rfl, hw⟩ := hw
    refine V_wide (cs' := 2) (sl' := 71) (by decide) (by decide) ?_
    refine V_st (st' := [va_rf (r17), .int (mm_I h7 a10 0), .int (mm_I h7 v0 8), va_rf (some a8), va_rf (some a8)]) rfl ?_
    refine V_aload_n hc 0 d_Server_create_138 rfl rfl ?_
    obtain ⟨q18, hw⟩ := hw
    refine V_get (v := va_rf (mm_P h16 v0 2)) hc gf_Server_26 rfl q18 rfl d_Server_create_139 ?_
    obtain ⟨a19, q20, hw⟩ := hw
    obtain ⟨q21, hw⟩ := hw
    refine V_get (v := .int (mm_I h16 a19 11)) hc gf_Server_379 q20 q21 rfl d_Server_create_142 ?_
    refine V_ldc (v := (-2147483137)) hc (gw_of (tw_2 (List.mem_of_getElem? (i := 55) rfl)) rfl) d_Server_create_145 ?_
    refine V_iand hc d_Server_create_147 ?_
    refine V_iconst (v := 0) hc d_Server_create_148 (by decide) ?_
    refine V_aload_n hc 0 d_Server_create_149 rfl rfl ?_
    refine V_get (v := .int (mm_I h16 v0 9)) hc gf_Server_69 rfl q18 rfl d_Server_create_150 ?_
    refine V_gets (j := 1) (r := ("EpochServer", "NO_BYTES", "[B")) hc rfl (gw_of (tw_2 (List.mem_of_getElem? (i := 56) rfl)) rfl) d_Server_create_153 ?_
    refine V_callI (rm' := rm_Node_init) (As := [.int (mm_I h7 v0 8), .int (mm_I h7 a10 0), va_rf (r17), .int ((mm_I h16 a19 11) &&& ((-2147483137) : Int32)), .int (0), .int (mm_I h16 v0 9), va_rf (some (mm_ge (eG E) 2))]) (rest := [va_rf (some a8)]) (n := 7) hc rfl (sat_Node_init (eG E) _ _ _ _ _ _ _ _ _ _ hw) cv_Server_91 (gw_of (tw_2 (List.mem_of_getElem? (i := 59) rfl)) rfl) rfl rfl ⟨by decide, by decide⟩ (by decide) (by decide) rfl (by simp [cat_rf, cat_i, cat_l]) d_Server_create_156 (fun r0 h22 hw => ?_)
    obtain ⟨rfl, hw⟩ := hw
    refine V_wide (cs' := 2) (sl' := 71) (by decide) (by decide) ?_
    refine V_st (st' := [va_rf (some a8)]) rfl ?_
    refine V_astore_n (i := 3) (lv' := [(3, va_rf (some a8)), (0, va_rf (some v0)), (1, va_rf (v1)), (2, va_rf (v2))]) hc d_Server_create_159 rfl (by decide) (by simp [cat_rf, cat_i, cat_l]) ?_
    refine V_aload_n hc 1 d_Server_create_160 rfl rfl ?_
    refine V_dup hc d_Server_create_161 (cat_rf _) ?_
    obtain ⟨q24, hw⟩ := hw
    refine V_get (v := .int (mm_I h22 v0 8)) hc gf_Server_65 rfl q24 rfl d_Server_create_162 ?_
    refine V_iconst (v := 1) hc d_Server_create_165 (by decide) ?_
    refine V_iadd hc d_Server_create_166 ?_
    obtain ⟨q25, hw⟩ := hw
    obtain ⟨h26, eq_h26⟩ : ∃ x, x = mm_uI h22 (v0) 8 ((mm_I h22 v0 8) + (1 : Int32)) := ⟨_, rfl⟩
    replace hw := hw _ eq_h26
    refine V_put (h' := h26) hc gf_Server_65 rfl rfl q24 q25 (by rw [eq_h26]; exact mm_Up_I _ _ _ _) (by rw [eq_h26]; exact up_vI rfl) (vp_nar_int _) rfl d_Server_create_167 ?_
    refine V_aload_n hc 1 d_Server_create_170 rfl rfl ?_
    obtain ⟨q27, hw⟩ := hw
    refine V_get (v := va_rf (mm_P h26 v0 4)) hc gf_Server_40 rfl q27 rfl d_Server_create_171 ?_
    refine V_aload_n hc 0 d_Server_create_174 rfl rfl ?_
    obtain ⟨a28, q29, hw⟩ := hw
    obtain ⟨q30, hw⟩ := hw
    refine V_callV (rm' := rm_Tree_put) (As := [va_rf (some a8)]) (rest := []) (n := 1) (cn := 12) hc q29 q30 (sat_Tree_put (eG E) _ _ _ _ hw) rfl cv_Server_94 (gw_of (tw_2 (List.mem_of_getElem? (i := 102) rfl)) rfl) ss_Tree_put rfl ⟨by decide, by decide⟩ (by decide) (by decide) rfl (by simp [cat_rf, cat_i, cat_l]) d_Server_create_175 (fun r0 h31 hw => ?_)
    obtain ⟨rfl, hw⟩ := hw
    refine V_wide (cs' := 2) (sl' := 71) (by decide) (by decide) ?_
    refine V_st (st' := []) rfl ?_
    refine V_aload_n hc 1 d_Server_create_178 rfl rfl ?_
    obtain ⟨q33, hw⟩ := hw
    refine V_get (v := va_rf (mm_P h31 v0 4)) hc gf_Server_40 rfl q33 rfl d_Server_create_179 ?_
    refine V_aload_n hc 3 d_Server_create_182 rfl rfl ?_
    refine V_aload_n hc 3 d_Server_create_183 rfl rfl ?_
    obtain ⟨a34, q35, hw⟩ := hw
    obtain ⟨q36, hw⟩ := hw
    refine V_get (v := va_rf (mm_P h31 a34 6)) hc gf_Server_207 q35 q36 rfl d_Server_create_184 ?_
    refine V_aload_n hc 1 d_Server_create_187 rfl rfl ?_
    refine V_get (v := .int (mm_I h31 v0 9)) hc gf_Server_69 rfl q33 rfl d_Server_create_188 ?_
    refine V_callV (rm' := rm_Node_withData) (As := [va_rf (mm_P h31 a34 6), .int (mm_I h31 v0 9)]) (rest := [va_rf (mm_P h31 v0 4)]) (n := 2) (cn := 7) hc q35 q36 (sat_Node_withData (eG E) _ _ _ _ _ hw) rfl cv_Server_369 (gw_of (tw_3 (List.mem_of_getElem? (i := 112) rfl)) rfl) ss_Node_withData rfl ⟨by decide, by decide⟩ (by decide) (by decide) rfl (by simp [cat_rf, cat_i, cat_l]) d_Server_create_191 (fun r0 h37 hw => ?_)
    obtain ⟨r38, rfl, hw⟩ := hw
    refine V_wide (cs' := 3) (sl' := 78) (by decide) (by decide) ?_
    refine V_st (st' := [va_rf (r38), va_rf (mm_P h31 v0 4)]) rfl ?_
    obtain ⟨a39, q40, hw⟩ := hw
    obtain ⟨q41, hw⟩ := hw
    refine V_callV (rm' := rm_Tree_put) (As := [va_rf (r38)]) (rest := []) (n := 1) (cn := 12) hc q40 q41 (sat_Tree_put (eG E) _ _ _ _ hw) rfl cv_Server_94 (gw_of (tw_2 (List.mem_of_getElem? (i := 102) rfl)) rfl) ss_Tree_put rfl ⟨by decide, by decide⟩ (by decide) (by decide) rfl (by simp [cat_rf, cat_i, cat_l]) d_Server_create_194 (fun r0 h42 hw => ?_)
    obtain ⟨rfl, hw⟩ := hw
    refine V_wide (cs' := 3) (sl' := 78) (by decide) (by decide) ?_
    refine V_st (st' := []) rfl ?_
    refine V_aload_n hc 2 d_Server_create_197 rfl rfl ?_
    refine V_aload_n hc 0 d_Server_create_198 rfl rfl ?_
    obtain ⟨q44, hw⟩ := hw
    refine V_get (v := .int (mm_I h42 a8 0)) hc gf_Server_346 rfl q44 rfl d_Server_create_199 ?_
    obtain ⟨a45, q46, hw⟩ := hw
    obtain ⟨q47, hw⟩ := hw
    obtain ⟨q48, hw⟩ := hw
    obtain ⟨h49, eq_h49⟩ : ∃ x, x = mm_uI h42 (a45) 3 (mm_I h42 a8 0) := ⟨_, rfl⟩
    replace hw := hw _ eq_h49
    refine V_put (h' := h49) hc gf_Server_221 rfl q46 q47 q48 (by rw [eq_h49]; exact mm_Up_I _ _ _ _) (by rw [eq_h49]; exact up_vI rfl) (vp_nar_int _) rfl d_Server_create_202 ?_
    refine V_aload_n hc 2 d_Server_create_205 rfl rfl ?_
    refine V_aload_n hc 1 d_Server_create_206 rfl rfl ?_
    obtain ⟨q50, hw⟩ := hw
    refine V_get (v := va_rf (mm_P h49 v0 2)) hc gf_Server_26 rfl q50 rfl d_Server_create_207 ?_
    obtain ⟨a51, q52, hw⟩ := hw
    obtain ⟨q53, hw⟩ := hw
    refine V_get (v := .int (mm_I h49 a51 10)) hc gf_Server_358 q52 q53 rfl d_Server_create_210 ?_
    obtain ⟨a54, q55, hw⟩ := hw
    obtain ⟨q56, hw⟩ := hw
    refine V_callV (rm' := rm_Fid_openAs) (As := [.int (mm_I h49 a51 10)]) (rest := []) (n := 1) (cn := 4) hc q55 q56 (sat_Fid_openAs (eG E) _ _ _ _ hw) rfl cv_Server_366 (gw_of (tw_3 (List.mem_of_getElem? (i := 162) rfl)) rfl) ss_Fid_openAs rfl ⟨by decide, by decide⟩ (by decide) (by decide) rfl (by simp [cat_rf, cat_i, cat_l]) d_Server_create_213 (fun r0 h57 hw => ?_)
    obtain ⟨rfl, hw⟩ := hw
    refine V_wide (cs' := 3) (sl' := 78) (by decide) (by decide) ?_
    refine V_st (st' := []) rfl ?_
    refine V_aload_n hc 1 d_Server_create_216 rfl rfl ?_
    obtain ⟨q59, hw⟩ := hw
    refine V_get (v := va_rf (mm_P h57 v0 1)) hc gf_Server_18 rfl q59 rfl d_Server_create_217 ?_
    refine V_aload_n hc 0 d_Server_create_220 rfl rfl ?_
    obtain ⟨a60, q61, hw⟩ := hw
    obtain ⟨q62, hw⟩ := hw
    refine V_callV (rm' := rm_Bytes_putQid) (As := [va_rf (some a8)]) (rest := []) (n := 1) (cn := 3) hc q61 q62 (sat_Bytes_putQid (eG E) _ _ _ _ hw) rfl cv_Server_330 (gw_of (tw_3 (List.mem_of_getElem? (i := 58) rfl)) rfl) ss_Bytes_putQid rfl ⟨by decide, by decide⟩ (by decide) (by decide) rfl (by simp [cat_rf, cat_i, cat_l]) d_Server_create_221 (fun r0 h63 hw => ?_)
    obtain ⟨rfl, hw⟩ := hw
    refine V_wide (cs' := 3) (sl' := 78) (by decide) (by decide) ?_
    refine V_st (st' := []) rfl ?_
    refine V_aload_n hc 1 d_Server_create_224 rfl rfl ?_
    obtain ⟨q65, hw⟩ := hw
    refine V_get (v := va_rf (mm_P h63 v0 1)) hc gf_Server_18 rfl q65 rfl d_Server_create_225 ?_
    refine V_lconst (v := 0) hc d_Server_create_228 (by decide) ?_
    refine V_iconst (v := 4) hc d_Server_create_229 (by decide) ?_
    obtain ⟨a66, q67, hw⟩ := hw
    obtain ⟨q68, hw⟩ := hw
    refine V_callV (rm' := rm_Bytes_put) (As := [.long (0), .int (4)]) (rest := []) (n := 2) (cn := 3) hc q67 q68 (sat_Bytes_put (eG E) _ _ _ _ _ hw) rfl cv_Server_129 (gw_of (tw_2 (List.mem_of_getElem? (i := 158) rfl)) rfl) ss_Bytes_put rfl ⟨by decide, by decide⟩ (by decide) (by decide) rfl (by simp [cat_rf, cat_i, cat_l]) d_Server_create_230 (fun r0 h69 hw => ?_)
    obtain ⟨rfl, hw⟩ := hw
    refine V_wide (cs' := 3) (sl' := 78) (by decide) (by decide) ?_
    refine V_st (st' := []) rfl ?_
    refine V_iconst (v := 0) hc d_Server_create_233 (by decide) ?_
    exact V_iret hc hq ⟨_, rfl, hw⟩ (by decide) (by decide) d_Server_create_234
  · replace hw := hw.2 hq1
    refine V_bipush (v := 9) hc d_Server_create_105 (by decide) ?_
    exact V_iret hc hq ⟨_, rfl, hw⟩ (by decide) (by decide) d_Server_create_107
set_option maxRecDepth 100000 in
set_option maxHeartbeats 4000000 in
theorem vb_Server_create_0 {E : mm_E} {Z : Int32 → mm_M → Prop} (hc : cx E "EpochServer" c_Server_create 4 (some (.int)) rm_Server_create) (hq : cq E rm_Server_create (pI Z))  (v0 : Nat) (v1 : Option Nat) (v2 : Option Nat) (h : mm_M) (hw : wq_Server_create_0  (mm_ge (eG E)) v0 v1 v2 h Z) : V E 4 0 0 h 0 [(0, va_rf (some v0)), (1, va_rf (v1)), (2, va_rf (v2))] [] := by
  unfold wq_Server_create_0 at hw
  refine V_aload_n hc 1 d_Server_create_0 rfl rfl ?_
  obtain ⟨a1, q2, hw⟩ := hw
  obtain ⟨q3, hw⟩ := hw
  refine V_get (v := .int (mm_I h a1 4)) hc gf_Server_224 q2 q3 rfl d_Server_create_1 ?_
  refine V_if_eq (tgt := 9) hc d_Server_create_4 (by decide) (fun hq1 => ?_) (fun hq1 => ?_)
  · replace hw := hw.1 hq1
    refine V_aload_n hc 2 d_Server_create_9 rfl rfl ?_
    obtain ⟨a4, q5, hw⟩ := hw
    obtain ⟨q6, hw⟩ := hw
    refine V_callV (rm' := rm_Node_isDirectory) (As := []) (rest := []) (n := 0) (cn := 7) hc q5 q6 (sat_Node_isDirectory (eG E) _ _ _ hw) rfl cv_Server_200 (gw_of (tw_3 (List.mem_of_getElem? (i := 62) rfl)) rfl) ss_Node_isDirectory rfl ⟨by decide, by decide⟩ (by decide) (by decide) rfl (by simp [cat_rf, cat_i, cat_l]) d_Server_create_10 (fun r0 h7 hw => ?_)
    obtain ⟨r8, rfl, hw⟩ := hw
    refine V_wide (cs' := 0) (sl' := 0) (by decide) (by decide) ?_
    refine V_st (st' := [.int (r8)]) rfl ?_
    refine V_if_eq (tgt := 24) hc d_Server_create_13 (by decide) (fun hq1 => ?_) (fun hq1 => ?_)
    · replace hw := hw.1 hq1
      refine V_sub (lv' := []) [] rfl ?_
      exact vb_Server_create_24 hc hq  _ hw
    · replace hw := hw.2 hq1
      refine V_aload_n hc 1 d_Server_create_16 rfl rfl ?_
      obtain ⟨a9, q10, hw⟩ := hw
      obtain ⟨q11, hw⟩ := hw
      refine V_get (v := .int (mm_I h7 a9 2)) hc gf_Server_217 q10 q11 rfl d_Server_create_17 ?_
      refine V_iconst (v := (-1)) hc d_Server_create_20 (by decide) ?_
      refine V_icmp_eq (tgt := 26) hc d_Server_create_21 (by decide) (fun hq1 => ?_) (fun hq1 => ?_)
      · replace hw := hw.1 hq1
        refine V_aload_n hc 0 d_Server_create_26 rfl rfl ?_
        obtain ⟨q12, hw⟩ := hw
        refine V_get (v := va_rf (mm_P h7 v0 2)) hc gf_Server_26 rfl q12 rfl d_Server_create_27 ?_
        obtain ⟨a13, q14, hw⟩ := hw
        obtain ⟨q15, hw⟩ := hw
        refine V_callV (rm' := rm_Request_textMayBeName) (As := []) (rest := []) (n := 0) (cn := 8) hc q14 q15 (sat_Request_textMayBeName (eG E) _ _ _ hw) rfl cv_Server_376 (gw_of (tw_3 (List.mem_of_getElem? (i := 171) rfl)) rfl) ss_Request_textMayBeName rfl ⟨by decide, by decide⟩ (by decide) (by decide) rfl (by simp [cat_rf, cat_i, cat_l]) d_Server_create_30 (fun r0 h16 hw => ?_)
        obtain ⟨r17, rfl, hw⟩ := hw
        refine V_wide (cs' := 0) (sl' := 0) (by decide) (by decide) ?_
        refine V_st (st' := [.int (r17)]) rfl ?_
        refine V_if_ne (tgt := 39) hc d_Server_create_33 (by decide) (fun hq1 => ?_) (fun hq1 => ?_)
        · replace hw := hw.1 hq1
          refine V_aload_n hc 0 d_Server_create_39 rfl rfl ?_
          obtain ⟨q18, hw⟩ := hw
          refine V_get (v := va_rf (mm_P h16 v0 4)) hc gf_Server_40 rfl q18 rfl d_Server_create_40 ?_
          refine V_aload_n hc 2 d_Server_create_43 rfl rfl ?_
          obtain ⟨a19, q20, hw⟩ := hw
          obtain ⟨q21, hw⟩ := hw
          refine V_get (v := .int (mm_I h16 a19 0)) hc gf_Server_346 q20 q21 rfl d_Server_create_44 ?_
          refine V_aload_n hc 0 d_Server_create_47 rfl rfl ?_
          refine V_get (v := va_rf (mm_P h16 v0 2)) hc gf_Server_26 rfl q18 rfl d_Server_create_48 ?_
          obtain ⟨a22, q23, hw⟩ := hw
          obtain ⟨q24, hw⟩ := hw
          refine V_callV (rm' := rm_Tree_named) (As := [.int (mm_I h16 a19 0), va_rf (mm_P h16 v0 2)]) (rest := []) (n := 2) (cn := 12) hc q23 q24 (sat_Tree_named (eG E) _ _ _ _ _ hw) rfl cv_Server_354 (gw_of (tw_3 (List.mem_of_getElem? (i := 143) rfl)) rfl) ss_Tree_named rfl ⟨by decide, by decide⟩ (by decide) (by decide) rfl (by simp [cat_rf, cat_i, cat_l]) d_Server_create_51 (fun r0 h25 hw => ?_)
          obtain ⟨r26, rfl, hw⟩ := hw
          refine V_wide (cs' := 0) (sl' := 0) (by decide) (by decide) ?_
          refine V_st (st' := [va_rf (r26)]) rfl ?_
          refine V_ifnull (tgt := 60) hc d_Server_create_54 (by decide) (fun hq1 => ?_) (fun a27 hq1 => ?_)
          · replace hw := hw.1 hq1
            refine V_aload_n hc 0 d_Server_create_60 rfl rfl ?_
            obtain ⟨q28, hw⟩ := hw
            refine V_get (v := va_rf (mm_P h25 v0 2)) hc gf_Server_26 rfl q28 rfl d_Server_create_61 ?_
            obtain ⟨a29, q30, hw⟩ := hw
            obtain ⟨q31, hw⟩ := hw
            refine V_get (v := .int (mm_I h25 a29 10)) hc gf_Server_358 q30 q31 rfl d_Server_create_64 ?_
            refine V_callS (rm' := rm_Server_isBadMode) (As := [.int (mm_I h25 a29 10)]) (rest := []) (n := 1) hc (sat_Server_isBadMode (eG E) _ _ _ hw) cv_Server_359 (gw_of (tw_3 (List.mem_of_getElem? (i := 156) rfl)) rfl) rfl ⟨by decide, by decide⟩ (by decide) (by decide) rfl (by simp [cat_rf, cat_i, cat_l]) d_Server_create_67 (fun r0 h32 hw => ?_)
            obtain ⟨r33, rfl, hw⟩ := hw
            refine V_wide (cs' := 0) (sl' := 0) (by decide) (by decide) ?_
            refine V_st (st' := [.int (r33)]) rfl ?_
            refine V_if_ne (tgt := 93) hc d_Server_create_70 (by decide) (fun hq1 => ?_) (fun hq1 => ?_)
            · replace hw := hw.1 hq1
              refine V_sub (lv' := []) [] rfl ?_
              exact vb_Server_create_93 hc hq  _ hw
            · replace hw := hw.2 hq1
              refine V_aload_n hc 0 d_Server_create_73 rfl rfl ?_
              obtain ⟨q34, hw⟩ := hw
              refine V_get (v := va_rf (mm_P h32 v0 2)) hc gf_Server_26 rfl q34 rfl d_Server_create_74 ?_
              obtain ⟨a35, q36, hw⟩ := hw
              obtain ⟨q37, hw⟩ := hw
              refine V_get (v := .int (mm_I h32 a35 11)) hc gf_Server_379 q36 q37 rfl d_Server_create_77 ?_
              refine V_if_ge (tgt := 96) hc d_Server_create_80 (by decide) (fun hq1 => ?_) (fun hq1 => ?_)
              · replace hw := hw.1 hq1
                refine V_sub (lv' := [(0, va_rf (some v0)), (1, va_rf (v1)), (2, va_rf (v2))]) [0, 1, 2] rfl ?_
                exact vb_Server_create_96 hc hq  _ _ _ _ hw
              · replace hw := hw.2 hq1
                refine V_aload_n hc 0 d_Server_create_83 rfl rfl ?_
                refine V_get (v := va_rf (mm_P h32 v0 2)) hc gf_Server_26 rfl q34 rfl d_Server_create_84 ?_
                refine V_get (v := .int (mm_I h32 a35 10)) hc gf_Server_358 q36 q37 rfl d_Server_create_87 ?_
                refine V_if_eq (tgt := 96) hc d_Server_create_90 (by decide) (fun hq1 => ?_) (fun hq1 => ?_)
                · replace hw := hw.1 hq1
                  refine V_sub (lv' := [(0, va_rf (some v0)), (1, va_rf (v1)), (2, va_rf (v2))]) [0, 1, 2] rfl ?_
                  exact vb_Server_create_96 hc hq  _ _ _ _ hw
                · replace hw := hw.2 hq1
                  refine V_sub (lv' := []) [] rfl ?_
                  exact vb_Server_create_93 hc hq  _ hw
          · replace hw := hw.2 a27 hq1
            refine V_bipush (v := 7) hc d_Server_create_57 (by decide) ?_
            exact V_iret hc hq ⟨_, rfl, hw⟩ (by decide) (by decide) d_Server_create_59
        · replace hw := hw.2 hq1
          refine V_bipush (v := 6) hc d_Server_create_36 (by decide) ?_
          exact V_iret hc hq ⟨_, rfl, hw⟩ (by decide) (by decide) d_Server_create_38
      · replace hw := hw.2 hq1
        refine V_sub (lv' := []) [] rfl ?_
        exact vb_Server_create_24 hc hq  _ hw
  · replace hw := hw.2 hq1
    refine V_iconst (v := 3) hc d_Server_create_7 (by decide) ?_
    exact V_iret hc hq ⟨_, rfl, hw⟩ (by decide) (by decide) d_Server_create_8
def wq_Server_create (ge : Nat → Nat) (v0 : Nat) (v1 : Option Nat) (v2 : Option Nat) (h : mm_M) (Z : Int32 → mm_M → Prop) : Prop := wq_Server_create_0 ge v0 v1 v2 h Z
theorem sat_Server_create (G : mm_G) (v0 : Nat) (v1 : Option Nat) (v2 : Option Nat) (h : mm_M) (Z : Int32 → mm_M → Prop) (hw : wq_Server_create (mm_ge G) v0 v1 v2 h Z) : mm_Met G y_Server_create c_Server_create 4 (some (.int)) rm_Server_create [va_rf (some v0), va_rf (v1), va_rf (v2)] h (pI Z) := by
  refine mm_intro (own := "EpochServer") (by decide) rfl (by simp [lg_sl, cat_rf, cat_i, cat_l]) (fun E e1 hc hq hi => ?_)
  subst e1
  have e2 : lv_args 0 [va_rf (some v0), va_rf (v1), va_rf (v2)] = [(0, va_rf (some v0)), (1, va_rf (v1)), (2, va_rf (v2))] := by simp [lv_args, cat_rf, cat_i, cat_l]
  rw [e2]
  refine V_sub (lv' := [(0, va_rf (some v0)), (1, va_rf (v1)), (2, va_rf (v2))]) [0, 1, 2] rfl ?_
  exact vb_Server_create_0 hc hq v0 v1 v2 h hw
/-! Server.roomToRead()I -/
abbrev rm_Server_roomToRead : Room := { frames := 1, cells := 0, slots := 0, locals := 24 }
def wq_Server_roomToRead_0  (ge : Nat → Nat) (v0 : Nat) (h : mm_M) (Z : Int32 → mm_M → Prop) : Prop :=
  mm_k h (v0) = kd_Server ∧ ∃ a2, mm_P h v0 2 = some a2 ∧ mm_k h (a2) = kd_Request ∧ Z (Int64.toInt32 (if (Int32.toInt64 ((mm_I h v0 10) - (11 : Int32)) : Int64) < ((Int32.toInt64 (mm_I h a2 9)) &&& (4294967295 : Int64)) then (Int32.toInt64 ((mm_I h v0 10) - (11 : Int32))) else ((Int32.toInt64 (mm_I h a2 9)) &&& (4294967295 : Int64)))) h
set_option maxRecDepth 100000 in
set_option maxHeartbeats 4000000 in
theorem vb_Server_roomToRead_0 {E : mm_E} {Z : Int32 → mm_M → Prop} (hc : cx E "EpochServer" c_Server_roomToRead 1 (some (.int)) rm_Server_roomToRead) (hq : cq E rm_Server_roomToRead (pI Z))  (v0 : Nat) (h : mm_M) (hw : wq_Server_roomToRead_0  (mm_ge (eG E)) v0 h Z) : V E 1 0 0 h 0 [(0, va_rf (some v0))] [] := by
  unfold wq_Server_roomToRead_0 at hw
  refine V_aload_n hc 0 d_Server_roomToRead_0 rfl rfl ?_
  obtain ⟨q1, hw⟩ := hw
  refine V_get (v := va_rf (mm_P h v0 2)) hc gf_Server_26 rfl q1 rfl d_Server_roomToRead_1 ?_
  obtain ⟨a2, q3, hw⟩ := hw
  obtain ⟨q4, hw⟩ := hw
  refine V_get (v := .int (mm_I h a2 9)) hc gf_Server_333 q3 q4 rfl d_Server_roomToRead_4 ?_
  refine V_i2l hc d_Server_roomToRead_7 ?_
  refine V_ldc2 (v := 4294967295) hc (gw_of (tw_2 (List.mem_of_getElem? (i := 239) rfl)) rfl) d_Server_roomToRead_8 ?_
  refine V_land hc d_Server_roomToRead_11 ?_
  refine V_aload_n hc 0 d_Server_roomToRead_12 rfl rfl ?_
  refine V_get (v := .int (mm_I h v0 10)) hc gf_Server_72 rfl q1 rfl d_Server_roomToRead_13 ?_
  refine V_bipush (v := 11) hc d_Server_roomToRead_16 (by decide) ?_
  refine V_isub hc d_Server_roomToRead_18 ?_
  refine V_i2l hc d_Server_roomToRead_19 ?_
  refine V_minL hc cv_Server_305 (by simp [cat_rf, cat_i, cat_l]) (by decide) (by decide) (by decide) (by decide) d_Server_roomToRead_20 ?_
  refine V_l2i hc d_Server_roomToRead_23 ?_
  exact V_iret hc hq ⟨_, rfl, hw⟩ (by decide) (by decide) d_Server_roomToRead_24
def wq_Server_roomToRead (ge : Nat → Nat) (v0 : Nat) (h : mm_M) (Z : Int32 → mm_M → Prop) : Prop := wq_Server_roomToRead_0 ge v0 h Z
theorem sat_Server_roomToRead (G : mm_G) (v0 : Nat) (h : mm_M) (Z : Int32 → mm_M → Prop) (hw : wq_Server_roomToRead (mm_ge G) v0 h Z) : mm_Met G y_Server_roomToRead c_Server_roomToRead 1 (some (.int)) rm_Server_roomToRead [va_rf (some v0)] h (pI Z) := by
  refine mm_intro (own := "EpochServer") (by decide) rfl (by simp [lg_sl, cat_rf, cat_i, cat_l]) (fun E e1 hc hq hi => ?_)
  subst e1
  have e2 : lv_args 0 [va_rf (some v0)] = [(0, va_rf (some v0))] := by simp [lv_args, cat_rf, cat_i, cat_l]
  rw [e2]
  refine V_sub (lv' := [(0, va_rf (some v0))]) [0] rfl ?_
  exact vb_Server_roomToRead_0 hc hq v0 h hw
/-! Server.readDirectory(LEpochServer$Fid;LEpochServer$Tree;)I -/
abbrev rm_Server_readDirectory : Room := { frames := 4, cells := 0, slots := 0, locals := 92 }
def wq_Server_readDirectory_153  (ge : Nat → Nat) (v0 : Nat) (v1 : Option Nat) (v4 : Int32) (h : mm_M) (Z : Int32 → mm_M → Prop) : Prop :=
  mm_k h (v0) = kd_Server ∧ ∃ a2, mm_P h v0 1 = some a2 ∧ mm_k h (a2) = kd_Bytes ∧ wq_Bytes_set ge (a2) (7) (v4) (4) h (fun h5 : mm_M => ∃ a7, v1 = some a7 ∧ mm_k h5 (a7) = kd_Fid ∧ ge 0 ≤ a7 ∧ ∀ h11 : mm_M, h11 = mm_uI h5 (a7) 6 ((mm_I h5 a7 6) + (v4)) → Z (0) h11)
def wq_Server_readDirectory_147 (X80 : Nat → Option Nat → Option Nat → Int32 → Int32 → Int32 → mm_M → Prop) (ge : Nat → Nat) (v0 : Nat) (v1 : Option Nat) (v2 : Option Nat) (v3 : Int32) (v4 : Int32) (v5 : Int32) (h : mm_M) (Z : Int32 → mm_M → Prop) : Prop :=
  X80 (v0) (v1) (v2) (v3) (v4) (v5 + 1) h
def wq_Server_readDirectory_80 (X80 : Nat → Option Nat → Option Nat → Int32 → Int32 → Int32 → mm_M → Prop) (ge : Nat → Nat) (v0 : Nat) (v1 : Option Nat) (v2 : Option Nat) (v3 : Int32) (v4 : Int32) (v5 : Int32) (h : mm_M) (Z : Int32 → mm_M → Prop) : Prop :=
  (((60 : Int32) ≤ (v5 : Int32) → wq_Server_readDirectory_153  ge (v0) (v1) (v4) h Z) ∧ (¬ (60 : Int32) ≤ (v5 : Int32) → ∃ a1, v1 = some a1 ∧ mm_k h (a1) = kd_Fid ∧ ∃ a4, v2 = some a4 ∧ mm_k h (a4) = kd_Tree ∧ wq_Tree_in ge (a4) (mm_I h a1 3) (v5) h (fun (r8 : Option Nat) (h7 : mm_M) => ((∀ a9, r8 = some a9 → ∃ a10, r8 = some a10 ∧ mm_k h7 (a10) = kd_Node ∧ wq_Node_statSize ge (a10) h7 (fun (r14 : Int32) (h13 : mm_M) => (((r14 : Int32) ≤ ((v3) - (v4) : Int32) → mm_k h13 (v0) = kd_Server ∧ ∃ a16, mm_P h13 v0 1 = some a16 ∧ mm_k h13 (a16) = kd_Bytes ∧ wq_Bytes_putStat ge (a16) (r8) h13 (fun h19 : mm_M => ∃ a21, r8 = some a21 ∧ mm_k h19 (a21) = kd_Node ∧ wq_Node_statSize ge (a21) h19 (fun (r25 : Int32) (h24 : mm_M) => ∃ a26, v1 = some a26 ∧ mm_k h24 (a26) = kd_Fid ∧ ge 0 ≤ a26 ∧ ∀ h30 : mm_M, h30 = mm_uI h24 (a26) 7 (v5) → wq_Server_readDirectory_147 X80 ge (v0) (v1) (v2) (v3) ((v4) + (r25)) (v5) h30 Z))) ∧ (¬ (r14 : Int32) ≤ ((v3) - (v4) : Int32) → wq_Server_readDirectory_153  ge (v0) (v1) (v4) h13 Z)))) ∧ (r8 = none → wq_Server_readDirectory_147 X80 ge (v0) (v1) (v2) (v3) (v4) (v5) h7 Z)))))
def lp_Server_readDirectory_80  (ge : Nat → Nat) (v0 : Nat) (v1 : Option Nat) (v2 : Option Nat) (v3 : Int32) (v4 : Int32) (v5 : Int32) (h : mm_M) (Z : Int32 → mm_M → Prop) : Prop :=
  ∀ X80 : Nat → Option Nat → Option Nat → Int32 → Int32 → Int32 → mm_M → Prop, (∀ (v0 : Nat) (v1 : Option Nat) (v2 : Option Nat) (v3 : Int32) (v4 : Int32) (v5 : Int32) (h : mm_M), wq_Server_readDirectory_80 X80 ge v0 v1 v2 v3 v4 v5 h Z → X80 v0 v1 v2 v3 v4 v5 h) → X80 v0 v1 v2 v3 v4 v5 h
def wq_Server_readDirectory_55  (ge : Nat → Nat) (v0 : Nat) (v1 : Option Nat) (v2 : Option Nat) (h : mm_M) (Z : Int32 → mm_M → Prop) : Prop :=
  mm_k h (v0) = kd_Server ∧ wq_Server_roomToRead ge (v0) h (fun (r3 : Int32) (h2 : mm_M) => mm_k h2 (v0) = kd_Server ∧ ∃ a5, mm_P h2 v0 1 = some a5 ∧ mm_k h2 (a5) = kd_Bytes ∧ wq_Bytes_put ge (a5) (0) (4) h2 (fun h8 : mm_M => ∃ a10, v1 = some a10 ∧ mm_k h8 (a10) = kd_Fid ∧ lp_Server_readDirectory_80  ge (v0) (v1) (v2) (r3) (0) ((mm_I h8 a10 7) + (1 : Int32)) h8 Z))
def wq_Server_readDirectory_39  (ge : Nat → Nat) (v0 : Nat) (v1 : Option Nat) (v2 : Option Nat) (h : mm_M) (Z : Int32 → mm_M → Prop) : Prop :=
  mm_k h (v0) = kd_Server ∧ ∃ a2, mm_P h v0 2 = some a2 ∧ mm_k h (a2) = kd_Request ∧ ((¬ (lg_cmp (mm_L h a2 13) (0)) = 0 → wq_Server_readDirectory_55  ge (v0) (v1) (v2) h Z) ∧ ((lg_cmp (mm_L h a2 13) (0)) = 0 → ∃ a5, v1 = some a5 ∧ mm_k h (a5) = kd_Fid ∧ wq_Fid_rewind ge (a5) h (fun h8 : mm_M => wq_Server_readDirectory_55  ge (v0) (v1) (v2) h8 Z)))
def wq_Server_readDirectory_0  (ge : Nat → Nat) (v0 : Nat) (v1 : Option Nat) (v2 : Option Nat) (h : mm_M) (Z : Int32 → mm_M → Prop) : Prop :=
  ∃ a1, v1 = some a1 ∧ mm_k h (a1) = kd_Fid ∧ wq_Fid_isOpenForReading ge (a1) h (fun (r5 : Int32) (h4 : mm_M) => ((¬ (r5) = 0 → mm_k h4 (v0) = kd_Server ∧ ∃ a7, mm_P h4 v0 2 = some a7 ∧ mm_k h4 (a7) = kd_Request ∧ (((lg_cmp (mm_L h4 a7 13) (0)) = 0 → wq_Server_readDirectory_39  ge (v0) (v1) (v2) h4 Z) ∧ (¬ (lg_cmp (mm_L h4 a7 13) (0)) = 0 → ∃ a10, v1 = some a10 ∧ mm_k h4 (a10) = kd_Fid ∧ (((lg_cmp (mm_L h4 a7 13) (Int32.toInt64 (mm_I h4 a10 6))) = 0 → wq_Server_readDirectory_39  ge (v0) (v1) (v2) h4 Z) ∧ (¬ (lg_cmp (mm_L h4 a7 13) (Int32.toInt64 (mm_I h4 a10 6))) = 0 → Z (5) h4))))) ∧ ((r5) = 0 → Z (3) h4)))
set_option maxRecDepth 100000 in
set_option maxHeartbeats 4000000 in
theorem vb_Server_readDirectory_153 {E : mm_E} {Z : Int32 → mm_M → Prop} (hc : cx E "EpochServer" c_Server_readDirectory 7 (some (.int)) rm_Server_readDirectory) (hq : cq E rm_Server_readDirectory (pI Z))  (v0 : Nat) (v1 : Option Nat) (v4 : Int32) (h : mm_M) (hw : wq_Server_readDirectory_153  (mm_ge (eG E)) v0 v1 v4 h Z) : V E 7 0 0 h 153 [(0, va_rf (some v0)), (1, va_rf (v1)), (4, .int (v4))] [] := by
  unfold wq_Server_readDirectory_153 at hw
  refine V_aload_n hc 0 d_Server_readDirectory_153 rfl rfl ?_
  obtain ⟨q1, hw⟩ := hw
  refine V_get (v := va_rf (mm_P h v0 1)) hc gf_Server_18 rfl q1 rfl d_Server_readDirectory_154 ?_
  refine V_bipush (v := 7) hc d_Server_readDirectory_157 (by decide) ?_
  refine V_iload hc 2 d_Server_readDirectory_159 rfl ?_
  refine V_iconst (v := 4) hc d_Server_readDirectory_161 (by decide) ?_
  obtain ⟨a2, q3, hw⟩ := hw
  obtain ⟨q4, hw⟩ := hw
  refine V_callV (rm' := rm_Bytes_set) (As := [.int (7), .int (v4), .int (4)]) (rest := []) (n := 3) (cn := 3) hc q3 q4 (sat_Bytes_set (eG E) _ _ _ _ _ _ hw) rfl cv_Server_112 (gw_of (tw_2 (List.mem_of_getElem? (i := 174) rfl)) rfl) ss_Bytes_set rfl ⟨by decide, by decide⟩ (by decide) (by decide) rfl (by simp [cat_rf, cat_i, cat_l]) d_Server_readDirectory_162 (fun r0 h5 hw => ?_)
  obtain ⟨rfl, hw⟩ := hw
  refine V_wide (cs' := 0) (sl' := 0) (by decide) (by decide) ?_
  refine V_st (st' := []) rfl ?_
  refine V_aload_n hc 1 d_Server_readDirectory_165 rfl rfl ?_
  refine V_dup hc d_Server_readDirectory_166 (cat_rf _) ?_
  obtain ⟨a7, q8, hw⟩ := hw
  obtain ⟨q9, hw⟩ := hw
  refine V_get (v := .int (mm_I h5 a7 6)) hc gf_Server_406 q8 q9 rfl d_Server_readDirectory_167 ?_
  refine V_iload hc 2 d_Server_readDirectory_170 rfl ?_
  refine V_iadd hc d_Server_readDirectory_172 ?_
  obtain ⟨q10, hw⟩ := hw
  obtain ⟨h11, eq_h11⟩ : ∃ x, x = mm_uI h5 (a7) 6 ((mm_I h5 a7 6) + (v4)) := ⟨_, rfl⟩
  replace hw := hw _ eq_h11
  refine V_put (h' := h11) hc gf_Server_406 rfl q8 q9 q10 (by rw [eq_h11]; exact mm_Up_I _ _ _ _) (by rw [eq_h11]; exact up_vI rfl) (vp_nar_int _) rfl d_Server_readDirectory_173 ?_
  refine V_iconst (v := 0) hc d_Server_readDirectory_176 (by decide) ?_
  exact V_iret hc hq ⟨_, rfl, hw⟩ (by decide) (by decide) d_Server_readDirectory_177
set_option maxRecDepth 100000 in
set_option maxHeartbeats 4000000 in
theorem vb_Server_readDirectory_147 {E : mm_E} {Z : Int32 → mm_M → Prop} (hc : cx E "EpochServer" c_Server_readDirectory 7 (some (.int)) rm_Server_readDirectory) (hq : cq E rm_Server_readDirectory (pI Z)) (X80 : Nat → Option Nat → Option Nat → Int32 → Int32 → Int32 → mm_M → Prop) (hX80 : ∀ (v0 : Nat) (v1 : Option Nat) (v2 : Option Nat) (v3 : Int32) (v4 : Int32) (v5 : Int32) (h : mm_M), X80 v0 v1 v2 v3 v4 v5 h → V E 7 0 0 h 80 [(0, va_rf (some v0)), (1, va_rf (v1)), (2, va_rf (v2)), (3, .int (v3)), (4, .int (v4)), (5, .int (v5))] []) (v0 : Nat) (v1 : Option Nat) (v2 : Option Nat) (v3 : Int32) (v4 : Int32) (v5 : Int32) (h : mm_M) (hw : wq_Server_readDirectory_147 X80 (mm_ge (eG E)) v0 v1 v2 v3 v4 v5 h Z) : V E 7 0 0 h 147 [(0, va_rf (some v0)), (1, va_rf (v1)), (2, va_rf (v2)), (3, .int (v3)), (4, .int (v4)), (5, .int (v5))] [] := by
  unfold wq_Server_readDirectory_147 at hw
  refine V_iinc (v := v5 + 1) (lv' := [(5, .int (v5 + 1)), (0, va_rf (some v0)), (1, va_rf (v1)), (2, va_rf (v2)), (3, .int (v3)), (4, .int (v4))]) hc 5 d_Server_readDirectory_147 rfl rfl (by decide) rfl ?_
  refine V_goto (tgt := 80) hc d_Server_readDirectory_150 (by decide) ?_
  refine V_sub (lv' := [(0, va_rf (some v0)), (1, va_rf (v1)), (2, va_rf (v2)), (3, .int (v3)), (4, .int (v4)), (5, .int (v5 + 1))]) [1, 2, 3, 4, 5, 0] rfl ?_
  exact hX80 _ _ _ _ _ _ _ hw
set_option maxRecDepth 100000 in
set_option maxHeartbeats 4000000 in
theorem vb_Server_readDirectory_80 {E : mm_E} {Z : Int32 → mm_M → Prop} (hc : cx E "EpochServer" c_Server_readDirectory 7 (some (.int)) rm_Server_readDirectory) (hq : cq E rm_Server_readDirectory (pI Z)) (X80 : Nat → Option Nat → Option Nat → Int32 → Int32 → Int32 → mm_M → Prop) (hX80 : ∀ (v0 : Nat) (v1 : Option Nat) (v2 : Option Nat) (v3 : Int32) (v4 : Int32) (v5 : Int32) (h : mm_M), X80 v0 v1 v2 v3 v4 v5 h → V E 7 0 0 h 80 [(0, va_rf (some v0)), (1, va_rf (v1)), (2, va_rf (v2)), (3, .int (v3)), (4, .int (v4)), (5, .int (v5))] []) (v0 : Nat) (v1 : Option Nat) (v2 : Option Nat) (v3 : Int32) (v4 : Int32) (v5 : Int32) (h : mm_M) (hw : wq_Server_readDirectory_80 X80 (mm_ge (eG E)) v0 v1 v2 v3 v4 v5 h Z) : V E 7 0 0 h 80 [(0, va_rf (some v0)), (1, va_rf (v1)), (2, va_rf (v2)), (3, .int (v3)), (4, .int (v4)), (5, .int (v5))] [] := by
  unfold wq_Server_readDirectory_80 at hw
  refine V_iload hc 5 d_Server_readDirectory_80 rfl ?_
  refine V_bipush (v := 60) hc d_Server_readDirectory_82 (by decide) ?_
  refine V_icmp_ge (tgt := 153) hc d_Server_readDirectory_84 (by decide) (fun hq1 => ?_) (fun hq1 => ?_)
  · replace hw := hw.1 hq1
    refine V_sub (lv' := [(0, va_rf (some v0)), (1, va_rf (v1)), (4, .int (v4))]) [0, 1, 4] rfl ?_
    exact vb_Server_readDirectory_153 hc hq  _ _ _ _ hw
  · replace hw := hw.2 hq1
    refine V_aload_n hc 2 d_Server_readDirectory_87 rfl rfl ?_
    refine V_aload_n hc 1 d_Server_readDirectory_88 rfl rfl ?_
    obtain ⟨a1, q2, hw⟩ := hw
    obtain ⟨q3, hw⟩ := hw
    refine V_get (v := .int (mm_I h a1 3)) hc gf_Server_221 q2 q3 rfl d_Server_readDirectory_89 ?_
    refine V_iload hc 5 d_Server_readDirectory_92 rfl ?_
    obtain ⟨a4, q5, hw⟩ := hw
    obtain ⟨q6, hw⟩ := hw
    refine V_callV (rm' := rm_Tree_in) (As := [.int (mm_I h a1 3), .int (v5)]) (rest := []) (n := 2) (cn := 12) hc q5 q6 (sat_Tree_in (eG E) _ _ _ _ _ hw) rfl cv_Server_415 (gw_of (tw_3 (List.mem_of_getElem? (i := 88) rfl)) rfl) ss_Tree_in rfl ⟨by decide, by decide⟩ (by decide) (by decide) rfl (by simp [cat_rf, cat_i, cat_l]) d_Server_readDirectory_94 (fun r0 h7 hw => ?_)
    obtain ⟨r8, rfl, hw⟩ := hw
    refine V_wide (cs' := 0) (sl' := 0) (by decide) (by decide) ?_
    refine V_st (st' := [va_rf (r8)]) rfl ?_
    refine V_astore (i := 6) (lv' := [(6, va_rf (r8)), (0, va_rf (some v0)), (1, va_rf (v1)), (2, va_rf (v2)), (3, .int (v3)), (4, .int (v4)), (5, .int (v5))]) hc d_Server_readDirectory_97 (by decide) rfl ?_
    refine V_aload hc 0 d_Server_readDirectory_99 rfl ?_
    refine V_ifnonnull (tgt := 107) hc d_Server_readDirectory_101 (by decide) (fun a9 hq1 => ?_) (fun hq1 => ?_)
    · replace hw := hw.1 a9 hq1
      refine V_aload hc 0 d_Server_readDirectory_107 rfl ?_
      obtain ⟨a10, q11, hw⟩ := hw
      obtain ⟨q12, hw⟩ := hw
      refine V_callV (rm' := rm_Node_statSize) (As := []) (rest := []) (n := 0) (cn := 7) hc q11 q12 (sat_Node_statSize (eG E) _ _ _ hw) rfl cv_Server_419 (gw_of (tw_3 (List.mem_of_getElem? (i := 198) rfl)) rfl) ss_Node_statSize rfl ⟨by decide, by decide⟩ (by decide) (by decide) rfl (by simp [cat_rf, cat_i, cat_l]) d_Server_readDirectory_109 (fun r0 h13 hw => ?_)
      obtain ⟨r14, rfl, hw⟩ := hw
      refine V_wide (cs' := 0) (sl' := 0) (by decide) (by decide) ?_
      refine V_st (st' := [.int (r14)]) rfl ?_
      refine V_iload_n hc 4 d_Server_readDirectory_112 rfl rfl ?_
      refine V_iload hc 5 d_Server_readDirectory_113 rfl ?_
      refine V_isub hc d_Server_readDirectory_115 ?_
      refine V_icmp_le (tgt := 122) hc d_Server_readDirectory_116 (by decide) (fun hq1 => ?_) (fun hq1 => ?_)
      · replace hw := hw.1 hq1
        refine V_aload_n hc 1 d_Server_readDirectory_122 rfl rfl ?_
        obtain ⟨q15, hw⟩ := hw
        refine V_get (v := va_rf (mm_P h13 v0 1)) hc gf_Server_18 rfl q15 rfl d_Server_readDirectory_123 ?_
        refine V_aload hc 0 d_Server_readDirectory_126 rfl ?_
        obtain ⟨a16, q17, hw⟩ := hw
        obtain ⟨q18, hw⟩ := hw
        refine V_callV (rm' := rm_Bytes_putStat) (As := [va_rf (r8)]) (rest := []) (n := 1) (cn := 3) hc q17 q18 (sat_Bytes_putStat (eG E) _ _ _ _ hw) rfl cv_Server_422 (gw_of (tw_3 (List.mem_of_getElem? (i := 202) rfl)) rfl) ss_Bytes_putStat rfl ⟨by decide, by decide⟩ (by decide) (by decide) rfl (by simp [cat_rf, cat_i, cat_l]) d_Server_readDirectory_128 (fun r0 h19 hw => ?_)
        obtain ⟨rfl, hw⟩ := hw
        refine V_wide (cs' := 0) (sl' := 0) (by decide) (by decide) ?_
        refine V_st (st' := []) rfl ?_
        refine V_iload hc 5 d_Server_readDirectory_131 rfl ?_
        refine V_aload hc 0 d_Server_readDirectory_133 rfl ?_
        obtain ⟨a21, q22, hw⟩ := hw
        obtain ⟨q23, hw⟩ := hw
        refine V_callV (rm' := rm_Node_statSize) (As := []) (rest := [.int (v4)]) (n := 0) (cn := 7) hc q22 q23 (sat_Node_statSize (eG E) _ _ _ hw) rfl cv_Server_419 (gw_of (tw_3 (List.mem_of_getElem? (i := 198) rfl)) rfl) ss_Node_statSize rfl ⟨by decide, by decide⟩ (by decide) (by decide) rfl (by simp [cat_rf, cat_i, cat_l]) d_Server_readDirectory_135 (fun r0 h24 hw => ?_)
        obtain ⟨r25, rfl, hw⟩ := hw
        refine V_wide (cs' := 0) (sl' := 0) (by decide) (by decide) ?_
        refine V_st (st' := [.int (r25), .int (v4)]) rfl ?_
        refine V_iadd hc d_Server_readDirectory_138 ?_
        refine V_istore (i := 4) (lv' := [(4, .int ((v4) + (r25))), (6, va_rf (r8)), (0, va_rf (some v0)), (1, va_rf (v1)), (2, va_rf (v2)), (3, .int (v3)), (5, .int (v5))]) hc d_Server_readDirectory_139 (by decide) rfl ?_
        refine V_aload_n hc 3 d_Server_readDirectory_141 rfl rfl ?_
        refine V_iload hc 6 d_Server_readDirectory_142 rfl ?_
        obtain ⟨a26, q27, hw⟩ := hw
        obtain ⟨q28, hw⟩ := hw
        obtain ⟨q29, hw⟩ := hw
        obtain ⟨h30, eq_h30⟩ : ∃ x, x = mm_uI h24 (a26) 7 (v5) := ⟨_, rfl⟩
        replace hw := hw _ eq_h30
        refine V_put (h' := h30) hc gf_Server_412 rfl q27 q28 q29 (by rw [eq_h30]; exact mm_Up_I _ _ _ _) (by rw [eq_h30]; exact up_vI rfl) (vp_nar_int _) rfl d_Server_readDirectory_144 ?_
        refine V_sub (lv' := [(0, va_rf (some v0)), (1, va_rf (v1)), (2, va_rf (v2)), (3, .int (v3)), (4, .int ((v4) + (r25))), (5, .int (v5))]) [2, 3, 4, 5, 0, 6] rfl ?_
        exact vb_Server_readDirectory_147 hc hq X80 hX80 _ _ _ _ _ _ _ hw
      · replace hw := hw.2 hq1
        refine V_goto (tgt := 153) hc d_Server_readDirectory_119 (by decide) ?_
        refine V_sub (lv' := [(0, va_rf (some v0)), (1, va_rf (v1)), (4, .int (v4))]) [1, 2, 5] rfl ?_
        exact vb_Server_readDirectory_153 hc hq  _ _ _ _ hw
    · replace hw := hw.2 hq1
      refine V_goto (tgt := 147) hc d_Server_readDirectory_104 (by decide) ?_
      refine V_sub (lv' := [(0, va_rf (some v0)), (1, va_rf (v1)), (2, va_rf (v2)), (3, .int (v3)), (4, .int (v4)), (5, .int (v5))]) [1, 2, 3, 4, 5, 6] rfl ?_
      exact vb_Server_readDirectory_147 hc hq X80 hX80 _ _ _ _ _ _ _ hw
theorem vl_Server_readDirectory_80 {E : mm_E} {Z : Int32 → mm_M → Prop} (hc : cx E "EpochServer" c_Server_readDirectory 7 (some (.int)) rm_Server_readDirectory) (hq : cq E rm_Server_readDirectory (pI Z))  (v0 : Nat) (v1 : Option Nat) (v2 : Option Nat) (v3 : Int32) (v4 : Int32) (v5 : Int32) (h : mm_M) (hw : lp_Server_readDirectory_80  (mm_ge (eG E)) v0 v1 v2 v3 v4 v5 h Z) : V E 7 0 0 h 80 [(0, va_rf (some v0)), (1, va_rf (v1)), (2, va_rf (v2)), (3, .int (v3)), (4, .int (v4)), (5, .int (v5))] [] :=
  hw (fun v0 v1 v2 v3 v4 v5 h => V E 7 0 0 h 80 [(0, va_rf (some v0)), (1, va_rf (v1)), (2, va_rf (v2)), (3, .int (v3)), (4, .int (v4)), (5, .int (v5))] []) (fun v0 v1 v2 v3 v4 v5 h hb => vb_Server_readDirectory_80 hc hq  _ (fun _ _ _ _ _ _ _ q => q) v0 v1 v2 v3 v4 v5 h hb)
set_option maxRecDepth 100000 in
set_option maxHeartbeats 4000000 in
theorem vb_Server_readDirectory_55 {E : mm_E} {Z : Int32 → mm_M → Prop} (hc : cx E "EpochServer" c_Server_readDirectory 7 (some (.int)) rm_Server_readDirectory) (hq : cq E rm_Server_readDirectory (pI Z))  (v0 : Nat) (v1 : Option Nat) (v2 : Option Nat) (h : mm_M) (hw : wq_Server_readDirectory_55  (mm_ge (eG E)) v0 v1 v2 h Z) : V E 7 0 0 h 55 [(0, va_rf (some v0)), (1, va_rf (v1)), (2, va_rf (v2))] [] := by
  unfold wq_Server_readDirectory_55 at hw
  refine V_aload_n hc 0 d_Server_readDirectory_55 rfl rfl ?_
  obtain ⟨q1, hw⟩ := hw
  refine V_callV (rm' := rm_Server_roomToRead) (As := []) (rest := []) (n := 0) (cn := 1) hc rfl q1 (sat_Server_roomToRead (eG E) _ _ _ hw) rfl cv_Server_397 (gw_of (tw_3 (List.mem_of_getElem? (i := 194) rfl)) rfl) ss_Server_roomToRead rfl ⟨by decide, by decide⟩ (by decide) (by decide) rfl (by simp [cat_rf, cat_i, cat_l]) d_Server_readDirectory_56 (fun r0 h2 hw => ?_)
  obtain ⟨r3, rfl, hw⟩ := hw
  refine V_wide (cs' := 0) (sl' := 0) (by decide) (by decide) ?_
  refine V_st (st' := [.int (r3)]) rfl ?_
  refine V_istore_n (i := 3) (lv' := [(3, .int (r3)), (0, va_rf (some v0)), (1, va_rf (v1)), (2, va_rf (v2))]) hc d_Server_readDirectory_59 rfl (by decide) (by simp [cat_rf, cat_i, cat_l]) ?_
  refine V_iconst (v := 0) hc d_Server_readDirectory_60 (by decide) ?_
  refine V_istore (i := 4) (lv' := [(4, .int (0)), (3, .int (r3)), (0, va_rf (some v0)), (1, va_rf (v1)), (2, va_rf (v2))]) hc d_Server_readDirectory_61 (by decide) rfl ?_
  refine V_aload_n hc 2 d_Server_readDirectory_63 rfl rfl ?_
  obtain ⟨q4, hw⟩ := hw
  refine V_get (v := va_rf (mm_P h2 v0 1)) hc gf_Server_18 rfl q4 rfl d_Server_readDirectory_64 ?_
  refine V_lconst (v := 0) hc d_Server_readDirectory_67 (by decide) ?_
  refine V_iconst (v := 4) hc d_Server_readDirectory_68 (by decide) ?_
  obtain ⟨a5, q6, hw⟩ := hw
  obtain ⟨q7, hw⟩ := hw
  refine V_callV (rm' := rm_Bytes_put) (As := [.long (0), .int (4)]) (rest := []) (n := 2) (cn := 3) hc q6 q7 (sat_Bytes_put (eG E) _ _ _ _ _ hw) rfl cv_Server_129 (gw_of (tw_2 (List.mem_of_getElem? (i := 158) rfl)) rfl) ss_Bytes_put rfl ⟨by decide, by decide⟩ (by decide) (by decide) rfl (by simp [cat_rf, cat_i, cat_l]) d_Server_readDirectory_69 (fun r0 h8 hw => ?_)
  obtain ⟨rfl, hw⟩ := hw
  refine V_wide (cs' := 0) (sl' := 0) (by decide) (by decide) ?_
  refine V_st (st' := []) rfl ?_
  refine V_aload_n hc 3 d_Server_readDirectory_72 rfl rfl ?_
  obtain ⟨a10, q11, hw⟩ := hw
  obtain ⟨q12, hw⟩ := hw
  refine V_get (v := .int (mm_I h8 a10 7)) hc gf_Server_412 q11 q12 rfl d_Server_readDirectory_73 ?_
  refine V_iconst (v := 1) hc d_Server_readDirectory_76 (by decide) ?_
  refine V_iadd hc d_Server_readDirectory_77 ?_
  refine V_istore (i := 5) (lv' := [(5, .int ((mm_I h8 a10 7) + (1 : Int32))), (4, .int (0)), (3, .int (r3)), (0, va_rf (some v0)), (1, va_rf (v1)), (2, va_rf (v2))]) hc d_Server_readDirectory_78 (by decide) rfl ?_
  refine V_sub (lv' := [(0, va_rf (some v0)), (1, va_rf (v1)), (2, va_rf (v2)), (3, .int (r3)), (4, .int (0)), (5, .int ((mm_I h8 a10 7) + (1 : Int32)))]) [3, 4, 5, 2, 1, 0] rfl ?_
  exact vl_Server_readDirectory_80 hc hq  _ _ _ _ _ _ _ hw
set_option maxRecDepth 100000 in
set_option maxHeartbeats 4000000 in
theorem vb_Server_readDirectory_39 {E : mm_E} {Z : Int32 → mm_M → Prop} (hc : cx E "EpochServer" c_Server_readDirectory 7 (some (.int)) rm_Server_readDirectory) (hq : cq E rm_Server_readDirectory (pI Z))  (v0 : Nat) (v1 : Option Nat) (v2 : Option Nat) (h : mm_M) (hw : wq_Server_readDirectory_39  (mm_ge (eG E)) v0 v1 v2 h Z) : V E 7 0 0 h 39 [(0, va_rf (some v0)), (1, va_rf (v1)), (2, va_rf (v2))] [] := by
  unfold wq_Server_readDirectory_39 at hw
  refine V_aload_n hc 0 d_Server_readDirectory_39 rfl rfl ?_
  obtain ⟨q1, hw⟩ := hw
  refine V_get (v := va_rf (mm_P h v0 2)) hc gf_Server_26 rfl q1 rfl d_Server_readDirectory_40 ?_
  obtain ⟨a2, q3, hw⟩ := hw
  obtain ⟨q4, hw⟩ := hw
  refine V_get (v := .long (mm_L h a2 13)) hc gf_Server_389 q3 q4 rfl d_Server_readDirectory_43 ?_
  refine V_lconst (v := 0) hc d_Server_readDirectory_46 (by decide) ?_
  refine V_lcmp hc d_Server_readDirectory_47 ?_
  refine V_if_ne (tgt := 55) hc d_Server_readDirectory_48 (by decide) (fun hq1 => ?_) (fun hq1 => ?_)
  · replace hw := hw.1 hq1
    refine V_sub (lv' := [(0, va_rf (some v0)), (1, va_rf (v1)), (2, va_rf (v2))]) [0, 1, 2] rfl ?_
    exact vb_Server_readDirectory_55 hc hq  _ _ _ _ hw
  · replace hw := hw.2 hq1
    refine V_aload_n hc 1 d_Server_readDirectory_51 rfl rfl ?_
    obtain ⟨a5, q6, hw⟩ := hw
    obtain ⟨q7, hw⟩ := hw
    refine V_callV (rm' := rm_Fid_rewind) (As := []) (rest := []) (n := 0) (cn := 4) hc q6 q7 (sat_Fid_rewind (eG E) _ _ _ hw) rfl cv_Server_409 (gw_of (tw_3 (List.mem_of_getElem? (i := 54) rfl)) rfl) ss_Fid_rewind rfl ⟨by decide, by decide⟩ (by decide) (by decide) rfl (by simp [cat_rf, cat_i, cat_l]) d_Server_readDirectory_52 (fun r0 h8 hw => ?_)
    obtain ⟨rfl, hw⟩ := hw
    refine V_wide (cs' := 0) (sl' := 0) (by decide) (by decide) ?_
    refine V_st (st' := []) rfl ?_
    refine V_sub (lv' := [(0, va_rf (some v0)), (1, va_rf (v1)), (2, va_rf (v2))]) [0, 1, 2] rfl ?_
    exact vb_Server_readDirectory_55 hc hq  _ _ _ _ hw
set_option maxRecDepth 100000 in
set_option maxHeartbeats 4000000 in
theorem vb_Server_readDirectory_0 {E : mm_E} {Z : Int32 → mm_M → Prop} (hc : cx E "EpochServer" c_Server_readDirectory 7 (some (.int)) rm_Server_readDirectory) (hq : cq E rm_Server_readDirectory (pI Z))  (v0 : Nat) (v1 : Option Nat) (v2 : Option Nat) (h : mm_M) (hw : wq_Server_readDirectory_0  (mm_ge (eG E)) v0 v1 v2 h Z) : V E 7 0 0 h 0 [(0, va_rf (some v0)), (1, va_rf (v1)), (2, va_rf (v2))] [] := by
  unfold wq_Server_readDirectory_0 at hw
  refine V_aload_n hc 1 d_Server_readDirectory_0 rfl rfl ?_
  obtain ⟨a1, q2, hw⟩ := hw
  obtain ⟨q3, hw⟩ := hw
  refine V_callV (rm' := rm_Fid_isOpenForReading) (As := []) (rest := []) (n := 0) (cn := 4) hc q2 q3 (sat_Fid_isOpenForReading (eG E) _ _ _ hw) rfl cv_Server_386 (gw_of (tw_3 (List.mem_of_getElem? (i := 188) rfl)) rfl) ss_Fid_isOpenForReading rfl ⟨by decide, by decide⟩ (by decide) (by decide) rfl (by simp [cat_rf, cat_i, cat_l]) d_Server_readDirectory_1 (fun r0 h4 hw => ?_)
  obtain ⟨r5, rfl, hw⟩ := hw
  refine V_wide (cs' := 0) (sl' := 0) (by decide) (by decide) ?_
  refine V_st (st' := [.int (r5)]) rfl ?_
  refine V_if_ne (tgt := 9) hc d_Server_readDirectory_4 (by decide) (fun hq1 => ?_) (fun hq1 => ?_)
  · replace hw := hw.1 hq1
    refine V_aload_n hc 0 d_Server_readDirectory_9 rfl rfl ?_
    obtain ⟨q6, hw⟩ := hw
    refine V_get (v := va_rf (mm_P h4 v0 2)) hc gf_Server_26 rfl q6 rfl d_Server_readDirectory_10 ?_
    obtain ⟨a7, q8, hw⟩ := hw
    obtain ⟨q9, hw⟩ := hw
    refine V_get (v := .long (mm_L h4 a7 13)) hc gf_Server_389 q8 q9 rfl d_Server_readDirectory_13 ?_
    refine V_lconst (v := 0) hc d_Server_readDirectory_16 (by decide) ?_
    refine V_lcmp hc d_Server_readDirectory_17 ?_
    refine V_if_eq (tgt := 39) hc d_Server_readDirectory_18 (by decide) (fun hq1 => ?_) (fun hq1 => ?_)
    · replace hw := hw.1 hq1
      refine V_sub (lv' := [(0, va_rf (some v0)), (1, va_rf (v1)), (2, va_rf (v2))]) [0, 1, 2] rfl ?_
      exact vb_Server_readDirectory_39 hc hq  _ _ _ _ hw
    · replace hw := hw.2 hq1
      refine V_aload_n hc 0 d_Server_readDirectory_21 rfl rfl ?_
      refine V_get (v := va_rf (mm_P h4 v0 2)) hc gf_Server_26 rfl q6 rfl d_Server_readDirectory_22 ?_
      refine V_get (v := .long (mm_L h4 a7 13)) hc gf_Server_389 q8 q9 rfl d_Server_readDirectory_25 ?_
      refine V_aload_n hc 1 d_Server_readDirectory_28 rfl rfl ?_
      obtain ⟨a10, q11, hw⟩ := hw
      obtain ⟨q12, hw⟩ := hw
      refine V_get (v := .int (mm_I h4 a10 6)) hc gf_Server_406 q11 q12 rfl d_Server_readDirectory_29 ?_
      refine V_i2l hc d_Server_readDirectory_32 ?_
      refine V_lcmp hc d_Server_readDirectory_33 ?_
      refine V_if_eq (tgt := 39) hc d_Server_readDirectory_34 (by decide) (fun hq1 => ?_) (fun hq1 => ?_)
      · replace hw := hw.1 hq1
        refine V_sub (lv' := [(0, va_rf (some v0)), (1, va_rf (v1)), (2, va_rf (v2))]) [0, 1, 2] rfl ?_
        exact vb_Server_readDirectory_39 hc hq  _ _ _ _ hw
      · replace hw := hw.2 hq1
        refine V_iconst (v := 5) hc d_Server_readDirectory_37 (by decide) ?_
        exact V_iret hc hq ⟨_, rfl, hw⟩ (by decide) (by decide) d_Server_readDirectory_38
  · replace hw := hw.2 hq1
    refine V_iconst (v := 3) hc d_Server_readDirectory_7 (by decide) ?_
    exact V_iret hc hq ⟨_, rfl, hw⟩ (by decide) (by decide) d_Server_readDirectory_8
def wq_Server_readDirectory (ge : Nat → Nat) (v0 : Nat) (v1 : Option Nat) (v2 : Option Nat) (h : mm_M) (Z : Int32 → mm_M → Prop) : Prop := wq_Server_readDirectory_0 ge v0 v1 v2 h Z
theorem sat_Server_readDirectory (G : mm_G) (v0 : Nat) (v1 : Option Nat) (v2 : Option Nat) (h : mm_M) (Z : Int32 → mm_M → Prop) (hw : wq_Server_readDirectory (mm_ge G) v0 v1 v2 h Z) : mm_Met G y_Server_readDirectory c_Server_readDirectory 7 (some (.int)) rm_Server_readDirectory [va_rf (some v0), va_rf (v1), va_rf (v2)] h (pI Z) := by
  refine mm_intro (own := "EpochServer") (by decide) rfl (by simp [lg_sl, cat_rf, cat_i, cat_l]) (fun E e1 hc hq hi => ?_)
  subst e1
  have e2 : lv_args 0 [va_rf (some v0), va_rf (v1), va_rf (v2)] = [(0, va_rf (some v0)), (1, va_rf (v1)), (2, va_rf (v2))] := by simp [lv_args, cat_rf, cat_i, cat_l]
  rw [e2]
  refine V_sub (lv' := [(0, va_rf (some v0)), (1, va_rf (v1)), (2, va_rf (v2))]) [0, 1, 2] rfl ?_
  exact vb_Server_readDirectory_0 hc hq v0 v1 v2 h hw
/-! Server.isAbove(JI)Z -/
abbrev rm_Server_isAbove : Room := { frames := 0, cells := 0, slots := 0, locals := 0 }
def wq_Server_isAbove_18  (ge : Nat → Nat) (s0 : Int32) (h : mm_M) (Z : Int32 → mm_M → Prop) : Prop :=
  ((s0) = 0 ∨ (s0) = 1) ∧ Z (s0) h
def wq_Server_isAbove_13  (ge : Nat → Nat)  (h : mm_M) (Z : Int32 → mm_M → Prop) : Prop :=
  wq_Server_isAbove_18  ge (1) h Z
def wq_Server_isAbove_0  (ge : Nat → Nat) (v0 : Int64) (v2 : Int32) (h : mm_M) (Z : Int32 → mm_M → Prop) : Prop :=
  (((lg_cmp (v0) (0)) < 0 → wq_Server_isAbove_13  ge h Z) ∧ (¬ (lg_cmp (v0) (0)) < 0 → (((lg_cmp (v0) (Int32.toInt64 (v2))) ≤ 0 → wq_Server_isAbove_18  ge (0) h Z) ∧ (¬ (lg_cmp (v0) (Int32.toInt64 (v2))) ≤ 0 → wq_Server_isAbove_13  ge h Z))))
set_option maxRecDepth 100000 in
set_option maxHeartbeats 4000000 in
theorem vb_Server_isAbove_18 {E : mm_E} {Z : Int32 → mm_M → Prop} (hc : cx E "EpochServer" c_Server_isAbove 3 (some (.boolean)) rm_Server_isAbove) (hq : cq E rm_Server_isAbove (pI Z))  (s0 : Int32) (h : mm_M) (hw : wq_Server_isAbove_18  (mm_ge (eG E)) s0 h Z) : V E 3 0 0 h 18 [] [.int (s0)] := by
  unfold wq_Server_isAbove_18 at hw
  obtain ⟨q1, hw⟩ := hw
  exact V_zret hc hq (zz_nar q1) ⟨_, rfl, hw⟩ (by decide) (by decide) d_Server_isAbove_18
set_option maxRecDepth 100000 in
set_option maxHeartbeats 4000000 in
theorem vb_Server_isAbove_13 {E : mm_E} {Z : Int32 → mm_M → Prop} (hc : cx E "EpochServer" c_Server_isAbove 3 (some (.boolean)) rm_Server_isAbove) (hq : cq E rm_Server_isAbove (pI Z))   (h : mm_M) (hw : wq_Server_isAbove_13  (mm_ge (eG E))  h Z) : V E 3 0 0 h 13 [] [] := by
  unfold wq_Server_isAbove_13 at hw
  refine V_iconst (v := 1) hc d_Server_isAbove_13 (by decide) ?_
  refine V_goto (tgt := 18) hc d_Server_isAbove_14 (by decide) ?_
  refine V_sub (lv' := []) [] rfl ?_
  exact vb_Server_isAbove_18 hc hq  _ _ hw
set_option maxRecDepth 100000 in
set_option maxHeartbeats 4000000 in
theorem vb_Server_isAbove_0 {E : mm_E} {Z : Int32 → mm_M → Prop} (hc : cx E "EpochServer" c_Server_isAbove 3 (some (.boolean)) rm_Server_isAbove) (hq : cq E rm_Server_isAbove (pI Z))  (v0 : Int64) (v2 : Int32) (h : mm_M) (hw : wq_Server_isAbove_0  (mm_ge (eG E)) v0 v2 h Z) : V E 3 0 0 h 0 [(0, .long (v0)), (2, .int (v2))] [] := by
  unfold wq_Server_isAbove_0 at hw
  refine V_lload_n hc 0 d_Server_isAbove_0 rfl rfl ?_
  refine V_lconst (v := 0) hc d_Server_isAbove_1 (by decide) ?_
  refine V_lcmp hc d_Server_isAbove_2 ?_
  refine V_if_lt (tgt := 13) hc d_Server_isAbove_3 (by decide) (fun hq1 => ?_) (fun hq1 => ?_)
  · replace hw := hw.1 hq1
    refine V_sub (lv' := []) [] rfl ?_
    exact vb_Server_isAbove_13 hc hq  _ hw
  · replace hw := hw.2 hq1
    refine V_lload_n hc 0 d_Server_isAbove_6 rfl rfl ?_
    refine V_iload_n hc 1 d_Server_isAbove_7 rfl rfl ?_
    refine V_i2l hc d_Server_isAbove_8 ?_
    refine V_lcmp hc d_Server_isAbove_9 ?_
    refine V_if_le (tgt := 17) hc d_Server_isAbove_10 (by decide) (fun hq1 => ?_) (fun hq1 => ?_)
    · replace hw := hw.1 hq1
      refine V_iconst (v := 0) hc d_Server_isAbove_17 (by decide) ?_
      refine V_sub (lv' := []) [] rfl ?_
      exact vb_Server_isAbove_18 hc hq  _ _ hw
    · replace hw := hw.2 hq1
      refine V_sub (lv' := []) [] rfl ?_
      exact vb_Server_isAbove_13 hc hq  _ hw
def wq_Server_isAbove (ge : Nat → Nat) (v0 : Int64) (v2 : Int32) (h : mm_M) (Z : Int32 → mm_M → Prop) : Prop := wq_Server_isAbove_0 ge v0 v2 h Z
theorem sat_Server_isAbove (G : mm_G) (v0 : Int64) (v2 : Int32) (h : mm_M) (Z : Int32 → mm_M → Prop) (hw : wq_Server_isAbove (mm_ge G) v0 v2 h Z) : mm_Met G y_Server_isAbove c_Server_isAbove 3 (some (.boolean)) rm_Server_isAbove [.long (v0), .int (v2)] h (pI Z) := by
  refine mm_intro (own := "EpochServer") (by decide) rfl (by simp [lg_sl, cat_rf, cat_i, cat_l]) (fun E e1 hc hq hi => ?_)
  subst e1
  have e2 : lv_args 0 [.long (v0), .int (v2)] = [(0, .long (v0)), (2, .int (v2))] := by simp [lv_args, cat_rf, cat_i, cat_l]
  rw [e2]
  refine V_sub (lv' := [(0, .long (v0)), (2, .int (v2))]) [0, 1] rfl ?_
  exact vb_Server_isAbove_0 hc hq v0 v2 h hw
