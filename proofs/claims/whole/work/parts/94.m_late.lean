/-! the reference: versions, does, message, down to the machine -/
/-! Model.versions()V -/
abbrev rm_Model_versions : Room := { frames := 4, cells := 0, slots := 0, locals := 85 }
def wq_Model_versions_203  (ge : Nat → Nat)  (h : mm_M) (Z : mm_M → Prop) : Prop :=
  Z h
def wq_Model_versions_184 (X145 : Nat → Int32 → Int32 → Int32 → mm_M → Prop) (ge : Nat → Nat) (v0 : Nat) (v1 : Int32) (v2 : Int32) (v3 : Int32) (s0 : Option Nat) (s1 : Int64) (h : mm_M) (Z : mm_M → Prop) : Prop :=
  ∃ a1, s0 = some a1 ∧ mm_k h (a1) = kd_Model ∧ wq_Model_put ge (a1) (s1) (1) h (fun h4 : mm_M => X145 (v0) (v1) (v2) (v3 + 1) h4)
def wq_Model_versions_157 (X145 : Nat → Int32 → Int32 → Int32 → mm_M → Prop) (ge : Nat → Nat) (v0 : Nat) (v1 : Int32) (v2 : Int32) (v3 : Int32) (s0 : Int32) (s1 : Int32) (h : mm_M) (Z : mm_M → Prop) : Prop :=
  (((s1 : Int32) ≤ (s0 : Int32) → (((v2) = 0 → wq_Model_versions_203  ge h Z) ∧ (¬ (v2) = 0 → mm_k h (v0) = kd_Model ∧ ge 0 ≤ v0 ∧ ∀ h3 : mm_M, h3 = mm_uI h (v0) 20 (v1) → wq_Model_versions_203  ge h3 Z))) ∧ (¬ (s1 : Int32) ≤ (s0 : Int32) → (((v2) = 0 → mm_k h (ge 202) = ka_B ∧ mm_n h (ge 202) < 2 ^ 31 ∧ vp_in (v3) (mm_n h (ge 202)) ∧ wq_Model_versions_184 X145 ge (v0) (v1) (v2) (v3) (some v0) (Int32.toInt64 ((mm_I h (ge 202) (Int32.toNatClampNeg (v3))) &&& 255)) h Z) ∧ (¬ (v2) = 0 → mm_k h (ge 201) = ka_B ∧ mm_n h (ge 201) < 2 ^ 31 ∧ vp_in (v3) (mm_n h (ge 201)) ∧ wq_Model_versions_184 X145 ge (v0) (v1) (v2) (v3) (some v0) (Int32.toInt64 ((mm_I h (ge 201) (Int32.toNatClampNeg (v3))) &&& 255)) h Z))))
def wq_Model_versions_145 (X145 : Nat → Int32 → Int32 → Int32 → mm_M → Prop) (ge : Nat → Nat) (v0 : Nat) (v1 : Int32) (v2 : Int32) (v3 : Int32) (h : mm_M) (Z : mm_M → Prop) : Prop :=
  (((v2) = 0 → wq_Model_versions_157 X145 ge (v0) (v1) (v2) (v3) (v3) (7) h Z) ∧ (¬ (v2) = 0 → wq_Model_versions_157 X145 ge (v0) (v1) (v2) (v3) (v3) (6) h Z))
def lp_Model_versions_145  (ge : Nat → Nat) (v0 : Nat) (v1 : Int32) (v2 : Int32) (v3 : Int32) (h : mm_M) (Z : mm_M → Prop) : Prop :=
  ∀ X145 : Nat → Int32 → Int32 → Int32 → mm_M → Prop, (∀ (v0 : Nat) (v1 : Int32) (v2 : Int32) (v3 : Int32) (h : mm_M), wq_Model_versions_145 X145 ge v0 v1 v2 v3 h Z → X145 v0 v1 v2 v3 h) → X145 v0 v1 v2 v3 h
def wq_Model_versions_139  (ge : Nat → Nat) (v0 : Nat) (v1 : Int32) (v2 : Int32) (s0 : Option Nat) (s1 : Int64) (h : mm_M) (Z : mm_M → Prop) : Prop :=
  ∃ a1, s0 = some a1 ∧ mm_k h (a1) = kd_Model ∧ wq_Model_put ge (a1) (s1) (2) h (fun h4 : mm_M => lp_Model_versions_145  ge (v0) (v1) (v2) (0) h4 Z)
def wq_Model_versions_118  (ge : Nat → Nat) (v0 : Nat) (v1 : Int32) (v2 : Int32) (h : mm_M) (Z : mm_M → Prop) : Prop :=
  mm_k h (v0) = kd_Model ∧ wq_Model_put ge (v0) (Int32.toInt64 (v1)) (4) h (fun h2 : mm_M => (((v2) = 0 → wq_Model_versions_139  ge (v0) (v1) (v2) (some v0) (7) h2 Z) ∧ (¬ (v2) = 0 → wq_Model_versions_139  ge (v0) (v1) (v2) (some v0) (6) h2 Z)))
def wq_Model_versions_111 (X75 : Nat → Int32 → Int32 → Int32 → mm_M → Prop) (ge : Nat → Nat) (v0 : Nat) (v1 : Int32) (v3 : Int32) (s0 : Int32) (h : mm_M) (Z : mm_M → Prop) : Prop :=
  X75 (v0) (v1) (s0) (v3 + 1) h
def wq_Model_versions_75 (X75 : Nat → Int32 → Int32 → Int32 → mm_M → Prop) (ge : Nat → Nat) (v0 : Nat) (v1 : Int32) (v2 : Int32) (v3 : Int32) (h : mm_M) (Z : mm_M → Prop) : Prop :=
  (((6 : Int32) ≤ (v3 : Int32) → wq_Model_versions_118  ge (v0) (v1) (v2) h Z) ∧ (¬ (6 : Int32) ≤ (v3 : Int32) → (((v2) = 0 → wq_Model_versions_118  ge (v0) (v1) (v2) h Z) ∧ (¬ (v2) = 0 → mm_k h (v0) = kd_Model ∧ ∃ a2, mm_P h v0 14 = some a2 ∧ mm_k h (a2) = ka_I ∧ vp_in ((mm_I h v0 38) + (v3)) (mm_n h a2) ∧ mm_k h (ge 201) = ka_B ∧ mm_n h (ge 201) < 2 ^ 31 ∧ vp_in (v3) (mm_n h (ge 201)) ∧ ((¬ (mm_I h a2 (Int32.toNatClampNeg ((mm_I h v0 38) + (v3))) : Int32) = ((mm_I h (ge 201) (Int32.toNatClampNeg (v3))) &&& 255 : Int32) → wq_Model_versions_111 X75 ge (v0) (v1) (v3) (0) h Z) ∧ ((mm_I h a2 (Int32.toNatClampNeg ((mm_I h v0 38) + (v3))) : Int32) = ((mm_I h (ge 201) (Int32.toNatClampNeg (v3))) &&& 255 : Int32) → wq_Model_versions_111 X75 ge (v0) (v1) (v3) (1) h Z))))))
def lp_Model_versions_75  (ge : Nat → Nat) (v0 : Nat) (v1 : Int32) (v2 : Int32) (v3 : Int32) (h : mm_M) (Z : mm_M → Prop) : Prop :=
  ∀ X75 : Nat → Int32 → Int32 → Int32 → mm_M → Prop, (∀ (v0 : Nat) (v1 : Int32) (v2 : Int32) (v3 : Int32) (h : mm_M), wq_Model_versions_75 X75 ge v0 v1 v2 v3 h Z → X75 v0 v1 v2 v3 h) → X75 v0 v1 v2 v3 h
def wq_Model_versions_72  (ge : Nat → Nat) (v0 : Nat) (v1 : Int32) (s0 : Int32) (h : mm_M) (Z : mm_M → Prop) : Prop :=
  lp_Model_versions_75  ge (v0) (v1) (s0) (0) h Z
def wq_Model_versions_57  (ge : Nat → Nat) (v0 : Nat) (s0 : Int32) (h : mm_M) (Z : mm_M → Prop) : Prop :=
  mm_k h (v0) = kd_Model ∧ (((mm_I h v0 39 : Int32) < (6 : Int32) → wq_Model_versions_72  ge (v0) (s0) (0) h Z) ∧ (¬ (mm_I h v0 39 : Int32) < (6 : Int32) → wq_Model_versions_72  ge (v0) (s0) (1) h Z))
def wq_Model_versions_27  (ge : Nat → Nat) (v0 : Nat) (s0 : Option Nat) (s1 : Int32) (h : mm_M) (Z : mm_M → Prop) : Prop :=
  ∃ a1, s0 = some a1 ∧ mm_k h (a1) = kd_Model ∧ wq_Model_fails ge (a1) (s1) (3) h (fun (r5 : Int32) (h4 : mm_M) => (((r5) = 0 → mm_k h4 (v0) = kd_Model ∧ (((lg_cmp (mm_L h4 v0 44) (1000)) ≤ 0 → wq_Model_versions_57  ge (v0) (Int64.toInt32 (mm_L h4 v0 44)) h4 Z) ∧ (¬ (lg_cmp (mm_L h4 v0 44) (1000)) ≤ 0 → wq_Model_versions_57  ge (v0) (1000) h4 Z))) ∧ (¬ (r5) = 0 → Z h4)))
def wq_Model_versions_0  (ge : Nat → Nat) (v0 : Nat) (h : mm_M) (Z : mm_M → Prop) : Prop :=
  mm_k h (v0) = kd_Model ∧ ge 0 ≤ v0 ∧ ∀ h3 : mm_M, h3 = mm_uI h (v0) 27 (0) → mm_k h3 (v0) = kd_Model ∧ ge 0 ≤ v0 ∧ ∀ h6 : mm_M, h6 = mm_uI h3 (v0) 20 (0) → mm_k h6 (v0) = kd_Model ∧ ((0 ≤ (lg_cmp (mm_L h6 v0 44) (64)) → wq_Model_versions_27  ge (v0) (some v0) (0) h6 Z) ∧ (¬ 0 ≤ (lg_cmp (mm_L h6 v0 44) (64)) → wq_Model_versions_27  ge (v0) (some v0) (1) h6 Z))
set_option maxRecDepth 100000 in
set_option maxHeartbeats 4000000 in
theorem vb_Model_versions_203 {E : mm_E} {Z : mm_M → Prop} (hc : cx E "EpochServerModel" c_Model_versions 4 none rm_Model_versions) (hq : cq E rm_Model_versions (pV Z))   (h : mm_M) (hw : wq_Model_versions_203  (mm_ge (eG E))  h Z) : V E 4 0 0 h 203 [] [] := by
  unfold wq_Model_versions_203 at hw
  exact V_vret hc hq ⟨rfl, hw⟩ (by decide) (by decide) d_Model_versions_203
set_option maxRecDepth 100000 in
set_option maxHeartbeats 4000000 in
theorem vb_Model_versions_184 {E : mm_E} {Z : mm_M → Prop} (hc : cx E "EpochServerModel" c_Model_versions 4 none rm_Model_versions) (hq : cq E rm_Model_versions (pV Z)) (X145 : Nat → Int32 → Int32 → Int32 → mm_M → Prop) (hX145 : ∀ (v0 : Nat) (v1 : Int32) (v2 : Int32) (v3 : Int32) (h : mm_M), X145 v0 v1 v2 v3 h → V E 4 0 0 h 145 [(0, va_rf (some v0)), (1, .int (v1)), (2, .int (v2)), (3, .int (v3))] []) (v0 : Nat) (v1 : Int32) (v2 : Int32) (v3 : Int32) (s0 : Option Nat) (s1 : Int64) (h : mm_M) (hw : wq_Model_versions_184 X145 (mm_ge (eG E)) v0 v1 v2 v3 s0 s1 h Z) : V E 4 0 0 h 184 [(0, va_rf (some v0)), (1, .int (v1)), (2, .int (v2)), (3, .int (v3))] [.long (s1), va_rf (s0)] := by
  unfold wq_Model_versions_184 at hw
  refine V_iconst (v := 1) hc d_Model_versions_184 (by decide) ?_
  obtain ⟨a1, q2, hw⟩ := hw
  obtain ⟨q3, hw⟩ := hw
  refine V_callV (rm' := rm_Model_put) (As := [.long (s1), .int (1)]) (rest := []) (n := 2) (cn := 0) hc q2 q3 (sat_Model_put (eG E) _ _ _ _ _ hw) rfl cv_Model_212 (gw_of (tw_6 (List.mem_of_getElem? (i := 15) rfl)) rfl) ss_Model_put rfl ⟨by decide, by decide⟩ (by decide) (by decide) rfl (by simp [cat_rf, cat_i, cat_l]) d_Model_versions_185 (fun r0 h4 hw => ?_)
  obtain ⟨rfl, hw⟩ := hw
  refine V_wide (cs' := 0) (sl' := 0) (by decide) (by decide) ?_
  refine V_st (st' := []) rfl ?_
  refine V_iinc (v := v3 + 1) (lv' := [(3, .int (v3 + 1)), (0, va_rf (some v0)), (1, .int (v1)), (2, .int (v2))]) hc 3 d_Model_versions_188 rfl rfl (by decide) rfl ?_
  refine V_goto (tgt := 145) hc d_Model_versions_191 (by decide) ?_
  refine V_sub (lv' := [(0, va_rf (some v0)), (1, .int (v1)), (2, .int (v2)), (3, .int (v3 + 1))]) [1, 2, 3, 0] rfl ?_
  exact hX145 _ _ _ _ _ hw
set_option maxRecDepth 100000 in
set_option maxHeartbeats 4000000 in
theorem vb_Model_versions_157 {E : mm_E} {Z : mm_M → Prop} (hc : cx E "EpochServerModel" c_Model_versions 4 none rm_Model_versions) (hq : cq E rm_Model_versions (pV Z)) (X145 : Nat → Int32 → Int32 → Int32 → mm_M → Prop) (hX145 : ∀ (v0 : Nat) (v1 : Int32) (v2 : Int32) (v3 : Int32) (h : mm_M), X145 v0 v1 v2 v3 h → V E 4 0 0 h 145 [(0, va_rf (some v0)), (1, .int (v1)), (2, .int (v2)), (3, .int (v3))] []) (v0 : Nat) (v1 : Int32) (v2 : Int32) (v3 : Int32) (s0 : Int32) (s1 : Int32) (h : mm_M) (hw : wq_Model_versions_157 X145 (mm_ge (eG E)) v0 v1 v2 v3 s0 s1 h Z) : V E 4 0 0 h 157 [(0, va_rf (some v0)), (1, .int (v1)), (2, .int (v2)), (3, .int (v3))] [.int (s1), .int (s0)] := by
  unfold wq_Model_versions_157 at hw
  refine V_icmp_ge (tgt := 194) hc d_Model_versions_157 (by decide) (fun hq1 => ?_) (fun hq1 => ?_)
  · replace hw := hw.1 hq1
    refine V_iload_n hc 2 d_Model_versions_194 rfl rfl ?_
    refine V_if_eq (tgt := 203) hc d_Model_versions_195 (by decide) (fun hq1 => ?_) (fun hq1 => ?_)
    · replace hw := hw.1 hq1
      refine V_sub (lv' := []) [] rfl ?_
      exact vb_Model_versions_203 hc hq  _ hw
    · replace hw := hw.2 hq1
      refine V_aload_n hc 0 d_Model_versions_198 rfl rfl ?_
      refine V_iload_n hc 1 d_Model_versions_199 rfl rfl ?_
      obtain ⟨q1, hw⟩ := hw
      obtain ⟨q2, hw⟩ := hw
      obtain ⟨h3, eq_h3⟩ : ∃ x, x = mm_uI h (v0) 20 (v1) := ⟨_, rfl⟩
      replace hw := hw _ eq_h3
      refine V_put (h' := h3) hc gf_Model_246 rfl rfl q1 q2 (by rw [eq_h3]; exact mm_Up_I _ _ _ _) (by rw [eq_h3]; exact up_vI rfl) (vp_nar_int _) rfl d_Model_versions_200 ?_
      refine V_sub (lv' := []) [] rfl ?_
      exact vb_Model_versions_203 hc hq  _ hw
  · replace hw := hw.2 hq1
    refine V_aload_n hc 0 d_Model_versions_160 rfl rfl ?_
    refine V_iload_n hc 2 d_Model_versions_161 rfl rfl ?_
    refine V_if_eq (tgt := 176) hc d_Model_versions_162 (by decide) (fun hq1 => ?_) (fun hq1 => ?_)
    · replace hw := hw.1 hq1
      refine V_ldcT (j := 1) hc rfl rfl rfl d_Model_versions_176 ?_
      refine V_iload_n hc 3 d_Model_versions_179 rfl rfl ?_
      obtain ⟨q4, q5, q6, hw⟩ := hw
      refine V_charAt 1 (i := v3) hc rfl q4 q5 q6 ⟨by decide, by decide⟩ (by decide) (by decide) (by simp [cat_rf, cat_i, cat_l]) d_Model_versions_180 ?_
      refine V_i2l hc d_Model_versions_183 ?_
      refine V_sub (lv' := [(0, va_rf (some v0)), (1, .int (v1)), (2, .int (v2)), (3, .int (v3))]) [0, 1, 2, 3] rfl ?_
      exact vb_Model_versions_184 hc hq X145 hX145 _ _ _ _ _ _ _ hw
    · replace hw := hw.2 hq1
      refine V_ldcT (j := 0) hc rfl rfl rfl d_Model_versions_165 ?_
      refine V_iload_n hc 3 d_Model_versions_168 rfl rfl ?_
      obtain ⟨q7, q8, q9, hw⟩ := hw
      refine V_charAt 0 (i := v3) hc rfl q7 q8 q9 ⟨by decide, by decide⟩ (by decide) (by decide) (by simp [cat_rf, cat_i, cat_l]) d_Model_versions_169 ?_
      refine V_i2l hc d_Model_versions_172 ?_
      refine V_goto (tgt := 184) hc d_Model_versions_173 (by decide) ?_
      refine V_sub (lv' := [(0, va_rf (some v0)), (1, .int (v1)), (2, .int (v2)), (3, .int (v3))]) [0, 1, 2, 3] rfl ?_
      exact vb_Model_versions_184 hc hq X145 hX145 _ _ _ _ _ _ _ hw
set_option maxRecDepth 100000 in
set_option maxHeartbeats 4000000 in
theorem vb_Model_versions_145 {E : mm_E} {Z : mm_M → Prop} (hc : cx E "EpochServerModel" c_Model_versions 4 none rm_Model_versions) (hq : cq E rm_Model_versions (pV Z)) (X145 : Nat → Int32 → Int32 → Int32 → mm_M → Prop) (hX145 : ∀ (v0 : Nat) (v1 : Int32) (v2 : Int32) (v3 : Int32) (h : mm_M), X145 v0 v1 v2 v3 h → V E 4 0 0 h 145 [(0, va_rf (some v0)), (1, .int (v1)), (2, .int (v2)), (3, .int (v3))] []) (v0 : Nat) (v1 : Int32) (v2 : Int32) (v3 : Int32) (h : mm_M) (hw : wq_Model_versions_145 X145 (mm_ge (eG E)) v0 v1 v2 v3 h Z) : V E 4 0 0 h 145 [(0, va_rf (some v0)), (1, .int (v1)), (2, .int (v2)), (3, .int (v3))] [] := by
  unfold wq_Model_versions_145 at hw
  refine V_iload_n hc 3 d_Model_versions_145 rfl rfl ?_
  refine V_iload_n hc 2 d_Model_versions_146 rfl rfl ?_
  refine V_if_eq (tgt := 155) hc d_Model_versions_147 (by decide) (fun hq1 => ?_) (fun hq1 => ?_)
  · replace hw := hw.1 hq1
    refine V_bipush (v := 7) hc d_Model_versions_155 (by decide) ?_
    refine V_sub (lv' := [(0, va_rf (some v0)), (1, .int (v1)), (2, .int (v2)), (3, .int (v3))]) [0, 1, 2, 3] rfl ?_
    exact vb_Model_versions_157 hc hq X145 hX145 _ _ _ _ _ _ _ hw
  · replace hw := hw.2 hq1
    refine V_bipush (v := 6) hc d_Model_versions_150 (by decide) ?_
    refine V_goto (tgt := 157) hc d_Model_versions_152 (by decide) ?_
    refine V_sub (lv' := [(0, va_rf (some v0)), (1, .int (v1)), (2, .int (v2)), (3, .int (v3))]) [0, 1, 2, 3] rfl ?_
    exact vb_Model_versions_157 hc hq X145 hX145 _ _ _ _ _ _ _ hw
theorem vl_Model_versions_145 {E : mm_E} {Z : mm_M → Prop} (hc : cx E "EpochServerModel" c_Model_versions 4 none rm_Model_versions) (hq : cq E rm_Model_versions (pV Z))  (v0 : Nat) (v1 : Int32) (v2 : Int32) (v3 : Int32) (h : mm_M) (hw : lp_Model_versions_145  (mm_ge (eG E)) v0 v1 v2 v3 h Z) : V E 4 0 0 h 145 [(0, va_rf (some v0)), (1, .int (v1)), (2, .int (v2)), (3, .int (v3))] [] :=
  hw (fun v0 v1 v2 v3 h => V E 4 0 0 h 145 [(0, va_rf (some v0)), (1, .int (v1)), (2, .int (v2)), (3, .int (v3))] []) (fun v0 v1 v2 v3 h hb => vb_Model_versions_145 hc hq  _ (fun _ _ _ _ _ q => q) v0 v1 v2 v3 h hb)
set_option maxRecDepth 100000 in
set_option maxHeartbeats 4000000 in
theorem vb_Model_versions_139 {E : mm_E} {Z : mm_M → Prop} (hc : cx E "EpochServerModel" c_Model_versions 4 none rm_Model_versions) (hq : cq E rm_Model_versions (pV Z))  (v0 : Nat) (v1 : Int32) (v2 : Int32) (s0 : Option Nat) (s1 : Int64) (h : mm_M) (hw : wq_Model_versions_139  (mm_ge (eG E)) v0 v1 v2 s0 s1 h Z) : V E 4 0 0 h 139 [(0, va_rf (some v0)), (1, .int (v1)), (2, .int (v2))] [.long (s1), va_rf (s0)] := by
  unfold wq_Model_versions_139 at hw
  refine V_iconst (v := 2) hc d_Model_versions_139 (by decide) ?_
  obtain ⟨a1, q2, hw⟩ := hw
  obtain ⟨q3, hw⟩ := hw
  refine V_callV (rm' := rm_Model_put) (As := [.long (s1), .int (2)]) (rest := []) (n := 2) (cn := 0) hc q2 q3 (sat_Model_put (eG E) _ _ _ _ _ hw) rfl cv_Model_212 (gw_of (tw_6 (List.mem_of_getElem? (i := 15) rfl)) rfl) ss_Model_put rfl ⟨by decide, by decide⟩ (by decide) (by decide) rfl (by simp [cat_rf, cat_i, cat_l]) d_Model_versions_140 (fun r0 h4 hw => ?_)
  obtain ⟨rfl, hw⟩ := hw
  refine V_wide (cs' := 0) (sl' := 0) (by decide) (by decide) ?_
  refine V_st (st' := []) rfl ?_
  refine V_iconst (v := 0) hc d_Model_versions_143 (by decide) ?_
  refine V_istore_n (i := 3) (lv' := [(3, .int (0)), (0, va_rf (some v0)), (1, .int (v1)), (2, .int (v2))]) hc d_Model_versions_144 rfl (by decide) rfl ?_
  refine V_sub (lv' := [(0, va_rf (some v0)), (1, .int (v1)), (2, .int (v2)), (3, .int (0))]) [1, 2, 3, 0] rfl ?_
  exact vl_Model_versions_145 hc hq  _ _ _ _ _ hw
set_option maxRecDepth 100000 in
set_option maxHeartbeats 4000000 in
theorem vb_Model_versions_118 {E : mm_E} {Z : mm_M → Prop} (hc : cx E "EpochServerModel" c_Model_versions 4 none rm_Model_versions) (hq : cq E rm_Model_versions (pV Z))  (v0 : Nat) (v1 : Int32) (v2 : Int32) (h : mm_M) (hw : wq_Model_versions_118  (mm_ge (eG E)) v0 v1 v2 h Z) : V E 4 0 0 h 118 [(0, va_rf (some v0)), (1, .int (v1)), (2, .int (v2))] [] := by
  unfold wq_Model_versions_118 at hw
  refine V_aload_n hc 0 d_Model_versions_118 rfl rfl ?_
  refine V_iload_n hc 1 d_Model_versions_119 rfl rfl ?_
  refine V_i2l hc d_Model_versions_120 ?_
  refine V_iconst (v := 4) hc d_Model_versions_121 (by decide) ?_
  obtain ⟨q1, hw⟩ := hw
  refine V_callV (rm' := rm_Model_put) (As := [.long (Int32.toInt64 (v1)), .int (4)]) (rest := []) (n := 2) (cn := 0) hc rfl q1 (sat_Model_put (eG E) _ _ _ _ _ hw) rfl cv_Model_212 (gw_of (tw_6 (List.mem_of_getElem? (i := 15) rfl)) rfl) ss_Model_put rfl ⟨by decide, by decide⟩ (by decide) (by decide) rfl (by simp [cat_rf, cat_i, cat_l]) d_Model_versions_122 (fun r0 h2 hw => ?_)
  obtain ⟨rfl, hw⟩ := hw
  refine V_wide (cs' := 0) (sl' := 0) (by decide) (by decide) ?_
  refine V_st (st' := []) rfl ?_
  refine V_aload_n hc 0 d_Model_versions_125 rfl rfl ?_
  refine V_iload_n hc 2 d_Model_versions_126 rfl rfl ?_
  refine V_if_eq (tgt := 136) hc d_Model_versions_127 (by decide) (fun hq1 => ?_) (fun hq1 => ?_)
  · replace hw := hw.1 hq1
    refine V_ldc2 (v := 7) hc (gw_of (tw_6 (List.mem_of_getElem? (i := 19) rfl)) rfl) d_Model_versions_136 ?_
    refine V_sub (lv' := [(0, va_rf (some v0)), (1, .int (v1)), (2, .int (v2))]) [0, 1, 2] rfl ?_
    exact vb_Model_versions_139 hc hq  _ _ _ _ _ _ hw
  · replace hw := hw.2 hq1
    refine V_ldc2 (v := 6) hc (gw_of (tw_6 (List.mem_of_getElem? (i := 18) rfl)) rfl) d_Model_versions_130 ?_
    refine V_goto (tgt := 139) hc d_Model_versions_133 (by decide) ?_
    refine V_sub (lv' := [(0, va_rf (some v0)), (1, .int (v1)), (2, .int (v2))]) [0, 1, 2] rfl ?_
    exact vb_Model_versions_139 hc hq  _ _ _ _ _ _ hw
set_option maxRecDepth 100000 in
set_option maxHeartbeats 4000000 in
theorem vb_Model_versions_111 {E : mm_E} {Z : mm_M → Prop} (hc : cx E "EpochServerModel" c_Model_versions 4 none rm_Model_versions) (hq : cq E rm_Model_versions (pV Z)) (X75 : Nat → Int32 → Int32 → Int32 → mm_M → Prop) (hX75 : ∀ (v0 : Nat) (v1 : Int32) (v2 : Int32) (v3 : Int32) (h : mm_M), X75 v0 v1 v2 v3 h → V E 4 0 0 h 75 [(0, va_rf (some v0)), (1, .int (v1)), (2, .int (v2)), (3, .int (v3))] []) (v0 : Nat) (v1 : Int32) (v3 : Int32) (s0 : Int32) (h : mm_M) (hw : wq_Model_versions_111 X75 (mm_ge (eG E)) v0 v1 v3 s0 h Z) : V E 4 0 0 h 111 [(0, va_rf (some v0)), (1, .int (v1)), (3, .int (v3))] [.int (s0)] := by
  unfold wq_Model_versions_111 at hw
  refine V_istore_n (i := 2) (lv' := [(2, .int (s0)), (0, va_rf (some v0)), (1, .int (v1)), (3, .int (v3))]) hc d_Model_versions_111 rfl (by decide) rfl ?_
  refine V_iinc (v := v3 + 1) (lv' := [(3, .int (v3 + 1)), (2, .int (s0)), (0, va_rf (some v0)), (1, .int (v1))]) hc 3 d_Model_versions_112 rfl rfl (by decide) rfl ?_
  refine V_goto (tgt := 75) hc d_Model_versions_115 (by decide) ?_
  refine V_sub (lv' := [(0, va_rf (some v0)), (1, .int (v1)), (2, .int (s0)), (3, .int (v3 + 1))]) [2, 3, 1, 0] rfl ?_
  exact hX75 _ _ _ _ _ hw
set_option maxRecDepth 100000 in
set_option maxHeartbeats 4000000 in
theorem vb_Model_versions_75 {E : mm_E} {Z : mm_M → Prop} (hc : cx E "EpochServerModel" c_Model_versions 4 none rm_Model_versions) (hq : cq E rm_Model_versions (pV Z)) (X75 : Nat → Int32 → Int32 → Int32 → mm_M → Prop) (hX75 : ∀ (v0 : Nat) (v1 : Int32) (v2 : Int32) (v3 : Int32) (h : mm_M), X75 v0 v1 v2 v3 h → V E 4 0 0 h 75 [(0, va_rf (some v0)), (1, .int (v1)), (2, .int (v2)), (3, .int (v3))] []) (v0 : Nat) (v1 : Int32) (v2 : Int32) (v3 : Int32) (h : mm_M) (hw : wq_Model_versions_75 X75 (mm_ge (eG E)) v0 v1 v2 v3 h Z) : V E 4 0 0 h 75 [(0, va_rf (some v0)), (1, .int (v1)), (2, .int (v2)), (3, .int (v3))] [] := by
  unfold wq_Model_versions_75 at hw
  refine V_iload_n hc 3 d_Model_versions_75 rfl rfl ?_
  refine V_bipush (v := 6) hc d_Model_versions_76 (by decide) ?_
  refine V_icmp_ge (tgt := 118) hc d_Model_versions_78 (by decide) (fun hq1 => ?_) (fun hq1 => ?_)
  · replace hw := hw.1 hq1
    refine V_sub (lv' := [(0, va_rf (some v0)), (1, .int (v1)), (2, .int (v2))]) [0, 1, 2] rfl ?_
    exact vb_Model_versions_118 hc hq  _ _ _ _ hw
  · replace hw := hw.2 hq1
    refine V_iload_n hc 2 d_Model_versions_81 rfl rfl ?_
    refine V_if_eq (tgt := 118) hc d_Model_versions_82 (by decide) (fun hq1 => ?_) (fun hq1 => ?_)
    · replace hw := hw.1 hq1
      refine V_sub (lv' := [(0, va_rf (some v0)), (1, .int (v1)), (2, .int (v2))]) [0, 1, 2] rfl ?_
      exact vb_Model_versions_118 hc hq  _ _ _ _ hw
    · replace hw := hw.2 hq1
      refine V_aload_n hc 0 d_Model_versions_85 rfl rfl ?_
      obtain ⟨q1, hw⟩ := hw
      refine V_get (v := va_rf (mm_P h v0 14)) hc gf_Model_44 rfl q1 rfl d_Model_versions_86 ?_
      refine V_aload_n hc 0 d_Model_versions_89 rfl rfl ?_
      refine V_get (v := .int (mm_I h v0 38)) hc gf_Model_141 rfl q1 rfl d_Model_versions_90 ?_
      refine V_iload_n hc 3 d_Model_versions_93 rfl rfl ?_
      refine V_iadd hc d_Model_versions_94 ?_
      obtain ⟨a2, q3, hw⟩ := hw
      obtain ⟨q4, hw⟩ := hw
      obtain ⟨q5, hw⟩ := hw
      refine V_iald hc q3 q4 q5 d_Model_versions_95 ?_
      refine V_ldcT (j := 0) hc rfl rfl rfl d_Model_versions_96 ?_
      refine V_iload_n hc 3 d_Model_versions_99 rfl rfl ?_
      obtain ⟨q6, q7, q8, hw⟩ := hw
      refine V_charAt 0 (i := v3) hc rfl q6 q7 q8 ⟨by decide, by decide⟩ (by decide) (by decide) (by simp [cat_rf, cat_i, cat_l]) d_Model_versions_100 ?_
      refine V_icmp_ne (tgt := 110) hc d_Model_versions_103 (by decide) (fun hq1 => ?_) (fun hq1 => ?_)
      · replace hw := hw.1 hq1
        refine V_iconst (v := 0) hc d_Model_versions_110 (by decide) ?_
        refine V_sub (lv' := [(0, va_rf (some v0)), (1, .int (v1)), (3, .int (v3))]) [0, 1, 3] rfl ?_
        exact vb_Model_versions_111 hc hq X75 hX75 _ _ _ _ _ hw
      · replace hw := hw.2 hq1
        refine V_iconst (v := 1) hc d_Model_versions_106 (by decide) ?_
        refine V_goto (tgt := 111) hc d_Model_versions_107 (by decide) ?_
        refine V_sub (lv' := [(0, va_rf (some v0)), (1, .int (v1)), (3, .int (v3))]) [0, 1, 3] rfl ?_
        exact vb_Model_versions_111 hc hq X75 hX75 _ _ _ _ _ hw
theorem vl_Model_versions_75 {E : mm_E} {Z : mm_M → Prop} (hc : cx E "EpochServerModel" c_Model_versions 4 none rm_Model_versions) (hq : cq E rm_Model_versions (pV Z))  (v0 : Nat) (v1 : Int32) (v2 : Int32) (v3 : Int32) (h : mm_M) (hw : lp_Model_versions_75  (mm_ge (eG E)) v0 v1 v2 v3 h Z) : V E 4 0 0 h 75 [(0, va_rf (some v0)), (1, .int (v1)), (2, .int (v2)), (3, .int (v3))] [] :=
  hw (fun v0 v1 v2 v3 h => V E 4 0 0 h 75 [(0, va_rf (some v0)), (1, .int (v1)), (2, .int (v2)), (3, .int (v3))] []) (fun v0 v1 v2 v3 h hb => vb_Model_versions_75 hc hq  _ (fun _ _ _ _ _ q => q) v0 v1 v2 v3 h hb)
set_option maxRecDepth 100000 in
set_option maxHeartbeats 4000000 in
theorem vb_Model_versions_72 {E : mm_E} {Z : mm_M → Prop} (hc : cx E "EpochServerModel" c_Model_versions 4 none rm_Model_versions) (hq : cq E rm_Model_versions (pV Z))  (v0 : Nat) (v1 : Int32) (s0 : Int32) (h : mm_M) (hw : wq_Model_versions_72  (mm_ge (eG E)) v0 v1 s0 h Z) : V E 4 0 0 h 72 [(0, va_rf (some v0)), (1, .int (v1))] [.int (s0)] := by
  unfold wq_Model_versions_72 at hw
  refine V_istore_n (i := 2) (lv' := [(2, .int (s0)), (0, va_rf (some v0)), (1, .int (v1))]) hc d_Model_versions_72 rfl (by decide) rfl ?_
  refine V_iconst (v := 0) hc d_Model_versions_73 (by decide) ?_
  refine V_istore_n (i := 3) (lv' := [(3, .int (0)), (2, .int (s0)), (0, va_rf (some v0)), (1, .int (v1))]) hc d_Model_versions_74 rfl (by decide) rfl ?_
  refine V_sub (lv' := [(0, va_rf (some v0)), (1, .int (v1)), (2, .int (s0)), (3, .int (0))]) [2, 3, 1, 0] rfl ?_
  exact vl_Model_versions_75 hc hq  _ _ _ _ _ hw
set_option maxRecDepth 100000 in
set_option maxHeartbeats 4000000 in
theorem vb_Model_versions_57 {E : mm_E} {Z : mm_M → Prop} (hc : cx E "EpochServerModel" c_Model_versions 4 none rm_Model_versions) (hq : cq E rm_Model_versions (pV Z))  (v0 : Nat) (s0 : Int32) (h : mm_M) (hw : wq_Model_versions_57  (mm_ge (eG E)) v0 s0 h Z) : V E 4 0 0 h 57 [(0, va_rf (some v0))] [.int (s0)] := by
  unfold wq_Model_versions_57 at hw
  refine V_istore_n (i := 1) (lv' := [(1, .int (s0)), (0, va_rf (some v0))]) hc d_Model_versions_57 rfl (by decide) rfl ?_
  refine V_aload_n hc 1 d_Model_versions_58 rfl rfl ?_
  obtain ⟨q1, hw⟩ := hw
  refine V_get (v := .int (mm_I h v0 39)) hc gf_Model_144 rfl q1 rfl d_Model_versions_59 ?_
  refine V_bipush (v := 6) hc d_Model_versions_62 (by decide) ?_
  refine V_icmp_lt (tgt := 71) hc d_Model_versions_64 (by decide) (fun hq1 => ?_) (fun hq1 => ?_)
  · replace hw := hw.1 hq1
    refine V_iconst (v := 0) hc d_Model_versions_71 (by decide) ?_
    refine V_sub (lv' := [(0, va_rf (some v0)), (1, .int (s0))]) [1, 0] rfl ?_
    exact vb_Model_versions_72 hc hq  _ _ _ _ hw
  · replace hw := hw.2 hq1
    refine V_iconst (v := 1) hc d_Model_versions_67 (by decide) ?_
    refine V_goto (tgt := 72) hc d_Model_versions_68 (by decide) ?_
    refine V_sub (lv' := [(0, va_rf (some v0)), (1, .int (s0))]) [1, 0] rfl ?_
    exact vb_Model_versions_72 hc hq  _ _ _ _ hw
set_option maxRecDepth 100000 in
set_option maxHeartbeats 4000000 in
theorem vb_Model_versions_27 {E : mm_E} {Z : mm_M → Prop} (hc : cx E "EpochServerModel" c_Model_versions 4 none rm_Model_versions) (hq : cq E rm_Model_versions (pV Z))  (v0 : Nat) (s0 : Option Nat) (s1 : Int32) (h : mm_M) (hw : wq_Model_versions_27  (mm_ge (eG E)) v0 s0 s1 h Z) : V E 4 0 0 h 27 [(0, va_rf (some v0))] [.int (s1), va_rf (s0)] := by
  unfold wq_Model_versions_27 at hw
  refine V_iconst (v := 3) hc d_Model_versions_27 (by decide) ?_
  obtain ⟨a1, q2, hw⟩ := hw
  obtain ⟨q3, hw⟩ := hw
  refine V_callV (rm' := rm_Model_fails) (As := [.int (s1), .int (3)]) (rest := []) (n := 2) (cn := 0) hc q2 q3 (sat_Model_fails (eG E) _ _ _ _ _ hw) rfl cv_Model_249 (gw_of (tw_5 (List.mem_of_getElem? (i := 209) rfl)) rfl) ss_Model_fails rfl ⟨by decide, by decide⟩ (by decide) (by decide) rfl (by simp [cat_rf, cat_i, cat_l]) d_Model_versions_28 (fun r0 h4 hw => ?_)
  obtain ⟨r5, rfl, hw⟩ := hw
  refine V_wide (cs' := 0) (sl' := 0) (by decide) (by decide) ?_
  refine V_st (st' := [.int (r5)]) rfl ?_
  refine V_if_eq (tgt := 35) hc d_Model_versions_31 (by decide) (fun hq1 => ?_) (fun hq1 => ?_)
  · replace hw := hw.1 hq1
    refine V_aload_n hc 0 d_Model_versions_35 rfl rfl ?_
    obtain ⟨q6, hw⟩ := hw
    refine V_get (v := .long (mm_L h4 v0 44)) hc gf_Model_134 rfl q6 rfl d_Model_versions_36 ?_
    refine V_ldc2 (v := 1000) hc (gw_of (tw_5 (List.mem_of_getElem? (i := 211) rfl)) rfl) d_Model_versions_39 ?_
    refine V_lcmp hc d_Model_versions_42 ?_
    refine V_if_le (tgt := 52) hc d_Model_versions_43 (by decide) (fun hq1 => ?_) (fun hq1 => ?_)
    · replace hw := hw.1 hq1
      refine V_aload_n hc 0 d_Model_versions_52 rfl rfl ?_
      refine V_get (v := .long (mm_L h4 v0 44)) hc gf_Model_134 rfl q6 rfl d_Model_versions_53 ?_
      refine V_l2i hc d_Model_versions_56 ?_
      refine V_sub (lv' := [(0, va_rf (some v0))]) [0] rfl ?_
      exact vb_Model_versions_57 hc hq  _ _ _ hw
    · replace hw := hw.2 hq1
      refine V_sipush (v := 1000) hc d_Model_versions_46 (by decide) ?_
      refine V_goto (tgt := 57) hc d_Model_versions_49 (by decide) ?_
      refine V_sub (lv' := [(0, va_rf (some v0))]) [0] rfl ?_
      exact vb_Model_versions_57 hc hq  _ _ _ hw
  · replace hw := hw.2 hq1
    exact V_vret hc hq ⟨rfl, hw⟩ (by decide) (by decide) d_Model_versions_34
set_option maxRecDepth 100000 in
set_option maxHeartbeats 4000000 in
theorem vb_Model_versions_0 {E : mm_E} {Z : mm_M → Prop} (hc : cx E "EpochServerModel" c_Model_versions 4 none rm_Model_versions) (hq : cq E rm_Model_versions (pV Z))  (v0 : Nat) (h : mm_M) (hw : wq_Model_versions_0  (mm_ge (eG E)) v0 h Z) : V E 4 0 0 h 0 [(0, va_rf (some v0))] [] := by
  unfold wq_Model_versions_0 at hw
  refine V_aload_n hc 0 d_Model_versions_0 rfl rfl ?_
  refine V_iconst (v := 0) hc d_Model_versions_1 (by decide) ?_
  obtain ⟨q1, hw⟩ := hw
  obtain ⟨q2, hw⟩ := hw
  obtain ⟨h3, eq_h3⟩ : ∃ x, x = mm_uI h (v0) 27 (0) := ⟨_, rfl⟩
  replace hw := hw _ eq_h3
  refine V_put (h' := h3) hc gf_Model_240 rfl rfl q1 q2 (by rw [eq_h3]; exact mm_Up_I _ _ _ _) (by rw [eq_h3]; exact up_vI rfl) (vp_nar_int _) rfl d_Model_versions_2 ?_
  refine V_aload_n hc 0 d_Model_versions_5 rfl rfl ?_
  refine V_iconst (v := 0) hc d_Model_versions_6 (by decide) ?_
  obtain ⟨q4, hw⟩ := hw
  obtain ⟨q5, hw⟩ := hw
  obtain ⟨h6, eq_h6⟩ : ∃ x, x = mm_uI h3 (v0) 20 (0) := ⟨_, rfl⟩
  replace hw := hw _ eq_h6
  refine V_put (h' := h6) hc gf_Model_246 rfl rfl q4 q5 (by rw [eq_h6]; exact mm_Up_I _ _ _ _) (by rw [eq_h6]; exact up_vI rfl) (vp_nar_int _) rfl d_Model_versions_7 ?_
  refine V_aload_n hc 0 d_Model_versions_10 rfl rfl ?_
  refine V_aload_n hc 0 d_Model_versions_11 rfl rfl ?_
  obtain ⟨q7, hw⟩ := hw
  refine V_get (v := .long (mm_L h6 v0 44)) hc gf_Model_134 rfl q7 rfl d_Model_versions_12 ?_
  refine V_ldc2 (v := 64) hc (gw_of (tw_5 (List.mem_of_getElem? (i := 206) rfl)) rfl) d_Model_versions_15 ?_
  refine V_lcmp hc d_Model_versions_18 ?_
  refine V_if_ge (tgt := 26) hc d_Model_versions_19 (by decide) (fun hq1 => ?_) (fun hq1 => ?_)
  · replace hw := hw.1 hq1
    refine V_iconst (v := 0) hc d_Model_versions_26 (by decide) ?_
    refine V_sub (lv' := [(0, va_rf (some v0))]) [0] rfl ?_
    exact vb_Model_versions_27 hc hq  _ _ _ _ hw
  · replace hw := hw.2 hq1
    refine V_iconst (v := 1) hc d_Model_versions_22 (by decide) ?_
    refine V_goto (tgt := 27) hc d_Model_versions_23 (by decide) ?_
    refine V_sub (lv' := [(0, va_rf (some v0))]) [0] rfl ?_
    exact vb_Model_versions_27 hc hq  _ _ _ _ hw
def wq_Model_versions (ge : Nat → Nat) (v0 : Nat) (h : mm_M) (Z : mm_M → Prop) : Prop := wq_Model_versions_0 ge v0 h Z
theorem sat_Model_versions (G : mm_G) (v0 : Nat) (h : mm_M) (Z : mm_M → Prop) (hw : wq_Model_versions (mm_ge G) v0 h Z) : mm_Met G y_Model_versions c_Model_versions 4 none rm_Model_versions [va_rf (some v0)] h (pV Z) := by
  refine mm_intro (own := "EpochServerModel") (by decide) rfl (by simp [lg_sl, cat_rf, cat_i, cat_l]) (fun E e1 hc hq hi => ?_)
  subst e1
  have e2 : lv_args 0 [va_rf (some v0)] = [(0, va_rf (some v0))] := by simp [lv_args, cat_rf, cat_i, cat_l]
  rw [e2]
  refine V_sub (lv' := [(0, va_rf (some v0))]) [0] rfl ?_
  exact vb_Model_versions_0 hc hq v0 h hw
/-! Model.does(I)V -/
abbrev rm_Model_does : Room := { frames := 5, cells := 0, slots := 0, locals := 108 }
def wq_Model_does_178  (ge : Nat → Nat)  (h : mm_M) (Z : mm_M → Prop) : Prop :=
  Z h
def wq_Model_does_152  (ge : Nat → Nat) (v0 : Nat) (v2 : Int32) (s0 : Int32) (h : mm_M) (Z : mm_M → Prop) : Prop :=
  mm_k h (v0) = kd_Model ∧ ∃ a2, mm_P h v0 23 = some a2 ∧ mm_k h (a2) = ka_I ∧ vp_in (v2) (mm_n h a2) ∧ wq_Model_gone ge (v0) (v2) h (fun h6 : mm_M => (((s0) = 0 → wq_Model_does_178  ge h6 Z) ∧ (¬ (s0) = 0 → mm_k h6 (v0) = kd_Model ∧ wq_Model_leaves ge (v0) (mm_I h a2 (Int32.toNatClampNeg (v2))) h6 (fun h9 : mm_M => wq_Model_does_178  ge h9 Z))))
def wq_Model_does_151  (ge : Nat → Nat) (v0 : Nat) (v2 : Int32) (h : mm_M) (Z : mm_M → Prop) : Prop :=
  wq_Model_does_152  ge (v0) (v2) (0) h Z
def wq_Model_does_81  (ge : Nat → Nat) (v0 : Nat) (v1 : Int32) (v2 : Int32) (s0 : Option Nat) (s1 : Int32) (h : mm_M) (Z : mm_M → Prop) : Prop :=
  ∃ a1, s0 = some a1 ∧ mm_k h (a1) = kd_Model ∧ wq_Model_fails ge (a1) (s1) (2) h (fun (r5 : Int32) (h4 : mm_M) => (((r5) = 0 → mm_k h4 (v0) = kd_Model ∧ wq_Model_isLost ge (v0) (v2) h4 (fun (r8 : Int32) (h7 : mm_M) => ((¬ (v1 : Int32) = (122 : Int32) → ((¬ (v1 : Int32) = (120 : Int32) → mm_k h7 (v0) = kd_Model ∧ wq_Model_fails ge (v0) (r8) (4) h7 (fun (r11 : Int32) (h10 : mm_M) => (((r11) = 0 → (((v1) = (110 : Int32) → mm_k h10 (v0) = kd_Model ∧ wq_Model_walks ge (v0) (v2) h10 (fun h13 : mm_M => Z h13)) ∧ ((v1) = (112 : Int32) → mm_k h10 (v0) = kd_Model ∧ wq_Model_opens ge (v0) (v2) h10 (fun h16 : mm_M => Z h16)) ∧ ((v1) = (114 : Int32) → mm_k h10 (v0) = kd_Model ∧ wq_Model_creates ge (v0) (v2) h10 (fun h19 : mm_M => Z h19)) ∧ ((v1) = (116 : Int32) → mm_k h10 (v0) = kd_Model ∧ wq_Model_readsOf ge (v0) (v2) h10 (fun h22 : mm_M => Z h22)) ∧ ((v1) = (118 : Int32) → mm_k h10 (v0) = kd_Model ∧ wq_Model_writes ge (v0) (v2) h10 (fun h25 : mm_M => Z h25)) ∧ ((v1) = (124 : Int32) → mm_k h10 (v0) = kd_Model ∧ wq_Model_put ge (v0) (0) (2) h10 (fun h28 : mm_M => mm_k h28 (v0) = kd_Model ∧ ∃ a31, mm_P h28 v0 22 = some a31 ∧ mm_k h28 (a31) = ka_I ∧ vp_in (v2) (mm_n h28 a31) ∧ ∃ a35, mm_P h28 v0 23 = some a35 ∧ mm_k h28 (a35) = ka_I ∧ vp_in (v2) (mm_n h28 a35) ∧ wq_Model_stat ge (v0) (mm_I h28 a31 (Int32.toNatClampNeg (v2))) (mm_I h28 a35 (Int32.toNatClampNeg (v2))) h28 (fun h39 : mm_M => mm_k h39 (v0) = kd_Model ∧ ∃ a42, mm_P h39 v0 15 = some a42 ∧ mm_k h39 (a42) = ka_I ∧ vp_in ((mm_I h28 v0 17) - (2 : Int32)) (mm_n h39 a42) ∧ ge 0 ≤ a42 ∧ ∀ h47 : mm_M, h47 = mm_uI h39 a42 (Int32.toNatClampNeg ((mm_I h28 v0 17) - (2 : Int32))) ((mm_I h39 v0 17) - (mm_I h28 v0 17)) → Z h47))) ∧ ((¬ (v1) = (110 : Int32) ∧ ¬ (v1) = (112 : Int32) ∧ ¬ (v1) = (114 : Int32) ∧ ¬ (v1) = (116 : Int32) ∧ ¬ (v1) = (118 : Int32) ∧ ¬ (v1) = (124 : Int32)) → mm_k h10 (v0) = kd_Model ∧ wq_Model_wstats ge (v0) (v2) h10 (fun h49 : mm_M => Z h49)))) ∧ (¬ (r11) = 0 → Z h10)))) ∧ ((v1 : Int32) = (120 : Int32) → ((¬ (r8) = 0 → wq_Model_does_151  ge (v0) (v2) h7 Z) ∧ ((r8) = 0 → mm_k h7 (v0) = kd_Model ∧ ∃ a52, mm_P h7 v0 24 = some a52 ∧ mm_k h7 (a52) = ka_I ∧ vp_in (v2) (mm_n h7 a52) ∧ (((mm_I h7 a52 (Int32.toNatClampNeg (v2))) < 0 → wq_Model_does_151  ge (v0) (v2) h7 Z) ∧ (¬ (mm_I h7 a52 (Int32.toNatClampNeg (v2))) < 0 → vp_in (v2) (mm_n h7 a52) ∧ ((((mm_I h7 a52 (Int32.toNatClampNeg (v2))) &&& (64 : Int32)) = 0 → wq_Model_does_151  ge (v0) (v2) h7 Z) ∧ (¬ ((mm_I h7 a52 (Int32.toNatClampNeg (v2))) &&& (64 : Int32)) = 0 → wq_Model_whyNot ge (v0) (v2) h7 (fun (r58 : Int32) (h57 : mm_M) => ((¬ (r58) = 0 → wq_Model_does_151  ge (v0) (v2) h57 Z) ∧ ((r58) = 0 → wq_Model_does_152  ge (v0) (v2) (1) h57 Z)))))))))))) ∧ ((v1 : Int32) = (122 : Int32) → mm_k h7 (v0) = kd_Model ∧ wq_Model_removes ge (v0) (v2) (r8) h7 (fun h60 : mm_M => Z h60))))) ∧ (¬ (r5) = 0 → Z h4)))
def wq_Model_does_24  (ge : Nat → Nat) (v0 : Nat) (v1 : Int32) (s0 : Option Nat) (s1 : Int32) (h : mm_M) (Z : mm_M → Prop) : Prop :=
  ∃ a1, s0 = some a1 ∧ mm_k h (a1) = kd_Model ∧ wq_Model_fails ge (a1) (s1) (1) h (fun (r5 : Int32) (h4 : mm_M) => (((r5) = 0 → ((¬ (v1 : Int32) = (102 : Int32) → ((¬ (v1 : Int32) = (108 : Int32) → ((¬ (v1 : Int32) = (104 : Int32) → mm_k h4 (v0) = kd_Model ∧ wq_Model_fidOf ge (v0) (mm_I h4 v0 33) h4 (fun (r8 : Int32) (h7 : mm_M) => ((0 ≤ (r8) → wq_Model_does_81  ge (v0) (v1) (r8) (some v0) (0) h7 Z) ∧ (¬ 0 ≤ (r8) → wq_Model_does_81  ge (v0) (v1) (r8) (some v0) (1) h7 Z)))) ∧ ((v1 : Int32) = (104 : Int32) → mm_k h4 (v0) = kd_Model ∧ wq_Model_attaches ge (v0) h4 (fun h10 : mm_M => Z h10)))) ∧ ((v1 : Int32) = (108 : Int32) → Z h4))) ∧ ((v1 : Int32) = (102 : Int32) → mm_k h4 (v0) = kd_Model ∧ ge 0 ≤ v0 ∧ ∀ h14 : mm_M, h14 = mm_uI h4 (v0) 53 (3) → Z h14))) ∧ (¬ (r5) = 0 → Z h4)))
def wq_Model_does_0  (ge : Nat → Nat) (v0 : Nat) (v1 : Int32) (h : mm_M) (Z : mm_M → Prop) : Prop :=
  ((¬ (v1 : Int32) = (100 : Int32) → mm_k h (v0) = kd_Model ∧ ((¬ (mm_I h v0 20) = 0 → wq_Model_does_24  ge (v0) (v1) (some v0) (0) h Z) ∧ ((mm_I h v0 20) = 0 → wq_Model_does_24  ge (v0) (v1) (some v0) (1) h Z))) ∧ ((v1 : Int32) = (100 : Int32) → mm_k h (v0) = kd_Model ∧ wq_Model_versions ge (v0) h (fun h3 : mm_M => Z h3)))
set_option maxRecDepth 100000 in
set_option maxHeartbeats 4000000 in
theorem vb_Model_does_178 {E : mm_E} {Z : mm_M → Prop} (hc : cx E "EpochServerModel" c_Model_does 6 none rm_Model_does) (hq : cq E rm_Model_does (pV Z))   (h : mm_M) (hw : wq_Model_does_178  (mm_ge (eG E))  h Z) : V E 6 0 0 h 178 [] [] := by
  unfold wq_Model_does_178 at hw
  exact V_vret hc hq ⟨rfl, hw⟩ (by decide) (by decide) d_Model_does_178
set_option maxRecDepth 100000 in
set_option maxHeartbeats 4000000 in
theorem vb_Model_does_152 {E : mm_E} {Z : mm_M → Prop} (hc : cx E "EpochServerModel" c_Model_does 6 none rm_Model_does) (hq : cq E rm_Model_does (pV Z))  (v0 : Nat) (v2 : Int32) (s0 : Int32) (h : mm_M) (hw : wq_Model_does_152  (mm_ge (eG E)) v0 v2 s0 h Z) : V E 6 0 0 h 152 [(0, va_rf (some v0)), (2, .int (v2))] [.int (s0)] := by
  unfold wq_Model_does_152 at hw
  refine V_istore (i := 4) (lv' := [(4, .int (s0)), (0, va_rf (some v0)), (2, .int (v2))]) hc d_Model_does_152 (by decide) rfl ?_
  refine V_aload_n hc 1 d_Model_does_154 rfl rfl ?_
  obtain ⟨q1, hw⟩ := hw
  refine V_get (v := va_rf (mm_P h v0 23)) hc gf_Model_56 rfl q1 rfl d_Model_does_155 ?_
  refine V_iload_n hc 2 d_Model_does_158 rfl rfl ?_
  obtain ⟨a2, q3, hw⟩ := hw
  obtain ⟨q4, hw⟩ := hw
  obtain ⟨q5, hw⟩ := hw
  refine V_iald hc q3 q4 q5 d_Model_does_159 ?_
  refine V_istore (i := 5) (lv' := [(5, .int (mm_I h a2 (Int32.toNatClampNeg (v2)))), (4, .int (s0)), (0, va_rf (some v0)), (2, .int (v2))]) hc d_Model_does_160 (by decide) rfl ?_
  refine V_aload_n hc 2 d_Model_does_162 rfl rfl ?_
  refine V_iload_n hc 3 d_Model_does_163 rfl rfl ?_
  refine V_callV (rm' := rm_Model_gone) (As := [.int (v2)]) (rest := []) (n := 1) (cn := 0) hc rfl q1 (sat_Model_gone (eG E) _ _ _ _ hw) rfl cv_Model_270 (gw_of (tw_6 (List.mem_of_getElem? (i := 60) rfl)) rfl) ss_Model_gone rfl ⟨by decide, by decide⟩ (by decide) (by decide) rfl (by simp [cat_rf, cat_i, cat_l]) d_Model_does_164 (fun r0 h6 hw => ?_)
  obtain ⟨rfl, hw⟩ := hw
  refine V_wide (cs' := 0) (sl' := 0) (by decide) (by decide) ?_
  refine V_st (st' := []) rfl ?_
  refine V_iload hc 1 d_Model_does_167 rfl ?_
  refine V_if_eq (tgt := 178) hc d_Model_does_169 (by decide) (fun hq1 => ?_) (fun hq1 => ?_)
  · replace hw := hw.1 hq1
    refine V_sub (lv' := []) [] rfl ?_
    exact vb_Model_does_178 hc hq  _ hw
  · replace hw := hw.2 hq1
    refine V_aload_n hc 2 d_Model_does_172 rfl rfl ?_
    refine V_iload hc 0 d_Model_does_173 rfl ?_
    obtain ⟨q8, hw⟩ := hw
    refine V_callV (rm' := rm_Model_leaves) (As := [.int (mm_I h a2 (Int32.toNatClampNeg (v2)))]) (rest := []) (n := 1) (cn := 0) hc rfl q8 (sat_Model_leaves (eG E) _ _ _ _ hw) rfl cv_Model_273 (gw_of (tw_6 (List.mem_of_getElem? (i := 64) rfl)) rfl) ss_Model_leaves rfl ⟨by decide, by decide⟩ (by decide) (by decide) rfl (by simp [cat_rf, cat_i, cat_l]) d_Model_does_175 (fun r0 h9 hw => ?_)
    obtain ⟨rfl, hw⟩ := hw
    refine V_wide (cs' := 0) (sl' := 0) (by decide) (by decide) ?_
    refine V_st (st' := []) rfl ?_
    refine V_sub (lv' := []) [] rfl ?_
    exact vb_Model_does_178 hc hq  _ hw
set_option maxRecDepth 100000 in
set_option maxHeartbeats 4000000 in
theorem vb_Model_does_151 {E : mm_E} {Z : mm_M → Prop} (hc : cx E "EpochServerModel" c_Model_does 6 none rm_Model_does) (hq : cq E rm_Model_does (pV Z))  (v0 : Nat) (v2 : Int32) (h : mm_M) (hw : wq_Model_does_151  (mm_ge (eG E)) v0 v2 h Z) : V E 6 0 0 h 151 [(0, va_rf (some v0)), (2, .int (v2))] [] := by
  unfold wq_Model_does_151 at hw
  refine V_iconst (v := 0) hc d_Model_does_151 (by decide) ?_
  refine V_sub (lv' := [(0, va_rf (some v0)), (2, .int (v2))]) [0, 1] rfl ?_
  exact vb_Model_does_152 hc hq  _ _ _ _ hw
set_option maxRecDepth 100000 in
set_option maxHeartbeats 4000000 in
theorem vb_Model_does_81 {E : mm_E} {Z : mm_M → Prop} (hc : cx E "EpochServerModel" c_Model_does 6 none rm_Model_does) (hq : cq E rm_Model_does (pV Z))  (v0 : Nat) (v1 : Int32) (v2 : Int32) (s0 : Option Nat) (s1 : Int32) (h : mm_M) (hw : wq_Model_does_81  (mm_ge (eG E)) v0 v1 v2 s0 s1 h Z) : V E 6 0 0 h 81 [(0, va_rf (some v0)), (1, .int (v1)), (2, .int (v2))] [.int (s1), va_rf (s0)] := by
  unfold wq_Model_does_81 at hw
  refine V_iconst (v := 2) hc d_Model_does_81 (by decide) ?_
  obtain ⟨a1, q2, hw⟩ := hw
  obtain ⟨q3, hw⟩ := hw
  refine V_callV (rm' := rm_Model_fails) (As := [.int (s1), .int (2)]) (rest := []) (n := 2) (cn := 0) hc q2 q3 (sat_Model_fails (eG E) _ _ _ _ _ hw) rfl cv_Model_249 (gw_of (tw_5 (List.mem_of_getElem? (i := 209) rfl)) rfl) ss_Model_fails rfl ⟨by decide, by decide⟩ (by decide) (by decide) rfl (by simp [cat_rf, cat_i, cat_l]) d_Model_does_82 (fun r0 h4 hw => ?_)
  obtain ⟨r5, rfl, hw⟩ := hw
  refine V_wide (cs' := 0) (sl' := 0) (by decide) (by decide) ?_
  refine V_st (st' := [.int (r5)]) rfl ?_
  refine V_if_eq (tgt := 89) hc d_Model_does_85 (by decide) (fun hq1 => ?_) (fun hq1 => ?_)
  · replace hw := hw.1 hq1
    refine V_aload_n hc 0 d_Model_does_89 rfl rfl ?_
    refine V_iload_n hc 2 d_Model_does_90 rfl rfl ?_
    obtain ⟨q6, hw⟩ := hw
    refine V_callV (rm' := rm_Model_isLost) (As := [.int (v2)]) (rest := []) (n := 1) (cn := 0) hc rfl q6 (sat_Model_isLost (eG E) _ _ _ _ hw) rfl cv_Model_260 (gw_of (tw_6 (List.mem_of_getElem? (i := 44) rfl)) rfl) ss_Model_isLost rfl ⟨by decide, by decide⟩ (by decide) (by decide) rfl (by simp [cat_rf, cat_i, cat_l]) d_Model_does_91 (fun r0 h7 hw => ?_)
    obtain ⟨r8, rfl, hw⟩ := hw
    refine V_wide (cs' := 0) (sl' := 0) (by decide) (by decide) ?_
    refine V_st (st' := [.int (r8)]) rfl ?_
    refine V_istore_n (i := 3) (lv' := [(3, .int (r8)), (0, va_rf (some v0)), (1, .int (v1)), (2, .int (v2))]) hc d_Model_does_94 rfl (by decide) rfl ?_
    refine V_iload_n hc 2 d_Model_does_95 rfl rfl ?_
    refine V_bipush (v := 122) hc d_Model_does_96 (by decide) ?_
    refine V_icmp_ne (tgt := 108) hc d_Model_does_98 (by decide) (fun hq1 => ?_) (fun hq1 => ?_)
    · replace hw := hw.1 hq1
      refine V_iload_n hc 2 d_Model_does_108 rfl rfl ?_
      refine V_bipush (v := 120) hc d_Model_does_109 (by decide) ?_
      refine V_icmp_ne (tgt := 179) hc d_Model_does_111 (by decide) (fun hq1 => ?_) (fun hq1 => ?_)
      · replace hw := hw.1 hq1
        refine V_aload_n hc 1 d_Model_does_179 rfl rfl ?_
        refine V_iload_n hc 0 d_Model_does_180 rfl rfl ?_
        refine V_iconst (v := 4) hc d_Model_does_181 (by decide) ?_
        obtain ⟨q9, hw⟩ := hw
        refine V_callV (rm' := rm_Model_fails) (As := [.int (r8), .int (4)]) (rest := []) (n := 2) (cn := 0) hc rfl q9 (sat_Model_fails (eG E) _ _ _ _ _ hw) rfl cv_Model_249 (gw_of (tw_5 (List.mem_of_getElem? (i := 209) rfl)) rfl) ss_Model_fails rfl ⟨by decide, by decide⟩ (by decide) (by decide) rfl (by simp [cat_rf, cat_i, cat_l]) d_Model_does_182 (fun r0 h10 hw => ?_)
        obtain ⟨r11, rfl, hw⟩ := hw
        refine V_wide (cs' := 0) (sl' := 0) (by decide) (by decide) ?_
        refine V_st (st' := [.int (r11)]) rfl ?_
        refine V_if_eq (tgt := 189) hc d_Model_does_185 (by decide) (fun hq1 => ?_) (fun hq1 => ?_)
        · replace hw := hw.1 hq1
          refine V_iload_n hc 2 d_Model_does_189 rfl rfl ?_
          by_cases hs0 : (v1) = (110 : Int32)
          · replace hw := hw.1 hs0
            refine V_tabIn (off := 74) (tgt := 264) hc d_Model_does_190 (by rw [hs0]; decide) (by rw [hs0]; decide) (by rw [hs0]; rfl) (by decide) ?_
            refine V_aload_n hc 1 d_Model_does_264 rfl rfl ?_
            refine V_iload_n hc 3 d_Model_does_265 rfl rfl ?_
            obtain ⟨q12, hw⟩ := hw
            refine V_callV (rm' := rm_Model_walks) (As := [.int (v2)]) (rest := []) (n := 1) (cn := 0) hc rfl q12 (sat_Model_walks (eG E) _ _ _ _ hw) rfl cv_Model_276 (gw_of (tw_6 (List.mem_of_getElem? (i := 72) rfl)) rfl) ss_Model_walks rfl ⟨by decide, by decide⟩ (by decide) (by decide) rfl (by simp [cat_rf, cat_i, cat_l]) d_Model_does_266 (fun r0 h13 hw => ?_)
            obtain ⟨rfl, hw⟩ := hw
            refine V_wide (cs' := 0) (sl' := 0) (by decide) (by decide) ?_
            refine V_st (st' := []) rfl ?_
            exact V_vret hc hq ⟨rfl, hw⟩ (by decide) (by decide) d_Model_does_269
          by_cases hs1 : (v1) = (112 : Int32)
          · replace hw := hw.2.1 hs1
            refine V_tabIn (off := 80) (tgt := 270) hc d_Model_does_190 (by rw [hs1]; decide) (by rw [hs1]; decide) (by rw [hs1]; rfl) (by decide) ?_
            refine V_aload_n hc 1 d_Model_does_270 rfl rfl ?_
            refine V_iload_n hc 3 d_Model_does_271 rfl rfl ?_
            obtain ⟨q15, hw⟩ := hw
            refine V_callV (rm' := rm_Model_opens) (As := [.int (v2)]) (rest := []) (n := 1) (cn := 0) hc rfl q15 (sat_Model_opens (eG E) _ _ _ _ hw) rfl cv_Model_279 (gw_of (tw_6 (List.mem_of_getElem? (i := 84) rfl)) rfl) ss_Model_opens rfl ⟨by decide, by decide⟩ (by decide) (by decide) rfl (by simp [cat_rf, cat_i, cat_l]) d_Model_does_272 (fun r0 h16 hw => ?_)
            obtain ⟨rfl, hw⟩ := hw
            refine V_wide (cs' := 0) (sl' := 0) (by decide) (by decide) ?_
            refine V_st (st' := []) rfl ?_
            exact V_vret hc hq ⟨rfl, hw⟩ (by decide) (by decide) d_Model_does_275
          by_cases hs2 : (v1) = (114 : Int32)
          · replace hw := hw.2.2.1 hs2
            refine V_tabIn (off := 86) (tgt := 276) hc d_Model_does_190 (by rw [hs2]; decide) (by rw [hs2]; decide) (by rw [hs2]; rfl) (by decide) ?_
            refine V_aload_n hc 1 d_Model_does_276 rfl rfl ?_
            refine V_iload_n hc 3 d_Model_does_277 rfl rfl ?_
            obtain ⟨q18, hw⟩ := hw
            refine V_callV (rm' := rm_Model_creates) (As := [.int (v2)]) (rest := []) (n := 1) (cn := 0) hc rfl q18 (sat_Model_creates (eG E) _ _ _ _ hw) rfl cv_Model_282 (gw_of (tw_6 (List.mem_of_getElem? (i := 92) rfl)) rfl) ss_Model_creates rfl ⟨by decide, by decide⟩ (by decide) (by decide) rfl (by simp [cat_rf, cat_i, cat_l]) d_Model_does_278 (fun r0 h19 hw => ?_)
            obtain ⟨rfl, hw⟩ := hw
            refine V_wide (cs' := 0) (sl' := 0) (by decide) (by decide) ?_
            refine V_st (st' := []) rfl ?_
            exact V_vret hc hq ⟨rfl, hw⟩ (by decide) (by decide) d_Model_does_281
          by_cases hs3 : (v1) = (116 : Int32)
          · replace hw := hw.2.2.2.1 hs3
            refine V_tabIn (off := 92) (tgt := 282) hc d_Model_does_190 (by rw [hs3]; decide) (by rw [hs3]; decide) (by rw [hs3]; rfl) (by decide) ?_
            refine V_aload_n hc 1 d_Model_does_282 rfl rfl ?_
            refine V_iload_n hc 3 d_Model_does_283 rfl rfl ?_
            obtain ⟨q21, hw⟩ := hw
            refine V_callV (rm' := rm_Model_readsOf) (As := [.int (v2)]) (rest := []) (n := 1) (cn := 0) hc rfl q21 (sat_Model_readsOf (eG E) _ _ _ _ hw) rfl cv_Model_285 (gw_of (tw_6 (List.mem_of_getElem? (i := 104) rfl)) rfl) ss_Model_readsOf rfl ⟨by decide, by decide⟩ (by decide) (by decide) rfl (by simp [cat_rf, cat_i, cat_l]) d_Model_does_284 (fun r0 h22 hw => ?_)
            obtain ⟨rfl, hw⟩ := hw
            refine V_wide (cs' := 0) (sl' := 0) (by decide) (by decide) ?_
            refine V_st (st' := []) rfl ?_
            exact V_vret hc hq ⟨rfl, hw⟩ (by decide) (by decide) d_Model_does_287
          by_cases hs4 : (v1) = (118 : Int32)
          · replace hw := hw.2.2.2.2.1 hs4
            refine V_tabIn (off := 98) (tgt := 288) hc d_Model_does_190 (by rw [hs4]; decide) (by rw [hs4]; decide) (by rw [hs4]; rfl) (by decide) ?_
            refine V_aload_n hc 1 d_Model_does_288 rfl rfl ?_
            refine V_iload_n hc 3 d_Model_does_289 rfl rfl ?_
            obtain ⟨q24, hw⟩ := hw
            refine V_callV (rm' := rm_Model_writes) (As := [.int (v2)]) (rest := []) (n := 1) (cn := 0) hc rfl q24 (sat_Model_writes (eG E) _ _ _ _ hw) rfl cv_Model_288 (gw_of (tw_6 (List.mem_of_getElem? (i := 113) rfl)) rfl) ss_Model_writes rfl ⟨by decide, by decide⟩ (by decide) (by decide) rfl (by simp [cat_rf, cat_i, cat_l]) d_Model_does_290 (fun r0 h25 hw => ?_)
            obtain ⟨rfl, hw⟩ := hw
            refine V_wide (cs' := 0) (sl' := 0) (by decide) (by decide) ?_
            refine V_st (st' := []) rfl ?_
            exact V_vret hc hq ⟨rfl, hw⟩ (by decide) (by decide) d_Model_does_293
          by_cases hs5 : (v1) = (124 : Int32)
          · replace hw := hw.2.2.2.2.2.1 hs5
            refine V_tabIn (off := 104) (tgt := 294) hc d_Model_does_190 (by rw [hs5]; decide) (by rw [hs5]; decide) (by rw [hs5]; rfl) (by decide) ?_
            refine V_aload_n hc 1 d_Model_does_294 rfl rfl ?_
            refine V_lconst (v := 0) hc d_Model_does_295 (by decide) ?_
            refine V_iconst (v := 2) hc d_Model_does_296 (by decide) ?_
            obtain ⟨q27, hw⟩ := hw
            refine V_callV (rm' := rm_Model_put) (As := [.long (0), .int (2)]) (rest := []) (n := 2) (cn := 0) hc rfl q27 (sat_Model_put (eG E) _ _ _ _ _ hw) rfl cv_Model_212 (gw_of (tw_6 (List.mem_of_getElem? (i := 15) rfl)) rfl) ss_Model_put rfl ⟨by decide, by decide⟩ (by decide) (by decide) rfl (by simp [cat_rf, cat_i, cat_l]) d_Model_does_297 (fun r0 h28 hw => ?_)
            obtain ⟨rfl, hw⟩ := hw
            refine V_wide (cs' := 0) (sl' := 0) (by decide) (by decide) ?_
            refine V_st (st' := []) rfl ?_
            refine V_aload_n hc 1 d_Model_does_300 rfl rfl ?_
            obtain ⟨q30, hw⟩ := hw
            refine V_get (v := .int (mm_I h28 v0 17)) hc gf_Model_197 rfl q30 rfl d_Model_does_301 ?_
            refine V_istore (i := 4) (lv' := [(4, .int (mm_I h28 v0 17)), (3, .int (r8)), (0, va_rf (some v0)), (1, .int (v1)), (2, .int (v2))]) hc d_Model_does_304 (by decide) rfl ?_
            refine V_aload_n hc 2 d_Model_does_306 rfl rfl ?_
            refine V_aload_n hc 2 d_Model_does_307 rfl rfl ?_
            refine V_get (v := va_rf (mm_P h28 v0 22)) hc gf_Model_53 rfl q30 rfl d_Model_does_308 ?_
            refine V_iload_n hc 4 d_Model_does_311 rfl rfl ?_
            obtain ⟨a31, q32, hw⟩ := hw
            obtain ⟨q33, hw⟩ := hw
            obtain ⟨q34, hw⟩ := hw
            refine V_iald hc q32 q33 q34 d_Model_does_312 ?_
            refine V_aload_n hc 2 d_Model_does_313 rfl rfl ?_
            refine V_get (v := va_rf (mm_P h28 v0 23)) hc gf_Model_56 rfl q30 rfl d_Model_does_314 ?_
            refine V_iload_n hc 4 d_Model_does_317 rfl rfl ?_
            obtain ⟨a35, q36, hw⟩ := hw
            obtain ⟨q37, hw⟩ := hw
            obtain ⟨q38, hw⟩ := hw
            refine V_iald hc q36 q37 q38 d_Model_does_318 ?_
            refine V_callV (rm' := rm_Model_stat) (As := [.int (mm_I h28 a31 (Int32.toNatClampNeg (v2))), .int (mm_I h28 a35 (Int32.toNatClampNeg (v2)))]) (rest := []) (n := 2) (cn := 0) hc rfl q30 (sat_Model_stat (eG E) _ _ _ _ _ hw) rfl cv_Model_291 (gw_of (tw_6 (List.mem_of_getElem? (i := 108) rfl)) rfl) ss_Model_stat rfl ⟨by decide, by decide⟩ (by decide) (by decide) rfl (by simp [cat_rf, cat_i, cat_l]) d_Model_does_319 (fun r0 h39 hw => ?_)
            obtain ⟨rfl, hw⟩ := hw
            refine V_wide (cs' := 0) (sl' := 0) (by decide) (by decide) ?_
            refine V_st (st' := []) rfl ?_
            refine V_aload_n hc 2 d_Model_does_322 rfl rfl ?_
            obtain ⟨q41, hw⟩ := hw
            refine V_get (v := va_rf (mm_P h39 v0 15)) hc gf_Model_47 rfl q41 rfl d_Model_does_323 ?_
            refine V_iload hc 0 d_Model_does_326 rfl ?_
            refine V_iconst (v := 2) hc d_Model_does_328 (by decide) ?_
            refine V_isub hc d_Model_does_329 ?_
            refine V_aload_n hc 2 d_Model_does_330 rfl rfl ?_
            refine V_get (v := .int (mm_I h39 v0 17)) hc gf_Model_197 rfl q41 rfl d_Model_does_331 ?_
            refine V_iload hc 0 d_Model_does_334 rfl ?_
            refine V_isub hc d_Model_does_336 ?_
            obtain ⟨a42, q43, hw⟩ := hw
            obtain ⟨q44, hw⟩ := hw
            obtain ⟨q45, hw⟩ := hw
            obtain ⟨q46, hw⟩ := hw
            obtain ⟨h47, eq_h47⟩ : ∃ x, x = mm_uI h39 a42 (Int32.toNatClampNeg ((mm_I h28 v0 17) - (2 : Int32))) ((mm_I h39 v0 17) - (mm_I h28 v0 17)) := ⟨_, rfl⟩
            replace hw := hw _ eq_h47
            refine V_iast hc q43 q44 q45 q46 d_Model_does_337 ?_
            rw [← eq_h47]
            exact V_vret hc hq ⟨rfl, hw⟩ (by decide) (by decide) d_Model_does_338
          replace hw := hw.2.2.2.2.2.2 ⟨hs0, hs1, hs2, hs3, hs4, hs5⟩
          suffices hsD : V E 6 0 0 h10 339 [(3, .int (r8)), (0, va_rf (some v0)), (1, .int (v1)), (2, .int (v2))] [] by
            by_cases ht0 : (v1) = (111 : Int32)
            · exact V_tabIn (off := 149) (tgt := 339) hc d_Model_does_190 (by rw [ht0]; decide) (by rw [ht0]; decide) (by rw [ht0]; rfl) (by decide) hsD
            by_cases ht1 : (v1) = (113 : Int32)
            · exact V_tabIn (off := 149) (tgt := 339) hc d_Model_does_190 (by rw [ht1]; decide) (by rw [ht1]; decide) (by rw [ht1]; rfl) (by decide) hsD
            by_cases ht2 : (v1) = (115 : Int32)
            · exact V_tabIn (off := 149) (tgt := 339) hc d_Model_does_190 (by rw [ht2]; decide) (by rw [ht2]; decide) (by rw [ht2]; rfl) (by decide) hsD
            by_cases ht3 : (v1) = (117 : Int32)
            · exact V_tabIn (off := 149) (tgt := 339) hc d_Model_does_190 (by rw [ht3]; decide) (by rw [ht3]; decide) (by rw [ht3]; rfl) (by decide) hsD
            by_cases ht4 : (v1) = (119 : Int32)
            · exact V_tabIn (off := 149) (tgt := 339) hc d_Model_does_190 (by rw [ht4]; decide) (by rw [ht4]; decide) (by rw [ht4]; rfl) (by decide) hsD
            by_cases ht5 : (v1) = (120 : Int32)
            · exact V_tabIn (off := 149) (tgt := 339) hc d_Model_does_190 (by rw [ht5]; decide) (by rw [ht5]; decide) (by rw [ht5]; rfl) (by decide) hsD
            by_cases ht6 : (v1) = (121 : Int32)
            · exact V_tabIn (off := 149) (tgt := 339) hc d_Model_does_190 (by rw [ht6]; decide) (by rw [ht6]; decide) (by rw [ht6]; rfl) (by decide) hsD
            by_cases ht7 : (v1) = (122 : Int32)
            · exact V_tabIn (off := 149) (tgt := 339) hc d_Model_does_190 (by rw [ht7]; decide) (by rw [ht7]; decide) (by rw [ht7]; rfl) (by decide) hsD
            by_cases ht8 : (v1) = (123 : Int32)
            · exact V_tabIn (off := 149) (tgt := 339) hc d_Model_does_190 (by rw [ht8]; decide) (by rw [ht8]; decide) (by rw [ht8]; rfl) (by decide) hsD
            have nhs0 := lv_neT (a := 110) hs0 (by decide)
            have nhs1 := lv_neT (a := 112) hs1 (by decide)
            have nhs2 := lv_neT (a := 114) hs2 (by decide)
            have nhs3 := lv_neT (a := 116) hs3 (by decide)
            have nhs4 := lv_neT (a := 118) hs4 (by decide)
            have nhs5 := lv_neT (a := 124) hs5 (by decide)
            have nht0 := lv_neT (a := 111) ht0 (by decide)
            have nht1 := lv_neT (a := 113) ht1 (by decide)
            have nht2 := lv_neT (a := 115) ht2 (by decide)
            have nht3 := lv_neT (a := 117) ht3 (by decide)
            have nht4 := lv_neT (a := 119) ht4 (by decide)
            have nht5 := lv_neT (a := 120) ht5 (by decide)
            have nht6 := lv_neT (a := 121) ht6 (by decide)
            have nht7 := lv_neT (a := 122) ht7 (by decide)
            have nht8 := lv_neT (a := 123) ht8 (by decide)
            exact V_tabOut (tgt := 339) hc d_Model_does_190 (by omega) (by decide) hsD
          refine V_aload_n hc 1 d_Model_does_339 rfl rfl ?_
          refine V_iload_n hc 3 d_Model_does_340 rfl rfl ?_
          obtain ⟨q48, hw⟩ := hw
          refine V_callV (rm' := rm_Model_wstats) (As := [.int (v2)]) (rest := []) (n := 1) (cn := 0) hc rfl q48 (sat_Model_wstats (eG E) _ _ _ _ hw) rfl cv_Model_294 (gw_of (tw_6 (List.mem_of_getElem? (i := 122) rfl)) rfl) ss_Model_wstats rfl ⟨by decide, by decide⟩ (by decide) (by decide) rfl (by simp [cat_rf, cat_i, cat_l]) d_Model_does_341 (fun r0 h49 hw => ?_)
          obtain ⟨rfl, hw⟩ := hw
          refine V_wide (cs' := 0) (sl' := 0) (by decide) (by decide) ?_
          refine V_st (st' := []) rfl ?_
          exact V_vret hc hq ⟨rfl, hw⟩ (by decide) (by decide) d_Model_does_344
        · replace hw := hw.2 hq1
          exact V_vret hc hq ⟨rfl, hw⟩ (by decide) (by decide) d_Model_does_188
      · replace hw := hw.2 hq1
        refine V_iload_n hc 0 d_Model_does_114 rfl rfl ?_
        refine V_if_ne (tgt := 151) hc d_Model_does_115 (by decide) (fun hq1 => ?_) (fun hq1 => ?_)
        · replace hw := hw.1 hq1
          refine V_sub (lv' := [(0, va_rf (some v0)), (2, .int (v2))]) [1, 3] rfl ?_
          exact vb_Model_does_151 hc hq  _ _ _ hw
        · replace hw := hw.2 hq1
          refine V_aload_n hc 1 d_Model_does_118 rfl rfl ?_
          obtain ⟨q51, hw⟩ := hw
          refine V_get (v := va_rf (mm_P h7 v0 24)) hc gf_Model_59 rfl q51 rfl d_Model_does_119 ?_
          refine V_iload_n hc 3 d_Model_does_122 rfl rfl ?_
          obtain ⟨a52, q53, hw⟩ := hw
          obtain ⟨q54, hw⟩ := hw
          obtain ⟨q55, hw⟩ := hw
          refine V_iald hc q53 q54 q55 d_Model_does_123 ?_
          refine V_if_lt (tgt := 151) hc d_Model_does_124 (by decide) (fun hq1 => ?_) (fun hq1 => ?_)
          · replace hw := hw.1 hq1
            refine V_sub (lv' := [(0, va_rf (some v0)), (2, .int (v2))]) [1, 3] rfl ?_
            exact vb_Model_does_151 hc hq  _ _ _ hw
          · replace hw := hw.2 hq1
            refine V_aload_n hc 1 d_Model_does_127 rfl rfl ?_
            refine V_get (v := va_rf (mm_P h7 v0 24)) hc gf_Model_59 rfl q51 rfl d_Model_does_128 ?_
            refine V_iload_n hc 3 d_Model_does_131 rfl rfl ?_
            obtain ⟨q56, hw⟩ := hw
            refine V_iald hc q53 q54 q56 d_Model_does_132 ?_
            refine V_bipush (v := 64) hc d_Model_does_133 (by decide) ?_
            refine V_iand hc d_Model_does_135 ?_
            refine V_if_eq (tgt := 151) hc d_Model_does_136 (by decide) (fun hq1 => ?_) (fun hq1 => ?_)
            · replace hw := hw.1 hq1
              refine V_sub (lv' := [(0, va_rf (some v0)), (2, .int (v2))]) [1, 3] rfl ?_
              exact vb_Model_does_151 hc hq  _ _ _ hw
            · replace hw := hw.2 hq1
              refine V_aload_n hc 1 d_Model_does_139 rfl rfl ?_
              refine V_iload_n hc 3 d_Model_does_140 rfl rfl ?_
              refine V_callV (rm' := rm_Model_whyNot) (As := [.int (v2)]) (rest := []) (n := 1) (cn := 0) hc rfl q51 (sat_Model_whyNot (eG E) _ _ _ _ hw) rfl cv_Model_267 (gw_of (tw_6 (List.mem_of_getElem? (i := 52) rfl)) rfl) ss_Model_whyNot rfl ⟨by decide, by decide⟩ (by decide) (by decide) rfl (by simp [cat_rf, cat_i, cat_l]) d_Model_does_141 (fun r0 h57 hw => ?_)
              obtain ⟨r58, rfl, hw⟩ := hw
              refine V_wide (cs' := 0) (sl' := 0) (by decide) (by decide) ?_
              refine V_st (st' := [.int (r58)]) rfl ?_
              refine V_if_ne (tgt := 151) hc d_Model_does_144 (by decide) (fun hq1 => ?_) (fun hq1 => ?_)
              · replace hw := hw.1 hq1
                refine V_sub (lv' := [(0, va_rf (some v0)), (2, .int (v2))]) [1, 3] rfl ?_
                exact vb_Model_does_151 hc hq  _ _ _ hw
              · replace hw := hw.2 hq1
                refine V_iconst (v := 1) hc d_Model_does_147 (by decide) ?_
                refine V_goto (tgt := 152) hc d_Model_does_148 (by decide) ?_
                refine V_sub (lv' := [(0, va_rf (some v0)), (2, .int (v2))]) [1, 3] rfl ?_
                exact vb_Model_does_152 hc hq  _ _ _ _ hw
    · replace hw := hw.2 hq1
      refine V_aload_n hc 1 d_Model_does_101 rfl rfl ?_
      refine V_iload_n hc 3 d_Model_does_102 rfl rfl ?_
      refine V_iload_n hc 0 d_Model_does_103 rfl rfl ?_
      obtain ⟨q59, hw⟩ := hw
      refine V_callV (rm' := rm_Model_removes) (As := [.int (v2), .int (r8)]) (rest := []) (n := 2) (cn := 0) hc rfl q59 (sat_Model_removes (eG E) _ _ _ _ _ hw) rfl cv_Model_263 (gw_of (tw_6 (List.mem_of_getElem? (i := 48) rfl)) rfl) ss_Model_removes rfl ⟨by decide, by decide⟩ (by decide) (by decide) rfl (by simp [cat_rf, cat_i, cat_l]) d_Model_does_104 (fun r0 h60 hw => ?_)
      obtain ⟨rfl, hw⟩ := hw
      refine V_wide (cs' := 0) (sl' := 0) (by decide) (by decide) ?_
      refine V_st (st' := []) rfl ?_
      exact V_vret hc hq ⟨rfl, hw⟩ (by decide) (by decide) d_Model_does_107
  · replace hw := hw.2 hq1
    exact V_vret hc hq ⟨rfl, hw⟩ (by decide) (by decide) d_Model_does_88
set_option maxRecDepth 100000 in
set_option maxHeartbeats 4000000 in
theorem vb_Model_does_24 {E : mm_E} {Z : mm_M → Prop} (hc : cx E "EpochServerModel" c_Model_does 6 none rm_Model_does) (hq : cq E rm_Model_does (pV Z))  (v0 : Nat) (v1 : Int32) (s0 : Option Nat) (s1 : Int32) (h : mm_M) (hw : wq_Model_does_24  (mm_ge (eG E)) v0 v1 s0 s1 h Z) : V E 6 0 0 h 24 [(0, va_rf (some v0)), (1, .int (v1))] [.int (s1), va_rf (s0)] := by
  unfold wq_Model_does_24 at hw
  refine V_iconst (v := 1) hc d_Model_does_24 (by decide) ?_
  obtain ⟨a1, q2, hw⟩ := hw
  obtain ⟨q3, hw⟩ := hw
  refine V_callV (rm' := rm_Model_fails) (As := [.int (s1), .int (1)]) (rest := []) (n := 2) (cn := 0) hc q2 q3 (sat_Model_fails (eG E) _ _ _ _ _ hw) rfl cv_Model_249 (gw_of (tw_5 (List.mem_of_getElem? (i := 209) rfl)) rfl) ss_Model_fails rfl ⟨by decide, by decide⟩ (by decide) (by decide) rfl (by simp [cat_rf, cat_i, cat_l]) d_Model_does_25 (fun r0 h4 hw => ?_)
  obtain ⟨r5, rfl, hw⟩ := hw
  refine V_wide (cs' := 0) (sl' := 0) (by decide) (by decide) ?_
  refine V_st (st' := [.int (r5)]) rfl ?_
  refine V_if_eq (tgt := 32) hc d_Model_does_28 (by decide) (fun hq1 => ?_) (fun hq1 => ?_)
  · replace hw := hw.1 hq1
    refine V_iload_n hc 1 d_Model_does_32 rfl rfl ?_
    refine V_bipush (v := 102) hc d_Model_does_33 (by decide) ?_
    refine V_icmp_ne (tgt := 44) hc d_Model_does_35 (by decide) (fun hq1 => ?_) (fun hq1 => ?_)
    · replace hw := hw.1 hq1
      refine V_iload_n hc 1 d_Model_does_44 rfl rfl ?_
      refine V_bipush (v := 108) hc d_Model_does_45 (by decide) ?_
      refine V_icmp_ne (tgt := 51) hc d_Model_does_47 (by decide) (fun hq1 => ?_) (fun hq1 => ?_)
      · replace hw := hw.1 hq1
        refine V_iload_n hc 1 d_Model_does_51 rfl rfl ?_
        refine V_bipush (v := 104) hc d_Model_does_52 (by decide) ?_
        refine V_icmp_ne (tgt := 62) hc d_Model_does_54 (by decide) (fun hq1 => ?_) (fun hq1 => ?_)
        · replace hw := hw.1 hq1
          refine V_aload_n hc 0 d_Model_does_62 rfl rfl ?_
          refine V_aload_n hc 0 d_Model_does_63 rfl rfl ?_
          obtain ⟨q6, hw⟩ := hw
          refine V_get (v := .int (mm_I h4 v0 33)) hc gf_Model_147 rfl q6 rfl d_Model_does_64 ?_
          refine V_callV (rm' := rm_Model_fidOf) (As := [.int (mm_I h4 v0 33)]) (rest := []) (n := 1) (cn := 0) hc rfl q6 (sat_Model_fidOf (eG E) _ _ _ _ hw) rfl cv_Model_256 (gw_of (tw_6 (List.mem_of_getElem? (i := 27) rfl)) rfl) ss_Model_fidOf rfl ⟨by decide, by decide⟩ (by decide) (by decide) rfl (by simp [cat_rf, cat_i, cat_l]) d_Model_does_67 (fun r0 h7 hw => ?_)
          obtain ⟨r8, rfl, hw⟩ := hw
          refine V_wide (cs' := 0) (sl' := 0) (by decide) (by decide) ?_
          refine V_st (st' := [.int (r8)]) rfl ?_
          refine V_istore_n (i := 2) (lv' := [(2, .int (r8)), (0, va_rf (some v0)), (1, .int (v1))]) hc d_Model_does_70 rfl (by decide) rfl ?_
          refine V_aload_n hc 1 d_Model_does_71 rfl rfl ?_
          refine V_iload_n hc 0 d_Model_does_72 rfl rfl ?_
          refine V_if_ge (tgt := 80) hc d_Model_does_73 (by decide) (fun hq1 => ?_) (fun hq1 => ?_)
          · replace hw := hw.1 hq1
            refine V_iconst (v := 0) hc d_Model_does_80 (by decide) ?_
            refine V_sub (lv' := [(0, va_rf (some v0)), (1, .int (v1)), (2, .int (r8))]) [1, 2, 0] rfl ?_
            exact vb_Model_does_81 hc hq  _ _ _ _ _ _ hw
          · replace hw := hw.2 hq1
            refine V_iconst (v := 1) hc d_Model_does_76 (by decide) ?_
            refine V_goto (tgt := 81) hc d_Model_does_77 (by decide) ?_
            refine V_sub (lv' := [(0, va_rf (some v0)), (1, .int (v1)), (2, .int (r8))]) [1, 2, 0] rfl ?_
            exact vb_Model_does_81 hc hq  _ _ _ _ _ _ hw
        · replace hw := hw.2 hq1
          refine V_aload_n hc 0 d_Model_does_57 rfl rfl ?_
          obtain ⟨q9, hw⟩ := hw
          refine V_callV (rm' := rm_Model_attaches) (As := []) (rest := []) (n := 0) (cn := 0) hc rfl q9 (sat_Model_attaches (eG E) _ _ _ hw) rfl cv_Model_253 (gw_of (tw_6 (List.mem_of_getElem? (i := 23) rfl)) rfl) ss_Model_attaches rfl ⟨by decide, by decide⟩ (by decide) (by decide) rfl (by simp [cat_rf, cat_i, cat_l]) d_Model_does_58 (fun r0 h10 hw => ?_)
          obtain ⟨rfl, hw⟩ := hw
          refine V_wide (cs' := 0) (sl' := 0) (by decide) (by decide) ?_
          refine V_st (st' := []) rfl ?_
          exact V_vret hc hq ⟨rfl, hw⟩ (by decide) (by decide) d_Model_does_61
      · replace hw := hw.2 hq1
        exact V_vret hc hq ⟨rfl, hw⟩ (by decide) (by decide) d_Model_does_50
    · replace hw := hw.2 hq1
      refine V_aload_n hc 0 d_Model_does_38 rfl rfl ?_
      refine V_iconst (v := 3) hc d_Model_does_39 (by decide) ?_
      obtain ⟨q12, hw⟩ := hw
      obtain ⟨q13, hw⟩ := hw
      obtain ⟨h14, eq_h14⟩ : ∃ x, x = mm_uI h4 (v0) 53 (3) := ⟨_, rfl⟩
      replace hw := hw _ eq_h14
      refine V_put (h' := h14) hc gf_Model_200 rfl rfl q12 q13 (by rw [eq_h14]; exact mm_Up_I _ _ _ _) (by rw [eq_h14]; exact up_vI rfl) (vp_nar_int _) rfl d_Model_does_40 ?_
      exact V_vret hc hq ⟨rfl, hw⟩ (by decide) (by decide) d_Model_does_43
  · replace hw := hw.2 hq1
    exact V_vret hc hq ⟨rfl, hw⟩ (by decide) (by decide) d_Model_does_31
set_option maxRecDepth 100000 in
set_option maxHeartbeats 4000000 in
theorem vb_Model_does_0 {E : mm_E} {Z : mm_M → Prop} (hc : cx E "EpochServerModel" c_Model_does 6 none rm_Model_does) (hq : cq E rm_Model_does (pV Z))  (v0 : Nat) (v1 : Int32) (h : mm_M) (hw : wq_Model_does_0  (mm_ge (eG E)) v0 v1 h Z) : V E 6 0 0 h 0 [(0, va_rf (some v0)), (1, .int (v1))] [] := by
  unfold wq_Model_does_0 at hw
  refine V_iload_n hc 1 d_Model_does_0 rfl rfl ?_
  refine V_bipush (v := 100) hc d_Model_does_1 (by decide) ?_
  refine V_icmp_ne (tgt := 11) hc d_Model_does_3 (by decide) (fun hq1 => ?_) (fun hq1 => ?_)
  · replace hw := hw.1 hq1
    refine V_aload_n hc 0 d_Model_does_11 rfl rfl ?_
    refine V_aload_n hc 0 d_Model_does_12 rfl rfl ?_
    obtain ⟨q1, hw⟩ := hw
    refine V_get (v := .int (mm_I h v0 20)) hc gf_Model_246 rfl q1 rfl d_Model_does_13 ?_
    refine V_if_ne (tgt := 23) hc d_Model_does_16 (by decide) (fun hq1 => ?_) (fun hq1 => ?_)
    · replace hw := hw.1 hq1
      refine V_iconst (v := 0) hc d_Model_does_23 (by decide) ?_
      refine V_sub (lv' := [(0, va_rf (some v0)), (1, .int (v1))]) [0, 1] rfl ?_
      exact vb_Model_does_24 hc hq  _ _ _ _ _ hw
    · replace hw := hw.2 hq1
      refine V_iconst (v := 1) hc d_Model_does_19 (by decide) ?_
      refine V_goto (tgt := 24) hc d_Model_does_20 (by decide) ?_
      refine V_sub (lv' := [(0, va_rf (some v0)), (1, .int (v1))]) [0, 1] rfl ?_
      exact vb_Model_does_24 hc hq  _ _ _ _ _ hw
  · replace hw := hw.2 hq1
    refine V_aload_n hc 0 d_Model_does_6 rfl rfl ?_
    obtain ⟨q2, hw⟩ := hw
    refine V_callV (rm' := rm_Model_versions) (As := []) (rest := []) (n := 0) (cn := 0) hc rfl q2 (sat_Model_versions (eG E) _ _ _ hw) rfl cv_Model_243 (gw_of (tw_5 (List.mem_of_getElem? (i := 204) rfl)) rfl) ss_Model_versions rfl ⟨by decide, by decide⟩ (by decide) (by decide) rfl (by simp [cat_rf, cat_i, cat_l]) d_Model_does_7 (fun r0 h3 hw => ?_)
    obtain ⟨rfl, hw⟩ := hw
    refine V_wide (cs' := 0) (sl' := 0) (by decide) (by decide) ?_
    refine V_st (st' := []) rfl ?_
    exact V_vret hc hq ⟨rfl, hw⟩ (by decide) (by decide) d_Model_does_10
def wq_Model_does (ge : Nat → Nat) (v0 : Nat) (v1 : Int32) (h : mm_M) (Z : mm_M → Prop) : Prop := wq_Model_does_0 ge v0 v1 h Z
theorem sat_Model_does (G : mm_G) (v0 : Nat) (v1 : Int32) (h : mm_M) (Z : mm_M → Prop) (hw : wq_Model_does (mm_ge G) v0 v1 h Z) : mm_Met G y_Model_does c_Model_does 6 none rm_Model_does [va_rf (some v0), .int (v1)] h (pV Z) := by
  refine mm_intro (own := "EpochServerModel") (by decide) rfl (by simp [lg_sl, cat_rf, cat_i, cat_l]) (fun E e1 hc hq hi => ?_)
  subst e1
  have e2 : lv_args 0 [va_rf (some v0), .int (v1)] = [(0, va_rf (some v0)), (1, .int (v1))] := by simp [lv_args, cat_rf, cat_i, cat_l]
  rw [e2]
  refine V_sub (lv' := [(0, va_rf (some v0)), (1, .int (v1))]) [0, 1] rfl ?_
  exact vb_Model_does_0 hc hq v0 v1 h hw
/-! Model.message(I)I -/
abbrev rm_Model_message : Room := { frames := 6, cells := 0, slots := 0, locals := 133 }
def wq_Model_message_12  (ge : Nat → Nat)  (h : mm_M) (Z : Int32 → mm_M → Prop) : Prop :=
  Z ((-2)) h
def wq_Model_message_92  (ge : Nat → Nat) (v0 : Nat) (h : mm_M) (Z : Int32 → mm_M → Prop) : Prop :=
  mm_k h (v0) = kd_Model ∧ ge 0 ≤ v0 ∧ ∀ h3 : mm_M, h3 = mm_uI h (v0) 18 ((mm_I h v0 18) + (1 : Int32)) → Z ((-1)) h3
def wq_Model_message_285  (ge : Nat → Nat) (v0 : Nat) (h : mm_M) (Z : Int32 → mm_M → Prop) : Prop :=
  mm_k h (v0) = kd_Model ∧ Z (mm_I h v0 17) h
def wq_Model_message_273  (ge : Nat → Nat) (v0 : Nat) (h : mm_M) (Z : Int32 → mm_M → Prop) : Prop :=
  mm_k h (v0) = kd_Model ∧ (((mm_I h v0 52) = 0 → wq_Model_message_285  ge (v0) h Z) ∧ (¬ (mm_I h v0 52) = 0 → ge 0 ≤ v0 ∧ ∀ h3 : mm_M, h3 = mm_uI h (v0) 13 (0) → wq_Model_message_285  ge (v0) h3 Z))
def wq_Model_message_226 (X226 : Nat → Int32 → mm_M → Prop) (ge : Nat → Nat) (v0 : Nat) (v6 : Int32) (h : mm_M) (Z : Int32 → mm_M → Prop) : Prop :=
  (((4 : Int32) ≤ (v6 : Int32) → mm_k h (v0) = kd_Model ∧ wq_Model_isSame ge (v0) (0) (27) h (fun (r3 : Int32) (h2 : mm_M) => ((¬ (r3) = 0 → wq_Model_message_273  ge (v0) h2 Z) ∧ ((r3) = 0 → mm_k h2 (v0) = kd_Model ∧ wq_Model_keep ge (v0) h2 (fun h5 : mm_M => wq_Model_message_273  ge (v0) h5 Z))))) ∧ (¬ (4 : Int32) ≤ (v6 : Int32) → mm_k h (v0) = kd_Model ∧ ∃ a8, mm_P h v0 15 = some a8 ∧ mm_k h (a8) = ka_I ∧ vp_in (v6) (mm_n h a8) ∧ ge 0 ≤ a8 ∧ ∀ h13 : mm_M, h13 = mm_uI h a8 (Int32.toNatClampNeg (v6)) (((mm_I h v0 17) >>> (((8 : Int32) * (v6)) &&& 31)) &&& (255 : Int32)) → X226 (v0) (v6 + 1) h13))
def lp_Model_message_226  (ge : Nat → Nat) (v0 : Nat) (v6 : Int32) (h : mm_M) (Z : Int32 → mm_M → Prop) : Prop :=
  ∀ X226 : Nat → Int32 → mm_M → Prop, (∀ (v0 : Nat) (v6 : Int32) (h : mm_M), wq_Model_message_226 X226 ge v0 v6 h Z → X226 v0 v6 h) → X226 v0 v6 h
def wq_Model_message_189  (ge : Nat → Nat) (v0 : Nat) (v4 : Int32) (v5 : Int32) (h : mm_M) (Z : Int32 → mm_M → Prop) : Prop :=
  mm_k h (v0) = kd_Model ∧ ∃ a2, mm_P h v0 15 = some a2 ∧ mm_k h (a2) = ka_I ∧ vp_in (4) (mm_n h a2) ∧ ge 0 ≤ a2 ∧ ∀ h7 : mm_M, h7 = mm_uI h a2 (Int32.toNatClampNeg (4)) ((v4) + (1 : Int32)) → mm_k h7 (v0) = kd_Model ∧ ∃ a9, mm_P h7 v0 15 = some a9 ∧ mm_k h7 (a9) = ka_I ∧ vp_in (5) (mm_n h7 a9) ∧ ge 0 ≤ a9 ∧ ∀ h14 : mm_M, h14 = mm_uI h7 a9 (Int32.toNatClampNeg (5)) ((v5) &&& (255 : Int32)) → mm_k h14 (v0) = kd_Model ∧ ∃ a16, mm_P h14 v0 15 = some a16 ∧ mm_k h14 (a16) = ka_I ∧ vp_in (6) (mm_n h14 a16) ∧ ge 0 ≤ a16 ∧ ∀ h21 : mm_M, h21 = mm_uI h14 a16 (Int32.toNatClampNeg (6)) ((v5) >>> ((8 : Int32) &&& 31)) → lp_Model_message_226  ge (v0) (0) h21 Z
def wq_Model_message_65  (ge : Nat → Nat) (v0 : Nat) (v1 : Int32) (v2 : Int64) (v4 : Int32) (v5 : Int32) (h : mm_M) (Z : Int32 → mm_M → Prop) : Prop :=
  mm_k h (v0) = kd_Model ∧ ge 0 ≤ v0 ∧ ∀ h3 : mm_M, h3 = mm_uI h (v0) 16 (0) → mm_k h3 (v0) = kd_Model ∧ (((mm_I h3 v0 30) = 0 → wq_Model_message_92  ge (v0) h3 Z) ∧ (¬ (mm_I h3 v0 30) = 0 → ((¬ (lg_cmp (v2) (Int32.toInt64 (v1))) = 0 → wq_Model_message_92  ge (v0) h3 Z) ∧ ((lg_cmp (v2) (Int32.toInt64 (v1))) = 0 → (((mm_I h3 v0 28 : Int32) = (v1 : Int32) → ge 0 ≤ v0 ∧ ∀ h6 : mm_M, h6 = mm_uI h3 (v0) 10 ((mm_I h3 v0 10) + (1 : Int32)) → mm_k h6 (v0) = kd_Model ∧ wq_Model_copy ge (v0) (0) (27) h6 (fun h8 : mm_M => mm_k h8 (v0) = kd_Model ∧ ge 0 ≤ v0 ∧ ∀ h12 : mm_M, h12 = mm_uI h8 (v0) 17 (7) → mm_k h12 (v0) = kd_Model ∧ ge 0 ≤ v0 ∧ ∀ h15 : mm_M, h15 = mm_uI h12 (v0) 53 (0) → mm_k h15 (v0) = kd_Model ∧ ge 0 ≤ v0 ∧ ∀ h18 : mm_M, h18 = mm_uI h15 (v0) 52 (0) → mm_k h18 (v0) = kd_Model ∧ wq_Model_does ge (v0) (v4) h18 (fun h20 : mm_M => mm_k h20 (v0) = kd_Model ∧ (((mm_I h20 v0 53) = 0 → wq_Model_message_189  ge (v0) (v4) (v5) h20 Z) ∧ (¬ (mm_I h20 v0 53) = 0 → ge 0 ≤ v0 ∧ ∀ h24 : mm_M, h24 = mm_uI h20 (v0) 19 ((mm_I h20 v0 19) + (1 : Int32)) → mm_k h24 (v0) = kd_Model ∧ ge 0 ≤ v0 ∧ ∀ h27 : mm_M, h27 = mm_uI h24 (v0) 17 (7) → mm_k h27 (v0) = kd_Model ∧ wq_Model_put ge (v0) (1) (2) h27 (fun h29 : mm_M => mm_k h29 (v0) = kd_Model ∧ wq_Model_put ge (v0) (Int32.toInt64 ((48 : Int32) + (mm_I h29 v0 53))) (1) h29 (fun h32 : mm_M => wq_Model_message_189  ge (v0) (106) (v5) h32 Z))))))) ∧ (¬ (mm_I h3 v0 28 : Int32) = (v1 : Int32) → wq_Model_message_92  ge (v0) h3 Z))))))
def wq_Model_message_0  (ge : Nat → Nat) (v0 : Nat) (v1 : Int32) (h : mm_M) (Z : Int32 → mm_M → Prop) : Prop :=
  (((v1) < 0 → wq_Model_message_12  ge h Z) ∧ (¬ (v1) < 0 → mm_k h (v0) = kd_Model ∧ (((v1 : Int32) ≤ (mm_I h v0 16 : Int32) → ge 0 ≤ v0 ∧ ∀ h3 : mm_M, h3 = mm_uI h (v0) 28 (0) → mm_k h3 (v0) = kd_Model ∧ ge 0 ≤ v0 ∧ ∀ h6 : mm_M, h6 = mm_uI h3 (v0) 29 (v1) → mm_k h6 (v0) = kd_Model ∧ ge 0 ≤ v0 ∧ ∀ h9 : mm_M, h9 = mm_uI h6 (v0) 30 (1) → mm_k h9 (v0) = kd_Model ∧ wq_Model_number ge (v0) (4) h9 (fun (r12 : Int64) (h11 : mm_M) => mm_k h11 (v0) = kd_Model ∧ wq_Model_number ge (v0) (1) h11 (fun (r15 : Int64) (h14 : mm_M) => mm_k h14 (v0) = kd_Model ∧ wq_Model_number ge (v0) (2) h14 (fun (r18 : Int64) (h17 : mm_M) => mm_k h17 (v0) = kd_Model ∧ (((mm_I h17 v0 30) = 0 → wq_Model_message_65  ge (v0) (v1) (r12) (Int64.toInt32 (r15)) (Int64.toInt32 (r18)) h17 Z) ∧ (¬ (mm_I h17 v0 30) = 0 → wq_Model_reads ge (v0) (Int64.toInt32 (r15)) h17 (fun h20 : mm_M => wq_Model_message_65  ge (v0) (v1) (r12) (Int64.toInt32 (r15)) (Int64.toInt32 (r18)) h20 Z))))))) ∧ (¬ (v1 : Int32) ≤ (mm_I h v0 16 : Int32) → wq_Model_message_12  ge h Z))))
set_option maxRecDepth 100000 in
set_option maxHeartbeats 4000000 in
theorem vb_Model_message_12 {E : mm_E} {Z : Int32 → mm_M → Prop} (hc : cx E "EpochServerModel" c_Model_message 7 (some (.int)) rm_Model_message) (hq : cq E rm_Model_message (pI Z))   (h : mm_M) (hw : wq_Model_message_12  (mm_ge (eG E))  h Z) : V E 7 0 0 h 12 [] [] := by
  unfold wq_Model_message_12 at hw
  refine V_bipush (v := (-2)) hc d_Model_message_12 (by decide) ?_
  exact V_iret hc hq ⟨_, rfl, hw⟩ (by decide) (by decide) d_Model_message_14
set_option maxRecDepth 100000 in
set_option maxHeartbeats 4000000 in
theorem vb_Model_message_92 {E : mm_E} {Z : Int32 → mm_M → Prop} (hc : cx E "EpochServerModel" c_Model_message 7 (some (.int)) rm_Model_message) (hq : cq E rm_Model_message (pI Z))  (v0 : Nat) (h : mm_M) (hw : wq_Model_message_92  (mm_ge (eG E)) v0 h Z) : V E 7 0 0 h 92 [(0, va_rf (some v0))] [] := by
  unfold wq_Model_message_92 at hw
  refine V_aload_n hc 0 d_Model_message_92 rfl rfl ?_
  refine V_dup hc d_Model_message_93 (cat_rf _) ?_
  obtain ⟨q1, hw⟩ := hw
  refine V_get (v := .int (mm_I h v0 18)) hc gf_Model_190 rfl q1 rfl d_Model_message_94 ?_
  refine V_iconst (v := 1) hc d_Model_message_97 (by decide) ?_
  refine V_iadd hc d_Model_message_98 ?_
  obtain ⟨q2, hw⟩ := hw
  obtain ⟨h3, eq_h3⟩ : ∃ x, x = mm_uI h (v0) 18 ((mm_I h v0 18) + (1 : Int32)) := ⟨_, rfl⟩
  replace hw := hw _ eq_h3
  refine V_put (h' := h3) hc gf_Model_190 rfl rfl q1 q2 (by rw [eq_h3]; exact mm_Up_I _ _ _ _) (by rw [eq_h3]; exact up_vI rfl) (vp_nar_int _) rfl d_Model_message_99 ?_
  refine V_iconst (v := (-1)) hc d_Model_message_102 (by decide) ?_
  exact V_iret hc hq ⟨_, rfl, hw⟩ (by decide) (by decide) d_Model_message_103
set_option maxRecDepth 100000 in
set_option maxHeartbeats 4000000 in
theorem vb_Model_message_285 {E : mm_E} {Z : Int32 → mm_M → Prop} (hc : cx E "EpochServerModel" c_Model_message 7 (some (.int)) rm_Model_message) (hq : cq E rm_Model_message (pI Z))  (v0 : Nat) (h : mm_M) (hw : wq_Model_message_285  (mm_ge (eG E)) v0 h Z) : V E 7 0 0 h 285 [(0, va_rf (some v0))] [] := by
  unfold wq_Model_message_285 at hw
  refine V_aload_n hc 0 d_Model_message_285 rfl rfl ?_
  obtain ⟨q1, hw⟩ := hw
  refine V_get (v := .int (mm_I h v0 17)) hc gf_Model_197 rfl q1 rfl d_Model_message_286 ?_
  exact V_iret hc hq ⟨_, rfl, hw⟩ (by decide) (by decide) d_Model_message_289
set_option maxRecDepth 100000 in
set_option maxHeartbeats 4000000 in
theorem vb_Model_message_273 {E : mm_E} {Z : Int32 → mm_M → Prop} (hc : cx E "EpochServerModel" c_Model_message 7 (some (.int)) rm_Model_message) (hq : cq E rm_Model_message (pI Z))  (v0 : Nat) (h : mm_M) (hw : wq_Model_message_273  (mm_ge (eG E)) v0 h Z) : V E 7 0 0 h 273 [(0, va_rf (some v0))] [] := by
  unfold wq_Model_message_273 at hw
  refine V_aload_n hc 0 d_Model_message_273 rfl rfl ?_
  obtain ⟨q1, hw⟩ := hw
  refine V_get (v := .int (mm_I h v0 52)) hc gf_Model_203 rfl q1 rfl d_Model_message_274 ?_
  refine V_if_eq (tgt := 285) hc d_Model_message_277 (by decide) (fun hq1 => ?_) (fun hq1 => ?_)
  · replace hw := hw.1 hq1
    refine V_sub (lv' := [(0, va_rf (some v0))]) [0] rfl ?_
    exact vb_Model_message_285 hc hq  _ _ hw
  · replace hw := hw.2 hq1
    refine V_aload_n hc 0 d_Model_message_280 rfl rfl ?_
    refine V_iconst (v := 0) hc d_Model_message_281 (by decide) ?_
    obtain ⟨q2, hw⟩ := hw
    obtain ⟨h3, eq_h3⟩ : ∃ x, x = mm_uI h (v0) 13 (0) := ⟨_, rfl⟩
    replace hw := hw _ eq_h3
    refine V_put (h' := h3) hc gf_Model_222 rfl rfl q1 q2 (by rw [eq_h3]; exact mm_Up_I _ _ _ _) (by rw [eq_h3]; exact up_vI rfl) (vp_nar_int _) rfl d_Model_message_282 ?_
    refine V_sub (lv' := [(0, va_rf (some v0))]) [0] rfl ?_
    exact vb_Model_message_285 hc hq  _ _ hw
set_option maxRecDepth 100000 in
set_option maxHeartbeats 4000000 in
theorem vb_Model_message_226 {E : mm_E} {Z : Int32 → mm_M → Prop} (hc : cx E "EpochServerModel" c_Model_message 7 (some (.int)) rm_Model_message) (hq : cq E rm_Model_message (pI Z)) (X226 : Nat → Int32 → mm_M → Prop) (hX226 : ∀ (v0 : Nat) (v6 : Int32) (h : mm_M), X226 v0 v6 h → V E 7 0 0 h 226 [(0, va_rf (some v0)), (6, .int (v6))] []) (v0 : Nat) (v6 : Int32) (h : mm_M) (hw : wq_Model_message_226 X226 (mm_ge (eG E)) v0 v6 h Z) : V E 7 0 0 h 226 [(0, va_rf (some v0)), (6, .int (v6))] [] := by
  unfold wq_Model_message_226 at hw
  refine V_iload hc 1 d_Model_message_226 rfl ?_
  refine V_iconst (v := 4) hc d_Model_message_228 (by decide) ?_
  refine V_icmp_ge (tgt := 259) hc d_Model_message_229 (by decide) (fun hq1 => ?_) (fun hq1 => ?_)
  · replace hw := hw.1 hq1
    refine V_aload_n hc 0 d_Model_message_259 rfl rfl ?_
    refine V_iconst (v := 0) hc d_Model_message_260 (by decide) ?_
    refine V_bipush (v := 27) hc d_Model_message_261 (by decide) ?_
    obtain ⟨q1, hw⟩ := hw
    refine V_callV (rm' := rm_Model_isSame) (As := [.int (0), .int (27)]) (rest := []) (n := 2) (cn := 0) hc rfl q1 (sat_Model_isSame (eG E) _ _ _ _ _ hw) rfl cv_Model_216 (gw_of (tw_6 (List.mem_of_getElem? (i := 128) rfl)) rfl) ss_Model_isSame rfl ⟨by decide, by decide⟩ (by decide) (by decide) rfl (by simp [cat_rf, cat_i, cat_l]) d_Model_message_263 (fun r0 h2 hw => ?_)
    obtain ⟨r3, rfl, hw⟩ := hw
    refine V_wide (cs' := 0) (sl' := 0) (by decide) (by decide) ?_
    refine V_st (st' := [.int (r3)]) rfl ?_
    refine V_if_ne (tgt := 273) hc d_Model_message_266 (by decide) (fun hq1 => ?_) (fun hq1 => ?_)
    · replace hw := hw.1 hq1
      refine V_sub (lv' := [(0, va_rf (some v0))]) [0] rfl ?_
      exact vb_Model_message_273 hc hq  _ _ hw
    · replace hw := hw.2 hq1
      refine V_aload_n hc 0 d_Model_message_269 rfl rfl ?_
      obtain ⟨q4, hw⟩ := hw
      refine V_callV (rm' := rm_Model_keep) (As := []) (rest := []) (n := 0) (cn := 0) hc rfl q4 (sat_Model_keep (eG E) _ _ _ hw) rfl cv_Model_219 (gw_of (tw_6 (List.mem_of_getElem? (i := 132) rfl)) rfl) ss_Model_keep rfl ⟨by decide, by decide⟩ (by decide) (by decide) rfl (by simp [cat_rf, cat_i, cat_l]) d_Model_message_270 (fun r0 h5 hw => ?_)
      obtain ⟨rfl, hw⟩ := hw
      refine V_wide (cs' := 0) (sl' := 0) (by decide) (by decide) ?_
      refine V_st (st' := []) rfl ?_
      refine V_sub (lv' := [(0, va_rf (some v0))]) [0] rfl ?_
      exact vb_Model_message_273 hc hq  _ _ hw
  · replace hw := hw.2 hq1
    refine V_aload_n hc 0 d_Model_message_232 rfl rfl ?_
    obtain ⟨q7, hw⟩ := hw
    refine V_get (v := va_rf (mm_P h v0 15)) hc gf_Model_47 rfl q7 rfl d_Model_message_233 ?_
    refine V_iload hc 1 d_Model_message_236 rfl ?_
    refine V_aload_n hc 0 d_Model_message_238 rfl rfl ?_
    refine V_get (v := .int (mm_I h v0 17)) hc gf_Model_197 rfl q7 rfl d_Model_message_239 ?_
    refine V_bipush (v := 8) hc d_Model_message_242 (by decide) ?_
    refine V_iload hc 1 d_Model_message_244 rfl ?_
    refine V_imul hc d_Model_message_246 ?_
    refine V_ishr hc d_Model_message_247 ?_
    refine V_sipush (v := 255) hc d_Model_message_248 (by decide) ?_
    refine V_iand hc d_Model_message_251 ?_
    obtain ⟨a8, q9, hw⟩ := hw
    obtain ⟨q10, hw⟩ := hw
    obtain ⟨q11, hw⟩ := hw
    obtain ⟨q12, hw⟩ := hw
    obtain ⟨h13, eq_h13⟩ : ∃ x, x = mm_uI h a8 (Int32.toNatClampNeg (v6)) (((mm_I h v0 17) >>> (((8 : Int32) * (v6)) &&& 31)) &&& (255 : Int32)) := ⟨_, rfl⟩
    replace hw := hw _ eq_h13
    refine V_iast hc q9 q10 q11 q12 d_Model_message_252 ?_
    rw [← eq_h13]
    refine V_iinc (v := v6 + 1) (lv' := [(6, .int (v6 + 1)), (0, va_rf (some v0))]) hc 1 d_Model_message_253 rfl rfl (by decide) rfl ?_
    refine V_goto (tgt := 226) hc d_Model_message_256 (by decide) ?_
    refine V_sub (lv' := [(0, va_rf (some v0)), (6, .int (v6 + 1))]) [1, 0] rfl ?_
    exact hX226 _ _ _ hw
theorem vl_Model_message_226 {E : mm_E} {Z : Int32 → mm_M → Prop} (hc : cx E "EpochServerModel" c_Model_message 7 (some (.int)) rm_Model_message) (hq : cq E rm_Model_message (pI Z))  (v0 : Nat) (v6 : Int32) (h : mm_M) (hw : lp_Model_message_226  (mm_ge (eG E)) v0 v6 h Z) : V E 7 0 0 h 226 [(0, va_rf (some v0)), (6, .int (v6))] [] :=
  hw (fun v0 v6 h => V E 7 0 0 h 226 [(0, va_rf (some v0)), (6, .int (v6))] []) (fun v0 v6 h hb => vb_Model_message_226 hc hq  _ (fun _ _ _ q => q) v0 v6 h hb)
set_option maxRecDepth 100000 in
set_option maxHeartbeats 4000000 in
theorem vb_Model_message_189 {E : mm_E} {Z : Int32 → mm_M → Prop} (hc : cx E "EpochServerModel" c_Model_message 7 (some (.int)) rm_Model_message) (hq : cq E rm_Model_message (pI Z))  (v0 : Nat) (v4 : Int32) (v5 : Int32) (h : mm_M) (hw : wq_Model_message_189  (mm_ge (eG E)) v0 v4 v5 h Z) : V E 7 0 0 h 189 [(0, va_rf (some v0)), (4, .int (v4)), (5, .int (v5))] [] := by
  unfold wq_Model_message_189 at hw
  refine V_aload_n hc 0 d_Model_message_189 rfl rfl ?_
  obtain ⟨q1, hw⟩ := hw
  refine V_get (v := va_rf (mm_P h v0 15)) hc gf_Model_47 rfl q1 rfl d_Model_message_190 ?_
  refine V_iconst (v := 4) hc d_Model_message_193 (by decide) ?_
  refine V_iload hc 1 d_Model_message_194 rfl ?_
  refine V_iconst (v := 1) hc d_Model_message_196 (by decide) ?_
  refine V_iadd hc d_Model_message_197 ?_
  obtain ⟨a2, q3, hw⟩ := hw
  obtain ⟨q4, hw⟩ := hw
  obtain ⟨q5, hw⟩ := hw
  obtain ⟨q6, hw⟩ := hw
  obtain ⟨h7, eq_h7⟩ : ∃ x, x = mm_uI h a2 (Int32.toNatClampNeg (4)) ((v4) + (1 : Int32)) := ⟨_, rfl⟩
  replace hw := hw _ eq_h7
  refine V_iast hc q3 q4 q5 q6 d_Model_message_198 ?_
  rw [← eq_h7]
  refine V_aload_n hc 0 d_Model_message_199 rfl rfl ?_
  obtain ⟨q8, hw⟩ := hw
  refine V_get (v := va_rf (mm_P h7 v0 15)) hc gf_Model_47 rfl q8 rfl d_Model_message_200 ?_
  refine V_iconst (v := 5) hc d_Model_message_203 (by decide) ?_
  refine V_iload hc 2 d_Model_message_204 rfl ?_
  refine V_sipush (v := 255) hc d_Model_message_206 (by decide) ?_
  refine V_iand hc d_Model_message_209 ?_
  obtain ⟨a9, q10, hw⟩ := hw
  obtain ⟨q11, hw⟩ := hw
  obtain ⟨q12, hw⟩ := hw
  obtain ⟨q13, hw⟩ := hw
  obtain ⟨h14, eq_h14⟩ : ∃ x, x = mm_uI h7 a9 (Int32.toNatClampNeg (5)) ((v5) &&& (255 : Int32)) := ⟨_, rfl⟩
  replace hw := hw _ eq_h14
  refine V_iast hc q10 q11 q12 q13 d_Model_message_210 ?_
  rw [← eq_h14]
  refine V_aload_n hc 0 d_Model_message_211 rfl rfl ?_
  obtain ⟨q15, hw⟩ := hw
  refine V_get (v := va_rf (mm_P h14 v0 15)) hc gf_Model_47 rfl q15 rfl d_Model_message_212 ?_
  refine V_bipush (v := 6) hc d_Model_message_215 (by decide) ?_
  refine V_iload hc 2 d_Model_message_217 rfl ?_
  refine V_bipush (v := 8) hc d_Model_message_219 (by decide) ?_
  refine V_ishr hc d_Model_message_221 ?_
  obtain ⟨a16, q17, hw⟩ := hw
  obtain ⟨q18, hw⟩ := hw
  obtain ⟨q19, hw⟩ := hw
  obtain ⟨q20, hw⟩ := hw
  obtain ⟨h21, eq_h21⟩ : ∃ x, x = mm_uI h14 a16 (Int32.toNatClampNeg (6)) ((v5) >>> ((8 : Int32) &&& 31)) := ⟨_, rfl⟩
  replace hw := hw _ eq_h21
  refine V_iast hc q17 q18 q19 q20 d_Model_message_222 ?_
  rw [← eq_h21]
  refine V_iconst (v := 0) hc d_Model_message_223 (by decide) ?_
  refine V_istore (i := 6) (lv' := [(6, .int (0)), (0, va_rf (some v0)), (4, .int (v4)), (5, .int (v5))]) hc d_Model_message_224 (by decide) rfl ?_
  refine V_sub (lv' := [(0, va_rf (some v0)), (6, .int (0))]) [1, 0] rfl ?_
  exact vl_Model_message_226 hc hq  _ _ _ hw
set_option maxRecDepth 100000 in
set_option maxHeartbeats 4000000 in
theorem vb_Model_message_65 {E : mm_E} {Z : Int32 → mm_M → Prop} (hc : cx E "EpochServerModel" c_Model_message 7 (some (.int)) rm_Model_message) (hq : cq E rm_Model_message (pI Z))  (v0 : Nat) (v1 : Int32) (v2 : Int64) (v4 : Int32) (v5 : Int32) (h : mm_M) (hw : wq_Model_message_65  (mm_ge (eG E)) v0 v1 v2 v4 v5 h Z) : V E 7 0 0 h 65 [(0, va_rf (some v0)), (1, .int (v1)), (2, .long (v2)), (4, .int (v4)), (5, .int (v5))] [] := by
  unfold wq_Model_message_65 at hw
  refine V_aload_n hc 0 d_Model_message_65 rfl rfl ?_
  refine V_iconst (v := 0) hc d_Model_message_66 (by decide) ?_
  obtain ⟨q1, hw⟩ := hw
  obtain ⟨q2, hw⟩ := hw
  obtain ⟨h3, eq_h3⟩ : ∃ x, x = mm_uI h (v0) 16 (0) := ⟨_, rfl⟩
  replace hw := hw _ eq_h3
  refine V_put (h' := h3) hc gf_Model_103 rfl rfl q1 q2 (by rw [eq_h3]; exact mm_Up_I _ _ _ _) (by rw [eq_h3]; exact up_vI rfl) (vp_nar_int _) rfl d_Model_message_67 ?_
  refine V_aload_n hc 0 d_Model_message_70 rfl rfl ?_
  obtain ⟨q4, hw⟩ := hw
  refine V_get (v := .int (mm_I h3 v0 30)) hc gf_Model_120 rfl q4 rfl d_Model_message_71 ?_
  refine V_if_eq (tgt := 92) hc d_Model_message_74 (by decide) (fun hq1 => ?_) (fun hq1 => ?_)
  · replace hw := hw.1 hq1
    refine V_sub (lv' := [(0, va_rf (some v0))]) [0] rfl ?_
    exact vb_Model_message_92 hc hq  _ _ hw
  · replace hw := hw.2 hq1
    refine V_lload_n hc 2 d_Model_message_77 rfl rfl ?_
    refine V_iload_n hc 1 d_Model_message_78 rfl rfl ?_
    refine V_i2l hc d_Model_message_79 ?_
    refine V_lcmp hc d_Model_message_80 ?_
    refine V_if_ne (tgt := 92) hc d_Model_message_81 (by decide) (fun hq1 => ?_) (fun hq1 => ?_)
    · replace hw := hw.1 hq1
      refine V_sub (lv' := [(0, va_rf (some v0))]) [0] rfl ?_
      exact vb_Model_message_92 hc hq  _ _ hw
    · replace hw := hw.2 hq1
      refine V_aload_n hc 0 d_Model_message_84 rfl rfl ?_
      refine V_get (v := .int (mm_I h3 v0 28)) hc gf_Model_114 rfl q4 rfl d_Model_message_85 ?_
      refine V_iload_n hc 1 d_Model_message_88 rfl rfl ?_
      refine V_icmp_eq (tgt := 104) hc d_Model_message_89 (by decide) (fun hq1 => ?_) (fun hq1 => ?_)
      · replace hw := hw.1 hq1
        refine V_aload_n hc 0 d_Model_message_104 rfl rfl ?_
        refine V_dup hc d_Model_message_105 (cat_rf _) ?_
        refine V_get (v := .int (mm_I h3 v0 10)) hc gf_Model_100 rfl q4 rfl d_Model_message_106 ?_
        refine V_iconst (v := 1) hc d_Model_message_109 (by decide) ?_
        refine V_iadd hc d_Model_message_110 ?_
        obtain ⟨q5, hw⟩ := hw
        obtain ⟨h6, eq_h6⟩ : ∃ x, x = mm_uI h3 (v0) 10 ((mm_I h3 v0 10) + (1 : Int32)) := ⟨_, rfl⟩
        replace hw := hw _ eq_h6
        refine V_put (h' := h6) hc gf_Model_100 rfl rfl q4 q5 (by rw [eq_h6]; exact mm_Up_I _ _ _ _) (by rw [eq_h6]; exact up_vI rfl) (vp_nar_int _) rfl d_Model_message_111 ?_
        refine V_aload_n hc 0 d_Model_message_114 rfl rfl ?_
        refine V_iconst (v := 0) hc d_Model_message_115 (by decide) ?_
        refine V_bipush (v := 27) hc d_Model_message_116 (by decide) ?_
        obtain ⟨q7, hw⟩ := hw
        refine V_callV (rm' := rm_Model_copy) (As := [.int (0), .int (27)]) (rest := []) (n := 2) (cn := 0) hc rfl q7 (sat_Model_copy (eG E) _ _ _ _ _ hw) rfl cv_Model_193 (gw_of (tw_5 (List.mem_of_getElem? (i := 193) rfl)) rfl) ss_Model_copy rfl ⟨by decide, by decide⟩ (by decide) (by decide) rfl (by simp [cat_rf, cat_i, cat_l]) d_Model_message_118 (fun r0 h8 hw => ?_)
        obtain ⟨rfl, hw⟩ := hw
        refine V_wide (cs' := 0) (sl' := 0) (by decide) (by decide) ?_
        refine V_st (st' := []) rfl ?_
        refine V_aload_n hc 0 d_Model_message_121 rfl rfl ?_
        refine V_bipush (v := 7) hc d_Model_message_122 (by decide) ?_
        obtain ⟨q10, hw⟩ := hw
        obtain ⟨q11, hw⟩ := hw
        obtain ⟨h12, eq_h12⟩ : ∃ x, x = mm_uI h8 (v0) 17 (7) := ⟨_, rfl⟩
        replace hw := hw _ eq_h12
        refine V_put (h' := h12) hc gf_Model_197 rfl rfl q10 q11 (by rw [eq_h12]; exact mm_Up_I _ _ _ _) (by rw [eq_h12]; exact up_vI rfl) (vp_nar_int _) rfl d_Model_message_124 ?_
        refine V_aload_n hc 0 d_Model_message_127 rfl rfl ?_
        refine V_iconst (v := 0) hc d_Model_message_128 (by decide) ?_
        obtain ⟨q13, hw⟩ := hw
        obtain ⟨q14, hw⟩ := hw
        obtain ⟨h15, eq_h15⟩ : ∃ x, x = mm_uI h12 (v0) 53 (0) := ⟨_, rfl⟩
        replace hw := hw _ eq_h15
        refine V_put (h' := h15) hc gf_Model_200 rfl rfl q13 q14 (by rw [eq_h15]; exact mm_Up_I _ _ _ _) (by rw [eq_h15]; exact up_vI rfl) (vp_nar_int _) rfl d_Model_message_129 ?_
        refine V_aload_n hc 0 d_Model_message_132 rfl rfl ?_
        refine V_iconst (v := 0) hc d_Model_message_133 (by decide) ?_
        obtain ⟨q16, hw⟩ := hw
        obtain ⟨q17, hw⟩ := hw
        obtain ⟨h18, eq_h18⟩ : ∃ x, x = mm_uI h15 (v0) 52 (0) := ⟨_, rfl⟩
        replace hw := hw _ eq_h18
        refine V_put (h' := h18) hc gf_Model_203 rfl rfl q16 q17 (by rw [eq_h18]; exact mm_Up_I _ _ _ _) (by rw [eq_h18]; exact up_vI rfl) (by decide) (by decide) d_Model_message_134 ?_
        refine V_aload_n hc 0 d_Model_message_137 rfl rfl ?_
        refine V_iload hc 3 d_Model_message_138 rfl ?_
        obtain ⟨q19, hw⟩ := hw
        refine V_callV (rm' := rm_Model_does) (As := [.int (v4)]) (rest := []) (n := 1) (cn := 0) hc rfl q19 (sat_Model_does (eG E) _ _ _ _ hw) rfl cv_Model_206 (gw_of (tw_5 (List.mem_of_getElem? (i := 200) rfl)) rfl) ss_Model_does rfl ⟨by decide, by decide⟩ (by decide) (by decide) rfl (by simp [cat_rf, cat_i, cat_l]) d_Model_message_140 (fun r0 h20 hw => ?_)
        obtain ⟨rfl, hw⟩ := hw
        refine V_wide (cs' := 0) (sl' := 0) (by decide) (by decide) ?_
        refine V_st (st' := []) rfl ?_
        refine V_aload_n hc 0 d_Model_message_143 rfl rfl ?_
        obtain ⟨q22, hw⟩ := hw
        refine V_get (v := .int (mm_I h20 v0 53)) hc gf_Model_200 rfl q22 rfl d_Model_message_144 ?_
        refine V_if_eq (tgt := 189) hc d_Model_message_147 (by decide) (fun hq1 => ?_) (fun hq1 => ?_)
        · replace hw := hw.1 hq1
          refine V_sub (lv' := [(0, va_rf (some v0)), (4, .int (v4)), (5, .int (v5))]) [0, 3, 4] rfl ?_
          exact vb_Model_message_189 hc hq  _ _ _ _ hw
        · replace hw := hw.2 hq1
          refine V_aload_n hc 0 d_Model_message_150 rfl rfl ?_
          refine V_dup hc d_Model_message_151 (cat_rf _) ?_
          refine V_get (v := .int (mm_I h20 v0 19)) hc gf_Model_209 rfl q22 rfl d_Model_message_152 ?_
          refine V_iconst (v := 1) hc d_Model_message_155 (by decide) ?_
          refine V_iadd hc d_Model_message_156 ?_
          obtain ⟨q23, hw⟩ := hw
          obtain ⟨h24, eq_h24⟩ : ∃ x, x = mm_uI h20 (v0) 19 ((mm_I h20 v0 19) + (1 : Int32)) := ⟨_, rfl⟩
          replace hw := hw _ eq_h24
          refine V_put (h' := h24) hc gf_Model_209 rfl rfl q22 q23 (by rw [eq_h24]; exact mm_Up_I _ _ _ _) (by rw [eq_h24]; exact up_vI rfl) (vp_nar_int _) rfl d_Model_message_157 ?_
          refine V_aload_n hc 0 d_Model_message_160 rfl rfl ?_
          refine V_bipush (v := 7) hc d_Model_message_161 (by decide) ?_
          obtain ⟨q25, hw⟩ := hw
          obtain ⟨q26, hw⟩ := hw
          obtain ⟨h27, eq_h27⟩ : ∃ x, x = mm_uI h24 (v0) 17 (7) := ⟨_, rfl⟩
          replace hw := hw _ eq_h27
          refine V_put (h' := h27) hc gf_Model_197 rfl rfl q25 q26 (by rw [eq_h27]; exact mm_Up_I _ _ _ _) (by rw [eq_h27]; exact up_vI rfl) (vp_nar_int _) rfl d_Model_message_163 ?_
          refine V_aload_n hc 0 d_Model_message_166 rfl rfl ?_
          refine V_lconst (v := 1) hc d_Model_message_167 (by decide) ?_
          refine V_iconst (v := 2) hc d_Model_message_168 (by decide) ?_
          obtain ⟨q28, hw⟩ := hw
          refine V_callV (rm' := rm_Model_put) (As := [.long (1), .int (2)]) (rest := []) (n := 2) (cn := 0) hc rfl q28 (sat_Model_put (eG E) _ _ _ _ _ hw) rfl cv_Model_212 (gw_of (tw_6 (List.mem_of_getElem? (i := 15) rfl)) rfl) ss_Model_put rfl ⟨by decide, by decide⟩ (by decide) (by decide) rfl (by simp [cat_rf, cat_i, cat_l]) d_Model_message_169 (fun r0 h29 hw => ?_)
          obtain ⟨rfl, hw⟩ := hw
          refine V_wide (cs' := 0) (sl' := 0) (by decide) (by decide) ?_
          refine V_st (st' := []) rfl ?_
          refine V_aload_n hc 0 d_Model_message_172 rfl rfl ?_
          refine V_bipush (v := 48) hc d_Model_message_173 (by decide) ?_
          refine V_aload_n hc 0 d_Model_message_175 rfl rfl ?_
          obtain ⟨q31, hw⟩ := hw
          refine V_get (v := .int (mm_I h29 v0 53)) hc gf_Model_200 rfl q31 rfl d_Model_message_176 ?_
          refine V_iadd hc d_Model_message_179 ?_
          refine V_i2l hc d_Model_message_180 ?_
          refine V_iconst (v := 1) hc d_Model_message_181 (by decide) ?_
          refine V_callV (rm' := rm_Model_put) (As := [.long (Int32.toInt64 ((48 : Int32) + (mm_I h29 v0 53))), .int (1)]) (rest := []) (n := 2) (cn := 0) hc rfl q31 (sat_Model_put (eG E) _ _ _ _ _ hw) rfl cv_Model_212 (gw_of (tw_6 (List.mem_of_getElem? (i := 15) rfl)) rfl) ss_Model_put rfl ⟨by decide, by decide⟩ (by decide) (by decide) rfl (by simp [cat_rf, cat_i, cat_l]) d_Model_message_182 (fun r0 h32 hw => ?_)
          obtain ⟨rfl, hw⟩ := hw
          refine V_wide (cs' := 0) (sl' := 0) (by decide) (by decide) ?_
          refine V_st (st' := []) rfl ?_
          refine V_bipush (v := 106) hc d_Model_message_185 (by decide) ?_
          refine V_istore (i := 4) (lv' := [(4, .int (106)), (0, va_rf (some v0)), (1, .int (v1)), (2, .long (v2)), (5, .int (v5))]) hc d_Model_message_187 (by decide) rfl ?_
          refine V_sub (lv' := [(0, va_rf (some v0)), (4, .int (106)), (5, .int (v5))]) [1, 0, 4] rfl ?_
          exact vb_Model_message_189 hc hq  _ _ _ _ hw
      · replace hw := hw.2 hq1
        refine V_sub (lv' := [(0, va_rf (some v0))]) [0] rfl ?_
        exact vb_Model_message_92 hc hq  _ _ hw
set_option maxRecDepth 100000 in
set_option maxHeartbeats 4000000 in
theorem vb_Model_message_0 {E : mm_E} {Z : Int32 → mm_M → Prop} (hc : cx E "EpochServerModel" c_Model_message 7 (some (.int)) rm_Model_message) (hq : cq E rm_Model_message (pI Z))  (v0 : Nat) (v1 : Int32) (h : mm_M) (hw : wq_Model_message_0  (mm_ge (eG E)) v0 v1 h Z) : V E 7 0 0 h 0 [(0, va_rf (some v0)), (1, .int (v1))] [] := by
  unfold wq_Model_message_0 at hw
  refine V_iload_n hc 1 d_Model_message_0 rfl rfl ?_
  refine V_if_lt (tgt := 12) hc d_Model_message_1 (by decide) (fun hq1 => ?_) (fun hq1 => ?_)
  · replace hw := hw.1 hq1
    refine V_sub (lv' := []) [] rfl ?_
    exact vb_Model_message_12 hc hq  _ hw
  · replace hw := hw.2 hq1
    refine V_iload_n hc 1 d_Model_message_4 rfl rfl ?_
    refine V_aload_n hc 0 d_Model_message_5 rfl rfl ?_
    obtain ⟨q1, hw⟩ := hw
    refine V_get (v := .int (mm_I h v0 16)) hc gf_Model_103 rfl q1 rfl d_Model_message_6 ?_
    refine V_icmp_le (tgt := 15) hc d_Model_message_9 (by decide) (fun hq1 => ?_) (fun hq1 => ?_)
    · replace hw := hw.1 hq1
      refine V_aload_n hc 0 d_Model_message_15 rfl rfl ?_
      refine V_iconst (v := 0) hc d_Model_message_16 (by decide) ?_
      obtain ⟨q2, hw⟩ := hw
      obtain ⟨h3, eq_h3⟩ : ∃ x, x = mm_uI h (v0) 28 (0) := ⟨_, rfl⟩
      replace hw := hw _ eq_h3
      refine V_put (h' := h3) hc gf_Model_114 rfl rfl q1 q2 (by rw [eq_h3]; exact mm_Up_I _ _ _ _) (by rw [eq_h3]; exact up_vI rfl) (vp_nar_int _) rfl d_Model_message_17 ?_
      refine V_aload_n hc 0 d_Model_message_20 rfl rfl ?_
      refine V_iload_n hc 1 d_Model_message_21 rfl rfl ?_
      obtain ⟨q4, hw⟩ := hw
      obtain ⟨q5, hw⟩ := hw
      obtain ⟨h6, eq_h6⟩ : ∃ x, x = mm_uI h3 (v0) 29 (v1) := ⟨_, rfl⟩
      replace hw := hw _ eq_h6
      refine V_put (h' := h6) hc gf_Model_117 rfl rfl q4 q5 (by rw [eq_h6]; exact mm_Up_I _ _ _ _) (by rw [eq_h6]; exact up_vI rfl) (vp_nar_int _) rfl d_Model_message_22 ?_
      refine V_aload_n hc 0 d_Model_message_25 rfl rfl ?_
      refine V_iconst (v := 1) hc d_Model_message_26 (by decide) ?_
      obtain ⟨q7, hw⟩ := hw
      obtain ⟨q8, hw⟩ := hw
      obtain ⟨h9, eq_h9⟩ : ∃ x, x = mm_uI h6 (v0) 30 (1) := ⟨_, rfl⟩
      replace hw := hw _ eq_h9
      refine V_put (h' := h9) hc gf_Model_120 rfl rfl q7 q8 (by rw [eq_h9]; exact mm_Up_I _ _ _ _) (by rw [eq_h9]; exact up_vI rfl) (by decide) (by decide) d_Model_message_27 ?_
      refine V_aload_n hc 0 d_Model_message_30 rfl rfl ?_
      refine V_iconst (v := 4) hc d_Model_message_31 (by decide) ?_
      obtain ⟨q10, hw⟩ := hw
      refine V_callV (rm' := rm_Model_number) (As := [.int (4)]) (rest := []) (n := 1) (cn := 0) hc rfl q10 (sat_Model_number (eG E) _ _ _ _ hw) rfl cv_Model_124 (gw_of (tw_5 (List.mem_of_getElem? (i := 173) rfl)) rfl) ss_Model_number rfl ⟨by decide, by decide⟩ (by decide) (by decide) rfl (by simp [cat_rf, cat_i, cat_l]) d_Model_message_32 (fun r0 h11 hw => ?_)
      obtain ⟨r12, rfl, hw⟩ := hw
      refine V_wide (cs' := 0) (sl' := 0) (by decide) (by decide) ?_
      refine V_st (st' := [.long (r12)]) rfl ?_
      refine V_lstore_n (i := 2) (lv' := [(2, .long (r12)), (0, va_rf (some v0)), (1, .int (v1))]) hc d_Model_message_35 rfl (by decide) rfl ?_
      refine V_aload_n hc 1 d_Model_message_36 rfl rfl ?_
      refine V_iconst (v := 1) hc d_Model_message_37 (by decide) ?_
      obtain ⟨q13, hw⟩ := hw
      refine V_callV (rm' := rm_Model_number) (As := [.int (1)]) (rest := []) (n := 1) (cn := 0) hc rfl q13 (sat_Model_number (eG E) _ _ _ _ hw) rfl cv_Model_124 (gw_of (tw_5 (List.mem_of_getElem? (i := 173) rfl)) rfl) ss_Model_number rfl ⟨by decide, by decide⟩ (by decide) (by decide) rfl (by simp [cat_rf, cat_i, cat_l]) d_Model_message_38 (fun r0 h14 hw => ?_)
      obtain ⟨r15, rfl, hw⟩ := hw
      refine V_wide (cs' := 0) (sl' := 0) (by decide) (by decide) ?_
      refine V_st (st' := [.long (r15)]) rfl ?_
      refine V_l2i hc d_Model_message_41 ?_
      refine V_istore (i := 4) (lv' := [(4, .int (Int64.toInt32 (r15))), (2, .long (r12)), (0, va_rf (some v0)), (1, .int (v1))]) hc d_Model_message_42 (by decide) rfl ?_
      refine V_aload_n hc 2 d_Model_message_44 rfl rfl ?_
      refine V_iconst (v := 2) hc d_Model_message_45 (by decide) ?_
      obtain ⟨q16, hw⟩ := hw
      refine V_callV (rm' := rm_Model_number) (As := [.int (2)]) (rest := []) (n := 1) (cn := 0) hc rfl q16 (sat_Model_number (eG E) _ _ _ _ hw) rfl cv_Model_124 (gw_of (tw_5 (List.mem_of_getElem? (i := 173) rfl)) rfl) ss_Model_number rfl ⟨by decide, by decide⟩ (by decide) (by decide) rfl (by simp [cat_rf, cat_i, cat_l]) d_Model_message_46 (fun r0 h17 hw => ?_)
      obtain ⟨r18, rfl, hw⟩ := hw
      refine V_wide (cs' := 0) (sl' := 0) (by decide) (by decide) ?_
      refine V_st (st' := [.long (r18)]) rfl ?_
      refine V_l2i hc d_Model_message_49 ?_
      refine V_istore (i := 5) (lv' := [(5, .int (Int64.toInt32 (r18))), (4, .int (Int64.toInt32 (r15))), (2, .long (r12)), (0, va_rf (some v0)), (1, .int (v1))]) hc d_Model_message_50 (by decide) rfl ?_
      refine V_aload_n hc 3 d_Model_message_52 rfl rfl ?_
      obtain ⟨q19, hw⟩ := hw
      refine V_get (v := .int (mm_I h17 v0 30)) hc gf_Model_120 rfl q19 rfl d_Model_message_53 ?_
      refine V_if_eq (tgt := 65) hc d_Model_message_56 (by decide) (fun hq1 => ?_) (fun hq1 => ?_)
      · replace hw := hw.1 hq1
        refine V_sub (lv' := [(0, va_rf (some v0)), (1, .int (v1)), (2, .long (r12)), (4, .int (Int64.toInt32 (r15))), (5, .int (Int64.toInt32 (r18)))]) [3, 4, 2, 1, 0] rfl ?_
        exact vb_Model_message_65 hc hq  _ _ _ _ _ _ hw
      · replace hw := hw.2 hq1
        refine V_aload_n hc 3 d_Model_message_59 rfl rfl ?_
        refine V_iload hc 1 d_Model_message_60 rfl ?_
        refine V_callV (rm' := rm_Model_reads) (As := [.int (Int64.toInt32 (r15))]) (rest := []) (n := 1) (cn := 0) hc rfl q19 (sat_Model_reads (eG E) _ _ _ _ hw) rfl cv_Model_187 (gw_of (tw_5 (List.mem_of_getElem? (i := 177) rfl)) rfl) ss_Model_reads rfl ⟨by decide, by decide⟩ (by decide) (by decide) rfl (by simp [cat_rf, cat_i, cat_l]) d_Model_message_62 (fun r0 h20 hw => ?_)
        obtain ⟨rfl, hw⟩ := hw
        refine V_wide (cs' := 0) (sl' := 0) (by decide) (by decide) ?_
        refine V_st (st' := []) rfl ?_
        refine V_sub (lv' := [(0, va_rf (some v0)), (1, .int (v1)), (2, .long (r12)), (4, .int (Int64.toInt32 (r15))), (5, .int (Int64.toInt32 (r18)))]) [3, 4, 2, 1, 0] rfl ?_
        exact vb_Model_message_65 hc hq  _ _ _ _ _ _ hw
    · replace hw := hw.2 hq1
      refine V_sub (lv' := []) [] rfl ?_
      exact vb_Model_message_12 hc hq  _ hw
def wq_Model_message (ge : Nat → Nat) (v0 : Nat) (v1 : Int32) (h : mm_M) (Z : Int32 → mm_M → Prop) : Prop := wq_Model_message_0 ge v0 v1 h Z
theorem sat_Model_message (G : mm_G) (v0 : Nat) (v1 : Int32) (h : mm_M) (Z : Int32 → mm_M → Prop) (hw : wq_Model_message (mm_ge G) v0 v1 h Z) : mm_Met G y_Model_message c_Model_message 7 (some (.int)) rm_Model_message [va_rf (some v0), .int (v1)] h (pI Z) := by
  refine mm_intro (own := "EpochServerModel") (by decide) rfl (by simp [lg_sl, cat_rf, cat_i, cat_l]) (fun E e1 hc hq hi => ?_)
  subst e1
  have e2 : lv_args 0 [va_rf (some v0), .int (v1)] = [(0, va_rf (some v0)), (1, .int (v1))] := by simp [lv_args, cat_rf, cat_i, cat_l]
  rw [e2]
  refine V_sub (lv' := [(0, va_rf (some v0)), (1, .int (v1))]) [0, 1] rfl ?_
  exact vb_Model_message_0 hc hq v0 v1 h hw
