/-! Model.attaches()V -/
abbrev rm_Model_attaches : Room := { frames := 2, cells := 0, slots := 0, locals := 47 }
def wq_Model_attaches_45  (ge : Nat → Nat)  (h : mm_M) (Z : mm_M → Prop) : Prop :=
  Z h
def wq_Model_attaches_168  (ge : Nat → Nat)  (h : mm_M) (Z : mm_M → Prop) : Prop :=
  Z h
def wq_Model_attaches_160  (ge : Nat → Nat) (v0 : Nat) (v1 : Int32) (s0 : Option Nat) (s1 : Int32) (h : mm_M) (Z : mm_M → Prop) : Prop :=
  ∃ a1, s0 = some a1 ∧ mm_k h (a1) = kd_Model ∧ wq_Model_fails ge (a1) (s1) (7) h (fun (r5 : Int32) (h4 : mm_M) => (((r5) = 0 → mm_k h4 (v0) = kd_Model ∧ wq_Model_place ge (v0) (mm_I h4 v0 27) (mm_I h4 v0 33) (v1) (0) h4 (fun h7 : mm_M => mm_k h7 (v0) = kd_Model ∧ ge 0 ≤ v0 ∧ ∀ h11 : mm_M, h11 = mm_uI h7 (v0) 27 ((mm_I h7 v0 27) + (1 : Int32)) → mm_k h11 (v0) = kd_Model ∧ wq_Model_qid ge (v0) (v1) (0) h11 (fun h13 : mm_M => Z h13))) ∧ (¬ (r5) = 0 → wq_Model_attaches_168  ge h4 Z)))
def wq_Model_attaches_137  (ge : Nat → Nat) (v0 : Nat) (v1 : Int32) (s0 : Option Nat) (s1 : Int32) (h : mm_M) (Z : mm_M → Prop) : Prop :=
  ∃ a1, s0 = some a1 ∧ mm_k h (a1) = kd_Model ∧ wq_Model_fails ge (a1) (s1) (6) h (fun (r5 : Int32) (h4 : mm_M) => ((¬ (r5) = 0 → wq_Model_attaches_168  ge h4 Z) ∧ ((r5) = 0 → mm_k h4 (v0) = kd_Model ∧ ((¬ (mm_I h4 v0 27 : Int32) = (24 : Int32) → wq_Model_attaches_160  ge (v0) (v1) (some v0) (0) h4 Z) ∧ ((mm_I h4 v0 27 : Int32) = (24 : Int32) → wq_Model_attaches_160  ge (v0) (v1) (some v0) (1) h4 Z)))))
def wq_Model_attaches_127  (ge : Nat → Nat) (v0 : Nat) (v1 : Int32) (h : mm_M) (Z : mm_M → Prop) : Prop :=
  ((0 ≤ (v1) → wq_Model_attaches_137  ge (v0) (v1) (some v0) (0) h Z) ∧ (¬ 0 ≤ (v1) → wq_Model_attaches_137  ge (v0) (v1) (some v0) (1) h Z))
def wq_Model_attaches_126  (ge : Nat → Nat) (v0 : Nat) (s0 : Int32) (h : mm_M) (Z : mm_M → Prop) : Prop :=
  wq_Model_attaches_127  ge (v0) (s0) h Z
def wq_Model_attaches_38  (ge : Nat → Nat) (v0 : Nat) (s0 : Option Nat) (s1 : Int32) (h : mm_M) (Z : mm_M → Prop) : Prop :=
  ∃ a1, s0 = some a1 ∧ mm_k h (a1) = kd_Model ∧ wq_Model_fails ge (a1) (s1) (5) h (fun (r5 : Int32) (h4 : mm_M) => (((r5) = 0 → mm_k h4 (v0) = kd_Model ∧ ((¬ (mm_I h4 v0 39) = 0 → ((¬ (mm_I h4 v0 39 : Int32) = (2 : Int32) → wq_Model_attaches_127  ge (v0) ((-1)) h4 Z) ∧ ((mm_I h4 v0 39 : Int32) = (2 : Int32) → ∃ a7, mm_P h4 v0 14 = some a7 ∧ mm_k h4 (a7) = ka_I ∧ vp_in (mm_I h4 v0 38) (mm_n h4 a7) ∧ ((¬ (mm_I h4 a7 (Int32.toNatClampNeg (mm_I h4 v0 38)) : Int32) = (115 : Int32) → wq_Model_attaches_127  ge (v0) ((-1)) h4 Z) ∧ ((mm_I h4 a7 (Int32.toNatClampNeg (mm_I h4 v0 38)) : Int32) = (115 : Int32) → vp_in ((mm_I h4 v0 38) + (1 : Int32)) (mm_n h4 a7) ∧ wq_Model_isIn ge ((mm_I h4 a7 (Int32.toNatClampNeg ((mm_I h4 v0 38) + (1 : Int32)))) - (48 : Int32)) (mm_I h4 v0 11) h4 (fun (r13 : Int32) (h12 : mm_M) => (((r13) = 0 → wq_Model_attaches_126  ge (v0) ((-1)) h12 Z) ∧ (¬ (r13) = 0 → mm_k h12 (v0) = kd_Model ∧ ∃ a15, mm_P h12 v0 14 = some a15 ∧ mm_k h12 (a15) = ka_I ∧ vp_in ((mm_I h12 v0 38) + (1 : Int32)) (mm_n h12 a15) ∧ wq_Model_attaches_126  ge (v0) (((1 : Int32) + (mm_I h12 a15 (Int32.toNatClampNeg ((mm_I h12 v0 38) + (1 : Int32))))) - (48 : Int32)) h12 Z)))))))) ∧ ((mm_I h4 v0 39) = 0 → wq_Model_attaches_127  ge (v0) (0) h4 Z))) ∧ (¬ (r5) = 0 → wq_Model_attaches_45  ge h4 Z)))
def wq_Model_attaches_14  (ge : Nat → Nat) (v0 : Nat) (s0 : Option Nat) (s1 : Int32) (h : mm_M) (Z : mm_M → Prop) : Prop :=
  ∃ a1, s0 = some a1 ∧ mm_k h (a1) = kd_Model ∧ wq_Model_fails ge (a1) (s1) (3) h (fun (r5 : Int32) (h4 : mm_M) => ((¬ (r5) = 0 → wq_Model_attaches_45  ge h4 Z) ∧ ((r5) = 0 → mm_k h4 (v0) = kd_Model ∧ wq_Model_fidOf ge (v0) (mm_I h4 v0 33) h4 (fun (r8 : Int32) (h7 : mm_M) => (((r8) < 0 → wq_Model_attaches_38  ge (v0) (some v0) (0) h7 Z) ∧ (¬ (r8) < 0 → wq_Model_attaches_38  ge (v0) (some v0) (1) h7 Z))))))
def wq_Model_attaches_0  (ge : Nat → Nat) (v0 : Nat) (h : mm_M) (Z : mm_M → Prop) : Prop :=
  mm_k h (v0) = kd_Model ∧ (((mm_I h v0 34 : Int32) = ((-1) : Int32) → wq_Model_attaches_14  ge (v0) (some v0) (0) h Z) ∧ (¬ (mm_I h v0 34 : Int32) = ((-1) : Int32) → wq_Model_attaches_14  ge (v0) (some v0) (1) h Z))
set_option maxRecDepth 100000 in
set_option maxHeartbeats 4000000 in
theorem vb_Model_attaches_45 {E : mm_E} {Z : mm_M → Prop} (hc : cx E "EpochServerModel" c_Model_attaches 2 none rm_Model_attaches) (hq : cq E rm_Model_attaches (pV Z))   (h : mm_M) (hw : wq_Model_attaches_45  (mm_ge (eG E))  h Z) : V E 2 0 0 h 45 [] [] := by
  unfold wq_Model_attaches_45 at hw
  exact V_vret hc hq ⟨rfl, hw⟩ (by decide) (by decide) d_Model_attaches_45
set_option maxRecDepth 100000 in
set_option maxHeartbeats 4000000 in
theorem vb_Model_attaches_168 {E : mm_E} {Z : mm_M → Prop} (hc : cx E "EpochServerModel" c_Model_attaches 2 none rm_Model_attaches) (hq : cq E rm_Model_attaches (pV Z))   (h : mm_M) (hw : wq_Model_attaches_168  (mm_ge (eG E))  h Z) : V E 2 0 0 h 168 [] [] := by
  unfold wq_Model_attaches_168 at hw
  exact V_vret hc hq ⟨rfl, hw⟩ (by decide) (by decide) d_Model_attaches_168
set_option maxRecDepth 100000 in
set_option maxHeartbeats 4000000 in
theorem vb_Model_attaches_160 {E : mm_E} {Z : mm_M → Prop} (hc : cx E "EpochServerModel" c_Model_attaches 2 none rm_Model_attaches) (hq : cq E rm_Model_attaches (pV Z))  (v0 : Nat) (v1 : Int32) (s0 : Option Nat) (s1 : Int32) (h : mm_M) (hw : wq_Model_attaches_160  (mm_ge (eG E)) v0 v1 s0 s1 h Z) : V E 2 0 0 h 160 [(0, va_rf (some v0)), (1, .int (v1))] [.int (s1), va_rf (s0)] := by
  unfold wq_Model_attaches_160 at hw
  refine V_bipush (v := 7) hc d_Model_attaches_160 (by decide) ?_
  obtain ⟨a1, q2, hw⟩ := hw
  obtain ⟨q3, hw⟩ := hw
  refine V_callV (rm' := rm_Model_fails) (As := [.int (s1), .int (7)]) (rest := []) (n := 2) (cn := 0) hc q2 q3 (sat_Model_fails (eG E) _ _ _ _ _ hw) rfl cv_Model_249 (gw_of (tw_5 (List.mem_of_getElem? (i := 209) rfl)) rfl) ss_Model_fails rfl ⟨by decide, by decide⟩ (by decide) (by decide) rfl (by simp [cat_rf, cat_i, cat_l]) d_Model_attaches_162 (fun r0 h4 hw => ?_)
  obtain ⟨r5, rfl, hw⟩ := hw
  refine V_wide (cs' := 0) (sl' := 0) (by decide) (by decide) ?_
  refine V_st (st' := [.int (r5)]) rfl ?_
  refine V_if_eq (tgt := 169) hc d_Model_attaches_165 (by decide) (fun hq1 => ?_) (fun hq1 => ?_)
  · replace hw := hw.1 hq1
    refine V_aload_n hc 0 d_Model_attaches_169 rfl rfl ?_
    refine V_aload_n hc 0 d_Model_attaches_170 rfl rfl ?_
    obtain ⟨q6, hw⟩ := hw
    refine V_get (v := .int (mm_I h4 v0 27)) hc gf_Model_240 rfl q6 rfl d_Model_attaches_171 ?_
    refine V_aload_n hc 0 d_Model_attaches_174 rfl rfl ?_
    refine V_get (v := .int (mm_I h4 v0 33)) hc gf_Model_147 rfl q6 rfl d_Model_attaches_175 ?_
    refine V_iload_n hc 1 d_Model_attaches_178 rfl rfl ?_
    refine V_iconst (v := 0) hc d_Model_attaches_179 (by decide) ?_
    refine V_callV (rm' := rm_Model_place) (As := [.int (mm_I h4 v0 27), .int (mm_I h4 v0 33), .int (v1), .int (0)]) (rest := []) (n := 4) (cn := 0) hc rfl q6 (sat_Model_place (eG E) _ _ _ _ _ _ _ hw) rfl cv_Model_318 (gw_of (tw_6 (List.mem_of_getElem? (i := 31) rfl)) rfl) ss_Model_place rfl ⟨by decide, by decide⟩ (by decide) (by decide) rfl (by simp [cat_rf, cat_i, cat_l]) d_Model_attaches_180 (fun r0 h7 hw => ?_)
    obtain ⟨rfl, hw⟩ := hw
    refine V_wide (cs' := 0) (sl' := 0) (by decide) (by decide) ?_
    refine V_st (st' := []) rfl ?_
    refine V_aload_n hc 0 d_Model_attaches_183 rfl rfl ?_
    refine V_dup hc d_Model_attaches_184 (cat_rf _) ?_
    obtain ⟨q9, hw⟩ := hw
    refine V_get (v := .int (mm_I h7 v0 27)) hc gf_Model_240 rfl q9 rfl d_Model_attaches_185 ?_
    refine V_iconst (v := 1) hc d_Model_attaches_188 (by decide) ?_
    refine V_iadd hc d_Model_attaches_189 ?_
    obtain ⟨q10, hw⟩ := hw
    obtain ⟨h11, eq_h11⟩ : ∃ x, x = mm_uI h7 (v0) 27 ((mm_I h7 v0 27) + (1 : Int32)) := ⟨_, rfl⟩
    replace hw := hw _ eq_h11
    refine V_put (h' := h11) hc gf_Model_240 rfl rfl q9 q10 (by rw [eq_h11]; exact mm_Up_I _ _ _ _) (by rw [eq_h11]; exact up_vI rfl) (vp_nar_int _) rfl d_Model_attaches_190 ?_
    refine V_aload_n hc 0 d_Model_attaches_193 rfl rfl ?_
    refine V_iload_n hc 1 d_Model_attaches_194 rfl rfl ?_
    refine V_iconst (v := 0) hc d_Model_attaches_195 (by decide) ?_
    obtain ⟨q12, hw⟩ := hw
    refine V_callV (rm' := rm_Model_qid) (As := [.int (v1), .int (0)]) (rest := []) (n := 2) (cn := 0) hc rfl q12 (sat_Model_qid (eG E) _ _ _ _ _ hw) rfl cv_Model_235 (gw_of (tw_6 (List.mem_of_getElem? (i := 35) rfl)) rfl) ss_Model_qid rfl ⟨by decide, by decide⟩ (by decide) (by decide) rfl (by simp [cat_rf, cat_i, cat_l]) d_Model_attaches_196 (fun r0 h13 hw => ?_)
    obtain ⟨rfl, hw⟩ := hw
    refine V_wide (cs' := 0) (sl' := 0) (by decide) (by decide) ?_
    refine V_st (st' := []) rfl ?_
    exact V_vret hc hq ⟨rfl, hw⟩ (by decide) (by decide) d_Model_attaches_199
  · replace hw := hw.2 hq1
    refine V_sub (lv' := []) [] rfl ?_
    exact vb_Model_attaches_168 hc hq  _ hw
set_option maxRecDepth 100000 in
set_option maxHeartbeats 4000000 in
theorem vb_Model_attaches_137 {E : mm_E} {Z : mm_M → Prop} (hc : cx E "EpochServerModel" c_Model_attaches 2 none rm_Model_attaches) (hq : cq E rm_Model_attaches (pV Z))  (v0 : Nat) (v1 : Int32) (s0 : Option Nat) (s1 : Int32) (h : mm_M) (hw : wq_Model_attaches_137  (mm_ge (eG E)) v0 v1 s0 s1 h Z) : V E 2 0 0 h 137 [(0, va_rf (some v0)), (1, .int (v1))] [.int (s1), va_rf (s0)] := by
  unfold wq_Model_attaches_137 at hw
  refine V_bipush (v := 6) hc d_Model_attaches_137 (by decide) ?_
  obtain ⟨a1, q2, hw⟩ := hw
  obtain ⟨q3, hw⟩ := hw
  refine V_callV (rm' := rm_Model_fails) (As := [.int (s1), .int (6)]) (rest := []) (n := 2) (cn := 0) hc q2 q3 (sat_Model_fails (eG E) _ _ _ _ _ hw) rfl cv_Model_249 (gw_of (tw_5 (List.mem_of_getElem? (i := 209) rfl)) rfl) ss_Model_fails rfl ⟨by decide, by decide⟩ (by decide) (by decide) rfl (by simp [cat_rf, cat_i, cat_l]) d_Model_attaches_139 (fun r0 h4 hw => ?_)
  obtain ⟨r5, rfl, hw⟩ := hw
  refine V_wide (cs' := 0) (sl' := 0) (by decide) (by decide) ?_
  refine V_st (st' := [.int (r5)]) rfl ?_
  refine V_if_ne (tgt := 168) hc d_Model_attaches_142 (by decide) (fun hq1 => ?_) (fun hq1 => ?_)
  · replace hw := hw.1 hq1
    refine V_sub (lv' := []) [] rfl ?_
    exact vb_Model_attaches_168 hc hq  _ hw
  · replace hw := hw.2 hq1
    refine V_aload_n hc 0 d_Model_attaches_145 rfl rfl ?_
    refine V_aload_n hc 0 d_Model_attaches_146 rfl rfl ?_
    obtain ⟨q6, hw⟩ := hw
    refine V_get (v := .int (mm_I h4 v0 27)) hc gf_Model_240 rfl q6 rfl d_Model_attaches_147 ?_
    refine V_bipush (v := 24) hc d_Model_attaches_150 (by decide) ?_
    refine V_icmp_ne (tgt := 159) hc d_Model_attaches_152 (by decide) (fun hq1 => ?_) (fun hq1 => ?_)
    · replace hw := hw.1 hq1
      refine V_iconst (v := 0) hc d_Model_attaches_159 (by decide) ?_
      refine V_sub (lv' := [(0, va_rf (some v0)), (1, .int (v1))]) [0, 1] rfl ?_
      exact vb_Model_attaches_160 hc hq  _ _ _ _ _ hw
    · replace hw := hw.2 hq1
      refine V_iconst (v := 1) hc d_Model_attaches_155 (by decide) ?_
      refine V_goto (tgt := 160) hc d_Model_attaches_156 (by decide) ?_
      refine V_sub (lv' := [(0, va_rf (some v0)), (1, .int (v1))]) [0, 1] rfl ?_
      exact vb_Model_attaches_160 hc hq  _ _ _ _ _ hw
set_option maxRecDepth 100000 in
set_option maxHeartbeats 4000000 in
theorem vb_Model_attaches_127 {E : mm_E} {Z : mm_M → Prop} (hc : cx E "EpochServerModel" c_Model_attaches 2 none rm_Model_attaches) (hq : cq E rm_Model_attaches (pV Z))  (v0 : Nat) (v1 : Int32) (h : mm_M) (hw : wq_Model_attaches_127  (mm_ge (eG E)) v0 v1 h Z) : V E 2 0 0 h 127 [(0, va_rf (some v0)), (1, .int (v1))] [] := by
  unfold wq_Model_attaches_127 at hw
  refine V_aload_n hc 0 d_Model_attaches_127 rfl rfl ?_
  refine V_iload_n hc 1 d_Model_attaches_128 rfl rfl ?_
  refine V_if_ge (tgt := 136) hc d_Model_attaches_129 (by decide) (fun hq1 => ?_) (fun hq1 => ?_)
  · replace hw := hw.1 hq1
    refine V_iconst (v := 0) hc d_Model_attaches_136 (by decide) ?_
    refine V_sub (lv' := [(0, va_rf (some v0)), (1, .int (v1))]) [0, 1] rfl ?_
    exact vb_Model_attaches_137 hc hq  _ _ _ _ _ hw
  · replace hw := hw.2 hq1
    refine V_iconst (v := 1) hc d_Model_attaches_132 (by decide) ?_
    refine V_goto (tgt := 137) hc d_Model_attaches_133 (by decide) ?_
    refine V_sub (lv' := [(0, va_rf (some v0)), (1, .int (v1))]) [0, 1] rfl ?_
    exact vb_Model_attaches_137 hc hq  _ _ _ _ _ hw
set_option maxRecDepth 100000 in
set_option maxHeartbeats 4000000 in
theorem vb_Model_attaches_126 {E : mm_E} {Z : mm_M → Prop} (hc : cx E "EpochServerModel" c_Model_attaches 2 none rm_Model_attaches) (hq : cq E rm_Model_attaches (pV Z))  (v0 : Nat) (s0 : Int32) (h : mm_M) (hw : wq_Model_attaches_126  (mm_ge (eG E)) v0 s0 h Z) : V E 2 0 0 h 126 [(0, va_rf (some v0))] [.int (s0)] := by
  unfold wq_Model_attaches_126 at hw
  refine V_istore_n (i := 1) (lv' := [(1, .int (s0)), (0, va_rf (some v0))]) hc d_Model_attaches_126 rfl (by decide) rfl ?_
  refine V_sub (lv' := [(0, va_rf (some v0)), (1, .int (s0))]) [1, 0] rfl ?_
  exact vb_Model_attaches_127 hc hq  _ _ _ hw
set_option maxRecDepth 100000 in
set_option maxHeartbeats 4000000 in
theorem vb_Model_attaches_38 {E : mm_E} {Z : mm_M → Prop} (hc : cx E "EpochServerModel" c_Model_attaches 2 none rm_Model_attaches) (hq : cq E rm_Model_attaches (pV Z))  (v0 : Nat) (s0 : Option Nat) (s1 : Int32) (h : mm_M) (hw : wq_Model_attaches_38  (mm_ge (eG E)) v0 s0 s1 h Z) : V E 2 0 0 h 38 [(0, va_rf (some v0))] [.int (s1), va_rf (s0)] := by
  unfold wq_Model_attaches_38 at hw
  refine V_iconst (v := 5) hc d_Model_attaches_38 (by decide) ?_
  obtain ⟨a1, q2, hw⟩ := hw
  obtain ⟨q3, hw⟩ := hw
  refine V_callV (rm' := rm_Model_fails) (As := [.int (s1), .int (5)]) (rest := []) (n := 2) (cn := 0) hc q2 q3 (sat_Model_fails (eG E) _ _ _ _ _ hw) rfl cv_Model_249 (gw_of (tw_5 (List.mem_of_getElem? (i := 209) rfl)) rfl) ss_Model_fails rfl ⟨by decide, by decide⟩ (by decide) (by decide) rfl (by simp [cat_rf, cat_i, cat_l]) d_Model_attaches_39 (fun r0 h4 hw => ?_)
  obtain ⟨r5, rfl, hw⟩ := hw
  refine V_wide (cs' := 0) (sl' := 0) (by decide) (by decide) ?_
  refine V_st (st' := [.int (r5)]) rfl ?_
  refine V_if_eq (tgt := 46) hc d_Model_attaches_42 (by decide) (fun hq1 => ?_) (fun hq1 => ?_)
  · replace hw := hw.1 hq1
    refine V_iconst (v := (-1)) hc d_Model_attaches_46 (by decide) ?_
    refine V_istore_n (i := 1) (lv' := [(1, .int ((-1))), (0, va_rf (some v0))]) hc d_Model_attaches_47 rfl (by decide) rfl ?_
    refine V_aload_n hc 1 d_Model_attaches_48 rfl rfl ?_
    obtain ⟨q6, hw⟩ := hw
    refine V_get (v := .int (mm_I h4 v0 39)) hc gf_Model_144 rfl q6 rfl d_Model_attaches_49 ?_
    refine V_if_ne (tgt := 60) hc d_Model_attaches_52 (by decide) (fun hq1 => ?_) (fun hq1 => ?_)
    · replace hw := hw.1 hq1
      refine V_aload_n hc 1 d_Model_attaches_60 rfl rfl ?_
      refine V_get (v := .int (mm_I h4 v0 39)) hc gf_Model_144 rfl q6 rfl d_Model_attaches_61 ?_
      refine V_iconst (v := 2) hc d_Model_attaches_64 (by decide) ?_
      refine V_icmp_ne (tgt := 127) hc d_Model_attaches_65 (by decide) (fun hq1 => ?_) (fun hq1 => ?_)
      · replace hw := hw.1 hq1
        refine V_sub (lv' := [(0, va_rf (some v0)), (1, .int ((-1)))]) [1, 0] rfl ?_
        exact vb_Model_attaches_127 hc hq  _ _ _ hw
      · replace hw := hw.2 hq1
        refine V_aload_n hc 1 d_Model_attaches_68 rfl rfl ?_
        refine V_get (v := va_rf (mm_P h4 v0 14)) hc gf_Model_44 rfl q6 rfl d_Model_attaches_69 ?_
        refine V_aload_n hc 1 d_Model_attaches_72 rfl rfl ?_
        refine V_get (v := .int (mm_I h4 v0 38)) hc gf_Model_141 rfl q6 rfl d_Model_attaches_73 ?_
        obtain ⟨a7, q8, hw⟩ := hw
        obtain ⟨q9, hw⟩ := hw
        obtain ⟨q10, hw⟩ := hw
        refine V_iald hc q8 q9 q10 d_Model_attaches_76 ?_
        refine V_bipush (v := 115) hc d_Model_attaches_77 (by decide) ?_
        refine V_icmp_ne (tgt := 127) hc d_Model_attaches_79 (by decide) (fun hq1 => ?_) (fun hq1 => ?_)
        · replace hw := hw.1 hq1
          refine V_sub (lv' := [(0, va_rf (some v0)), (1, .int ((-1)))]) [1, 0] rfl ?_
          exact vb_Model_attaches_127 hc hq  _ _ _ hw
        · replace hw := hw.2 hq1
          refine V_aload_n hc 1 d_Model_attaches_82 rfl rfl ?_
          refine V_get (v := va_rf (mm_P h4 v0 14)) hc gf_Model_44 rfl q6 rfl d_Model_attaches_83 ?_
          refine V_aload_n hc 1 d_Model_attaches_86 rfl rfl ?_
          refine V_get (v := .int (mm_I h4 v0 38)) hc gf_Model_141 rfl q6 rfl d_Model_attaches_87 ?_
          refine V_iconst (v := 1) hc d_Model_attaches_90 (by decide) ?_
          refine V_iadd hc d_Model_attaches_91 ?_
          obtain ⟨q11, hw⟩ := hw
          refine V_iald hc q8 q9 q11 d_Model_attaches_92 ?_
          refine V_bipush (v := 48) hc d_Model_attaches_93 (by decide) ?_
          refine V_isub hc d_Model_attaches_95 ?_
          refine V_aload_n hc 1 d_Model_attaches_96 rfl rfl ?_
          refine V_get (v := .int (mm_I h4 v0 11)) hc gf_Model_315 rfl q6 rfl d_Model_attaches_97 ?_
          refine V_callS (rm' := rm_Model_isIn) (As := [.int ((mm_I h4 a7 (Int32.toNatClampNeg ((mm_I h4 v0 38) + (1 : Int32)))) - (48 : Int32)), .int (mm_I h4 v0 11)]) (rest := []) (n := 2) hc (sat_Model_isIn (eG E) _ _ _ _ hw) cv_Model_110 (gw_of (tw_5 (List.mem_of_getElem? (i := 165) rfl)) rfl) rfl ⟨by decide, by decide⟩ (by decide) (by decide) rfl (by simp [cat_rf, cat_i, cat_l]) d_Model_attaches_100 (fun r0 h12 hw => ?_)
          obtain ⟨r13, rfl, hw⟩ := hw
          refine V_wide (cs' := 0) (sl' := 0) (by decide) (by decide) ?_
          refine V_st (st' := [.int (r13)]) rfl ?_
          refine V_if_eq (tgt := 125) hc d_Model_attaches_103 (by decide) (fun hq1 => ?_) (fun hq1 => ?_)
          · replace hw := hw.1 hq1
            refine V_iconst (v := (-1)) hc d_Model_attaches_125 (by decide) ?_
            refine V_sub (lv' := [(0, va_rf (some v0))]) [1] rfl ?_
            exact vb_Model_attaches_126 hc hq  _ _ _ hw
          · replace hw := hw.2 hq1
            refine V_iconst (v := 1) hc d_Model_attaches_106 (by decide) ?_
            refine V_aload_n hc 1 d_Model_attaches_107 rfl rfl ?_
            obtain ⟨q14, hw⟩ := hw
            refine V_get (v := va_rf (mm_P h12 v0 14)) hc gf_Model_44 rfl q14 rfl d_Model_attaches_108 ?_
            refine V_aload_n hc 1 d_Model_attaches_111 rfl rfl ?_
            refine V_get (v := .int (mm_I h12 v0 38)) hc gf_Model_141 rfl q14 rfl d_Model_attaches_112 ?_
            refine V_iconst (v := 1) hc d_Model_attaches_115 (by decide) ?_
            refine V_iadd hc d_Model_attaches_116 ?_
            obtain ⟨a15, q16, hw⟩ := hw
            obtain ⟨q17, hw⟩ := hw
            obtain ⟨q18, hw⟩ := hw
            refine V_iald hc q16 q17 q18 d_Model_attaches_117 ?_
            refine V_iadd hc d_Model_attaches_118 ?_
            refine V_bipush (v := 48) hc d_Model_attaches_119 (by decide) ?_
            refine V_isub hc d_Model_attaches_121 ?_
            refine V_goto (tgt := 126) hc d_Model_attaches_122 (by decide) ?_
            refine V_sub (lv' := [(0, va_rf (some v0))]) [1] rfl ?_
            exact vb_Model_attaches_126 hc hq  _ _ _ hw
    · replace hw := hw.2 hq1
      refine V_iconst (v := 0) hc d_Model_attaches_55 (by decide) ?_
      refine V_istore_n (i := 1) (lv' := [(1, .int (0)), (0, va_rf (some v0))]) hc d_Model_attaches_56 rfl (by decide) rfl ?_
      refine V_goto (tgt := 127) hc d_Model_attaches_57 (by decide) ?_
      refine V_sub (lv' := [(0, va_rf (some v0)), (1, .int (0))]) [1, 0] rfl ?_
      exact vb_Model_attaches_127 hc hq  _ _ _ hw
  · replace hw := hw.2 hq1
    refine V_sub (lv' := []) [] rfl ?_
    exact vb_Model_attaches_45 hc hq  _ hw
set_option maxRecDepth 100000 in
set_option maxHeartbeats 4000000 in
theorem vb_Model_attaches_14 {E : mm_E} {Z : mm_M → Prop} (hc : cx E "EpochServerModel" c_Model_attaches 2 none rm_Model_attaches) (hq : cq E rm_Model_attaches (pV Z))  (v0 : Nat) (s0 : Option Nat) (s1 : Int32) (h : mm_M) (hw : wq_Model_attaches_14  (mm_ge (eG E)) v0 s0 s1 h Z) : V E 2 0 0 h 14 [(0, va_rf (some v0))] [.int (s1), va_rf (s0)] := by
  unfold wq_Model_attaches_14 at hw
  refine V_iconst (v := 3) hc d_Model_attaches_14 (by decide) ?_
  obtain ⟨a1, q2, hw⟩ := hw
  obtain ⟨q3, hw⟩ := hw
  refine V_callV (rm' := rm_Model_fails) (As := [.int (s1), .int (3)]) (rest := []) (n := 2) (cn := 0) hc q2 q3 (sat_Model_fails (eG E) _ _ _ _ _ hw) rfl cv_Model_249 (gw_of (tw_5 (List.mem_of_getElem? (i := 209) rfl)) rfl) ss_Model_fails rfl ⟨by decide, by decide⟩ (by decide) (by decide) rfl (by simp [cat_rf, cat_i, cat_l]) d_Model_attaches_15 (fun r0 h4 hw => ?_)
  obtain ⟨r5, rfl, hw⟩ := hw
  refine V_wide (cs' := 0) (sl' := 0) (by decide) (by decide) ?_
  refine V_st (st' := [.int (r5)]) rfl ?_
  refine V_if_ne (tgt := 45) hc d_Model_attaches_18 (by decide) (fun hq1 => ?_) (fun hq1 => ?_)
  · replace hw := hw.1 hq1
    refine V_sub (lv' := []) [] rfl ?_
    exact vb_Model_attaches_45 hc hq  _ hw
  · replace hw := hw.2 hq1
    refine V_aload_n hc 0 d_Model_attaches_21 rfl rfl ?_
    refine V_aload_n hc 0 d_Model_attaches_22 rfl rfl ?_
    refine V_aload_n hc 0 d_Model_attaches_23 rfl rfl ?_
    obtain ⟨q6, hw⟩ := hw
    refine V_get (v := .int (mm_I h4 v0 33)) hc gf_Model_147 rfl q6 rfl d_Model_attaches_24 ?_
    refine V_callV (rm' := rm_Model_fidOf) (As := [.int (mm_I h4 v0 33)]) (rest := [va_rf (some v0)]) (n := 1) (cn := 0) hc rfl q6 (sat_Model_fidOf (eG E) _ _ _ _ hw) rfl cv_Model_256 (gw_of (tw_6 (List.mem_of_getElem? (i := 27) rfl)) rfl) ss_Model_fidOf rfl ⟨by decide, by decide⟩ (by decide) (by decide) rfl (by simp [cat_rf, cat_i, cat_l]) d_Model_attaches_27 (fun r0 h7 hw => ?_)
    obtain ⟨r8, rfl, hw⟩ := hw
    refine V_wide (cs' := 0) (sl' := 0) (by decide) (by decide) ?_
    refine V_st (st' := [.int (r8), va_rf (some v0)]) rfl ?_
    refine V_if_lt (tgt := 37) hc d_Model_attaches_30 (by decide) (fun hq1 => ?_) (fun hq1 => ?_)
    · replace hw := hw.1 hq1
      refine V_iconst (v := 0) hc d_Model_attaches_37 (by decide) ?_
      refine V_sub (lv' := [(0, va_rf (some v0))]) [0] rfl ?_
      exact vb_Model_attaches_38 hc hq  _ _ _ _ hw
    · replace hw := hw.2 hq1
      refine V_iconst (v := 1) hc d_Model_attaches_33 (by decide) ?_
      refine V_goto (tgt := 38) hc d_Model_attaches_34 (by decide) ?_
      refine V_sub (lv' := [(0, va_rf (some v0))]) [0] rfl ?_
      exact vb_Model_attaches_38 hc hq  _ _ _ _ hw
set_option maxRecDepth 100000 in
set_option maxHeartbeats 4000000 in
theorem vb_Model_attaches_0 {E : mm_E} {Z : mm_M → Prop} (hc : cx E "EpochServerModel" c_Model_attaches 2 none rm_Model_attaches) (hq : cq E rm_Model_attaches (pV Z))  (v0 : Nat) (h : mm_M) (hw : wq_Model_attaches_0  (mm_ge (eG E)) v0 h Z) : V E 2 0 0 h 0 [(0, va_rf (some v0))] [] := by
  unfold wq_Model_attaches_0 at hw
  refine V_aload_n hc 0 d_Model_attaches_0 rfl rfl ?_
  refine V_aload_n hc 0 d_Model_attaches_1 rfl rfl ?_
  obtain ⟨q1, hw⟩ := hw
  refine V_get (v := .int (mm_I h v0 34)) hc gf_Model_150 rfl q1 rfl d_Model_attaches_2 ?_
  refine V_iconst (v := (-1)) hc d_Model_attaches_5 (by decide) ?_
  refine V_icmp_eq (tgt := 13) hc d_Model_attaches_6 (by decide) (fun hq1 => ?_) (fun hq1 => ?_)
  · replace hw := hw.1 hq1
    refine V_iconst (v := 0) hc d_Model_attaches_13 (by decide) ?_
    refine V_sub (lv' := [(0, va_rf (some v0))]) [0] rfl ?_
    exact vb_Model_attaches_14 hc hq  _ _ _ _ hw
  · replace hw := hw.2 hq1
    refine V_iconst (v := 1) hc d_Model_attaches_9 (by decide) ?_
    refine V_goto (tgt := 14) hc d_Model_attaches_10 (by decide) ?_
    refine V_sub (lv' := [(0, va_rf (some v0))]) [0] rfl ?_
    exact vb_Model_attaches_14 hc hq  _ _ _ _ hw
def wq_Model_attaches (ge : Nat → Nat) (v0 : Nat) (h : mm_M) (Z : mm_M → Prop) : Prop := wq_Model_attaches_0 ge v0 h Z
theorem sat_Model_attaches (G : mm_G) (v0 : Nat) (h : mm_M) (Z : mm_M → Prop) (hw : wq_Model_attaches (mm_ge G) v0 h Z) : mm_Met G y_Model_attaches c_Model_attaches 2 none rm_Model_attaches [va_rf (some v0)] h (pV Z) := by
  refine mm_intro (own := "EpochServerModel") (by decide) rfl (by simp [lg_sl, cat_rf, cat_i, cat_l]) (fun E e1 hc hq hi => ?_)
  subst e1
  have e2 : lv_args 0 [va_rf (some v0)] = [(0, va_rf (some v0))] := by simp [lv_args, cat_rf, cat_i, cat_l]
  rw [e2]
  refine V_sub (lv' := [(0, va_rf (some v0))]) [0] rfl ?_
  exact vb_Model_attaches_0 hc hq v0 h hw
/-! Model.isLost(I)Z -/
abbrev rm_Model_isLost : Room := { frames := 1, cells := 0, slots := 0, locals := 21 }
def wq_Model_isLost_32  (ge : Nat → Nat) (s0 : Int32) (h : mm_M) (Z : Int32 → mm_M → Prop) : Prop :=
  ((s0) = 0 ∨ (s0) = 1) ∧ Z (s0) h
def wq_Model_isLost_31  (ge : Nat → Nat)  (h : mm_M) (Z : Int32 → mm_M → Prop) : Prop :=
  wq_Model_isLost_32  ge (0) h Z
def wq_Model_isLost_0  (ge : Nat → Nat) (v0 : Nat) (v1 : Int32) (h : mm_M) (Z : Int32 → mm_M → Prop) : Prop :=
  mm_k h (v0) = kd_Model ∧ ∃ a2, mm_P h v0 22 = some a2 ∧ mm_k h (a2) = ka_I ∧ vp_in (v1) (mm_n h a2) ∧ ((¬ (mm_I h a2 (Int32.toNatClampNeg (v1))) = 0 → wq_Model_isLost_31  ge h Z) ∧ ((mm_I h a2 (Int32.toNatClampNeg (v1))) = 0 → ∃ a6, mm_P h v0 23 = some a6 ∧ mm_k h (a6) = ka_I ∧ vp_in (v1) (mm_n h a6) ∧ wq_Model_spot ge (0) (mm_I h a6 (Int32.toNatClampNeg (v1))) h (fun (r11 : Int32) (h10 : mm_M) => ∃ a12, mm_P h v0 0 = some a12 ∧ mm_k h10 (a12) = ka_Z ∧ vp_in (r11) (mm_n h10 a12) ∧ ((¬ (mm_I h10 a12 (Int32.toNatClampNeg (r11))) = 0 → wq_Model_isLost_31  ge h10 Z) ∧ ((mm_I h10 a12 (Int32.toNatClampNeg (r11))) = 0 → wq_Model_isLost_32  ge (1) h10 Z)))))
set_option maxRecDepth 100000 in
set_option maxHeartbeats 4000000 in
theorem vb_Model_isLost_32 {E : mm_E} {Z : Int32 → mm_M → Prop} (hc : cx E "EpochServerModel" c_Model_isLost 2 (some (.boolean)) rm_Model_isLost) (hq : cq E rm_Model_isLost (pI Z))  (s0 : Int32) (h : mm_M) (hw : wq_Model_isLost_32  (mm_ge (eG E)) s0 h Z) : V E 2 0 0 h 32 [] [.int (s0)] := by
  unfold wq_Model_isLost_32 at hw
  obtain ⟨q1, hw⟩ := hw
  exact V_zret hc hq (zz_nar q1) ⟨_, rfl, hw⟩ (by decide) (by decide) d_Model_isLost_32
set_option maxRecDepth 100000 in
set_option maxHeartbeats 4000000 in
theorem vb_Model_isLost_31 {E : mm_E} {Z : Int32 → mm_M → Prop} (hc : cx E "EpochServerModel" c_Model_isLost 2 (some (.boolean)) rm_Model_isLost) (hq : cq E rm_Model_isLost (pI Z))   (h : mm_M) (hw : wq_Model_isLost_31  (mm_ge (eG E))  h Z) : V E 2 0 0 h 31 [] [] := by
  unfold wq_Model_isLost_31 at hw
  refine V_iconst (v := 0) hc d_Model_isLost_31 (by decide) ?_
  refine V_sub (lv' := []) [] rfl ?_
  exact vb_Model_isLost_32 hc hq  _ _ hw
set_option maxRecDepth 100000 in
set_option maxHeartbeats 4000000 in
theorem vb_Model_isLost_0 {E : mm_E} {Z : Int32 → mm_M → Prop} (hc : cx E "EpochServerModel" c_Model_isLost 2 (some (.boolean)) rm_Model_isLost) (hq : cq E rm_Model_isLost (pI Z))  (v0 : Nat) (v1 : Int32) (h : mm_M) (hw : wq_Model_isLost_0  (mm_ge (eG E)) v0 v1 h Z) : V E 2 0 0 h 0 [(0, va_rf (some v0)), (1, .int (v1))] [] := by
  unfold wq_Model_isLost_0 at hw
  refine V_aload_n hc 0 d_Model_isLost_0 rfl rfl ?_
  obtain ⟨q1, hw⟩ := hw
  refine V_get (v := va_rf (mm_P h v0 22)) hc gf_Model_53 rfl q1 rfl d_Model_isLost_1 ?_
  refine V_iload_n hc 1 d_Model_isLost_4 rfl rfl ?_
  obtain ⟨a2, q3, hw⟩ := hw
  obtain ⟨q4, hw⟩ := hw
  obtain ⟨q5, hw⟩ := hw
  refine V_iald hc q3 q4 q5 d_Model_isLost_5 ?_
  refine V_if_ne (tgt := 31) hc d_Model_isLost_6 (by decide) (fun hq1 => ?_) (fun hq1 => ?_)
  · replace hw := hw.1 hq1
    refine V_sub (lv' := []) [] rfl ?_
    exact vb_Model_isLost_31 hc hq  _ hw
  · replace hw := hw.2 hq1
    refine V_aload_n hc 0 d_Model_isLost_9 rfl rfl ?_
    refine V_get (v := va_rf (mm_P h v0 0)) hc gf_Model_9 rfl q1 rfl d_Model_isLost_10 ?_
    refine V_iconst (v := 0) hc d_Model_isLost_13 (by decide) ?_
    refine V_aload_n hc 0 d_Model_isLost_14 rfl rfl ?_
    refine V_get (v := va_rf (mm_P h v0 23)) hc gf_Model_56 rfl q1 rfl d_Model_isLost_15 ?_
    refine V_iload_n hc 1 d_Model_isLost_18 rfl rfl ?_
    obtain ⟨a6, q7, hw⟩ := hw
    obtain ⟨q8, hw⟩ := hw
    obtain ⟨q9, hw⟩ := hw
    refine V_iald hc q7 q8 q9 d_Model_isLost_19 ?_
    refine V_callS (rm' := rm_Model_spot) (As := [.int (0), .int (mm_I h a6 (Int32.toNatClampNeg (v1)))]) (rest := [va_rf (mm_P h v0 0)]) (n := 2) hc (sat_Model_spot (eG E) _ _ _ _ hw) cv_Model_96 (gw_of (tw_5 (List.mem_of_getElem? (i := 196) rfl)) rfl) rfl ⟨by decide, by decide⟩ (by decide) (by decide) rfl (by simp [cat_rf, cat_i, cat_l]) d_Model_isLost_20 (fun r0 h10 hw => ?_)
    obtain ⟨r11, rfl, hw⟩ := hw
    refine V_wide (cs' := 0) (sl' := 0) (by decide) (by decide) ?_
    refine V_st (st' := [.int (r11), va_rf (mm_P h v0 0)]) rfl ?_
    obtain ⟨a12, q13, hw⟩ := hw
    obtain ⟨q14, hw⟩ := hw
    obtain ⟨q15, hw⟩ := hw
    refine V_zald hc q13 q14 q15 d_Model_isLost_23 ?_
    refine V_if_ne (tgt := 31) hc d_Model_isLost_24 (by decide) (fun hq1 => ?_) (fun hq1 => ?_)
    · replace hw := hw.1 hq1
      refine V_sub (lv' := []) [] rfl ?_
      exact vb_Model_isLost_31 hc hq  _ hw
    · replace hw := hw.2 hq1
      refine V_iconst (v := 1) hc d_Model_isLost_27 (by decide) ?_
      refine V_goto (tgt := 32) hc d_Model_isLost_28 (by decide) ?_
      refine V_sub (lv' := []) [] rfl ?_
      exact vb_Model_isLost_32 hc hq  _ _ hw
def wq_Model_isLost (ge : Nat → Nat) (v0 : Nat) (v1 : Int32) (h : mm_M) (Z : Int32 → mm_M → Prop) : Prop := wq_Model_isLost_0 ge v0 v1 h Z
theorem sat_Model_isLost (G : mm_G) (v0 : Nat) (v1 : Int32) (h : mm_M) (Z : Int32 → mm_M → Prop) (hw : wq_Model_isLost (mm_ge G) v0 v1 h Z) : mm_Met G y_Model_isLost c_Model_isLost 2 (some (.boolean)) rm_Model_isLost [va_rf (some v0), .int (v1)] h (pI Z) := by
  refine mm_intro (own := "EpochServerModel") (by decide) rfl (by simp [lg_sl, cat_rf, cat_i, cat_l]) (fun E e1 hc hq hi => ?_)
  subst e1
  have e2 : lv_args 0 [va_rf (some v0), .int (v1)] = [(0, va_rf (some v0)), (1, .int (v1))] := by simp [lv_args, cat_rf, cat_i, cat_l]
  rw [e2]
  refine V_sub (lv' := [(0, va_rf (some v0)), (1, .int (v1))]) [0, 1] rfl ?_
  exact vb_Model_isLost_0 hc hq v0 v1 h hw
/-! Model.whyNot(I)I -/
abbrev rm_Model_whyNot : Room := { frames := 2, cells := 0, slots := 0, locals := 45 }
def wq_Model_whyNot_18  (ge : Nat → Nat)  (h : mm_M) (Z : Int32 → mm_M → Prop) : Prop :=
  Z (3) h
def wq_Model_whyNot_56  (ge : Nat → Nat) (s0 : Int32) (h : mm_M) (Z : Int32 → mm_M → Prop) : Prop :=
  Z (s0) h
def wq_Model_whyNot_55  (ge : Nat → Nat)  (h : mm_M) (Z : Int32 → mm_M → Prop) : Prop :=
  wq_Model_whyNot_56  ge (0) h Z
def wq_Model_whyNot_0  (ge : Nat → Nat) (v0 : Nat) (v1 : Int32) (h : mm_M) (Z : Int32 → mm_M → Prop) : Prop :=
  mm_k h (v0) = kd_Model ∧ ∃ a2, mm_P h v0 22 = some a2 ∧ mm_k h (a2) = ka_I ∧ vp_in (v1) (mm_n h a2) ∧ ((¬ (mm_I h a2 (Int32.toNatClampNeg (v1))) = 0 → wq_Model_whyNot_18  ge h Z) ∧ ((mm_I h a2 (Int32.toNatClampNeg (v1))) = 0 → ∃ a6, mm_P h v0 23 = some a6 ∧ mm_k h (a6) = ka_I ∧ vp_in (v1) (mm_n h a6) ∧ ((¬ (mm_I h a6 (Int32.toNatClampNeg (v1))) = 0 → vp_in (v1) (mm_n h a6) ∧ wq_Model_spot ge (0) (mm_I h a6 (Int32.toNatClampNeg (v1))) h (fun (r12 : Int32) (h11 : mm_M) => mm_k h11 (v0) = kd_Model ∧ wq_Model_isDirectory ge (v0) (r12) h11 (fun (r15 : Int32) (h14 : mm_M) => (((r15) = 0 → wq_Model_whyNot_55  ge h14 Z) ∧ (¬ (r15) = 0 → mm_k h14 (v0) = kd_Model ∧ ∃ a17, mm_P h14 v0 23 = some a17 ∧ mm_k h14 (a17) = ka_I ∧ vp_in (v1) (mm_n h14 a17) ∧ wq_Model_filesIn ge (v0) (0) (mm_I h14 a17 (Int32.toNatClampNeg (v1))) h14 (fun (r22 : Int32) (h21 : mm_M) => (((r22) ≤ 0 → wq_Model_whyNot_55  ge h21 Z) ∧ (¬ (r22) ≤ 0 → wq_Model_whyNot_56  ge (5) h21 Z)))))))) ∧ ((mm_I h a6 (Int32.toNatClampNeg (v1))) = 0 → wq_Model_whyNot_18  ge h Z))))
set_option maxRecDepth 100000 in
set_option maxHeartbeats 4000000 in
theorem vb_Model_whyNot_18 {E : mm_E} {Z : Int32 → mm_M → Prop} (hc : cx E "EpochServerModel" c_Model_whyNot 2 (some (.int)) rm_Model_whyNot) (hq : cq E rm_Model_whyNot (pI Z))   (h : mm_M) (hw : wq_Model_whyNot_18  (mm_ge (eG E))  h Z) : V E 2 0 0 h 18 [] [] := by
  unfold wq_Model_whyNot_18 at hw
  refine V_iconst (v := 3) hc d_Model_whyNot_18 (by decide) ?_
  exact V_iret hc hq ⟨_, rfl, hw⟩ (by decide) (by decide) d_Model_whyNot_19
set_option maxRecDepth 100000 in
set_option maxHeartbeats 4000000 in
theorem vb_Model_whyNot_56 {E : mm_E} {Z : Int32 → mm_M → Prop} (hc : cx E "EpochServerModel" c_Model_whyNot 2 (some (.int)) rm_Model_whyNot) (hq : cq E rm_Model_whyNot (pI Z))  (s0 : Int32) (h : mm_M) (hw : wq_Model_whyNot_56  (mm_ge (eG E)) s0 h Z) : V E 2 0 0 h 56 [] [.int (s0)] := by
  unfold wq_Model_whyNot_56 at hw
  exact V_iret hc hq ⟨_, rfl, hw⟩ (by decide) (by decide) d_Model_whyNot_56
set_option maxRecDepth 100000 in
set_option maxHeartbeats 4000000 in
theorem vb_Model_whyNot_55 {E : mm_E} {Z : Int32 → mm_M → Prop} (hc : cx E "EpochServerModel" c_Model_whyNot 2 (some (.int)) rm_Model_whyNot) (hq : cq E rm_Model_whyNot (pI Z))   (h : mm_M) (hw : wq_Model_whyNot_55  (mm_ge (eG E))  h Z) : V E 2 0 0 h 55 [] [] := by
  unfold wq_Model_whyNot_55 at hw
  refine V_iconst (v := 0) hc d_Model_whyNot_55 (by decide) ?_
  refine V_sub (lv' := []) [] rfl ?_
  exact vb_Model_whyNot_56 hc hq  _ _ hw
set_option maxRecDepth 100000 in
set_option maxHeartbeats 4000000 in
theorem vb_Model_whyNot_0 {E : mm_E} {Z : Int32 → mm_M → Prop} (hc : cx E "EpochServerModel" c_Model_whyNot 2 (some (.int)) rm_Model_whyNot) (hq : cq E rm_Model_whyNot (pI Z))  (v0 : Nat) (v1 : Int32) (h : mm_M) (hw : wq_Model_whyNot_0  (mm_ge (eG E)) v0 v1 h Z) : V E 2 0 0 h 0 [(0, va_rf (some v0)), (1, .int (v1))] [] := by
  unfold wq_Model_whyNot_0 at hw
  refine V_aload_n hc 0 d_Model_whyNot_0 rfl rfl ?_
  obtain ⟨q1, hw⟩ := hw
  refine V_get (v := va_rf (mm_P h v0 22)) hc gf_Model_53 rfl q1 rfl d_Model_whyNot_1 ?_
  refine V_iload_n hc 1 d_Model_whyNot_4 rfl rfl ?_
  obtain ⟨a2, q3, hw⟩ := hw
  obtain ⟨q4, hw⟩ := hw
  obtain ⟨q5, hw⟩ := hw
  refine V_iald hc q3 q4 q5 d_Model_whyNot_5 ?_
  refine V_if_ne (tgt := 18) hc d_Model_whyNot_6 (by decide) (fun hq1 => ?_) (fun hq1 => ?_)
  · replace hw := hw.1 hq1
    refine V_sub (lv' := []) [] rfl ?_
    exact vb_Model_whyNot_18 hc hq  _ hw
  · replace hw := hw.2 hq1
    refine V_aload_n hc 0 d_Model_whyNot_9 rfl rfl ?_
    refine V_get (v := va_rf (mm_P h v0 23)) hc gf_Model_56 rfl q1 rfl d_Model_whyNot_10 ?_
    refine V_iload_n hc 1 d_Model_whyNot_13 rfl rfl ?_
    obtain ⟨a6, q7, hw⟩ := hw
    obtain ⟨q8, hw⟩ := hw
    obtain ⟨q9, hw⟩ := hw
    refine V_iald hc q7 q8 q9 d_Model_whyNot_14 ?_
    refine V_if_ne (tgt := 20) hc d_Model_whyNot_15 (by decide) (fun hq1 => ?_) (fun hq1 => ?_)
    · replace hw := hw.1 hq1
      refine V_aload_n hc 0 d_Model_whyNot_20 rfl rfl ?_
      refine V_iconst (v := 0) hc d_Model_whyNot_21 (by decide) ?_
      refine V_aload_n hc 0 d_Model_whyNot_22 rfl rfl ?_
      refine V_get (v := va_rf (mm_P h v0 23)) hc gf_Model_56 rfl q1 rfl d_Model_whyNot_23 ?_
      refine V_iload_n hc 1 d_Model_whyNot_26 rfl rfl ?_
      obtain ⟨q10, hw⟩ := hw
      refine V_iald hc q7 q8 q10 d_Model_whyNot_27 ?_
      refine V_callS (rm' := rm_Model_spot) (As := [.int (0), .int (mm_I h a6 (Int32.toNatClampNeg (v1)))]) (rest := [va_rf (some v0)]) (n := 2) hc (sat_Model_spot (eG E) _ _ _ _ hw) cv_Model_96 (gw_of (tw_5 (List.mem_of_getElem? (i := 196) rfl)) rfl) rfl ⟨by decide, by decide⟩ (by decide) (by decide) rfl (by simp [cat_rf, cat_i, cat_l]) d_Model_whyNot_28 (fun r0 h11 hw => ?_)
      obtain ⟨r12, rfl, hw⟩ := hw
      refine V_wide (cs' := 0) (sl' := 0) (by decide) (by decide) ?_
      refine V_st (st' := [.int (r12), va_rf (some v0)]) rfl ?_
      obtain ⟨q13, hw⟩ := hw
      refine V_callV (rm' := rm_Model_isDirectory) (As := [.int (r12)]) (rest := []) (n := 1) (cn := 0) hc rfl q13 (sat_Model_isDirectory (eG E) _ _ _ _ hw) rfl cv_Model_230 (gw_of (tw_6 (List.mem_of_getElem? (i := 39) rfl)) rfl) ss_Model_isDirectory rfl ⟨by decide, by decide⟩ (by decide) (by decide) rfl (by simp [cat_rf, cat_i, cat_l]) d_Model_whyNot_31 (fun r0 h14 hw => ?_)
      obtain ⟨r15, rfl, hw⟩ := hw
      refine V_wide (cs' := 0) (sl' := 0) (by decide) (by decide) ?_
      refine V_st (st' := [.int (r15)]) rfl ?_
      refine V_if_eq (tgt := 55) hc d_Model_whyNot_34 (by decide) (fun hq1 => ?_) (fun hq1 => ?_)
      · replace hw := hw.1 hq1
        refine V_sub (lv' := []) [] rfl ?_
        exact vb_Model_whyNot_55 hc hq  _ hw
      · replace hw := hw.2 hq1
        refine V_aload_n hc 0 d_Model_whyNot_37 rfl rfl ?_
        refine V_iconst (v := 0) hc d_Model_whyNot_38 (by decide) ?_
        refine V_aload_n hc 0 d_Model_whyNot_39 rfl rfl ?_
        obtain ⟨q16, hw⟩ := hw
        refine V_get (v := va_rf (mm_P h14 v0 23)) hc gf_Model_56 rfl q16 rfl d_Model_whyNot_40 ?_
        refine V_iload_n hc 1 d_Model_whyNot_43 rfl rfl ?_
        obtain ⟨a17, q18, hw⟩ := hw
        obtain ⟨q19, hw⟩ := hw
        obtain ⟨q20, hw⟩ := hw
        refine V_iald hc q18 q19 q20 d_Model_whyNot_44 ?_
        refine V_callV (rm' := rm_Model_filesIn) (As := [.int (0), .int (mm_I h14 a17 (Int32.toNatClampNeg (v1)))]) (rest := []) (n := 2) (cn := 0) hc rfl q16 (sat_Model_filesIn (eG E) _ _ _ _ _ hw) rfl cv_Model_349 (gw_of (tw_6 (List.mem_of_getElem? (i := 56) rfl)) rfl) ss_Model_filesIn rfl ⟨by decide, by decide⟩ (by decide) (by decide) rfl (by simp [cat_rf, cat_i, cat_l]) d_Model_whyNot_45 (fun r0 h21 hw => ?_)
        obtain ⟨r22, rfl, hw⟩ := hw
        refine V_wide (cs' := 0) (sl' := 0) (by decide) (by decide) ?_
        refine V_st (st' := [.int (r22)]) rfl ?_
        refine V_if_le (tgt := 55) hc d_Model_whyNot_48 (by decide) (fun hq1 => ?_) (fun hq1 => ?_)
        · replace hw := hw.1 hq1
          refine V_sub (lv' := []) [] rfl ?_
          exact vb_Model_whyNot_55 hc hq  _ hw
        · replace hw := hw.2 hq1
          refine V_iconst (v := 5) hc d_Model_whyNot_51 (by decide) ?_
          refine V_goto (tgt := 56) hc d_Model_whyNot_52 (by decide) ?_
          refine V_sub (lv' := []) [] rfl ?_
          exact vb_Model_whyNot_56 hc hq  _ _ hw
    · replace hw := hw.2 hq1
      refine V_sub (lv' := []) [] rfl ?_
      exact vb_Model_whyNot_18 hc hq  _ hw
def wq_Model_whyNot (ge : Nat → Nat) (v0 : Nat) (v1 : Int32) (h : mm_M) (Z : Int32 → mm_M → Prop) : Prop := wq_Model_whyNot_0 ge v0 v1 h Z
theorem sat_Model_whyNot (G : mm_G) (v0 : Nat) (v1 : Int32) (h : mm_M) (Z : Int32 → mm_M → Prop) (hw : wq_Model_whyNot (mm_ge G) v0 v1 h Z) : mm_Met G y_Model_whyNot c_Model_whyNot 2 (some (.int)) rm_Model_whyNot [va_rf (some v0), .int (v1)] h (pI Z) := by
  refine mm_intro (own := "EpochServerModel") (by decide) rfl (by simp [lg_sl, cat_rf, cat_i, cat_l]) (fun E e1 hc hq hi => ?_)
  subst e1
  have e2 : lv_args 0 [va_rf (some v0), .int (v1)] = [(0, va_rf (some v0)), (1, .int (v1))] := by simp [lv_args, cat_rf, cat_i, cat_l]
  rw [e2]
  refine V_sub (lv' := [(0, va_rf (some v0)), (1, .int (v1))]) [0, 1] rfl ?_
  exact vb_Model_whyNot_0 hc hq v0 v1 h hw
/-! Model.gone(I)V -/
abbrev rm_Model_gone : Room := { frames := 0, cells := 0, slots := 0, locals := 0 }
def wq_Model_gone_12 (X12 : Nat → Int32 → mm_M → Prop) (ge : Nat → Nat) (v0 : Nat) (v2 : Int32) (h : mm_M) (Z : mm_M → Prop) : Prop :=
  mm_k h (v0) = kd_Model ∧ (((mm_I h v0 27 : Int32) ≤ (v2 : Int32) → Z h) ∧ (¬ (mm_I h v0 27 : Int32) ≤ (v2 : Int32) → ∃ a2, mm_P h v0 21 = some a2 ∧ mm_k h (a2) = ka_I ∧ vp_in ((v2) + (1 : Int32)) (mm_n h a2) ∧ vp_in (v2) (mm_n h a2) ∧ ge 0 ≤ a2 ∧ ∀ h8 : mm_M, h8 = mm_uI h a2 (Int32.toNatClampNeg (v2)) (mm_I h a2 (Int32.toNatClampNeg ((v2) + (1 : Int32)))) → mm_k h8 (v0) = kd_Model ∧ ∃ a10, mm_P h8 v0 22 = some a10 ∧ mm_k h8 (a10) = ka_I ∧ vp_in ((v2) + (1 : Int32)) (mm_n h8 a10) ∧ vp_in (v2) (mm_n h8 a10) ∧ ge 0 ≤ a10 ∧ ∀ h16 : mm_M, h16 = mm_uI h8 a10 (Int32.toNatClampNeg (v2)) (mm_I h8 a10 (Int32.toNatClampNeg ((v2) + (1 : Int32)))) → mm_k h16 (v0) = kd_Model ∧ ∃ a18, mm_P h16 v0 23 = some a18 ∧ mm_k h16 (a18) = ka_I ∧ vp_in ((v2) + (1 : Int32)) (mm_n h16 a18) ∧ vp_in (v2) (mm_n h16 a18) ∧ ge 0 ≤ a18 ∧ ∀ h24 : mm_M, h24 = mm_uI h16 a18 (Int32.toNatClampNeg (v2)) (mm_I h16 a18 (Int32.toNatClampNeg ((v2) + (1 : Int32)))) → mm_k h24 (v0) = kd_Model ∧ ∃ a26, mm_P h24 v0 24 = some a26 ∧ mm_k h24 (a26) = ka_I ∧ vp_in ((v2) + (1 : Int32)) (mm_n h24 a26) ∧ vp_in (v2) (mm_n h24 a26) ∧ ge 0 ≤ a26 ∧ ∀ h32 : mm_M, h32 = mm_uI h24 a26 (Int32.toNatClampNeg (v2)) (mm_I h24 a26 (Int32.toNatClampNeg ((v2) + (1 : Int32)))) → mm_k h32 (v0) = kd_Model ∧ ∃ a34, mm_P h32 v0 25 = some a34 ∧ mm_k h32 (a34) = ka_I ∧ vp_in ((v2) + (1 : Int32)) (mm_n h32 a34) ∧ vp_in (v2) (mm_n h32 a34) ∧ ge 0 ≤ a34 ∧ ∀ h40 : mm_M, h40 = mm_uI h32 a34 (Int32.toNatClampNeg (v2)) (mm_I h32 a34 (Int32.toNatClampNeg ((v2) + (1 : Int32)))) → mm_k h40 (v0) = kd_Model ∧ ∃ a42, mm_P h40 v0 26 = some a42 ∧ mm_k h40 (a42) = ka_I ∧ vp_in ((v2) + (1 : Int32)) (mm_n h40 a42) ∧ vp_in (v2) (mm_n h40 a42) ∧ ge 0 ≤ a42 ∧ ∀ h48 : mm_M, h48 = mm_uI h40 a42 (Int32.toNatClampNeg (v2)) (mm_I h40 a42 (Int32.toNatClampNeg ((v2) + (1 : Int32)))) → X12 (v0) (v2 + 1) h48))
def lp_Model_gone_12  (ge : Nat → Nat) (v0 : Nat) (v2 : Int32) (h : mm_M) (Z : mm_M → Prop) : Prop :=
  ∀ X12 : Nat → Int32 → mm_M → Prop, (∀ (v0 : Nat) (v2 : Int32) (h : mm_M), wq_Model_gone_12 X12 ge v0 v2 h Z → X12 v0 v2 h) → X12 v0 v2 h
def wq_Model_gone_0  (ge : Nat → Nat) (v0 : Nat) (v1 : Int32) (h : mm_M) (Z : mm_M → Prop) : Prop :=
  mm_k h (v0) = kd_Model ∧ ge 0 ≤ v0 ∧ ∀ h3 : mm_M, h3 = mm_uI h (v0) 27 ((mm_I h v0 27) - (1 : Int32)) → lp_Model_gone_12  ge (v0) (v1) h3 Z
set_option maxRecDepth 100000 in
set_option maxHeartbeats 4000000 in
theorem vb_Model_gone_12 {E : mm_E} {Z : mm_M → Prop} (hc : cx E "EpochServerModel" c_Model_gone 3 none rm_Model_gone) (hq : cq E rm_Model_gone (pV Z)) (X12 : Nat → Int32 → mm_M → Prop) (hX12 : ∀ (v0 : Nat) (v2 : Int32) (h : mm_M), X12 v0 v2 h → V E 3 0 0 h 12 [(0, va_rf (some v0)), (2, .int (v2))] []) (v0 : Nat) (v2 : Int32) (h : mm_M) (hw : wq_Model_gone_12 X12 (mm_ge (eG E)) v0 v2 h Z) : V E 3 0 0 h 12 [(0, va_rf (some v0)), (2, .int (v2))] [] := by
  unfold wq_Model_gone_12 at hw
  refine V_iload_n hc 1 d_Model_gone_12 rfl rfl ?_
  refine V_aload_n hc 0 d_Model_gone_13 rfl rfl ?_
  obtain ⟨q1, hw⟩ := hw
  refine V_get (v := .int (mm_I h v0 27)) hc gf_Model_240 rfl q1 rfl d_Model_gone_14 ?_
  refine V_icmp_ge (tgt := 110) hc d_Model_gone_17 (by decide) (fun hq1 => ?_) (fun hq1 => ?_)
  · replace hw := hw.1 hq1
    exact V_vret hc hq ⟨rfl, hw⟩ (by decide) (by decide) d_Model_gone_110
  · replace hw := hw.2 hq1
    refine V_aload_n hc 0 d_Model_gone_20 rfl rfl ?_
    refine V_get (v := va_rf (mm_P h v0 21)) hc gf_Model_50 rfl q1 rfl d_Model_gone_21 ?_
    refine V_iload_n hc 1 d_Model_gone_24 rfl rfl ?_
    refine V_aload_n hc 0 d_Model_gone_25 rfl rfl ?_
    refine V_get (v := va_rf (mm_P h v0 21)) hc gf_Model_50 rfl q1 rfl d_Model_gone_26 ?_
    refine V_iload_n hc 1 d_Model_gone_29 rfl rfl ?_
    refine V_iconst (v := 1) hc d_Model_gone_30 (by decide) ?_
    refine V_iadd hc d_Model_gone_31 ?_
    obtain ⟨a2, q3, hw⟩ := hw
    obtain ⟨q4, hw⟩ := hw
    obtain ⟨q5, hw⟩ := hw
    refine V_iald hc q3 q4 q5 d_Model_gone_32 ?_
    obtain ⟨q6, hw⟩ := hw
    obtain ⟨q7, hw⟩ := hw
    obtain ⟨h8, eq_h8⟩ : ∃ x, x = mm_uI h a2 (Int32.toNatClampNeg (v2)) (mm_I h a2 (Int32.toNatClampNeg ((v2) + (1 : Int32)))) := ⟨_, rfl⟩
    replace hw := hw _ eq_h8
    refine V_iast hc q3 q4 q6 q7 d_Model_gone_33 ?_
    rw [← eq_h8]
    refine V_aload_n hc 0 d_Model_gone_34 rfl rfl ?_
    obtain ⟨q9, hw⟩ := hw
    refine V_get (v := va_rf (mm_P h8 v0 22)) hc gf_Model_53 rfl q9 rfl d_Model_gone_35 ?_
    refine V_iload_n hc 1 d_Model_gone_38 rfl rfl ?_
    refine V_aload_n hc 0 d_Model_gone_39 rfl rfl ?_
    refine V_get (v := va_rf (mm_P h8 v0 22)) hc gf_Model_53 rfl q9 rfl d_Model_gone_40 ?_
    refine V_iload_n hc 1 d_Model_gone_43 rfl rfl ?_
    refine V_iconst (v := 1) hc d_Model_gone_44 (by decide) ?_
    refine V_iadd hc d_Model_gone_45 ?_
    obtain ⟨a10, q11, hw⟩ := hw
    obtain ⟨q12, hw⟩ := hw
    obtain ⟨q13, hw⟩ := hw
    refine V_iald hc q11 q12 q13 d_Model_gone_46 ?_
    obtain ⟨q14, hw⟩ := hw
    obtain ⟨q15, hw⟩ := hw
    obtain ⟨h16, eq_h16⟩ : ∃ x, x = mm_uI h8 a10 (Int32.toNatClampNeg (v2)) (mm_I h8 a10 (Int32.toNatClampNeg ((v2) + (1 : Int32)))) := ⟨_, rfl⟩
    replace hw := hw _ eq_h16
    refine V_iast hc q11 q12 q14 q15 d_Model_gone_47 ?_
    rw [← eq_h16]
    refine V_aload_n hc 0 d_Model_gone_48 rfl rfl ?_
    obtain ⟨q17, hw⟩ := hw
    refine V_get (v := va_rf (mm_P h16 v0 23)) hc gf_Model_56 rfl q17 rfl d_Model_gone_49 ?_
    refine V_iload_n hc 1 d_Model_gone_52 rfl rfl ?_
    refine V_aload_n hc 0 d_Model_gone_53 rfl rfl ?_
    refine V_get (v := va_rf (mm_P h16 v0 23)) hc gf_Model_56 rfl q17 rfl d_Model_gone_54 ?_
    refine V_iload_n hc 1 d_Model_gone_57 rfl rfl ?_
    refine V_iconst (v := 1) hc d_Model_gone_58 (by decide) ?_
    refine V_iadd hc d_Model_gone_59 ?_
    obtain ⟨a18, q19, hw⟩ := hw
    obtain ⟨q20, hw⟩ := hw
    obtain ⟨q21, hw⟩ := hw
    refine V_iald hc q19 q20 q21 d_Model_gone_60 ?_
    obtain ⟨q22, hw⟩ := hw
    obtain ⟨q23, hw⟩ := hw
    obtain ⟨h24, eq_h24⟩ : ∃ x, x = mm_uI h16 a18 (Int32.toNatClampNeg (v2)) (mm_I h16 a18 (Int32.toNatClampNeg ((v2) + (1 : Int32)))) := ⟨_, rfl⟩
    replace hw := hw _ eq_h24
    refine V_iast hc q19 q20 q22 q23 d_Model_gone_61 ?_
    rw [← eq_h24]
    refine V_aload_n hc 0 d_Model_gone_62 rfl rfl ?_
    obtain ⟨q25, hw⟩ := hw
    refine V_get (v := va_rf (mm_P h24 v0 24)) hc gf_Model_59 rfl q25 rfl d_Model_gone_63 ?_
    refine V_iload_n hc 1 d_Model_gone_66 rfl rfl ?_
    refine V_aload_n hc 0 d_Model_gone_67 rfl rfl ?_
    refine V_get (v := va_rf (mm_P h24 v0 24)) hc gf_Model_59 rfl q25 rfl d_Model_gone_68 ?_
    refine V_iload_n hc 1 d_Model_gone_71 rfl rfl ?_
    refine V_iconst (v := 1) hc d_Model_gone_72 (by decide) ?_
    refine V_iadd hc d_Model_gone_73 ?_
    obtain ⟨a26, q27, hw⟩ := hw
    obtain ⟨q28, hw⟩ := hw
    obtain ⟨q29, hw⟩ := hw
    refine V_iald hc q27 q28 q29 d_Model_gone_74 ?_
    obtain ⟨q30, hw⟩ := hw
    obtain ⟨q31, hw⟩ := hw
    obtain ⟨h32, eq_h32⟩ : ∃ x, x = mm_uI h24 a26 (Int32.toNatClampNeg (v2)) (mm_I h24 a26 (Int32.toNatClampNeg ((v2) + (1 : Int32)))) := ⟨_, rfl⟩
    replace hw := hw _ eq_h32
    refine V_iast hc q27 q28 q30 q31 d_Model_gone_75 ?_
    rw [← eq_h32]
    refine V_aload_n hc 0 d_Model_gone_76 rfl rfl ?_
    obtain ⟨q33, hw⟩ := hw
    refine V_get (v := va_rf (mm_P h32 v0 25)) hc gf_Model_62 rfl q33 rfl d_Model_gone_77 ?_
    refine V_iload_n hc 1 d_Model_gone_80 rfl rfl ?_
    refine V_aload_n hc 0 d_Model_gone_81 rfl rfl ?_
    refine V_get (v := va_rf (mm_P h32 v0 25)) hc gf_Model_62 rfl q33 rfl d_Model_gone_82 ?_
    refine V_iload_n hc 1 d_Model_gone_85 rfl rfl ?_
    refine V_iconst (v := 1) hc d_Model_gone_86 (by decide) ?_
    refine V_iadd hc d_Model_gone_87 ?_
    obtain ⟨a34, q35, hw⟩ := hw
    obtain ⟨q36, hw⟩ := hw
    obtain ⟨q37, hw⟩ := hw
    refine V_iald hc q35 q36 q37 d_Model_gone_88 ?_
    obtain ⟨q38, hw⟩ := hw
    obtain ⟨q39, hw⟩ := hw
    obtain ⟨h40, eq_h40⟩ : ∃ x, x = mm_uI h32 a34 (Int32.toNatClampNeg (v2)) (mm_I h32 a34 (Int32.toNatClampNeg ((v2) + (1 : Int32)))) := ⟨_, rfl⟩
    replace hw := hw _ eq_h40
    refine V_iast hc q35 q36 q38 q39 d_Model_gone_89 ?_
    rw [← eq_h40]
    refine V_aload_n hc 0 d_Model_gone_90 rfl rfl ?_
    obtain ⟨q41, hw⟩ := hw
    refine V_get (v := va_rf (mm_P h40 v0 26)) hc gf_Model_65 rfl q41 rfl d_Model_gone_91 ?_
    refine V_iload_n hc 1 d_Model_gone_94 rfl rfl ?_
    refine V_aload_n hc 0 d_Model_gone_95 rfl rfl ?_
    refine V_get (v := va_rf (mm_P h40 v0 26)) hc gf_Model_65 rfl q41 rfl d_Model_gone_96 ?_
    refine V_iload_n hc 1 d_Model_gone_99 rfl rfl ?_
    refine V_iconst (v := 1) hc d_Model_gone_100 (by decide) ?_
    refine V_iadd hc d_Model_gone_101 ?_
    obtain ⟨a42, q43, hw⟩ := hw
    obtain ⟨q44, hw⟩ := hw
    obtain ⟨q45, hw⟩ := hw
    refine V_iald hc q43 q44 q45 d_Model_gone_102 ?_
    obtain ⟨q46, hw⟩ := hw
    obtain ⟨q47, hw⟩ := hw
    obtain ⟨h48, eq_h48⟩ : ∃ x, x = mm_uI h40 a42 (Int32.toNatClampNeg (v2)) (mm_I h40 a42 (Int32.toNatClampNeg ((v2) + (1 : Int32)))) := ⟨_, rfl⟩
    replace hw := hw _ eq_h48
    refine V_iast hc q43 q44 q46 q47 d_Model_gone_103 ?_
    rw [← eq_h48]
    refine V_iinc (v := v2 + 1) (lv' := [(2, .int (v2 + 1)), (0, va_rf (some v0))]) hc 1 d_Model_gone_104 rfl rfl (by decide) rfl ?_
    refine V_goto (tgt := 12) hc d_Model_gone_107 (by decide) ?_
    refine V_sub (lv' := [(0, va_rf (some v0)), (2, .int (v2 + 1))]) [1, 0] rfl ?_
    exact hX12 _ _ _ hw
theorem vl_Model_gone_12 {E : mm_E} {Z : mm_M → Prop} (hc : cx E "EpochServerModel" c_Model_gone 3 none rm_Model_gone) (hq : cq E rm_Model_gone (pV Z))  (v0 : Nat) (v2 : Int32) (h : mm_M) (hw : lp_Model_gone_12  (mm_ge (eG E)) v0 v2 h Z) : V E 3 0 0 h 12 [(0, va_rf (some v0)), (2, .int (v2))] [] :=
  hw (fun v0 v2 h => V E 3 0 0 h 12 [(0, va_rf (some v0)), (2, .int (v2))] []) (fun v0 v2 h hb => vb_Model_gone_12 hc hq  _ (fun _ _ _ q => q) v0 v2 h hb)
set_option maxRecDepth 100000 in
set_option maxHeartbeats 4000000 in
theorem vb_Model_gone_0 {E : mm_E} {Z : mm_M → Prop} (hc : cx E "EpochServerModel" c_Model_gone 3 none rm_Model_gone) (hq : cq E rm_Model_gone (pV Z))  (v0 : Nat) (v1 : Int32) (h : mm_M) (hw : wq_Model_gone_0  (mm_ge (eG E)) v0 v1 h Z) : V E 3 0 0 h 0 [(0, va_rf (some v0)), (1, .int (v1))] [] := by
  unfold wq_Model_gone_0 at hw
  refine V_aload_n hc 0 d_Model_gone_0 rfl rfl ?_
  refine V_dup hc d_Model_gone_1 (cat_rf _) ?_
  obtain ⟨q1, hw⟩ := hw
  refine V_get (v := .int (mm_I h v0 27)) hc gf_Model_240 rfl q1 rfl d_Model_gone_2 ?_
  refine V_iconst (v := 1) hc d_Model_gone_5 (by decide) ?_
  refine V_isub hc d_Model_gone_6 ?_
  obtain ⟨q2, hw⟩ := hw
  obtain ⟨h3, eq_h3⟩ : ∃ x, x = mm_uI h (v0) 27 ((mm_I h v0 27) - (1 : Int32)) := ⟨_, rfl⟩
  replace hw := hw _ eq_h3
  refine V_put (h' := h3) hc gf_Model_240 rfl rfl q1 q2 (by rw [eq_h3]; exact mm_Up_I _ _ _ _) (by rw [eq_h3]; exact up_vI rfl) (vp_nar_int _) rfl d_Model_gone_7 ?_
  refine V_iload_n hc 1 d_Model_gone_10 rfl rfl ?_
  refine V_istore_n (i := 2) (lv' := [(2, .int (v1)), (0, va_rf (some v0)), (1, .int (v1))]) hc d_Model_gone_11 rfl (by decide) rfl ?_
  refine V_sub (lv' := [(0, va_rf (some v0)), (2, .int (v1))]) [1, 0] rfl ?_
  exact vl_Model_gone_12 hc hq  _ _ _ hw
def wq_Model_gone (ge : Nat → Nat) (v0 : Nat) (v1 : Int32) (h : mm_M) (Z : mm_M → Prop) : Prop := wq_Model_gone_0 ge v0 v1 h Z
theorem sat_Model_gone (G : mm_G) (v0 : Nat) (v1 : Int32) (h : mm_M) (Z : mm_M → Prop) (hw : wq_Model_gone (mm_ge G) v0 v1 h Z) : mm_Met G y_Model_gone c_Model_gone 3 none rm_Model_gone [va_rf (some v0), .int (v1)] h (pV Z) := by
  refine mm_intro (own := "EpochServerModel") (by decide) rfl (by simp [lg_sl, cat_rf, cat_i, cat_l]) (fun E e1 hc hq hi => ?_)
  subst e1
  have e2 : lv_args 0 [va_rf (some v0), .int (v1)] = [(0, va_rf (some v0)), (1, .int (v1))] := by simp [lv_args, cat_rf, cat_i, cat_l]
  rw [e2]
  refine V_sub (lv' := [(0, va_rf (some v0)), (1, .int (v1))]) [0, 1] rfl ?_
  exact vb_Model_gone_0 hc hq v0 v1 h hw
/-! Model.leaves(I)V -/
abbrev rm_Model_leaves : Room := { frames := 1, cells := 0, slots := 0, locals := 21 }
def wq_Model_leaves_0  (ge : Nat → Nat) (v0 : Nat) (v1 : Int32) (h : mm_M) (Z : mm_M → Prop) : Prop :=
  wq_Model_spot ge (0) (v1) h (fun (r2 : Int32) (h1 : mm_M) => mm_k h1 (v0) = kd_Model ∧ ∃ a4, mm_P h1 v0 0 = some a4 ∧ mm_k h1 (a4) = ka_Z ∧ vp_in (r2) (mm_n h1 a4) ∧ ge 0 ≤ a4 ∧ ∀ h9 : mm_M, h9 = mm_uI h1 a4 (Int32.toNatClampNeg (r2)) (vp_nar .boolean (0)) → mm_k h9 (v0) = kd_Model ∧ ∃ a11, mm_P h9 v0 1 = some a11 ∧ mm_k h9 (a11) = ka_I ∧ vp_in (r2) (mm_n h9 a11) ∧ wq_Model_spot ge (0) (mm_I h9 a11 (Int32.toNatClampNeg (r2))) h9 (fun (r16 : Int32) (h15 : mm_M) => mm_k h15 (v0) = kd_Model ∧ wq_Model_changed ge (v0) (r16) h15 (fun h18 : mm_M => Z h18)))
set_option maxRecDepth 100000 in
set_option maxHeartbeats 4000000 in
theorem vb_Model_leaves_0 {E : mm_E} {Z : mm_M → Prop} (hc : cx E "EpochServerModel" c_Model_leaves 3 none rm_Model_leaves) (hq : cq E rm_Model_leaves (pV Z))  (v0 : Nat) (v1 : Int32) (h : mm_M) (hw : wq_Model_leaves_0  (mm_ge (eG E)) v0 v1 h Z) : V E 3 0 0 h 0 [(0, va_rf (some v0)), (1, .int (v1))] [] := by
  unfold wq_Model_leaves_0 at hw
  refine V_iconst (v := 0) hc d_Model_leaves_0 (by decide) ?_
  refine V_iload_n hc 1 d_Model_leaves_1 rfl rfl ?_
  refine V_callS (rm' := rm_Model_spot) (As := [.int (0), .int (v1)]) (rest := []) (n := 2) hc (sat_Model_spot (eG E) _ _ _ _ hw) cv_Model_96 (gw_of (tw_5 (List.mem_of_getElem? (i := 196) rfl)) rfl) rfl ⟨by decide, by decide⟩ (by decide) (by decide) rfl (by simp [cat_rf, cat_i, cat_l]) d_Model_leaves_2 (fun r0 h1 hw => ?_)
  obtain ⟨r2, rfl, hw⟩ := hw
  refine V_wide (cs' := 0) (sl' := 0) (by decide) (by decide) ?_
  refine V_st (st' := [.int (r2)]) rfl ?_
  refine V_istore_n (i := 2) (lv' := [(2, .int (r2)), (0, va_rf (some v0)), (1, .int (v1))]) hc d_Model_leaves_5 rfl (by decide) rfl ?_
  refine V_aload_n hc 1 d_Model_leaves_6 rfl rfl ?_
  obtain ⟨q3, hw⟩ := hw
  refine V_get (v := va_rf (mm_P h1 v0 0)) hc gf_Model_9 rfl q3 rfl d_Model_leaves_7 ?_
  refine V_iload_n hc 0 d_Model_leaves_10 rfl rfl ?_
  refine V_iconst (v := 0) hc d_Model_leaves_11 (by decide) ?_
  obtain ⟨a4, q5, hw⟩ := hw
  obtain ⟨q6, hw⟩ := hw
  obtain ⟨q7, hw⟩ := hw
  obtain ⟨q8, hw⟩ := hw
  obtain ⟨h9, eq_h9⟩ : ∃ x, x = mm_uI h1 a4 (Int32.toNatClampNeg (r2)) (vp_nar .boolean (0)) := ⟨_, rfl⟩
  replace hw := hw _ eq_h9
  refine V_zast hc q5 q6 q7 q8 d_Model_leaves_12 ?_
  rw [← eq_h9]
  refine V_aload_n hc 1 d_Model_leaves_13 rfl rfl ?_
  refine V_iconst (v := 0) hc d_Model_leaves_14 (by decide) ?_
  refine V_aload_n hc 1 d_Model_leaves_15 rfl rfl ?_
  obtain ⟨q10, hw⟩ := hw
  refine V_get (v := va_rf (mm_P h9 v0 1)) hc gf_Model_13 rfl q10 rfl d_Model_leaves_16 ?_
  refine V_iload_n hc 0 d_Model_leaves_19 rfl rfl ?_
  obtain ⟨a11, q12, hw⟩ := hw
  obtain ⟨q13, hw⟩ := hw
  obtain ⟨q14, hw⟩ := hw
  refine V_iald hc q12 q13 q14 d_Model_leaves_20 ?_
  refine V_callS (rm' := rm_Model_spot) (As := [.int (0), .int (mm_I h9 a11 (Int32.toNatClampNeg (r2)))]) (rest := [va_rf (some v0)]) (n := 2) hc (sat_Model_spot (eG E) _ _ _ _ hw) cv_Model_96 (gw_of (tw_5 (List.mem_of_getElem? (i := 196) rfl)) rfl) rfl ⟨by decide, by decide⟩ (by decide) (by decide) rfl (by simp [cat_rf, cat_i, cat_l]) d_Model_leaves_21 (fun r0 h15 hw => ?_)
  obtain ⟨r16, rfl, hw⟩ := hw
  refine V_wide (cs' := 0) (sl' := 0) (by decide) (by decide) ?_
  refine V_st (st' := [.int (r16), va_rf (some v0)]) rfl ?_
  obtain ⟨q17, hw⟩ := hw
  refine V_callV (rm' := rm_Model_changed) (As := [.int (r16)]) (rest := []) (n := 1) (cn := 0) hc rfl q17 (sat_Model_changed (eG E) _ _ _ _ hw) rfl cv_Model_334 (gw_of (tw_6 (List.mem_of_getElem? (i := 68) rfl)) rfl) ss_Model_changed rfl ⟨by decide, by decide⟩ (by decide) (by decide) rfl (by simp [cat_rf, cat_i, cat_l]) d_Model_leaves_24 (fun r0 h18 hw => ?_)
  obtain ⟨rfl, hw⟩ := hw
  refine V_wide (cs' := 0) (sl' := 0) (by decide) (by decide) ?_
  refine V_st (st' := []) rfl ?_
  exact V_vret hc hq ⟨rfl, hw⟩ (by decide) (by decide) d_Model_leaves_27
def wq_Model_leaves (ge : Nat → Nat) (v0 : Nat) (v1 : Int32) (h : mm_M) (Z : mm_M → Prop) : Prop := wq_Model_leaves_0 ge v0 v1 h Z
theorem sat_Model_leaves (G : mm_G) (v0 : Nat) (v1 : Int32) (h : mm_M) (Z : mm_M → Prop) (hw : wq_Model_leaves (mm_ge G) v0 v1 h Z) : mm_Met G y_Model_leaves c_Model_leaves 3 none rm_Model_leaves [va_rf (some v0), .int (v1)] h (pV Z) := by
  refine mm_intro (own := "EpochServerModel") (by decide) rfl (by simp [lg_sl, cat_rf, cat_i, cat_l]) (fun E e1 hc hq hi => ?_)
  subst e1
  have e2 : lv_args 0 [va_rf (some v0), .int (v1)] = [(0, va_rf (some v0)), (1, .int (v1))] := by simp [lv_args, cat_rf, cat_i, cat_l]
  rw [e2]
  refine V_sub (lv' := [(0, va_rf (some v0)), (1, .int (v1))]) [0, 1] rfl ?_
  exact vb_Model_leaves_0 hc hq v0 v1 h hw
/-! Model.removes(IZ)V -/
abbrev rm_Model_removes : Room := { frames := 3, cells := 0, slots := 0, locals := 66 }
def wq_Model_removes_37  (ge : Nat → Nat) (v0 : Nat) (v3 : Int32) (v4 : Int32) (s0 : Option Nat) (s1 : Int32) (h : mm_M) (Z : mm_M → Prop) : Prop :=
  ∃ a1, s0 = some a1 ∧ mm_k h (a1) = kd_Model ∧ wq_Model_fails ge (a1) (s1) (v3) h (fun (r5 : Int32) (h4 : mm_M) => (((r5) = 0 → mm_k h4 (v0) = kd_Model ∧ wq_Model_leaves ge (v0) (v4) h4 (fun h7 : mm_M => Z h7)) ∧ (¬ (r5) = 0 → Z h4)))
def wq_Model_removes_13  (ge : Nat → Nat) (v0 : Nat) (v1 : Int32) (s0 : Int32) (h : mm_M) (Z : mm_M → Prop) : Prop :=
  mm_k h (v0) = kd_Model ∧ ∃ a2, mm_P h v0 23 = some a2 ∧ mm_k h (a2) = ka_I ∧ vp_in (v1) (mm_n h a2) ∧ wq_Model_gone ge (v0) (v1) h (fun h6 : mm_M => (((s0) = 0 → wq_Model_removes_37  ge (v0) (s0) (mm_I h a2 (Int32.toNatClampNeg (v1))) (some v0) (0) h6 Z) ∧ (¬ (s0) = 0 → wq_Model_removes_37  ge (v0) (s0) (mm_I h a2 (Int32.toNatClampNeg (v1))) (some v0) (1) h6 Z)))
def wq_Model_removes_0  (ge : Nat → Nat) (v0 : Nat) (v1 : Int32) (v2 : Int32) (h : mm_M) (Z : mm_M → Prop) : Prop :=
  (((v2) = 0 → mm_k h (v0) = kd_Model ∧ wq_Model_whyNot ge (v0) (v1) h (fun (r3 : Int32) (h2 : mm_M) => wq_Model_removes_13  ge (v0) (v1) (r3) h2 Z)) ∧ (¬ (v2) = 0 → wq_Model_removes_13  ge (v0) (v1) (4) h Z))
set_option maxRecDepth 100000 in
set_option maxHeartbeats 4000000 in
theorem vb_Model_removes_37 {E : mm_E} {Z : mm_M → Prop} (hc : cx E "EpochServerModel" c_Model_removes 5 none rm_Model_removes) (hq : cq E rm_Model_removes (pV Z))  (v0 : Nat) (v3 : Int32) (v4 : Int32) (s0 : Option Nat) (s1 : Int32) (h : mm_M) (hw : wq_Model_removes_37  (mm_ge (eG E)) v0 v3 v4 s0 s1 h Z) : V E 5 0 0 h 37 [(0, va_rf (some v0)), (3, .int (v3)), (4, .int (v4))] [.int (s1), va_rf (s0)] := by
  unfold wq_Model_removes_37 at hw
  refine V_iload_n hc 1 d_Model_removes_37 rfl rfl ?_
  obtain ⟨a1, q2, hw⟩ := hw
  obtain ⟨q3, hw⟩ := hw
  refine V_callV (rm' := rm_Model_fails) (As := [.int (s1), .int (v3)]) (rest := []) (n := 2) (cn := 0) hc q2 q3 (sat_Model_fails (eG E) _ _ _ _ _ hw) rfl cv_Model_249 (gw_of (tw_5 (List.mem_of_getElem? (i := 209) rfl)) rfl) ss_Model_fails rfl ⟨by decide, by decide⟩ (by decide) (by decide) rfl (by simp [cat_rf, cat_i, cat_l]) d_Model_removes_38 (fun r0 h4 hw => ?_)
  obtain ⟨r5, rfl, hw⟩ := hw
  refine V_wide (cs' := 0) (sl' := 0) (by decide) (by decide) ?_
  refine V_st (st' := [.int (r5)]) rfl ?_
  refine V_if_eq (tgt := 45) hc d_Model_removes_41 (by decide) (fun hq1 => ?_) (fun hq1 => ?_)
  · replace hw := hw.1 hq1
    refine V_aload_n hc 0 d_Model_removes_45 rfl rfl ?_
    refine V_iload hc 2 d_Model_removes_46 rfl ?_
    obtain ⟨q6, hw⟩ := hw
    refine V_callV (rm' := rm_Model_leaves) (As := [.int (v4)]) (rest := []) (n := 1) (cn := 0) hc rfl q6 (sat_Model_leaves (eG E) _ _ _ _ hw) rfl cv_Model_273 (gw_of (tw_6 (List.mem_of_getElem? (i := 64) rfl)) rfl) ss_Model_leaves rfl ⟨by decide, by decide⟩ (by decide) (by decide) rfl (by simp [cat_rf, cat_i, cat_l]) d_Model_removes_48 (fun r0 h7 hw => ?_)
    obtain ⟨rfl, hw⟩ := hw
    refine V_wide (cs' := 0) (sl' := 0) (by decide) (by decide) ?_
    refine V_st (st' := []) rfl ?_
    exact V_vret hc hq ⟨rfl, hw⟩ (by decide) (by decide) d_Model_removes_51
  · replace hw := hw.2 hq1
    exact V_vret hc hq ⟨rfl, hw⟩ (by decide) (by decide) d_Model_removes_44
set_option maxRecDepth 100000 in
set_option maxHeartbeats 4000000 in
theorem vb_Model_removes_13 {E : mm_E} {Z : mm_M → Prop} (hc : cx E "EpochServerModel" c_Model_removes 5 none rm_Model_removes) (hq : cq E rm_Model_removes (pV Z))  (v0 : Nat) (v1 : Int32) (s0 : Int32) (h : mm_M) (hw : wq_Model_removes_13  (mm_ge (eG E)) v0 v1 s0 h Z) : V E 5 0 0 h 13 [(0, va_rf (some v0)), (1, .int (v1))] [.int (s0)] := by
  unfold wq_Model_removes_13 at hw
  refine V_istore_n (i := 3) (lv' := [(3, .int (s0)), (0, va_rf (some v0)), (1, .int (v1))]) hc d_Model_removes_13 rfl (by decide) rfl ?_
  refine V_aload_n hc 1 d_Model_removes_14 rfl rfl ?_
  obtain ⟨q1, hw⟩ := hw
  refine V_get (v := va_rf (mm_P h v0 23)) hc gf_Model_56 rfl q1 rfl d_Model_removes_15 ?_
  refine V_iload_n hc 2 d_Model_removes_18 rfl rfl ?_
  obtain ⟨a2, q3, hw⟩ := hw
  obtain ⟨q4, hw⟩ := hw
  obtain ⟨q5, hw⟩ := hw
  refine V_iald hc q3 q4 q5 d_Model_removes_19 ?_
  refine V_istore (i := 4) (lv' := [(4, .int (mm_I h a2 (Int32.toNatClampNeg (v1)))), (3, .int (s0)), (0, va_rf (some v0)), (1, .int (v1))]) hc d_Model_removes_20 (by decide) rfl ?_
  refine V_aload_n hc 2 d_Model_removes_22 rfl rfl ?_
  refine V_iload_n hc 3 d_Model_removes_23 rfl rfl ?_
  refine V_callV (rm' := rm_Model_gone) (As := [.int (v1)]) (rest := []) (n := 1) (cn := 0) hc rfl q1 (sat_Model_gone (eG E) _ _ _ _ hw) rfl cv_Model_270 (gw_of (tw_6 (List.mem_of_getElem? (i := 60) rfl)) rfl) ss_Model_gone rfl ⟨by decide, by decide⟩ (by decide) (by decide) rfl (by simp [cat_rf, cat_i, cat_l]) d_Model_removes_24 (fun r0 h6 hw => ?_)
  obtain ⟨rfl, hw⟩ := hw
  refine V_wide (cs' := 0) (sl' := 0) (by decide) (by decide) ?_
  refine V_st (st' := []) rfl ?_
  refine V_aload_n hc 2 d_Model_removes_27 rfl rfl ?_
  refine V_iload_n hc 1 d_Model_removes_28 rfl rfl ?_
  refine V_if_eq (tgt := 36) hc d_Model_removes_29 (by decide) (fun hq1 => ?_) (fun hq1 => ?_)
  · replace hw := hw.1 hq1
    refine V_iconst (v := 0) hc d_Model_removes_36 (by decide) ?_
    refine V_sub (lv' := [(0, va_rf (some v0)), (3, .int (s0)), (4, .int (mm_I h a2 (Int32.toNatClampNeg (v1))))]) [2, 1, 0] rfl ?_
    exact vb_Model_removes_37 hc hq  _ _ _ _ _ _ hw
  · replace hw := hw.2 hq1
    refine V_iconst (v := 1) hc d_Model_removes_32 (by decide) ?_
    refine V_goto (tgt := 37) hc d_Model_removes_33 (by decide) ?_
    refine V_sub (lv' := [(0, va_rf (some v0)), (3, .int (s0)), (4, .int (mm_I h a2 (Int32.toNatClampNeg (v1))))]) [2, 1, 0] rfl ?_
    exact vb_Model_removes_37 hc hq  _ _ _ _ _ _ hw
set_option maxRecDepth 100000 in
set_option maxHeartbeats 4000000 in
theorem vb_Model_removes_0 {E : mm_E} {Z : mm_M → Prop} (hc : cx E "EpochServerModel" c_Model_removes 5 none rm_Model_removes) (hq : cq E rm_Model_removes (pV Z))  (v0 : Nat) (v1 : Int32) (v2 : Int32) (h : mm_M) (hw : wq_Model_removes_0  (mm_ge (eG E)) v0 v1 v2 h Z) : V E 5 0 0 h 0 [(0, va_rf (some v0)), (1, .int (v1)), (2, .int (v2))] [] := by
  unfold wq_Model_removes_0 at hw
  refine V_iload_n hc 2 d_Model_removes_0 rfl rfl ?_
  refine V_if_eq (tgt := 8) hc d_Model_removes_1 (by decide) (fun hq1 => ?_) (fun hq1 => ?_)
  · replace hw := hw.1 hq1
    refine V_aload_n hc 0 d_Model_removes_8 rfl rfl ?_
    refine V_iload_n hc 1 d_Model_removes_9 rfl rfl ?_
    obtain ⟨q1, hw⟩ := hw
    refine V_callV (rm' := rm_Model_whyNot) (As := [.int (v1)]) (rest := []) (n := 1) (cn := 0) hc rfl q1 (sat_Model_whyNot (eG E) _ _ _ _ hw) rfl cv_Model_267 (gw_of (tw_6 (List.mem_of_getElem? (i := 52) rfl)) rfl) ss_Model_whyNot rfl ⟨by decide, by decide⟩ (by decide) (by decide) rfl (by simp [cat_rf, cat_i, cat_l]) d_Model_removes_10 (fun r0 h2 hw => ?_)
    obtain ⟨r3, rfl, hw⟩ := hw
    refine V_wide (cs' := 0) (sl' := 0) (by decide) (by decide) ?_
    refine V_st (st' := [.int (r3)]) rfl ?_
    refine V_sub (lv' := [(0, va_rf (some v0)), (1, .int (v1))]) [0, 1] rfl ?_
    exact vb_Model_removes_13 hc hq  _ _ _ _ hw
  · replace hw := hw.2 hq1
    refine V_iconst (v := 4) hc d_Model_removes_4 (by decide) ?_
    refine V_goto (tgt := 13) hc d_Model_removes_5 (by decide) ?_
    refine V_sub (lv' := [(0, va_rf (some v0)), (1, .int (v1))]) [0, 1] rfl ?_
    exact vb_Model_removes_13 hc hq  _ _ _ _ hw
def wq_Model_removes (ge : Nat → Nat) (v0 : Nat) (v1 : Int32) (v2 : Int32) (h : mm_M) (Z : mm_M → Prop) : Prop := wq_Model_removes_0 ge v0 v1 v2 h Z
theorem sat_Model_removes (G : mm_G) (v0 : Nat) (v1 : Int32) (v2 : Int32) (h : mm_M) (Z : mm_M → Prop) (hw : wq_Model_removes (mm_ge G) v0 v1 v2 h Z) : mm_Met G y_Model_removes c_Model_removes 5 none rm_Model_removes [va_rf (some v0), .int (v1), .int (v2)] h (pV Z) := by
  refine mm_intro (own := "EpochServerModel") (by decide) rfl (by simp [lg_sl, cat_rf, cat_i, cat_l]) (fun E e1 hc hq hi => ?_)
  subst e1
  have e2 : lv_args 0 [va_rf (some v0), .int (v1), .int (v2)] = [(0, va_rf (some v0)), (1, .int (v1)), (2, .int (v2))] := by simp [lv_args, cat_rf, cat_i, cat_l]
  rw [e2]
  refine V_sub (lv' := [(0, va_rf (some v0)), (1, .int (v1)), (2, .int (v2))]) [0, 1, 2] rfl ?_
  exact vb_Model_removes_0 hc hq v0 v1 v2 h hw
/-! Model.isText(III)Z -/
abbrev rm_Model_isText : Room := { frames := 0, cells := 0, slots := 0, locals := 0 }
def wq_Model_isText_68  (ge : Nat → Nat) (v4 : Int32) (h : mm_M) (Z : Int32 → mm_M → Prop) : Prop :=
  ((v4) = 0 ∨ (v4) = 1) ∧ Z (v4) h
def wq_Model_isText_60 (X20 : Nat → Int32 → Int32 → Int32 → Int32 → Int32 → mm_M → Prop) (ge : Nat → Nat) (v0 : Nat) (v1 : Int32) (v2 : Int32) (v3 : Int32) (v5 : Int32) (s0 : Int32) (h : mm_M) (Z : Int32 → mm_M → Prop) : Prop :=
  X20 (v0) (v1) (v2) (v3) (s0) (v5 + 1) h
def wq_Model_isText_20 (X20 : Nat → Int32 → Int32 → Int32 → Int32 → Int32 → mm_M → Prop) (ge : Nat → Nat) (v0 : Nat) (v1 : Int32) (v2 : Int32) (v3 : Int32) (v4 : Int32) (v5 : Int32) (h : mm_M) (Z : Int32 → mm_M → Prop) : Prop :=
  (((v3 : Int32) ≤ (v5 : Int32) → wq_Model_isText_68  ge (v4) h Z) ∧ (¬ (v3 : Int32) ≤ (v5 : Int32) → (((v4) = 0 → wq_Model_isText_68  ge (v4) h Z) ∧ (¬ (v4) = 0 → mm_k h (v0) = kd_Model ∧ ∃ a2, mm_P h v0 7 = some a2 ∧ mm_k h (a2) = ka_I ∧ vp_in (((20 : Int32) * (v1)) + (v5)) (mm_n h a2) ∧ ∃ a6, mm_P h v0 14 = some a6 ∧ mm_k h (a6) = ka_I ∧ vp_in ((v2) + (v5)) (mm_n h a6) ∧ ((¬ (mm_I h a2 (Int32.toNatClampNeg (((20 : Int32) * (v1)) + (v5))) : Int32) = (mm_I h a6 (Int32.toNatClampNeg ((v2) + (v5))) : Int32) → wq_Model_isText_60 X20 ge (v0) (v1) (v2) (v3) (v5) (0) h Z) ∧ ((mm_I h a2 (Int32.toNatClampNeg (((20 : Int32) * (v1)) + (v5))) : Int32) = (mm_I h a6 (Int32.toNatClampNeg ((v2) + (v5))) : Int32) → wq_Model_isText_60 X20 ge (v0) (v1) (v2) (v3) (v5) (1) h Z))))))
def lp_Model_isText_20  (ge : Nat → Nat) (v0 : Nat) (v1 : Int32) (v2 : Int32) (v3 : Int32) (v4 : Int32) (v5 : Int32) (h : mm_M) (Z : Int32 → mm_M → Prop) : Prop :=
  ∀ X20 : Nat → Int32 → Int32 → Int32 → Int32 → Int32 → mm_M → Prop, (∀ (v0 : Nat) (v1 : Int32) (v2 : Int32) (v3 : Int32) (v4 : Int32) (v5 : Int32) (h : mm_M), wq_Model_isText_20 X20 ge v0 v1 v2 v3 v4 v5 h Z → X20 v0 v1 v2 v3 v4 v5 h) → X20 v0 v1 v2 v3 v4 v5 h
def wq_Model_isText_15  (ge : Nat → Nat) (v0 : Nat) (v1 : Int32) (v2 : Int32) (v3 : Int32) (s0 : Int32) (h : mm_M) (Z : Int32 → mm_M → Prop) : Prop :=
  lp_Model_isText_20  ge (v0) (v1) (v2) (v3) (s0) (0) h Z
def wq_Model_isText_0  (ge : Nat → Nat) (v0 : Nat) (v1 : Int32) (v2 : Int32) (v3 : Int32) (h : mm_M) (Z : Int32 → mm_M → Prop) : Prop :=
  mm_k h (v0) = kd_Model ∧ ∃ a2, mm_P h v0 6 = some a2 ∧ mm_k h (a2) = ka_I ∧ vp_in (v1) (mm_n h a2) ∧ ((¬ (mm_I h a2 (Int32.toNatClampNeg (v1)) : Int32) = (v3 : Int32) → wq_Model_isText_15  ge (v0) (v1) (v2) (v3) (0) h Z) ∧ ((mm_I h a2 (Int32.toNatClampNeg (v1)) : Int32) = (v3 : Int32) → wq_Model_isText_15  ge (v0) (v1) (v2) (v3) (1) h Z))
set_option maxRecDepth 100000 in
set_option maxHeartbeats 4000000 in
theorem vb_Model_isText_68 {E : mm_E} {Z : Int32 → mm_M → Prop} (hc : cx E "EpochServerModel" c_Model_isText 6 (some (.boolean)) rm_Model_isText) (hq : cq E rm_Model_isText (pI Z))  (v4 : Int32) (h : mm_M) (hw : wq_Model_isText_68  (mm_ge (eG E)) v4 h Z) : V E 6 0 0 h 68 [(4, .int (v4))] [] := by
  unfold wq_Model_isText_68 at hw
  refine V_iload hc 0 d_Model_isText_68 rfl ?_
  obtain ⟨q1, hw⟩ := hw
  exact V_zret hc hq (zz_nar q1) ⟨_, rfl, hw⟩ (by decide) (by decide) d_Model_isText_70
set_option maxRecDepth 100000 in
set_option maxHeartbeats 4000000 in
theorem vb_Model_isText_60 {E : mm_E} {Z : Int32 → mm_M → Prop} (hc : cx E "EpochServerModel" c_Model_isText 6 (some (.boolean)) rm_Model_isText) (hq : cq E rm_Model_isText (pI Z)) (X20 : Nat → Int32 → Int32 → Int32 → Int32 → Int32 → mm_M → Prop) (hX20 : ∀ (v0 : Nat) (v1 : Int32) (v2 : Int32) (v3 : Int32) (v4 : Int32) (v5 : Int32) (h : mm_M), X20 v0 v1 v2 v3 v4 v5 h → V E 6 0 0 h 20 [(0, va_rf (some v0)), (1, .int (v1)), (2, .int (v2)), (3, .int (v3)), (4, .int (v4)), (5, .int (v5))] []) (v0 : Nat) (v1 : Int32) (v2 : Int32) (v3 : Int32) (v5 : Int32) (s0 : Int32) (h : mm_M) (hw : wq_Model_isText_60 X20 (mm_ge (eG E)) v0 v1 v2 v3 v5 s0 h Z) : V E 6 0 0 h 60 [(0, va_rf (some v0)), (1, .int (v1)), (2, .int (v2)), (3, .int (v3)), (5, .int (v5))] [.int (s0)] := by
  unfold wq_Model_isText_60 at hw
  refine V_istore (i := 4) (lv' := [(4, .int (s0)), (0, va_rf (some v0)), (1, .int (v1)), (2, .int (v2)), (3, .int (v3)), (5, .int (v5))]) hc d_Model_isText_60 (by decide) rfl ?_
  refine V_iinc (v := v5 + 1) (lv' := [(5, .int (v5 + 1)), (4, .int (s0)), (0, va_rf (some v0)), (1, .int (v1)), (2, .int (v2)), (3, .int (v3))]) hc 5 d_Model_isText_62 rfl rfl (by decide) rfl ?_
  refine V_goto (tgt := 20) hc d_Model_isText_65 (by decide) ?_
  refine V_sub (lv' := [(0, va_rf (some v0)), (1, .int (v1)), (2, .int (v2)), (3, .int (v3)), (4, .int (s0)), (5, .int (v5 + 1))]) [2, 3, 4, 5, 1, 0] rfl ?_
  exact hX20 _ _ _ _ _ _ _ hw
set_option maxRecDepth 100000 in
set_option maxHeartbeats 4000000 in
theorem vb_Model_isText_20 {E : mm_E} {Z : Int32 → mm_M → Prop} (hc : cx E "EpochServerModel" c_Model_isText 6 (some (.boolean)) rm_Model_isText) (hq : cq E rm_Model_isText (pI Z)) (X20 : Nat → Int32 → Int32 → Int32 → Int32 → Int32 → mm_M → Prop) (hX20 : ∀ (v0 : Nat) (v1 : Int32) (v2 : Int32) (v3 : Int32) (v4 : Int32) (v5 : Int32) (h : mm_M), X20 v0 v1 v2 v3 v4 v5 h → V E 6 0 0 h 20 [(0, va_rf (some v0)), (1, .int (v1)), (2, .int (v2)), (3, .int (v3)), (4, .int (v4)), (5, .int (v5))] []) (v0 : Nat) (v1 : Int32) (v2 : Int32) (v3 : Int32) (v4 : Int32) (v5 : Int32) (h : mm_M) (hw : wq_Model_isText_20 X20 (mm_ge (eG E)) v0 v1 v2 v3 v4 v5 h Z) : V E 6 0 0 h 20 [(0, va_rf (some v0)), (1, .int (v1)), (2, .int (v2)), (3, .int (v3)), (4, .int (v4)), (5, .int (v5))] [] := by
  unfold wq_Model_isText_20 at hw
  refine V_iload hc 5 d_Model_isText_20 rfl ?_
  refine V_iload_n hc 3 d_Model_isText_22 rfl rfl ?_
  refine V_icmp_ge (tgt := 68) hc d_Model_isText_23 (by decide) (fun hq1 => ?_) (fun hq1 => ?_)
  · replace hw := hw.1 hq1
    refine V_sub (lv' := [(4, .int (v4))]) [4] rfl ?_
    exact vb_Model_isText_68 hc hq  _ _ hw
  · replace hw := hw.2 hq1
    refine V_iload hc 4 d_Model_isText_26 rfl ?_
    refine V_if_eq (tgt := 68) hc d_Model_isText_28 (by decide) (fun hq1 => ?_) (fun hq1 => ?_)
    · replace hw := hw.1 hq1
      refine V_sub (lv' := [(4, .int (v4))]) [4] rfl ?_
      exact vb_Model_isText_68 hc hq  _ _ hw
    · replace hw := hw.2 hq1
      refine V_aload_n hc 0 d_Model_isText_31 rfl rfl ?_
      obtain ⟨q1, hw⟩ := hw
      refine V_get (v := va_rf (mm_P h v0 7)) hc gf_Model_33 rfl q1 rfl d_Model_isText_32 ?_
      refine V_bipush (v := 20) hc d_Model_isText_35 (by decide) ?_
      refine V_iload_n hc 1 d_Model_isText_37 rfl rfl ?_
      refine V_imul hc d_Model_isText_38 ?_
      refine V_iload hc 5 d_Model_isText_39 rfl ?_
      refine V_iadd hc d_Model_isText_41 ?_
      obtain ⟨a2, q3, hw⟩ := hw
      obtain ⟨q4, hw⟩ := hw
      obtain ⟨q5, hw⟩ := hw
      refine V_iald hc q3 q4 q5 d_Model_isText_42 ?_
      refine V_aload_n hc 0 d_Model_isText_43 rfl rfl ?_
      refine V_get (v := va_rf (mm_P h v0 14)) hc gf_Model_44 rfl q1 rfl d_Model_isText_44 ?_
      refine V_iload_n hc 2 d_Model_isText_47 rfl rfl ?_
      refine V_iload hc 5 d_Model_isText_48 rfl ?_
      refine V_iadd hc d_Model_isText_50 ?_
      obtain ⟨a6, q7, hw⟩ := hw
      obtain ⟨q8, hw⟩ := hw
      obtain ⟨q9, hw⟩ := hw
      refine V_iald hc q7 q8 q9 d_Model_isText_51 ?_
      refine V_icmp_ne (tgt := 59) hc d_Model_isText_52 (by decide) (fun hq1 => ?_) (fun hq1 => ?_)
      · replace hw := hw.1 hq1
        refine V_iconst (v := 0) hc d_Model_isText_59 (by decide) ?_
        refine V_sub (lv' := [(0, va_rf (some v0)), (1, .int (v1)), (2, .int (v2)), (3, .int (v3)), (5, .int (v5))]) [0, 1, 2, 3, 5] rfl ?_
        exact vb_Model_isText_60 hc hq X20 hX20 _ _ _ _ _ _ _ hw
      · replace hw := hw.2 hq1
        refine V_iconst (v := 1) hc d_Model_isText_55 (by decide) ?_
        refine V_goto (tgt := 60) hc d_Model_isText_56 (by decide) ?_
        refine V_sub (lv' := [(0, va_rf (some v0)), (1, .int (v1)), (2, .int (v2)), (3, .int (v3)), (5, .int (v5))]) [0, 1, 2, 3, 5] rfl ?_
        exact vb_Model_isText_60 hc hq X20 hX20 _ _ _ _ _ _ _ hw
theorem vl_Model_isText_20 {E : mm_E} {Z : Int32 → mm_M → Prop} (hc : cx E "EpochServerModel" c_Model_isText 6 (some (.boolean)) rm_Model_isText) (hq : cq E rm_Model_isText (pI Z))  (v0 : Nat) (v1 : Int32) (v2 : Int32) (v3 : Int32) (v4 : Int32) (v5 : Int32) (h : mm_M) (hw : lp_Model_isText_20  (mm_ge (eG E)) v0 v1 v2 v3 v4 v5 h Z) : V E 6 0 0 h 20 [(0, va_rf (some v0)), (1, .int (v1)), (2, .int (v2)), (3, .int (v3)), (4, .int (v4)), (5, .int (v5))] [] :=
  hw (fun v0 v1 v2 v3 v4 v5 h => V E 6 0 0 h 20 [(0, va_rf (some v0)), (1, .int (v1)), (2, .int (v2)), (3, .int (v3)), (4, .int (v4)), (5, .int (v5))] []) (fun v0 v1 v2 v3 v4 v5 h hb => vb_Model_isText_20 hc hq  _ (fun _ _ _ _ _ _ _ q => q) v0 v1 v2 v3 v4 v5 h hb)
set_option maxRecDepth 100000 in
set_option maxHeartbeats 4000000 in
theorem vb_Model_isText_15 {E : mm_E} {Z : Int32 → mm_M → Prop} (hc : cx E "EpochServerModel" c_Model_isText 6 (some (.boolean)) rm_Model_isText) (hq : cq E rm_Model_isText (pI Z))  (v0 : Nat) (v1 : Int32) (v2 : Int32) (v3 : Int32) (s0 : Int32) (h : mm_M) (hw : wq_Model_isText_15  (mm_ge (eG E)) v0 v1 v2 v3 s0 h Z) : V E 6 0 0 h 15 [(0, va_rf (some v0)), (1, .int (v1)), (2, .int (v2)), (3, .int (v3))] [.int (s0)] := by
  unfold wq_Model_isText_15 at hw
  refine V_istore (i := 4) (lv' := [(4, .int (s0)), (0, va_rf (some v0)), (1, .int (v1)), (2, .int (v2)), (3, .int (v3))]) hc d_Model_isText_15 (by decide) rfl ?_
  refine V_iconst (v := 0) hc d_Model_isText_17 (by decide) ?_
  refine V_istore (i := 5) (lv' := [(5, .int (0)), (4, .int (s0)), (0, va_rf (some v0)), (1, .int (v1)), (2, .int (v2)), (3, .int (v3))]) hc d_Model_isText_18 (by decide) rfl ?_
  refine V_sub (lv' := [(0, va_rf (some v0)), (1, .int (v1)), (2, .int (v2)), (3, .int (v3)), (4, .int (s0)), (5, .int (0))]) [2, 3, 4, 5, 1, 0] rfl ?_
  exact vl_Model_isText_20 hc hq  _ _ _ _ _ _ _ hw
set_option maxRecDepth 100000 in
set_option maxHeartbeats 4000000 in
theorem vb_Model_isText_0 {E : mm_E} {Z : Int32 → mm_M → Prop} (hc : cx E "EpochServerModel" c_Model_isText 6 (some (.boolean)) rm_Model_isText) (hq : cq E rm_Model_isText (pI Z))  (v0 : Nat) (v1 : Int32) (v2 : Int32) (v3 : Int32) (h : mm_M) (hw : wq_Model_isText_0  (mm_ge (eG E)) v0 v1 v2 v3 h Z) : V E 6 0 0 h 0 [(0, va_rf (some v0)), (1, .int (v1)), (2, .int (v2)), (3, .int (v3))] [] := by
  unfold wq_Model_isText_0 at hw
  refine V_aload_n hc 0 d_Model_isText_0 rfl rfl ?_
  obtain ⟨q1, hw⟩ := hw
  refine V_get (v := va_rf (mm_P h v0 6)) hc gf_Model_29 rfl q1 rfl d_Model_isText_1 ?_
  refine V_iload_n hc 1 d_Model_isText_4 rfl rfl ?_
  obtain ⟨a2, q3, hw⟩ := hw
  obtain ⟨q4, hw⟩ := hw
  obtain ⟨q5, hw⟩ := hw
  refine V_iald hc q3 q4 q5 d_Model_isText_5 ?_
  refine V_iload_n hc 3 d_Model_isText_6 rfl rfl ?_
  refine V_icmp_ne (tgt := 14) hc d_Model_isText_7 (by decide) (fun hq1 => ?_) (fun hq1 => ?_)
  · replace hw := hw.1 hq1
    refine V_iconst (v := 0) hc d_Model_isText_14 (by decide) ?_
    refine V_sub (lv' := [(0, va_rf (some v0)), (1, .int (v1)), (2, .int (v2)), (3, .int (v3))]) [0, 1, 2, 3] rfl ?_
    exact vb_Model_isText_15 hc hq  _ _ _ _ _ _ hw
  · replace hw := hw.2 hq1
    refine V_iconst (v := 1) hc d_Model_isText_10 (by decide) ?_
    refine V_goto (tgt := 15) hc d_Model_isText_11 (by decide) ?_
    refine V_sub (lv' := [(0, va_rf (some v0)), (1, .int (v1)), (2, .int (v2)), (3, .int (v3))]) [0, 1, 2, 3] rfl ?_
    exact vb_Model_isText_15 hc hq  _ _ _ _ _ _ hw
def wq_Model_isText (ge : Nat → Nat) (v0 : Nat) (v1 : Int32) (v2 : Int32) (v3 : Int32) (h : mm_M) (Z : Int32 → mm_M → Prop) : Prop := wq_Model_isText_0 ge v0 v1 v2 v3 h Z
theorem sat_Model_isText (G : mm_G) (v0 : Nat) (v1 : Int32) (v2 : Int32) (v3 : Int32) (h : mm_M) (Z : Int32 → mm_M → Prop) (hw : wq_Model_isText (mm_ge G) v0 v1 v2 v3 h Z) : mm_Met G y_Model_isText c_Model_isText 6 (some (.boolean)) rm_Model_isText [va_rf (some v0), .int (v1), .int (v2), .int (v3)] h (pI Z) := by
  refine mm_intro (own := "EpochServerModel") (by decide) rfl (by simp [lg_sl, cat_rf, cat_i, cat_l]) (fun E e1 hc hq hi => ?_)
  subst e1
  have e2 : lv_args 0 [va_rf (some v0), .int (v1), .int (v2), .int (v3)] = [(0, va_rf (some v0)), (1, .int (v1)), (2, .int (v2)), (3, .int (v3))] := by simp [lv_args, cat_rf, cat_i, cat_l]
  rw [e2]
  refine V_sub (lv' := [(0, va_rf (some v0)), (1, .int (v1)), (2, .int (v2)), (3, .int (v3))]) [0, 1, 2, 3] rfl ?_
  exact vb_Model_isText_0 hc hq v0 v1 v2 v3 h hw
/-! Model.child(IIII)I -/
abbrev rm_Model_child : Room := { frames := 1, cells := 0, slots := 0, locals := 25 }
def wq_Model_child_58 (X3 : Nat → Int32 → Int32 → Int32 → Int32 → Int32 → mm_M → Prop) (ge : Nat → Nat) (v0 : Nat) (v1 : Int32) (v2 : Int32) (v3 : Int32) (v4 : Int32) (v5 : Int32) (h : mm_M) (Z : Int32 → mm_M → Prop) : Prop :=
  X3 (v0) (v1) (v2) (v3) (v4) (v5 + 1) h
def wq_Model_child_3 (X3 : Nat → Int32 → Int32 → Int32 → Int32 → Int32 → mm_M → Prop) (ge : Nat → Nat) (v0 : Nat) (v1 : Int32) (v2 : Int32) (v3 : Int32) (v4 : Int32) (v5 : Int32) (h : mm_M) (Z : Int32 → mm_M → Prop) : Prop :=
  (((60 : Int32) ≤ (v5 : Int32) → Z ((-1)) h) ∧ (¬ (60 : Int32) ≤ (v5 : Int32) → mm_k h (v0) = kd_Model ∧ wq_Model_spot ge (v1) (v5) h (fun (r3 : Int32) (h2 : mm_M) => ∃ a4, mm_P h v0 0 = some a4 ∧ mm_k h2 (a4) = ka_Z ∧ vp_in (r3) (mm_n h2 a4) ∧ (((mm_I h2 a4 (Int32.toNatClampNeg (r3))) = 0 → wq_Model_child_58 X3 ge (v0) (v1) (v2) (v3) (v4) (v5) h2 Z) ∧ (¬ (mm_I h2 a4 (Int32.toNatClampNeg (r3))) = 0 → mm_k h2 (v0) = kd_Model ∧ wq_Model_spot ge (v1) (v5) h2 (fun (r10 : Int32) (h9 : mm_M) => ∃ a11, mm_P h2 v0 1 = some a11 ∧ mm_k h9 (a11) = ka_I ∧ vp_in (r10) (mm_n h9 a11) ∧ ((¬ (mm_I h9 a11 (Int32.toNatClampNeg (r10)) : Int32) = (v2 : Int32) → wq_Model_child_58 X3 ge (v0) (v1) (v2) (v3) (v4) (v5) h9 Z) ∧ ((mm_I h9 a11 (Int32.toNatClampNeg (r10)) : Int32) = (v2 : Int32) → wq_Model_spot ge (v1) (v5) h9 (fun (r16 : Int32) (h15 : mm_M) => mm_k h15 (v0) = kd_Model ∧ wq_Model_isText ge (v0) (r16) (v3) (v4) h15 (fun (r19 : Int32) (h18 : mm_M) => (((r19) = 0 → wq_Model_child_58 X3 ge (v0) (v1) (v2) (v3) (v4) (v5) h18 Z) ∧ (¬ (r19) = 0 → Z (v5) h18))))))))))))
def lp_Model_child_3  (ge : Nat → Nat) (v0 : Nat) (v1 : Int32) (v2 : Int32) (v3 : Int32) (v4 : Int32) (v5 : Int32) (h : mm_M) (Z : Int32 → mm_M → Prop) : Prop :=
  ∀ X3 : Nat → Int32 → Int32 → Int32 → Int32 → Int32 → mm_M → Prop, (∀ (v0 : Nat) (v1 : Int32) (v2 : Int32) (v3 : Int32) (v4 : Int32) (v5 : Int32) (h : mm_M), wq_Model_child_3 X3 ge v0 v1 v2 v3 v4 v5 h Z → X3 v0 v1 v2 v3 v4 v5 h) → X3 v0 v1 v2 v3 v4 v5 h
def wq_Model_child_0  (ge : Nat → Nat) (v0 : Nat) (v1 : Int32) (v2 : Int32) (v3 : Int32) (v4 : Int32) (h : mm_M) (Z : Int32 → mm_M → Prop) : Prop :=
  lp_Model_child_3  ge (v0) (v1) (v2) (v3) (v4) (1) h Z
set_option maxRecDepth 100000 in
set_option maxHeartbeats 4000000 in
theorem vb_Model_child_58 {E : mm_E} {Z : Int32 → mm_M → Prop} (hc : cx E "EpochServerModel" c_Model_child 6 (some (.int)) rm_Model_child) (hq : cq E rm_Model_child (pI Z)) (X3 : Nat → Int32 → Int32 → Int32 → Int32 → Int32 → mm_M → Prop) (hX3 : ∀ (v0 : Nat) (v1 : Int32) (v2 : Int32) (v3 : Int32) (v4 : Int32) (v5 : Int32) (h : mm_M), X3 v0 v1 v2 v3 v4 v5 h → V E 6 0 0 h 3 [(0, va_rf (some v0)), (1, .int (v1)), (2, .int (v2)), (3, .int (v3)), (4, .int (v4)), (5, .int (v5))] []) (v0 : Nat) (v1 : Int32) (v2 : Int32) (v3 : Int32) (v4 : Int32) (v5 : Int32) (h : mm_M) (hw : wq_Model_child_58 X3 (mm_ge (eG E)) v0 v1 v2 v3 v4 v5 h Z) : V E 6 0 0 h 58 [(0, va_rf (some v0)), (1, .int (v1)), (2, .int (v2)), (3, .int (v3)), (4, .int (v4)), (5, .int (v5))] [] := by
  unfold wq_Model_child_58 at hw
  refine V_iinc (v := v5 + 1) (lv' := [(5, .int (v5 + 1)), (0, va_rf (some v0)), (1, .int (v1)), (2, .int (v2)), (3, .int (v3)), (4, .int (v4))]) hc 5 d_Model_child_58 rfl rfl (by decide) rfl ?_
  refine V_goto (tgt := 3) hc d_Model_child_61 (by decide) ?_
  refine V_sub (lv' := [(0, va_rf (some v0)), (1, .int (v1)), (2, .int (v2)), (3, .int (v3)), (4, .int (v4)), (5, .int (v5 + 1))]) [1, 2, 3, 4, 5, 0] rfl ?_
  exact hX3 _ _ _ _ _ _ _ hw
set_option maxRecDepth 100000 in
set_option maxHeartbeats 4000000 in
theorem vb_Model_child_3 {E : mm_E} {Z : Int32 → mm_M → Prop} (hc : cx E "EpochServerModel" c_Model_child 6 (some (.int)) rm_Model_child) (hq : cq E rm_Model_child (pI Z)) (X3 : Nat → Int32 → Int32 → Int32 → Int32 → Int32 → mm_M → Prop) (hX3 : ∀ (v0 : Nat) (v1 : Int32) (v2 : Int32) (v3 : Int32) (v4 : Int32) (v5 : Int32) (h : mm_M), X3 v0 v1 v2 v3 v4 v5 h → V E 6 0 0 h 3 [(0, va_rf (some v0)), (1, .int (v1)), (2, .int (v2)), (3, .int (v3)), (4, .int (v4)), (5, .int (v5))] []) (v0 : Nat) (v1 : Int32) (v2 : Int32) (v3 : Int32) (v4 : Int32) (v5 : Int32) (h : mm_M) (hw : wq_Model_child_3 X3 (mm_ge (eG E)) v0 v1 v2 v3 v4 v5 h Z) : V E 6 0 0 h 3 [(0, va_rf (some v0)), (1, .int (v1)), (2, .int (v2)), (3, .int (v3)), (4, .int (v4)), (5, .int (v5))] [] := by
  unfold wq_Model_child_3 at hw
  refine V_iload hc 5 d_Model_child_3 rfl ?_
  refine V_bipush (v := 60) hc d_Model_child_5 (by decide) ?_
  refine V_icmp_ge (tgt := 64) hc d_Model_child_7 (by decide) (fun hq1 => ?_) (fun hq1 => ?_)
  · replace hw := hw.1 hq1
    refine V_iconst (v := (-1)) hc d_Model_child_64 (by decide) ?_
    exact V_iret hc hq ⟨_, rfl, hw⟩ (by decide) (by decide) d_Model_child_65
  · replace hw := hw.2 hq1
    refine V_aload_n hc 0 d_Model_child_10 rfl rfl ?_
    obtain ⟨q1, hw⟩ := hw
    refine V_get (v := va_rf (mm_P h v0 0)) hc gf_Model_9 rfl q1 rfl d_Model_child_11 ?_
    refine V_iload_n hc 1 d_Model_child_14 rfl rfl ?_
    refine V_iload hc 5 d_Model_child_15 rfl ?_
    refine V_callS (rm' := rm_Model_spot) (As := [.int (v1), .int (v5)]) (rest := [va_rf (mm_P h v0 0)]) (n := 2) hc (sat_Model_spot (eG E) _ _ _ _ hw) cv_Model_96 (gw_of (tw_5 (List.mem_of_getElem? (i := 196) rfl)) rfl) rfl ⟨by decide, by decide⟩ (by decide) (by decide) rfl (by simp [cat_rf, cat_i, cat_l]) d_Model_child_17 (fun r0 h2 hw => ?_)
    obtain ⟨r3, rfl, hw⟩ := hw
    refine V_wide (cs' := 0) (sl' := 0) (by decide) (by decide) ?_
    refine V_st (st' := [.int (r3), va_rf (mm_P h v0 0)]) rfl ?_
    obtain ⟨a4, q5, hw⟩ := hw
    obtain ⟨q6, hw⟩ := hw
    obtain ⟨q7, hw⟩ := hw
    refine V_zald hc q5 q6 q7 d_Model_child_20 ?_
    refine V_if_eq (tgt := 58) hc d_Model_child_21 (by decide) (fun hq1 => ?_) (fun hq1 => ?_)
    · replace hw := hw.1 hq1
      refine V_sub (lv' := [(0, va_rf (some v0)), (1, .int (v1)), (2, .int (v2)), (3, .int (v3)), (4, .int (v4)), (5, .int (v5))]) [0, 1, 2, 3, 4, 5] rfl ?_
      exact vb_Model_child_58 hc hq X3 hX3 _ _ _ _ _ _ _ hw
    · replace hw := hw.2 hq1
      refine V_aload_n hc 0 d_Model_child_24 rfl rfl ?_
      obtain ⟨q8, hw⟩ := hw
      refine V_get (v := va_rf (mm_P h2 v0 1)) hc gf_Model_13 rfl q8 rfl d_Model_child_25 ?_
      refine V_iload_n hc 1 d_Model_child_28 rfl rfl ?_
      refine V_iload hc 5 d_Model_child_29 rfl ?_
      refine V_callS (rm' := rm_Model_spot) (As := [.int (v1), .int (v5)]) (rest := [va_rf (mm_P h2 v0 1)]) (n := 2) hc (sat_Model_spot (eG E) _ _ _ _ hw) cv_Model_96 (gw_of (tw_5 (List.mem_of_getElem? (i := 196) rfl)) rfl) rfl ⟨by decide, by decide⟩ (by decide) (by decide) rfl (by simp [cat_rf, cat_i, cat_l]) d_Model_child_31 (fun r0 h9 hw => ?_)
      obtain ⟨r10, rfl, hw⟩ := hw
      refine V_wide (cs' := 0) (sl' := 0) (by decide) (by decide) ?_
      refine V_st (st' := [.int (r10), va_rf (mm_P h2 v0 1)]) rfl ?_
      obtain ⟨a11, q12, hw⟩ := hw
      obtain ⟨q13, hw⟩ := hw
      obtain ⟨q14, hw⟩ := hw
      refine V_iald hc q12 q13 q14 d_Model_child_34 ?_
      refine V_iload_n hc 2 d_Model_child_35 rfl rfl ?_
      refine V_icmp_ne (tgt := 58) hc d_Model_child_36 (by decide) (fun hq1 => ?_) (fun hq1 => ?_)
      · replace hw := hw.1 hq1
        refine V_sub (lv' := [(0, va_rf (some v0)), (1, .int (v1)), (2, .int (v2)), (3, .int (v3)), (4, .int (v4)), (5, .int (v5))]) [0, 1, 2, 3, 4, 5] rfl ?_
        exact vb_Model_child_58 hc hq X3 hX3 _ _ _ _ _ _ _ hw
      · replace hw := hw.2 hq1
        refine V_aload_n hc 0 d_Model_child_39 rfl rfl ?_
        refine V_iload_n hc 1 d_Model_child_40 rfl rfl ?_
        refine V_iload hc 5 d_Model_child_41 rfl ?_
        refine V_callS (rm' := rm_Model_spot) (As := [.int (v1), .int (v5)]) (rest := [va_rf (some v0)]) (n := 2) hc (sat_Model_spot (eG E) _ _ _ _ hw) cv_Model_96 (gw_of (tw_5 (List.mem_of_getElem? (i := 196) rfl)) rfl) rfl ⟨by decide, by decide⟩ (by decide) (by decide) rfl (by simp [cat_rf, cat_i, cat_l]) d_Model_child_43 (fun r0 h15 hw => ?_)
        obtain ⟨r16, rfl, hw⟩ := hw
        refine V_wide (cs' := 0) (sl' := 0) (by decide) (by decide) ?_
        refine V_st (st' := [.int (r16), va_rf (some v0)]) rfl ?_
        refine V_iload_n hc 3 d_Model_child_46 rfl rfl ?_
        refine V_iload hc 4 d_Model_child_47 rfl ?_
        obtain ⟨q17, hw⟩ := hw
        refine V_callV (rm' := rm_Model_isText) (As := [.int (r16), .int (v3), .int (v4)]) (rest := []) (n := 3) (cn := 0) hc rfl q17 (sat_Model_isText (eG E) _ _ _ _ _ _ hw) rfl cv_Model_322 (gw_of (tw_6 (List.mem_of_getElem? (i := 80) rfl)) rfl) ss_Model_isText rfl ⟨by decide, by decide⟩ (by decide) (by decide) rfl (by simp [cat_rf, cat_i, cat_l]) d_Model_child_49 (fun r0 h18 hw => ?_)
        obtain ⟨r19, rfl, hw⟩ := hw
        refine V_wide (cs' := 0) (sl' := 0) (by decide) (by decide) ?_
        refine V_st (st' := [.int (r19)]) rfl ?_
        refine V_if_eq (tgt := 58) hc d_Model_child_52 (by decide) (fun hq1 => ?_) (fun hq1 => ?_)
        · replace hw := hw.1 hq1
          refine V_sub (lv' := [(0, va_rf (some v0)), (1, .int (v1)), (2, .int (v2)), (3, .int (v3)), (4, .int (v4)), (5, .int (v5))]) [0, 1, 2, 3, 4, 5] rfl ?_
          exact vb_Model_child_58 hc hq X3 hX3 _ _ _ _ _ _ _ hw
        · replace hw := hw.2 hq1
          refine V_iload hc 5 d_Model_child_55 rfl ?_
          exact V_iret hc hq ⟨_, rfl, hw⟩ (by decide) (by decide) d_Model_child_57
theorem vl_Model_child_3 {E : mm_E} {Z : Int32 → mm_M → Prop} (hc : cx E "EpochServerModel" c_Model_child 6 (some (.int)) rm_Model_child) (hq : cq E rm_Model_child (pI Z))  (v0 : Nat) (v1 : Int32) (v2 : Int32) (v3 : Int32) (v4 : Int32) (v5 : Int32) (h : mm_M) (hw : lp_Model_child_3  (mm_ge (eG E)) v0 v1 v2 v3 v4 v5 h Z) : V E 6 0 0 h 3 [(0, va_rf (some v0)), (1, .int (v1)), (2, .int (v2)), (3, .int (v3)), (4, .int (v4)), (5, .int (v5))] [] :=
  hw (fun v0 v1 v2 v3 v4 v5 h => V E 6 0 0 h 3 [(0, va_rf (some v0)), (1, .int (v1)), (2, .int (v2)), (3, .int (v3)), (4, .int (v4)), (5, .int (v5))] []) (fun v0 v1 v2 v3 v4 v5 h hb => vb_Model_child_3 hc hq  _ (fun _ _ _ _ _ _ _ q => q) v0 v1 v2 v3 v4 v5 h hb)
set_option maxRecDepth 100000 in
set_option maxHeartbeats 4000000 in
theorem vb_Model_child_0 {E : mm_E} {Z : Int32 → mm_M → Prop} (hc : cx E "EpochServerModel" c_Model_child 6 (some (.int)) rm_Model_child) (hq : cq E rm_Model_child (pI Z))  (v0 : Nat) (v1 : Int32) (v2 : Int32) (v3 : Int32) (v4 : Int32) (h : mm_M) (hw : wq_Model_child_0  (mm_ge (eG E)) v0 v1 v2 v3 v4 h Z) : V E 6 0 0 h 0 [(0, va_rf (some v0)), (1, .int (v1)), (2, .int (v2)), (3, .int (v3)), (4, .int (v4))] [] := by
  unfold wq_Model_child_0 at hw
  refine V_iconst (v := 1) hc d_Model_child_0 (by decide) ?_
  refine V_istore (i := 5) (lv' := [(5, .int (1)), (0, va_rf (some v0)), (1, .int (v1)), (2, .int (v2)), (3, .int (v3)), (4, .int (v4))]) hc d_Model_child_1 (by decide) rfl ?_
  refine V_sub (lv' := [(0, va_rf (some v0)), (1, .int (v1)), (2, .int (v2)), (3, .int (v3)), (4, .int (v4)), (5, .int (1))]) [1, 2, 3, 4, 5, 0] rfl ?_
  exact vl_Model_child_3 hc hq  _ _ _ _ _ _ _ hw
def wq_Model_child (ge : Nat → Nat) (v0 : Nat) (v1 : Int32) (v2 : Int32) (v3 : Int32) (v4 : Int32) (h : mm_M) (Z : Int32 → mm_M → Prop) : Prop := wq_Model_child_0 ge v0 v1 v2 v3 v4 h Z
theorem sat_Model_child (G : mm_G) (v0 : Nat) (v1 : Int32) (v2 : Int32) (v3 : Int32) (v4 : Int32) (h : mm_M) (Z : Int32 → mm_M → Prop) (hw : wq_Model_child (mm_ge G) v0 v1 v2 v3 v4 h Z) : mm_Met G y_Model_child c_Model_child 6 (some (.int)) rm_Model_child [va_rf (some v0), .int (v1), .int (v2), .int (v3), .int (v4)] h (pI Z) := by
  refine mm_intro (own := "EpochServerModel") (by decide) rfl (by simp [lg_sl, cat_rf, cat_i, cat_l]) (fun E e1 hc hq hi => ?_)
  subst e1
  have e2 : lv_args 0 [va_rf (some v0), .int (v1), .int (v2), .int (v3), .int (v4)] = [(0, va_rf (some v0)), (1, .int (v1)), (2, .int (v2)), (3, .int (v3)), (4, .int (v4))] := by simp [lv_args, cat_rf, cat_i, cat_l]
  rw [e2]
  refine V_sub (lv' := [(0, va_rf (some v0)), (1, .int (v1)), (2, .int (v2)), (3, .int (v3)), (4, .int (v4))]) [0, 1, 2, 3, 4] rfl ?_
  exact vb_Model_child_0 hc hq v0 v1 v2 v3 v4 h hw
