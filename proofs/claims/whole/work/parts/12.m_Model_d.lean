/-! Model.reads(I)V -/
abbrev rm_Model_reads : Room := { frames := 3, cells := 0, slots := 0, locals := 66 }
def wq_Model_reads_542  (ge : Nat → Nat)  (h : mm_M) (Z : mm_M → Prop) : Prop :=
  Z h
def wq_Model_reads_331  (ge : Nat → Nat)  (h : mm_M) (Z : mm_M → Prop) : Prop :=
  wq_Model_reads_542  ge h Z
def wq_Model_reads_325 (X269 : Nat → Int32 → mm_M → Prop) (ge : Nat → Nat) (v0 : Nat) (v2 : Int32) (h : mm_M) (Z : mm_M → Prop) : Prop :=
  X269 (v0) (v2 + 1) h
def wq_Model_reads_269 (X269 : Nat → Int32 → mm_M → Prop) (ge : Nat → Nat) (v0 : Nat) (v2 : Int32) (h : mm_M) (Z : mm_M → Prop) : Prop :=
  mm_k h (v0) = kd_Model ∧ (((mm_I h v0 37 : Int32) ≤ (v2 : Int32) → wq_Model_reads_331  ge h Z) ∧ (¬ (mm_I h v0 37 : Int32) ≤ (v2 : Int32) → (((mm_I h v0 30) = 0 → wq_Model_reads_331  ge h Z) ∧ (¬ (mm_I h v0 30) = 0 → wq_Model_text ge (v0) h (fun h2 : mm_M => mm_k h2 (v0) = kd_Model ∧ (((mm_I h2 v0 30) = 0 → wq_Model_reads_325 X269 ge (v0) (v2) h2 Z) ∧ (¬ (mm_I h2 v0 30) = 0 → (((v2 : Int32) < (1400 : Int32) → ∃ a5, mm_P h2 v0 45 = some a5 ∧ mm_k h2 (a5) = ka_I ∧ vp_in (v2) (mm_n h2 a5) ∧ ge 0 ≤ a5 ∧ ∀ h10 : mm_M, h10 = mm_uI h2 a5 (Int32.toNatClampNeg (v2)) (mm_I h2 v0 31) → mm_k h10 (v0) = kd_Model ∧ ∃ a12, mm_P h10 v0 46 = some a12 ∧ mm_k h10 (a12) = ka_I ∧ vp_in (v2) (mm_n h10 a12) ∧ ge 0 ≤ a12 ∧ ∀ h17 : mm_M, h17 = mm_uI h10 a12 (Int32.toNatClampNeg (v2)) (mm_I h10 v0 32) → wq_Model_reads_325 X269 ge (v0) (v2) h17 Z) ∧ (¬ (v2 : Int32) < (1400 : Int32) → wq_Model_reads_325 X269 ge (v0) (v2) h2 Z)))))))))
def lp_Model_reads_269  (ge : Nat → Nat) (v0 : Nat) (v2 : Int32) (h : mm_M) (Z : mm_M → Prop) : Prop :=
  ∀ X269 : Nat → Int32 → mm_M → Prop, (∀ (v0 : Nat) (v2 : Int32) (h : mm_M), wq_Model_reads_269 X269 ge v0 v2 h Z → X269 v0 v2 h) → X269 v0 v2 h
def wq_Model_reads_500  (ge : Nat → Nat) (s0 : Option Nat) (s1 : Int32) (s2 : Int32) (h : mm_M) (Z : mm_M → Prop) : Prop :=
  ∃ a1, s0 = some a1 ∧ mm_k h (a1) = kd_Model ∧ ge 0 ≤ a1 ∧ ∀ h5 : mm_M, h5 = mm_uI h (a1) 28 ((s1) + (s2)) → wq_Model_reads_542  ge h5 Z
def wq_Model_reads_479  (ge : Nat → Nat) (v0 : Nat) (h : mm_M) (Z : mm_M → Prop) : Prop :=
  mm_k h (v0) = kd_Model ∧ (((mm_I h v0 30) = 0 → wq_Model_reads_500  ge (some v0) (mm_I h v0 28) (0) h Z) ∧ (¬ (mm_I h v0 30) = 0 → wq_Model_reads_500  ge (some v0) (mm_I h v0 28) (Int64.toInt32 (mm_L h v0 44)) h Z))
def wq_Model_reads_410  (ge : Nat → Nat) (v0 : Nat) (v1 : Int32) (h : mm_M) (Z : mm_M → Prop) : Prop :=
  mm_k h (v0) = kd_Model ∧ wq_Model_number ge (v0) (4) h (fun (r3 : Int64) (h2 : mm_M) => mm_k h2 (v0) = kd_Model ∧ ge 0 ≤ v0 ∧ ∀ h6 : mm_M, h6 = mm_uI h2 (v0) 33 (Int64.toInt32 (r3)) → mm_k h6 (v0) = kd_Model ∧ wq_Model_number ge (v0) (8) h6 (fun (r9 : Int64) (h8 : mm_M) => mm_k h8 (v0) = kd_Model ∧ ge 0 ≤ v0 ∧ ∀ h12 : mm_M, h12 = mm_uL h8 (v0) 43 (r9) → mm_k h12 (v0) = kd_Model ∧ wq_Model_number ge (v0) (4) h12 (fun (r15 : Int64) (h14 : mm_M) => mm_k h14 (v0) = kd_Model ∧ ge 0 ≤ v0 ∧ ∀ h18 : mm_M, h18 = mm_uL h14 (v0) 44 (r15) → ((¬ (v1 : Int32) = (116 : Int32) → mm_k h18 (v0) = kd_Model ∧ ge 0 ≤ v0 ∧ ∀ h21 : mm_M, h21 = mm_uI h18 (v0) 42 (mm_I h18 v0 28) → mm_k h21 (v0) = kd_Model ∧ (((lg_cmp (mm_L h21 v0 44) (Int32.toInt64 ((mm_I h21 v0 29) - (mm_I h21 v0 28)))) ≤ 0 → wq_Model_reads_479  ge (v0) h21 Z) ∧ (¬ (lg_cmp (mm_L h21 v0 44) (Int32.toInt64 ((mm_I h21 v0 29) - (mm_I h21 v0 28)))) ≤ 0 → ge 0 ≤ v0 ∧ ∀ h24 : mm_M, h24 = mm_uI h21 (v0) 30 (0) → wq_Model_reads_479  ge (v0) h24 Z))) ∧ ((v1 : Int32) = (116 : Int32) → wq_Model_reads_542  ge h18 Z)))))
def wq_Model_reads_507  (ge : Nat → Nat) (v0 : Nat) (h : mm_M) (Z : mm_M → Prop) : Prop :=
  mm_k h (v0) = kd_Model ∧ wq_Model_number ge (v0) (4) h (fun (r3 : Int64) (h2 : mm_M) => mm_k h2 (v0) = kd_Model ∧ ge 0 ≤ v0 ∧ ∀ h6 : mm_M, h6 = mm_uI h2 (v0) 33 (Int64.toInt32 (r3)) → wq_Model_reads_542  ge h6 Z)
def wq_Model_reads_0  (ge : Nat → Nat) (v0 : Nat) (v1 : Int32) (h : mm_M) (Z : mm_M → Prop) : Prop :=
  (((v1) = (100 : Int32) → mm_k h (v0) = kd_Model ∧ wq_Model_number ge (v0) (4) h (fun (r3 : Int64) (h2 : mm_M) => mm_k h2 (v0) = kd_Model ∧ ge 0 ≤ v0 ∧ ∀ h6 : mm_M, h6 = mm_uL h2 (v0) 44 (r3) → mm_k h6 (v0) = kd_Model ∧ wq_Model_text ge (v0) h6 (fun h8 : mm_M => mm_k h8 (v0) = kd_Model ∧ ge 0 ≤ v0 ∧ ∀ h12 : mm_M, h12 = mm_uI h8 (v0) 38 (mm_I h8 v0 31) → mm_k h12 (v0) = kd_Model ∧ ge 0 ≤ v0 ∧ ∀ h15 : mm_M, h15 = mm_uI h12 (v0) 39 (mm_I h12 v0 32) → wq_Model_reads_542  ge h15 Z))) ∧ ((v1) = (102 : Int32) → mm_k h (v0) = kd_Model ∧ wq_Model_number ge (v0) (4) h (fun (r18 : Int64) (h17 : mm_M) => mm_k h17 (v0) = kd_Model ∧ ge 0 ≤ v0 ∧ ∀ h21 : mm_M, h21 = mm_uI h17 (v0) 33 (Int64.toInt32 (r18)) → mm_k h21 (v0) = kd_Model ∧ wq_Model_text ge (v0) h21 (fun h23 : mm_M => mm_k h23 (v0) = kd_Model ∧ wq_Model_text ge (v0) h23 (fun h26 : mm_M => wq_Model_reads_542  ge h26 Z)))) ∧ ((v1) = (104 : Int32) → mm_k h (v0) = kd_Model ∧ wq_Model_number ge (v0) (4) h (fun (r30 : Int64) (h29 : mm_M) => mm_k h29 (v0) = kd_Model ∧ ge 0 ≤ v0 ∧ ∀ h33 : mm_M, h33 = mm_uI h29 (v0) 33 (Int64.toInt32 (r30)) → mm_k h33 (v0) = kd_Model ∧ wq_Model_number ge (v0) (4) h33 (fun (r36 : Int64) (h35 : mm_M) => mm_k h35 (v0) = kd_Model ∧ ge 0 ≤ v0 ∧ ∀ h39 : mm_M, h39 = mm_uI h35 (v0) 34 (Int64.toInt32 (r36)) → mm_k h39 (v0) = kd_Model ∧ wq_Model_text ge (v0) h39 (fun h41 : mm_M => mm_k h41 (v0) = kd_Model ∧ wq_Model_text ge (v0) h41 (fun h44 : mm_M => mm_k h44 (v0) = kd_Model ∧ ge 0 ≤ v0 ∧ ∀ h48 : mm_M, h48 = mm_uI h44 (v0) 38 (mm_I h44 v0 31) → mm_k h48 (v0) = kd_Model ∧ ge 0 ≤ v0 ∧ ∀ h51 : mm_M, h51 = mm_uI h48 (v0) 39 (mm_I h48 v0 32) → wq_Model_reads_542  ge h51 Z))))) ∧ ((v1) = (108 : Int32) → mm_k h (v0) = kd_Model ∧ wq_Model_number ge (v0) (2) h (fun (r54 : Int64) (h53 : mm_M) => mm_k h53 (v0) = kd_Model ∧ ge 0 ≤ v0 ∧ ∀ h57 : mm_M, h57 = mm_uI h53 (v0) 37 (Int64.toInt32 (r54)) → wq_Model_reads_542  ge h57 Z)) ∧ ((v1) = (110 : Int32) → mm_k h (v0) = kd_Model ∧ wq_Model_number ge (v0) (4) h (fun (r60 : Int64) (h59 : mm_M) => mm_k h59 (v0) = kd_Model ∧ ge 0 ≤ v0 ∧ ∀ h63 : mm_M, h63 = mm_uI h59 (v0) 33 (Int64.toInt32 (r60)) → mm_k h63 (v0) = kd_Model ∧ wq_Model_number ge (v0) (4) h63 (fun (r66 : Int64) (h65 : mm_M) => mm_k h65 (v0) = kd_Model ∧ ge 0 ≤ v0 ∧ ∀ h69 : mm_M, h69 = mm_uI h65 (v0) 34 (Int64.toInt32 (r66)) → mm_k h69 (v0) = kd_Model ∧ wq_Model_number ge (v0) (2) h69 (fun (r72 : Int64) (h71 : mm_M) => mm_k h71 (v0) = kd_Model ∧ ge 0 ≤ v0 ∧ ∀ h75 : mm_M, h75 = mm_uI h71 (v0) 37 (Int64.toInt32 (r72)) → lp_Model_reads_269  ge (v0) (0) h75 Z)))) ∧ ((v1) = (112 : Int32) → mm_k h (v0) = kd_Model ∧ wq_Model_number ge (v0) (4) h (fun (r78 : Int64) (h77 : mm_M) => mm_k h77 (v0) = kd_Model ∧ ge 0 ≤ v0 ∧ ∀ h81 : mm_M, h81 = mm_uI h77 (v0) 33 (Int64.toInt32 (r78)) → mm_k h81 (v0) = kd_Model ∧ wq_Model_number ge (v0) (1) h81 (fun (r84 : Int64) (h83 : mm_M) => mm_k h83 (v0) = kd_Model ∧ ge 0 ≤ v0 ∧ ∀ h87 : mm_M, h87 = mm_uI h83 (v0) 35 (Int64.toInt32 (r84)) → wq_Model_reads_542  ge h87 Z))) ∧ ((v1) = (114 : Int32) → mm_k h (v0) = kd_Model ∧ wq_Model_number ge (v0) (4) h (fun (r90 : Int64) (h89 : mm_M) => mm_k h89 (v0) = kd_Model ∧ ge 0 ≤ v0 ∧ ∀ h93 : mm_M, h93 = mm_uI h89 (v0) 33 (Int64.toInt32 (r90)) → mm_k h93 (v0) = kd_Model ∧ wq_Model_text ge (v0) h93 (fun h95 : mm_M => mm_k h95 (v0) = kd_Model ∧ ge 0 ≤ v0 ∧ ∀ h99 : mm_M, h99 = mm_uI h95 (v0) 38 (mm_I h95 v0 31) → mm_k h99 (v0) = kd_Model ∧ ge 0 ≤ v0 ∧ ∀ h102 : mm_M, h102 = mm_uI h99 (v0) 39 (mm_I h99 v0 32) → mm_k h102 (v0) = kd_Model ∧ wq_Model_number ge (v0) (4) h102 (fun (r105 : Int64) (h104 : mm_M) => mm_k h104 (v0) = kd_Model ∧ ge 0 ≤ v0 ∧ ∀ h108 : mm_M, h108 = mm_uI h104 (v0) 36 (Int64.toInt32 (r105)) → mm_k h108 (v0) = kd_Model ∧ wq_Model_number ge (v0) (1) h108 (fun (r111 : Int64) (h110 : mm_M) => mm_k h110 (v0) = kd_Model ∧ ge 0 ≤ v0 ∧ ∀ h114 : mm_M, h114 = mm_uI h110 (v0) 35 (Int64.toInt32 (r111)) → wq_Model_reads_542  ge h114 Z))))) ∧ ((v1) = (116 : Int32) → wq_Model_reads_410  ge (v0) (v1) h Z) ∧ ((v1) = (118 : Int32) → wq_Model_reads_410  ge (v0) (v1) h Z) ∧ ((v1) = (120 : Int32) → wq_Model_reads_507  ge (v0) h Z) ∧ ((v1) = (122 : Int32) → wq_Model_reads_507  ge (v0) h Z) ∧ ((v1) = (124 : Int32) → wq_Model_reads_507  ge (v0) h Z) ∧ ((v1) = (126 : Int32) → mm_k h (v0) = kd_Model ∧ wq_Model_number ge (v0) (4) h (fun (r117 : Int64) (h116 : mm_M) => mm_k h116 (v0) = kd_Model ∧ ge 0 ≤ v0 ∧ ∀ h120 : mm_M, h120 = mm_uI h116 (v0) 33 (Int64.toInt32 (r117)) → mm_k h120 (v0) = kd_Model ∧ wq_Model_readsStat ge (v0) h120 (fun h122 : mm_M => wq_Model_reads_542  ge h122 Z))) ∧ ((¬ (v1) = (100 : Int32) ∧ ¬ (v1) = (102 : Int32) ∧ ¬ (v1) = (104 : Int32) ∧ ¬ (v1) = (108 : Int32) ∧ ¬ (v1) = (110 : Int32) ∧ ¬ (v1) = (112 : Int32) ∧ ¬ (v1) = (114 : Int32) ∧ ¬ (v1) = (116 : Int32) ∧ ¬ (v1) = (118 : Int32) ∧ ¬ (v1) = (120 : Int32) ∧ ¬ (v1) = (122 : Int32) ∧ ¬ (v1) = (124 : Int32) ∧ ¬ (v1) = (126 : Int32)) → mm_k h (v0) = kd_Model ∧ ge 0 ≤ v0 ∧ ∀ h126 : mm_M, h126 = mm_uI h (v0) 30 (0) → wq_Model_reads_542  ge h126 Z))
set_option maxRecDepth 100000 in
set_option maxHeartbeats 4000000 in
theorem vb_Model_reads_542 {E : mm_E} {Z : mm_M → Prop} (hc : cx E "EpochServerModel" c_Model_reads 3 none rm_Model_reads) (hq : cq E rm_Model_reads (pV Z))   (h : mm_M) (hw : wq_Model_reads_542  (mm_ge (eG E))  h Z) : V E 3 0 0 h 542 [] [] := by
  unfold wq_Model_reads_542 at hw
  exact V_vret hc hq ⟨rfl, hw⟩ (by decide) (by decide) d_Model_reads_542
set_option maxRecDepth 100000 in
set_option maxHeartbeats 4000000 in
theorem vb_Model_reads_331 {E : mm_E} {Z : mm_M → Prop} (hc : cx E "EpochServerModel" c_Model_reads 3 none rm_Model_reads) (hq : cq E rm_Model_reads (pV Z))   (h : mm_M) (hw : wq_Model_reads_331  (mm_ge (eG E))  h Z) : V E 3 0 0 h 331 [] [] := by
  unfold wq_Model_reads_331 at hw
  refine V_goto (tgt := 542) hc d_Model_reads_331 (by decide) ?_
  refine V_sub (lv' := []) [] rfl ?_
  exact vb_Model_reads_542 hc hq  _ hw
set_option maxRecDepth 100000 in
set_option maxHeartbeats 4000000 in
theorem vb_Model_reads_325 {E : mm_E} {Z : mm_M → Prop} (hc : cx E "EpochServerModel" c_Model_reads 3 none rm_Model_reads) (hq : cq E rm_Model_reads (pV Z)) (X269 : Nat → Int32 → mm_M → Prop) (hX269 : ∀ (v0 : Nat) (v2 : Int32) (h : mm_M), X269 v0 v2 h → V E 3 0 0 h 269 [(0, va_rf (some v0)), (2, .int (v2))] []) (v0 : Nat) (v2 : Int32) (h : mm_M) (hw : wq_Model_reads_325 X269 (mm_ge (eG E)) v0 v2 h Z) : V E 3 0 0 h 325 [(0, va_rf (some v0)), (2, .int (v2))] [] := by
  unfold wq_Model_reads_325 at hw
  refine V_iinc (v := v2 + 1) (lv' := [(2, .int (v2 + 1)), (0, va_rf (some v0))]) hc 1 d_Model_reads_325 rfl rfl (by decide) rfl ?_
  refine V_goto (tgt := 269) hc d_Model_reads_328 (by decide) ?_
  refine V_sub (lv' := [(0, va_rf (some v0)), (2, .int (v2 + 1))]) [1, 0] rfl ?_
  exact hX269 _ _ _ hw
set_option maxRecDepth 100000 in
set_option maxHeartbeats 4000000 in
theorem vb_Model_reads_269 {E : mm_E} {Z : mm_M → Prop} (hc : cx E "EpochServerModel" c_Model_reads 3 none rm_Model_reads) (hq : cq E rm_Model_reads (pV Z)) (X269 : Nat → Int32 → mm_M → Prop) (hX269 : ∀ (v0 : Nat) (v2 : Int32) (h : mm_M), X269 v0 v2 h → V E 3 0 0 h 269 [(0, va_rf (some v0)), (2, .int (v2))] []) (v0 : Nat) (v2 : Int32) (h : mm_M) (hw : wq_Model_reads_269 X269 (mm_ge (eG E)) v0 v2 h Z) : V E 3 0 0 h 269 [(0, va_rf (some v0)), (2, .int (v2))] [] := by
  unfold wq_Model_reads_269 at hw
  refine V_iload_n hc 1 d_Model_reads_269 rfl rfl ?_
  refine V_aload_n hc 0 d_Model_reads_270 rfl rfl ?_
  obtain ⟨q1, hw⟩ := hw
  refine V_get (v := .int (mm_I h v0 37)) hc gf_Model_153 rfl q1 rfl d_Model_reads_271 ?_
  refine V_icmp_ge (tgt := 331) hc d_Model_reads_274 (by decide) (fun hq1 => ?_) (fun hq1 => ?_)
  · replace hw := hw.1 hq1
    refine V_sub (lv' := []) [] rfl ?_
    exact vb_Model_reads_331 hc hq  _ hw
  · replace hw := hw.2 hq1
    refine V_aload_n hc 0 d_Model_reads_277 rfl rfl ?_
    refine V_get (v := .int (mm_I h v0 30)) hc gf_Model_120 rfl q1 rfl d_Model_reads_278 ?_
    refine V_if_eq (tgt := 331) hc d_Model_reads_281 (by decide) (fun hq1 => ?_) (fun hq1 => ?_)
    · replace hw := hw.1 hq1
      refine V_sub (lv' := []) [] rfl ?_
      exact vb_Model_reads_331 hc hq  _ hw
    · replace hw := hw.2 hq1
      refine V_aload_n hc 0 d_Model_reads_284 rfl rfl ?_
      refine V_callV (rm' := rm_Model_text) (As := []) (rest := []) (n := 0) (cn := 0) hc rfl q1 (sat_Model_text (eG E) _ _ _ hw) rfl cv_Model_138 (gw_of (tw_5 (List.mem_of_getElem? (i := 181) rfl)) rfl) ss_Model_text rfl ⟨by decide, by decide⟩ (by decide) (by decide) rfl (by simp [cat_rf, cat_i, cat_l]) d_Model_reads_285 (fun r0 h2 hw => ?_)
      obtain ⟨rfl, hw⟩ := hw
      refine V_wide (cs' := 0) (sl' := 0) (by decide) (by decide) ?_
      refine V_st (st' := []) rfl ?_
      refine V_aload_n hc 0 d_Model_reads_288 rfl rfl ?_
      obtain ⟨q4, hw⟩ := hw
      refine V_get (v := .int (mm_I h2 v0 30)) hc gf_Model_120 rfl q4 rfl d_Model_reads_289 ?_
      refine V_if_eq (tgt := 325) hc d_Model_reads_292 (by decide) (fun hq1 => ?_) (fun hq1 => ?_)
      · replace hw := hw.1 hq1
        refine V_sub (lv' := [(0, va_rf (some v0)), (2, .int (v2))]) [0, 1] rfl ?_
        exact vb_Model_reads_325 hc hq X269 hX269 _ _ _ hw
      · replace hw := hw.2 hq1
        refine V_iload_n hc 1 d_Model_reads_295 rfl rfl ?_
        refine V_sipush (v := 1400) hc d_Model_reads_296 (by decide) ?_
        refine V_icmp_lt (tgt := 305) hc d_Model_reads_299 (by decide) (fun hq1 => ?_) (fun hq1 => ?_)
        · replace hw := hw.1 hq1
          refine V_aload_n hc 0 d_Model_reads_305 rfl rfl ?_
          refine V_get (v := va_rf (mm_P h2 v0 45)) hc gf_Model_68 rfl q4 rfl d_Model_reads_306 ?_
          refine V_iload_n hc 1 d_Model_reads_309 rfl rfl ?_
          refine V_aload_n hc 0 d_Model_reads_310 rfl rfl ?_
          refine V_get (v := .int (mm_I h2 v0 31)) hc gf_Model_131 rfl q4 rfl d_Model_reads_311 ?_
          obtain ⟨a5, q6, hw⟩ := hw
          obtain ⟨q7, hw⟩ := hw
          obtain ⟨q8, hw⟩ := hw
          obtain ⟨q9, hw⟩ := hw
          obtain ⟨h10, eq_h10⟩ : ∃ x, x = mm_uI h2 a5 (Int32.toNatClampNeg (v2)) (mm_I h2 v0 31) := ⟨_, rfl⟩
          replace hw := hw _ eq_h10
          refine V_iast hc q6 q7 q8 q9 d_Model_reads_314 ?_
          rw [← eq_h10]
          refine V_aload_n hc 0 d_Model_reads_315 rfl rfl ?_
          obtain ⟨q11, hw⟩ := hw
          refine V_get (v := va_rf (mm_P h10 v0 46)) hc gf_Model_71 rfl q11 rfl d_Model_reads_316 ?_
          refine V_iload_n hc 1 d_Model_reads_319 rfl rfl ?_
          refine V_aload_n hc 0 d_Model_reads_320 rfl rfl ?_
          refine V_get (v := .int (mm_I h10 v0 32)) hc gf_Model_128 rfl q11 rfl d_Model_reads_321 ?_
          obtain ⟨a12, q13, hw⟩ := hw
          obtain ⟨q14, hw⟩ := hw
          obtain ⟨q15, hw⟩ := hw
          obtain ⟨q16, hw⟩ := hw
          obtain ⟨h17, eq_h17⟩ : ∃ x, x = mm_uI h10 a12 (Int32.toNatClampNeg (v2)) (mm_I h10 v0 32) := ⟨_, rfl⟩
          replace hw := hw _ eq_h17
          refine V_iast hc q13 q14 q15 q16 d_Model_reads_324 ?_
          rw [← eq_h17]
          refine V_sub (lv' := [(0, va_rf (some v0)), (2, .int (v2))]) [0, 1] rfl ?_
          exact vb_Model_reads_325 hc hq X269 hX269 _ _ _ hw
        · replace hw := hw.2 hq1
          refine V_goto (tgt := 325) hc d_Model_reads_302 (by decide) ?_
          refine V_sub (lv' := [(0, va_rf (some v0)), (2, .int (v2))]) [0, 1] rfl ?_
          exact vb_Model_reads_325 hc hq X269 hX269 _ _ _ hw
theorem vl_Model_reads_269 {E : mm_E} {Z : mm_M → Prop} (hc : cx E "EpochServerModel" c_Model_reads 3 none rm_Model_reads) (hq : cq E rm_Model_reads (pV Z))  (v0 : Nat) (v2 : Int32) (h : mm_M) (hw : lp_Model_reads_269  (mm_ge (eG E)) v0 v2 h Z) : V E 3 0 0 h 269 [(0, va_rf (some v0)), (2, .int (v2))] [] :=
  hw (fun v0 v2 h => V E 3 0 0 h 269 [(0, va_rf (some v0)), (2, .int (v2))] []) (fun v0 v2 h hb => vb_Model_reads_269 hc hq  _ (fun _ _ _ q => q) v0 v2 h hb)
set_option maxRecDepth 100000 in
set_option maxHeartbeats 4000000 in
theorem vb_Model_reads_500 {E : mm_E} {Z : mm_M → Prop} (hc : cx E "EpochServerModel" c_Model_reads 3 none rm_Model_reads) (hq : cq E rm_Model_reads (pV Z))  (s0 : Option Nat) (s1 : Int32) (s2 : Int32) (h : mm_M) (hw : wq_Model_reads_500  (mm_ge (eG E)) s0 s1 s2 h Z) : V E 3 0 0 h 500 [] [.int (s2), .int (s1), va_rf (s0)] := by
  unfold wq_Model_reads_500 at hw
  refine V_iadd hc d_Model_reads_500 ?_
  obtain ⟨a1, q2, hw⟩ := hw
  obtain ⟨q3, hw⟩ := hw
  obtain ⟨q4, hw⟩ := hw
  obtain ⟨h5, eq_h5⟩ : ∃ x, x = mm_uI h (a1) 28 ((s1) + (s2)) := ⟨_, rfl⟩
  replace hw := hw _ eq_h5
  refine V_put (h' := h5) hc gf_Model_114 rfl q2 q3 q4 (by rw [eq_h5]; exact mm_Up_I _ _ _ _) (by rw [eq_h5]; exact up_vI rfl) (vp_nar_int _) rfl d_Model_reads_501 ?_
  refine V_goto (tgt := 542) hc d_Model_reads_504 (by decide) ?_
  refine V_sub (lv' := []) [] rfl ?_
  exact vb_Model_reads_542 hc hq  _ hw
set_option maxRecDepth 100000 in
set_option maxHeartbeats 4000000 in
theorem vb_Model_reads_479 {E : mm_E} {Z : mm_M → Prop} (hc : cx E "EpochServerModel" c_Model_reads 3 none rm_Model_reads) (hq : cq E rm_Model_reads (pV Z))  (v0 : Nat) (h : mm_M) (hw : wq_Model_reads_479  (mm_ge (eG E)) v0 h Z) : V E 3 0 0 h 479 [(0, va_rf (some v0))] [] := by
  unfold wq_Model_reads_479 at hw
  refine V_aload_n hc 0 d_Model_reads_479 rfl rfl ?_
  refine V_dup hc d_Model_reads_480 (cat_rf _) ?_
  obtain ⟨q1, hw⟩ := hw
  refine V_get (v := .int (mm_I h v0 28)) hc gf_Model_114 rfl q1 rfl d_Model_reads_481 ?_
  refine V_aload_n hc 0 d_Model_reads_484 rfl rfl ?_
  refine V_get (v := .int (mm_I h v0 30)) hc gf_Model_120 rfl q1 rfl d_Model_reads_485 ?_
  refine V_if_eq (tgt := 499) hc d_Model_reads_488 (by decide) (fun hq1 => ?_) (fun hq1 => ?_)
  · replace hw := hw.1 hq1
    refine V_iconst (v := 0) hc d_Model_reads_499 (by decide) ?_
    refine V_sub (lv' := []) [] rfl ?_
    exact vb_Model_reads_500 hc hq  _ _ _ _ hw
  · replace hw := hw.2 hq1
    refine V_aload_n hc 0 d_Model_reads_491 rfl rfl ?_
    refine V_get (v := .long (mm_L h v0 44)) hc gf_Model_134 rfl q1 rfl d_Model_reads_492 ?_
    refine V_l2i hc d_Model_reads_495 ?_
    refine V_goto (tgt := 500) hc d_Model_reads_496 (by decide) ?_
    refine V_sub (lv' := []) [] rfl ?_
    exact vb_Model_reads_500 hc hq  _ _ _ _ hw
set_option maxRecDepth 100000 in
set_option maxHeartbeats 4000000 in
theorem vb_Model_reads_410 {E : mm_E} {Z : mm_M → Prop} (hc : cx E "EpochServerModel" c_Model_reads 3 none rm_Model_reads) (hq : cq E rm_Model_reads (pV Z))  (v0 : Nat) (v1 : Int32) (h : mm_M) (hw : wq_Model_reads_410  (mm_ge (eG E)) v0 v1 h Z) : V E 3 0 0 h 410 [(0, va_rf (some v0)), (1, .int (v1))] [] := by
  unfold wq_Model_reads_410 at hw
  refine V_aload_n hc 0 d_Model_reads_410 rfl rfl ?_
  refine V_aload_n hc 0 d_Model_reads_411 rfl rfl ?_
  refine V_iconst (v := 4) hc d_Model_reads_412 (by decide) ?_
  obtain ⟨q1, hw⟩ := hw
  refine V_callV (rm' := rm_Model_number) (As := [.int (4)]) (rest := [va_rf (some v0)]) (n := 1) (cn := 0) hc rfl q1 (sat_Model_number (eG E) _ _ _ _ hw) rfl cv_Model_124 (gw_of (tw_5 (List.mem_of_getElem? (i := 173) rfl)) rfl) ss_Model_number rfl ⟨by decide, by decide⟩ (by decide) (by decide) rfl (by simp [cat_rf, cat_i, cat_l]) d_Model_reads_413 (fun r0 h2 hw => ?_)
  obtain ⟨r3, rfl, hw⟩ := hw
  refine V_wide (cs' := 0) (sl' := 0) (by decide) (by decide) ?_
  refine V_st (st' := [.long (r3), va_rf (some v0)]) rfl ?_
  refine V_l2i hc d_Model_reads_416 ?_
  obtain ⟨q4, hw⟩ := hw
  obtain ⟨q5, hw⟩ := hw
  obtain ⟨h6, eq_h6⟩ : ∃ x, x = mm_uI h2 (v0) 33 (Int64.toInt32 (r3)) := ⟨_, rfl⟩
  replace hw := hw _ eq_h6
  refine V_put (h' := h6) hc gf_Model_147 rfl rfl q4 q5 (by rw [eq_h6]; exact mm_Up_I _ _ _ _) (by rw [eq_h6]; exact up_vI rfl) (vp_nar_int _) rfl d_Model_reads_417 ?_
  refine V_aload_n hc 0 d_Model_reads_420 rfl rfl ?_
  refine V_aload_n hc 0 d_Model_reads_421 rfl rfl ?_
  refine V_bipush (v := 8) hc d_Model_reads_422 (by decide) ?_
  obtain ⟨q7, hw⟩ := hw
  refine V_callV (rm' := rm_Model_number) (As := [.int (8)]) (rest := [va_rf (some v0)]) (n := 1) (cn := 0) hc rfl q7 (sat_Model_number (eG E) _ _ _ _ hw) rfl cv_Model_124 (gw_of (tw_5 (List.mem_of_getElem? (i := 173) rfl)) rfl) ss_Model_number rfl ⟨by decide, by decide⟩ (by decide) (by decide) rfl (by simp [cat_rf, cat_i, cat_l]) d_Model_reads_424 (fun r0 h8 hw => ?_)
  obtain ⟨r9, rfl, hw⟩ := hw
  refine V_wide (cs' := 0) (sl' := 0) (by decide) (by decide) ?_
  refine V_st (st' := [.long (r9), va_rf (some v0)]) rfl ?_
  obtain ⟨q10, hw⟩ := hw
  obtain ⟨q11, hw⟩ := hw
  obtain ⟨h12, eq_h12⟩ : ∃ x, x = mm_uL h8 (v0) 43 (r9) := ⟨_, rfl⟩
  replace hw := hw _ eq_h12
  refine V_put (h' := h12) hc gf_Model_162 rfl rfl q10 q11 (by rw [eq_h12]; exact mm_Up_L _ _ _ _) (by rw [eq_h12]; exact up_vL) rfl rfl d_Model_reads_427 ?_
  refine V_aload_n hc 0 d_Model_reads_430 rfl rfl ?_
  refine V_aload_n hc 0 d_Model_reads_431 rfl rfl ?_
  refine V_iconst (v := 4) hc d_Model_reads_432 (by decide) ?_
  obtain ⟨q13, hw⟩ := hw
  refine V_callV (rm' := rm_Model_number) (As := [.int (4)]) (rest := [va_rf (some v0)]) (n := 1) (cn := 0) hc rfl q13 (sat_Model_number (eG E) _ _ _ _ hw) rfl cv_Model_124 (gw_of (tw_5 (List.mem_of_getElem? (i := 173) rfl)) rfl) ss_Model_number rfl ⟨by decide, by decide⟩ (by decide) (by decide) rfl (by simp [cat_rf, cat_i, cat_l]) d_Model_reads_433 (fun r0 h14 hw => ?_)
  obtain ⟨r15, rfl, hw⟩ := hw
  refine V_wide (cs' := 0) (sl' := 0) (by decide) (by decide) ?_
  refine V_st (st' := [.long (r15), va_rf (some v0)]) rfl ?_
  obtain ⟨q16, hw⟩ := hw
  obtain ⟨q17, hw⟩ := hw
  obtain ⟨h18, eq_h18⟩ : ∃ x, x = mm_uL h14 (v0) 44 (r15) := ⟨_, rfl⟩
  replace hw := hw _ eq_h18
  refine V_put (h' := h18) hc gf_Model_134 rfl rfl q16 q17 (by rw [eq_h18]; exact mm_Up_L _ _ _ _) (by rw [eq_h18]; exact up_vL) rfl rfl d_Model_reads_436 ?_
  refine V_iload_n hc 1 d_Model_reads_439 rfl rfl ?_
  refine V_bipush (v := 116) hc d_Model_reads_440 (by decide) ?_
  refine V_icmp_ne (tgt := 448) hc d_Model_reads_442 (by decide) (fun hq1 => ?_) (fun hq1 => ?_)
  · replace hw := hw.1 hq1
    refine V_aload_n hc 0 d_Model_reads_448 rfl rfl ?_
    refine V_aload_n hc 0 d_Model_reads_449 rfl rfl ?_
    obtain ⟨q19, hw⟩ := hw
    refine V_get (v := .int (mm_I h18 v0 28)) hc gf_Model_114 rfl q19 rfl d_Model_reads_450 ?_
    obtain ⟨q20, hw⟩ := hw
    obtain ⟨h21, eq_h21⟩ : ∃ x, x = mm_uI h18 (v0) 42 (mm_I h18 v0 28) := ⟨_, rfl⟩
    replace hw := hw _ eq_h21
    refine V_put (h' := h21) hc gf_Model_165 rfl rfl q19 q20 (by rw [eq_h21]; exact mm_Up_I _ _ _ _) (by rw [eq_h21]; exact up_vI rfl) (vp_nar_int _) rfl d_Model_reads_453 ?_
    refine V_aload_n hc 0 d_Model_reads_456 rfl rfl ?_
    obtain ⟨q22, hw⟩ := hw
    refine V_get (v := .long (mm_L h21 v0 44)) hc gf_Model_134 rfl q22 rfl d_Model_reads_457 ?_
    refine V_aload_n hc 0 d_Model_reads_460 rfl rfl ?_
    refine V_get (v := .int (mm_I h21 v0 29)) hc gf_Model_117 rfl q22 rfl d_Model_reads_461 ?_
    refine V_aload_n hc 0 d_Model_reads_464 rfl rfl ?_
    refine V_get (v := .int (mm_I h21 v0 28)) hc gf_Model_114 rfl q22 rfl d_Model_reads_465 ?_
    refine V_isub hc d_Model_reads_468 ?_
    refine V_i2l hc d_Model_reads_469 ?_
    refine V_lcmp hc d_Model_reads_470 ?_
    refine V_if_le (tgt := 479) hc d_Model_reads_471 (by decide) (fun hq1 => ?_) (fun hq1 => ?_)
    · replace hw := hw.1 hq1
      refine V_sub (lv' := [(0, va_rf (some v0))]) [0] rfl ?_
      exact vb_Model_reads_479 hc hq  _ _ hw
    · replace hw := hw.2 hq1
      refine V_aload_n hc 0 d_Model_reads_474 rfl rfl ?_
      refine V_iconst (v := 0) hc d_Model_reads_475 (by decide) ?_
      obtain ⟨q23, hw⟩ := hw
      obtain ⟨h24, eq_h24⟩ : ∃ x, x = mm_uI h21 (v0) 30 (0) := ⟨_, rfl⟩
      replace hw := hw _ eq_h24
      refine V_put (h' := h24) hc gf_Model_120 rfl rfl q22 q23 (by rw [eq_h24]; exact mm_Up_I _ _ _ _) (by rw [eq_h24]; exact up_vI rfl) (by decide) (by decide) d_Model_reads_476 ?_
      refine V_sub (lv' := [(0, va_rf (some v0))]) [0] rfl ?_
      exact vb_Model_reads_479 hc hq  _ _ hw
  · replace hw := hw.2 hq1
    refine V_goto (tgt := 542) hc d_Model_reads_445 (by decide) ?_
    refine V_sub (lv' := []) [] rfl ?_
    exact vb_Model_reads_542 hc hq  _ hw
set_option maxRecDepth 100000 in
set_option maxHeartbeats 4000000 in
theorem vb_Model_reads_507 {E : mm_E} {Z : mm_M → Prop} (hc : cx E "EpochServerModel" c_Model_reads 3 none rm_Model_reads) (hq : cq E rm_Model_reads (pV Z))  (v0 : Nat) (h : mm_M) (hw : wq_Model_reads_507  (mm_ge (eG E)) v0 h Z) : V E 3 0 0 h 507 [(0, va_rf (some v0))] [] := by
  unfold wq_Model_reads_507 at hw
  refine V_aload_n hc 0 d_Model_reads_507 rfl rfl ?_
  refine V_aload_n hc 0 d_Model_reads_508 rfl rfl ?_
  refine V_iconst (v := 4) hc d_Model_reads_509 (by decide) ?_
  obtain ⟨q1, hw⟩ := hw
  refine V_callV (rm' := rm_Model_number) (As := [.int (4)]) (rest := [va_rf (some v0)]) (n := 1) (cn := 0) hc rfl q1 (sat_Model_number (eG E) _ _ _ _ hw) rfl cv_Model_124 (gw_of (tw_5 (List.mem_of_getElem? (i := 173) rfl)) rfl) ss_Model_number rfl ⟨by decide, by decide⟩ (by decide) (by decide) rfl (by simp [cat_rf, cat_i, cat_l]) d_Model_reads_510 (fun r0 h2 hw => ?_)
  obtain ⟨r3, rfl, hw⟩ := hw
  refine V_wide (cs' := 0) (sl' := 0) (by decide) (by decide) ?_
  refine V_st (st' := [.long (r3), va_rf (some v0)]) rfl ?_
  refine V_l2i hc d_Model_reads_513 ?_
  obtain ⟨q4, hw⟩ := hw
  obtain ⟨q5, hw⟩ := hw
  obtain ⟨h6, eq_h6⟩ : ∃ x, x = mm_uI h2 (v0) 33 (Int64.toInt32 (r3)) := ⟨_, rfl⟩
  replace hw := hw _ eq_h6
  refine V_put (h' := h6) hc gf_Model_147 rfl rfl q4 q5 (by rw [eq_h6]; exact mm_Up_I _ _ _ _) (by rw [eq_h6]; exact up_vI rfl) (vp_nar_int _) rfl d_Model_reads_514 ?_
  refine V_goto (tgt := 542) hc d_Model_reads_517 (by decide) ?_
  refine V_sub (lv' := []) [] rfl ?_
  exact vb_Model_reads_542 hc hq  _ hw
set_option maxRecDepth 100000 in
set_option maxHeartbeats 4000000 in
theorem vb_Model_reads_0 {E : mm_E} {Z : mm_M → Prop} (hc : cx E "EpochServerModel" c_Model_reads 3 none rm_Model_reads) (hq : cq E rm_Model_reads (pV Z))  (v0 : Nat) (v1 : Int32) (h : mm_M) (hw : wq_Model_reads_0  (mm_ge (eG E)) v0 v1 h Z) : V E 3 0 0 h 0 [(0, va_rf (some v0)), (1, .int (v1))] [] := by
  unfold wq_Model_reads_0 at hw
  refine V_iload_n hc 1 d_Model_reads_0 rfl rfl ?_
  by_cases hs0 : (v1) = (100 : Int32)
  · replace hw := hw.1 hs0
    refine V_tabIn (off := 123) (tgt := 124) hc d_Model_reads_1 (by rw [hs0]; decide) (by rw [hs0]; decide) (by rw [hs0]; rfl) (by decide) ?_
    refine V_aload_n hc 0 d_Model_reads_124 rfl rfl ?_
    refine V_aload_n hc 0 d_Model_reads_125 rfl rfl ?_
    refine V_iconst (v := 4) hc d_Model_reads_126 (by decide) ?_
    obtain ⟨q1, hw⟩ := hw
    refine V_callV (rm' := rm_Model_number) (As := [.int (4)]) (rest := [va_rf (some v0)]) (n := 1) (cn := 0) hc rfl q1 (sat_Model_number (eG E) _ _ _ _ hw) rfl cv_Model_124 (gw_of (tw_5 (List.mem_of_getElem? (i := 173) rfl)) rfl) ss_Model_number rfl ⟨by decide, by decide⟩ (by decide) (by decide) rfl (by simp [cat_rf, cat_i, cat_l]) d_Model_reads_127 (fun r0 h2 hw => ?_)
    obtain ⟨r3, rfl, hw⟩ := hw
    refine V_wide (cs' := 0) (sl' := 0) (by decide) (by decide) ?_
    refine V_st (st' := [.long (r3), va_rf (some v0)]) rfl ?_
    obtain ⟨q4, hw⟩ := hw
    obtain ⟨q5, hw⟩ := hw
    obtain ⟨h6, eq_h6⟩ : ∃ x, x = mm_uL h2 (v0) 44 (r3) := ⟨_, rfl⟩
    replace hw := hw _ eq_h6
    refine V_put (h' := h6) hc gf_Model_134 rfl rfl q4 q5 (by rw [eq_h6]; exact mm_Up_L _ _ _ _) (by rw [eq_h6]; exact up_vL) rfl rfl d_Model_reads_130 ?_
    refine V_aload_n hc 0 d_Model_reads_133 rfl rfl ?_
    obtain ⟨q7, hw⟩ := hw
    refine V_callV (rm' := rm_Model_text) (As := []) (rest := []) (n := 0) (cn := 0) hc rfl q7 (sat_Model_text (eG E) _ _ _ hw) rfl cv_Model_138 (gw_of (tw_5 (List.mem_of_getElem? (i := 181) rfl)) rfl) ss_Model_text rfl ⟨by decide, by decide⟩ (by decide) (by decide) rfl (by simp [cat_rf, cat_i, cat_l]) d_Model_reads_134 (fun r0 h8 hw => ?_)
    obtain ⟨rfl, hw⟩ := hw
    refine V_wide (cs' := 0) (sl' := 0) (by decide) (by decide) ?_
    refine V_st (st' := []) rfl ?_
    refine V_aload_n hc 0 d_Model_reads_137 rfl rfl ?_
    refine V_aload_n hc 0 d_Model_reads_138 rfl rfl ?_
    obtain ⟨q10, hw⟩ := hw
    refine V_get (v := .int (mm_I h8 v0 31)) hc gf_Model_131 rfl q10 rfl d_Model_reads_139 ?_
    obtain ⟨q11, hw⟩ := hw
    obtain ⟨h12, eq_h12⟩ : ∃ x, x = mm_uI h8 (v0) 38 (mm_I h8 v0 31) := ⟨_, rfl⟩
    replace hw := hw _ eq_h12
    refine V_put (h' := h12) hc gf_Model_141 rfl rfl q10 q11 (by rw [eq_h12]; exact mm_Up_I _ _ _ _) (by rw [eq_h12]; exact up_vI rfl) (vp_nar_int _) rfl d_Model_reads_142 ?_
    refine V_aload_n hc 0 d_Model_reads_145 rfl rfl ?_
    refine V_aload_n hc 0 d_Model_reads_146 rfl rfl ?_
    obtain ⟨q13, hw⟩ := hw
    refine V_get (v := .int (mm_I h12 v0 32)) hc gf_Model_128 rfl q13 rfl d_Model_reads_147 ?_
    obtain ⟨q14, hw⟩ := hw
    obtain ⟨h15, eq_h15⟩ : ∃ x, x = mm_uI h12 (v0) 39 (mm_I h12 v0 32) := ⟨_, rfl⟩
    replace hw := hw _ eq_h15
    refine V_put (h' := h15) hc gf_Model_144 rfl rfl q13 q14 (by rw [eq_h15]; exact mm_Up_I _ _ _ _) (by rw [eq_h15]; exact up_vI rfl) (vp_nar_int _) rfl d_Model_reads_150 ?_
    refine V_goto (tgt := 542) hc d_Model_reads_153 (by decide) ?_
    refine V_sub (lv' := []) [] rfl ?_
    exact vb_Model_reads_542 hc hq  _ hw
  by_cases hs1 : (v1) = (102 : Int32)
  · replace hw := hw.2.1 hs1
    refine V_tabIn (off := 155) (tgt := 156) hc d_Model_reads_1 (by rw [hs1]; decide) (by rw [hs1]; decide) (by rw [hs1]; rfl) (by decide) ?_
    refine V_aload_n hc 0 d_Model_reads_156 rfl rfl ?_
    refine V_aload_n hc 0 d_Model_reads_157 rfl rfl ?_
    refine V_iconst (v := 4) hc d_Model_reads_158 (by decide) ?_
    obtain ⟨q16, hw⟩ := hw
    refine V_callV (rm' := rm_Model_number) (As := [.int (4)]) (rest := [va_rf (some v0)]) (n := 1) (cn := 0) hc rfl q16 (sat_Model_number (eG E) _ _ _ _ hw) rfl cv_Model_124 (gw_of (tw_5 (List.mem_of_getElem? (i := 173) rfl)) rfl) ss_Model_number rfl ⟨by decide, by decide⟩ (by decide) (by decide) rfl (by simp [cat_rf, cat_i, cat_l]) d_Model_reads_159 (fun r0 h17 hw => ?_)
    obtain ⟨r18, rfl, hw⟩ := hw
    refine V_wide (cs' := 0) (sl' := 0) (by decide) (by decide) ?_
    refine V_st (st' := [.long (r18), va_rf (some v0)]) rfl ?_
    refine V_l2i hc d_Model_reads_162 ?_
    obtain ⟨q19, hw⟩ := hw
    obtain ⟨q20, hw⟩ := hw
    obtain ⟨h21, eq_h21⟩ : ∃ x, x = mm_uI h17 (v0) 33 (Int64.toInt32 (r18)) := ⟨_, rfl⟩
    replace hw := hw _ eq_h21
    refine V_put (h' := h21) hc gf_Model_147 rfl rfl q19 q20 (by rw [eq_h21]; exact mm_Up_I _ _ _ _) (by rw [eq_h21]; exact up_vI rfl) (vp_nar_int _) rfl d_Model_reads_163 ?_
    refine V_aload_n hc 0 d_Model_reads_166 rfl rfl ?_
    obtain ⟨q22, hw⟩ := hw
    refine V_callV (rm' := rm_Model_text) (As := []) (rest := []) (n := 0) (cn := 0) hc rfl q22 (sat_Model_text (eG E) _ _ _ hw) rfl cv_Model_138 (gw_of (tw_5 (List.mem_of_getElem? (i := 181) rfl)) rfl) ss_Model_text rfl ⟨by decide, by decide⟩ (by decide) (by decide) rfl (by simp [cat_rf, cat_i, cat_l]) d_Model_reads_167 (fun r0 h23 hw => ?_)
    obtain ⟨rfl, hw⟩ := hw
    refine V_wide (cs' := 0) (sl' := 0) (by decide) (by decide) ?_
    refine V_st (st' := []) rfl ?_
    refine V_aload_n hc 0 d_Model_reads_170 rfl rfl ?_
    obtain ⟨q25, hw⟩ := hw
    refine V_callV (rm' := rm_Model_text) (As := []) (rest := []) (n := 0) (cn := 0) hc rfl q25 (sat_Model_text (eG E) _ _ _ hw) rfl cv_Model_138 (gw_of (tw_5 (List.mem_of_getElem? (i := 181) rfl)) rfl) ss_Model_text rfl ⟨by decide, by decide⟩ (by decide) (by decide) rfl (by simp [cat_rf, cat_i, cat_l]) d_Model_reads_171 (fun r0 h26 hw => ?_)
    obtain ⟨rfl, hw⟩ := hw
    refine V_wide (cs' := 0) (sl' := 0) (by decide) (by decide) ?_
    refine V_st (st' := []) rfl ?_
    refine V_goto (tgt := 542) hc d_Model_reads_174 (by decide) ?_
    refine V_sub (lv' := []) [] rfl ?_
    exact vb_Model_reads_542 hc hq  _ hw
  by_cases hs2 : (v1) = (104 : Int32)
  · replace hw := hw.2.2.1 hs2
    refine V_tabIn (off := 176) (tgt := 177) hc d_Model_reads_1 (by rw [hs2]; decide) (by rw [hs2]; decide) (by rw [hs2]; rfl) (by decide) ?_
    refine V_aload_n hc 0 d_Model_reads_177 rfl rfl ?_
    refine V_aload_n hc 0 d_Model_reads_178 rfl rfl ?_
    refine V_iconst (v := 4) hc d_Model_reads_179 (by decide) ?_
    obtain ⟨q28, hw⟩ := hw
    refine V_callV (rm' := rm_Model_number) (As := [.int (4)]) (rest := [va_rf (some v0)]) (n := 1) (cn := 0) hc rfl q28 (sat_Model_number (eG E) _ _ _ _ hw) rfl cv_Model_124 (gw_of (tw_5 (List.mem_of_getElem? (i := 173) rfl)) rfl) ss_Model_number rfl ⟨by decide, by decide⟩ (by decide) (by decide) rfl (by simp [cat_rf, cat_i, cat_l]) d_Model_reads_180 (fun r0 h29 hw => ?_)
    obtain ⟨r30, rfl, hw⟩ := hw
    refine V_wide (cs' := 0) (sl' := 0) (by decide) (by decide) ?_
    refine V_st (st' := [.long (r30), va_rf (some v0)]) rfl ?_
    refine V_l2i hc d_Model_reads_183 ?_
    obtain ⟨q31, hw⟩ := hw
    obtain ⟨q32, hw⟩ := hw
    obtain ⟨h33, eq_h33⟩ : ∃ x, x = mm_uI h29 (v0) 33 (Int64.toInt32 (r30)) := ⟨_, rfl⟩
    replace hw := hw _ eq_h33
    refine V_put (h' := h33) hc gf_Model_147 rfl rfl q31 q32 (by rw [eq_h33]; exact mm_Up_I _ _ _ _) (by rw [eq_h33]; exact up_vI rfl) (vp_nar_int _) rfl d_Model_reads_184 ?_
    refine V_aload_n hc 0 d_Model_reads_187 rfl rfl ?_
    refine V_aload_n hc 0 d_Model_reads_188 rfl rfl ?_
    refine V_iconst (v := 4) hc d_Model_reads_189 (by decide) ?_
    obtain ⟨q34, hw⟩ := hw
    refine V_callV (rm' := rm_Model_number) (As := [.int (4)]) (rest := [va_rf (some v0)]) (n := 1) (cn := 0) hc rfl q34 (sat_Model_number (eG E) _ _ _ _ hw) rfl cv_Model_124 (gw_of (tw_5 (List.mem_of_getElem? (i := 173) rfl)) rfl) ss_Model_number rfl ⟨by decide, by decide⟩ (by decide) (by decide) rfl (by simp [cat_rf, cat_i, cat_l]) d_Model_reads_190 (fun r0 h35 hw => ?_)
    obtain ⟨r36, rfl, hw⟩ := hw
    refine V_wide (cs' := 0) (sl' := 0) (by decide) (by decide) ?_
    refine V_st (st' := [.long (r36), va_rf (some v0)]) rfl ?_
    refine V_l2i hc d_Model_reads_193 ?_
    obtain ⟨q37, hw⟩ := hw
    obtain ⟨q38, hw⟩ := hw
    obtain ⟨h39, eq_h39⟩ : ∃ x, x = mm_uI h35 (v0) 34 (Int64.toInt32 (r36)) := ⟨_, rfl⟩
    replace hw := hw _ eq_h39
    refine V_put (h' := h39) hc gf_Model_150 rfl rfl q37 q38 (by rw [eq_h39]; exact mm_Up_I _ _ _ _) (by rw [eq_h39]; exact up_vI rfl) (vp_nar_int _) rfl d_Model_reads_194 ?_
    refine V_aload_n hc 0 d_Model_reads_197 rfl rfl ?_
    obtain ⟨q40, hw⟩ := hw
    refine V_callV (rm' := rm_Model_text) (As := []) (rest := []) (n := 0) (cn := 0) hc rfl q40 (sat_Model_text (eG E) _ _ _ hw) rfl cv_Model_138 (gw_of (tw_5 (List.mem_of_getElem? (i := 181) rfl)) rfl) ss_Model_text rfl ⟨by decide, by decide⟩ (by decide) (by decide) rfl (by simp [cat_rf, cat_i, cat_l]) d_Model_reads_198 (fun r0 h41 hw => ?_)
    obtain ⟨rfl, hw⟩ := hw
    refine V_wide (cs' := 0) (sl' := 0) (by decide) (by decide) ?_
    refine V_st (st' := []) rfl ?_
    refine V_aload_n hc 0 d_Model_reads_201 rfl rfl ?_
    obtain ⟨q43, hw⟩ := hw
    refine V_callV (rm' := rm_Model_text) (As := []) (rest := []) (n := 0) (cn := 0) hc rfl q43 (sat_Model_text (eG E) _ _ _ hw) rfl cv_Model_138 (gw_of (tw_5 (List.mem_of_getElem? (i := 181) rfl)) rfl) ss_Model_text rfl ⟨by decide, by decide⟩ (by decide) (by decide) rfl (by simp [cat_rf, cat_i, cat_l]) d_Model_reads_202 (fun r0 h44 hw => ?_)
    obtain ⟨rfl, hw⟩ := hw
    refine V_wide (cs' := 0) (sl' := 0) (by decide) (by decide) ?_
    refine V_st (st' := []) rfl ?_
    refine V_aload_n hc 0 d_Model_reads_205 rfl rfl ?_
    refine V_aload_n hc 0 d_Model_reads_206 rfl rfl ?_
    obtain ⟨q46, hw⟩ := hw
    refine V_get (v := .int (mm_I h44 v0 31)) hc gf_Model_131 rfl q46 rfl d_Model_reads_207 ?_
    obtain ⟨q47, hw⟩ := hw
    obtain ⟨h48, eq_h48⟩ : ∃ x, x = mm_uI h44 (v0) 38 (mm_I h44 v0 31) := ⟨_, rfl⟩
    replace hw := hw _ eq_h48
    refine V_put (h' := h48) hc gf_Model_141 rfl rfl q46 q47 (by rw [eq_h48]; exact mm_Up_I _ _ _ _) (by rw [eq_h48]; exact up_vI rfl) (vp_nar_int _) rfl d_Model_reads_210 ?_
    refine V_aload_n hc 0 d_Model_reads_213 rfl rfl ?_
    refine V_aload_n hc 0 d_Model_reads_214 rfl rfl ?_
    obtain ⟨q49, hw⟩ := hw
    refine V_get (v := .int (mm_I h48 v0 32)) hc gf_Model_128 rfl q49 rfl d_Model_reads_215 ?_
    obtain ⟨q50, hw⟩ := hw
    obtain ⟨h51, eq_h51⟩ : ∃ x, x = mm_uI h48 (v0) 39 (mm_I h48 v0 32) := ⟨_, rfl⟩
    replace hw := hw _ eq_h51
    refine V_put (h' := h51) hc gf_Model_144 rfl rfl q49 q50 (by rw [eq_h51]; exact mm_Up_I _ _ _ _) (by rw [eq_h51]; exact up_vI rfl) (vp_nar_int _) rfl d_Model_reads_218 ?_
    refine V_goto (tgt := 542) hc d_Model_reads_221 (by decide) ?_
    refine V_sub (lv' := []) [] rfl ?_
    exact vb_Model_reads_542 hc hq  _ hw
  by_cases hs3 : (v1) = (108 : Int32)
  · replace hw := hw.2.2.2.1 hs3
    refine V_tabIn (off := 223) (tgt := 224) hc d_Model_reads_1 (by rw [hs3]; decide) (by rw [hs3]; decide) (by rw [hs3]; rfl) (by decide) ?_
    refine V_aload_n hc 0 d_Model_reads_224 rfl rfl ?_
    refine V_aload_n hc 0 d_Model_reads_225 rfl rfl ?_
    refine V_iconst (v := 2) hc d_Model_reads_226 (by decide) ?_
    obtain ⟨q52, hw⟩ := hw
    refine V_callV (rm' := rm_Model_number) (As := [.int (2)]) (rest := [va_rf (some v0)]) (n := 1) (cn := 0) hc rfl q52 (sat_Model_number (eG E) _ _ _ _ hw) rfl cv_Model_124 (gw_of (tw_5 (List.mem_of_getElem? (i := 173) rfl)) rfl) ss_Model_number rfl ⟨by decide, by decide⟩ (by decide) (by decide) rfl (by simp [cat_rf, cat_i, cat_l]) d_Model_reads_227 (fun r0 h53 hw => ?_)
    obtain ⟨r54, rfl, hw⟩ := hw
    refine V_wide (cs' := 0) (sl' := 0) (by decide) (by decide) ?_
    refine V_st (st' := [.long (r54), va_rf (some v0)]) rfl ?_
    refine V_l2i hc d_Model_reads_230 ?_
    obtain ⟨q55, hw⟩ := hw
    obtain ⟨q56, hw⟩ := hw
    obtain ⟨h57, eq_h57⟩ : ∃ x, x = mm_uI h53 (v0) 37 (Int64.toInt32 (r54)) := ⟨_, rfl⟩
    replace hw := hw _ eq_h57
    refine V_put (h' := h57) hc gf_Model_153 rfl rfl q55 q56 (by rw [eq_h57]; exact mm_Up_I _ _ _ _) (by rw [eq_h57]; exact up_vI rfl) (vp_nar_int _) rfl d_Model_reads_231 ?_
    refine V_goto (tgt := 542) hc d_Model_reads_234 (by decide) ?_
    refine V_sub (lv' := []) [] rfl ?_
    exact vb_Model_reads_542 hc hq  _ hw
  by_cases hs4 : (v1) = (110 : Int32)
  · replace hw := hw.2.2.2.2.1 hs4
    refine V_tabIn (off := 236) (tgt := 237) hc d_Model_reads_1 (by rw [hs4]; decide) (by rw [hs4]; decide) (by rw [hs4]; rfl) (by decide) ?_
    refine V_aload_n hc 0 d_Model_reads_237 rfl rfl ?_
    refine V_aload_n hc 0 d_Model_reads_238 rfl rfl ?_
    refine V_iconst (v := 4) hc d_Model_reads_239 (by decide) ?_
    obtain ⟨q58, hw⟩ := hw
    refine V_callV (rm' := rm_Model_number) (As := [.int (4)]) (rest := [va_rf (some v0)]) (n := 1) (cn := 0) hc rfl q58 (sat_Model_number (eG E) _ _ _ _ hw) rfl cv_Model_124 (gw_of (tw_5 (List.mem_of_getElem? (i := 173) rfl)) rfl) ss_Model_number rfl ⟨by decide, by decide⟩ (by decide) (by decide) rfl (by simp [cat_rf, cat_i, cat_l]) d_Model_reads_240 (fun r0 h59 hw => ?_)
    obtain ⟨r60, rfl, hw⟩ := hw
    refine V_wide (cs' := 0) (sl' := 0) (by decide) (by decide) ?_
    refine V_st (st' := [.long (r60), va_rf (some v0)]) rfl ?_
    refine V_l2i hc d_Model_reads_243 ?_
    obtain ⟨q61, hw⟩ := hw
    obtain ⟨q62, hw⟩ := hw
    obtain ⟨h63, eq_h63⟩ : ∃ x, x = mm_uI h59 (v0) 33 (Int64.toInt32 (r60)) := ⟨_, rfl⟩
    replace hw := hw _ eq_h63
    refine V_put (h' := h63) hc gf_Model_147 rfl rfl q61 q62 (by rw [eq_h63]; exact mm_Up_I _ _ _ _) (by rw [eq_h63]; exact up_vI rfl) (vp_nar_int _) rfl d_Model_reads_244 ?_
    refine V_aload_n hc 0 d_Model_reads_247 rfl rfl ?_
    refine V_aload_n hc 0 d_Model_reads_248 rfl rfl ?_
    refine V_iconst (v := 4) hc d_Model_reads_249 (by decide) ?_
    obtain ⟨q64, hw⟩ := hw
    refine V_callV (rm' := rm_Model_number) (As := [.int (4)]) (rest := [va_rf (some v0)]) (n := 1) (cn := 0) hc rfl q64 (sat_Model_number (eG E) _ _ _ _ hw) rfl cv_Model_124 (gw_of (tw_5 (List.mem_of_getElem? (i := 173) rfl)) rfl) ss_Model_number rfl ⟨by decide, by decide⟩ (by decide) (by decide) rfl (by simp [cat_rf, cat_i, cat_l]) d_Model_reads_250 (fun r0 h65 hw => ?_)
    obtain ⟨r66, rfl, hw⟩ := hw
    refine V_wide (cs' := 0) (sl' := 0) (by decide) (by decide) ?_
    refine V_st (st' := [.long (r66), va_rf (some v0)]) rfl ?_
    refine V_l2i hc d_Model_reads_253 ?_
    obtain ⟨q67, hw⟩ := hw
    obtain ⟨q68, hw⟩ := hw
    obtain ⟨h69, eq_h69⟩ : ∃ x, x = mm_uI h65 (v0) 34 (Int64.toInt32 (r66)) := ⟨_, rfl⟩
    replace hw := hw _ eq_h69
    refine V_put (h' := h69) hc gf_Model_150 rfl rfl q67 q68 (by rw [eq_h69]; exact mm_Up_I _ _ _ _) (by rw [eq_h69]; exact up_vI rfl) (vp_nar_int _) rfl d_Model_reads_254 ?_
    refine V_aload_n hc 0 d_Model_reads_257 rfl rfl ?_
    refine V_aload_n hc 0 d_Model_reads_258 rfl rfl ?_
    refine V_iconst (v := 2) hc d_Model_reads_259 (by decide) ?_
    obtain ⟨q70, hw⟩ := hw
    refine V_callV (rm' := rm_Model_number) (As := [.int (2)]) (rest := [va_rf (some v0)]) (n := 1) (cn := 0) hc rfl q70 (sat_Model_number (eG E) _ _ _ _ hw) rfl cv_Model_124 (gw_of (tw_5 (List.mem_of_getElem? (i := 173) rfl)) rfl) ss_Model_number rfl ⟨by decide, by decide⟩ (by decide) (by decide) rfl (by simp [cat_rf, cat_i, cat_l]) d_Model_reads_260 (fun r0 h71 hw => ?_)
    obtain ⟨r72, rfl, hw⟩ := hw
    refine V_wide (cs' := 0) (sl' := 0) (by decide) (by decide) ?_
    refine V_st (st' := [.long (r72), va_rf (some v0)]) rfl ?_
    refine V_l2i hc d_Model_reads_263 ?_
    obtain ⟨q73, hw⟩ := hw
    obtain ⟨q74, hw⟩ := hw
    obtain ⟨h75, eq_h75⟩ : ∃ x, x = mm_uI h71 (v0) 37 (Int64.toInt32 (r72)) := ⟨_, rfl⟩
    replace hw := hw _ eq_h75
    refine V_put (h' := h75) hc gf_Model_153 rfl rfl q73 q74 (by rw [eq_h75]; exact mm_Up_I _ _ _ _) (by rw [eq_h75]; exact up_vI rfl) (vp_nar_int _) rfl d_Model_reads_264 ?_
    refine V_iconst (v := 0) hc d_Model_reads_267 (by decide) ?_
    refine V_istore_n (i := 2) (lv' := [(2, .int (0)), (0, va_rf (some v0)), (1, .int (v1))]) hc d_Model_reads_268 rfl (by decide) rfl ?_
    refine V_sub (lv' := [(0, va_rf (some v0)), (2, .int (0))]) [1, 0] rfl ?_
    exact vl_Model_reads_269 hc hq  _ _ _ hw
  by_cases hs5 : (v1) = (112 : Int32)
  · replace hw := hw.2.2.2.2.2.1 hs5
    refine V_tabIn (off := 333) (tgt := 334) hc d_Model_reads_1 (by rw [hs5]; decide) (by rw [hs5]; decide) (by rw [hs5]; rfl) (by decide) ?_
    refine V_aload_n hc 0 d_Model_reads_334 rfl rfl ?_
    refine V_aload_n hc 0 d_Model_reads_335 rfl rfl ?_
    refine V_iconst (v := 4) hc d_Model_reads_336 (by decide) ?_
    obtain ⟨q76, hw⟩ := hw
    refine V_callV (rm' := rm_Model_number) (As := [.int (4)]) (rest := [va_rf (some v0)]) (n := 1) (cn := 0) hc rfl q76 (sat_Model_number (eG E) _ _ _ _ hw) rfl cv_Model_124 (gw_of (tw_5 (List.mem_of_getElem? (i := 173) rfl)) rfl) ss_Model_number rfl ⟨by decide, by decide⟩ (by decide) (by decide) rfl (by simp [cat_rf, cat_i, cat_l]) d_Model_reads_337 (fun r0 h77 hw => ?_)
    obtain ⟨r78, rfl, hw⟩ := hw
    refine V_wide (cs' := 0) (sl' := 0) (by decide) (by decide) ?_
    refine V_st (st' := [.long (r78), va_rf (some v0)]) rfl ?_
    refine V_l2i hc d_Model_reads_340 ?_
    obtain ⟨q79, hw⟩ := hw
    obtain ⟨q80, hw⟩ := hw
    obtain ⟨h81, eq_h81⟩ : ∃ x, x = mm_uI h77 (v0) 33 (Int64.toInt32 (r78)) := ⟨_, rfl⟩
    replace hw := hw _ eq_h81
    refine V_put (h' := h81) hc gf_Model_147 rfl rfl q79 q80 (by rw [eq_h81]; exact mm_Up_I _ _ _ _) (by rw [eq_h81]; exact up_vI rfl) (vp_nar_int _) rfl d_Model_reads_341 ?_
    refine V_aload_n hc 0 d_Model_reads_344 rfl rfl ?_
    refine V_aload_n hc 0 d_Model_reads_345 rfl rfl ?_
    refine V_iconst (v := 1) hc d_Model_reads_346 (by decide) ?_
    obtain ⟨q82, hw⟩ := hw
    refine V_callV (rm' := rm_Model_number) (As := [.int (1)]) (rest := [va_rf (some v0)]) (n := 1) (cn := 0) hc rfl q82 (sat_Model_number (eG E) _ _ _ _ hw) rfl cv_Model_124 (gw_of (tw_5 (List.mem_of_getElem? (i := 173) rfl)) rfl) ss_Model_number rfl ⟨by decide, by decide⟩ (by decide) (by decide) rfl (by simp [cat_rf, cat_i, cat_l]) d_Model_reads_347 (fun r0 h83 hw => ?_)
    obtain ⟨r84, rfl, hw⟩ := hw
    refine V_wide (cs' := 0) (sl' := 0) (by decide) (by decide) ?_
    refine V_st (st' := [.long (r84), va_rf (some v0)]) rfl ?_
    refine V_l2i hc d_Model_reads_350 ?_
    obtain ⟨q85, hw⟩ := hw
    obtain ⟨q86, hw⟩ := hw
    obtain ⟨h87, eq_h87⟩ : ∃ x, x = mm_uI h83 (v0) 35 (Int64.toInt32 (r84)) := ⟨_, rfl⟩
    replace hw := hw _ eq_h87
    refine V_put (h' := h87) hc gf_Model_156 rfl rfl q85 q86 (by rw [eq_h87]; exact mm_Up_I _ _ _ _) (by rw [eq_h87]; exact up_vI rfl) (vp_nar_int _) rfl d_Model_reads_351 ?_
    refine V_goto (tgt := 542) hc d_Model_reads_354 (by decide) ?_
    refine V_sub (lv' := []) [] rfl ?_
    exact vb_Model_reads_542 hc hq  _ hw
  by_cases hs6 : (v1) = (114 : Int32)
  · replace hw := hw.2.2.2.2.2.2.1 hs6
    refine V_tabIn (off := 356) (tgt := 357) hc d_Model_reads_1 (by rw [hs6]; decide) (by rw [hs6]; decide) (by rw [hs6]; rfl) (by decide) ?_
    refine V_aload_n hc 0 d_Model_reads_357 rfl rfl ?_
    refine V_aload_n hc 0 d_Model_reads_358 rfl rfl ?_
    refine V_iconst (v := 4) hc d_Model_reads_359 (by decide) ?_
    obtain ⟨q88, hw⟩ := hw
    refine V_callV (rm' := rm_Model_number) (As := [.int (4)]) (rest := [va_rf (some v0)]) (n := 1) (cn := 0) hc rfl q88 (sat_Model_number (eG E) _ _ _ _ hw) rfl cv_Model_124 (gw_of (tw_5 (List.mem_of_getElem? (i := 173) rfl)) rfl) ss_Model_number rfl ⟨by decide, by decide⟩ (by decide) (by decide) rfl (by simp [cat_rf, cat_i, cat_l]) d_Model_reads_360 (fun r0 h89 hw => ?_)
    obtain ⟨r90, rfl, hw⟩ := hw
    refine V_wide (cs' := 0) (sl' := 0) (by decide) (by decide) ?_
    refine V_st (st' := [.long (r90), va_rf (some v0)]) rfl ?_
    refine V_l2i hc d_Model_reads_363 ?_
    obtain ⟨q91, hw⟩ := hw
    obtain ⟨q92, hw⟩ := hw
    obtain ⟨h93, eq_h93⟩ : ∃ x, x = mm_uI h89 (v0) 33 (Int64.toInt32 (r90)) := ⟨_, rfl⟩
    replace hw := hw _ eq_h93
    refine V_put (h' := h93) hc gf_Model_147 rfl rfl q91 q92 (by rw [eq_h93]; exact mm_Up_I _ _ _ _) (by rw [eq_h93]; exact up_vI rfl) (vp_nar_int _) rfl d_Model_reads_364 ?_
    refine V_aload_n hc 0 d_Model_reads_367 rfl rfl ?_
    obtain ⟨q94, hw⟩ := hw
    refine V_callV (rm' := rm_Model_text) (As := []) (rest := []) (n := 0) (cn := 0) hc rfl q94 (sat_Model_text (eG E) _ _ _ hw) rfl cv_Model_138 (gw_of (tw_5 (List.mem_of_getElem? (i := 181) rfl)) rfl) ss_Model_text rfl ⟨by decide, by decide⟩ (by decide) (by decide) rfl (by simp [cat_rf, cat_i, cat_l]) d_Model_reads_368 (fun r0 h95 hw => ?_)
    obtain ⟨rfl, hw⟩ := hw
    refine V_wide (cs' := 0) (sl' := 0) (by decide) (by decide) ?_
    refine V_st (st' := []) rfl ?_
    refine V_aload_n hc 0 d_Model_reads_371 rfl rfl ?_
    refine V_aload_n hc 0 d_Model_reads_372 rfl rfl ?_
    obtain ⟨q97, hw⟩ := hw
    refine V_get (v := .int (mm_I h95 v0 31)) hc gf_Model_131 rfl q97 rfl d_Model_reads_373 ?_
    obtain ⟨q98, hw⟩ := hw
    obtain ⟨h99, eq_h99⟩ : ∃ x, x = mm_uI h95 (v0) 38 (mm_I h95 v0 31) := ⟨_, rfl⟩
    replace hw := hw _ eq_h99
    refine V_put (h' := h99) hc gf_Model_141 rfl rfl q97 q98 (by rw [eq_h99]; exact mm_Up_I _ _ _ _) (by rw [eq_h99]; exact up_vI rfl) (vp_nar_int _) rfl d_Model_reads_376 ?_
    refine V_aload_n hc 0 d_Model_reads_379 rfl rfl ?_
    refine V_aload_n hc 0 d_Model_reads_380 rfl rfl ?_
    obtain ⟨q100, hw⟩ := hw
    refine V_get (v := .int (mm_I h99 v0 32)) hc gf_Model_128 rfl q100 rfl d_Model_reads_381 ?_
    obtain ⟨q101, hw⟩ := hw
    obtain ⟨h102, eq_h102⟩ : ∃ x, x = mm_uI h99 (v0) 39 (mm_I h99 v0 32) := ⟨_, rfl⟩
    replace hw := hw _ eq_h102
    refine V_put (h' := h102) hc gf_Model_144 rfl rfl q100 q101 (by rw [eq_h102]; exact mm_Up_I _ _ _ _) (by rw [eq_h102]; exact up_vI rfl) (vp_nar_int _) rfl d_Model_reads_384 ?_
    refine V_aload_n hc 0 d_Model_reads_387 rfl rfl ?_
    refine V_aload_n hc 0 d_Model_reads_388 rfl rfl ?_
    refine V_iconst (v := 4) hc d_Model_reads_389 (by decide) ?_
    obtain ⟨q103, hw⟩ := hw
    refine V_callV (rm' := rm_Model_number) (As := [.int (4)]) (rest := [va_rf (some v0)]) (n := 1) (cn := 0) hc rfl q103 (sat_Model_number (eG E) _ _ _ _ hw) rfl cv_Model_124 (gw_of (tw_5 (List.mem_of_getElem? (i := 173) rfl)) rfl) ss_Model_number rfl ⟨by decide, by decide⟩ (by decide) (by decide) rfl (by simp [cat_rf, cat_i, cat_l]) d_Model_reads_390 (fun r0 h104 hw => ?_)
    obtain ⟨r105, rfl, hw⟩ := hw
    refine V_wide (cs' := 0) (sl' := 0) (by decide) (by decide) ?_
    refine V_st (st' := [.long (r105), va_rf (some v0)]) rfl ?_
    refine V_l2i hc d_Model_reads_393 ?_
    obtain ⟨q106, hw⟩ := hw
    obtain ⟨q107, hw⟩ := hw
    obtain ⟨h108, eq_h108⟩ : ∃ x, x = mm_uI h104 (v0) 36 (Int64.toInt32 (r105)) := ⟨_, rfl⟩
    replace hw := hw _ eq_h108
    refine V_put (h' := h108) hc gf_Model_159 rfl rfl q106 q107 (by rw [eq_h108]; exact mm_Up_I _ _ _ _) (by rw [eq_h108]; exact up_vI rfl) (vp_nar_int _) rfl d_Model_reads_394 ?_
    refine V_aload_n hc 0 d_Model_reads_397 rfl rfl ?_
    refine V_aload_n hc 0 d_Model_reads_398 rfl rfl ?_
    refine V_iconst (v := 1) hc d_Model_reads_399 (by decide) ?_
    obtain ⟨q109, hw⟩ := hw
    refine V_callV (rm' := rm_Model_number) (As := [.int (1)]) (rest := [va_rf (some v0)]) (n := 1) (cn := 0) hc rfl q109 (sat_Model_number (eG E) _ _ _ _ hw) rfl cv_Model_124 (gw_of (tw_5 (List.mem_of_getElem? (i := 173) rfl)) rfl) ss_Model_number rfl ⟨by decide, by decide⟩ (by decide) (by decide) rfl (by simp [cat_rf, cat_i, cat_l]) d_Model_reads_400 (fun r0 h110 hw => ?_)
    obtain ⟨r111, rfl, hw⟩ := hw
    refine V_wide (cs' := 0) (sl' := 0) (by decide) (by decide) ?_
    refine V_st (st' := [.long (r111), va_rf (some v0)]) rfl ?_
    refine V_l2i hc d_Model_reads_403 ?_
    obtain ⟨q112, hw⟩ := hw
    obtain ⟨q113, hw⟩ := hw
    obtain ⟨h114, eq_h114⟩ : ∃ x, x = mm_uI h110 (v0) 35 (Int64.toInt32 (r111)) := ⟨_, rfl⟩
    replace hw := hw _ eq_h114
    refine V_put (h' := h114) hc gf_Model_156 rfl rfl q112 q113 (by rw [eq_h114]; exact mm_Up_I _ _ _ _) (by rw [eq_h114]; exact up_vI rfl) (vp_nar_int _) rfl d_Model_reads_404 ?_
    refine V_goto (tgt := 542) hc d_Model_reads_407 (by decide) ?_
    refine V_sub (lv' := []) [] rfl ?_
    exact vb_Model_reads_542 hc hq  _ hw
  by_cases hs7 : (v1) = (116 : Int32)
  · replace hw := hw.2.2.2.2.2.2.2.1 hs7
    refine V_tabIn (off := 409) (tgt := 410) hc d_Model_reads_1 (by rw [hs7]; decide) (by rw [hs7]; decide) (by rw [hs7]; rfl) (by decide) ?_
    refine V_sub (lv' := [(0, va_rf (some v0)), (1, .int (v1))]) [0, 1] rfl ?_
    exact vb_Model_reads_410 hc hq  _ _ _ hw
  by_cases hs8 : (v1) = (118 : Int32)
  · replace hw := hw.2.2.2.2.2.2.2.2.1 hs8
    refine V_tabIn (off := 409) (tgt := 410) hc d_Model_reads_1 (by rw [hs8]; decide) (by rw [hs8]; decide) (by rw [hs8]; rfl) (by decide) ?_
    refine V_sub (lv' := [(0, va_rf (some v0)), (1, .int (v1))]) [0, 1] rfl ?_
    exact vb_Model_reads_410 hc hq  _ _ _ hw
  by_cases hs9 : (v1) = (120 : Int32)
  · replace hw := hw.2.2.2.2.2.2.2.2.2.1 hs9
    refine V_tabIn (off := 506) (tgt := 507) hc d_Model_reads_1 (by rw [hs9]; decide) (by rw [hs9]; decide) (by rw [hs9]; rfl) (by decide) ?_
    refine V_sub (lv' := [(0, va_rf (some v0))]) [0] rfl ?_
    exact vb_Model_reads_507 hc hq  _ _ hw
  by_cases hs10 : (v1) = (122 : Int32)
  · replace hw := hw.2.2.2.2.2.2.2.2.2.2.1 hs10
    refine V_tabIn (off := 506) (tgt := 507) hc d_Model_reads_1 (by rw [hs10]; decide) (by rw [hs10]; decide) (by rw [hs10]; rfl) (by decide) ?_
    refine V_sub (lv' := [(0, va_rf (some v0))]) [0] rfl ?_
    exact vb_Model_reads_507 hc hq  _ _ hw
  by_cases hs11 : (v1) = (124 : Int32)
  · replace hw := hw.2.2.2.2.2.2.2.2.2.2.2.1 hs11
    refine V_tabIn (off := 506) (tgt := 507) hc d_Model_reads_1 (by rw [hs11]; decide) (by rw [hs11]; decide) (by rw [hs11]; rfl) (by decide) ?_
    refine V_sub (lv' := [(0, va_rf (some v0))]) [0] rfl ?_
    exact vb_Model_reads_507 hc hq  _ _ hw
  by_cases hs12 : (v1) = (126 : Int32)
  · replace hw := hw.2.2.2.2.2.2.2.2.2.2.2.2.1 hs12
    refine V_tabIn (off := 519) (tgt := 520) hc d_Model_reads_1 (by rw [hs12]; decide) (by rw [hs12]; decide) (by rw [hs12]; rfl) (by decide) ?_
    refine V_aload_n hc 0 d_Model_reads_520 rfl rfl ?_
    refine V_aload_n hc 0 d_Model_reads_521 rfl rfl ?_
    refine V_iconst (v := 4) hc d_Model_reads_522 (by decide) ?_
    obtain ⟨q115, hw⟩ := hw
    refine V_callV (rm' := rm_Model_number) (As := [.int (4)]) (rest := [va_rf (some v0)]) (n := 1) (cn := 0) hc rfl q115 (sat_Model_number (eG E) _ _ _ _ hw) rfl cv_Model_124 (gw_of (tw_5 (List.mem_of_getElem? (i := 173) rfl)) rfl) ss_Model_number rfl ⟨by decide, by decide⟩ (by decide) (by decide) rfl (by simp [cat_rf, cat_i, cat_l]) d_Model_reads_523 (fun r0 h116 hw => ?_)
    obtain ⟨r117, rfl, hw⟩ := hw
    refine V_wide (cs' := 0) (sl' := 0) (by decide) (by decide) ?_
    refine V_st (st' := [.long (r117), va_rf (some v0)]) rfl ?_
    refine V_l2i hc d_Model_reads_526 ?_
    obtain ⟨q118, hw⟩ := hw
    obtain ⟨q119, hw⟩ := hw
    obtain ⟨h120, eq_h120⟩ : ∃ x, x = mm_uI h116 (v0) 33 (Int64.toInt32 (r117)) := ⟨_, rfl⟩
    replace hw := hw _ eq_h120
    refine V_put (h' := h120) hc gf_Model_147 rfl rfl q118 q119 (by rw [eq_h120]; exact mm_Up_I _ _ _ _) (by rw [eq_h120]; exact up_vI rfl) (vp_nar_int _) rfl d_Model_reads_527 ?_
    refine V_aload_n hc 0 d_Model_reads_530 rfl rfl ?_
    obtain ⟨q121, hw⟩ := hw
    refine V_callV (rm' := rm_Model_readsStat) (As := []) (rest := []) (n := 0) (cn := 0) hc rfl q121 (sat_Model_readsStat (eG E) _ _ _ hw) rfl cv_Model_168 (gw_of (tw_5 (List.mem_of_getElem? (i := 185) rfl)) rfl) ss_Model_readsStat rfl ⟨by decide, by decide⟩ (by decide) (by decide) rfl (by simp [cat_rf, cat_i, cat_l]) d_Model_reads_531 (fun r0 h122 hw => ?_)
    obtain ⟨rfl, hw⟩ := hw
    refine V_wide (cs' := 0) (sl' := 0) (by decide) (by decide) ?_
    refine V_st (st' := []) rfl ?_
    refine V_goto (tgt := 542) hc d_Model_reads_534 (by decide) ?_
    refine V_sub (lv' := []) [] rfl ?_
    exact vb_Model_reads_542 hc hq  _ hw
  replace hw := hw.2.2.2.2.2.2.2.2.2.2.2.2.2 ⟨hs0, hs1, hs2, hs3, hs4, hs5, hs6, hs7, hs8, hs9, hs10, hs11, hs12⟩
  suffices hsD : V E 3 0 0 h 537 [(0, va_rf (some v0)), (1, .int (v1))] [] by
    by_cases ht0 : (v1) = (101 : Int32)
    · exact V_tabIn (off := 536) (tgt := 537) hc d_Model_reads_1 (by rw [ht0]; decide) (by rw [ht0]; decide) (by rw [ht0]; rfl) (by decide) hsD
    by_cases ht1 : (v1) = (103 : Int32)
    · exact V_tabIn (off := 536) (tgt := 537) hc d_Model_reads_1 (by rw [ht1]; decide) (by rw [ht1]; decide) (by rw [ht1]; rfl) (by decide) hsD
    by_cases ht2 : (v1) = (105 : Int32)
    · exact V_tabIn (off := 536) (tgt := 537) hc d_Model_reads_1 (by rw [ht2]; decide) (by rw [ht2]; decide) (by rw [ht2]; rfl) (by decide) hsD
    by_cases ht3 : (v1) = (106 : Int32)
    · exact V_tabIn (off := 536) (tgt := 537) hc d_Model_reads_1 (by rw [ht3]; decide) (by rw [ht3]; decide) (by rw [ht3]; rfl) (by decide) hsD
    by_cases ht4 : (v1) = (107 : Int32)
    · exact V_tabIn (off := 536) (tgt := 537) hc d_Model_reads_1 (by rw [ht4]; decide) (by rw [ht4]; decide) (by rw [ht4]; rfl) (by decide) hsD
    by_cases ht5 : (v1) = (109 : Int32)
    · exact V_tabIn (off := 536) (tgt := 537) hc d_Model_reads_1 (by rw [ht5]; decide) (by rw [ht5]; decide) (by rw [ht5]; rfl) (by decide) hsD
    by_cases ht6 : (v1) = (111 : Int32)
    · exact V_tabIn (off := 536) (tgt := 537) hc d_Model_reads_1 (by rw [ht6]; decide) (by rw [ht6]; decide) (by rw [ht6]; rfl) (by decide) hsD
    by_cases ht7 : (v1) = (113 : Int32)
    · exact V_tabIn (off := 536) (tgt := 537) hc d_Model_reads_1 (by rw [ht7]; decide) (by rw [ht7]; decide) (by rw [ht7]; rfl) (by decide) hsD
    by_cases ht8 : (v1) = (115 : Int32)
    · exact V_tabIn (off := 536) (tgt := 537) hc d_Model_reads_1 (by rw [ht8]; decide) (by rw [ht8]; decide) (by rw [ht8]; rfl) (by decide) hsD
    by_cases ht9 : (v1) = (117 : Int32)
    · exact V_tabIn (off := 536) (tgt := 537) hc d_Model_reads_1 (by rw [ht9]; decide) (by rw [ht9]; decide) (by rw [ht9]; rfl) (by decide) hsD
    by_cases ht10 : (v1) = (119 : Int32)
    · exact V_tabIn (off := 536) (tgt := 537) hc d_Model_reads_1 (by rw [ht10]; decide) (by rw [ht10]; decide) (by rw [ht10]; rfl) (by decide) hsD
    by_cases ht11 : (v1) = (121 : Int32)
    · exact V_tabIn (off := 536) (tgt := 537) hc d_Model_reads_1 (by rw [ht11]; decide) (by rw [ht11]; decide) (by rw [ht11]; rfl) (by decide) hsD
    by_cases ht12 : (v1) = (123 : Int32)
    · exact V_tabIn (off := 536) (tgt := 537) hc d_Model_reads_1 (by rw [ht12]; decide) (by rw [ht12]; decide) (by rw [ht12]; rfl) (by decide) hsD
    by_cases ht13 : (v1) = (125 : Int32)
    · exact V_tabIn (off := 536) (tgt := 537) hc d_Model_reads_1 (by rw [ht13]; decide) (by rw [ht13]; decide) (by rw [ht13]; rfl) (by decide) hsD
    have nhs0 := lv_neT (a := 100) hs0 (by decide)
    have nhs1 := lv_neT (a := 102) hs1 (by decide)
    have nhs2 := lv_neT (a := 104) hs2 (by decide)
    have nhs3 := lv_neT (a := 108) hs3 (by decide)
    have nhs4 := lv_neT (a := 110) hs4 (by decide)
    have nhs5 := lv_neT (a := 112) hs5 (by decide)
    have nhs6 := lv_neT (a := 114) hs6 (by decide)
    have nhs7 := lv_neT (a := 116) hs7 (by decide)
    have nhs8 := lv_neT (a := 118) hs8 (by decide)
    have nhs9 := lv_neT (a := 120) hs9 (by decide)
    have nhs10 := lv_neT (a := 122) hs10 (by decide)
    have nhs11 := lv_neT (a := 124) hs11 (by decide)
    have nhs12 := lv_neT (a := 126) hs12 (by decide)
    have nht0 := lv_neT (a := 101) ht0 (by decide)
    have nht1 := lv_neT (a := 103) ht1 (by decide)
    have nht2 := lv_neT (a := 105) ht2 (by decide)
    have nht3 := lv_neT (a := 106) ht3 (by decide)
    have nht4 := lv_neT (a := 107) ht4 (by decide)
    have nht5 := lv_neT (a := 109) ht5 (by decide)
    have nht6 := lv_neT (a := 111) ht6 (by decide)
    have nht7 := lv_neT (a := 113) ht7 (by decide)
    have nht8 := lv_neT (a := 115) ht8 (by decide)
    have nht9 := lv_neT (a := 117) ht9 (by decide)
    have nht10 := lv_neT (a := 119) ht10 (by decide)
    have nht11 := lv_neT (a := 121) ht11 (by decide)
    have nht12 := lv_neT (a := 123) ht12 (by decide)
    have nht13 := lv_neT (a := 125) ht13 (by decide)
    exact V_tabOut (tgt := 537) hc d_Model_reads_1 (by omega) (by decide) hsD
  refine V_aload_n hc 0 d_Model_reads_537 rfl rfl ?_
  refine V_iconst (v := 0) hc d_Model_reads_538 (by decide) ?_
  obtain ⟨q124, hw⟩ := hw
  obtain ⟨q125, hw⟩ := hw
  obtain ⟨h126, eq_h126⟩ : ∃ x, x = mm_uI h (v0) 30 (0) := ⟨_, rfl⟩
  replace hw := hw _ eq_h126
  refine V_put (h' := h126) hc gf_Model_120 rfl rfl q124 q125 (by rw [eq_h126]; exact mm_Up_I _ _ _ _) (by rw [eq_h126]; exact up_vI rfl) (by decide) (by decide) d_Model_reads_539 ?_
  refine V_sub (lv' := []) [] rfl ?_
  exact vb_Model_reads_542 hc hq  _ hw
def wq_Model_reads (ge : Nat → Nat) (v0 : Nat) (v1 : Int32) (h : mm_M) (Z : mm_M → Prop) : Prop := wq_Model_reads_0 ge v0 v1 h Z
theorem sat_Model_reads (G : mm_G) (v0 : Nat) (v1 : Int32) (h : mm_M) (Z : mm_M → Prop) (hw : wq_Model_reads (mm_ge G) v0 v1 h Z) : mm_Met G y_Model_reads c_Model_reads 3 none rm_Model_reads [va_rf (some v0), .int (v1)] h (pV Z) := by
  refine mm_intro (own := "EpochServerModel") (by decide) rfl (by simp [lg_sl, cat_rf, cat_i, cat_l]) (fun E e1 hc hq hi => ?_)
  subst e1
  have e2 : lv_args 0 [va_rf (some v0), .int (v1)] = [(0, va_rf (some v0)), (1, .int (v1))] := by simp [lv_args, cat_rf, cat_i, cat_l]
  rw [e2]
  refine V_sub (lv' := [(0, va_rf (some v0)), (1, .int (v1))]) [0, 1] rfl ?_
  exact vb_Model_reads_0 hc hq v0 v1 h hw
/-! Model.fails(ZI)Z -/
abbrev rm_Model_fails : Room := { frames := 0, cells := 0, slots := 0, locals := 0 }
def wq_Model_fails_9  (ge : Nat → Nat) (v1 : Int32) (h : mm_M) (Z : Int32 → mm_M → Prop) : Prop :=
  ((v1) = 0 ∨ (v1) = 1) ∧ Z (v1) h
def wq_Model_fails_0  (ge : Nat → Nat) (v0 : Nat) (v1 : Int32) (v2 : Int32) (h : mm_M) (Z : Int32 → mm_M → Prop) : Prop :=
  (((v1) = 0 → wq_Model_fails_9  ge (v1) h Z) ∧ (¬ (v1) = 0 → mm_k h (v0) = kd_Model ∧ ge 0 ≤ v0 ∧ ∀ h3 : mm_M, h3 = mm_uI h (v0) 53 (v2) → wq_Model_fails_9  ge (v1) h3 Z))
set_option maxRecDepth 100000 in
set_option maxHeartbeats 4000000 in
theorem vb_Model_fails_9 {E : mm_E} {Z : Int32 → mm_M → Prop} (hc : cx E "EpochServerModel" c_Model_fails 3 (some (.boolean)) rm_Model_fails) (hq : cq E rm_Model_fails (pI Z))  (v1 : Int32) (h : mm_M) (hw : wq_Model_fails_9  (mm_ge (eG E)) v1 h Z) : V E 3 0 0 h 9 [(1, .int (v1))] [] := by
  unfold wq_Model_fails_9 at hw
  refine V_iload_n hc 0 d_Model_fails_9 rfl rfl ?_
  obtain ⟨q1, hw⟩ := hw
  exact V_zret hc hq (zz_nar q1) ⟨_, rfl, hw⟩ (by decide) (by decide) d_Model_fails_10
set_option maxRecDepth 100000 in
set_option maxHeartbeats 4000000 in
theorem vb_Model_fails_0 {E : mm_E} {Z : Int32 → mm_M → Prop} (hc : cx E "EpochServerModel" c_Model_fails 3 (some (.boolean)) rm_Model_fails) (hq : cq E rm_Model_fails (pI Z))  (v0 : Nat) (v1 : Int32) (v2 : Int32) (h : mm_M) (hw : wq_Model_fails_0  (mm_ge (eG E)) v0 v1 v2 h Z) : V E 3 0 0 h 0 [(0, va_rf (some v0)), (1, .int (v1)), (2, .int (v2))] [] := by
  unfold wq_Model_fails_0 at hw
  refine V_iload_n hc 1 d_Model_fails_0 rfl rfl ?_
  refine V_if_eq (tgt := 9) hc d_Model_fails_1 (by decide) (fun hq1 => ?_) (fun hq1 => ?_)
  · replace hw := hw.1 hq1
    refine V_sub (lv' := [(1, .int (v1))]) [1] rfl ?_
    exact vb_Model_fails_9 hc hq  _ _ hw
  · replace hw := hw.2 hq1
    refine V_aload_n hc 0 d_Model_fails_4 rfl rfl ?_
    refine V_iload_n hc 2 d_Model_fails_5 rfl rfl ?_
    obtain ⟨q1, hw⟩ := hw
    obtain ⟨q2, hw⟩ := hw
    obtain ⟨h3, eq_h3⟩ : ∃ x, x = mm_uI h (v0) 53 (v2) := ⟨_, rfl⟩
    replace hw := hw _ eq_h3
    refine V_put (h' := h3) hc gf_Model_200 rfl rfl q1 q2 (by rw [eq_h3]; exact mm_Up_I _ _ _ _) (by rw [eq_h3]; exact up_vI rfl) (vp_nar_int _) rfl d_Model_fails_6 ?_
    refine V_sub (lv' := [(1, .int (v1))]) [1] rfl ?_
    exact vb_Model_fails_9 hc hq  _ _ hw
def wq_Model_fails (ge : Nat → Nat) (v0 : Nat) (v1 : Int32) (v2 : Int32) (h : mm_M) (Z : Int32 → mm_M → Prop) : Prop := wq_Model_fails_0 ge v0 v1 v2 h Z
theorem sat_Model_fails (G : mm_G) (v0 : Nat) (v1 : Int32) (v2 : Int32) (h : mm_M) (Z : Int32 → mm_M → Prop) (hw : wq_Model_fails (mm_ge G) v0 v1 v2 h Z) : mm_Met G y_Model_fails c_Model_fails 3 (some (.boolean)) rm_Model_fails [va_rf (some v0), .int (v1), .int (v2)] h (pI Z) := by
  refine mm_intro (own := "EpochServerModel") (by decide) rfl (by simp [lg_sl, cat_rf, cat_i, cat_l]) (fun E e1 hc hq hi => ?_)
  subst e1
  have e2 : lv_args 0 [va_rf (some v0), .int (v1), .int (v2)] = [(0, va_rf (some v0)), (1, .int (v1)), (2, .int (v2))] := by simp [lv_args, cat_rf, cat_i, cat_l]
  rw [e2]
  refine V_sub (lv' := [(0, va_rf (some v0)), (1, .int (v1)), (2, .int (v2))]) [0, 1, 2] rfl ?_
  exact vb_Model_fails_0 hc hq v0 v1 v2 h hw
/-! Model.put(JI)V -/
abbrev rm_Model_put : Room := { frames := 0, cells := 0, slots := 0, locals := 0 }
def wq_Model_put_3 (X3 : Nat → Int64 → Int32 → Int32 → mm_M → Prop) (ge : Nat → Nat) (v0 : Nat) (v1 : Int64) (v3 : Int32) (v4 : Int32) (h : mm_M) (Z : mm_M → Prop) : Prop :=
  (((v3 : Int32) ≤ (v4 : Int32) → Z h) ∧ (¬ (v3 : Int32) ≤ (v4 : Int32) → mm_k h (v0) = kd_Model ∧ ∃ a2, mm_P h v0 15 = some a2 ∧ mm_k h (a2) = ka_I ∧ vp_in (mm_I h v0 17) (mm_n h a2) ∧ ge 0 ≤ a2 ∧ ∀ h7 : mm_M, h7 = mm_uI h a2 (Int32.toNatClampNeg (mm_I h v0 17)) (Int64.toInt32 (((v1) >>> (((8 : Int32) * (v4)).toInt64 &&& 63)) &&& (255 : Int64))) → mm_k h7 (v0) = kd_Model ∧ ge 0 ≤ v0 ∧ ∀ h10 : mm_M, h10 = mm_uI h7 (v0) 17 ((mm_I h7 v0 17) + (1 : Int32)) → X3 (v0) (v1) (v3) (v4 + 1) h10))
def lp_Model_put_3  (ge : Nat → Nat) (v0 : Nat) (v1 : Int64) (v3 : Int32) (v4 : Int32) (h : mm_M) (Z : mm_M → Prop) : Prop :=
  ∀ X3 : Nat → Int64 → Int32 → Int32 → mm_M → Prop, (∀ (v0 : Nat) (v1 : Int64) (v3 : Int32) (v4 : Int32) (h : mm_M), wq_Model_put_3 X3 ge v0 v1 v3 v4 h Z → X3 v0 v1 v3 v4 h) → X3 v0 v1 v3 v4 h
def wq_Model_put_0  (ge : Nat → Nat) (v0 : Nat) (v1 : Int64) (v3 : Int32) (h : mm_M) (Z : mm_M → Prop) : Prop :=
  lp_Model_put_3  ge (v0) (v1) (v3) (0) h Z
set_option maxRecDepth 100000 in
set_option maxHeartbeats 4000000 in
theorem vb_Model_put_3 {E : mm_E} {Z : mm_M → Prop} (hc : cx E "EpochServerModel" c_Model_put 5 none rm_Model_put) (hq : cq E rm_Model_put (pV Z)) (X3 : Nat → Int64 → Int32 → Int32 → mm_M → Prop) (hX3 : ∀ (v0 : Nat) (v1 : Int64) (v3 : Int32) (v4 : Int32) (h : mm_M), X3 v0 v1 v3 v4 h → V E 5 0 0 h 3 [(0, va_rf (some v0)), (1, .long (v1)), (3, .int (v3)), (4, .int (v4))] []) (v0 : Nat) (v1 : Int64) (v3 : Int32) (v4 : Int32) (h : mm_M) (hw : wq_Model_put_3 X3 (mm_ge (eG E)) v0 v1 v3 v4 h Z) : V E 5 0 0 h 3 [(0, va_rf (some v0)), (1, .long (v1)), (3, .int (v3)), (4, .int (v4))] [] := by
  unfold wq_Model_put_3 at hw
  refine V_iload hc 3 d_Model_put_3 rfl ?_
  refine V_iload_n hc 2 d_Model_put_5 rfl rfl ?_
  refine V_icmp_ge (tgt := 46) hc d_Model_put_6 (by decide) (fun hq1 => ?_) (fun hq1 => ?_)
  · replace hw := hw.1 hq1
    exact V_vret hc hq ⟨rfl, hw⟩ (by decide) (by decide) d_Model_put_46
  · replace hw := hw.2 hq1
    refine V_aload_n hc 0 d_Model_put_9 rfl rfl ?_
    obtain ⟨q1, hw⟩ := hw
    refine V_get (v := va_rf (mm_P h v0 15)) hc gf_Model_47 rfl q1 rfl d_Model_put_10 ?_
    refine V_aload_n hc 0 d_Model_put_13 rfl rfl ?_
    refine V_get (v := .int (mm_I h v0 17)) hc gf_Model_197 rfl q1 rfl d_Model_put_14 ?_
    refine V_lload_n hc 1 d_Model_put_17 rfl rfl ?_
    refine V_bipush (v := 8) hc d_Model_put_18 (by decide) ?_
    refine V_iload hc 3 d_Model_put_20 rfl ?_
    refine V_imul hc d_Model_put_22 ?_
    refine V_lshr hc d_Model_put_23 ?_
    refine V_ldc2 (v := 255) hc (gw_of (tw_6 (List.mem_of_getElem? (i := 17) rfl)) rfl) d_Model_put_24 ?_
    refine V_land hc d_Model_put_27 ?_
    refine V_l2i hc d_Model_put_28 ?_
    obtain ⟨a2, q3, hw⟩ := hw
    obtain ⟨q4, hw⟩ := hw
    obtain ⟨q5, hw⟩ := hw
    obtain ⟨q6, hw⟩ := hw
    obtain ⟨h7, eq_h7⟩ : ∃ x, x = mm_uI h a2 (Int32.toNatClampNeg (mm_I h v0 17)) (Int64.toInt32 (((v1) >>> (((8 : Int32) * (v4)).toInt64 &&& 63)) &&& (255 : Int64))) := ⟨_, rfl⟩
    replace hw := hw _ eq_h7
    refine V_iast hc q3 q4 q5 q6 d_Model_put_29 ?_
    rw [← eq_h7]
    refine V_aload_n hc 0 d_Model_put_30 rfl rfl ?_
    refine V_dup hc d_Model_put_31 (cat_rf _) ?_
    obtain ⟨q8, hw⟩ := hw
    refine V_get (v := .int (mm_I h7 v0 17)) hc gf_Model_197 rfl q8 rfl d_Model_put_32 ?_
    refine V_iconst (v := 1) hc d_Model_put_35 (by decide) ?_
    refine V_iadd hc d_Model_put_36 ?_
    obtain ⟨q9, hw⟩ := hw
    obtain ⟨h10, eq_h10⟩ : ∃ x, x = mm_uI h7 (v0) 17 ((mm_I h7 v0 17) + (1 : Int32)) := ⟨_, rfl⟩
    replace hw := hw _ eq_h10
    refine V_put (h' := h10) hc gf_Model_197 rfl rfl q8 q9 (by rw [eq_h10]; exact mm_Up_I _ _ _ _) (by rw [eq_h10]; exact up_vI rfl) (vp_nar_int _) rfl d_Model_put_37 ?_
    refine V_iinc (v := v4 + 1) (lv' := [(4, .int (v4 + 1)), (0, va_rf (some v0)), (1, .long (v1)), (3, .int (v3))]) hc 3 d_Model_put_40 rfl rfl (by decide) rfl ?_
    refine V_goto (tgt := 3) hc d_Model_put_43 (by decide) ?_
    refine V_sub (lv' := [(0, va_rf (some v0)), (1, .long (v1)), (3, .int (v3)), (4, .int (v4 + 1))]) [1, 2, 3, 0] rfl ?_
    exact hX3 _ _ _ _ _ hw
theorem vl_Model_put_3 {E : mm_E} {Z : mm_M → Prop} (hc : cx E "EpochServerModel" c_Model_put 5 none rm_Model_put) (hq : cq E rm_Model_put (pV Z))  (v0 : Nat) (v1 : Int64) (v3 : Int32) (v4 : Int32) (h : mm_M) (hw : lp_Model_put_3  (mm_ge (eG E)) v0 v1 v3 v4 h Z) : V E 5 0 0 h 3 [(0, va_rf (some v0)), (1, .long (v1)), (3, .int (v3)), (4, .int (v4))] [] :=
  hw (fun v0 v1 v3 v4 h => V E 5 0 0 h 3 [(0, va_rf (some v0)), (1, .long (v1)), (3, .int (v3)), (4, .int (v4))] []) (fun v0 v1 v3 v4 h hb => vb_Model_put_3 hc hq  _ (fun _ _ _ _ _ q => q) v0 v1 v3 v4 h hb)
set_option maxRecDepth 100000 in
set_option maxHeartbeats 4000000 in
theorem vb_Model_put_0 {E : mm_E} {Z : mm_M → Prop} (hc : cx E "EpochServerModel" c_Model_put 5 none rm_Model_put) (hq : cq E rm_Model_put (pV Z))  (v0 : Nat) (v1 : Int64) (v3 : Int32) (h : mm_M) (hw : wq_Model_put_0  (mm_ge (eG E)) v0 v1 v3 h Z) : V E 5 0 0 h 0 [(0, va_rf (some v0)), (1, .long (v1)), (3, .int (v3))] [] := by
  unfold wq_Model_put_0 at hw
  refine V_iconst (v := 0) hc d_Model_put_0 (by decide) ?_
  refine V_istore (i := 4) (lv' := [(4, .int (0)), (0, va_rf (some v0)), (1, .long (v1)), (3, .int (v3))]) hc d_Model_put_1 (by decide) rfl ?_
  refine V_sub (lv' := [(0, va_rf (some v0)), (1, .long (v1)), (3, .int (v3)), (4, .int (0))]) [1, 2, 3, 0] rfl ?_
  exact vl_Model_put_3 hc hq  _ _ _ _ _ hw
def wq_Model_put (ge : Nat → Nat) (v0 : Nat) (v1 : Int64) (v3 : Int32) (h : mm_M) (Z : mm_M → Prop) : Prop := wq_Model_put_0 ge v0 v1 v3 h Z
theorem sat_Model_put (G : mm_G) (v0 : Nat) (v1 : Int64) (v3 : Int32) (h : mm_M) (Z : mm_M → Prop) (hw : wq_Model_put (mm_ge G) v0 v1 v3 h Z) : mm_Met G y_Model_put c_Model_put 5 none rm_Model_put [va_rf (some v0), .long (v1), .int (v3)] h (pV Z) := by
  refine mm_intro (own := "EpochServerModel") (by decide) rfl (by simp [lg_sl, cat_rf, cat_i, cat_l]) (fun E e1 hc hq hi => ?_)
  subst e1
  have e2 : lv_args 0 [va_rf (some v0), .long (v1), .int (v3)] = [(0, va_rf (some v0)), (1, .long (v1)), (3, .int (v3))] := by simp [lv_args, cat_rf, cat_i, cat_l]
  rw [e2]
  refine V_sub (lv' := [(0, va_rf (some v0)), (1, .long (v1)), (3, .int (v3))]) [0, 1, 2] rfl ?_
  exact vb_Model_put_0 hc hq v0 v1 v3 h hw
/-! Model.fidOf(I)I -/
abbrev rm_Model_fidOf : Room := { frames := 0, cells := 0, slots := 0, locals := 0 }
def wq_Model_fidOf_2 (X2 : Nat → Int32 → Int32 → mm_M → Prop) (ge : Nat → Nat) (v0 : Nat) (v1 : Int32) (v2 : Int32) (h : mm_M) (Z : Int32 → mm_M → Prop) : Prop :=
  mm_k h (v0) = kd_Model ∧ (((mm_I h v0 27 : Int32) ≤ (v2 : Int32) → Z ((-1)) h) ∧ (¬ (mm_I h v0 27 : Int32) ≤ (v2 : Int32) → ∃ a2, mm_P h v0 21 = some a2 ∧ mm_k h (a2) = ka_I ∧ vp_in (v2) (mm_n h a2) ∧ ((¬ (mm_I h a2 (Int32.toNatClampNeg (v2)) : Int32) = (v1 : Int32) → X2 (v0) (v1) (v2 + 1) h) ∧ ((mm_I h a2 (Int32.toNatClampNeg (v2)) : Int32) = (v1 : Int32) → Z (v2) h))))
def lp_Model_fidOf_2  (ge : Nat → Nat) (v0 : Nat) (v1 : Int32) (v2 : Int32) (h : mm_M) (Z : Int32 → mm_M → Prop) : Prop :=
  ∀ X2 : Nat → Int32 → Int32 → mm_M → Prop, (∀ (v0 : Nat) (v1 : Int32) (v2 : Int32) (h : mm_M), wq_Model_fidOf_2 X2 ge v0 v1 v2 h Z → X2 v0 v1 v2 h) → X2 v0 v1 v2 h
def wq_Model_fidOf_0  (ge : Nat → Nat) (v0 : Nat) (v1 : Int32) (h : mm_M) (Z : Int32 → mm_M → Prop) : Prop :=
  lp_Model_fidOf_2  ge (v0) (v1) (0) h Z
set_option maxRecDepth 100000 in
set_option maxHeartbeats 4000000 in
theorem vb_Model_fidOf_2 {E : mm_E} {Z : Int32 → mm_M → Prop} (hc : cx E "EpochServerModel" c_Model_fidOf 3 (some (.int)) rm_Model_fidOf) (hq : cq E rm_Model_fidOf (pI Z)) (X2 : Nat → Int32 → Int32 → mm_M → Prop) (hX2 : ∀ (v0 : Nat) (v1 : Int32) (v2 : Int32) (h : mm_M), X2 v0 v1 v2 h → V E 3 0 0 h 2 [(0, va_rf (some v0)), (1, .int (v1)), (2, .int (v2))] []) (v0 : Nat) (v1 : Int32) (v2 : Int32) (h : mm_M) (hw : wq_Model_fidOf_2 X2 (mm_ge (eG E)) v0 v1 v2 h Z) : V E 3 0 0 h 2 [(0, va_rf (some v0)), (1, .int (v1)), (2, .int (v2))] [] := by
  unfold wq_Model_fidOf_2 at hw
  refine V_iload_n hc 2 d_Model_fidOf_2 rfl rfl ?_
  refine V_aload_n hc 0 d_Model_fidOf_3 rfl rfl ?_
  obtain ⟨q1, hw⟩ := hw
  refine V_get (v := .int (mm_I h v0 27)) hc gf_Model_240 rfl q1 rfl d_Model_fidOf_4 ?_
  refine V_icmp_ge (tgt := 28) hc d_Model_fidOf_7 (by decide) (fun hq1 => ?_) (fun hq1 => ?_)
  · replace hw := hw.1 hq1
    refine V_iconst (v := (-1)) hc d_Model_fidOf_28 (by decide) ?_
    exact V_iret hc hq ⟨_, rfl, hw⟩ (by decide) (by decide) d_Model_fidOf_29
  · replace hw := hw.2 hq1
    refine V_aload_n hc 0 d_Model_fidOf_10 rfl rfl ?_
    refine V_get (v := va_rf (mm_P h v0 21)) hc gf_Model_50 rfl q1 rfl d_Model_fidOf_11 ?_
    refine V_iload_n hc 2 d_Model_fidOf_14 rfl rfl ?_
    obtain ⟨a2, q3, hw⟩ := hw
    obtain ⟨q4, hw⟩ := hw
    obtain ⟨q5, hw⟩ := hw
    refine V_iald hc q3 q4 q5 d_Model_fidOf_15 ?_
    refine V_iload_n hc 1 d_Model_fidOf_16 rfl rfl ?_
    refine V_icmp_ne (tgt := 22) hc d_Model_fidOf_17 (by decide) (fun hq1 => ?_) (fun hq1 => ?_)
    · replace hw := hw.1 hq1
      refine V_iinc (v := v2 + 1) (lv' := [(2, .int (v2 + 1)), (0, va_rf (some v0)), (1, .int (v1))]) hc 2 d_Model_fidOf_22 rfl rfl (by decide) rfl ?_
      refine V_goto (tgt := 2) hc d_Model_fidOf_25 (by decide) ?_
      refine V_sub (lv' := [(0, va_rf (some v0)), (1, .int (v1)), (2, .int (v2 + 1))]) [1, 2, 0] rfl ?_
      exact hX2 _ _ _ _ hw
    · replace hw := hw.2 hq1
      refine V_iload_n hc 2 d_Model_fidOf_20 rfl rfl ?_
      exact V_iret hc hq ⟨_, rfl, hw⟩ (by decide) (by decide) d_Model_fidOf_21
theorem vl_Model_fidOf_2 {E : mm_E} {Z : Int32 → mm_M → Prop} (hc : cx E "EpochServerModel" c_Model_fidOf 3 (some (.int)) rm_Model_fidOf) (hq : cq E rm_Model_fidOf (pI Z))  (v0 : Nat) (v1 : Int32) (v2 : Int32) (h : mm_M) (hw : lp_Model_fidOf_2  (mm_ge (eG E)) v0 v1 v2 h Z) : V E 3 0 0 h 2 [(0, va_rf (some v0)), (1, .int (v1)), (2, .int (v2))] [] :=
  hw (fun v0 v1 v2 h => V E 3 0 0 h 2 [(0, va_rf (some v0)), (1, .int (v1)), (2, .int (v2))] []) (fun v0 v1 v2 h hb => vb_Model_fidOf_2 hc hq  _ (fun _ _ _ _ q => q) v0 v1 v2 h hb)
set_option maxRecDepth 100000 in
set_option maxHeartbeats 4000000 in
theorem vb_Model_fidOf_0 {E : mm_E} {Z : Int32 → mm_M → Prop} (hc : cx E "EpochServerModel" c_Model_fidOf 3 (some (.int)) rm_Model_fidOf) (hq : cq E rm_Model_fidOf (pI Z))  (v0 : Nat) (v1 : Int32) (h : mm_M) (hw : wq_Model_fidOf_0  (mm_ge (eG E)) v0 v1 h Z) : V E 3 0 0 h 0 [(0, va_rf (some v0)), (1, .int (v1))] [] := by
  unfold wq_Model_fidOf_0 at hw
  refine V_iconst (v := 0) hc d_Model_fidOf_0 (by decide) ?_
  refine V_istore_n (i := 2) (lv' := [(2, .int (0)), (0, va_rf (some v0)), (1, .int (v1))]) hc d_Model_fidOf_1 rfl (by decide) rfl ?_
  refine V_sub (lv' := [(0, va_rf (some v0)), (1, .int (v1)), (2, .int (0))]) [1, 2, 0] rfl ?_
  exact vl_Model_fidOf_2 hc hq  _ _ _ _ hw
def wq_Model_fidOf (ge : Nat → Nat) (v0 : Nat) (v1 : Int32) (h : mm_M) (Z : Int32 → mm_M → Prop) : Prop := wq_Model_fidOf_0 ge v0 v1 h Z
theorem sat_Model_fidOf (G : mm_G) (v0 : Nat) (v1 : Int32) (h : mm_M) (Z : Int32 → mm_M → Prop) (hw : wq_Model_fidOf (mm_ge G) v0 v1 h Z) : mm_Met G y_Model_fidOf c_Model_fidOf 3 (some (.int)) rm_Model_fidOf [va_rf (some v0), .int (v1)] h (pI Z) := by
  refine mm_intro (own := "EpochServerModel") (by decide) rfl (by simp [lg_sl, cat_rf, cat_i, cat_l]) (fun E e1 hc hq hi => ?_)
  subst e1
  have e2 : lv_args 0 [va_rf (some v0), .int (v1)] = [(0, va_rf (some v0)), (1, .int (v1))] := by simp [lv_args, cat_rf, cat_i, cat_l]
  rw [e2]
  refine V_sub (lv' := [(0, va_rf (some v0)), (1, .int (v1))]) [0, 1] rfl ?_
  exact vb_Model_fidOf_0 hc hq v0 v1 h hw
/-! Model.place(IIII)V -/
abbrev rm_Model_place : Room := { frames := 0, cells := 0, slots := 0, locals := 0 }
def wq_Model_place_0  (ge : Nat → Nat) (v0 : Nat) (v1 : Int32) (v2 : Int32) (v3 : Int32) (v4 : Int32) (h : mm_M) (Z : mm_M → Prop) : Prop :=
  mm_k h (v0) = kd_Model ∧ ∃ a2, mm_P h v0 21 = some a2 ∧ mm_k h (a2) = ka_I ∧ vp_in (v1) (mm_n h a2) ∧ ge 0 ≤ a2 ∧ ∀ h7 : mm_M, h7 = mm_uI h a2 (Int32.toNatClampNeg (v1)) (v2) → mm_k h7 (v0) = kd_Model ∧ ∃ a9, mm_P h7 v0 22 = some a9 ∧ mm_k h7 (a9) = ka_I ∧ vp_in (v1) (mm_n h7 a9) ∧ ge 0 ≤ a9 ∧ ∀ h14 : mm_M, h14 = mm_uI h7 a9 (Int32.toNatClampNeg (v1)) (v3) → mm_k h14 (v0) = kd_Model ∧ ∃ a16, mm_P h14 v0 23 = some a16 ∧ mm_k h14 (a16) = ka_I ∧ vp_in (v1) (mm_n h14 a16) ∧ ge 0 ≤ a16 ∧ ∀ h21 : mm_M, h21 = mm_uI h14 a16 (Int32.toNatClampNeg (v1)) (v4) → mm_k h21 (v0) = kd_Model ∧ ∃ a23, mm_P h21 v0 24 = some a23 ∧ mm_k h21 (a23) = ka_I ∧ vp_in (v1) (mm_n h21 a23) ∧ ge 0 ≤ a23 ∧ ∀ h28 : mm_M, h28 = mm_uI h21 a23 (Int32.toNatClampNeg (v1)) ((-1)) → mm_k h28 (v0) = kd_Model ∧ ∃ a30, mm_P h28 v0 25 = some a30 ∧ mm_k h28 (a30) = ka_I ∧ vp_in (v1) (mm_n h28 a30) ∧ ge 0 ≤ a30 ∧ ∀ h35 : mm_M, h35 = mm_uI h28 a30 (Int32.toNatClampNeg (v1)) (0) → mm_k h35 (v0) = kd_Model ∧ ∃ a37, mm_P h35 v0 26 = some a37 ∧ mm_k h35 (a37) = ka_I ∧ vp_in (v1) (mm_n h35 a37) ∧ ge 0 ≤ a37 ∧ ∀ h42 : mm_M, h42 = mm_uI h35 a37 (Int32.toNatClampNeg (v1)) ((-1)) → Z h42
set_option maxRecDepth 100000 in
set_option maxHeartbeats 4000000 in
theorem vb_Model_place_0 {E : mm_E} {Z : mm_M → Prop} (hc : cx E "EpochServerModel" c_Model_place 5 none rm_Model_place) (hq : cq E rm_Model_place (pV Z))  (v0 : Nat) (v1 : Int32) (v2 : Int32) (v3 : Int32) (v4 : Int32) (h : mm_M) (hw : wq_Model_place_0  (mm_ge (eG E)) v0 v1 v2 v3 v4 h Z) : V E 5 0 0 h 0 [(0, va_rf (some v0)), (1, .int (v1)), (2, .int (v2)), (3, .int (v3)), (4, .int (v4))] [] := by
  unfold wq_Model_place_0 at hw
  refine V_aload_n hc 0 d_Model_place_0 rfl rfl ?_
  obtain ⟨q1, hw⟩ := hw
  refine V_get (v := va_rf (mm_P h v0 21)) hc gf_Model_50 rfl q1 rfl d_Model_place_1 ?_
  refine V_iload_n hc 1 d_Model_place_4 rfl rfl ?_
  refine V_iload_n hc 2 d_Model_place_5 rfl rfl ?_
  obtain ⟨a2, q3, hw⟩ := hw
  obtain ⟨q4, hw⟩ := hw
  obtain ⟨q5, hw⟩ := hw
  obtain ⟨q6, hw⟩ := hw
  obtain ⟨h7, eq_h7⟩ : ∃ x, x = mm_uI h a2 (Int32.toNatClampNeg (v1)) (v2) := ⟨_, rfl⟩
  replace hw := hw _ eq_h7
  refine V_iast hc q3 q4 q5 q6 d_Model_place_6 ?_
  rw [← eq_h7]
  refine V_aload_n hc 0 d_Model_place_7 rfl rfl ?_
  obtain ⟨q8, hw⟩ := hw
  refine V_get (v := va_rf (mm_P h7 v0 22)) hc gf_Model_53 rfl q8 rfl d_Model_place_8 ?_
  refine V_iload_n hc 1 d_Model_place_11 rfl rfl ?_
  refine V_iload_n hc 3 d_Model_place_12 rfl rfl ?_
  obtain ⟨a9, q10, hw⟩ := hw
  obtain ⟨q11, hw⟩ := hw
  obtain ⟨q12, hw⟩ := hw
  obtain ⟨q13, hw⟩ := hw
  obtain ⟨h14, eq_h14⟩ : ∃ x, x = mm_uI h7 a9 (Int32.toNatClampNeg (v1)) (v3) := ⟨_, rfl⟩
  replace hw := hw _ eq_h14
  refine V_iast hc q10 q11 q12 q13 d_Model_place_13 ?_
  rw [← eq_h14]
  refine V_aload_n hc 0 d_Model_place_14 rfl rfl ?_
  obtain ⟨q15, hw⟩ := hw
  refine V_get (v := va_rf (mm_P h14 v0 23)) hc gf_Model_56 rfl q15 rfl d_Model_place_15 ?_
  refine V_iload_n hc 1 d_Model_place_18 rfl rfl ?_
  refine V_iload hc 4 d_Model_place_19 rfl ?_
  obtain ⟨a16, q17, hw⟩ := hw
  obtain ⟨q18, hw⟩ := hw
  obtain ⟨q19, hw⟩ := hw
  obtain ⟨q20, hw⟩ := hw
  obtain ⟨h21, eq_h21⟩ : ∃ x, x = mm_uI h14 a16 (Int32.toNatClampNeg (v1)) (v4) := ⟨_, rfl⟩
  replace hw := hw _ eq_h21
  refine V_iast hc q17 q18 q19 q20 d_Model_place_21 ?_
  rw [← eq_h21]
  refine V_aload_n hc 0 d_Model_place_22 rfl rfl ?_
  obtain ⟨q22, hw⟩ := hw
  refine V_get (v := va_rf (mm_P h21 v0 24)) hc gf_Model_59 rfl q22 rfl d_Model_place_23 ?_
  refine V_iload_n hc 1 d_Model_place_26 rfl rfl ?_
  refine V_iconst (v := (-1)) hc d_Model_place_27 (by decide) ?_
  obtain ⟨a23, q24, hw⟩ := hw
  obtain ⟨q25, hw⟩ := hw
  obtain ⟨q26, hw⟩ := hw
  obtain ⟨q27, hw⟩ := hw
  obtain ⟨h28, eq_h28⟩ : ∃ x, x = mm_uI h21 a23 (Int32.toNatClampNeg (v1)) ((-1)) := ⟨_, rfl⟩
  replace hw := hw _ eq_h28
  refine V_iast hc q24 q25 q26 q27 d_Model_place_28 ?_
  rw [← eq_h28]
  refine V_aload_n hc 0 d_Model_place_29 rfl rfl ?_
  obtain ⟨q29, hw⟩ := hw
  refine V_get (v := va_rf (mm_P h28 v0 25)) hc gf_Model_62 rfl q29 rfl d_Model_place_30 ?_
  refine V_iload_n hc 1 d_Model_place_33 rfl rfl ?_
  refine V_iconst (v := 0) hc d_Model_place_34 (by decide) ?_
  obtain ⟨a30, q31, hw⟩ := hw
  obtain ⟨q32, hw⟩ := hw
  obtain ⟨q33, hw⟩ := hw
  obtain ⟨q34, hw⟩ := hw
  obtain ⟨h35, eq_h35⟩ : ∃ x, x = mm_uI h28 a30 (Int32.toNatClampNeg (v1)) (0) := ⟨_, rfl⟩
  replace hw := hw _ eq_h35
  refine V_iast hc q31 q32 q33 q34 d_Model_place_35 ?_
  rw [← eq_h35]
  refine V_aload_n hc 0 d_Model_place_36 rfl rfl ?_
  obtain ⟨q36, hw⟩ := hw
  refine V_get (v := va_rf (mm_P h35 v0 26)) hc gf_Model_65 rfl q36 rfl d_Model_place_37 ?_
  refine V_iload_n hc 1 d_Model_place_40 rfl rfl ?_
  refine V_iconst (v := (-1)) hc d_Model_place_41 (by decide) ?_
  obtain ⟨a37, q38, hw⟩ := hw
  obtain ⟨q39, hw⟩ := hw
  obtain ⟨q40, hw⟩ := hw
  obtain ⟨q41, hw⟩ := hw
  obtain ⟨h42, eq_h42⟩ : ∃ x, x = mm_uI h35 a37 (Int32.toNatClampNeg (v1)) ((-1)) := ⟨_, rfl⟩
  replace hw := hw _ eq_h42
  refine V_iast hc q38 q39 q40 q41 d_Model_place_42 ?_
  rw [← eq_h42]
  exact V_vret hc hq ⟨rfl, hw⟩ (by decide) (by decide) d_Model_place_43
def wq_Model_place (ge : Nat → Nat) (v0 : Nat) (v1 : Int32) (v2 : Int32) (v3 : Int32) (v4 : Int32) (h : mm_M) (Z : mm_M → Prop) : Prop := wq_Model_place_0 ge v0 v1 v2 v3 v4 h Z
theorem sat_Model_place (G : mm_G) (v0 : Nat) (v1 : Int32) (v2 : Int32) (v3 : Int32) (v4 : Int32) (h : mm_M) (Z : mm_M → Prop) (hw : wq_Model_place (mm_ge G) v0 v1 v2 v3 v4 h Z) : mm_Met G y_Model_place c_Model_place 5 none rm_Model_place [va_rf (some v0), .int (v1), .int (v2), .int (v3), .int (v4)] h (pV Z) := by
  refine mm_intro (own := "EpochServerModel") (by decide) rfl (by simp [lg_sl, cat_rf, cat_i, cat_l]) (fun E e1 hc hq hi => ?_)
  subst e1
  have e2 : lv_args 0 [va_rf (some v0), .int (v1), .int (v2), .int (v3), .int (v4)] = [(0, va_rf (some v0)), (1, .int (v1)), (2, .int (v2)), (3, .int (v3)), (4, .int (v4))] := by simp [lv_args, cat_rf, cat_i, cat_l]
  rw [e2]
  refine V_sub (lv' := [(0, va_rf (some v0)), (1, .int (v1)), (2, .int (v2)), (3, .int (v3)), (4, .int (v4))]) [0, 1, 2, 3, 4] rfl ?_
  exact vb_Model_place_0 hc hq v0 v1 v2 v3 v4 h hw
/-! Model.qid(II)V -/
abbrev rm_Model_qid : Room := { frames := 1, cells := 0, slots := 0, locals := 24 }
def wq_Model_qid_22  (ge : Nat → Nat) (v0 : Nat) (v2 : Int32) (v3 : Int32) (s0 : Option Nat) (s1 : Int64) (h : mm_M) (Z : mm_M → Prop) : Prop :=
  ∃ a1, s0 = some a1 ∧ mm_k h (a1) = kd_Model ∧ wq_Model_put ge (a1) (s1) (1) h (fun h4 : mm_M => mm_k h4 (v0) = kd_Model ∧ ∃ a7, mm_P h4 v0 3 = some a7 ∧ mm_k h4 (a7) = ka_I ∧ vp_in (v3) (mm_n h4 a7) ∧ wq_Model_put ge (v0) (Int32.toInt64 (mm_I h4 a7 (Int32.toNatClampNeg (v3)))) (4) h4 (fun h11 : mm_M => mm_k h11 (v0) = kd_Model ∧ wq_Model_put ge (v0) (Int32.toInt64 (v2)) (8) h11 (fun h14 : mm_M => Z h14)))
def wq_Model_qid_0  (ge : Nat → Nat) (v0 : Nat) (v1 : Int32) (v2 : Int32) (h : mm_M) (Z : mm_M → Prop) : Prop :=
  wq_Model_spot ge (v1) (v2) h (fun (r2 : Int32) (h1 : mm_M) => mm_k h1 (v0) = kd_Model ∧ wq_Model_isDirectory ge (v0) (r2) h1 (fun (r5 : Int32) (h4 : mm_M) => (((r5) = 0 → wq_Model_qid_22  ge (v0) (v2) (r2) (some v0) (0) h4 Z) ∧ (¬ (r5) = 0 → wq_Model_qid_22  ge (v0) (v2) (r2) (some v0) (128) h4 Z))))
set_option maxRecDepth 100000 in
set_option maxHeartbeats 4000000 in
theorem vb_Model_qid_22 {E : mm_E} {Z : mm_M → Prop} (hc : cx E "EpochServerModel" c_Model_qid 4 none rm_Model_qid) (hq : cq E rm_Model_qid (pV Z))  (v0 : Nat) (v2 : Int32) (v3 : Int32) (s0 : Option Nat) (s1 : Int64) (h : mm_M) (hw : wq_Model_qid_22  (mm_ge (eG E)) v0 v2 v3 s0 s1 h Z) : V E 4 0 0 h 22 [(0, va_rf (some v0)), (2, .int (v2)), (3, .int (v3))] [.long (s1), va_rf (s0)] := by
  unfold wq_Model_qid_22 at hw
  refine V_iconst (v := 1) hc d_Model_qid_22 (by decide) ?_
  obtain ⟨a1, q2, hw⟩ := hw
  obtain ⟨q3, hw⟩ := hw
  refine V_callV (rm' := rm_Model_put) (As := [.long (s1), .int (1)]) (rest := []) (n := 2) (cn := 0) hc q2 q3 (sat_Model_put (eG E) _ _ _ _ _ hw) rfl cv_Model_212 (gw_of (tw_6 (List.mem_of_getElem? (i := 15) rfl)) rfl) ss_Model_put rfl ⟨by decide, by decide⟩ (by decide) (by decide) rfl (by simp [cat_rf, cat_i, cat_l]) d_Model_qid_23 (fun r0 h4 hw => ?_)
  obtain ⟨rfl, hw⟩ := hw
  refine V_wide (cs' := 0) (sl' := 0) (by decide) (by decide) ?_
  refine V_st (st' := []) rfl ?_
  refine V_aload_n hc 0 d_Model_qid_26 rfl rfl ?_
  refine V_aload_n hc 0 d_Model_qid_27 rfl rfl ?_
  obtain ⟨q6, hw⟩ := hw
  refine V_get (v := va_rf (mm_P h4 v0 3)) hc gf_Model_20 rfl q6 rfl d_Model_qid_28 ?_
  refine V_iload_n hc 2 d_Model_qid_31 rfl rfl ?_
  obtain ⟨a7, q8, hw⟩ := hw
  obtain ⟨q9, hw⟩ := hw
  obtain ⟨q10, hw⟩ := hw
  refine V_iald hc q8 q9 q10 d_Model_qid_32 ?_
  refine V_i2l hc d_Model_qid_33 ?_
  refine V_iconst (v := 4) hc d_Model_qid_34 (by decide) ?_
  refine V_callV (rm' := rm_Model_put) (As := [.long (Int32.toInt64 (mm_I h4 a7 (Int32.toNatClampNeg (v3)))), .int (4)]) (rest := []) (n := 2) (cn := 0) hc rfl q6 (sat_Model_put (eG E) _ _ _ _ _ hw) rfl cv_Model_212 (gw_of (tw_6 (List.mem_of_getElem? (i := 15) rfl)) rfl) ss_Model_put rfl ⟨by decide, by decide⟩ (by decide) (by decide) rfl (by simp [cat_rf, cat_i, cat_l]) d_Model_qid_35 (fun r0 h11 hw => ?_)
  obtain ⟨rfl, hw⟩ := hw
  refine V_wide (cs' := 0) (sl' := 0) (by decide) (by decide) ?_
  refine V_st (st' := []) rfl ?_
  refine V_aload_n hc 0 d_Model_qid_38 rfl rfl ?_
  refine V_iload_n hc 1 d_Model_qid_39 rfl rfl ?_
  refine V_i2l hc d_Model_qid_40 ?_
  refine V_bipush (v := 8) hc d_Model_qid_41 (by decide) ?_
  obtain ⟨q13, hw⟩ := hw
  refine V_callV (rm' := rm_Model_put) (As := [.long (Int32.toInt64 (v2)), .int (8)]) (rest := []) (n := 2) (cn := 0) hc rfl q13 (sat_Model_put (eG E) _ _ _ _ _ hw) rfl cv_Model_212 (gw_of (tw_6 (List.mem_of_getElem? (i := 15) rfl)) rfl) ss_Model_put rfl ⟨by decide, by decide⟩ (by decide) (by decide) rfl (by simp [cat_rf, cat_i, cat_l]) d_Model_qid_43 (fun r0 h14 hw => ?_)
  obtain ⟨rfl, hw⟩ := hw
  refine V_wide (cs' := 0) (sl' := 0) (by decide) (by decide) ?_
  refine V_st (st' := []) rfl ?_
  exact V_vret hc hq ⟨rfl, hw⟩ (by decide) (by decide) d_Model_qid_46
set_option maxRecDepth 100000 in
set_option maxHeartbeats 4000000 in
theorem vb_Model_qid_0 {E : mm_E} {Z : mm_M → Prop} (hc : cx E "EpochServerModel" c_Model_qid 4 none rm_Model_qid) (hq : cq E rm_Model_qid (pV Z))  (v0 : Nat) (v1 : Int32) (v2 : Int32) (h : mm_M) (hw : wq_Model_qid_0  (mm_ge (eG E)) v0 v1 v2 h Z) : V E 4 0 0 h 0 [(0, va_rf (some v0)), (1, .int (v1)), (2, .int (v2))] [] := by
  unfold wq_Model_qid_0 at hw
  refine V_iload_n hc 1 d_Model_qid_0 rfl rfl ?_
  refine V_iload_n hc 2 d_Model_qid_1 rfl rfl ?_
  refine V_callS (rm' := rm_Model_spot) (As := [.int (v1), .int (v2)]) (rest := []) (n := 2) hc (sat_Model_spot (eG E) _ _ _ _ hw) cv_Model_96 (gw_of (tw_5 (List.mem_of_getElem? (i := 196) rfl)) rfl) rfl ⟨by decide, by decide⟩ (by decide) (by decide) rfl (by simp [cat_rf, cat_i, cat_l]) d_Model_qid_2 (fun r0 h1 hw => ?_)
  obtain ⟨r2, rfl, hw⟩ := hw
  refine V_wide (cs' := 0) (sl' := 0) (by decide) (by decide) ?_
  refine V_st (st' := [.int (r2)]) rfl ?_
  refine V_istore_n (i := 3) (lv' := [(3, .int (r2)), (0, va_rf (some v0)), (1, .int (v1)), (2, .int (v2))]) hc d_Model_qid_5 rfl (by decide) rfl ?_
  refine V_aload_n hc 1 d_Model_qid_6 rfl rfl ?_
  refine V_aload_n hc 1 d_Model_qid_7 rfl rfl ?_
  refine V_iload_n hc 0 d_Model_qid_8 rfl rfl ?_
  obtain ⟨q3, hw⟩ := hw
  refine V_callV (rm' := rm_Model_isDirectory) (As := [.int (r2)]) (rest := [va_rf (some v0)]) (n := 1) (cn := 0) hc rfl q3 (sat_Model_isDirectory (eG E) _ _ _ _ hw) rfl cv_Model_230 (gw_of (tw_6 (List.mem_of_getElem? (i := 39) rfl)) rfl) ss_Model_isDirectory rfl ⟨by decide, by decide⟩ (by decide) (by decide) rfl (by simp [cat_rf, cat_i, cat_l]) d_Model_qid_9 (fun r0 h4 hw => ?_)
  obtain ⟨r5, rfl, hw⟩ := hw
  refine V_wide (cs' := 0) (sl' := 0) (by decide) (by decide) ?_
  refine V_st (st' := [.int (r5), va_rf (some v0)]) rfl ?_
  refine V_if_eq (tgt := 21) hc d_Model_qid_12 (by decide) (fun hq1 => ?_) (fun hq1 => ?_)
  · replace hw := hw.1 hq1
    refine V_lconst (v := 0) hc d_Model_qid_21 (by decide) ?_
    refine V_sub (lv' := [(0, va_rf (some v0)), (2, .int (v2)), (3, .int (r2))]) [1, 3, 0] rfl ?_
    exact vb_Model_qid_22 hc hq  _ _ _ _ _ _ hw
  · replace hw := hw.2 hq1
    refine V_ldc2 (v := 128) hc (gw_of (tw_6 (List.mem_of_getElem? (i := 41) rfl)) rfl) d_Model_qid_15 ?_
    refine V_goto (tgt := 22) hc d_Model_qid_18 (by decide) ?_
    refine V_sub (lv' := [(0, va_rf (some v0)), (2, .int (v2)), (3, .int (r2))]) [1, 3, 0] rfl ?_
    exact vb_Model_qid_22 hc hq  _ _ _ _ _ _ hw
def wq_Model_qid (ge : Nat → Nat) (v0 : Nat) (v1 : Int32) (v2 : Int32) (h : mm_M) (Z : mm_M → Prop) : Prop := wq_Model_qid_0 ge v0 v1 v2 h Z
theorem sat_Model_qid (G : mm_G) (v0 : Nat) (v1 : Int32) (v2 : Int32) (h : mm_M) (Z : mm_M → Prop) (hw : wq_Model_qid (mm_ge G) v0 v1 v2 h Z) : mm_Met G y_Model_qid c_Model_qid 4 none rm_Model_qid [va_rf (some v0), .int (v1), .int (v2)] h (pV Z) := by
  refine mm_intro (own := "EpochServerModel") (by decide) rfl (by simp [lg_sl, cat_rf, cat_i, cat_l]) (fun E e1 hc hq hi => ?_)
  subst e1
  have e2 : lv_args 0 [va_rf (some v0), .int (v1), .int (v2)] = [(0, va_rf (some v0)), (1, .int (v1)), (2, .int (v2))] := by simp [lv_args, cat_rf, cat_i, cat_l]
  rw [e2]
  refine V_sub (lv' := [(0, va_rf (some v0)), (1, .int (v1)), (2, .int (v2))]) [0, 1, 2] rfl ?_
  exact vb_Model_qid_0 hc hq v0 v1 v2 h hw
