abbrev c_Arrays_copyOf_9075b : ByteArray := prog_21_method_121_code
def y_Arrays_copyOf_9075b : MethodName := ⟨"java/util/Arrays", "copyOf", "([BI)[B"⟩
theorem d_Arrays_copyOf_9075b_0 : decode c_Arrays_copyOf_9075b 0 = .ok (.iload_n 1, 1) := by decide +kernel
theorem d_Arrays_copyOf_9075b_1 : decode c_Arrays_copyOf_9075b 1 = .ok (.aload_n 0, 1) := by decide +kernel
theorem d_Arrays_copyOf_9075b_2 : decode c_Arrays_copyOf_9075b 2 = .ok (.arraylength, 1) := by decide +kernel
theorem d_Arrays_copyOf_9075b_3 : decode c_Arrays_copyOf_9075b 3 = .ok (.if_icmp .ne 11, 3) := by decide +kernel
theorem d_Arrays_copyOf_9075b_6 : decode c_Arrays_copyOf_9075b 6 = .ok (.aload_n 0, 1) := by decide +kernel
theorem d_Arrays_copyOf_9075b_7 : decode c_Arrays_copyOf_9075b 7 = .ok (.invokevirtual 310, 3) := by decide +kernel
theorem d_Arrays_copyOf_9075b_10 : decode c_Arrays_copyOf_9075b 10 = .ok (.checkcast 311, 3) := by decide +kernel
theorem d_Arrays_copyOf_9075b_13 : decode c_Arrays_copyOf_9075b 13 = .ok (.areturn, 1) := by decide +kernel
theorem d_Arrays_copyOf_9075b_14 : decode c_Arrays_copyOf_9075b 14 = .ok (.iload_n 1, 1) := by decide +kernel
theorem d_Arrays_copyOf_9075b_15 : decode c_Arrays_copyOf_9075b 15 = .ok (.newarray .byte, 2) := by decide +kernel
theorem d_Arrays_copyOf_9075b_17 : decode c_Arrays_copyOf_9075b 17 = .ok (.astore_n 2, 1) := by decide +kernel
theorem d_Arrays_copyOf_9075b_18 : decode c_Arrays_copyOf_9075b 18 = .ok (.aload_n 0, 1) := by decide +kernel
theorem d_Arrays_copyOf_9075b_19 : decode c_Arrays_copyOf_9075b 19 = .ok (.iconst 0, 1) := by decide +kernel
theorem d_Arrays_copyOf_9075b_20 : decode c_Arrays_copyOf_9075b 20 = .ok (.aload_n 2, 1) := by decide +kernel
theorem d_Arrays_copyOf_9075b_21 : decode c_Arrays_copyOf_9075b 21 = .ok (.iconst 0, 1) := by decide +kernel
theorem d_Arrays_copyOf_9075b_22 : decode c_Arrays_copyOf_9075b 22 = .ok (.aload_n 0, 1) := by decide +kernel
theorem d_Arrays_copyOf_9075b_23 : decode c_Arrays_copyOf_9075b 23 = .ok (.arraylength, 1) := by decide +kernel
theorem d_Arrays_copyOf_9075b_24 : decode c_Arrays_copyOf_9075b 24 = .ok (.iload_n 1, 1) := by decide +kernel
theorem d_Arrays_copyOf_9075b_25 : decode c_Arrays_copyOf_9075b 25 = .ok (.invokestatic 304, 3) := by decide +kernel
theorem d_Arrays_copyOf_9075b_28 : decode c_Arrays_copyOf_9075b 28 = .ok (.invokestatic 150, 3) := by decide +kernel
theorem d_Arrays_copyOf_9075b_31 : decode c_Arrays_copyOf_9075b 31 = .ok (.aload_n 2, 1) := by decide +kernel
theorem d_Arrays_copyOf_9075b_32 : decode c_Arrays_copyOf_9075b 32 = .ok (.areturn, 1) := by decide +kernel
theorem cv_Arrays_304 : cvM "java/util/Arrays" 304 Lib.Math.min.name Lib.Math.min.code 2 .int := ⟨gw_of (tw_3 (List.mem_of_getElem? (i := 237) rfl)) rfl, gw_of (tw_3 (List.mem_of_getElem? (i := 105) rfl)) rfl, gw_of (tw_1 (List.mem_of_getElem? (i := 3) rfl)) rfl, gw_of (tw_3 (List.mem_of_getElem? (i := 106) rfl)) rfl⟩
abbrev rm_Arrays_copyOf_9075b : Room := { frames := 1, cells := 1, slots := 512, locals := 64 }
def wq_Arrays_copyOf_9075b (ge : Nat → Nat) (v0 : Option Nat) (v1 : Int32) (h : mm_M) (Z : Option Nat → mm_M → Prop) : Prop :=
  ∃ a, v0 = some a ∧ mm_k h a = ka_B ∧ ¬ v1 < 0 ∧ v1.toNatClampNeg ≤ 512 ∧ mm_n h a ≤ 512 ∧ a < mm_z h ∧ ge 0 ≤ mm_z h ∧ (∀ i, i < mm_n h a → fits .byte (.int (mm_I h a i)) = true) ∧ (v1.toNatClampNeg = mm_n h a → ge 0 ≤ a) ∧ ∀ h1 : mm_M, h1 = mm_cp h a v1.toNatClampNeg → Z (some (mm_z h)) h1
theorem sat_Arrays_copyOf_9075b (G : mm_G) (v0 : Option Nat) (v1 : Int32) (h : mm_M) (Z : Option Nat → mm_M → Prop) (hw : wq_Arrays_copyOf_9075b (mm_ge G) v0 v1 h Z) : mm_Met G y_Arrays_copyOf_9075b c_Arrays_copyOf_9075b 3 (some (.array .byte)) rm_Arrays_copyOf_9075b [va_rf v0, .int v1] h (pP Z) := by
  refine mm_intro (own := "java/util/Arrays") (by decide) rfl (by simp [lg_sl, cat_rf, cat_i, cat_l]) (fun E e1 hc hq hi => ?_)
  subst e1
  have e2 : lv_args 0 [va_rf v0, .int v1] = [(0, va_rf v0), (1, .int v1)] := by simp [lv_args, cat_rf, cat_i, cat_l]
  rw [e2]
  obtain ⟨a, rfl, hk, hn0, hn5, ha5, haz, hbz, hfit, hba, hZ⟩ := hw
  have eN : (Nat.toInt32 (mm_n h a)).toNatClampNeg = mm_n h a := nI_clamp (by omega)
  have eZ : ¬ Nat.toInt32 (mm_n h a) < 0 := nI_pos (by omega)
  refine V_iload_n hc 1 d_Arrays_copyOf_9075b_0 rfl rfl ?_
  refine V_aload_n hc 0 d_Arrays_copyOf_9075b_1 rfl rfl ?_
  refine V_alen (t := 1) (ty := .byte) hc rfl rfl hk d_Arrays_copyOf_9075b_2 ?_
  refine V_icmp_ne (tgt := 14) hc d_Arrays_copyOf_9075b_3 (by decide) (fun hq1 => ?_) (fun hq1 => ?_)
  · refine V_iload_n hc 1 d_Arrays_copyOf_9075b_14 rfl rfl ?_
    refine V_newa (t := 1) (N := v1.toNatClampNeg) (ty := .byte) hc rfl rfl (fun _ q => q) (gw_of (tw_1 (List.mem_of_getElem? (i := 46) rfl)) rfl) (by decide) (by decide) hn0 rfl (by show _ * 1 ≤ _; omega) (by decide) (by show 0 + _ ≤ 512; omega) d_Arrays_copyOf_9075b_15 ?_
    refine V_astore_n (lv' := [(2, va_rf (some (mm_z h))), (0, va_rf (some a)), (1, .int v1)]) hc d_Arrays_copyOf_9075b_17 rfl (by decide) rfl ?_
    refine V_aload_n hc 1 d_Arrays_copyOf_9075b_18 rfl rfl ?_
    refine V_iconst (v := 0) hc d_Arrays_copyOf_9075b_19 (by decide) ?_
    refine V_aload_n hc 0 d_Arrays_copyOf_9075b_20 rfl rfl ?_
    refine V_iconst (v := 0) hc d_Arrays_copyOf_9075b_21 (by decide) ?_
    refine V_aload_n hc 1 d_Arrays_copyOf_9075b_22 rfl rfl ?_
    have naz : a ≠ mm_z h := by omega
    have hk1 : mm_k (mm_nw h (1 + 100) v1.toNatClampNeg) a = ka_B := by rw [mm_nw_k, if_neg naz]; exact hk
    have hn1 : mm_n (mm_nw h (1 + 100) v1.toNatClampNeg) a = mm_n h a := by rw [mm_nw_n, if_neg naz]
    refine V_alen (t := 1) (ty := .byte) hc rfl rfl hk1 d_Arrays_copyOf_9075b_23 ?_
    refine V_iload_n hc 2 d_Arrays_copyOf_9075b_24 rfl rfl ?_
    refine V_mmin hc cv_Arrays_304 (by simp [cat_rf, cat_i, cat_l]) (by decide) (by decide) (by decide) (by show 0 + _ ≤ 512; omega) d_Arrays_copyOf_9075b_25 ?_
    rw [hn1]
    have em : (if v1 < Nat.toInt32 (mm_n h a) then v1 else Nat.toInt32 (mm_n h a)).toNatClampNeg = if v1.toNatClampNeg < mm_n h a then v1.toNatClampNeg else mm_n h a := by
      obtain ⟨j, hj, rfl⟩ := nI_of hn0
      rw [nI_clamp hj]
      show (if nI j < nI (mm_n h a) then nI j else nI (mm_n h a)).toNatClampNeg = _
      by_cases hlt : j < mm_n h a
      · rw [if_pos ((nI_ltI hj (by omega)).mpr hlt), if_pos hlt, nI_clamp hj]
      · rw [if_neg (fun q => hlt ((nI_ltI hj (by omega)).mp q)), if_neg hlt, nI_clamp (by omega)]
    have em0 : ¬ (if v1 < Nat.toInt32 (mm_n h a) then v1 else Nat.toInt32 (mm_n h a)) < 0 := by split <;> assumption
    have hx1 : ∀ i, i < mm_n h a → mm_I (mm_nw h (1 + 100) v1.toNatClampNeg) a i = mm_I h a i := fun i _ => by show (if a = mm_z h then _ else _) = _; rw [if_neg naz]; rfl
    have hfit2 : ∀ i, i < (if v1 < Nat.toInt32 (mm_n h a) then v1 else Nat.toInt32 (mm_n h a)).toNatClampNeg → fits .byte (.int (mm_I (mm_nw h (1 + 100) v1.toNatClampNeg) a i)) = true := by
      intro i hi
      rw [em] at hi
      have hi2 : i < mm_n h a := by split at hi <;> omega
      rw [hx1 i hi2]
      exact hfit i hi2
    refine V_acopy hc (gw_of (tw_3 (List.mem_of_getElem? (i := 238) rfl)) rfl) (gw_of (tw_4 (List.mem_of_getElem? (i := 0) rfl)) rfl) (gw_of (tw_3 (List.mem_of_getElem? (i := 239) rfl)) rfl) (gw_of (tw_1 (List.mem_of_getElem? (i := 16) rfl)) rfl) hk1 (by rw [mm_nw_k, if_pos rfl]) hbz em0 (by rw [em, hn1]; split <;> omega) (by rw [em, mm_nw_n, if_pos rfl]; split <;> omega) hfit2 (by decide) (by decide) d_Arrays_copyOf_9075b_28 ?_
    rw [mm_ac_cp h naz em]
    refine V_aload_n hc 0 d_Arrays_copyOf_9075b_31 rfl rfl ?_
    exact V_aret hc hq (Or.inr ⟨_, rfl⟩) ⟨_, rfl, hZ _ rfl⟩ (by decide) (by show 0 + _ ≤ 512; omega) d_Arrays_copyOf_9075b_32
  · have ev : v1.toNatClampNeg = mm_n h a := by rw [hq1]; exact eN
    have hba := hba ev
    refine V_aload_n hc 0 d_Arrays_copyOf_9075b_6 rfl rfl ?_
    refine V_clone hc rfl (gw_of (tw_3 (List.mem_of_getElem? (i := 230) rfl)) rfl) (gw_of (tw_3 (List.mem_of_getElem? (i := 231) rfl)) rfl) (gw_of (tw_3 (List.mem_of_getElem? (i := 232) rfl)) rfl) (gw_of (tw_3 (List.mem_of_getElem? (i := 233) rfl)) rfl) (gw_of (tw_3 (List.mem_of_getElem? (i := 234) rfl)) rfl) hk hba hfit (by decide) (by decide) (by decide) (by show 0 + _ ≤ 512; omega) d_Arrays_copyOf_9075b_7 ?_
    refine V_castB hc rfl (gw_of (tw_3 (List.mem_of_getElem? (i := 236) rfl)) rfl) (by show (if mm_z h = mm_z h then 101 else _) = _; rw [if_pos rfl]) hbz d_Arrays_copyOf_9075b_10 ?_
    rw [← ev]
    exact V_aret hc hq (Or.inr ⟨_, rfl⟩) ⟨_, rfl, hZ _ rfl⟩ (by decide) (by show 0 + _ ≤ 512; omega) d_Arrays_copyOf_9075b_13
