/-! Model.scores(II)V -/
def wq_Model_scores_214 (SC : (Nat → Nat) → Nat → Int32 → Int32 → mm_M → (mm_M → Prop) → Prop) (X214 : Nat → Int32 → Int32 → mm_M → Prop) (ge : Nat → Nat) (v0 : Nat) (v2 : Int32) (v4 : Int32) (h : mm_M) (Z : mm_M → Prop) : Prop :=
  (((5 : Int32) ≤ (v4 : Int32) → Z h) ∧ (¬ (5 : Int32) ≤ (v4 : Int32) → mm_k h (v0) = kd_Model ∧ ∃ a2, mm_P h v0 57 = some a2 ∧ mm_k h (a2) = ka_I ∧ vp_in (v4) (mm_n h a2) ∧ ∃ a6, mm_P h v0 58 = some a6 ∧ mm_k h (a6) = ka_I ∧ vp_in (((5 : Int32) * (v2)) + (v4)) (mm_n h a6) ∧ ge 0 ≤ a6 ∧ ∀ h11 : mm_M, h11 = mm_uI h a6 (Int32.toNatClampNeg (((5 : Int32) * (v2)) + (v4))) (mm_I h a2 (Int32.toNatClampNeg (v4))) → X214 (v0) (v2) (v4 + 1) h11))
def lp_Model_scores_214 (SC : (Nat → Nat) → Nat → Int32 → Int32 → mm_M → (mm_M → Prop) → Prop)  (ge : Nat → Nat) (v0 : Nat) (v2 : Int32) (v4 : Int32) (h : mm_M) (Z : mm_M → Prop) : Prop :=
  ∀ X214 : Nat → Int32 → Int32 → mm_M → Prop, (∀ (v0 : Nat) (v2 : Int32) (v4 : Int32) (h : mm_M), wq_Model_scores_214 SC X214 ge v0 v2 v4 h Z → X214 v0 v2 v4 h) → X214 v0 v2 v4 h
def wq_Model_scores_211 (SC : (Nat → Nat) → Nat → Int32 → Int32 → mm_M → (mm_M → Prop) → Prop)  (ge : Nat → Nat) (v0 : Nat) (v2 : Int32) (h : mm_M) (Z : mm_M → Prop) : Prop :=
  lp_Model_scores_214 SC  ge (v0) (v2) (0) h Z
def wq_Model_scores_193 (SC : (Nat → Nat) → Nat → Int32 → Int32 → mm_M → (mm_M → Prop) → Prop) (X87 : Nat → Int32 → Int32 → Int32 → Int32 → Int32 → mm_M → Prop) (ge : Nat → Nat) (v0 : Nat) (v1 : Int32) (v2 : Int32) (v4 : Int32) (v5 : Int32) (v6 : Int32) (h : mm_M) (Z : mm_M → Prop) : Prop :=
  X87 (v0) (v1) (v2) (v4) (v5) (v6 + 1) h
def wq_Model_scores_145 (SC : (Nat → Nat) → Nat → Int32 → Int32 → mm_M → (mm_M → Prop) → Prop) (X87 : Nat → Int32 → Int32 → Int32 → Int32 → Int32 → mm_M → Prop) (X145 : Nat → Int32 → Int32 → Int32 → Int32 → Int32 → Int32 → mm_M → Prop) (ge : Nat → Nat) (v0 : Nat) (v1 : Int32) (v2 : Int32) (v4 : Int32) (v5 : Int32) (v6 : Int32) (v7 : Int32) (h : mm_M) (Z : mm_M → Prop) : Prop :=
  mm_k h (v0) = kd_Model ∧ (((mm_I h v0 17 : Int32) ≤ (v7 : Int32) → wq_Model_layScore ge (v0) (v4) (mm_P h v0 58) ((5 : Int32) * (v6)) h (fun (r3 : Int32) (h2 : mm_M) => wq_Model_scores_193 SC X87 ge (v0) (v1) (v2) (r3) (v5) (v6) h2 Z)) ∧ (¬ (mm_I h v0 17 : Int32) ≤ (v7 : Int32) → ∃ a4, mm_P h v0 15 = some a4 ∧ mm_k h (a4) = ka_I ∧ vp_in (v7) (mm_n h a4) ∧ ∃ a8, mm_P h v0 55 = some a8 ∧ mm_k h (a8) = ka_I ∧ vp_in (v4) (mm_n h a8) ∧ ge 0 ≤ a8 ∧ ∀ h13 : mm_M, h13 = mm_uI h a8 (Int32.toNatClampNeg (v4)) (mm_I h a4 (Int32.toNatClampNeg (v7))) → X145 (v0) (v1) (v2) (v4 + 1) (v5) (v6) (v7 + 1) h13))
def lp_Model_scores_145 (SC : (Nat → Nat) → Nat → Int32 → Int32 → mm_M → (mm_M → Prop) → Prop) (X87 : Nat → Int32 → Int32 → Int32 → Int32 → Int32 → mm_M → Prop) (ge : Nat → Nat) (v0 : Nat) (v1 : Int32) (v2 : Int32) (v4 : Int32) (v5 : Int32) (v6 : Int32) (v7 : Int32) (h : mm_M) (Z : mm_M → Prop) : Prop :=
  ∀ X145 : Nat → Int32 → Int32 → Int32 → Int32 → Int32 → Int32 → mm_M → Prop, (∀ (v0 : Nat) (v1 : Int32) (v2 : Int32) (v4 : Int32) (v5 : Int32) (v6 : Int32) (v7 : Int32) (h : mm_M), wq_Model_scores_145 SC X87 X145 ge v0 v1 v2 v4 v5 v6 v7 h Z → X145 v0 v1 v2 v4 v5 v6 v7 h) → X145 v0 v1 v2 v4 v5 v6 v7 h
def wq_Model_scores_87 (SC : (Nat → Nat) → Nat → Int32 → Int32 → mm_M → (mm_M → Prop) → Prop) (X87 : Nat → Int32 → Int32 → Int32 → Int32 → Int32 → mm_M → Prop) (ge : Nat → Nat) (v0 : Nat) (v1 : Int32) (v2 : Int32) (v4 : Int32) (v5 : Int32) (v6 : Int32) (h : mm_M) (Z : mm_M → Prop) : Prop :=
  (((60 : Int32) ≤ (v6 : Int32) → mm_k h (v0) = kd_Model ∧ ge 0 ≤ v0 ∧ ∀ h3 : mm_M, h3 = mm_uI h (v0) 17 (v5) → mm_k h3 (v0) = kd_Model ∧ wq_Model_puts ge (v0) (v4) h3 (fun h5 : mm_M => wq_Model_scores_211 SC  ge (v0) (v2) h5 Z)) ∧ (¬ (60 : Int32) ≤ (v6 : Int32) → mm_k h (v0) = kd_Model ∧ wq_Model_spot ge (v1) (v6) h (fun (r9 : Int32) (h8 : mm_M) => ∃ a10, mm_P h v0 0 = some a10 ∧ mm_k h8 (a10) = ka_Z ∧ vp_in (r9) (mm_n h8 a10) ∧ (((mm_I h8 a10 (Int32.toNatClampNeg (r9))) = 0 → wq_Model_scores_193 SC X87 ge (v0) (v1) (v2) (v4) (v5) (v6) h8 Z) ∧ (¬ (mm_I h8 a10 (Int32.toNatClampNeg (r9))) = 0 → mm_k h8 (v0) = kd_Model ∧ wq_Model_spot ge (v1) (v6) h8 (fun (r16 : Int32) (h15 : mm_M) => ∃ a17, mm_P h8 v0 1 = some a17 ∧ mm_k h15 (a17) = ka_I ∧ vp_in (r16) (mm_n h15 a17) ∧ (((mm_I h15 a17 (Int32.toNatClampNeg (r16)) : Int32) = (v2 : Int32) → mm_k h15 (v0) = kd_Model ∧ ge 0 ≤ v0 ∧ ∀ h23 : mm_M, h23 = mm_uI h15 (v0) 17 (1400) → mm_k h23 (v0) = kd_Model ∧ wq_Model_stat ge (v0) (v1) (v6) h23 (fun h25 : mm_M => lp_Model_scores_145 SC X87 ge (v0) (v1) (v2) (v4) (v5) (v6) (1400) h25 Z)) ∧ (¬ (mm_I h15 a17 (Int32.toNatClampNeg (r16)) : Int32) = (v2 : Int32) → wq_Model_scores_193 SC X87 ge (v0) (v1) (v2) (v4) (v5) (v6) h15 Z))))))))
def lp_Model_scores_87 (SC : (Nat → Nat) → Nat → Int32 → Int32 → mm_M → (mm_M → Prop) → Prop)  (ge : Nat → Nat) (v0 : Nat) (v1 : Int32) (v2 : Int32) (v4 : Int32) (v5 : Int32) (v6 : Int32) (h : mm_M) (Z : mm_M → Prop) : Prop :=
  ∀ X87 : Nat → Int32 → Int32 → Int32 → Int32 → Int32 → mm_M → Prop, (∀ (v0 : Nat) (v1 : Int32) (v2 : Int32) (v4 : Int32) (v5 : Int32) (v6 : Int32) (h : mm_M), wq_Model_scores_87 SC X87 ge v0 v1 v2 v4 v5 v6 h Z → X87 v0 v1 v2 v4 v5 v6 h) → X87 v0 v1 v2 v4 v5 v6 h
def wq_Model_scores_69 (SC : (Nat → Nat) → Nat → Int32 → Int32 → mm_M → (mm_M → Prop) → Prop) (X26 : Nat → Int32 → Int32 → Int32 → mm_M → Prop) (ge : Nat → Nat) (v0 : Nat) (v1 : Int32) (v2 : Int32) (v4 : Int32) (h : mm_M) (Z : mm_M → Prop) : Prop :=
  X26 (v0) (v1) (v2) (v4 + 1) h
def wq_Model_scores_26 (SC : (Nat → Nat) → Nat → Int32 → Int32 → mm_M → (mm_M → Prop) → Prop) (X26 : Nat → Int32 → Int32 → Int32 → mm_M → Prop) (ge : Nat → Nat) (v0 : Nat) (v1 : Int32) (v2 : Int32) (v4 : Int32) (h : mm_M) (Z : mm_M → Prop) : Prop :=
  (((60 : Int32) ≤ (v4 : Int32) → mm_k h (v0) = kd_Model ∧ lp_Model_scores_87 SC  ge (v0) (v1) (v2) (0) (mm_I h v0 17) (1) h Z) ∧ (¬ (60 : Int32) ≤ (v4 : Int32) → mm_k h (v0) = kd_Model ∧ wq_Model_spot ge (v1) (v4) h (fun (r4 : Int32) (h3 : mm_M) => ∃ a5, mm_P h v0 0 = some a5 ∧ mm_k h3 (a5) = ka_Z ∧ vp_in (r4) (mm_n h3 a5) ∧ (((mm_I h3 a5 (Int32.toNatClampNeg (r4))) = 0 → wq_Model_scores_69 SC X26 ge (v0) (v1) (v2) (v4) h3 Z) ∧ (¬ (mm_I h3 a5 (Int32.toNatClampNeg (r4))) = 0 → mm_k h3 (v0) = kd_Model ∧ wq_Model_spot ge (v1) (v4) h3 (fun (r11 : Int32) (h10 : mm_M) => ∃ a12, mm_P h3 v0 1 = some a12 ∧ mm_k h10 (a12) = ka_I ∧ vp_in (r11) (mm_n h10 a12) ∧ ((¬ (mm_I h10 a12 (Int32.toNatClampNeg (r11)) : Int32) = (v2 : Int32) → wq_Model_scores_69 SC X26 ge (v0) (v1) (v2) (v4) h10 Z) ∧ ((mm_I h10 a12 (Int32.toNatClampNeg (r11)) : Int32) = (v2 : Int32) → mm_k h10 (v0) = kd_Model ∧ SC ge (v0) (v1) (v4) h10 (fun h17 : mm_M => wq_Model_scores_69 SC X26 ge (v0) (v1) (v2) (v4) h17 Z)))))))))
def lp_Model_scores_26 (SC : (Nat → Nat) → Nat → Int32 → Int32 → mm_M → (mm_M → Prop) → Prop)  (ge : Nat → Nat) (v0 : Nat) (v1 : Int32) (v2 : Int32) (v4 : Int32) (h : mm_M) (Z : mm_M → Prop) : Prop :=
  ∀ X26 : Nat → Int32 → Int32 → Int32 → mm_M → Prop, (∀ (v0 : Nat) (v1 : Int32) (v2 : Int32) (v4 : Int32) (h : mm_M), wq_Model_scores_26 SC X26 ge v0 v1 v2 v4 h Z → X26 v0 v1 v2 v4 h) → X26 v0 v1 v2 v4 h
def wq_Model_scores_0 (SC : (Nat → Nat) → Nat → Int32 → Int32 → mm_M → (mm_M → Prop) → Prop)  (ge : Nat → Nat) (v0 : Nat) (v1 : Int32) (v2 : Int32) (h : mm_M) (Z : mm_M → Prop) : Prop :=
  wq_Model_spot ge (v1) (v2) h (fun (r2 : Int32) (h1 : mm_M) => mm_k h1 (v0) = kd_Model ∧ wq_Model_isDirectory ge (v0) (r2) h1 (fun (r5 : Int32) (h4 : mm_M) => ((¬ (r5) = 0 → lp_Model_scores_26 SC  ge (v0) (v1) (v2) (1) h4 Z) ∧ ((r5) = 0 → mm_k h4 (v0) = kd_Model ∧ wq_Model_scoreFile ge (v0) (v1) (v2) h4 (fun h7 : mm_M => wq_Model_scores_211 SC  ge (v0) (v2) h7 Z)))))
set_option maxRecDepth 100000 in
set_option maxHeartbeats 4000000 in
theorem vb_Model_scores_214 {E : mm_E} {Z : mm_M → Prop} {rm : Room} (hc : cx E "EpochServerModel" c_Model_scores 8 none rm) (hq : cq E rm (pV Z)) {rmd : Room} (hrd : rmd.cells = 0 ∧ rmd.slots = 0) (hr_self : rmOk rm rmd 8) (hr_Model_isDirectory : rmOk rm rm_Model_isDirectory 2) (hr_Model_layScore : rmOk rm rm_Model_layScore 6) (hr_Model_puts : rmOk rm rm_Model_puts 5) (hr_Model_scoreFile : rmOk rm rm_Model_scoreFile 8) (hr_Model_spot : rmOk rm rm_Model_spot 2) (hr_Model_stat : rmOk rm rm_Model_stat 5) (SC : (Nat → Nat) → Nat → Int32 → Int32 → mm_M → (mm_M → Prop) → Prop) (hSC : ∀ (v0 : Nat) (v1 : Int32) (v2 : Int32) (h : mm_M) (Z : mm_M → Prop), SC (mm_ge (eG E)) v0 v1 v2 h Z → mm_Met (eG E) y_Model_scores c_Model_scores 8 none rmd [va_rf (some v0), .int (v1), .int (v2)] h (pV Z)) (X214 : Nat → Int32 → Int32 → mm_M → Prop) (hX214 : ∀ (v0 : Nat) (v2 : Int32) (v4 : Int32) (h : mm_M), X214 v0 v2 v4 h → V E 8 0 0 h 214 [(0, va_rf (some v0)), (2, .int (v2)), (4, .int (v4))] []) (v0 : Nat) (v2 : Int32) (v4 : Int32) (h : mm_M) (hw : wq_Model_scores_214 SC X214 (mm_ge (eG E)) v0 v2 v4 h Z) : V E 8 0 0 h 214 [(0, va_rf (some v0)), (2, .int (v2)), (4, .int (v4))] [] := by
  unfold wq_Model_scores_214 at hw
  refine V_iload hc 2 d_Model_scores_214 rfl ?_
  refine V_iconst (v := 5) hc d_Model_scores_216 (by decide) ?_
  refine V_icmp_ge (tgt := 244) hc d_Model_scores_217 (by decide) (fun hq1 => ?_) (fun hq1 => ?_)
  · replace hw := hw.1 hq1
    exact V_vret hc hq ⟨rfl, hw⟩ (Nat.zero_le _) (Nat.zero_le _) d_Model_scores_244
  · replace hw := hw.2 hq1
    refine V_aload_n hc 0 d_Model_scores_220 rfl rfl ?_
    obtain ⟨q1, hw⟩ := hw
    refine V_get (v := va_rf (mm_P h v0 58)) hc gf_Model_89 rfl q1 rfl d_Model_scores_221 ?_
    refine V_iconst (v := 5) hc d_Model_scores_224 (by decide) ?_
    refine V_iload_n hc 1 d_Model_scores_225 rfl rfl ?_
    refine V_imul hc d_Model_scores_226 ?_
    refine V_iload hc 2 d_Model_scores_227 rfl ?_
    refine V_iadd hc d_Model_scores_229 ?_
    refine V_aload_n hc 0 d_Model_scores_230 rfl rfl ?_
    refine V_get (v := va_rf (mm_P h v0 57)) hc gf_Model_86 rfl q1 rfl d_Model_scores_231 ?_
    refine V_iload hc 2 d_Model_scores_234 rfl ?_
    obtain ⟨a2, q3, hw⟩ := hw
    obtain ⟨q4, hw⟩ := hw
    obtain ⟨q5, hw⟩ := hw
    refine V_iald hc q3 q4 q5 d_Model_scores_236 ?_
    obtain ⟨a6, q7, hw⟩ := hw
    obtain ⟨q8, hw⟩ := hw
    obtain ⟨q9, hw⟩ := hw
    obtain ⟨q10, hw⟩ := hw
    obtain ⟨h11, eq_h11⟩ : ∃ x, x = mm_uI h a6 (Int32.toNatClampNeg (((5 : Int32) * (v2)) + (v4))) (mm_I h a2 (Int32.toNatClampNeg (v4))) := ⟨_, rfl⟩
    replace hw := hw _ eq_h11
    refine V_iast hc q7 q8 q9 q10 d_Model_scores_237 ?_
    rw [← eq_h11]
    refine V_iinc (v := v4 + 1) (lv' := [(4, .int (v4 + 1)), (0, va_rf (some v0)), (2, .int (v2))]) hc 2 d_Model_scores_238 rfl rfl (by decide) rfl ?_
    refine V_goto (tgt := 214) hc d_Model_scores_241 (by decide) ?_
    refine V_sub (lv' := [(0, va_rf (some v0)), (2, .int (v2)), (4, .int (v4 + 1))]) [1, 2, 0] rfl ?_
    exact hX214 _ _ _ _ hw
theorem vl_Model_scores_214 {E : mm_E} {Z : mm_M → Prop} {rm : Room} (hc : cx E "EpochServerModel" c_Model_scores 8 none rm) (hq : cq E rm (pV Z)) {rmd : Room} (hrd : rmd.cells = 0 ∧ rmd.slots = 0) (hr_self : rmOk rm rmd 8) (hr_Model_isDirectory : rmOk rm rm_Model_isDirectory 2) (hr_Model_layScore : rmOk rm rm_Model_layScore 6) (hr_Model_puts : rmOk rm rm_Model_puts 5) (hr_Model_scoreFile : rmOk rm rm_Model_scoreFile 8) (hr_Model_spot : rmOk rm rm_Model_spot 2) (hr_Model_stat : rmOk rm rm_Model_stat 5) (SC : (Nat → Nat) → Nat → Int32 → Int32 → mm_M → (mm_M → Prop) → Prop) (hSC : ∀ (v0 : Nat) (v1 : Int32) (v2 : Int32) (h : mm_M) (Z : mm_M → Prop), SC (mm_ge (eG E)) v0 v1 v2 h Z → mm_Met (eG E) y_Model_scores c_Model_scores 8 none rmd [va_rf (some v0), .int (v1), .int (v2)] h (pV Z))  (v0 : Nat) (v2 : Int32) (v4 : Int32) (h : mm_M) (hw : lp_Model_scores_214 SC  (mm_ge (eG E)) v0 v2 v4 h Z) : V E 8 0 0 h 214 [(0, va_rf (some v0)), (2, .int (v2)), (4, .int (v4))] [] :=
  hw (fun v0 v2 v4 h => V E 8 0 0 h 214 [(0, va_rf (some v0)), (2, .int (v2)), (4, .int (v4))] []) (fun v0 v2 v4 h hb => vb_Model_scores_214 hc hq hrd hr_self hr_Model_isDirectory hr_Model_layScore hr_Model_puts hr_Model_scoreFile hr_Model_spot hr_Model_stat SC hSC  _ (fun _ _ _ _ q => q) v0 v2 v4 h hb)
set_option maxRecDepth 100000 in
set_option maxHeartbeats 4000000 in
theorem vb_Model_scores_211 {E : mm_E} {Z : mm_M → Prop} {rm : Room} (hc : cx E "EpochServerModel" c_Model_scores 8 none rm) (hq : cq E rm (pV Z)) {rmd : Room} (hrd : rmd.cells = 0 ∧ rmd.slots = 0) (hr_self : rmOk rm rmd 8) (hr_Model_isDirectory : rmOk rm rm_Model_isDirectory 2) (hr_Model_layScore : rmOk rm rm_Model_layScore 6) (hr_Model_puts : rmOk rm rm_Model_puts 5) (hr_Model_scoreFile : rmOk rm rm_Model_scoreFile 8) (hr_Model_spot : rmOk rm rm_Model_spot 2) (hr_Model_stat : rmOk rm rm_Model_stat 5) (SC : (Nat → Nat) → Nat → Int32 → Int32 → mm_M → (mm_M → Prop) → Prop) (hSC : ∀ (v0 : Nat) (v1 : Int32) (v2 : Int32) (h : mm_M) (Z : mm_M → Prop), SC (mm_ge (eG E)) v0 v1 v2 h Z → mm_Met (eG E) y_Model_scores c_Model_scores 8 none rmd [va_rf (some v0), .int (v1), .int (v2)] h (pV Z))  (v0 : Nat) (v2 : Int32) (h : mm_M) (hw : wq_Model_scores_211 SC  (mm_ge (eG E)) v0 v2 h Z) : V E 8 0 0 h 211 [(0, va_rf (some v0)), (2, .int (v2))] [] := by
  unfold wq_Model_scores_211 at hw
  refine V_iconst (v := 0) hc d_Model_scores_211 (by decide) ?_
  refine V_istore (i := 4) (lv' := [(4, .int (0)), (0, va_rf (some v0)), (2, .int (v2))]) hc d_Model_scores_212 (by decide) rfl ?_
  refine V_sub (lv' := [(0, va_rf (some v0)), (2, .int (v2)), (4, .int (0))]) [1, 2, 0] rfl ?_
  exact vl_Model_scores_214 hc hq hrd hr_self hr_Model_isDirectory hr_Model_layScore hr_Model_puts hr_Model_scoreFile hr_Model_spot hr_Model_stat SC hSC  _ _ _ _ hw
set_option maxRecDepth 100000 in
set_option maxHeartbeats 4000000 in
theorem vb_Model_scores_193 {E : mm_E} {Z : mm_M → Prop} {rm : Room} (hc : cx E "EpochServerModel" c_Model_scores 8 none rm) (hq : cq E rm (pV Z)) {rmd : Room} (hrd : rmd.cells = 0 ∧ rmd.slots = 0) (hr_self : rmOk rm rmd 8) (hr_Model_isDirectory : rmOk rm rm_Model_isDirectory 2) (hr_Model_layScore : rmOk rm rm_Model_layScore 6) (hr_Model_puts : rmOk rm rm_Model_puts 5) (hr_Model_scoreFile : rmOk rm rm_Model_scoreFile 8) (hr_Model_spot : rmOk rm rm_Model_spot 2) (hr_Model_stat : rmOk rm rm_Model_stat 5) (SC : (Nat → Nat) → Nat → Int32 → Int32 → mm_M → (mm_M → Prop) → Prop) (hSC : ∀ (v0 : Nat) (v1 : Int32) (v2 : Int32) (h : mm_M) (Z : mm_M → Prop), SC (mm_ge (eG E)) v0 v1 v2 h Z → mm_Met (eG E) y_Model_scores c_Model_scores 8 none rmd [va_rf (some v0), .int (v1), .int (v2)] h (pV Z)) (X87 : Nat → Int32 → Int32 → Int32 → Int32 → Int32 → mm_M → Prop) (hX87 : ∀ (v0 : Nat) (v1 : Int32) (v2 : Int32) (v4 : Int32) (v5 : Int32) (v6 : Int32) (h : mm_M), X87 v0 v1 v2 v4 v5 v6 h → V E 8 0 0 h 87 [(0, va_rf (some v0)), (1, .int (v1)), (2, .int (v2)), (4, .int (v4)), (5, .int (v5)), (6, .int (v6))] []) (v0 : Nat) (v1 : Int32) (v2 : Int32) (v4 : Int32) (v5 : Int32) (v6 : Int32) (h : mm_M) (hw : wq_Model_scores_193 SC X87 (mm_ge (eG E)) v0 v1 v2 v4 v5 v6 h Z) : V E 8 0 0 h 193 [(0, va_rf (some v0)), (1, .int (v1)), (2, .int (v2)), (4, .int (v4)), (5, .int (v5)), (6, .int (v6))] [] := by
  unfold wq_Model_scores_193 at hw
  refine V_iinc (v := v6 + 1) (lv' := [(6, .int (v6 + 1)), (0, va_rf (some v0)), (1, .int (v1)), (2, .int (v2)), (4, .int (v4)), (5, .int (v5))]) hc 5 d_Model_scores_193 rfl rfl (by decide) rfl ?_
  refine V_goto (tgt := 87) hc d_Model_scores_196 (by decide) ?_
  refine V_sub (lv' := [(0, va_rf (some v0)), (1, .int (v1)), (2, .int (v2)), (4, .int (v4)), (5, .int (v5)), (6, .int (v6 + 1))]) [1, 2, 3, 4, 5, 0] rfl ?_
  exact hX87 _ _ _ _ _ _ _ hw
set_option maxRecDepth 100000 in
set_option maxHeartbeats 4000000 in
theorem vb_Model_scores_145 {E : mm_E} {Z : mm_M → Prop} {rm : Room} (hc : cx E "EpochServerModel" c_Model_scores 8 none rm) (hq : cq E rm (pV Z)) {rmd : Room} (hrd : rmd.cells = 0 ∧ rmd.slots = 0) (hr_self : rmOk rm rmd 8) (hr_Model_isDirectory : rmOk rm rm_Model_isDirectory 2) (hr_Model_layScore : rmOk rm rm_Model_layScore 6) (hr_Model_puts : rmOk rm rm_Model_puts 5) (hr_Model_scoreFile : rmOk rm rm_Model_scoreFile 8) (hr_Model_spot : rmOk rm rm_Model_spot 2) (hr_Model_stat : rmOk rm rm_Model_stat 5) (SC : (Nat → Nat) → Nat → Int32 → Int32 → mm_M → (mm_M → Prop) → Prop) (hSC : ∀ (v0 : Nat) (v1 : Int32) (v2 : Int32) (h : mm_M) (Z : mm_M → Prop), SC (mm_ge (eG E)) v0 v1 v2 h Z → mm_Met (eG E) y_Model_scores c_Model_scores 8 none rmd [va_rf (some v0), .int (v1), .int (v2)] h (pV Z)) (X87 : Nat → Int32 → Int32 → Int32 → Int32 → Int32 → mm_M → Prop) (hX87 : ∀ (v0 : Nat) (v1 : Int32) (v2 : Int32) (v4 : Int32) (v5 : Int32) (v6 : Int32) (h : mm_M), X87 v0 v1 v2 v4 v5 v6 h → V E 8 0 0 h 87 [(0, va_rf (some v0)), (1, .int (v1)), (2, .int (v2)), (4, .int (v4)), (5, .int (v5)), (6, .int (v6))] []) (X145 : Nat → Int32 → Int32 → Int32 → Int32 → Int32 → Int32 → mm_M → Prop) (hX145 : ∀ (v0 : Nat) (v1 : Int32) (v2 : Int32) (v4 : Int32) (v5 : Int32) (v6 : Int32) (v7 : Int32) (h : mm_M), X145 v0 v1 v2 v4 v5 v6 v7 h → V E 8 0 0 h 145 [(0, va_rf (some v0)), (1, .int (v1)), (2, .int (v2)), (4, .int (v4)), (5, .int (v5)), (6, .int (v6)), (7, .int (v7))] []) (v0 : Nat) (v1 : Int32) (v2 : Int32) (v4 : Int32) (v5 : Int32) (v6 : Int32) (v7 : Int32) (h : mm_M) (hw : wq_Model_scores_145 SC X87 X145 (mm_ge (eG E)) v0 v1 v2 v4 v5 v6 v7 h Z) : V E 8 0 0 h 145 [(0, va_rf (some v0)), (1, .int (v1)), (2, .int (v2)), (4, .int (v4)), (5, .int (v5)), (6, .int (v6)), (7, .int (v7))] [] := by
  unfold wq_Model_scores_145 at hw
  refine V_iload hc 6 d_Model_scores_145 rfl ?_
  refine V_aload_n hc 0 d_Model_scores_147 rfl rfl ?_
  obtain ⟨q1, hw⟩ := hw
  refine V_get (v := .int (mm_I h v0 17)) hc gf_Model_197 rfl q1 rfl d_Model_scores_148 ?_
  refine V_icmp_ge (tgt := 177) hc d_Model_scores_151 (by decide) (fun hq1 => ?_) (fun hq1 => ?_)
  · replace hw := hw.1 hq1
    refine V_aload_n hc 0 d_Model_scores_177 rfl rfl ?_
    refine V_iload hc 3 d_Model_scores_178 rfl ?_
    refine V_aload_n hc 0 d_Model_scores_180 rfl rfl ?_
    refine V_get (v := va_rf (mm_P h v0 58)) hc gf_Model_89 rfl q1 rfl d_Model_scores_181 ?_
    refine V_iconst (v := 5) hc d_Model_scores_184 (by decide) ?_
    refine V_iload hc 5 d_Model_scores_185 rfl ?_
    refine V_imul hc d_Model_scores_187 ?_
    refine V_callV (rm' := rm_Model_layScore) (As := [.int (v4), va_rf (mm_P h v0 58), .int ((5 : Int32) * (v6))]) (rest := []) (n := 3) (cn := 0) hc rfl q1 (sat_Model_layScore (eG E) _ _ _ _ _ _ hw) rfl cv_Model_393 (gw_of (tw_6 (List.mem_of_getElem? (i := 201) rfl)) rfl) ss_Model_layScore rfl hr_Model_layScore (Nat.zero_le _) (Nat.zero_le _) rfl (by simp [cat_rf, cat_i, cat_l]) d_Model_scores_188 (fun r0 h2 hw => ?_)
    obtain ⟨r3, rfl, hw⟩ := hw
    refine V_wide (cs' := 0) (sl' := 0) (Nat.le_of_eq (by first | rfl | simp [hrd])) (Nat.le_of_eq (by first | rfl | simp [hrd])) ?_
    refine V_st (st' := [.int (r3)]) rfl ?_
    refine V_istore (i := 4) (lv' := [(4, .int (r3)), (0, va_rf (some v0)), (1, .int (v1)), (2, .int (v2)), (5, .int (v5)), (6, .int (v6)), (7, .int (v7))]) hc d_Model_scores_191 (by decide) rfl ?_
    refine V_sub (lv' := [(0, va_rf (some v0)), (1, .int (v1)), (2, .int (v2)), (4, .int (r3)), (5, .int (v5)), (6, .int (v6))]) [1, 2, 3, 0, 4, 5] rfl ?_
    exact vb_Model_scores_193 hc hq hrd hr_self hr_Model_isDirectory hr_Model_layScore hr_Model_puts hr_Model_scoreFile hr_Model_spot hr_Model_stat SC hSC X87 hX87 _ _ _ _ _ _ _ hw
  · replace hw := hw.2 hq1
    refine V_aload_n hc 0 d_Model_scores_154 rfl rfl ?_
    refine V_get (v := va_rf (mm_P h v0 55)) hc gf_Model_80 rfl q1 rfl d_Model_scores_155 ?_
    refine V_iload hc 3 d_Model_scores_158 rfl ?_
    refine V_aload_n hc 0 d_Model_scores_160 rfl rfl ?_
    refine V_get (v := va_rf (mm_P h v0 15)) hc gf_Model_47 rfl q1 rfl d_Model_scores_161 ?_
    refine V_iload hc 6 d_Model_scores_164 rfl ?_
    obtain ⟨a4, q5, hw⟩ := hw
    obtain ⟨q6, hw⟩ := hw
    obtain ⟨q7, hw⟩ := hw
    refine V_iald hc q5 q6 q7 d_Model_scores_166 ?_
    obtain ⟨a8, q9, hw⟩ := hw
    obtain ⟨q10, hw⟩ := hw
    obtain ⟨q11, hw⟩ := hw
    obtain ⟨q12, hw⟩ := hw
    obtain ⟨h13, eq_h13⟩ : ∃ x, x = mm_uI h a8 (Int32.toNatClampNeg (v4)) (mm_I h a4 (Int32.toNatClampNeg (v7))) := ⟨_, rfl⟩
    replace hw := hw _ eq_h13
    refine V_iast hc q9 q10 q11 q12 d_Model_scores_167 ?_
    rw [← eq_h13]
    refine V_iinc (v := v4 + 1) (lv' := [(4, .int (v4 + 1)), (0, va_rf (some v0)), (1, .int (v1)), (2, .int (v2)), (5, .int (v5)), (6, .int (v6)), (7, .int (v7))]) hc 3 d_Model_scores_168 rfl rfl (by decide) rfl ?_
    refine V_iinc (v := v7 + 1) (lv' := [(7, .int (v7 + 1)), (4, .int (v4 + 1)), (0, va_rf (some v0)), (1, .int (v1)), (2, .int (v2)), (5, .int (v5)), (6, .int (v6))]) hc 6 d_Model_scores_171 rfl rfl (by decide) rfl ?_
    refine V_goto (tgt := 145) hc d_Model_scores_174 (by decide) ?_
    refine V_sub (lv' := [(0, va_rf (some v0)), (1, .int (v1)), (2, .int (v2)), (4, .int (v4 + 1)), (5, .int (v5)), (6, .int (v6)), (7, .int (v7 + 1))]) [2, 3, 4, 1, 5, 6, 0] rfl ?_
    exact hX145 _ _ _ _ _ _ _ _ hw
theorem vl_Model_scores_145 {E : mm_E} {Z : mm_M → Prop} {rm : Room} (hc : cx E "EpochServerModel" c_Model_scores 8 none rm) (hq : cq E rm (pV Z)) {rmd : Room} (hrd : rmd.cells = 0 ∧ rmd.slots = 0) (hr_self : rmOk rm rmd 8) (hr_Model_isDirectory : rmOk rm rm_Model_isDirectory 2) (hr_Model_layScore : rmOk rm rm_Model_layScore 6) (hr_Model_puts : rmOk rm rm_Model_puts 5) (hr_Model_scoreFile : rmOk rm rm_Model_scoreFile 8) (hr_Model_spot : rmOk rm rm_Model_spot 2) (hr_Model_stat : rmOk rm rm_Model_stat 5) (SC : (Nat → Nat) → Nat → Int32 → Int32 → mm_M → (mm_M → Prop) → Prop) (hSC : ∀ (v0 : Nat) (v1 : Int32) (v2 : Int32) (h : mm_M) (Z : mm_M → Prop), SC (mm_ge (eG E)) v0 v1 v2 h Z → mm_Met (eG E) y_Model_scores c_Model_scores 8 none rmd [va_rf (some v0), .int (v1), .int (v2)] h (pV Z)) (X87 : Nat → Int32 → Int32 → Int32 → Int32 → Int32 → mm_M → Prop) (hX87 : ∀ (v0 : Nat) (v1 : Int32) (v2 : Int32) (v4 : Int32) (v5 : Int32) (v6 : Int32) (h : mm_M), X87 v0 v1 v2 v4 v5 v6 h → V E 8 0 0 h 87 [(0, va_rf (some v0)), (1, .int (v1)), (2, .int (v2)), (4, .int (v4)), (5, .int (v5)), (6, .int (v6))] []) (v0 : Nat) (v1 : Int32) (v2 : Int32) (v4 : Int32) (v5 : Int32) (v6 : Int32) (v7 : Int32) (h : mm_M) (hw : lp_Model_scores_145 SC X87 (mm_ge (eG E)) v0 v1 v2 v4 v5 v6 v7 h Z) : V E 8 0 0 h 145 [(0, va_rf (some v0)), (1, .int (v1)), (2, .int (v2)), (4, .int (v4)), (5, .int (v5)), (6, .int (v6)), (7, .int (v7))] [] :=
  hw (fun v0 v1 v2 v4 v5 v6 v7 h => V E 8 0 0 h 145 [(0, va_rf (some v0)), (1, .int (v1)), (2, .int (v2)), (4, .int (v4)), (5, .int (v5)), (6, .int (v6)), (7, .int (v7))] []) (fun v0 v1 v2 v4 v5 v6 v7 h hb => vb_Model_scores_145 hc hq hrd hr_self hr_Model_isDirectory hr_Model_layScore hr_Model_puts hr_Model_scoreFile hr_Model_spot hr_Model_stat SC hSC X87 hX87 _ (fun _ _ _ _ _ _ _ _ q => q) v0 v1 v2 v4 v5 v6 v7 h hb)
set_option maxRecDepth 100000 in
set_option maxHeartbeats 4000000 in
theorem vb_Model_scores_87 {E : mm_E} {Z : mm_M → Prop} {rm : Room} (hc : cx E "EpochServerModel" c_Model_scores 8 none rm) (hq : cq E rm (pV Z)) {rmd : Room} (hrd : rmd.cells = 0 ∧ rmd.slots = 0) (hr_self : rmOk rm rmd 8) (hr_Model_isDirectory : rmOk rm rm_Model_isDirectory 2) (hr_Model_layScore : rmOk rm rm_Model_layScore 6) (hr_Model_puts : rmOk rm rm_Model_puts 5) (hr_Model_scoreFile : rmOk rm rm_Model_scoreFile 8) (hr_Model_spot : rmOk rm rm_Model_spot 2) (hr_Model_stat : rmOk rm rm_Model_stat 5) (SC : (Nat → Nat) → Nat → Int32 → Int32 → mm_M → (mm_M → Prop) → Prop) (hSC : ∀ (v0 : Nat) (v1 : Int32) (v2 : Int32) (h : mm_M) (Z : mm_M → Prop), SC (mm_ge (eG E)) v0 v1 v2 h Z → mm_Met (eG E) y_Model_scores c_Model_scores 8 none rmd [va_rf (some v0), .int (v1), .int (v2)] h (pV Z)) (X87 : Nat → Int32 → Int32 → Int32 → Int32 → Int32 → mm_M → Prop) (hX87 : ∀ (v0 : Nat) (v1 : Int32) (v2 : Int32) (v4 : Int32) (v5 : Int32) (v6 : Int32) (h : mm_M), X87 v0 v1 v2 v4 v5 v6 h → V E 8 0 0 h 87 [(0, va_rf (some v0)), (1, .int (v1)), (2, .int (v2)), (4, .int (v4)), (5, .int (v5)), (6, .int (v6))] []) (v0 : Nat) (v1 : Int32) (v2 : Int32) (v4 : Int32) (v5 : Int32) (v6 : Int32) (h : mm_M) (hw : wq_Model_scores_87 SC X87 (mm_ge (eG E)) v0 v1 v2 v4 v5 v6 h Z) : V E 8 0 0 h 87 [(0, va_rf (some v0)), (1, .int (v1)), (2, .int (v2)), (4, .int (v4)), (5, .int (v5)), (6, .int (v6))] [] := by
  unfold wq_Model_scores_87 at hw
  refine V_iload hc 5 d_Model_scores_87 rfl ?_
  refine V_bipush (v := 60) hc d_Model_scores_89 (by decide) ?_
  refine V_icmp_ge (tgt := 199) hc d_Model_scores_91 (by decide) (fun hq1 => ?_) (fun hq1 => ?_)
  · replace hw := hw.1 hq1
    refine V_aload_n hc 0 d_Model_scores_199 rfl rfl ?_
    refine V_iload hc 4 d_Model_scores_200 rfl ?_
    obtain ⟨q1, hw⟩ := hw
    obtain ⟨q2, hw⟩ := hw
    obtain ⟨h3, eq_h3⟩ : ∃ x, x = mm_uI h (v0) 17 (v5) := ⟨_, rfl⟩
    replace hw := hw _ eq_h3
    refine V_put (h' := h3) hc gf_Model_197 rfl rfl q1 q2 (by rw [eq_h3]; exact mm_Up_I _ _ _ _) (by rw [eq_h3]; exact up_vI rfl) (vp_nar_int _) rfl d_Model_scores_202 ?_
    refine V_aload_n hc 0 d_Model_scores_205 rfl rfl ?_
    refine V_iload hc 3 d_Model_scores_206 rfl ?_
    obtain ⟨q4, hw⟩ := hw
    refine V_callV (rm' := rm_Model_puts) (As := [.int (v4)]) (rest := []) (n := 1) (cn := 0) hc rfl q4 (sat_Model_puts (eG E) _ _ _ _ hw) rfl cv_Model_390 (gw_of (tw_6 (List.mem_of_getElem? (i := 177) rfl)) rfl) ss_Model_puts rfl hr_Model_puts (Nat.zero_le _) (Nat.zero_le _) rfl (by simp [cat_rf, cat_i, cat_l]) d_Model_scores_208 (fun r0 h5 hw => ?_)
    obtain ⟨rfl, hw⟩ := hw
    refine V_wide (cs' := 0) (sl' := 0) (Nat.le_of_eq (by first | rfl | simp [hrd])) (Nat.le_of_eq (by first | rfl | simp [hrd])) ?_
    refine V_st (st' := []) rfl ?_
    refine V_sub (lv' := [(0, va_rf (some v0)), (2, .int (v2))]) [0, 2] rfl ?_
    exact vb_Model_scores_211 hc hq hrd hr_self hr_Model_isDirectory hr_Model_layScore hr_Model_puts hr_Model_scoreFile hr_Model_spot hr_Model_stat SC hSC  _ _ _ hw
  · replace hw := hw.2 hq1
    refine V_aload_n hc 0 d_Model_scores_94 rfl rfl ?_
    obtain ⟨q7, hw⟩ := hw
    refine V_get (v := va_rf (mm_P h v0 0)) hc gf_Model_9 rfl q7 rfl d_Model_scores_95 ?_
    refine V_iload_n hc 1 d_Model_scores_98 rfl rfl ?_
    refine V_iload hc 5 d_Model_scores_99 rfl ?_
    refine V_callS (rm' := rm_Model_spot) (As := [.int (v1), .int (v6)]) (rest := [va_rf (mm_P h v0 0)]) (n := 2) hc (sat_Model_spot (eG E) _ _ _ _ hw) cv_Model_96 (gw_of (tw_5 (List.mem_of_getElem? (i := 196) rfl)) rfl) rfl hr_Model_spot (Nat.zero_le _) (Nat.zero_le _) rfl (by simp [cat_rf, cat_i, cat_l]) d_Model_scores_101 (fun r0 h8 hw => ?_)
    obtain ⟨r9, rfl, hw⟩ := hw
    refine V_wide (cs' := 0) (sl' := 0) (Nat.le_of_eq (by first | rfl | simp [hrd])) (Nat.le_of_eq (by first | rfl | simp [hrd])) ?_
    refine V_st (st' := [.int (r9), va_rf (mm_P h v0 0)]) rfl ?_
    obtain ⟨a10, q11, hw⟩ := hw
    obtain ⟨q12, hw⟩ := hw
    obtain ⟨q13, hw⟩ := hw
    refine V_zald hc q11 q12 q13 d_Model_scores_104 ?_
    refine V_if_eq (tgt := 193) hc d_Model_scores_105 (by decide) (fun hq1 => ?_) (fun hq1 => ?_)
    · replace hw := hw.1 hq1
      refine V_sub (lv' := [(0, va_rf (some v0)), (1, .int (v1)), (2, .int (v2)), (4, .int (v4)), (5, .int (v5)), (6, .int (v6))]) [0, 1, 2, 3, 4, 5] rfl ?_
      exact vb_Model_scores_193 hc hq hrd hr_self hr_Model_isDirectory hr_Model_layScore hr_Model_puts hr_Model_scoreFile hr_Model_spot hr_Model_stat SC hSC X87 hX87 _ _ _ _ _ _ _ hw
    · replace hw := hw.2 hq1
      refine V_aload_n hc 0 d_Model_scores_108 rfl rfl ?_
      obtain ⟨q14, hw⟩ := hw
      refine V_get (v := va_rf (mm_P h8 v0 1)) hc gf_Model_13 rfl q14 rfl d_Model_scores_109 ?_
      refine V_iload_n hc 1 d_Model_scores_112 rfl rfl ?_
      refine V_iload hc 5 d_Model_scores_113 rfl ?_
      refine V_callS (rm' := rm_Model_spot) (As := [.int (v1), .int (v6)]) (rest := [va_rf (mm_P h8 v0 1)]) (n := 2) hc (sat_Model_spot (eG E) _ _ _ _ hw) cv_Model_96 (gw_of (tw_5 (List.mem_of_getElem? (i := 196) rfl)) rfl) rfl hr_Model_spot (Nat.zero_le _) (Nat.zero_le _) rfl (by simp [cat_rf, cat_i, cat_l]) d_Model_scores_115 (fun r0 h15 hw => ?_)
      obtain ⟨r16, rfl, hw⟩ := hw
      refine V_wide (cs' := 0) (sl' := 0) (Nat.le_of_eq (by first | rfl | simp [hrd])) (Nat.le_of_eq (by first | rfl | simp [hrd])) ?_
      refine V_st (st' := [.int (r16), va_rf (mm_P h8 v0 1)]) rfl ?_
      obtain ⟨a17, q18, hw⟩ := hw
      obtain ⟨q19, hw⟩ := hw
      obtain ⟨q20, hw⟩ := hw
      refine V_iald hc q18 q19 q20 d_Model_scores_118 ?_
      refine V_iload_n hc 2 d_Model_scores_119 rfl rfl ?_
      refine V_icmp_eq (tgt := 126) hc d_Model_scores_120 (by decide) (fun hq1 => ?_) (fun hq1 => ?_)
      · replace hw := hw.1 hq1
        refine V_aload_n hc 0 d_Model_scores_126 rfl rfl ?_
        refine V_sipush (v := 1400) hc d_Model_scores_127 (by decide) ?_
        obtain ⟨q21, hw⟩ := hw
        obtain ⟨q22, hw⟩ := hw
        obtain ⟨h23, eq_h23⟩ : ∃ x, x = mm_uI h15 (v0) 17 (1400) := ⟨_, rfl⟩
        replace hw := hw _ eq_h23
        refine V_put (h' := h23) hc gf_Model_197 rfl rfl q21 q22 (by rw [eq_h23]; exact mm_Up_I _ _ _ _) (by rw [eq_h23]; exact up_vI rfl) (vp_nar_int _) rfl d_Model_scores_130 ?_
        refine V_aload_n hc 0 d_Model_scores_133 rfl rfl ?_
        refine V_iload_n hc 1 d_Model_scores_134 rfl rfl ?_
        refine V_iload hc 5 d_Model_scores_135 rfl ?_
        obtain ⟨q24, hw⟩ := hw
        refine V_callV (rm' := rm_Model_stat) (As := [.int (v1), .int (v6)]) (rest := []) (n := 2) (cn := 0) hc rfl q24 (sat_Model_stat (eG E) _ _ _ _ _ hw) rfl cv_Model_291 (gw_of (tw_6 (List.mem_of_getElem? (i := 108) rfl)) rfl) ss_Model_stat rfl hr_Model_stat (Nat.zero_le _) (Nat.zero_le _) rfl (by simp [cat_rf, cat_i, cat_l]) d_Model_scores_137 (fun r0 h25 hw => ?_)
        obtain ⟨rfl, hw⟩ := hw
        refine V_wide (cs' := 0) (sl' := 0) (Nat.le_of_eq (by first | rfl | simp [hrd])) (Nat.le_of_eq (by first | rfl | simp [hrd])) ?_
        refine V_st (st' := []) rfl ?_
        refine V_sipush (v := 1400) hc d_Model_scores_140 (by decide) ?_
        refine V_istore (i := 7) (lv' := [(7, .int (1400)), (0, va_rf (some v0)), (1, .int (v1)), (2, .int (v2)), (4, .int (v4)), (5, .int (v5)), (6, .int (v6))]) hc d_Model_scores_143 (by decide) rfl ?_
        refine V_sub (lv' := [(0, va_rf (some v0)), (1, .int (v1)), (2, .int (v2)), (4, .int (v4)), (5, .int (v5)), (6, .int (v6)), (7, .int (1400))]) [1, 2, 3, 4, 5, 6, 0] rfl ?_
        exact vl_Model_scores_145 hc hq hrd hr_self hr_Model_isDirectory hr_Model_layScore hr_Model_puts hr_Model_scoreFile hr_Model_spot hr_Model_stat SC hSC X87 hX87 _ _ _ _ _ _ _ _ hw
      · replace hw := hw.2 hq1
        refine V_goto (tgt := 193) hc d_Model_scores_123 (by decide) ?_
        refine V_sub (lv' := [(0, va_rf (some v0)), (1, .int (v1)), (2, .int (v2)), (4, .int (v4)), (5, .int (v5)), (6, .int (v6))]) [0, 1, 2, 3, 4, 5] rfl ?_
        exact vb_Model_scores_193 hc hq hrd hr_self hr_Model_isDirectory hr_Model_layScore hr_Model_puts hr_Model_scoreFile hr_Model_spot hr_Model_stat SC hSC X87 hX87 _ _ _ _ _ _ _ hw
theorem vl_Model_scores_87 {E : mm_E} {Z : mm_M → Prop} {rm : Room} (hc : cx E "EpochServerModel" c_Model_scores 8 none rm) (hq : cq E rm (pV Z)) {rmd : Room} (hrd : rmd.cells = 0 ∧ rmd.slots = 0) (hr_self : rmOk rm rmd 8) (hr_Model_isDirectory : rmOk rm rm_Model_isDirectory 2) (hr_Model_layScore : rmOk rm rm_Model_layScore 6) (hr_Model_puts : rmOk rm rm_Model_puts 5) (hr_Model_scoreFile : rmOk rm rm_Model_scoreFile 8) (hr_Model_spot : rmOk rm rm_Model_spot 2) (hr_Model_stat : rmOk rm rm_Model_stat 5) (SC : (Nat → Nat) → Nat → Int32 → Int32 → mm_M → (mm_M → Prop) → Prop) (hSC : ∀ (v0 : Nat) (v1 : Int32) (v2 : Int32) (h : mm_M) (Z : mm_M → Prop), SC (mm_ge (eG E)) v0 v1 v2 h Z → mm_Met (eG E) y_Model_scores c_Model_scores 8 none rmd [va_rf (some v0), .int (v1), .int (v2)] h (pV Z))  (v0 : Nat) (v1 : Int32) (v2 : Int32) (v4 : Int32) (v5 : Int32) (v6 : Int32) (h : mm_M) (hw : lp_Model_scores_87 SC  (mm_ge (eG E)) v0 v1 v2 v4 v5 v6 h Z) : V E 8 0 0 h 87 [(0, va_rf (some v0)), (1, .int (v1)), (2, .int (v2)), (4, .int (v4)), (5, .int (v5)), (6, .int (v6))] [] :=
  hw (fun v0 v1 v2 v4 v5 v6 h => V E 8 0 0 h 87 [(0, va_rf (some v0)), (1, .int (v1)), (2, .int (v2)), (4, .int (v4)), (5, .int (v5)), (6, .int (v6))] []) (fun v0 v1 v2 v4 v5 v6 h hb => vb_Model_scores_87 hc hq hrd hr_self hr_Model_isDirectory hr_Model_layScore hr_Model_puts hr_Model_scoreFile hr_Model_spot hr_Model_stat SC hSC  _ (fun _ _ _ _ _ _ _ q => q) v0 v1 v2 v4 v5 v6 h hb)
set_option maxRecDepth 100000 in
set_option maxHeartbeats 4000000 in
theorem vb_Model_scores_69 {E : mm_E} {Z : mm_M → Prop} {rm : Room} (hc : cx E "EpochServerModel" c_Model_scores 8 none rm) (hq : cq E rm (pV Z)) {rmd : Room} (hrd : rmd.cells = 0 ∧ rmd.slots = 0) (hr_self : rmOk rm rmd 8) (hr_Model_isDirectory : rmOk rm rm_Model_isDirectory 2) (hr_Model_layScore : rmOk rm rm_Model_layScore 6) (hr_Model_puts : rmOk rm rm_Model_puts 5) (hr_Model_scoreFile : rmOk rm rm_Model_scoreFile 8) (hr_Model_spot : rmOk rm rm_Model_spot 2) (hr_Model_stat : rmOk rm rm_Model_stat 5) (SC : (Nat → Nat) → Nat → Int32 → Int32 → mm_M → (mm_M → Prop) → Prop) (hSC : ∀ (v0 : Nat) (v1 : Int32) (v2 : Int32) (h : mm_M) (Z : mm_M → Prop), SC (mm_ge (eG E)) v0 v1 v2 h Z → mm_Met (eG E) y_Model_scores c_Model_scores 8 none rmd [va_rf (some v0), .int (v1), .int (v2)] h (pV Z)) (X26 : Nat → Int32 → Int32 → Int32 → mm_M → Prop) (hX26 : ∀ (v0 : Nat) (v1 : Int32) (v2 : Int32) (v4 : Int32) (h : mm_M), X26 v0 v1 v2 v4 h → V E 8 0 0 h 26 [(0, va_rf (some v0)), (1, .int (v1)), (2, .int (v2)), (4, .int (v4))] []) (v0 : Nat) (v1 : Int32) (v2 : Int32) (v4 : Int32) (h : mm_M) (hw : wq_Model_scores_69 SC X26 (mm_ge (eG E)) v0 v1 v2 v4 h Z) : V E 8 0 0 h 69 [(0, va_rf (some v0)), (1, .int (v1)), (2, .int (v2)), (4, .int (v4))] [] := by
  unfold wq_Model_scores_69 at hw
  refine V_iinc (v := v4 + 1) (lv' := [(4, .int (v4 + 1)), (0, va_rf (some v0)), (1, .int (v1)), (2, .int (v2))]) hc 3 d_Model_scores_69 rfl rfl (by decide) rfl ?_
  refine V_goto (tgt := 26) hc d_Model_scores_72 (by decide) ?_
  refine V_sub (lv' := [(0, va_rf (some v0)), (1, .int (v1)), (2, .int (v2)), (4, .int (v4 + 1))]) [1, 2, 3, 0] rfl ?_
  exact hX26 _ _ _ _ _ hw
set_option maxRecDepth 100000 in
set_option maxHeartbeats 4000000 in
theorem vb_Model_scores_26 {E : mm_E} {Z : mm_M → Prop} {rm : Room} (hc : cx E "EpochServerModel" c_Model_scores 8 none rm) (hq : cq E rm (pV Z)) {rmd : Room} (hrd : rmd.cells = 0 ∧ rmd.slots = 0) (hr_self : rmOk rm rmd 8) (hr_Model_isDirectory : rmOk rm rm_Model_isDirectory 2) (hr_Model_layScore : rmOk rm rm_Model_layScore 6) (hr_Model_puts : rmOk rm rm_Model_puts 5) (hr_Model_scoreFile : rmOk rm rm_Model_scoreFile 8) (hr_Model_spot : rmOk rm rm_Model_spot 2) (hr_Model_stat : rmOk rm rm_Model_stat 5) (SC : (Nat → Nat) → Nat → Int32 → Int32 → mm_M → (mm_M → Prop) → Prop) (hSC : ∀ (v0 : Nat) (v1 : Int32) (v2 : Int32) (h : mm_M) (Z : mm_M → Prop), SC (mm_ge (eG E)) v0 v1 v2 h Z → mm_Met (eG E) y_Model_scores c_Model_scores 8 none rmd [va_rf (some v0), .int (v1), .int (v2)] h (pV Z)) (X26 : Nat → Int32 → Int32 → Int32 → mm_M → Prop) (hX26 : ∀ (v0 : Nat) (v1 : Int32) (v2 : Int32) (v4 : Int32) (h : mm_M), X26 v0 v1 v2 v4 h → V E 8 0 0 h 26 [(0, va_rf (some v0)), (1, .int (v1)), (2, .int (v2)), (4, .int (v4))] []) (v0 : Nat) (v1 : Int32) (v2 : Int32) (v4 : Int32) (h : mm_M) (hw : wq_Model_scores_26 SC X26 (mm_ge (eG E)) v0 v1 v2 v4 h Z) : V E 8 0 0 h 26 [(0, va_rf (some v0)), (1, .int (v1)), (2, .int (v2)), (4, .int (v4))] [] := by
  unfold wq_Model_scores_26 at hw
  refine V_iload hc 3 d_Model_scores_26 rfl ?_
  refine V_bipush (v := 60) hc d_Model_scores_28 (by decide) ?_
  refine V_icmp_ge (tgt := 75) hc d_Model_scores_30 (by decide) (fun hq1 => ?_) (fun hq1 => ?_)
  · replace hw := hw.1 hq1
    refine V_iconst (v := 0) hc d_Model_scores_75 (by decide) ?_
    refine V_istore (i := 4) (lv' := [(4, .int (0)), (0, va_rf (some v0)), (1, .int (v1)), (2, .int (v2))]) hc d_Model_scores_76 (by decide) rfl ?_
    refine V_aload_n hc 1 d_Model_scores_78 rfl rfl ?_
    obtain ⟨q1, hw⟩ := hw
    refine V_get (v := .int (mm_I h v0 17)) hc gf_Model_197 rfl q1 rfl d_Model_scores_79 ?_
    refine V_istore (i := 5) (lv' := [(5, .int (mm_I h v0 17)), (4, .int (0)), (0, va_rf (some v0)), (1, .int (v1)), (2, .int (v2))]) hc d_Model_scores_82 (by decide) rfl ?_
    refine V_iconst (v := 1) hc d_Model_scores_84 (by decide) ?_
    refine V_istore (i := 6) (lv' := [(6, .int (1)), (5, .int (mm_I h v0 17)), (4, .int (0)), (0, va_rf (some v0)), (1, .int (v1)), (2, .int (v2))]) hc d_Model_scores_85 (by decide) rfl ?_
    refine V_sub (lv' := [(0, va_rf (some v0)), (1, .int (v1)), (2, .int (v2)), (4, .int (0)), (5, .int (mm_I h v0 17)), (6, .int (1))]) [3, 4, 5, 2, 1, 0] rfl ?_
    exact vl_Model_scores_87 hc hq hrd hr_self hr_Model_isDirectory hr_Model_layScore hr_Model_puts hr_Model_scoreFile hr_Model_spot hr_Model_stat SC hSC  _ _ _ _ _ _ _ hw
  · replace hw := hw.2 hq1
    refine V_aload_n hc 0 d_Model_scores_33 rfl rfl ?_
    obtain ⟨q2, hw⟩ := hw
    refine V_get (v := va_rf (mm_P h v0 0)) hc gf_Model_9 rfl q2 rfl d_Model_scores_34 ?_
    refine V_iload_n hc 1 d_Model_scores_37 rfl rfl ?_
    refine V_iload hc 3 d_Model_scores_38 rfl ?_
    refine V_callS (rm' := rm_Model_spot) (As := [.int (v1), .int (v4)]) (rest := [va_rf (mm_P h v0 0)]) (n := 2) hc (sat_Model_spot (eG E) _ _ _ _ hw) cv_Model_96 (gw_of (tw_5 (List.mem_of_getElem? (i := 196) rfl)) rfl) rfl hr_Model_spot (Nat.zero_le _) (Nat.zero_le _) rfl (by simp [cat_rf, cat_i, cat_l]) d_Model_scores_40 (fun r0 h3 hw => ?_)
    obtain ⟨r4, rfl, hw⟩ := hw
    refine V_wide (cs' := 0) (sl' := 0) (Nat.le_of_eq (by first | rfl | simp [hrd])) (Nat.le_of_eq (by first | rfl | simp [hrd])) ?_
    refine V_st (st' := [.int (r4), va_rf (mm_P h v0 0)]) rfl ?_
    obtain ⟨a5, q6, hw⟩ := hw
    obtain ⟨q7, hw⟩ := hw
    obtain ⟨q8, hw⟩ := hw
    refine V_zald hc q6 q7 q8 d_Model_scores_43 ?_
    refine V_if_eq (tgt := 69) hc d_Model_scores_44 (by decide) (fun hq1 => ?_) (fun hq1 => ?_)
    · replace hw := hw.1 hq1
      refine V_sub (lv' := [(0, va_rf (some v0)), (1, .int (v1)), (2, .int (v2)), (4, .int (v4))]) [0, 1, 2, 3] rfl ?_
      exact vb_Model_scores_69 hc hq hrd hr_self hr_Model_isDirectory hr_Model_layScore hr_Model_puts hr_Model_scoreFile hr_Model_spot hr_Model_stat SC hSC X26 hX26 _ _ _ _ _ hw
    · replace hw := hw.2 hq1
      refine V_aload_n hc 0 d_Model_scores_47 rfl rfl ?_
      obtain ⟨q9, hw⟩ := hw
      refine V_get (v := va_rf (mm_P h3 v0 1)) hc gf_Model_13 rfl q9 rfl d_Model_scores_48 ?_
      refine V_iload_n hc 1 d_Model_scores_51 rfl rfl ?_
      refine V_iload hc 3 d_Model_scores_52 rfl ?_
      refine V_callS (rm' := rm_Model_spot) (As := [.int (v1), .int (v4)]) (rest := [va_rf (mm_P h3 v0 1)]) (n := 2) hc (sat_Model_spot (eG E) _ _ _ _ hw) cv_Model_96 (gw_of (tw_5 (List.mem_of_getElem? (i := 196) rfl)) rfl) rfl hr_Model_spot (Nat.zero_le _) (Nat.zero_le _) rfl (by simp [cat_rf, cat_i, cat_l]) d_Model_scores_54 (fun r0 h10 hw => ?_)
      obtain ⟨r11, rfl, hw⟩ := hw
      refine V_wide (cs' := 0) (sl' := 0) (Nat.le_of_eq (by first | rfl | simp [hrd])) (Nat.le_of_eq (by first | rfl | simp [hrd])) ?_
      refine V_st (st' := [.int (r11), va_rf (mm_P h3 v0 1)]) rfl ?_
      obtain ⟨a12, q13, hw⟩ := hw
      obtain ⟨q14, hw⟩ := hw
      obtain ⟨q15, hw⟩ := hw
      refine V_iald hc q13 q14 q15 d_Model_scores_57 ?_
      refine V_iload_n hc 2 d_Model_scores_58 rfl rfl ?_
      refine V_icmp_ne (tgt := 69) hc d_Model_scores_59 (by decide) (fun hq1 => ?_) (fun hq1 => ?_)
      · replace hw := hw.1 hq1
        refine V_sub (lv' := [(0, va_rf (some v0)), (1, .int (v1)), (2, .int (v2)), (4, .int (v4))]) [0, 1, 2, 3] rfl ?_
        exact vb_Model_scores_69 hc hq hrd hr_self hr_Model_isDirectory hr_Model_layScore hr_Model_puts hr_Model_scoreFile hr_Model_spot hr_Model_stat SC hSC X26 hX26 _ _ _ _ _ hw
      · replace hw := hw.2 hq1
        refine V_aload_n hc 0 d_Model_scores_62 rfl rfl ?_
        refine V_iload_n hc 1 d_Model_scores_63 rfl rfl ?_
        refine V_iload hc 3 d_Model_scores_64 rfl ?_
        obtain ⟨q16, hw⟩ := hw
        refine V_callV (rm' := rmd) (As := [.int (v1), .int (v4)]) (rest := []) (n := 2) (cn := 0) hc rfl q16 (hSC _ _ _ _ _ hw) rfl cv_Model_400 (gw_of (tw_6 (List.mem_of_getElem? (i := 168) rfl)) rfl) ss_Model_scores rfl hr_self (by rw [hrd.1]; exact Nat.zero_le _) (by rw [hrd.2]; exact Nat.zero_le _) rfl (by simp [cat_rf, cat_i, cat_l]) d_Model_scores_66 (fun r0 h17 hw => ?_)
        obtain ⟨rfl, hw⟩ := hw
        refine V_wide (cs' := 0) (sl' := 0) (Nat.le_of_eq (by first | rfl | simp [hrd])) (Nat.le_of_eq (by first | rfl | simp [hrd])) ?_
        refine V_st (st' := []) rfl ?_
        refine V_sub (lv' := [(0, va_rf (some v0)), (1, .int (v1)), (2, .int (v2)), (4, .int (v4))]) [0, 1, 2, 3] rfl ?_
        exact vb_Model_scores_69 hc hq hrd hr_self hr_Model_isDirectory hr_Model_layScore hr_Model_puts hr_Model_scoreFile hr_Model_spot hr_Model_stat SC hSC X26 hX26 _ _ _ _ _ hw
theorem vl_Model_scores_26 {E : mm_E} {Z : mm_M → Prop} {rm : Room} (hc : cx E "EpochServerModel" c_Model_scores 8 none rm) (hq : cq E rm (pV Z)) {rmd : Room} (hrd : rmd.cells = 0 ∧ rmd.slots = 0) (hr_self : rmOk rm rmd 8) (hr_Model_isDirectory : rmOk rm rm_Model_isDirectory 2) (hr_Model_layScore : rmOk rm rm_Model_layScore 6) (hr_Model_puts : rmOk rm rm_Model_puts 5) (hr_Model_scoreFile : rmOk rm rm_Model_scoreFile 8) (hr_Model_spot : rmOk rm rm_Model_spot 2) (hr_Model_stat : rmOk rm rm_Model_stat 5) (SC : (Nat → Nat) → Nat → Int32 → Int32 → mm_M → (mm_M → Prop) → Prop) (hSC : ∀ (v0 : Nat) (v1 : Int32) (v2 : Int32) (h : mm_M) (Z : mm_M → Prop), SC (mm_ge (eG E)) v0 v1 v2 h Z → mm_Met (eG E) y_Model_scores c_Model_scores 8 none rmd [va_rf (some v0), .int (v1), .int (v2)] h (pV Z))  (v0 : Nat) (v1 : Int32) (v2 : Int32) (v4 : Int32) (h : mm_M) (hw : lp_Model_scores_26 SC  (mm_ge (eG E)) v0 v1 v2 v4 h Z) : V E 8 0 0 h 26 [(0, va_rf (some v0)), (1, .int (v1)), (2, .int (v2)), (4, .int (v4))] [] :=
  hw (fun v0 v1 v2 v4 h => V E 8 0 0 h 26 [(0, va_rf (some v0)), (1, .int (v1)), (2, .int (v2)), (4, .int (v4))] []) (fun v0 v1 v2 v4 h hb => vb_Model_scores_26 hc hq hrd hr_self hr_Model_isDirectory hr_Model_layScore hr_Model_puts hr_Model_scoreFile hr_Model_spot hr_Model_stat SC hSC  _ (fun _ _ _ _ _ q => q) v0 v1 v2 v4 h hb)
set_option maxRecDepth 100000 in
set_option maxHeartbeats 4000000 in
theorem vb_Model_scores_0 {E : mm_E} {Z : mm_M → Prop} {rm : Room} (hc : cx E "EpochServerModel" c_Model_scores 8 none rm) (hq : cq E rm (pV Z)) {rmd : Room} (hrd : rmd.cells = 0 ∧ rmd.slots = 0) (hr_self : rmOk rm rmd 8) (hr_Model_isDirectory : rmOk rm rm_Model_isDirectory 2) (hr_Model_layScore : rmOk rm rm_Model_layScore 6) (hr_Model_puts : rmOk rm rm_Model_puts 5) (hr_Model_scoreFile : rmOk rm rm_Model_scoreFile 8) (hr_Model_spot : rmOk rm rm_Model_spot 2) (hr_Model_stat : rmOk rm rm_Model_stat 5) (SC : (Nat → Nat) → Nat → Int32 → Int32 → mm_M → (mm_M → Prop) → Prop) (hSC : ∀ (v0 : Nat) (v1 : Int32) (v2 : Int32) (h : mm_M) (Z : mm_M → Prop), SC (mm_ge (eG E)) v0 v1 v2 h Z → mm_Met (eG E) y_Model_scores c_Model_scores 8 none rmd [va_rf (some v0), .int (v1), .int (v2)] h (pV Z))  (v0 : Nat) (v1 : Int32) (v2 : Int32) (h : mm_M) (hw : wq_Model_scores_0 SC  (mm_ge (eG E)) v0 v1 v2 h Z) : V E 8 0 0 h 0 [(0, va_rf (some v0)), (1, .int (v1)), (2, .int (v2))] [] := by
  unfold wq_Model_scores_0 at hw
  refine V_iload_n hc 1 d_Model_scores_0 rfl rfl ?_
  refine V_iload_n hc 2 d_Model_scores_1 rfl rfl ?_
  refine V_callS (rm' := rm_Model_spot) (As := [.int (v1), .int (v2)]) (rest := []) (n := 2) hc (sat_Model_spot (eG E) _ _ _ _ hw) cv_Model_96 (gw_of (tw_5 (List.mem_of_getElem? (i := 196) rfl)) rfl) rfl hr_Model_spot (Nat.zero_le _) (Nat.zero_le _) rfl (by simp [cat_rf, cat_i, cat_l]) d_Model_scores_2 (fun r0 h1 hw => ?_)
  obtain ⟨r2, rfl, hw⟩ := hw
  refine V_wide (cs' := 0) (sl' := 0) (Nat.le_of_eq (by first | rfl | simp [hrd])) (Nat.le_of_eq (by first | rfl | simp [hrd])) ?_
  refine V_st (st' := [.int (r2)]) rfl ?_
  refine V_istore_n (i := 3) (lv' := [(3, .int (r2)), (0, va_rf (some v0)), (1, .int (v1)), (2, .int (v2))]) hc d_Model_scores_5 rfl (by decide) rfl ?_
  refine V_aload_n hc 1 d_Model_scores_6 rfl rfl ?_
  refine V_iload_n hc 0 d_Model_scores_7 rfl rfl ?_
  obtain ⟨q3, hw⟩ := hw
  refine V_callV (rm' := rm_Model_isDirectory) (As := [.int (r2)]) (rest := []) (n := 1) (cn := 0) hc rfl q3 (sat_Model_isDirectory (eG E) _ _ _ _ hw) rfl cv_Model_230 (gw_of (tw_6 (List.mem_of_getElem? (i := 39) rfl)) rfl) ss_Model_isDirectory rfl hr_Model_isDirectory (Nat.zero_le _) (Nat.zero_le _) rfl (by simp [cat_rf, cat_i, cat_l]) d_Model_scores_8 (fun r0 h4 hw => ?_)
  obtain ⟨r5, rfl, hw⟩ := hw
  refine V_wide (cs' := 0) (sl' := 0) (Nat.le_of_eq (by first | rfl | simp [hrd])) (Nat.le_of_eq (by first | rfl | simp [hrd])) ?_
  refine V_st (st' := [.int (r5)]) rfl ?_
  refine V_if_ne (tgt := 23) hc d_Model_scores_11 (by decide) (fun hq1 => ?_) (fun hq1 => ?_)
  · replace hw := hw.1 hq1
    refine V_iconst (v := 1) hc d_Model_scores_23 (by decide) ?_
    refine V_istore (i := 4) (lv' := [(4, .int (1)), (3, .int (r2)), (0, va_rf (some v0)), (1, .int (v1)), (2, .int (v2))]) hc d_Model_scores_24 (by decide) rfl ?_
    refine V_sub (lv' := [(0, va_rf (some v0)), (1, .int (v1)), (2, .int (v2)), (4, .int (1))]) [2, 3, 4, 0] rfl ?_
    exact vl_Model_scores_26 hc hq hrd hr_self hr_Model_isDirectory hr_Model_layScore hr_Model_puts hr_Model_scoreFile hr_Model_spot hr_Model_stat SC hSC  _ _ _ _ _ hw
  · replace hw := hw.2 hq1
    refine V_aload_n hc 1 d_Model_scores_14 rfl rfl ?_
    refine V_iload_n hc 2 d_Model_scores_15 rfl rfl ?_
    refine V_iload_n hc 3 d_Model_scores_16 rfl rfl ?_
    obtain ⟨q6, hw⟩ := hw
    refine V_callV (rm' := rm_Model_scoreFile) (As := [.int (v1), .int (v2)]) (rest := []) (n := 2) (cn := 0) hc rfl q6 (sat_Model_scoreFile (eG E) _ _ _ _ _ hw) rfl cv_Model_397 (gw_of (tw_6 (List.mem_of_getElem? (i := 172) rfl)) rfl) ss_Model_scoreFile rfl hr_Model_scoreFile (Nat.zero_le _) (Nat.zero_le _) rfl (by simp [cat_rf, cat_i, cat_l]) d_Model_scores_17 (fun r0 h7 hw => ?_)
    obtain ⟨rfl, hw⟩ := hw
    refine V_wide (cs' := 0) (sl' := 0) (Nat.le_of_eq (by first | rfl | simp [hrd])) (Nat.le_of_eq (by first | rfl | simp [hrd])) ?_
    refine V_st (st' := []) rfl ?_
    refine V_goto (tgt := 211) hc d_Model_scores_20 (by decide) ?_
    refine V_sub (lv' := [(0, va_rf (some v0)), (2, .int (v2))]) [1, 3] rfl ?_
    exact vb_Model_scores_211 hc hq hrd hr_self hr_Model_isDirectory hr_Model_layScore hr_Model_puts hr_Model_scoreFile hr_Model_spot hr_Model_stat SC hSC  _ _ _ hw
/-- scores, no deeper than d -/
def wr_Model_scores : Nat → (Nat → Nat) → Nat → Int32 → Int32 → mm_M → (mm_M → Prop) → Prop
  | 0 => fun _ _ _ _ _ _ => False
  | d + 1 => fun ge v0 v1 v2 h Z => wq_Model_scores_0 (wr_Model_scores d) ge v0 v1 v2 h Z
abbrev rr_Model_scores (d : Nat) : Room := { frames := 5 + d, cells := 0, slots := 0, locals := 125 + d * 27 }
theorem satr_Model_scores (G : mm_G) : ∀ (d : Nat) (v0 : Nat) (v1 v2 : Int32) (h : mm_M) (Z : mm_M → Prop), wr_Model_scores d (mm_ge G) v0 v1 v2 h Z → mm_Met G y_Model_scores c_Model_scores 8 none (rr_Model_scores d) [va_rf (some v0), .int v1, .int v2] h (pV Z) := by
  intro d
  induction d with
  | zero => intro v0 v1 v2 h Z hw; exact hw.elim
  | succ d ih =>
    intro v0 v1 v2 h Z hw
    refine mm_intro (own := "EpochServerModel") (by decide) rfl (by simp [lg_sl, cat_rf, cat_i, cat_l]) (fun E e1 hc hq hi => ?_)
    subst e1
    have e2 : lv_args 0 [va_rf (some v0), .int v1, .int v2] = [(0, va_rf (some v0)), (1, .int v1), (2, .int v2)] := by simp [lv_args, cat_rf, cat_i, cat_l]
    rw [e2]
    exact vb_Model_scores_0 hc hq ⟨rfl, rfl⟩ ⟨by show 5 + d + 1 ≤ 5 + (d + 1); omega, by show 8 + (8 + 11) + (125 + d * 27) ≤ 125 + (d + 1) * 27; omega⟩ ⟨by show 0 + 1 ≤ 5 + (d + 1); omega, by show 8 + (2 + 11) + 0 ≤ 125 + (d + 1) * 27; omega⟩ ⟨by show 0 + 1 ≤ 5 + (d + 1); omega, by show 8 + (6 + 11) + 0 ≤ 125 + (d + 1) * 27; omega⟩ ⟨by show 3 + 1 ≤ 5 + (d + 1); omega, by show 8 + (5 + 11) + 74 ≤ 125 + (d + 1) * 27; omega⟩ ⟨by show 4 + 1 ≤ 5 + (d + 1); omega, by show 8 + (8 + 11) + 98 ≤ 125 + (d + 1) * 27; omega⟩ ⟨by show 0 + 1 ≤ 5 + (d + 1); omega, by show 8 + (2 + 11) + 0 ≤ 125 + (d + 1) * 27; omega⟩ ⟨by show 2 + 1 ≤ 5 + (d + 1); omega, by show 8 + (5 + 11) + 47 ≤ 125 + (d + 1) * 27; omega⟩ (wr_Model_scores d) ih v0 v1 v2 h hw
def wq_Model_scores (ge : Nat → Nat) (v0 : Nat) (v1 : Int32) (v2 : Int32) (h : mm_M) (Z : mm_M → Prop) : Prop := wr_Model_scores 62 ge v0 v1 v2 h Z
abbrev rm_Model_scores : Room := { frames := 67, cells := 0, slots := 0, locals := 1799 }
theorem sat_Model_scores (G : mm_G) (v0 : Nat) (v1 : Int32) (v2 : Int32) (h : mm_M) (Z : mm_M → Prop) (hw : wq_Model_scores (mm_ge G) v0 v1 v2 h Z) : mm_Met G y_Model_scores c_Model_scores 8 none rm_Model_scores [va_rf (some v0), .int v1, .int v2] h (pV Z) := satr_Model_scores G 62 v0 v1 v2 h Z hw
/-! Model.archive(I)I -/
abbrev rm_Model_archive : Room := { frames := 68, cells := 0, slots := 0, locals := 1826 }
def wq_Model_archive_0  (ge : Nat → Nat) (v0 : Nat) (v1 : Int32) (h : mm_M) (Z : Int32 → mm_M → Prop) : Prop :=
  mm_k h (v0) = kd_Model ∧ wq_Model_isIn ge (v1) (mm_I h v0 11) h (fun (r3 : Int32) (h2 : mm_M) => ((¬ (r3) = 0 → mm_k h2 (v0) = kd_Model ∧ ge 0 ≤ v0 ∧ ∀ h6 : mm_M, h6 = mm_uI h2 (v0) 64 (1) → mm_k h6 (v0) = kd_Model ∧ ge 0 ≤ v0 ∧ ∀ h9 : mm_M, h9 = mm_uI h6 (v0) 63 (0) → mm_k h9 (v0) = kd_Model ∧ wq_Model_scores ge (v0) ((v1) + (1 : Int32)) (0) h9 (fun h11 : mm_M => mm_k h11 (v0) = kd_Model ∧ ((¬ (mm_I h11 v0 63) = 0 → ge 0 ≤ v0 ∧ ∀ h15 : mm_M, h15 = mm_uI h11 (v0) 59 (mm_I h2 v0 59) → mm_k h15 (v0) = kd_Model ∧ ge 0 ≤ v0 ∧ ∀ h18 : mm_M, h18 = mm_uI h15 (v0) 60 (mm_I h2 v0 60) → Z ((-2)) h18) ∧ ((mm_I h11 v0 63) = 0 → Z ((mm_I h11 v0 59) - (mm_I h2 v0 59)) h11)))) ∧ ((r3) = 0 → Z ((-1)) h2)))
set_option maxRecDepth 100000 in
set_option maxHeartbeats 4000000 in
theorem vb_Model_archive_0 {E : mm_E} {Z : Int32 → mm_M → Prop} (hc : cx E "EpochServerModel" c_Model_archive 4 (some (.int)) rm_Model_archive) (hq : cq E rm_Model_archive (pI Z))  (v0 : Nat) (v1 : Int32) (h : mm_M) (hw : wq_Model_archive_0  (mm_ge (eG E)) v0 v1 h Z) : V E 4 0 0 h 0 [(0, va_rf (some v0)), (1, .int (v1))] [] := by
  unfold wq_Model_archive_0 at hw
  refine V_iload_n hc 1 d_Model_archive_0 rfl rfl ?_
  refine V_aload_n hc 0 d_Model_archive_1 rfl rfl ?_
  obtain ⟨q1, hw⟩ := hw
  refine V_get (v := .int (mm_I h v0 11)) hc gf_Model_315 rfl q1 rfl d_Model_archive_2 ?_
  refine V_callS (rm' := rm_Model_isIn) (As := [.int (v1), .int (mm_I h v0 11)]) (rest := []) (n := 2) hc (sat_Model_isIn (eG E) _ _ _ _ hw) cv_Model_110 (gw_of (tw_5 (List.mem_of_getElem? (i := 165) rfl)) rfl) rfl ⟨by decide, by decide⟩ (by decide) (by decide) rfl (by simp [cat_rf, cat_i, cat_l]) d_Model_archive_5 (fun r0 h2 hw => ?_)
  obtain ⟨r3, rfl, hw⟩ := hw
  refine V_wide (cs' := 0) (sl' := 0) (by decide) (by decide) ?_
  refine V_st (st' := [.int (r3)]) rfl ?_
  refine V_if_ne (tgt := 13) hc d_Model_archive_8 (by decide) (fun hq1 => ?_) (fun hq1 => ?_)
  · replace hw := hw.1 hq1
    refine V_aload_n hc 0 d_Model_archive_13 rfl rfl ?_
    obtain ⟨q4, hw⟩ := hw
    refine V_get (v := .int (mm_I h2 v0 59)) hc gf_Model_355 rfl q4 rfl d_Model_archive_14 ?_
    refine V_istore_n (i := 2) (lv' := [(2, .int (mm_I h2 v0 59)), (0, va_rf (some v0)), (1, .int (v1))]) hc d_Model_archive_17 rfl (by decide) rfl ?_
    refine V_aload_n hc 1 d_Model_archive_18 rfl rfl ?_
    refine V_get (v := .int (mm_I h2 v0 60)) hc gf_Model_358 rfl q4 rfl d_Model_archive_19 ?_
    refine V_istore_n (i := 3) (lv' := [(3, .int (mm_I h2 v0 60)), (2, .int (mm_I h2 v0 59)), (0, va_rf (some v0)), (1, .int (v1))]) hc d_Model_archive_22 rfl (by decide) rfl ?_
    refine V_aload_n hc 2 d_Model_archive_23 rfl rfl ?_
    refine V_iconst (v := 1) hc d_Model_archive_24 (by decide) ?_
    obtain ⟨q5, hw⟩ := hw
    obtain ⟨h6, eq_h6⟩ : ∃ x, x = mm_uI h2 (v0) 64 (1) := ⟨_, rfl⟩
    replace hw := hw _ eq_h6
    refine V_put (h' := h6) hc gf_Model_379 rfl rfl q4 q5 (by rw [eq_h6]; exact mm_Up_I _ _ _ _) (by rw [eq_h6]; exact up_vI rfl) (by decide) (by decide) d_Model_archive_25 ?_
    refine V_aload_n hc 2 d_Model_archive_28 rfl rfl ?_
    refine V_iconst (v := 0) hc d_Model_archive_29 (by decide) ?_
    obtain ⟨q7, hw⟩ := hw
    obtain ⟨q8, hw⟩ := hw
    obtain ⟨h9, eq_h9⟩ : ∃ x, x = mm_uI h6 (v0) 63 (0) := ⟨_, rfl⟩
    replace hw := hw _ eq_h9
    refine V_put (h' := h9) hc gf_Model_382 rfl rfl q7 q8 (by rw [eq_h9]; exact mm_Up_I _ _ _ _) (by rw [eq_h9]; exact up_vI rfl) (by decide) (by decide) d_Model_archive_30 ?_
    refine V_aload_n hc 2 d_Model_archive_33 rfl rfl ?_
    refine V_iload_n hc 3 d_Model_archive_34 rfl rfl ?_
    refine V_iconst (v := 1) hc d_Model_archive_35 (by decide) ?_
    refine V_iadd hc d_Model_archive_36 ?_
    refine V_iconst (v := 0) hc d_Model_archive_37 (by decide) ?_
    obtain ⟨q10, hw⟩ := hw
    refine V_callV (rm' := rm_Model_scores) (As := [.int ((v1) + (1 : Int32)), .int (0)]) (rest := []) (n := 2) (cn := 0) hc rfl q10 (sat_Model_scores (eG E) _ _ _ _ _ hw) rfl cv_Model_400 (gw_of (tw_6 (List.mem_of_getElem? (i := 168) rfl)) rfl) ss_Model_scores rfl ⟨by decide, by decide⟩ (by decide) (by decide) rfl (by simp [cat_rf, cat_i, cat_l]) d_Model_archive_38 (fun r0 h11 hw => ?_)
    obtain ⟨rfl, hw⟩ := hw
    refine V_wide (cs' := 0) (sl' := 0) (by decide) (by decide) ?_
    refine V_st (st' := []) rfl ?_
    refine V_aload_n hc 2 d_Model_archive_41 rfl rfl ?_
    obtain ⟨q13, hw⟩ := hw
    refine V_get (v := .int (mm_I h11 v0 63)) hc gf_Model_382 rfl q13 rfl d_Model_archive_42 ?_
    refine V_if_ne (tgt := 55) hc d_Model_archive_45 (by decide) (fun hq1 => ?_) (fun hq1 => ?_)
    · replace hw := hw.1 hq1
      refine V_aload_n hc 2 d_Model_archive_55 rfl rfl ?_
      refine V_iload_n hc 1 d_Model_archive_56 rfl rfl ?_
      obtain ⟨q14, hw⟩ := hw
      obtain ⟨h15, eq_h15⟩ : ∃ x, x = mm_uI h11 (v0) 59 (mm_I h2 v0 59) := ⟨_, rfl⟩
      replace hw := hw _ eq_h15
      refine V_put (h' := h15) hc gf_Model_355 rfl rfl q13 q14 (by rw [eq_h15]; exact mm_Up_I _ _ _ _) (by rw [eq_h15]; exact up_vI rfl) (vp_nar_int _) rfl d_Model_archive_57 ?_
      refine V_aload_n hc 2 d_Model_archive_60 rfl rfl ?_
      refine V_iload_n hc 0 d_Model_archive_61 rfl rfl ?_
      obtain ⟨q16, hw⟩ := hw
      obtain ⟨q17, hw⟩ := hw
      obtain ⟨h18, eq_h18⟩ : ∃ x, x = mm_uI h15 (v0) 60 (mm_I h2 v0 60) := ⟨_, rfl⟩
      replace hw := hw _ eq_h18
      refine V_put (h' := h18) hc gf_Model_358 rfl rfl q16 q17 (by rw [eq_h18]; exact mm_Up_I _ _ _ _) (by rw [eq_h18]; exact up_vI rfl) (vp_nar_int _) rfl d_Model_archive_62 ?_
      refine V_bipush (v := (-2)) hc d_Model_archive_65 (by decide) ?_
      exact V_iret hc hq ⟨_, rfl, hw⟩ (by decide) (by decide) d_Model_archive_67
    · replace hw := hw.2 hq1
      refine V_aload_n hc 2 d_Model_archive_48 rfl rfl ?_
      refine V_get (v := .int (mm_I h11 v0 59)) hc gf_Model_355 rfl q13 rfl d_Model_archive_49 ?_
      refine V_iload_n hc 1 d_Model_archive_52 rfl rfl ?_
      refine V_isub hc d_Model_archive_53 ?_
      exact V_iret hc hq ⟨_, rfl, hw⟩ (by decide) (by decide) d_Model_archive_54
  · replace hw := hw.2 hq1
    refine V_iconst (v := (-1)) hc d_Model_archive_11 (by decide) ?_
    exact V_iret hc hq ⟨_, rfl, hw⟩ (by decide) (by decide) d_Model_archive_12
def wq_Model_archive (ge : Nat → Nat) (v0 : Nat) (v1 : Int32) (h : mm_M) (Z : Int32 → mm_M → Prop) : Prop := wq_Model_archive_0 ge v0 v1 h Z
theorem sat_Model_archive (G : mm_G) (v0 : Nat) (v1 : Int32) (h : mm_M) (Z : Int32 → mm_M → Prop) (hw : wq_Model_archive (mm_ge G) v0 v1 h Z) : mm_Met G y_Model_archive c_Model_archive 4 (some (.int)) rm_Model_archive [va_rf (some v0), .int (v1)] h (pI Z) := by
  refine mm_intro (own := "EpochServerModel") (by decide) rfl (by simp [lg_sl, cat_rf, cat_i, cat_l]) (fun E e1 hc hq hi => ?_)
  subst e1
  have e2 : lv_args 0 [va_rf (some v0), .int (v1)] = [(0, va_rf (some v0)), (1, .int (v1))] := by simp [lv_args, cat_rf, cat_i, cat_l]
  rw [e2]
  refine V_sub (lv' := [(0, va_rf (some v0)), (1, .int (v1))]) [0, 1] rfl ?_
  exact vb_Model_archive_0 hc hq v0 v1 h hw
/-! Model.score(II)I -/
abbrev rm_Model_score : Room := { frames := 68, cells := 0, slots := 0, locals := 1826 }
def wq_Model_score_20  (ge : Nat → Nat)  (h : mm_M) (Z : Int32 → mm_M → Prop) : Prop :=
  Z ((-1)) h
def wq_Model_score_0  (ge : Nat → Nat) (v0 : Nat) (v1 : Int32) (v2 : Int32) (h : mm_M) (Z : Int32 → mm_M → Prop) : Prop :=
  mm_k h (v0) = kd_Model ∧ wq_Model_isIn ge (v1) (mm_I h v0 11) h (fun (r3 : Int32) (h2 : mm_M) => (((r3) = 0 → wq_Model_score_20  ge h2 Z) ∧ (¬ (r3) = 0 → wq_Model_isIn ge (v2) (20) h2 (fun (r5 : Int32) (h4 : mm_M) => ((¬ (r5) = 0 → mm_k h4 (v0) = kd_Model ∧ ge 0 ≤ v0 ∧ ∀ h8 : mm_M, h8 = mm_uI h4 (v0) 64 (0) → mm_k h8 (v0) = kd_Model ∧ wq_Model_scores ge (v0) ((v1) + (1 : Int32)) (0) h8 (fun h10 : mm_M => mm_k h10 (v0) = kd_Model ∧ ∃ a13, mm_P h10 v0 57 = some a13 ∧ mm_k h10 (a13) = ka_I ∧ vp_in ((v2) / (4)) (mm_n h10 a13) ∧ Z (((mm_I h10 a13 (Int32.toNatClampNeg ((v2) / (4)))) >>> (((24 : Int32) - ((8 : Int32) * ((v2) - (v2) / (4) * (4)))) &&& 31)) &&& (255 : Int32)) h10)) ∧ ((r5) = 0 → wq_Model_score_20  ge h4 Z))))))
set_option maxRecDepth 100000 in
set_option maxHeartbeats 4000000 in
theorem vb_Model_score_20 {E : mm_E} {Z : Int32 → mm_M → Prop} (hc : cx E "EpochServerModel" c_Model_score 3 (some (.int)) rm_Model_score) (hq : cq E rm_Model_score (pI Z))   (h : mm_M) (hw : wq_Model_score_20  (mm_ge (eG E))  h Z) : V E 3 0 0 h 20 [] [] := by
  unfold wq_Model_score_20 at hw
  refine V_iconst (v := (-1)) hc d_Model_score_20 (by decide) ?_
  exact V_iret hc hq ⟨_, rfl, hw⟩ (by decide) (by decide) d_Model_score_21
set_option maxRecDepth 100000 in
set_option maxHeartbeats 4000000 in
theorem vb_Model_score_0 {E : mm_E} {Z : Int32 → mm_M → Prop} (hc : cx E "EpochServerModel" c_Model_score 3 (some (.int)) rm_Model_score) (hq : cq E rm_Model_score (pI Z))  (v0 : Nat) (v1 : Int32) (v2 : Int32) (h : mm_M) (hw : wq_Model_score_0  (mm_ge (eG E)) v0 v1 v2 h Z) : V E 3 0 0 h 0 [(0, va_rf (some v0)), (1, .int (v1)), (2, .int (v2))] [] := by
  unfold wq_Model_score_0 at hw
  refine V_iload_n hc 1 d_Model_score_0 rfl rfl ?_
  refine V_aload_n hc 0 d_Model_score_1 rfl rfl ?_
  obtain ⟨q1, hw⟩ := hw
  refine V_get (v := .int (mm_I h v0 11)) hc gf_Model_315 rfl q1 rfl d_Model_score_2 ?_
  refine V_callS (rm' := rm_Model_isIn) (As := [.int (v1), .int (mm_I h v0 11)]) (rest := []) (n := 2) hc (sat_Model_isIn (eG E) _ _ _ _ hw) cv_Model_110 (gw_of (tw_5 (List.mem_of_getElem? (i := 165) rfl)) rfl) rfl ⟨by decide, by decide⟩ (by decide) (by decide) rfl (by simp [cat_rf, cat_i, cat_l]) d_Model_score_5 (fun r0 h2 hw => ?_)
  obtain ⟨r3, rfl, hw⟩ := hw
  refine V_wide (cs' := 0) (sl' := 0) (by decide) (by decide) ?_
  refine V_st (st' := [.int (r3)]) rfl ?_
  refine V_if_eq (tgt := 20) hc d_Model_score_8 (by decide) (fun hq1 => ?_) (fun hq1 => ?_)
  · replace hw := hw.1 hq1
    refine V_sub (lv' := []) [] rfl ?_
    exact vb_Model_score_20 hc hq  _ hw
  · replace hw := hw.2 hq1
    refine V_iload_n hc 2 d_Model_score_11 rfl rfl ?_
    refine V_bipush (v := 20) hc d_Model_score_12 (by decide) ?_
    refine V_callS (rm' := rm_Model_isIn) (As := [.int (v2), .int (20)]) (rest := []) (n := 2) hc (sat_Model_isIn (eG E) _ _ _ _ hw) cv_Model_110 (gw_of (tw_5 (List.mem_of_getElem? (i := 165) rfl)) rfl) rfl ⟨by decide, by decide⟩ (by decide) (by decide) rfl (by simp [cat_rf, cat_i, cat_l]) d_Model_score_14 (fun r0 h4 hw => ?_)
    obtain ⟨r5, rfl, hw⟩ := hw
    refine V_wide (cs' := 0) (sl' := 0) (by decide) (by decide) ?_
    refine V_st (st' := [.int (r5)]) rfl ?_
    refine V_if_ne (tgt := 22) hc d_Model_score_17 (by decide) (fun hq1 => ?_) (fun hq1 => ?_)
    · replace hw := hw.1 hq1
      refine V_aload_n hc 0 d_Model_score_22 rfl rfl ?_
      refine V_iconst (v := 0) hc d_Model_score_23 (by decide) ?_
      obtain ⟨q6, hw⟩ := hw
      obtain ⟨q7, hw⟩ := hw
      obtain ⟨h8, eq_h8⟩ : ∃ x, x = mm_uI h4 (v0) 64 (0) := ⟨_, rfl⟩
      replace hw := hw _ eq_h8
      refine V_put (h' := h8) hc gf_Model_379 rfl rfl q6 q7 (by rw [eq_h8]; exact mm_Up_I _ _ _ _) (by rw [eq_h8]; exact up_vI rfl) (by decide) (by decide) d_Model_score_24 ?_
      refine V_aload_n hc 0 d_Model_score_27 rfl rfl ?_
      refine V_iload_n hc 1 d_Model_score_28 rfl rfl ?_
      refine V_iconst (v := 1) hc d_Model_score_29 (by decide) ?_
      refine V_iadd hc d_Model_score_30 ?_
      refine V_iconst (v := 0) hc d_Model_score_31 (by decide) ?_
      obtain ⟨q9, hw⟩ := hw
      refine V_callV (rm' := rm_Model_scores) (As := [.int ((v1) + (1 : Int32)), .int (0)]) (rest := []) (n := 2) (cn := 0) hc rfl q9 (sat_Model_scores (eG E) _ _ _ _ _ hw) rfl cv_Model_400 (gw_of (tw_6 (List.mem_of_getElem? (i := 168) rfl)) rfl) ss_Model_scores rfl ⟨by decide, by decide⟩ (by decide) (by decide) rfl (by simp [cat_rf, cat_i, cat_l]) d_Model_score_32 (fun r0 h10 hw => ?_)
      obtain ⟨rfl, hw⟩ := hw
      refine V_wide (cs' := 0) (sl' := 0) (by decide) (by decide) ?_
      refine V_st (st' := []) rfl ?_
      refine V_aload_n hc 0 d_Model_score_35 rfl rfl ?_
      obtain ⟨q12, hw⟩ := hw
      refine V_get (v := va_rf (mm_P h10 v0 57)) hc gf_Model_86 rfl q12 rfl d_Model_score_36 ?_
      refine V_iload_n hc 2 d_Model_score_39 rfl rfl ?_
      refine V_iconst (v := 4) hc d_Model_score_40 (by decide) ?_
      refine V_idiv hc d_Model_score_41 (by decide) ?_
      obtain ⟨a13, q14, hw⟩ := hw
      obtain ⟨q15, hw⟩ := hw
      obtain ⟨q16, hw⟩ := hw
      refine V_iald hc q14 q15 q16 d_Model_score_42 ?_
      refine V_bipush (v := 24) hc d_Model_score_43 (by decide) ?_
      refine V_bipush (v := 8) hc d_Model_score_45 (by decide) ?_
      refine V_iload_n hc 2 d_Model_score_47 rfl rfl ?_
      refine V_iconst (v := 4) hc d_Model_score_48 (by decide) ?_
      refine V_irem hc d_Model_score_49 (by decide) ?_
      refine V_imul hc d_Model_score_50 ?_
      refine V_isub hc d_Model_score_51 ?_
      refine V_ishr hc d_Model_score_52 ?_
      refine V_sipush (v := 255) hc d_Model_score_53 (by decide) ?_
      refine V_iand hc d_Model_score_56 ?_
      exact V_iret hc hq ⟨_, rfl, hw⟩ (by decide) (by decide) d_Model_score_57
    · replace hw := hw.2 hq1
      refine V_sub (lv' := []) [] rfl ?_
      exact vb_Model_score_20 hc hq  _ hw
def wq_Model_score (ge : Nat → Nat) (v0 : Nat) (v1 : Int32) (v2 : Int32) (h : mm_M) (Z : Int32 → mm_M → Prop) : Prop := wq_Model_score_0 ge v0 v1 v2 h Z
theorem sat_Model_score (G : mm_G) (v0 : Nat) (v1 : Int32) (v2 : Int32) (h : mm_M) (Z : Int32 → mm_M → Prop) (hw : wq_Model_score (mm_ge G) v0 v1 v2 h Z) : mm_Met G y_Model_score c_Model_score 3 (some (.int)) rm_Model_score [va_rf (some v0), .int (v1), .int (v2)] h (pI Z) := by
  refine mm_intro (own := "EpochServerModel") (by decide) rfl (by simp [lg_sl, cat_rf, cat_i, cat_l]) (fun E e1 hc hq hi => ?_)
  subst e1
  have e2 : lv_args 0 [va_rf (some v0), .int (v1), .int (v2)] = [(0, va_rf (some v0)), (1, .int (v1)), (2, .int (v2))] := by simp [lv_args, cat_rf, cat_i, cat_l]
  rw [e2]
  refine V_sub (lv' := [(0, va_rf (some v0)), (1, .int (v1)), (2, .int (v2))]) [0, 1, 2] rfl ?_
  exact vb_Model_score_0 hc hq v0 v1 v2 h hw
