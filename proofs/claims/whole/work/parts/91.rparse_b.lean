/-! the reference reads a message: the stat, names -/
theorem and01 {a b : Int32} (ha : a = 0 ∨ a = 1) (hb : b = 0 ∨ b = 1) : (a &&& b = 0 ∨ a &&& b = 1) ∧ (a &&& b = 1 ↔ a = 1 ∧ b = 1) := by
  rcases ha with rfl | rfl <;> rcases hb with rfl | rfl <;> decide
theorem qst_no {t : Nat → Int32} {e : Nat} {s : Option Nat} (h : ∀ b, st11 t e s = some b → ¬ stl_ok t e s) : qst t e s = none := by
  unfold qst
  by_cases c : stl_ok t e s
  · rw [if_pos c]
    cases hb : st11 t e s with
    | none => rfl
    | some b => exact absurd c (h b hb)
  · rw [if_neg c]
theorem qst_y {t : Nat → Int32} {e : Nat} {s : Option Nat} (h : ∀ b, st11 t e s = some b → stl_ok t e s) : qst t e s = st11 t e s := by
  unfold qst
  by_cases c : stl_ok t e s
  · rw [if_pos c]
  · rw [if_neg c]
    cases hb : st11 t e s with
    | none => rfl
    | some b => exact absurd (h b hb) c
theorem Rta_2 {σ σ' : rS} {L : List Int32} (h : σ'.2 = σ.2) (H : Rta σ L) : Rta σ' L := Rta_of (fun j => by rw [h]) H
theorem Rta_f {σ : rS} {L : List Int32} (k : Nat) (x : Int32) (H : Rta σ L) : Rta (r_f σ k x) L := H
section RPB
variable {ge : Nat → Nat} {am : Nat} {h : mm_M} {σ : rS} {L : List Int32} {e : Nat} {s : Option Nat}
set_option maxHeartbeats 4000000 in
theorem rt_S (hM : RM am h) (hg : ge 0 ≤ am) (hta : Rta σ L) (he : e ≤ L.length) (hR : RD σ e 0 s) (Z : mm_M → Prop)
    (hZ : ∀ σ', (∀ i, (i < 28 ∨ i = 33 ∨ 52 ≤ i) → σ'.1 i = σ.1 i) → σ'.2.2 = σ.2.2 → RD σ' e 60 (qst (tp L) e s) → (∀ b, qst (tp L) e s = some b → σ'.1 F_sMode = (val (tp L) (at0 (st3 e s)) 4).toInt32 ∧ σ'.1 F_sTime = (val (tp L) (at0 (st5 e s)) 4).toInt32 ∧ σ'.2.1 F_sLength = val (tp L) (at0 (st6 e s)) 8 ∧ Rtx σ' L (txt L (st7 e s)) ∧ ((σ'.1 F_sRest = 0) ↔ ¬ restO (tp L) e s)) → Z (r_em am σ' h)) : wq_Model_readsStat ge am (r_em am σ h) Z := by
  have hs := hM
  unfold RM at hs
  have hL := hta.2.2
  have tB := tp_B hta.2.1
  unfold wq_Model_readsStat wq_Model_readsStat_0
  simp only [hs, rk, true_and]
  refine rt_N hM hg hta he (by decide) hR 2 (by decide) (by decide) _ (fun σ1 v1 a1 b1 R1 V1 => ?_)
  have R1 : RD σ1 e 0 (st1 e s) := R1
  simp only [hs, rk, rI0, true_and]
  have ill : ∀ τ : rS, (∀ i, (i < 28 ∨ i = 33 ∨ 52 ≤ i) → τ.1 i = σ.1 i) → τ.2.2 = σ.2.2 → (∃ stt, RD τ e 0 stt) → (∀ b, st11 (tp L) e s = some b → ¬ stl_ok (tp L) e s) → wq_Model_readsStat_33 ge am (r_em am τ h) Z := by
    intro τ t1 t2 ⟨stt, t3⟩ t4
    have hq := qst_no t4
    unfold wq_Model_readsStat_33
    simp only [hs, rk, rU0, hg, true_and, forall_eq]
    refine hZ _ (fun i hi => ?_) t2 ?_ (fun b hb => by rw [hq] at hb; cases hb)
    · rw [rf1, if_neg (by omega)]
      exact t1 i hi
    · rw [hq]
      exact RD_mono (by decide) (RD_ill t3)
  have A1 : ∀ i, (i < 28 ∨ i = 33 ∨ 52 ≤ i) → σ1.1 i = σ.1 i := fun i hi => a1 i (by omega) (by omega)
  -- what the first two numbers say
  have c1 : ∀ b, st11 (tp L) e s = some b → ((Int64.toInt32 v1 = σ1.1 29 - σ1.1 28) ↔ at0 (st1 e s) + tl (tp L) (at0 s) = e) := by
    intro b hb
    obtain ⟨_, _, _, _, _, _, _, _, _, ⟨b1', hb1⟩⟩ := stat_some hb
    rw [hb1] at R1
    have e1 := V1 b1' hb1
    obtain ⟨t1, t2⟩ := tl_eq (t := tp L) (a := at0 s) tB
    obtain ⟨x1, x2⟩ := RD_some R1
    have x0 : σ1.1 29 = nI e := R1.1
    have x1 : σ1.1 28 = nI b1' := x1
    have ea : at0 (st1 e s) = b1' := by rw [hb1]; rfl
    rw [e1, t1, x0, x1, nI_sub x2, nI_eq (by omega) (by omega), ea]
    omega
  refine ⟨fun z => ill σ1 A1 (by rw [b1]) ⟨_, R1⟩ (fun b hb w => z ((c1 b hb).mpr w.1)), fun z1 => ?_⟩
  refine rt_N hM hg (Rta_2 b1 hta) he (by decide) R1 2 (by decide) (by decide) _ (fun σ2 v2 a2 b2 R2 V2 => ?_)
  have R2 : RD σ2 e 0 (st2 e s) := R2
  have B2 : σ2.2 = σ.2 := b2.trans b1
  have A2 : ∀ i, (i < 28 ∨ i = 33 ∨ 52 ≤ i) → σ2.1 i = σ.1 i := fun i hi => (a2 i (by omega) (by omega)).trans (A1 i hi)
  have c2 : ∀ b, st11 (tp L) e s = some b → ((v2 = (Int64.toInt32 v1 - 2).toInt64) ↔ tl (tp L) (at0 (st1 e s)) + 2 = tl (tp L) (at0 s)) := by
    intro b hb
    obtain ⟨_, _, _, _, _, _, _, _, ⟨b2', hb2⟩, ⟨b1', hb1⟩⟩ := stat_some hb
    have e1 := V1 b1' hb1
    have e2 := V2 b2' hb2
    obtain ⟨t1, t2⟩ := tl_eq (t := tp L) (a := at0 s) tB
    obtain ⟨t3, t4⟩ := tl_eq (t := tp L) (a := at0 (st1 e s)) tB
    rw [← tl_neg2 tB, e1, t1, e2]
    show val (tp L) (at0 (st1 e s)) 2 = _ ↔ _
    rw [val2_l tB, ← nI_l (by omega)]
    exact ⟨fun w => by have := congrArg Int64.toInt32 w; rw [ti_l, ti_l] at this; exact this, fun w => by rw [w]⟩
  simp only [lg_cmp_eq]
  refine ⟨fun z2 => ?_, fun z => ill σ2 A2 (by rw [B2]) ⟨_, R2⟩ (fun b hb w => z ((c2 b hb).mpr w.2))⟩
  have hq : qst (tp L) e s = st11 (tp L) e s := qst_y (fun b hb => ⟨(c1 b hb).mp z1, (c2 b hb).mp z2⟩)
  rw [hq] at hZ
  have T2 : Rta σ2 L := Rta_2 B2 hta
  simp only [hs, rk, true_and]
  refine rt_1 hM hg T2 he (by decide) R2 2 (by decide) _ (fun σ3 w1 o1 a3 b3 R3 V3 => ?_)
  simp only [hs, rk, rU0, hg, o1, true_and, forall_eq]
  have f3 : (r_f σ3 51 w1).1 51 = w1 := by rw [rf1, if_pos rfl]
  have R3' : RD (r_f σ3 51 w1) e 2 (qn e 2 (st2 e s)) := RD_f _ (by decide) (by decide) (by decide) R3
  have T3 : Rta (r_f σ3 51 w1) L := Rta_f 51 w1 (Rta_2 b3 T2)
  refine rt_1 hM hg T3 he (by decide) R3' 4 (by decide) _ (fun σ4 w2 o2 a4 b4 R4 V4 => ?_)
  obtain ⟨o12, i12⟩ := and01 o1 o2
  simp only [hs, rk, rI0, rU0, f3, hg, o12, true_and, forall_eq]
  obtain ⟨u2, eu2⟩ : ∃ u2, u2 = w1 &&& w2 := ⟨_, rfl⟩
  rw [← eu2] at o12 i12 ⊢
  have f4 : (r_f σ4 51 u2).1 51 = u2 := by rw [rf1, if_pos rfl]
  have R4' : RD (r_f σ4 51 u2) e 6 (qn e 4 (qn e 2 (st2 e s))) := RD_f _ (by decide) (by decide) (by decide) R4
  have T4 : Rta (r_f σ4 51 u2) L := Rta_f 51 u2 (Rta_2 b4 T3)
  refine rt_1 hM hg T4 he (by decide) R4' 13 (by decide) _ (fun σ5 w3 o3 a5 b5 R5 V5 => ?_)
  obtain ⟨o13, i13⟩ := and01 o12 o3
  simp only [hs, rk, rI0, rU0, f4, hg, o13, true_and, forall_eq]
  obtain ⟨u3, eu3⟩ : ∃ u3, u3 = u2 &&& w3 := ⟨_, rfl⟩
  rw [← eu3] at o13 i13 ⊢
  have e3 : qn e 13 (qn e 4 (qn e 2 (st2 e s))) = st3 e s := by rw [qn_add, qn_add]; rfl
  rw [e3] at R5 V5
  have R5' : RD (r_f σ5 51 u3) e 19 (st3 e s) := RD_f _ (by decide) (by decide) (by decide) R5
  have T5 : Rta (r_f σ5 51 u3) L := Rta_f 51 u3 (Rta_2 b5 T4)
  have f5 : (r_f σ5 51 u3).1 51 = u3 := by rw [rf1, if_pos rfl]
  refine rt_N hM hg T5 he (by decide) R5' 4 (by decide) (by decide) _ (fun σ6 v4 a6 b6 R6 V6 => ?_)
  have R6 : RD σ6 e 19 (st4 e s) := R6
  simp only [hs, rk, rU0, hg, true_and, forall_eq]
  have R6' : RD (r_f σ6 48 v4.toInt32) e 19 (st4 e s) := RD_f _ (by decide) (by decide) (by decide) R6
  have T6 : Rta (r_f σ6 48 v4.toInt32) L := Rta_f _ _ (Rta_2 b6 T5)
  have f6 : (r_f σ6 48 v4.toInt32).1 51 = u3 := by rw [rf1, if_neg (by decide), a6 _ (by decide) (by decide)]; exact f5
  refine rt_1 hM hg T6 he (by decide) R6' 4 (by decide) _ (fun σ7 w4 o4 a7 b7 R7 V7 => ?_)
  have R7 : RD σ7 e 23 (st5 e s) := R7
  obtain ⟨o14, i14⟩ := and01 o13 o4
  simp only [hs, rk, rI0, rU0, f6, hg, o14, true_and, forall_eq]
  obtain ⟨u4, eu4⟩ : ∃ u4, u4 = u3 &&& w4 := ⟨_, rfl⟩
  rw [← eu4] at o14 i14 ⊢
  have R7' : RD (r_f σ7 51 u4) e 23 (st5 e s) := RD_f _ (by decide) (by decide) (by decide) R7
  have T7 : Rta (r_f σ7 51 u4) L := Rta_f _ _ (Rta_2 b7 T6)
  refine rt_N hM hg T7 he (by decide) R7' 4 (by decide) (by decide) _ (fun σ8 v5 a8 b8 R8 V8 => ?_)
  have R8 : RD σ8 e 23 (st6 e s) := R8
  simp only [hs, rk, rU0, hg, true_and, forall_eq]
  have R8' : RD (r_f σ8 49 v5.toInt32) e 23 (st6 e s) := RD_f _ (by decide) (by decide) (by decide) R8
  have T8 : Rta (r_f σ8 49 v5.toInt32) L := Rta_f _ _ (Rta_2 b8 T7)
  refine rt_N hM hg T8 he (by decide) R8' 8 (by decide) (by decide) _ (fun σ9 v6 a9 b9 R9 V9 => ?_)
  have R9 : RD σ9 e 23 (st7 e s) := R9
  simp only [hs, rk, rUL, hg, true_and, forall_eq]
  have R9' : RD (r_l σ9 50 v6) e 23 (st7 e s) := R9
  have T9' : Rta σ9 L := Rta_2 b9 T8
  have T9 : Rta (r_l σ9 50 v6) L := T9'
  refine rt_T hM hg T9 he (by decide) R9' _ (fun σ10 a10 b10 R10 V10 => ?_)
  have R10 : RD σ10 e 23 (st8 (tp L) e s) := R10
  simp only [hs, rk, rI0, rU0, hg, true_and, forall_eq]
  have f10 : (r_f σ10 38 (σ10.1 31)).1 32 = σ10.1 32 := by rw [rf1, if_neg (by decide)]
  rw [f10]
  obtain ⟨τ0, e0⟩ : ∃ τ0, τ0 = r_f (r_f σ10 38 (σ10.1 31)) 39 (σ10.1 32) := ⟨_, rfl⟩
  rw [← e0]
  have R0 : RD τ0 e 23 (st8 (tp L) e s) := by rw [e0]; exact RD_f _ (by decide) (by decide) (by decide) (RD_f _ (by decide) (by decide) (by decide) R10)
  have T0 : Rta τ0 L := by rw [e0]; exact Rta_f _ _ (Rta_f _ _ (Rta_2 b10 T9))
  have k10 : ∀ i, ¬ i = 28 → ¬ i = 30 → ¬ i = 31 → ¬ i = 32 → ¬ i = 38 → ¬ i = 39 → τ0.1 i = σ9.1 i := fun i z1 z2 z3 z4 z5 z6 => by rw [e0, rf1, if_neg z6, rf1, if_neg z5]; exact a10 i z1 z2 z3 z4
  have k9 : ∀ i, ¬ i = 28 → ¬ i = 30 → ¬ i = 49 → σ9.1 i = σ8.1 i := fun i z1 z2 z3 => by rw [a9 i z1 z2, rf1, if_neg z3]
  have k8 : ∀ i, ¬ i = 28 → ¬ i = 30 → ¬ i = 51 → σ8.1 i = σ7.1 i := fun i z1 z2 z3 => by rw [a8 i z1 z2, rf1, if_neg z3]
  have k7 : ∀ i, ¬ i = 28 → ¬ i = 30 → ¬ i = 48 → σ7.1 i = σ6.1 i := fun i z1 z2 z3 => by rw [a7 i z1 z2, rf1, if_neg z3]
  have k6 : ∀ i, ¬ i = 28 → ¬ i = 30 → ¬ i = 51 → σ6.1 i = σ5.1 i := fun i z1 z2 z3 => by rw [a6 i z1 z2, rf1, if_neg z3]
  have k5 : ∀ i, ¬ i = 28 → ¬ i = 30 → ¬ i = 51 → σ5.1 i = σ4.1 i := fun i z1 z2 z3 => by rw [a5 i z1 z2, rf1, if_neg z3]
  have k4 : ∀ i, ¬ i = 28 → ¬ i = 30 → ¬ i = 51 → σ4.1 i = σ3.1 i := fun i z1 z2 z3 => by rw [a4 i z1 z2, rf1, if_neg z3]
  have K0 : ∀ i, (i < 28 ∨ i = 33 ∨ 52 ≤ i) → τ0.1 i = σ.1 i := fun i hi => by
    rw [k10 i (by omega) (by omega) (by omega) (by omega) (by omega) (by omega), k9 i (by omega) (by omega) (by omega), k8 i (by omega) (by omega) (by omega), k7 i (by omega) (by omega) (by omega), k6 i (by omega) (by omega) (by omega), k5 i (by omega) (by omega) (by omega), k4 i (by omega) (by omega) (by omega), a3 i (by omega) (by omega)]
    exact A2 i hi
  have s51 : τ0.1 51 = u4 := by
    rw [k10 51 (by decide) (by decide) (by decide) (by decide) (by decide) (by decide), k9 51 (by decide) (by decide) (by decide), a8 51 (by decide) (by decide), rf1, if_pos rfl]
  have s48 : τ0.1 48 = v4.toInt32 := by
    rw [k10 48 (by decide) (by decide) (by decide) (by decide) (by decide) (by decide), k9 48 (by decide) (by decide) (by decide), k8 48 (by decide) (by decide) (by decide), a7 48 (by decide) (by decide), rf1, if_pos rfl]
  have s49 : τ0.1 49 = v5.toInt32 := by
    rw [k10 49 (by decide) (by decide) (by decide) (by decide) (by decide) (by decide), a9 49 (by decide) (by decide), rf1, if_pos rfl]
  have s50 : τ0.2.1 50 = v6 := by
    have : τ0.2 = σ10.2 := by rw [e0]; rfl
    rw [this, b10, rll, if_pos rfl]
  have sA : τ0.2.2 = σ.2.2 := by
    have h0 : τ0.2.2 = σ10.2.2 := by rw [e0]; rfl
    have h1 : σ10.2.2 = σ9.2.2 := by rw [b10]; rfl
    have h2 : σ9.2.2 = σ8.2.2 := by rw [b9]; rfl
    have h3 : σ8.2.2 = σ7.2.2 := by rw [b8]; rfl
    have h4 : σ7.2.2 = σ6.2.2 := by rw [b7]; rfl
    have h5 : σ6.2.2 = σ5.2.2 := by rw [b6]; rfl
    have h6 : σ5.2.2 = σ4.2.2 := by rw [b5]; rfl
    have h7 : σ4.2.2 = σ3.2.2 := by rw [b4]; rfl
    have h8 : σ3.2.2 = σ2.2.2 := by rw [b3]
    rw [h0, h1, h2, h3, h4, h5, h6, h7, h8, B2]
  have s38 : τ0.1 38 = σ10.1 31 := by rw [e0, rf1, if_neg (by decide), rf1, if_pos rfl]
  have s39 : τ0.1 39 = σ10.1 32 := by rw [e0, rf1, if_pos rfl]
  unfold lp_Model_readsStat_143
  intro X hX
  have step : ∀ (k : Nat) (τ : rS) (stt : Option Nat), k < 3 → Rta τ L → RD τ e 23 stt → (τ.1 51 = 0 ∨ τ.1 51 = 1) → (∀ τ' t, (∀ i, ¬ i = 28 → ¬ i = 30 → ¬ i = 31 → ¬ i = 32 → ¬ i = 51 → τ'.1 i = τ.1 i) → τ'.2 = τ.2 → RD τ' e 23 (qt (tp L) e stt) → (t = 0 ∨ t = 1) → τ'.1 51 = τ.1 51 &&& t → (∀ b, qt (tp L) e stt = some b → (t = 1 ↔ tl (tp L) (at0 stt) = 0)) → X am (nI (k + 1)) (r_em am τ' h)) → X am (nI k) (r_em am τ h) := by
    intro k τ stt hk T R o hN
    refine hX _ _ _ ?_
    unfold wq_Model_readsStat_143
    refine ⟨fun z => absurd z (nI_ge (b := 3) (by omega) (by decide)), fun _ => ?_⟩
    simp only [hs, rk, true_and]
    refine rt_T hM hg T he (by decide) R _ (fun τ1 y1 y2 y3 y4 => ?_)
    have y5 : τ1.1 51 = τ.1 51 := y1 51 (by decide) (by decide) (by decide) (by decide)
    have go : ∀ t : Int32, (t = 0 ∨ t = 1) → (t = 1 ↔ τ1.1 32 = 0) → wq_Model_readsStat_169 X ge am (nI k) (some am) (τ1.1 51) t (r_em am τ1 h) Z := by
      intro t ht ht2
      unfold wq_Model_readsStat_169
      rw [y5]
      simp only [hs, rk, rU0, hg, (and01 o ht).1, true_and, Option.some.injEq, exists_eq_left', forall_eq]
      rw [show nI k + 1 = nI (k + 1) from (nI_succ k).symm]
      refine hN _ t (fun i z1 z2 z3 z4 z5 => by rw [rf1, if_neg z5]; exact y1 i z1 z2 z3 z4) y2 (RD_f _ (by decide) (by decide) (by decide) y3) ht (by rw [rf1, if_pos rfl]) (fun b hb => ?_)
      obtain ⟨x1, x2, x3⟩ := y4 b hb
      have x2 : τ1.1 32 = nI (tl (tp L) (at0 stt)) := x2
      rw [ht2, x2]
      show nI _ = nI 0 ↔ _
      exact nI_eq (by omega) (by decide)
    simp only [hs, rk, rI0, true_and]
    exact ⟨fun z => go 0 (Or.inl rfl) ⟨fun w => absurd w (by decide), fun w => absurd w z⟩, fun z => go 1 (Or.inr rfl) ⟨fun _ => z, fun _ => rfl⟩⟩
  refine step 0 τ0 _ (by decide) T0 R0 (by rw [s51]; exact o14) (fun τ1 t1 p1 q1 r1 oo1 g1 j1 => ?_)
  have g1' : τ1.1 51 = u4 &&& t1 := by rw [g1, s51]
  obtain ⟨o15, i15⟩ := and01 o14 oo1
  have R1' : RD τ1 e 23 (st9 (tp L) e s) := r1
  refine step 1 τ1 _ (by decide) (Rta_2 q1 T0) R1' (by rw [g1']; exact o15) (fun τ2 t2 p2 q2 r2 oo2 g2 j2 => ?_)
  have g2' : τ2.1 51 = u4 &&& t1 &&& t2 := by rw [g2, g1']
  obtain ⟨o16, i16⟩ := and01 o15 oo2
  have R2' : RD τ2 e 23 (st10 (tp L) e s) := r2
  refine step 2 τ2 _ (by decide) (Rta_2 q2 (Rta_2 q1 T0)) R2' (by rw [g2']; exact o16) (fun τ3 t3 p3 q3 r3 oo3 g3 j3 => ?_)
  have g3' : τ3.1 51 = u4 &&& t1 &&& t2 &&& t3 := by rw [g3, g2']
  obtain ⟨o17, i17⟩ := and01 o16 oo3
  have R3'' : RD τ3 e 23 (st11 (tp L) e s) := r3
  refine hX _ _ _ ?_
  unfold wq_Model_readsStat_143
  refine ⟨fun _ => ?_, fun z => absurd (by decide) z⟩
  have kk : ∀ i, ¬ i = 28 → ¬ i = 30 → ¬ i = 31 → ¬ i = 32 → ¬ i = 51 → τ3.1 i = τ0.1 i := fun i z1 z2 z3 z4 z5 => by rw [p3 i z1 z2 z3 z4 z5, p2 i z1 z2 z3 z4 z5, p1 i z1 z2 z3 z4 z5]
  have qq : τ3.2 = τ0.2 := by rw [q3, q2, q1]
  refine hZ τ3 (fun i hi => by rw [kk i (by omega) (by omega) (by omega) (by omega) (by omega)]; exact K0 i hi) (by rw [qq]; exact sA) (RD_mono (by decide) R3'') (fun b hb => ?_)
  obtain ⟨⟨b10', h10⟩, ⟨b9', h9⟩, ⟨b8', h8⟩, ⟨b7', h7⟩, ⟨b6', h6⟩, ⟨b5', h5⟩, ⟨b4', h4⟩, ⟨b3', h3⟩, ⟨b2', h2⟩, ⟨b1', h1⟩⟩ := stat_some hb
  obtain ⟨x1, x2, x3⟩ := V10 b8' h8
  refine ⟨?_, ?_, ?_, ?_, ?_⟩
  · rw [kk 48 (by decide) (by decide) (by decide) (by decide) (by decide), s48, V6 b4' h4]
  · rw [kk 49 (by decide) (by decide) (by decide) (by decide) (by decide), s49, V8 b6' h6]
  · rw [qq, s50, V9 b7' h7]
  · refine ⟨at0 (st7 e s) + 2, tl (tp L) (at0 (st7 e s)), ?_, ?_, by omega, rfl⟩
    · rw [kk 38 (by decide) (by decide) (by decide) (by decide) (by decide), s38]; exact x1
    · rw [kk 39 (by decide) (by decide) (by decide) (by decide) (by decide), s39]; exact x2
  · have e51 : (τ3.1 51 = 0) ↔ ¬ τ3.1 51 = 1 := by
      rw [g3']
      rcases o17 with z | z
      · rw [z]; decide
      · rw [z]; decide
    show (τ3.1 51 = 0) ↔ _
    rw [e51, g3', i17, i16, i15, i14, i13, i12, j1 b9' h9, j2 b10' h10, j3 b hb, V7 b5' h5, V5 b3' h3]
    -- the first nineteen
    have hq3 : qn e 2 (st2 e s) = some (b2' + 2) ∧ qn e 4 (qn e 2 (st2 e s)) = some (b2' + 6) := by
      have h3' : qn e 19 (st2 e s) = some b3' := h3
      rw [h2] at h3' ⊢
      obtain ⟨y1, y2, y3⟩ := qn_some h3'
      cases y1
      have : qn e 2 (some (b3' - 19)) = some (b3' - 19 + 2) := qn_to (by omega)
      rw [this]
      exact ⟨rfl, by rw [qn_to (by omega)]⟩
    rw [V3 _ hq3.1, V4 _ hq3.2]
    have ea2 : at0 (st2 e s) = b2' := by rw [h2]; rfl
    have ea3 : at0 (qn e 2 (st2 e s)) = b2' + 2 := by rw [hq3.1]; rfl
    have ea4 : at0 (qn e 4 (qn e 2 (st2 e s))) = b2' + 6 := by rw [hq3.2]; rfl
    rw [ea2, ea3, ea4, ← val4_ones (a := at0 (st4 e s)) tB]
    unfold restO
    rw [ea2]
    have h19 : (((∀ j, j < 2 → tp L (b2' + j) = 255) ∧ ∀ j, j < 4 → tp L (b2' + 2 + j) = 255) ∧ ∀ j, j < 13 → tp L (b2' + 6 + j) = 255) ↔ ∀ j, j < 19 → tp L (b2' + j) = 255 := by
      constructor
      · rintro ⟨⟨w1, w2⟩, w3⟩ j hj
        by_cases c1 : j < 2
        · exact w1 j c1
        · by_cases c2 : j < 6
          · have := w2 (j - 2) (by omega)
            rw [show b2' + 2 + (j - 2) = b2' + j by omega] at this
            exact this
          · have := w3 (j - 6) (by omega)
            rw [show b2' + 6 + (j - 6) = b2' + j by omega] at this
            exact this
      · intro w
        exact ⟨⟨fun j hj => w j (by omega), fun j hj => by rw [Nat.add_assoc]; exact w _ (by omega)⟩, fun j hj => by rw [Nat.add_assoc]; exact w _ (by omega)⟩
    rw [h19]
    constructor
    · rintro w ⟨y1, y2, y3, y4, y5⟩
      exact w ⟨⟨⟨⟨y1, y2⟩, y3⟩, y4⟩, y5⟩
    · rintro w ⟨⟨⟨⟨y1, y2⟩, y3⟩, y4⟩, y5⟩
      exact w ⟨y1, y2, y3, y4, y5⟩
theorem nms_app (L : List Int32) (e : Nat) (st : Option Nat) (m : Nat) : nms L e (m + 1) st = txt L st :: nms L e m (qt (tp L) e st) := rfl
/-- the names of a walk -/
theorem rt_Ts (hM : RM am h) (hg : ge 0 ≤ am) (hta : Rta σ L) (he : e ≤ L.length) {B : Nat} (hB : B ≤ 60) (hR : RD σ e B s) {m : Nat} (hm : σ.1 F_mMany = nI m) (hm2 : m < 65536) (Z : mm_M → Prop)
    (hZ : ∀ σ', (∀ i, ¬ i = 28 → ¬ i = 30 → ¬ i = 31 → ¬ i = 32 → σ'.1 i = σ.1 i) → σ'.2.1 = σ.2.1 → (∀ o i, ¬ o = O_wAt → ¬ o = O_wSize → σ'.2.2 o i = σ.2.2 o i) → RD σ' e B (qts (tp L) e m s) → (∀ b, qts (tp L) e m s = some b → Rwn σ' L (nms L e m s)) → Z (r_em am σ' h)) : lp_Model_reads_269 ge am 0 (r_em am σ h) Z := by
  have hs := hM
  unfold RM at hs
  have hL := hta.2.2
  unfold lp_Model_reads_269
  intro X hX
  have key : ∀ (r k : Nat) (τ : rS) (st : Option Nat) (P : List (List Int32)), k + r = m → P.length = k → RD τ e B st → (∀ i, ¬ i = 28 → ¬ i = 30 → ¬ i = 31 → ¬ i = 32 → τ.1 i = σ.1 i) → τ.2.1 = σ.2.1 → (∀ o i, ¬ o = O_wAt → ¬ o = O_wSize → τ.2.2 o i = σ.2.2 o i) → (∀ b, st = some b → 2 * k ≤ b ∧ ∀ (i : Nat) (nm : List Int32), P[i]? = some nm → ∃ a l : Nat, τ.2.2 O_wAt i = nI a ∧ τ.2.2 O_wSize i = nI l ∧ a + l ≤ L.length ∧ nm = slc L a l) → nms L e m s = P ++ nms L e r st → qts (tp L) e m s = qts (tp L) e r st → X am (nI k) (r_em am τ h) := by
    intro r
    induction r with
    | zero =>
      intro k τ st P hk hP R t1 t2 t3 hg' hn hq
      have v37 : τ.1 37 = nI m := (t1 37 (by decide) (by decide) (by decide) (by decide)).trans hm
      refine hX _ _ _ ?_
      unfold wq_Model_reads_269 wq_Model_reads_331 wq_Model_reads_542
      simp only [hs, rk, rI0, v37, true_and]
      have hq : qts (tp L) e m s = st := hq
      refine ⟨fun _ => hZ τ t1 t2 t3 (by rw [hq]; exact R) (fun b hb => ?_), fun z => absurd (nI_le (by omega) (by omega)) z⟩
      rw [hq] at hb
      obtain ⟨g1, g2⟩ := hg' b hb
      rw [hb] at R
      obtain ⟨_, be⟩ := RD_some R
      have hn : nms L e m s = P := by rw [hn]; exact List.append_nil P
      rw [hn]
      exact ⟨by omega, by rw [v37, hP]; congr 1; omega, g2⟩
    | succ r ih =>
      intro k τ st P hk hP R t1 t2 t3 hg' hn hq
      have v37 : τ.1 37 = nI m := (t1 37 (by decide) (by decide) (by decide) (by decide)).trans hm
      refine hX _ _ _ ?_
      unfold wq_Model_reads_269 wq_Model_reads_331 wq_Model_reads_542 wq_Model_reads_325
      simp only [hs, rk, rI0, v37, true_and]
      refine ⟨fun z => absurd z (nI_ge (by omega) (by omega)), fun _ => ⟨fun z => ?_, fun z => ?_⟩⟩
      · have hst : st = none := (RD_good R).mp z
        have hq0 : qts (tp L) e m s = none := by rw [hq, hst]; exact qts_none _ _ _
        exact hZ τ t1 t2 t3 (by rw [hq0]; rw [hst] at R; exact R) (fun b hb => by rw [hq0] at hb; cases hb)
      · have hst : ¬ st = none := fun w => z ((RD_good R).mpr w)
        obtain ⟨a, ha⟩ := Option.ne_none_iff_exists'.mp hst
        have Tτ : Rta τ L := Rta_of (fun j => t3 _ _ (by decide) (by decide)) hta
        refine rt_T hM hg Tτ he hB R _ (fun τ1 y1 y2 y3 y4 => ?_)
        have n1 : nI k + 1 = nI (k + 1) := (nI_succ k).symm
        have u1 : ∀ i, ¬ i = 28 → ¬ i = 30 → ¬ i = 31 → ¬ i = 32 → τ1.1 i = σ.1 i := fun i z1 z2 z3 z4 => (y1 i z1 z2 z3 z4).trans (t1 i z1 z2 z3 z4)
        have hn2 : nms L e m s = (P ++ [txt L st]) ++ nms L e r (qt (tp L) e st) := by rw [hn, nms_app, List.append_assoc]; rfl
        have hq2 : qts (tp L) e m s = qts (tp L) e r (qt (tp L) e st) := hq
        have hP2 : (P ++ [txt L st]).length = k + 1 := by rw [List.length_append, hP]; rfl
        obtain ⟨g1, g2⟩ := hg' a ha
        simp only [hs, rk, rI0, true_and]
        refine ⟨fun w => ?_, fun w => ?_⟩
        · have hno : qt (tp L) e st = none := (RD_good y3).mp w
          rw [n1]
          exact ih (k + 1) τ1 _ _ (by omega) hP2 y3 u1 (by rw [y2]; exact t2) (fun o i z1 z2 => by rw [y2]; exact t3 o i z1 z2) (fun b hb => by rw [hno] at hb; cases hb) hn2 hq2
        · have hyes : ¬ qt (tp L) e st = none := fun w2 => w ((RD_good y3).mpr w2)
          obtain ⟨b, hb⟩ := Option.ne_none_iff_exists'.mp hyes
          obtain ⟨x1, x2, x3⟩ := y4 b hb
          obtain ⟨_, x4, x5⟩ := qt_some hb
          have ea : at0 st = a := by rw [ha]; rfl
          have x1 : τ1.1 31 = nI (at0 st + 2) := x1
          have x2 : τ1.1 32 = nI (tl (tp L) (at0 st)) := x2
          have k14 : k < 1400 := by omega
          have hki : vp_in (nI k) 1400 := vp_in_nI k14 (by decide)
          have hkc : (nI k).toNatClampNeg = k := nI_clamp (by omega)
          refine ⟨fun _ => ?_, fun w2 => absurd (nI_lt (b := 1400) k14 (by decide)) w2⟩
          simp only [hs, rk, rn, rP, rI0, rU, ra1, hki, hkc, x1, x2, ge0 hg, true_and, Option.some.injEq, exists_eq_left', forall_eq, Nat.reduceLT]
          rw [n1]
          refine ih (k + 1) _ _ _ (by omega) hP2 (RD_of rfl rfl rfl y3) u1 (by rw [ral, ral, y2]; exact t2) (fun o i z1 z2 => by rw [ra_n z2, ra_n z1, y2]; exact t3 o i z1 z2) (fun b' hb' => ⟨by rw [hb] at hb'; cases hb'; omega, fun i nm hi => ?_⟩) hn2 hq2
          by_cases c : i = k
          · subst c
            rw [List.getElem?_append_right (by omega), hP, Nat.sub_self] at hi
            have hi : some (txt L st) = some nm := hi
            refine ⟨at0 st + 2, tl (tp L) (at0 st), by rw [ra_n (by decide), ra_y], by rw [ra_y], by omega, (Option.some.inj hi).symm⟩
          · have hil : i < (P ++ [txt L st]).length := (List.getElem?_eq_some_iff.mp hi).1
            rw [hP2] at hil
            rw [List.getElem?_append_left (by omega)] at hi
            obtain ⟨a', l', z1, z2, z3, z4⟩ := g2 i nm hi
            exact ⟨a', l', by rw [ra_k c, ra_k c, y2]; exact z1, by rw [ra_k c, ra_k c, y2]; exact z2, z3, z4⟩
  exact key m 0 σ s [] (by omega) rfl hR (fun _ _ _ _ _ => rfl) rfl (fun _ _ _ _ => rfl) (fun b _ => ⟨by omega, fun i nm hi => by cases hi⟩) rfl rfl
end RPB
