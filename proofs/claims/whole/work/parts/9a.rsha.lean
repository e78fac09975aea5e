/-! the reference: rounds, hashes -/
def hds (σ : rS) : qW := (σ.2.2 24 0, σ.2.2 24 1, σ.2.2 24 2, σ.2.2 24 3, σ.2.2 24 4)
def bw (σ : rS) (a : Nat) : Int32 := ((σ.2.2 22 a <<< ((24 : Int32) &&& 31) ||| σ.2.2 22 (a + 1) <<< ((16 : Int32) &&& 31)) ||| σ.2.2 22 (a + 2) <<< ((8 : Int32) &&& 31)) ||| σ.2.2 22 (a + 3)
theorem add_sw (r f e k : Int32) : ((r + f) + e) + k = (r + (f + k)) + e := by
  rw [Int32.add_assoc (r + f) e k, Int32.add_comm e k, ← Int32.add_assoc (r + f) k e, Int32.add_assoc r f k]
theorem turn_1 (v : Int32) : (v <<< ((1 : Int32) &&& 31)) ||| ((v.toUInt32 >>> (((32 : Int32) - 1).toUInt32 &&& Int32.toUInt32 31)).toInt32) = ro1 v := by rw [show (32 : Int32) - 1 = 31 by decide]; rfl
theorem turn_5 (v : Int32) : (v <<< ((5 : Int32) &&& 31)) ||| ((v.toUInt32 >>> (((32 : Int32) - 5).toUInt32 &&& Int32.toUInt32 31)).toInt32) = ro5 v := by rw [show (32 : Int32) - 5 = 27 by decide]; rfl
theorem turn_30 (v : Int32) : (v <<< ((30 : Int32) &&& 31)) ||| ((v.toUInt32 >>> (((32 : Int32) - 30).toUInt32 &&& Int32.toUInt32 31)).toInt32) = ro30 v := by rw [show (32 : Int32) - 30 = 2 by decide]; rfl
section RSH
variable {ge : Nat → Nat} {am : Nat} {h : mm_M} {σ : rS}
set_option maxHeartbeats 4000000 in
theorem rt_rounds (hM : RM am h) (hg : ge 0 ≤ am) {f : Nat} (hf : f + 64 ≤ 6080) (Z : mm_M → Prop)
    (hZ : ∀ σ', σ'.1 = σ.1 → σ'.2.1 = σ.2.1 → (∀ o j, ¬ o = 23 → ¬ o = 24 → σ'.2.2 o j = σ.2.2 o j) → hds σ' = mixH (fun i => bw σ (f + 4 * i)) (hds σ) → Z (r_em am σ' h)) : wq_Model_rounds ge am (nI f) (r_em am σ h) Z := by
  have hs := hM
  unfold RM at hs
  obtain ⟨w, ew⟩ : ∃ w : Nat → Int32, w = fun i => bw σ (f + 4 * i) := ⟨_, rfl⟩
  rw [← ew] at hZ
  have c0 : Int32.toNatClampNeg 0 = 0 := by decide
  have c1 : Int32.toNatClampNeg 1 = 1 := by decide
  have c2 : Int32.toNatClampNeg 2 = 2 := by decide
  have c3 : Int32.toNatClampNeg 3 = 3 := by decide
  have c4' : Int32.toNatClampNeg 4 = 4 := by decide
  have v : ∀ k, k < 5 → vp_in (nI k) 5 := fun k hk => vp_in_nI hk (by decide)
  have v0 : vp_in 0 5 := v 0 (by decide)
  have v1 : vp_in 1 5 := v 1 (by decide)
  have v2 : vp_in 2 5 := v 2 (by decide)
  have v3 : vp_in 3 5 := v 3 (by decide)
  have v4 : vp_in 4 5 := v 4 (by decide)
  -- the eighty rounds
  have e182 : ∀ (τ : rS), τ.1 = σ.1 → τ.2.1 = σ.2.1 → (∀ o j, ¬ o = 23 → τ.2.2 o j = σ.2.2 o j) → (∀ j, j < 80 → τ.2.2 23 j = extS w 64 j) → lp_Model_rounds_182 ge am (σ.2.2 24 0) (σ.2.2 24 1) (σ.2.2 24 2) (σ.2.2 24 3) (σ.2.2 24 4) 0 (r_em am τ h) Z := by
    intro τ t1 t2 t3 t4
    unfold lp_Model_rounds_182
    intro Y hY
    have loop : ∀ (m n : Nat) (q : qW), n + m = 80 → q = srnd (extS w 64) n (hds σ) → Y am q.1 q.2.1 q.2.2.1 q.2.2.2.1 q.2.2.2.2 (nI n) (r_em am τ h) := by
      intro m
      induction m with
      | zero =>
        intro n q hn hq
        have en : n = 80 := by omega
        subst en
        refine hY _ _ _ _ _ _ _ _ ?_
        unfold wq_Model_rounds_182
        refine ⟨fun _ => ?_, fun y => absurd (nI_le (a := 80) (Nat.le_refl _) (by decide)) y⟩
        simp only [hs, rk, rn, rP, rI, rU, c0, c1, c2, c3, c4', v0, v1, v2, v3, v4, ge0 hg, true_and, Option.some.injEq, exists_eq_left', forall_eq, Nat.reduceLT]
        refine hZ _ t1 t2 (fun o j o1 o2 => ?_) ?_
        · rw [ra_n o2, ra_n o2, ra_n o2, ra_n o2, ra_n o2]
          exact t3 o j o1
        · have w24 : ∀ j, τ.2.2 24 j = σ.2.2 24 j := fun j => t3 _ _ (by decide)
          unfold hds mixH
          simp only [raa]
          rw [hq]
          simp [w24, hds]
      | succ m ih =>
        intro n q hn hq
        refine hY _ _ _ _ _ _ _ _ ?_
        have hin : vp_in (nI n) 80 := vp_in_nI (by omega) (by decide)
        have hcl : (nI n).toNatClampNeg = n := nI_clamp (by omega)
        have p303 : ∀ (bl key : Int32), bl + key = bln n q.2.1 q.2.2.1 q.2.2.2.1 → wq_Model_rounds_303 Y ge am q.1 q.2.1 q.2.2.1 q.2.2.2.1 q.2.2.2.2 (nI n) bl key (r_em am τ h) Z := by
          intro bl key hb
          unfold wq_Model_rounds_303 wq_Model_turn wq_Model_turn_0
          simp only [hs, rk, rn, rP, rI, turn_5, turn_30, hin, hcl, true_and, Option.some.injEq, exists_eq_left', Nat.reduceLT]
          rw [add_sw (ro5 q.1) bl q.2.2.2.2 key, hb, t4 n (by omega), ← nI_succ]
          exact ih (n + 1) (sstep (extS w 64) n q) (by omega) (by rw [hq]; rfl)
        have lt : ∀ b : Nat, b < 2 ^ 31 → ((nI b ≤ nI n) ↔ b ≤ n) := fun b hb => nI_leI hb (by omega)
        unfold wq_Model_rounds_182 wq_Model_rounds_259
        refine ⟨fun y => absurd y (nI_ge (b := 80) (by omega) (by decide)), fun _ => ?_⟩
        have l20 := lt 20 (by decide)
        have l40 := lt 40 (by decide)
        have l60 := lt 60 (by decide)
        have l20 : ((20 : Int32) ≤ nI n) ↔ 20 ≤ n := l20
        have l40 : ((40 : Int32) ≤ nI n) ↔ 40 ≤ n := l40
        have l60 : ((60 : Int32) ≤ nI n) ↔ 60 ≤ n := l60
        simp only [l20, l40, l60]
        refine ⟨fun y1 => ⟨fun y2 => ⟨fun y3 => ⟨fun _ => ⟨fun _ => ⟨fun _ => p303 _ _ ?_, fun z => absurd y3 z⟩, fun z => absurd y2 z⟩, fun z => absurd y1 z⟩, fun y3 => ⟨fun _ => ⟨fun _ => ⟨fun z => absurd z y3, fun _ => p303 _ _ ?_⟩, fun z => absurd y2 z⟩, fun z => absurd y1 z⟩⟩, fun y2 => ⟨fun _ => ⟨fun z => absurd z y2, fun _ => p303 _ _ ?_⟩, fun z => absurd y1 z⟩⟩, fun y1 => ⟨fun z => absurd z y1, fun _ => p303 _ _ ?_⟩⟩
        · unfold bln; rw [if_neg (by omega), if_neg (by omega), if_neg (by omega)]
        · unfold bln; rw [if_neg (by omega), if_neg (by omega), if_pos (by omega)]
        · unfold bln; rw [if_neg (by omega), if_pos (by omega)]
        · unfold bln; rw [if_pos (by omega)]
    exact loop 80 0 (hds σ) (by omega) rfl
  -- the words spread
  have e81 : ∀ (τ : rS), τ.1 = σ.1 → τ.2.1 = σ.2.1 → (∀ o j, ¬ o = 23 → τ.2.2 o j = σ.2.2 o j) → (∀ j, j < 16 → τ.2.2 23 j = w j) → lp_Model_rounds_81 ge am 16 (r_em am τ h) Z := by
    intro τ0 t1 t2 t3 t4
    unfold lp_Model_rounds_81
    intro X hX
    have key : ∀ (m n : Nat) (τ : rS), n + m = 64 → τ.1 = σ.1 → τ.2.1 = σ.2.1 → (∀ o j, ¬ o = 23 → τ.2.2 o j = σ.2.2 o j) → (∀ j, j < 16 + n → τ.2.2 23 j = extS w n j) → X am (nI (16 + n)) (r_em am τ h) := by
      intro m
      induction m with
      | zero =>
        intro n τ hn t1 t2 t3 t4
        have en : n = 64 := by omega
        subst en
        refine hX _ _ _ ?_
        unfold wq_Model_rounds_81
        refine ⟨fun _ => ?_, fun q => absurd (nI_le (a := 80) (by omega) (by decide)) q⟩
        have w24 : ∀ j, τ.2.2 24 j = σ.2.2 24 j := fun j => t3 _ _ (by decide)
        simp only [hs, rk, rn, rP, rI, c0, c1, c2, c3, c4', v0, v1, v2, v3, v4, w24, true_and, Option.some.injEq, exists_eq_left', Nat.reduceLT]
        exact e182 τ t1 t2 t3 t4
      | succ m ih =>
        intro n τ hn t1 t2 t3 t4
        refine hX _ _ _ ?_
        unfold wq_Model_rounds_81 wq_Model_turn wq_Model_turn_0
        refine ⟨fun q => absurd q (nI_ge (b := 80) (by omega) (by decide)), fun _ => ?_⟩
        have q3 : nI (16 + n) - 3 = nI (13 + n) := by rw [show (3 : Int32) = nI 3 from rfl, nI_sub (by omega), show 16 + n - 3 = 13 + n by omega]
        have q8 : nI (16 + n) - 8 = nI (8 + n) := by rw [show (8 : Int32) = nI 8 from rfl, nI_sub (by omega), show 16 + n - 8 = 8 + n by omega]
        have q14 : nI (16 + n) - 14 = nI (2 + n) := by rw [show (14 : Int32) = nI 14 from rfl, nI_sub (by omega), show 16 + n - 14 = 2 + n by omega]
        have q16 : nI (16 + n) - 16 = nI n := by rw [show (16 : Int32) = nI 16 from rfl, nI_sub (by omega), show 16 + n - 16 = n by omega]
        have vv : ∀ k, k < 80 → vp_in (nI k) 80 := fun k hk => vp_in_nI hk (by decide)
        have cl : ∀ k, k < 80 → (nI k).toNatClampNeg = k := fun k hk => nI_clamp (by omega)
        simp only [hs, rk, rn, rP, rI, rU, turn_1, q3, q8, q14, q16, vv _ (show 13 + n < 80 by omega), vv _ (show 8 + n < 80 by omega), vv _ (show 2 + n < 80 by omega), vv _ (show n < 80 by omega), vv _ (show 16 + n < 80 by omega), cl _ (show 13 + n < 80 by omega), cl _ (show 8 + n < 80 by omega), cl _ (show 2 + n < 80 by omega), cl _ (show n < 80 by omega), cl _ (show 16 + n < 80 by omega), ge0 hg, true_and, Option.some.injEq, exists_eq_left', forall_eq, Nat.reduceLT]
        rw [← nI_succ]
        refine ih (n + 1) _ (by omega) t1 t2 (fun o j ho => by rw [ra_n ho]; exact t3 o j ho) (fun j hj => ?_)
        show _ = (if j = 16 + n then ro1 (((extS w n (13 + n) ^^^ extS w n (8 + n)) ^^^ extS w n (2 + n)) ^^^ extS w n n) else extS w n j)
        rw [raa]
        by_cases ej : j = 16 + n
        · rw [if_pos ⟨rfl, ej⟩, if_pos ej, t4 _ (by omega), t4 _ (by omega), t4 _ (by omega), t4 _ (by omega)]
        · rw [if_neg (fun z => ej z.2), if_neg ej]
          exact t4 j (by omega)
    exact key 64 0 τ0 (by omega) t1 t2 t3 (fun j hj => t4 j hj)
  unfold wq_Model_rounds wq_Model_rounds_0 lp_Model_rounds_2
  intro X hX
  have key : ∀ (m k : Nat) (τ : rS), k + m = 16 → τ.1 = σ.1 → τ.2.1 = σ.2.1 → (∀ o j, ¬ o = 23 → τ.2.2 o j = σ.2.2 o j) → (∀ j, j < k → τ.2.2 23 j = w j) → X am (nI f) (nI k) (r_em am τ h) := by
    intro m
    induction m with
    | zero =>
      intro k τ hk t1 t2 t3 t4
      have e : k = 16 := by omega
      subst e
      refine hX _ _ _ _ ?_
      unfold wq_Model_rounds_2
      exact ⟨fun _ => e81 τ t1 t2 t3 t4, fun q => absurd (nI_le (a := 16) (Nat.le_refl _) (by decide)) q⟩
    | succ m ih =>
      intro k τ hk t1 t2 t3 t4
      refine hX _ _ _ _ ?_
      unfold wq_Model_rounds_2
      refine ⟨fun q => absurd q (nI_ge (b := 16) (by omega) (by decide)), fun _ => ?_⟩
      have q0 : nI f + (4 : Int32) * nI k = nI (f + 4 * k) := by rw [show (4 : Int32) = nI 4 from rfl, pk_mul, nI_add]
      have q1 : nI (f + 4 * k) + 1 = nI (f + 4 * k + 1) := (nI_succ _).symm
      have q2 : nI (f + 4 * k) + 2 = nI (f + 4 * k + 2) := nI_add _ 2
      have q3 : nI (f + 4 * k) + 3 = nI (f + 4 * k + 3) := nI_add _ 3
      have vv : ∀ i, i < 6080 → vp_in (nI i) 6080 := fun i hi => vp_in_nI hi (by decide)
      have cl : ∀ i, i < 6080 → (nI i).toNatClampNeg = i := fun i hi => nI_clamp (by omega)
      have w1 : vp_in (nI k) 80 := vp_in_nI (by omega) (by decide)
      have w2 : (nI k).toNatClampNeg = k := nI_clamp (by omega)
      have b22 : ∀ j, τ.2.2 22 j = σ.2.2 22 j := fun j => t3 _ _ (by decide)
      simp only [hs, rk, rn, rP, rI, rU, q0, q1, q2, q3, vv _ (show f + 4 * k < 6080 by omega), vv _ (show f + 4 * k + 1 < 6080 by omega), vv _ (show f + 4 * k + 2 < 6080 by omega), vv _ (show f + 4 * k + 3 < 6080 by omega), cl _ (show f + 4 * k < 6080 by omega), cl _ (show f + 4 * k + 1 < 6080 by omega), cl _ (show f + 4 * k + 2 < 6080 by omega), cl _ (show f + 4 * k + 3 < 6080 by omega), w1, w2, b22, ge0 hg, true_and, Option.some.injEq, exists_eq_left', forall_eq, Nat.reduceLT]
      rw [← nI_succ]
      refine ih (k + 1) _ (by omega) t1 t2 (fun o j ho => by rw [ra_n ho]; exact t3 o j ho) (fun j hj => ?_)
      rw [raa]
      by_cases ej : j = k
      · rw [if_pos ⟨rfl, ej⟩, ew, ej]; rfl
      · rw [if_neg (fun z => ej z.2)]
        exact t4 j (by omega)
  exact key 16 0 σ (by omega) rfl rfl (fun _ _ _ => rfl) (fun j hj => absurd hj (by omega))
end RSH
/-- four bytes as a word, either way -/
theorem w4_eq (a b c d : Int32) : ((((((0 : Int32) <<< ((8 : Int32) &&& 31)) ||| a) <<< ((8 : Int32) &&& 31) ||| b) <<< ((8 : Int32) &&& 31) ||| c) <<< ((8 : Int32) &&& 31)) ||| d = ((a <<< ((24 : Int32) &&& 31) ||| b <<< ((16 : Int32) &&& 31)) ||| c <<< ((8 : Int32) &&& 31)) ||| d := by
  apply b_ext
  intro i hi
  rw [b_or, b_or, b_or, b_or, b_shl8 _ hi, b_shl8 _ hi, b_shl16 _ hi, b_shl24 _ hi, b_or]
  congr 1
  by_cases h8 : 8 ≤ i
  · rw [decide_eq_true h8, Bool.true_and, Bool.true_and, b_shl8 _ (by omega), b_or]
    congr 1
    by_cases h16 : 16 ≤ i
    · rw [decide_eq_true h16, decide_eq_true (show 8 ≤ i - 8 by omega), Bool.true_and, Bool.true_and, b_shl8 _ (by omega), b_or, b_shl8 _ (by omega), b_0, Bool.and_false, Bool.false_or, show i - 8 - 8 = i - 16 by omega]
      by_cases h24 : 24 ≤ i
      · rw [decide_eq_true h24, decide_eq_true (show 8 ≤ i - 16 by omega), Bool.true_and, Bool.true_and, show i - 16 - 8 = i - 24 by omega]
      · rw [decide_eq_false h24, decide_eq_false (show ¬ 8 ≤ i - 16 by omega), Bool.false_and, Bool.false_and]
    · rw [decide_eq_false h16, decide_eq_false (show ¬ 8 ≤ i - 8 by omega), decide_eq_false (show ¬ 24 ≤ i by omega)]
      simp only [Bool.false_and, Bool.or_false]
  · rw [decide_eq_false h8, decide_eq_false (show ¬ 16 ≤ i by omega), decide_eq_false (show ¬ 24 ≤ i by omega)]
    simp only [Bool.false_and, Bool.or_false]
/-- a word's bytes, put together, are the word -/
theorem w4_back (v : Int32) : ((((v >>> ((8 : Int32) * nI 3 &&& 31)) &&& 255) <<< ((24 : Int32) &&& 31) ||| ((v >>> ((8 : Int32) * nI 2 &&& 31)) &&& 255) <<< ((16 : Int32) &&& 31)) ||| ((v >>> ((8 : Int32) * nI 1 &&& 31)) &&& 255) <<< ((8 : Int32) &&& 31)) ||| ((v >>> ((8 : Int32) * nI 0 &&& 31)) &&& 255) = v := by
  apply b_ext
  intro i hi
  rw [b_or, b_or, b_or, b_shl8 _ hi, b_shl16 _ hi, b_shl24 _ hi, b_and, b_and, b_and, b_and, b_255, b_255, b_255, b_255, b_sshr_8 0 (by decide) _ hi, b_sshr_8 1 (by decide) _ (by omega), b_sshr_8 2 (by decide) _ (by omega), b_sshr_8 3 (by decide) _ (by omega)]
  rcases (by omega : i < 8 ∨ (8 ≤ i ∧ i < 16) ∨ (16 ≤ i ∧ i < 24) ∨ 24 ≤ i) with c | c | c | c
  · rw [decide_eq_true (show i < 8 by omega), decide_eq_false (show ¬ 8 ≤ i by omega), decide_eq_false (show ¬ 16 ≤ i by omega), decide_eq_false (show ¬ 24 ≤ i by omega), if_pos (show 8 * 0 + i < 32 by omega), show 8 * 0 + i = i by omega]
    simp
  · rw [decide_eq_false (show ¬ i < 8 by omega), decide_eq_true (show 8 ≤ i by omega), decide_eq_false (show ¬ 16 ≤ i by omega), decide_eq_false (show ¬ 24 ≤ i by omega), decide_eq_true (show i - 8 < 8 by omega), if_pos (show 8 * 1 + (i - 8) < 32 by omega), show 8 * 1 + (i - 8) = i by omega]
    simp
  · rw [decide_eq_false (show ¬ i < 8 by omega), decide_eq_true (show 8 ≤ i by omega), decide_eq_true (show 16 ≤ i by omega), decide_eq_false (show ¬ 24 ≤ i by omega), decide_eq_false (show ¬ i - 8 < 8 by omega), decide_eq_true (show i - 16 < 8 by omega), if_pos (show 8 * 2 + (i - 16) < 32 by omega), show 8 * 2 + (i - 16) = i by omega]
    simp
  · rw [decide_eq_false (show ¬ i < 8 by omega), decide_eq_true (show 8 ≤ i by omega), decide_eq_true (show 16 ≤ i by omega), decide_eq_true (show 24 ≤ i by omega), decide_eq_false (show ¬ i - 8 < 8 by omega), decide_eq_false (show ¬ i - 16 < 8 by omega), decide_eq_true (show i - 24 < 8 by omega), if_pos (show 8 * 3 + (i - 24) < 32 by omega), show 8 * 3 + (i - 24) = i by omega]
    simp
section RSH2
variable {ge : Nat → Nat} {am : Nat} {h : mm_M} {σ : rS}
/-- of the arrays only block, chunk and hash may have changed -/
def frH (σ σ' : rS) : Prop := σ'.1 = σ.1 ∧ σ'.2.1 = σ.2.1 ∧ ∀ o j, ¬ o = 22 → ¬ o = 23 → ¬ o = 24 → σ'.2.2 o j = σ.2.2 o j
theorem frH_rf (σ : rS) : frH σ σ := ⟨rfl, rfl, fun _ _ _ _ _ => rfl⟩
theorem frH_tr {σ σ1 σ2 : rS} (h1 : frH σ σ1) (h2 : frH σ1 σ2) : frH σ σ2 := ⟨h2.1.trans h1.1, h2.2.1.trans h1.2.1, fun o j a b c => (h2.2.2 o j a b c).trans (h1.2.2 o j a b c)⟩
set_option maxHeartbeats 4000000 in
theorem rt_hashes (hM : RM am h) (hg : ge 0 ≤ am) {X : List Int32} (hl : X.length ≤ 5520) (hX : ∀ i, i < X.length → σ.2.2 22 i = tp X i) (Z : mm_M → Prop)
    (hZ : ∀ σ', frH σ σ' → hds σ' = sha X → Z (r_em am σ' h)) : wq_Model_hashes ge am (nI X.length) (r_em am σ h) Z := by
  have hs := hM
  unfold RM at hs
  obtain ⟨n, en⟩ : ∃ n, n = X.length := ⟨_, rfl⟩
  rw [← en] at hl hX ⊢
  have c0 : Int32.toNatClampNeg 0 = 0 := by decide
  have c1 : Int32.toNatClampNeg 1 = 1 := by decide
  have c2 : Int32.toNatClampNeg 2 = 2 := by decide
  have c3 : Int32.toNatClampNeg 3 = 3 := by decide
  have c4' : Int32.toNatClampNeg 4 = 4 := by decide
  have v : ∀ k, k < 5 → vp_in (nI k) 5 := fun k hk => vp_in_nI hk (by decide)
  have v0 : vp_in 0 5 := v 0 (by decide)
  have v1 : vp_in 1 5 := v 1 (by decide)
  have v2 : vp_in 2 5 := v 2 (by decide)
  have v3 : vp_in 3 5 := v 3 (by decide)
  have v4 : vp_in 4 5 := v 4 (by decide)
  obtain ⟨al, eal⟩ : ∃ al, al = 64 * chk X := ⟨_, rfl⟩
  have hal : al = (n + 8) / 64 * 64 + 64 := by rw [eal]; unfold chk; rw [← en]; omega
  have ha1 : n + 9 ≤ al := by omega
  have ha2 : al ≤ 6080 := by omega
  have qal : (((nI n + 8) / 64) * 64) + 64 = nI al := by
    rw [show nI n + 8 = nI (n + 8) from nI_add n 8, nI_div64 (by omega), show (64 : Int32) = nI 64 from rfl, pk_mul, nI_add, hal]
  have vv : ∀ i, i < 6080 → vp_in (nI i) 6080 := fun i hi => vp_in_nI hi (by decide)
  have cl : ∀ i, i < 6080 → (nI i).toNatClampNeg = i := fun i hi => nI_clamp (by omega)
  unfold wq_Model_hashes wq_Model_hashes_0
  simp only [hs, rk, rn, rP, rU, c0, c1, c2, c3, c4', v0, v1, v2, v3, v4, qal, ge0 hg, true_and, Option.some.injEq, exists_eq_left', forall_eq, Nat.reduceLT]
  obtain ⟨σ1, e1⟩ : ∃ σ1, σ1 = r_a (r_a (r_a (r_a (r_a σ 24 0 1732584193) 24 1 (-271733879)) 24 2 (-1732584194)) 24 3 271733878) 24 4 (-1009589776) := ⟨_, rfl⟩
  rw [← e1]
  have F1 : frH σ σ1 := by
    rw [e1]
    exact ⟨rfl, rfl, fun o j _ _ z => by rw [ra_n z, ra_n z, ra_n z, ra_n z, ra_n z]⟩
  have H1 : hds σ1 = sh0 := by
    unfold hds sh0
    rw [e1, ra_k (by decide), ra_k (by decide), ra_k (by decide), ra_k (by decide), ra_y, ra_k (by decide), ra_k (by decide), ra_k (by decide), ra_y, ra_k (by decide), ra_k (by decide), ra_y, ra_k (by decide), ra_y, ra_y]
  have B1 : ∀ i, i < n → σ1.2.2 22 i = tp X i := fun i hi => by rw [e1, ra_n (by decide), ra_n (by decide), ra_n (by decide), ra_n (by decide), ra_n (by decide)]; exact hX i hi
  -- the rounds
  have e128 : ∀ τ : rS, frH σ τ → hds τ = sh0 → (∀ i, i < al - 4 → τ.2.2 22 i = padB X i) → (∀ k, k < 4 → τ.2.2 22 (al - 1 - k) = ((8 : Int32) * nI n) >>> ((8 : Int32) * nI k &&& 31) &&& 255) → lp_Model_hashes_128 ge am (nI al) 0 (r_em am τ h) Z := by
    intro τ0 tF tH tB tE
    unfold lp_Model_hashes_128
    intro Y hY
    have key : ∀ (m c : Nat) (τ : rS), c + m = chk X → frH σ τ → hds τ = shaN X c → (∀ i, τ.2.2 22 i = τ0.2.2 22 i) → Y am (nI al) (nI (64 * c)) (r_em am τ h) := by
      intro m
      induction m with
      | zero =>
        intro c τ hc t1 t2 t3
        have ec : c = chk X := by omega
        refine hY _ _ _ _ ?_
        unfold wq_Model_hashes_128
        refine ⟨fun _ => hZ τ t1 (by rw [t2, ec]; rfl), fun z => absurd (nI_le (by rw [ec, eal]; exact Nat.le_refl _) (by omega)) z⟩
      | succ m ih =>
        intro c τ hc t1 t2 t3
        have hcc : c < chk X := by omega
        refine hY _ _ _ _ ?_
        unfold wq_Model_hashes_128
        refine ⟨fun z => absurd z (nI_ge (by omega) (by omega)), fun _ => ?_⟩
        simp only [hs, rk, true_and]
        refine rt_rounds hM hg (by omega) _ (fun τ' a1 a2 a3 a4 => ?_)
        rw [show nI (64 * c) + 64 = nI (64 * (c + 1)) from (nI_add (64 * c) 64).trans (by congr 1)]
        refine ih (c + 1) τ' (by omega) ⟨a1.trans t1.1, a2.trans t1.2.1, fun o j o1 o2 o3 => (a3 o j o2 o3).trans (t1.2.2 o j o1 o2 o3)⟩ ?_ (fun i => (a3 _ _ (by decide) (by decide)).trans (t3 i))
        rw [a4, t2]
        show _ = mixH (blkW X c) (shaN X c)
        refine mixH_congr (fun i hi => ?_) _
        unfold blkW
        by_cases hlast : c + 1 = chk X ∧ i = 15
        · rw [if_pos hlast, ← en]
          have ep : 64 * c + 4 * i = al - 4 := by omega
          unfold bw
          rw [t3, t3, t3, t3, ep]
          have k3 := tE 3 (by decide)
          have k2 := tE 2 (by decide)
          have k1 := tE 1 (by decide)
          have k0 := tE 0 (by decide)
          rw [show al - 1 - 3 = al - 4 by omega] at k3
          rw [show al - 1 - 2 = al - 4 + 1 by omega] at k2
          rw [show al - 1 - 1 = al - 4 + 2 by omega] at k1
          rw [show al - 1 - 0 = al - 4 + 3 by omega] at k0
          rw [k3, k2, k1, k0, w4_back, Int32.mul_comm]
        · rw [if_neg hlast]
          unfold bw pw
          have hle : 64 * c + 4 * i + 3 < al - 4 := by
            have : 64 * c + 64 ≤ al := by omega
            by_cases c' : c + 1 = chk X
            · have : ¬ i = 15 := fun z => hlast ⟨c', z⟩
              omega
            · have : 64 * c + 128 ≤ al := by omega
              omega
          rw [t3, t3, t3, t3, tB _ (by omega), tB _ (by omega), tB _ (by omega), tB _ (by omega), w4_eq, show 64 * c + 4 * i = c * 64 + i * 4 by omega]
    exact key (chk X) 0 τ0 (by omega) tF tH (fun _ => rfl)
  -- the length
  have e92 : ∀ τ : rS, frH σ τ → hds τ = sh0 → (∀ i, i < al → τ.2.2 22 i = padB X i) → lp_Model_hashes_92 ge am (nI n) (nI al) 0 (r_em am τ h) Z := by
    intro τ0 tF tH tB
    unfold lp_Model_hashes_92
    intro Y hY
    have key : ∀ (m k : Nat) (τ : rS), k + m = 4 → frH σ τ → hds τ = sh0 → (∀ i, i < al - k → τ.2.2 22 i = padB X i) → (∀ i, i < k → τ.2.2 22 (al - 1 - i) = ((8 : Int32) * nI n) >>> ((8 : Int32) * nI i &&& 31) &&& 255) → Y am (nI n) (nI al) (nI k) (r_em am τ h) := by
      intro m
      induction m with
      | zero =>
        intro k τ hk t1 t2 t3 t4
        have e : k = 4 := by omega
        subst e
        refine hY _ _ _ _ _ ?_
        unfold wq_Model_hashes_92
        exact ⟨fun _ => e128 τ t1 t2 t3 t4, fun z => absurd (nI_le (a := 4) (Nat.le_refl 4) (by decide)) z⟩
      | succ m ih =>
        intro k τ hk t1 t2 t3 t4
        refine hY _ _ _ _ _ ?_
        unfold wq_Model_hashes_92
        refine ⟨fun z => absurd z (nI_ge (b := 4) (by omega) (by decide)), fun _ => ?_⟩
        have q1 : nI al - 1 = nI (al - 1) := by rw [show (1 : Int32) = nI 1 from rfl, nI_sub (by omega)]
        have q2 : nI (al - 1) - nI k = nI (al - 1 - k) := nI_sub (by omega)
        simp only [hs, rk, rn, rP, rU, q1, q2, vv _ (show al - 1 - k < 6080 by omega), cl _ (show al - 1 - k < 6080 by omega), ge0 hg, true_and, Option.some.injEq, exists_eq_left', forall_eq, Nat.reduceLT]
        rw [← nI_succ]
        refine ih (k + 1) _ (by omega) ⟨t1.1, t1.2.1, fun o j o1 o2 o3 => by rw [ra_n o1]; exact t1.2.2 o j o1 o2 o3⟩ ?_ (fun i hi => ?_) (fun i hi => ?_)
        · unfold hds
          rw [ra_n (by decide), ra_n (by decide), ra_n (by decide), ra_n (by decide), ra_n (by decide)]
          exact t2
        · rw [ra_k (by omega)]
          exact t3 i (by omega)
        · rw [raa]
          by_cases c : i = k
          · rw [if_pos ⟨rfl, by rw [c]⟩, c]
          · rw [if_neg (fun z => c (by omega))]
            exact t4 i (by omega)
    exact key 4 0 τ0 rfl tF tH tB (fun i hi => absurd hi (by omega))
  -- the padding
  unfold lp_Model_hashes_61
  intro Y hY
  have key : ∀ (m k : Nat) (τ : rS), k + m = al → n ≤ k → frH σ τ → hds τ = sh0 → (∀ i, i < k → τ.2.2 22 i = padB X i) → Y am (nI n) (nI al) (nI k) (r_em am τ h) := by
    intro m
    induction m with
    | zero =>
      intro k τ hk hn t1 t2 t3
      have e : k = al := by omega
      subst e
      refine hY _ _ _ _ _ ?_
      unfold wq_Model_hashes_61
      exact ⟨fun _ => e92 τ t1 t2 t3, fun z => absurd (nI_le (Nat.le_refl _) (by omega)) z⟩
    | succ m ih =>
      intro k τ hk hn t1 t2 t3
      have e83 : ∀ x : Int32, x = padB X k → wq_Model_hashes_83 Y ge am (nI n) (nI al) (nI k) (some (am + 22)) (nI k) x (r_em am τ h) Z := by
        intro x hx
        unfold wq_Model_hashes_83
        simp only [hs, rk, rn, rU, vv _ (show k < 6080 by omega), cl _ (show k < 6080 by omega), ge0 hg, true_and, Option.some.injEq, exists_eq_left', forall_eq, Nat.reduceLT]
        rw [← nI_succ]
        refine ih (k + 1) _ (by omega) (by omega) ⟨t1.1, t1.2.1, fun o j o1 o2 o3 => by rw [ra_n o1]; exact t1.2.2 o j o1 o2 o3⟩ ?_ (fun i hi => ?_)
        · unfold hds
          rw [ra_n (by decide), ra_n (by decide), ra_n (by decide), ra_n (by decide), ra_n (by decide)]
          exact t2
        · rw [raa]
          by_cases c : i = k
          · rw [if_pos ⟨rfl, c⟩, c]; exact hx
          · rw [if_neg (fun z => c z.2)]
            exact t3 i (by omega)
      refine hY _ _ _ _ _ ?_
      unfold wq_Model_hashes_61
      refine ⟨fun z => absurd z (nI_ge (by omega) (by omega)), fun _ => ?_⟩
      simp only [hs, rk, rP, true_and]
      rw [nI_eq (show k < 2 ^ 31 by omega) (show n < 2 ^ 31 by omega)]
      refine ⟨fun z => e83 0 ?_, fun z => e83 128 ?_⟩
      · unfold padB
        rw [if_neg (by omega), if_neg (by omega)]
      · unfold padB
        rw [if_neg (by omega), if_pos (by omega)]
  refine key (al - n) n σ1 (by omega) (Nat.le_refl _) F1 H1 (fun i hi => ?_)
  rw [B1 i hi]
  unfold padB
  rw [if_pos (by omega)]
end RSH2
