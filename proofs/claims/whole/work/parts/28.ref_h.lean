/-! the reference: isName, gone -/
def r_nok (σ : rS) (a n : Nat) : Prop := 1 ≤ n ∧ n ≤ 20 ∧ ¬ (n < 3 ∧ σ.2.2 O_tape a = 46 ∧ σ.2.2 O_tape (a + n - 1) = 46) ∧ ∀ k : Nat, k < n → ¬ σ.2.2 O_tape (a + k) = 0 ∧ ¬ σ.2.2 O_tape (a + k) = 47
theorem rq_isName {ge : Nat → Nat} {am : Nat} {h : mm_M} (hM : RM am h) (σ : rS) {a n : Nat} (hn : n < 2 ^ 20) (ha : a + n ≤ 1400) (Z : Int32 → mm_M → Prop)
    (h1 : r_nok σ a n → Z 1 (r_em am σ h)) (h0 : ¬ r_nok σ a n → Z 0 (r_em am σ h)) : wq_Model_isName ge am (nI a) (nI n) (r_em am σ h) Z := by
  have hs := hM
  unfold RM at hs
  have loop : 1 ≤ n → n ≤ 20 → ¬ (n < 3 ∧ σ.2.2 O_tape a = 46 ∧ σ.2.2 O_tape (a + n - 1) = 46) → wq_Model_isName_44 ge am (nI a) (nI n) (r_em am σ h) Z := by
    intro b1 b2 b3
    unfold wq_Model_isName_44 lp_Model_isName_49
    intro X hX
    have fin0 : ∀ k : Nat, ¬ r_nok σ a n → X am (nI a) (nI n) 0 (nI k) (r_em am σ h) := by
      intro k hk
      have hf := h0 hk
      refine hX _ _ _ _ _ _ ?_
      unfold wq_Model_isName_49 wq_Model_isName_97
      exact ⟨fun _ => ⟨Or.inl rfl, hf⟩, fun _ => ⟨fun _ => ⟨Or.inl rfl, hf⟩, fun q2 => absurd rfl q2⟩⟩
    have key : ∀ (m k : Nat), k + m = n → (∀ i : Nat, i < k → ¬ σ.2.2 O_tape (a + i) = 0 ∧ ¬ σ.2.2 O_tape (a + i) = 47) → X am (nI a) (nI n) 1 (nI k) (r_em am σ h) := by
      intro m
      induction m with
      | zero =>
        intro k hk hp
        have e : k = n := by omega
        subst e
        have hf := h1 ⟨b1, b2, b3, hp⟩
        refine hX _ _ _ _ _ _ ?_
        unfold wq_Model_isName_49 wq_Model_isName_97
        exact ⟨fun _ => ⟨Or.inr rfl, hf⟩, fun q2 => absurd (nI_le (Nat.le_refl _) (by omega)) q2⟩
      | succ m ih =>
        intro k hk hp
        refine hX _ _ _ _ _ _ ?_
        have w1 : vp_in (nI (a + k)) 1400 := vp_in_nI (by omega) (by decide)
        have w2 : (nI (a + k)).toNatClampNeg = a + k := nI_clamp (by omega)
        unfold wq_Model_isName_49 wq_Model_isName_89 wq_Model_isName_90
        refine ⟨fun z => absurd z (nI_ge (by omega) (by omega)), fun _ => ⟨fun z => absurd z (by decide), fun _ => ?_⟩⟩
        simp only [hs, rk, rn, rP, rI, nI_add, w1, w2, true_and, Option.some.injEq, exists_eq_left', Nat.reduceLT]
        rw [show nI k + 1 = nI (k + 1) from (nI_succ k).symm]
        refine ⟨fun q => fin0 (k + 1) (fun z => (z.2.2.2 k (by omega)).1 q), fun q => ⟨fun q2 => fin0 (k + 1) (fun z => (z.2.2.2 k (by omega)).2 q2), fun q2 => ih (k + 1) (by omega) (fun i hi => ?_)⟩⟩
        by_cases e : i = k
        · subst e; exact ⟨q, q2⟩
        · exact hp i (by omega)
    exact key n 0 (by omega) (fun i hi => absurd hi (by omega))
  have e1 : (nI n < 1) ↔ n < 1 := by
    show nI n < nI 1 ↔ _
    exact nI_ltI (by omega) (by decide)
  have e20 : (20 < nI n) ↔ 20 < n := by
    show nI 20 < nI n ↔ _
    exact nI_ltI (by decide) (by omega)
  have e3 : (3 ≤ nI n) ↔ 3 ≤ n := by
    show nI 3 ≤ nI n ↔ _
    exact nI_leI (by decide) (by omega)
  unfold wq_Model_isName wq_Model_isName_0 wq_Model_isName_42
  refine ⟨fun q => h0 (fun z => ?_), fun q => ⟨fun q2 => h0 (fun z => ?_), fun q2 => ⟨fun q3 => ?_, fun q3 => ?_⟩⟩⟩
  · have := e1.mp q; have := z.1; omega
  · have := e20.mp q2; have := z.2.1; omega
  · have b1 : ¬ n < 1 := fun z => q (e1.mpr z)
    have b2 : ¬ 20 < n := fun z => q2 (e20.mpr z)
    exact loop (by omega) (by omega) (fun z => by have := e3.mp q3; have := z.1; omega)
  · have b1 : ¬ n < 1 := fun z => q (e1.mpr z)
    have b2 : ¬ 20 < n := fun z => q2 (e20.mpr z)
    have b3 : ¬ 3 ≤ n := fun z => q3 (e3.mpr z)
    have w1 : vp_in (nI a) 1400 := vp_in_nI (by omega) (by decide)
    have w2 : (nI a).toNatClampNeg = a := nI_clamp (by omega)
    have w3 : vp_in (nI (a + n - 1)) 1400 := vp_in_nI (by omega) (by decide)
    have w4 : (nI (a + n - 1)).toNatClampNeg = a + n - 1 := nI_clamp (by omega)
    have e5 : nI (a + n) - 1 = nI (a + n - 1) := by
      rw [show a + n = (a + n - 1) + 1 by omega, nI_pred]
      rfl
    simp only [hs, rk, rn, rP, rI, nI_add, e5, w1, w2, w3, w4, true_and, Option.some.injEq, exists_eq_left', Nat.reduceLT]
    refine ⟨fun q4 => loop (by omega) (by omega) (fun z => q4 z.2.1), fun q4 => ⟨fun q5 => loop (by omega) (by omega) (fun z => q5 z.2.2), fun q5 => h0 (fun z => z.2.2.1 ⟨by omega, q4, q5⟩)⟩⟩
/-- the row of fid k + 1 comes to place k -/
def r_g1 (σ : rS) (k : Nat) : rS := r_mv (r_mv (r_mv (r_mv (r_mv (r_mv σ O_fNumber (k + 1) k) O_fTree (k + 1) k) O_fPath (k + 1) k) O_fMode (k + 1) k) O_fTold (k + 1) k) O_fLast (k + 1) k
def r_sh : Nat → Nat → rS → rS
  | _, 0, σ => σ
  | k, m + 1, σ => r_sh (k + 1) m (r_g1 σ k)
theorem rq_gone {ge : Nat → Nat} {am : Nat} {h : mm_M} (hM : RM am h) (hg : ge 0 ≤ am) (σ : rS) {f n : Nat} (hn : σ.1 F_fids = nI n) (hn2 : n ≤ 24) (hf : f < n) (Z : mm_M → Prop)
    (hZ : Z (r_em am (r_sh f (n - 1 - f) (r_f σ F_fids (nI (n - 1)))) h)) : wq_Model_gone ge am (nI f) (r_em am σ h) Z := by
  have hs := hM
  unfold RM at hs
  have e0 : nI n - 1 = nI (n - 1) := by
    rw [show n = (n - 1) + 1 by omega, nI_pred]
    rfl
  unfold wq_Model_gone wq_Model_gone_0
  simp only [hs, rk, rI0, rU0, hn, e0, hg, true_and, forall_eq]
  unfold lp_Model_gone_12
  intro X hX
  have key : ∀ (m k : Nat) (τ : rS), n - 1 - k = m → k ≤ n - 1 → τ.1 F_fids = nI (n - 1) → Z (r_em am (r_sh k m τ) h) → X am (nI k) (r_em am τ h) := by
    intro m
    induction m with
    | zero =>
      intro k τ hk hk2 ht hz
      refine hX _ _ _ ?_
      unfold wq_Model_gone_12
      simp only [hs, rk, rI0, ht, true_and]
      exact ⟨fun _ => hz, fun q => absurd (nI_le (by omega) (by omega)) q⟩
    | succ m ih =>
      intro k τ hk hk2 ht hz
      refine hX _ _ _ ?_
      have w1 : vp_in (nI k) 24 := vp_in_nI (by omega) (by decide)
      have w2 : (nI k).toNatClampNeg = k := nI_clamp (by omega)
      have w3 : vp_in (nI (k + 1)) 24 := vp_in_nI (by omega) (by decide)
      have w4 : (nI (k + 1)).toNatClampNeg = k + 1 := nI_clamp (by omega)
      unfold wq_Model_gone_12
      simp only [hs, rk, rn, rP, rI0, rI, rU, ht, nI_1, w1, w2, w3, w4, ge0 hg, true_and, Option.some.injEq, exists_eq_left', forall_eq, Nat.reduceLT]
      refine ⟨fun q => absurd q (nI_ge (by omega) (by omega)), fun _ => ?_⟩
      exact ih (k + 1) (r_g1 τ k) (by omega) (by omega) ht hz
  exact key (n - 1 - f) f _ rfl (by omega) (by rw [rf1, if_pos rfl]) hZ
