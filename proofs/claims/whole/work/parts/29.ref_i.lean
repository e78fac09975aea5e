/-! the reference: isOnes, whyNot -/
def r_1s (σ : rS) (a e n : Nat) : rS := r_f (if a + n ≤ e then σ else r_f σ F_good 0) F_at (nI (a + n))
def r_1p (σ : rS) (a e n : Nat) : Prop := a + n ≤ e ∧ ∀ k : Nat, k < n → σ.2.2 O_tape (a + k) = 255
theorem rq_isOnes {ge : Nat → Nat} {am : Nat} {h : mm_M} (hM : RM am h) (hg : ge 0 ≤ am) (σ : rS) {a e n : Nat} (ha : σ.1 F_at = nI a) (he : σ.1 F_end = nI e) (ha2 : a ≤ 70000) (he2 : e ≤ 1400) (hn : n ≤ 20) (Z : Int32 → mm_M → Prop)
    (h1 : r_1p σ a e n → Z 1 (r_em am (r_1s σ a e n) h)) (h0 : ¬ r_1p σ a e n → Z 0 (r_em am (r_1s σ a e n) h)) : wq_Model_isOnes ge am (nI n) (r_em am σ h) Z := by
  have hs := hM
  unfold RM at hs
  have fin : ∀ v : Int32, (v = 0 ∨ v = 1) → Z v (r_em am (r_1s σ a e n) h) → wq_Model_isOnes_59 ge am (nI n) v (r_em am σ h) Z := by
    intro v hv hz
    unfold r_1s at hz
    unfold wq_Model_isOnes_59 wq_Model_isOnes_77
    have e1 : (r_f σ F_good 0).1 F_at = nI a := by rw [rf1, if_neg (by decide)]; exact ha
    simp only [hs, rk, rI0, rU0, ha, he, e1, nI_add, hg, true_and, forall_eq]
    refine ⟨fun q => ⟨hv, ?_⟩, fun q => ⟨hv, ?_⟩⟩
    · rw [if_pos ((nI_leI (by omega) (by omega)).mp q)] at hz
      exact hz
    · rw [if_neg (fun z => q (nI_le z (by omega)))] at hz
      exact hz
  have loop0 : ¬ r_1p σ a e n → wq_Model_isOnes_18 ge am (nI n) 0 (r_em am σ h) Z := by
    intro hno
    unfold wq_Model_isOnes_18 lp_Model_isOnes_21
    intro X hX
    refine hX _ _ _ _ _ ?_
    have f0 := fin 0 (Or.inl rfl) (h0 hno)
    unfold wq_Model_isOnes_21
    exact ⟨fun _ => f0, fun _ => ⟨fun _ => f0, fun q => absurd rfl q⟩⟩
  have loop1 : a + n ≤ e → wq_Model_isOnes_18 ge am (nI n) 1 (r_em am σ h) Z := by
    intro hle
    unfold wq_Model_isOnes_18 lp_Model_isOnes_21
    intro X hX
    have fin0 : ∀ k : Nat, ¬ r_1p σ a e n → X am (nI n) 0 (nI k) (r_em am σ h) := by
      intro k hno
      refine hX _ _ _ _ _ ?_
      have f0 := fin 0 (Or.inl rfl) (h0 hno)
      unfold wq_Model_isOnes_21
      exact ⟨fun _ => f0, fun _ => ⟨fun _ => f0, fun q => absurd rfl q⟩⟩
    have key : ∀ (m k : Nat), k + m = n → (∀ i : Nat, i < k → σ.2.2 O_tape (a + i) = 255) → X am (nI n) 1 (nI k) (r_em am σ h) := by
      intro m
      induction m with
      | zero =>
        intro k hk hp
        have e : k = n := by omega
        subst e
        have f1 := fin 1 (Or.inr rfl) (h1 ⟨hle, hp⟩)
        refine hX _ _ _ _ _ ?_
        unfold wq_Model_isOnes_21
        exact ⟨fun _ => f1, fun q2 => absurd (nI_le (Nat.le_refl _) (by omega)) q2⟩
      | succ m ih =>
        intro k hk hp
        refine hX _ _ _ _ _ ?_
        have w1 : vp_in (nI (a + k)) 1400 := vp_in_nI (by omega) (by decide)
        have w2 : (nI (a + k)).toNatClampNeg = a + k := nI_clamp (by omega)
        unfold wq_Model_isOnes_21 wq_Model_isOnes_52
        refine ⟨fun z => absurd z (nI_ge (by omega) (by omega)), fun _ => ⟨fun z => absurd z (by decide), fun _ => ?_⟩⟩
        simp only [hs, rk, rn, rP, rI0, rI, ha, nI_add, w1, w2, true_and, Option.some.injEq, exists_eq_left', Nat.reduceLT]
        rw [show nI k + 1 = nI (k + 1) from (nI_succ k).symm]
        refine ⟨fun q => fin0 (k + 1) (fun z => q (z.2 k (by omega))), fun q => ih (k + 1) (by omega) (fun i hi => ?_)⟩
        by_cases e : i = k
        · subst e; exact q
        · exact hp i (by omega)
    exact key n 0 (by omega) (fun i hi => absurd hi (by omega))
  unfold wq_Model_isOnes wq_Model_isOnes_0
  simp only [hs, rk, rI0, ha, he, nI_add, true_and]
  refine ⟨fun q => loop0 (fun z => ?_), fun q => loop1 ?_⟩
  · have := (nI_ltI (by omega) (by omega)).mp q
    have := z.1
    omega
  · have : ¬ e < a + n := fun z => q (nI_lt z (by omega))
    omega
/-- why the file of fid f may not be removed: 3, 5, or 0 -/
theorem rq_whyNot {ge : Nat → Nat} {am : Nat} {h : mm_M} (hM : RM am h) (σ : rS) {f p : Nat} (hf : f < 24) (hp : p < 60) (hpp : σ.2.2 O_fPath f = nI p) (Z : Int32 → mm_M → Prop)
    (h3 : (¬ σ.2.2 O_fTree f = 0 ∨ p = 0) → Z 3 (r_em am σ h)) (h5 : σ.2.2 O_fTree f = 0 → ¬ p = 0 → ¬ 0 ≤ σ.2.2 O_mode p → ¬ r_cnt σ 0 (nI p) 60 = 0 → Z 5 (r_em am σ h))
    (h0 : σ.2.2 O_fTree f = 0 → ¬ p = 0 → (0 ≤ σ.2.2 O_mode p ∨ r_cnt σ 0 (nI p) 60 = 0) → Z 0 (r_em am σ h)) : wq_Model_whyNot ge am (nI f) (r_em am σ h) Z := by
  have hs := hM
  unfold RM at hs
  have hin : vp_in (nI f) 24 := vp_in_nI hf (by decide)
  have hcl : (nI f).toNatClampNeg = f := nI_clamp (by omega)
  have hp0 : (nI p = 0) ↔ p = 0 := by
    show nI p = nI 0 ↔ _
    exact nI_eq (by omega) (by decide)
  have hle := r_cnt_le σ 0 (nI p) 60
  unfold wq_Model_whyNot wq_Model_whyNot_0 wq_Model_whyNot_18 wq_Model_whyNot_55 wq_Model_whyNot_56 wq_Model_spot wq_Model_spot_0
  simp only [hs, rk, rn, rP, rI, r_z60, hpp, hin, hcl, true_and, Option.some.injEq, exists_eq_left', Nat.reduceLT]
  refine ⟨fun q => h3 (Or.inl q), fun q => ⟨fun q2 => ?_, fun q2 => h3 (Or.inr (hp0.mp q2))⟩⟩
  have q2 : ¬ p = 0 := fun z => q2 (hp0.mpr z)
  refine rq_isDirectory hM σ (by omega) _ ?_
  by_cases hd : 0 ≤ σ.2.2 O_mode p
  · rw [if_pos hd]
    exact ⟨fun _ => h0 q q2 (Or.inl hd), fun z => absurd rfl z⟩
  · rw [if_neg hd]
    refine ⟨fun z => absurd z (by decide), fun _ => ?_⟩
    simp only [hs, rk, rn, rP, rI, hpp, hin, true_and, Option.some.injEq, exists_eq_left', Nat.reduceLT]
    refine rq_filesIn (t := 0) hM σ (by decide) _ _ ?_
    refine ⟨fun z => h0 q q2 (Or.inr ?_), fun z => h5 q q2 hd (fun w => z ?_)⟩
    · by_cases hc : r_cnt σ 0 (nI p) 60 = 0
      · exact hc
      · exact absurd z (nI_nle (by omega) (by omega))
    · rw [w]
      decide
