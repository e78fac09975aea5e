/-! the reference: names, sizes, leaves, count -/
/-- m bytes of the tape, from a + k on, become the name of row x from k on -/
def r_nl (x a : Nat) : Nat → Nat → rS → rS
  | _, 0, σ => σ
  | k, m + 1, σ => r_nl x a (k + 1) m (r_a σ O_name (20 * x + k) (σ.2.2 O_tape (a + k)))
theorem rq_names {ge : Nat → Nat} {am : Nat} {h : mm_M} (hM : RM am h) (hg : ge 0 ≤ am) (σ : rS) {x a n : Nat} (hx : x < 1680) (hn : n ≤ 20) (ha : a + n ≤ 1400) (Z : mm_M → Prop)
    (hZ : Z (r_em am (r_nl x a 0 n (r_a σ O_nameSize x (nI n))) h)) : wq_Model_names ge am (nI x) (nI a) (nI n) (r_em am σ h) Z := by
  have hs := hM
  unfold RM at hs
  have hin : vp_in (nI x) 1680 := vp_in_nI hx (by decide)
  have hcl : (nI x).toNatClampNeg = x := nI_clamp (by omega)
  unfold wq_Model_names wq_Model_names_0
  simp only [hs, rk, rn, rP, rI, rU, hin, hcl, ge0 hg, true_and, Option.some.injEq, exists_eq_left', forall_eq, Nat.reduceLT]
  unfold lp_Model_names_10
  intro X hX
  have key : ∀ (m k : Nat) (τ : rS), k + m = n → Z (r_em am (r_nl x a k m τ) h) → X am (nI x) (nI a) (nI n) (nI k) (r_em am τ h) := by
    intro m
    induction m with
    | zero =>
      intro k τ hk hz
      have e : k = n := by omega
      subst e
      refine hX _ _ _ _ _ _ ?_
      unfold wq_Model_names_10
      exact ⟨fun _ => hz, fun q => absurd (nI_le (Nat.le_refl _) (by omega)) q⟩
    | succ m ih =>
      intro k τ hk hz
      refine hX _ _ _ _ _ _ ?_
      have w1 : vp_in (nI (20 * x + k)) 33600 := vp_in_nI (by omega) (by decide)
      have w2 : (nI (20 * x + k)).toNatClampNeg = 20 * x + k := nI_clamp (by omega)
      have w3 : vp_in (nI (a + k)) 1400 := vp_in_nI (by omega) (by decide)
      have w4 : (nI (a + k)).toNatClampNeg = a + k := nI_clamp (by omega)
      unfold wq_Model_names_10
      refine ⟨fun q => absurd q (nI_ge (by omega) (by omega)), fun _ => ?_⟩
      simp only [hs, rk, rn, rP, rI, rU, r_nmI, nI_add, w1, w2, w3, w4, ge0 hg, true_and, Option.some.injEq, exists_eq_left', forall_eq, Nat.reduceLT]
      rw [show nI k + 1 = nI (k + 1) from (nI_succ k).symm]
      exact ih (k + 1) _ (by omega) hz
  exact key n 0 _ (by omega) hZ
/-- m zeros into the data of row x from k on -/
def r_zf (x : Nat) : Nat → Nat → rS → rS
  | _, 0, σ => σ
  | k, m + 1, σ => r_zf x (k + 1) m (r_a σ O_data (512 * x + k) 0)
theorem rq_sizes {ge : Nat → Nat} {am : Nat} {h : mm_M} (hM : RM am h) (hg : ge 0 ≤ am) (σ : rS) {x d n : Nat} (hx : x < 1680) (hd : σ.2.2 O_size x = nI d) (hd2 : d ≤ 512) (hn : n ≤ 512) (Z : mm_M → Prop)
    (hZ : Z (r_em am (r_a (r_zf x d (n - d) σ) O_size x (nI n)) h)) : wq_Model_sizes ge am (nI x) (nI n) (r_em am σ h) Z := by
  have hs := hM
  unfold RM at hs
  have hin : vp_in (nI x) 1680 := vp_in_nI hx (by decide)
  have hcl : (nI x).toNatClampNeg = x := nI_clamp (by omega)
  unfold wq_Model_sizes wq_Model_sizes_0
  simp only [hs, rk, rn, rP, rI, hin, hcl, hd, true_and, Option.some.injEq, exists_eq_left', Nat.reduceLT]
  unfold lp_Model_sizes_7
  intro X hX
  have key : ∀ (m k : Nat) (τ : rS), n - k = m → k ≤ 512 → Z (r_em am (r_a (r_zf x k m τ) O_size x (nI n)) h) → X am (nI x) (nI n) (nI k) (r_em am τ h) := by
    intro m
    induction m with
    | zero =>
      intro k τ hk hk5 hz
      refine hX _ _ _ _ _ ?_
      unfold wq_Model_sizes_7
      refine ⟨fun _ => ?_, fun q => absurd (nI_le (by omega) (by omega)) q⟩
      simp only [hs, rk, rn, rP, rI, rU, hin, hcl, ge0 hg, true_and, Option.some.injEq, exists_eq_left', forall_eq, Nat.reduceLT]
      exact hz
    | succ m ih =>
      intro k τ hk hk5 hz
      refine hX _ _ _ _ _ ?_
      have w1 : vp_in (nI (512 * x + k)) 860160 := vp_in_nI (by omega) (by decide)
      have w2 : (nI (512 * x + k)).toNatClampNeg = 512 * x + k := nI_clamp (by omega)
      unfold wq_Model_sizes_7
      refine ⟨fun q => absurd q (nI_ge (by omega) (by omega)), fun _ => ?_⟩
      simp only [hs, rk, rn, rP, rI, rU, r_nmD, w1, w2, ge0 hg, true_and, Option.some.injEq, exists_eq_left', forall_eq, Nat.reduceLT]
      rw [show nI k + 1 = nI (k + 1) from (nI_succ k).symm]
      exact ih (k + 1) _ (by omega) (by omega) hz
  exact key (n - d) d σ rfl hd2 hZ
/-- the file of path p goes, its directory q is changed -/
def r_lv (σ : rS) (p q : Nat) : rS := r_a (r_a (r_a σ O_is p (vp_nar .boolean 0)) O_version q ((r_a σ O_is p (vp_nar .boolean 0)).2.2 O_version q + 1)) O_mtime q (σ.1 F_time)
theorem r_z60 (x : Int32) : (60 : Int32) * 0 + x = x := by rw [show (60 : Int32) * 0 = 0 by decide, Int32.zero_add]
theorem rq_leaves {ge : Nat → Nat} {am : Nat} {h : mm_M} (hM : RM am h) (hg : ge 0 ≤ am) (σ : rS) {p q : Nat} (hp : p < 60) (hq : q < 60) (hin0 : σ.2.2 O_in p = nI q) (Z : mm_M → Prop)
    (hZ : Z (r_em am (r_lv σ p q) h)) : wq_Model_leaves ge am (nI p) (r_em am σ h) Z := by
  have hs := hM
  unfold RM at hs
  have hin : vp_in (nI p) 1680 := vp_in_nI (by omega) (by decide)
  have hcl : (nI p).toNatClampNeg = p := nI_clamp (by omega)
  have e1 : (r_a σ O_is p (vp_nar .boolean 0)).2.2 O_in p = nI q := by rw [raa, if_neg (fun z => absurd z.1 (by decide))]; exact hin0
  unfold wq_Model_leaves wq_Model_leaves_0 wq_Model_spot wq_Model_spot_0
  simp only [hs, rk, rn, rP, rI, rU, r_z60, hin, hcl, ge0 hg, e1, true_and, Option.some.injEq, exists_eq_left', forall_eq, Nat.reduceLT]
  exact rq_changed hM hg _ (by omega) _ hZ
/-- how many of the live tree's paths below n are files -/
def r_liv (σ : rS) : Nat → Nat
  | 0 => 0
  | p + 1 => r_liv σ p + (if σ.2.2 O_is p = 0 then 0 else 1)
theorem rq_count1 {ge : Nat → Nat} {am : Nat} {h : mm_M} (hM : RM am h) (σ : rS) (Z : Int32 → mm_M → Prop)
    (hZ : Z (nI (r_liv σ 60)) (r_em am σ h)) : lp_Model_count_75 ge am 0 0 (r_em am σ h) Z := by
  have hs := hM
  unfold RM at hs
  unfold lp_Model_count_75
  intro X hX
  have key : ∀ (m p : Nat), p + m = 60 → X am (nI (r_liv σ p)) (nI p) (r_em am σ h) := by
    intro m
    induction m with
    | zero =>
      intro p hp
      have e : p = 60 := by omega
      subst e
      refine hX _ _ _ _ ?_
      unfold wq_Model_count_75
      exact ⟨fun _ => hZ, fun q => absurd (nI_le (Nat.le_refl 60) (by decide)) q⟩
    | succ m ih =>
      intro p hp
      refine hX _ _ _ _ ?_
      have hn := ih (p + 1) (by omega)
      have w1 : vp_in (nI p) 1680 := vp_in_nI (by omega) (by decide)
      have w2 : (nI p).toNatClampNeg = p := nI_clamp (by omega)
      have e0 : r_liv σ (p + 1) = r_liv σ p + (if σ.2.2 O_is p = 0 then 0 else 1) := rfl
      unfold wq_Model_count_75 wq_Model_count_96
      refine ⟨fun q => absurd q (nI_ge (b := 60) (by omega) (by decide)), fun _ => ?_⟩
      simp only [hs, rk, rn, rP, rI, w1, w2, true_and, Option.some.injEq, exists_eq_left', Nat.reduceLT]
      rw [show nI p + 1 = nI (p + 1) from (nI_succ p).symm]
      rw [e0] at hn
      refine ⟨fun q => ?_, fun q => ?_⟩
      · rw [if_pos q, Nat.add_zero] at hn
        rw [Int32.add_zero]
        exact hn
      · rw [if_neg q, nI_succ] at hn
        exact hn
  exact key 60 0 rfl
