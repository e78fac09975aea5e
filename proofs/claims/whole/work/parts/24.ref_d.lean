/-! the reference: filesIn, isText, child -/
theorem r_sp (t p : Nat) : (60 : Int32) * nI t + nI p = nI (60 * t + p) := by
  show nI 60 * nI t + nI p = _
  rw [pk_mul, nI_add]
theorem r_nmI (x k : Nat) : (20 : Int32) * nI x + nI k = nI (20 * x + k) := by
  show nI 20 * nI x + nI k = _
  rw [pk_mul, nI_add]
/-- how many of the paths 1 .. n - 1 are files of tree t in directory x -/
def r_cnt (σ : rS) (t : Nat) (x : Int32) : Nat → Nat
  | 0 => 0
  | p + 1 => r_cnt σ t x p + (if 1 ≤ p ∧ ¬ σ.2.2 O_is (60 * t + p) = 0 ∧ σ.2.2 O_in (60 * t + p) = x then 1 else 0)
theorem r_cnt_le (σ : rS) (t : Nat) (x : Int32) : ∀ n, r_cnt σ t x n ≤ n
  | 0 => Nat.le_refl _
  | n + 1 => by
    have := r_cnt_le σ t x n
    show r_cnt σ t x n + _ ≤ n + 1
    split <;> omega
theorem rq_filesIn {ge : Nat → Nat} {am : Nat} {h : mm_M} (hM : RM am h) (σ : rS) {t : Nat} (ht : t < 28) (x : Int32) (Z : Int32 → mm_M → Prop)
    (hZ : Z (nI (r_cnt σ t x 60)) (r_em am σ h)) : wq_Model_filesIn ge am (nI t) x (r_em am σ h) Z := by
  have hs := hM
  unfold RM at hs
  unfold wq_Model_filesIn wq_Model_filesIn_0 lp_Model_filesIn_5
  intro X hX
  have key : ∀ (m p : Nat), p + m = 60 → 1 ≤ p → X am (nI t) x (nI (r_cnt σ t x p)) (nI p) (r_em am σ h) := by
    intro m
    induction m with
    | zero =>
      intro p hp h1
      have e : p = 60 := by omega
      subst e
      refine hX _ _ _ _ _ _ ?_
      unfold wq_Model_filesIn_5
      exact ⟨fun _ => hZ, fun q => absurd (nI_le (Nat.le_refl 60) (by decide)) q⟩
    | succ m ih =>
      intro p hp h1
      refine hX _ _ _ _ _ _ ?_
      have hn := ih (p + 1) (by omega) (by omega)
      have hin : vp_in (nI (60 * t + p)) 1680 := vp_in_nI (by omega) (by decide)
      have hcl : (nI (60 * t + p)).toNatClampNeg = 60 * t + p := nI_clamp (by omega)
      unfold wq_Model_filesIn_5 wq_Model_filesIn_46 wq_Model_filesIn_47 wq_Model_spot wq_Model_spot_0
      refine ⟨fun q => absurd q (nI_ge (b := 60) (by omega) (by decide)), fun _ => ?_⟩
      simp only [hs, rk, rn, rP, rI0, rI, r_sp, hin, hcl, true_and, Option.some.injEq, exists_eq_left', Nat.reduceLT]
      have e0 : r_cnt σ t x (p + 1) = r_cnt σ t x p + (if 1 ≤ p ∧ ¬ σ.2.2 O_is (60 * t + p) = 0 ∧ σ.2.2 O_in (60 * t + p) = x then 1 else 0) := rfl
      have es : nI p + 1 = nI (p + 1) := (nI_succ p).symm
      rw [e0] at hn
      refine ⟨fun q => ?_, fun q => ⟨fun q2 => ?_, fun q2 => ?_⟩⟩
      · rw [if_neg (fun z => z.2.1 q), Nat.add_zero] at hn
        rw [es, Int32.add_zero]
        exact hn
      · rw [if_neg (fun z => q2 z.2.2), Nat.add_zero] at hn
        rw [es, Int32.add_zero]
        exact hn
      · rw [if_pos ⟨h1, q, q2⟩, nI_succ] at hn
        rw [es]
        exact hn
  have e1 : r_cnt σ t x 1 = 0 := by
    show 0 + _ = 0
    rw [if_neg (fun z => absurd z.1 (by decide))]
  have k1 := key 59 1 rfl (Nat.le_refl _)
  rw [e1] at k1
  exact k1
/-- the name at row x is the n bytes of the tape from a on -/
def r_tq (σ : rS) (x a n : Nat) : Prop := σ.2.2 O_nameSize x = nI n ∧ ∀ k : Nat, k < n → σ.2.2 O_name (20 * x + k) = σ.2.2 O_tape (a + k)
theorem rq_isText {ge : Nat → Nat} {am : Nat} {h : mm_M} (hM : RM am h) (σ : rS) {x a n : Nat} (hx : x < 1680) (hn : n < 2 ^ 20) (hl : σ.2.2 O_nameSize x = nI n → n ≤ 20) (ha : a + n ≤ 1400) (Z : Int32 → mm_M → Prop)
    (h1 : r_tq σ x a n → Z 1 (r_em am σ h)) (h0 : ¬ r_tq σ x a n → Z 0 (r_em am σ h)) : wq_Model_isText ge am (nI x) (nI a) (nI n) (r_em am σ h) Z := by
  have hs := hM
  unfold RM at hs
  have hin : vp_in (nI x) 1680 := vp_in_nI hx (by decide)
  have hcl : (nI x).toNatClampNeg = x := nI_clamp (by omega)
  unfold wq_Model_isText wq_Model_isText_0 wq_Model_isText_15
  simp only [hs, rk, rn, rP, rI, hin, hcl, true_and, Option.some.injEq, exists_eq_left', Nat.reduceLT]
  refine ⟨fun q => ?_, fun q => ?_⟩
  · unfold lp_Model_isText_20
    intro X hX
    have hf := h0 (fun z => q z.1)
    refine hX _ _ _ _ _ _ _ ?_
    unfold wq_Model_isText_20 wq_Model_isText_68
    exact ⟨fun _ => ⟨Or.inl rfl, hf⟩, fun _ => ⟨fun _ => ⟨Or.inl rfl, hf⟩, fun q2 => absurd rfl q2⟩⟩
  · have hn20 := hl q
    unfold lp_Model_isText_20
    intro X hX
    have fin0 : ∀ k : Nat, ¬ r_tq σ x a n → X am (nI x) (nI a) (nI n) 0 (nI k) (r_em am σ h) := by
      intro k hk
      have hf := h0 hk
      refine hX _ _ _ _ _ _ _ ?_
      unfold wq_Model_isText_20 wq_Model_isText_68
      exact ⟨fun _ => ⟨Or.inl rfl, hf⟩, fun _ => ⟨fun _ => ⟨Or.inl rfl, hf⟩, fun q2 => absurd rfl q2⟩⟩
    have key : ∀ (m k : Nat), k + m = n → (∀ i : Nat, i < k → σ.2.2 O_name (20 * x + i) = σ.2.2 O_tape (a + i)) → X am (nI x) (nI a) (nI n) 1 (nI k) (r_em am σ h) := by
      intro m
      induction m with
      | zero =>
        intro k hk hp
        have e : k = n := by omega
        subst e
        have hf := h1 ⟨q, hp⟩
        refine hX _ _ _ _ _ _ _ ?_
        unfold wq_Model_isText_20 wq_Model_isText_68
        exact ⟨fun _ => ⟨Or.inr rfl, hf⟩, fun q2 => absurd (nI_le (Nat.le_refl _) (by omega)) q2⟩
      | succ m ih =>
        intro k hk hp
        refine hX _ _ _ _ _ _ _ ?_
        have hin1 : vp_in (nI (20 * x + k)) 33600 := vp_in_nI (by omega) (by decide)
        have hcl1 : (nI (20 * x + k)).toNatClampNeg = 20 * x + k := nI_clamp (by omega)
        have hin2 : vp_in (nI (a + k)) 1400 := vp_in_nI (by omega) (by decide)
        have hcl2 : (nI (a + k)).toNatClampNeg = a + k := nI_clamp (by omega)
        unfold wq_Model_isText_20 wq_Model_isText_60
        refine ⟨fun z => absurd z (nI_ge (by omega) (by omega)), fun _ => ⟨fun z => absurd z (by decide), fun _ => ?_⟩⟩
        simp only [hs, rk, rn, rP, rI, r_nmI, nI_add, hin1, hcl1, hin2, hcl2, true_and, Option.some.injEq, exists_eq_left', Nat.reduceLT]
        rw [show nI k + 1 = nI (k + 1) from (nI_succ k).symm]
        refine ⟨fun q2 => fin0 (k + 1) (fun z => q2 (z.2 k (by omega))), fun q2 => ih (k + 1) (by omega) (fun i hi => ?_)⟩
        by_cases e : i = k
        · subst e; exact q2
        · exact hp i (by omega)
    exact key n 0 (by omega) (fun i hi => absurd hi (by omega))
/-- path p of tree t is a file in x whose name is the tape's n bytes from a on -/
def r_ch (σ : rS) (t : Nat) (x : Int32) (a n p : Nat) : Prop := ¬ σ.2.2 O_is (60 * t + p) = 0 ∧ σ.2.2 O_in (60 * t + p) = x ∧ r_tq σ (60 * t + p) a n
theorem rq_child {ge : Nat → Nat} {am : Nat} {h : mm_M} (hM : RM am h) (σ : rS) {t a n : Nat} (ht : t < 28) (x : Int32) (hn : n < 2 ^ 20) (hl : ∀ p : Nat, p < 60 → ¬ σ.2.2 O_is (60 * t + p) = 0 → σ.2.2 O_nameSize (60 * t + p) = nI n → n ≤ 20) (ha : a + n ≤ 1400) (Z : Int32 → mm_M → Prop)
    (h1 : ∀ p : Nat, 1 ≤ p → p < 60 → r_ch σ t x a n p → (∀ q : Nat, 1 ≤ q → q < p → ¬ r_ch σ t x a n q) → Z (nI p) (r_em am σ h)) (h0 : (∀ q : Nat, 1 ≤ q → q < 60 → ¬ r_ch σ t x a n q) → Z (-1) (r_em am σ h)) : wq_Model_child ge am (nI t) x (nI a) (nI n) (r_em am σ h) Z := by
  have hs := hM
  unfold RM at hs
  unfold wq_Model_child wq_Model_child_0 lp_Model_child_3
  intro X hX
  have key : ∀ (m p : Nat), p + m = 60 → 1 ≤ p → (∀ q : Nat, 1 ≤ q → q < p → ¬ r_ch σ t x a n q) → X am (nI t) x (nI a) (nI n) (nI p) (r_em am σ h) := by
    intro m
    induction m with
    | zero =>
      intro p hp hp1 hq
      have e : p = 60 := by omega
      subst e
      refine hX _ _ _ _ _ _ _ ?_
      unfold wq_Model_child_3
      exact ⟨fun _ => h0 hq, fun q => absurd (nI_le (Nat.le_refl 60) (by decide)) q⟩
    | succ m ih =>
      intro p hp hp1 hq
      refine hX _ _ _ _ _ _ _ ?_
      have nxt : ¬ r_ch σ t x a n p → X am (nI t) x (nI a) (nI n) (nI p + 1) (r_em am σ h) := by
        intro hno
        rw [show nI p + 1 = nI (p + 1) from (nI_succ p).symm]
        refine ih (p + 1) (by omega) (by omega) (fun q h1 h2 => ?_)
        by_cases e : q = p
        · subst e; exact hno
        · exact hq q h1 (by omega)
      have hin : vp_in (nI (60 * t + p)) 1680 := vp_in_nI (by omega) (by decide)
      have hcl : (nI (60 * t + p)).toNatClampNeg = 60 * t + p := nI_clamp (by omega)
      unfold wq_Model_child_3 wq_Model_child_58 wq_Model_spot wq_Model_spot_0
      refine ⟨fun q => absurd q (nI_ge (b := 60) (by omega) (by decide)), fun _ => ?_⟩
      simp only [hs, rk, rn, rP, rI0, rI, r_sp, hin, hcl, true_and, Option.some.injEq, exists_eq_left', Nat.reduceLT]
      refine ⟨fun q => nxt (fun z => z.1 q), fun q => ⟨fun q2 => nxt (fun z => q2 z.2.1), fun q2 => ?_⟩⟩
      refine rq_isText hM σ (by omega) hn (fun z => hl p (by omega) q z) ha _ (fun z => ?_) (fun z => ?_)
      · exact ⟨fun w => absurd w (by decide), fun _ => h1 p hp1 (by omega) ⟨q, q2, z⟩ hq⟩
      · exact ⟨fun _ => nxt (fun w => z w.2.2), fun w => absurd rfl w⟩
  exact key 59 1 rfl (Nat.le_refl _) (fun q h1 h2 => absurd h1 (by omega))
