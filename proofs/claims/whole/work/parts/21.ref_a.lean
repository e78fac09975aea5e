/-! the reference's small methods, over its state -/
theorem ge0 {ge : Nat → Nat} {am : Nat} (hg : ge 0 ≤ am) (o : Nat) : ge 0 ≤ am + o := Nat.le_trans hg (Nat.le_add_right _ _)
theorem rq_isIn (ge : Nat → Nat) (x n : Int32) (h : mm_M) (Z : Int32 → mm_M → Prop) (hZ : Z (if 0 ≤ x ∧ x < n then 1 else 0) h) : wq_Model_isIn ge x n h Z := by
  unfold wq_Model_isIn wq_Model_isIn_0 wq_Model_isIn_13 wq_Model_isIn_14
  refine ⟨fun h1 => ?_, fun h1 => ⟨fun h2 => ?_, fun h2 => ?_⟩⟩
  · rw [if_neg (fun q => Int32.not_lt.mpr q.1 h1)] at hZ
    exact ⟨Or.inl rfl, hZ⟩
  · rw [if_neg (fun q => Int32.not_lt.mpr h2 q.2)] at hZ
    exact ⟨Or.inl rfl, hZ⟩
  · rw [if_pos ⟨Int32.not_lt.mp h1, Int32.not_le.mp h2⟩] at hZ
    exact ⟨Or.inr rfl, hZ⟩
theorem rq_spot (ge : Nat → Nat) (x y : Int32) (h : mm_M) (Z : Int32 → mm_M → Prop) (hZ : Z (60 * x + y) h) : wq_Model_spot ge x y h Z := hZ
theorem rq_changed {ge : Nat → Nat} {am : Nat} {h : mm_M} (hM : RM am h) (hg : ge 0 ≤ am) (σ : rS) {p : Nat} (hp : p < 1680) (Z : mm_M → Prop)
    (hZ : Z (r_em am (r_a (r_a σ O_version p (σ.2.2 O_version p + 1)) O_mtime p (σ.1 F_time)) h)) : wq_Model_changed ge am (nI p) (r_em am σ h) Z := by
  have hs := hM
  unfold RM at hs
  have hin : vp_in (nI p) 1680 := vp_in_nI hp (by decide)
  have hcl : (nI p).toNatClampNeg = p := nI_clamp (by omega)
  unfold wq_Model_changed wq_Model_changed_0
  simp only [hs, rk, rn, rP, rI0, rI, rU, hin, hcl, ge0 hg, true_and, Option.some.injEq, exists_eq_left', forall_eq, Nat.reduceLT]
  exact hZ
theorem ra1 (σ : rS) (o k : Nat) (x : Int32) : (r_a σ o k x).1 = σ.1 := rfl
theorem ral (σ : rS) (o k : Nat) (x : Int32) : (r_a σ o k x).2.1 = σ.2.1 := rfl
theorem raa (σ : rS) (o k : Nat) (x : Int32) (b j : Nat) : (r_a σ o k x).2.2 b j = if b = o ∧ j = k then x else σ.2.2 b j := rfl
theorem rf1 (σ : rS) (k : Nat) (x : Int32) (j : Nat) : (r_f σ k x).1 j = if j = k then x else σ.1 j := rfl
theorem rfl_ (σ : rS) (k : Nat) (x : Int32) : (r_f σ k x).2 = σ.2 := rfl
theorem rl1 (σ : rS) (k : Nat) (x : Int64) : (r_l σ k x).1 = σ.1 := rfl
theorem rll (σ : rS) (k : Nat) (x : Int64) (j : Nat) : (r_l σ k x).2.1 j = if j = k then x else σ.2.1 j := rfl
theorem rla (σ : rS) (k : Nat) (x : Int64) : (r_l σ k x).2.2 = σ.2.2 := rfl
theorem rq_isDirectory {ge : Nat → Nat} {am : Nat} {h : mm_M} (hM : RM am h) (σ : rS) {p : Nat} (hp : p < 1680) (Z : Int32 → mm_M → Prop)
    (hZ : Z (if 0 ≤ σ.2.2 O_mode p then 0 else 1) (r_em am σ h)) : wq_Model_isDirectory ge am (nI p) (r_em am σ h) Z := by
  have hs := hM
  unfold RM at hs
  have hin : vp_in (nI p) 1680 := vp_in_nI hp (by decide)
  have hcl : (nI p).toNatClampNeg = p := nI_clamp (by omega)
  unfold wq_Model_isDirectory wq_Model_isDirectory_0 wq_Model_isDirectory_14
  simp only [hs, rk, rn, rP, rI0, rI, hin, hcl, true_and, Option.some.injEq, exists_eq_left', forall_eq, Nat.reduceLT]
  refine ⟨fun q => ⟨Or.inl trivial, ?_⟩, fun q => ⟨Or.inr trivial, ?_⟩⟩
  · rw [if_pos q] at hZ; exact hZ
  · rw [if_neg q] at hZ; exact hZ
/-- a byte comes onto the tape -/
def r_by (σ : rS) (x : Int32) : rS := r_f (r_a σ O_tape (σ.1 F_tapeSize).toNatClampNeg x) F_tapeSize (σ.1 F_tapeSize + 1)
def r_by4 (σ : rS) (v : Int32) : rS := r_by (r_by (r_by (r_by σ (v >>> ((24 : Int32) &&& 31) &&& 255)) (v >>> ((16 : Int32) &&& 31) &&& 255)) (v >>> ((8 : Int32) &&& 31) &&& 255)) (v >>> ((0 : Int32) &&& 31) &&& 255)
theorem r_by_t {σ : rS} {t : Nat} (x : Int32) (ht : σ.1 F_tapeSize = nI t) : (r_by σ x).1 F_tapeSize = nI (t + 1) := by
  unfold r_by
  rw [rf1, if_pos rfl, ht, nI_succ]
theorem rq_feeds {ge : Nat → Nat} {am : Nat} {h : mm_M} (hM : RM am h) (hg : ge 0 ≤ am) (σ : rS) {t : Nat} (ht : σ.1 F_tapeSize = nI t) (h4 : t + 4 ≤ 1400) (v : Int32) (Z : mm_M → Prop)
    (hZ : Z (r_em am (r_by4 σ v) h)) : wq_Model_feeds ge am v (r_em am σ h) Z := by
  have hs := hM
  unfold RM at hs
  unfold wq_Model_feeds wq_Model_feeds_0 lp_Model_feeds_3
  intro X hX
  have step : ∀ (τ : rS) (k : Int32) (u : Nat), τ.1 F_tapeSize = nI u → u < 1400 → ¬ k < 0 → X am v (k + (-8)) (r_em am (r_by τ (v >>> (k &&& 31) &&& 255)) h) → X am v k (r_em am τ h) := by
    intro τ k u hu hu2 hk hx
    refine hX _ _ _ _ ?_
    unfold wq_Model_feeds_3
    refine ⟨fun q => absurd q hk, fun _ => ?_⟩
    have hin : vp_in (τ.1 F_tapeSize) 1400 := by rw [hu]; exact vp_in_nI hu2 (by decide)
    simp only [hs, rk, rn, rP, rI0, rI, rU, rU0, ra1, hin, hg, ge0 hg, true_and, Option.some.injEq, exists_eq_left', forall_eq, Nat.reduceLT]
    exact hx
  have t1 := r_by_t (v >>> ((24 : Int32) &&& 31) &&& 255) ht
  have t2 := r_by_t (v >>> ((16 : Int32) &&& 31) &&& 255) t1
  have t3 := r_by_t (v >>> ((8 : Int32) &&& 31) &&& 255) t2
  refine step σ 24 t ht (by omega) (by decide) ?_
  refine step _ 16 (t + 1) t1 (by omega) (by decide) ?_
  refine step _ 8 (t + 1 + 1) t2 (by omega) (by decide) ?_
  refine step _ 0 (t + 1 + 1 + 1) t3 (by omega) (by decide) ?_
  refine hX _ _ _ _ ?_
  unfold wq_Model_feeds_3
  exact ⟨fun _ => hZ, fun q => absurd (by decide) q⟩
theorem r_by4_t {σ : rS} {t : Nat} (v : Int32) (ht : σ.1 F_tapeSize = nI t) : (r_by4 σ v).1 F_tapeSize = nI (t + 4) := r_by_t _ (r_by_t _ (r_by_t _ (r_by_t _ ht)))
theorem rq_feed {ge : Nat → Nat} {am : Nat} {h : mm_M} (hM : RM am h) (hg : ge 0 ≤ am) (σ : rS) {t : Nat} (ht : σ.1 F_tapeSize = nI t) (h4 : t ≤ 1400) (a b c d e : Int32) (Z : Int32 → mm_M → Prop)
    (h1 : t + 20 ≤ 1400 → Z (nI (t + 20)) (r_em am (r_by4 (r_by4 (r_by4 (r_by4 (r_by4 σ a) b) c) d) e) h)) (h2 : ¬ t + 20 ≤ 1400 → Z (-1) (r_em am σ h)) : wq_Model_feed ge am a b c d e (r_em am σ h) Z := by
  have hs := hM
  unfold RM at hs
  have e20 : (nI t + 20 ≤ 1400) ↔ t + 20 ≤ 1400 := by
    show nI t + nI 20 ≤ nI 1400 ↔ _
    rw [nI_add]
    exact nI_leI (by omega) (by decide)
  unfold wq_Model_feed wq_Model_feed_0
  simp only [hs, rk, rI0, ht, true_and]
  refine ⟨fun q => ?_, fun q => h2 (fun z => q (e20.mpr z))⟩
  have q := e20.mp q
  have t1 := r_by4_t a ht
  have t2 := r_by4_t b t1
  have t3 := r_by4_t c t2
  have t4 := r_by4_t d t3
  have t5 := r_by4_t e t4
  refine rq_feeds hM hg σ ht (by omega) a _ ?_
  simp only [hs, rk, true_and]
  refine rq_feeds hM hg _ t1 (by omega) b _ ?_
  simp only [hs, rk, true_and]
  refine rq_feeds hM hg _ t2 (by omega) c _ ?_
  simp only [hs, rk, true_and]
  refine rq_feeds hM hg _ t3 (by omega) d _ ?_
  simp only [hs, rk, true_and]
  refine rq_feeds hM hg _ t4 (by omega) e _ ?_
  simp only [hs, rk, rI0, t5, true_and]
  exact h1 q
theorem rq_answer {ge : Nat → Nat} {am : Nat} {h : mm_M} (hM : RM am h) (σ : rS) {t : Nat} (ht : σ.1 F_answerSize = nI t) (h4 : t ≤ 1500) (i : Int32) (Z : Int32 → mm_M → Prop)
    (h1 : ∀ j : Nat, j < t → i = nI j → Z (σ.2.2 O_answer j) (r_em am σ h)) (h2 : (∀ j : Nat, j < t → ¬ i = nI j) → Z (-1) (r_em am σ h)) : wq_Model_answer ge am i (r_em am σ h) Z := by
  have hs := hM
  unfold RM at hs
  unfold wq_Model_answer wq_Model_answer_0 wq_Model_answer_21
  simp only [hs, rk, rI0, true_and]
  refine rq_isIn _ _ _ _ _ ?_
  by_cases hj : ∃ j : Nat, j < t ∧ i = nI j
  · obtain ⟨j, hj, rfl⟩ := hj
    have hc : (0 : Int32) ≤ nI j ∧ nI j < σ.1 F_answerSize := ⟨nI_pos' (by omega), by rw [ht]; exact nI_lt hj (by omega)⟩
    have hin : vp_in (nI j) 1500 := vp_in_nI (by omega) (by decide)
    have hcl : (nI j).toNatClampNeg = j := nI_clamp (by omega)
    rw [if_pos hc]
    refine ⟨fun q => absurd q (by decide), fun _ => ?_⟩
    simp only [hs, rk, rn, rP, rI, hin, hcl, true_and, Option.some.injEq, exists_eq_left', Nat.reduceLT]
    exact h1 j hj rfl
  · have hn : ∀ j : Nat, j < t → ¬ i = nI j := fun j hjt e => hj ⟨j, hjt, e⟩
    have hc : ¬ ((0 : Int32) ≤ i ∧ i < σ.1 F_answerSize) := by
      rintro ⟨q1, q2⟩
      obtain ⟨j, hj2, rfl⟩ := nI_of (Int32.not_lt.mpr q1)
      rw [ht] at q2
      exact hn j ((nI_ltI hj2 (by omega)).mp q2) rfl
    rw [if_neg hc]
    exact ⟨fun _ => h2 hn, fun q => absurd rfl q⟩
theorem rq_bend {ge : Nat → Nat} {am : Nat} {h : mm_M} (hM : RM am h) (hg : ge 0 ≤ am) (σ : rS) {t : Nat} (ht : σ.1 F_tapeSize = nI t) (h4 : t ≤ 1400) (i v : Int32) (Z : Int32 → mm_M → Prop)
    (h1 : ∀ j : Nat, j < t → i = nI j → Z (σ.2.2 O_tape j) (r_em am (r_a σ O_tape j (v &&& 255)) h)) (h2 : (∀ j : Nat, j < t → ¬ i = nI j) → Z (-1) (r_em am σ h)) : wq_Model_bend ge am i v (r_em am σ h) Z := by
  have hs := hM
  unfold RM at hs
  unfold wq_Model_bend wq_Model_bend_0
  simp only [hs, rk, rI0, true_and]
  refine rq_isIn _ _ _ _ _ ?_
  by_cases hj : ∃ j : Nat, j < t ∧ i = nI j
  · obtain ⟨j, hj, rfl⟩ := hj
    have hc : (0 : Int32) ≤ nI j ∧ nI j < σ.1 F_tapeSize := ⟨nI_pos' (by omega), by rw [ht]; exact nI_lt hj (by omega)⟩
    have hin : vp_in (nI j) 1400 := vp_in_nI (by omega) (by decide)
    have hcl : (nI j).toNatClampNeg = j := nI_clamp (by omega)
    rw [if_pos hc]
    refine ⟨fun _ => ?_, fun q => absurd q (by decide)⟩
    simp only [hs, rk, rn, rP, rI, rU, hin, hcl, ge0 hg, true_and, Option.some.injEq, exists_eq_left', forall_eq, Nat.reduceLT]
    exact h1 j hj rfl
  · have hn : ∀ j : Nat, j < t → ¬ i = nI j := fun j hjt e => hj ⟨j, hjt, e⟩
    have hc : ¬ ((0 : Int32) ≤ i ∧ i < σ.1 F_tapeSize) := by
      rintro ⟨q1, q2⟩
      obtain ⟨j, hj2, rfl⟩ := nI_of (Int32.not_lt.mpr q1)
      rw [ht] at q2
      exact hn j ((nI_ltI hj2 (by omega)).mp q2) rfl
    rw [if_neg hc]
    exact ⟨fun q => absurd rfl q, fun _ => h2 hn⟩
/-- the place of a fid: the first of the n that bear the number -/
theorem rq_fidOf {ge : Nat → Nat} {am : Nat} {h : mm_M} (hM : RM am h) (σ : rS) {n : Nat} (hn : σ.1 F_fids = nI n) (h24 : n ≤ 24) (x : Int32) (Z : Int32 → mm_M → Prop)
    (h1 : ∀ j : Nat, j < n → σ.2.2 O_fNumber j = x → (∀ i : Nat, i < j → ¬ σ.2.2 O_fNumber i = x) → Z (nI j) (r_em am σ h)) (h2 : (∀ j : Nat, j < n → ¬ σ.2.2 O_fNumber j = x) → Z (-1) (r_em am σ h)) : wq_Model_fidOf ge am x (r_em am σ h) Z := by
  have hs := hM
  unfold RM at hs
  unfold wq_Model_fidOf wq_Model_fidOf_0 lp_Model_fidOf_2
  intro X hX
  have key : ∀ (m j : Nat), n - j = m → j ≤ n → (∀ i : Nat, i < j → ¬ σ.2.2 O_fNumber i = x) → X am x (nI j) (r_em am σ h) := by
    intro m
    induction m with
    | zero =>
      intro j hm hj hp
      refine hX _ _ _ _ ?_
      unfold wq_Model_fidOf_2
      have e : j = n := by omega
      subst e
      simp only [hs, rk, rI0, hn, true_and]
      exact ⟨fun _ => h2 hp, fun q => absurd (nI_le (Nat.le_refl _) (by omega)) q⟩
    | succ m ih =>
      intro j hm hj hp
      refine hX _ _ _ _ ?_
      unfold wq_Model_fidOf_2
      have hin : vp_in (nI j) 24 := vp_in_nI (by omega) (by decide)
      have hcl : (nI j).toNatClampNeg = j := nI_clamp (by omega)
      simp only [hs, rk, rn, rP, rI0, rI, hn, hin, hcl, true_and, Option.some.injEq, exists_eq_left', Nat.reduceLT]
      refine ⟨fun q => absurd q (nI_ge (by omega) (by omega)), fun _ => ⟨fun q => ?_, fun q => h1 j (by omega) q hp⟩⟩
      rw [← nI_succ]
      refine ih (j + 1) (by omega) (by omega) (fun i hi => ?_)
      by_cases e : i = j
      · subst e; exact q
      · exact hp i (by omega)
  exact key n 0 (by omega) (by omega) (fun i hi => absurd hi (by omega))
