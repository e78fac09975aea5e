/-! the reference: put, number, text, fails -/
/-- a byte comes to the answer -/
def r_pb (σ : rS) (x : Int32) : rS := r_f (r_a σ O_answer (σ.1 F_answerSize).toNatClampNeg x) F_answerSize (σ.1 F_answerSize + 1)
def r_b8 (v : Int64) (i : Nat) : Int32 := Int64.toInt32 ((v >>> (((8 : Int32) * nI i).toInt64 &&& 63)) &&& (255 : Int64))
/-- the bytes i .. i + n - 1 of v come to the answer -/
def r_pt (v : Int64) : Nat → Nat → rS → rS
  | _, 0, σ => σ
  | i, n + 1, σ => r_pt v (i + 1) n (r_pb σ (r_b8 v i))
theorem r_pb_t {σ : rS} {t : Nat} (x : Int32) (ht : σ.1 F_answerSize = nI t) : (r_pb σ x).1 F_answerSize = nI (t + 1) := by
  unfold r_pb
  rw [rf1, if_pos rfl, ht, nI_succ]
theorem rq_put {ge : Nat → Nat} {am : Nat} {h : mm_M} (hM : RM am h) (hg : ge 0 ≤ am) (σ : rS) {t n : Nat} (ht : σ.1 F_answerSize = nI t) (hn : t + n ≤ 1500) (v : Int64) (Z : mm_M → Prop)
    (hZ : Z (r_em am (r_pt v 0 n σ) h)) : wq_Model_put ge am v (nI n) (r_em am σ h) Z := by
  have hs := hM
  unfold RM at hs
  unfold wq_Model_put wq_Model_put_0 lp_Model_put_3
  intro X hX
  have key : ∀ (m i : Nat) (τ : rS) (u : Nat), i + m = n → τ.1 F_answerSize = nI u → u + m ≤ 1500 → Z (r_em am (r_pt v i m τ) h) → X am v (nI n) (nI i) (r_em am τ h) := by
    intro m
    induction m with
    | zero =>
      intro i τ u hi hu hu2 hz
      refine hX _ _ _ _ _ ?_
      unfold wq_Model_put_3
      have e : i = n := by omega
      subst e
      exact ⟨fun _ => hz, fun q => absurd (nI_le (Nat.le_refl _) (by omega)) q⟩
    | succ m ih =>
      intro i τ u hi hu hu2 hz
      refine hX _ _ _ _ _ ?_
      unfold wq_Model_put_3
      refine ⟨fun q => absurd q (nI_ge (by omega) (by omega)), fun _ => ?_⟩
      have hin : vp_in (τ.1 F_answerSize) 1500 := by rw [hu]; exact vp_in_nI (by omega) (by decide)
      simp only [hs, rk, rn, rP, rI0, rI, rU, rU0, ra1, hin, hg, ge0 hg, true_and, Option.some.injEq, exists_eq_left', forall_eq, Nat.reduceLT]
      rw [← nI_succ]
      exact ih (i + 1) (r_pb τ (r_b8 v i)) (u + 1) (by omega) (r_pb_t _ hu) (by omega) hz
  exact key n 0 σ t (by omega) ht hn hZ
theorem r_pt_t (v : Int64) : ∀ (n i : Nat) (σ : rS) (t : Nat), σ.1 F_answerSize = nI t → (r_pt v i n σ).1 F_answerSize = nI (t + n)
  | 0, _, _, _, ht => ht
  | n + 1, i, σ, t, ht => by
    have := r_pt_t v n (i + 1) (r_pb σ (r_b8 v i)) (t + 1) (r_pb_t _ ht)
    rw [show t + (n + 1) = t + 1 + n by omega]
    exact this
/-- a number of the tape: its k lowest bytes from a on, below v -/
def r_nm (σ : rS) (a : Nat) : Nat → Int64 → Int64
  | 0, v => v
  | k + 1, v => r_nm σ a k ((v <<< ((8 : Int32).toInt64 &&& 63)) ||| Int32.toInt64 (σ.2.2 O_tape (a + k)))
theorem rq_number {ge : Nat → Nat} {am : Nat} {h : mm_M} (hM : RM am h) (hg : ge 0 ≤ am) (σ : rS) {a e n : Nat} (ha : σ.1 F_at = nI a) (he : σ.1 F_end = nI e) (ha2 : a ≤ 70000) (he2 : e ≤ 1400) (hn : 0 < n) (hn2 : n ≤ 8) (Z : Int64 → mm_M → Prop)
    (h1 : a + n ≤ e → Z (r_nm σ a n 0) (r_em am (r_f σ F_at (nI (a + n))) h)) (h2 : ¬ a + n ≤ e → Z 0 (r_em am (r_f σ F_good 0) h)) : wq_Model_number ge am (nI n) (r_em am σ h) Z := by
  have hs := hM
  unfold RM at hs
  unfold wq_Model_number wq_Model_number_0
  simp only [hs, rk, rI0, rU0, ha, he, hg, true_and, forall_eq, nI_add]
  refine ⟨fun q => ?_, fun q => h2 (fun z => q (nI_le z (by omega)))⟩
  have q : a + n ≤ e := (nI_leI (by omega) (by omega)).mp q
  unfold lp_Model_number_27
  intro X hX
  have key : ∀ (k : Nat) (v : Int64), k ≤ n → Z (r_nm σ a k v) (r_em am (r_f σ F_at (nI (a + n))) h) → X am (nI n) v (nI k - 1) (r_em am σ h) := by
    intro k
    induction k with
    | zero =>
      intro v hk hz
      refine hX _ _ _ _ _ ?_
      unfold wq_Model_number_27
      simp only [hs, rk, rI0, rU0, ha, hg, true_and, forall_eq, nI_add]
      exact ⟨fun _ => hz, fun q => absurd (by decide) q⟩
    | succ k ih =>
      intro v hk hz
      refine hX _ _ _ _ _ ?_
      unfold wq_Model_number_27
      rw [nI_pred]
      have hin : vp_in (nI (a + k)) 1400 := vp_in_nI (by omega) (by decide)
      have hcl : (nI (a + k)).toNatClampNeg = a + k := nI_clamp (by omega)
      refine ⟨fun q => absurd q (nI_pos (by omega)), fun _ => ?_⟩
      simp only [hs, rk, rn, rP, rI0, rI, ha, nI_add, hin, hcl, true_and, Option.some.injEq, exists_eq_left', Nat.reduceLT]
      rw [show nI k + (-1) = nI k - 1 from (Int32.sub_eq_add_neg (nI k) 1).symm]
      exact ih _ (by omega) hz
  exact key n 0 (Nat.le_refl _) (h1 q)
theorem rq_fails {ge : Nat → Nat} {am : Nat} {h : mm_M} (hM : RM am h) (hg : ge 0 ≤ am) (σ : rS) (no k : Int32) (hb : no = 0 ∨ no = 1) (Z : Int32 → mm_M → Prop)
    (hZ : Z no (if no = 0 then r_em am σ h else r_em am (r_f σ F_error k) h)) : wq_Model_fails ge am no k (r_em am σ h) Z := by
  have hs := hM
  unfold RM at hs
  rcases hb with rfl | rfl
  · rw [if_pos rfl] at hZ
    simp only [wq_Model_fails, wq_Model_fails_0, wq_Model_fails_9, hs, rk, rU0, hg, true_and, forall_eq]
    first | exact ⟨fun _ => ⟨Or.inl rfl, hZ⟩, fun q => absurd rfl q⟩ | exact ⟨fun q => absurd rfl q, fun _ => ⟨Or.inl rfl, hZ⟩⟩ | simpa using hZ
  · rw [if_neg (by decide)] at hZ
    simp only [wq_Model_fails, wq_Model_fails_0, wq_Model_fails_9, hs, rk, rU0, hg, true_and, forall_eq]
    first | exact ⟨fun q => absurd q (by decide), fun _ => ⟨Or.inr rfl, hZ⟩⟩ | exact ⟨fun _ => ⟨Or.inr rfl, hZ⟩, fun q => absurd q (by decide)⟩ | simpa using hZ
