/-! the reference's small methods, over its state -/
theorem ge0 {ge : Nat → Nat} {am : Nat} (hg : ge 0 ≤ am) (o : Nat) : ge 0 ≤ am + o := Nat.le_trans hg (Nat.le_add_right _ _)
theorem rq_isIn (ge : Nat → Nat) (x n : Int32) (h : mm_M) (Z : Int32 → mm_M → Prop) (hZ : Z (if 0 ≤ x ∧ x < n then 1 else 0) h) : wq_Model_isIn ge x n h Z := by
  unfold wq_Model_isIn wq_Model_isIn_0 wq_Model_isIn_13 wq_Model_isIn_14
  refine ⟨fun h1 => ?_, fun h1 => ⟨fun h2 => ?_, fun h2 => ?_⟩⟩
  · rw [if_neg (fun q => Int32.not_lt.mpr q.1 h1)] at hZ
    exact ⟨Or.inl rfl, hZ⟩
  · rw [if_neg (fun q => Int32.not_lt.mpr h2 q.2)] at hZ
    exact ⟨Or.inl rfl, hZ⟩
  · rw [if_pos ⟨Int32.not_lt.mp h1, Int32.not_le.mp h2⟩] at hZ
    exact ⟨Or.inr rfl, hZ⟩
theorem rq_spot (ge : Nat → Nat) (x y : Int32) (h : mm_M) (Z : Int32 → mm_M → Prop) (hZ : Z (60 * x + y) h) : wq_Model_spot ge x y h Z := hZ
theorem rq_changed {ge : Nat → Nat} {am : Nat} {h : mm_M} (hM : RM am h) (hg : ge 0 ≤ am) (σ : rS) {p : Nat} (hp : p < 1680) (Z : mm_M → Prop)
    (hZ : Z (r_em am (r_a (r_a σ O_version p (σ.2.2 O_version p + 1)) O_mtime p (σ.1 F_time)) h)) : wq_Model_changed ge am (nI p) (r_em am σ h) Z := by
  have hs := hM
  unfold RM at hs
  have hin : vp_in (nI p) 1680 := vp_in_nI hp (by decide)
  have hcl : (nI p).toNatClampNeg = p := nI_clamp (by omega)
  unfold wq_Model_changed wq_Model_changed_0
  simp only [hs, rk, rn, rP, rI0, rI, rU, hin, hcl, ge0 hg, true_and, Option.some.injEq, exists_eq_left', forall_eq, Nat.reduceLT]
  exact hZ
