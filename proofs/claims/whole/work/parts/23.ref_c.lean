/-! the reference: text, isOddMode, place, isLost -/
/-- what number(n) leaves at place a of e bytes -/
def r_nr (σ : rS) (a e n : Nat) : Int64 := if a + n ≤ e then r_nm σ a n 0 else 0
def r_ns (σ : rS) (a e n : Nat) : rS := if a + n ≤ e then r_f σ F_at (nI (a + n)) else r_f σ F_good 0
theorem rq_number' {ge : Nat → Nat} {am : Nat} {h : mm_M} (hM : RM am h) (hg : ge 0 ≤ am) (σ : rS) {a e n : Nat} (ha : σ.1 F_at = nI a) (he : σ.1 F_end = nI e) (ha2 : a ≤ 70000) (he2 : e ≤ 1400) (hn : 0 < n) (hn2 : n ≤ 8) (Z : Int64 → mm_M → Prop)
    (h1 : Z (r_nr σ a e n) (r_em am (r_ns σ a e n) h)) : wq_Model_number ge am (nI n) (r_em am σ h) Z := by
  unfold r_nr r_ns at h1
  refine rq_number hM hg σ ha he ha2 he2 hn hn2 Z (fun q => ?_) (fun q => ?_)
  · rw [if_pos q, if_pos q] at h1; exact h1
  · rw [if_neg q, if_neg q] at h1; exact h1
/-- text(): its length and place, and where the reading stands behind it -/
def r_tx (σ : rS) (a e : Nat) : rS :=
  let σ1 := r_f (r_ns σ a e 2) F_textSize (Int64.toInt32 (r_nr σ a e 2))
  let σ2 := r_f σ1 F_textAt (σ1.1 F_at)
  let σ3 := if σ2.1 F_textSize ≤ σ2.1 F_end - σ2.1 F_at then σ2 else r_f σ2 F_good 0
  r_f σ3 F_at (σ3.1 F_at + (if σ3.1 F_good = 0 then 0 else σ3.1 F_textSize))
theorem rq_text39 {ge : Nat → Nat} {am : Nat} {h : mm_M} (hM : RM am h) (hg : ge 0 ≤ am) (σ : rS) (Z : mm_M → Prop)
    (hZ : Z (r_em am (r_f σ F_at (σ.1 F_at + (if σ.1 F_good = 0 then 0 else σ.1 F_textSize))) h)) : wq_Model_text_39 ge am (r_em am σ h) Z := by
  have hs := hM
  unfold RM at hs
  unfold wq_Model_text_39 wq_Model_text_59
  simp only [hs, rk, rI0, rU0, hg, true_and, Option.some.injEq, exists_eq_left', forall_eq]
  refine ⟨fun q => ?_, fun q => ?_⟩
  · rw [if_pos q] at hZ; exact hZ
  · rw [if_neg q] at hZ; exact hZ
theorem rq_text {ge : Nat → Nat} {am : Nat} {h : mm_M} (hM : RM am h) (hg : ge 0 ≤ am) (σ : rS) {a e : Nat} (ha : σ.1 F_at = nI a) (he : σ.1 F_end = nI e) (ha2 : a ≤ 70000) (he2 : e ≤ 1400) (Z : mm_M → Prop)
    (hZ : Z (r_em am (r_tx σ a e) h)) : wq_Model_text ge am (r_em am σ h) Z := by
  have hs := hM
  unfold RM at hs
  unfold wq_Model_text wq_Model_text_0
  simp only [hs, rk, true_and]
  refine rq_number' (n := 2) hM hg σ ha he ha2 he2 (by decide) (by decide) _ ?_
  simp only [hs, rk, rI0, rU0, hg, true_and, forall_eq]
  unfold r_tx at hZ
  dsimp only at hZ
  refine ⟨fun q => ?_, fun q => ?_⟩
  · refine rq_text39 hM hg _ _ ?_
    rw [if_pos q] at hZ
    exact hZ
  · refine rq_text39 hM hg _ _ ?_
    rw [if_neg q] at hZ
    exact hZ
theorem rq_isOddMode {ge : Nat → Nat} {am : Nat} {h : mm_M} (hM : RM am h) (σ : rS) (Z : Int32 → mm_M → Prop)
    (hZ : Z (if σ.1 F_mMode &&& (-84) = 0 ∧ ¬ σ.1 F_mMode &&& 3 = 3 then 0 else 1) (r_em am σ h)) : wq_Model_isOddMode ge am (r_em am σ h) Z := by
  have hs := hM
  unfold RM at hs
  unfold wq_Model_isOddMode wq_Model_isOddMode_0 wq_Model_isOddMode_20 wq_Model_isOddMode_25
  simp only [hs, rk, rI0, true_and]
  refine ⟨fun q => ⟨Or.inr trivial, ?_⟩, fun q => ⟨fun q2 => ⟨Or.inl trivial, ?_⟩, fun q2 => ⟨Or.inr trivial, ?_⟩⟩⟩
  · rw [if_neg (fun z => q z.1)] at hZ; exact hZ
  · rw [if_pos ⟨q, q2⟩] at hZ; exact hZ
  · rw [if_neg (fun z => z.2 q2)] at hZ; exact hZ
/-- a fid's row -/
def r_pl (σ : rS) (f : Nat) (number tree path : Int32) : rS := r_a (r_a (r_a (r_a (r_a (r_a σ O_fNumber f number) O_fTree f tree) O_fPath f path) O_fMode f (-1)) O_fTold f 0) O_fLast f (-1)
theorem rq_place {ge : Nat → Nat} {am : Nat} {h : mm_M} (hM : RM am h) (hg : ge 0 ≤ am) (σ : rS) {f : Nat} (hf : f < 24) (number tree path : Int32) (Z : mm_M → Prop)
    (hZ : Z (r_em am (r_pl σ f number tree path) h)) : wq_Model_place ge am (nI f) number tree path (r_em am σ h) Z := by
  have hs := hM
  unfold RM at hs
  have hin : vp_in (nI f) 24 := vp_in_nI hf (by decide)
  have hcl : (nI f).toNatClampNeg = f := nI_clamp (by omega)
  unfold wq_Model_place wq_Model_place_0
  simp only [hs, rk, rn, rP, rI0, rI, rU, hin, hcl, ge0 hg, true_and, Option.some.injEq, exists_eq_left', forall_eq, Nat.reduceLT]
  exact hZ
theorem rq_isLost {ge : Nat → Nat} {am : Nat} {h : mm_M} (hM : RM am h) (σ : rS) {f p : Nat} (hf : f < 24) (hp : p < 60) (hpp : σ.2.2 O_fPath f = nI p) (Z : Int32 → mm_M → Prop)
    (hZ : Z (if σ.2.2 O_fTree f = 0 ∧ σ.2.2 O_is p = 0 then 1 else 0) (r_em am σ h)) : wq_Model_isLost ge am (nI f) (r_em am σ h) Z := by
  have hs := hM
  unfold RM at hs
  have hin : vp_in (nI f) 24 := vp_in_nI hf (by decide)
  have hcl : (nI f).toNatClampNeg = f := nI_clamp (by omega)
  have hin2 : vp_in ((60 : Int32) * 0 + nI p) 1680 := by rw [show (60 : Int32) * 0 + nI p = nI p by rw [show (60 : Int32) * 0 = 0 by decide, Int32.zero_add]]; exact vp_in_nI (by omega) (by decide)
  have hcl2 : ((60 : Int32) * 0 + nI p).toNatClampNeg = p := by rw [show (60 : Int32) * 0 + nI p = nI p by rw [show (60 : Int32) * 0 = 0 by decide, Int32.zero_add]]; exact nI_clamp (by omega)
  unfold wq_Model_isLost wq_Model_isLost_0 wq_Model_isLost_31 wq_Model_isLost_32 wq_Model_spot wq_Model_spot_0
  simp only [hs, rk, rn, rP, rI0, rI, hpp, hin, hcl, hin2, hcl2, true_and, Option.some.injEq, exists_eq_left', forall_eq, Nat.reduceLT]
  refine ⟨fun q => ⟨Or.inl trivial, ?_⟩, fun q => ⟨fun q2 => ⟨Or.inl trivial, ?_⟩, fun q2 => ⟨Or.inr trivial, ?_⟩⟩⟩
  · rw [if_neg (fun z => q z.1)] at hZ; exact hZ
  · rw [if_neg (fun z => q2 z.2)] at hZ; exact hZ
  · rw [if_pos ⟨q, q2⟩] at hZ; exact hZ
