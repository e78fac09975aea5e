/-! the reference: qid, snap, crash, leaves, fid -/
theorem r_pb_o {σ : rS} {x : Int32} {o j : Nat} (h : ¬ o = O_answer) : (r_pb σ x).2.2 o j = σ.2.2 o j := by
  unfold r_pb
  rw [rfl_, raa, if_neg (fun z => h z.1)]
theorem r_pt_o (v : Int64) {o j : Nat} (h : ¬ o = O_answer) : ∀ (n i : Nat) (σ : rS), (r_pt v i n σ).2.2 o j = σ.2.2 o j
  | 0, _, _ => rfl
  | n + 1, i, σ => by
    show (r_pt v (i + 1) n _).2.2 o j = _
    rw [r_pt_o v h n (i + 1), r_pb_o h]
theorem r_pb_f {σ : rS} {x : Int32} {k : Nat} (h : ¬ k = F_answerSize) : (r_pb σ x).1 k = σ.1 k := by
  unfold r_pb
  rw [rf1, if_neg h]
  rfl
theorem r_pt_f (v : Int64) {k : Nat} (h : ¬ k = F_answerSize) : ∀ (n i : Nat) (σ : rS), (r_pt v i n σ).1 k = σ.1 k
  | 0, _, _ => rfl
  | n + 1, i, σ => by
    show (r_pt v (i + 1) n _).1 k = _
    rw [r_pt_f v h n (i + 1), r_pb_f h]
/-- the QID of path p of tree t -/
def r_qd (σ : rS) (t p : Nat) : rS := r_pt (nI p).toInt64 0 8 (r_pt (σ.2.2 O_version (60 * t + p)).toInt64 0 4 (r_pt (if 0 ≤ σ.2.2 O_mode (60 * t + p) then 0 else 128) 0 1 σ))
theorem rq_qid {ge : Nat → Nat} {am : Nat} {h : mm_M} (hM : RM am h) (hg : ge 0 ≤ am) (σ : rS) {t p s : Nat} (ht : t < 28) (hp : p < 60) (hs0 : σ.1 F_answerSize = nI s) (hs2 : s + 13 ≤ 1500) (Z : mm_M → Prop)
    (hZ : Z (r_em am (r_qd σ t p) h)) : wq_Model_qid ge am (nI t) (nI p) (r_em am σ h) Z := by
  have hs := hM
  unfold RM at hs
  have hin : vp_in (nI (60 * t + p)) 1680 := vp_in_nI (by omega) (by decide)
  have hcl : (nI (60 * t + p)).toNatClampNeg = 60 * t + p := nI_clamp (by omega)
  unfold wq_Model_qid wq_Model_qid_0 wq_Model_spot wq_Model_spot_0
  simp only [hs, rk, r_sp, true_and]
  refine rq_isDirectory hM σ (by omega) _ ?_
  have fin : ∀ v : Int64, v = (if 0 ≤ σ.2.2 O_mode (60 * t + p) then 0 else 128) → wq_Model_qid_22 ge am (nI p) (nI (60 * t + p)) (some am) v (r_em am σ h) Z := by
    intro v hv
    unfold wq_Model_qid_22
    simp only [hs, rk, true_and, Option.some.injEq, exists_eq_left']
    refine rq_put (n := 1) hM hg σ hs0 (by omega) v _ ?_
    simp only [hs, rk, rn, rP, rI, hin, hcl, true_and, Option.some.injEq, exists_eq_left', Nat.reduceLT]
    refine rq_put (n := 4) hM hg _ (r_pt_t v 1 0 σ s hs0) (by omega) _ _ ?_
    simp only [hs, rk, true_and]
    refine rq_put (n := 8) hM hg _ (r_pt_t _ 4 0 _ _ (r_pt_t v 1 0 σ s hs0)) (by omega) _ _ ?_
    rw [r_pt_o v (by decide), hv]
    exact hZ
  by_cases hd : 0 ≤ σ.2.2 O_mode (60 * t + p)
  · rw [if_pos hd]
    exact ⟨fun _ => fin 0 (by rw [if_pos hd]), fun q => absurd rfl q⟩
  · rw [if_neg hd]
    exact ⟨fun q => absurd q (by decide), fun _ => fin 128 (by rw [if_neg hd])⟩
theorem r_c0_1 (σ : rS) (a b : Nat) : (r_c0 σ a b).1 = σ.1 := by
  unfold r_c0
  split
  · rfl
  · rw [r_ln_1, r_ln_1]
    rfl
theorem r_cp_1 (f g : Nat) : ∀ (m p : Nat) (σ : rS), (r_cp f g p m σ).1 = σ.1
  | 0, _, _ => rfl
  | m + 1, p, σ => by
    show (r_cp f g (p + 1) m _).1 = _
    rw [r_cp_1 f g m (p + 1), r_c0_1]
theorem rq_snap {ge : Nat → Nat} {am : Nat} {h : mm_M} (hM : RM am h) (hg : ge 0 ≤ am) (σ : rS) {n : Nat} (hn : σ.1 F_snapshots = nI n) (hn6 : n ≤ 6) (hok : r_okT σ 0) (Z : Int32 → mm_M → Prop)
    (h1 : n < 6 → Z (nI n) (r_em am (r_cp 0 (n + 1) 0 60 (r_f σ F_snapshots (nI (n + 1)))) h)) (h2 : n = 6 → Z (-1) (r_em am σ h)) : wq_Model_snap ge am (r_em am σ h) Z := by
  have hs := hM
  unfold RM at hs
  unfold wq_Model_snap wq_Model_snap_0
  have es : nI n + 1 = nI (n + 1) := (nI_succ n).symm
  have e6 : (nI n = 6) ↔ n = 6 := by
    show nI n = nI 6 ↔ _
    exact nI_eq (by omega) (by decide)
  simp only [hs, rk, rI0, rU0, hn, hg, es, true_and, forall_eq]
  refine ⟨fun q => ?_, fun q => h2 (e6.mp q)⟩
  have hlt : n < 6 := by
    have : ¬ n = 6 := fun z => q (e6.mpr z)
    omega
  have e1 : (r_f σ F_snapshots (nI (n + 1))).1 F_snapshots = nI (n + 1) := by rw [rf1, if_pos rfl]
  rw [e1]
  refine rq_copy (f := 0) (g := n + 1) hM hg (r_f σ F_snapshots (nI (n + 1))) (by decide) (by omega) (by omega) (show r_okT (r_f σ F_snapshots (nI (n + 1))) 0 from hok) _ ?_
  simp only [hs, rk, rI0, true_and, r_cp_1]
  rw [e1, nI_pred]
  exact h1 hlt
/-- the state behind a crash -/
def r_cr (σ : rS) : rS := r_f (r_f (r_f σ F_fids 0) F_msize 0) F_loose 0
theorem rq_crash {ge : Nat → Nat} {am : Nat} {h : mm_M} (hM : RM am h) (hg : ge 0 ≤ am) (σ : rS) {f l : Nat} (hf : σ.1 F_looseFirst = nI f) (hl : σ.1 F_loose = nI l) (hf2 : f < 20) (hl2 : l ≤ 20) (n : Int32) (hok : ∀ k : Nat, k < 20 → r_okT σ (7 + k)) (Z : Int32 → mm_M → Prop)
    (h0 : n = 0 → Z 1 (r_em am (r_cr σ) h)) (h1 : ∀ k : Nat, 0 < k → k ≤ l → n = nI k → Z 1 (r_em am (r_cr (r_cp (7 + (f + l - k) % 20) 0 0 60 σ)) h)) (h2 : (∀ k : Nat, k ≤ l → ¬ n = nI k) → Z (-1) (r_em am σ h)) : wq_Model_crash ge am n (r_em am σ h) Z := by
  have hs := hM
  unfold RM at hs
  have fin : ∀ τ : rS, Z 1 (r_em am (r_cr τ) h) → wq_Model_crash_40 ge am (r_em am τ h) Z := by
    intro τ hz
    unfold wq_Model_crash_40
    simp only [hs, rk, rU0, hg, true_and, forall_eq]
    exact hz
  unfold wq_Model_crash wq_Model_crash_0 wq_Model_crash_12
  refine ⟨fun q => h2 (fun k hk e => ?_), fun q => ?_⟩
  · rw [e] at q
    exact nI_pos (by omega) q
  obtain ⟨k, hk31, rfl⟩ := nI_of q
  simp only [hs, rk, rI0, hf, hl, true_and, nI_add]
  refine ⟨fun q2 => ⟨fun q3 => ?_, fun q3 => ?_⟩, fun q2 => h2 (fun j hj e => q2 ?_)⟩
  · have e : k = 0 := by
      by_cases e : k = 0
      · exact e
      · exact absurd q3 (nI_nle (by omega) hk31)
    subst e
    exact fin σ (h0 rfl)
  · have hkl : k ≤ l := (nI_leI hk31 (by omega)).mp q2
    have hk0 : 0 < k := by
      by_cases e : k = 0
      · subst e; exact absurd (by decide) q3
      · omega
    rw [pk_sub (by omega : k ≤ f + l)]
    rw [show nI (f + l - k) - nI (f + l - k) / 20 * 20 = nI ((f + l - k) % 20) from pk_rem (d := 20) (by omega) (by decide) (by decide)]
    rw [show (7 : Int32) + nI ((f + l - k) % 20) = nI (7 + (f + l - k) % 20) from nI_add 7 _]
    refine rq_copy (f := 7 + (f + l - k) % 20) (g := 0) hM hg σ (by omega) (by decide) (by omega) (hok _ (Nat.mod_lt _ (by decide))) _ ?_
    exact fin _ (h1 k hk0 hkl rfl)
  · rw [e]
    exact nI_le hj (by omega)
