/-! the reference: copy -/
def r_mv (σ : rS) (o a b : Nat) : rS := r_a σ o b (σ.2.2 o a)
/-- m cells of array o, from w * a + k on, come to w * b + k on -/
def r_ln (o w a b : Nat) : Nat → Nat → rS → rS
  | _, 0, σ => σ
  | k, m + 1, σ => r_ln o w a b (k + 1) m (r_mv σ o (w * a + k) (w * b + k))
theorem r_mv_o {σ : rS} {o a b o' j : Nat} (h : ¬ (o' = o ∧ j = b)) : (r_mv σ o a b).2.2 o' j = σ.2.2 o' j := by
  unfold r_mv
  rw [raa, if_neg h]
theorem r_ln_o (o w a b : Nat) {o' j : Nat} (h : ¬ o' = o) : ∀ (m k : Nat) (σ : rS), (r_ln o w a b k m σ).2.2 o' j = σ.2.2 o' j
  | 0, _, _ => rfl
  | m + 1, k, σ => by
    show (r_ln o w a b (k + 1) m _).2.2 o' j = _
    rw [r_ln_o o w a b h m (k + 1), r_mv_o (fun z => h z.1)]
theorem r_ln_1 (o w a b : Nat) : ∀ (m k : Nat) (σ : rS), (r_ln o w a b k m σ).1 = σ.1
  | 0, _, _ => rfl
  | m + 1, k, σ => by
    show (r_ln o w a b (k + 1) m _).1 = _
    rw [r_ln_1 o w a b m (k + 1)]
    rfl
/-- a row's small cells come to another row -/
def r_c7 (σ : rS) (a b : Nat) : rS := r_mv (r_mv (r_mv (r_mv (r_mv (r_mv (r_a σ O_is b (vp_nar .boolean (σ.2.2 O_is a))) O_in a b) O_mode a b) O_version a b) O_mtime a b) O_size a b) O_nameSize a b
/-- a row comes to another row -/
def r_c0 (σ : rS) (a b : Nat) : rS :=
  if σ.2.2 O_is a = 0 then r_a σ O_is b (vp_nar .boolean (σ.2.2 O_is a))
  else r_ln O_data 512 a b 0 (σ.2.2 O_size a).toNatClampNeg (r_ln O_name 20 a b 0 (σ.2.2 O_nameSize a).toNatClampNeg (r_c7 σ a b))
/-- m rows of tree f, from path p on, come to tree g -/
def r_cp (f g : Nat) : Nat → Nat → rS → rS
  | _, 0, σ => σ
  | p, m + 1, σ => r_cp f g (p + 1) m (r_c0 σ (60 * f + p) (60 * g + p))
theorem r_c7_o {σ : rS} {a b o j : Nat} (h : ¬ j = b) : (r_c7 σ a b).2.2 o j = σ.2.2 o j := by
  unfold r_c7
  rw [r_mv_o (fun z => h z.2), r_mv_o (fun z => h z.2), r_mv_o (fun z => h z.2), r_mv_o (fun z => h z.2), r_mv_o (fun z => h z.2), r_mv_o (fun z => h z.2), raa, if_neg (fun z => h z.2)]
/-- of the small arrays only row b changes -/
theorem r_c0_o {σ : rS} {a b o j : Nat} (ho : ¬ o = O_name) (ho2 : ¬ o = O_data) (h : ¬ j = b) : (r_c0 σ a b).2.2 o j = σ.2.2 o j := by
  unfold r_c0
  split
  · rw [raa, if_neg (fun z => h z.2)]
  · rw [r_ln_o _ _ _ _ ho2, r_ln_o _ _ _ _ ho, r_c7_o h]
theorem r_nmD (x k : Nat) : (512 : Int32) * nI x + nI k = nI (512 * x + k) := by
  show nI 512 * nI x + nI k = _
  rw [pk_mul, nI_add]
/-- what a tree must be: the sizes of its files are within bounds -/
def r_okT (σ : rS) (f : Nat) : Prop := ∀ p : Nat, p < 60 → ¬ σ.2.2 O_is (60 * f + p) = 0 → (∃ n : Nat, n ≤ 20 ∧ σ.2.2 O_nameSize (60 * f + p) = nI n) ∧ ∃ d : Nat, d ≤ 512 ∧ σ.2.2 O_size (60 * f + p) = nI d
set_option maxHeartbeats 4000000 in
theorem rq_copy {ge : Nat → Nat} {am : Nat} {h : mm_M} (hM : RM am h) (hg : ge 0 ≤ am) (σ : rS) {f g : Nat} (hf : f < 28) (hg2 : g < 28) (hfg : f ≠ g) (hok : r_okT σ f) (Z : mm_M → Prop)
    (hZ : Z (r_em am (r_cp f g 0 60 σ) h)) : wq_Model_copy ge am (nI f) (nI g) (r_em am σ h) Z := by
  have hs := hM
  unfold RM at hs
  unfold wq_Model_copy wq_Model_copy_0 lp_Model_copy_2
  intro X hX
  have key : ∀ (m p : Nat) (τ : rS), p + m = 60 → r_okT τ f → Z (r_em am (r_cp f g p m τ) h) → X am (nI f) (nI g) (nI p) (r_em am τ h) := by
    intro m
    induction m with
    | zero =>
      intro p τ hp ho hz
      have e : p = 60 := by omega
      subst e
      refine hX _ _ _ _ _ ?_
      unfold wq_Model_copy_2
      exact ⟨fun _ => hz, fun q => absurd (nI_le (Nat.le_refl 60) (by decide)) q⟩
    | succ m ih =>
      intro p τ hp ho hz
      refine hX _ _ _ _ _ ?_
      obtain ⟨a, ea⟩ : ∃ a, a = 60 * f + p := ⟨_, rfl⟩
      obtain ⟨b, eb⟩ : ∃ b, b = 60 * g + p := ⟨_, rfl⟩
      have hab : ¬ a = b := by omega
      have hin : vp_in (nI a) 1680 := vp_in_nI (by omega) (by decide)
      have hcl : (nI a).toNatClampNeg = a := nI_clamp (by omega)
      have hinb : vp_in (nI b) 1680 := vp_in_nI (by omega) (by decide)
      have hclb : (nI b).toNatClampNeg = b := nI_clamp (by omega)
      have nxt : X am (nI f) (nI g) (nI p + 1) (r_em am (r_c0 τ a b) h) := by
        rw [show nI p + 1 = nI (p + 1) from (nI_succ p).symm]
        refine ih (p + 1) (r_c0 τ a b) (by omega) (fun p' hp' => ?_) (by rw [ea, eb]; exact hz)
        have hne : ¬ 60 * f + p' = b := by omega
        rw [r_c0_o (by decide) (by decide) hne, r_c0_o (by decide) (by decide) hne, r_c0_o (by decide) (by decide) hne]
        exact ho p' hp'
      have ho := ho p (by omega)
      rw [← ea] at ho
      unfold wq_Model_copy_2 wq_Model_copy_229 wq_Model_spot wq_Model_spot_0
      refine ⟨fun q => absurd q (nI_ge (b := 60) (by omega) (by decide)), fun _ => ?_⟩
      simp only [hs, rk, rn, rP, rI0, rI, rU, r_sp, ← ea, ← eb, hin, hcl, hinb, hclb, ge0 hg, true_and, Option.some.injEq, exists_eq_left', forall_eq, Nat.reduceLT]
      have eis : (r_a τ O_is b (vp_nar .boolean (τ.2.2 O_is a))).2.2 O_is a = τ.2.2 O_is a := by rw [raa, if_neg (fun z => hab z.2)]
      refine ⟨fun q => ?_, fun q => ?_⟩
      · have q : ¬ τ.2.2 O_is a = 0 := fun z => q (eis.trans z)
        obtain ⟨⟨n, hn20, hn⟩, d, hd5, hd⟩ := ho q
        have e0 : r_c0 τ a b = r_ln O_data 512 a b 0 d (r_ln O_name 20 a b 0 n (r_c7 τ a b)) := by
          unfold r_c0
          rw [if_neg q, hn, hd, nI_clamp (by omega), nI_clamp (by omega)]
        rw [e0] at nxt
        show lp_Model_copy_136 X ge am (nI f) (nI g) (nI p) (nI a) (nI b) 0 (r_em am (r_c7 τ a b) h) Z
        unfold lp_Model_copy_136
        intro Y hY
        have keyN : ∀ (i k : Nat) (ρ : rS), k + i = n → ρ.2.2 O_nameSize a = nI n → ρ.2.2 O_size a = nI d → r_ln O_name 20 a b k i ρ = r_ln O_name 20 a b 0 n (r_c7 τ a b) → Y am (nI f) (nI g) (nI p) (nI a) (nI b) (nI k) (r_em am ρ h) := by
          intro i
          induction i with
          | zero =>
            intro k ρ hk h1 h2 h3
            have e : k = n := by omega
            subst e
            refine hY _ _ _ _ _ _ _ _ ?_
            unfold wq_Model_copy_136
            simp only [hs, rk, rn, rP, rI, hin, hcl, h1, true_and, Option.some.injEq, exists_eq_left', Nat.reduceLT]
            refine ⟨fun _ => ?_, fun z => absurd (nI_le (Nat.le_refl _) (by omega)) z⟩
            have h3 : ρ = r_ln O_name 20 a b 0 k (r_c7 τ a b) := h3
            unfold lp_Model_copy_183
            intro W hW
            have keyD : ∀ (i' k' : Nat) (ρ' : rS), k' + i' = d → ρ'.2.2 O_size a = nI d → r_ln O_data 512 a b k' i' ρ' = r_ln O_data 512 a b 0 d ρ → W am (nI f) (nI g) (nI p) (nI a) (nI b) (nI k') (r_em am ρ' h) := by
              intro i'
              induction i' with
              | zero =>
                intro k' ρ' hk' g2 g3
                have e : k' = d := by omega
                subst e
                refine hW _ _ _ _ _ _ _ _ ?_
                unfold wq_Model_copy_183 wq_Model_copy_229
                simp only [hs, rk, rn, rP, rI, hin, hcl, g2, true_and, Option.some.injEq, exists_eq_left', Nat.reduceLT]
                refine ⟨fun _ => ?_, fun z => absurd (nI_le (Nat.le_refl _) (by omega)) z⟩
                have g3 : ρ' = r_ln O_data 512 a b 0 k' ρ := g3
                rw [g3, h3]
                exact nxt
              | succ i' ih' =>
                intro k' ρ' hk' g2 g3
                refine hW _ _ _ _ _ _ _ _ ?_
                have w1 : vp_in (nI (512 * a + k')) 860160 := vp_in_nI (by omega) (by decide)
                have w2 : (nI (512 * a + k')).toNatClampNeg = 512 * a + k' := nI_clamp (by omega)
                have w3 : vp_in (nI (512 * b + k')) 860160 := vp_in_nI (by omega) (by decide)
                have w4 : (nI (512 * b + k')).toNatClampNeg = 512 * b + k' := nI_clamp (by omega)
                unfold wq_Model_copy_183
                simp only [hs, rk, rn, rP, rI, rU, r_nmD, hin, hcl, w1, w2, w3, w4, ge0 hg, g2, true_and, Option.some.injEq, exists_eq_left', forall_eq, Nat.reduceLT]
                refine ⟨fun z => absurd z (nI_ge (by omega) (by omega)), fun _ => ?_⟩
                rw [show nI k' + 1 = nI (k' + 1) from (nI_succ k').symm]
                exact ih' (k' + 1) (r_mv ρ' O_data (512 * a + k') (512 * b + k')) (by omega) (by rw [r_mv_o (fun z => absurd z.1 (by decide))]; exact g2) g3
            exact keyD d 0 ρ (by omega) h2 rfl
          | succ i ihi =>
            intro k ρ hk h1 h2 h3
            refine hY _ _ _ _ _ _ _ _ ?_
            have w1 : vp_in (nI (20 * a + k)) 33600 := vp_in_nI (by omega) (by decide)
            have w2 : (nI (20 * a + k)).toNatClampNeg = 20 * a + k := nI_clamp (by omega)
            have w3 : vp_in (nI (20 * b + k)) 33600 := vp_in_nI (by omega) (by decide)
            have w4 : (nI (20 * b + k)).toNatClampNeg = 20 * b + k := nI_clamp (by omega)
            unfold wq_Model_copy_136
            simp only [hs, rk, rn, rP, rI, rU, r_nmI, hin, hcl, w1, w2, w3, w4, ge0 hg, h1, true_and, Option.some.injEq, exists_eq_left', forall_eq, Nat.reduceLT]
            refine ⟨fun z => absurd z (nI_ge (by omega) (by omega)), fun _ => ?_⟩
            rw [show nI k + 1 = nI (k + 1) from (nI_succ k).symm]
            exact ihi (k + 1) (r_mv ρ O_name (20 * a + k) (20 * b + k)) (by omega) (by rw [r_mv_o (fun z => absurd z.1 (by decide))]; exact h1) (by rw [r_mv_o (fun z => absurd z.1 (by decide))]; exact h2) h3
        exact keyN n 0 (r_c7 τ a b) (by omega) (by rw [r_c7_o hab]; exact hn) (by rw [r_c7_o hab]; exact hd) rfl
      · have q : τ.2.2 O_is a = 0 := eis.symm.trans q
        have e0 : r_c0 τ a b = r_a τ O_is b (vp_nar .boolean (τ.2.2 O_is a)) := by
          unfold r_c0
          rw [if_pos q]
        rw [e0] at nxt
        exact nxt
  exact key 60 0 σ rfl hok hZ
