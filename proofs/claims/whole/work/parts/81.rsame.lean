/-! the reference: isSame, stat -/
set_option maxHeartbeats 4000000 in
theorem rt_isSame {ge : Nat → Nat} {am : Nat} {h : mm_M} (hM : RM am h) (σ : rS) {f g : Nat} {T T' : sT} (hf : f < 28) (hg2 : g < 28) (hT : RT σ f T) (hT' : RT σ g T') (Z : Int32 → mm_M → Prop)
    (h1 : T = T' → Z 1 (r_em am σ h)) (h0 : ¬ T = T' → Z 0 (r_em am σ h)) : wq_Model_isSame ge am (nI f) (nI g) (r_em am σ h) Z := by
  have hs := hM
  unfold RM at hs
  unfold wq_Model_isSame wq_Model_isSame_0 lp_Model_isSame_2
  intro X hX
  have key : ∀ (m p : Nat), p + m = 60 → (∀ q, q < p → T q = T' q) → X am (nI f) (nI g) (nI p) (r_em am σ h) := by
    intro m
    induction m with
    | zero =>
      intro p hp hq
      have e : p = 60 := by omega
      subst e
      refine hX _ _ _ _ _ ?_
      unfold wq_Model_isSame_2
      refine ⟨fun _ => h1 (funext fun q => ?_), fun q => absurd (nI_le (Nat.le_refl 60) (by decide)) q⟩
      by_cases c : q < 60
      · exact hq q c
      · rw [hT.2 q (by omega), hT'.2 q (by omega)]
    | succ m ih =>
      intro p hp hq
      refine hX _ _ _ _ _ ?_
      obtain ⟨a, ea⟩ : ∃ a, a = 60 * f + p := ⟨_, rfl⟩
      obtain ⟨b, eb⟩ : ∃ b, b = 60 * g + p := ⟨_, rfl⟩
      have hin : vp_in (nI a) 1680 := vp_in_nI (by omega) (by decide)
      have hcl : (nI a).toNatClampNeg = a := nI_clamp (by omega)
      have hinb : vp_in (nI b) 1680 := vp_in_nI (by omega) (by decide)
      have hclb : (nI b).toNatClampNeg = b := nI_clamp (by omega)
      have nxt : T p = T' p → X am (nI f) (nI g) (nI p + 1) (r_em am σ h) := by
        intro e
        rw [show nI p + 1 = nI (p + 1) from (nI_succ p).symm]
        refine ih (p + 1) (by omega) (fun q hq' => ?_)
        by_cases c : q = p
        · rw [c]; exact e
        · exact hq q (by omega)
      have no : ¬ T p = T' p → Z 0 (r_em am σ h) := fun e => h0 (fun z => e (by rw [z]))
      have r1 := hT.1 p (by omega)
      have r2 := hT'.1 p (by omega)
      rw [← ea] at r1
      rw [← eb] at r2
      unfold wq_Model_isSame_2 wq_Model_isSame_264 wq_Model_isSame_156 wq_Model_spot wq_Model_spot_0
      refine ⟨fun q => absurd q (nI_ge (b := 60) (by omega) (by decide)), fun _ => ?_⟩
      simp only [hs, rk, rn, rP, rI0, rI, r_sp, ← ea, ← eb, hin, hcl, hinb, hclb, true_and, Option.some.injEq, exists_eq_left', Nat.reduceLT]
      rcases r1 with ⟨t1, i1⟩ | ⟨x, t1, i1, k1, a1, a2, a3, a4, ⟨a5, a6⟩, a7, a8⟩
      · rcases r2 with ⟨t2, i2⟩ | ⟨y, t2, i2, _⟩
        · rw [i1, i2]
          exact ⟨fun _ => ⟨fun z => absurd rfl z, fun _ => nxt (by rw [t1, t2])⟩, fun z => absurd rfl z⟩
        · rw [i1, i2]
          exact ⟨fun z => absurd z (by decide), fun _ => no (by rw [t1, t2]; simp)⟩
      · rcases r2 with ⟨t2, i2⟩ | ⟨y, t2, i2, k2, b1, b2, b3, b4, ⟨b5, b6⟩, b7, b8⟩
        · rw [i1, i2]
          exact ⟨fun z => absurd z (by decide), fun _ => no (by rw [t1, t2]; simp)⟩
        · rw [i1, i2, a1, a2, a3, a4, a5, a7, b1, b2, b3, b4, b5, b7]
          have nx : ∀ {α : Type} (F : sF → α), ¬ F x = F y → Z 0 (r_em am σ h) := fun F n => no (by rw [t1, t2]; intro z; cases z; exact n rfl)
          refine ⟨fun _ => ⟨fun _ => ⟨fun z => nx f_in z, fun q1 => ⟨fun z => nx f_md z, fun q2 => ⟨fun z => nx f_vs z, fun q3 => ⟨fun z => nx f_mt z, fun q4 => ⟨fun z => nx (fun w => nI (f_dt w).length) z, fun q5 => ⟨fun q6 => ?_, fun z => nx (fun w => nI (f_nm w).length) z⟩⟩⟩⟩⟩⟩, fun z => absurd z (by decide)⟩, fun z => absurd rfl z⟩
          have x20 := k1.2.1
          have y20 := k2.2.1
          have x512 := k1.2.2.1
          have y512 := k2.2.2.1
          have q6 : (f_nm x).length = (f_nm y).length := (nI_eq (by omega) (by omega)).mp q6
          have q5 : (f_dt x).length = (f_dt y).length := (nI_eq (by omega) (by omega)).mp q5
          unfold lp_Model_isSame_161
          intro Y hY
          have keyN : ∀ (i k : Nat), k + i = (f_nm x).length → (∀ j, j < k → tp (f_nm x) j = tp (f_nm y) j) → Y am (nI f) (nI g) (nI p) (nI a) (nI b) (nI k) (r_em am σ h) := by
            intro i
            induction i with
            | zero =>
              intro k hk hj
              have e : k = (f_nm x).length := by omega
              refine hY _ _ _ _ _ _ _ _ ?_
              unfold wq_Model_isSame_161
              simp only [hs, rk, rn, rP, rI, hin, hcl, a5, true_and, Option.some.injEq, exists_eq_left', Nat.reduceLT]
              refine ⟨fun _ => ?_, fun z => absurd (nI_le (by omega) (by omega)) z⟩
              have en : f_nm x = f_nm y := tp_ext q6 (fun j hj' => hj j (by omega))
              unfold lp_Model_isSame_213
              intro W hW
              have keyD : ∀ (i' k' : Nat), k' + i' = (f_dt x).length → (∀ j, j < k' → tp (f_dt x) j = tp (f_dt y) j) → W am (nI f) (nI g) (nI p) (nI a) (nI b) (nI k') (r_em am σ h) := by
                intro i'
                induction i' with
                | zero =>
                  intro k' hk' hj'
                  refine hW _ _ _ _ _ _ _ _ ?_
                  unfold wq_Model_isSame_213 wq_Model_isSame_264
                  simp only [hs, rk, rn, rP, rI, hin, hcl, a7, true_and, Option.some.injEq, exists_eq_left', Nat.reduceLT]
                  refine ⟨fun _ => nxt ?_, fun z => absurd (nI_le (by omega) (by omega)) z⟩
                  have ed : f_dt x = f_dt y := tp_ext q5 (fun j hj'' => hj' j (by omega))
                  rw [t1, t2]
                  exact congrArg some (Prod.ext q1 (Prod.ext en (Prod.ext q2 (Prod.ext q3 (Prod.ext q4 ed)))))
                | succ i' ih' =>
                  intro k' hk' hj'
                  refine hW _ _ _ _ _ _ _ _ ?_
                  have w1 : vp_in (nI (512 * a + k')) 860160 := vp_in_nI (by omega) (by decide)
                  have w2 : (nI (512 * a + k')).toNatClampNeg = 512 * a + k' := nI_clamp (by omega)
                  have w3 : vp_in (nI (512 * b + k')) 860160 := vp_in_nI (by omega) (by decide)
                  have w4 : (nI (512 * b + k')).toNatClampNeg = 512 * b + k' := nI_clamp (by omega)
                  unfold wq_Model_isSame_213
                  simp only [hs, rk, rn, rP, rI, r_nmD, hin, hcl, a7, w1, w2, w3, w4, true_and, Option.some.injEq, exists_eq_left', Nat.reduceLT]
                  rw [a8 k' (by omega), b8 k' (by omega), show nI k' + 1 = nI (k' + 1) from (nI_succ k').symm]
                  refine ⟨fun z => absurd z (nI_ge (by omega) (by omega)), fun _ => ⟨fun z => ih' (k' + 1) (by omega) (fun j hj'' => ?_), fun z => nx (fun w => tp (f_dt w) k') z⟩⟩
                  by_cases c : j = k'
                  · rw [c]; exact z
                  · exact hj' j (by omega)
              exact keyD (f_dt x).length 0 (by omega) (fun j hj => absurd hj (by omega))
            | succ i ihi =>
              intro k hk hj
              refine hY _ _ _ _ _ _ _ _ ?_
              have w1 : vp_in (nI (20 * a + k)) 33600 := vp_in_nI (by omega) (by decide)
              have w2 : (nI (20 * a + k)).toNatClampNeg = 20 * a + k := nI_clamp (by omega)
              have w3 : vp_in (nI (20 * b + k)) 33600 := vp_in_nI (by omega) (by decide)
              have w4 : (nI (20 * b + k)).toNatClampNeg = 20 * b + k := nI_clamp (by omega)
              unfold wq_Model_isSame_161
              simp only [hs, rk, rn, rP, rI, r_nmI, hin, hcl, a5, w1, w2, w3, w4, true_and, Option.some.injEq, exists_eq_left', Nat.reduceLT]
              rw [a6 k (by omega), b6 k (by omega), show nI k + 1 = nI (k + 1) from (nI_succ k).symm]
              refine ⟨fun z => absurd z (nI_ge (by omega) (by omega)), fun _ => ⟨fun z => ihi (k + 1) (by omega) (fun j hj'' => ?_), fun z => nx (fun w => tp (f_nm w) k) z⟩⟩
              by_cases c : j = k
              · rw [c]; exact z
              · exact hj j (by omega)
          exact keyN (f_nm x).length 0 (by omega) (fun j hj => absurd hj (by omega))
  exact key 60 0 rfl (fun q hq => absurd hq (by omega))
theorem le1B {x : Int32} (h : isB x) : le 1 x.toInt64 = [x] := by rw [le1, h]
theorem RF_ap {σ : rS} {x : Nat} {f : sF} (B : List Int32) (h : RF σ x f) : RF (r_ap σ B) x f := by
  obtain ⟨h1, h2, h3, h4, ⟨h5, h6⟩, h7, h8⟩ := h
  have e : ∀ o j, ¬ o = O_answer → (r_ap σ B).2.2 o j = σ.2.2 o j := fun o j ho => r_ap_o ho B σ
  exact ⟨(e _ _ (by decide)).trans h1, (e _ _ (by decide)).trans h2, (e _ _ (by decide)).trans h3, (e _ _ (by decide)).trans h4, ⟨(e _ _ (by decide)).trans h5, fun k hk => (e _ _ (by decide)).trans (h6 k hk)⟩, (e _ _ (by decide)).trans h7, fun k hk => (e _ _ (by decide)).trans (h8 k hk)⟩
theorem rt_qid {ge : Nat → Nat} {am : Nat} {h : mm_M} (hM : RM am h) (hg : ge 0 ≤ am) (σ : rS) {t p s : Nat} {f : sF} (ht : t < 28) (hp : p < 60) (hs0 : σ.1 F_answerSize = nI s) (hs2 : s + 13 ≤ 1500) (hf : RF σ (60 * t + p) f) (Z : mm_M → Prop)
    (hZ : Z (r_em am (r_ap σ (qidL p f)) h)) : wq_Model_qid ge am (nI t) (nI p) (r_em am σ h) Z := by
  refine rq_qid hM hg σ ht hp hs0 hs2 Z ?_
  have e : r_qd σ t p = r_ap σ (qidL p f) := by
    unfold r_qd qidL
    rw [r_pt_ap, r_pt_ap, r_pt_ap, hf.2.1, hf.2.2.1, r_ap_app, r_ap_app]
    rfl
  rw [e]
  exact hZ
set_option maxHeartbeats 2000000 in
theorem rt_stat {ge : Nat → Nat} {am : Nat} {h : mm_M} (hM : RM am h) (hg : ge 0 ≤ am) (σ : rS) {t p s : Nat} {f : sF} (ht : t < 28) (hp : p < 60) (hs0 : σ.1 F_answerSize = nI s) (hs2 : s + 72 ≤ 1500) (hk : okF f) (hf : RF σ (60 * t + p) f) (Z : mm_M → Prop)
    (hZ : Z (r_em am (r_ap σ (statL p f)) h)) : wq_Model_stat ge am (nI t) (nI p) (r_em am σ h) Z := by
  have hs := hM
  unfold RM at hs
  obtain ⟨x, ex⟩ : ∃ x, x = 60 * t + p := ⟨_, rfl⟩
  rw [← ex] at hf
  have hin : vp_in (nI x) 1680 := vp_in_nI (by omega) (by decide)
  have hcl : (nI x).toNatClampNeg = x := nI_clamp (by omega)
  obtain ⟨k1, k2, k3, k4, k5, k6⟩ := hk
  have hql : ∀ q : Nat, ∀ f' : sF, (qidL q f').length = 13 := fun q f' => qidL_len q f'
  unfold wq_Model_stat wq_Model_stat_0 wq_Model_spot wq_Model_spot_0
  simp only [hs, rk, rn, rP, rI, r_sp, ← ex, hin, hcl, hf.2.2.2.2.1.1, true_and, Option.some.injEq, exists_eq_left', Nat.reduceLT]
  rw [show (50 : Int32) + nI (f_nm f).length = nI (50 + (f_nm f).length) from nI_add 50 _]
  refine rp_put (n := 2) hM hg σ hs0 (by omega) _ _ ?_
  obtain ⟨σ1, e1⟩ : ∃ σ1, σ1 = r_ap σ (le 2 (nI (50 + (f_nm f).length)).toInt64) := ⟨_, rfl⟩
  have f1 : RF σ1 x f := by rw [e1]; exact RF_ap _ hf
  have s1 : σ1.1 F_answerSize = nI (s + 2) := by rw [e1]; exact r_ap_t _ hs0
  rw [← e1]
  simp only [hs, rk, true_and]
  refine rp_put (n := 6) hM hg σ1 s1 (by omega) _ _ ?_
  obtain ⟨σ2, e2⟩ : ∃ σ2, σ2 = r_ap σ1 (le 6 0) := ⟨_, rfl⟩
  have f2 : RF σ2 x f := by rw [e2]; exact RF_ap _ f1
  have s2 : σ2.1 F_answerSize = nI (s + 8) := by rw [e2]; exact r_ap_t _ s1
  rw [← e2]
  simp only [hs, rk, true_and]
  refine rt_qid hM hg σ2 ht hp s2 (by omega) (by rw [← ex]; exact f2) _ ?_
  obtain ⟨σ3, e3⟩ : ∃ σ3, σ3 = r_ap σ2 (qidL p f) := ⟨_, rfl⟩
  have f3 : RF σ3 x f := by rw [e3]; exact RF_ap _ f2
  have s3 : σ3.1 F_answerSize = nI (s + 21) := by rw [e3]; have := r_ap_t (qidL p f) s2; rw [hql] at this; exact this
  rw [← e3]
  simp only [hs, rk, rn, rP, rI, hin, hcl, f3.2.1, true_and, Option.some.injEq, exists_eq_left', Nat.reduceLT]
  refine rp_put (n := 4) hM hg σ3 s3 (by omega) _ _ ?_
  obtain ⟨σ4, e4⟩ : ∃ σ4, σ4 = r_ap σ3 (le 4 (f_md f).toInt64) := ⟨_, rfl⟩
  have f4 : RF σ4 x f := by rw [e4]; exact RF_ap _ f3
  have s4 : σ4.1 F_answerSize = nI (s + 25) := by rw [e4]; exact r_ap_t _ s3
  rw [← e4]
  simp only [hs, rk, rn, rP, rI, hin, hcl, f4.2.2.2.1, true_and, Option.some.injEq, exists_eq_left', Nat.reduceLT]
  refine rp_put (n := 4) hM hg σ4 s4 (by omega) _ _ ?_
  obtain ⟨σ5, e5⟩ : ∃ σ5, σ5 = r_ap σ4 (le 4 (f_mt f).toInt64) := ⟨_, rfl⟩
  have f5 : RF σ5 x f := by rw [e5]; exact RF_ap _ f4
  have s5 : σ5.1 F_answerSize = nI (s + 29) := by rw [e5]; exact r_ap_t _ s4
  rw [← e5]
  simp only [hs, rk, rn, rP, rI, hin, hcl, f5.2.2.2.1, true_and, Option.some.injEq, exists_eq_left', Nat.reduceLT]
  refine rp_put (n := 4) hM hg σ5 s5 (by omega) _ _ ?_
  obtain ⟨σ6, e6⟩ : ∃ σ6, σ6 = r_ap σ5 (le 4 (f_mt f).toInt64) := ⟨_, rfl⟩
  have f6 : RF σ6 x f := by rw [e6]; exact RF_ap _ f5
  have s6 : σ6.1 F_answerSize = nI (s + 33) := by rw [e6]; exact r_ap_t _ s5
  rw [← e6]
  have fin : wq_Model_stat_90 ge am (nI x) (some am) (nI (f_dt f).length).toInt64 (r_em am σ6 h) Z := by
    unfold wq_Model_stat_90
    simp only [hs, rk, true_and, Option.some.injEq, exists_eq_left']
    refine rp_put (n := 8) hM hg σ6 s6 (by omega) _ _ ?_
    obtain ⟨σ7, e7⟩ : ∃ σ7, σ7 = r_ap σ6 (le 8 (nI (f_dt f).length).toInt64) := ⟨_, rfl⟩
    have f7 : RF σ7 x f := by rw [e7]; exact RF_ap _ f6
    have s7 : σ7.1 F_answerSize = nI (s + 41) := by rw [e7]; exact r_ap_t _ s6
    rw [← e7]
    simp only [hs, rk, rn, rP, rI, hin, hcl, f7.2.2.2.2.1.1, true_and, Option.some.injEq, exists_eq_left', Nat.reduceLT]
    refine rp_put (n := 2) hM hg σ7 s7 (by omega) _ _ ?_
    obtain ⟨σ8, e8⟩ : ∃ σ8, σ8 = r_ap σ7 (le 2 (nI (f_nm f).length).toInt64) := ⟨_, rfl⟩
    have f8 : RF σ8 x f := by rw [e8]; exact RF_ap _ f7
    have s8 : σ8.1 F_answerSize = nI (s + 43) := by rw [e8]; exact r_ap_t _ s7
    rw [← e8]
    have hZ8 : Z (r_em am (r_ap σ8 (f_nm f ++ endL)) h) := by
      rw [e8, e7, e6, e5, e4, e3, e2, e1]
      simp only [← r_ap_app]
      have : le 2 (nI (50 + (f_nm f).length)).toInt64 ++ le 6 0 ++ qidL p f ++ le 4 (f_md f).toInt64 ++ le 4 (f_mt f).toInt64 ++ le 4 (f_mt f).toInt64 ++ le 8 (nI (f_dt f).length).toInt64 ++ le 2 (nI (f_nm f).length).toInt64 ++ (f_nm f ++ endL) = statL p f := by
        unfold statL
        simp only [List.append_assoc]
      rw [this]
      exact hZ
    unfold lp_Model_stat_110
    intro X hX
    have key : ∀ (m k : Nat) (τ : rS), k + m = (f_nm f).length → RF τ x f → τ.1 F_answerSize = nI (s + 43 + k) → Z (r_em am (r_ap τ (slc (f_nm f) k m ++ endL)) h) → X am (nI x) (nI k) (r_em am τ h) := by
      intro m
      induction m with
      | zero =>
        intro k τ hkm hτ hsz hz
        refine hX _ _ _ _ ?_
        unfold wq_Model_stat_110
        simp only [hs, rk, rn, rP, rI, hin, hcl, hτ.2.2.2.2.1.1, true_and, Option.some.injEq, exists_eq_left', Nat.reduceLT]
        refine ⟨fun _ => ?_, fun z => absurd (nI_le (by omega) (by omega)) z⟩
        rw [slc_0, List.nil_append] at hz
        unfold lp_Model_stat_148
        intro Y hY
        have step : ∀ (i : Nat) (ρ : rS) (u : Nat), i < 3 → ρ.1 F_answerSize = nI u → u + 3 ≤ 1500 → Y am (nI (i + 1)) (r_em am (r_ap ρ (le 2 1 ++ le 1 103)) h) → Y am (nI i) (r_em am ρ h) := by
          intro i ρ u hi hu hu2 hy
          refine hY _ _ _ ?_
          unfold wq_Model_stat_148
          refine ⟨fun z => absurd z (nI_ge (b := 3) (by omega) (by decide)), fun _ => ?_⟩
          simp only [hs, rk, true_and]
          refine rp_put (n := 2) hM hg ρ hu (by omega) _ _ ?_
          simp only [hs, rk, true_and]
          refine rp_put (n := 1) hM hg _ (r_ap_t _ hu) (by rw [le_len]; omega) _ _ ?_
          rw [← r_ap_app, show nI i + 1 = nI (i + 1) from (nI_succ i).symm]
          exact hy
        have u0 : τ.1 F_answerSize = nI (s + 43 + k) := hsz
        have u1 := r_ap_t (le 2 1 ++ le 1 103) u0
        have u2 := r_ap_t (le 2 1 ++ le 1 103) u1
        have l3 : (le 2 1 ++ le 1 103).length = 3 := by rw [List.length_append, le_len, le_len]
        rw [l3] at u1
        rw [l3] at u2
        refine step 0 τ _ (by omega) u0 (by omega) ?_
        refine step 1 _ _ (by omega) u1 (by omega) ?_
        refine step 2 _ _ (by omega) u2 (by omega) ?_
        refine hY _ _ _ ?_
        unfold wq_Model_stat_148
        refine ⟨fun _ => ?_, fun z => absurd (by decide) z⟩
        rw [← r_ap_app, ← r_ap_app, ← List.append_assoc]
        exact hz
      | succ m ih =>
        intro k τ hkm hτ hsz hz
        refine hX _ _ _ _ ?_
        have w1 : vp_in (nI (20 * x + k)) 33600 := vp_in_nI (by omega) (by decide)
        have w2 : (nI (20 * x + k)).toNatClampNeg = 20 * x + k := nI_clamp (by omega)
        unfold wq_Model_stat_110
        simp only [hs, rk, rn, rP, rI, r_nmI, hin, hcl, hτ.2.2.2.2.1.1, w1, w2, true_and, Option.some.injEq, exists_eq_left', Nat.reduceLT]
        refine ⟨fun z => absurd z (nI_ge (by omega) (by omega)), fun _ => ?_⟩
        rw [hτ.2.2.2.2.1.2 k (by omega)]
        refine rp_put (n := 1) hM hg τ hsz (by omega) _ _ ?_
        rw [show nI k + 1 = nI (k + 1) from (nI_succ k).symm]
        refine ih (k + 1) _ (by omega) (RF_ap _ hτ) (by have := r_ap_t (le 1 (tp (f_nm f) k).toInt64) hsz; rw [le_len] at this; rw [this]; congr 1) ?_
        rw [le1B (tp_B k4 k), ← r_ap_app]
        have hkl : k < (f_nm f).length := by omega
        have e : (f_nm f)[k] = tp (f_nm f) k := by
          have := tp_get hkl
          rw [List.getElem?_eq_getElem hkl] at this
          exact Option.some.inj this
        rw [slc_s hkl, e] at hz
        exact hz
    refine key (f_nm f).length 0 σ8 (by omega) f8 s8 ?_
    rw [slc_all]
    exact hZ8
  simp only [hs, rk, true_and]
  refine rq_isDirectory hM σ6 (by omega) _ ?_
  rw [f6.2.1]
  by_cases hd : 0 ≤ f_md f
  · rw [if_pos hd]
    refine ⟨fun _ => ?_, fun q => absurd rfl q⟩
    simp only [hs, rk, rn, rP, rI, hin, hcl, f6.2.2.2.2.2.1, true_and, Option.some.injEq, exists_eq_left', Nat.reduceLT]
    exact fin
  · rw [if_neg hd]
    refine ⟨fun q => absurd q (by decide), fun _ => ?_⟩
    rw [k6 hd] at fin
    exact fin
