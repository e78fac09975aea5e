/-! the reference: wstats -/
section RWS
variable {ge : Nat → Nat} {am : Nat} {h : mm_M} {σ0 σ σ' : rS} {L A : List Int32} {T Tr : sT} {S J : List sT} {fm : sM} {fc gv : Nat} {tm : Int32} {ms : Nat}
theorem Rtx_e {X : List Int32} {l : Nat} (hl : X.length = l) (h14 : l ≤ 1400) : ((nI l ≤ 0) ↔ X = []) ∧ ((nI l = 0) ↔ X = []) := by
  constructor
  · rw [show (0 : Int32) = nI 0 from rfl, nI_leI (by omega) (by decide)]
    exact ⟨fun y => List.eq_nil_of_length_eq_zero (by omega), fun y => by rw [← hl, y]; simp⟩
  · rw [show (0 : Int32) = nI 0 from rfl, nI_eq (by omega) (by decide)]
    exact ⟨fun y => List.eq_nil_of_length_eq_zero (by omega), fun y => by rw [← hl, y]; simp⟩
set_option maxHeartbeats 4000000 in
theorem rt_wst (hM : RM am h) (hg : ge 0 ≤ am) (hC : RR σ0 σ L A T S J fm fc gv tm ms) (hI : Iv2 T S J fm fc gv ms) {j : Nat} {x : Int32} {d : sD} (hr : rfi σ fm fc j x d) (hFk : Fok T S d) {f : sF} (hto : trOf T S (d_t d) = some Tr) (hf : Tr (d_p d) = some f) {X : List Int32} {perm mt : Int32} {len : Int64} {rest : Prop} (hX : Rtx σ L X) (hpm : σ.1 F_sMode = perm) (hmt : σ.1 F_sTime = mt) (hlen : σ.2.1 F_sLength = len) (hrest : (σ.1 F_sRest = 0) ↔ ¬ rest) (he : σ.1 F_error = 0) (hsy : σ.1 F_sync = 0) (Z : mm_M → Prop)
    (hZ : ∀ σ', RP σ0 L A S J tm ms (cif ((spWst T fm fc gv tm d f X perm mt len rest).1 = 0 ∧ askN X perm mt len) 1 0) (spWst T fm fc gv tm d f X perm mt len rest) σ' → Z (r_em am σ' h)) : wq_Model_wstats ge am (nI j) (r_em am σ h) Z := by
  have hs := hM
  unfold RM at hs
  have er : ∀ k : Int32, whyB T d f X perm len rest = k → ¬ k = 0 → Z (r_em am (r_f σ F_error k) h) := by
    intro k hk nk
    have hsp : spWst T fm fc gv tm d f X perm mt len rest = (k, [], T, fm, fc, gv) := by
      have : spWst T fm fc gv tm d f X perm mt len rest = _ := cif_y (by rw [hk]; exact nk)
      rw [this, hk]
    refine hZ _ ?_
    have : (cif ((spWst T fm fc gv tm d f X perm mt len rest).1 = 0 ∧ askN X perm mt len) 1 0 : Int32) = 0 := cif_n (fun z => nk (by rw [hsp] at z; exact z.1))
    rw [this]
    exact RP_er hC hsy hsp nk
  obtain ⟨r1, r2, r3, r4, r5, r6, r7, r8, r9⟩ := hr
  have hj : vp_in (nI j) 24 := vp_in_nI (by omega) (by decide)
  have hjc : (nI j).toNatClampNeg = j := nI_clamp (by omega)
  obtain ⟨p, ep⟩ : ∃ p, p = d_p d := ⟨_, rfl⟩
  have hp : p < 60 := by rw [ep]; exact hFk.1
  have hta := hC.1
  have hL := hta.2.2
  have htm := hC.2.2.2.2.2.2.1.2.1
  obtain ⟨a, l, ha, hl, hal, eX⟩ := hX
  have hXl : X.length = l := by rw [eX]; exact slc_len hal
  obtain ⟨el, el0⟩ := Rtx_e hXl (by omega)
  have hin : vp_in (nI p) 1680 := vp_in_nI (by omega) (by decide)
  have hcl : (nI p).toNatClampNeg = p := nI_clamp (by omega)
  obtain ⟨rT, t28⟩ := RR_tr hC hto
  have e0 : (nI (d_t d) = 0) ↔ d_t d = 0 := by
    show nI (d_t d) = nI 0 ↔ _
    exact nI_eq (by omega) (by decide)
  have ep0 : (nI p = 0) ↔ d_p d = 0 := by
    rw [← ep]
    show nI p = nI 0 ↔ _
    exact nI_eq (by omega) (by decide)
  rw [← ep] at r6
  unfold wq_Model_wstats wq_Model_wstats_0 wq_Model_spot wq_Model_spot_0
  simp only [hs, rk, rn, rP, rI, hj, hjc, r5, r6, r_z60, e0, true_and, Option.some.injEq, exists_eq_left', Nat.reduceLT]
  refine ⟨fun ht0 => ?_, fun q => ?_⟩
  rotate_left
  · unfold wq_Model_wstats_28 wq_Model_wstats_95
    simp only [hs, rk, true_and, Option.some.injEq, exists_eq_left']
    exact rq_fails1 hM hg σ 3 _ ⟨fun _ => er 3 (cif_y q) (by decide), fun z => absurd z (by decide)⟩
  have n3 : ¬ ¬ d_t d = 0 := fun z => z ht0
  have hTT : T p = some f := by
    unfold trOf at hto
    rw [if_pos ht0] at hto
    rw [Option.some.inj hto, ep]
    exact hf
  obtain ⟨_, i1, k1, rf⟩ := RT_get hC.2.2.1 hTT
  rw [r60] at i1 rf
  have l512 := k1.2.2.1
  unfold wq_Model_wstats_28 wq_Model_wstats_95
  simp only [hs, rk, true_and, Option.some.injEq, exists_eq_left']
  refine rq_fails0 hM hg σ 3 _ ⟨fun z => absurd rfl z, fun _ => ?_⟩
  simp only [hs, rk, rI0, hrest, true_and]
  refine ⟨fun q5 => ?_, fun q5 => ?_⟩
  rotate_left
  · unfold wq_Model_wstats_48 wq_Model_wstats_95
    simp only [hs, rk, true_and, Option.some.injEq, exists_eq_left']
    exact rq_fails1 hM hg σ 5 _ ⟨fun _ => er 5 ((cif_n n3).trans (cif_y q5)) (by decide), fun z => absurd z (by decide)⟩
  have n5 : ¬ ¬ rest := q5
  have p6 : (¬ X = [] ∧ (d_p d = 0 ∨ ¬ nmOk X)) → wq_Model_wstats_82 ge am (nI p) (nI p) (some am) (r_em am σ h) Z := by
    intro n6
    unfold wq_Model_wstats_82 wq_Model_wstats_87 wq_Model_wstats_95
    simp only [hs, rk, true_and, Option.some.injEq, exists_eq_left']
    exact rq_fails1 hM hg σ 6 _ ⟨fun z => absurd z (by decide), fun _ => er 6 ((cif_n n3).trans ((cif_n n5).trans (cif_y n6))) (by decide)⟩
  have go6 : ¬ (¬ X = [] ∧ (d_p d = 0 ∨ ¬ nmOk X)) → wq_Model_wstats_86 ge am (nI p) (nI p) (some am) (r_em am σ h) Z := by
    intro n6
    have go7 : ¬ (¬ X = [] ∧ ¬ chl T (f_in f) X = none ∧ ¬ chl T (f_in f) X = some (d_p d)) → wq_Model_wstats_150 ge am (nI p) (r_em am σ h) Z := by
      intro n7
      have p8 : ∀ s : Int32, (¬ perm = -1 ∧ ((¬ ((perm < 0) ↔ (f_md f < 0))) ∨ ¬ perm &&& 2147483136 = 0)) → wq_Model_wstats_202 ge am (nI p) s (some am) (r_em am σ h) Z := by
        intro s n8
        unfold wq_Model_wstats_202 wq_Model_wstats_207
        simp only [hs, rk, true_and, Option.some.injEq, exists_eq_left']
        exact rq_fails1 hM hg σ 8 _ ⟨fun z => absurd z (by decide), fun _ => er 8 ((cif_n n3).trans ((cif_n n5).trans ((cif_n n6).trans ((cif_n n7).trans (cif_y n8))))) (by decide)⟩
      have go8 : ∀ s : Int32, ((s = 0) ↔ perm = -1) → ¬ (¬ perm = -1 ∧ ((¬ ((perm < 0) ↔ (f_md f < 0))) ∨ ¬ perm &&& 2147483136 = 0)) → wq_Model_wstats_206 ge am (nI p) s (some am) (r_em am σ h) Z := by
        intro s hs0 n8
        have p9 : ∀ u : Int32, (¬ len = -1 ∧ (¬ 0 ≤ f_md f ∨ len < 0 ∨ 512 < len)) → wq_Model_wstats_268 ge am (nI p) s u (some am) (r_em am σ h) Z := by
          intro u n9
          unfold wq_Model_wstats_268 wq_Model_wstats_273
          simp only [hs, rk, true_and, Option.some.injEq, exists_eq_left']
          exact rq_fails1 hM hg σ 9 _ ⟨fun z => absurd z (by decide), fun _ => er 9 ((cif_n n3).trans ((cif_n n5).trans ((cif_n n6).trans ((cif_n n7).trans ((cif_n n8).trans (cif_y n9)))))) (by decide)⟩
        have go9 : ∀ u : Int32, ((u = 0) ↔ len = -1) → ¬ (¬ len = -1 ∧ (¬ 0 ≤ f_md f ∨ len < 0 ∨ 512 < len)) → wq_Model_wstats_272 ge am (nI p) s u (some am) (r_em am σ h) Z := by
          intro u hu n9
          have hB0 : whyB T d f X perm len rest = 0 := (cif_n n3).trans ((cif_n n5).trans ((cif_n n6).trans ((cif_n n7).trans ((cif_n n8).trans (cif_n n9)))))
          have hsp : spWst T fm fc gv tm d f X perm mt len rest = (0, [], cif (askN X perm mt len) T (tset T p (some (bnt f tm X perm mt len))), fm, fc, gv) := by
            rw [ep]
            exact cif_n (fun z => z hB0)
          have hXB : allB X := by rw [eX]; exact slc_B hta.2.1 _ _
          have hTb : cif (askN X perm mt len) T (tset T p (some (bnt f tm X perm mt len))) = tset T p (some (bnt f tm X perm mt len)) := by
            by_cases c : askN X perm mt len
            · rw [cif_y c]
              have : bnt f tm X perm mt len = f := by
                obtain ⟨c1, c2, c3, c4⟩ := c
                unfold bnt
                rw [cif_y c1, cif_y c2, cif_y c3, cif_y (Or.inl c4), cif_y (Or.inl c4), cif_y (Or.inl c4)]
                rfl
              rw [this, tset_same hTT]
            · exact cif_n c
          have kb : okF (bnt f tm X perm mt len) := by
            have := (ok_wst hI r4 hto hf hXB perm mt len rest (tm := tm)).1
            rw [hsp] at this
            have this : wfT (cif (askN X perm mt len) T (tset T p (some (bnt f tm X perm mt len)))) gv := this
            rw [hTb] at this
            exact (this.2.2 p _ (tset_y _ _ _)).2.1
          obtain ⟨sy, esy⟩ : ∃ sy : Int32, sy = cif ((spWst T fm fc gv tm d f X perm mt len rest).1 = 0 ∧ askN X perm mt len) 1 0 := ⟨_, rfl⟩
          rw [← esy, hsp, hTb] at hZ
          rw [hsp] at esy
          -- what the stages keep
          have fin : ∀ (τ : rS), (∀ k, ¬ k = F_sync → τ.1 k = σ.1 k) → τ.1 F_sync = sy → frr p (p + 1) σ τ → τ.2.2 O_is p = 1 → RF τ p (bnt f tm X perm mt len) → Z (r_em am τ h) := by
            intro τ t1 t2 t3 t4 t5
            refine hZ τ ⟨by rw [t1 _ (by decide)]; exact he, t2, A, fun _ => (List.append_nil A).symm, ?_⟩
            refine RR_row hp (fun k hk => t1 k (fun z => ?_)) t3 t4 kb t5 hC
            rw [z] at hk
            revert hk
            unfold rlf
            decide
          have e386 : ∀ (τ : rS) (g : sF), (∀ k, ¬ k = F_sync → τ.1 k = σ.1 k) → τ.1 F_sync = sy → frr p (p + 1) σ τ → τ.2.2 O_is p = 1 → RF τ p g → bnt f tm X perm mt len = (f_in g, f_nm g, f_md g, f_vs g, cif (mt = -1) (f_mt g) mt, f_dt g) → wq_Model_wstats_386 ge am (nI p) (r_em am τ h) Z := by
            intro τ g t1 t2 t3 t4 t5 eb
            have v1 : τ.1 F_sTime = mt := (t1 _ (by decide)).trans hmt
            unfold wq_Model_wstats_386 wq_Model_wstats_404
            simp only [hs, rk, rn, rP, rI0, rI, rU, v1, hin, hcl, ge0 hg, true_and, Option.some.injEq, exists_eq_left', forall_eq, Nat.reduceLT]
            refine ⟨fun z => fin τ t1 t2 t3 t4 ?_, fun z => fin _ t1 t2 (frr_2 t3 (frr_a _ (by decide))) (by rw [ra_n (by decide)]; exact t4) ?_⟩
            · rw [eb, cif_y z]; exact t5
            · rw [eb, cif_n z]
              obtain ⟨u1, u2, u3, u4, ⟨u5, u6⟩, u7, u8⟩ := t5
              refine ⟨?_, ?_, ?_, ?_, ⟨?_, fun k hk => ?_⟩, ?_, fun k hk => ?_⟩
              · rw [ra_n (by decide)]; exact u1
              · rw [ra_n (by decide)]; exact u2
              · rw [ra_n (by decide)]; exact u3
              · rw [ra_y]; rfl
              · rw [ra_n (by decide)]; exact u5
              · rw [ra_n (by decide)]; exact u6 k hk
              · rw [ra_n (by decide)]; exact u7
              · rw [ra_n (by decide)]; exact u8 k hk
          have e351 : ∀ (τ : rS) (g : sF), (∀ k, ¬ k = F_sync → τ.1 k = σ.1 k) → τ.1 F_sync = sy → τ.2.1 F_sLength = len → frr p (p + 1) σ τ → τ.2.2 O_is p = 1 → okF g → RF τ p g → g = (f_in f, cif (X = []) (f_nm f) X, cif (perm = -1) (f_md f) perm, f_vs f, f_mt f, f_dt f) → wq_Model_wstats_351 ge am (nI p) u (r_em am τ h) Z := by
            intro τ g t1 t2 t2' t3 t4 kg t5 eg
            have gd : f_dt g = f_dt f := by rw [eg]; rfl
            have same : (len = -1 ∨ len = (nI (f_dt f).length).toInt64) → wq_Model_wstats_386 ge am (nI p) (r_em am τ h) Z := by
              intro c
              refine e386 τ g t1 t2 t3 t4 t5 ?_
              rw [eg]
              unfold bnt
              rw [cif_y c, cif_y c, cif_y c]
              rfl
            unfold wq_Model_wstats_351
            simp only [hs, rk, rn, rP, rI, rL0, t2', t5.2.2.2.2.2.1, gd, hin, hcl, lg_cmp_eq, true_and, Option.some.injEq, exists_eq_left', Nat.reduceLT]
            refine ⟨fun z => same (Or.inl (hu.mp z)), fun z => ⟨fun z2 => same (Or.inr z2), fun z2 => ?_⟩⟩
            have nl : ¬ len = -1 := fun w => z (hu.mpr w)
            have c : ¬ (len = -1 ∨ len = (nI (f_dt f).length).toInt64) := fun w => w.elim nl z2
            have b1 : ¬ len < 0 := fun w => n9 ⟨nl, Or.inr (Or.inl w)⟩
            have b2 : ¬ 512 < len := fun w => n9 ⟨nl, Or.inr (Or.inr w)⟩
            obtain ⟨N, hN, hN1, hN2⟩ := l_of (n := 512) (by decide) b1 b2
            have hNc : (Int64.toInt32 len).toNatClampNeg = N := by rw [hN2, nI_clamp (by omega)]
            rw [hN2]
            refine rt_sizes hM hg (by omega) kg t5 hN _ (fun τ2 a1 a2 a3 a4 a5 => ?_)
            simp only [hs, rk, true_and]
            refine rt_changed (tm := tm) hM hg (by omega) a5 (by rw [a1, t1 _ (by decide)]; exact htm) _ (fun τ3 b1 b2 b3 b4 b5 => ?_)
            refine e386 τ3 _ (fun k hk => by rw [b1, a1]; exact t1 k hk) (by rw [b1, a1]; exact t2) (frr_2 t3 (frr_2 a3 b3)) (by rw [b4, a4]; exact t4) b5 ?_
            rw [eg]
            unfold bnt
            rw [cif_n c, cif_n c, cif_n c, hNc]
            rfl
          have e336 : ∀ (τ : rS) (g : sF), (∀ k, ¬ k = F_sync → τ.1 k = σ.1 k) → τ.1 F_sync = sy → τ.2.1 F_sLength = len → frr p (p + 1) σ τ → τ.2.2 O_is p = 1 → RF τ p g → g = (f_in f, cif (X = []) (f_nm f) X, f_md f, f_vs f, f_mt f, f_dt f) → wq_Model_wstats_336 ge am (nI p) s u (r_em am τ h) Z := by
            intro τ g t1 t2 t2' t3 t4 t5 eg
            have kg : okF (f_in f, cif (X = []) (f_nm f) X, cif (perm = -1) (f_md f) perm, f_vs f, f_mt f, f_dt f) := by
              obtain ⟨y1, y2, y3, y4, y5, y6⟩ := kb
              have y1 : 1 ≤ (cif (X = []) (f_nm f) X).length := y1
              have y2 : (cif (X = []) (f_nm f) X).length ≤ 20 := y2
              have y4 : allB (cif (X = []) (f_nm f) X) := y4
              refine ⟨y1, y2, k1.2.2.1, y4, k1.2.2.2.2.1, fun w => k1.2.2.2.2.2 (fun v => w ?_)⟩
              show 0 ≤ cif (perm = -1) (f_md f) perm
              by_cases c : perm = -1
              · rw [cif_y c]; exact v
              · rw [cif_n c]
                have : perm < 0 ↔ f_md f < 0 := Classical.byContradiction (fun y => n8 ⟨c, Or.inl y⟩)
                exact Int32.not_lt.mp (fun y => absurd v (Int32.not_le.mpr (this.mp y)))
            have v1 : τ.1 F_sMode = perm := (t1 _ (by decide)).trans hpm
            unfold wq_Model_wstats_336
            simp only [hs, rk, rn, rP, rI0, rI, rU, v1, hin, hcl, ge0 hg, true_and, Option.some.injEq, exists_eq_left', forall_eq, Nat.reduceLT]
            refine ⟨fun z => e351 τ _ t1 t2 t2' t3 t4 kg ?_ rfl, fun z => e351 _ _ t1 t2 t2' (frr_2 t3 (frr_a _ (by decide))) (by rw [ra_n (by decide)]; exact t4) kg ?_ rfl⟩
            · rw [cif_y (hs0.mp z), ← eg]; exact t5
            · rw [cif_n (fun w => z (hs0.mpr w))]
              rw [eg] at t5
              obtain ⟨u1, u2, u3, u4, ⟨u5, u6⟩, u7, u8⟩ := t5
              refine ⟨?_, ?_, ?_, ?_, ⟨?_, fun k hk => ?_⟩, ?_, fun k hk => ?_⟩
              · rw [ra_n (by decide)]; exact u1
              · rw [ra_y]; rfl
              · rw [ra_n (by decide)]; exact u3
              · rw [ra_n (by decide)]; exact u4
              · rw [ra_n (by decide)]; exact u5
              · rw [ra_n (by decide)]; exact u6 k hk
              · rw [ra_n (by decide)]; exact u7
              · rw [ra_n (by decide)]; exact u8 k hk
          have e313 : (sy = 0 ∨ sy = 1) → wq_Model_wstats_313 ge am (nI p) s u (some am) sy (r_em am σ h) Z := by
            intro hb
            unfold wq_Model_wstats_313
            simp only [hs, rk, rI0, rU0, hg, hb, true_and, Option.some.injEq, exists_eq_left', forall_eq]
            have v1 : (r_f σ 52 sy).1 39 = nI l := hl
            have v2 : (r_f σ 52 sy).1 38 = nI a := ha
            simp only [v1, v2, el]
            have t1 : ∀ k, ¬ k = F_sync → (r_f σ 52 sy).1 k = σ.1 k := fun k hk => by rw [rf1, if_neg hk]
            have t2 : (r_f σ 52 sy).1 F_sync = sy := by rw [rf1, if_pos rfl]
            refine ⟨fun z => e336 _ f t1 t2 hlen (frr_rf _ _ _) i1 rf ?_, fun z => ?_⟩
            · rw [cif_y z]; rfl
            · have l20 : l ≤ 20 := by
                have : nmOk X := Classical.byContradiction (fun y => n6 ⟨z, Or.inr y⟩)
                rw [← hXl]; exact this.2.1
              refine rt_names (σ := r_f σ 52 sy) (x := p) hM hg (by omega) l20 (Rta_of (σ := σ) (σ' := r_f σ 52 sy) (fun _ => rfl) hta) hal _ (fun τ a1 a2 a3 a4 a5 a6 => ?_)
              refine e336 τ (f_in f, X, f_md f, f_vs f, f_mt f, f_dt f) (fun k hk => by rw [a1]; exact t1 k hk) (by rw [a1]; exact t2) (by rw [a2]; exact hlen) a3 ((a4 _ (by decide)).trans i1) ?_ (by rw [cif_n z])
              obtain ⟨u1, u2, u3, u4, ⟨u5, u6⟩, u7, u8⟩ := rf
              exact ⟨(a4 _ (by decide)).trans u1, (a4 _ (by decide)).trans u2, (a4 _ (by decide)).trans u3, (a4 _ (by decide)).trans u4, by rw [← eX] at a6; exact a6, (a4 _ (by decide)).trans u7, fun k hk => (a5 _).trans (u8 k hk)⟩
          have y0 : ¬ askN X perm mt len → wq_Model_wstats_312 ge am (nI p) s u (some am) (r_em am σ h) Z := by
            intro c
            have : sy = 0 := esy.trans (cif_n (fun z => c z.2))
            unfold wq_Model_wstats_312
            rw [← this]
            exact e313 (Or.inl this)
          unfold wq_Model_wstats_272 wq_Model_wstats_273
          simp only [hs, rk, true_and, Option.some.injEq, exists_eq_left']
          refine rq_fails0 hM hg σ 9 _ ⟨fun _ => ?_, fun z => absurd rfl z⟩
          simp only [hs, rk, rI0, hl, hmt, el0, hs0, hu, true_and]
          refine ⟨fun z => y0 (fun c => z c.1), fun z1 => ⟨fun z => y0 (fun c => z c.2.1), fun z2 => ⟨fun z => y0 (fun c => z c.2.2.2), fun z3 => ⟨fun z => y0 (fun c => z c.2.2.1), fun z4 => ?_⟩⟩⟩⟩
          have : sy = 1 := esy.trans (cif_y ⟨rfl, z1, z2, z4, z3⟩)
          rw [← this]
          exact e313 (Or.inr this)
        unfold wq_Model_wstats_206 wq_Model_wstats_207
        simp only [hs, rk, true_and, Option.some.injEq, exists_eq_left']
        refine rq_fails0 hM hg σ 8 _ ⟨fun _ => ?_, fun z => absurd rfl z⟩
        have e232 : ∀ u : Int32, ((u = 0) ↔ len = -1) → wq_Model_wstats_232 ge am (nI p) s u (r_em am σ h) Z := by
          intro u hu
          unfold wq_Model_wstats_232
          simp only [hs, rk, true_and]
          refine ⟨fun z => go9 u hu (fun w => w.1 (hu.mp z)), fun z => rq_isDirectory hM σ (by omega) _ ?_⟩
          have nl : ¬ len = -1 := fun w => z (hu.mpr w)
          rw [rf.2.1]
          by_cases hd : 0 ≤ f_md f
          · rw [if_pos hd]
            refine ⟨fun z => absurd rfl z, fun _ => ?_⟩
            simp only [hs, rk, rL0, hlen, lg_cmp_lt, lg_cmp_le, true_and]
            refine ⟨fun z => p9 u ⟨nl, Or.inr (Or.inl z)⟩, fun z => ⟨fun z2 => go9 u hu (fun w => ?_), fun z2 => p9 u ⟨nl, Or.inr (Or.inr (Int64.not_le.mp z2))⟩⟩⟩
            rcases w.2 with w | w | w
            · exact w hd
            · exact z w
            · exact absurd z2 (Int64.not_le.mpr w)
          · rw [if_neg hd]
            exact ⟨fun _ => p9 u ⟨nl, Or.inl hd⟩, fun z => absurd z (by decide)⟩
        simp only [hs, rk, rL0, hlen, lg_cmp_eq, true_and]
        exact ⟨fun z => e232 0 ⟨fun _ => z, fun _ => rfl⟩, fun z => e232 1 ⟨fun w => absurd w (by decide), fun w => absurd w z⟩⟩
      have e183 : ∀ s1 : Int32, ((s1 = 1) ↔ perm < 0) → (s1 = 0 ∨ s1 = 1) → ¬ perm = -1 → wq_Model_wstats_183 ge am (nI p) 1 (some am) s1 (r_em am σ h) Z := by
        intro s1 h1 hb np
        unfold wq_Model_wstats_183
        simp only [hs, rk, true_and]
        refine rq_isDirectory hM σ (by omega) _ ?_
        rw [rf.2.1]
        have hi : (s1 = (if 0 ≤ f_md f then 0 else 1 : Int32)) ↔ ((perm < 0) ↔ (f_md f < 0)) := by
          rw [← h1, ← Int32.not_le]
          by_cases c : 0 ≤ f_md f
          · rw [if_pos c]
            constructor
            · intro w
              exact ⟨fun v => by rw [w] at v; exact absurd v (by decide), fun v => absurd c v⟩
            · intro w
              rcases hb with w2 | w2
              · exact w2
              · exact absurd c (w.mp w2)
          · rw [if_neg c]
            exact ⟨fun w => ⟨fun _ => c, fun _ => w⟩, fun w => w.mpr c⟩
        refine ⟨fun z => p8 1 ⟨np, Or.inl (fun w => z (hi.mpr w))⟩, fun z => ?_⟩
        simp only [hs, rk, rI0, hpm, true_and]
        refine ⟨fun z2 => go8 1 ⟨fun w => absurd w (by decide), fun w => absurd w np⟩ (fun w => ?_), fun z2 => p8 1 ⟨np, Or.inr z2⟩⟩
        rcases w.2 with w | w
        · exact w (hi.mp z)
        · exact w z2
      have e163 : ∀ s : Int32, (s = 0 ∨ s = 1) → ((s = 0) ↔ perm = -1) → wq_Model_wstats_163 ge am (nI p) s (r_em am σ h) Z := by
        intro s hb hs0
        unfold wq_Model_wstats_163
        simp only [hs, rk, rI0, hpm, true_and]
        refine ⟨fun z => go8 s hs0 (fun w => w.1 (hs0.mp z)), fun z => ?_⟩
        have es : s = 1 := hb.resolve_left z
        subst es
        have np : ¬ perm = -1 := fun w => z (hs0.mpr w)
        exact ⟨fun w => e183 0 ⟨fun v => absurd v (by decide), fun v => absurd w (Int32.not_le.mpr v)⟩ (Or.inl rfl) np, fun w => e183 1 ⟨fun _ => Int32.not_le.mp w, fun _ => rfl⟩ (Or.inr rfl) np⟩
      unfold wq_Model_wstats_150
      simp only [hs, rk, rI0, hpm, true_and]
      exact ⟨fun z => e163 0 (Or.inl rfl) ⟨fun _ => z, fun _ => rfl⟩, fun z => e163 1 (Or.inr rfl) ⟨fun w => absurd w (by decide), fun w => absurd w z⟩⟩
    have p140 : ¬ (¬ X = [] ∧ ¬ chl T (f_in f) X = none ∧ ¬ chl T (f_in f) X = some (d_p d)) → wq_Model_wstats_140 ge am (nI p) (some am) (r_em am σ h) Z := by
      intro n7
      unfold wq_Model_wstats_140 wq_Model_wstats_141
      simp only [hs, rk, true_and, Option.some.injEq, exists_eq_left']
      exact rq_fails0 hM hg σ 7 _ ⟨fun _ => go7 n7, fun z => absurd rfl z⟩
    unfold wq_Model_wstats_86 wq_Model_wstats_87 wq_Model_wstats_95
    simp only [hs, rk, true_and, Option.some.injEq, exists_eq_left']
    refine rq_fails0 hM hg σ 6 _ ⟨fun _ => ?_, fun z => absurd rfl z⟩
    simp only [hs, rk, rn, rP, rI0, rI, hl, ha, el, hin, hcl, rf.1, true_and, Option.some.injEq, exists_eq_left', Nat.reduceLT]
    refine ⟨fun z => go7 (fun w => w.1 z), fun z => ?_⟩
    refine rt_child (t := 0) hM (by decide) hC.2.2.1 hta hal _ (fun c c1 c2 hc => ⟨fun z => absurd z (nI_pos (by omega)), fun _ => ?_⟩) (fun hc => ⟨fun _ => p140 (fun w => w.2.1 (by rw [eX]; exact hc)), fun z => absurd (by decide) z⟩)
    rw [← eX] at hc
    rw [nI_eq (show c < 2 ^ 31 by omega) (show p < 2 ^ 31 by omega)]
    refine ⟨fun w => p140 (fun v => v.2.2 (by rw [hc, w, ep])), fun w => ?_⟩
    unfold wq_Model_wstats_141
    simp only [hs, rk, true_and, Option.some.injEq, exists_eq_left']
    refine rq_fails1 hM hg σ 7 _ ⟨fun z => absurd z (by decide), fun _ => er 7 ((cif_n n3).trans ((cif_n n5).trans ((cif_n n6).trans (cif_y ⟨z, ?_, ?_⟩)))) (by decide)⟩
    · rw [hc]; simp
    · rw [hc, ← ep]
      intro v
      exact w (Option.some.inj v)
  unfold wq_Model_wstats_48 wq_Model_wstats_95
  simp only [hs, rk, true_and, Option.some.injEq, exists_eq_left']
  refine rq_fails0 hM hg σ 5 _ ⟨fun z => absurd rfl z, fun _ => ?_⟩
  simp only [hs, rk, rI0, hl, ha, el, ep0, true_and]
  refine ⟨fun z => go6 (fun w => w.1 z), fun z => ⟨fun z2 => p6 ⟨z, Or.inl z2⟩, fun z2 => rt_isName hM hta hal _ (fun hn => ⟨fun _ => go6 (fun w => ?_), fun z => absurd z (by decide)⟩) (fun hn => ⟨fun z => absurd rfl z, fun _ => p6 ⟨z, Or.inr (by rw [eX]; exact hn)⟩⟩)⟩⟩
  rcases w.2 with w | w
  · exact z2 w
  · exact w (by rw [eX]; exact hn)
end RWS
