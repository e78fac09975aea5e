/-! the reference: removes; writes -/
section RD
variable {ge : Nat → Nat} {am : Nat} {h : mm_M} {σ0 σ σ' : rS} {L A : List Int32} {T Tr : sT} {S J : List sT} {fm : sM} {fc gv : Nat} {tm : Int32} {ms : Nat} {sy : Int32}
theorem r_cnt_eq {t : Nat} (hT : RT σ t Tr) (x : Int32) : ∀ n, n ≤ 60 → r_cnt σ t x n = cnt (inD Tr x) n
  | 0, _ => rfl
  | n + 1, hn => by
    have ih := r_cnt_eq hT x n (by omega)
    show r_cnt σ t x n + _ = _
    by_cases c : inD Tr x n
    · rw [cnt_y c, ih, if_pos]
      obtain ⟨c1, f, c2, c3⟩ := c
      obtain ⟨_, i1, _, k5⟩ := RT_get hT c2
      exact ⟨by omega, by rw [i1]; decide, k5.1.trans c3⟩
    · rw [cnt_n c, ih, if_neg, Nat.add_zero]
      rintro ⟨z1, z2, z3⟩
      obtain ⟨f, k1, k2, k3⟩ := RT_some hT (by omega) z2
      exact c ⟨by omega, f, k1, k3.1.symm.trans z3⟩
theorem rt_whyNot (hM : RM am h) (hC : RR σ0 σ L A T S J fm fc gv tm ms) {j : Nat} {x : Int32} {d : sD} (hr : rfi σ fm fc j x d) (hp : d_p d < 60) {f : sF} (hto : trOf T S (d_t d) = some Tr) (hf : Tr (d_p d) = some f) (Z : Int32 → mm_M → Prop)
    (hZ : Z (whyN T d f) (r_em am σ h)) : wq_Model_whyNot ge am (nI j) (r_em am σ h) Z := by
  obtain ⟨r1, r2, r3, r4, r5, r6, r7, r8, r9⟩ := hr
  obtain ⟨rT, t28⟩ := RR_tr hC hto
  have e0 : (nI (d_t d) = 0) ↔ d_t d = 0 := by
    show nI (d_t d) = nI 0 ↔ _
    exact nI_eq (by omega) (by decide)
  have cn := r_cnt_eq hC.2.2.1 (nI (d_p d)) 60 (by decide)
  have live : d_t d = 0 → σ.2.2 O_mode (d_p d) = f_md f := fun z => by
    rw [z] at rT
    have := (RT_get rT hf).2.2.2.2.1
    rw [r60] at this
    exact this
  refine rq_whyNot hM σ r2 hp r6 Z (fun z => ?_) (fun z1 z2 z3 z4 => ?_) (fun z1 z2 z3 => ?_)
  · rw [r5] at z
    have : whyN T d f = 3 := cif_y (z.elim (fun y => Or.inr (fun w => y (e0.mpr w))) Or.inl)
    rw [this] at hZ
    exact hZ
  · rw [r5] at z1
    rw [live (e0.mp z1)] at z3
    rw [cn] at z4
    have : whyN T d f = 5 := (cif_n (fun y => y.elim z2 (fun w => w (e0.mp z1)))).trans (cif_y ⟨z3, by omega⟩)
    rw [this] at hZ
    exact hZ
  · rw [r5] at z1
    rw [live (e0.mp z1), cn] at z3
    have : whyN T d f = 0 := (cif_n (fun y => y.elim z2 (fun w => w (e0.mp z1)))).trans (cif_n (fun y => z3.elim y.1 (fun w => by omega)))
    rw [this] at hZ
    exact hZ
theorem rt_gone (hM : RM am h) (hg : ge 0 ≤ am) (hC : RR σ0 σ L A T S J fm fc gv tm ms) {j : Nat} {x : Int32} {d : sD} (hr : rfi σ fm fc j x d) (Z : mm_M → Prop)
    (hZ : ∀ σ', (∀ k, ¬ k = F_fids → σ'.1 k = σ.1 k) → RR σ0 σ' L A T S J (fset fm x none) (fc - 1) gv tm ms → Z (r_em am σ' h)) : wq_Model_gone ge am (nI j) (r_em am σ h) Z := by
  obtain ⟨r1, r2, r3, r4, r5⟩ := hr
  have hF := hC.2.2.2.2.2.1
  refine rq_gone hM hg σ hF.1.2 hF.1.1 r1 Z (hZ _ (fun k hk => ?_) (RR_fd (fun k _ hk => ?_) (fun o i ho => ?_) (Rfd_gone hF r1 r3) hC))
  · rw [(r_sh_1 _ _ _).1, rf1, if_neg hk]
  · rw [(r_sh_1 _ _ _).1, rf1, if_neg hk]
  · rw [r_sh_at, if_neg (fun z => ho ⟨z.1, z.2.1⟩)]; rfl
/-- a file leaves the live tree -/
theorem rt_leaves (hM : RM am h) (hg : ge 0 ≤ am) (hC : RR σ0 σ L A T S J fm fc gv tm ms) (hw : wfT T gv) {p : Nat} {f : sF} (hf : T p = some f) (hp0 : ¬ p = 0) (Z : mm_M → Prop)
    (hZ : ∀ σ', (∀ k, σ'.1 k = σ.1 k) → RR σ0 σ' L A (drp T p tm) S J fm fc gv tm ms → Z (r_em am σ' h)) : wq_Model_leaves ge am (nI p) (r_em am σ h) Z := by
  obtain ⟨w1, w2, w3⟩ := hw.2.2 p f hf
  obtain ⟨q, f', q1, q2, q3, q4⟩ := w3 hp0
  have g60 := hw.1
  have hp : p < 60 := by omega
  obtain ⟨_, i1, k1, rf⟩ := RT_get hC.2.2.1 hf
  rw [r60] at i1 rf
  have htm := hC.2.2.2.2.2.2.1.2.1
  have hd : drp T p tm = tset (tset T p none) q (some (chg f' tm)) := by
    unfold drp
    rw [hf]
    simp only [q2, nI_clamp (show q < 2 ^ 31 by omega), q3]
  refine rq_leaves hM hg σ hp (by omega : q < 60) (rf.1.trans q2) Z (hZ _ (fun _ => rfl) ?_)
  rw [hd]
  unfold r_lv
  have C1 := RR_row0 (σ := σ) (σ' := r_a σ O_is p (vp_nar .boolean 0)) hp (fun _ _ => rfl) (frr_a _ (by decide)) (by rw [ra_y]; decide) hC
  have hq : tset T p none q = some f' := by rw [tset_n _ _ (by omega)]; exact q3
  obtain ⟨_, i2, k2, rf2⟩ := RT_get C1.2.2.1 hq
  rw [r60] at i2 rf2
  rw [htm]
  exact RR_row (σ := r_a σ O_is p (vp_nar .boolean 0)) (by omega) (fun _ _ => rfl) (frr_chg _ _ _) (by rw [is_chg]; exact i2) (okF_chg k2) (RF_chg rf2 tm) C1
theorem Fok_file {d : sD} (hF : Fok T S d) : (fileOf T S d = none → d_t d = 0 ∧ T (d_p d) = none) ∧ ∀ f, fileOf T S d = some f → ∃ Tr, trOf T S (d_t d) = some Tr ∧ Tr (d_p d) = some f := by
  obtain ⟨h1, h2, h3, h4, h5⟩ := hF
  unfold fileOf trOf
  by_cases e : d_t d = 0
  · rw [if_pos e]
    exact ⟨fun z => ⟨e, z⟩, fun f z => ⟨T, rfl, z⟩⟩
  · rw [if_neg e]
    obtain ⟨Tr, f, g1, g2⟩ := h4 (by omega)
    rw [g1]
    refine ⟨fun z => ?_, fun f z => ⟨Tr, rfl, z⟩⟩
    have z : Tr (d_p d) = none := z
    rw [g2] at z
    cases z
set_option maxHeartbeats 2000000 in
theorem rt_rem (hM : RM am h) (hg : ge 0 ≤ am) (hC : RR σ0 σ L A T S J fm fc gv tm ms) (hw : wfT T gv) {j : Nat} {x : Int32} {d : sD} (hr : rfi σ fm fc j x d) (hF : Fok T S d) {lost : Int32} (hl1 : fileOf T S d = none → lost = 1) (hl0 : ∀ f, fileOf T S d = some f → lost = 0) (he : σ.1 F_error = 0) (hsy : σ.1 F_sync = sy) (Z : mm_M → Prop)
    (hZ : ∀ σ', RP σ0 L A S J tm ms sy (spRem T fm fc gv tm x d (fileOf T S d)) σ' → Z (r_em am σ' h)) : wq_Model_removes ge am (nI j) lost (r_em am σ h) Z := by
  have hs := hM
  unfold RM at hs
  have hr0 := hr
  obtain ⟨r1, r2, r3, r4, r5, r6, r7, r8, r9⟩ := hr
  have hj : vp_in (nI j) 24 := vp_in_nI (by omega) (by decide)
  have hjc : (nI j).toNatClampNeg = j := nI_clamp (by omega)
  have hp := hF.1
  have er : ∀ no : Int32, ¬ no = 0 → spRem T fm fc gv tm x d (fileOf T S d) = (no, [], T, fset fm x none, fc - 1, gv) → wq_Model_removes_13 ge am (nI j) no (r_em am σ h) Z := by
    intro no hno hsp
    unfold wq_Model_removes_13 wq_Model_removes_37
    simp only [hs, rk, rn, rP, rI, hj, hjc, r6, true_and, Option.some.injEq, exists_eq_left', Nat.reduceLT]
    refine rt_gone hM hg hC hr0 _ (fun σ1 a1 C1 => ⟨fun z => absurd z hno, fun _ => ?_⟩)
    simp only [hs, rk, true_and]
    refine rq_fails1 hM hg σ1 no _ ⟨fun z => absurd z (by decide), fun _ => hZ _ ?_⟩
    rw [hsp]
    refine ⟨by rw [rf1, if_pos rfl], by rw [rf1, if_neg (by decide), a1 _ (by decide)]; exact hsy, A, fun z => absurd z hno, RR_f no ?_ C1⟩
    unfold rlf
    decide
  unfold wq_Model_removes wq_Model_removes_0
  cases hfo : fileOf T S d with
  | none =>
    refine ⟨fun z => absurd z (by rw [hl1 hfo]; decide), fun _ => er 4 (by decide) ?_⟩
    rw [hfo]
    rfl
  | some f =>
    refine ⟨fun _ => ?_, fun z => absurd (hl0 f hfo) z⟩
    obtain ⟨Tr, hto, hf⟩ := (Fok_file hF).2 f hfo
    simp only [hs, rk, true_and]
    refine rt_whyNot hM hC hr0 hp hto hf _ ?_
    by_cases hn : whyN T d f = 0
    · have hsp : spRem T fm fc gv tm x d (fileOf T S d) = (0, [], drp T (d_p d) tm, fset fm x none, fc - 1, gv) := by rw [hfo]; exact cif_y hn
      have n3 : ¬ (d_p d = 0 ∨ ¬ d_t d = 0) := fun z => by
        have : whyN T d f = 3 := cif_y z
        rw [this] at hn
        exact absurd hn (by decide)
      have ht0 : d_t d = 0 := Decidable.not_not.mp (fun z => n3 (Or.inr z))
      have hTT : T (d_p d) = some f := by
        unfold trOf at hto
        rw [if_pos ht0] at hto
        rw [Option.some.inj hto]
        exact hf
      rw [hn]
      unfold wq_Model_removes_13 wq_Model_removes_37
      simp only [hs, rk, rn, rP, rI, hj, hjc, r6, true_and, Option.some.injEq, exists_eq_left', Nat.reduceLT]
      refine rt_gone hM hg hC hr0 _ (fun σ1 a1 C1 => ⟨fun _ => ?_, fun z => absurd trivial z⟩)
      simp only [hs, rk, true_and]
      refine rq_fails0 hM hg σ1 0 _ ⟨fun _ => ?_, fun z => absurd rfl z⟩
      simp only [hs, rk, true_and]
      refine rt_leaves hM hg C1 hw hTT (fun z => n3 (Or.inl z)) _ (fun σ2 a2 C2 => hZ _ ?_)
      rw [hsp]
      exact ⟨by rw [a2, a1 _ (by decide)]; exact he, by rw [a2, a1 _ (by decide)]; exact hsy, A, fun _ => (List.append_nil A).symm, C2⟩
    · exact er _ hn (by rw [hfo]; exact cif_n hn)
/-! writes -/
theorem r_zf_at (x : Nat) : ∀ (m k : Nat) (σ : rS) (o j : Nat), (r_zf x k m σ).2.2 o j = if o = O_data ∧ 512 * x + k ≤ j ∧ j < 512 * x + k + m then 0 else σ.2.2 o j
  | 0, k, σ, o, j => by rw [if_neg (by omega)]; rfl
  | m + 1, k, σ, o, j => by
    show (r_zf x (k + 1) m (r_a σ O_data (512 * x + k) 0)).2.2 o j = _
    rw [r_zf_at x m (k + 1), raa]
    by_cases c : o = O_data ∧ 512 * x + (k + 1) ≤ j ∧ j < 512 * x + (k + 1) + m
    · rw [if_pos c, if_pos (by omega)]
    · rw [if_neg c]
      by_cases e : o = O_data ∧ j = 512 * x + k
      · rw [if_pos e, if_pos (by omega)]
      · rw [if_neg e, if_neg (by omega)]
theorem r_zf_1 (x : Nat) : ∀ (m k : Nat) (σ : rS), (r_zf x k m σ).1 = σ.1 ∧ (r_zf x k m σ).2.1 = σ.2.1
  | 0, _, _ => ⟨rfl, rfl⟩
  | m + 1, k, σ => r_zf_1 x m (k + 1) _
theorem tp_out {D : List Int32} {k : Nat} (hk : D.length ≤ k) : tp D k = 0 := by
  unfold tp
  rw [List.getD_eq_getElem?_getD, List.getElem?_eq_none hk]; rfl
theorem rt_sizes (hM : RM am h) (hg : ge 0 ≤ am) {x n : Nat} {f : sF} (hx : x < 1680) (hk : okF f) (hf : RF σ x f) (hn : n ≤ 512) (Z : mm_M → Prop)
    (hZ : ∀ σ', σ'.1 = σ.1 → σ'.2.1 = σ.2.1 → frr x (x + 1) σ σ' → σ'.2.2 O_is x = σ.2.2 O_is x → RF σ' x (f_in f, f_nm f, f_md f, f_vs f, f_mt f, rsz (f_dt f) n) → Z (r_em am σ' h)) : wq_Model_sizes ge am (nI x) (nI n) (r_em am σ h) Z := by
  obtain ⟨h1, h2, h3, h4, ⟨h5, h6⟩, h7, h8⟩ := hf
  have hd := hk.2.2.1
  have lo : ∀ o i, ¬ o = O_data → ¬ o = O_size → (r_a (r_zf x (f_dt f).length (n - (f_dt f).length) σ) O_size x (nI n)).2.2 o i = σ.2.2 o i := fun o i z1 z2 => by rw [ra_n z2, r_zf_at, if_neg (fun w => z1 w.1)]
  refine rq_sizes hM hg σ hx h7 hd hn Z (hZ _ (r_zf_1 _ _ _ _).1 (r_zf_1 _ _ _ _).2 ?_ (lo _ _ (by decide) (by decide)) ⟨?_, ?_, ?_, ?_, ⟨?_, fun k hk => ?_⟩, ?_, fun k hk => ?_⟩)
  · intro o i x7 x8 x9
    rw [raa, if_neg, r_zf_at, if_neg]
    · rintro ⟨z1, z2⟩
      have := x9 z1
      omega
    · rintro ⟨z1, z2⟩
      have := x7 (by rw [z1]; decide)
      omega
  · rw [lo _ _ (by decide) (by decide)]; exact h1
  · rw [lo _ _ (by decide) (by decide)]; exact h2
  · rw [lo _ _ (by decide) (by decide)]; exact h3
  · rw [lo _ _ (by decide) (by decide)]; exact h4
  · rw [lo _ _ (by decide) (by decide)]; exact h5
  · rw [lo _ _ (by decide) (by decide)]; exact h6 k hk
  · rw [ra_y]
    show nI n = nI (rsz (f_dt f) n).length
    rw [rsz_len]
  · have hk' : k < n := by
      have : k < (rsz (f_dt f) n).length := hk
      rw [rsz_len] at this
      exact this
    show _ = tp (rsz (f_dt f) n) k
    rw [tp_some (rsz_get (f_dt f) n k hk'), ra_n (by decide), r_zf_at]
    by_cases c : k < (f_dt f).length
    · rw [if_neg (by omega)]
      exact h8 k c
    · rw [if_pos ⟨rfl, by omega, by omega⟩, tp_out (by omega)]
theorem rsz_self (D : List Int32) : rsz D D.length = D := tp_ext (rsz_len _ _) (fun k hk => by rw [rsz_len] at hk; exact tp_some (rsz_get D _ k hk))
theorem tp_ovw {D X : List Int32} {s : Nat} (hs : s + X.length ≤ D.length) (j : Nat) : tp (ovw D X s) j = if s ≤ j ∧ j < s + X.length then tp X (j - s) else tp D j := by
  unfold tp
  rw [List.getD_eq_getElem?_getD, List.getD_eq_getElem?_getD, List.getD_eq_getElem?_getD, ovw_get hs]
  split <;> rfl
set_option maxHeartbeats 4000000 in
theorem rt_wri (hM : RM am h) (hg : ge 0 ≤ am) (hC : RR σ0 σ L A T S J fm fc gv tm ms) (hA : A.length = 7) {j : Nat} {x : Int32} {d : sD} (hr : rfi σ fm fc j x d) (hFk : Fok T S d) {f : sF} (hto : trOf T S (d_t d) = some Tr) (hf : Tr (d_p d) = some f) {off : Int64} {X : List Int32} {a : Nat} (ho : σ.2.1 F_mOffset = off) (ha : σ.1 F_mData = nI a) (hc : σ.2.1 F_mCount = lN X.length) (hal : a + X.length ≤ L.length) (eX : X = slc L a X.length) (he : σ.1 F_error = 0) (hsy : σ.1 F_sync = sy) (Z : mm_M → Prop)
    (hZ : ∀ σ', RP σ0 L A S J tm ms sy (spWri T fm fc gv tm d f off X) σ' → Z (r_em am σ' h)) : wq_Model_writes ge am (nI j) (r_em am σ h) Z := by
  have hs := hM
  unfold RM at hs
  have er : ∀ k : Int32, spWri T fm fc gv tm d f off X = (k, [], T, fm, fc, gv) → ¬ k = 0 → Z (r_em am (r_f σ F_error k) h) := fun k hk nk => hZ _ (RP_er hC hsy hk nk)
  obtain ⟨r1, r2, r3, r4, r5, r6, r7, r8, r9⟩ := hr
  have hj : vp_in (nI j) 24 := vp_in_nI (by omega) (by decide)
  have hjc : (nI j).toNatClampNeg = j := nI_clamp (by omega)
  obtain ⟨p, ep⟩ : ∃ p, p = d_p d := ⟨_, rfl⟩
  have hp : p < 60 := by rw [ep]; exact hFk.1
  have hta := hC.1
  have hL := hta.2.2
  have htm := hC.2.2.2.2.2.2.1.2.1
  obtain ⟨n, en⟩ : ∃ n, n = X.length := ⟨_, rfl⟩
  rw [← en] at hc hal
  have hin : vp_in (nI p) 1680 := vp_in_nI (by omega) (by decide)
  have hcl : (nI p).toNatClampNeg = p := nI_clamp (by omega)
  have p3 : (¬ 0 ≤ d_m d ∨ d_m d &&& 3 = 0) → wq_Model_writes_23 ge am (nI j) (some am) (r_em am σ h) Z := by
    intro n3
    unfold wq_Model_writes_23 wq_Model_writes_28 wq_Model_writes_84
    simp only [hs, rk, true_and, Option.some.injEq, exists_eq_left']
    exact rq_fails1 hM hg σ 3 _ ⟨fun _ => er 3 (cif_y n3) (by decide), fun z => absurd z (by decide)⟩
  have fin3 : ¬ (¬ 0 ≤ d_m d ∨ d_m d &&& 3 = 0) → wq_Model_writes_28 ge am (nI j) (some am) 0 (r_em am σ h) Z := by
    intro n3
    obtain ⟨ht0, hfile⟩ := hFk.2.2.2.2 n3
    have hTT : T p = some f := by
      unfold trOf at hto
      rw [if_pos ht0] at hto
      rw [Option.some.inj hto, ep]
      exact hf
    obtain ⟨_, i1, k1, rf⟩ := RT_get hC.2.2.1 hTT
    rw [r60] at i1 rf
    have hfil : 0 ≤ f_md f := hfile f (by rw [← ep]; exact hTT)
    have l512 := k1.2.2.1
    have p5 : (off < 0 ∨ 512 < off ∨ 512 < (Int64.toInt32 off).toNatClampNeg + X.length) → wq_Model_writes_72 ge am (nI j) (some am) (r_em am σ h) Z := by
      intro n5
      unfold wq_Model_writes_72 wq_Model_writes_77 wq_Model_writes_84
      simp only [hs, rk, true_and, Option.some.injEq, exists_eq_left']
      exact rq_fails1 hM hg σ 5 _ ⟨fun z => absurd z (by decide), fun _ => er 5 ((cif_n n3).trans (cif_y n5)) (by decide)⟩
    unfold wq_Model_writes_28 wq_Model_writes_84
    simp only [hs, rk, true_and, Option.some.injEq, exists_eq_left']
    refine rq_fails0 hM hg σ 3 _ ⟨fun z => absurd rfl z, fun _ => ?_⟩
    simp only [hs, rk, rL0, ho, hc, lg_cmp_lt, lg_cmp_gt, lg_cmp_le, true_and]
    refine ⟨fun z => p5 (Or.inl z), fun z1 => ⟨fun z => p5 (Or.inr (Or.inl z)), fun z2 => ?_⟩⟩
    obtain ⟨s, hs5, es1, es2⟩ := l_of (n := 512) (by decide) z1 z2
    have hsc : (Int64.toInt32 off).toNatClampNeg = s := by rw [es2, nI_clamp (by omega)]
    rw [es1, lN_add, show (512 : Int64) = lN 512 from rfl, lN_le (by omega) (by decide)]
    refine ⟨fun z3 => ?_, fun z3 => p5 (Or.inr (Or.inr (by rw [hsc, ← en]; omega)))⟩
    have n5 : ¬ (off < 0 ∨ 512 < off ∨ 512 < (Int64.toInt32 off).toNatClampNeg + X.length) := fun y => by
      rcases y with y | y | y
      · exact z1 y
      · exact z2 y
      · rw [hsc, ← en] at y; omega
    have hsp : spWri T fm fc gv tm d f off X = (0, le 4 (nI n).toInt64, cif (X = []) T (tset T p (some (wdt f tm (ovw (rsz (f_dt f) (max (f_dt f).length (s + n))) X s)))), fm, fc, gv) := by
      refine (cif_n n3).trans ((cif_n n5).trans ?_)
      rw [hsc, ← en, ← ep]
    have e0 : (nI n ≤ 0) ↔ X = [] := by
      rw [show (0 : Int32) = nI 0 from rfl, nI_leI (by omega) (by decide)]
      exact ⟨fun y => List.eq_nil_of_length_eq_zero (by omega), fun y => by rw [en, y]; simp⟩
    have p188 : ∀ (σ2 : rS) (T2 : sT), RR σ0 σ2 L A T2 S J fm fc gv tm ms → (∀ k, σ2.1 k = σ.1 k) → cif (X = []) T (tset T p (some (wdt f tm (ovw (rsz (f_dt f) (max (f_dt f).length (s + n))) X s)))) = T2 → wq_Model_writes_188 ge am (nI n) (r_em am σ2 h) Z := by
      intro σ2 T2 C2 g1 hT2
      unfold wq_Model_writes_188
      simp only [hs, rk, true_and]
      refine rp_put (n := 4) hM hg σ2 C2.2.1.1.1 (by omega) _ _ ?_
      refine hZ _ ?_
      rw [hsp, hT2]
      refine ⟨?_, ?_, _, fun _ => rfl, RR_ap _ (by rw [le_len]; omega) C2⟩
      · rw [ap_fd _ _ (by decide), g1]; exact he
      · rw [ap_fd _ _ (by decide), g1]; exact hsy
    have t32 : Int64.toInt32 (lN n) = nI n := lN_i n
    have s32 : Int64.toInt32 (lN s) = nI s := lN_i s
    have go : ∀ (σ1 : rS) (D : List Int32), (∀ k, σ1.1 k = σ.1 k) → frr p (p + 1) σ σ1 → σ1.2.2 O_is p = 1 → RF σ1 p (f_in f, f_nm f, f_md f, f_vs f, f_mt f, D) → D = rsz (f_dt f) (max (f_dt f).length (s + n)) → ¬ X = [] → wq_Model_writes_139 ge am (nI p) (nI n) (nI s) (r_em am σ1 h) Z := by
      intro σ1 D g1 G1 i2 F1 eD hX0
      have hDl : D.length = max (f_dt f).length (s + n) := by rw [eD, rsz_len]
      have hsD : s + X.length ≤ D.length := by rw [hDl, ← en]; omega
      have hta1 : ∀ k, k < L.length → σ1.2.2 O_tape k = tp L k := fun k hk => (G1 _ _ (fun w => absurd w (by decide)) (fun w => absurd w (by decide)) (fun w => absurd w (by decide))).trans (hta.1 k hk)
      unfold wq_Model_writes_139 lp_Model_writes_142
      intro Y hY
      have key : ∀ (m k : Nat) (τ : rS), k + m = n → (∀ i, τ.1 i = σ1.1 i) → (∀ o i, ¬ (o = O_data ∧ 512 * p + s ≤ i ∧ i < 512 * p + s + k) → τ.2.2 o i = σ1.2.2 o i) → (∀ i, i < k → τ.2.2 O_data (512 * p + s + i) = tp X i) → Y am (nI p) (nI n) (nI s) (nI k) (r_em am τ h) := by
        intro m
        induction m with
        | zero =>
          intro k τ hk t1 t2 t3
          refine hY _ _ _ _ _ _ ?_
          unfold wq_Model_writes_142
          refine ⟨fun _ => ?_, fun z => absurd (nI_le (by omega) (by omega)) z⟩
          have hkn : k = n := by omega
          subst hkn
          have F2 : RF τ p (f_in f, f_nm f, f_md f, f_vs f, f_mt f, ovw D X s) := by
            obtain ⟨u1, u2, u3, u4, ⟨u5, u6⟩, u7, u8⟩ := F1
            have lo : ∀ o i, ¬ o = O_data → τ.2.2 o i = σ1.2.2 o i := fun o i z => t2 o i (fun w => z w.1)
            refine ⟨(lo _ _ (by decide)).trans u1, (lo _ _ (by decide)).trans u2, (lo _ _ (by decide)).trans u3, (lo _ _ (by decide)).trans u4, ⟨(lo _ _ (by decide)).trans u5, fun i hi => (lo _ _ (by decide)).trans (u6 i hi)⟩, (lo _ _ (by decide)).trans ?_, fun i hi => ?_⟩
            · rw [u7]
              show nI D.length = nI (ovw D X s).length
              rw [ovw_len hsD]
            · show _ = tp (ovw D X s) i
              have hi : i < (ovw D X s).length := hi
              rw [ovw_len hsD] at hi
              rw [tp_ovw hsD]
              by_cases c : s ≤ i ∧ i < s + X.length
              · rw [if_pos c, show 512 * p + i = 512 * p + s + (i - s) by omega]
                exact t3 _ (by omega)
              · rw [if_neg c, t2 _ _ (fun w => c (by omega))]
                exact u8 i hi
          have G2 : frr p (p + 1) σ τ := frr_2 G1 (fun o i x7 x8 x9 => t2 o i (fun w => by have := x9 w.1; omega))
          simp only [hs, rk, true_and]
          refine rt_changed (tm := tm) hM hg (by omega) F2 (by rw [t1, g1]; exact htm) _ (fun σ3 c1 c2 c3 c4 c5 => ?_)
          have e1 : chg (f_in f, f_nm f, f_md f, f_vs f, f_mt f, ovw D X s) tm = wdt f tm (ovw D X s) := rfl
          rw [e1] at c5
          have hXB : allB X := by rw [eX]; exact slc_B hta.2.1 _ _
          have kk : okF (wdt f tm (ovw D X s)) := okF_wdt k1 (by rw [ovw_len hsD]; omega) (ovw_B (by rw [eD]; exact rsz_B k1.2.2.2.2.1 _) hXB s) (fun z => absurd hfil z)
          have q3 : ∀ i, σ3.1 i = σ.1 i := fun i => by rw [c1, t1, g1]
          have i3 : σ3.2.2 O_is p = 1 := by rw [c4, t2 _ _ (fun w => absurd w.1 (by decide))]; exact i2
          have C3 := RR_row hp (fun i _ => q3 i) (frr_2 G2 c3) i3 kk c5 hC
          exact p188 σ3 _ C3 q3 (by rw [cif_n hX0, ← eD])
        | succ m ih =>
          intro k τ hk t1 t2 t3
          refine hY _ _ _ _ _ _ ?_
          have w1 : vp_in (nI (512 * p + s + k)) 860160 := vp_in_nI (by omega) (by decide)
          have w2 : (nI (512 * p + s + k)).toNatClampNeg = 512 * p + s + k := nI_clamp (by omega)
          have w3 : vp_in (nI (a + k)) 1400 := vp_in_nI (by omega) (by decide)
          have w4 : (nI (a + k)).toNatClampNeg = a + k := nI_clamp (by omega)
          have v1 : τ.1 F_mData = nI a := by rw [t1, g1]; exact ha
          have v2 : τ.2.2 O_tape (a + k) = tp X k := by
            rw [t2 _ _ (fun w => absurd w.1 (by decide)), hta1 _ (by omega), eX, slc_tp (by omega)]
          unfold wq_Model_writes_142
          refine ⟨fun z => absurd z (nI_ge (by omega) (by omega)), fun _ => ?_⟩
          simp only [hs, rk, rn, rP, rI0, rI, rU, v1, r_nmD, nI_add, w1, w2, w3, w4, v2, ge0 hg, true_and, Option.some.injEq, exists_eq_left', forall_eq, Nat.reduceLT]
          rw [show nI k + 1 = nI (k + 1) from (nI_succ k).symm]
          refine ih (k + 1) _ (by omega) t1 (fun o i z => ?_) (fun i hi => ?_)
          · rw [raa, if_neg (fun w => z ⟨w.1, by omega, by omega⟩)]
            exact t2 o i (fun w => z ⟨w.1, by omega, by omega⟩)
          · rw [raa]
            by_cases c : i = k
            · rw [if_pos ⟨rfl, by omega⟩, c]
            · rw [if_neg (fun w => c (by omega))]
              exact t3 i (by omega)
      exact key n 0 σ1 (by omega) (fun _ => rfl) (fun _ _ _ => rfl) (fun i hi => absurd hi (by omega))
    unfold wq_Model_writes_77 wq_Model_writes_84 wq_Model_spot wq_Model_spot_0
    simp only [hs, rk, true_and, Option.some.injEq, exists_eq_left']
    refine rq_fails0 hM hg σ 5 _ ⟨fun _ => ?_, fun z => absurd rfl z⟩
    rw [← ep] at r6
    simp only [hs, rk, rn, rP, rI, rL0, hj, hjc, r6, r_z60, ho, hc, es1, t32, s32, hin, hcl, rf.2.2.2.2.2.1, nI_add, true_and, Option.some.injEq, exists_eq_left', Nat.reduceLT]
    refine ⟨fun z => p188 σ T hC (fun _ => rfl) (cif_y (e0.mp z)), fun z => ?_⟩
    have hX0 : ¬ X = [] := fun y => z (e0.mpr y)
    rw [nI_leI (by omega) (by omega)]
    refine ⟨fun z4 => ?_, fun z4 => ?_⟩
    · refine go σ (f_dt f) (fun _ => rfl) (frr_rf _ _ _) i1 rf ?_ hX0
      rw [Nat.max_eq_left z4, rsz_self]
    · refine rt_sizes hM hg (by omega) k1 rf (by omega) _ (fun σ1 b1 b2 b3 b4 b5 => ?_)
      exact go σ1 _ (fun k => by rw [b1]) b3 (b4.trans i1) b5 (by rw [Nat.max_eq_right (by omega)]) hX0
  unfold wq_Model_writes wq_Model_writes_0
  simp only [hs, rk, rn, rP, rI, hj, hjc, r7, true_and, Option.some.injEq, exists_eq_left', Nat.reduceLT]
  exact ⟨fun z => p3 (Or.inl (Int32.not_le.mpr z)), fun z => ⟨fun z2 => fin3 (fun y => y.elim (fun w => w (Int32.not_lt.mp z)) z2), fun z2 => p3 (Or.inr z2)⟩⟩
end RD
