/-! the reference: names, children, places; creates -/
theorem slc_eq {L X : List Int32} {a n : Nat} (hal : a + n ≤ L.length) (h1 : X.length = n) (h2 : ∀ k, k < n → tp X k = tp L (a + k)) : X = slc L a n :=
  tp_ext (by rw [h1, slc_len hal]) (fun k hk => by rw [slc_tp (by omega)]; exact h2 k (by omega))
theorem tp_mem {X : List Int32} {x : Int32} (hx : x ∈ X) : ∃ k, k < X.length ∧ tp X k = x := by
  obtain ⟨k, hk, e⟩ := List.getElem_of_mem hx
  exact ⟨k, hk, tp_some (by rw [List.getElem?_eq_getElem hk, e])⟩
theorem mem_tp {X : List Int32} {k : Nat} (hk : k < X.length) : tp X k ∈ X := List.mem_of_getElem? (tp_get hk)
section RN
variable {ge : Nat → Nat} {am : Nat} {h : mm_M} {σ0 σ σ' : rS} {L A : List Int32} {T Tr : sT} {S J : List sT} {fm : sM} {fc gv : Nat} {tm : Int32} {ms : Nat} {sy : Int32}
theorem r_ch_iff {t a n p : Nat} {x : Int32} (hT : RT σ t Tr) (hta : Rta σ L) (hal : a + n ≤ L.length) (hp1 : 1 ≤ p) (hp : p < 60) : r_ch σ t x a n p ↔ isCh Tr x (slc L a n) p := by
  have hL := hta.2.2
  unfold r_ch isCh r_tq
  constructor
  · rintro ⟨h1, h2, h3, h4⟩
    obtain ⟨f, k1, k2, k3⟩ := RT_some hT hp h1
    have l20 := k2.2.1
    rw [k3.2.2.2.2.1.1] at h3
    have hl := (nI_eq (by omega) (by omega)).mp h3
    refine ⟨by omega, f, k1, k3.1.symm.trans h2, slc_eq hal hl (fun k hk => ?_)⟩
    rw [← k3.2.2.2.2.1.2 k (by omega), h4 k hk, hta.1 _ (by omega)]
  · rintro ⟨_, f, k1, k2, k3⟩
    obtain ⟨_, i1, k4, k5⟩ := RT_get hT k1
    have hl : (f_nm f).length = n := by rw [k3]; exact slc_len hal
    refine ⟨by rw [i1]; decide, k5.1.trans k2, by rw [k5.2.2.2.2.1.1, hl], fun k hk => ?_⟩
    rw [k5.2.2.2.2.1.2 k (by omega), k3, slc_tp hk, hta.1 _ (by omega)]
theorem rt_child (hM : RM am h) {t a n : Nat} {x : Int32} (ht : t < 28) (hT : RT σ t Tr) (hta : Rta σ L) (hal : a + n ≤ L.length) (Z : Int32 → mm_M → Prop)
    (h1 : ∀ p : Nat, 1 ≤ p → p < 60 → chl Tr x (slc L a n) = some p → Z (nI p) (r_em am σ h)) (h0 : chl Tr x (slc L a n) = none → Z (-1) (r_em am σ h)) : wq_Model_child ge am (nI t) x (nI a) (nI n) (r_em am σ h) Z := by
  have hL := hta.2.2
  refine rq_child hM σ ht x (by omega) (fun p hp hi hn => ?_) (by omega) Z (fun p p1 p2 hc hno => h1 p p1 p2 ?_) (fun hno => h0 ?_)
  · obtain ⟨f, k1, k2, k3⟩ := RT_some hT hp hi
    have l20 := k2.2.1
    rw [k3.2.2.2.2.1.1] at hn
    have := (nI_eq (by omega) (by omega)).mp hn
    omega
  · exact fsti_y ((r_ch_iff hT hta hal p1 p2).mp hc) 59 1 p1 (by omega) (fun q q1 q2 z => hno q q1 q2 ((r_ch_iff hT hta hal q1 (by omega)).mpr z))
  · exact fsti_n 59 1 (fun q q1 q2 z => hno q q1 (by omega) ((r_ch_iff hT hta hal q1 (by omega)).mpr z))
theorem r_nok_iff {a n : Nat} (hta : Rta σ L) (hal : a + n ≤ L.length) : r_nok σ a n ↔ nmOk (slc L a n) := by
  have hl : (slc L a n).length = n := slc_len hal
  have ht : ∀ k, k < n → σ.2.2 O_tape (a + k) = tp (slc L a n) k := fun k hk => by rw [hta.1 _ (by omega), slc_tp hk]
  generalize slc L a n = X at hl ht
  unfold r_nok nmOk
  constructor
  · rintro ⟨h1, h2, h3, h4⟩
    refine ⟨by omega, by omega, fun x hx => ?_, ?_⟩
    · obtain ⟨k, hk, e⟩ := tp_mem hx
      have := h4 k (by omega)
      rw [ht k (by omega), e] at this
      exact this
    · rintro (e | e)
      · have e1 : n = 1 := by rw [← hl, e]; rfl
        have h0 := ht 0 (by omega)
        refine h3 ⟨by omega, h0.trans (by rw [e]; rfl), ?_⟩
        rw [e1]
        exact h0.trans (by rw [e]; rfl)
      · have e1 : n = 2 := by rw [← hl, e]; rfl
        refine h3 ⟨by omega, (ht 0 (by omega)).trans (by rw [e]; rfl), ?_⟩
        rw [e1]
        exact (ht 1 (by omega)).trans (by rw [e]; rfl)
  · rintro ⟨h1, h2, h3, h4⟩
    refine ⟨by omega, by omega, ?_, fun k hk => ?_⟩
    · rintro ⟨z1, z2, z3⟩
      have z2' : tp X 0 = 46 := (ht 0 (by omega)).symm.trans z2
      rcases (by omega : n = 1 ∨ n = 2) with e | e
      · refine h4 (Or.inl (tp_ext (by rw [hl, e]; rfl) (fun k hk => ?_)))
        rw [show k = 0 by omega, z2']; rfl
      · refine h4 (Or.inr (tp_ext (by rw [hl, e]; rfl) (fun k hk => ?_)))
        rw [e] at z3
        have z3' : tp X 1 = 46 := (ht 1 (by omega)).symm.trans z3
        rcases (by omega : k = 0 ∨ k = 1) with e | e
        · rw [e, z2']; rfl
        · rw [e, z3']; rfl
    · rw [ht k hk]
      exact h3 _ (mem_tp (by omega))
theorem rt_isName (hM : RM am h) {a n : Nat} (hta : Rta σ L) (hal : a + n ≤ L.length) (Z : Int32 → mm_M → Prop)
    (h1 : nmOk (slc L a n) → Z 1 (r_em am σ h)) (h0 : ¬ nmOk (slc L a n) → Z 0 (r_em am σ h)) : wq_Model_isName ge am (nI a) (nI n) (r_em am σ h) Z := by
  have hL := hta.2.2
  exact rq_isName hM σ (by omega) (by omega) Z (fun z => h1 ((r_nok_iff hta hal).mp z)) (fun z => h0 (fun w => z ((r_nok_iff hta hal).mpr w)))
theorem r_nl_at (x a : Nat) : ∀ (m k : Nat) (σ : rS) (o j : Nat), (r_nl x a k m σ).2.2 o j = if o = O_name ∧ 20 * x + k ≤ j ∧ j < 20 * x + k + m then σ.2.2 O_tape (a + (j - 20 * x)) else σ.2.2 o j
  | 0, k, σ, o, j => by rw [if_neg (by omega)]; rfl
  | m + 1, k, σ, o, j => by
    show (r_nl x a (k + 1) m (r_a σ O_name (20 * x + k) (σ.2.2 O_tape (a + k)))).2.2 o j = _
    rw [r_nl_at x a m (k + 1), ra_n (o' := O_tape) (by decide), raa]
    by_cases c : o = O_name ∧ 20 * x + (k + 1) ≤ j ∧ j < 20 * x + (k + 1) + m
    · rw [if_pos c, if_pos (by omega)]
    · rw [if_neg c]
      by_cases e : o = O_name ∧ j = 20 * x + k
      · rw [if_pos e, if_pos (by omega), e.2, show 20 * x + k - 20 * x = k by omega]
      · rw [if_neg e, if_neg (by omega)]
theorem r_nl_1 (x a : Nat) : ∀ (m k : Nat) (σ : rS), (r_nl x a k m σ).1 = σ.1 ∧ (r_nl x a k m σ).2.1 = σ.2.1
  | 0, _, _ => ⟨rfl, rfl⟩
  | m + 1, k, σ => r_nl_1 x a m (k + 1) _
theorem rt_names (hM : RM am h) (hg : ge 0 ≤ am) {x a n : Nat} (hx : x < 1680) (hn : n ≤ 20) (hta : Rta σ L) (hal : a + n ≤ L.length) (Z : mm_M → Prop)
    (hZ : ∀ σ', σ'.1 = σ.1 → σ'.2.1 = σ.2.1 → frr x (x + 1) σ σ' → (∀ o, o ≤ 6 → σ'.2.2 o x = σ.2.2 o x) → (∀ j, σ'.2.2 O_data j = σ.2.2 O_data j) → (σ'.2.2 O_nameSize x = nI (slc L a n).length ∧ rl (σ'.2.2 O_name) (20 * x) (slc L a n)) → Z (r_em am σ' h)) : wq_Model_names ge am (nI x) (nI a) (nI n) (r_em am σ h) Z := by
  have hL := hta.2.2
  refine rq_names hM hg σ hx hn (by omega) Z (hZ _ ?_ ?_ ?_ ?_ ?_ ⟨?_, ?_⟩)
  · exact (r_nl_1 _ _ _ _ _).1
  · exact (r_nl_1 _ _ _ _ _).2
  · intro o j h7 h8 _
    rw [r_nl_at, if_neg, raa, if_neg]
    · rintro ⟨z1, z2⟩
      have := h7 (by rw [z1]; decide)
      omega
    · rintro ⟨z1, z2⟩
      have := h8 z1
      omega
  · intro o ho
    rw [r_nl_at, if_neg (fun z => by have : o = 8 := z.1; omega), ra_n (by show ¬ o = 7; omega)]
  · intro j
    rw [r_nl_at, if_neg (fun z => absurd z.1 (by decide)), ra_n (by decide)]
  · rw [r_nl_at, if_neg (fun z => absurd z.1 (by decide)), ra_y, slc_len hal]
  · intro k hk
    rw [slc_len hal] at hk
    rw [r_nl_at, if_pos ⟨rfl, by omega, by omega⟩, ra_n (by decide), show 20 * x + k - 20 * x = k by omega, hta.1 _ (by omega), slc_tp hk]
theorem rt_changed (hM : RM am h) (hg : ge 0 ≤ am) {y : Nat} {f : sF} (hy : y < 1680) (hf : RF σ y f) (hti : σ.1 F_time = tm) (Z : mm_M → Prop)
    (hZ : ∀ σ', σ'.1 = σ.1 → σ'.2.1 = σ.2.1 → frr y (y + 1) σ σ' → σ'.2.2 O_is y = σ.2.2 O_is y → RF σ' y (chg f tm) → Z (r_em am σ' h)) : wq_Model_changed ge am (nI y) (r_em am σ h) Z := by
  refine rq_changed hM hg σ hy Z (hZ _ rfl rfl (frr_chg _ _ _) (is_chg _ _ _ _) ?_)
  rw [hti]
  exact RF_chg hf tm
theorem rt_place (hM : RM am h) (hg : ge 0 ≤ am) {f t p : Nat} (hf : f < 24) (x : Int32) (Z : mm_M → Prop)
    (hZ : ∀ σ', σ'.1 = σ.1 → σ'.2.1 = σ.2.1 → (∀ o i, ¬ (12 ≤ o ∧ o ≤ 17 ∧ i = f) → σ'.2.2 o i = σ.2.2 o i) → σ'.2.2 O_fNumber f = x → rrow σ' f (t, p, -1, 0, 0) → Z (r_em am σ' h)) : wq_Model_place ge am (nI f) x (nI t) (nI p) (r_em am σ h) Z :=
  rq_place hM hg σ hf x (nI t) (nI p) Z (hZ _ rfl rfl (fun o i z => by rw [r_pl_at, if_neg (fun w => z ⟨w.2.1, w.2.2, w.1⟩)]) (r_pl_n _ _ _ _) (r_pl_row _ _ _ _))
theorem rrow_md {j : Nat} {d : sD} (m : Int32) (H : rrow σ j d) : rrow (r_a σ O_fMode j m) j (d_t d, d_p d, m, d_o d, d_l d) := by
  obtain ⟨h1, h2, h3, h4, h5⟩ := H
  refine ⟨?_, ?_, ?_, ?_, ?_⟩
  · rw [ra_n (by decide)]; exact h1
  · rw [ra_n (by decide)]; exact h2
  · rw [ra_y]; rfl
  · rw [ra_n (by decide)]; exact h4
  · rw [ra_n (by decide)]; exact h5
set_option maxHeartbeats 4000000 in
theorem rt_cre (hM : RM am h) (hg : ge 0 ≤ am) (hC : RR σ0 σ L A T S J fm fc gv tm ms) (hA : A.length = 7) (hw : wfT T gv) {j : Nat} {x : Int32} {d : sD} (hr : rfi σ fm fc j x d) (hp : d_p d < 60) {f : sF} (hto : trOf T S (d_t d) = some Tr) (hf : Tr (d_p d) = some f) {X : List Int32} {perm m : Int32} (hX : Rtx σ L X) (hpm : σ.1 F_mPerm = perm) (hm : σ.1 F_mMode = m) (he : σ.1 F_error = 0) (hsy : σ.1 F_sync = sy) (Z : mm_M → Prop)
    (hZ : ∀ σ', RP σ0 L A S J tm ms sy (spCre T fm fc gv tm x d f X perm m) σ' → Z (r_em am σ' h)) : wq_Model_creates ge am (nI j) (r_em am σ h) Z := by
  have hs := hM
  unfold RM at hs
  have er : ∀ k : Int32, spCre T fm fc gv tm x d f X perm m = (k, [], T, fm, fc, gv) → ¬ k = 0 → Z (r_em am (r_f σ F_error k) h) := fun k hk nk => hZ _ (RP_er hC hsy hk nk)
  obtain ⟨r1, r2, r3, r4, r5, r6, r7, r8, r9⟩ := hr
  have hj : vp_in (nI j) 24 := vp_in_nI (by omega) (by decide)
  have hjc : (nI j).toNatClampNeg = j := nI_clamp (by omega)
  obtain ⟨rT, t28⟩ := RR_tr hC hto
  obtain ⟨_, i1, k1, rf⟩ := RT_get rT hf
  obtain ⟨y, ey⟩ : ∃ y, y = 60 * d_t d + d_p d := ⟨_, rfl⟩
  have hy : y < 1680 := by omega
  rw [← ey] at rf i1
  obtain ⟨a, l, ha, hl, hal, eX⟩ := hX
  have hta := hC.1
  have hL := hta.2.2
  have hXl : X.length = l := by rw [eX]; exact slc_len hal
  have e0 : (nI (d_t d) = 0) ↔ d_t d = 0 := by
    show nI (d_t d) = nI 0 ↔ _
    exact nI_eq (by omega) (by decide)
  have hgv := hC.2.2.2.2.2.2.1.1
  have htm := hC.2.2.2.2.2.2.1.2.1
  have g60 := hw.1
  unfold wq_Model_creates wq_Model_creates_0 wq_Model_spot wq_Model_spot_0
  simp only [hs, rk, rn, rP, rI, hj, hjc, r5, r6, r7, r_sp, ← ey, true_and, Option.some.injEq, exists_eq_left', Nat.reduceLT]
  refine ⟨fun q => ?_, fun q => ?_⟩
  rotate_left
  · unfold wq_Model_creates_31 wq_Model_creates_97
    simp only [hs, rk, true_and, Option.some.injEq, exists_eq_left']
    exact rq_fails1 hM hg σ 3 _ ⟨fun _ => er 3 (cif_y (Int32.not_lt.mp q)) (by decide), fun z => absurd z (by decide)⟩
  have n1 : ¬ 0 ≤ d_m d := Int32.not_le.mpr q
  have p5 : (0 ≤ f_md f ∨ ¬ d_t d = 0) → wq_Model_creates_56 ge am (nI j) (nI y) (some am) (r_em am σ h) Z := by
    intro n5
    unfold wq_Model_creates_56 wq_Model_creates_61 wq_Model_creates_97
    simp only [hs, rk, true_and, Option.some.injEq, exists_eq_left']
    exact rq_fails1 hM hg σ 5 _ ⟨fun _ => er 5 ((cif_n n1).trans (cif_y n5)) (by decide), fun z => absurd z (by decide)⟩
  have go : ¬ (0 ≤ f_md f ∨ ¬ d_t d = 0) → wq_Model_creates_61 ge am (nI j) (nI y) (some am) 0 (r_em am σ h) Z := by
    intro n5
    have hd : ¬ 0 ≤ f_md f := fun z => n5 (Or.inl z)
    have ht0 : d_t d = 0 := Decidable.not_not.mp (fun z => n5 (Or.inr z))
    have hTT : T (d_p d) = some f := by
      unfold trOf at hto
      rw [if_pos ht0] at hto
      rw [Option.some.inj hto]
      exact hf
    have hyp : y = d_p d := by omega
    unfold wq_Model_creates_61 wq_Model_creates_97
    simp only [hs, rk, true_and, Option.some.injEq, exists_eq_left']
    refine rq_fails0 hM hg σ 5 _ ⟨fun z => absurd rfl z, fun _ => ?_⟩
    simp only [hs, rk, rI0, ha, hl, true_and]
    refine rt_isName hM hta hal _ (fun hnm => ⟨fun _ => ?_, fun z => absurd z (by decide)⟩) (fun hnm => ⟨fun z => absurd rfl z, fun _ => ?_⟩)
    rotate_left
    · unfold wq_Model_creates_89 wq_Model_creates_97
      simp only [hs, rk, true_and, Option.some.injEq, exists_eq_left']
      exact rq_fails1 hM hg σ 6 _ ⟨fun z => absurd z (by decide), fun _ => er 6 ((cif_n n1).trans ((cif_n n5).trans (cif_y (by rw [eX]; exact hnm)))) (by decide)⟩
    have n6 : ¬ ¬ nmOk X := fun z => z (by rw [eX]; exact hnm)
    unfold wq_Model_creates_89 wq_Model_creates_97
    simp only [hs, rk, true_and, Option.some.injEq, exists_eq_left']
    refine rq_fails0 hM hg σ 6 _ ⟨fun _ => ?_, fun z => absurd rfl z⟩
    simp only [hs, rk, rn, rP, rI0, rI, hj, hjc, r6, ha, hl, true_and, Option.some.injEq, exists_eq_left', Nat.reduceLT]
    refine rt_child (t := 0) hM (by decide) hC.2.2.1 hta hal _ (fun p p1 p2 hc => ⟨fun z => absurd z (nI_pos (by omega)), fun _ => ?_⟩) (fun hc => ⟨fun _ => ?_, fun z => absurd (by decide) z⟩)
    · unfold wq_Model_creates_126 wq_Model_creates_192
      simp only [hs, rk, true_and, Option.some.injEq, exists_eq_left']
      exact rq_fails1 hM hg σ 7 _ ⟨fun _ => er 7 ((cif_n n1).trans ((cif_n n5).trans ((cif_n n6).trans (cif_y (by rw [eX, hc]; simp))))) (by decide), fun z => absurd z (by decide)⟩
    have n7 : ¬ ¬ chl T (nI (d_p d)) X = none := fun z => z (by rw [eX]; exact hc)
    have p8 : (badM m ∨ (perm < 0 ∧ ¬ m = 0)) → wq_Model_creates_156 ge am (nI j) (nI y) (some am) (r_em am σ h) Z := by
      intro n8
      unfold wq_Model_creates_156 wq_Model_creates_161 wq_Model_creates_192
      simp only [hs, rk, true_and, Option.some.injEq, exists_eq_left']
      exact rq_fails1 hM hg σ 8 _ ⟨fun _ => er 8 ((cif_n n1).trans ((cif_n n5).trans ((cif_n n6).trans ((cif_n n7).trans (cif_y n8))))) (by decide), fun z => absurd z (by decide)⟩
    have fin : ¬ (badM m ∨ (perm < 0 ∧ ¬ m = 0)) → wq_Model_creates_160 ge am (nI j) (nI y) (some am) (r_em am σ h) Z := by
      intro n8
      unfold wq_Model_creates_160 wq_Model_creates_161 wq_Model_creates_192
      simp only [hs, rk, true_and, Option.some.injEq, exists_eq_left']
      refine rq_fails0 hM hg σ 8 _ ⟨fun z => absurd rfl z, fun _ => ?_⟩
      simp only [hs, rk, rI0, hgv, true_and]
      have e60 : (nI gv = 60) ↔ gv = 60 := by
        show nI gv = nI 60 ↔ _
        exact nI_eq (by omega) (by decide)
      refine ⟨fun q9 => ?_, fun q9 => ?_⟩
      rotate_left
      · unfold wq_Model_creates_184 wq_Model_creates_192
        simp only [hs, rk, true_and, Option.some.injEq, exists_eq_left']
        have := e60.mp q9
        exact rq_fails1 hM hg σ 9 _ ⟨fun z => absurd z (by decide), fun _ => er 9 ((cif_n n1).trans ((cif_n n5).trans ((cif_n n6).trans ((cif_n n7).trans ((cif_n n8).trans (cif_y (by omega))))))) (by decide)⟩
      have n9 : ¬ gv = 60 := fun z => q9 (e60.mpr z)
      have hsp : spCre T fm fc gv tm x d f X perm m = _ := (cif_n n1).trans ((cif_n n5).trans ((cif_n n6).trans ((cif_n n7).trans ((cif_n n8).trans (cif_n (by omega))))))
      have hgi : vp_in (nI gv) 1680 := vp_in_nI (by omega) (by decide)
      have hgc : (nI gv).toNatClampNeg = gv := nI_clamp (by omega)
      have l20 : l ≤ 20 := by rw [← hXl, eX]; exact hnm.2.1
      unfold wq_Model_creates_184 wq_Model_spot wq_Model_spot_0
      simp only [hs, rk, true_and, Option.some.injEq, exists_eq_left']
      refine rq_fails0 hM hg σ 9 _ ⟨fun _ => ?_, fun z => absurd rfl z⟩
      simp only [hs, rk, rn, rP, rI0, rI, rU, ra1, hj, hjc, hm, hpm, hgv, htm, ha, hl, r_z60, hgi, hgc, ge0 hg, true_and, Option.some.injEq, exists_eq_left', forall_eq, Nat.reduceLT]
      obtain ⟨σ1, e1⟩ : ∃ σ1, σ1 = r_a (r_a (r_a (r_a (r_a (r_a σ 1 gv (vp_nar .boolean 1)) 2 gv ((r_a σ 1 gv (vp_nar .boolean 1)).2.2 14 j)) 3 gv (perm &&& -2147483137)) 4 gv 0) 5 gv tm) 6 gv 0 := ⟨_, rfl⟩
      rw [← e1]
      have q1 : σ1.1 = σ.1 := by rw [e1]; rfl
      have q2 : ∀ o i, 7 ≤ o → σ1.2.2 o i = σ.2.2 o i := fun o i z => by rw [e1, ra_n (by omega), ra_n (by omega), ra_n (by omega), ra_n (by omega), ra_n (by omega), ra_n (by omega)]
      have G1 : frr gv (gv + 1) σ σ1 := by rw [e1]; exact frr_2 (frr_2 (frr_2 (frr_2 (frr_2 (frr_a _ (by decide)) (frr_a _ (by decide))) (frr_a _ (by decide))) (frr_a _ (by decide))) (frr_a _ (by decide))) (frr_a _ (by decide))
      have hta1 : Rta σ1 L := Rta_of (fun j => q2 _ _ (by decide)) hta
      refine rt_names hM hg (by omega) l20 hta1 hal _ (fun σ2 b1 b2 b3 b4 b5 b6 => ?_)
      have F2 : RF σ2 gv (nI (d_p d), X, perm &&& (-2147483137), 0, tm, []) := by
        refine ⟨?_, ?_, ?_, ?_, by rw [eX]; exact b6, ?_, fun k hk => absurd hk (Nat.not_lt_zero k)⟩
        · rw [b4 _ (by decide), e1, ra_n (by decide), ra_n (by decide), ra_n (by decide), ra_n (by decide), ra_y, ra_n (by decide)]; exact r6
        · rw [b4 _ (by decide), e1, ra_n (by decide), ra_n (by decide), ra_n (by decide), ra_y]; rfl
        · rw [b4 _ (by decide), e1, ra_n (by decide), ra_n (by decide), ra_y]; rfl
        · rw [b4 _ (by decide), e1, ra_n (by decide), ra_y]; rfl
        · rw [b4 _ (by decide), e1, ra_y]; rfl
      have i2 : σ2.2.2 O_is gv = 1 := by
        rw [b4 _ (by decide), e1, ra_n (by decide), ra_n (by decide), ra_n (by decide), ra_n (by decide), ra_n (by decide), ra_y]; decide
      have hB : allB X := by rw [eX]; exact slc_B hta.2.1 _ _
      have kn : okF (nI (d_p d), X, perm &&& (-2147483137), 0, tm, []) := by
        have h1 := hnm.1
        rw [← eX] at h1
        exact ⟨h1, by show X.length ≤ 20; omega, by simp [f_dt], hB, allB_nil, fun _ => rfl⟩
      have C2 := RR_row (by omega) (fun k _ => by rw [b1, q1]) (frr_2 G1 b3) i2 kn F2 hC
      have hpg : d_p d < gv := (hw.2.2 _ f hTT).1
      have hT2 : tset T gv (some (nI (d_p d), X, perm &&& (-2147483137), 0, tm, [])) (d_p d) = some f := by rw [tset_n _ _ (by omega)]; exact hTT
      have F2y := (RT_get C2.2.2.1 hT2)
      rw [r60, ← hyp] at F2y
      simp only [hs, rk, true_and]
      refine rt_changed (tm := tm) hM hg hy F2y.2.2.2 (by rw [b1, q1]; exact htm) _ (fun σ3 c1 c2 c3 c4 c5 => ?_)
      have C3 := RR_row hp (fun k _ => by rw [c1]) (by rw [← hyp]; exact c3) (by rw [← hyp, c4]; exact F2y.2.1) (okF_chg k1) (by rw [← hyp]; exact c5) C2
      have q3 : ∀ o i, 12 ≤ o → σ3.2.2 o i = σ.2.2 o i := fun o i z => by
        rw [c3 o i (fun w => absurd w (by omega)) (fun w => absurd w (by omega)) (fun w => absurd w (by omega)), b3 o i (fun w => absurd w (by omega)) (fun w => absurd w (by omega)) (fun w => absurd w (by omega))]
        exact q2 o i (by omega)
      have f3 : σ3.1 = σ.1 := by rw [c1, b1, q1]
      have n3 : σ3.2.2 12 j = x := (q3 _ _ (by decide)).trans r3
      simp only [hs, rk, rn, rP, rI0, rI, hj, hjc, n3, f3, hgv, true_and, Option.some.injEq, exists_eq_left', Nat.reduceLT]
      refine rt_place (t := 0) hM hg r2 x _ (fun σ4 d1 d2 d3 d4 d5 => ?_)
      simp only [hs, rk, rn, rP, rI0, rI, rU, rU0, ra1, hj, hjc, d1, f3, hm, hgv, hg, ge0 hg, true_and, Option.some.injEq, exists_eq_left', forall_eq, Nat.reduceLT]
      obtain ⟨σ5, e5⟩ : ∃ σ5, σ5 = r_a σ4 15 j m := ⟨_, rfl⟩
      rw [← e5, show nI gv + 1 = nI (gv + 1) from (nI_succ gv).symm]
      have q5 : σ5.1 = σ.1 := by rw [e5, ra1, d1, f3]
      have R5 : rrow σ5 j (0, gv, m, 0, 0) := by rw [e5]; exact rrow_md m d5
      have C5 : RR σ0 σ5 L A (tset (tset T gv (some (nI (d_p d), X, perm &&& (-2147483137), 0, tm, []))) (d_p d) (some (chg f tm))) S J (fset fm x (some (0, gv, m, 0, 0))) fc gv tm ms := by
        refine RR_fd (fun k _ _ => (congrFun q5 k).trans (congrFun f3 k).symm) (fun o i ho => ?_) (Rfd_set C3.2.2.2.2.2.1 r1 n3 r4 (fun o i _ _ z => ?_) ?_ ((congrFun q5 _).trans (congrFun f3 _).symm) R5) C3
        · rw [e5, ra_n (by omega), d3 o i (by omega)]
        · rw [e5, ra_k z, d3 o i (by omega)]
        · rw [e5, ra_n (by decide)]; exact d4
      have C6 := RR_gv (gv + 1) C5
      obtain ⟨σ6, e6⟩ : ∃ σ6, σ6 = r_f σ5 F_paths (nI (gv + 1)) := ⟨_, rfl⟩
      rw [← e6] at C6
      have t6 : (r_f σ5 9 (nI (gv + 1))).2.2 14 j = nI gv := by rw [rfl_]; exact R5.2.1
      simp only [t6]
      show wq_Model_qid ge am 0 (nI gv) (r_em am (r_f σ5 F_paths (nI (gv + 1))) h) _
      rw [← e6]
      have hT6 : tset (tset T gv (some (nI (d_p d), X, perm &&& (-2147483137), 0, tm, []))) (d_p d) (some (chg f tm)) gv = some (nI (d_p d), X, perm &&& (-2147483137), 0, tm, []) := by rw [tset_n _ _ (by omega), tset_y]
      have F6 := (RT_get C6.2.2.1 hT6).2.2.2
      refine rt_qid (t := 0) hM hg σ6 (by decide) (by omega) C6.2.1.1.1 (by omega) F6 _ ?_
      have C7 := RR_ap (qidL gv (nI (d_p d), X, perm &&& (-2147483137), 0, tm, [])) (by rw [qidL_len]; omega) C6
      simp only [hs, rk, true_and]
      refine rp_put (n := 4) hM hg _ C7.2.1.1.1 (by rw [List.length_append, qidL_len]; omega) _ _ ?_
      have C8 := RR_ap (le 4 0) (by rw [List.length_append, qidL_len, le_len]; omega) C7
      refine hZ _ ?_
      rw [hsp]
      refine ⟨?_, ?_, _, fun _ => rfl, ?_⟩
      · rw [ap_fd _ _ (by decide), ap_fd _ _ (by decide), e6, rf1, if_neg (by decide), q5]; exact he
      · rw [ap_fd _ _ (by decide), ap_fd _ _ (by decide), e6, rf1, if_neg (by decide), q5]; exact hsy
      · rw [List.append_assoc] at C8
        exact C8
    unfold wq_Model_creates_126 wq_Model_creates_192
    simp only [hs, rk, true_and, Option.some.injEq, exists_eq_left']
    refine rq_fails0 hM hg σ 7 _ ⟨fun z => absurd rfl z, fun _ => ?_⟩
    simp only [hs, rk, true_and]
    refine rq_isOddMode hM σ _ ?_
    rw [hm]
    by_cases hb : badM m
    · rw [if_neg hb]
      exact ⟨fun _ => p8 (Or.inl hb), fun z => absurd z (by decide)⟩
    · rw [if_pos (Decidable.not_not.mp hb)]
      refine ⟨fun z => absurd rfl z, fun _ => ?_⟩
      simp only [hs, rk, rI0, hpm, hm, true_and]
      refine ⟨fun z => fin (fun v => ?_), fun z => ⟨fun z2 => fin (fun v => ?_), fun z2 => p8 (Or.inr ⟨Int32.not_le.mp z, z2⟩)⟩⟩
      · rcases v with v | v
        · exact hb v
        · exact absurd z (Int32.not_le.mpr v.1)
      · rcases v with v | v
        · exact hb v
        · exact v.2 z2
  unfold wq_Model_creates_31 wq_Model_creates_97
  simp only [hs, rk, true_and, Option.some.injEq, exists_eq_left']
  refine rq_fails0 hM hg σ 3 _ ⟨fun z => absurd rfl z, fun _ => ?_⟩
  simp only [hs, rk, true_and]
  refine rq_isDirectory hM σ hy _ ?_
  rw [rf.2.1]
  by_cases hd : 0 ≤ f_md f
  · rw [if_pos hd]
    exact ⟨fun _ => p5 (Or.inl hd), fun z => absurd rfl z⟩
  · rw [if_neg hd]
    refine ⟨fun z => absurd z (by decide), fun _ => ?_⟩
    simp only [hs, rk, rn, rP, rI, hj, hjc, r5, true_and, Option.some.injEq, exists_eq_left', Nat.reduceLT]
    exact ⟨fun z => go (fun v => by rcases v with v | v; exact hd v; exact v (e0.mp z)), fun z => p5 (Or.inr (fun v => z (e0.mpr v)))⟩
end RN
