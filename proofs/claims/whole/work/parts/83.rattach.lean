/-! the reference: what a handler leaves; attaches, opens -/
theorem and3 (x : Int32) : x &&& 3 = 0 ∨ x &&& 3 = 1 ∨ x &&& 3 = 2 ∨ x &&& 3 = 3 := by
  have h : ∀ i, i < 32 → bt (x &&& 3) i = (bt x i && decide (i < 2)) := fun i hi => by rw [b_and, (by decide +kernel : ∀ i, i < 32 → bt 3 i = decide (i < 2)) i hi]
  have g : ∀ a b : Bool, bt x 0 = a → bt x 1 = b → ∀ y : Int32, (∀ i, i < 32 → bt y i = if i = 0 then a else if i = 1 then b else false) → x &&& 3 = y := by
    intro a b ha hb y hy
    refine b_ext (fun i hi => ?_)
    rw [h i hi, hy i hi]
    by_cases e0 : i = 0
    · rw [if_pos e0, e0, ha]; simp
    · rw [if_neg e0]
      by_cases e1 : i = 1
      · rw [if_pos e1, e1, hb]; simp
      · rw [if_neg e1, decide_eq_false (by omega), Bool.and_false]
  cases h0 : bt x 0 <;> cases h1 : bt x 1
  · exact Or.inl (g _ _ h0 h1 0 (by decide +kernel))
  · exact Or.inr (Or.inr (Or.inl (g _ _ h0 h1 2 (by decide +kernel))))
  · exact Or.inr (Or.inl (g _ _ h0 h1 1 (by decide +kernel)))
  · exact Or.inr (Or.inr (Or.inr (g _ _ h0 h1 3 (by decide +kernel))))
theorem rq_fails0 {ge : Nat → Nat} {am : Nat} {h : mm_M} (hM : RM am h) (hg : ge 0 ≤ am) (σ : rS) (k : Int32) (Z : Int32 → mm_M → Prop) (hZ : Z 0 (r_em am σ h)) : wq_Model_fails ge am 0 k (r_em am σ h) Z := rq_fails hM hg σ 0 k (Or.inl rfl) Z (by rw [if_pos rfl]; exact hZ)
theorem rq_fails1 {ge : Nat → Nat} {am : Nat} {h : mm_M} (hM : RM am h) (hg : ge 0 ≤ am) (σ : rS) (k : Int32) (Z : Int32 → mm_M → Prop) (hZ : Z 1 (r_em am (r_f σ F_error k) h)) : wq_Model_fails ge am 1 k (r_em am σ h) Z := rq_fails hM hg σ 1 k (Or.inr rfl) Z (by rw [if_neg (by decide)]; exact hZ)
/-- what a handler leaves -/
def RP (σ0 : rS) (L A : List Int32) (S J : List sT) (tm : Int32) (ms : Nat) (sy : Int32) (R : sR) (σ' : rS) : Prop := σ'.1 F_error = R.1 ∧ σ'.1 F_sync = sy ∧ ∃ A', (R.1 = 0 → A' = A ++ R.2.1) ∧ RR σ0 σ' L A' R.2.2.1 S J R.2.2.2.1 R.2.2.2.2.1 R.2.2.2.2.2 tm ms
/-- fid x stands at place j -/
def rfi (σ : rS) (fm : sM) (fc j : Nat) (x : Int32) (d : sD) : Prop := j < fc ∧ j < 24 ∧ σ.2.2 O_fNumber j = x ∧ fm x = some d ∧ rrow σ j d
def Rtx (σ : rS) (L X : List Int32) : Prop := ∃ a l : Nat, σ.1 F_mText = nI a ∧ σ.1 F_mTextSize = nI l ∧ a + l ≤ L.length ∧ X = slc L a l
theorem slc_tp {L : List Int32} {a l i : Nat} (hi : i < l) : tp (slc L a l) i = tp L (a + i) := by
  unfold tp
  rw [List.getD_eq_getElem?_getD, List.getD_eq_getElem?_getD, slc_get hi]
section RH
variable {ge : Nat → Nat} {am : Nat} {h : mm_M} {σ0 σ : rS} {L A : List Int32} {T : sT} {S J : List sT} {fm : sM} {fc gv : Nat} {tm : Int32} {ms : Nat} {sy : Int32}
theorem RP_er {R : sR} {k : Int32} (hC : RR σ0 σ L A T S J fm fc gv tm ms) (hsy : σ.1 F_sync = sy) (hR : R = (k, [], T, fm, fc, gv)) (nk : ¬ k = 0) : RP σ0 L A S J tm ms sy R (r_f σ F_error k) := by
  rw [hR]
  refine ⟨by rw [rf1, if_pos rfl], by rw [rf1, if_neg (by decide)]; exact hsy, A, fun z => absurd z nk, RR_f k ?_ hC⟩
  unfold rlf
  decide
theorem ap_fd (B : List Int32) (k : Nat) (hk : ¬ k = F_answerSize) : (r_ap σ B).1 k = σ.1 k := r_ap_f hk B σ
/-- place makes a row -/
theorem r_pl_at (f : Nat) (number tree path : Int32) (o i : Nat) : (r_pl σ f number tree path).2.2 o i = if i = f ∧ 12 ≤ o ∧ o ≤ 17 then (if o = 12 then number else if o = 13 then tree else if o = 14 then path else if o = 15 then -1 else if o = 16 then 0 else -1) else σ.2.2 o i := by
  unfold r_pl
  simp only [raa]
  by_cases c : i = f ∧ 12 ≤ o ∧ o ≤ 17
  · rw [if_pos c]
    obtain ⟨rfl, c1, c2⟩ := c
    rcases (by omega : o = 12 ∨ o = 13 ∨ o = 14 ∨ o = 15 ∨ o = 16 ∨ o = 17) with rfl | rfl | rfl | rfl | rfl | rfl <;> simp [O_fNumber, O_fTree, O_fPath, O_fMode, O_fTold, O_fLast]
  · rw [if_neg c]
    have q : ∀ n, 12 ≤ n → n ≤ 17 → ¬ (o = n ∧ i = f) := fun n n1 n2 z => c ⟨z.2, by omega, by omega⟩
    rw [if_neg (q 17 (by decide) (by decide)), if_neg (q 16 (by decide) (by decide)), if_neg (q 15 (by decide) (by decide)), if_neg (q 14 (by decide) (by decide)), if_neg (q 13 (by decide) (by decide)), if_neg (q 12 (by decide) (by decide))]
theorem r_pl_row (f t p : Nat) (number : Int32) : rrow (r_pl σ f number (nI t) (nI p)) f (t, p, -1, 0, 0) := by
  unfold rrow
  simp only [r_pl_at]
  exact ⟨rfl, rfl, rfl, rfl, Or.inr ⟨rfl, rfl⟩⟩
theorem r_pl_n (f : Nat) (number t p : Int32) : (r_pl σ f number t p).2.2 O_fNumber f = number := by
  rw [r_pl_at]; exact if_pos ⟨rfl, by decide, by decide⟩
theorem r_pl_1 (f : Nat) (number t p : Int32) : (r_pl σ f number t p).1 = σ.1 := rfl
set_option maxHeartbeats 2000000 in
theorem rt_att (hM : RM am h) (hg : ge 0 ≤ am) (hC : RR σ0 σ L A T S J fm fc gv tm ms) (hA : A.length = 7) (hI : Iv T S J fm fc gv ms) {x other : Int32} {X : List Int32} (hx : σ.1 F_mFid = x) (ho : σ.1 F_mOther = other) (hX : Rtx σ L X) (he : σ.1 F_error = 0) (hsy : σ.1 F_sync = sy) (Z : mm_M → Prop)
    (hZ : ∀ σ', RP σ0 L A S J tm ms sy (spAtt T S fm fc gv x other X) σ' → Z (r_em am σ' h)) : wq_Model_attaches ge am (r_em am σ h) Z := by
  have hs := hM
  unfold RM at hs
  have er : ∀ k : Int32, spAtt T S fm fc gv x other X = (k, [], T, fm, fc, gv) → ¬ k = 0 → Z (r_em am (r_f σ F_error k) h) := fun k hk nk => hZ _ (RP_er hC hsy hk nk)
  have hfc := hC.2.2.2.2.2.1.1
  obtain ⟨a, l, ha, hl, hal, eX⟩ := hX
  have hL14 := hC.1.2.2
  unfold wq_Model_attaches wq_Model_attaches_0 wq_Model_attaches_14
  simp only [hs, rk, rI0, ho, true_and, Option.some.injEq, exists_eq_left']
  refine ⟨fun q => rq_fails0 hM hg σ 3 _ ⟨fun z => absurd rfl z, fun _ => ?_⟩, fun q => rq_fails1 hM hg σ 3 _ ⟨fun _ => ?_, fun z => absurd z (by decide)⟩⟩
  rotate_left
  · exact er 3 (cif_y q) (by decide)
  have n3 : ¬ ¬ other = -1 := fun z => z q
  simp only [hs, rk, rI0, hx, true_and]
  refine rt_fidOf hM σ hC.2.2.2.2.2.1 x _ (fun j d hj _ _ hd _ => ⟨fun y => absurd y (nI_pos (by omega)), fun _ => ?_⟩) (fun hfo => ⟨fun _ => ?_, fun y => absurd (by decide) y⟩)
  · unfold wq_Model_attaches_38 wq_Model_attaches_45
    simp only [hs, rk, true_and, Option.some.injEq, exists_eq_left']
    refine rq_fails1 hM hg σ 5 _ ⟨fun z => absurd z (by decide), fun _ => er 5 ((cif_n n3).trans (cif_y (by rw [hd]; simp))) (by decide)⟩
  have n5 : ¬ ¬ fm x = none := fun z => z hfo
  have p6 : trNo S X = none → wq_Model_attaches_127 ge am (-1) (r_em am σ h) Z := by
    intro hno
    unfold wq_Model_attaches_127 wq_Model_attaches_137 wq_Model_attaches_168
    simp only [hs, rk, true_and, Option.some.injEq, exists_eq_left']
    refine ⟨fun z => absurd z (by decide), fun _ => rq_fails1 hM hg σ 6 _ ⟨fun _ => er 6 ((cif_n n3).trans ((cif_n n5).trans ?_)) (by decide), fun z => absurd z (by decide)⟩⟩
    rw [hno]
  have fin : ∀ t : Nat, trNo S X = some t → t ≤ S.length → wq_Model_attaches_127 ge am (nI t) (r_em am σ h) Z := by
    intro t hno ht
    have hS6 := hC.2.2.2.1.1
    obtain ⟨Tr, hTr⟩ := trOf_some (T := T) ht
    obtain ⟨rT, t28⟩ := RR_tr hC hTr
    have hw := trOf_wf hI.1 hI.2.1 hTr
    obtain ⟨f0, hf0, _, _⟩ := hw.2.1
    have hsp : spAtt T S fm fc gv x other X = cif (fc = 24) (7, [], T, fm, fc, gv) (0, qidL 0 f0, T, fset fm x (some (t, 0, -1, 0, 0)), fc + 1, gv) := by
      refine (cif_n n3).trans ((cif_n n5).trans ?_)
      rw [hno]
      simp only [hTr, hf0]
    unfold wq_Model_attaches_127 wq_Model_attaches_137
    refine ⟨fun _ => ?_, fun z => absurd (nI_pos' (by omega)) z⟩
    simp only [hs, rk, true_and, Option.some.injEq, exists_eq_left']
    refine rq_fails0 hM hg σ 6 _ ⟨fun z => absurd rfl z, fun _ => ?_⟩
    simp only [hs, rk, rI0, hfc.2, true_and]
    have e24 : (nI fc = 24) ↔ fc = 24 := by
      show nI fc = nI 24 ↔ _
      exact nI_eq (by omega) (by decide)
    refine ⟨fun q2 => ?_, fun q2 => ?_⟩
    · have n24 : ¬ fc = 24 := fun z => q2 (e24.mpr z)
      rw [cif_n n24] at hsp
      unfold wq_Model_attaches_160
      simp only [hs, rk, true_and, Option.some.injEq, exists_eq_left']
      refine rq_fails0 hM hg σ 7 _ ⟨fun _ => ?_, fun z => absurd rfl z⟩
      simp only [hs, rk, rI0, hfc.2, hx, true_and]
      refine rq_place hM hg σ (by omega) x (nI t) 0 _ ?_
      simp only [hs, rk, rI0, rU0, hg, r_pl_1, hfc.2, true_and, forall_eq]
      rw [show nI fc + 1 = nI (fc + 1) from (nI_succ fc).symm]
      have C1 : RR σ0 (r_f (r_pl σ fc x (nI t) 0) F_fids (nI (fc + 1))) L A T S J (fset fm x (some (t, 0, -1, 0, 0))) (fc + 1) gv tm ms := by
        refine RR_fd (fun k hk nk => ?_) (fun o j ho => ?_) (Rfd_add hC.2.2.2.2.2.1 (by omega) hfo (fun o i h1 h2 h3 => ?_) ?_ ?_ ?_) hC
        · rw [rf1, if_neg nk]; rfl
        · rw [rfl_, r_pl_at, if_neg (fun z => ho z.2)]
        · rw [rfl_, r_pl_at, if_neg (fun z => h3 z.1)]
        · rw [rfl_, r_pl_n]
        · rw [rf1, if_pos rfl]
        · exact r_pl_row fc t 0 x
      have hrf := (RT_get (RR_tr C1 hTr).1 hf0).2.2.2
      refine rt_qid (p := 0) hM hg _ t28 (by decide) C1.2.1.1.1 (by omega) hrf _ ?_
      refine hZ _ ?_
      rw [hsp]
      refine ⟨?_, ?_, A ++ qidL 0 f0, fun _ => rfl, RR_ap _ (by rw [qidL_len]; omega) C1⟩
      · rw [ap_fd _ _ (by decide), rf1, if_neg (by decide)]; exact he
      · rw [ap_fd _ _ (by decide), rf1, if_neg (by decide)]; exact hsy
    · have n24 : fc = 24 := e24.mp q2
      rw [cif_y n24] at hsp
      unfold wq_Model_attaches_160 wq_Model_attaches_168
      simp only [hs, rk, true_and, Option.some.injEq, exists_eq_left']
      exact rq_fails1 hM hg σ 7 _ ⟨fun z => absurd z (by decide), fun _ => er 7 hsp (by decide)⟩
  unfold wq_Model_attaches_38
  simp only [hs, rk, true_and, Option.some.injEq, exists_eq_left']
  refine rq_fails0 hM hg σ 5 _ ⟨fun _ => ?_, fun z => absurd rfl z⟩
  have hXl : X.length = l := by rw [eX]; exact slc_len hal
  have e0 : (nI l = 0) ↔ l = 0 := by
    show nI l = nI 0 ↔ _
    exact nI_eq (by omega) (by decide)
  have e2 : (nI l = 2) ↔ l = 2 := by
    show nI l = nI 2 ↔ _
    exact nI_eq (by omega) (by decide)
  have hX0 : X = [] ↔ l = 0 := by rw [← hXl]; exact List.length_eq_zero_iff.symm
  simp only [hs, rk, rI0, ha, hl, true_and]
  have noT : ¬ X = [] → ¬ (X.length = 2 ∧ tp X 0 = 115 ∧ ¬ tp X 1 - 48 < 0 ∧ tp X 1 - 48 < nI S.length) → trNo S X = none := by
    intro hne hno
    have hS6 := hC.2.2.2.1.1
    unfold trNo askT
    rw [if_neg hne]
    by_cases c : X.length = 2 ∧ tp X 0 = 115 ∧ ¬ tp X 1 - 48 < 0 ∧ ¬ 9 < tp X 1 - 48
    · rw [if_pos c]
      obtain ⟨c1, c2, c3, c4⟩ := c
      obtain ⟨k, hk, ek⟩ := nI_of c3
      rw [ek]
      rw [cif_n (fun z => absurd (z ▸ nI_pos' hk) (by decide)), nI_clamp hk]
      refine cif_n (fun z => hno ⟨c1, c2, c3, ?_⟩)
      rw [ek]
      exact nI_lt z.2 (by omega)
    · rw [if_neg c]
      rw [cif_n (by decide)]
      exact cif_n (fun z => z.1 (by decide))
  refine ⟨fun q1 => ⟨fun q2 => ?_, fun q2 => ?_⟩, fun q1 => ?_⟩
  · refine p6 (noT (fun z => q1 (e0.mpr (hX0.mp z))) (fun z => q2 (e2.mpr (by rw [← hXl]; exact z.1))))
  · have hl2 : l = 2 := e2.mp q2
    have w1 : vp_in (nI a) 1400 := vp_in_nI (by omega) (by decide)
    have w2 : (nI a).toNatClampNeg = a := nI_clamp (by omega)
    have w3 : vp_in (nI (a + 1)) 1400 := vp_in_nI (by omega) (by decide)
    have w4 : (nI (a + 1)).toNatClampNeg = a + 1 := nI_clamp (by omega)
    have t0 : σ.2.2 O_tape a = tp X 0 := by rw [hC.1.1 a (by omega), eX, slc_tp (by omega)]; rfl
    have t1 : σ.2.2 O_tape (a + 1) = tp X 1 := by rw [hC.1.1 (a + 1) (by omega), eX, slc_tp (by omega)]
    rw [show nI a + 1 = nI (a + 1) from (nI_succ a).symm]
    simp only [hs, rk, rn, rP, rI, w1, w2, w3, w4, t0, t1, true_and, Option.some.injEq, exists_eq_left', Nat.reduceLT]
    have hne : ¬ X = [] := fun z => q1 (e0.mpr (hX0.mp z))
    refine ⟨fun q3 => p6 (noT hne (fun z => q3 z.2.1)), fun q3 => ?_⟩
    rw [hC.2.2.2.1.2.1]
    refine rq_isIn _ _ _ _ _ ?_
    unfold wq_Model_attaches_126
    by_cases c : 0 ≤ tp X 1 - 48 ∧ tp X 1 - 48 < nI S.length
    · rw [if_pos c]
      refine ⟨fun z => absurd z (by decide), fun _ => ?_⟩
      simp only [hs, rk, rn, rP, rI, rI0, ha, true_and, Option.some.injEq, exists_eq_left', Nat.reduceLT]
      rw [show nI a + 1 = nI (a + 1) from (nI_succ a).symm]
      simp only [w3, w4, t1, true_and]
      obtain ⟨k, hk, ek⟩ := nI_of (Int32.not_lt.mpr c.1)
      have hS6 := hC.2.2.2.1.1
      have hkS : k < S.length := by
        have := c.2
        rw [ek] at this
        exact (nI_ltI hk (by omega)).mp this
      have e1 : (1 : Int32) + tp X 1 - 48 = nI (k + 1) := by
        have e2 : (1 : Int32) + tp X 1 - 48 = tp X 1 - 48 + 1 := by
          rw [Int32.sub_eq_add_neg, Int32.sub_eq_add_neg, Int32.add_comm 1 (tp X 1), Int32.add_assoc, Int32.add_assoc, Int32.add_comm 1]
        rw [e2, ek]
        exact (nI_succ k).symm
      rw [e1]
      refine fin (k + 1) ?_ (by omega)
      unfold trNo askT
      have n9 : ¬ (9 : Int32) < nI k := by
        rw [Int32.not_lt]
        show nI k ≤ nI 9
        exact nI_le (by omega) (by decide)
      rw [if_neg hne, if_pos ⟨by omega, q3, by rw [ek]; exact nI_pos hk, by rw [ek]; exact n9⟩, ek]
      rw [cif_n (fun z => absurd (z ▸ nI_pos' hk) (by decide)), nI_clamp hk]
      exact cif_y ⟨nI_pos hk, hkS⟩
    · rw [if_neg c]
      refine ⟨fun _ => p6 (noT hne (fun z => c ⟨Int32.not_lt.mp z.2.2.1, z.2.2.2⟩)), fun z => absurd rfl z⟩
  · refine fin 0 ?_ (by omega)
    unfold trNo askT
    rw [if_pos (hX0.mpr (e0.mp q1))]
    exact cif_y rfl
end RH
