/-! the reference: scores -/
theorem r_ap_at : ∀ (B : List Int32) (σ : rS) (a : Nat), σ.1 F_answerSize = nI a → a + B.length ≤ 2000 → ∀ j, (r_ap σ B).2.2 11 j = if a ≤ j ∧ j < a + B.length then tp B (j - a) else σ.2.2 11 j
  | [], σ, a, _, _, j => by
    rw [if_neg (fun z => by have : j < a + 0 := z.2; omega)]
    rfl
  | x :: B, σ, a, ha, hl, j => by
    have hl' : a + (B.length + 1) ≤ 2000 := hl
    show (r_ap (r_pb σ x) B).2.2 11 j = _
    rw [r_ap_at B (r_pb σ x) (a + 1) (r_pb_t x ha) (by omega) j]
    have e1 : (r_pb σ x).2.2 11 j = if j = a then x else σ.2.2 11 j := by
      unfold r_pb
      rw [ha, nI_clamp (by omega)]
      show (r_a σ O_answer a x).2.2 11 j = _
      rw [raa]
      by_cases c : j = a
      · rw [if_pos ⟨rfl, c⟩, if_pos c]
      · rw [if_neg (fun z => c z.2), if_neg c]
    rw [e1]
    show _ = if a ≤ j ∧ j < a + (B.length + 1) then tp (x :: B) (j - a) else σ.2.2 11 j
    by_cases c : a + 1 ≤ j ∧ j < a + 1 + B.length
    · rw [if_pos c, if_pos (by omega)]
      have e2 : j - a = (j - (a + 1)) + 1 := by omega
      rw [e2]
      rfl
    · rw [if_neg c]
      by_cases c2 : j = a
      · rw [if_pos c2, if_pos (by omega), c2, Nat.sub_self]
        rfl
      · rw [if_neg c2, if_neg (by omega)]
/-- what scoring may change -/
def frQ (σ σ' : rS) : Prop := (∀ i, ¬ i = 59 → ¬ i = 60 → ¬ i = 63 → σ'.1 i = σ.1 i) ∧ σ'.2.1 = σ.2.1 ∧ ∀ o j, o < 21 → (o = 11 → j < 1400) → σ'.2.2 o j = σ.2.2 o j
/-- the same, with the answer's size -/
def frR (σ σ' : rS) : Prop := (∀ i, ¬ i = 17 → ¬ i = 59 → ¬ i = 60 → ¬ i = 63 → σ'.1 i = σ.1 i) ∧ σ'.2.1 = σ.2.1 ∧ ∀ o j, o < 21 → (o = 11 → j < 1400) → σ'.2.2 o j = σ.2.2 o j
theorem frQ_rf (σ : rS) : frQ σ σ := ⟨fun _ _ _ _ => rfl, rfl, fun _ _ _ _ => rfl⟩
theorem frQ_tr {σ σ1 σ2 : rS} (h1 : frQ σ σ1) (h2 : frQ σ1 σ2) : frQ σ σ2 := ⟨fun i a b c => (h2.1 i a b c).trans (h1.1 i a b c), h2.2.1.trans h1.2.1, fun o j a b => (h2.2.2 o j a b).trans (h1.2.2 o j a b)⟩
theorem frR_tr {σ σ1 σ2 : rS} (h1 : frR σ σ1) (h2 : frR σ1 σ2) : frR σ σ2 := ⟨fun i z a b c => (h2.1 i z a b c).trans (h1.1 i z a b c), h2.2.1.trans h1.2.1, fun o j a b => (h2.2.2 o j a b).trans (h1.2.2 o j a b)⟩
theorem frQ_R {σ σ' : rS} (h : frQ σ σ') : frR σ σ' := ⟨fun i _ a b c => h.1 i a b c, h.2.1, h.2.2⟩
theorem frQ_S {σ σ' : rS} (h : frS σ σ') : frQ σ σ' := ⟨h.1, h.2.1, fun o j ho _ => h.2.2 o j (Or.inl ho)⟩
def Rla (σ : rS) (last : Nat → qW) : Prop := ∀ p i, p < 60 → i < 5 → σ.2.2 25 (5 * p + i) = qi (last p) i
theorem Rla_of {σ σ' : rS} {last : Nat → qW} (h : ∀ j, σ'.2.2 25 j = σ.2.2 25 j) (H : Rla σ last) : Rla σ' last := fun p i hp hi => (h _).trans (H p i hp hi)
theorem RT_R {σ σ' : rS} {t : Nat} {T : sT} (h : frR σ σ') (H : RT σ t T) : RT σ' t T := RT_of (fun o j ho => h.2.2 o j (by omega) (fun z => by omega)) H
theorem nextk_y {Tr : sT} {q b : Nat} (hb : b < 59) (h : inD Tr (nI q) (b + 1)) : nextk Tr q b = some (b + 1) := by
  unfold nextk
  rw [show 59 - b = (58 - b) + 1 by omega]
  exact cif_y h
theorem nextk_n {Tr : sT} {q b : Nat} (hb : b < 59) (h : ¬ inD Tr (nI q) (b + 1)) : nextk Tr q b = nextk Tr q (b + 1) := by
  unfold nextk
  rw [show 59 - b = (58 - b) + 1 by omega, show 59 - (b + 1) = 58 - b by omega]
  exact cif_n h
theorem nextk_e {Tr : sT} {q : Nat} : nextk Tr q 59 = none := rfl
theorem rsq_y {Tr : sT} {n q b p : Nat} (h : nextk Tr q b = some p) : rsq Tr (n + 1) q b = cif (isDirAt Tr p) (rsq Tr n p 0) [p] ++ rsq Tr n q p := by
  show (match nextk Tr q b with | none => [q] | some p => cif (isDirAt Tr p) (rsq Tr n p 0) [p] ++ rsq Tr n q p) = _
  rw [h]
theorem rsq_e {Tr : sT} {n q b : Nat} (h : nextk Tr q b = none) : rsq Tr (n + 1) q b = [q] := by
  show (match nextk Tr q b with | none => [q] | some p => cif (isDirAt Tr p) (rsq Tr n p 0) [p] ++ rsq Tr n q p) = _
  rw [h]
theorem rsq_n {Tr : sT} {n q b b' : Nat} (h : nextk Tr q b = nextk Tr q b') : rsq Tr (n + 1) q b = rsq Tr (n + 1) q b' := by
  show (match nextk Tr q b with | none => [q] | some p => cif (isDirAt Tr p) (rsq Tr n p 0) [p] ++ rsq Tr n q p) = (match nextk Tr q b' with | none => [q] | some p => cif (isDirAt Tr p) (rsq Tr n p 0) [p] ++ rsq Tr n q p)
  rw [h]
theorem tp_app {A B : List Int32} (i : Nat) : tp (A ++ B) i = if i < A.length then tp A i else tp B (i - A.length) := by
  unfold tp
  rw [List.getD_eq_getElem?_getD]
  by_cases c : i < A.length
  · rw [if_pos c, List.getElem?_append_left c, List.getD_eq_getElem?_getD]
  · rw [if_neg c, List.getElem?_append_right (by omega), List.getD_eq_getElem?_getD]
section RSC
variable {ge : Nat → Nat} {am : Nat} {h : mm_M}
/-- the last steps: the score of path q is laid down -/
theorem rt_s211 (hM : RM am h) (hg : ge 0 ≤ am) {SC : (Nat → Nat) → Nat → Int32 → Int32 → mm_M → (mm_M → Prop) → Prop} {σ : rS} {q : Nat} (hq : q < 60) {k : Bool} {s1 : sB_} {last : Nat → qW} (hA : Rar σ k s1) (hl : Rla σ last) (Z : mm_M → Prop)
    (hZ : ∀ σ', frQ σ σ' → Rar σ' k s1 → Rla σ' (upL last q (hds σ)) → hds σ' = hds σ → Z (r_em am σ' h)) : wq_Model_scores_211 SC ge am (nI q) (r_em am σ h) Z := by
  have hs := hM
  unfold RM at hs
  unfold wq_Model_scores_211 lp_Model_scores_214
  intro X hX
  have key : ∀ (r i : Nat) (τ : rS), i + r = 5 → τ.1 = σ.1 → τ.2.1 = σ.2.1 → (∀ o j, ¬ (o = 25 ∧ 5 * q ≤ j ∧ j < 5 * q + i) → τ.2.2 o j = σ.2.2 o j) → (∀ x, x < i → τ.2.2 25 (5 * q + x) = qi (hds σ) x) → X am (nI q) (nI i) (r_em am τ h) := by
    intro r
    induction r with
    | zero =>
      intro i τ hi t1 t2 t3 t4
      have e : i = 5 := by omega
      subst e
      refine hX _ _ _ _ ?_
      unfold wq_Model_scores_214
      refine ⟨fun _ => ?_, fun w => absurd (nI_le (a := 5) (Nat.le_refl 5) (by decide)) w⟩
      refine hZ τ ⟨fun i _ _ _ => by rw [t1], t2, fun o j ho _ => t3 o j (fun w => by omega)⟩ (Rar_of t1 (fun j => t3 _ _ (fun w => absurd w.1 (by decide))) hA) (fun p i hp hi => ?_) (hds_of (fun j => t3 _ _ (fun w => absurd w.1 (by decide))))
      unfold upL
      by_cases c : p = q
      · rw [if_pos c, c]; exact t4 i hi
      · rw [if_neg c, t3 _ _ (fun w => by omega)]; exact hl p i hp hi
    | succ r ih =>
      intro i τ hi t1 t2 t3 t4
      refine hX _ _ _ _ ?_
      unfold wq_Model_scores_214
      refine ⟨fun w => absurd w (nI_ge (b := 5) (by omega) (by decide)), fun _ => ?_⟩
      have q1 : (5 : Int32) * nI q + nI i = nI (5 * q + i) := by rw [show (5 : Int32) = nI 5 from rfl, pk_mul, nI_add]
      have v1 : vp_in (nI (5 * q + i)) 300 := vp_in_nI (by omega) (by decide)
      have v2 : (nI (5 * q + i)).toNatClampNeg = 5 * q + i := nI_clamp (by omega)
      have v3 : vp_in (nI i) 5 := vp_in_nI (by omega) (by decide)
      have v4 : (nI i).toNatClampNeg = i := nI_clamp (by omega)
      have h24 : τ.2.2 24 i = qi (hds σ) i := by rw [t3 _ _ (fun w => absurd w.1 (by decide)), hds_qi σ (by omega)]
      simp only [hs, rk, rn, rP, rI, rU, q1, v1, v2, v3, v4, h24, ge0 hg, true_and, Option.some.injEq, exists_eq_left', forall_eq, Nat.reduceLT]
      rw [← nI_succ]
      refine ih (i + 1) _ (by omega) t1 t2 (fun o j w => ?_) (fun x hx => ?_)
      · rw [raa, if_neg (fun y => w ⟨y.1, by omega, by omega⟩)]
        exact t3 o j (fun y => w ⟨y.1, by omega, by omega⟩)
      · rw [raa]
        by_cases c : x = i
        · rw [if_pos ⟨rfl, by omega⟩, c]
        · rw [if_neg (fun y => c (by omega))]
          exact t4 x (by omega)
  exact key 5 0 σ rfl rfl rfl (fun _ _ _ => rfl) (fun x hx => absurd hx (by omega))
set_option maxHeartbeats 4000000 in
/-- a directory's block -/
theorem rt_s87 (hM : RM am h) (hg : ge 0 ≤ am) {SC : (Nat → Nat) → Nat → Int32 → Int32 → mm_M → (mm_M → Prop) → Prop} {σ : rS} {t q : Nat} {Tr : sT} (ht : t < 28) (hq : q < 60) (hT : RT σ t Tr) (hok : ∀ p f, Tr p = some f → okF f) {k : Bool} {s : sB_ × (Nat → qW)} (hA : Rar σ k s.1) (hl : Rla σ s.2) {B60 : List Int32} (eB60 : B60 = dblk Tr (nI q) s.2 60) (Z : mm_M → Prop)
    (hZ : ∀ σ', frQ σ σ' → Rar σ' k (ofr k s.1 B60) → Rla σ' (upL s.2 q (sha B60)) → hds σ' = sha B60 → Z (r_em am σ' h)) : lp_Model_scores_87 SC ge am (nI t) (nI q) 0 (σ.1 17) 1 (r_em am σ h) Z := by
  have hs := hM
  unfold RM at hs
  unfold lp_Model_scores_87
  intro X hX
  have key : ∀ (r p : Nat) (τ : rS) (B : List Int32), p + r = 60 → 1 ≤ p → frR σ τ → Rar τ k s.1 → Rla τ s.2 → B = dblk Tr (nI q) s.2 p → (∀ i, i < B.length → τ.2.2 22 i = tp B i) → X am (nI t) (nI q) (nI B.length) (σ.1 17) (nI p) (r_em am τ h) := by
    intro r
    induction r with
    | zero =>
      intro p τ B hp hp1 t1 t2 t3 eB t4
      have e : p = 60 := by omega
      subst e
      have eB' : B = B60 := by rw [eB, eB60]
      subst eB'
      have hBl : B.length ≤ 5520 := by rw [eB]; exact (dblk_len hok 60).1
      refine hX _ _ _ _ _ _ _ ?_
      unfold wq_Model_scores_87
      refine ⟨fun _ => ?_, fun w => absurd (nI_le (a := 60) (Nat.le_refl 60) (by decide)) w⟩
      simp only [hs, rk, rU0, hg, true_and, forall_eq]
      have A2 : Rar (r_f τ 17 (σ.1 17)) k s.1 := by
        obtain ⟨a1, a2, a3⟩ := t2
        exact ⟨Rst_of (σ := τ) (by rw [rf1, if_neg (by decide)]) (by rw [rf1, if_neg (by decide)]) (fun _ => rfl) a1, by rw [rf1, if_neg (by decide)]; exact a2, fun hk => ⟨by rw [rf1, if_neg (by decide)]; exact (a3 hk).1, (a3 hk).2⟩⟩
      have F2 : frQ σ (r_f τ 17 (σ.1 17)) := by
        refine ⟨fun i x1 x2 x3 => ?_, t1.2.1, t1.2.2⟩
        rw [rf1]
        by_cases c : i = 17
        · rw [if_pos c, c]
        · rw [if_neg c]; exact t1.1 i c x1 x2 x3
      refine rt_puts (σ := r_f τ 17 (σ.1 17)) hM hg hBl t4 A2 _ (fun π a1 a2 a3 => ?_)
      refine rt_s211 hM hg hq a3 (Rla_of (σ := τ) (fun j => a1.2.2 _ _ (by decide)) t3) Z (fun π' b1 b2 b3 b4 => ?_)
      rw [a2] at b3 b4
      exact hZ π' (frQ_tr F2 (frQ_tr (frQ_S (frS_P a1)) b1)) b2 b3 b4
    | succ r ih =>
      intro p τ B hp hp1 t1 t2 t3 eB t4
      have hp60 : p < 60 := by omega
      have hBl : B.length ≤ 92 * p := by rw [eB]; exact (dblk_len hok p).1
      have rT : RT τ t Tr := RT_R t1 hT
      obtain ⟨y, ey⟩ : ∃ y, y = 60 * t + p := ⟨_, rfl⟩
      have hin : vp_in (nI y) 1680 := vp_in_nI (by omega) (by decide)
      have hcl : (nI y).toNatClampNeg = y := nI_clamp (by omega)
      have rp := rT.1 p hp60
      rw [← ey] at rp
      have skip : dent Tr (nI q) s.2 p = [] → X am (nI t) (nI q) (nI B.length) (σ.1 17) (nI p + 1) (r_em am τ h) := by
        intro hd
        rw [← nI_succ]
        refine ih (p + 1) τ B (by omega) (by omega) t1 t2 t3 ?_ t4
        rw [eB]
        show _ = dblk Tr (nI q) s.2 p ++ dent Tr (nI q) s.2 p
        rw [hd, List.append_nil]
      refine hX _ _ _ _ _ _ _ ?_
      unfold wq_Model_scores_87 wq_Model_scores_193 wq_Model_spot wq_Model_spot_0
      refine ⟨fun w => absurd w (nI_ge (b := 60) (by omega) (by decide)), fun _ => ?_⟩
      simp only [hs, rk, rn, rP, rI, r_sp, ← ey, hin, hcl, true_and, Option.some.injEq, exists_eq_left', Nat.reduceLT]
      rcases rp with ⟨e1, e2⟩ | ⟨f, e1, e2, kf, rf⟩
      · rw [e2]
        refine ⟨fun _ => skip ?_, fun w => absurd rfl w⟩
        unfold dent
        rw [e1]
      · rw [e2, rf.1]
        refine ⟨fun w => absurd w (by decide), fun _ => ⟨fun hc => ?_, fun hc => skip ?_⟩⟩
        rotate_left
        · unfold dent
          rw [e1]
          exact cif_n (fun w => hc w.2)
        have hd : dent Tr (nI q) s.2 p = statL p f ++ be20 (s.2 p) := by
          unfold dent
          rw [e1]
          exact cif_y ⟨by omega, hc⟩
        simp only [hs, rk, rU0, hg, true_and, forall_eq]
        obtain ⟨τ1, eτ1⟩ : ∃ τ1, τ1 = r_f τ 17 1400 := ⟨_, rfl⟩
        rw [← eτ1]
        have z1 : τ1.1 F_answerSize = nI 1400 := by rw [eτ1, rf1, if_pos rfl]; rfl
        have rf1' : RF τ1 (60 * t + p) f := by rw [← ey, eτ1]; exact rf
        refine rt_stat hM hg τ1 ht hp60 z1 (by decide) kf rf1' _ ?_
        obtain ⟨τ2, eτ2⟩ : ∃ τ2, τ2 = r_ap τ1 (statL p f) := ⟨_, rfl⟩
        rw [← eτ2]
        have l20 := kf.2.1
        have sl : (statL p f).length = 52 + (f_nm f).length := statL_len p f
        have z2 : τ2.1 17 = nI (1400 + (statL p f).length) := by rw [eτ2]; exact r_ap_t _ z1
        have a2 : ∀ j, τ2.2.2 11 j = if 1400 ≤ j ∧ j < 1400 + (statL p f).length then tp (statL p f) (j - 1400) else τ1.2.2 11 j := fun j => by rw [eτ2]; exact r_ap_at _ _ _ z1 (by omega) j
        have o2 : ∀ o j, ¬ o = 11 → τ2.2.2 o j = τ.2.2 o j := fun o j ho => by rw [eτ2, r_ap_o ho, eτ1]; rfl
        have f2 : ∀ i, ¬ i = 17 → τ2.1 i = τ.1 i := fun i hi => by rw [eτ2, ap_fd _ _ hi, eτ1, rf1, if_neg hi]
        have l2 : τ2.2.1 = τ.2.1 := by rw [eτ2, r_ap_l, eτ1]; rfl
        have F2 : frR σ τ2 := frR_tr t1 ⟨fun i x _ _ _ => f2 i x, l2, fun o j ho hj => by
          by_cases c : o = 11
          · subst c
            rw [a2, if_neg (by have := hj rfl; omega), eτ1]; rfl
          · exact o2 o j c⟩
        have A2 : Rar τ2 k s.1 := by
          obtain ⟨y1, y2, y3⟩ := t2
          exact ⟨Rst_of (σ := τ) (f2 _ (by decide)) (f2 _ (by decide)) (fun j => o2 _ _ (by decide)) y1, by rw [f2 _ (by decide)]; exact y2, fun hk => ⟨by rw [f2 _ (by decide)]; exact (y3 hk).1, (y3 hk).2⟩⟩
        have L2 : Rla τ2 s.2 := Rla_of (fun j => o2 _ _ (by decide)) t3
        have B2 : ∀ i, i < B.length → τ2.2.2 22 i = tp B i := fun i hi => by rw [o2 _ _ (by decide)]; exact t4 i hi
        unfold lp_Model_scores_145
        intro W hW
        have loop : ∀ (r' i : Nat) (ρ : rS), i + r' = (statL p f).length → ρ.1 = τ2.1 → ρ.2.1 = τ2.2.1 → (∀ o j, ¬ (o = 22 ∧ B.length ≤ j) → ρ.2.2 o j = τ2.2.2 o j) → (∀ x, x < i → ρ.2.2 22 (B.length + x) = tp (statL p f) x) → W am (nI t) (nI q) (nI (B.length + i)) (σ.1 17) (nI p) (nI (1400 + i)) (r_em am ρ h) := by
          intro r'
          induction r' with
          | zero =>
            intro i ρ hi u1 u2 u3 u4
            have ei : i = (statL p f).length := by omega
            refine hW _ _ _ _ _ _ _ _ ?_
            unfold wq_Model_scores_145
            have z3 : ρ.1 17 = nI (1400 + (statL p f).length) := by rw [u1]; exact z2
            have q5 : (5 : Int32) * nI p = nI (5 * p) := by rw [show (5 : Int32) = nI 5 from rfl, pk_mul]
            simp only [hs, rk, rP, rI0, z3, q5, true_and]
            refine ⟨fun _ => ?_, fun w => absurd (nI_le (by omega) (by omega)) w⟩
            refine rt_lay (o := 25) (N := 300) (q := s.2 p) hM hg (Or.inl ⟨rfl, rfl⟩) (by omega) (by omega) (fun x hx => ?_) _ (fun π b1 b2 b3 b4 => ?_)
            · rw [u3 _ _ (fun w => absurd w.1 (by decide))]; exact L2 p x hp60 hx
            · unfold wq_Model_scores_193
              rw [← nI_succ]
              have hlen : (B ++ (statL p f ++ be20 (s.2 p))).length = B.length + i + 20 := by rw [List.length_append, List.length_append, be20_len]; omega
              rw [← hlen]
              refine ih (p + 1) π (B ++ (statL p f ++ be20 (s.2 p))) (by omega) (by omega) ?_ ?_ ?_ ?_ ?_
              · refine frR_tr F2 ⟨fun i _ _ _ _ => by rw [b1, u1], by rw [b2, u2], fun o j ho hj => ?_⟩
                rw [b3 _ _ (fun w => by omega), u3 _ _ (fun w => by omega)]
              · refine Rar_of (σ := τ2) (by rw [b1, u1]) (fun j => ?_) A2
                rw [b3 _ _ (fun w => absurd w.1 (by decide)), u3 _ _ (fun w => absurd w.1 (by decide))]
              · refine Rla_of (σ := τ2) (fun j => ?_) L2
                rw [b3 _ _ (fun w => absurd w.1 (by decide)), u3 _ _ (fun w => absurd w.1 (by decide))]
              · rw [eB, ← hd]; rfl
              · intro x hx
                rw [hlen] at hx
                rw [tp_app]
                by_cases c1 : x < B.length
                · rw [if_pos c1, b3 _ _ (fun w => by omega), u3 _ _ (fun w => by omega)]
                  exact B2 x c1
                · rw [if_neg c1, tp_app]
                  by_cases c2 : x - B.length < (statL p f).length
                  · rw [if_pos c2, b3 _ _ (fun w => by omega)]
                    have := u4 (x - B.length) (by omega)
                    rw [show B.length + (x - B.length) = x by omega] at this
                    exact this
                  · rw [if_neg c2]
                    have := b4 (x - (B.length + i)) (by omega)
                    rw [show B.length + i + (x - (B.length + i)) = x by omega] at this
                    rw [this]
                    congr 1
                    omega
          | succ r' ih' =>
            intro i ρ hi u1 u2 u3 u4
            refine hW _ _ _ _ _ _ _ _ ?_
            unfold wq_Model_scores_145
            have z3 : ρ.1 17 = nI (1400 + (statL p f).length) := by rw [u1]; exact z2
            have v1 : vp_in (nI (1400 + i)) 1500 := vp_in_nI (by omega) (by decide)
            have v2 : (nI (1400 + i)).toNatClampNeg = 1400 + i := nI_clamp (by omega)
            have v3 : vp_in (nI (B.length + i)) 6080 := vp_in_nI (by omega) (by decide)
            have v4 : (nI (B.length + i)).toNatClampNeg = B.length + i := nI_clamp (by omega)
            have d1 : ρ.2.2 11 (1400 + i) = tp (statL p f) i := by
              rw [u3 _ _ (fun w => absurd w.1 (by decide)), a2, if_pos (by omega), show 1400 + i - 1400 = i by omega]
            simp only [hs, rk, rn, rP, rI0, rI, rU, z3, v1, v2, v3, v4, d1, ge0 hg, true_and, Option.some.injEq, exists_eq_left', forall_eq, Nat.reduceLT]
            refine ⟨fun w => absurd w (nI_ge (by omega) (by omega)), fun _ => ?_⟩
            rw [show nI (B.length + i) + 1 = nI (B.length + (i + 1)) from (nI_succ _).symm, show nI (1400 + i) + 1 = nI (1400 + (i + 1)) from (nI_succ _).symm]
            refine ih' (i + 1) _ (by omega) u1 u2 (fun o j w => ?_) (fun x hx => ?_)
            · rw [raa, if_neg (fun z => w ⟨z.1, by omega⟩)]
              exact u3 o j w
            · rw [raa]
              by_cases c : x = i
              · rw [if_pos ⟨rfl, by omega⟩, c]
              · rw [if_neg (fun z => c (by omega))]
                exact u4 x (by omega)
        exact loop (statL p f).length 0 τ2 (by omega) rfl rfl (fun _ _ _ => rfl) (fun x hx => absurd hx (by omega))
  have hB1 : dblk Tr (nI q) s.2 1 = [] := by
    show [] ++ dent Tr (nI q) s.2 0 = []
    rw [List.nil_append]
    unfold dent
    cases Tr 0 with
    | none => rfl
    | some f => exact cif_n (fun w => w.1 rfl)
  exact key 59 1 σ [] (by omega) (by omega) ⟨fun _ _ _ _ _ => rfl, rfl, fun _ _ _ _ => rfl⟩ hA hl hB1.symm (fun i hi => absurd hi (Nat.not_lt_zero i))
set_option maxHeartbeats 4000000 in
theorem rt_scores (hM : RM am h) (hg : ge 0 ≤ am) {t gv : Nat} {Tr : sT} (ht : t < 28) (hw : wfT Tr gv) {k : Bool} : ∀ (d q n : Nat) (f : sF) (σ : rS) (s : sB_ × (Nat → qW)) (Z : mm_M → Prop), Tr q = some f → 61 ≤ d + q → mu q 0 ≤ n → RT σ t Tr → Rar σ k s.1 → Rla σ s.2 →
    (∀ σ', frQ σ σ' → Rar σ' k ((cif (isDirAt Tr q) (rsq Tr n q 0) [q]).foldl (nst k Tr) s).1 → Rla σ' ((cif (isDirAt Tr q) (rsq Tr n q 0) [q]).foldl (nst k Tr) s).2 → hds σ' = ((cif (isDirAt Tr q) (rsq Tr n q 0) [q]).foldl (nst k Tr) s).2 q → Z (r_em am σ' h)) → wr_Model_scores d ge am (nI t) (nI q) (r_em am σ h) Z := by
  have hs := hM
  unfold RM at hs
  have hok : ∀ p f, Tr p = some f → okF f := fun p f hf => (hw.2.2 p f hf).2.1
  have hp60 : ∀ p f, Tr p = some f → p < 60 := fun p f hf => by have := (hw.2.2 p f hf).1; have := hw.1; omega
  intro d
  induction d with
  | zero =>
    intro q n f σ s Z hf hd
    have := hp60 q f hf
    omega
  | succ d ih =>
    intro q n f σ s Z hf hd hn hT hA hl hZ
    have hq := hp60 q f hf
    have kf := hok q f hf
    obtain ⟨_, i1, _, rf⟩ := RT_get hT hf
    obtain ⟨y, ey⟩ : ∃ y, y = 60 * t + q := ⟨_, rfl⟩
    rw [← ey] at rf
    show wq_Model_scores_0 (wr_Model_scores d) ge am (nI t) (nI q) (r_em am σ h) Z
    unfold wq_Model_scores_0 wq_Model_spot wq_Model_spot_0
    simp only [hs, rk, r_sp, ← ey, true_and]
    refine rq_isDirectory hM σ (by omega) _ ?_
    rw [rf.2.1]
    by_cases hfd : 0 ≤ f_md f
    · -- a file
      have nd : ¬ isDirAt Tr q := fun w => by obtain ⟨f', w1, w2⟩ := w; rw [hf] at w1; cases w1; exact w2 hfd
      rw [cif_n nd] at hZ
      rw [if_pos hfd]
      refine ⟨fun w => absurd rfl w, fun _ => ?_⟩
      simp only [hs, rk, true_and]
      refine rt_sfile hM hg ht hq kf (by rw [← ey]; exact rf) hA _ (fun σ1 a1 a2 a3 => ?_)
      refine rt_s211 hM hg hq a3 (Rla_of (fun j => a1.2.2 _ _ (Or.inr rfl)) hl) Z (fun σ2 b1 b2 b3 b4 => ?_)
      have en : nst k Tr s q = (ofr k (ofrC k (f_dt f) (nck (f_dt f)) s.1) (fblk (f_dt f) (nck (f_dt f))), upL s.2 q (sha (fblk (f_dt f) (nck (f_dt f))))) := by
        unfold nst nblk
        simp only [hf, if_pos hfd]
      have eF : [q].foldl (nst k Tr) s = nst k Tr s q := rfl
      rw [eF, en] at hZ
      rw [a2] at b3 b4
      refine hZ σ2 (frQ_tr (frQ_S a1) b1) b2 b3 ?_
      rw [b4]
      show _ = upL s.2 q _ q
      unfold upL
      rw [if_pos rfl]
    · -- a directory
      have yd : isDirAt Tr q := ⟨f, hf, hfd⟩
      rw [cif_y yd] at hZ
      rw [if_neg hfd]
      refine ⟨fun _ => ?_, fun w => absurd w (by decide)⟩
      unfold lp_Model_scores_26
      intro X hX
      have key : ∀ (r b n : Nat) (τ : rS) (s' : sB_ × (Nat → qW)), b + r = 59 → mu q b ≤ n → frQ σ τ → Rar τ k s'.1 → Rla τ s'.2 → (∀ σ', frQ σ σ' → Rar σ' k ((rsq Tr n q b).foldl (nst k Tr) s').1 → Rla σ' ((rsq Tr n q b).foldl (nst k Tr) s').2 → hds σ' = ((rsq Tr n q b).foldl (nst k Tr) s').2 q → Z (r_em am σ' h)) → X am (nI t) (nI q) (nI (b + 1)) (r_em am τ h) := by
        intro r
        induction r with
        | zero =>
          intro b n τ s' hb hn t1 t2 t3 hZ'
          have e : b = 59 := by omega
          subst e
          obtain ⟨n', en⟩ : ∃ n', n = n' + 1 := ⟨n - 1, by unfold mu at hn; omega⟩
          rw [en, rsq_e nextk_e] at hZ'
          have eF : [q].foldl (nst k Tr) s' = nst k Tr s' q := rfl
          obtain ⟨B, eB⟩ : ∃ B, B = dblk Tr (nI q) s'.2 60 := ⟨_, rfl⟩
          have en' : nst k Tr s' q = (ofr k s'.1 B, upL s'.2 q (sha B)) := by
            rw [eB]
            unfold nst nblk
            simp only [hf, if_neg hfd]
          rw [eF, en'] at hZ'
          refine hX _ _ _ _ _ ?_
          unfold wq_Model_scores_26
          refine ⟨fun _ => ?_, fun w => absurd (nI_le (a := 60) (Nat.le_refl 60) (by decide)) w⟩
          simp only [hs, rk, rI0, true_and]
          refine rt_s87 hM hg ht hq (RT_R (frQ_R t1) hT) hok t2 t3 eB Z (fun σ' b1 b2 b3 b4 => hZ' σ' (frQ_tr t1 b1) b2 b3 ?_)
          rw [b4]
          show _ = upL s'.2 q _ q
          unfold upL
          rw [if_pos rfl]
        | succ r ihr =>
          intro b n τ s' hb hn t1 t2 t3 hZ'
          have hb59 : b < 59 := by omega
          obtain ⟨n', en⟩ : ∃ n', n = n' + 1 := ⟨n - 1, by unfold mu at hn; omega⟩
          have rT : RT τ t Tr := RT_R (frQ_R t1) hT
          obtain ⟨z, ez⟩ : ∃ z, z = 60 * t + (b + 1) := ⟨_, rfl⟩
          have hin : vp_in (nI z) 1680 := vp_in_nI (by omega) (by decide)
          have hcl : (nI z).toNatClampNeg = z := nI_clamp (by omega)
          have rp := rT.1 (b + 1) (by omega)
          rw [← ez] at rp
          have skip : ¬ inD Tr (nI q) (b + 1) → X am (nI t) (nI q) (nI (b + 1) + 1) (r_em am τ h) := by
            intro hno
            rw [← nI_succ]
            rw [en, rsq_n (nextk_n hb59 hno), ← en] at hZ'
            exact ihr (b + 1) n τ s' (by omega) (by unfold mu at hn ⊢; omega) t1 t2 t3 hZ'
          refine hX _ _ _ _ _ ?_
          unfold wq_Model_scores_26 wq_Model_scores_69 wq_Model_spot wq_Model_spot_0
          refine ⟨fun w => absurd w (nI_ge (b := 60) (by omega) (by decide)), fun _ => ?_⟩
          simp only [hs, rk, rn, rP, rI, r_sp, ← ez, hin, hcl, true_and, Option.some.injEq, exists_eq_left', Nat.reduceLT]
          rcases rp with ⟨e1, e2⟩ | ⟨fp, e1, e2, kp, rpf⟩
          · rw [e2]
            exact ⟨fun _ => skip (fun w => by obtain ⟨_, f', w1, _⟩ := w; rw [e1] at w1; cases w1), fun w => absurd rfl w⟩
          · rw [e2, rpf.1]
            refine ⟨fun w => absurd w (by decide), fun _ => ⟨fun hc => skip (fun w => ?_), fun hc => ?_⟩⟩
            · obtain ⟨_, f', w1, w2⟩ := w
              rw [e1] at w1
              cases w1
              exact hc w2
            have hch : inD Tr (nI q) (b + 1) := ⟨by omega, fp, e1, hc⟩
            have hqp := inD_lt hw hq hch
            rw [en, rsq_y (nextk_y hb59 hch), List.foldl_append] at hZ'
            refine ih (b + 1) n' fp τ s' _ e1 (by omega) (by unfold mu at hn ⊢; omega) rT t2 t3 (fun τ' a1 a2 a3 _ => ?_)
            rw [← nI_succ]
            exact ihr (b + 1) n' τ' _ (by omega) (by unfold mu at hn ⊢; omega) (frQ_tr t1 a1) a2 a3 hZ'
      exact key 59 0 n σ s (by omega) hn (frQ_rf σ) hA hl hZ
end RSC
