/-! the class's archive and score -/
def lastOf (κ : cS) (p : Nat) : qW := (κ.1 88 (5 * p), κ.1 88 (5 * p + 1), κ.1 88 (5 * p + 2), κ.1 88 (5 * p + 3), κ.1 88 (5 * p + 4))
theorem Cls_lastOf (κ : cS) : Cls κ (lastOf κ) := by
  intro p i _ hi
  match i, hi with
  | 0, _ => rfl
  | 1, _ => rfl
  | 2, _ => rfl
  | 3, _ => rfl
  | 4, _ => rfl
/-- putting a tree away: the answer, the store after -/
noncomputable def arcV (st : List qW) (by_ : Int32) (Tr : sT) (last : Nat → qW) : Int32 × List qW × Int32 :=
  if (goV true Tr ((st, by_, false), last)).1.2.2 = true then (-2, st, by_) else (nI (goV true Tr ((st, by_, false), last)).1.1.length - nI st.length, (goV true Tr ((st, by_, false), last)).1.1, (goV true Tr ((st, by_, false), last)).1.2.1)
/-- the store, and the archiver's flag -/
def CA (κ : cS) (st : List qW) (by_ : Int32) : Prop := Cst κ st by_ ∧ (κ.1 80 6 = 0 ∨ κ.1 80 6 = 1)
theorem Cst_go {κ : cS} {st R : List qW} {b' by_ : Int32} (h : Cst κ (st ++ R) b') : Cst (c_u (c_u κ 81 0 (nI st.length)) 81 1 by_) st by_ := by
  obtain ⟨h1, h2, h3, h4⟩ := h
  rw [List.length_append] at h1
  refine ⟨by omega, by rw [cu1, if_neg (by simp), cu1, if_pos ⟨rfl, rfl⟩], by rw [cu1, if_pos ⟨rfl, rfl⟩], fun k q hk i hi => ?_⟩
  rw [cu1, if_neg (by simp), cu1, if_neg (by simp)]
  refine h4 k q ?_ i hi
  rw [List.getElem?_append_left (List.getElem?_eq_some_iff.mp hk).1]
  exact hk
section AC
variable {ge : Nat → Nat} {ax : Nat} {g : mm_M}
theorem cq_putAway (hM : CM ax g) (hg : ge 0 ≤ ax) {κ : cS} {b : Nat} {Tr : sT} {gv : Nat} (hw : wfT Tr gv) (ht : ∀ κ', κ'.2 = κ.2 → tre ax κ' g b Tr) {st : List qW} {by_ : Int32} (hA : CA κ st by_) (Z : Int32 → mm_M → Prop)
    (hZ : ∀ κ' last, frG κ κ' → CA κ' (arcV st by_ Tr last).2.1 (arcV st by_ Tr last).2.2 → Z (arcV st by_ Tr last).1 (c_em ax κ' g)) : wq_Archiver_putAway ge (ax + 80) (some b) (c_em ax κ g) Z := by
  obtain ⟨⟨a1, a2, a3, a4, a5, a6⟩, ⟨t1, t2, t3, t4⟩, _, _⟩ := CM_a hM
  unfold wq_Archiver_putAway wq_Archiver_putAway_0
  simp only [a1, a2, t1, ck, cP ax 80 rfl, cI ax 81 (by decide), cU ax 80 (by decide), geo hg, true_and, Option.some.injEq, exists_eq_left', forall_eq]
  have F0 : ∀ o j, ¬ o = 80 → (c_u (c_u κ 80 5 1) 80 6 0).1 o j = κ.1 o j := fun o j ho => by rw [cu1, if_neg (fun z => ho z.1), cu1, if_neg (fun z => ho z.1)]
  have e5 : (c_u (c_u κ 80 5 1) 80 6 0).1 80 5 = 1 := by rw [cu1, if_neg (by simp), cu1, if_pos ⟨rfl, rfl⟩]
  have e6 : (c_u (c_u κ 80 5 1) 80 6 0).1 80 6 = 0 := by rw [cu1, if_pos ⟨rfl, rfl⟩]
  have A0 : Car (c_u (c_u κ 80 5 1) 80 6 0) true (st, by_, false) := ⟨Cst_of (fun o j ho => F0 o j (by omega)) hA.1, by rw [e5]; decide, by rw [e6]; rfl⟩
  obtain ⟨c1, c2, c3, c4_⟩ := hA.1
  refine cq_goOver hM hg hw (κ := c_u (c_u κ 80 5 1) 80 6 0) ht (s := ((st, by_, false), lastOf _)) A0 (Cls_lastOf _) (Or.inr e5) _ (fun κ1 f1 g5 A1 C1 => ?_)
  obtain ⟨B1, B2, B3⟩ := A1
  have G : frG κ κ1 := ⟨f1.1, fun o j ho => (f1.2 o j ho).trans (F0 o j (by omega))⟩
  have hzz := fun κ' => hZ κ' (lastOf (c_u (c_u κ 80 5 1) 80 6 0))
  obtain ⟨R, hR⟩ := fold_pre true Tr (ordr Tr) ((st, by_, false), lastOf (c_u (c_u κ 80 5 1) 80 6 0))
  have hR' : (goV true Tr ((st, by_, false), lastOf (c_u (c_u κ 80 5 1) 80 6 0))).1.1 = st ++ R := hR
  simp only [a1, a2, t1, ck, cP ax 80 rfl, cI ax 80 (by decide), cI ax 81 (by decide), c2, c3, true_and, Option.some.injEq, exists_eq_left']
  unfold arcV at hzz
  generalize goV true Tr ((st, by_, false), lastOf (c_u (c_u κ 80 5 1) 80 6 0)) = V at *
  by_cases hf : V.1.2.2 = true
  · rw [if_pos hf] at B3
    simp only [if_pos hf] at hzz
    refine ⟨fun q => absurd (B3.symm.trans q) (by decide), fun _ => ?_⟩
    unfold wq_Store_goBackTo wq_Store_goBackTo_0
    simp only [t1, ck, cU ax 81 (by decide), geo hg, true_and, forall_eq]
    rw [hR'] at B1
    refine hzz _ ⟨G.1, fun o j ho => ?_⟩ ⟨Cst_go B1, ?_⟩
    · rw [cu1, if_neg (by omega), cu1, if_neg (by omega)]; exact G.2 o j ho
    · rw [cu1, if_neg (by simp), cu1, if_neg (by simp)]; exact Or.inr B3
  · rw [if_neg hf] at B3
    simp only [if_neg hf] at hzz
    refine ⟨fun _ => ?_, fun q => absurd B3 q⟩
    rw [B1.2.1]
    exact hzz κ1 G ⟨B1, Or.inl B3⟩
theorem cq_scoreOnly (hM : CM ax g) (hg : ge 0 ≤ ax) {κ : cS} {b : Nat} {Tr : sT} {gv : Nat} (hw : wfT Tr gv) (ht : ∀ κ', κ'.2 = κ.2 → tre ax κ' g b Tr) {st : List qW} {by_ : Int32} (hA : CA κ st by_) (Z : mm_M → Prop)
    (hZ : ∀ κ' last, frG κ κ' → CA κ' st by_ → Cls κ' last → last 0 = sc Tr 0 → Z (c_em ax κ' g)) : wq_Archiver_scoreOnly ge (ax + 80) (some b) (c_em ax κ g) Z := by
  obtain ⟨⟨a1, a2, a3, a4, a5, a6⟩, _, _, _⟩ := CM_a hM
  unfold wq_Archiver_scoreOnly wq_Archiver_scoreOnly_0
  simp only [a1, ck, cU ax 80 (by decide), geo hg, true_and, forall_eq]
  have F0 : ∀ o j, ¬ (o = 80 ∧ j = 5) → (c_u κ 80 5 0).1 o j = κ.1 o j := fun o j ho => by rw [cu1, if_neg ho]
  have e5 : (c_u κ 80 5 0).1 80 5 = 0 := by rw [cu1, if_pos ⟨rfl, rfl⟩]
  have A0 : ∃ fl : Bool, Car (c_u κ 80 5 0) false (st, by_, fl) := by
    rcases hA.2 with z | z
    · exact ⟨false, Cst_of (fun o j ho => F0 o j (by omega)) hA.1, by rw [e5]; decide, by rw [F0 _ _ (by decide), z]; rfl⟩
    · exact ⟨true, Cst_of (fun o j ho => F0 o j (by omega)) hA.1, by rw [e5]; decide, by rw [F0 _ _ (by decide), z]; rfl⟩
  obtain ⟨fl, A0⟩ := A0
  refine cq_goOver hM hg hw (κ := c_u κ 80 5 0) ht (s := ((st, by_, fl), lastOf _)) A0 (Cls_lastOf _) (Or.inl e5) _ (fun κ1 f1 g5 A1 C1 => ?_)
  have e1 : (goV false Tr ((st, by_, fl), lastOf (c_u κ 80 5 0))).1 = (st, by_, fl) := fold_f Tr (ordr Tr) _
  rw [e1] at A1
  refine hZ κ1 _ ⟨f1.1, fun o j ho => (f1.2 o j ho).trans (F0 o j (by omega))⟩ ⟨A1.1, ?_⟩ C1 (goV_root hw _)
  rw [A1.2.2]
  by_cases e : fl = true
  · rw [if_pos e]; exact Or.inr rfl
  · rw [if_neg e]; exact Or.inl rfl
theorem cq_copyRoot (hM : CM ax g) (hg : ge 0 ≤ ax) {κ : cS} {k : Nat} (hk : k < 6) {last : Nat → qW} (hl : Cls κ last) (Z : mm_M → Prop)
    (hZ : ∀ κ', κ'.2 = κ.2 → (∀ o j, ¬ (o = 77 ∧ 5 * k ≤ j ∧ j < 5 * k + 5) → κ'.1 o j = κ.1 o j) → (∀ i, i < 5 → κ'.1 77 (5 * k + i) = qi (last 0) i) → Z (c_em ax κ' g)) : wq_Archiver_copyRootScore ge (ax + 80) (some (ax + 77)) (nI k * 5) (c_em ax κ g) Z := by
  obtain ⟨⟨a1, a2, a3, a4, a5, a6⟩, _, _, ⟨l1, l2, _, _⟩⟩ := CM_a hM
  obtain ⟨_, _, _, _, s5, s6, _, _, _, _⟩ := CM_s hM
  unfold wq_Archiver_copyRootScore wq_Archiver_copyRootScore_0 lp_Archiver_copyRootScore_2
  intro X hX
  have e0 : nI k * 5 = nI (5 * k) := by rw [show (5 : Int32) = nI 5 from rfl, pk_mul, show k * 5 = 5 * k by omega]
  rw [e0]
  have key : ∀ (m w : Nat) (κ' : cS), w + m = 5 → κ'.2 = κ.2 → (∀ o j, ¬ (o = 77 ∧ 5 * k ≤ j ∧ j < 5 * k + w) → κ'.1 o j = κ.1 o j) → (∀ i, i < w → κ'.1 77 (5 * k + i) = qi (last 0) i) → X (ax + 80) (some (ax + 77)) (nI (5 * k)) (nI w) (c_em ax κ' g) := by
    intro m
    induction m with
    | zero =>
      intro w κ' hw e2 e1 hk
      have ew : w = 5 := by omega
      subst ew
      refine hX _ _ _ _ _ ?_
      unfold wq_Archiver_copyRootScore_2
      exact ⟨fun _ => hZ κ' e2 e1 hk, fun q => absurd (nI_le (a := 5) (Nat.le_refl _) (by decide)) q⟩
    | succ m ih =>
      intro w κ' hw e2 e1 hk'
      refine hX _ _ _ _ _ ?_
      unfold wq_Archiver_copyRootScore_2 wq_Archiver_copyRootScore_36
      refine ⟨fun q => absurd q (nI_ge (b := 5) (by omega) (by decide)), fun _ => ?_⟩
      have hin1 : vp_in (nI (5 * k + w)) 30 := vp_in_nI (by omega) (by decide)
      have hcl1 : (nI (5 * k + w)).toNatClampNeg = 5 * k + w := nI_clamp (by omega)
      have hin2 : vp_in (nI w) 300 := vp_in_nI (by omega) (by decide)
      have hcl2 : (nI w).toNatClampNeg = w := nI_clamp (by omega)
      have ez : (0 : Int32) + nI w = nI w := by rw [show (0 : Int32) = nI 0 from rfl, nI_add, Nat.zero_add]
      have p88 : κ'.1 88 w = qi (last 0) w := by
        rw [e1 _ _ (by omega)]
        have := hl 0 w (by decide) (by omega)
        rw [Nat.mul_zero, Nat.zero_add] at this
        exact this
      simp only [a1, a5, l1, l2, s5, s6, ck, cn, toI, cP ax 80 rfl, cI ax 88 (by decide), cU ax 77 (by decide), nI_add, ez, p88, hin1, hcl1, hin2, hcl2, geo hg, true_and, Option.some.injEq, exists_eq_left', forall_eq]
      refine ⟨fun q => absurd q (nI_pos (by omega)), fun _ => ⟨fun q => absurd q (nI_ge (b := 30) (by omega) (by decide)), fun _ => ?_⟩⟩
      rw [← nI_succ]
      refine ih (w + 1) _ (by omega) e2 (fun o j ho => ?_) (fun i hi => ?_)
      · rw [cu1, if_neg (by omega)]
        exact e1 o j (by omega)
      · rw [cu1]
        by_cases e : i = w
        · subst e; rw [if_pos ⟨rfl, rfl⟩]
        · rw [if_neg (by omega)]
          exact hk' i (by omega)
  exact key 5 0 κ (by omega) rfl (fun _ _ _ => rfl) (fun k h => absurd h (by omega))
end AC
/-- a byte of a score -/
def scV (q : qW) (i : Nat) : Int32 := qi q (i / 4) >>> (nI (24 - 8 * (i % 4)) &&& 31) &&& 255
theorem ush_b (v : Int32) {n : Nat} (hn : n ≤ 24) : (v.toUInt32 >>> ((nI n).toUInt32 &&& Int32.toUInt32 31)).toInt32 &&& 255 = v >>> (nI n &&& 31) &&& 255 := by
  apply b_ext
  intro i hi
  rw [b_and, b_and, b_255, b_ushr n (by omega), b_sshr n (by omega) v hi]
  by_cases c : i < 8
  · rw [if_pos (by omega)]
  · rw [decide_eq_false c, Bool.and_false, Bool.and_false]
theorem scV_ix : ∀ i, i < 20 → (nI i) / 4 = nI (i / 4) ∧ (24 : Int32) - 8 * (nI i - nI i / 4 * 4) = nI (24 - 8 * (i % 4)) := by decide +kernel
/-- the scores that are kept -/
def Csc (κ : cS) (S : List sT) : Prop := (∀ k Tr, S[k]? = some Tr → κ.1 79 k = 0 ∨ (κ.1 79 k = 1 ∧ ∀ i, i < 5 → κ.1 77 (5 * k + i) = qi (sc Tr 0) i)) ∧ ∀ k, S.length ≤ k → k < 6 → κ.1 79 k = 0
