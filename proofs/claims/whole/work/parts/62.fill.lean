/-! the class's Archiver: a file's blocks, a directory's block -/
def be20 (q : qW) : List Int32 := be4 (qi q 0) ++ (be4 (qi q 1) ++ (be4 (qi q 2) ++ (be4 (qi q 3) ++ be4 (qi q 4))))
theorem be20_len (q : qW) : (be20 q).length = 20 := rfl
theorem be20_B (q : qW) : allB (be20 q) := allB_app (be4_B _) (allB_app (be4_B _) (allB_app (be4_B _) (allB_app (be4_B _) (be4_B _))))
def chunk (D : List Int32) (j : Nat) : List Int32 := slc D (64 * j) (min 64 (D.length - 64 * j))
def nck (D : List Int32) : Nat := (D.length + 63) / 64
noncomputable def ofrC (k : Bool) (D : List Int32) : Nat → sB_ → sB_
  | 0, σ => σ
  | j + 1, σ => ofr k (ofrC k D j σ) (chunk D j)
def fblk (D : List Int32) : Nat → List Int32
  | 0 => []
  | j + 1 => fblk D j ++ be20 (sha (chunk D j))
noncomputable def dent (Tr : sT) (dd : Int32) (last : Nat → qW) (p : Nat) : List Int32 := match Tr p with
  | none => []
  | some f => cif (¬ p = 0 ∧ f_in f = dd) (statL p f ++ be20 (last p)) []
noncomputable def dblk (Tr : sT) (dd : Int32) (last : Nat → qW) : Nat → List Int32
  | 0 => []
  | p + 1 => dblk Tr dd last p ++ dent Tr dd last p
theorem chunk_len {D : List Int32} {j : Nat} (h : 64 * j ≤ D.length) : (chunk D j).length = min 64 (D.length - 64 * j) := slc_len (by omega)
theorem fblk_len (D : List Int32) : ∀ j, (fblk D j).length = 20 * j
  | 0 => rfl
  | j + 1 => by
    show (fblk D j ++ be20 _).length = _
    rw [List.length_append, fblk_len D j, be20_len]
    omega
theorem fblk_B (D : List Int32) : ∀ j, allB (fblk D j)
  | 0 => allB_nil
  | j + 1 => allB_app (fblk_B D j) (be20_B _)
def Cls (κ : cS) (last : Nat → qW) : Prop := ∀ p i, p < 60 → i < 5 → κ.1 88 (5 * p + i) = qi (last p) i
/-- what filling the block leaves -/
def frF (κ κ' : cS) : Prop := κ'.2 = κ.2 ∧ ∀ o j, (o < 80 ∨ 88 ≤ o) → κ'.1 o j = κ.1 o j
theorem frF_tr {a b c : cS} (h1 : frF a b) (h2 : frF b c) : frF a c := ⟨h2.1.trans h1.1, fun o j x => (h2.2 o j x).trans (h1.2 o j x)⟩
theorem frF_rf (κ : cS) : frF κ κ := ⟨rfl, fun _ _ _ => rfl⟩
theorem frF_ap (κ : cS) (B : List Int32) : frF κ (c_ap κ 86 B) := ⟨c_ap_2 86 B κ, fun o j h => c_ap_o (Or.inl (by omega)) (by omega) B κ⟩
section AR
variable {ge : Nat → Nat} {ax : Nat} {g : mm_M}
/-- five words come to the block -/
theorem cq_words (hM : CM ax g) (hg : ge 0 ≤ ax) {κ : cS} {t : Nat} (ht : κ.1 86 1 = nI t) (hl : t + 20 ≤ 5520) (q : qW) (Y : Nat → cS → Prop) (step : ∀ (i : Nat) (κ' : cS) (u : Nat), i < 5 → κ'.1 86 1 = nI u → u + 4 ≤ 5520 → (∀ o j, ¬ o = 86 → ¬ o = 87 → κ'.1 o j = κ.1 o j) → κ'.2 = κ.2 → Y (i + 1) (c_ap κ' 86 (be4 (qi q i))) → Y i κ') (hZ : Y 5 (c_ap κ 86 (be20 q))) : Y 0 κ := by
  have tt : ∀ (κ' : cS) (u : Nat) (v : Int32), κ'.1 86 1 = nI u → (c_ap κ' 86 (be4 v)).1 86 1 = nI (u + 4) := fun κ' u v h => c_ap_t (be4 v) h
  have fo : ∀ (κ' : cS) (v : Int32), (∀ o j, ¬ o = 86 → ¬ o = 87 → κ'.1 o j = κ.1 o j) → ∀ o j, ¬ o = 86 → ¬ o = 87 → (c_ap κ' 86 (be4 v)).1 o j = κ.1 o j := fun κ' v h o j h1 h2 => (c_ap_o (Or.inl h1) h2 _ _).trans (h o j h1 h2)
  have f2 : ∀ (κ' : cS) (v : Int32), κ'.2 = κ.2 → (c_ap κ' 86 (be4 v)).2 = κ.2 := fun κ' v h => (c_ap_2 86 _ κ').trans h
  unfold be20 at hZ
  rw [c_ap_app, c_ap_app, c_ap_app, c_ap_app] at hZ
  have e0 : ∀ o j, ¬ o = 86 → ¬ o = 87 → κ.1 o j = κ.1 o j := fun _ _ _ _ => rfl
  have t1 := tt κ t (qi q 0) ht
  have t2 := tt _ _ (qi q 1) t1
  have t3 := tt _ _ (qi q 2) t2
  have t4 := tt _ _ (qi q 3) t3
  have e1 := fo κ (qi q 0) e0
  have e2 := fo _ (qi q 1) e1
  have e3 := fo _ (qi q 2) e2
  have e4 := fo _ (qi q 3) e3
  have g1 := f2 κ (qi q 0) rfl
  have g2 := f2 _ (qi q 1) g1
  have g3 := f2 _ (qi q 2) g2
  have g4 := f2 _ (qi q 3) g3
  refine step 0 κ t (by decide) ht (by omega) e0 rfl ?_
  refine step 1 _ (t + 4) (by decide) t1 (by omega) e1 g1 ?_
  refine step 2 _ (t + 4 + 4) (by decide) t2 (by omega) e2 g2 ?_
  refine step 3 _ (t + 4 + 4 + 4) (by decide) t3 (by omega) e3 g3 ?_
  exact step 4 _ (t + 4 + 4 + 4 + 4) (by decide) t4 (by omega) e4 g4 hZ
theorem srcB_data {κ : cS} {D : List Int32} {b : Nat} (hb : fz ax b) (hD : bA g b D) (hD5 : D.length ≤ 512) {j : Nat} (hj : 64 * j ≤ D.length) : srcB ax κ g b D.length (64 * j) (chunk D j) := by
  refine ⟨hD.1, hD.2.1, by omega, by rw [chunk_len hj]; omega, Or.inr hb, fun i x hx => ?_⟩
  have hi : i < (chunk D j).length := (List.getElem?_eq_some_iff.mp hx).1
  rw [chunk_len hj] at hi
  rw [cIf hb]
  unfold chunk at hx
  rw [slc_get hi] at hx
  exact hD.2.2 _ _ hx
theorem srcB_block (hM : CM ax g) {κ : cS} {B : List Int32} (h : c_L κ 86 B) (hl : B.length ≤ 5520) : srcB ax κ g (ax + 87) 5520 0 B := by
  obtain ⟨b1, b2, b3, b4⟩ := CM_b86 hM
  refine ⟨b3, b4, by decide, by omega, Or.inl rfl, fun i x hx => ?_⟩
  rw [Nat.zero_add, cI ax 87 (by decide)]
  exact h.2 i x hx
set_option maxHeartbeats 2000000 in
theorem cq_fillD (hM : CM ax g) (hg : ge 0 ≤ ax) {κ : cS} {D : List Int32} {b : Nat} (hb : fz ax b) (hD : bA g b D) (hDB : allB D) (hD5 : D.length ≤ 512) {k : Bool} {σ : sB_} (hA : Car κ k σ) (hk01 : κ.1 80 5 = 0 ∨ κ.1 80 5 = 1) (h0 : c_L κ 86 []) (Z : mm_M → Prop)
    (hZ : ∀ κ', frF κ κ' → κ'.1 80 5 = κ.1 80 5 → Car κ' k (ofrC k D (nck D) σ) → c_L κ' 86 (fblk D (nck D)) → Z (c_em ax κ' g)) : wq_Archiver_fillFromData ge (ax + 80) (some b) (c_em ax κ g) Z := by
  obtain ⟨⟨a1, a2, a3, a4, a5, a6⟩, _, ⟨s1, s2, _, s4, s5, _, _⟩, _⟩ := CM_a hM
  have hb86 := CM_b86 hM
  unfold wq_Archiver_fillFromData wq_Archiver_fillFromData_0 lp_Archiver_fillFromData_2
  intro X hX
  have key : ∀ (m j : Nat) (κ' : cS), j + m = nck D → frF κ κ' → κ'.1 80 5 = κ.1 80 5 → Car κ' k (ofrC k D j σ) → c_L κ' 86 (fblk D j) → X (ax + 80) (some b) (nI (64 * j)) (c_em ax κ' g) := by
    intro m
    induction m with
    | zero =>
      intro j κ' hj f' h5 A' c'
      have ej : j = nck D := by omega
      subst ej
      refine hX _ _ _ _ ?_
      unfold wq_Archiver_fillFromData_2
      simp only [hD.1, hD.2.1, ck, cn, toI, true_and, Option.some.injEq, exists_eq_left']
      exact ⟨fun _ => hZ κ' f' h5 A' c', fun q => absurd (nI_le (by unfold nck; omega) (by unfold nck; omega)) q⟩
    | succ m ih =>
      intro j κ' hj f' h5 A' c'
      have hlt : 64 * j < D.length := by unfold nck at hj; omega
      have hj8 : j < 8 := by omega
      refine hX _ _ _ _ ?_
      unfold wq_Archiver_fillFromData_2
      simp only [hD.1, hD.2.1, a1, ck, cn, toI, true_and, Option.some.injEq, exists_eq_left']
      refine ⟨fun q => absurd q (nI_ge hlt (by omega)), fun _ => ?_⟩
      have em : (if nI D.length - nI (64 * j) < 64 then nI D.length - nI (64 * j) else 64) = nI (chunk D j).length := by
        rw [nI_sub (by omega), chunk_len (by omega), show (64 : Int32) = nI 64 from rfl]
        by_cases z : D.length - 64 * j < 64
        · rw [if_pos (nI_lt z (by omega)), Nat.min_eq_right (by omega)]
        · rw [if_neg (nI_nlt (by omega) (by omega)), Nat.min_eq_left (by omega)]
      rw [em]
      refine cq_offer hM hg (srcB_data hb hD hD5 (by omega)) (slc_B hDB _ _) A' (by rw [h5]; exact hk01) _ (fun κ1 f1 w1 A1 g5 => ?_)
      have c1 : c_L κ1 86 (fblk D j) := c_L_of (fun i => f1.2 _ _ (by decide)) (f1.2 _ _ (by decide)) c'
      have l1 : κ1.1 86 1 = nI (20 * j) := by rw [c1.1, fblk_len]
      unfold lp_Archiver_fillFromData_25
      intro Y hY
      have hin : ∀ i, i < 5 → vp_in (nI i) 5 := fun i hi => vp_in_nI hi (by decide)
      have hcl : ∀ i, i < 5 → (nI i).toNatClampNeg = i := fun i hi => nI_clamp (by omega)
      refine cq_words (κ := κ1) hM hg l1 (by omega) (sha (chunk D j)) (fun i κ'' => Y (ax + 80) (some b) (nI (64 * j)) (nI i) (c_em ax κ'' g)) (fun i κ2 u hi hu hul e2 e2' hy => ?_) ?_
      · refine hY _ _ _ _ _ ?_
        unfold wq_Archiver_fillFromData_25
        refine ⟨fun q => absurd q (nI_ge (b := 5) (by omega) (by decide)), fun _ => ?_⟩
        have w84 : κ2.1 84 i = qi (sha (chunk D j)) i := by rw [e2 _ _ (by decide) (by decide), ← wds_qi κ1 hi, w1]
        simp only [a1, a3, a4, s1, s2, s4, s5, hb86.1, ck, cn, cP ax 80 rfl, cP ax 83 rfl, cI ax 84 (by decide), hin i hi, hcl i hi, w84, true_and, Option.some.injEq, exists_eq_left']
        refine cq_putHigh hb86 hg (by decide) rfl (by decide) _ hu hul _ _ ?_
        rw [← nI_succ]
        exact hy
      · refine hY _ _ _ _ _ ?_
        unfold wq_Archiver_fillFromData_25
        refine ⟨fun _ => ?_, fun q => absurd (nI_le (a := 5) (Nat.le_refl _) (by decide)) q⟩
        rw [show nI (64 * j) + 64 = nI (64 * (j + 1)) from by rw [show (64 : Int32) = nI 64 from rfl, nI_add, show 64 * j + 64 = 64 * (j + 1) by omega]]
        have F1 : frF κ' κ1 := ⟨f1.1, fun o i h => f1.2 o i (by omega)⟩
        refine ih (j + 1) _ (by omega) (frF_tr f' (frF_tr F1 (frF_ap _ _))) ?_ (Car_of (fun o i h => c_ap_o (Or.inl (by omega)) (by omega) _ _) A1) ?_
        · rw [c_ap_o (Or.inl (by decide)) (by decide), g5]; exact h5
        · exact c_L_ap _ c1 (by rw [fblk_len, be20_len]; omega)
  exact key (nck D) 0 κ (by omega) (frF_rf κ) rfl hA h0
theorem dent_len {Tr : sT} {dd : Int32} {last : Nat → qW} {p : Nat} (h : ∀ f, Tr p = some f → okF f) : (dent Tr dd last p).length ≤ 92 ∧ allB (dent Tr dd last p) := by
  unfold dent
  cases hT : Tr p with
  | none => exact ⟨by simp, allB_nil⟩
  | some f =>
    simp only
    have ho := h f hT
    by_cases c : ¬ p = 0 ∧ f_in f = dd
    · rw [cif_y c]
      refine ⟨?_, allB_app (statL_B _ _ ho.2.2.2.1) (be20_B _)⟩
      rw [List.length_append, statL_len, be20_len]
      have := ho.2.1
      omega
    · rw [cif_n c]; exact ⟨by simp, allB_nil⟩
theorem dblk_len {Tr : sT} {dd : Int32} {last : Nat → qW} (h : ∀ p f, Tr p = some f → okF f) : ∀ n, (dblk Tr dd last n).length ≤ 92 * n ∧ allB (dblk Tr dd last n)
  | 0 => ⟨Nat.le_refl _, allB_nil⟩
  | n + 1 => by
    obtain ⟨h1, h2⟩ := dblk_len h n
    obtain ⟨h3, h4⟩ := dent_len (dd := dd) (last := last) (h n)
    refine ⟨?_, allB_app h2 h4⟩
    show (dblk Tr dd last n ++ dent Tr dd last n).length ≤ _
    rw [List.length_append]
    omega
set_option maxHeartbeats 2000000 in
theorem cq_fillT (hM : CM ax g) (hg : ge 0 ≤ ax) {κ : cS} {b : Nat} {Tr : sT} (ht : ∀ κ', κ'.2 = κ.2 → tre ax κ' g b Tr) (hok : ∀ p f, Tr p = some f → okF f) (dd : Int32) {last : Nat → qW} (hl : Cls κ last) (h0 : c_L κ 86 []) (Z : mm_M → Prop)
    (hZ : Z (c_em ax (c_ap κ 86 (dblk Tr dd last 60)) g)) : wq_Archiver_fillFromDirectory ge (ax + 80) (some b) dd (c_em ax κ g) Z := by
  obtain ⟨⟨a1, a2, a3, a4, a5, a6⟩, _, _, ⟨l1, l2, _, _⟩⟩ := CM_a hM
  have hb86 := CM_b86 hM
  unfold wq_Archiver_fillFromDirectory wq_Archiver_fillFromDirectory_0 lp_Archiver_fillFromDirectory_2
  intro X hX
  have key : ∀ (m p : Nat), p + m = 60 → X (ax + 80) (some b) dd (nI p) (c_em ax (c_ap κ 86 (dblk Tr dd last p)) g) := by
    intro m
    induction m with
    | zero =>
      intro p hp
      have e : p = 60 := by omega
      subst e
      refine hX _ _ _ _ _ ?_
      unfold wq_Archiver_fillFromDirectory_2
      exact ⟨fun _ => hZ, fun q => absurd (nI_le (a := 60) (Nat.le_refl _) (by decide)) q⟩
    | succ m ih =>
      intro p hp
      obtain ⟨d1, d2⟩ := dblk_len (dd := dd) (last := last) hok p
      have cL := c_L_ap (dblk Tr dd last p) h0 (by simp; omega)
      rw [List.nil_append] at cL
      have hT := ht (c_ap κ 86 (dblk Tr dd last p)) (c_ap_2 86 _ κ)
      refine hX _ _ _ _ _ ?_
      unfold wq_Archiver_fillFromDirectory_2 wq_Archiver_fillFromDirectory_63
      refine ⟨fun q => absurd q (nI_ge (b := 60) (by omega) (by decide)), fun _ => ⟨b, rfl, hT.1, ?_⟩⟩
      refine cq_tin hT dd (by omega) _ (fun a f w0 w1 w2 w3 => ⟨fun y => absurd y (by simp), fun a6 _ => ?_⟩) (fun w => ⟨fun _ => ?_, fun a6 y => absurd y (by simp)⟩)
      · have l20 := w3.1.2.1
        have hd : dblk Tr dd last (p + 1) = dblk Tr dd last p ++ (statL p f ++ be20 (last p)) := by
          show dblk Tr dd last p ++ dent Tr dd last p = _
          unfold dent
          rw [w1]
          simp only
          rw [cif_y ⟨w0, w2⟩]
        simp only [a1, a4, hb86.1, ck, cP ax 80 rfl, true_and, Option.some.injEq, exists_eq_left']
        refine cq_putStat hb86 hg (by decide) rfl (by decide) _ cL.1 w3 (by omega) _ ?_
        have t1 := c_ap_t (o := 86) (statL p f) cL.1
        rw [statL_len] at t1
        unfold lp_Archiver_fillFromDirectory_33
        intro Y hY
        refine cq_words (κ := c_ap (c_ap κ 86 (dblk Tr dd last p)) 86 (statL p f)) hM hg t1 (by omega) (last p) (fun i κ'' => Y (ax + 80) (some b) dd (nI p) (nI i) (c_em ax κ'' g)) (fun i κ2 u hi hu hul e2 e2' hy => ?_) ?_
        · refine hY _ _ _ _ _ _ ?_
          unfold wq_Archiver_fillFromDirectory_33
          refine ⟨fun q => absurd q (nI_ge (b := 5) (by omega) (by decide)), fun _ => ?_⟩
          have em : nI p * 5 + nI i = nI (5 * p + i) := by rw [show (5 : Int32) = nI 5 from rfl, pk_mul, nI_add, show p * 5 = 5 * p by omega]
          have hin : vp_in (nI (5 * p + i)) 300 := vp_in_nI (by omega) (by decide)
          have hcl : (nI (5 * p + i)).toNatClampNeg = 5 * p + i := nI_clamp (by omega)
          have w88 : κ2.1 88 (5 * p + i) = qi (last p) i := by
            rw [e2 _ _ (by decide) (by decide), c_ap_o (Or.inl (by decide)) (by decide), c_ap_o (Or.inl (by decide)) (by decide)]
            exact hl p i (by omega) hi
          simp only [a1, a4, a5, l1, l2, hb86.1, ck, cn, cP ax 80 rfl, cI ax 88 (by decide), em, hin, hcl, w88, true_and, Option.some.injEq, exists_eq_left']
          refine cq_putHigh hb86 hg (by decide) rfl (by decide) _ hu hul _ _ ?_
          rw [← nI_succ]
          exact hy
        · refine hY _ _ _ _ _ _ ?_
          unfold wq_Archiver_fillFromDirectory_33 wq_Archiver_fillFromDirectory_63
          refine ⟨fun _ => ?_, fun q => absurd (nI_le (a := 5) (Nat.le_refl _) (by decide)) q⟩
          have := ih (p + 1) (by omega)
          rw [hd, c_ap_app, c_ap_app, nI_succ] at this
          exact this
      · have hd : dblk Tr dd last (p + 1) = dblk Tr dd last p := by
          show dblk Tr dd last p ++ dent Tr dd last p = _
          unfold dent
          cases hTp : Tr p with
          | none => simp
          | some f =>
            simp only
            rw [cif_n (fun z => w ⟨z.1, f, hTp, z.2⟩), List.append_nil]
        have := ih (p + 1) (by omega)
        rw [hd, nI_succ] at this
        exact this
  exact key 60 0 (by omega)
end AR
