/-! THE STORE; the class's Store and Archiver -/
def qi (q : qW) (i : Nat) : Int32 := if i = 0 then q.1 else if i = 1 then q.2.1 else if i = 2 then q.2.2.1 else if i = 3 then q.2.2.2.1 else q.2.2.2.2
theorem qi_ext {q q' : qW} (h : ∀ i, i < 5 → qi q i = qi q' i) : q = q' := by
  have h0 := h 0 (by decide)
  have h1 := h 1 (by decide)
  have h2 := h 2 (by decide)
  have h3 := h 3 (by decide)
  have h4 := h 4 (by decide)
  exact Prod.ext h0 (Prod.ext h1 (Prod.ext h2 (Prod.ext h3 h4)))
theorem wds_qi (κ : cS) {i : Nat} (hi : i < 5) : qi (wds κ) i = κ.1 84 i := by
  match i, hi with
  | 0, _ => rfl
  | 1, _ => rfl
  | 2, _ => rfl
  | 3, _ => rfl
  | 4, _ => rfl
/-- the store's state: scores, bytes, full -/
abbrev sB_ : Type := List qW × Int32 × Bool
noncomputable def ofr (k : Bool) (σ : sB_) (X : List Int32) : sB_ := if k = false then σ else cif (sha X ∈ σ.1) σ (cif (600 ≤ σ.1.length) (σ.1, σ.2.1, true) (σ.1 ++ [sha X], σ.2.1 + nI X.length, σ.2.2))
def Cst (κ : cS) (st : List qW) (by_ : Int32) : Prop := st.length ≤ 600 ∧ κ.1 81 0 = nI st.length ∧ κ.1 81 1 = by_ ∧ ∀ (k : Nat) (q : qW), st[k]? = some q → ∀ i, i < 5 → κ.1 82 (5 * k + i) = qi q i
theorem Cst_of {κ κ' : cS} {st : List qW} {by_ : Int32} (e : ∀ o j, o = 81 ∨ o = 82 → κ'.1 o j = κ.1 o j) (h : Cst κ st by_) : Cst κ' st by_ := by
  obtain ⟨h1, h2, h3, h4⟩ := h
  exact ⟨h1, (e _ _ (Or.inl rfl)).trans h2, (e _ _ (Or.inl rfl)).trans h3, fun k q hk i hi => (e _ _ (Or.inr rfl)).trans (h4 k q hk i hi)⟩
/-- only the store changes -/
def fr81 (κ κ' : cS) : Prop := κ'.2 = κ.2 ∧ ∀ o j, ¬ o = 81 → ¬ o = 82 → κ'.1 o j = κ.1 o j
section ST
variable {ge : Nat → Nat} {ax : Nat} {g : mm_M}
theorem cq_holds (hM : CM ax g) {κ : cS} {st : List qW} {by_ : Int32} (hS : Cst κ st by_) (Z : Int32 → mm_M → Prop) (h1 : wds κ ∈ st → Z 1 (c_em ax κ g)) (h0 : ¬ wds κ ∈ st → Z 0 (c_em ax κ g)) : wq_Store_holds ge (ax + 81) (some (ax + 84)) (c_em ax κ g) Z := by
  obtain ⟨_, ⟨t1, t2, t3, t4⟩, ⟨_, _, _, s4, s5, _, _⟩, _⟩ := CM_a hM
  obtain ⟨c1, c2, c3, c4_⟩ := hS
  unfold wq_Store_holds wq_Store_holds_0 lp_Store_holds_2
  intro X hX
  have key : ∀ (m k : Nat), k + m = st.length → (∀ k' q, k' < k → st[k']? = some q → ¬ q = wds κ) → X (ax + 81) (some (ax + 84)) (nI k) (c_em ax κ g) := by
    intro m
    induction m with
    | zero =>
      intro k hk hp
      refine hX _ _ _ _ ?_
      unfold wq_Store_holds_2
      simp only [t1, ck, cI ax 81 (by decide), c2, true_and]
      refine ⟨fun _ => h0 (fun z => ?_), fun q => absurd (nI_le (by omega) (by omega)) q⟩
      obtain ⟨j, hj, e⟩ := List.getElem_of_mem z
      exact hp j _ (by omega) (by rw [List.getElem?_eq_getElem hj, e]) rfl
    | succ m ih =>
      intro k hk hp
      refine hX _ _ _ _ ?_
      have hkl : k < st.length := by omega
      have gk := List.getElem?_eq_getElem hkl
      unfold wq_Store_holds_2
      simp only [t1, ck, cI ax 81 (by decide), c2, true_and]
      refine ⟨fun q => absurd q (nI_ge (by omega) (by omega)), fun _ => ?_⟩
      unfold lp_Store_holds_15
      intro Y hY
      have nx : ¬ st[k] = wds κ → X (ax + 81) (some (ax + 84)) (nI k + 1) (c_em ax κ g) := fun hne => by
        rw [← nI_succ]
        refine ih (k + 1) (by omega) (fun k' q hk' hq => ?_)
        by_cases e : k' = k
        · subst e
          rw [gk] at hq
          cases hq
          exact hne
        · exact hp k' q (by omega) hq
      have p48 : ∀ s : Nat, s ≤ 5 → (s = 5 ↔ st[k] = wds κ) → wq_Store_holds_48 X ge (ax + 81) (some (ax + 84)) (nI k) (nI s) (c_em ax κ g) Z := by
        intro s hs hi
        unfold wq_Store_holds_48
        rw [show (5 : Int32) = nI 5 from rfl, nI_eq (by omega) (by decide)]
        exact ⟨fun q => nx (fun z => q (hi.mpr z)), fun q => h1 (by rw [← hi.mp q]; exact List.getElem_mem hkl)⟩
      have inner : ∀ (m s : Nat), s + m = 5 → (∀ i, i < s → qi st[k] i = κ.1 84 i) → Y (ax + 81) (some (ax + 84)) (nI k) (nI s) (nI s) (c_em ax κ g) := by
        intro m
        induction m with
        | zero =>
          intro s hs hi
          have es : s = 5 := by omega
          subst es
          refine hY _ _ _ _ _ _ ?_
          unfold wq_Store_holds_15
          refine ⟨fun _ => p48 5 (by decide) ⟨fun _ => qi_ext (fun i h5 => by rw [hi i h5, wds_qi κ h5]), fun _ => rfl⟩, fun q => absurd (nI_le (a := 5) (Nat.le_refl _) (by decide)) q⟩
        | succ m ih2 =>
          intro s hs hi
          refine hY _ _ _ _ _ _ ?_
          unfold wq_Store_holds_15
          refine ⟨fun q => absurd q (nI_ge (b := 5) (by omega) (by decide)), fun _ => ?_⟩
          have hin1 : vp_in (nI (5 * k + s)) 3000 := vp_in_nI (by omega) (by decide)
          have hcl1 : (nI (5 * k + s)).toNatClampNeg = 5 * k + s := nI_clamp (by omega)
          have hin2 : vp_in (nI s) 5 := vp_in_nI (by omega) (by decide)
          have hcl2 : (nI s).toNatClampNeg = s := nI_clamp (by omega)
          have em : nI k * 5 + nI s = nI (5 * k + s) := by rw [show (5 : Int32) = nI 5 from rfl, pk_mul, nI_add, show k * 5 = 5 * k by omega]
          have r1 := c4_ k _ gk s (by omega)
          simp only [t1, t2, t3, t4, s4, s5, ck, cn, cP ax 81 rfl, cI ax 82 (by decide), cI ax 84 (by decide), em, hin1, hcl1, hin2, hcl2, r1, true_and, Option.some.injEq, exists_eq_left']
          refine ⟨fun q => p48 s (by omega) ⟨fun z => absurd z (by omega), fun z => absurd (by rw [z, wds_qi κ (by omega)]) q⟩, fun q => ?_⟩
          rw [← nI_succ]
          refine ih2 (s + 1) (by omega) (fun i h5 => ?_)
          by_cases e : i = s
          · subst e; exact q
          · exact hi i (by omega)
      exact inner 5 0 (by omega) (fun i h => absurd h (by omega))
  exact key st.length 0 (by omega) (fun k' q h => absurd h (by omega))
theorem cq_sput (hM : CM ax g) (hg : ge 0 ≤ ax) {κ : cS} {st : List qW} {by_ : Int32} (hS : Cst κ st by_) (len : Int32) (Z : Int32 → mm_M → Prop)
    (h1 : wds κ ∈ st → Z 1 (c_em ax κ g)) (h0 : ¬ wds κ ∈ st → 600 ≤ st.length → Z 0 (c_em ax κ g)) (h2 : ¬ wds κ ∈ st → ¬ 600 ≤ st.length → ∀ κ', fr81 κ κ' → Cst κ' (st ++ [wds κ]) (by_ + len) → Z 1 (c_em ax κ' g)) : wq_Store_put ge (ax + 81) (some (ax + 84)) len (c_em ax κ g) Z := by
  obtain ⟨_, ⟨t1, t2, t3, t4⟩, ⟨_, _, _, s4, s5, _, _⟩, _⟩ := CM_a hM
  obtain ⟨c1, c2, c3, c4_⟩ := hS
  unfold wq_Store_put wq_Store_put_0
  refine ⟨t1, cq_holds hM ⟨c1, c2, c3, c4_⟩ _ (fun hin => ?_) (fun hno => ?_)⟩
  · first | exact ⟨fun z => absurd z (by decide), fun _ => h1 hin⟩ | exact ⟨fun _ => h1 hin, fun z => absurd z (by decide)⟩
  · have e600 : (nI st.length < 600) ↔ st.length < 600 := nI_ltI (b := 600) (by omega) (by decide)
    have body : ¬ 600 ≤ st.length → lp_Store_put_24 ge (ax + 81) (some (ax + 84)) len 0 (c_em ax κ g) Z := by
      intro hl
      unfold lp_Store_put_24
      intro X hX
      have key : ∀ (m i : Nat) (κ' : cS), i + m = 5 → κ'.2 = κ.2 → (∀ o j, ¬ (o = 82 ∧ 5 * st.length ≤ j ∧ j < 5 * st.length + i) → κ'.1 o j = κ.1 o j) → (∀ k, k < i → κ'.1 82 (5 * st.length + k) = κ.1 84 k) → X (ax + 81) (some (ax + 84)) len (nI i) (c_em ax κ' g) := by
        intro m
        induction m with
        | zero =>
          intro i κ' hi e2 e1 hk
          have ei : i = 5 := by omega
          subst ei
          refine hX _ _ _ _ _ ?_
          unfold wq_Store_put_24
          refine ⟨fun _ => ?_, fun q => absurd (nI_le (a := 5) (Nat.le_refl _) (by decide)) q⟩
          have p0 : κ'.1 81 0 = nI st.length := (e1 _ _ (by omega)).trans c2
          have p1 : κ'.1 81 1 = by_ := (e1 _ _ (by omega)).trans c3
          simp only [t1, ck, cI ax 81 (by decide), cU ax 81 (by decide), p0, cu1, geo hg, true_and, forall_eq]
          rw [if_neg (by simp), p1]
          refine h2 hno hl _ ⟨e2, fun o j h81 h82 => ?_⟩ ⟨by rw [List.length_append]; show st.length + 1 ≤ 600; omega, ?_, ?_, fun k q hq i hi => ?_⟩
          · rw [cu1, if_neg (fun z => h81 z.1), cu1, if_neg (fun z => h81 z.1)]
            exact e1 o j (fun z => h82 z.1)
          · rw [cu1, if_neg (by simp), cu1, if_pos ⟨rfl, rfl⟩, List.length_append, ← nI_succ]; rfl
          · rw [cu1, if_pos ⟨rfl, rfl⟩]
          · rw [cu1, if_neg (by simp), cu1, if_neg (by simp)]
            by_cases ek : k = st.length
            · subst ek
              rw [List.getElem?_append_right (Nat.le_refl _), Nat.sub_self] at hq
              have eq_ : wds κ = q := by simpa using hq
              rw [hk i hi, ← eq_, wds_qi κ hi]
            · have hil : k < (st ++ [wds κ]).length := (List.getElem?_eq_some_iff.mp hq).1
              rw [List.length_append] at hil
              have hil2 : k < st.length := by simp at hil; omega
              rw [List.getElem?_append_left hil2] at hq
              rw [e1 _ _ (by omega)]
              exact c4_ k q hq i hi
        | succ m ih =>
          intro i κ' hi e2 e1 hk
          refine hX _ _ _ _ _ ?_
          unfold wq_Store_put_24
          refine ⟨fun q => absurd q (nI_ge (b := 5) (by omega) (by decide)), fun _ => ?_⟩
          have p0 : κ'.1 81 0 = nI st.length := (e1 _ _ (by omega)).trans c2
          have p84 : κ'.1 84 i = κ.1 84 i := e1 _ _ (by omega)
          have em : nI st.length * 5 + nI i = nI (5 * st.length + i) := by rw [show (5 : Int32) = nI 5 from rfl, pk_mul, nI_add, show st.length * 5 = 5 * st.length by omega]
          have hin1 : vp_in (nI (5 * st.length + i)) 3000 := vp_in_nI (by omega) (by decide)
          have hcl1 : (nI (5 * st.length + i)).toNatClampNeg = 5 * st.length + i := nI_clamp (by omega)
          have hin2 : vp_in (nI i) 5 := vp_in_nI (by omega) (by decide)
          have hcl2 : (nI i).toNatClampNeg = i := nI_clamp (by omega)
          simp only [t1, t2, t3, t4, s4, s5, ck, cn, cP ax 81 rfl, cI ax 81 (by decide), cI ax 84 (by decide), cU ax 82 (by decide), p0, p84, em, hin1, hcl1, hin2, hcl2, geo hg, true_and, Option.some.injEq, exists_eq_left', forall_eq]
          rw [← nI_succ]
          refine ih (i + 1) _ (by omega) e2 (fun o j ho => ?_) (fun k hk' => ?_)
          · rw [cu1, if_neg (by omega)]
            exact e1 o j (by omega)
          · rw [cu1]
            by_cases e : k = i
            · subst e; rw [if_pos ⟨rfl, rfl⟩]
            · rw [if_neg (by omega)]
              exact hk k (by omega)
      exact key 5 0 κ (by omega) rfl (fun _ _ _ => rfl) (fun k h => absurd h (by omega))
    simp only [t1, ck, cI ax 81 (by decide), c2, true_and]
    first
      | exact ⟨fun _ => ⟨fun z => body (by have := e600.mp z; omega), fun z => h0 hno (Nat.le_of_not_lt (fun y => z (e600.mpr y)))⟩, fun z => absurd rfl z⟩
      | exact ⟨fun _ => ⟨fun z => body (by have := e600.mp z; omega), fun z => h0 hno (Nat.le_of_not_lt (fun y => z (e600.mpr y)))⟩, fun z => absurd trivial z⟩
      | exact ⟨fun z => absurd rfl z, fun _ => ⟨fun z => body (by have := e600.mp z; omega), fun z => h0 hno (Nat.le_of_not_lt (fun y => z (e600.mpr y)))⟩⟩
/-- the archiver's flags and the store -/
def Car (κ : cS) (k : Bool) (σ : sB_) : Prop := Cst κ σ.1 σ.2.1 ∧ (κ.1 80 5 = 0 ↔ k = false) ∧ (κ.1 80 6 = if σ.2.2 = true then 1 else 0)
theorem Car_of {κ κ' : cS} {k : Bool} {σ : sB_} (e : ∀ o j, (80 ≤ o ∧ o ≤ 82) → κ'.1 o j = κ.1 o j) (h : Car κ k σ) : Car κ' k σ := ⟨Cst_of (fun o j ho => e o j (by omega)) h.1, by rw [e _ _ (by decide)]; exact h.2.1, by rw [e _ _ (by decide)]; exact h.2.2⟩
/-- what an offer leaves: the block, the last scores and all else are as they were -/
def frO (κ κ' : cS) : Prop := κ'.2 = κ.2 ∧ ∀ o j, (o < 80 ∨ 86 ≤ o) → κ'.1 o j = κ.1 o j
theorem cq_offer (hM : CM ax g) (hg : ge 0 ≤ ax) {κ : cS} {b N s : Nat} {X : List Int32} (hX : srcB ax κ g b N s X) (hB : allB X) {k : Bool} {σ : sB_} (hA : Car κ k σ) (hk01 : κ.1 80 5 = 0 ∨ κ.1 80 5 = 1) (Z : mm_M → Prop) (hZ : ∀ κ', frO κ κ' → wds κ' = sha X → Car κ' k (ofr k σ X) → (κ'.1 80 5 = κ.1 80 5) → Z (c_em ax κ' g)) : wq_Archiver_offer ge (ax + 80) (some b) (nI s) (nI X.length) (c_em ax κ g) Z := by
  obtain ⟨⟨a1, a2, a3, a4, a5, a6⟩, ⟨t1, _, _, _⟩, ⟨s1, s2, _, _, _, _, _⟩, _⟩ := CM_a hM
  unfold wq_Archiver_offer wq_Archiver_offer_0 wq_Archiver_offer_40
  simp only [a1, a3, s1, ck, cP ax 80 rfl, true_and, Option.some.injEq, exists_eq_left']
  refine cq_digest hM hg hX hB _ (fun κ1 f1 w1 => ?_)
  have A1 : Car κ1 k σ := Car_of (fun o j ho => f1.2 o j (by omega) (by omega)) hA
  have q5 : κ1.1 80 5 = κ.1 80 5 := f1.2 _ _ (by decide) (by decide)
  have F1 : frO κ κ1 := ⟨f1.1, fun o j ho => f1.2 o j (by omega) (by omega)⟩
  simp only [a1, a2, a3, s1, s2, t1, ck, cP ax 80 rfl, cP ax 83 rfl, cI ax 80 (by decide), q5, true_and, Option.some.injEq, exists_eq_left']
  refine ⟨fun q => ?_, fun q => ?_⟩
  · have hk := hA.2.1.mp q
    refine hZ κ1 F1 w1 ?_ q5
    unfold ofr
    rw [if_pos hk]
    exact A1
  · have hk : ¬ k = false := fun z => q (hA.2.1.mpr z)
    have ho : ofr k σ X = cif (sha X ∈ σ.1) σ (cif (600 ≤ σ.1.length) (σ.1, σ.2.1, true) (σ.1 ++ [sha X], σ.2.1 + nI X.length, σ.2.2)) := by unfold ofr; rw [if_neg hk]
    refine cq_sput hM hg A1.1 _ _ (fun hin => ⟨fun _ => ?_, fun z => absurd z (by decide)⟩) (fun hno hfull => ⟨fun z => absurd rfl z, fun _ => ?_⟩) (fun hno hroom κ2 f2 S2 => ⟨fun _ => ?_, fun z => absurd z (by decide)⟩)
    · rw [w1] at hin
      refine hZ κ1 F1 w1 ?_ q5
      rw [ho, cif_y hin]
      exact A1
    · rw [w1] at hno
      simp only [a1, ck, cU ax 80 (by decide), geo hg, true_and, forall_eq]
      refine hZ _ ⟨F1.1, fun o j h => by rw [cu1, if_neg (by omega)]; exact F1.2 o j h⟩ ?_ ?_ ?_
      · rw [← w1]
        unfold wds
        simp [cu1]
      · rw [ho, cif_n hno, cif_y hfull]
        refine ⟨Cst_of (fun o j h => by rw [cu1, if_neg (by omega)]) A1.1, by rw [cu1, if_neg (by simp)]; exact A1.2.1, by rw [cu1, if_pos ⟨rfl, rfl⟩]; rfl⟩
      · rw [cu1, if_neg (by simp)]; exact q5
    · rw [w1] at hno S2
      have g5 : ∀ j, κ2.1 80 j = κ1.1 80 j := fun j => f2.2 _ _ (by decide) (by decide)
      refine hZ κ2 ⟨f2.1.trans F1.1, fun o j h => (f2.2 o j (by omega) (by omega)).trans (F1.2 o j h)⟩ ?_ ?_ ((g5 5).trans q5)
      · rw [← w1]
        unfold wds
        rw [f2.2 84 0 (by decide) (by decide), f2.2 84 1 (by decide) (by decide), f2.2 84 2 (by decide) (by decide), f2.2 84 3 (by decide) (by decide), f2.2 84 4 (by decide) (by decide)]
      · rw [ho, cif_n hno, cif_n hroom]
        exact ⟨S2, by rw [g5]; exact A1.2.1, by rw [g5]; exact A1.2.2⟩
end ST
