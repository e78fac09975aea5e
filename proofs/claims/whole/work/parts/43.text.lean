/-! the class: the text of a request -/
theorem slc_get {L : List Int32} {a l i : Nat} (hi : i < l) : (slc L a l)[i]? = L[a + i]? := by
  unfold slc
  rw [List.getElem?_take, if_pos hi, List.getElem?_drop]
/-- B begins X -/
def pfx (B X : List Int32) : Prop := ∀ (j : Nat) (x : Int32), B[j]? = some x → X[j]? = some x
theorem pfx_eq {B X : List Int32} (h : B.length = X.length) : pfx B X ↔ B = X := by
  refine ⟨fun q => List.ext_getElem? (fun i => ?_), fun e j x hj => by rw [← e]; exact hj⟩
  by_cases hi : i < B.length
  · rw [List.getElem?_eq_getElem hi, q i _ (List.getElem?_eq_getElem hi)]
  · rw [List.getElem?_eq_none (by omega), List.getElem?_eq_none (by omega)]
def nmOk (X : List Int32) : Prop := 1 ≤ X.length ∧ X.length ≤ 20 ∧ (∀ x ∈ X, ¬ x = 0 ∧ ¬ x = 47) ∧ ¬ (X = [46] ∨ X = [46, 46])
def askT (X : List Int32) : Int32 := if X = [] then -1 else if X.length = 2 ∧ tp X 0 = 115 ∧ ¬ tp X 1 - 48 < 0 ∧ ¬ 9 < tp X 1 - 48 then tp X 1 - 48 else -9
section TX
variable {ge : Nat → Nat} {ax : Nat} {g : mm_M}
theorem Ctx_B {κ : cS} {L X : List Int32} (hB : allB L) (h : Ctx κ L X) : allB X := by
  obtain ⟨a, l, _, _, _, rfl⟩ := h
  exact slc_B hB a l
theorem Ctx_len {κ : cS} {L X : List Int32} (h : Ctx κ L X) : κ.1 5 15 = nI X.length ∧ X.length ≤ L.length := by
  obtain ⟨a, l, h1, h2, h3, rfl⟩ := h
  rw [slc_len h3]
  exact ⟨h2, by omega⟩
/-- the byte i of the text, on the tape -/
theorem cq_ta (hM : CM ax g) {κ : cS} {L X : List Int32} (hT : Ctp κ L) (hX : Ctx κ L X) {i : Nat} (hi : i < X.length) (Z : Int32 → mm_M → Prop) (hZ : ∀ x, X[i]? = some x → Z x (c_em ax κ g)) : wq_Bytes_at ge (ax + 1) (κ.1 5 14 + nI i) (c_em ax κ g) Z := by
  obtain ⟨a, l, h1, h2, h3, rfl⟩ := hX
  rw [slc_len h3] at hi
  have hl := hT.2.2
  rw [h1, nI_add]
  refine cq_at (CM_b1 hM) (by decide) rfl (by decide) κ hT.1 hT.2.1 hl _ _ (fun j x ej hj => hZ x ?_) (fun hn => absurd rfl (hn (a + i) (by omega)))
  have := (nI_eq (by omega) (by have := (List.getElem?_eq_some_iff.mp hj).1; omega)).mp ej
  subst this
  rw [slc_get hi]
  exact hj
theorem cq_tb (hM : CM ax g) {κ : cS} {L X : List Int32} (hT : Ctp κ L) (hX : Ctx κ L X) {i : Nat} (hi : i < 2 ^ 31) (Z : Int32 → mm_M → Prop) (h1 : ∀ x, X[i]? = some x → Z x (c_em ax κ g)) (h0 : X.length ≤ i → Z (-1) (c_em ax κ g)) : wq_Request_textByte ge (ax + 5) (nI i) (c_em ax κ g) Z := by
  obtain ⟨m1, m2⟩ := CM_q hM
  obtain ⟨l1, l2⟩ := Ctx_len hX
  have hl := hT.2.2
  unfold wq_Request_textByte wq_Request_textByte_0 wq_Request_textByte_12 wq_Request_textByte_29
  simp only [m1, m2, (CM_b1 hM).1, ck, cI ax 5 (by decide), cP ax 5 rfl, l1, true_and, Option.some.injEq, exists_eq_left']
  refine ⟨fun q => absurd q (nI_pos hi), fun _ => ⟨fun q => ?_, fun q => h0 ?_⟩⟩
  · rw [nI_ltI hi (by omega)] at q
    exact cq_ta hM hT hX q _ h1
  · rw [nI_ltI hi (by omega)] at q
    omega
theorem cq_tbeg (hM : CM ax g) {κ : cS} {L X : List Int32} (hT : Ctp κ L) (hX : Ctx κ L X) {b : Nat} {B : List Int32} (hb : fz ax b) (hB : bA g b B) (hBB : allB B) (hB2 : B.length < 2 ^ 31) (Z : Int32 → mm_M → Prop) (h1 : pfx B X → Z 1 (c_em ax κ g)) (h0 : ¬ pfx B X → Z 0 (c_em ax κ g)) : wq_Request_textBegins ge (ax + 5) (some b) (c_em ax κ g) Z := by
  obtain ⟨m1, m2⟩ := CM_q hM
  obtain ⟨l1, l2⟩ := Ctx_len hX
  have hl := hT.2.2
  unfold wq_Request_textBegins wq_Request_textBegins_0 lp_Request_textBegins_2
  intro Y hY
  have key : ∀ (m i : Nat), i + m = B.length → (∀ (j : Nat) (x : Int32), j < i → B[j]? = some x → X[j]? = some x) → Y (ax + 5) (some b) (nI i) (c_em ax κ g) := by
    intro m
    induction m with
    | zero =>
      intro i hi hp
      refine hY _ _ _ _ ?_
      unfold wq_Request_textBegins_2
      simp only [hB.1, hB.2.1, ck, cn, toI, true_and, Option.some.injEq, exists_eq_left']
      refine ⟨fun _ => h1 (fun j x hj => hp j x ?_ hj), fun q => absurd (nI_le (by omega) (by omega)) q⟩
      have := (List.getElem?_eq_some_iff.mp hj).1
      omega
    | succ m ih =>
      intro i hi hp
      refine hY _ _ _ _ ?_
      have hiB : i < B.length := by omega
      have gB := List.getElem?_eq_getElem hiB
      unfold wq_Request_textBegins_2 wq_Request_textBegins_39
      simp only [m1, m2, (CM_b1 hM).1, hB.1, hB.2.1, ck, cn, toI, cI ax 5 (by decide), cP ax 5 rfl, l1, true_and, Option.some.injEq, exists_eq_left']
      refine ⟨fun q => absurd q (nI_ge (by omega) (by omega)), fun _ => ⟨fun q => h0 (fun z => ?_), fun q => ?_⟩⟩
      · rw [nI_leI (by omega) (by omega)] at q
        have := (List.getElem?_eq_some_iff.mp (z i _ gB)).1
        omega
      · rw [nI_leI (by omega) (by omega)] at q
        refine cq_ta hM hT hX (by omega) _ (fun x hx => ?_)
        simp only [hB.1, hB.2.1, ck, cn, cIf hb, true_and, Option.some.injEq, exists_eq_left']
        rw [nI_clamp (by omega), hB.2.2 i _ gB, sbt_ (hBB _ (List.getElem_mem hiB))]
        refine ⟨vp_in_nI hiB hB2, fun e => ?_, fun e => h0 (fun z => e ?_)⟩
        · rw [← nI_succ]
          refine ih (i + 1) (by omega) (fun j y hj hy => ?_)
          by_cases ej : j = i
          · subst ej
            rw [gB] at hy
            rw [hx, e, Option.some.inj hy]
          · exact hp j y (by omega) hy
        · have := z i _ gB
          rw [hx] at this
          exact Option.some.inj this
  exact key B.length 0 (by omega) (fun j x hj => absurd hj (by omega))
theorem cq_dd (hM : CM ax g) {κ : cS} {L X : List Int32} (hT : Ctp κ L) (hX : Ctx κ L X) (Z : Int32 → mm_M → Prop) (h1 : X = [46, 46] → Z 1 (c_em ax κ g)) (h0 : ¬ X = [46, 46] → Z 0 (c_em ax κ g)) : wq_Request_textIsDotDot ge (ax + 5) (c_em ax κ g) Z := by
  obtain ⟨m1, m2⟩ := CM_q hM
  obtain ⟨l1, l2⟩ := Ctx_len hX
  have hl := hT.2.2
  unfold wq_Request_textIsDotDot wq_Request_textIsDotDot_0 wq_Request_textIsDotDot_32 wq_Request_textIsDotDot_33
  simp only [m1, ck, cI ax 5 (by decide), l1, true_and]
  have e2 : (nI X.length = 2) ↔ X.length = 2 := nI_eq (b := 2) (by omega) (by decide)
  refine ⟨fun q => ⟨Or.inl trivial, h0 (fun z => q (by rw [z]; rfl))⟩, fun q => ?_⟩
  have hX2 := e2.mp q
  match X, hX2 with
  | [x, y], _ =>
    refine cq_tb hM hT hX (i := 0) (by decide) _ (fun z hz => ?_) (fun z => absurd z (by simp))
    have ez : x = z := by simpa using hz
    subst ez
    refine ⟨fun w => ⟨Or.inl trivial, h0 (fun v => w (by cases v; rfl))⟩, fun w => ⟨m1, ?_⟩⟩
    refine cq_tb hM hT hX (i := 1) (by decide) _ (fun z hz => ?_) (fun z => absurd z (by simp))
    have ez : y = z := by simpa using hz
    subst ez
    exact ⟨fun v => ⟨Or.inl trivial, h0 (fun u => v (by cases u; rfl))⟩, fun v => ⟨Or.inr trivial, h1 (by rw [w, v])⟩⟩
theorem cq_ask (hM : CM ax g) {κ : cS} {L X : List Int32} (hT : Ctp κ L) (hX : Ctx κ L X) (Z : Int32 → mm_M → Prop) (hZ : Z (askT X) (c_em ax κ g)) : wq_Request_treeAsked ge (ax + 5) (c_em ax κ g) Z := by
  obtain ⟨m1, m2⟩ := CM_q hM
  obtain ⟨l1, l2⟩ := Ctx_len hX
  have hl := hT.2.2
  unfold wq_Request_treeAsked wq_Request_treeAsked_0 wq_Request_treeAsked_50 wq_Request_treeAsked_51 wq_Request_treeAsked_62
  simp only [m1, ck, cI ax 5 (by decide), l1, true_and]
  have e0 : (nI X.length = 0) ↔ X.length = 0 := nI_eq (b := 0) (by omega) (by decide)
  have e2 : (nI X.length = 2) ↔ X.length = 2 := nI_eq (b := 2) (by omega) (by decide)
  unfold askT at hZ
  refine ⟨fun q => ?_, fun q => ?_⟩
  · have hne : ¬ X = [] := fun z => q (by rw [z]; rfl)
    rw [if_neg hne] at hZ
    have no : ∀ c : Prop, (¬ (X.length = 2 ∧ tp X 0 = 115 ∧ ¬ tp X 1 - 48 < 0 ∧ ¬ 9 < tp X 1 - 48)) → Z (-9) (c_em ax κ g) := fun _ hn => by rw [if_neg hn] at hZ; exact hZ
    have go : ∀ r : Int32, (X.length = 2 → r = tp X 1) → (mm_k g (ax + 5) = kd_Request ∧ ((¬ mm_I (c_em ax κ g) (ax + 5) 15 = 2 → (True → Z (-9) (c_em ax κ g)) ∧ (¬ True → Z (r - 48) (c_em ax κ g))) ∧ (mm_I (c_em ax κ g) (ax + 5) 15 = 2 → wq_Request_textByte ge (ax + 5) 0 (c_em ax κ g) (fun r6 h5 => (¬ r6 = 115 → (True → Z (-9) h5) ∧ (¬ True → Z (r - 48) h5)) ∧ (r6 = 115 → (r - 48 < 0 → (True → Z (-9) h5) ∧ (¬ True → Z (r - 48) h5)) ∧ (¬ r - 48 < 0 → (9 < r - 48 → (True → Z (-9) h5) ∧ (¬ True → Z (r - 48) h5)) ∧ (¬ 9 < r - 48 → ((1 : Int32) = 0 → Z (-9) h5) ∧ (¬ (1 : Int32) = 0 → Z (r - 48) h5)))))))) := by
      intro r hr
      refine ⟨m1, ?_⟩
      rw [cI ax 5 (by decide), l1]
      refine ⟨fun z => ⟨fun _ => no True (fun w => z (e2.mpr w.1)), fun w => absurd trivial w⟩, fun z => ?_⟩
      have h2 := e2.mp z
      refine cq_tb hM hT hX (i := 0) (by decide) _ (fun x hx => ?_) (fun w => absurd w (by omega))
      have ex : tp X 0 = x := tp_some hx
      have er := hr h2
      subst er
      refine ⟨fun w => ⟨fun _ => no True (fun v => w (by rw [← ex]; exact v.2.1)), fun v => absurd trivial v⟩, fun w => ⟨fun v => ⟨fun _ => no True (fun u => u.2.2.1 v), fun u => absurd trivial u⟩, fun v => ⟨fun u => ⟨fun _ => no True (fun t => t.2.2.2 u), fun t => absurd trivial t⟩, fun u => ⟨fun t => absurd t (by decide), fun _ => ?_⟩⟩⟩⟩
      rw [if_pos ⟨h2, by rw [ex]; exact w, v, u⟩] at hZ
      exact hZ
    refine cq_tb hM hT hX (i := 1) (by decide) _ (fun x hx => ?_) (fun w => ?_)
    · exact go x (fun _ => (tp_some hx).symm)
    · exact go (-1) (fun h2 => absurd h2 (by omega))
  · have he : X = [] := List.eq_nil_of_length_eq_zero (e0.mp q)
    rw [if_pos he] at hZ
    exact hZ
theorem cq_mayBe (hM : CM ax g) {κ : cS} {L X : List Int32} (hT : Ctp κ L) (hX : Ctx κ L X) (Z : Int32 → mm_M → Prop) (h1 : nmOk X → Z 1 (c_em ax κ g)) (h0 : ¬ nmOk X → Z 0 (c_em ax κ g)) : wq_Request_textMayBeName ge (ax + 5) (c_em ax κ g) Z := by
  obtain ⟨m1, m2⟩ := CM_q hM
  obtain ⟨l1, l2⟩ := Ctx_len hX
  have hl := hT.2.2
  unfold wq_Request_textMayBeName wq_Request_textMayBeName_0 wq_Request_textMayBeName_17
  simp only [m1, ck, cI ax 5 (by decide), l1, true_and]
  have c1 : (nI X.length < 1) ↔ X.length < 1 := nI_ltI (b := 1) (by omega) (by decide)
  have c20 : (nI X.length ≤ 20) ↔ X.length ≤ 20 := nI_leI (b := 20) (by omega) (by decide)
  refine ⟨fun q => h0 (fun z => absurd (c1.mp q) (by have := z.1; omega)), fun q => ⟨fun q2 => ?_, fun q2 => h0 (fun z => q2 (c20.mpr z.2.1))⟩⟩
  have b1 : 1 ≤ X.length := Nat.le_of_not_lt (fun z => q (c1.mpr z))
  have b20 := c20.mp q2
  unfold lp_Request_textMayBeName_23
  intro Y hY
  have key : ∀ (m i : Nat), i + m = X.length → (∀ (j : Nat) (x : Int32), j < i → X[j]? = some x → ¬ x = 0 ∧ ¬ x = 47) → Y (ax + 5) (nI ((X.take i).count 46)) (nI i) (c_em ax κ g) := by
    intro m
    induction m with
    | zero =>
      intro i hi hp
      have ei : i = X.length := by omega
      subst ei
      refine hY _ _ _ _ ?_
      unfold wq_Request_textMayBeName_23 wq_Request_textMayBeName_85 wq_Request_textMayBeName_90
      rw [List.take_length]
      simp only [m1, ck, cI ax 5 (by decide), l1, true_and]
      have all : ∀ x ∈ X, ¬ x = 0 ∧ ¬ x = 47 := fun x hx => by
        obtain ⟨j, hj, e⟩ := List.getElem_of_mem hx
        exact hp j x hj (by rw [List.getElem?_eq_getElem hj, e])
      have hcl : X.count 46 ≤ X.length := List.count_le_length
      have cc : (nI X.length ≤ nI (X.count 46)) ↔ X.length ≤ X.count 46 := nI_leI (by omega) (by omega)
      have c2 : ((2 : Int32) < nI X.length) ↔ 2 < X.length := nI_ltI (a := 2) (by decide) (by omega)
      have dots : X.length ≤ 2 → ((X = [46] ∨ X = [46, 46]) ↔ X.length ≤ X.count 46) := by
        intro h2
        match X, b1, h2 with
        | [x], _, _ =>
          simp only [List.length_singleton, List.count_singleton]
          by_cases ex : x = 46
          · subst ex; simp
          · simp [ex]
        | [x, y], _, _ =>
          by_cases ex : x = 46 <;> by_cases ey : y = 46 <;> simp [ex, ey, List.count_cons]
      refine ⟨fun _ => ⟨fun z => ⟨Or.inr trivial, h1 ⟨b1, b20, all, fun w => ?_⟩⟩, fun z => ⟨fun w => ⟨Or.inl trivial, h0 (fun v => v.2.2.2 ?_)⟩, fun w => ⟨Or.inr trivial, h1 ⟨b1, b20, all, fun v => ?_⟩⟩⟩⟩, fun z => absurd (nI_le (Nat.le_refl _) (by omega)) z⟩
      · have := c2.mp z
        rcases w with w | w <;> rw [w] at this <;> simp at this
      · exact (dots (Nat.le_of_not_lt (fun u => z (c2.mpr u)))).mpr (cc.mp w)
      · exact w (cc.mpr ((dots (Nat.le_of_not_lt (fun u => z (c2.mpr u)))).mp v))
    | succ m ih =>
      intro i hi hp
      refine hY _ _ _ _ ?_
      unfold wq_Request_textMayBeName_23 wq_Request_textMayBeName_47 wq_Request_textMayBeName_61
      simp only [m1, ck, cI ax 5 (by decide), l1, true_and]
      refine ⟨fun z => absurd z (nI_ge (by omega) (by omega)), fun _ => ?_⟩
      refine cq_tb hM hT hX (by omega) _ (fun x hx => ?_) (fun w => absurd w (by omega))
      have hmem : x ∈ X := List.mem_of_getElem? hx
      have tk : X.take (i + 1) = X.take i ++ [x] := by
        rw [List.take_add_one, hx]
        rfl
      have nxt : ¬ x = 0 → ¬ x = 47 → Y (ax + 5) (nI ((X.take (i + 1)).count 46)) (nI (i + 1)) (c_em ax κ g) := fun n0 n47 => ih (i + 1) (by omega) (fun j y hj hy => by
        by_cases ej : j = i
        · subst ej
          rw [hx] at hy
          cases hy
          exact ⟨n0, n47⟩
        · exact hp j y (by omega) hy)
      refine ⟨fun z => h0 (fun w => (w.2.2.1 x hmem).1 z), fun z => ⟨fun z2 => ⟨fun z3 => ?_, fun z3 => ?_⟩, fun z2 => h0 (fun w => (w.2.2.1 x hmem).2 z2)⟩⟩
      · have := nxt z z2
        rw [tk, List.count_append, List.count_singleton, if_neg (by simpa using z3), Nat.add_zero, nI_succ] at this
        rw [Int32.add_zero]
        exact this
      · have := nxt z z2
        rw [tk, List.count_append, List.count_singleton, if_pos (by simpa using z3), nI_succ, nI_succ] at this
        exact this
  exact key X.length 0 (by omega) (fun j x hj => absurd hj (by omega))
end TX
