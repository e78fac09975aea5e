/-! FILES, TREES; a node in memory -/
abbrev sF : Type := Int32 × List Int32 × Int32 × Int32 × Int32 × List Int32
def f_in (f : sF) : Int32 := f.1
def f_nm (f : sF) : List Int32 := f.2.1
def f_md (f : sF) : Int32 := f.2.2.1
def f_vs (f : sF) : Int32 := f.2.2.2.1
def f_mt (f : sF) : Int32 := f.2.2.2.2.1
def f_dt (f : sF) : List Int32 := f.2.2.2.2.2
abbrev sT : Type := Nat → Option sF
/-- what a file is: a name of 1 to 20 bytes, at most 512 bytes, none of a directory -/
def okF (f : sF) : Prop := 1 ≤ (f_nm f).length ∧ (f_nm f).length ≤ 20 ∧ (f_dt f).length ≤ 512 ∧ allB (f_nm f) ∧ allB (f_dt f) ∧ (¬ 0 ≤ f_md f → f_dt f = [])
def bA (h : mm_M) (b : Nat) (L : List Int32) : Prop := mm_k h b = ka_B ∧ mm_n h b = L.length ∧ ∀ (j : Nat) (x : Int32), L[j]? = some x → mm_I h b j = sb x
def ndH (h : mm_M) (a p : Nat) (f : sF) (an ad : Nat) : Prop := mm_k h a = kd_Node ∧ mm_I h a 0 = nI p ∧ mm_I h a 1 = f_in f ∧ mm_P h a 2 = some an ∧ mm_I h a 3 = f_md f ∧ mm_I h a 4 = f_vs f ∧ mm_I h a 5 = f_mt f ∧ mm_P h a 6 = some ad ∧ bA h an (f_nm f) ∧ bA h ad (f_dt f)
def fzz (ax : Nat) (g : mm_M) (b : Nat) : Prop := fz ax b ∧ b < mm_z g
/-- only an empty row of data may lie below -/
def fzd (ax : Nat) (g : mm_M) (b : Nat) (L : List Int32) : Prop := fzz ax g b ∧ (b < ax → L = [])
/-- at a lies the node of path p, a file f -/
def nd (ax : Nat) (g : mm_M) (a p : Nat) (f : sF) : Prop := okF f ∧ fzz ax g a ∧ ∃ an ad : Nat, fzz ax g an ∧ fzd ax g ad (f_dt f) ∧ ndH g a p f an ad
theorem bA_em {ax b : Nat} {g : mm_M} {L : List Int32} (hb : fz ax b) (h : bA g b L) (κ : cS) : bA (c_em ax κ g) b L := ⟨h.1, h.2.1, fun j x hj => (cIf hb κ g j).trans (h.2.2 j x hj)⟩
theorem ndH_em {ax a p an ad : Nat} {g : mm_M} {f : sF} (ha : fz ax a) (h1 : fz ax an) (h2 : fz ax ad) (h : ndH g a p f an ad) (κ : cS) : ndH (c_em ax κ g) a p f an ad := by
  obtain ⟨q1, q2, q3, q4, q5, q6, q7, q8, q9, q10⟩ := h
  exact ⟨q1, (cIf ha κ g _).trans q2, (cIf ha κ g _).trans q3, (cPf ha κ g _).trans q4, (cIf ha κ g _).trans q5, (cIf ha κ g _).trans q6, (cIf ha κ g _).trans q7, (cPf ha κ g _).trans q8, bA_em h1 q9 κ, bA_em h2 q10 κ⟩
theorem nd_H {ax a p : Nat} {g : mm_M} {f : sF} (h : nd ax g a p f) : ∃ an ad : Nat, fz ax a ∧ fz ax an ∧ fz ax ad ∧ ∀ κ, ndH (c_em ax κ g) a p f an ad := by
  obtain ⟨_, ha, an, ad, h1, h2, h⟩ := h
  exact ⟨an, ad, ha.1, h1.1, h2.1.1, fun κ => ndH_em ha.1 h1.1 h2.1.1 h κ⟩
theorem bA_ext {g g' : mm_M} (e : ext g g') {b : Nat} (hb : b < mm_z g) {L : List Int32} (h : bA g b L) : bA g' b L := by
  obtain ⟨e1, e2, e3, e4, e5⟩ := e.2 b hb
  exact ⟨e1.trans h.1, e2.trans h.2.1, fun j x hj => (e3 j).trans (h.2.2 j x hj)⟩
theorem nd_ext {ax a p : Nat} {g g' : mm_M} {f : sF} (e : ext g g') (h : nd ax g a p f) : nd ax g' a p f := by
  obtain ⟨ho, ha, an, ad, h1, h2, q1, q2, q3, q4, q5, q6, q7, q8, q9, q10⟩ := h
  obtain ⟨e1, e2, e3, e4, e5⟩ := e.2 a ha.2
  have up : ∀ b, fzz ax g b → fzz ax g' b := fun b hb => ⟨hb.1, Nat.lt_of_lt_of_le hb.2 e.1⟩
  exact ⟨ho, up a ha, an, ad, up an h1, ⟨up ad h2.1, h2.2⟩, e1.trans q1, (e3 _).trans q2, (e3 _).trans q3, (e5 _).trans q4, (e3 _).trans q5, (e3 _).trans q6, (e3 _).trans q7, (e5 _).trans q8, bA_ext e h1.2 q9, bA_ext e h2.1.2 q10⟩
/-! what is told of a file -/
def qidL (p : Nat) (f : sF) : List Int32 := le 1 (if 0 ≤ f_md f then 0 else 128) ++ le 4 (f_vs f).toInt64 ++ le 8 (nI p).toInt64
def endL : List Int32 := le 2 1 ++ le 1 103 ++ (le 2 1 ++ le 1 103) ++ (le 2 1 ++ le 1 103)
def statL (p : Nat) (f : sF) : List Int32 := le 2 (nI (50 + (f_nm f).length)).toInt64 ++ le 6 0 ++ qidL p f ++ le 4 (f_md f).toInt64 ++ le 4 (f_mt f).toInt64 ++ le 4 (f_mt f).toInt64 ++ le 8 (nI (f_dt f).length).toInt64 ++ le 2 (nI (f_nm f).length).toInt64 ++ f_nm f ++ endL
theorem qidL_len (p : Nat) (f : sF) : (qidL p f).length = 13 := by simp [qidL, le_len]
theorem statL_len (p : Nat) (f : sF) : (statL p f).length = 52 + (f_nm f).length := by
  simp [statL, endL, le_len, qidL_len]
  omega
theorem qidL_B (p : Nat) (f : sF) : allB (qidL p f) := allB_app (allB_app (le_B _ _) (le_B _ _)) (le_B _ _)
theorem endL_B : allB endL := allB_app (allB_app (allB_app (le_B _ _) (le_B _ _)) (allB_app (le_B _ _) (le_B _ _))) (allB_app (le_B _ _) (le_B _ _))
theorem statL_B (p : Nat) (f : sF) (h : allB (f_nm f)) : allB (statL p f) := by
  unfold statL
  refine allB_app (allB_app ?_ h) endL_B
  exact allB_app (allB_app (allB_app (allB_app (allB_app (allB_app (allB_app (le_B _ _) (le_B _ _)) (qidL_B _ _)) (le_B _ _)) (le_B _ _)) (le_B _ _)) (le_B _ _)) (le_B _ _)
theorem le_6 : le 2 0 ++ le 4 0 = le 6 0 := by decide +kernel
/-! nodes, read only -/
theorem nq_isDir {ge : Nat → Nat} {h : mm_M} {a p an ad : Nat} {f : sF} (hn : ndH h a p f an ad) (Z : Int32 → mm_M → Prop) (hZ : Z (if 0 ≤ f_md f then 0 else 1) h) : wq_Node_isDirectory ge a h Z := by
  obtain ⟨q1, q2, q3, q4, q5, q6, q7, q8, q9, q10⟩ := hn
  unfold wq_Node_isDirectory wq_Node_isDirectory_0 wq_Node_isDirectory_12
  rw [q5]
  refine ⟨q1, fun q => ⟨Or.inl rfl, ?_⟩, fun q => ⟨Or.inr rfl, ?_⟩⟩
  · rw [if_pos q] at hZ; exact hZ
  · rw [if_neg q] at hZ; exact hZ
theorem nq_statSize {ge : Nat → Nat} {h : mm_M} {a p an ad : Nat} {f : sF} (hn : ndH h a p f an ad) (Z : Int32 → mm_M → Prop) (hZ : Z (nI (52 + (f_nm f).length)) h) : wq_Node_statSize ge a h Z := by
  obtain ⟨q1, q2, q3, q4, q5, q6, q7, q8, q9, q10⟩ := hn
  unfold wq_Node_statSize wq_Node_statSize_0
  refine ⟨q1, an, q4, q9.1, ?_⟩
  rw [q9.2.1, toI, show (52 : Int32) = nI 52 from rfl, nI_add]
  exact hZ
theorem sb_eq {x y : Int32} (hx : isB x) (hy : isB y) : sb x = sb y ↔ x = y := ⟨sb_inj hx hy, fun e => e ▸ rfl⟩
theorem nq_isNamedAs {ge : Nat → Nat} {h : mm_M} {a p an ad a' p' an' ad' : Nat} {f f' : sF} (hn : ndH h a p f an ad) (hn' : ndH h a' p' f' an' ad') (ho : okF f) (ho' : okF f') (Z : Int32 → mm_M → Prop)
    (h1 : f_nm f = f_nm f' → Z 1 h) (h0 : ¬ f_nm f = f_nm f' → Z 0 h) : wq_Node_isNamedAs ge a (some a') h Z := by
  obtain ⟨q1, q2, q3, q4, q5, q6, q7, q8, q9, q10⟩ := hn
  obtain ⟨w1, w2, w3, w4, w5, w6, w7, w8, w9, w10⟩ := hn'
  have l1 : (f_nm f).length ≤ 20 := ho.2.1
  have l2 : (f_nm f').length ≤ 20 := ho'.2.1
  unfold wq_Node_isNamedAs wq_Node_isNamedAs_0 lp_Node_isNamedAs_2
  intro X hX
  have stop : ∀ s : Nat, s ≤ 20 → ((f_nm f = f_nm f') ↔ (s = (f_nm f).length ∧ s = (f_nm f').length)) → wq_Node_isNamedAs_41 ge a (some a') (nI s) h Z := by
    intro s hs hi
    unfold wq_Node_isNamedAs_41 wq_Node_isNamedAs_63 wq_Node_isNamedAs_64
    simp only [q1, q4, q9.1, q9.2.1, w1, w4, w9.1, w9.2.1, toI, true_and, Option.some.injEq, exists_eq_left', nI_eq (show s < 2 ^ 31 by omega) (show (f_nm f).length < 2 ^ 31 by omega), nI_eq (show s < 2 ^ 31 by omega) (show (f_nm f').length < 2 ^ 31 by omega)]
    exact ⟨fun z => ⟨Or.inl trivial, h0 (fun e => z (hi.mp e).1)⟩, fun z => ⟨fun y => ⟨Or.inl trivial, h0 (fun e => y (hi.mp e).2)⟩, fun y => ⟨Or.inr trivial, h1 (hi.mpr ⟨z, y⟩)⟩⟩⟩
  have key : ∀ (m s : Nat), s + m = 20 → s ≤ (f_nm f).length → s ≤ (f_nm f').length → (∀ j : Nat, j < s → (f_nm f)[j]? = (f_nm f')[j]?) → X a (some a') (nI s) h := by
    intro m
    induction m with
    | zero =>
      intro s hs h1 h2 hp
      refine hX _ _ _ _ ?_
      unfold wq_Node_isNamedAs_2
      refine ⟨q1, an, q4, q9.1, fun _ => stop s (by omega) ?_, fun z => absurd (show Nat.toInt32 (mm_n h an) ≤ nI s by rw [q9.2.1, toI]; exact nI_le (by omega) (by omega)) z⟩
      have e1 : s = (f_nm f).length := by omega
      have e2 : s = (f_nm f').length := by omega
      refine ⟨fun _ => ⟨e1, e2⟩, fun _ => List.ext_getElem? (fun i => ?_)⟩
      by_cases hi : i < s
      · exact hp i hi
      · rw [List.getElem?_eq_none (by omega), List.getElem?_eq_none (by omega)]
    | succ m ih =>
      intro s hs h1 h2 hp
      refine hX _ _ _ _ ?_
      unfold wq_Node_isNamedAs_2
      have full : (s = (f_nm f).length ∨ s = (f_nm f').length) → (f_nm f = f_nm f' ↔ s = (f_nm f).length ∧ s = (f_nm f').length) := by
        intro hor
        refine ⟨fun e => ?_, fun z => List.ext_getElem? (fun i => ?_)⟩
        · rw [← e]; rw [← e] at hor; rcases hor with z | z <;> exact ⟨z, z⟩
        · by_cases hi : i < s
          · exact hp i hi
          · rw [List.getElem?_eq_none (by omega), List.getElem?_eq_none (by omega)]
      refine ⟨q1, an, q4, q9.1, fun z => ?_, fun z => ?_⟩
      · rw [q9.2.1, toI, nI_leI (by omega) (by omega)] at z
        exact stop s (by omega) (full (Or.inl (by omega)))
      · rw [q9.2.1, toI, nI_leI (by omega) (by omega)] at z
        refine ⟨a', rfl, w1, an', w4, w9.1, fun y => ?_, fun y => ?_⟩
        · rw [w9.2.1, toI, nI_leI (by omega) (by omega)] at y
          exact stop s (by omega) (full (Or.inr (by omega)))
        · rw [w9.2.1, toI, nI_leI (by omega) (by omega)] at y
          have b1 : s < (f_nm f).length := by omega
          have b2 : s < (f_nm f').length := by omega
          have g1 := List.getElem?_eq_getElem b1
          have g2 := List.getElem?_eq_getElem b2
          rw [q9.2.1, w9.2.1, nI_clamp (by omega), q9.2.2 s _ g1, w9.2.2 s _ g2]
          refine ⟨vp_in_nI b1 (by omega), vp_in_nI b2 (by omega), fun x => ?_, fun x => ?_⟩
          · refine stop s (by omega) ⟨fun e => ?_, fun e => absurd e.1 (by omega)⟩
            exfalso
            apply x
            have : (f_nm f)[s]? = (f_nm f')[s]? := by rw [e]
            rw [g1, g2] at this
            rw [Option.some.inj this]
          · rw [← nI_succ]
            refine ih (s + 1) (by omega) (by omega) (by omega) (fun j hj => ?_)
            by_cases e : j = s
            · subst e
              rw [g1, g2, sb_inj (ho.2.2.2.1 _ (List.getElem_mem b1)) (ho'.2.2.2.1 _ (List.getElem_mem b2)) x]
            · exact hp j (by omega)
  exact key 20 0 (by omega) (by omega) (by omega) (fun j hj => absurd hj (by omega))
theorem nq_isAs {ge : Nat → Nat} {h : mm_M} {a p an ad a' p' an' ad' : Nat} {f f' : sF} (hn : ndH h a p f an ad) (hn' : ndH h a' p' f' an' ad') (ho : okF f) (ho' : okF f') (Z : Int32 → mm_M → Prop)
    (h1 : f_md f = f_md f' → f_vs f = f_vs f' → f_mt f = f_mt f' → f_nm f = f_nm f' → Z 1 h) (h0 : ¬ (f_md f = f_md f' ∧ f_vs f = f_vs f' ∧ f_mt f = f_mt f' ∧ f_nm f = f_nm f') → Z 0 h) : wq_Node_isAs ge a (some a') h Z := by
  have hN := nq_isNamedAs (ge := ge) hn hn' ho ho'
  obtain ⟨q1, q2, q3, q4, q5, q6, q7, q8, q9, q10⟩ := hn
  obtain ⟨w1, w2, w3, w4, w5, w6, w7, w8, w9, w10⟩ := hn'
  unfold wq_Node_isAs wq_Node_isAs_0 wq_Node_isAs_45 wq_Node_isAs_46
  rw [q5, q6, q7]
  refine ⟨q1, a', rfl, w1, ?_⟩
  rw [w5, w6, w7]
  refine ⟨fun z => ⟨Or.inl rfl, h0 (fun e => z e.1)⟩, fun z1 => ⟨fun z => ⟨Or.inl rfl, h0 (fun e => z e.2.1)⟩, fun z2 => ⟨fun z => ⟨Or.inl rfl, h0 (fun e => z e.2.2.1)⟩, fun z3 => ?_⟩⟩⟩
  refine hN _ (fun z4 => ⟨fun e => absurd e (by decide), fun _ => ⟨Or.inr rfl, h1 z1 z2 z3 z4⟩⟩) (fun z4 => ⟨fun _ => ⟨Or.inl rfl, h0 (fun e => z4 e.2.2.2)⟩, fun e => absurd rfl e⟩)
