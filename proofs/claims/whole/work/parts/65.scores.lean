/-! scores: what going over a tree leaves -/
theorem fsti_fst {P : Nat → Prop} : ∀ {n s p : Nat}, fsti P s n = some p → ∀ q, s ≤ q → q < p → ¬ P q
  | 0, _, _, h => by cases h
  | n + 1, s, p, h => by
    intro q h1 h2
    by_cases e : P s
    · have : fsti P s (n + 1) = some s := cif_y e
      rw [this] at h
      cases h
      omega
    · have : fsti P s (n + 1) = fsti P (s + 1) n := cif_n e
      rw [this] at h
      by_cases e2 : q = s
      · subst e2; exact e
      · exact fsti_fst h q (by omega) h2
theorem fsti_no {P : Nat → Prop} : ∀ {n s : Nat}, fsti P s n = none → ∀ q, s ≤ q → q < s + n → ¬ P q
  | 0, _, _ => fun q h1 h2 => absurd h2 (by omega)
  | n + 1, s, h => by
    intro q h1 h2
    by_cases e : P s
    · have : fsti P s (n + 1) = some s := cif_y e
      rw [this] at h
      cases h
    · have : fsti P s (n + 1) = fsti P (s + 1) n := cif_n e
      rw [this] at h
      by_cases e2 : q = s
      · subst e2; exact e
      · exact fsti_no h q (by omega) (by omega)
theorem dent_cg {Tr : sT} {dd : Int32} {l l' : Nat → qW} {p : Nat} (h : inD Tr dd p → l p = l' p) : dent Tr dd l p = dent Tr dd l' p := by
  unfold dent
  cases hT : Tr p with
  | none => rfl
  | some f =>
    simp only
    by_cases c : ¬ p = 0 ∧ f_in f = dd
    · rw [cif_y c, cif_y c, h ⟨c.1, f, hT, c.2⟩]
    · rw [cif_n c, cif_n c]
theorem dblk_cg {Tr : sT} {dd : Int32} {l l' : Nat → qW} : ∀ (m : Nat), (∀ p, p < m → inD Tr dd p → l p = l' p) → dblk Tr dd l m = dblk Tr dd l' m
  | 0, _ => rfl
  | m + 1, h => by
    show dblk Tr dd l m ++ dent Tr dd l m = dblk Tr dd l' m ++ dent Tr dd l' m
    rw [dblk_cg m (fun p hp => h p (by omega)), dent_cg (h m (by omega))]
theorem nblk_cg {Tr : sT} {l l' : Nat → qW} {p : Nat} {f : sF} (h : ¬ 0 ≤ f_md f → ∀ c, c < 60 → inD Tr (nI p) c → l c = l' c) : nblk Tr l p f = nblk Tr l' p f := by
  unfold nblk
  by_cases c : 0 ≤ f_md f
  · rw [if_pos c, if_pos c]
  · rw [if_neg c, if_neg c]
    exact dblk_cg 60 (h c)
def q0 : qW := (0, 0, 0, 0, 0)
noncomputable def scP (Tr : sT) : Nat → Nat → qW
  | 0, _ => q0
  | n + 1, p => match Tr p with
    | none => q0
    | some f => sha (nblk Tr (scP Tr n) p f)
theorem scP_s {Tr : sT} {n p : Nat} {f : sF} (h : Tr p = some f) : scP Tr (n + 1) p = sha (nblk Tr (scP Tr n) p f) := by
  show (match Tr p with | none => q0 | some f => sha (nblk Tr (scP Tr n) p f)) = _
  rw [h]
theorem scP_n {Tr : sT} {n p : Nat} (h : Tr p = none) : scP Tr (n + 1) p = q0 := by
  show (match Tr p with | none => q0 | some f => sha (nblk Tr (scP Tr n) p f)) = _
  rw [h]
theorem scP_st {Tr : sT} {gv : Nat} (hw : wfT Tr gv) : ∀ (n m p : Nat), p < 60 → 60 - p ≤ n → 60 - p ≤ m → scP Tr n p = scP Tr m p := by
  intro n
  induction n with
  | zero => intro m p h1 h2; omega
  | succ n ih =>
    intro m p h1 h2 h3
    cases m with
    | zero => omega
    | succ m =>
      cases hT : Tr p with
      | none => rw [scP_n hT, scP_n hT]
      | some f =>
        rw [scP_s hT, scP_s hT, nblk_cg (fun _ c hc hi => ?_)]
        have := inD_lt hw h1 hi
        exact ih m c hc (by omega) (by omega)
noncomputable def sc (Tr : sT) (p : Nat) : qW := scP Tr 60 p
theorem scT_eq {Tr : sT} {gv : Nat} (hw : wfT Tr gv) {p : Nat} {f : sF} (hp : p < 60) (hT : Tr p = some f) : sc Tr p = sha (nblk Tr (sc Tr) p f) := by
  show scP Tr 60 p = _
  rw [scP_st hw 60 61 p hp (by omega) (by omega), scP_s hT]
  rfl
theorem nst_2 {k : Bool} {Tr : sT} {s : sB_ × (Nat → qW)} {p : Nat} {f : sF} (hT : Tr p = some f) : (nst k Tr s p).2 = upL s.2 p (sha (nblk Tr s.2 p f)) := by
  unfold nst
  rw [hT]
theorem nst_ok {k : Bool} {Tr : sT} {gv : Nat} (hw : wfT Tr gv) {s : sB_ × (Nat → qW)} {p : Nat} {f : sF} (hp : p < 60) (hT : Tr p = some f) (hc : ¬ 0 ≤ f_md f → ∀ c, c < 60 → inD Tr (nI p) c → s.2 c = sc Tr c) : (nst k Tr s p).2 p = sc Tr p ∧ ∀ x, s.2 x = sc Tr x → (nst k Tr s p).2 x = sc Tr x := by
  have e : sha (nblk Tr s.2 p f) = sc Tr p := by rw [nblk_cg hc, ← scT_eq hw hp hT]
  rw [nst_2 hT, e]
  unfold upL
  refine ⟨if_pos rfl, fun x hx => ?_⟩
  by_cases z : x = p
  · subst z; exact if_pos rfl
  · rw [if_neg z]; exact hx
theorem go_ok {k : Bool} {Tr : sT} {gv : Nat} (hw : wfT Tr gv) : ∀ (n q b : Nat) (s : sB_ × (Nat → qW)) (f : sF), mu q b ≤ n → q < 60 → b < 60 → Tr q = some f → ¬ 0 ≤ f_md f → (∀ p, p ≤ b → inD Tr (nI q) p → s.2 p = sc Tr p) → ((rsq Tr n q b).foldl (nst k Tr) s).2 q = sc Tr q ∧ ∀ x, s.2 x = sc Tr x → ((rsq Tr n q b).foldl (nst k Tr) s).2 x = sc Tr x := by
  intro n
  induction n with
  | zero => intro q b s f hmu hq; unfold mu at hmu; omega
  | succ n ih =>
    intro q b s f hmu hq hb hT hd hs
    cases hk : nextk Tr q b with
    | none =>
      have hrs : rsq Tr (n + 1) q b = [q] := by
        conv => lhs; unfold rsq
        rw [hk]
      rw [hrs]
      refine nst_ok hw hq hT (fun _ c hc hi => ?_)
      by_cases hcb : c ≤ b
      · exact hs c hcb hi
      · exact absurd hi (fsti_no hk c (by omega) (by omega))
    | some p =>
      have hrs : rsq Tr (n + 1) q b = cif (isDirAt Tr p) (rsq Tr n p 0) [p] ++ rsq Tr n q p := by
        conv => lhs; unfold rsq
        rw [hk]
      obtain ⟨h1, h2, h3⟩ := nextk_some hk
      have hqp := inD_lt hw hq h1
      rw [hrs, List.foldl_append]
      have first : ∀ s', s' = (cif (isDirAt Tr p) (rsq Tr n p 0) [p]).foldl (nst k Tr) s → s'.2 p = sc Tr p ∧ ∀ x, s.2 x = sc Tr x → s'.2 x = sc Tr x := by
        intro s' es
        by_cases c : isDirAt Tr p
        · obtain ⟨fp, c1, c2⟩ := c
          rw [cif_y ⟨fp, c1, c2⟩] at es
          rw [es]
          exact ih p 0 s fp (by unfold mu at hmu ⊢; omega) h3 (by decide) c1 c2 (fun c hc hi => absurd hc (by have := hi.1; omega))
        · rw [cif_n c] at es
          rw [es]
          obtain ⟨_, fp, c1, _⟩ := h1
          exact nst_ok hw h3 c1 (fun z => absurd ⟨fp, c1, z⟩ c)
      obtain ⟨g1, g2⟩ := first _ rfl
      obtain ⟨k1, k2⟩ := ih q p ((cif (isDirAt Tr p) (rsq Tr n p 0) [p]).foldl (nst k Tr) s) f (by unfold mu at hmu ⊢; omega) hq h3 hT hd (fun c hc hi => by
        by_cases e : c = p
        · subst e; exact g1
        · by_cases hcb : c ≤ b
          · exact g2 c (hs c hcb hi)
          · exact absurd hi (fsti_fst hk c (by omega) (by omega)))
      exact ⟨k1, fun x hx => k2 x (g2 x hx)⟩
theorem goV_root {k : Bool} {Tr : sT} {gv : Nat} (hw : wfT Tr gv) (s : sB_ × (Nat → qW)) : (goV k Tr s).2 0 = sc Tr 0 := by
  obtain ⟨f, h1, _, h3⟩ := hw.2.1
  exact (go_ok hw 4000 0 0 s f (by decide) (by decide) (by decide) h1 h3 (fun p hp hi => absurd (Nat.le_zero.mp hp) hi.1)).1
/-- a store only grows -/
theorem ofr_pre (k : Bool) (σ : sB_) (X : List Int32) : ∃ R, (ofr k σ X).1 = σ.1 ++ R := by
  unfold ofr
  by_cases e : k = false
  · rw [if_pos e]; exact ⟨[], by simp⟩
  · rw [if_neg e]
    by_cases c : sha X ∈ σ.1
    · rw [cif_y c]; exact ⟨[], by simp⟩
    · rw [cif_n c]
      by_cases d : 600 ≤ σ.1.length
      · rw [cif_y d]; exact ⟨[], by simp⟩
      · rw [cif_n d]; exact ⟨_, rfl⟩
theorem ofrC_pre (k : Bool) (D : List Int32) : ∀ (j : Nat) (σ : sB_), ∃ R, (ofrC k D j σ).1 = σ.1 ++ R
  | 0, σ => ⟨[], by simp [ofrC]⟩
  | j + 1, σ => by
    obtain ⟨R, h⟩ := ofrC_pre k D j σ
    obtain ⟨R', h'⟩ := ofr_pre k (ofrC k D j σ) (chunk D j)
    exact ⟨R ++ R', by show (ofr k (ofrC k D j σ) (chunk D j)).1 = _; rw [h', h, List.append_assoc]⟩
theorem nst_pre (k : Bool) (Tr : sT) (s : sB_ × (Nat → qW)) (p : Nat) : ∃ R, (nst k Tr s p).1.1 = s.1.1 ++ R := by
  unfold nst
  cases hT : Tr p with
  | none => exact ⟨[], by simp⟩
  | some f =>
    simp only
    by_cases c : 0 ≤ f_md f
    · rw [if_pos c]
      obtain ⟨R, h⟩ := ofrC_pre k (f_dt f) (nck (f_dt f)) s.1
      obtain ⟨R', h'⟩ := ofr_pre k (ofrC k (f_dt f) (nck (f_dt f)) s.1) (nblk Tr s.2 p f)
      exact ⟨R ++ R', by rw [h', h, List.append_assoc]⟩
    · rw [if_neg c]
      exact ofr_pre k s.1 _
theorem fold_pre (k : Bool) (Tr : sT) : ∀ (l : List Nat) (s : sB_ × (Nat → qW)), ∃ R, (l.foldl (nst k Tr) s).1.1 = s.1.1 ++ R
  | [], s => ⟨[], by simp⟩
  | p :: l, s => by
    obtain ⟨R, h⟩ := nst_pre k Tr s p
    obtain ⟨R', h'⟩ := fold_pre k Tr l (nst k Tr s p)
    exact ⟨R ++ R', by rw [List.foldl_cons, h', h, List.append_assoc]⟩
theorem ofr_f (σ : sB_) (X : List Int32) : ofr false σ X = σ := by unfold ofr; rw [if_pos rfl]
theorem ofrC_f (D : List Int32) : ∀ (j : Nat) (σ : sB_), ofrC false D j σ = σ
  | 0, _ => rfl
  | j + 1, σ => (ofr_f _ _).trans (ofrC_f D j σ)
theorem fold_f (Tr : sT) : ∀ (l : List Nat) (s : sB_ × (Nat → qW)), (l.foldl (nst false Tr) s).1 = s.1
  | [], s => rfl
  | p :: l, s => by
    rw [List.foldl_cons, fold_f Tr l]
    unfold nst
    cases hT : Tr p with
    | none => rfl
    | some f =>
      simp only
      rw [ofr_f]
      by_cases c : 0 ≤ f_md f
      · rw [if_pos c, ofrC_f]
      · rw [if_neg c]
