/-! FIDS: their table in the class -/
abbrev sD : Type := Nat × Nat × Int32 × Int32 × Nat
def d_t (d : sD) : Nat := d.1
def d_p (d : sD) : Nat := d.2.1
def d_m (d : sD) : Int32 := d.2.2.1
def d_o (d : sD) : Int32 := d.2.2.2.1
def d_l (d : sD) : Nat := d.2.2.2.2
abbrev sM : Type := Int32 → Option sD
def fset (fm : sM) (x : Int32) (d : Option sD) : sM := fun y => if y = x then d else fm y
def crow (κ : cS) (i : Nat) (d : sD) : Prop := κ.1 (8 + i) 2 = nI (d_t d) - 1 ∧ κ.1 (8 + i) 3 = nI (d_p d) ∧ ((κ.1 (8 + i) 4 = 0 ∧ d_m d = -1 ∧ κ.1 (8 + i) 5 = 0 ∧ d_o d = 0 ∧ d_l d = 0) ∨ (κ.1 (8 + i) 4 = 1 ∧ 0 ≤ d_m d ∧ κ.1 (8 + i) 5 = d_m d)) ∧ κ.1 (8 + i) 6 = d_o d ∧ κ.1 (8 + i) 7 = nI (d_l d)
def usd (κ : cS) (i : Nat) : Prop := ¬ κ.1 (8 + i) 0 = 0
def Cfd (κ : cS) (fm : sM) (fc : Nat) : Prop := (∀ i, i < 24 → usd κ i → ∃ d, fm (κ.1 (8 + i) 1) = some d ∧ crow κ i d) ∧ (∀ x d, fm x = some d → ∃ i, i < 24 ∧ usd κ i ∧ κ.1 (8 + i) 1 = x) ∧ (∀ i j, i < 24 → j < 24 → usd κ i → usd κ j → κ.1 (8 + i) 1 = κ.1 (8 + j) 1 → i = j) ∧ cnt (usd κ) 24 = fc
theorem crow_of {κ κ' : cS} {i : Nat} {d : sD} (e : ∀ j, κ'.1 (8 + i) j = κ.1 (8 + i) j) (h : crow κ i d) : crow κ' i d := by
  unfold crow at h ⊢
  rw [e, e, e, e, e, e]
  exact h
theorem Cfd_of {κ κ' : cS} {fm : sM} {fc : Nat} (e : ∀ o j, 8 ≤ o → o < 32 → κ'.1 o j = κ.1 o j) (h : Cfd κ fm fc) : Cfd κ' fm fc := by
  have e' : ∀ i j, i < 24 → κ'.1 (8 + i) j = κ.1 (8 + i) j := fun i j hi => e _ _ (by omega) (by omega)
  have u : ∀ i, i < 24 → (usd κ' i ↔ usd κ i) := fun i hi => by unfold usd; rw [e' i 0 hi]
  obtain ⟨h1, h2, h3, h4⟩ := h
  refine ⟨fun i hi hu => ?_, fun x d hx => ?_, fun i j hi hj hu hv => ?_, ?_⟩
  · obtain ⟨d, q1, q2⟩ := h1 i hi ((u i hi).mp hu)
    exact ⟨d, by rw [e' i 1 hi]; exact q1, crow_of (fun j => e' i j hi) q2⟩
  · obtain ⟨i, hi, hu, q⟩ := h2 x d hx
    exact ⟨i, hi, (u i hi).mpr hu, by rw [e' i 1 hi]; exact q⟩
  · rw [e' i 1 hi, e' j 1 hj]
    exact h3 i j hi hj ((u i hi).mp hu) ((u j hj).mp hv)
  · rw [← h4]
    exact cnt_congr 24 u
theorem cnt_ins {P Q : Nat → Prop} {i : Nat} (hQ : Q i) (hP : ¬ P i) (h : ∀ k, ¬ k = i → (Q k ↔ P k)) : ∀ n, i < n → cnt Q n = cnt P n + 1
  | 0, hn => absurd hn (by omega)
  | n + 1, hn => by
    by_cases e : i = n
    · subst e
      rw [cnt_y hQ, cnt_n hP, cnt_congr i (fun k hk => h k (by omega))]
    · have := cnt_ins hQ hP h n (by omega)
      by_cases hq : P n
      · rw [cnt_y hq, cnt_y ((h n (fun z => e z.symm)).mpr hq), this]
      · rw [cnt_n hq, cnt_n (fun z => hq ((h n (fun z => e z.symm)).mp z)), this]
/-- a row of the table becomes another -/
theorem Cfd_set {κ κ' : cS} {fm : sM} {fc i : Nat} {d' : sD} (h : Cfd κ fm fc) (hi : i < 24) (hu : usd κ i) (e : ∀ o j, 8 ≤ o → o < 32 → (¬ o = 8 + i ∨ j < 2) → κ'.1 o j = κ.1 o j) (hr : crow κ' i d') : Cfd κ' (fset fm (κ.1 (8 + i) 1) (some d')) fc := by
  have e0 : ∀ k j, k < 24 → (¬ k = i ∨ j < 2) → κ'.1 (8 + k) j = κ.1 (8 + k) j := fun k j hk hj => e _ _ (by omega) (by omega) (hj.elim (fun q => Or.inl (by omega)) Or.inr)
  have u : ∀ k, k < 24 → (usd κ' k ↔ usd κ k) := fun k hk => by unfold usd; rw [e0 k 0 hk (Or.inr (by omega))]
  obtain ⟨h1, h2, h3, h4⟩ := h
  refine ⟨fun k hk hv => ?_, fun x d hx => ?_, fun k j hk hj hv hw => ?_, ?_⟩
  · rw [e0 k 1 hk (Or.inr (by omega))]
    by_cases ek : k = i
    · subst ek
      exact ⟨d', if_pos rfl, hr⟩
    · obtain ⟨d, q1, q2⟩ := h1 k hk ((u k hk).mp hv)
      refine ⟨d, ?_, crow_of (fun j => e0 k j hk (Or.inl ek)) q2⟩
      unfold fset
      rw [if_neg (fun z => ek (h3 k i hk hi ((u k hk).mp hv) hu z))]
      exact q1
  · unfold fset at hx
    by_cases ex : x = κ.1 (8 + i) 1
    · exact ⟨i, hi, (u i hi).mpr hu, by rw [e0 i 1 hi (Or.inr (by omega)), ex]⟩
    · rw [if_neg ex] at hx
      obtain ⟨k, hk, q1, q2⟩ := h2 x d hx
      exact ⟨k, hk, (u k hk).mpr q1, by rw [e0 k 1 hk (Or.inr (by omega))]; exact q2⟩
  · rw [e0 k 1 hk (Or.inr (by omega)), e0 j 1 hj (Or.inr (by omega))]
    exact h3 k j hk hj ((u k hk).mp hv) ((u j hj).mp hw)
  · rw [← h4]
    exact cnt_congr 24 u
/-- a row goes -/
theorem Cfd_del {κ κ' : cS} {fm : sM} {fc i : Nat} (h : Cfd κ fm fc) (hi : i < 24) (hu : usd κ i) (e : ∀ o j, 8 ≤ o → o < 32 → (¬ o = 8 + i ∨ 0 < j) → κ'.1 o j = κ.1 o j) (h0 : κ'.1 (8 + i) 0 = 0) : Cfd κ' (fset fm (κ.1 (8 + i) 1) none) (fc - 1) := by
  have e0 : ∀ k j, k < 24 → (¬ k = i ∨ 0 < j) → κ'.1 (8 + k) j = κ.1 (8 + k) j := fun k j hk hj => e _ _ (by omega) (by omega) (hj.elim (fun q => Or.inl (by omega)) Or.inr)
  have ui : ¬ usd κ' i := fun z => z h0
  have u : ∀ k, k < 24 → ¬ k = i → (usd κ' k ↔ usd κ k) := fun k hk ek => by unfold usd; rw [e0 k 0 hk (Or.inl ek)]
  obtain ⟨h1, h2, h3, h4⟩ := h
  refine ⟨fun k hk hv => ?_, fun x d hx => ?_, fun k j hk hj hv hw => ?_, ?_⟩
  · have ek : ¬ k = i := fun z => ui (z ▸ hv)
    obtain ⟨d, q1, q2⟩ := h1 k hk ((u k hk ek).mp hv)
    rw [e0 k 1 hk (Or.inr (by omega))]
    refine ⟨d, ?_, crow_of (fun j => e0 k j hk (Or.inl ek)) q2⟩
    unfold fset
    rw [if_neg (fun z => ek (h3 k i hk hi ((u k hk ek).mp hv) hu z))]
    exact q1
  · unfold fset at hx
    by_cases ex : x = κ.1 (8 + i) 1
    · rw [if_pos ex] at hx; cases hx
    · rw [if_neg ex] at hx
      obtain ⟨k, hk, q1, q2⟩ := h2 x d hx
      have ek : ¬ k = i := fun z => ex (by rw [← q2, z])
      exact ⟨k, hk, (u k hk ek).mpr q1, by rw [e0 k 1 hk (Or.inr (by omega))]; exact q2⟩
  · have ek : ¬ k = i := fun z => ui (z ▸ hv)
    have ej : ¬ j = i := fun z => ui (z ▸ hw)
    rw [e0 k 1 hk (Or.inr (by omega)), e0 j 1 hj (Or.inr (by omega))]
    exact h3 k j hk hj ((u k hk ek).mp hv) ((u j hj ej).mp hw)
  · have hc : cnt (fun k => if k < 24 then usd κ k else usd κ' k) 24 = cnt (usd κ') 24 + 1 := by
      refine cnt_ins (i := i) ?_ ui (fun k hk => ?_) 24 hi
      · show if i < 24 then usd κ i else usd κ' i
        rw [if_pos hi]; exact hu
      · by_cases q : k < 24
        · rw [if_pos q]; exact (u k q hk).symm
        · rw [if_neg q]
    have hd : cnt (fun k => if k < 24 then usd κ k else usd κ' k) 24 = cnt (usd κ) 24 := cnt_congr 24 (fun k hk => by rw [if_pos hk])
    omega
/-- a row comes -/
theorem Cfd_add {κ κ' : cS} {fm : sM} {fc i : Nat} {x : Int32} {d' : sD} (h : Cfd κ fm fc) (hi : i < 24) (hu : ¬ usd κ i) (hx : fm x = none) (e : ∀ o j, 8 ≤ o → o < 32 → ¬ o = 8 + i → κ'.1 o j = κ.1 o j) (hu' : usd κ' i) (hx' : κ'.1 (8 + i) 1 = x) (hr : crow κ' i d') : Cfd κ' (fset fm x (some d')) (fc + 1) := by
  have e0 : ∀ k j, k < 24 → ¬ k = i → κ'.1 (8 + k) j = κ.1 (8 + k) j := fun k j hk hj => e _ _ (by omega) (by omega) (by omega)
  have u : ∀ k, k < 24 → ¬ k = i → (usd κ' k ↔ usd κ k) := fun k hk ek => by unfold usd; rw [e0 k 0 hk ek]
  obtain ⟨h1, h2, h3, h4⟩ := h
  have nx : ∀ k, k < 24 → usd κ k → ¬ κ.1 (8 + k) 1 = x := fun k hk hv z => by
    obtain ⟨d, q1, _⟩ := h1 k hk hv
    rw [z, hx] at q1
    cases q1
  refine ⟨fun k hk hv => ?_, fun y d hy => ?_, fun k j hk hj hv hw => ?_, ?_⟩
  · by_cases ek : k = i
    · subst ek
      exact ⟨d', by rw [hx']; exact if_pos rfl, hr⟩
    · have hv' := (u k hk ek).mp hv
      obtain ⟨d, q1, q2⟩ := h1 k hk hv'
      rw [e0 k 1 hk ek]
      refine ⟨d, ?_, crow_of (fun j => e0 k j hk ek) q2⟩
      unfold fset
      rw [if_neg (nx k hk hv')]
      exact q1
  · unfold fset at hy
    by_cases ey : y = x
    · exact ⟨i, hi, hu', by rw [hx', ey]⟩
    · rw [if_neg ey] at hy
      obtain ⟨k, hk, q1, q2⟩ := h2 y d hy
      have ek : ¬ k = i := fun z => hu (z ▸ q1)
      exact ⟨k, hk, (u k hk ek).mpr q1, by rw [e0 k 1 hk ek]; exact q2⟩
  · by_cases ek : k = i
    · by_cases ej : j = i
      · intro _; omega
      · intro q
        rw [ek, hx', e0 j 1 hj ej] at q
        exact absurd q.symm (nx j hj ((u j hj ej).mp hw))
    · by_cases ej : j = i
      · intro q
        rw [ej, hx', e0 k 1 hk ek] at q
        exact absurd q (nx k hk ((u k hk ek).mp hv))
      · rw [e0 k 1 hk ek, e0 j 1 hj ej]
        exact h3 k j hk hj ((u k hk ek).mp hv) ((u j hj ej).mp hw)
  · have hc : cnt (fun k => if k < 24 then usd κ' k else usd κ k) 24 = cnt (usd κ) 24 + 1 := by
      refine cnt_ins (i := i) ?_ hu (fun k hk => ?_) 24 hi
      · show if i < 24 then usd κ' i else usd κ i
        rw [if_pos hi]; exact hu'
      · by_cases q : k < 24
        · rw [if_pos q]; exact u k q hk
        · rw [if_neg q]
    have hd : cnt (fun k => if k < 24 then usd κ' k else usd κ k) 24 = cnt (usd κ') 24 := cnt_congr 24 (fun k hk => by rw [if_pos hk])
    omega
theorem Cfd_0 {κ' : cS} (h : ∀ i, i < 24 → κ'.1 (8 + i) 0 = 0) : Cfd κ' (fun _ => none) 0 := by
  have u : ∀ i, i < 24 → ¬ usd κ' i := fun i hi z => z (h i hi)
  exact ⟨fun i hi hu => absurd hu (u i hi), fun x d hx => absurd hx (by simp), fun i j hi _ hu => absurd hu (u i hi), (cnt_0 24).mpr u⟩
section FT
variable {ge : Nat → Nat} {ax : Nat} {g : mm_M}
theorem CM_f (hM : CM ax g) : (mm_k g (ax + 6) = kd_FidTable ∧ mm_P g (ax + 6) 0 = some (ax + 7) ∧ mm_k g (ax + 7) = ka_Fid ∧ mm_n g (ax + 7) = 24) ∧ (∀ i : Nat, i < 24 → mm_P g (ax + 7) i = some (ax + (8 + i)) ∧ mm_k g (ax + (8 + i)) = kd_Fid) := ⟨hM.2.2.2.2.2.2.1, hM.2.2.2.2.2.2.2.1⟩
theorem cq_find (hM : CM ax g) (κ : cS) {fm : sM} {fc : Nat} (hF : Cfd κ fm fc) (x : Int32) (Z : Option Nat → mm_M → Prop)
    (h1 : ∀ (i : Nat) (d : sD), i < 24 → usd κ i → κ.1 (8 + i) 1 = x → fm x = some d → crow κ i d → Z (some (ax + (8 + i))) (c_em ax κ g)) (h0 : fm x = none → Z none (c_em ax κ g)) : wq_FidTable_find ge (ax + 6) x (c_em ax κ g) Z := by
  obtain ⟨⟨m1, m2, m3, m4⟩, m5⟩ := CM_f hM
  obtain ⟨f1, f2, f3, f4⟩ := hF
  unfold wq_FidTable_find wq_FidTable_find_0 lp_FidTable_find_2
  intro X hX
  have key : ∀ (m i : Nat), i + m = 24 → (∀ k, k < i → usd κ k → ¬ κ.1 (8 + k) 1 = x) → X (ax + 6) x (nI i) (c_em ax κ g) := by
    intro m
    induction m with
    | zero =>
      intro i hi hp
      have e : i = 24 := by omega
      subst e
      refine hX _ _ _ _ ?_
      unfold wq_FidTable_find_2
      refine ⟨fun _ => h0 ?_, fun q => absurd (nI_le (Nat.le_refl 24) (by decide)) q⟩
      cases hx : fm x with
      | none => rfl
      | some d =>
        obtain ⟨k, hk, q1, q2⟩ := f2 x d hx
        exact absurd q2 (hp k hk q1)
    | succ m ih =>
      intro i hi hp
      refine hX _ _ _ _ ?_
      unfold wq_FidTable_find_2 wq_FidTable_find_40
      have hin : vp_in (nI i) 24 := vp_in_nI (by omega) (by decide)
      have hcl : (nI i).toNatClampNeg = i := nI_clamp (by omega)
      refine ⟨fun q => absurd q (nI_ge (b := 24) (by omega) (by decide)), fun _ => ?_⟩
      simp only [m1, m2, m3, m4, (m5 i (by omega)).1, (m5 i (by omega)).2, ck, cn, cP ax 6 rfl, cP ax 7 rfl, cI ax (8 + i) (by omega), hin, hcl, true_and, Option.some.injEq, exists_eq_left']
      have nxt : (usd κ i → ¬ κ.1 (8 + i) 1 = x) → X (ax + 6) x (nI i + 1) (c_em ax κ g) := by
        intro hno
        rw [← nI_succ]
        refine ih (i + 1) (by omega) (fun k hk hu => ?_)
        by_cases e : k = i
        · subst e; exact hno hu
        · exact hp k (by omega) hu
      refine ⟨fun q => nxt (fun z => absurd q z), fun q => ⟨fun q2 => nxt (fun _ => q2), fun q2 => ?_⟩⟩
      obtain ⟨d, w1, w2⟩ := f1 i (by omega) q
      rw [q2] at w1
      exact h1 i d (by omega) q q2 w1 w2
  exact key 24 0 (by omega) (fun k hk => absurd hk (by omega))
theorem cq_fsize (hM : CM ax g) (κ : cS) (Z : Int32 → mm_M → Prop) (hZ : Z (nI (cnt (usd κ) 24)) (c_em ax κ g)) : wq_FidTable_size ge (ax + 6) (c_em ax κ g) Z := by
  obtain ⟨⟨m1, m2, m3, m4⟩, m5⟩ := CM_f hM
  unfold wq_FidTable_size wq_FidTable_size_0 lp_FidTable_size_4
  intro X hX
  have key : ∀ (m i : Nat), i + m = 24 → X (ax + 6) (nI (cnt (usd κ) i)) (nI i) (c_em ax κ g) := by
    intro m
    induction m with
    | zero =>
      intro i hi
      have e : i = 24 := by omega
      subst e
      refine hX _ _ _ _ ?_
      unfold wq_FidTable_size_4
      exact ⟨fun _ => hZ, fun q => absurd (nI_le (Nat.le_refl 24) (by decide)) q⟩
    | succ m ih =>
      intro i hi
      refine hX _ _ _ _ ?_
      have hn := ih (i + 1) (by omega)
      unfold wq_FidTable_size_4 wq_FidTable_size_28
      have hin : vp_in (nI i) 24 := vp_in_nI (by omega) (by decide)
      have hcl : (nI i).toNatClampNeg = i := nI_clamp (by omega)
      refine ⟨fun q => absurd q (nI_ge (b := 24) (by omega) (by decide)), fun _ => ?_⟩
      simp only [m1, m2, m3, m4, (m5 i (by omega)).1, (m5 i (by omega)).2, ck, cn, cP ax 6 rfl, cP ax 7 rfl, cI ax (8 + i) (by omega), hin, hcl, true_and, Option.some.injEq, exists_eq_left']
      refine ⟨fun q => ?_, fun q => ?_⟩
      · rw [cnt_n (fun z => z q), nI_succ] at hn
        rw [Int32.add_zero]
        exact hn
      · rw [cnt_y (show usd κ i from q), nI_succ, nI_succ] at hn
        exact hn
  exact key 24 0 (by omega)
/-- the first n rows are none -/
def c_nf (κ : cS) (n : Nat) : cS := (fun o j => if 8 ≤ o ∧ o < 8 + n ∧ j = 0 then 0 else κ.1 o j, κ.2)
theorem c_nf_s (κ : cS) (n : Nat) : c_u (c_nf κ n) (8 + n) 0 0 = c_nf κ (n + 1) := by
  unfold c_u c_nf
  refine Prod.ext ?_ rfl
  funext o j
  show (if o = 8 + n ∧ j = 0 then 0 else if 8 ≤ o ∧ o < 8 + n ∧ j = 0 then 0 else κ.1 o j) = if 8 ≤ o ∧ o < 8 + (n + 1) ∧ j = 0 then 0 else κ.1 o j
  by_cases e : o = 8 + n ∧ j = 0
  · rw [if_pos e, if_pos (by omega)]
  · rw [if_neg e]
    by_cases e2 : 8 ≤ o ∧ o < 8 + n ∧ j = 0
    · rw [if_pos e2, if_pos (by omega)]
    · rw [if_neg e2, if_neg (by omega)]
theorem cq_fclear (hM : CM ax g) (hg : ge 0 ≤ ax) (κ : cS) (Z : mm_M → Prop) (hZ : Z (c_em ax (c_nf κ 24) g)) : wq_FidTable_clear ge (ax + 6) (c_em ax κ g) Z := by
  obtain ⟨⟨m1, m2, m3, m4⟩, m5⟩ := CM_f hM
  unfold wq_FidTable_clear wq_FidTable_clear_0 lp_FidTable_clear_2
  intro X hX
  have key : ∀ (m i : Nat), i + m = 24 → X (ax + 6) (nI i) (c_em ax (c_nf κ i) g) := by
    intro m
    induction m with
    | zero =>
      intro i hi
      have e : i = 24 := by omega
      subst e
      refine hX _ _ _ ?_
      unfold wq_FidTable_clear_2
      exact ⟨fun _ => hZ, fun q => absurd (nI_le (Nat.le_refl 24) (by decide)) q⟩
    | succ m ih =>
      intro i hi
      refine hX _ _ _ ?_
      unfold wq_FidTable_clear_2
      have hin : vp_in (nI i) 24 := vp_in_nI (by omega) (by decide)
      have hcl : (nI i).toNatClampNeg = i := nI_clamp (by omega)
      refine ⟨fun q => absurd q (nI_ge (b := 24) (by omega) (by decide)), fun _ => ?_⟩
      simp only [m1, m2, m3, m4, (m5 i (by omega)).1, (m5 i (by omega)).2, ck, cn, cP ax 6 rfl, cP ax 7 rfl, cU ax (8 + i) (by omega), geo hg, hin, hcl, true_and, Option.some.injEq, exists_eq_left', forall_eq]
      rw [c_nf_s, ← nI_succ]
      exact ih (i + 1) (by omega)
  have e0 : c_nf κ 0 = κ := by
    unfold c_nf
    refine Prod.ext ?_ rfl
    funext o j
    show (if 8 ≤ o ∧ o < 8 + 0 ∧ j = 0 then 0 else κ.1 o j) = κ.1 o j
    rw [if_neg (by omega)]
  have := key 24 0 (by omega)
  rw [e0] at this
  exact this
def c_mk (κ : cS) (i : Nat) (number tree path : Int32) : cS := c_u (c_u (c_u (c_u (c_u (c_u (c_u (c_u κ (8 + i) 0 1) (8 + i) 1 number) (8 + i) 2 tree) (8 + i) 3 path) (8 + i) 4 0) (8 + i) 5 0) (8 + i) 6 0) (8 + i) 7 0
theorem cq_make (hM : CM ax g) (hg : ge 0 ≤ ax) (κ : cS) (x tree path : Int32) (Z : Int32 → mm_M → Prop)
    (h1 : ∀ (i : Nat), i < 24 → ¬ usd κ i → Z 1 (c_em ax (c_mk κ i x tree path) g)) (h0 : cnt (usd κ) 24 = 24 → Z 0 (c_em ax κ g)) : wq_FidTable_make ge (ax + 6) x tree path (c_em ax κ g) Z := by
  obtain ⟨⟨m1, m2, m3, m4⟩, m5⟩ := CM_f hM
  unfold wq_FidTable_make wq_FidTable_make_0 lp_FidTable_make_3
  intro X hX
  have key : ∀ (m i : Nat), i + m = 24 → cnt (usd κ) i = i → X (ax + 6) x tree path (nI i) (c_em ax κ g) := by
    intro m
    induction m with
    | zero =>
      intro i hi hc
      have e : i = 24 := by omega
      subst e
      refine hX _ _ _ _ _ _ ?_
      unfold wq_FidTable_make_3
      exact ⟨fun _ => h0 hc, fun q => absurd (nI_le (Nat.le_refl 24) (by decide)) q⟩
    | succ m ih =>
      intro i hi hc
      refine hX _ _ _ _ _ _ ?_
      unfold wq_FidTable_make_3 wq_Fid_rewind wq_Fid_rewind_0
      have hin : vp_in (nI i) 24 := vp_in_nI (by omega) (by decide)
      have hcl : (nI i).toNatClampNeg = i := nI_clamp (by omega)
      refine ⟨fun q => absurd q (nI_ge (b := 24) (by omega) (by decide)), fun _ => ?_⟩
      simp only [m1, m2, m3, m4, (m5 i (by omega)).1, (m5 i (by omega)).2, ck, cn, cP ax 6 rfl, cP ax 7 rfl, cI ax (8 + i) (by omega), cU ax (8 + i) (by omega), geo hg, hin, hcl, true_and, Option.some.injEq, exists_eq_left', forall_eq]
      refine ⟨fun q => ?_, fun q => h1 i (by omega) (fun z => z q)⟩
      rw [← nI_succ]
      exact ih (i + 1) (by omega) (by rw [cnt_y (show usd κ i from q), hc])
  exact key 24 0 (by omega) rfl
end FT
