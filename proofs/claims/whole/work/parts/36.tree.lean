/-! the class: trees -/
/-- how many below n have the property -/
noncomputable def cnt (P : Nat → Prop) : Nat → Nat
  | 0 => 0
  | n + 1 => cnt P n + @ite Nat (P n) (Classical.propDecidable (P n)) 1 0
theorem cnt_y {P : Nat → Prop} {n : Nat} (h : P n) : cnt P (n + 1) = cnt P n + 1 := by
  show cnt P n + @ite Nat (P n) (Classical.propDecidable (P n)) 1 0 = _
  rw [if_pos h]
theorem cnt_n {P : Nat → Prop} {n : Nat} (h : ¬ P n) : cnt P (n + 1) = cnt P n := by
  show cnt P n + @ite Nat (P n) (Classical.propDecidable (P n)) 1 0 = _
  rw [if_neg h, Nat.add_zero]
theorem cnt_le (P : Nat → Prop) : ∀ n, cnt P n ≤ n
  | 0 => Nat.le_refl _
  | n + 1 => by
    have := cnt_le P n
    by_cases h : P n
    · rw [cnt_y h]; omega
    · rw [cnt_n h]; omega
theorem cnt_congr {P Q : Nat → Prop} : ∀ n, (∀ k, k < n → (P k ↔ Q k)) → cnt P n = cnt Q n
  | 0, _ => rfl
  | n + 1, h => by
    have := cnt_congr n (fun k hk => h k (by omega))
    by_cases hp : P n
    · rw [cnt_y hp, cnt_y ((h n (by omega)).mp hp), this]
    · rw [cnt_n hp, cnt_n (fun q => hp ((h n (by omega)).mpr q)), this]
theorem cnt_0 {P : Nat → Prop} : ∀ n, cnt P n = 0 ↔ ∀ k, k < n → ¬ P k
  | 0 => ⟨fun _ k hk => absurd hk (by omega), fun _ => rfl⟩
  | n + 1 => by
    by_cases hp : P n
    · rw [cnt_y hp]
      exact ⟨fun h => absurd h (by omega), fun h => absurd hp (h n (by omega))⟩
    · rw [cnt_n hp, cnt_0 n]
      refine ⟨fun h k hk => ?_, fun h k hk => h k (by omega)⟩
      by_cases e : k = n
      · subst e; exact hp
      · exact h k (by omega)
/-- a row of nodes holds the tree T -/
def nr (ax : Nat) (g : mm_M) (P : Nat → Option Nat) (T : sT) : Prop := (∀ p, p < 60 → (T p = none ∧ P p = none) ∨ ∃ (a : Nat) (f : sF), T p = some f ∧ P p = some a ∧ nd ax g a p f) ∧ ∀ p, 60 ≤ p → T p = none
def tre (ax : Nat) (κ : cS) (g : mm_M) (b : Nat) (T : sT) : Prop := mm_k g b = kd_Tree ∧ ∃ bn : Nat, mm_P (c_em ax κ g) b 0 = some bn ∧ mm_k g bn = ka_Node ∧ mm_n g bn = 60 ∧ nr ax g (mm_P (c_em ax κ g) bn) T
theorem nr_ext {ax : Nat} {g g' : mm_M} {P : Nat → Option Nat} {T : sT} (e : ext g g') (h : nr ax g P T) : nr ax g' P T := by
  refine ⟨fun p hp => ?_, h.2⟩
  rcases h.1 p hp with q | ⟨a, f, q1, q2, q3⟩
  · exact Or.inl q
  · exact Or.inr ⟨a, f, q1, q2, nd_ext e q3⟩
theorem nr_of {ax : Nat} {g : mm_M} {P Q : Nat → Option Nat} {T : sT} (e : ∀ p, p < 60 → Q p = P p) (h : nr ax g P T) : nr ax g Q T := by
  refine ⟨fun p hp => ?_, h.2⟩
  rcases h.1 p hp with q | ⟨a, f, q1, q2, q3⟩
  · exact Or.inl ⟨q.1, (e p hp).trans q.2⟩
  · exact Or.inr ⟨a, f, q1, (e p hp).trans q2, q3⟩
theorem i60 {x : Int32} (h0 : ¬ x < 0) (h1 : x < 60) : ∃ p : Nat, p < 60 ∧ x = nI p := by
  obtain ⟨p, hp, rfl⟩ := nI_of h0
  exact ⟨p, (nI_ltI hp (by decide)).mp h1, rfl⟩
section TR
variable {ge : Nat → Nat} {ax : Nat} {κ : cS} {g : mm_M} {b : Nat} {T : sT}
theorem cq_tat (h : tre ax κ g b T) (x : Int32) (Z : Option Nat → mm_M → Prop) (h1 : ∀ (p a : Nat) (f : sF), p < 60 → x = nI p → T p = some f → nd ax g a p f → Z (some a) (c_em ax κ g)) (h0 : (∀ p : Nat, p < 60 → x = nI p → T p = none) → Z none (c_em ax κ g)) : wq_Tree_at ge b x (c_em ax κ g) Z := by
  obtain ⟨q1, bn, q2, q3, q4, q5, q6⟩ := h
  unfold wq_Tree_at wq_Tree_at_0 wq_Tree_at_10 wq_Tree_at_20
  refine ⟨fun z => h0 (fun p hp e => ?_), fun z => ⟨fun z2 => ?_, fun z2 => h0 (fun p hp e => ?_)⟩⟩
  · rw [e] at z; exact absurd z (nI_pos (by omega))
  · obtain ⟨p, hp, rfl⟩ := i60 z z2
    refine ⟨q1, bn, q2, q3, by rw [cn, q4]; exact vp_in_nI hp (by decide), ?_⟩
    rw [nI_clamp (by omega)]
    rcases q5 p hp with w | ⟨a, f, w1, w2, w3⟩
    · rw [w.2]
      refine h0 (fun p' hp' e => ?_)
      have := (nI_eq (by omega) (by omega)).mp e
      subst this
      exact w.1
    · rw [w2]
      exact h1 p a f hp rfl w1 w3
  · rw [e] at z2; exact absurd (nI_lt (b := 60) hp (by decide)) z2
/-- p is a file in d -/
def inD (T : sT) (d : Int32) (p : Nat) : Prop := ¬ p = 0 ∧ ∃ f, T p = some f ∧ f_in f = d
theorem cq_tin (h : tre ax κ g b T) (d : Int32) {p : Nat} (hp : p < 60) (Z : Option Nat → mm_M → Prop) (h1 : ∀ (a : Nat) (f : sF), ¬ p = 0 → T p = some f → f_in f = d → nd ax g a p f → Z (some a) (c_em ax κ g)) (h0 : ¬ inD T d p → Z none (c_em ax κ g)) : wq_Tree_in ge b d (nI p) (c_em ax κ g) Z := by
  unfold wq_Tree_in wq_Tree_in_0 wq_Tree_in_22 wq_Tree_in_27
  refine ⟨h.1, cq_tat h _ _ (fun p' a f hp' e hT hn => ?_) (fun hT => ?_)⟩
  · have := (nI_eq (by omega) (by omega)).mp e
    subst this
    refine ⟨fun z => absurd z (by simp), fun a4 _ => ⟨fun z => h0 (fun w => ?_), fun z => ?_⟩⟩
    · exact w.1 ((nI_eq (b := 0) (by omega) (by decide)).mp z)
    · obtain ⟨an, ad, f1, f2, f3, hN⟩ := nd_H hn
      refine ⟨a, rfl, (hN κ).1, ?_⟩
      rw [(hN κ).2.2.1]
      refine ⟨fun y => h1 a f (fun e0 => z (by rw [e0]; rfl)) hT y hn, fun y => h0 (fun w => ?_)⟩
      obtain ⟨_, f', w1, w2⟩ := w
      rw [hT] at w1
      cases w1
      exact y w2
  · refine ⟨fun _ => h0 (fun w => ?_), fun a z => absurd z (by simp)⟩
    obtain ⟨_, f', w1, _⟩ := w
    rw [hT p hp rfl] at w1
    cases w1
theorem cq_tsizeOf (h : tre ax κ g b T) (d : Int32) (Z : Int32 → mm_M → Prop) (hZ : Z (nI (cnt (inD T d) 60)) (c_em ax κ g)) : wq_Tree_sizeOf ge b d (c_em ax κ g) Z := by
  unfold wq_Tree_sizeOf wq_Tree_sizeOf_0 lp_Tree_sizeOf_4
  intro X hX
  have key : ∀ (m p : Nat), p + m = 60 → X b d (nI (cnt (inD T d) p)) (nI p) (c_em ax κ g) := by
    intro m
    induction m with
    | zero =>
      intro p hp
      have e : p = 60 := by omega
      subst e
      refine hX _ _ _ _ _ ?_
      unfold wq_Tree_sizeOf_4
      exact ⟨fun _ => hZ, fun q => absurd (nI_le (Nat.le_refl 60) (by decide)) q⟩
    | succ m ih =>
      intro p hp
      refine hX _ _ _ _ _ ?_
      have hn := ih (p + 1) (by omega)
      unfold wq_Tree_sizeOf_4 wq_Tree_sizeOf_25
      refine ⟨fun q => absurd q (nI_ge (b := 60) (by omega) (by decide)), fun _ => ⟨h.1, cq_tin h d (by omega) _ (fun a f w0 w1 w2 w3 => ?_) (fun w => ?_)⟩⟩
      · refine ⟨fun _ _ => ?_, fun z => absurd z (by simp)⟩
        rw [cnt_y ⟨w0, f, w1, w2⟩, nI_succ, nI_succ] at hn
        exact hn
      · refine ⟨fun _ z => absurd z (by simp), fun _ => ?_⟩
        rw [cnt_n w, nI_succ] at hn
        rw [Int32.add_zero]
        exact hn
  exact key 60 0 (by omega)
theorem cq_tsize (h : tre ax κ g b T) (Z : Int32 → mm_M → Prop) (hZ : Z (nI (cnt (fun p => ¬ T p = none) 60)) (c_em ax κ g)) : wq_Tree_size ge b (c_em ax κ g) Z := by
  obtain ⟨q1, bn, q2, q3, q4, q5, q6⟩ := h
  unfold wq_Tree_size wq_Tree_size_0 lp_Tree_size_4
  intro X hX
  have key : ∀ (m p : Nat), p + m = 60 → X b (nI (cnt (fun p => ¬ T p = none) p)) (nI p) (c_em ax κ g) := by
    intro m
    induction m with
    | zero =>
      intro p hp
      have e : p = 60 := by omega
      subst e
      refine hX _ _ _ _ ?_
      unfold wq_Tree_size_4
      exact ⟨fun _ => hZ, fun q => absurd (nI_le (Nat.le_refl 60) (by decide)) q⟩
    | succ m ih =>
      intro p hp
      refine hX _ _ _ _ ?_
      have hn := ih (p + 1) (by omega)
      unfold wq_Tree_size_4 wq_Tree_size_25
      refine ⟨fun q => absurd q (nI_ge (b := 60) (by omega) (by decide)), fun _ => ⟨q1, bn, q2, q3, by rw [cn, q4]; exact vp_in_nI (by omega) (by decide), ?_⟩⟩
      rw [nI_clamp (by omega)]
      rcases q5 p (by omega) with w | ⟨a, f, w1, w2, w3⟩
      · refine ⟨fun a z => absurd (w.2.symm.trans z) (by simp), fun _ => ?_⟩
        rw [cnt_n (fun z => z w.1), nI_succ] at hn
        rw [Int32.add_zero]
        exact hn
      · refine ⟨fun a z => ?_, fun z => absurd (w2.symm.trans z) (by simp)⟩
        rw [cnt_y (by rw [w1]; simp), nI_succ, nI_succ] at hn
        exact hn
  exact key 60 0 (by omega)
theorem cq_tnext (h : tre ax κ g b T) (d : Int32) {s : Nat} (hs : s < 60) (Z : Option Nat → mm_M → Prop) (h1 : ∀ (p a : Nat) (f : sF), s < p → p < 60 → T p = some f → f_in f = d → nd ax g a p f → (∀ q, s < q → q < p → ¬ inD T d q) → Z (some a) (c_em ax κ g)) (h0 : (∀ q, s < q → q < 60 → ¬ inD T d q) → Z none (c_em ax κ g)) : wq_Tree_nextIn ge b d (nI s) (c_em ax κ g) Z := by
  unfold wq_Tree_nextIn wq_Tree_nextIn_0 lp_Tree_nextIn_4
  intro X hX
  have key : ∀ (m p : Nat), p + m = 60 → s < p → (∀ q, s < q → q < p → ¬ inD T d q) → X b d (nI p) (c_em ax κ g) := by
    intro m
    induction m with
    | zero =>
      intro p hp hsp hq
      have e : p = 60 := by omega
      subst e
      refine hX _ _ _ _ ?_
      unfold wq_Tree_nextIn_4
      exact ⟨fun _ => h0 hq, fun q => absurd (nI_le (Nat.le_refl 60) (by decide)) q⟩
    | succ m ih =>
      intro p hp hsp hq
      refine hX _ _ _ _ ?_
      unfold wq_Tree_nextIn_4
      refine ⟨fun q => absurd q (nI_ge (b := 60) (by omega) (by decide)), fun _ => ⟨h.1, cq_tin h d (by omega) _ (fun a f w0 w1 w2 w3 => ?_) (fun w => ?_)⟩⟩
      · exact ⟨fun z => absurd z (by simp), fun _ _ => h1 p a f hsp (by omega) w1 w2 w3 hq⟩
      · refine ⟨fun _ => ?_, fun _ z => absurd z (by simp)⟩
        rw [← nI_succ]
        refine ih (p + 1) (by omega) (by omega) (fun q h1 h2 => ?_)
        by_cases e : q = p
        · subst e; exact w
        · exact hq q h1 (by omega)
  rw [show nI s + (1 : Int32) = nI (s + 1) from (nI_succ s).symm]
  exact key (59 - s) (s + 1) (by omega) (by omega) (fun q h1 h2 => absurd h1 (by omega))
end TR
/-- a row of references comes to the row at a -/
def mm_row (h : mm_M) (a : Nat) (P : Nat → Option Nat) (m : Nat) : mm_M := (h.1, h.2.1, h.2.2.1, h.2.2.2.1, (fun b j => if b = a ∧ j < m then P j else mm_P h b j), mm_z h)
theorem mm_row_0 (h : mm_M) (a : Nat) (P : Nat → Option Nat) : mm_row h a P 0 = h := by
  unfold mm_row
  refine Prod.ext rfl (Prod.ext rfl (Prod.ext rfl (Prod.ext rfl (Prod.ext ?_ rfl))))
  funext b j
  show (if b = a ∧ j < 0 then P j else mm_P h b j) = mm_P h b j
  rw [if_neg (by omega)]
theorem mm_row_s (h : mm_M) (a : Nat) (P : Nat → Option Nat) (m : Nat) : mm_uP (mm_row h a P m) a m (P m) = mm_row h a P (m + 1) := by
  unfold mm_row mm_uP
  refine Prod.ext rfl (Prod.ext rfl (Prod.ext rfl (Prod.ext rfl (Prod.ext ?_ rfl))))
  funext b j
  show (if b = a ∧ j = m then P m else if b = a ∧ j < m then P j else mm_P h b j) = if b = a ∧ j < m + 1 then P j else mm_P h b j
  by_cases e : b = a
  · by_cases e2 : j = m
    · subst e2; rw [if_pos ⟨e, rfl⟩, if_pos ⟨e, by omega⟩]
    · rw [if_neg (fun z => e2 z.2)]
      by_cases e3 : j < m
      · rw [if_pos ⟨e, e3⟩, if_pos ⟨e, by omega⟩]
      · rw [if_neg (fun z => e3 z.2), if_neg (fun z => by omega)]
  · rw [if_neg (fun z => e z.1), if_neg (fun z => e z.1), if_neg (fun z => e z.1)]
def c_row (κ : cS) (o : Nat) (P : Nat → Option Nat) : cS := (κ.1, κ.2.1, fun o' j => if o' = o ∧ j < 60 then P j else κ.2.2 o' j)
theorem mm_row_c (ax o : Nat) (ho : o < 90) (hp : pa o = true) (κ : cS) (g : mm_M) (P : Nat → Option Nat) : mm_row (c_em ax κ g) (ax + o) P 60 = c_em ax (c_row κ o P) g := by
  unfold mm_row c_em c_row
  refine Prod.ext rfl (Prod.ext rfl (Prod.ext rfl (Prod.ext rfl (Prod.ext ?_ rfl))))
  funext b j
  show (if b = ax + o ∧ j < 60 then P j else if c_in ax b ∧ pa (b - ax) = true then κ.2.2 (b - ax) j else mm_P g b j) = if c_in ax b ∧ pa (b - ax) = true then (if b - ax = o ∧ j < 60 then P j else κ.2.2 (b - ax) j) else mm_P g b j
  by_cases e1 : c_in ax b ∧ pa (b - ax) = true
  · rw [if_pos e1, if_pos e1]
    by_cases e2 : b = ax + o ∧ j < 60
    · rw [if_pos e2, if_pos ⟨by omega, e2.2⟩]
    · rw [if_neg e2, if_neg (fun q => e2 ⟨by have := e1.1; omega, q.2⟩)]
  · rw [if_neg e1, if_neg e1, if_neg (fun q => e1 ⟨by omega, by rw [show b - ax = o by omega]; exact hp⟩)]
theorem mm_row_f {ax b : Nat} (hb : fz ax b) (κ : cS) (g : mm_M) (P : Nat → Option Nat) : mm_row (c_em ax κ g) b P 60 = c_em ax κ (mm_row g b P 60) := by
  unfold mm_row c_em
  refine Prod.ext rfl (Prod.ext rfl (Prod.ext rfl (Prod.ext rfl (Prod.ext ?_ rfl))))
  funext c j
  show (if c = b ∧ j < 60 then P j else if c_in ax c ∧ pa (c - ax) = true then κ.2.2 (c - ax) j else mm_P g c j) = if c_in ax c ∧ pa (c - ax) = true then κ.2.2 (c - ax) j else (if c = b ∧ j < 60 then P j else mm_P g c j)
  by_cases e1 : c_in ax c ∧ pa (c - ax) = true
  · rw [if_pos e1, if_pos e1, if_neg (fun q => by have := e1.1; omega)]
  · rw [if_neg e1, if_neg e1]
theorem mq_takeOver {ge : Nat → Nat} {h : mm_M} {b bn c cn_ : Nat} (k1 : mm_k h b = kd_Tree) (k2 : mm_P h b 0 = some bn) (k3 : mm_k h bn = ka_Node) (k4 : mm_n h bn = 60) (hg : ge 0 ≤ bn) (l1 : mm_k h c = kd_Tree) (l2 : mm_P h c 0 = some cn_) (l3 : mm_k h cn_ = ka_Node) (l4 : mm_n h cn_ = 60)
    (hne : ¬ cn_ = bn) (hb1 : ¬ b = bn) (hc1 : ¬ c = bn) (hk : ∀ p a, p < 60 → mm_P h cn_ p = some a → mm_k h a = kd_Node) (Z : mm_M → Prop) (hZ : Z (mm_row h bn (mm_P h cn_) 60)) : wq_Tree_takeOver ge b (some c) h Z := by
  unfold wq_Tree_takeOver wq_Tree_takeOver_0 lp_Tree_takeOver_2
  intro X hX
  have key : ∀ (m p : Nat), p + m = 60 → X b (some c) (nI p) (mm_row h bn (mm_P h cn_) p) := by
    intro m
    induction m with
    | zero =>
      intro p hp
      have e : p = 60 := by omega
      subst e
      refine hX _ _ _ _ ?_
      unfold wq_Tree_takeOver_2
      exact ⟨fun _ => hZ, fun q => absurd (nI_le (Nat.le_refl 60) (by decide)) q⟩
    | succ m ih =>
      intro p hp
      refine hX _ _ _ _ ?_
      have ro : ∀ b' j, ¬ b' = bn → mm_P (mm_row h bn (mm_P h cn_) p) b' j = mm_P h b' j := fun b' j hb' => if_neg (fun z => hb' z.1)
      have rk' : mm_k (mm_row h bn (mm_P h cn_) p) = mm_k h := rfl
      have rn' : mm_n (mm_row h bn (mm_P h cn_) p) = mm_n h := rfl
      unfold wq_Tree_takeOver_2
      refine ⟨fun q => absurd q (nI_ge (b := 60) (by omega) (by decide)), fun _ => ?_⟩
      have hin : vp_in (nI p) 60 := vp_in_nI (by omega) (by decide)
      have hcl : (nI p).toNatClampNeg = p := nI_clamp (by omega)
      simp only [rk', rn', ro _ _ hb1, ro _ _ hc1, ro _ _ hne, k1, k2, k3, k4, l1, l2, l3, l4, hin, hcl, hg, true_and, Option.some.injEq, exists_eq_left', forall_eq]
      refine ⟨fun a ha => hk p a (by omega) ha, ?_⟩
      rw [mm_row_s, ← nI_succ]
      exact ih (p + 1) (by omega)
  have := key 60 0 (by omega)
  rw [mm_row_0] at this
  exact this
