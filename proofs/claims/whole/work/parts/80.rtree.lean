/-! THE REFERENCE against the state: its rows as files, its trees -/
def rl (F : Nat → Int32) (a : Nat) (L : List Int32) : Prop := ∀ k, k < L.length → F (a + k) = tp L k
def RF (σ : rS) (x : Nat) (f : sF) : Prop :=
  σ.2.2 O_in x = f_in f ∧ σ.2.2 O_mode x = f_md f ∧ σ.2.2 O_version x = f_vs f ∧ σ.2.2 O_mtime x = f_mt f ∧
  (σ.2.2 O_nameSize x = nI (f_nm f).length ∧ rl (σ.2.2 O_name) (20 * x) (f_nm f)) ∧ (σ.2.2 O_size x = nI (f_dt f).length ∧ rl (σ.2.2 O_data) (512 * x) (f_dt f))
def RR1 (σ : rS) (x : Nat) (fo : Option sF) : Prop := (fo = none ∧ σ.2.2 O_is x = 0) ∨ ∃ f, fo = some f ∧ σ.2.2 O_is x = 1 ∧ okF f ∧ RF σ x f
def RT (σ : rS) (t : Nat) (T : sT) : Prop := (∀ p, p < 60 → RR1 σ (60 * t + p) (T p)) ∧ ∀ p, 60 ≤ p → T p = none
/-- of the arrays only the rows a .. b - 1 may have changed -/
def frr (a b : Nat) (σ σ' : rS) : Prop := ∀ o j, (o ≤ 7 → j < a ∨ b ≤ j) → (o = 8 → j < 20 * a ∨ 20 * b ≤ j) → (o = 9 → j < 512 * a ∨ 512 * b ≤ j) → σ'.2.2 o j = σ.2.2 o j
theorem frr_rf (a b : Nat) (σ : rS) : frr a b σ σ := fun _ _ _ _ _ => rfl
theorem frr_tr {a b c d e f : Nat} {σ σ1 σ2 : rS} (h1 : frr a b σ σ1) (h2 : frr c d σ1 σ2) (k1 : e ≤ a) (k2 : b ≤ f) (k3 : e ≤ c) (k4 : d ≤ f) : frr e f σ σ2 := fun o j x7 x8 x9 =>
  (h2 o j (fun z => by have := x7 z; omega) (fun z => by have := x8 z; omega) (fun z => by have := x9 z; omega)).trans (h1 o j (fun z => by have := x7 z; omega) (fun z => by have := x8 z; omega) (fun z => by have := x9 z; omega))
theorem RF_fr {a b x : Nat} {σ σ' : rS} {f : sF} (h : frr a b σ σ') (hx : x < a ∨ b ≤ x) (hk : okF f) (hf : RF σ x f) : RF σ' x f := by
  obtain ⟨h1, h2, h3, h4, ⟨h5, h6⟩, h7, h8⟩ := hf
  obtain ⟨_, k2, k3, _⟩ := hk
  have e : ∀ o, o ≤ 7 → σ'.2.2 o x = σ.2.2 o x := fun o ho => h o x (fun _ => hx) (fun z => absurd z (by omega)) (fun z => absurd z (by omega))
  refine ⟨(e _ (by decide)).trans h1, (e _ (by decide)).trans h2, (e _ (by decide)).trans h3, (e _ (by decide)).trans h4, ⟨(e _ (by decide)).trans h5, fun k hk => ?_⟩, (e _ (by decide)).trans h7, fun k hk => ?_⟩
  · exact (h O_name (20 * x + k) (fun z => absurd z (by decide)) (fun _ => by omega) (fun z => absurd z (by decide))).trans (h6 k hk)
  · exact (h O_data (512 * x + k) (fun z => absurd z (by decide)) (fun z => absurd z (by decide)) (fun _ => by omega)).trans (h8 k hk)
theorem RR1_fr {a b x : Nat} {σ σ' : rS} {fo : Option sF} (h : frr a b σ σ') (hx : x < a ∨ b ≤ x) (hf : RR1 σ x fo) : RR1 σ' x fo := by
  have e : σ'.2.2 O_is x = σ.2.2 O_is x := h _ x (fun _ => hx) (fun z => absurd z (by decide)) (fun z => absurd z (by decide))
  rcases hf with ⟨h1, h2⟩ | ⟨f, h1, h2, h3, h4⟩
  · exact Or.inl ⟨h1, e.trans h2⟩
  · exact Or.inr ⟨f, h1, e.trans h2, h3, RF_fr h hx h3 h4⟩
theorem RT_fr {a b t : Nat} {σ σ' : rS} {T : sT} (h : frr a b σ σ') (hx : 60 * t + 60 ≤ a ∨ b ≤ 60 * t) (hT : RT σ t T) : RT σ' t T := ⟨fun p hp => RR1_fr h (by omega) (hT.1 p hp), hT.2⟩
theorem RT_of {t : Nat} {σ σ' : rS} {T : sT} (h : ∀ o j, o ≤ 9 → σ'.2.2 o j = σ.2.2 o j) (hT : RT σ t T) : RT σ' t T := by
  refine ⟨fun p hp => ?_, hT.2⟩
  rcases hT.1 p hp with ⟨h1, h2⟩ | ⟨f, h1, h2, h3, h4, h5, h6, h7, ⟨h8, h9⟩, h10, h11⟩
  · exact Or.inl ⟨h1, (h _ _ (by decide)).trans h2⟩
  · exact Or.inr ⟨f, h1, (h _ _ (by decide)).trans h2, h3, (h _ _ (by decide)).trans h4, (h _ _ (by decide)).trans h5, (h _ _ (by decide)).trans h6, (h _ _ (by decide)).trans h7, ⟨(h _ _ (by decide)).trans h8, fun k hk => (h _ _ (by decide)).trans (h9 k hk)⟩, (h _ _ (by decide)).trans h10, fun k hk => (h _ _ (by decide)).trans (h11 k hk)⟩
theorem RT_set {t p : Nat} {σ σ' : rS} {T : sT} {fo : Option sF} (h : frr (60 * t + p) (60 * t + p + 1) σ σ') (hp : p < 60) (h1 : RR1 σ' (60 * t + p) fo) (hT : RT σ t T) : RT σ' t (tset T p fo) := by
  refine ⟨fun q hq => ?_, fun q hq => ?_⟩
  · by_cases e : q = p
    · subst e; rw [tset_y]; exact h1
    · rw [tset_n _ _ e]
      exact RR1_fr h (by omega) (hT.1 q hq)
  · rw [tset_n _ _ (by omega)]
    exact hT.2 q hq
theorem RT_okT {σ : rS} {t : Nat} {T : sT} (h : RT σ t T) : r_okT σ t := by
  intro p hp hi
  rcases h.1 p hp with ⟨_, h2⟩ | ⟨f, _, _, k, h4, h5, h6, h7, ⟨h8, h9⟩, h10, h11⟩
  · exact absurd h2 hi
  · exact ⟨⟨_, k.2.1, h8⟩, _, k.2.2.1, h10⟩
theorem RT_some {σ : rS} {t p : Nat} {T : sT} (h : RT σ t T) (hp : p < 60) (hi : ¬ σ.2.2 O_is (60 * t + p) = 0) : ∃ f, T p = some f ∧ okF f ∧ RF σ (60 * t + p) f := by
  rcases h.1 p hp with ⟨_, h2⟩ | ⟨f, h1, _, h3, h4⟩
  · exact absurd h2 hi
  · exact ⟨f, h1, h3, h4⟩
theorem RT_none {σ : rS} {t p : Nat} {T : sT} (h : RT σ t T) (hp : p < 60) (hi : σ.2.2 O_is (60 * t + p) = 0) : T p = none := by
  rcases h.1 p hp with ⟨h1, _⟩ | ⟨f, _, h2, _⟩
  · exact h1
  · rw [hi] at h2; exact absurd h2 (by decide)
theorem RT_get {σ : rS} {t p : Nat} {T : sT} {f : sF} (h : RT σ t T) (hf : T p = some f) : p < 60 ∧ σ.2.2 O_is (60 * t + p) = 1 ∧ okF f ∧ RF σ (60 * t + p) f := by
  have hp : p < 60 := Nat.lt_of_not_le (fun z => by rw [h.2 p z] at hf; cases hf)
  rcases h.1 p hp with ⟨h1, _⟩ | ⟨f', h1, h2, h3, h4⟩
  · rw [h1] at hf; cases hf
  · rw [h1] at hf; cases hf; exact ⟨hp, h2, h3, h4⟩
theorem RT_get0 {σ : rS} {t p : Nat} {T : sT} (h : RT σ t T) (hp : p < 60) (hf : T p = none) : σ.2.2 O_is (60 * t + p) = 0 := by
  rcases h.1 p hp with ⟨_, h1⟩ | ⟨f', h1, _⟩
  · exact h1
  · rw [h1] at hf; cases hf
/-! copy -/
theorem r_ln_at (o w a b : Nat) (hne : ∀ i k, i < w → k < w → ¬ w * a + i = w * b + k) : ∀ (m k : Nat) (σ : rS), k + m ≤ w → ∀ j, (r_ln o w a b k m σ).2.2 o j = if w * b + k ≤ j ∧ j < w * b + k + m then σ.2.2 o (w * a + (j - w * b)) else σ.2.2 o j
  | 0, k, σ, _, j => by rw [if_neg (by omega)]; rfl
  | m + 1, k, σ, hk, j => by
    show (r_ln o w a b (k + 1) m (r_mv σ o (w * a + k) (w * b + k))).2.2 o j = _
    rw [r_ln_at o w a b hne m (k + 1) _ (by omega) j]
    have e1 : ∀ j', (r_mv σ o (w * a + k) (w * b + k)).2.2 o j' = if j' = w * b + k then σ.2.2 o (w * a + k) else σ.2.2 o j' := by
      intro j'
      unfold r_mv
      rw [raa]
      by_cases e : j' = w * b + k
      · rw [if_pos ⟨rfl, e⟩, if_pos e]
      · rw [if_neg (fun z => e z.2), if_neg e]
    rw [e1, e1]
    by_cases c1 : w * b + (k + 1) ≤ j ∧ j < w * b + (k + 1) + m
    · rw [if_pos c1, if_neg (hne (j - w * b) k (by omega) (by omega)), if_pos (by omega)]
    · rw [if_neg c1]
      by_cases c2 : j = w * b + k
      · rw [if_pos c2, if_pos (by omega), c2, show w * b + k - w * b = k by omega]
      · rw [if_neg c2, if_neg (by omega)]
theorem r_ln_2 (o w a b : Nat) : ∀ (m k : Nat) (σ : rS), (r_ln o w a b k m σ).2.1 = σ.2.1
  | 0, _, _ => rfl
  | m + 1, k, σ => by
    show (r_ln o w a b (k + 1) m _).2.1 = _
    rw [r_ln_2 o w a b m (k + 1)]
    rfl
theorem r_c0_2 (σ : rS) (a b : Nat) : (r_c0 σ a b).2.1 = σ.2.1 := by
  unfold r_c0
  split
  · rfl
  · rw [r_ln_2, r_ln_2]
    rfl
theorem r_c7_at {σ : rS} {a b o : Nat} (hab : ¬ a = b) (h1 : 2 ≤ o) (h7 : o ≤ 7) : (r_c7 σ a b).2.2 o b = σ.2.2 o a := by
  unfold r_c7 r_mv
  rcases (by omega : o = 2 ∨ o = 3 ∨ o = 4 ∨ o = 5 ∨ o = 6 ∨ o = 7) with rfl | rfl | rfl | rfl | rfl | rfl <;> simp [raa, hab, O_is, O_in, O_mode, O_version, O_mtime, O_size, O_nameSize]
theorem r_c7_is {σ : rS} {a b : Nat} : (r_c7 σ a b).2.2 O_is b = vp_nar .boolean (σ.2.2 O_is a) := by
  unfold r_c7 r_mv
  simp [raa, O_is, O_in, O_mode, O_version, O_mtime, O_size, O_nameSize]
theorem r_c7_hi {σ : rS} {a b o j : Nat} (h : 8 ≤ o) : (r_c7 σ a b).2.2 o j = σ.2.2 o j := by
  have q : ∀ n, n ≤ 7 → ¬ (o = n ∧ j = b) := fun n hn z => by omega
  unfold r_c7
  rw [r_mv_o (q _ (by decide)), r_mv_o (q _ (by decide)), r_mv_o (q _ (by decide)), r_mv_o (q _ (by decide)), r_mv_o (q _ (by decide)), r_mv_o (q _ (by decide)), raa, if_neg (q _ (by decide))]
theorem r_c0_ok {σ : rS} {a b : Nat} {fo : Option sF} (hab : ¬ a = b) (h : RR1 σ a fo) : RR1 (r_c0 σ a b) b fo ∧ frr b (b + 1) σ (r_c0 σ a b) := by
  rcases h with ⟨h1, h2⟩ | ⟨f, h1, h2, hk, h4, h5, h6, h7, ⟨h8, h9⟩, h10, h11⟩
  · have e : r_c0 σ a b = r_a σ O_is b (vp_nar .boolean (σ.2.2 O_is a)) := by unfold r_c0; rw [if_pos h2]
    rw [e, h2]
    refine ⟨Or.inl ⟨h1, by rw [raa, if_pos ⟨rfl, rfl⟩]; decide⟩, fun o j x7 x8 x9 => ?_⟩
    rw [raa, if_neg]
    rintro ⟨z1, z2⟩
    have := x7 (by rw [z1]; decide)
    omega
  · have hn := hk.2.1
    have hd := hk.2.2.1
    have e : r_c0 σ a b = r_ln O_data 512 a b 0 (f_dt f).length (r_ln O_name 20 a b 0 (f_nm f).length (r_c7 σ a b)) := by
      unfold r_c0
      rw [if_neg (by rw [h2]; decide), h8, h10, nI_clamp (by omega), nI_clamp (by omega)]
    rw [e]
    have n20 : ∀ i k, i < 20 → k < 20 → ¬ 20 * a + i = 20 * b + k := fun i k _ _ => by omega
    have n512 : ∀ i k, i < 512 → k < 512 → ¬ 512 * a + i = 512 * b + k := fun i k _ _ => by omega
    have lo : ∀ o j, ¬ o = O_name → ¬ o = O_data → (r_ln O_data 512 a b 0 (f_dt f).length (r_ln O_name 20 a b 0 (f_nm f).length (r_c7 σ a b))).2.2 o j = (r_c7 σ a b).2.2 o j := fun o j x y => by rw [r_ln_o _ _ _ _ y, r_ln_o _ _ _ _ x]
    have nm : ∀ j, (r_ln O_data 512 a b 0 (f_dt f).length (r_ln O_name 20 a b 0 (f_nm f).length (r_c7 σ a b))).2.2 O_name j = if 20 * b ≤ j ∧ j < 20 * b + (f_nm f).length then σ.2.2 O_name (20 * a + (j - 20 * b)) else σ.2.2 O_name j := fun j => by
      rw [r_ln_o _ _ _ _ (by decide), r_ln_at _ _ _ _ n20 _ _ _ (by omega), r_c7_hi (by decide), r_c7_hi (by decide)]
      rfl
    have dt : ∀ j, (r_ln O_data 512 a b 0 (f_dt f).length (r_ln O_name 20 a b 0 (f_nm f).length (r_c7 σ a b))).2.2 O_data j = if 512 * b ≤ j ∧ j < 512 * b + (f_dt f).length then σ.2.2 O_data (512 * a + (j - 512 * b)) else σ.2.2 O_data j := fun j => by
      rw [r_ln_at _ _ _ _ n512 _ _ _ (by omega), r_ln_o _ _ _ _ (by decide), r_ln_o _ _ _ _ (by decide), r_c7_hi (by decide), r_c7_hi (by decide)]
      rfl
    refine ⟨Or.inr ⟨f, h1, ?_, hk, ?_, ?_, ?_, ?_, ⟨?_, fun k hk => ?_⟩, ?_, fun k hk => ?_⟩, fun o j x7 x8 x9 => ?_⟩
    · rw [lo _ _ (by decide) (by decide), r_c7_is, h2]; decide
    · rw [lo _ _ (by decide) (by decide), r_c7_at hab (by decide) (by decide)]; exact h4
    · rw [lo _ _ (by decide) (by decide), r_c7_at hab (by decide) (by decide)]; exact h5
    · rw [lo _ _ (by decide) (by decide), r_c7_at hab (by decide) (by decide)]; exact h6
    · rw [lo _ _ (by decide) (by decide), r_c7_at hab (by decide) (by decide)]; exact h7
    · rw [lo _ _ (by decide) (by decide), r_c7_at hab (by decide) (by decide)]; exact h8
    · rw [nm, if_pos (by omega), show 20 * b + k - 20 * b = k by omega]; exact h9 k hk
    · rw [lo _ _ (by decide) (by decide), r_c7_at hab (by decide) (by decide)]; exact h10
    · rw [dt, if_pos (by omega), show 512 * b + k - 512 * b = k by omega]; exact h11 k hk
    · by_cases c8 : o = O_name
      · subst c8
        rw [nm, if_neg (by have := x8 rfl; omega)]
      · by_cases c9 : o = O_data
        · subst c9
          rw [dt, if_neg (by have := x9 rfl; omega)]
        · rw [lo _ _ c8 c9]
          by_cases c7 : o ≤ 7
          · rw [r_c7_o (by have := x7 c7; omega)]
          · rw [r_c7_hi (by omega)]
theorem r_cp_ok {f g : Nat} (hfg : f ≠ g) {T : sT} : ∀ (m p : Nat) (σ : rS), p + m = 60 → RT σ f T → (∀ q, p ≤ q → q < 60 → RR1 (r_cp f g p m σ) (60 * g + q) (T q)) ∧ frr (60 * g + p) (60 * g + 60) σ (r_cp f g p m σ)
  | 0, p, σ, hp, _ => ⟨fun q h1 h2 => absurd h1 (by omega), frr_rf _ _ _⟩
  | m + 1, p, σ, hp, hT => by
    have hab : ¬ 60 * f + p = 60 * g + p := by omega
    obtain ⟨k1, k2⟩ := r_c0_ok hab (hT.1 p (by omega))
    have hT1 : RT (r_c0 σ (60 * f + p) (60 * g + p)) f T := RT_fr k2 (by omega) hT
    obtain ⟨i1, i2⟩ := r_cp_ok hfg m (p + 1) _ (by omega) hT1
    show (∀ q, p ≤ q → q < 60 → RR1 (r_cp f g (p + 1) m (r_c0 σ (60 * f + p) (60 * g + p))) (60 * g + q) (T q)) ∧ frr (60 * g + p) (60 * g + 60) σ (r_cp f g (p + 1) m (r_c0 σ (60 * f + p) (60 * g + p)))
    refine ⟨fun q h1 h2 => ?_, frr_tr k2 i2 (by omega) (by omega) (by omega) (by omega)⟩
    by_cases e : q = p
    · subst e; exact RR1_fr i2 (by omega) k1
    · exact i1 q (by omega) h2
theorem r_cp_T {f g : Nat} (hfg : f ≠ g) {T : sT} {σ : rS} (hT : RT σ f T) : RT (r_cp f g 0 60 σ) g T ∧ frr (60 * g) (60 * g + 60) σ (r_cp f g 0 60 σ) := by
  obtain ⟨h1, h2⟩ := r_cp_ok hfg 60 0 σ rfl hT
  exact ⟨⟨fun p hp => h1 p (by omega) hp, hT.2⟩, h2⟩
theorem r_cp_2 (f g : Nat) : ∀ (m p : Nat) (σ : rS), (r_cp f g p m σ).2.1 = σ.2.1
  | 0, _, _ => rfl
  | m + 1, p, σ => by
    show (r_cp f g (p + 1) m _).2.1 = _
    rw [r_cp_2 f g m (p + 1), r_c0_2]
/-- what copy leaves -/
def cpd (g : Nat) (T : sT) (σ σ' : rS) : Prop := σ'.1 = σ.1 ∧ σ'.2.1 = σ.2.1 ∧ RT σ' g T ∧ frr (60 * g) (60 * g + 60) σ σ'
theorem rt_copy {ge : Nat → Nat} {am : Nat} {h : mm_M} (hM : RM am h) (hg : ge 0 ≤ am) (σ : rS) {f g : Nat} {T : sT} (hf : f < 28) (hg2 : g < 28) (hfg : f ≠ g) (hT : RT σ f T) (Z : mm_M → Prop)
    (hZ : ∀ σ', cpd g T σ σ' → Z (r_em am σ' h)) : wq_Model_copy ge am (nI f) (nI g) (r_em am σ h) Z :=
  rq_copy hM hg σ hf hg2 hfg (RT_okT hT) Z (hZ _ ⟨r_cp_1 _ _ _ _ _, r_cp_2 _ _ _ _ _, (r_cp_T hfg hT).1, (r_cp_T hfg hT).2⟩)
theorem tp_ext {A B : List Int32} (hl : A.length = B.length) (h : ∀ k, k < A.length → tp A k = tp B k) : A = B := by
  refine List.ext_getElem? (fun j => ?_)
  by_cases c : j < A.length
  · rw [tp_get c, tp_get (by omega), h j c]
  · rw [List.getElem?_eq_none (by omega), List.getElem?_eq_none (by omega)]
