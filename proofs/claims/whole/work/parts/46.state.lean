/-! the class: its state, and how single changes go over it -/
def Csn (ax : Nat) (κ : cS) (g : mm_M) (S : List sT) : Prop := S.length ≤ 6 ∧ κ.1 76 3 = nI S.length ∧ ∀ (i : Nat) (T : sT), S[i]? = some T → ∃ b : Nat, κ.2.2 78 i = some b ∧ snp ax g b T
def rst (κ0 κ : cS) : Prop := κ.1 0 11 = κ0.1 0 11 ∧ κ.1 0 12 = κ0.1 0 12 ∧ ∀ o j, (77 ≤ o ∨ (o = 5 ∧ j = 6)) → κ.1 o j = κ0.1 o j
/-- constants of the class -/
def CK (ge : Nat → Nat) (ax : Nat) (g : mm_M) : Prop := ge 0 ≤ ax ∧ (ge 1 < ge 0 ∧ ge 2 < ge 0 ∧ ge 3 < ge 0 ∧ ge 4 < ge 0) ∧ bA g (ge 1) [47] ∧ bA g (ge 2) [] ∧ bA g (ge 3) KNOWN ∧ bA g (ge 4) UNKN
theorem CK_ext {ge : Nat → Nat} {ax : Nat} {g g' : mm_M} (hM : CM ax g) (e : ext g g') (h : CK ge ax g) : CK ge ax g' := by
  obtain ⟨h0, ⟨h1, h2, h3, h4⟩, b1, b2, b3, b4⟩ := h
  have hz := CM_z hM
  exact ⟨h0, ⟨h1, h2, h3, h4⟩, bA_ext e (by omega) b1, bA_ext e (by omega) b2, bA_ext e (by omega) b3, bA_ext e (by omega) b4⟩
def CC (ax : Nat) (κ0 κ : cS) (g : mm_M) (L A : List Int32) (T : sT) (S J : List sT) (fm : sM) (fc gv : Nat) (tm : Int32) (ms : Nat) : Prop :=
  Ctp κ L ∧ (c_L κ 3 A ∧ A.length ≤ 1000) ∧ nr ax g (κ.2.2 33) T ∧ Cjn ax κ g J ∧ Csn ax κ g S ∧ Cfd κ fm fc ∧ (κ.1 0 8 = nI gv ∧ κ.1 0 9 = tm ∧ κ.1 0 10 = nI ms) ∧ rst κ0 κ
theorem Csn_of {ax : Nat} {κ κ' : cS} {g : mm_M} {S : List sT} (e1 : κ'.1 76 3 = κ.1 76 3) (e2 : ∀ j, κ'.2.2 78 j = κ.2.2 78 j) (h : Csn ax κ g S) : Csn ax κ' g S := by
  refine ⟨h.1, e1.trans h.2.1, fun i T hi => ?_⟩
  obtain ⟨b, h1, h2⟩ := h.2.2 i T hi
  exact ⟨b, (e2 i).trans h1, h2⟩
theorem Csn_ext {ax : Nat} {κ : cS} {g g' : mm_M} {S : List sT} (e : ext g g') (h : Csn ax κ g S) : Csn ax κ g' S := by
  refine ⟨h.1, h.2.1, fun i T hi => ?_⟩
  obtain ⟨b, h1, h2⟩ := h.2.2 i T hi
  exact ⟨b, h1, snp_ext e h2⟩
section CT
variable {ax : Nat} {κ0 κ : cS} {g : mm_M} {L A : List Int32} {T : sT} {S J : List sT} {fm : sM} {fc gv : Nat} {tm : Int32} {ms : Nat}
theorem CC_ext {g' : mm_M} (e : ext g g') (h : CC ax κ0 κ g L A T S J fm fc gv tm ms) : CC ax κ0 κ g' L A T S J fm fc gv tm ms := by
  obtain ⟨h1, h2, h3, h4, h5, h6, h7, h8⟩ := h
  exact ⟨h1, h2, nr_ext e h3, Cjn_ext e h4, Csn_ext e h5, h6, h7, h8⟩
theorem CC_ap {B : List Int32} (h : CC ax κ0 κ g L A T S J fm fc gv tm ms) (hl : A.length + B.length ≤ 1000) : CC ax κ0 (c_ap κ 3 B) g L (A ++ B) T S J fm fc gv tm ms := by
  obtain ⟨h1, h2, h3, h4, h5, h6, ⟨h7, h8, h9⟩, h10, h11, h12⟩ := h
  have e : ∀ o j, ¬ o = 3 → ¬ o = 4 → (c_ap κ 3 B).1 o j = κ.1 o j := fun o j a b => c_ap_o (Or.inl a) b B κ
  have e2 : (c_ap κ 3 B).2 = κ.2 := c_ap_2 3 B κ
  have e22 : (c_ap κ 3 B).2.2 = κ.2.2 := by rw [e2]
  refine ⟨⟨c_L_of (fun j => e _ _ (by decide) (by decide)) (e _ _ (by decide) (by decide)) h1.1, h1.2⟩, ⟨c_L_ap B h2.1 (by omega), by rw [List.length_append]; exact hl⟩, by rw [e22]; exact h3, Cjn_of (e _ _ (by decide) (by decide)) (e _ _ (by decide) (by decide)) (fun i j _ => by rw [e22]) h4, Csn_of (e _ _ (by decide) (by decide)) (fun j => by rw [e22]) h5, Cfd_of (fun o j a b => e _ _ (by omega) (by omega)) h6, ⟨?_, ?_, ?_⟩, ?_, ?_, fun o j ho => (e _ _ (by omega) (by omega)).trans (h12 o j ho)⟩
  all_goals (rw [e _ _ (by decide) (by decide)]; assumption)
/-- only rows of fids change -/
theorem CC_fd {κ' : cS} {fm' : sM} {fc' : Nat} (e : ∀ o j, ¬ (8 ≤ o ∧ o < 32) → κ'.1 o j = κ.1 o j) (e2 : κ'.2 = κ.2) (h : CC ax κ0 κ g L A T S J fm fc gv tm ms) (hf : Cfd κ' fm' fc') : CC ax κ0 κ' g L A T S J fm' fc' gv tm ms := by
  obtain ⟨h1, h2, h3, h4, h5, h6, ⟨h7, h8, h9⟩, h10, h11, h12⟩ := h
  have e22 : κ'.2.2 = κ.2.2 := by rw [e2]
  refine ⟨⟨c_L_of (fun j => e _ _ (by decide)) (e _ _ (by decide)) h1.1, h1.2⟩, ⟨c_L_of (fun j => e _ _ (by decide)) (e _ _ (by decide)) h2.1, h2.2⟩, by rw [e22]; exact h3, Cjn_of (e _ _ (by decide)) (e _ _ (by decide)) (fun i j _ => by rw [e22]) h4, Csn_of (e _ _ (by decide)) (fun j => by rw [e22]) h5, hf, ⟨?_, ?_, ?_⟩, ?_, ?_, fun o j ho => (e _ _ (by omega)).trans (h12 o j ho)⟩
  all_goals (rw [e _ _ (by decide)]; assumption)
/-- only the request changes -/
theorem CC_5 {κ' : cS} {F : List Nat} (h6' : ¬ 6 ∈ F) (f : fr5 κ κ' F) (h : CC ax κ0 κ g L A T S J fm fc gv tm ms) : CC ax κ0 κ' g L A T S J fm fc gv tm ms := by
  obtain ⟨h1, h2, h3, h4, h5, h6, ⟨h7, h8, h9⟩, h10, h11, h12⟩ := h
  have e : ∀ o j, ¬ o = 5 → κ'.1 o j = κ.1 o j := fun o j ho => f.2.1 o j (fun z => ho z.1)
  have e22 : κ'.2.2 = κ.2.2 := f.1
  refine ⟨⟨c_L_of (fun j => e _ _ (by decide)) (e _ _ (by decide)) h1.1, h1.2⟩, ⟨c_L_of (fun j => e _ _ (by decide)) (e _ _ (by decide)) h2.1, h2.2⟩, by rw [e22]; exact h3, Cjn_of (e _ _ (by decide)) (e _ _ (by decide)) (fun i j _ => by rw [e22]) h4, Csn_of (e _ _ (by decide)) (fun j => by rw [e22]) h5, Cfd_of (fun o j a b => e _ _ (by omega)) h6, ⟨?_, ?_, ?_⟩, ?_, ?_, fun o j ho => (f.2.1 o j (fun z => ho.elim (fun y => absurd z.1 (by omega)) (fun y => h6' (by rw [← y.2]; exact z.2)))).trans (h12 o j ho)⟩
  all_goals (rw [e _ _ (by decide)]; assumption)
theorem nr_up {P : Nat → Option Nat} {p a : Nat} {f : sF} (h : nr ax g P T) (hp : p < 60) (hn : nd ax g a p f) : nr ax g (fun q => if q = p then some a else P q) (tset T p (some f)) := by
  refine ⟨fun q hq => ?_, fun q hq => ?_⟩
  · by_cases e : q = p
    · subst e
      exact Or.inr ⟨a, f, tset_y _ _ _, if_pos rfl, hn⟩
    · rw [tset_n _ _ e]
      show (T q = none ∧ (if q = p then some a else P q) = none) ∨ ∃ a' f', T q = some f' ∧ (if q = p then some a else P q) = some a' ∧ nd ax g a' q f'
      rw [if_neg e]
      exact h.1 q hq
  · rw [tset_n _ _ (by omega)]
    exact h.2 q hq
theorem nr_dn {P : Nat → Option Nat} {p : Nat} (h : nr ax g P T) (hp : p < 60) : nr ax g (fun q => if q = p then none else P q) (tset T p none) := by
  refine ⟨fun q hq => ?_, fun q hq => ?_⟩
  · by_cases e : q = p
    · subst e
      exact Or.inl ⟨tset_y _ _ _, if_pos rfl⟩
    · rw [tset_n _ _ e]
      show (T q = none ∧ (if q = p then none else P q) = none) ∨ ∃ a' f', T q = some f' ∧ (if q = p then none else P q) = some a' ∧ nd ax g a' q f'
      rw [if_neg e]
      exact h.1 q hq
  · rw [tset_n _ _ (by omega)]
    exact h.2 q hq
theorem CC_up {p : Nat} {x : Option Nat} {fo : Option sF} (h : CC ax κ0 κ g L A T S J fm fc gv tm ms) (hr : nr ax g (fun q => if q = p then x else κ.2.2 33 q) (tset T p fo)) : CC ax κ0 (c_up κ 33 p x) g L A (tset T p fo) S J fm fc gv tm ms := by
  obtain ⟨h1, h2, h3, h4, h5, h6, h7, h8⟩ := h
  refine ⟨h1, h2, nr_of (fun q _ => ?_) hr, Cjn_of (κ := κ) rfl rfl (fun i j _ => ?_) h4, Csn_of (κ := κ) rfl (fun j => ?_) h5, h6, h7, h8⟩
  · rw [cup3]
    by_cases e : q = p
    · rw [if_pos ⟨rfl, e⟩, if_pos e]
    · rw [if_neg (fun z => e z.2), if_neg e]
  · rw [cup3, if_neg (by omega)]
  · rw [cup3, if_neg (by omega)]
theorem CC_put {p a : Nat} {f : sF} (h : CC ax κ0 κ g L A T S J fm fc gv tm ms) (hp : p < 60) (hn : nd ax g a p f) : CC ax κ0 (c_up κ 33 p (some a)) g L A (tset T p (some f)) S J fm fc gv tm ms := CC_up h (nr_up h.2.2.1 hp hn)
theorem CC_dn {p : Nat} (h : CC ax κ0 κ g L A T S J fm fc gv tm ms) (hp : p < 60) : CC ax κ0 (c_up κ 33 p none) g L A (tset T p none) S J fm fc gv tm ms := CC_up h (nr_dn h.2.2.1 hp)
theorem CC_kp {nx : Nat} {J' : List sT} (h : CC ax κ0 κ g L A T S J fm fc gv tm ms) (hnx : nx < 20) (hj : Cjn ax (c_kp κ nx J.length) g J') : CC ax κ0 (c_kp κ nx J.length) g L A T S J' fm fc gv tm ms := by
  obtain ⟨h1, h2, h3, h4, h5, h6, ⟨h7, h8, h9⟩, h10, h11, h12⟩ := h
  have e : ∀ o j, ¬ o = 34 → (c_kp κ nx J.length).1 o j = κ.1 o j := fun o j ho => c_kp_1 κ nx _ o j ho
  refine ⟨⟨c_L_of (fun j => e _ _ (by decide)) (e _ _ (by decide)) h1.1, h1.2⟩, ⟨c_L_of (fun j => e _ _ (by decide)) (e _ _ (by decide)) h2.1, h2.2⟩, nr_of (fun p _ => c_kp_3 κ nx _ 33 p (by omega)) h3, hj, Csn_of (e _ _ (by decide)) (fun j => c_kp_3 κ nx _ 78 j (by omega)) h5, Cfd_of (fun o j a b => e _ _ (by omega)) h6, ⟨?_, ?_, ?_⟩, ?_, ?_, fun o j ho => (e _ _ (by omega)).trans (h12 o j ho)⟩
  all_goals (rw [e _ _ (by decide)]; assumption)
theorem CC_jc (h : CC ax κ0 κ g L A T S J fm fc gv tm ms) : CC ax κ0 (c_u κ 34 2 0) g L A T S [] fm fc gv tm ms := by
  obtain ⟨h1, h2, h3, h4, h5, h6, ⟨h7, h8, h9⟩, h10, h11, h12⟩ := h
  have e : ∀ o j, ¬ o = 34 → (c_u κ 34 2 0).1 o j = κ.1 o j := fun o j ho => by rw [cu1, if_neg (fun z => ho z.1)]
  refine ⟨⟨c_L_of (fun j => e _ _ (by decide)) (e _ _ (by decide)) h1.1, h1.2⟩, ⟨c_L_of (fun j => e _ _ (by decide)) (e _ _ (by decide)) h2.1, h2.2⟩, h3, Cjn_0 h4, Csn_of (e _ _ (by decide)) (fun j => rfl) h5, Cfd_of (fun o j a b => e _ _ (by omega)) h6, ⟨?_, ?_, ?_⟩, ?_, ?_, fun o j ho => (e _ _ (by omega)).trans (h12 o j ho)⟩
  all_goals (rw [e _ _ (by decide)]; assumption)
theorem CC_gv (h : CC ax κ0 κ g L A T S J fm fc gv tm ms) (n : Nat) : CC ax κ0 (c_u κ 0 8 (nI n)) g L A T S J fm fc n tm ms := by
  obtain ⟨h1, h2, h3, h4, h5, h6, ⟨h7, h8, h9⟩, h10, h11, h12⟩ := h
  have e : ∀ o j, (¬ o = 0 ∨ ¬ j = 8) → (c_u κ 0 8 (nI n)).1 o j = κ.1 o j := fun o j ho => by rw [cu1, if_neg (fun z => ho.elim (fun q => q z.1) (fun q => q z.2))]
  refine ⟨⟨c_L_of (fun j => e _ _ (by simp)) (e _ _ (by simp)) h1.1, h1.2⟩, ⟨c_L_of (fun j => e _ _ (by simp)) (e _ _ (by simp)) h2.1, h2.2⟩, h3, Cjn_of (e _ _ (by simp)) (e _ _ (by simp)) (fun i j _ => rfl) h4, Csn_of (e _ _ (by simp)) (fun j => rfl) h5, Cfd_of (fun o j a b => e _ _ (Or.inl (by omega))) h6, ⟨?_, ?_, ?_⟩, ?_, ?_, fun o j ho => (e _ _ (Or.inl (by omega))).trans (h12 o j ho)⟩
  · rw [cu1, if_pos ⟨rfl, rfl⟩]
  all_goals (rw [e _ _ (by simp)]; assumption)
theorem CC_ms (h : CC ax κ0 κ g L A T S J fm fc gv tm ms) (n : Nat) : CC ax κ0 (c_u κ 0 10 (nI n)) g L A T S J fm fc gv tm n := by
  obtain ⟨h1, h2, h3, h4, h5, h6, ⟨h7, h8, h9⟩, h10, h11, h12⟩ := h
  have e : ∀ o j, (¬ o = 0 ∨ ¬ j = 10) → (c_u κ 0 10 (nI n)).1 o j = κ.1 o j := fun o j ho => by rw [cu1, if_neg (fun z => ho.elim (fun q => q z.1) (fun q => q z.2))]
  refine ⟨⟨c_L_of (fun j => e _ _ (by simp)) (e _ _ (by simp)) h1.1, h1.2⟩, ⟨c_L_of (fun j => e _ _ (by simp)) (e _ _ (by simp)) h2.1, h2.2⟩, h3, Cjn_of (e _ _ (by simp)) (e _ _ (by simp)) (fun i j _ => rfl) h4, Csn_of (e _ _ (by simp)) (fun j => rfl) h5, Cfd_of (fun o j a b => e _ _ (Or.inl (by omega))) h6, ⟨?_, ?_, ?_⟩, ?_, ?_, fun o j ho => (e _ _ (Or.inl (by omega))).trans (h12 o j ho)⟩
  · rw [e _ _ (by simp)]; assumption
  · rw [e _ _ (by simp)]; assumption
  · rw [cu1, if_pos ⟨rfl, rfl⟩]
  all_goals (rw [e _ _ (by simp)]; assumption)
end CT
section SV
variable {ge : Nat → Nat} {ax : Nat} {g : mm_M} {κ : cS}
theorem cq_named (hM : CM ax g) {L X : List Int32} (hT : Ctp κ L) (hX : Ctx κ L X) {b : Nat} {Tr : sT} (ht : tre ax κ g b Tr) (d : Int32) (Z : Option Nat → mm_M → Prop)
    (h1 : ∀ (p a : Nat) (f : sF), chl Tr d X = some p → Tr p = some f → nd ax g a p f → Z (some a) (c_em ax κ g)) (h0 : chl Tr d X = none → Z none (c_em ax κ g)) : wq_Tree_named ge b d (some (ax + 5)) (c_em ax κ g) Z := by
  obtain ⟨l1, l2⟩ := Ctx_len hX
  have hl := hT.2.2
  unfold wq_Tree_named wq_Tree_named_0 lp_Tree_named_2
  intro Y hY
  have key : ∀ (m p : Nat), p + m = 60 → (∀ q, q < p → ¬ isCh Tr d X q) → Y b d (some (ax + 5)) (nI p) (c_em ax κ g) := by
    intro m
    induction m with
    | zero =>
      intro p hp hq
      have e : p = 60 := by omega
      subst e
      refine hY _ _ _ _ _ ?_
      unfold wq_Tree_named_2
      exact ⟨fun _ => h0 (fsti_n 59 1 (fun q _ b => hq q (by omega))), fun q => absurd (nI_le (Nat.le_refl 60) (by decide)) q⟩
    | succ m ih =>
      intro p hp hq
      refine hY _ _ _ _ _ ?_
      unfold wq_Tree_named_2 wq_Tree_named_49
      have nx : ¬ isCh Tr d X p → Y b d (some (ax + 5)) (nI p + 1) (c_em ax κ g) := fun hno => by
        rw [← nI_succ]
        refine ih (p + 1) (by omega) (fun q hq2 => ?_)
        by_cases e : q = p
        · subst e; exact hno
        · exact hq q (by omega)
      refine ⟨fun q => absurd q (nI_ge (b := 60) (by omega) (by decide)), fun _ => ⟨ht.1, cq_tin ht d (by omega) _ (fun a f w0 w1 w2 w3 => ?_) (fun w => ?_)⟩⟩
      · refine ⟨fun z => absurd z (by simp), fun _ _ => ?_⟩
        obtain ⟨hok, haz, an, ad, hz1, hz2, n1, n2, n3, n4, n5, n6, n7, n8, n9, n10⟩ := w3
        have w3 : nd ax g a p f := ⟨hok, haz, an, ad, hz1, hz2, n1, n2, n3, n4, n5, n6, n7, n8, n9, n10⟩
        have ch : isCh Tr d X p ↔ f_nm f = X := ⟨fun z => by
          obtain ⟨_, f', y1, _, y2⟩ := z
          rw [w1] at y1
          cases y1
          exact y2, fun z => ⟨w0, f, w1, w2, z⟩⟩
        have l20 := hok.2.1
        simp only [n1, n4, n9.1, n9.2.1, (CM_q hM).1, ck, cn, cPf haz.1, cI ax 5 (by decide), l1, toI, true_and, Option.some.injEq, exists_eq_left', nI_eq (show (f_nm f).length < 2 ^ 31 by omega) (show X.length < 2 ^ 31 by omega)]
        refine ⟨fun z => nx (fun y => z (by rw [ch.mp y])), fun z => ?_⟩
        refine cq_tbeg hM hT hX hz1.1 n9 hok.2.2.2.1 (by omega) _ (fun y => ⟨fun v => absurd v (by decide), fun _ => ?_⟩) (fun y => ⟨fun _ => nx (fun v => y ((pfx_eq z).mpr (ch.mp v))), fun v => absurd rfl v⟩)
        refine h1 p a f (fsti_y (ch.mpr ((pfx_eq z).mp y)) 59 1 (by omega) (by omega) (fun q a1 a2 => hq q a2)) w1 w3
      · refine ⟨fun _ => nx (fun z => w ⟨z.1, ?_⟩), fun _ z => absurd z (by simp)⟩
        obtain ⟨_, f, y1, y2, _⟩ := z
        exact ⟨f, y1, y2⟩
  exact key 60 0 (by omega) (fun q hq => absurd hq (by omega))
theorem cq_tput (hM : CM ax g) (hg : ge 0 ≤ ax) {a p : Nat} {f : sF} (hp : p < 60) (hn : nd ax g a p f) (Z : mm_M → Prop) (hZ : Z (c_em ax (c_up κ 33 p (some a)) g)) : wq_Tree_put ge (ax + 32) (some a) (c_em ax κ g) Z := by
  obtain ⟨t1, t2, t3, t4⟩ := CM_t hM
  obtain ⟨hok, haz, an, ad, hz1, hz2, n1, n2, n3, n4, n5, n6, n7, n8, n9, n10⟩ := hn
  have hin : vp_in (nI p) 60 := vp_in_nI hp (by decide)
  have hcl : (nI p).toNatClampNeg = p := nI_clamp (by omega)
  unfold wq_Tree_put wq_Tree_put_0 wq_Tree_put_26
  simp only [n1, n2, t1, t2, t3, t4, ck, cn, cIf haz.1, cP ax 32 rfl, hin, hcl, geo hg, cUP ax 33 (by decide) rfl, true_and, Option.some.injEq, exists_eq_left', forall_eq, forall_eq']
  exact ⟨fun q => absurd q (nI_pos (by omega)), fun _ => ⟨fun q => absurd q (nI_ge (b := 60) hp (by decide)), fun _ => hZ⟩⟩
theorem cq_tdrop (hM : CM ax g) (hg : ge 0 ≤ ax) {p : Nat} (hp : p < 60) (Z : mm_M → Prop) (hZ : Z (c_em ax (c_up κ 33 p none) g)) : wq_Tree_drop ge (ax + 32) (nI p) (c_em ax κ g) Z := by
  obtain ⟨t1, t2, t3, t4⟩ := CM_t hM
  have hin : vp_in (nI p) 60 := vp_in_nI hp (by decide)
  have hcl : (nI p).toNatClampNeg = p := nI_clamp (by omega)
  unfold wq_Tree_drop wq_Tree_drop_0 wq_Tree_drop_17
  simp only [t1, t2, t3, t4, ck, cn, cP ax 32 rfl, hin, hcl, geo hg, cUP ax 33 (by decide) rfl, true_and, Option.some.injEq, exists_eq_left', forall_eq]
  exact ⟨fun q => absurd q (nI_pos (by omega)), fun _ => ⟨fun q => absurd q (nI_ge (b := 60) hp (by decide)), fun _ => ⟨fun b z => absurd z (by simp), hZ⟩⟩⟩
theorem cq_stree (hM : CM ax g) {S : List sT} (hS : Csn ax κ g S) (x : Int32) (Z : Option Nat → mm_M → Prop)
    (h1 : ∀ (k b : Nat) (T' : sT), x = nI k → S[k]? = some T' → snp ax g b T' → Z (some b) (c_em ax κ g)) (h0 : (∀ k : Nat, k < S.length → ¬ x = nI k) → Z none (c_em ax κ g)) : wq_Snapshots_tree ge (ax + 76) x (c_em ax κ g) Z := by
  obtain ⟨m1, m2, m3, m4, m5, m6, m7, m8, m9, m10⟩ := CM_s hM
  obtain ⟨s1, s2, s3⟩ := hS
  unfold wq_Snapshots_tree wq_Snapshots_tree_0 wq_Snapshots_tree_12 wq_Snapshots_tree_22
  simp only [m1, m3, m7, m8, ck, cn, cP ax 76 rfl, cI ax 76 (by decide), cQ ax 78 (by decide) rfl, s2, true_and, Option.some.injEq, exists_eq_left']
  refine ⟨fun q => h0 (fun k hk e => ?_), fun q => ⟨fun q2 => ?_, fun q2 => h0 (fun k hk e => ?_)⟩⟩
  · rw [e] at q; exact absurd q (nI_pos (by omega))
  · obtain ⟨k, hk, rfl⟩ := nI_of q
    rw [nI_ltI hk (by omega)] at q2
    obtain ⟨b, y1, y2⟩ := s3 k _ (List.getElem?_eq_getElem q2)
    rw [nI_clamp hk, y1]
    exact ⟨vp_in_nI (by omega) (by decide), h1 k b _ rfl (List.getElem?_eq_getElem q2) y2⟩
  · rw [e] at q2; exact absurd (nI_lt hk (by omega)) q2
theorem cq_treeOf (hM : CM ax g) {T : sT} {S : List sT} (hT : nr ax g (κ.2.2 33) T) (hS : Csn ax κ g S) (x : Int32) (Z : Option Nat → mm_M → Prop)
    (hl : x = -1 → Z (some (ax + 32)) (c_em ax κ g)) (h1 : ∀ (k b : Nat) (T' : sT), ¬ x = -1 → x = nI k → S[k]? = some T' → snp ax g b T' → Z (some b) (c_em ax κ g)) (h0 : ¬ x = -1 → (∀ k : Nat, k < S.length → ¬ x = nI k) → Z none (c_em ax κ g)) : wq_Server_treeOf ge ax x (c_em ax κ g) Z := by
  obtain ⟨m0, m1⟩ := CM_0 hM
  unfold wq_Server_treeOf wq_Server_treeOf_0 wq_Server_treeOf_20
  simp only [m0, m1, (CM_s hM).1, ck, cP0, true_and, Option.some.injEq, exists_eq_left']
  exact ⟨fun q => cq_stree hM hS x _ (fun k b T' => h1 k b T' q) (h0 q), fun q => hl q⟩
theorem neg1_nI {k : Nat} (hk : k < 2 ^ 31) : ¬ (-1 : Int32) = nI k := fun e => by
  have := nI_pos hk
  rw [← e] at this
  exact this (by decide)
theorem nI_m1 (t : Nat) : nI (t + 1) - 1 = nI t := nI_pred t
theorem nI_m1_ne {t : Nat} (ht : 0 < t) (ht2 : t < 2 ^ 31) : ¬ nI t - 1 = -1 := fun e => by
  obtain ⟨k, rfl⟩ : ∃ k, t = k + 1 := ⟨t - 1, by omega⟩
  rw [nI_m1] at e
  exact neg1_nI (by omega) e.symm
/-- the tree of a fid's row, and its node -/
theorem cq_nodeOf (hM : CM ax g) {T : sT} {S : List sT} (hT : nr ax g (κ.2.2 33) T) (hS : Csn ax κ g S) {i : Nat} (hi : i < 24) {d : sD} (hr : crow κ i d) (hp : d_p d < 60) (ht : d_t d ≤ S.length) (Z : Option Nat → mm_M → Prop)
    (h1 : ∀ (a : Nat) (f : sF) (Tr : sT), trOf T S (d_t d) = some Tr → Tr (d_p d) = some f → nd ax g a (d_p d) f → Z (some a) (c_em ax κ g)) (h0 : (∀ Tr, trOf T S (d_t d) = some Tr → Tr (d_p d) = none) → Z none (c_em ax κ g)) : wq_Server_nodeOf ge ax (some (ax + (8 + i))) (c_em ax κ g) Z := by
  have mf := ((CM_f hM).2 i hi).2
  obtain ⟨m0, m1⟩ := CM_0 hM
  have hS6 := hS.1
  unfold wq_Server_nodeOf wq_Server_nodeOf_0 wq_Server_nodeOf_25
  simp only [mf, m0, ck, cI ax (8 + i) (by omega), hr.1, true_and, Option.some.injEq, exists_eq_left']
  have fin : ∀ (b : Nat) (Tr : sT), tre ax κ g b Tr → trOf T S (d_t d) = some Tr → (∀ a7, some b = some a7 → ∃ a11, some b = some a11 ∧ mm_k (c_em ax κ g) a11 = kd_Tree ∧ wq_Tree_at ge a11 (nI (d_p d)) (c_em ax κ g) (fun r15 h14 => Z r15 h14)) ∧ (some b = none → Z none (c_em ax κ g)) := by
    intro b Tr htr hto
    refine ⟨fun _ _ => ⟨b, rfl, htr.1, cq_tat htr _ _ (fun p a f hp2 e hf hn => ?_) (fun hn => h0 (fun Tr' hT' => ?_))⟩, fun z => absurd z (by simp)⟩
    · have := (nI_eq (by omega) (by omega)).mp e
      subst this
      exact h1 a f Tr hto hf hn
    · rw [hto] at hT'
      cases hT'
      exact hn _ hp rfl
  refine cq_treeOf hM hT hS _ _ (fun e => ?_) (fun k b T' ne e hk hs => ?_) (fun ne hn => ?_)
  · have ht0 : d_t d = 0 := by
      by_cases z : d_t d = 0
      · exact z
      · exact absurd e (nI_m1_ne (by omega) (by omega))
    simp only [mf, ck, cI ax (8 + i) (by omega), hr.2.1, true_and]
    exact fin _ T (tre_live hM hT) (by unfold trOf; rw [if_pos ht0])
  · have hkl : k < S.length := (List.getElem?_eq_some_iff.mp hk).1
    have ht1 : d_t d = k + 1 := by
      by_cases z : d_t d = 0
      · rw [z] at ne; exact absurd (by decide) ne
      · obtain ⟨j, ej⟩ : ∃ j, d_t d = j + 1 := ⟨d_t d - 1, by omega⟩
        rw [ej, nI_m1] at e
        have := (nI_eq (by omega) (by omega)).mp e
        omega
    simp only [mf, ck, cI ax (8 + i) (by omega), hr.2.1, true_and]
    exact fin b T' (tre_s hs κ) (by unfold trOf; rw [if_neg (by omega), ht1]; exact hk)
  · exfalso
    by_cases z : d_t d = 0
    · rw [z] at ne; exact ne (by decide)
    · obtain ⟨j, ej⟩ : ∃ j, d_t d = j + 1 := ⟨d_t d - 1, by omega⟩
      exact hn j (by omega) (by rw [ej, nI_m1])
end SV
