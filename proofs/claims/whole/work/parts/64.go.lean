/-! the class's Archiver: going over a tree -/
def upL (last : Nat → qW) (p : Nat) (q : qW) : Nat → qW := fun x => if x = p then q else last x
noncomputable def nblk (Tr : sT) (last : Nat → qW) (p : Nat) (f : sF) : List Int32 := if 0 ≤ f_md f then fblk (f_dt f) (nck (f_dt f)) else dblk Tr (nI p) last 60
noncomputable def nst (k : Bool) (Tr : sT) (s : sB_ × (Nat → qW)) (p : Nat) : sB_ × (Nat → qW) := match Tr p with
  | none => s
  | some f => (ofr k (if 0 ≤ f_md f then ofrC k (f_dt f) (nck (f_dt f)) s.1 else s.1) (nblk Tr s.2 p f), upL s.2 p (sha (nblk Tr s.2 p f)))
noncomputable def goV (k : Bool) (Tr : sT) (s : sB_ × (Nat → qW)) : sB_ × (Nat → qW) := (ordr Tr).foldl (nst k Tr) s
def frG (κ κ' : cS) : Prop := κ'.2 = κ.2 ∧ ∀ o j, o < 80 → κ'.1 o j = κ.1 o j
section GO
variable {ge : Nat → Nat} {ax : Nat} {g : mm_M}
/-- the score of a path is kept -/
theorem cq_gwords (hM : CM ax g) (hg : ge 0 ≤ ax) {κ : cS} {b : Option Nat} {many i : Int32} {p : Nat} (hp : p < 60) {last : Nat → qW} (hl : Cls κ last) (X : Nat → Option Nat → Int32 → Int32 → mm_M → Prop) (Z : mm_M → Prop)
    (hZ : ∀ κ', κ'.2 = κ.2 → (∀ o j, ¬ o = 88 → κ'.1 o j = κ.1 o j) → Cls κ' (upL last p (wds κ)) → X (ax + 80) b many (i + 1) (c_em ax κ' g)) : lp_Archiver_goOver_105 X ge (ax + 80) b many i (nI p) 0 (c_em ax κ g) Z := by
  obtain ⟨⟨a1, a2, a3, a4, a5, a6⟩, _, ⟨s1, s2, _, s4, s5, _, _⟩, ⟨l1, l2, _, _⟩⟩ := CM_a hM
  unfold lp_Archiver_goOver_105
  intro Y hY
  have key : ∀ (m w : Nat) (κ' : cS), w + m = 5 → κ'.2 = κ.2 → (∀ o j, ¬ (o = 88 ∧ 5 * p ≤ j ∧ j < 5 * p + w) → κ'.1 o j = κ.1 o j) → (∀ k, k < w → κ'.1 88 (5 * p + k) = κ.1 84 k) → Y (ax + 80) b many i (nI p) (nI w) (c_em ax κ' g) := by
    intro m
    induction m with
    | zero =>
      intro w κ' hw e2 e1 hk
      have ew : w = 5 := by omega
      subst ew
      refine hY _ _ _ _ _ _ _ ?_
      unfold wq_Archiver_goOver_105 wq_Archiver_goOver_139
      refine ⟨fun _ => ?_, fun q => absurd (nI_le (a := 5) (Nat.le_refl _) (by decide)) q⟩
      refine hZ κ' e2 (fun o j ho => e1 o j (fun z => ho z.1)) (fun p' i' hp' hi' => ?_)
      unfold upL
      by_cases e : p' = p
      · subst e
        rw [if_pos rfl, hk i' hi', wds_qi κ hi']
      · rw [if_neg e, e1 _ _ (by omega)]
        exact hl p' i' hp' hi'
    | succ m ih =>
      intro w κ' hw e2 e1 hk
      refine hY _ _ _ _ _ _ _ ?_
      unfold wq_Archiver_goOver_105
      refine ⟨fun q => absurd q (nI_ge (b := 5) (by omega) (by decide)), fun _ => ?_⟩
      have em : nI p * 5 + nI w = nI (5 * p + w) := by rw [show (5 : Int32) = nI 5 from rfl, pk_mul, nI_add, show p * 5 = 5 * p by omega]
      have hin1 : vp_in (nI (5 * p + w)) 300 := vp_in_nI (by omega) (by decide)
      have hcl1 : (nI (5 * p + w)).toNatClampNeg = 5 * p + w := nI_clamp (by omega)
      have hin2 : vp_in (nI w) 5 := vp_in_nI (by omega) (by decide)
      have hcl2 : (nI w).toNatClampNeg = w := nI_clamp (by omega)
      have p84 : κ'.1 84 w = κ.1 84 w := e1 _ _ (by omega)
      simp only [a1, a3, a5, s1, s2, s4, s5, l1, l2, ck, cn, cP ax 80 rfl, cP ax 83 rfl, cI ax 84 (by decide), cU ax 88 (by decide), p84, em, hin1, hcl1, hin2, hcl2, geo hg, true_and, Option.some.injEq, exists_eq_left', forall_eq]
      rw [← nI_succ]
      refine ih (w + 1) _ (by omega) e2 (fun o j ho => ?_) (fun k hk' => ?_)
      · rw [cu1, if_neg (by omega)]
        exact e1 o j (by omega)
      · rw [cu1]
        by_cases e : k = w
        · subst e; rw [if_pos ⟨rfl, rfl⟩]
        · rw [if_neg (by omega)]
          exact hk k (by omega)
  exact key 5 0 κ (by omega) rfl (fun _ _ _ => rfl) (fun k h => absurd h (by omega))
/-- the block is offered -/
theorem cq_gblock (hM : CM ax g) (hg : ge 0 ≤ ax) {κ : cS} {b : Option Nat} {many i : Int32} {p : Nat} (hp : p < 60) {last : Nat → qW} (hl : Cls κ last) {B : List Int32} (hB : c_L κ 86 B) (hBl : B.length ≤ 5520) (hBB : allB B) {k : Bool} {σ : sB_} (hA : Car κ k σ) (hk01 : κ.1 80 5 = 0 ∨ κ.1 80 5 = 1) (X : Nat → Option Nat → Int32 → Int32 → mm_M → Prop) (Z : mm_M → Prop)
    (hZ : ∀ κ', κ'.2 = κ.2 → (∀ o j, (o < 80 ∨ o = 89) → κ'.1 o j = κ.1 o j) → κ'.1 80 5 = κ.1 80 5 → Cls κ' (upL last p (sha B)) → Car κ' k (ofr k σ B) → X (ax + 80) b many (i + 1) (c_em ax κ' g)) : wq_Archiver_goOver_83 X ge (ax + 80) b many i (nI p) (c_em ax κ g) Z := by
  obtain ⟨⟨a1, a2, a3, a4, a5, a6⟩, _, _, _⟩ := CM_a hM
  have hb86 := CM_b86 hM
  unfold wq_Archiver_goOver_83
  simp only [a1, a4, hb86.1, ck, cP ax 80 rfl, true_and, Option.some.injEq, exists_eq_left']
  refine cq_size hb86 (by decide) κ _ ?_
  rw [hB.1, cP ax 86 rfl, hb86.2.1]
  refine ⟨a1, ?_⟩
  have := cq_offer (ge := ge) hM hg (srcB_block hM hB hBl) hBB hA hk01 (fun h8 => lp_Archiver_goOver_105 X ge (ax + 80) b many i (nI p) 0 h8 Z) (fun κ1 f1 w1 A1 g5 => ?_)
  · exact this
  · refine cq_gwords hM hg hp (last := last) (fun p' i' x y => (f1.2 _ _ (by decide)).trans (hl p' i' x y)) X Z (fun κ2 e2 e1 c2 => ?_)
    rw [w1] at c2
    exact hZ κ2 (e2.trans f1.1) (fun o j ho => (e1 o j (by omega)).trans (f1.2 o j (by omega))) ((e1 _ _ (by decide)).trans g5) c2 (Car_of (fun o j ho => e1 o j (by omega)) A1)
theorem nblk_ok {Tr : sT} (hok : ∀ p f, Tr p = some f → okF f) {last : Nat → qW} {p : Nat} {f : sF} (hf : okF f) : (nblk Tr last p f).length ≤ 5520 ∧ allB (nblk Tr last p f) := by
  unfold nblk
  by_cases c : 0 ≤ f_md f
  · rw [if_pos c]
    refine ⟨?_, fblk_B _ _⟩
    rw [fblk_len]
    have := hf.2.2.1
    unfold nck
    omega
  · rw [if_neg c]
    exact dblk_len hok 60
set_option maxHeartbeats 2000000 in
theorem cq_goOver (hM : CM ax g) (hg : ge 0 ≤ ax) {κ : cS} {b : Nat} {Tr : sT} {gv : Nat} (hw : wfT Tr gv) (ht : ∀ κ', κ'.2 = κ.2 → tre ax κ' g b Tr) {k : Bool} {s : sB_ × (Nat → qW)} (hA : Car κ k s.1) (hl : Cls κ s.2) (hk01 : κ.1 80 5 = 0 ∨ κ.1 80 5 = 1) (Z : mm_M → Prop)
    (hZ : ∀ κ', frG κ κ' → κ'.1 80 5 = κ.1 80 5 → Car κ' k (goV k Tr s).1 → Cls κ' (goV k Tr s).2 → Z (c_em ax κ' g)) : wq_Archiver_goOver ge (ax + 80) (some b) (c_em ax κ g) Z := by
  obtain ⟨⟨a1, a2, a3, a4, a5, a6⟩, _, _, ⟨_, _, l3, l4⟩⟩ := CM_a hM
  have hb86 := CM_b86 hM
  have hok : ∀ p f, Tr p = some f → okF f := fun p f h => (hw.2.2 p f h).2.1
  unfold wq_Archiver_goOver wq_Archiver_goOver_0
  refine ⟨a1, b, rfl, (ht κ rfl).1, ?_⟩
  rw [cP ax 80 rfl, a6]
  refine cq_list hM hg hw ht _ (fun κ1 f1 R1 => ?_)
  have hlen : (ordr Tr).length ≤ 60 := rsq_len hw 4000 0 0 (by decide)
  unfold lp_Archiver_goOver_11
  intro X hX
  have key : ∀ (m i : Nat) (s' : sB_ × (Nat → qW)) (κ' : cS), i + m = (ordr Tr).length → ((ordr Tr).drop i).foldl (nst k Tr) s' = goV k Tr s → κ'.2 = κ.2 → (∀ o j, o < 80 → κ'.1 o j = κ.1 o j) → orow κ' (ordr Tr) → κ'.1 80 5 = κ.1 80 5 → Car κ' k s'.1 → Cls κ' s'.2 → X (ax + 80) (some b) (nI (ordr Tr).length) (nI i) (c_em ax κ' g) := by
    intro m
    induction m with
    | zero =>
      intro i s' κ' hi hs e2 e1 R' h5 A' c'
      refine hX _ _ _ _ _ ?_
      unfold wq_Archiver_goOver_11 wq_Archiver_goOver_145
      have : (ordr Tr).drop i = [] := List.drop_eq_nil_of_le (by omega)
      rw [this] at hs
      have hs' : s' = goV k Tr s := hs
      rw [hs'] at A' c'
      exact ⟨fun _ => hZ κ' ⟨e2, e1⟩ h5 A' c', fun q => absurd (nI_le (by omega) (by omega)) q⟩
    | succ m ih =>
      intro i s' κ' hi hs e2 e1 R' h5 A' c'
      have hil : i < (ordr Tr).length := by omega
      refine hX _ _ _ _ _ ?_
      unfold wq_Archiver_goOver_11 wq_Archiver_goOver_145
      refine ⟨fun q => absurd q (nI_ge hil (by omega)), fun _ => ?_⟩
      have hin : vp_in (nI i) 60 := vp_in_nI (by omega) (by decide)
      have hcl : (nI i).toNatClampNeg = i := nI_clamp (by omega)
      have gi := List.getElem?_eq_getElem hil
      have r1 := R' i _ gi
      have hp60 : (ordr Tr)[i] < 60 := (rsq_mem hw 4000 0 0 _ (by decide) (List.getElem_mem hil)).1
      rw [List.drop_eq_getElem_cons hil] at hs
      generalize (ordr Tr)[i] = p at gi r1 hs hp60
      simp only [List.foldl_cons] at hs
      simp only [a1, a6, l3, l4, ck, cn, toI, cP ax 80 rfl, cI ax 89 (by decide), hin, hcl, r1, true_and, Option.some.injEq, exists_eq_left']
      refine ⟨fun q => absurd q (nI_ge (b := 60) (by omega) (by decide)), fun _ => ⟨(ht κ rfl).1, ?_⟩⟩
      refine cq_tat (ht κ' e2) _ _ (fun p' a f hp' ep hf hn => ⟨fun a11 _ => ?_, fun y => absurd y (by simp)⟩) (fun hno => ⟨fun a11 y => absurd y (by simp), fun _ => ?_⟩)
      · have hpp : p = p' := (nI_eq (by omega) (by omega)).mp ep
        subst hpp
        obtain ⟨an, ad, fa, f1', f2', hN⟩ := nd_H hn
        refine ⟨a1, ax + 86, by rw [cP ax 80 rfl]; exact a4, hb86.1, ?_⟩
        refine cq_clear hb86 hg (by decide) κ' _ ?_
        have c0 : c_L (c_u κ' 86 1 0) 86 [] := ⟨by rw [cu1, if_pos ⟨rfl, rfl⟩]; rfl, fun j x hj => by simp at hj⟩
        have A0 : Car (c_u κ' 86 1 0) k s'.1 := Car_of (fun o j ho => by rw [cu1, if_neg (by omega)]) A'
        have cl0 : Cls (c_u κ' 86 1 0) s'.2 := fun x y hx hy => by rw [cu1, if_neg (by omega)]; exact c' x y hx hy
        have h50 : (c_u κ' 86 1 0).1 80 5 = κ.1 80 5 := by rw [cu1, if_neg (by simp)]; exact h5
        obtain ⟨nb1, nb2⟩ := nblk_ok hok (last := s'.2) (p := p) (hok p f hf)
        have hst : nst k Tr s' p = (ofr k (if 0 ≤ f_md f then ofrC k (f_dt f) (nck (f_dt f)) s'.1 else s'.1) (nblk Tr s'.2 p f), upL s'.2 p (sha (nblk Tr s'.2 p f))) := by unfold nst; rw [hf]
        refine ⟨a, rfl, (hN κ').1, nq_isDir (hN _) _ ?_⟩
        by_cases hd : 0 ≤ f_md f
        · rw [if_pos hd] at hst ⊢
          have hnb : nblk Tr s'.2 p f = fblk (f_dt f) (nck (f_dt f)) := by unfold nblk; rw [if_pos hd]
          rw [hnb] at hst nb1 nb2
          refine ⟨fun _ => ⟨a, rfl, (hN κ').1, a1, ?_⟩, fun y => absurd rfl y⟩
          have hN0 := hN (c_u κ' 86 1 0)
          rw [hN0.2.2.2.2.2.2.2.1]
          obtain ⟨n1, _, an', ad', _, n5, n6⟩ := hn
          have had : ad' = ad := by
            have u1 := hN0.2.2.2.2.2.2.2.1
            rw [cPf fa, n6.2.2.2.2.2.2.2.1] at u1
            exact Option.some.inj u1
          subst had
          refine cq_fillD hM hg f2' n6.2.2.2.2.2.2.2.2.2 n1.2.2.2.2.1 n1.2.2.1 A0 (by rw [h50]; exact hk01) c0 _ (fun κ2 F2 g5 A2 C2 => ?_)
          refine cq_gblock hM hg hp' (last := s'.2) (fun x y hx hy => (F2.2 _ _ (by decide)).trans (cl0 x y hx hy)) C2 nb1 nb2 A2 (by rw [g5, h50]; exact hk01) X Z (fun κ3 k2 k1 k5 kc kA => ?_)
          rw [← nI_succ]
          refine ih (i + 1) (nst k Tr s' p) κ3 (by omega) hs (k2.trans (F2.1.trans e2)) (fun o j ho => ?_) (fun x y hy => ?_) (k5.trans (g5.trans h50)) (by rw [hst]; exact kA) (by rw [hst]; exact kc)
          · rw [k1 o j (Or.inl ho), F2.2 o j (Or.inl ho), cu1, if_neg (by omega)]; exact e1 o j ho
          · rw [k1 _ _ (Or.inr rfl), F2.2 _ _ (by decide), cu1, if_neg (by omega)]; exact R' x y hy
        · rw [if_neg hd] at hst ⊢
          have hnb : nblk Tr s'.2 p f = dblk Tr (nI p) s'.2 60 := by unfold nblk; rw [if_neg hd]
          rw [hnb] at hst nb1 nb2
          have FT := fun Z' => cq_fillT (ge := ge) hM hg (κ := c_u κ' 86 1 0) (fun κ'' q => ht κ'' (q.trans e2)) hok (nI p) cl0 c0 Z'
          clear hnb
          generalize dblk Tr (nI p) s'.2 60 = B at hst nb1 nb2 FT
          refine ⟨fun y => absurd y (by decide), fun _ => ⟨a1, ?_⟩⟩
          refine FT _ ?_
          have C2 := c_L_ap B c0 (by simp only [List.length_nil]; omega)
          rw [List.nil_append] at C2
          have F : ∀ o j, ¬ o = 86 → ¬ o = 87 → (c_ap (c_u κ' 86 1 0) 86 B).1 o j = κ'.1 o j := fun o j x y => by rw [c_ap_o (Or.inl x) y, cu1, if_neg (fun z => x z.1)]
          refine cq_gblock hM hg hp' (last := s'.2) (fun x y hx hy => (F _ _ (by decide) (by decide)).trans (c' x y hx hy)) C2 nb1 nb2 (Car_of (fun o j ho => F o j (by omega) (by omega)) A') (by rw [F _ _ (by decide) (by decide), h5]; exact hk01) X Z (fun κ3 k2 k1 k5 kc kA => ?_)
          rw [← nI_succ]
          refine ih (i + 1) (nst k Tr s' p) κ3 (by omega) hs (k2.trans ((c_ap_2 86 _ _).trans e2)) (fun o j ho => ?_) (fun x y hy => ?_) (k5.trans ((F _ _ (by decide) (by decide)).trans h5)) (by rw [hst]; exact kA) (by rw [hst]; exact kc)
          · rw [k1 o j (Or.inl ho), F o j (by omega) (by omega)]; exact e1 o j ho
          · rw [k1 _ _ (Or.inr rfl), F _ _ (by decide) (by decide)]; exact R' x y hy
      · unfold wq_Archiver_goOver_139
        rw [← nI_succ]
        have hst : nst k Tr s' p = s' := by
          unfold nst
          cases hT : Tr p with
          | none => rfl
          | some f =>
            have := hw.2.2 p f hT
            have hg60 := hw.1
            rw [hno p (by omega) rfl] at hT
            cases hT
        rw [hst] at hs
        exact ih (i + 1) s' κ' (by omega) hs e2 e1 R' h5 A' c'
  exact key (ordr Tr).length 0 s κ1 (by omega) rfl f1.1 (fun o j ho => f1.2 o j (by omega)) R1 (f1.2 _ _ (by decide)) (Car_of (fun o j ho => f1.2 o j (by omega)) hA) (fun x y hx hy => (f1.2 _ _ (by decide)).trans (hl x y hx hy))
end GO
