/-! the order in which a tree is put away -/
noncomputable def nextk (Tr : sT) (q b : Nat) : Option Nat := fsti (inD Tr (nI q)) (b + 1) (59 - b)
def isDirAt (Tr : sT) (p : Nat) : Prop := ∃ f, Tr p = some f ∧ ¬ 0 ≤ f_md f
/-- the files in q behind b, each with all that is in it, then q -/
noncomputable def rsq (Tr : sT) : Nat → Nat → Nat → List Nat
  | 0, q, _ => [q]
  | n + 1, q, b => match nextk Tr q b with
    | none => [q]
    | some p => cif (isDirAt Tr p) (rsq Tr n p 0) [p] ++ rsq Tr n q p
def mu (q b : Nat) : Nat := 61 * (60 - q) + (60 - b)
theorem nextk_some {Tr : sT} {q b p : Nat} (h : nextk Tr q b = some p) : inD Tr (nI q) p ∧ b < p ∧ p < 60 := by
  obtain ⟨h1, h2, h3⟩ := fsti_some h
  exact ⟨h1, by omega, by omega⟩
def par (Tr : sT) (x : Nat) : Nat := match Tr x with
  | none => 0
  | some f => (f_in f).toNatClampNeg
def itp (Tr : sT) : Nat → Nat → Nat
  | 0, x => x
  | k + 1, x => itp Tr k (par Tr x)
theorem par_le {Tr : sT} {gv : Nat} (hw : wfT Tr gv) (x : Nat) : par Tr x ≤ x ∧ (¬ x = 0 → par Tr x < x) := by
  unfold par
  cases hT : Tr x with
  | none => exact ⟨Nat.zero_le _, fun h => Nat.pos_of_ne_zero h⟩
  | some f =>
    simp only
    have hg := hw.1
    by_cases e : x = 0
    · subst e
      obtain ⟨f0, q1, q2, _⟩ := hw.2.1
      rw [hT] at q1
      cases q1
      rw [q2]
      exact ⟨Nat.le_refl _, fun h => absurd rfl h⟩
    · obtain ⟨y1, _, y3⟩ := hw.2.2 x f hT
      obtain ⟨q, f', z1, z2, _⟩ := y3 e
      rw [z2, nI_clamp (by omega)]
      exact ⟨by omega, fun _ => z1⟩
theorem itp_le {Tr : sT} {gv : Nat} (hw : wfT Tr gv) : ∀ (k x : Nat), itp Tr k x ≤ x
  | 0, x => Nat.le_refl _
  | k + 1, x => Nat.le_trans (itp_le hw k (par Tr x)) (par_le hw x).1
theorem itp_add (Tr : sT) : ∀ (a b x : Nat), itp Tr (a + b) x = itp Tr b (itp Tr a x)
  | 0, b, x => by rw [Nat.zero_add]; rfl
  | a + 1, b, x => by rw [show a + 1 + b = (a + b) + 1 by omega]; exact itp_add Tr a b (par Tr x)
theorem inD_par {Tr : sT} {q p : Nat} (hq : q < 60) (h : inD Tr (nI q) p) : par Tr p = q := by
  obtain ⟨_, f, h1, h2⟩ := h
  unfold par
  rw [h1]
  simp only
  rw [h2, nI_clamp (by omega)]
theorem inD_lt {Tr : sT} {gv : Nat} (hw : wfT Tr gv) {q p : Nat} (hq : q < 60) (h : inD Tr (nI q) p) : q < p := by
  have := (par_le hw p).2 h.1
  rw [inD_par hq h] at this
  exact this
/-- two files in one directory above one file are one -/
theorem itp_one {Tr : sT} {gv : Nat} (hw : wfT Tr gv) {q p p' : Nat} (hq : q < 60) (h : inD Tr (nI q) p) (h' : inD Tr (nI q) p') {k k' x : Nat} (e : itp Tr k x = p) (e' : itp Tr k' x = p') : p = p' := by
  have main : ∀ {p p' : Nat}, inD Tr (nI q) p → inD Tr (nI q) p' → ∀ {k k' : Nat}, k ≤ k' → itp Tr k x = p → itp Tr k' x = p' → p = p' := by
    intro p p' h h' k k' hk e e'
    obtain ⟨j, rfl⟩ : ∃ j, k' = k + j := ⟨k' - k, by omega⟩
    rw [itp_add, e] at e'
    cases j with
    | zero => exact e'
    | succ j =>
      have e2 : itp Tr j (par Tr p) = p' := e'
      rw [inD_par hq h] at e2
      have := itp_le hw j q
      have := inD_lt hw hq h'
      omega
  rcases Nat.le_total k k' with z | z
  · exact main h h' z e e'
  · exact (main h' h z e' e).symm
theorem rsq_mem {Tr : sT} {gv : Nat} (hw : wfT Tr gv) : ∀ (n q b x : Nat), q < 60 → x ∈ rsq Tr n q b → x < 60 ∧ (x = q ∨ ∃ p k, b < p ∧ inD Tr (nI q) p ∧ itp Tr k x = p)
  | 0, q, b, x, hq, hx => by
    have : x = q := List.mem_singleton.mp hx
    exact ⟨by omega, Or.inl this⟩
  | n + 1, q, b, x, hq, hx => by
    unfold rsq at hx
    cases hk : nextk Tr q b with
    | none =>
      rw [hk] at hx
      have : x = q := List.mem_singleton.mp hx
      exact ⟨by omega, Or.inl this⟩
    | some p =>
      rw [hk] at hx
      simp only at hx
      obtain ⟨k1, k2, k3⟩ := nextk_some hk
      rcases List.mem_append.mp hx with z | z
      · by_cases hd : isDirAt Tr p
        · rw [cif_y hd] at z
          obtain ⟨y1, y2⟩ := rsq_mem hw n p 0 x k3 z
          refine ⟨y1, Or.inr ?_⟩
          rcases y2 with y2 | ⟨p', k, _, y4, y5⟩
          · exact ⟨p, 0, k2, k1, y2⟩
          · refine ⟨p, k + 1, k2, k1, ?_⟩
            rw [itp_add, y5]
            show par Tr p' = p
            exact inD_par k3 y4
        · rw [cif_n hd] at z
          have : x = p := List.mem_singleton.mp z
          exact ⟨by omega, Or.inr ⟨p, 0, k2, k1, this⟩⟩
      · obtain ⟨y1, y2⟩ := rsq_mem hw n q p x hq z
        refine ⟨y1, ?_⟩
        rcases y2 with y2 | ⟨p', k, y3, y4, y5⟩
        · exact Or.inl y2
        · exact Or.inr ⟨p', k, by omega, y4, y5⟩
theorem rsq_nodup {Tr : sT} {gv : Nat} (hw : wfT Tr gv) : ∀ (n q b : Nat), q < 60 → (rsq Tr n q b).Nodup
  | 0, q, b, hq => by show [q].Nodup; simp
  | n + 1, q, b, hq => by
    unfold rsq
    cases hk : nextk Tr q b with
    | none => simp
    | some p =>
      simp only
      obtain ⟨k1, k2, k3⟩ := nextk_some hk
      have hA : (cif (isDirAt Tr p) (rsq Tr n p 0) [p]).Nodup := by
        by_cases hd : isDirAt Tr p
        · rw [cif_y hd]; exact rsq_nodup hw n p 0 k3
        · rw [cif_n hd]; simp
      refine List.nodup_append.mpr ⟨hA, rsq_nodup hw n q p hq, fun x hx y hy exy => ?_⟩
      subst exy
      have up : ∃ k, itp Tr k x = p := by
        by_cases hd : isDirAt Tr p
        · rw [cif_y hd] at hx
          rcases (rsq_mem hw n p 0 x k3 hx).2 with z | ⟨p', k, _, y4, y5⟩
          · exact ⟨0, z⟩
          · refine ⟨k + 1, ?_⟩
            rw [itp_add, y5]
            exact inD_par k3 y4
        · rw [cif_n hd] at hx
          exact ⟨0, List.mem_singleton.mp hx⟩
      obtain ⟨k, ek⟩ := up
      have hqp := inD_lt hw hq k1
      rcases (rsq_mem hw n q p x hq hy).2 with z | ⟨p', k', y3, y4, y5⟩
      · have := itp_le hw k x
        omega
      · have := itp_one hw hq k1 y4 ek y5
        omega
theorem nodup_len : ∀ (l : List Nat) (n : Nat), l.Nodup → (∀ x ∈ l, x < n) → l.length = cnt (fun x => x ∈ l) n
  | [], n, _, _ => ((cnt_0 n).mpr (fun k _ h => absurd h List.not_mem_nil)).symm
  | a :: l, n, hn, hl => by
    obtain ⟨h1, h2⟩ := List.nodup_cons.mp hn
    have ih := nodup_len l n h2 (fun x hx => hl x (List.mem_cons_of_mem _ hx))
    have := cnt_ins (P := fun x => x ∈ l) (Q := fun x => x ∈ a :: l) (i := a) List.mem_cons_self h1 (fun k hk => ⟨fun z => (List.mem_cons.mp z).resolve_left hk, fun z => List.mem_cons_of_mem _ z⟩) n (hl a List.mem_cons_self)
    rw [this, ← ih]
    rfl
theorem rsq_len {Tr : sT} {gv : Nat} (hw : wfT Tr gv) (n q b : Nat) (hq : q < 60) : (rsq Tr n q b).length ≤ 60 := by
  rw [nodup_len _ 60 (rsq_nodup hw n q b hq) (fun x hx => (rsq_mem hw n q b x hq hx).1)]
  exact cnt_le _ 60
/-- only the order's row changes -/
def fr89 (κ κ' : cS) : Prop := κ'.2 = κ.2 ∧ ∀ o j, ¬ o = 89 → κ'.1 o j = κ.1 o j
theorem rsq_pos (Tr : sT) : ∀ (m q p : Nat), 1 ≤ (rsq Tr m q p).length := by
  intro m
  induction m with
  | zero => intro q p; exact Nat.le_refl _
  | succ m ihm =>
    intro q p
    unfold rsq
    cases nextk Tr q p with
    | none => simp
    | some p' =>
      simp only [List.length_append]
      have := ihm q p'
      omega
def orow (κ : cS) (l : List Nat) : Prop := ∀ (i x : Nat), l[i]? = some x → κ.1 89 i = nI x
section LI
variable {ge : Nat → Nat} {ax : Nat} {g : mm_M}
theorem cq_liLoop (hM : CM ax g) (hg : ge 0 ≤ ax) {κ : cS} {b : Nat} {Tr : sT} {gv : Nat} (hw : wfT Tr gv) (ht : ∀ κ', κ'.2 = κ.2 → tre ax κ' g b Tr) (Z : Int32 → mm_M → Prop)
    (X : Nat → Option Nat → Int32 → Int32 → Option Nat → Int32 → mm_M → Prop) (hX : ∀ (v0 : Nat) (v1 : Option Nat) (v2 : Int32) (v3 : Int32) (v4 : Option Nat) (v5 : Int32) (h : mm_M), wq_Tree_listInnermostFirst_14 X ge v0 v1 v2 v3 v4 v5 h Z → X v0 v1 v2 v3 v4 v5 h) :
    ∀ (n q b0 : Nat) (R : List Nat) (t a : Nat) (f : sF) (κ1 : cS), mu q b0 ≤ n → q < 60 → b0 < 60 → Tr q = some f → ¬ 0 ≤ f_md f → nd ax g a q f → κ1.2 = κ.2 → (∀ o j, ¬ o = 89 → κ1.1 o j = κ.1 o j) → orow κ1 R → R.length + (rsq Tr n q b0).length ≤ 60 → t + 2 * (rsq Tr n q b0).length ≤ 121 →
      (∀ (κ2 : cS) (t' : Nat) (o : Option Nat), κ2.2 = κ.2 → (∀ o j, ¬ o = 89 → κ2.1 o j = κ.1 o j) → orow κ2 (R ++ rsq Tr n q b0) → t' + 1 ≤ t + 2 * (rsq Tr n q b0).length → ((q = 0 ∧ o = none) ∨ (¬ q = 0 ∧ ∃ a' f', o = some a' ∧ Tr (par Tr q) = some f' ∧ ¬ 0 ≤ f_md f' ∧ nd ax g a' (par Tr q) f')) → X b (some (ax + 89)) (nI (R ++ rsq Tr n q b0).length) (nI q) o (nI t') (c_em ax κ2 g)) →
      X b (some (ax + 89)) (nI R.length) (nI b0) (some a) (nI t) (c_em ax κ1 g) := by
  obtain ⟨_, _, _, ⟨_, _, l3, l4⟩⟩ := CM_a hM
  intro n
  induction n with
  | zero => intro q b0 R t a f κ1 hmu hq; unfold mu at hmu; omega
  | succ n ih =>
    intro q b0 R t a f κ1 hmu hq hb0 hTq hdq hn e2 e1 hR hlen hst K
    have hT1 := ht κ1 e2
    obtain ⟨an, ad, fa, f1, f2, hN⟩ := nd_H hn
    have hrl := rsq_len hw n
    refine hX _ _ _ _ _ _ _ ?_
    unfold wq_Tree_listInnermostFirst_14
    have hpos : 1 ≤ (rsq Tr (n + 1) q b0).length := rsq_pos Tr (n + 1) q b0
    refine ⟨fun y => absurd y (nI_ge (b := 120) (by omega) (by decide)), fun _ => ⟨fun y => absurd y (by simp), fun a1 _ => ?_⟩⟩
    refine ⟨a, rfl, (hN κ1).1, hT1.1, ?_⟩
    rw [(hN κ1).2.1]
    -- one more path on the row
    have push : ∀ (p : Nat) (κ' : cS), R.length < 60 → orow (c_u κ1 89 R.length (nI p)) (R ++ [p]) := by
      intro p κ' hl i x hi
      rw [cu1]
      by_cases e : i = R.length
      · subst e
        rw [if_pos ⟨rfl, rfl⟩]
        rw [List.getElem?_append_right (Nat.le_refl _), Nat.sub_self] at hi
        have : p = x := by simpa using hi
        rw [this]
      · rw [if_neg (fun z => e z.2)]
        have hil : i < (R ++ [p]).length := (List.getElem?_eq_some_iff.mp hi).1
        rw [List.length_append] at hil
        rw [List.getElem?_append_left (by simp at hil; omega)] at hi
        exact hR i x hi
    have hRl : R.length < 60 := by omega
    have hin : vp_in (nI R.length) 60 := vp_in_nI hRl (by decide)
    have hcl : (nI R.length).toNatClampNeg = R.length := nI_clamp (by omega)
    have fr1 : ∀ p : Nat, ∀ o j, ¬ o = 89 → (c_u κ1 89 R.length (nI p)).1 o j = κ.1 o j := fun p o j ho => by rw [cu1, if_neg (fun z => ho z.1)]; exact e1 o j ho
    refine cq_tnext hT1 _ (by omega) _ (fun p a' f' hbp hp60 hTp hinp hn' hfirst => ⟨fun y => absurd y (by simp), fun a8 _ => ?_⟩) (fun hnone => ⟨fun _ => ?_, fun a8 y => absurd y (by simp)⟩)
    · have hq1 : inD Tr (nI q) p := ⟨by omega, f', hTp, hinp⟩
      have hk : nextk Tr q b0 = some p := fsti_y hq1 (59 - b0) (b0 + 1) (by omega) (by omega) (fun r h1 h2 => hfirst r (by omega) h2)
      have hqp := inD_lt hw hq hq1
      obtain ⟨an', ad', fa', f1', f2', hN'⟩ := nd_H hn'
      have hrs : rsq Tr (n + 1) q b0 = cif (isDirAt Tr p) (rsq Tr n p 0) [p] ++ rsq Tr n q p := by
        conv => lhs; unfold rsq
        rw [hk]
      rw [hrs] at hlen hst K
      refine ⟨a', rfl, (hN' κ1).1, nq_isDir (hN' κ1) _ ?_⟩
      by_cases hd : 0 ≤ f_md f'
      · rw [if_pos hd]
        refine ⟨fun _ => ?_, fun y => absurd rfl y⟩
        have hnd : ¬ isDirAt Tr p := fun z => by
          obtain ⟨f'', z1, z2⟩ := z
          rw [hTp] at z1
          cases z1
          exact z2 hd
        rw [cif_n hnd] at hlen hst K
        simp only [List.length_append, List.length_singleton] at hlen hst
        unfold wq_Tree_listInnermostFirst_60
        refine ⟨fun a2 _ => ⟨a', rfl, (hN' κ1).1, ?_⟩, fun y => absurd y (by simp)⟩
        rw [(hN' κ1).2.1]
        unfold wq_Tree_listInnermostFirst_78
        simp only [l3, l4, ck, cn, toI, cU ax 89 (by decide), geo hg, hin, hcl, true_and, Option.some.injEq, exists_eq_left', forall_eq]
        refine ⟨fun y => absurd y (nI_ge (b := 60) hRl (by decide)), fun _ => ?_⟩
        unfold wq_Tree_listInnermostFirst_94 wq_Tree_listInnermostFirst_119 wq_Tree_listInnermostFirst_122
        refine ⟨fun a3 _ => ?_, fun y => absurd y (by simp)⟩
        have := ih q p (R ++ [p]) (t + 1) a f (c_u κ1 89 R.length (nI p)) (by unfold mu at hmu ⊢; omega) hq hp60 hTq hdq hn e2 (fr1 p) (push p κ1 hRl) (by rw [List.length_append, List.length_singleton]; omega) (by omega) (fun κ2 t' o g2 g1 gR gt gd => ?_)
        · rw [List.length_append, List.length_singleton, nI_succ, nI_succ] at this
          exact this
        · rw [List.append_assoc] at gR ⊢
          exact K κ2 t' o g2 g1 gR (by simp only [List.length_append, List.length_singleton]; omega) gd
      · rw [if_neg hd]
        refine ⟨fun y => absurd y (by decide), fun _ => ?_⟩
        have hdp : isDirAt Tr p := ⟨f', hTp, hd⟩
        rw [cif_y hdp] at hlen hst K
        simp only [List.length_append] at hlen hst
        unfold wq_Tree_listInnermostFirst_122
        rw [← nI_succ]
        have hps := rsq_pos Tr n q p
        refine ih p 0 R (t + 1) a' f' κ1 (by unfold mu at hmu ⊢; omega) hp60 (by decide) hTp hd hn' e2 e1 hR (by omega) (by omega) (fun κ2 t' o g2 g1 gR gt gd => ?_)
        rcases gd with ⟨z, _⟩ | ⟨_, a3, f3, z1, z2, z3, z4⟩
        · omega
        · rw [inD_par hq hq1] at z2 z4
          rw [hTq] at z2
          cases z2
          rw [z1]
          refine ih q p (R ++ rsq Tr n p 0) t' a3 f κ2 (by unfold mu at hmu ⊢; omega) hq hp60 hTq hdq z4 g2 g1 gR (by rw [List.length_append]; omega) (by omega) (fun κ3 t3 o3 k2 k1 kR kt kd => ?_)
          rw [List.append_assoc] at kR ⊢
          exact K κ3 t3 o3 k2 k1 kR (by rw [List.length_append]; omega) kd
    · have hk : nextk Tr q b0 = none := fsti_n (59 - b0) (b0 + 1) (fun r h1 h2 => hnone r (by omega) (by omega))
      have hrs : rsq Tr (n + 1) q b0 = [q] := by
        conv => lhs; unfold rsq
        rw [hk]
      rw [hrs] at hlen hst K
      simp only [List.length_singleton] at hlen hst
      unfold wq_Tree_listInnermostFirst_60
      refine ⟨fun a2 y => absurd y (by simp), fun _ => ⟨a, rfl, (hN κ1).1, ?_⟩⟩
      rw [(hN κ1).2.1]
      unfold wq_Tree_listInnermostFirst_78
      simp only [l3, l4, ck, cn, toI, cU ax 89 (by decide), geo hg, hin, hcl, true_and, Option.some.injEq, exists_eq_left', forall_eq]
      refine ⟨fun y => absurd y (nI_ge (b := 60) hRl (by decide)), fun _ => ?_⟩
      unfold wq_Tree_listInnermostFirst_94 wq_Tree_listInnermostFirst_117 wq_Tree_listInnermostFirst_119 wq_Tree_listInnermostFirst_122
      have e0 : (nI q = 0) ↔ q = 0 := nI_eq (b := 0) (by omega) (by decide)
      have kk := K (c_u κ1 89 R.length (nI q)) (t + 1)
      rw [List.length_append, List.length_singleton, nI_succ, nI_succ] at kk
      refine ⟨fun a3 y => absurd y (by simp), fun _ => ⟨fun y => ?_, fun y => ?_⟩⟩
      · have hq0 : ¬ q = 0 := fun z => y (e0.mpr z)
        obtain ⟨_, _, w3⟩ := hw.2.2 q f hTq
        obtain ⟨r, fr, w4, w5, w6, w7⟩ := w3 hq0
        have hpar : par Tr q = r := by unfold par; rw [hTq]; simp only; rw [w5, nI_clamp (by omega)]
        have hT2 := ht (c_u κ1 89 R.length (nI q)) e2
        have hkn : mm_k g a = kd_Node := (hN κ1).1
        refine ⟨a, rfl, hkn, hT2.1, ?_⟩
        rw [(hN _).2.2.1, w5]
        refine cq_tat hT2 _ _ (fun p' a' f'' hp' e hf'' hn'' => ?_) (fun hno => ?_)
        · have := (nI_eq (by omega) (by omega)).mp e
          subst this
          rw [w6] at hf''
          cases hf''
          exact kk _ e2 (fr1 q) (push q κ1 hRl) (by omega) (Or.inr ⟨hq0, a', fr, rfl, by rw [hpar]; exact w6, w7, by rw [hpar]; exact hn''⟩)
        · rw [hno r (by omega) rfl] at w6; cases w6
      · exact kk none e2 (fr1 q) (push q κ1 hRl) (by omega) (Or.inl ⟨e0.mp y, rfl⟩)
noncomputable def ordr (Tr : sT) : List Nat := rsq Tr 4000 0 0
theorem cq_list (hM : CM ax g) (hg : ge 0 ≤ ax) {κ : cS} {b : Nat} {Tr : sT} {gv : Nat} (hw : wfT Tr gv) (ht : ∀ κ', κ'.2 = κ.2 → tre ax κ' g b Tr) (Z : Int32 → mm_M → Prop) (hZ : ∀ κ', fr89 κ κ' → orow κ' (ordr Tr) → Z (nI (ordr Tr).length) (c_em ax κ' g)) : wq_Tree_listInnermostFirst ge b (some (ax + 89)) (c_em ax κ g) Z := by
  obtain ⟨f0, h0, _, hd0⟩ := hw.2.1
  have hT := ht κ rfl
  have hl60 := rsq_len hw 4000 0 0 (by decide)
  unfold wq_Tree_listInnermostFirst wq_Tree_listInnermostFirst_0
  refine ⟨hT.1, cq_tat hT _ _ (fun p a f hp e hf hn => ?_) (fun hno => ?_)⟩
  · have hp0 : p = 0 := ((nI_eq (a := 0) (by decide) (by omega)).mp e).symm
    subst hp0
    rw [h0] at hf
    cases hf
    unfold lp_Tree_listInnermostFirst_14
    intro X hX
    refine cq_liLoop hM hg hw ht Z X hX 4000 0 0 [] 0 a f0 κ (by decide) (by decide) (by decide) h0 hd0 hn rfl (fun _ _ _ => rfl) (fun i x hi => by simp at hi) (by simpa using hl60) (by omega) (fun κ2 t' o g2 g1 gR gt gd => ?_)
    rcases gd with ⟨_, rfl⟩ | ⟨z, _⟩
    · refine hX _ _ _ _ _ _ _ ?_
      unfold wq_Tree_listInnermostFirst_14 wq_Tree_listInnermostFirst_128
      rw [List.nil_append] at gR ⊢
      have hz := hZ κ2 ⟨g2, g1⟩ gR
      exact ⟨fun _ => hz, fun _ => ⟨fun _ => hz, fun a1 y => absurd y (by simp)⟩⟩
    · exact absurd rfl z
  · rw [hno 0 (by decide) rfl] at h0; cases h0
end LI
