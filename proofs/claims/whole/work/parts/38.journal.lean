/-! the class: the live tree, the journal, the snapshots -/
section SH
variable {ax : Nat} {g : mm_M}
theorem CM_0 (hM : CM ax g) : mm_k g ax = kd_Server ∧ (mm_P g ax 0 = some (ax + 1) ∧ mm_P g ax 1 = some (ax + 3) ∧ mm_P g ax 2 = some (ax + 5) ∧ mm_P g ax 3 = some (ax + 6) ∧ mm_P g ax 4 = some (ax + 32) ∧ mm_P g ax 5 = some (ax + 34) ∧ mm_P g ax 6 = some (ax + 76) ∧ mm_P g ax 7 = some (ax + 80)) := ⟨hM.1, hM.2.1⟩
theorem CM_b1 (hM : CM ax g) : BO ax g 1 1400 := hM.2.2.1
theorem CM_b3 (hM : CM ax g) : BO ax g 3 1000 := hM.2.2.2.1
theorem CM_b86 (hM : CM ax g) : BO ax g 86 5520 := hM.2.2.2.2.1
theorem CM_q (hM : CM ax g) : mm_k g (ax + 5) = kd_Request ∧ mm_P g (ax + 5) 0 = some (ax + 1) := hM.2.2.2.2.2.1
theorem CM_t (hM : CM ax g) : TO ax g 32 := hM.2.2.2.2.2.2.2.2.1
theorem CM_j (hM : CM ax g) : (mm_k g (ax + 34) = kd_Journal ∧ mm_P g (ax + 34) 0 = some (ax + 35) ∧ mm_k g (ax + 35) = ka_Tree ∧ mm_n g (ax + 35) = 20) ∧ (∀ i : Nat, i < 20 → mm_P g (ax + 35) i = some (ax + (36 + 2 * i)) ∧ TO ax g (36 + 2 * i)) := ⟨hM.2.2.2.2.2.2.2.2.2.1, hM.2.2.2.2.2.2.2.2.2.2.1⟩
theorem CM_s (hM : CM ax g) : mm_k g (ax + 76) = kd_Snapshots ∧ mm_P g (ax + 76) 0 = some (ax + 77) ∧ mm_P g (ax + 76) 1 = some (ax + 78) ∧ mm_P g (ax + 76) 2 = some (ax + 79) ∧ mm_k g (ax + 77) = ka_I ∧ mm_n g (ax + 77) = 30 ∧ mm_k g (ax + 78) = ka_Tree ∧ mm_n g (ax + 78) = 6 ∧ mm_k g (ax + 79) = ka_Z ∧ mm_n g (ax + 79) = 6 := hM.2.2.2.2.2.2.2.2.2.2.2.1
theorem CM_z (hM : CM ax g) : ax + 118 ≤ mm_z g := hM.2.2.2.2.2.2.2.2.2.2.2.2.2.2.2.2
theorem tre_live (hM : CM ax g) {κ : cS} {T : sT} (h : nr ax g (κ.2.2 33) T) : tre ax κ g (ax + 32) T := by
  obtain ⟨t1, t2, t3, t4⟩ := CM_t hM
  exact ⟨t1, ax + 33, (cP ax 32 rfl κ g 0).trans t2, t3, t4, nr_of (fun p _ => cQ ax 33 (by decide) rfl κ g p) h⟩
theorem pa_j {i : Nat} (hi : i < 20) : pa (37 + 2 * i) = true ∧ pa (36 + 2 * i) = false := by
  have : ∀ i, i < 20 → pa (37 + 2 * i) = true ∧ pa (36 + 2 * i) = false := by decide +kernel
  exact this i hi
theorem tre_j (hM : CM ax g) {κ : cS} {T : sT} {i : Nat} (hi : i < 20) (h : nr ax g (κ.2.2 (37 + 2 * i)) T) : tre ax κ g (ax + (36 + 2 * i)) T := by
  obtain ⟨t1, t2, t3, t4⟩ := ((CM_j hM).2 i hi).2
  rw [show 36 + 2 * i + 1 = 37 + 2 * i by omega] at t2 t3 t4
  exact ⟨t1, ax + (37 + 2 * i), (cP ax (36 + 2 * i) (pa_j hi).2 κ g 0).trans t2, t3, t4, nr_of (fun p _ => cQ ax (37 + 2 * i) (by omega) (pa_j hi).1 κ g p) h⟩
end SH
/-- a snapshot's tree at b -/
def snp (ax : Nat) (g : mm_M) (b : Nat) (T : sT) : Prop := mm_k g b = kd_Tree ∧ fzz ax g b ∧ ∃ bn : Nat, mm_P g b 0 = some bn ∧ fzz ax g bn ∧ mm_k g bn = ka_Node ∧ mm_n g bn = 60 ∧ nr ax g (mm_P g bn) T
theorem tre_s {ax : Nat} {g : mm_M} {b : Nat} {T : sT} (h : snp ax g b T) (κ : cS) : tre ax κ g b T := by
  obtain ⟨s1, s2, bn, s3, s4, s5, s6, s7⟩ := h
  exact ⟨s1, bn, (cPf s2.1 κ g 0).trans s3, s5, s6, nr_of (fun p _ => cPf s4.1 κ g p) s7⟩
theorem snp_ext {ax : Nat} {g g' : mm_M} {b : Nat} {T : sT} (e : ext g g') (h : snp ax g b T) : snp ax g' b T := by
  obtain ⟨s1, s2, bn, s3, s4, s5, s6, s7⟩ := h
  obtain ⟨e1, _, _, _, e5⟩ := e.2 b s2.2
  obtain ⟨n1, n2, _, _, n5⟩ := e.2 bn s4.2
  exact ⟨e1.trans s1, ⟨s2.1, Nat.lt_of_lt_of_le s2.2 e.1⟩, bn, (e5 0).trans s3, ⟨s4.1, Nat.lt_of_lt_of_le s4.2 e.1⟩, n1.trans s5, n2.trans s6, nr_of (fun p _ => n5 p) (nr_ext e s7)⟩
/-! THE JOURNAL -/
/-- the row of the journal's tree i of n, where the next comes to nx -/
def jix (nx n i : Nat) : Nat := (nx + 20 - n + i) % 20
def Cjn (ax : Nat) (κ : cS) (g : mm_M) (J : List sT) : Prop := J.length ≤ 20 ∧ κ.1 34 2 = nI J.length ∧ ∃ nx : Nat, nx < 20 ∧ κ.1 34 1 = nI nx ∧ ∀ (i : Nat) (T : sT), J[i]? = some T → nr ax g (κ.2.2 (37 + 2 * jix nx J.length i)) T
def pushJ (J : List sT) (T : sT) : List sT := if J.length = 20 then J.tail ++ [T] else J ++ [T]
theorem Cjn_ext {ax : Nat} {κ : cS} {g g' : mm_M} {J : List sT} (e : ext g g') (h : Cjn ax κ g J) : Cjn ax κ g' J := by
  obtain ⟨h1, h2, nx, h3, h4, h5⟩ := h
  exact ⟨h1, h2, nx, h3, h4, fun i T hi => nr_ext e (h5 i T hi)⟩
theorem Cjn_of {ax : Nat} {κ κ' : cS} {g : mm_M} {J : List sT} (e1 : κ'.1 34 1 = κ.1 34 1) (e2 : κ'.1 34 2 = κ.1 34 2) (e3 : ∀ i j, i < 20 → κ'.2.2 (37 + 2 * i) j = κ.2.2 (37 + 2 * i) j) (h : Cjn ax κ g J) : Cjn ax κ' g J := by
  obtain ⟨h1, h2, nx, h3, h4, h5⟩ := h
  exact ⟨h1, e2.trans h2, nx, h3, e1.trans h4, fun i T hi => nr_of (fun p _ => e3 _ p (Nat.mod_lt _ (by decide))) (h5 i T hi)⟩
theorem Cjn_0 {ax : Nat} {κ : cS} {g : mm_M} {J : List sT} (h : Cjn ax κ g J) : Cjn ax (c_u κ 34 2 0) g [] := by
  obtain ⟨h1, h2, nx, h3, h4, h5⟩ := h
  exact ⟨by decide, rfl, nx, h3, h4, fun i T hi => by simp at hi⟩
/-- the state behind keep -/
def c_kp (κ : cS) (nx n : Nat) : cS := c_u (c_u (c_row κ (37 + 2 * nx) (κ.2.2 33)) 34 1 (nI ((nx + 1) % 20))) 34 2 (nI (if n = 20 then 20 else n + 1))
theorem c_kp_1 (κ : cS) (nx n o j : Nat) (h : ¬ o = 34) : (c_kp κ nx n).1 o j = κ.1 o j := by
  unfold c_kp
  rw [cu1, if_neg (fun z => h z.1), cu1, if_neg (fun z => h z.1)]
  rfl
theorem c_kp_2 (κ : cS) (nx n : Nat) : (c_kp κ nx n).2.1 = κ.2.1 := rfl
theorem c_kp_3 (κ : cS) (nx n o j : Nat) (h : ¬ o = 37 + 2 * nx) : (c_kp κ nx n).2.2 o j = κ.2.2 o j := if_neg (fun z => h z.1)
theorem Cjn_kp {ax : Nat} {κ : cS} {g : mm_M} {J : List sT} {T : sT} {nx : Nat} (h1 : J.length ≤ 20) (h3 : nx < 20) (h5 : ∀ (i : Nat) (T : sT), J[i]? = some T → nr ax g (κ.2.2 (37 + 2 * jix nx J.length i)) T) (hT : nr ax g (κ.2.2 33) T) : Cjn ax (c_kp κ nx J.length) g (pushJ J T) := by
  have new : nr ax g ((c_kp κ nx J.length).2.2 (37 + 2 * nx)) T := nr_of (fun p hp => if_pos ⟨rfl, hp⟩) hT
  have old : ∀ k, k < 20 → ¬ k = nx → ∀ T', nr ax g (κ.2.2 (37 + 2 * k)) T' → nr ax g ((c_kp κ nx J.length).2.2 (37 + 2 * k)) T' := fun k _ hk T' q => nr_of (fun p _ => c_kp_3 κ nx _ _ p (by omega)) q
  have hJ : (pushJ J T).length = if J.length = 20 then 20 else J.length + 1 := by
    unfold pushJ
    split
    · rename_i z; simp [z]
    · simp
  refine ⟨by rw [hJ]; split <;> omega, ?_, (nx + 1) % 20, Nat.mod_lt _ (by decide), ?_, fun i T' hi => ?_⟩
  · unfold c_kp
    rw [cu1, if_pos ⟨rfl, rfl⟩, hJ]
  · unfold c_kp
    rw [cu1, if_neg (by decide), cu1, if_pos ⟨rfl, rfl⟩]
  · rw [hJ]
    have hil : i < (pushJ J T).length := (List.getElem?_eq_some_iff.mp hi).1
    rw [hJ] at hil
    unfold pushJ at hi
    by_cases z : J.length = 20
    · rw [if_pos z] at hi hil ⊢
      by_cases e : i = 19
      · subst e
        rw [List.getElem?_append_right (by simp [z])] at hi
        simp [z] at hi
        subst hi
        rw [show jix ((nx + 1) % 20) 20 19 = nx by unfold jix; omega]
        exact new
      · have hi19 : i < J.tail.length := by rw [List.length_tail]; omega
        rw [List.getElem?_append_left hi19, List.getElem?_tail] at hi
        have := h5 (i + 1) T' hi
        rw [z] at this
        rw [show jix ((nx + 1) % 20) 20 i = jix nx 20 (i + 1) by unfold jix; omega]
        exact old _ (Nat.mod_lt _ (by decide)) (by omega) _ this
    · rw [if_neg z] at hi hil ⊢
      by_cases e : i = J.length
      · subst e
        rw [List.getElem?_append_right (Nat.le_refl _)] at hi
        simp at hi
        subst hi
        rw [show jix ((nx + 1) % 20) (J.length + 1) J.length = nx by unfold jix; omega]
        exact new
      · rw [List.getElem?_append_left (by omega)] at hi
        have := h5 i T' hi
        rw [show jix ((nx + 1) % 20) (J.length + 1) i = jix nx J.length i by unfold jix; omega]
        exact old _ (Nat.mod_lt _ (by decide)) (by omega) _ this
theorem nr_k {ax : Nat} {g : mm_M} {P : Nat → Option Nat} {T : sT} (h : nr ax g P T) {p a : Nat} (hp : p < 60) (ha : P p = some a) : mm_k g a = kd_Node := by
  rcases h.1 p hp with q | ⟨a', f, q1, q2, q3⟩
  · rw [q.2] at ha; cases ha
  · rw [q2] at ha
    cases ha
    obtain ⟨_, _, an, ad, _, _, q⟩ := q3
    exact q.1
section JN
variable {ge : Nat → Nat} {ax : Nat} {g : mm_M}
theorem cq_keep (hM : CM ax g) (hg : ge 0 ≤ ax) (κ : cS) {T : sT} {J : List sT} (hT : nr ax g (κ.2.2 33) T) (hJ : Cjn ax κ g J) (Z : mm_M → Prop)
    (hZ : ∀ nx, nx < 20 → κ.1 34 1 = nI nx → Cjn ax (c_kp κ nx J.length) g (pushJ J T) → Z (c_em ax (c_kp κ nx J.length) g)) : wq_Journal_keep ge (ax + 34) (some (ax + 32)) (c_em ax κ g) Z := by
  obtain ⟨⟨m1, m2, m3, m4⟩, m5⟩ := CM_j hM
  obtain ⟨h1, h2, nx, h3, h4, h5⟩ := hJ
  have hz := hZ nx h3 h4 (Cjn_kp h1 h3 h5 hT)
  obtain ⟨j1, t1, t2, t3, t4⟩ := m5 nx h3
  obtain ⟨l1, l2, l3, l4⟩ := CM_t hM
  rw [show 36 + 2 * nx + 1 = 37 + 2 * nx by omega] at t2 t3 t4
  have hin : vp_in (nI nx) 20 := vp_in_nI h3 (by decide)
  have hcl : (nI nx).toNatClampNeg = nx := nI_clamp (by omega)
  unfold wq_Journal_keep wq_Journal_keep_0
  simp only [m1, m2, m3, m4, j1, t1, h4, hin, hcl, ck, cn, cP ax 34 rfl, cP ax 35 rfl, cI ax 34 (by decide), true_and, Option.some.injEq, exists_eq_left']
  refine mq_takeOver (h := c_em ax κ g) (bn := ax + (37 + 2 * nx)) (cn_ := ax + 33) t1 ((cP ax (36 + 2 * nx) (pa_j h3).2 κ g 0).trans t2) t3 t4 (geo hg _) l1 ((cP ax 32 rfl κ g 0).trans l2) l3 l4 (by omega) (by omega) (by omega) (fun p a hp ha => ?_) _ ?_
  · rw [cQ ax 33 (by decide) rfl] at ha
    exact nr_k hT hp ha
  · rw [show mm_P (c_em ax κ g) (ax + 33) = κ.2.2 33 from funext (fun j => cQ ax 33 (by decide) rfl κ g j), mm_row_c ax (37 + 2 * nx) (by omega) (pa_j h3).1]
    have r1 : ∀ o j, (c_row κ (37 + 2 * nx) (κ.2.2 33)).1 o j = κ.1 o j := fun _ _ => rfl
    unfold wq_Journal_keep_35
    simp only [m1, ck, cI ax 34 (by decide), cU ax 34 (by decide), r1, cu1, h4, h2, geo hg, true_and, Option.some.injEq, exists_eq_left', forall_eq]
    have em : (if (20 : Int32) < nI J.length + 1 then (20 : Int32) else nI J.length + 1) = nI (if J.length = 20 then 20 else J.length + 1) := by
      rw [← nI_succ]
      by_cases z : J.length = 20
      · rw [if_pos z, z]; rfl
      · rw [if_neg z]
        exact if_neg (fun q => nI_nlt (a := 20) (b := J.length + 1) (by omega) (by decide) q)
    have es : ∀ k : Nat, (if (34 : Nat) = 34 ∧ (2 : Nat) = 1 then nI k else nI J.length) = nI J.length := fun k => if_neg (by decide)
    refine ⟨fun q => ?_, fun q => ?_⟩
    · have e : nx = 19 := by
        rw [← nI_succ, show (20 : Int32) = nI 20 from rfl, nI_leI (by decide) (by omega)] at q
        omega
      subst e
      simp only [show ((2 : Nat) = 1) = False by simp, and_false, if_false, em]
      exact hz
    · have e : nx + 1 < 20 := by
        rw [← nI_succ, show (20 : Int32) = nI 20 from rfl, nI_leI (by decide) (by omega)] at q
        omega
      have e2 : (nx + 1) % 20 = nx + 1 := Nat.mod_eq_of_lt e
      unfold c_kp at hz
      rw [e2] at hz
      simp only [show ((2 : Nat) = 1) = False by simp, and_false, if_false, em]
      rw [← nI_succ]
      exact hz
theorem cq_before (hM : CM ax g) (κ : cS) {J : List sT} (hJ : Cjn ax κ g J) {n : Nat} (hn : n ≤ J.length) (Z : Option Nat → mm_M → Prop)
    (h1 : ∀ (k : Nat) (T : sT), 0 < n → k < 20 → J[J.length - n]? = some T → nr ax g (κ.2.2 (37 + 2 * k)) T → Z (some (ax + (36 + 2 * k))) (c_em ax κ g)) (h0 : n = 0 → Z none (c_em ax κ g)) : wq_Journal_before ge (ax + 34) (nI n) (c_em ax κ g) Z := by
  obtain ⟨⟨m1, m2, m3, m4⟩, m5⟩ := CM_j hM
  obtain ⟨b1, b2, nx, b3, b4, b5⟩ := hJ
  unfold wq_Journal_before wq_Journal_before_0 wq_Journal_before_13
  refine ⟨fun q => h0 ?_, fun q => ?_⟩
  · rw [show (1 : Int32) = nI 1 from rfl, nI_ltI (by omega) (by decide)] at q
    omega
  · have hn1 : 0 < n := by
      rw [show (1 : Int32) = nI 1 from rfl, nI_ltI (by omega) (by decide)] at q
      omega
    have hJn : J.length - n < J.length := by omega
    have gt := List.getElem?_eq_getElem hJn
    have hb := b5 _ _ gt
    have fin : ∀ k, k < 20 → k = jix nx J.length (J.length - n) → wq_Journal_before_45 ge (mm_P (c_em ax κ g) (ax + 34) 0) (nI k) (c_em ax κ g) Z := by
      intro k hk ek
      have hin : vp_in (nI k) 20 := vp_in_nI hk (by decide)
      have hcl : (nI k).toNatClampNeg = k := nI_clamp (by omega)
      unfold wq_Journal_before_45
      simp only [m2, m3, m4, (m5 k hk).1, hin, hcl, ck, cn, cP ax 34 rfl, cP ax 35 rfl, true_and, Option.some.injEq, exists_eq_left']
      exact h1 k _ hn1 hk gt (by rw [ek]; exact hb)
    simp only [m1, ck, cI ax 34 (by decide), b4, b2, true_and]
    refine ⟨fun _ => ⟨fun z => ?_, fun z => ?_⟩, fun z => absurd (nI_le hn (by omega)) z⟩
    · rw [nI_ltI (by omega) (by omega)] at z
      have e : nI nx - nI n + 20 = nI (nx + 20 - n) := by
        have := nI_add (nx + 20 - n) n
        rw [show nx + 20 - n + n = nx + 20 by omega, ← nI_add] at this
        have h2 : nI (nx + 20 - n) = nI nx + nI 20 - nI n := by rw [← this, Int32.add_sub_cancel]
        rw [h2, show (20 : Int32) = nI 20 from rfl, Int32.sub_eq_add_neg, Int32.sub_eq_add_neg, Int32.add_assoc, Int32.add_assoc, Int32.add_comm (-nI n)]
      rw [e]
      exact fin _ (by omega) (by unfold jix; omega)
    · rw [nI_ltI (by omega) (by omega)] at z
      have e : nI nx - nI n = nI (nx - n) := by
        have := nI_add (nx - n) n
        rw [show nx - n + n = nx by omega] at this
        rw [← this, Int32.add_sub_cancel]
      rw [e]
      exact fin _ (by omega) (by unfold jix; omega)
end JN
