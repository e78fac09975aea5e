/-! THE START: class numbers, arrays of classes, constants, the memory -/
theorem tb_inst : ∀ (c : Nat) (r : String × u_T × Nat × (Nat → FieldType)), tb[c]? = some r → Cond.instantiable r.1 r.2.2.1 ∈ lw_tbl := by
  intro c r hr
  match c, hr with
  | 0, hr => cases hr; exact tw_4 (List.mem_of_getElem? (i := 189) rfl)
  | 1, hr => cases hr; exact tw_1 (List.mem_of_getElem? (i := 22) rfl)
  | 2, hr => cases hr; exact tw_1 (List.mem_of_getElem? (i := 227) rfl)
  | 3, hr => cases hr; exact tw_1 (List.mem_of_getElem? (i := 30) rfl)
  | 4, hr => cases hr; exact tw_1 (List.mem_of_getElem? (i := 125) rfl)
  | 5, hr => cases hr; exact tw_1 (List.mem_of_getElem? (i := 118) rfl)
  | 6, hr => cases hr; exact tw_1 (List.mem_of_getElem? (i := 185) rfl)
  | 7, hr => cases hr; exact tw_2 (List.mem_of_getElem? (i := 52) rfl)
  | 8, hr => cases hr; exact tw_1 (List.mem_of_getElem? (i := 48) rfl)
  | 9, hr => cases hr; exact tw_2 (List.mem_of_getElem? (i := 13) rfl)
  | 10, hr => cases hr; exact tw_1 (List.mem_of_getElem? (i := 204) rfl)
  | 11, hr => cases hr; exact tw_1 (List.mem_of_getElem? (i := 233) rfl)
  | 12, hr => cases hr; exact tw_1 (List.mem_of_getElem? (i := 173) rfl)
  | n + 13, hr => exact absurd hr (by simp [tb])
theorem ent_D {s : State} {args : Array Value} (hts : ∀ w ∈ lw_tbl, w.before args s = true) : ∃ D : va_G, ∀ (c : Nat) (q : vw_C), cls[c]? = some q → u_Kn s q.1 q.2.1 q.2.2 (D.1 c) (D.2 c) := by
  have h0 : ∀ c : Nat, ∃ q : ClassId × (Nat → Nat), ∀ r, tb[c]? = some r → u_Kn s r.1 r.2.1 r.2.2.1 q.1 q.2 := by
    intro c
    cases h : tb[c]? with
    | none => exact ⟨(0, fun _ => 0), fun r hr => (by cases hr)⟩
    | some r =>
      obtain ⟨cC, iS, hK⟩ := u_known (C := r.1) (T := r.2.1) (N := r.2.2.1) hts (tb_in c r h).1 (hts _ (tb_inst c r h))
      exact ⟨(cC, iS), fun r' hr => by cases hr; exact hK⟩
  obtain ⟨ad, had⟩ := Classical.axiomOfChoice h0
  refine ⟨(fun c => (ad c).1, fun c => (ad c).2), fun c q hq => ?_⟩
  unfold cls at hq
  rw [List.getElem?_map] at hq
  cases h : tb[c]? with
  | none => rw [h] at hq; cases hq
  | some r => rw [h] at hq; cases hq; exact had c r h
theorem ent_aP {s : State} {args : Array Value} {t : FieldType} (h : (Cond.arrayClass t).before args s = true) (ht : ∀ C, ¬ t = .object C) : ∃ cA : ClassId, ArrOfT s cA t ∧ va_RA s cA t := by
  obtain ⟨cA, k, comp, h1, h2, h3⟩ := Cond.arrayClass_spec h
  refine ⟨cA, fun n z => ⟨fun k h => (by cases h), k, h2, comp, h3⟩, ?_⟩
  cases t <;> first | exact h1 | exact absurd rfl (ht _)
theorem ent_aO {s : State} {args : Array Value} {C : String} (h : (Cond.arrayOver (.object C)).before args s = true) : ∃ cA : ClassId, ArrOfT s cA (.object C) ∧ va_RA s cA (.object C) := by
  obtain ⟨comp, cA, k, h1, h2, h3, h4, h5⟩ := Cond.arrayOver_spec h
  exact ⟨cA, fun n z => ⟨fun k h => (by cases h), k, h3, comp, h4⟩, k, comp, h3, h4, h1, h5⟩
theorem ent_A {s : State} {args : Array Value} (hts : ∀ w ∈ lw_tbl, w.before args s = true) : ∃ a : Nat → ClassId, ∀ (k : Nat) (t : FieldType), aty[k]? = some t → ArrOfT s (a k) t ∧ va_RA s (a k) t := by
  have h0 : ∀ k : Nat, ∃ cA : ClassId, ∀ t, aty[k]? = some t → ArrOfT s cA t ∧ va_RA s cA t := by
    intro k
    match k with
    | 0 =>
      obtain ⟨cA, h⟩ := ent_aP (t := .int) (hts _ (tw_1 (List.mem_of_getElem? (i := 224) rfl))) (fun C e => by cases e)
      exact ⟨cA, fun t ht => by cases ht; exact h⟩
    | 1 =>
      obtain ⟨cA, h⟩ := ent_aP (t := .byte) (hts _ (tw_1 (List.mem_of_getElem? (i := 46) rfl))) (fun C e => by cases e)
      exact ⟨cA, fun t ht => by cases ht; exact h⟩
    | 2 =>
      obtain ⟨cA, h⟩ := ent_aP (t := .boolean) (hts _ (tw_1 (List.mem_of_getElem? (i := 225) rfl))) (fun C e => by cases e)
      exact ⟨cA, fun t ht => by cases ht; exact h⟩
    | 3 =>
      obtain ⟨cA, h⟩ := ent_aO (C := "EpochServer$Fid") (hts _ (tw_1 (List.mem_of_getElem? (i := 124) rfl)))
      exact ⟨cA, fun t ht => by cases ht; exact h⟩
    | 4 =>
      obtain ⟨cA, h⟩ := ent_aO (C := "EpochServer$Node") (hts _ (tw_1 (List.mem_of_getElem? (i := 179) rfl)))
      exact ⟨cA, fun t ht => by cases ht; exact h⟩
    | 5 =>
      obtain ⟨cA, h⟩ := ent_aO (C := "EpochServer$Tree") (hts _ (tw_1 (List.mem_of_getElem? (i := 191) rfl)))
      exact ⟨cA, fun t ht => by cases ht; exact h⟩
    | n + 6 => exact ⟨0, fun t ht => absurd ht (by simp [aty])⟩
  exact Classical.axiomOfChoice h0
def nsk : Cond → Bool
  | .fieldLinkNest _ _ _ _ _ _ => true
  | .methodLinkNest _ _ _ _ => true
  | _ => false
theorem nsl_k : ∀ w ∈ nsl, nsk w = true := by decide +kernel
theorem nsl_in : ∀ w ∈ nsl, w ∈ lw_tbl := by
  unfold nsl
  exact List.forall_mem_cons.mpr ⟨tw_1 (List.mem_of_getElem? (i := 39) rfl), List.forall_mem_cons.mpr ⟨tw_1 (List.mem_of_getElem? (i := 126) rfl), List.forall_mem_cons.mpr ⟨tw_1 (List.mem_of_getElem? (i := 174) rfl), List.forall_mem_cons.mpr ⟨tw_1 (List.mem_of_getElem? (i := 192) rfl), List.forall_mem_cons.mpr ⟨tw_1 (List.mem_of_getElem? (i := 205) rfl), List.forall_mem_cons.mpr ⟨tw_1 (List.mem_of_getElem? (i := 228) rfl), List.forall_mem_cons.mpr ⟨tw_1 (List.mem_of_getElem? (i := 234) rfl), List.forall_mem_cons.mpr ⟨tw_2 (List.mem_of_getElem? (i := 14) rfl), List.forall_mem_cons.mpr ⟨tw_4 (List.mem_of_getElem? (i := 53) rfl), fun _ h => absurd h List.not_mem_nil⟩⟩⟩⟩⟩⟩⟩⟩⟩
theorem nsk_warm {w : Cond} {s U : State} (h : nsk w = true) (hW : s.WarmedH U.vm) (hZ : va_Nw w s) : va_Nw w U := by
  cases w <;> first | exact va_Nw.warmF hW hZ | exact va_Nw.warmM hW hZ | exact absurd h (by simp [nsk])
theorem nsk_tab {w : Cond} (h : nsk w = true) : w.onTables = true := by
  cases w <;> first | rfl | exact absurd h (by simp [nsk])
theorem fx_ok (G : mm_G) (u U : State) (hv : u.WarmedH U.vm ∨ U.vm = u.vm) (hq : ∀ q : Nat, q < mm_gb G → U.heap[q]? = u.heap[q]?) (h : mm_fx G u) : mm_fx G U := by
  have hvm : u.vm.Alike U.vm := by
    rcases hv with hW | hE
    · exact hW.alike
    · rw [hE]; exact Vm.Alike.refl u.vm
  have hk : ∀ a : Nat, a < u.heap.size → ¬ mm_fr G a → U.heap[a]? = u.heap[a]? := fun a _ hn => hq a (Nat.not_le.mp hn)
  obtain ⟨h1, h2, h3, h4, h5, h6, h7⟩ := h
  refine ⟨fun C hC => va_AO.moved hvm (h1 C hC), fun j r hj => ((h2 j r hj).moved hvm).kept hk, fun j r hj => ?_, (h4.moved hvm).kept hk, (h5.moved hvm).kept hk, ?_, fun w hw => ?_⟩
  · obtain ⟨a, b, c, d⟩ := h3 j r hj
    refine ⟨?_, (b.moved hvm).kept hk, (c.moved hvm).kept hk, (d.moved hvm).kept hk⟩
    rcases hv with hW | hE
    · exact a.warm hW
    · exact a.same hE
  · rcases hv with hW | hE
    · exact h6.warmC hW
    · exact h6.same rfl hE.symm
  · rcases hv with hW | hE
    · exact nsk_warm (nsl_k w hw) hW (h7 w hw)
    · exact (h7 w hw).same (nsk_tab (nsl_k w hw)) hE.symm
/-- the conditions of the start, one by one -/
abbrev fl_ : List Cond := flatC (Jvm.Cond.and given_1 narrow_1)
theorem ent_arr {s : State} {args : Array Value} {A : Nat → Prop} (hs : ∀ c ∈ fl_, c.before args s = true) (tm : Term) (W : List Int32) (hW : W.length < 2 ^ 31) (h1 : Cond.arrayOf tm .byte ∈ fl_) (h2 : Cond.eq (.length tm) (.int (Int32.ofNat W.length)) ∈ fl_) (h3 : ∀ j, j < W.length → Cond.eq (.elem tm (.int (Int32.ofNat j))) (.int (W.getD j 0)) ∈ fl_) (hA : ∀ a : Nat, a < s.heap.size → ¬ A a) : ∃ t : Nat, tm.eval args s none [] s = some (.ref t) ∧ va_T .byte t W.length (fun j => .int (tp W j)) A s s.heap :=
  va_Tof hW (hs _ h1) (va_eqt (hs _ h2)) (fun j hj => va_eqt (hs _ (h3 j hj))) hA
/-- at a lie the bytes W -/
def bT (s : State) (A : Nat → Prop) (a : Nat) (W : List Int32) : Prop := W.length < 2 ^ 31 ∧ va_T .byte a W.length (fun j => .int (tp W j)) A s s.heap
theorem bT_u {s : State} {A : Nat → Prop} {a : Nat} {W W' : List Int32} (h : bT s A a W) (h' : bT s A a W') : W = W' := by
  obtain ⟨l, c, q1, q2, q3, q4, q5, q6, q7⟩ := h
  obtain ⟨l', c', p1, p2, p3, p4, p5, p6, p7⟩ := h'
  cases q1.symm.trans p1
  have el : W.length = W'.length := by
    have e := q5.symm.trans p5
    have e2 : (nI W.length).toInt = (nI W'.length).toInt := congrArg Int32.toInt e
    rw [nI_toInt l, nI_toInt l'] at e2
    omega
  refine List.ext_getElem el (fun i h1 h2 => ?_)
  have e := (q6 i h1).symm.trans (p6 i h2)
  have e3 : tp W i = tp W' i := Value.int.inj (Option.some.inj e)
  unfold tp at e3
  rw [List.getD_eq_getElem?_getD, List.getD_eq_getElem?_getD, List.getElem?_eq_getElem h1, List.getElem?_eq_getElem h2] at e3
  exact e3
noncomputable def bW (s : State) (A : Nat → Prop) (a : Nat) : List Int32 := Classical.epsilon (fun W => bT s A a W)
theorem bW_sp {s : State} {A : Nat → Prop} {a : Nat} (h : ∃ W, bT s A a W) : bT s A a (bW s A a) := Classical.epsilon_spec h
theorem bW_eq {s : State} {A : Nat → Prop} {a : Nat} {W : List Int32} (h : bT s A a W) : bW s A a = W := bT_u (bW_sp ⟨W, h⟩) h
/-- the memory at the start: the script, arrays of bytes -/
noncomputable def hS0 (s : State) (A : Nat → Prop) (b L : Nat) (xs : Nat → Int32) : mm_M := ((fun a => cif (a = b) 100 (cif (∃ W, bT s A a W) 101 0)), (fun a => cif (a = b) L (bW s A a).length), (fun a j => cif (a = b) (xs j) (tp (bW s A a) j)), (fun _ _ => 0), (fun _ _ => none), s.heap.size)
section HS
variable {s : State} {A : Nat → Prop} {b L : Nat} {xs : Nat → Int32}
theorem hS0_b : mm_k (hS0 s A b L xs) b = 100 ∧ mm_n (hS0 s A b L xs) b = L ∧ ∀ j, mm_I (hS0 s A b L xs) b j = xs j := ⟨cif_y rfl, cif_y rfl, fun j => cif_y rfl⟩
theorem bT_ne {t : Nat} {W : List Int32} (hX : va_X b L xs s s.heap) (h : bT s A t W) : ¬ t = b := by
  intro e
  subst e
  obtain ⟨l, c, q1, q2, q3, q4, q5, q6, q7⟩ := h
  obtain ⟨c', p1, p2, p3⟩ := hX
  cases q1.symm.trans p1
  obtain ⟨k, k1, comp, k2⟩ := q2.2
  obtain ⟨k', k1', comp', k2'⟩ := p2.2
  cases k1.symm.trans k1'
  cases k2.symm.trans k2'
theorem hS0_t {t : Nat} {W : List Int32} (hX : va_X b L xs s s.heap) (h : bT s A t W) : mm_k (hS0 s A b L xs) t = 101 ∧ mm_n (hS0 s A b L xs) t = W.length ∧ ∀ j, mm_I (hS0 s A b L xs) t j = tp W j := by
  have hne := bT_ne hX h
  refine ⟨(cif_n hne).trans (cif_y ⟨W, h⟩), (cif_n hne).trans (by rw [bW_eq h]), fun j => (cif_n hne).trans (by rw [bW_eq h])⟩
theorem bT_lt {t : Nat} {W : List Int32} (h : bT s A t W) : t < s.heap.size := by
  obtain ⟨l, c, q1, q2⟩ := h
  exact (Array.getElem?_eq_some_iff.mp q1).1
theorem hS0_R {D : va_G} {AC : Nat → ClassId} (hX : va_X b L xs s s.heap) (hA : ∀ q, A q ↔ s.heap.size ≤ q) : mm_R D AC s.heap.size s (hS0 s A b L xs) s.heap := by
  have hk : ∀ a, (a = b ∧ mm_k (hS0 s A b L xs) a = 100) ∨ (bT s A a (bW s A a) ∧ ¬ a = b ∧ mm_k (hS0 s A b L xs) a = 101) ∨ mm_k (hS0 s A b L xs) a = 0 := by
    intro a
    by_cases e : a = b
    · exact Or.inl ⟨e, cif_y e⟩
    · by_cases hW : ∃ W, bT s A a W
      · exact Or.inr (Or.inl ⟨bW_sp hW, e, (cif_n e).trans (cif_y hW)⟩)
      · exact Or.inr (Or.inr ((cif_n e).trans (cif_n hW)))
  obtain ⟨scr, x1, x2, x3, x4, x5⟩ := id hX
  refine ⟨rfl, fun a ha => ?_, fun a => ⟨fun c r h1 h2 => ?_, fun c t h1 h2 => ?_⟩⟩
  · rcases hk a with ⟨e, _⟩ | ⟨h, _⟩ | h
    · rw [e]; exact (Array.getElem?_eq_some_iff.mp x1).1
    · exact bT_lt h
    · exact absurd h ha
  · exfalso
    have hlt : c < 13 := (List.getElem?_eq_some_iff.mp h2).1
    rcases hk a with ⟨_, e⟩ | ⟨_, _, e⟩ | e <;> rw [e] at h1 <;> omega
  · rcases hk a with ⟨e, e1⟩ | ⟨h, hne, e1⟩ | e1
    · subst e
      rw [e1] at h1
      have hc : c = 0 := by omega
      subst hc
      cases h2
      refine ⟨fun hb => absurd (Array.getElem?_eq_some_iff.mp x1).1 (Nat.not_lt.mpr hb), scr, x1, x2, x3, ?_, ?_, fun j hj => ?_⟩
      · rw [hS0_b.2.1, x4]; exact Nat.le_refl _
      · rw [hS0_b.2.1, x4]
      · rw [hS0_b.2.1] at hj
        rw [x5 j hj]
        show _ = some (Value.int (mm_I (hS0 s A a L xs) a j))
        rw [hS0_b.2.2 j]
    · rw [e1] at h1
      have hc : c = 1 := by omega
      subst hc
      cases h2
      obtain ⟨q1, q2, q3⟩ := hS0_t hX h
      obtain ⟨l, c, p1, p2, p3, p4, p5, p6, p7⟩ := h
      refine ⟨fun hb => absurd ((hA a).mpr hb) p7, c, p1, p2, p3, by rw [q2]; exact p4, by rw [q2]; exact p5, fun j hj => ?_⟩
      rw [q2] at hj
      rw [p6 j hj]
      show _ = some (Value.int (mm_I (hS0 s A b L xs) a j))
      rw [q3 j]
    · rw [e1] at h1; omega
theorem hS0_bA {t : Nat} {W : List Int32} (hX : va_X b L xs s s.heap) (h : bT s A t W) (hW : ∀ x ∈ W, sb x = x) : bA (hS0 s A b L xs) t W := by
  obtain ⟨q1, q2, q3⟩ := hS0_t hX h
  refine ⟨q1, q2, fun j x hj => ?_⟩
  rw [q3 j, hW x (List.mem_of_getElem? hj)]
  unfold tp
  rw [List.getD_eq_getElem?_getD, hj]
  rfl
theorem hS0_RK {ge : Nat → Nat} {c t : Nat} {W : List Int32} (hX : va_X b L xs s s.heap) (h : bT s A t W) (e : ge c = t) (e0 : ge 0 = s.heap.size) (hW : ∀ i, i < W.length → tp W i &&& 255 = tp W i) : RK1 ge (hS0 s A b L xs) c W := by
  obtain ⟨q1, q2, q3⟩ := hS0_t hX h
  refine ⟨by rw [e]; exact q1, by rw [e]; exact q2, by rw [e, e0]; exact bT_lt h, fun i hi => ?_⟩
  rw [e, q3 i]
  exact hW i hi
end HS
