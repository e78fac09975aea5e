/-! arrays of references, constants of the start, texts -/
section MM
variable {E : mm_E} {own : String} {cc : ByteArray} {nL cs sl pc : Nat} {ret : Option FieldType} {rm : Room} {h : mm_M} {lv : List (Nat × Value)} {rest : List Value}
theorem V_anew {t N index : Nat} {n : Int32} {C : String} (hc : cx E own cc nL ret rm) (ht : aty[t]? = some (.object C)) (hao : C ∈ aob) (hl : Cond.classLink own index C ∈ gw) (hn : ¬ n < 0) (hN : n.toNatClampNeg = N) (hby : N * 4 ≤ 536870912) (hcs : cs + 1 ≤ rm.cells) (hsl : sl + N ≤ rm.slots) (hd : decode cc pc = .ok (.anewarray index, 3))
    (k : V E nL (cs + 1) (sl + N) (mm_nw h (t + 100) N) (pc + 3) lv (va_rf (some (mm_z h)) :: rest)) : V E nL cs sl h pc lv (.int n :: rest) := by
  obtain ⟨G, p, e, R, s, m, args, below, meth, c, Q⟩ := E
  obtain ⟨hx, hb, hml, hret, hlk, hown, hts, hK, hbs, hX, hG, hRm⟩ := hc
  intro H locs ls hR hS hlv
  subst hRm
  subst hN
  refine W.anew hx hb hown (hts _ hl) (va_AO.use ((hG.2 s hX).1 C hao)) rfl hd rfl hn hby hcs hsl fun cA kA comp f1 f2 f3 f4 => ?_
  obtain ⟨kA', comp', g1, g2, g3, g4⟩ := (hK.2 t _ (mm_tys_at ht)).2
  have hcA : cA = mm_gA G t := Option.some.inj (f1.symm.trans g4)
  subst hcA
  generalize hH1 : H.push ({ cls := mm_gA G t, slots := Array.replicate n.toNatClampNeg .null, vm := .none } : Cell) = H1
  have z1 : H1.size = H.size + 1 := by rw [← hH1, Array.size_push]
  have e1 : H1[H.size]? = some (arrV (mm_gA G t) n.toNatClampNeg (fun _ => .null)) := by rw [← hH1, Array.getElem?_push_size, ← arrV_new]
  have o1 : ∀ q : Nat, q < H.size → H1[q]? = H[q]? := fun q hq => by rw [← hH1, Array.getElem?_push, if_neg (Nat.ne_of_lt hq)]
  have hz : H.size = mm_z h := hR.1
  refine W.eq (g2 := F0 m (pc + 3) ls (va_rf (some (mm_z h)) :: rest)) (by rw [hz]; rfl) ?_
  refine k H1 locs ls (mm_R_nw hR z1 o1 ⟨fun c r w1 w2 => ?_, fun c ty' w1 w2 => ?_⟩) ⟨Nat.le_trans hS.1 (by omega), fun q h1 h2 => (o1 q (by have := hS.1; omega)).trans (hS.2.1 q h1 h2), hS.2.2⟩ hlv
  · exfalso
    rw [mm_nw_k, if_pos rfl] at w1
    have hlt : c < tb.length := (List.getElem?_eq_some_iff.mp w2).1
    have : tb.length < 99 := by decide
    omega
  · rw [mm_nw_k, if_pos rfl] at w1
    have hcc : c = t := by omega
    subst hcc
    rw [ht] at w2
    cases w2
    refine mm_ar_arrV (hK.2 c _ (mm_tys_at ht)).1 ?_
    rw [← hz, e1, hz, mm_nw_n, if_pos rfl]
    congr 2
    funext j
    exact (mm_nw_def (ty := .object C) (fun q => by cases q) (fun q => by cases q)).symm
theorem V_aast {a t cn : Nat} {o ov : Option Nat} {i : Int32} {C : String} (hc : cx E own cc nL ret rm) (ht : aty[t]? = some (.object C)) (hcn : (tb.map (fun r => r.1))[cn]? = some C) (ho : o = some a) (hk : mm_k h a = t + 100) (hi : vp_in i (mm_n h a)) (hv : ∀ b, ov = some b → mm_k h b = cn + 1) (hbs9 : mm_gb (eG E) ≤ a) (hd : decode cc pc = .ok (.aastore, 1))
    (k : V E nL cs sl (mm_uP h a i.toNatClampNeg ov) (pc + 1) lv rest) : V E nL cs sl h pc lv (va_rf ov :: .int i :: va_rf o :: rest) := by
  subst ho
  obtain ⟨G, p, e, R, s, m, args, below, meth, c, Q⟩ := E
  obtain ⟨hx, hb, hml, hret, hlk, hown, hts, hK, hbs, hX, hG, hRm⟩ := hc
  intro H locs ls hR hS hlv
  have hcell := ((hR.2.2 a).2 t _ hk ht).1 hbs9
  have hlt : i.toNatClampNeg < mm_n h a := Nat.not_le.mp fun q => hi (Or.inr q)
  have h0 : ¬ i < 0 := fun q => hi (Or.inl q)
  have hA := (hK.2 t _ (mm_tys_at (AC := mm_gA G) ht)).1
  have fin : ∀ (H' : Heap), H'[a]? = some ((arrV (mm_gA G t) (mm_n h a) (fun k => mm_v h a k (.object C))).setSlot i.toNatClampNeg (va_rf ov)) → H'.size = H.size → (∀ q, q ≠ a → H'[q]? = H[q]?) → W p (mm_gl G) e R s m args below meth c H' (locs ++ [⟨a, i.toNatClampNeg⟩]) cs sl Q (F0 m (pc + 1) ls rest) := by
    intro H' e1 e2 e3
    exact k H' _ ls (mm_R_ast hR hA (mm_Up_P h a _ _) hk ht (by rw [mm_v_P rfl]; exact congrArg va_rf mm_up_eq) e1 e2 e3) (hS.put e2 e3 hbs9) hlv
  cases ov with
  | none =>
    exact va_WaastN hx hb hcell (hA _ _) (fun q => by cases q) (by rw [arrV_size]; exact hi) rfl rfl hd fin
  | some v =>
    have hkv := hv v rfl
    rw [List.getElem?_map] at hcn
    cases hr : tb[cn]? with
    | none => rw [hr] at hcn; cases hcn
    | some r =>
      rw [hr] at hcn
      have hrC : r.1 = C := Option.some.inj hcn
      obtain ⟨cellV, g1, g2, g3, -⟩ := (hR.2.2 v).1 cn r hkv hr
      have hcls := (hK.1 cn _ (tb_cls hr)).2
      obtain ⟨kA, comp, k1, k2, k3, -⟩ := (hK.2 t _ (mm_tys_at (AC := mm_gA G) ht)).2
      have hcomp : comp = (mm_gD G).1 cn := Option.some.inj (k3.symm.trans (by rw [← hrC]; exact hcls.1))
      subst hcomp
      obtain ⟨kC, hkC, -⟩ := hcls.2
      exact W.aast hx hb hcell (fun q h => by cases h) (fun h => by cases h) k1 k2 rfl hkC ⟨h0, by rw [arrV_size]; exact hlt⟩ g1 (fun q h => by rw [g3] at h; cases h) (by rw [g2]; exact hkC) (by rw [g2]; exact va_assign hcls) rfl rfl hd fin
/-- a constant array -/
theorem V_gets {index j : Nat} {r : String × String × String} (hc : cx E own cc nL ret rm) (hj : stl[j]? = some r) (hl : Cond.fieldLink own index r.1 r.2.1 r.2.2 ∈ gw) (hd : decode cc pc = .ok (.getstatic index, 3))
    (k : V E nL cs sl h (pc + 3) lv (va_rf (some (mm_ge (eG E) (j + 1))) :: rest)) : V E nL cs sl h pc lv rest := by
  obtain ⟨G, p, e, R, s, m, args, below, meth, c, Q⟩ := E
  obtain ⟨hx, hb, hml, hret, hlk, hown, hts, hK, hbs, hX, hG, hRm⟩ := hc
  intro H locs ls hR hS hlv
  exact va_gets hx hb ((hG.2 s hX).2.1 j r hj) hS hown (hts _ hl) (fun _ h9 => h9) hd (k H locs ls hR hS hlv)
/-- bytes of one array come into another, from their beginnings -/
def mm_ac (h : mm_M) (a d n : Nat) : mm_M := (h.1, h.2.1, (fun b j => if b = d ∧ j < n then mm_I h a j else mm_I h b j), h.2.2.2)
theorem V_acopy {index a d : Nat} {n : Int32} (hc : cx E own cc nL ret rm) (hl : Cond.methodLink own index arraycopyName ∈ gw) (hnat : Cond.native arraycopyName ∈ gw) (hst : Cond.static arraycopyName ∈ gw) (hini : Cond.initialized "java/lang/System" ∈ gw) (ha : mm_k h a = 1 + 100) (hdk : mm_k h d = 1 + 100) (hbd : mm_gb (eG E) ≤ d) (h3 : ¬ n < 0) (h4 : n.toNatClampNeg ≤ mm_n h a) (h5 : n.toNatClampNeg ≤ mm_n h d) (hfit : ∀ i, i < n.toNatClampNeg → fits .byte (.int (mm_I h a i)) = true) (hfr : 1 ≤ rm.frames) (hlo : (rest.map fun v => v.category).sum + (nativeFrameWords "java/lang/System" "arraycopy" 5 + 11) ≤ rm.locals) (hd : decode cc pc = .ok (.invokestatic index, 3))
    (k : V E nL cs sl (mm_ac h a d n.toNatClampNeg) (pc + 3) lv rest) : V E nL cs sl h pc lv (.int n :: .int 0 :: va_rf (some d) :: .int 0 :: va_rf (some a) :: rest) := by
  obtain ⟨G, p, e, R, s, m, args, below, meth, c, Q⟩ := E
  obtain ⟨hx, hb, hml, hret, hlk, hown, hts, hK, hbs, hX, hG, hRm⟩ := hc
  intro H locs ls hR hS hlv
  subst hRm
  have nn : ∀ z : Int32, ¬ z < 0 → z.toInt = (z.toNatClampNeg : Int) := by
    intro z hz
    have hz0 : (0 : Int) ≤ z.toInt := by
      have := Int32.not_lt.mp hz
      simpa using Int32.le_iff_toInt_le.mp this
    show z.toInt = ((z.toInt.toNat : Nat) : Int)
    omega
  have z0 : (0 : Int32).toNatClampNeg = 0 := by decide
  have zi : (0 : Int32).toInt = 0 := by decide
  obtain ⟨-, scr, q2, q3, q4, q5, q6, q7⟩ := (hR.2.2 a).2 1 .byte ha rfl
  have hc1 : H[d]? = some (arrV (mm_gA G 1) (mm_n h d) (fun j => .int (mm_I h d j))) := ((hR.2.2 d).2 1 .byte hdk rfl).1 hbd
  obtain ⟨hs6, k0, hk0, cm0, hkk0⟩ := q3
  obtain ⟨-, k1, hk1, cm1, hkk1⟩ := (hK.2 1 _ (mm_tys_at (AC := mm_gA G) (c := 1) rfl)).1 (mm_n h d) (fun j => .int (mm_I h d j))
  intro T hT X
  obtain ⟨vm', X', step⟩ := X.arraycopy hx hown (hts _ hl) (hts _ hnat) (hts _ hst) (hts _ hini) (src := a) (dst := d) (cs := scr) (cd := arrV (mm_gA G 1) (mm_n h d) (fun j => .int (mm_I h d j))) (srcPos := 0) (destPos := 0) (n := n) (by rw [hT]; exact q2) (by rw [hT]; exact hc1)
    hs6 (fun _ h => by cases h) q4 (fun h => by cases h) hk0 hk1 hkk0 hkk1 (by simp [refKind]) (by decide) (by decide) h3
    (by rw [zi, nn n h3]; omega)
    (by rw [zi, nn n h3, arrV_size]; omega)
    (fun vm₁ _ i hi => by
      have e : scr.slots.getD ((0 : Int32).toNatClampNeg + i) .null = .int (mm_I h a i) := by
        rw [z0, Nat.zero_add, Array.getD_eq_getD_getElem?, q7 _ (by omega)]
        rfl
      refine ⟨?_, ?_⟩
      · rw [e]
        exact hfit i hi
      · rw [e]
        exact trivial)
    (g := F0 m pc ls (.int n :: .int 0 :: .ref d :: .int 0 :: .ref a :: rest)) rfl (by rw [hml]; exact hlv.1) (rest := rest) rfl (by rw [hb]; exact hd) hfr (by show 2 * 0 + _ + _ ≤ _; omega)
  have e1 : copied scr (arrV (mm_gA G 1) (mm_n h d) (fun j => .int (mm_I h d j))) 0 0 n = arrV (mm_gA G 1) (mm_n h d) (fun j => .int (va_cpy (mm_I h a) (mm_I h d) (0 : Int32).toNatClampNeg (0 : Int32).toNatClampNeg n.toNatClampNeg j)) := va_copiedX (fun z => .int z) scr (mm_gA G 1) (mm_I h a) (mm_I h d) q7 (by rw [z0]; omega)
  rw [e1] at X' step
  have hl9 : d < H.size := (Array.getElem?_eq_some_iff.mp hc1).1
  generalize hce : arrV (mm_gA G 1) (mm_n h d) (fun j => .int (va_cpy (mm_I h a) (mm_I h d) (0 : Int32).toNatClampNeg (0 : Int32).toNatClampNeg n.toNatClampNeg j)) = cel at X' step
  have hheap : ((T.setVm vm').setCell d cel).heap = H.setIfInBounds d cel := by rw [← hT]; rfl
  have oq : ∀ q : Nat, q ≠ d → (H.setIfInBounds d cel)[q]? = H[q]? := fun q hq => by simp [Array.getElem?_setIfInBounds, Ne.symm hq]
  have hRn : mm_R (mm_gD G) (mm_gA G) (mm_gb G) s (mm_ac h a d n.toNatClampNeg) (H.setIfInBounds d cel) := by
    refine ⟨by rw [Array.size_setIfInBounds]; exact hR.1, hR.2.1, fun b => ?_⟩
    by_cases hbd2 : b = d
    · subst hbd2
      refine ⟨fun c' r' f1 f2 => ?_, fun c' t' f1 f2 => ?_⟩
      · exfalso
        have f1 : mm_k h b = c' + 1 := f1
        have hlt : c' < tb.length := (List.getElem?_eq_some_iff.mp f2).1
        have : tb.length < 99 := by decide
        omega
      · have f1 : mm_k h b = c' + 100 := f1
        have hcc : c' = 1 := by omega
        subst hcc
        cases f2
        refine mm_ar_arrV (hK.2 1 _ (mm_tys_at (AC := mm_gA G) (c := 1) rfl)).1 ?_
        rw [show (H.setIfInBounds b cel)[b]? = some cel by simp [Array.getElem?_setIfInBounds, hl9], ← hce]
        congr 2
        funext j
        show Value.int _ = Value.int _
        congr 1
        show va_cpy _ _ _ _ _ _ = if b = b ∧ j < n.toNatClampNeg then mm_I h a j else mm_I h b j
        rw [z0]
        unfold va_cpy
        simp
    · refine mm_c_kept (hR.2.2 b) rfl rfl (fun j ty => ?_) (oq b hbd2)
      have e9 : mm_I (mm_ac h a d n.toNatClampNeg) b j = mm_I h b j := by show (if b = d ∧ _ then _ else _) = _; rw [if_neg (fun z => hbd2 z.1)]
      cases ty <;> first | rfl | (show Value.int _ = Value.int _; rw [e9])
  obtain ⟨t, a1, b1⟩ := k _ _ ls hRn ⟨by rw [Array.size_setIfInBounds]; exact hS.1, fun q g1 g2 => by
      rw [oq q (fun e => g2 (by rw [e]; exact hbd))]
      exact hS.2.1 q g1 g2, fun q hq => by
      rcases List.mem_append.mp hq with h | h
      · exact hS.2.2 q h
      · obtain ⟨z, -, hz⟩ := List.mem_map.mp h
        rw [← hz]
        exact hbd⟩ hlv _ hheap X'
  exact ⟨t, step t a1, b1⟩
/-- a new array of N bytes, the first of them those of a -/
def mm_cp (h : mm_M) (a N : Nat) : mm_M := (va_up h.1 (mm_z h) 101, va_up h.2.1 (mm_z h) N, (fun b j => if b = mm_z h then (if j < mm_n h a ∧ j < N then mm_I h a j else 0) else mm_I h b j), mm_cl h.2.2.2.1 (mm_z h) 0, mm_cl h.2.2.2.2.1 (mm_z h) none, mm_z h + 1)
theorem mm_ac_cp (h : mm_M) {a N : Nat} (ha : a ≠ mm_z h) {n : Nat} (hn : n = if N < mm_n h a then N else mm_n h a) : mm_ac (mm_nw h 101 N) a (mm_z h) n = mm_cp h a N := by
  unfold mm_ac mm_cp
  refine Prod.ext rfl (Prod.ext rfl (Prod.ext ?_ rfl))
  funext b j
  show (if b = mm_z h ∧ j < n then mm_I (mm_nw h 101 N) a j else mm_I (mm_nw h 101 N) b j) = if b = mm_z h then (if j < mm_n h a ∧ j < N then mm_I h a j else 0) else mm_I h b j
  have e1 : ∀ x, mm_I (mm_nw h 101 N) x j = if x = mm_z h then 0 else mm_I h x j := fun x => rfl
  rw [e1, e1, if_neg ha]
  by_cases hb : b = mm_z h
  · rw [if_pos hb, if_pos hb]
    by_cases hj : j < n
    · rw [if_pos ⟨hb, hj⟩, if_pos (by split at hn <;> omega)]
    · rw [if_neg (fun z => hj z.2), if_neg (by split at hn <;> omega)]
  · rw [if_neg (fun z => hb z.1), if_neg hb, if_neg hb]
theorem V_clone {index a : Nat} {ad : String} (hc : cx E own cc nL ret rm) (had : ad = "[B") (hl : Cond.methodLink own index ⟨ad, "clone", "()Ljava/lang/Object;"⟩ ∈ gw) (hsm : Cond.sameMethod ad "java/lang/Object" "clone" "()Ljava/lang/Object;" ∈ gw) (hnat : Cond.native ⟨"java/lang/Object", "clone", "()Ljava/lang/Object;"⟩ ∈ gw) (hin : Cond.instanceMethod ⟨"java/lang/Object", "clone", "()Ljava/lang/Object;"⟩ ∈ gw) (hsel : Cond.selects ad ⟨ad, "clone", "()Ljava/lang/Object;"⟩ ⟨"java/lang/Object", "clone", "()Ljava/lang/Object;"⟩ ∈ gw)
    (ha : mm_k h a = 1 + 100) (hba : mm_gb (eG E) ≤ a) (hfit : ∀ i, i < mm_n h a → fits .byte (.int (mm_I h a i)) = true) (hfr : 1 ≤ rm.frames) (hlo : (rest.map fun v => v.category).sum + 14 ≤ rm.locals) (hcs : cs + 1 ≤ rm.cells) (hsl : sl + mm_n h a ≤ rm.slots) (hd : decode cc pc = .ok (.invokevirtual index, 3))
    (k : V E nL (cs + 1) (sl + mm_n h a) (mm_cp h a (mm_n h a)) (pc + 3) lv (va_rf (some (mm_z h)) :: rest)) : V E nL cs sl h pc lv (va_rf (some a) :: rest) := by
  obtain ⟨G, p, e, R, s, m, args, below, meth, c, Q⟩ := E
  obtain ⟨hx, hb, hml, hret, hlk, hown, hts, hK, hbs, hX, hG, hRm⟩ := hc
  intro H locs ls hR hS hlv
  subst hRm
  subst had
  have hnm : s.vm.findClass "[B" = some (mm_gA G 1) := (hK.2 1 _ (mm_tys_at (AC := mm_gA G) (c := 1) rfl)).2
  have hcell : H[a]? = some (arrV (mm_gA G 1) (mm_n h a) (fun j => .int (mm_I h a j))) := ((hR.2.2 a).2 1 .byte ha rfl).1 hba
  obtain ⟨c0, t0', f1, f2, f3⟩ := Cond.castable_spec (va_Nw.use (A := args) rfl (hG.2 s hX).2.2.2.2.2.1)
  cases hnm.symm.trans f1
  intro T hT X
  obtain ⟨-, kA, hkA, comp, hkind⟩ := State.isArrayOf_alike X.warmed.alike ((hK.2 1 _ (mm_tys_at (AC := mm_gA G) (c := 1) rfl)).1 0 (fun _ => .null))
  obtain ⟨-, kS, hkS, compS, hkindS⟩ := (hK.2 1 _ (mm_tys_at (AC := mm_gA G) (c := 1) rfl)).1 0 (fun _ => .null)
  obtain ⟨vm', X', st⟩ := X.cloneArray hx hown (hts _ hl) (hts _ hsm) (hts _ hnat) (hts _ hin) (hts _ hsel) (a := a) (cell := arrV (mm_gA G 1) (mm_n h a) (fun j => .int (mm_I h a j))) (by rw [hT]; exact hcell) (fun k h => by cases h) (fun h => by cases h) hnm f2 f3
    (fun i v hv => by
      have hk' : T.vm.classes[mm_gA G 1]? = some kA := hkA
      have hi : i < mm_n h a := by
        have := (Array.getElem?_eq_some_iff.mp hv).1
        rw [arrV_size] at this
        exact this
      rw [arrV_read _ _ hi] at hv
      cases hv
      have := hfit i hi
      show T.fitsSlot (mm_gA G 1) _ i _ = true
      simpa [State.fitsSlot, State.slotType?, hk', hkind, arrV] using this)
    (g := F0 m pc ls (.ref a :: rest)) rfl (by rw [hml]; exact hlv.1) rfl (by rw [hb]; exact hd) hfr (by show 2 * 0 + _ + 14 ≤ _; omega) hcs (by rw [arrV_size]; exact hsl) (hloader := Vm.clonesLoader_of_array hkS hkindS)
  rw [arrV_size] at X'
  generalize hce : arrV (mm_gA G 1) (mm_n h a) (fun j => .int (mm_I h a j)) = cel at X' st
  have hz : H.size = mm_z h := hR.1
  have hcel : ({ cls := cel.cls, slots := cel.slots } : Cell) = cel := by rw [← hce]; rfl
  rw [hcel] at X' st
  have o1 : ∀ q : Nat, q < H.size → (H.push cel)[q]? = H[q]? := fun q hq => by rw [Array.getElem?_push, if_neg (Nat.ne_of_lt hq)]
  have az : a ≠ mm_z h := by have := mm_lt hR (a := a) (by omega); omega
  have hRn : mm_R (mm_gD G) (mm_gA G) (mm_gb G) s (mm_cp h a (mm_n h a)) (H.push cel) := by
    refine ⟨by rw [Array.size_push, hz]; rfl, fun b hb => ?_, fun b => ?_⟩
    · show b < mm_z h + 1
      have hb : (if b = mm_z h then 101 else mm_k h b) ≠ 0 := hb
      by_cases hbz : b = mm_z h
      · omega
      · rw [if_neg hbz] at hb
        have := hR.2.1 b hb
        omega
    · by_cases hbz : b = mm_z h
      · subst hbz
        refine ⟨fun c' r' g1 g2 => ?_, fun c' t' g1 g2 => ?_⟩
        · exfalso
          have g1 : (if mm_z h = mm_z h then 101 else mm_k h (mm_z h)) = c' + 1 := g1
          rw [if_pos rfl] at g1
          have hlt : c' < tb.length := (List.getElem?_eq_some_iff.mp g2).1
          have : tb.length < 99 := by decide
          omega
        · have g1 : (if mm_z h = mm_z h then 101 else mm_k h (mm_z h)) = c' + 100 := g1
          rw [if_pos rfl] at g1
          have hcc : c' = 1 := by omega
          subst hcc
          cases g2
          refine mm_ar_arrV (hK.2 1 _ (mm_tys_at (AC := mm_gA G) (c := 1) rfl)).1 ?_
          have en : mm_n (mm_cp h a (mm_n h a)) (mm_z h) = mm_n h a := by show (if mm_z h = mm_z h then _ else _) = _; rw [if_pos rfl]
          rw [en, ← hz, Array.getElem?_push_size, ← hce, hz]
          refine congrArg some ?_
          unfold arrV
          congr 1
          congr 1
          funext j
          show Value.int _ = Value.int (if mm_z h = mm_z h then (if (j : Nat) < mm_n h a ∧ (j : Nat) < mm_n h a then mm_I h a j else 0) else mm_I h (mm_z h) j)
          rw [if_pos rfl, if_pos ⟨j.2, j.2⟩]
      · have ek : mm_k (mm_cp h a (mm_n h a)) b = mm_k h b := by show (if b = mm_z h then _ else _) = _; rw [if_neg hbz]; rfl
        have en : mm_n (mm_cp h a (mm_n h a)) b = mm_n h b := by show (if b = mm_z h then _ else _) = _; rw [if_neg hbz]; rfl
        by_cases hk0 : mm_k h b = 0
        · refine ⟨fun c r e1 _ => ?_, fun c r e1 _ => ?_⟩ <;> (rw [ek, hk0] at e1; omega)
        · refine mm_c_kept (hR.2.2 b) ek en (fun j ty => ?_) (o1 b (mm_lt hR hk0))
          have e1 : mm_I (mm_cp h a (mm_n h a)) b j = mm_I h b j := by show (if b = mm_z h then _ else _) = _; rw [if_neg hbz]
          have e2 : mm_L (mm_cp h a (mm_n h a)) b j = mm_L h b j := by show mm_cl _ _ _ b j = _; unfold mm_cl; rw [if_neg hbz]; rfl
          have e3 : mm_P (mm_cp h a (mm_n h a)) b j = mm_P h b j := by show mm_cl _ _ _ b j = _; unfold mm_cl; rw [if_neg hbz]; rfl
          cases ty <;> first | (show Value.int _ = Value.int _; rw [e1]) | (show Value.long _ = Value.long _; rw [e2]) | (show va_rf _ = va_rf _; rw [e3])
  obtain ⟨t, b1, b2⟩ := k (H.push cel) locs ls hRn ⟨Nat.le_trans hS.1 (by rw [Array.size_push]; omega), fun q h1 h2 => (o1 q (by have := hS.1; omega)).trans (hS.2.1 q h1 h2), hS.2.2⟩ hlv ((T.setVm vm').pushCell cel) (by rw [← hT]; rfl) X'
  refine ⟨t, st t ?_, b2⟩
  have ez : T.heap.size = mm_z h := by rw [hT]; exact hz
  rw [ez]
  exact b1
theorem V_castB {index a : Nat} {nm : String} (hc : cx E own cc nL ret rm) (hnm : nm = "[B") (hl : Cond.classLink own index nm ∈ gw) (ha : mm_k h a = 1 + 100) (hba : mm_gb (eG E) ≤ a) (hd : decode cc pc = .ok (.checkcast index, 3))
    (k : V E nL cs sl h (pc + 3) lv (va_rf (some a) :: rest)) : V E nL cs sl h pc lv (va_rf (some a) :: rest) := by
  obtain ⟨G, p, e, R, s, m, args, below, meth, c, Q⟩ := E
  obtain ⟨hx, hb, hml, hret, hlk, hown, hts, hK, hbs, hX, hG, hRm⟩ := hc
  intro H locs ls hR hS hlv
  subst hnm
  have hnm : s.vm.findClass "[B" = some (mm_gA G 1) := (hK.2 1 _ (mm_tys_at (AC := mm_gA G) (c := 1) rfl)).2
  exact va_castE hx hb hown (hts _ hl) ⟨_, ((hR.2.2 a).2 1 .byte ha rfl).1 hba, rfl, hnm⟩ hd (k H locs ls hR hS hlv)
end MM
