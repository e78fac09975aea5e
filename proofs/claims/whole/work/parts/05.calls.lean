/-! CALLS AND CONTRACTS -/
def pI (P : Int32 → mm_M → Prop) : Option Value → mm_M → Prop := fun r h => ∃ x, r = some (.int x) ∧ P x h
def pL (P : Int64 → mm_M → Prop) : Option Value → mm_M → Prop := fun r h => ∃ x, r = some (.long x) ∧ P x h
def pP (P : Option Nat → mm_M → Prop) : Option Value → mm_M → Prop := fun r h => ∃ x, r = some (va_rf x) ∧ P x h
def pV (P : mm_M → Prop) : Option Value → mm_M → Prop := fun r h => r = none ∧ P h
theorem mm_blind (G : mm_G) (as : List Value) (h : mm_M) : FrameBlind (mm_Pc G as h) := by
  intro a U g mk q
  obtain ⟨q0, q1, q2, q3, q4, q5⟩ := q
  exact ⟨q0, mm_R_moved (u := U) (U := U.calling g mk a) (Vm.Alike.refl U.vm) q1, va_K.moved (u := U) (U := U.calling g mk a) (Vm.Alike.refl U.vm) q2, q3, q5.1 U (U.calling g mk a) (Or.inr rfl) (fun _ _ => rfl) q4, q5⟩
theorem mm_intro {G : mm_G} {y : MethodName} {cc : ByteArray} {maxL : Nat} {ret : Option FieldType} {rm : Room} {as : List Value} {h : mm_M} {post : Option Value → mm_M → Prop} {own : String} (hy : plainName y.cls = true) (hown : y.cls = own) (hlen : (lg_sl as).length ≤ maxL)
    (body : ∀ E : mm_E, eG E = G → cx E own cc maxL ret rm → cq E rm post → (y.name = "<init>" → ci E) → V E maxL 0 0 h 0 (lv_args 0 as) []) : mm_Met G y cc maxL ret rm as h post := by
  refine Met.ofW (cc := cc) (maxL := maxL) (ret := ret) hy rfl ?_
  intro p e s m args below meth c s₁ B hml hv
  obtain ⟨rfl, hR, hK, hbs, hX, hG⟩ := hv
  have hts := atoms_spec (ws := Cond.code y cc maxL ret :: gw) B.pre
  have hown2 : s.vm.findClass own = some m.cls := by rw [← hown]; exact findClass_of_methodNamed B.named
  have hl := lv_entry as (n := maxL) hlen
  rw [lg_entry_eq]
  have k := body (G, p, e, rm, s, m, as.toArray, below, meth, c, MQ below (mm_Qc G post) as.toArray s rm.cells rm.slots (mm_fr G)) rfl ⟨B.exec, B.bytes, hml, B.returns, B.notSynchronized, hown2, fun w hw => hts w (List.mem_cons_of_mem _ hw), hK, hbs, hX, hG, rfl⟩ rfl (fun hn => by
    have := (name_of_methodNamed B.named B.method).1
    show meth.name = "<init>"
    rw [this, hn])
  exact k s.heap [] _ hR va_S.rf hl
section CC
variable {E : mm_E} {own : String} {cc : ByteArray} {nL cs sl pc : Nat} {ret : Option FieldType} {rm : Room} {h : mm_M} {lv : List (Nat × Value)} {rest : List Value}
/-- what a call needs of the tables -/
def cvB (own : String) (index : Nat) (y : MethodName) (bytes : ByteArray) (maxL : Nat) (ret : Option FieldType) (n : Nat) : Prop :=
  Cond.methodLink own index y ∈ gw ∧ Cond.initialized y.cls ∈ gw ∧ Cond.code y bytes maxL ret ∈ gw ∧ y.cls ≠ "java/lang/invoke/MethodHandle" ∧ y.cls ≠ "java/lang/invoke/VarHandle" ∧ (parseMethodDescriptor y.desc).map (fun d => d.parameters.length) = some n
def cvN (own : String) (index : Nat) (y : MethodName) (bytes : ByteArray) (maxL : Nat) (ret : Option FieldType) (n : Nat) (host : String) : Prop :=
  Cond.methodLinkNest own index y host ∈ nsl ∧ Cond.initialized y.cls ∈ gw ∧ Cond.code y bytes maxL ret ∈ gw ∧ y.cls ≠ "java/lang/invoke/MethodHandle" ∧ y.cls ≠ "java/lang/invoke/VarHandle" ∧ (parseMethodDescriptor y.desc).map (fun d => d.parameters.length) = some n
def rmOk (rm rm' : Room) (maxL : Nat) : Prop := rm'.frames + 1 ≤ rm.frames ∧ 8 + (maxL + 11) + rm'.locals ≤ rm.locals
theorem cv_ws {y : MethodName} {bytes : ByteArray} {maxL : Nat} {ret : Option FieldType} (h : Cond.code y bytes maxL ret ∈ gw) : GoodIn gw (Cond.code y bytes maxL ret :: gw) := gw_good (fun w hw => (List.mem_cons.mp hw).elim (fun e => e ▸ h) id)
theorem cx_pre {G : mm_G} {p : Program} {e : Env} {R : Room} {s : State} {m : MethodId} {args : Array Value} {below : List Frame} {meth : Method} {c : Code} {Q : State → Prop} {H : Heap} {locs : List Loc} (hc : cx (G, p, e, R, s, m, args, below, meth, c, Q) own cc nL ret rm) (hR : mm_R (mm_gD G) (mm_gA G) (mm_gb G) s h H) (hS : va_S (mm_fr G) s.heap H locs) (as : List Value) : ∀ U : State, U.heap = H → s.WarmedH U.vm → mm_Pc G as h as.toArray U := by
  obtain ⟨hx, hb, hml, hret, hlk, hown, hts, hK, hbs, hX, hG, hRm⟩ := hc
  intro U hU hW
  refine ⟨rfl, by rw [hU]; exact mm_R_moved hW.alike hR, va_K.moved hW.alike hK, by rw [hU]; exact Nat.le_trans hbs hS.1, hG.1 s U (Or.inl hW) (fun q hq => ?_) hX, hG⟩
  rw [hU]
  exact hS.2.1 q (Nat.lt_of_lt_of_le hq hbs) (by unfold mm_fr; omega)
theorem V_back {G : mm_G} {p : Program} {e : Env} {R : Room} {s : State} {m : MethodId} {args : Array Value} {below : List Frame} {meth : Method} {c : Code} {Q : State → Prop} {H : Heap} {locs : List Loc} {ls : Array Slot} {post : Option Value → mm_M → Prop} {mc ms : Nat} {a : Array Value} {st0 : List Value} (hlv : lv_has ls nL lv) (hS : va_S (mm_fr G) s.heap H locs)
    (hr : va_Run p (mm_gl G) e R s m args below meth c H locs cs sl mc ms (F0 m pc ls st0) rest (mm_Qc G post a) (mm_fr G))
    (k : ∀ r h', post r h' → V (G, p, e, R, s, m, args, below, meth, c, Q) nL (cs + mc) (sl + ms) h' (pc + 3) lv (r.toList ++ rest)) : W p (mm_gl G) e R s m args below meth c H locs cs sl Q (F0 m pc ls st0) := by
  intro T hT X
  obtain ⟨v, st₀, t, T', L, h0, X', hL, e1, e2, ⟨⟨r, h', hv, hp, hR'⟩, hz, hk⟩, st⟩ := hr T hT X
  cases hv
  rw [h0] at hz hk
  obtain ⟨t2, a1, b1⟩ := k v h' hp T'.heap (locs ++ L) ls (by rw [e1]; exact mm_R_moved (by rw [← e2]; exact X'.warmed.alike.symm) hR') ⟨Nat.le_trans hS.1 (by rw [e1]; exact hz), fun q h1 h2 => by rw [e1, hk q (Nat.lt_of_lt_of_le h1 hS.1) h2]; exact hS.2.1 q h1 h2, fun q hq => by
      rcases List.mem_append.mp hq with h | h
      · exact hS.2.2 q h
      · exact hL q h⟩ hlv T' rfl X'
  exact ⟨t2, st t2 a1, b1⟩
theorem V_callV {index cn n maxL b : Nat} {y : MethodName} {bytes : ByteArray} {ret' : Option FieldType} {rm' : Room} {As : List Value} {o : Option Nat} {st0 : List Value} {post : Option Value → mm_M → Prop} (hc : cx E own cc nL ret rm) (ho : o = some b) (hk : mm_k h b = cn + 1) (hM : mm_Met (eG E) y bytes maxL ret' rm' (va_rf (some b) :: As) h post) (hcn : (tb.map (fun r => r.1))[cn]? = some y.cls) (hv : cvB own index y bytes maxL ret' n) (hi : Cond.instanceMethod y ∈ gw) (hs : Cond.selects y.cls y y ∈ gw)
    (hn : As.length = n) (hrm : rmOk rm rm' maxL) (hcs : cs + rm'.cells ≤ rm.cells) (hsl : sl + rm'.slots ≤ rm.slots) (hst : st0 = As.reverse ++ va_rf o :: rest) (h8 : (rest.map fun v => v.category).sum ≤ 8) (hd : decode cc pc = .ok (.invokevirtual index, 3))
    (k : ∀ r h', post r h' → V E nL (cs + rm'.cells) (sl + rm'.slots) h' (pc + 3) lv (r.toList ++ rest)) : V E nL cs sl h pc lv st0 := by
  subst hst
  subst ho
  obtain ⟨G, p, e, R, s, m, args, below, meth, c, Q⟩ := E
  have hc0 := hc
  obtain ⟨hx, hb, hml, hret, hlk, hown, hts, hK, hbs, hX, hG, hRm⟩ := hc
  subst hRm
  intro H locs ls hR hS hlv
  obtain ⟨v1, v2, v3, v4, v5, v6⟩ := hv
  have hcell : ∃ cellB : Cell, H[b]? = some cellB ∧ cellB.vm.isStatics = false ∧ s.vm.findClass y.cls = some cellB.cls := by
    rw [List.getElem?_map] at hcn
    cases hr : tb[cn]? with
    | none => rw [hr] at hcn; cases hcn
    | some r =>
      rw [hr] at hcn
      obtain ⟨cell, q1, q2, q3, -⟩ := (hR.2.2 b).1 cn r hk hr
      have hKc := (hK.1 cn _ (tb_cls hr)).2.1
      exact ⟨cell, q1, by rw [q3]; rfl, by rw [q2, ← Option.some.inj hcn]; exact hKc⟩
  exact V_back hlv hS (va_runV (As := As) (rest := rest) (C := y.cls) ⟨hx, hb, hml, hown, hts⟩ hM ⟨callB_of n hts (cv_ws v3) rfl rfl rfl (hts _ v2) (hts _ v1) ⟨v4, v5, v6⟩ hrm, hts _ hi, hts _ hs⟩ ⟨mm_blind _ _ _, hcell, cx_pre hc0 hR hS _⟩ rfl hn hlv.1 rfl (lv_room h8) hd ⟨hcs, hsl⟩) k
theorem V_callVN {index cn n maxL b : Nat} {host : String} {y : MethodName} {bytes : ByteArray} {ret' : Option FieldType} {rm' : Room} {As : List Value} {o : Option Nat} {st0 : List Value} {post : Option Value → mm_M → Prop} (hc : cx E own cc nL ret rm) (ho : o = some b) (hk : mm_k h b = cn + 1) (hM : mm_Met (eG E) y bytes maxL ret' rm' (va_rf (some b) :: As) h post) (hcn : (tb.map (fun r => r.1))[cn]? = some y.cls) (hv : cvN own index y bytes maxL ret' n host) (hi : Cond.instanceMethod y ∈ gw) (hs : Cond.selects y.cls y y ∈ gw)
    (hn : As.length = n) (hrm : rmOk rm rm' maxL) (hcs : cs + rm'.cells ≤ rm.cells) (hsl : sl + rm'.slots ≤ rm.slots) (hst : st0 = As.reverse ++ va_rf o :: rest) (h8 : (rest.map fun v => v.category).sum ≤ 8) (hd : decode cc pc = .ok (.invokevirtual index, 3))
    (k : ∀ r h', post r h' → V E nL (cs + rm'.cells) (sl + rm'.slots) h' (pc + 3) lv (r.toList ++ rest)) : V E nL cs sl h pc lv st0 := by
  subst hst
  subst ho
  obtain ⟨G, p, e, R, s, m, args, below, meth, c, Q⟩ := E
  have hc0 := hc
  obtain ⟨hx, hb, hml, hret, hlk, hown, hts, hK, hbs, hX, hG, hRm⟩ := hc
  subst hRm
  intro H locs ls hR hS hlv
  obtain ⟨v1, v2, v3, v4, v5, v6⟩ := hv
  have hcell : ∃ cellB : Cell, H[b]? = some cellB ∧ cellB.vm.isStatics = false ∧ s.vm.findClass y.cls = some cellB.cls := by
    rw [List.getElem?_map] at hcn
    cases hr : tb[cn]? with
    | none => rw [hr] at hcn; cases hcn
    | some r =>
      rw [hr] at hcn
      obtain ⟨cell, q1, q2, q3, -⟩ := (hR.2.2 b).1 cn r hk hr
      have hKc := (hK.1 cn _ (tb_cls hr)).2.1
      exact ⟨cell, q1, by rw [q3]; rfl, by rw [q2, ← Option.some.inj hcn]; exact hKc⟩
  exact V_back hlv hS (va_runVN (As := As) (rest := rest) (C := y.cls) ⟨hx, hb, hml, hown, hts⟩ hM ⟨va_cnB n hts (cv_ws v3) rfl rfl rfl ((hG.2 s hX).2.2.2.2.2.2 _ v1) (hts _ v2) ⟨v4, v5, v6⟩ hrm, hts _ hi, hts _ hs⟩ ⟨mm_blind _ _ _, hcell, cx_pre hc0 hR hS _⟩ rfl hn hlv.1 rfl (lv_room h8) hd ⟨hcs, hsl⟩) k
theorem V_callS {index n maxL : Nat} {y : MethodName} {bytes : ByteArray} {ret' : Option FieldType} {rm' : Room} {As : List Value} {st0 : List Value} {post : Option Value → mm_M → Prop} (hc : cx E own cc nL ret rm) (hM : mm_Met (eG E) y bytes maxL ret' rm' As h post) (hv : cvB own index y bytes maxL ret' n) (hi : Cond.static y ∈ gw)
    (hn : As.length = n) (hrm : rmOk rm rm' maxL) (hcs : cs + rm'.cells ≤ rm.cells) (hsl : sl + rm'.slots ≤ rm.slots) (hst : st0 = As.reverse ++ rest) (h8 : (rest.map fun v => v.category).sum ≤ 8) (hd : decode cc pc = .ok (.invokestatic index, 3))
    (k : ∀ r h', post r h' → V E nL (cs + rm'.cells) (sl + rm'.slots) h' (pc + 3) lv (r.toList ++ rest)) : V E nL cs sl h pc lv st0 := by
  subst hst
  obtain ⟨G, p, e, R, s, m, args, below, meth, c, Q⟩ := E
  have hc0 := hc
  obtain ⟨hx, hb, hml, hret, hlk, hown, hts, hK, hbs, hX, hG, hRm⟩ := hc
  subst hRm
  intro H locs ls hR hS hlv
  obtain ⟨v1, v2, v3, v4, v5, v6⟩ := hv
  exact V_back hlv hS (va_runS (As := As) (rest := rest) ⟨hx, hb, hml, hown, hts⟩ hM ⟨callB_of n hts (cv_ws v3) rfl rfl rfl (hts _ v2) (hts _ v1) ⟨v4, v5, v6⟩ hrm, hts _ hi⟩ ⟨mm_blind _ _ _, cx_pre hc0 hR hS _⟩ rfl hn hlv.1 rfl (lv_room h8) hd ⟨hcs, hsl⟩) k
theorem V_callSN {index n maxL : Nat} {host : String} {y : MethodName} {bytes : ByteArray} {ret' : Option FieldType} {rm' : Room} {As : List Value} {st0 : List Value} {post : Option Value → mm_M → Prop} (hc : cx E own cc nL ret rm) (hM : mm_Met (eG E) y bytes maxL ret' rm' As h post) (hv : cvN own index y bytes maxL ret' n host) (hi : Cond.static y ∈ gw)
    (hn : As.length = n) (hrm : rmOk rm rm' maxL) (hcs : cs + rm'.cells ≤ rm.cells) (hsl : sl + rm'.slots ≤ rm.slots) (hst : st0 = As.reverse ++ rest) (h8 : (rest.map fun v => v.category).sum ≤ 8) (hd : decode cc pc = .ok (.invokestatic index, 3))
    (k : ∀ r h', post r h' → V E nL (cs + rm'.cells) (sl + rm'.slots) h' (pc + 3) lv (r.toList ++ rest)) : V E nL cs sl h pc lv st0 := by
  subst hst
  obtain ⟨G, p, e, R, s, m, args, below, meth, c, Q⟩ := E
  have hc0 := hc
  obtain ⟨hx, hb, hml, hret, hlk, hown, hts, hK, hbs, hX, hG, hRm⟩ := hc
  subst hRm
  intro H locs ls hR hS hlv
  obtain ⟨v1, v2, v3, v4, v5, v6⟩ := hv
  exact V_back hlv hS (va_runSN (As := As) (rest := rest) ⟨hx, hb, hml, hown, hts⟩ hM ⟨va_cnB n hts (cv_ws v3) rfl rfl rfl ((hG.2 s hX).2.2.2.2.2.2 _ v1) (hts _ v2) ⟨v4, v5, v6⟩ hrm, hts _ hi, trivial⟩ ⟨mm_blind _ _ _, cx_pre hc0 hR hS _⟩ rfl hn hlv.1 rfl (lv_room h8) hd ⟨hcs, hsl⟩) k
theorem V_callI {index n maxL b : Nat} {y : MethodName} {bytes : ByteArray} {rm' : Room} {As : List Value} {o : Option Nat} {st0 : List Value} {post : Option Value → mm_M → Prop} (hc : cx E own cc nL ret rm) (ho : o = some b) (hM : mm_Met (eG E) y bytes maxL none rm' (va_rf (some b) :: As) h post) (hv : cvB own index y bytes maxL none n) (hi : Cond.instanceMethod y ∈ gw) (hnm : y.name = "<init>")
    (hn : As.length = n) (hrm : rmOk rm rm' maxL) (hcs : cs + rm'.cells ≤ rm.cells) (hsl : sl + rm'.slots ≤ rm.slots) (hst : st0 = As.reverse ++ va_rf o :: rest) (h8 : (rest.map fun v => v.category).sum ≤ 8) (hd : decode cc pc = .ok (.invokespecial index, 3))
    (k : ∀ r h', post r h' → V E nL (cs + rm'.cells) (sl + rm'.slots) h' (pc + 3) lv (r.toList ++ rest)) : V E nL cs sl h pc lv st0 := by
  subst hst
  subst ho
  obtain ⟨G, p, e, R, s, m, args, below, meth, c, Q⟩ := E
  have hc0 := hc
  obtain ⟨hx, hb, hml, hret, hlk, hown, hts, hK, hbs, hX, hG, hRm⟩ := hc
  subst hRm
  intro H locs ls hR hS hlv
  obtain ⟨v1, v2, v3, v4, v5, v6⟩ := hv
  exact V_back hlv hS (va_runI (As := As) (rest := rest) ⟨hx, hb, hml, hown, hts⟩ hM ⟨callB_of n hts (cv_ws v3) rfl rfl rfl (hts _ v2) (hts _ v1) ⟨v4, v5, v6⟩ hrm, hnm, hts _ hi⟩ ⟨mm_blind _ _ _, cx_pre hc0 hR hS _⟩ rfl hn hlv.1 rfl (lv_room h8) hd ⟨hcs, hsl⟩) k
theorem V_callIN {index n maxL b : Nat} {host : String} {y : MethodName} {bytes : ByteArray} {rm' : Room} {As : List Value} {o : Option Nat} {st0 : List Value} {post : Option Value → mm_M → Prop} (hc : cx E own cc nL ret rm) (ho : o = some b) (hM : mm_Met (eG E) y bytes maxL none rm' (va_rf (some b) :: As) h post) (hv : cvN own index y bytes maxL none n host) (hi : Cond.instanceMethod y ∈ gw) (hnm : y.name = "<init>")
    (hn : As.length = n) (hrm : rmOk rm rm' maxL) (hcs : cs + rm'.cells ≤ rm.cells) (hsl : sl + rm'.slots ≤ rm.slots) (hst : st0 = As.reverse ++ va_rf o :: rest) (h8 : (rest.map fun v => v.category).sum ≤ 8) (hd : decode cc pc = .ok (.invokespecial index, 3))
    (k : ∀ r h', post r h' → V E nL (cs + rm'.cells) (sl + rm'.slots) h' (pc + 3) lv (r.toList ++ rest)) : V E nL cs sl h pc lv st0 := by
  subst hst
  subst ho
  obtain ⟨G, p, e, R, s, m, args, below, meth, c, Q⟩ := E
  have hc0 := hc
  obtain ⟨hx, hb, hml, hret, hlk, hown, hts, hK, hbs, hX, hG, hRm⟩ := hc
  subst hRm
  intro H locs ls hR hS hlv
  obtain ⟨v1, v2, v3, v4, v5, v6⟩ := hv
  exact V_back hlv hS (va_runIN (As := As) (rest := rest) ⟨hx, hb, hml, hown, hts⟩ hM ⟨va_cnB n hts (cv_ws v3) rfl rfl rfl ((hG.2 s hX).2.2.2.2.2.2 _ v1) (hts _ v2) ⟨v4, v5, v6⟩ hrm, hnm, hts _ hi⟩ ⟨mm_blind _ _ _, cx_pre hc0 hR hS _⟩ rfl hn hlv.1 rfl (lv_room h8) hd ⟨hcs, hsl⟩) k
end CC
/-! small facts for the stores -/
theorem zz_nar {x : Int32} (h : x = 0 ∨ x = 1) : narrow .boolean (.int x) = .int x := by rcases h with rfl | rfl <;> decide
theorem zz_fit {x : Int32} (h : x = 0 ∨ x = 1) : fits .boolean (.int x) = true := by rcases h with rfl | rfl <;> decide
theorem pp_nar {C : String} (o : Option Nat) : narrow (.object C) (va_rf o) = va_rf o := by cases o <;> rfl
theorem pa_nar {t : FieldType} (o : Option Nat) : narrow (.array t) (va_rf o) = va_rf o := by cases o <;> rfl
theorem pp_fit {C : String} (o : Option Nat) : fits (.object C) (va_rf o) = true := by cases o <;> rfl
theorem pa_fit {t : FieldType} (o : Option Nat) : fits (.array t) (va_rf o) = true := by cases o <;> rfl
theorem up_vI {h : mm_M} {a k : Nat} {x : Int32} {ty : FieldType} (e : mm_isI ty = true) : mm_v (mm_uI h a k x) a k ty = .int x := by
  rw [mm_v_I e]
  exact congrArg Value.int mm_up_eq
theorem up_vL {h : mm_M} {a k : Nat} {x : Int64} : mm_v (mm_uL h a k x) a k .long = .long x := by
  rw [mm_v_L]
  exact congrArg Value.long mm_up_eq
theorem up_vP {h : mm_M} {a k : Nat} {x : Option Nat} {ty : FieldType} (e : mm_isP ty = true) : mm_v (mm_uP h a k x) a k ty = va_rf x := by
  rw [mm_v_P e]
  exact congrArg va_rf mm_up_eq
theorem cat_i (x : Int32) : (Value.int x).category = 1 := rfl
theorem cat_l (x : Int64) : (Value.long x).category = 2 := rfl
/-- the numbers that are one for the whole run: the first address that may be written, addresses of constants -/
def mm_ge (G : mm_G) : Nat → Nat := fun i => match i with
  | 0 => mm_gb G
  | j + 1 => mm_gA G (j + 100)
