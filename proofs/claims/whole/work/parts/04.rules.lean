/-! THE JUDGEMENT: V says that the machine, with memory h, locals lv and operand stack st at pc, comes to Q -/
def gw : List Cond := lw_tbl.filter goodWord
theorem gw_of {w : Cond} (h : w ∈ lw_tbl) (hg : goodWord w = true) : w ∈ gw := List.mem_filter.mpr ⟨h, hg⟩
theorem gw_good {ws : List Cond} (h : ∀ w ∈ ws, w ∈ gw) : GoodIn gw ws := fun w hw => ⟨h w hw, good_of_word (List.mem_filter.mp (h w hw)).2⟩
theorem tb_gw {c : Nat} {r : String × u_T × Nat × (Nat → FieldType)} (h : tb[c]? = some r) : ∀ w ∈ u_ws r.1 r.2.1 r.2.2.1, w ∈ gw := by
  intro w hw
  have h1 := (tb_in c r h).1 w hw
  unfold u_ws at hw
  obtain ⟨k, -, rfl⟩ := List.mem_map.mp hw
  refine gw_of h1 ?_
  unfold u_lay
  split <;> rfl
/-- what is one for the whole run: the launch, class numbers, array classes, the first address that may be written, facts of the start -/
abbrev mm_G : Type := Launch × va_G × (Nat → ClassId) × Nat × (State → Prop)
def mm_gl (G : mm_G) : Launch := G.1
def mm_gD (G : mm_G) : va_G := G.2.1
def mm_gA (G : mm_G) : Nat → ClassId := G.2.2.1
def mm_gb (G : mm_G) : Nat := G.2.2.2.1
def mm_gX (G : mm_G) : State → Prop := G.2.2.2.2
def mm_fr (G : mm_G) : Nat → Prop := fun q => mm_gb G ≤ q
/-- facts of the start that no step changes: array classes, constant arrays and texts -/
def mm_fx (G : mm_G) (s : State) : Prop :=
  (∀ C ∈ aob, va_AO C s) ∧ (∀ (j : Nat) (r : String × String × String), stl[j]? = some r → va_Z r.1 r.2.1 r.2.2 (.ref (mm_gA G (j + 100))) (mm_fr G) s s.heap) ∧
  (∀ (j : Nat) (r : String × Nat × String), sgl[j]? = some r → vk_R r.1 r.2.1 r.2.2 (mm_gA G (j + 200)) s ∧ va_O "java/lang/String" (mm_gA G (j + 200)) (mm_fr G) s s.heap ∧ va_OF "java/lang/String" "coder" "B" (.int 0) (mm_gA G (j + 200)) (mm_fr G) s s.heap ∧ va_OF "java/lang/String" "value" "[B" (.ref (mm_gA G (j + 300))) (mm_gA G (j + 200)) (mm_fr G) s s.heap) ∧
  va_Z "java/lang/String" "COMPACT_STRINGS" "Z" (.int 1) (mm_fr G) s s.heap ∧ va_Zq "jdk/internal/util/Preconditions" "SIOOBE_FORMATTER" "Ljava/util/function/BiFunction;" (mm_fr G) s s.heap ∧ va_Nw (.castable "[B" "java/lang/Cloneable") s ∧ ∀ w ∈ nsl, va_Nw w s
def mm_gok (G : mm_G) : Prop := (∀ u U : State, (u.WarmedH U.vm ∨ U.vm = u.vm) → (∀ q : Nat, q < mm_gb G → U.heap[q]? = u.heap[q]?) → mm_gX G u → mm_gX G U) ∧ ∀ s : State, mm_gX G s → mm_fx G s
def mm_Pc (G : mm_G) (as : List Value) (h : mm_M) : Array Value → State → Prop := va_Pc as (fun U => mm_R (mm_gD G) (mm_gA G) (mm_gb G) U h U.heap ∧ va_K (mm_gD G) cls (mm_tys (mm_gA G)) U ∧ mm_gb G ≤ U.heap.size ∧ mm_gX G U ∧ mm_gok G)
def mm_Qc (G : mm_G) (post : Option Value → mm_M → Prop) : Array Value → State → Outcome → State → Prop := fun _ st oc t => (∃ (r : Option Value) (h' : mm_M), oc = .returned r ∧ post r h' ∧ mm_R (mm_gD G) (mm_gA G) (mm_gb G) t h' t.heap) ∧ va_F (mm_fr G) st t
/-- a method's contract at one memory -/
def mm_Met (G : mm_G) (y : MethodName) (cc : ByteArray) (maxL : Nat) (ret : Option FieldType) (rm : Room) (as : List Value) (h : mm_M) (post : Option Value → mm_M → Prop) : Prop :=
  Met (mm_gl G) y (Cond.code y cc maxL ret :: gw) rm (mm_Pc G as h) (mm_Qc G post) rm.cells rm.slots (mm_fr G)
abbrev mm_E : Type := mm_G × Program × Env × Room × State × MethodId × Array Value × List Frame × Method × Code × (State → Prop)
def V (E : mm_E) (nL cs sl : Nat) (h : mm_M) (pc : Nat) (lv : List (Nat × Value)) (st : List Value) : Prop := match E with
  | (G, p, e, R, s, m, args, below, meth, c, Q) => ∀ (H : Heap) (locs : List Loc) (ls : Array Slot), mm_R (mm_gD G) (mm_gA G) (mm_gb G) s h H → va_S (mm_fr G) s.heap H locs → lv_has ls nL lv → W p (mm_gl G) e R s m args below meth c H locs cs sl Q (F0 m pc ls st)
/-- the frame that V speaks of: the code, the tables, the room -/
def cx (E : mm_E) (own : String) (cc : ByteArray) (nL : Nat) (ret : Option FieldType) (rm : Room) : Prop := match E with
  | (G, p, e, R, s, m, args, below, meth, c, Q) => p.tables.exec = Jvm.exec ∧ c.code = cc ∧ c.maxLocals = nL ∧ meth.sig.returnType = ret ∧ meth.locks = false ∧ s.vm.findClass own = some m.cls ∧ (∀ w ∈ gw, w.before args s = true) ∧ va_K (mm_gD G) cls (mm_tys (mm_gA G)) s ∧ mm_gb G ≤ s.heap.size ∧ mm_gX G s ∧ mm_gok G ∧ R = rm
/-- Q is the end of a contract -/
def cq (E : mm_E) (rm : Room) (post : Option Value → mm_M → Prop) : Prop := match E with
  | (G, p, e, R, s, m, args, below, meth, c, Q) => Q = MQ below (mm_Qc G post) args s rm.cells rm.slots (mm_fr G)
def ci (E : mm_E) : Prop := match E with
  | (G, p, e, R, s, m, args, below, meth, c, Q) => meth.name = "<init>"
def eG (E : mm_E) : mm_G := E.1
section VV
variable {E : mm_E} {own : String} {cc : ByteArray} {nL cs sl pc : Nat} {ret : Option FieldType} {rm : Room} {h : mm_M} {lv lv' : List (Nat × Value)} {rest : List Value}
theorem V_sub (ks : List Nat) (hl : lv_pick lv ks = lv') (k : V E nL cs sl h pc lv' rest) : V E nL cs sl h pc lv rest := by
  obtain ⟨G, p, e, R, s, m, args, below, meth, c, Q⟩ := E
  intro H locs ls hR hS hlv
  exact k H locs ls hR hS (lv_sub hlv ks hl)
theorem V_wide {cs' sl' : Nat} (h1 : cs ≤ cs') (h2 : sl ≤ sl') (k : V E nL cs' sl' h pc lv rest) : V E nL cs sl h pc lv rest := by
  obtain ⟨G, p, e, R, s, m, args, below, meth, c, Q⟩ := E
  intro H locs ls hR hS hlv
  exact W.widen h1 h2 (k H locs ls hR hS hlv)
theorem V_st {st st' : List Value} (e : st = st') (k : V E nL cs sl h pc lv st') : V E nL cs sl h pc lv st := e ▸ k
theorem V_iconst (hc : cx E own cc nL ret rm) {n : Int} {v : Int32} (hd : decode cc pc = .ok (.iconst n, 1)) (hv : Int32.ofInt n = v)
    (k : V E nL cs sl h (pc + 1) lv (.int v :: rest)) : V E nL cs sl h pc lv (rest) := by
  obtain ⟨G, p, e, R, s, m, args, below, meth, c, Q⟩ := E
  obtain ⟨hx, hb, hml, hret, hlk, hown, hts, hK, hbs, hX, hG, hRm⟩ := hc
  intro H locs ls hR hS hlv
  exact lv_iconst hx hb hd hv (k H locs ls hR hS hlv)
theorem V_bipush (hc : cx E own cc nL ret rm) {n : Int} {v : Int32} (hd : decode cc pc = .ok (.bipush n, 2)) (hv : (Int8.ofInt n).toInt32 = v)
    (k : V E nL cs sl h (pc + 2) lv (.int v :: rest)) : V E nL cs sl h pc lv (rest) := by
  obtain ⟨G, p, e, R, s, m, args, below, meth, c, Q⟩ := E
  obtain ⟨hx, hb, hml, hret, hlk, hown, hts, hK, hbs, hX, hG, hRm⟩ := hc
  intro H locs ls hR hS hlv
  exact lv_bipush hx hb hd hv (k H locs ls hR hS hlv)
theorem V_sipush (hc : cx E own cc nL ret rm) {n : Int} {v : Int32} (hd : decode cc pc = .ok (.sipush n, 3)) (hv : (Int16.ofInt n).toInt32 = v)
    (k : V E nL cs sl h (pc + 3) lv (.int v :: rest)) : V E nL cs sl h pc lv (rest) := by
  obtain ⟨G, p, e, R, s, m, args, below, meth, c, Q⟩ := E
  obtain ⟨hx, hb, hml, hret, hlk, hown, hts, hK, hbs, hX, hG, hRm⟩ := hc
  intro H locs ls hR hS hlv
  exact lv_sipush hx hb hd hv (k H locs ls hR hS hlv)
theorem V_lconst (hc : cx E own cc nL ret rm) {n : Fin 2} {v : Int64} (hd : decode cc pc = .ok (.lconst n, 1)) (hv : Int64.ofNat n = v)
    (k : V E nL cs sl h (pc + 1) lv (.long v :: rest)) : V E nL cs sl h pc lv (rest) := by
  obtain ⟨G, p, e, R, s, m, args, below, meth, c, Q⟩ := E
  obtain ⟨hx, hb, hml, hret, hlk, hown, hts, hK, hbs, hX, hG, hRm⟩ := hc
  intro H locs ls hR hS hlv
  exact lv_lconst hx hb hd hv (k H locs ls hR hS hlv)
theorem V_ldc (hc : cx E own cc nL ret rm) {index : Nat} {v : Int32} (hw : Cond.constant own index v ∈ gw) (hd : decode cc pc = .ok (.ldc index, 2))
    (k : V E nL cs sl h (pc + 2) lv (.int v :: rest)) : V E nL cs sl h pc lv (rest) := by
  obtain ⟨G, p, e, R, s, m, args, below, meth, c, Q⟩ := E
  obtain ⟨hx, hb, hml, hret, hlk, hown, hts, hK, hbs, hX, hG, hRm⟩ := hc
  intro H locs ls hR hS hlv
  exact lv_ldc hx hb hown (hts _ hw) hd (k H locs ls hR hS hlv)
theorem V_ldc_w (hc : cx E own cc nL ret rm) {index : Nat} {v : Int32} (hw : Cond.constant own index v ∈ gw) (hd : decode cc pc = .ok (.ldc_w index, 3))
    (k : V E nL cs sl h (pc + 3) lv (.int v :: rest)) : V E nL cs sl h pc lv (rest) := by
  obtain ⟨G, p, e, R, s, m, args, below, meth, c, Q⟩ := E
  obtain ⟨hx, hb, hml, hret, hlk, hown, hts, hK, hbs, hX, hG, hRm⟩ := hc
  intro H locs ls hR hS hlv
  exact lv_ldcw hx hb hown (hts _ hw) hd (k H locs ls hR hS hlv)
theorem V_ldc2 (hc : cx E own cc nL ret rm) {index : Nat} {v : Int64} (hw : Cond.constantLong own index v ∈ gw) (hd : decode cc pc = .ok (.ldc2_w index, 3))
    (k : V E nL cs sl h (pc + 3) lv (.long v :: rest)) : V E nL cs sl h pc lv (rest) := by
  obtain ⟨G, p, e, R, s, m, args, below, meth, c, Q⟩ := E
  obtain ⟨hx, hb, hml, hret, hlk, hown, hts, hK, hbs, hX, hG, hRm⟩ := hc
  intro H locs ls hR hS hlv
  exact lv_ldc2 hx hb hown (hts _ hw) hd (k H locs ls hR hS hlv)
theorem V_null (hc : cx E own cc nL ret rm)  (hd : decode cc pc = .ok (.aconst_null, 1))
    (k : V E nL cs sl h (pc + 1) lv (va_rf none :: rest)) : V E nL cs sl h pc lv (rest) := by
  obtain ⟨G, p, e, R, s, m, args, below, meth, c, Q⟩ := E
  obtain ⟨hx, hb, hml, hret, hlk, hown, hts, hK, hbs, hX, hG, hRm⟩ := hc
  intro H locs ls hR hS hlv
  exact lv_null hx hb hd (k H locs ls hR hS hlv)
theorem V_iload_n (hc : cx E own cc nL ret rm) {q : Fin 4} {i : Nat} {x : Int32} (j : Nat) (hd : decode cc pc = .ok (.iload_n q, 1)) (hi : (q : Nat) = i) (hl : lv[j]? = some (i, .int x))
    (k : V E nL cs sl h (pc + 1) lv (.int x :: rest)) : V E nL cs sl h pc lv (rest) := by
  obtain ⟨G, p, e, R, s, m, args, below, meth, c, Q⟩ := E
  obtain ⟨hx, hb, hml, hret, hlk, hown, hts, hK, hbs, hX, hG, hRm⟩ := hc
  intro H locs ls hR hS hlv
  exact lv_iload_n hx hb hd hi (lv_at hlv j hl) (k H locs ls hR hS hlv)
theorem V_iload (hc : cx E own cc nL ret rm) {i : Nat} {x : Int32} (j : Nat) (hd : decode cc pc = .ok (.iload i, 2)) (hl : lv[j]? = some (i, .int x))
    (k : V E nL cs sl h (pc + 2) lv (.int x :: rest)) : V E nL cs sl h pc lv (rest) := by
  obtain ⟨G, p, e, R, s, m, args, below, meth, c, Q⟩ := E
  obtain ⟨hx, hb, hml, hret, hlk, hown, hts, hK, hbs, hX, hG, hRm⟩ := hc
  intro H locs ls hR hS hlv
  exact lv_iload hx hb hd (lv_at hlv j hl) (k H locs ls hR hS hlv)
theorem V_lload_n (hc : cx E own cc nL ret rm) {q : Fin 4} {i : Nat} {x : Int64} (j : Nat) (hd : decode cc pc = .ok (.lload_n q, 1)) (hi : (q : Nat) = i) (hl : lv[j]? = some (i, .long x))
    (k : V E nL cs sl h (pc + 1) lv (.long x :: rest)) : V E nL cs sl h pc lv (rest) := by
  obtain ⟨G, p, e, R, s, m, args, below, meth, c, Q⟩ := E
  obtain ⟨hx, hb, hml, hret, hlk, hown, hts, hK, hbs, hX, hG, hRm⟩ := hc
  intro H locs ls hR hS hlv
  exact lv_lload_n hx hb hd hi (lv_at hlv j hl) (k H locs ls hR hS hlv)
theorem V_lload (hc : cx E own cc nL ret rm) {i : Nat} {x : Int64} (j : Nat) (hd : decode cc pc = .ok (.lload i, 2)) (hl : lv[j]? = some (i, .long x))
    (k : V E nL cs sl h (pc + 2) lv (.long x :: rest)) : V E nL cs sl h pc lv (rest) := by
  obtain ⟨G, p, e, R, s, m, args, below, meth, c, Q⟩ := E
  obtain ⟨hx, hb, hml, hret, hlk, hown, hts, hK, hbs, hX, hG, hRm⟩ := hc
  intro H locs ls hR hS hlv
  exact lv_lload hx hb hd (lv_at hlv j hl) (k H locs ls hR hS hlv)
theorem V_aload_n (hc : cx E own cc nL ret rm) {q : Fin 4} {i : Nat} {o : Option Nat} (j : Nat) (hd : decode cc pc = .ok (.aload_n q, 1)) (hi : (q : Nat) = i) (hl : lv[j]? = some (i, va_rf o))
    (k : V E nL cs sl h (pc + 1) lv (va_rf o :: rest)) : V E nL cs sl h pc lv rest := by
  obtain ⟨G, p, e, R, s, m, args, below, meth, c, Q⟩ := E
  obtain ⟨hx, hb, hml, hret, hlk, hown, hts, hK, hbs, hX, hG, hRm⟩ := hc
  intro H locs ls hR hS hlv
  cases o with
  | some x => exact lv_aload_n hx hb hd hi (lv_at hlv j hl) (k H locs ls hR hS hlv)
  | none => exact lv_aload_nN hx hb hd hi (lv_at hlv j hl) (k H locs ls hR hS hlv)
theorem V_aload (hc : cx E own cc nL ret rm) {i : Nat} {o : Option Nat} (j : Nat) (hd : decode cc pc = .ok (.aload i, 2)) (hl : lv[j]? = some (i, va_rf o))
    (k : V E nL cs sl h (pc + 2) lv (va_rf o :: rest)) : V E nL cs sl h pc lv rest := by
  obtain ⟨G, p, e, R, s, m, args, below, meth, c, Q⟩ := E
  obtain ⟨hx, hb, hml, hret, hlk, hown, hts, hK, hbs, hX, hG, hRm⟩ := hc
  intro H locs ls hR hS hlv
  cases o with
  | some x => exact lv_aload hx hb hd (lv_at hlv j hl) (k H locs ls hR hS hlv)
  | none => exact lv_aloadN hx hb hd (lv_at hlv j hl) (k H locs ls hR hS hlv)
theorem V_istore_n (hc : cx E own cc nL ret rm) {q : Fin 4} {i : Nat} {x : Int32} (hd : decode cc pc = .ok (.istore_n q, 1)) (hi : (q : Nat) = i) (hn : i < nL) (hl : (i, Value.int x) :: lv.filter (fun q => !(q.1 == i) && !(q.1 + 1 == i && q.2.category == 2)) = lv')
    (k : V E nL cs sl h (pc + 1) lv' rest) : V E nL cs sl h pc lv (Value.int x :: rest) := by
  obtain ⟨G, p, e, R, s, m, args, below, meth, c, Q⟩ := E
  obtain ⟨hx, hb, hml, hret, hlk, hown, hts, hK, hbs, hX, hG, hRm⟩ := hc
  intro H locs ls hR hS hlv
  exact lv_istore_n hx hb hd hi hlv hn hl (fun ls1 h1 => k H locs ls1 hR hS h1)
theorem V_istore (hc : cx E own cc nL ret rm) {i : Nat} {x : Int32} (hd : decode cc pc = .ok (.istore i, 2)) (hn : i < nL) (hl : (i, Value.int x) :: lv.filter (fun q => !(q.1 == i) && !(q.1 + 1 == i && q.2.category == 2)) = lv')
    (k : V E nL cs sl h (pc + 2) lv' rest) : V E nL cs sl h pc lv (Value.int x :: rest) := by
  obtain ⟨G, p, e, R, s, m, args, below, meth, c, Q⟩ := E
  obtain ⟨hx, hb, hml, hret, hlk, hown, hts, hK, hbs, hX, hG, hRm⟩ := hc
  intro H locs ls hR hS hlv
  exact lv_istore hx hb hd hlv hn hl (fun ls1 h1 => k H locs ls1 hR hS h1)
theorem V_lstore_n (hc : cx E own cc nL ret rm) {q : Fin 4} {i : Nat} {x : Int64} (hd : decode cc pc = .ok (.lstore_n q, 1)) (hi : (q : Nat) = i) (hn : i + 1 < nL) (hl : (i, Value.long x) :: lv.filter (fun q => !(q.1 == i) && (!(q.1 == i + 1) && !(q.1 + 1 == i && q.2.category == 2))) = lv')
    (k : V E nL cs sl h (pc + 1) lv' rest) : V E nL cs sl h pc lv (Value.long x :: rest) := by
  obtain ⟨G, p, e, R, s, m, args, below, meth, c, Q⟩ := E
  obtain ⟨hx, hb, hml, hret, hlk, hown, hts, hK, hbs, hX, hG, hRm⟩ := hc
  intro H locs ls hR hS hlv
  exact lv_lstore_n hx hb hd hi hlv hn hl (fun ls1 h1 => k H locs ls1 hR hS h1)
theorem V_lstore (hc : cx E own cc nL ret rm) {i : Nat} {x : Int64} (hd : decode cc pc = .ok (.lstore i, 2)) (hn : i + 1 < nL) (hl : (i, Value.long x) :: lv.filter (fun q => !(q.1 == i) && (!(q.1 == i + 1) && !(q.1 + 1 == i && q.2.category == 2))) = lv')
    (k : V E nL cs sl h (pc + 2) lv' rest) : V E nL cs sl h pc lv (Value.long x :: rest) := by
  obtain ⟨G, p, e, R, s, m, args, below, meth, c, Q⟩ := E
  obtain ⟨hx, hb, hml, hret, hlk, hown, hts, hK, hbs, hX, hG, hRm⟩ := hc
  intro H locs ls hR hS hlv
  exact lv_lstore hx hb hd hlv hn hl (fun ls1 h1 => k H locs ls1 hR hS h1)
theorem V_astore_n (hc : cx E own cc nL ret rm) {q : Fin 4} {i : Nat} {o : Option Nat} (hd : decode cc pc = .ok (.astore_n q, 1)) (hi : (q : Nat) = i) (hn : i < nL) (hl : (i, va_rf o) :: lv.filter (fun q => !(q.1 == i) && !(q.1 + 1 == i && q.2.category == 2)) = lv')
    (k : V E nL cs sl h (pc + 1) lv' rest) : V E nL cs sl h pc lv (va_rf o :: rest) := by
  obtain ⟨G, p, e, R, s, m, args, below, meth, c, Q⟩ := E
  obtain ⟨hx, hb, hml, hret, hlk, hown, hts, hK, hbs, hX, hG, hRm⟩ := hc
  intro H locs ls hR hS hlv
  cases o with
  | some x => exact lv_astore_n hx hb hd hi hlv hn hl (fun ls1 h1 => k H locs ls1 hR hS h1)
  | none => exact lv_astore_nN hx hb hd hi hlv hn hl (fun ls1 h1 => k H locs ls1 hR hS h1)
theorem V_astore (hc : cx E own cc nL ret rm) {i : Nat} {o : Option Nat} (hd : decode cc pc = .ok (.astore i, 2)) (hn : i < nL) (hl : (i, va_rf o) :: lv.filter (fun q => !(q.1 == i) && !(q.1 + 1 == i && q.2.category == 2)) = lv')
    (k : V E nL cs sl h (pc + 2) lv' rest) : V E nL cs sl h pc lv (va_rf o :: rest) := by
  obtain ⟨G, p, e, R, s, m, args, below, meth, c, Q⟩ := E
  obtain ⟨hx, hb, hml, hret, hlk, hown, hts, hK, hbs, hX, hG, hRm⟩ := hc
  intro H locs ls hR hS hlv
  cases o with
  | some x => exact lv_astore hx hb hd hlv hn hl (fun ls1 h1 => k H locs ls1 hR hS h1)
  | none => exact lv_astoreN hx hb hd hlv hn hl (fun ls1 h1 => k H locs ls1 hR hS h1)
theorem V_iinc (hc : cx E own cc nL ret rm) {i : Nat} {n : Int} {x v : Int32} (j : Nat) (hd : decode cc pc = .ok (.iinc i n, 3)) (hj : lv[j]? = some (i, .int x)) (hv : x + Int32.ofInt n = v) (hn : i < nL) (hl : (i, Value.int v) :: lv.filter (fun q => !(q.1 == i) && !(q.1 + 1 == i && q.2.category == 2)) = lv')
    (k : V E nL cs sl h (pc + 3) lv' rest) : V E nL cs sl h pc lv rest := by
  obtain ⟨G, p, e, R, s, m, args, below, meth, c, Q⟩ := E
  obtain ⟨hx, hb, hml, hret, hlk, hown, hts, hK, hbs, hX, hG, hRm⟩ := hc
  intro H locs ls hR hS hlv
  exact lv_iinc hx hb hd hlv hj hv hn hl (fun ls1 h1 => k H locs ls1 hR hS h1)
theorem V_iadd (hc : cx E own cc nL ret rm) {x y : Int32} (hd : decode cc pc = .ok (.iadd, 1))
    (k : V E nL cs sl h (pc + 1) lv (.int (x + y) :: rest)) : V E nL cs sl h pc lv (.int y :: .int x :: rest) := by
  obtain ⟨G, p, e, R, s, m, args, below, meth, c, Q⟩ := E
  obtain ⟨hx, hb, hml, hret, hlk, hown, hts, hK, hbs, hX, hG, hRm⟩ := hc
  intro H locs ls hR hS hlv
  exact lv_iadd hx hb hd (k H locs ls hR hS hlv)
theorem V_isub (hc : cx E own cc nL ret rm) {x y : Int32} (hd : decode cc pc = .ok (.isub, 1))
    (k : V E nL cs sl h (pc + 1) lv (.int (x - y) :: rest)) : V E nL cs sl h pc lv (.int y :: .int x :: rest) := by
  obtain ⟨G, p, e, R, s, m, args, below, meth, c, Q⟩ := E
  obtain ⟨hx, hb, hml, hret, hlk, hown, hts, hK, hbs, hX, hG, hRm⟩ := hc
  intro H locs ls hR hS hlv
  exact lv_isub hx hb hd (k H locs ls hR hS hlv)
theorem V_imul (hc : cx E own cc nL ret rm) {x y : Int32} (hd : decode cc pc = .ok (.imul, 1))
    (k : V E nL cs sl h (pc + 1) lv (.int (x * y) :: rest)) : V E nL cs sl h pc lv (.int y :: .int x :: rest) := by
  obtain ⟨G, p, e, R, s, m, args, below, meth, c, Q⟩ := E
  obtain ⟨hx, hb, hml, hret, hlk, hown, hts, hK, hbs, hX, hG, hRm⟩ := hc
  intro H locs ls hR hS hlv
  exact lv_imul hx hb hd (k H locs ls hR hS hlv)
theorem V_iand (hc : cx E own cc nL ret rm) {x y : Int32} (hd : decode cc pc = .ok (.iand, 1))
    (k : V E nL cs sl h (pc + 1) lv (.int (x &&& y) :: rest)) : V E nL cs sl h pc lv (.int y :: .int x :: rest) := by
  obtain ⟨G, p, e, R, s, m, args, below, meth, c, Q⟩ := E
  obtain ⟨hx, hb, hml, hret, hlk, hown, hts, hK, hbs, hX, hG, hRm⟩ := hc
  intro H locs ls hR hS hlv
  exact lv_iand hx hb hd (k H locs ls hR hS hlv)
theorem V_ior (hc : cx E own cc nL ret rm) {x y : Int32} (hd : decode cc pc = .ok (.ior, 1))
    (k : V E nL cs sl h (pc + 1) lv (.int (x ||| y) :: rest)) : V E nL cs sl h pc lv (.int y :: .int x :: rest) := by
  obtain ⟨G, p, e, R, s, m, args, below, meth, c, Q⟩ := E
  obtain ⟨hx, hb, hml, hret, hlk, hown, hts, hK, hbs, hX, hG, hRm⟩ := hc
  intro H locs ls hR hS hlv
  exact lv_ior hx hb hd (k H locs ls hR hS hlv)
theorem V_ixor (hc : cx E own cc nL ret rm) {x y : Int32} (hd : decode cc pc = .ok (.ixor, 1))
    (k : V E nL cs sl h (pc + 1) lv (.int (x ^^^ y) :: rest)) : V E nL cs sl h pc lv (.int y :: .int x :: rest) := by
  obtain ⟨G, p, e, R, s, m, args, below, meth, c, Q⟩ := E
  obtain ⟨hx, hb, hml, hret, hlk, hown, hts, hK, hbs, hX, hG, hRm⟩ := hc
  intro H locs ls hR hS hlv
  exact lv_ixor hx hb hd (k H locs ls hR hS hlv)
theorem V_ladd (hc : cx E own cc nL ret rm) {x y : Int64} (hd : decode cc pc = .ok (.ladd, 1))
    (k : V E nL cs sl h (pc + 1) lv (.long (x + y) :: rest)) : V E nL cs sl h pc lv (.long y :: .long x :: rest) := by
  obtain ⟨G, p, e, R, s, m, args, below, meth, c, Q⟩ := E
  obtain ⟨hx, hb, hml, hret, hlk, hown, hts, hK, hbs, hX, hG, hRm⟩ := hc
  intro H locs ls hR hS hlv
  exact lv_ladd hx hb hd (k H locs ls hR hS hlv)
theorem V_lsub (hc : cx E own cc nL ret rm) {x y : Int64} (hd : decode cc pc = .ok (.lsub, 1))
    (k : V E nL cs sl h (pc + 1) lv (.long (x - y) :: rest)) : V E nL cs sl h pc lv (.long y :: .long x :: rest) := by
  obtain ⟨G, p, e, R, s, m, args, below, meth, c, Q⟩ := E
  obtain ⟨hx, hb, hml, hret, hlk, hown, hts, hK, hbs, hX, hG, hRm⟩ := hc
  intro H locs ls hR hS hlv
  exact lv_lsub hx hb hd (k H locs ls hR hS hlv)
theorem V_land (hc : cx E own cc nL ret rm) {x y : Int64} (hd : decode cc pc = .ok (.land, 1))
    (k : V E nL cs sl h (pc + 1) lv (.long (x &&& y) :: rest)) : V E nL cs sl h pc lv (.long y :: .long x :: rest) := by
  obtain ⟨G, p, e, R, s, m, args, below, meth, c, Q⟩ := E
  obtain ⟨hx, hb, hml, hret, hlk, hown, hts, hK, hbs, hX, hG, hRm⟩ := hc
  intro H locs ls hR hS hlv
  exact lv_land hx hb hd (k H locs ls hR hS hlv)
theorem V_lor (hc : cx E own cc nL ret rm) {x y : Int64} (hd : decode cc pc = .ok (.lor, 1))
    (k : V E nL cs sl h (pc + 1) lv (.long (x ||| y) :: rest)) : V E nL cs sl h pc lv (.long y :: .long x :: rest) := by
  obtain ⟨G, p, e, R, s, m, args, below, meth, c, Q⟩ := E
  obtain ⟨hx, hb, hml, hret, hlk, hown, hts, hK, hbs, hX, hG, hRm⟩ := hc
  intro H locs ls hR hS hlv
  exact lv_lor hx hb hd (k H locs ls hR hS hlv)
theorem V_idiv (hc : cx E own cc nL ret rm) {x y : Int32} (hd : decode cc pc = .ok (.idiv, 1)) (hne : ¬ y = 0)
    (k : V E nL cs sl h (pc + 1) lv (.int (x / y) :: rest)) : V E nL cs sl h pc lv (.int y :: .int x :: rest) := by
  obtain ⟨G, p, e, R, s, m, args, below, meth, c, Q⟩ := E
  obtain ⟨hx, hb, hml, hret, hlk, hown, hts, hK, hbs, hX, hG, hRm⟩ := hc
  intro H locs ls hR hS hlv
  exact lv_idiv hx hb hd hne (k H locs ls hR hS hlv)
theorem V_irem (hc : cx E own cc nL ret rm) {x y : Int32} (hd : decode cc pc = .ok (.irem, 1)) (hne : ¬ y = 0)
    (k : V E nL cs sl h (pc + 1) lv (.int (x - x / y * y) :: rest)) : V E nL cs sl h pc lv (.int y :: .int x :: rest) := by
  obtain ⟨G, p, e, R, s, m, args, below, meth, c, Q⟩ := E
  obtain ⟨hx, hb, hml, hret, hlk, hown, hts, hK, hbs, hX, hG, hRm⟩ := hc
  intro H locs ls hR hS hlv
  exact lv_irem hx hb hd hne (k H locs ls hR hS hlv)
theorem V_ishl (hc : cx E own cc nL ret rm) {x y : Int32} (hd : decode cc pc = .ok (.ishl, 1))
    (k : V E nL cs sl h (pc + 1) lv (.int (x <<< (y &&& 31)) :: rest)) : V E nL cs sl h pc lv (.int y :: .int x :: rest) := by
  obtain ⟨G, p, e, R, s, m, args, below, meth, c, Q⟩ := E
  obtain ⟨hx, hb, hml, hret, hlk, hown, hts, hK, hbs, hX, hG, hRm⟩ := hc
  intro H locs ls hR hS hlv
  exact lv_ishl hx hb hd (k H locs ls hR hS hlv)
theorem V_ishr (hc : cx E own cc nL ret rm) {x y : Int32} (hd : decode cc pc = .ok (.ishr, 1))
    (k : V E nL cs sl h (pc + 1) lv (.int (x >>> (y &&& 31)) :: rest)) : V E nL cs sl h pc lv (.int y :: .int x :: rest) := by
  obtain ⟨G, p, e, R, s, m, args, below, meth, c, Q⟩ := E
  obtain ⟨hx, hb, hml, hret, hlk, hown, hts, hK, hbs, hX, hG, hRm⟩ := hc
  intro H locs ls hR hS hlv
  exact lv_ishr hx hb hd (k H locs ls hR hS hlv)
theorem V_iushr (hc : cx E own cc nL ret rm) {x y : Int32} (hd : decode cc pc = .ok (.iushr, 1))
    (k : V E nL cs sl h (pc + 1) lv (.int (x.toUInt32 >>> (y.toUInt32 &&& Int32.toUInt32 31)).toInt32 :: rest)) : V E nL cs sl h pc lv (.int y :: .int x :: rest) := by
  obtain ⟨G, p, e, R, s, m, args, below, meth, c, Q⟩ := E
  obtain ⟨hx, hb, hml, hret, hlk, hown, hts, hK, hbs, hX, hG, hRm⟩ := hc
  intro H locs ls hR hS hlv
  exact lv_iushr hx hb hd rfl (k H locs ls hR hS hlv)
theorem V_lshl (hc : cx E own cc nL ret rm) {x : Int64} {y : Int32} (hd : decode cc pc = .ok (.lshl, 1))
    (k : V E nL cs sl h (pc + 1) lv (.long (x <<< (y.toInt64 &&& 63)) :: rest)) : V E nL cs sl h pc lv (.int y :: .long x :: rest) := by
  obtain ⟨G, p, e, R, s, m, args, below, meth, c, Q⟩ := E
  obtain ⟨hx, hb, hml, hret, hlk, hown, hts, hK, hbs, hX, hG, hRm⟩ := hc
  intro H locs ls hR hS hlv
  exact lv_lshl hx hb hd rfl (k H locs ls hR hS hlv)
theorem V_lshr (hc : cx E own cc nL ret rm) {x : Int64} {y : Int32} (hd : decode cc pc = .ok (.lshr, 1))
    (k : V E nL cs sl h (pc + 1) lv (.long (x >>> (y.toInt64 &&& 63)) :: rest)) : V E nL cs sl h pc lv (.int y :: .long x :: rest) := by
  obtain ⟨G, p, e, R, s, m, args, below, meth, c, Q⟩ := E
  obtain ⟨hx, hb, hml, hret, hlk, hown, hts, hK, hbs, hX, hG, hRm⟩ := hc
  intro H locs ls hR hS hlv
  exact lv_lshr hx hb hd rfl (k H locs ls hR hS hlv)
theorem V_i2l (hc : cx E own cc nL ret rm) {x : Int32} (hd : decode cc pc = .ok (.i2l, 1))
    (k : V E nL cs sl h (pc + 1) lv (.long x.toInt64 :: rest)) : V E nL cs sl h pc lv (.int x :: rest) := by
  obtain ⟨G, p, e, R, s, m, args, below, meth, c, Q⟩ := E
  obtain ⟨hx, hb, hml, hret, hlk, hown, hts, hK, hbs, hX, hG, hRm⟩ := hc
  intro H locs ls hR hS hlv
  exact lv_i2l hx hb hd rfl (k H locs ls hR hS hlv)
theorem V_l2i (hc : cx E own cc nL ret rm) {x : Int64} (hd : decode cc pc = .ok (.l2i, 1))
    (k : V E nL cs sl h (pc + 1) lv (.int x.toInt32 :: rest)) : V E nL cs sl h pc lv (.long x :: rest) := by
  obtain ⟨G, p, e, R, s, m, args, below, meth, c, Q⟩ := E
  obtain ⟨hx, hb, hml, hret, hlk, hown, hts, hK, hbs, hX, hG, hRm⟩ := hc
  intro H locs ls hR hS hlv
  exact lv_l2i hx hb hd rfl (k H locs ls hR hS hlv)
theorem V_i2b (hc : cx E own cc nL ret rm) {x : Int32} (hd : decode cc pc = .ok (.i2b, 1))
    (k : V E nL cs sl h (pc + 1) lv (.int x.toInt8.toInt32 :: rest)) : V E nL cs sl h pc lv (.int x :: rest) := by
  obtain ⟨G, p, e, R, s, m, args, below, meth, c, Q⟩ := E
  obtain ⟨hx, hb, hml, hret, hlk, hown, hts, hK, hbs, hX, hG, hRm⟩ := hc
  intro H locs ls hR hS hlv
  exact lv_i2b hx hb hd rfl (k H locs ls hR hS hlv)
theorem V_lcmp (hc : cx E own cc nL ret rm) {x y : Int64} (hd : decode cc pc = .ok (.lcmp, 1))
    (k : V E nL cs sl h (pc + 1) lv (.int (lg_cmp x y) :: rest)) : V E nL cs sl h pc lv (.long y :: .long x :: rest) := by
  obtain ⟨G, p, e, R, s, m, args, below, meth, c, Q⟩ := E
  obtain ⟨hx, hb, hml, hret, hlk, hown, hts, hK, hbs, hX, hG, hRm⟩ := hc
  intro H locs ls hR hS hlv
  exact W.lcmp hx hb hd (k H locs ls hR hS hlv)
theorem V_dup (hc : cx E own cc nL ret rm) {v : Value} (hd : decode cc pc = .ok (.dup, 1)) (hv : v.category = 1)
    (k : V E nL cs sl h (pc + 1) lv (v :: v :: rest)) : V E nL cs sl h pc lv (v :: rest) := by
  obtain ⟨G, p, e, R, s, m, args, below, meth, c, Q⟩ := E
  obtain ⟨hx, hb, hml, hret, hlk, hown, hts, hK, hbs, hX, hG, hRm⟩ := hc
  intro H locs ls hR hS hlv
  exact lv_dup hx hb hd hv (k H locs ls hR hS hlv)
theorem V_pop (hc : cx E own cc nL ret rm) {v : Value} (hd : decode cc pc = .ok (.pop, 1)) (hv : v.category = 1)
    (k : V E nL cs sl h (pc + 1) lv (rest)) : V E nL cs sl h pc lv (v :: rest) := by
  obtain ⟨G, p, e, R, s, m, args, below, meth, c, Q⟩ := E
  obtain ⟨hx, hb, hml, hret, hlk, hown, hts, hK, hbs, hX, hG, hRm⟩ := hc
  intro H locs ls hR hS hlv
  exact lv_pop hx hb hd hv (k H locs ls hR hS hlv)
theorem V_dup2 (hc : cx E own cc nL ret rm) {v w : Value} (hd : decode cc pc = .ok (.dup2, 1)) (hv : v.category = 1) (hw : w.category = 1)
    (k : V E nL cs sl h (pc + 1) lv (v :: w :: v :: w :: rest)) : V E nL cs sl h pc lv (v :: w :: rest) := by
  obtain ⟨G, p, e, R, s, m, args, below, meth, c, Q⟩ := E
  obtain ⟨hx, hb, hml, hret, hlk, hown, hts, hK, hbs, hX, hG, hRm⟩ := hc
  intro H locs ls hR hS hlv
  exact lv_dup2_11 hx hb hd hv hw (k H locs ls hR hS hlv)
theorem cat_rf (o : Option Nat) : (va_rf o).category = 1 := by cases o <;> rfl
theorem V_goto (hc : cx E own cc nL ret rm) {off : Int} {tgt : Nat} (hd : decode cc pc = .ok (.goto off, 3)) (ht : (pc : Int) + off = (tgt : Int))
    (k : V E nL cs sl h (tgt) lv (rest)) : V E nL cs sl h pc lv (rest) := by
  obtain ⟨G, p, e, R, s, m, args, below, meth, c, Q⟩ := E
  obtain ⟨hx, hb, hml, hret, hlk, hown, hts, hK, hbs, hX, hG, hRm⟩ := hc
  intro H locs ls hR hS hlv
  exact lv_goto hx hb hd ht (k H locs ls hR hS hlv)
theorem V_if_eq (hc : cx E own cc nL ret rm) {x : Int32} {off : Int} {tgt : Nat} (hd : decode cc pc = .ok (.ifCond .eq off, 3)) (ht : (pc : Int) + off = (tgt : Int))
    (kt : x = 0 → V E nL cs sl h tgt lv rest) (kf : ¬ x = 0 → V E nL cs sl h (pc + 3) lv rest) : V E nL cs sl h pc lv (.int x :: rest) := by
  obtain ⟨G, p, e, R, s, m, args, below, meth, c, Q⟩ := E
  obtain ⟨hx, hb, hml, hret, hlk, hown, hts, hK, hbs, hX, hG, hRm⟩ := hc
  intro H locs ls hR hS hlv
  exact lv_if_eq hx hb hd ht (fun q => kt q H locs ls hR hS hlv) (fun q => kf q H locs ls hR hS hlv)
theorem V_if_ne (hc : cx E own cc nL ret rm) {x : Int32} {off : Int} {tgt : Nat} (hd : decode cc pc = .ok (.ifCond .ne off, 3)) (ht : (pc : Int) + off = (tgt : Int))
    (kt : ¬ x = 0 → V E nL cs sl h tgt lv rest) (kf : x = 0 → V E nL cs sl h (pc + 3) lv rest) : V E nL cs sl h pc lv (.int x :: rest) := by
  obtain ⟨G, p, e, R, s, m, args, below, meth, c, Q⟩ := E
  obtain ⟨hx, hb, hml, hret, hlk, hown, hts, hK, hbs, hX, hG, hRm⟩ := hc
  intro H locs ls hR hS hlv
  exact lv_if_ne hx hb hd ht (fun q => kt q H locs ls hR hS hlv) (fun q => kf q H locs ls hR hS hlv)
theorem V_if_lt (hc : cx E own cc nL ret rm) {x : Int32} {off : Int} {tgt : Nat} (hd : decode cc pc = .ok (.ifCond .lt off, 3)) (ht : (pc : Int) + off = (tgt : Int))
    (kt : x < 0 → V E nL cs sl h tgt lv rest) (kf : ¬ x < 0 → V E nL cs sl h (pc + 3) lv rest) : V E nL cs sl h pc lv (.int x :: rest) := by
  obtain ⟨G, p, e, R, s, m, args, below, meth, c, Q⟩ := E
  obtain ⟨hx, hb, hml, hret, hlk, hown, hts, hK, hbs, hX, hG, hRm⟩ := hc
  intro H locs ls hR hS hlv
  exact lv_if_lt hx hb hd ht (fun q => kt q H locs ls hR hS hlv) (fun q => kf q H locs ls hR hS hlv)
theorem V_if_ge (hc : cx E own cc nL ret rm) {x : Int32} {off : Int} {tgt : Nat} (hd : decode cc pc = .ok (.ifCond .ge off, 3)) (ht : (pc : Int) + off = (tgt : Int))
    (kt : 0 ≤ x → V E nL cs sl h tgt lv rest) (kf : ¬ 0 ≤ x → V E nL cs sl h (pc + 3) lv rest) : V E nL cs sl h pc lv (.int x :: rest) := by
  obtain ⟨G, p, e, R, s, m, args, below, meth, c, Q⟩ := E
  obtain ⟨hx, hb, hml, hret, hlk, hown, hts, hK, hbs, hX, hG, hRm⟩ := hc
  intro H locs ls hR hS hlv
  exact lv_if_ge hx hb hd ht (fun q => kt q H locs ls hR hS hlv) (fun q => kf q H locs ls hR hS hlv)
theorem V_if_gt (hc : cx E own cc nL ret rm) {x : Int32} {off : Int} {tgt : Nat} (hd : decode cc pc = .ok (.ifCond .gt off, 3)) (ht : (pc : Int) + off = (tgt : Int))
    (kt : 0 < x → V E nL cs sl h tgt lv rest) (kf : ¬ 0 < x → V E nL cs sl h (pc + 3) lv rest) : V E nL cs sl h pc lv (.int x :: rest) := by
  obtain ⟨G, p, e, R, s, m, args, below, meth, c, Q⟩ := E
  obtain ⟨hx, hb, hml, hret, hlk, hown, hts, hK, hbs, hX, hG, hRm⟩ := hc
  intro H locs ls hR hS hlv
  exact lv_if_gt hx hb hd ht (fun q => kt q H locs ls hR hS hlv) (fun q => kf q H locs ls hR hS hlv)
theorem V_if_le (hc : cx E own cc nL ret rm) {x : Int32} {off : Int} {tgt : Nat} (hd : decode cc pc = .ok (.ifCond .le off, 3)) (ht : (pc : Int) + off = (tgt : Int))
    (kt : x ≤ 0 → V E nL cs sl h tgt lv rest) (kf : ¬ x ≤ 0 → V E nL cs sl h (pc + 3) lv rest) : V E nL cs sl h pc lv (.int x :: rest) := by
  obtain ⟨G, p, e, R, s, m, args, below, meth, c, Q⟩ := E
  obtain ⟨hx, hb, hml, hret, hlk, hown, hts, hK, hbs, hX, hG, hRm⟩ := hc
  intro H locs ls hR hS hlv
  exact lv_if_le hx hb hd ht (fun q => kt q H locs ls hR hS hlv) (fun q => kf q H locs ls hR hS hlv)
theorem V_icmp_eq (hc : cx E own cc nL ret rm) {x y : Int32} {off : Int} {tgt : Nat} (hd : decode cc pc = .ok (.if_icmp .eq off, 3)) (ht : (pc : Int) + off = (tgt : Int))
    (kt : x = y → V E nL cs sl h tgt lv rest) (kf : ¬ x = y → V E nL cs sl h (pc + 3) lv rest) : V E nL cs sl h pc lv (.int y :: .int x :: rest) := by
  obtain ⟨G, p, e, R, s, m, args, below, meth, c, Q⟩ := E
  obtain ⟨hx, hb, hml, hret, hlk, hown, hts, hK, hbs, hX, hG, hRm⟩ := hc
  intro H locs ls hR hS hlv
  exact lv_icmp_eq hx hb hd ht (fun q => kt q H locs ls hR hS hlv) (fun q => kf q H locs ls hR hS hlv)
theorem V_icmp_ne (hc : cx E own cc nL ret rm) {x y : Int32} {off : Int} {tgt : Nat} (hd : decode cc pc = .ok (.if_icmp .ne off, 3)) (ht : (pc : Int) + off = (tgt : Int))
    (kt : ¬ x = y → V E nL cs sl h tgt lv rest) (kf : x = y → V E nL cs sl h (pc + 3) lv rest) : V E nL cs sl h pc lv (.int y :: .int x :: rest) := by
  obtain ⟨G, p, e, R, s, m, args, below, meth, c, Q⟩ := E
  obtain ⟨hx, hb, hml, hret, hlk, hown, hts, hK, hbs, hX, hG, hRm⟩ := hc
  intro H locs ls hR hS hlv
  exact lv_icmp_ne hx hb hd ht (fun q => kt q H locs ls hR hS hlv) (fun q => kf q H locs ls hR hS hlv)
theorem V_icmp_lt (hc : cx E own cc nL ret rm) {x y : Int32} {off : Int} {tgt : Nat} (hd : decode cc pc = .ok (.if_icmp .lt off, 3)) (ht : (pc : Int) + off = (tgt : Int))
    (kt : x < y → V E nL cs sl h tgt lv rest) (kf : ¬ x < y → V E nL cs sl h (pc + 3) lv rest) : V E nL cs sl h pc lv (.int y :: .int x :: rest) := by
  obtain ⟨G, p, e, R, s, m, args, below, meth, c, Q⟩ := E
  obtain ⟨hx, hb, hml, hret, hlk, hown, hts, hK, hbs, hX, hG, hRm⟩ := hc
  intro H locs ls hR hS hlv
  exact lv_icmp_lt hx hb hd ht (fun q => kt q H locs ls hR hS hlv) (fun q => kf q H locs ls hR hS hlv)
theorem V_icmp_ge (hc : cx E own cc nL ret rm) {x y : Int32} {off : Int} {tgt : Nat} (hd : decode cc pc = .ok (.if_icmp .ge off, 3)) (ht : (pc : Int) + off = (tgt : Int))
    (kt : y ≤ x → V E nL cs sl h tgt lv rest) (kf : ¬ y ≤ x → V E nL cs sl h (pc + 3) lv rest) : V E nL cs sl h pc lv (.int y :: .int x :: rest) := by
  obtain ⟨G, p, e, R, s, m, args, below, meth, c, Q⟩ := E
  obtain ⟨hx, hb, hml, hret, hlk, hown, hts, hK, hbs, hX, hG, hRm⟩ := hc
  intro H locs ls hR hS hlv
  exact lv_icmp_ge hx hb hd ht (fun q => kt q H locs ls hR hS hlv) (fun q => kf q H locs ls hR hS hlv)
theorem V_icmp_gt (hc : cx E own cc nL ret rm) {x y : Int32} {off : Int} {tgt : Nat} (hd : decode cc pc = .ok (.if_icmp .gt off, 3)) (ht : (pc : Int) + off = (tgt : Int))
    (kt : y < x → V E nL cs sl h tgt lv rest) (kf : ¬ y < x → V E nL cs sl h (pc + 3) lv rest) : V E nL cs sl h pc lv (.int y :: .int x :: rest) := by
  obtain ⟨G, p, e, R, s, m, args, below, meth, c, Q⟩ := E
  obtain ⟨hx, hb, hml, hret, hlk, hown, hts, hK, hbs, hX, hG, hRm⟩ := hc
  intro H locs ls hR hS hlv
  exact lv_icmp_gt hx hb hd ht (fun q => kt q H locs ls hR hS hlv) (fun q => kf q H locs ls hR hS hlv)
theorem V_icmp_le (hc : cx E own cc nL ret rm) {x y : Int32} {off : Int} {tgt : Nat} (hd : decode cc pc = .ok (.if_icmp .le off, 3)) (ht : (pc : Int) + off = (tgt : Int))
    (kt : x ≤ y → V E nL cs sl h tgt lv rest) (kf : ¬ x ≤ y → V E nL cs sl h (pc + 3) lv rest) : V E nL cs sl h pc lv (.int y :: .int x :: rest) := by
  obtain ⟨G, p, e, R, s, m, args, below, meth, c, Q⟩ := E
  obtain ⟨hx, hb, hml, hret, hlk, hown, hts, hK, hbs, hX, hG, hRm⟩ := hc
  intro H locs ls hR hS hlv
  exact lv_icmp_le hx hb hd ht (fun q => kt q H locs ls hR hS hlv) (fun q => kf q H locs ls hR hS hlv)
theorem V_ifnull (hc : cx E own cc nL ret rm) {o : Option Nat} {off : Int} {tgt : Nat} (hd : decode cc pc = .ok (.ifnull off, 3)) (ht : (pc : Int) + off = (tgt : Int))
    (kt : o = none → V E nL cs sl h tgt lv rest) (kf : ∀ a, o = some a → V E nL cs sl h (pc + 3) lv rest) : V E nL cs sl h pc lv (va_rf o :: rest) := by
  obtain ⟨G, p, e, R, s, m, args, below, meth, c, Q⟩ := E
  obtain ⟨hx, hb, hml, hret, hlk, hown, hts, hK, hbs, hX, hG, hRm⟩ := hc
  intro H locs ls hR hS hlv
  cases o with
  | none => exact lv_ifnullN hx hb hd ht (kt rfl H locs ls hR hS hlv)
  | some a => exact lv_ifnull hx hb hd (kf a rfl H locs ls hR hS hlv)
theorem V_ifnonnull (hc : cx E own cc nL ret rm) {o : Option Nat} {off : Int} {tgt : Nat} (hd : decode cc pc = .ok (.ifnonnull off, 3)) (ht : (pc : Int) + off = (tgt : Int))
    (kt : ∀ a, o = some a → V E nL cs sl h tgt lv rest) (kf : o = none → V E nL cs sl h (pc + 3) lv rest) : V E nL cs sl h pc lv (va_rf o :: rest) := by
  obtain ⟨G, p, e, R, s, m, args, below, meth, c, Q⟩ := E
  obtain ⟨hx, hb, hml, hret, hlk, hown, hts, hK, hbs, hX, hG, hRm⟩ := hc
  intro H locs ls hR hS hlv
  cases o with
  | none => exact lv_ifnonnullN hx hb hd (kf rfl H locs ls hR hS hlv)
  | some a => exact lv_ifnonnull hx hb hd ht (kt a rfl H locs ls hR hS hlv)
theorem V_lookup (hc : cx E own cc nL ret rm) {x : Int32} {dflt : Int} {ps : Array (Int × Int)} {len : Nat} {off : Int} {tgt : Nat} (hd : decode cc pc = .ok (.lookupswitch dflt ps, len)) (hp : (ps.toList.zip (ps.toList.drop 1)).all (fun (a, next) => a.1 < next.1) = true) (ho : Op.lookupswitch.offset ps.toList dflt x.toInt = off) (ht : (pc : Int) + off = (tgt : Int))
    (k : V E nL cs sl h tgt lv rest) : V E nL cs sl h pc lv (.int x :: rest) := by
  obtain ⟨G, p, e, R, s, m, args, below, meth, c, Q⟩ := E
  obtain ⟨hx, hb, hml, hret, hlk, hown, hts, hK, hbs, hX, hG, hRm⟩ := hc
  intro H locs ls hR hS hlv
  exact lv_lookup hx hb hd hp ho ht (k H locs ls hR hS hlv)
theorem V_tabOut (hc : cx E own cc nL ret rm) {x : Int32} {dflt lo hi : Int} {offs : Array Int} {len : Nat} {tgt : Nat} (hd : decode cc pc = .ok (.tableswitch dflt lo hi offs, len)) (hq : x.toInt < lo ∨ hi < x.toInt) (ht : (pc : Int) + dflt = (tgt : Int))
    (k : V E nL cs sl h tgt lv rest) : V E nL cs sl h pc lv (.int x :: rest) := by
  obtain ⟨G, p, e, R, s, m, args, below, meth, c, Q⟩ := E
  obtain ⟨hx, hb, hml, hret, hlk, hown, hts, hK, hbs, hX, hG, hRm⟩ := hc
  intro H locs ls hR hS hlv
  exact lv_tableOut hx hb hd hq ht (k H locs ls hR hS hlv)
theorem V_tabIn (hc : cx E own cc nL ret rm) {x : Int32} {dflt lo hi : Int} {offs : Array Int} {len : Nat} {off : Int} {tgt : Nat} (hd : decode cc pc = .ok (.tableswitch dflt lo hi offs, len)) (h1 : ¬ x.toInt < lo) (h2 : ¬ hi < x.toInt) (ho : offs[(x.toInt - lo).toNat]? = some off) (ht : (pc : Int) + off = (tgt : Int))
    (k : V E nL cs sl h tgt lv rest) : V E nL cs sl h pc lv (.int x :: rest) := by
  obtain ⟨G, p, e, R, s, m, args, below, meth, c, Q⟩ := E
  obtain ⟨hx, hb, hml, hret, hlk, hown, hts, hK, hbs, hX, hG, hRm⟩ := hc
  intro H locs ls hR hS hlv
  exact lv_tableIn hx hb hd h1 h2 ho ht (k H locs ls hR hS hlv)
/-- a field of class c, place k, by the pool's number -/
def gf (own : String) (index c k : Nat) (ty : FieldType) : Prop := ∃ r, tb[c]? = some r ∧ k < r.2.2.1 ∧ r.2.2.2 k = ty ∧ Cond.fieldLink own index (r.2.1 k).1 (r.2.1 k).2.1 (r.2.1 k).2.2.1 ∈ gw
def gfN (own : String) (index c k : Nat) (ty : FieldType) (host : String) : Prop := ∃ r, tb[c]? = some r ∧ k < r.2.2.1 ∧ r.2.2.2 k = ty ∧ Cond.fieldLinkNest own index (r.2.1 k).1 (r.2.1 k).2.1 (r.2.1 k).2.2.1 host ∈ nsl
def gfin (c k : Nat) : Bool := match tb[c]? with
  | some r => (r.2.1 k).2.2.2
  | none => true
theorem V_get {index cn a q : Nat} {o : Option Nat} {ty : FieldType} (hc : cx E own cc nL ret rm) (g : gf own index cn q ty) (ho : o = some a) (hk : mm_k h a = cn + 1) {v : Value} (hv : mm_v h a q ty = v) (hd : decode cc pc = .ok (.getfield index, 3))
    (k : V E nL cs sl h (pc + 3) lv (v :: rest)) : V E nL cs sl h pc lv (va_rf o :: rest) := by
  subst ho
  obtain ⟨G, p, e, R, s, m, args, below, meth, c, Q⟩ := E
  obtain ⟨hx, hb, hml, hret, hlk, hown, hts, hK, hbs, hX, hG, hRm⟩ := hc
  intro H locs ls hR hS hlv
  obtain ⟨r, g1, g2, g3, g4⟩ := g
  subst g3
  obtain ⟨cell, q1, q2, q3, q4⟩ := (hR.2.2 a).1 cn r hk g1
  obtain ⟨hS1, hfc, kC, hkC, hkind⟩ := hK.1 cn _ (tb_cls g1)
  obtain ⟨cf, kf, fi, f, hi, hsl⟩ := hS1 q g2
  refine W.getf hx hb hown (hts _ g4) hi (u_facts hfc hkC (u_lays hts (tb_gw g1) g2) hi).1 q1 (by rw [q3]; exact fun h => by cases h) (v := v) ?_ rfl rfl hd (k H locs ls hR hS hlv)
  rw [hsl, q4 q g2]
  exact congrArg some hv
theorem V_getN {index cn a q : Nat} {o : Option Nat} {ty : FieldType} {host : String} (hc : cx E own cc nL ret rm) (g : gfN own index cn q ty host) (ho : o = some a) (hk : mm_k h a = cn + 1) {v : Value} (hv : mm_v h a q ty = v) (hd : decode cc pc = .ok (.getfield index, 3))
    (k : V E nL cs sl h (pc + 3) lv (v :: rest)) : V E nL cs sl h pc lv (va_rf o :: rest) := by
  subst ho
  obtain ⟨G, p, e, R, s, m, args, below, meth, c, Q⟩ := E
  obtain ⟨hx, hb, hml, hret, hlk, hown, hts, hK, hbs, hX, hG, hRm⟩ := hc
  intro H locs ls hR hS hlv
  obtain ⟨r, g1, g2, g3, g4⟩ := g
  subst g3
  obtain ⟨cell, q1, q2, q3, q4⟩ := (hR.2.2 a).1 cn r hk g1
  obtain ⟨hS1, hfc, kC, hkC, hkind⟩ := hK.1 cn _ (tb_cls g1)
  obtain ⟨cf, kf, fi, f, hi, hsl⟩ := hS1 q g2
  refine va_Wgetf hx hb hown (va_Nw.use rfl ((hG.2 s hX).2.2.2.2.2.2 _ g4)) hi (u_facts hfc hkC (u_lays hts (tb_gw g1) g2) hi).1 q1 (by rw [q3]; exact fun h => by cases h) (v := v) ?_ rfl rfl hd (k H locs ls hR hS hlv)
  rw [hsl, q4 q g2]
  exact congrArg some hv
theorem V_put {index cn a q : Nat} {o : Option Nat} {ty : FieldType} {h' : mm_M} {v : Value} (hc : cx E own cc nL ret rm) (g : gf own index cn q ty) (hfin : gfin cn q = false) (ho : o = some a) (hk : mm_k h a = cn + 1) (hbs9 : mm_gb (eG E) ≤ a) (hU : mm_Up h h' a q) (hv : mm_v h' a q ty = v) (hn : narrow ty v = v) (hfit : fits ty v = true) (hd : decode cc pc = .ok (.putfield index, 3))
    (k : V E nL cs sl h' (pc + 3) lv rest) : V E nL cs sl h pc lv (v :: va_rf o :: rest) := by
  subst ho
  obtain ⟨G, p, e, R, s, m, args, below, meth, c, Q⟩ := E
  obtain ⟨hx, hb, hml, hret, hlk, hown, hts, hK, hbs, hX, hG, hRm⟩ := hc
  intro H locs ls hR hS hlv
  obtain ⟨r, g1, g2, g3, g4⟩ := g
  subst g3
  have hap := va_apart (own := own) hts (tb_gw g1) r.2.2.2 (tb_in cn r g1).2.1 (tb_in cn r g1).2.2 hK (tb_cls g1)
  obtain ⟨cell, q1, q2, q3, q4⟩ := (hR.2.2 a).1 cn r hk g1
  obtain ⟨hS1, hfc, kC, hkC, hkind⟩ := hK.1 cn _ (tb_cls g1)
  obtain ⟨cf, kf, fi, f, hi, hsl⟩ := hS1 q g2
  have hf2 : (r.2.1 q).2.2.2 = false := by unfold gfin at hfin; rw [g1] at hfin; exact hfin
  have hlay := hts _ (tb_gw g1 _ (u_in_lay g2))
  unfold u_lay at hlay
  rw [if_neg (by rw [hf2]; decide)] at hlay
  have hst := (u_facts hfc hkC (u_lays hts (tb_gw g1) g2) hi).1
  have h6 := u_store hfc hkC hkind hlay hi ((tb_in cn r g1).2.1 q g2) hn hfit
  refine W.putK hx hb (f := f) ⟨hown, hts _ g4, ⟨_, _, _, hi⟩, hst⟩ (by rw [q2]; exact h6) q1 q3 (by rw [hsl]; exact k2_hasslot (q4 q g2)) rfl rfl hd fun H' e1 e2 e3 => ?_
  rw [hsl] at e1 ⊢
  exact k H' _ ls (mm_R_put hR hU hk g1 g2 hap hv q1 e1 e2 e3) (hS.put e2 e3 hbs9) hlv
theorem V_putF {index cn a q : Nat} {o : Option Nat} {ty : FieldType} {h' : mm_M} {v : Value} (hc : cx E own cc nL ret rm) (hin : ci E) (hcn : (tb.map (fun r => r.1))[cn]? = some own) (hdn : ∀ r, tb[cn]? = some r → (r.2.1 q).1 = r.1) (g : gf own index cn q ty) (hfin : gfin cn q = true) (ho : o = some a) (hk : mm_k h a = cn + 1) (hbs9 : mm_gb (eG E) ≤ a) (hU : mm_Up h h' a q) (hv : mm_v h' a q ty = v) (hn : narrow ty v = v) (hfit : fits ty v = true) (hd : decode cc pc = .ok (.putfield index, 3))
    (k : V E nL cs sl h' (pc + 3) lv rest) : V E nL cs sl h pc lv (v :: va_rf o :: rest) := by
  subst ho
  obtain ⟨G, p, e, R, s, m, args, below, meth, c, Q⟩ := E
  obtain ⟨hx, hb, hml, hret, hlk, hown, hts, hK, hbs, hX, hG, hRm⟩ := hc
  intro H locs ls hR hS hlv
  obtain ⟨r, g1, g2, g3, g4⟩ := g
  subst g3
  have hap := va_apart (own := own) hts (tb_gw g1) r.2.2.2 (tb_in cn r g1).2.1 (tb_in cn r g1).2.2 hK (tb_cls g1)
  obtain ⟨cell, q1, q2, q3, q4⟩ := (hR.2.2 a).1 cn r hk g1
  obtain ⟨hS1, hfc, kC, hkC, hkind⟩ := hK.1 cn _ (tb_cls g1)
  obtain ⟨cf, kf, fi, f, hi, hsl⟩ := hS1 q g2
  have hf2 : (r.2.1 q).2.2.2 = true := by unfold gfin at hfin; rw [g1] at hfin; exact hfin
  have hlay := hts _ (tb_gw g1 _ (u_in_lay g2))
  unfold u_lay at hlay
  rw [if_pos hf2] at hlay
  have hst := (u_facts hfc hkC (u_lays hts (tb_gw g1) g2) hi).1
  have hr1 : r.1 = own := by
    rw [List.getElem?_map, g1] at hcn
    exact Option.some.inj hcn
  have hcf : m.cls = cf := by
    obtain ⟨_, _, c', _, _, _, -, -, hf', -, -, -, hown2, -⟩ := Cond.laysFinal_spec hlay
    have e1 : c' = cf := by have := hi.symm.trans hf'; simp at this; exact this.1.symm
    rw [hdn r g1, hr1] at hown2
    rw [← e1]; exact Option.some.inj (hown.symm.trans hown2)
  have h6 := u_fits hfc hkC hkind (Or.inr hlay) hi ((tb_in cn r g1).2.1 q g2) hn hfit
  refine W.putFinK hx hb hown (hts _ g4) hi hst hcf hin (by rw [q2]; exact h6) q1 q3 (by rw [hsl]; exact k2_hasslot (q4 q g2)) rfl rfl hd fun H' e1 e2 e3 => ?_
  rw [hsl] at e1 ⊢
  exact k H' _ ls (mm_R_put hR hU hk g1 g2 hap hv q1 e1 e2 e3) (hS.put e2 e3 hbs9) hlv
theorem V_iald {a : Nat} {o : Option Nat} {i : Int32} (hc : cx E own cc nL ret rm) (ho : o = some a) (hk : mm_k h a = 0 + 100) (hi : vp_in i (mm_n h a)) (hd : decode cc pc = .ok (.iaload, 1))
    (k : V E nL cs sl h (pc + 1) lv (.int (mm_I h a i.toNatClampNeg) :: rest)) : V E nL cs sl h pc lv (.int i :: va_rf o :: rest) := by
  subst ho
  obtain ⟨G, p, e, R, s, m, args, below, meth, c, Q⟩ := E
  obtain ⟨hx, hb, hml, hret, hlk, hown, hts, hK, hbs, hX, hG, hRm⟩ := hc
  intro H locs ls hR hS hlv
  have hlt : i.toNatClampNeg < mm_n h a := Nat.not_le.mp fun q => hi (Or.inr q)
  obtain ⟨-, cell, q2, q3, q4, q5, q6, q7⟩ := (hR.2.2 a).2 0 .int hk rfl
  exact W.iald hx hb q2 q3 q4 (fun q => hi (q.imp id (fun z => Nat.le_trans q5 z))) (q7 _ hlt) rfl rfl hd (k H locs ls hR hS hlv)
theorem V_bald {a : Nat} {o : Option Nat} {i : Int32} (hc : cx E own cc nL ret rm) (ho : o = some a) (hk : mm_k h a = 1 + 100) (hi : vp_in i (mm_n h a)) (hd : decode cc pc = .ok (.baload, 1))
    (k : V E nL cs sl h (pc + 1) lv (.int (mm_I h a i.toNatClampNeg) :: rest)) : V E nL cs sl h pc lv (.int i :: va_rf o :: rest) := by
  subst ho
  obtain ⟨G, p, e, R, s, m, args, below, meth, c, Q⟩ := E
  obtain ⟨hx, hb, hml, hret, hlk, hown, hts, hK, hbs, hX, hG, hRm⟩ := hc
  intro H locs ls hR hS hlv
  have hlt : i.toNatClampNeg < mm_n h a := Nat.not_le.mp fun q => hi (Or.inr q)
  obtain ⟨-, cell, q2, q3, q4, q5, q6, q7⟩ := (hR.2.2 a).2 1 .byte hk rfl
  exact W.bald hx hb q2 q3 q4 (fun q => hi (q.imp id (fun z => Nat.le_trans q5 z))) (q7 _ hlt) rfl rfl hd (k H locs ls hR hS hlv)
theorem V_zald {a : Nat} {o : Option Nat} {i : Int32} (hc : cx E own cc nL ret rm) (ho : o = some a) (hk : mm_k h a = 2 + 100) (hi : vp_in i (mm_n h a)) (hd : decode cc pc = .ok (.baload, 1))
    (k : V E nL cs sl h (pc + 1) lv (.int (mm_I h a i.toNatClampNeg) :: rest)) : V E nL cs sl h pc lv (.int i :: va_rf o :: rest) := by
  subst ho
  obtain ⟨G, p, e, R, s, m, args, below, meth, c, Q⟩ := E
  obtain ⟨hx, hb, hml, hret, hlk, hown, hts, hK, hbs, hX, hG, hRm⟩ := hc
  intro H locs ls hR hS hlv
  have hlt : i.toNatClampNeg < mm_n h a := Nat.not_le.mp fun q => hi (Or.inr q)
  obtain ⟨-, cell, q2, q3, q4, q5, q6, q7⟩ := (hR.2.2 a).2 2 .boolean hk rfl
  exact W.zald hx hb q2 q3 q4 (fun q => hi (q.imp id (fun z => Nat.le_trans q5 z))) (q7 _ hlt) rfl rfl hd (k H locs ls hR hS hlv)
theorem V_aald {a t : Nat} {o : Option Nat} {i : Int32} {ty : FieldType} (hc : cx E own cc nL ret rm) (ht : aty[t]? = some ty) (hty : ty.isReference = true) (hp : mm_isP ty = true) (ho : o = some a) (hk : mm_k h a = t + 100) (hi : vp_in i (mm_n h a)) (hd : decode cc pc = .ok (.aaload, 1))
    (k : V E nL cs sl h (pc + 1) lv (va_rf (mm_P h a i.toNatClampNeg) :: rest)) : V E nL cs sl h pc lv (.int i :: va_rf o :: rest) := by
  subst ho
  obtain ⟨G, p, e, R, s, m, args, below, meth, c, Q⟩ := E
  obtain ⟨hx, hb, hml, hret, hlk, hown, hts, hK, hbs, hX, hG, hRm⟩ := hc
  intro H locs ls hR hS hlv
  have hlt : i.toNatClampNeg < mm_n h a := Nat.not_le.mp fun q => hi (Or.inr q)
  obtain ⟨-, cell, q2, q3, q4, q5, q6, q7⟩ := (hR.2.2 a).2 t ty hk ht
  exact W.aald hx hb q2 q3 hty q4 (fun q => hi (q.imp id (fun z => Nat.le_trans q5 z))) (by rw [q7 _ hlt, mm_v_P hp]) rfl rfl hd (k H locs ls hR hS hlv)
theorem V_iast {a : Nat} {o : Option Nat} {i x : Int32} (hc : cx E own cc nL ret rm) (ho : o = some a) (hk : mm_k h a = 0 + 100) (hi : vp_in i (mm_n h a)) (hbs9 : mm_gb (eG E) ≤ a) (hd : decode cc pc = .ok (.iastore, 1))
    (k : V E nL cs sl (mm_uI h a i.toNatClampNeg (x)) (pc + 1) lv rest) : V E nL cs sl h pc lv (.int x :: .int i :: va_rf o :: rest) := by
  subst ho
  obtain ⟨G, p, e, R, s, m, args, below, meth, c, Q⟩ := E
  obtain ⟨hx, hb, hml, hret, hlk, hown, hts, hK, hbs, hX, hG, hRm⟩ := hc
  intro H locs ls hR hS hlv
  refine W.iast hx hb (((hR.2.2 a).2 0 .int hk rfl).1 hbs9) ((hK.2 0 _ (mm_tys_at (c := 0) rfl)).1 _ _) (fun q => by cases q) (by rw [arrV_size]; exact hi) rfl rfl hd fun H' e1 e2 e3 => ?_
  exact k H' _ ls (mm_R_ast hR (hK.2 0 _ (mm_tys_at (c := 0) rfl)).1 (mm_Up_I h a _ _) hk rfl (by first | (show Value.int _ = Value.int _; exact congrArg Value.int mm_up_eq) | (rw [mm_v_I rfl]; show Value.int (mm_up _ _ _ _ _ _) = _; rw [mm_up_eq]; rfl)) e1 e2 e3) (hS.put e2 e3 hbs9) hlv
theorem V_bast {a : Nat} {o : Option Nat} {i x : Int32} (hc : cx E own cc nL ret rm) (ho : o = some a) (hk : mm_k h a = 1 + 100) (hi : vp_in i (mm_n h a)) (hbs9 : mm_gb (eG E) ≤ a) (hd : decode cc pc = .ok (.bastore, 1))
    (k : V E nL cs sl (mm_uI h a i.toNatClampNeg (vp_nar .byte x)) (pc + 1) lv rest) : V E nL cs sl h pc lv (.int x :: .int i :: va_rf o :: rest) := by
  subst ho
  obtain ⟨G, p, e, R, s, m, args, below, meth, c, Q⟩ := E
  obtain ⟨hx, hb, hml, hret, hlk, hown, hts, hK, hbs, hX, hG, hRm⟩ := hc
  intro H locs ls hR hS hlv
  refine W.bast hx hb (((hR.2.2 a).2 1 .byte hk rfl).1 hbs9) ((hK.2 1 _ (mm_tys_at (c := 1) rfl)).1 _ _) (fun q => by cases q) (by rw [arrV_size]; exact hi) rfl rfl hd fun H' e1 e2 e3 => ?_
  exact k H' _ ls (mm_R_ast hR (hK.2 1 _ (mm_tys_at (c := 1) rfl)).1 (mm_Up_I h a _ _) hk rfl (by first | (show Value.int _ = Value.int _; exact congrArg Value.int mm_up_eq) | (rw [mm_v_I rfl]; show Value.int (mm_up _ _ _ _ _ _) = _; rw [mm_up_eq]; rfl)) e1 e2 e3) (hS.put e2 e3 hbs9) hlv
theorem V_zast {a : Nat} {o : Option Nat} {i x : Int32} (hc : cx E own cc nL ret rm) (ho : o = some a) (hk : mm_k h a = 2 + 100) (hi : vp_in i (mm_n h a)) (hbs9 : mm_gb (eG E) ≤ a) (hd : decode cc pc = .ok (.bastore, 1))
    (k : V E nL cs sl (mm_uI h a i.toNatClampNeg (vp_nar .boolean x)) (pc + 1) lv rest) : V E nL cs sl h pc lv (.int x :: .int i :: va_rf o :: rest) := by
  subst ho
  obtain ⟨G, p, e, R, s, m, args, below, meth, c, Q⟩ := E
  obtain ⟨hx, hb, hml, hret, hlk, hown, hts, hK, hbs, hX, hG, hRm⟩ := hc
  intro H locs ls hR hS hlv
  refine W.zast hx hb (((hR.2.2 a).2 2 .boolean hk rfl).1 hbs9) ((hK.2 2 _ (mm_tys_at (c := 2) rfl)).1 _ _) (fun q => by cases q) (by rw [arrV_size]; exact hi) rfl rfl hd fun H' e1 e2 e3 => ?_
  exact k H' _ ls (mm_R_ast hR (hK.2 2 _ (mm_tys_at (c := 2) rfl)).1 (mm_Up_I h a _ _) hk rfl (by first | (show Value.int _ = Value.int _; exact congrArg Value.int mm_up_eq) | (rw [mm_v_I rfl]; show Value.int (mm_up _ _ _ _ _ _) = _; rw [mm_up_eq]; rfl)) e1 e2 e3) (hS.put e2 e3 hbs9) hlv
theorem V_alen {a t : Nat} {o : Option Nat} {ty : FieldType} (hc : cx E own cc nL ret rm) (ht : aty[t]? = some ty) (ho : o = some a) (hk : mm_k h a = t + 100) (hd : decode cc pc = .ok (.arraylength, 1))
    (k : V E nL cs sl h (pc + 1) lv (.int (mm_n h a).toInt32 :: rest)) : V E nL cs sl h pc lv (va_rf o :: rest) := by
  subst ho
  obtain ⟨G, p, e, R, s, m, args, below, meth, c, Q⟩ := E
  obtain ⟨hx, hb, hml, hret, hlk, hown, hts, hK, hbs, hX, hG, hRm⟩ := hc
  intro H locs ls hR hS hlv
  obtain ⟨-, cell, q2, q3, q4, q5, q6, q7⟩ := (hR.2.2 a).2 t ty hk ht
  exact W.alen hx hb q2 q3 (by rw [q6]) rfl rfl hd (k H locs ls hR hS hlv)
theorem V_newa {t N : Nat} {n : Int32} {atype : ArrayType} {ty : FieldType} (hc : cx E own cc nL ret rm) (hty : newarray.typeOf atype = ty) (ht : aty[t]? = some ty) (hr : ∀ cA : ClassId, va_RA E.2.2.2.2.1 cA ty → E.2.2.2.2.1.vm.findClass ("[" ++ ty.toString) = some cA) (harr : Cond.arrayClass ty ∈ gw) (hf : ty ≠ .float) (hdb : ty ≠ .double) (hn : ¬ n < 0) (hN : n.toNatClampNeg = N) (hby : N * componentBytes ty ≤ 536870912) (hcs : cs + 1 ≤ rm.cells) (hsl : sl + N ≤ rm.slots) (hd : decode cc pc = .ok (.newarray atype, 2))
    (k : V E nL (cs + 1) (sl + N) (mm_nw h (t + 100) N) (pc + 2) lv (va_rf (some (mm_z h)) :: rest)) : V E nL cs sl h pc lv (.int n :: rest) := by
  subst hty
  obtain ⟨G, p, e, R, s, m, args, below, meth, c, Q⟩ := E
  obtain ⟨hx, hb, hml, hret, hlk, hown, hts, hK, hbs, hX, hG, hRm⟩ := hc
  intro H locs ls hR hS hlv
  subst hRm
  refine va_newaK hx hb (hts _ harr) rfl hd rfl hn hN hby hcs hsl hR.1 fun H1 cA e1 z1 o1 hAr hNm => ?_
  have hcA : cA = mm_gA G t := Option.some.inj (hNm.symm.trans (hr _ (hK.2 t _ (mm_tys_at ht)).2))
  subst hcA
  have hz : H.size = mm_z h := hR.1
  refine k H1 locs ls (mm_R_nw hR (by rw [z1, hz]) (fun q hq => o1 q (by omega)) ⟨fun c r f1 f2 => ?_, fun c ty' f1 f2 => ?_⟩) ⟨Nat.le_trans hS.1 (by omega), fun q h1 h2 => (o1 q (by have := hS.1; omega)).trans (hS.2.1 q h1 h2), hS.2.2⟩ hlv
  · exfalso
    rw [mm_nw_k, if_pos rfl] at f1
    have hlt : c < tb.length := (List.getElem?_eq_some_iff.mp f2).1
    have : tb.length < 99 := by decide
    omega
  · rw [mm_nw_k, if_pos rfl] at f1
    have hcc : c = t := by omega
    subst hcc
    rw [ht] at f2
    cases f2
    refine mm_ar_arrV (hK.2 c _ (mm_tys_at ht)).1 ?_
    rw [e1, mm_nw_n, if_pos rfl]
    congr 2
    funext j
    exact (mm_nw_def hf hdb).symm
theorem V_new {index cn N : Nat} {r : String × u_T × Nat × (Nat → FieldType)} (hc : cx E own cc nL ret rm) (hr : tb[cn]? = some r) (hN : r.2.2.1 = N) (hl : Cond.classLink own index r.1 ∈ gw) (hi : Cond.instantiable r.1 N ∈ gw) (hz9 : Cond.initialized r.1 ∈ gw) (hty : ∀ j, j < N → r.2.2.2 j ≠ .float ∧ r.2.2.2 j ≠ .double) (hcs : cs + 1 ≤ rm.cells) (hsl : sl + N ≤ rm.slots) (hd : decode cc pc = .ok (.new index, 3))
    (k : V E nL (cs + 1) (sl + N) (mm_nw h (cn + 1) 0) (pc + 3) lv (va_rf (some (mm_z h)) :: rest)) : V E nL cs sl h pc lv rest := by
  obtain ⟨G, p, e, R, s, m, args, below, meth, c, Q⟩ := E
  obtain ⟨hx, hb, hml, hret, hlk, hown, hts, hK, hbs, hX, hG, hRm⟩ := hc
  intro H locs ls hR hS hlv
  subst hRm
  subst hN
  have hKn := hK.1 cn _ (tb_cls hr)
  refine W.newcK hx hb hown (hts _ hl) (hts _ hi) (hts _ hz9) rfl hd hcs hsl hKn.2.1 hR.1 fun H1 kC hkC e1 z1 o1 => ?_
  have hz : H.size = mm_z h := hR.1
  refine k H1 locs ls (mm_R_nw hR (by rw [z1, hz]) (fun q hq => o1 q (by omega)) ⟨fun c' r' f1 f2 => ?_, fun c' ty' f1 f2 => ?_⟩) ⟨Nat.le_trans hS.1 (by omega), fun q h1 h2 => (o1 q (by have := hS.1; omega)).trans (hS.2.1 q h1 h2), hS.2.2⟩ hlv
  · rw [mm_nw_k, if_pos rfl] at f1
    have hcc : c' = cn := by omega
    subst hcc
    rw [hr] at f2
    cases f2
    exact (u_born r.2.2.2 hts (tb_gw hr) hKn hkC e1 (tb_in c' r hr).2.1).to (fun j hj => (mm_nw_def (hty j hj).1 (hty j hj).2).symm)
  · exfalso
    rw [mm_nw_k, if_pos rfl] at f1
    have hlt : cn < tb.length := (List.getElem?_eq_some_iff.mp hr).1
    have : tb.length < 99 := by decide
    omega
theorem V_objInit {idx a : Nat} {o : Option Nat} (hc : cx E own cc nL ret rm) (ho : o = some a) (hl : Cond.methodLink own idx objectInit ∈ gw) (hi : Cond.instanceMethod objectInit ∈ gw) (hcd : Cond.code objectInit ⟨#[0xb1]⟩ 1 none ∈ gw) (hd : decode cc pc = .ok (.invokespecial idx, 3)) (hfr : 1 ≤ rm.frames) (hlo : (rest.map fun v => v.category).sum + 12 ≤ rm.locals)
    (k : V E nL cs sl h (pc + 3) lv rest) : V E nL cs sl h pc lv (va_rf o :: rest) := by
  subst ho
  obtain ⟨G, p, e, R, s, m, args, below, meth, c, Q⟩ := E
  obtain ⟨hx, hb, hml, hret, hlk, hown, hts, hK, hbs, hX, hG, hRm⟩ := hc
  intro H locs ls hR hS hlv
  subst hRm
  exact W.objInit hx hb hown (hts _ hl) (hts _ hi) (hts _ hcd) rfl (by rw [hml]; exact hlv.1) rfl hd hfr (by show 2 * 0 + _ + 12 ≤ _; omega) (k H locs ls hR hS hlv)
theorem V_iret {post : Option Value → mm_M → Prop} {x : Int32} (hc : cx E own cc nL (some .int) rm) (hq : cq E rm post) (hp : post (some (.int x)) h) (h1 : cs ≤ rm.cells) (h2 : sl ≤ rm.slots) (hd : decode cc pc = .ok (.ireturn, 1)) : V E nL cs sl h pc lv [.int x] := by
  obtain ⟨G, p, e, R, s, m, args, below, meth, c, Q⟩ := E
  obtain ⟨hx, hb, hml, hret, hlk, hown, hts, hK, hbs, hX, hG, hRm⟩ := hc
  intro H locs ls hR hS hlv
  subst hRm
  cases hq
  exact W.widen h1 h2 (W.iret hx hb hret (fun t ht hW => ⟨⟨_, h, rfl, hp, by rw [ht]; exact mm_R_moved hW.alike hR⟩, hS.F ht⟩) hS.2.2 hd hlk)
theorem V_lret {post : Option Value → mm_M → Prop} {x : Int64} (hc : cx E own cc nL (some .long) rm) (hq : cq E rm post) (hp : post (some (.long x)) h) (h1 : cs ≤ rm.cells) (h2 : sl ≤ rm.slots) (hd : decode cc pc = .ok (.lreturn, 1)) : V E nL cs sl h pc lv [.long x] := by
  obtain ⟨G, p, e, R, s, m, args, below, meth, c, Q⟩ := E
  obtain ⟨hx, hb, hml, hret, hlk, hown, hts, hK, hbs, hX, hG, hRm⟩ := hc
  intro H locs ls hR hS hlv
  subst hRm
  cases hq
  exact W.widen h1 h2 (W.lret hx hb hret (fun t ht hW => ⟨⟨_, h, rfl, hp, by rw [ht]; exact mm_R_moved hW.alike hR⟩, hS.F ht⟩) hS.2.2 hd hlk)
theorem V_vret {post : Option Value → mm_M → Prop} (hc : cx E own cc nL none rm) (hq : cq E rm post) (hp : post none h) (h1 : cs ≤ rm.cells) (h2 : sl ≤ rm.slots) (hd : decode cc pc = .ok (.return_, 1)) : V E nL cs sl h pc lv [] := by
  obtain ⟨G, p, e, R, s, m, args, below, meth, c, Q⟩ := E
  obtain ⟨hx, hb, hml, hret, hlk, hown, hts, hK, hbs, hX, hG, hRm⟩ := hc
  intro H locs ls hR hS hlv
  subst hRm
  cases hq
  exact W.widen h1 h2 (W.vret hx hb hret (fun t ht hW => ⟨⟨_, h, rfl, hp, by rw [ht]; exact mm_R_moved hW.alike hR⟩, hS.F ht⟩) hS.2.2 hd hlk)
theorem V_zret {post : Option Value → mm_M → Prop} {x : Int32} {ty : FieldType} (hc : cx E own cc nL (some ty) rm) (hq : cq E rm post) (hn : narrow ty (.int x) = .int x) (hp : post (some (.int x)) h) (h1 : cs ≤ rm.cells) (h2 : sl ≤ rm.slots) (hd : decode cc pc = .ok (.ireturn, 1)) : V E nL cs sl h pc lv [.int x] := by
  obtain ⟨G, p, e, R, s, m, args, below, meth, c, Q⟩ := E
  obtain ⟨hx, hb, hml, hret, hlk, hown, hts, hK, hbs, hX, hG, hRm⟩ := hc
  intro H locs ls hR hS hlv
  subst hRm
  cases hq
  exact W.widen h1 h2 (W.zret hx hb hret hn (fun t ht hW => ⟨⟨_, h, rfl, hp, by rw [ht]; exact mm_R_moved hW.alike hR⟩, hS.F ht⟩) hS.2.2 hd hlk)
theorem V_aret {post : Option Value → mm_M → Prop} {o : Option Nat} {ty : FieldType} (hc : cx E own cc nL (some ty) rm) (hq : cq E rm post) (ht9 : (∃ n, ty = .object n) ∨ ∃ t, ty = .array t) (hp : post (some (va_rf o)) h) (h1 : cs ≤ rm.cells) (h2 : sl ≤ rm.slots) (hd : decode cc pc = .ok (.areturn, 1)) : V E nL cs sl h pc lv [va_rf o] := by
  obtain ⟨G, p, e, R, s, m, args, below, meth, c, Q⟩ := E
  obtain ⟨hx, hb, hml, hret, hlk, hown, hts, hK, hbs, hX, hG, hRm⟩ := hc
  intro H locs ls hR hS hlv
  subst hRm
  cases hq
  exact W.widen h1 h2 (W.aret hx hb hret ht9 (by cases o with | none => exact Or.inl rfl | some a => exact Or.inr ⟨a, rfl⟩) (fun t ht hW => ⟨⟨_, h, rfl, hp, by rw [ht]; exact mm_R_moved hW.alike hR⟩, hS.F ht⟩) hS.2.2 hd hlk)
end VV
