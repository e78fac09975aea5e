/-! Math of the JDK -/
section JJ
variable {E : mm_E} {own : String} {cc : ByteArray} {nL cs sl pc : Nat} {ret : Option FieldType} {rm : Room} {h : mm_M} {lv : List (Nat × Value)} {rest : List Value}
def cvM (own : String) (index : Nat) (y : MethodName) (bytes : ByteArray) (n : Nat) (ty : FieldType) : Prop := Cond.methodLink own index y ∈ gw ∧ Cond.static y ∈ gw ∧ Cond.initialized "java/lang/Math" ∈ gw ∧ Cond.code y bytes n (some ty) ∈ gw
theorem V_mmin {index : Nat} {x y : Int32} (hc : cx E own cc nL ret rm) (hv : cvM own index Lib.Math.min.name Lib.Math.min.code 2 .int) (h8 : (rest.map fun v => v.category).sum ≤ 8) (hfr : 1 ≤ rm.frames) (hlo : 24 ≤ rm.locals) (hcs : cs ≤ rm.cells) (hsl : sl ≤ rm.slots) (hd : decode cc pc = .ok (.invokestatic index, 3))
    (k : V E nL cs sl h (pc + 3) lv (.int (if y < x then y else x) :: rest)) : V E nL cs sl h pc lv (.int y :: .int x :: rest) := by
  obtain ⟨G, p, e, R, s, m, args, below, meth, c, Q⟩ := E
  obtain ⟨hx, hb, hml, hret, hlk, hown, hts, hK, hbs, hX, hG, hRm⟩ := hc
  subst hRm
  intro H locs ls hR hS hlv
  obtain ⟨v1, v2, v3, v4⟩ := hv
  exact va_mmin hx hb (by rw [hml]; exact hlv.1.symm) hown (hts _ v1) (hts _ v2) (hts _ v3) (hts _ v4) hfr (by omega) hcs hsl hd (k H locs ls hR hS hlv)
theorem V_mmax {index : Nat} {x y : Int32} (hc : cx E own cc nL ret rm) (hv : cvM own index Lib.Math.max.name Lib.Math.max.code 2 .int) (h8 : (rest.map fun v => v.category).sum ≤ 8) (hfr : 1 ≤ rm.frames) (hlo : 24 ≤ rm.locals) (hcs : cs ≤ rm.cells) (hsl : sl ≤ rm.slots) (hd : decode cc pc = .ok (.invokestatic index, 3))
    (k : V E nL cs sl h (pc + 3) lv (.int (if x < y then y else x) :: rest)) : V E nL cs sl h pc lv (.int y :: .int x :: rest) := by
  obtain ⟨G, p, e, R, s, m, args, below, meth, c, Q⟩ := E
  obtain ⟨hx, hb, hml, hret, hlk, hown, hts, hK, hbs, hX, hG, hRm⟩ := hc
  subst hRm
  intro H locs ls hR hS hlv
  obtain ⟨v1, v2, v3, v4⟩ := hv
  exact va_mmax hx hb (by rw [hml]; exact hlv.1.symm) hown (hts _ v1) (hts _ v2) (hts _ v3) (hts _ v4) hfr (by omega) hcs hsl hd (k H locs ls hR hS hlv)
theorem V_minL {index : Nat} {x y : Int64} (hc : cx E own cc nL ret rm) (hv : cvM own index Lib.MathLoose.min_long.x Lib.MathLoose.min_long.code 4 .long) (h8 : (rest.map fun v => v.category).sum ≤ 8) (hfr : 1 ≤ rm.frames) (hlo : 24 ≤ rm.locals) (hcs : cs ≤ rm.cells) (hsl : sl ≤ rm.slots) (hd : decode cc pc = .ok (.invokestatic index, 3))
    (k : V E nL cs sl h (pc + 3) lv (.long (if y < x then y else x) :: rest)) : V E nL cs sl h pc lv (.long y :: .long x :: rest) := by
  obtain ⟨G, p, e, R, s, m, args, below, meth, c, Q⟩ := E
  obtain ⟨hx, hb, hml, hret, hlk, hown, hts, hK, hbs, hX, hG, hRm⟩ := hc
  subst hRm
  intro H locs ls hR hS hlv
  obtain ⟨v1, v2, v3, v4⟩ := hv
  exact va_mmin_long hx hb (by rw [hml]; exact hlv.1.symm) hown (hts _ v1) (hts _ v2) (hts _ v3) (hts _ v4) hfr (by omega) hcs hsl hd (k H locs ls hR hS hlv)
end JJ
