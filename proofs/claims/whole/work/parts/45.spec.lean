/-! WHAT A MESSAGE DOES, told once for both sides -/
noncomputable def cif {α : Type} (c : Prop) (a b : α) : α := @ite α c (Classical.propDecidable c) a b
theorem cif_y {α : Type} {c : Prop} {a b : α} (h : c) : cif c a b = a := if_pos h
theorem cif_n {α : Type} {c : Prop} {a b : α} (h : ¬ c) : cif c a b = b := if_neg h
def tset (T : sT) (p : Nat) (f : Option sF) : sT := fun q => if q = p then f else T q
theorem tset_y (T : sT) (p : Nat) (f : Option sF) : tset T p f p = f := if_pos rfl
theorem tset_n (T : sT) {p q : Nat} (f : Option sF) (h : ¬ q = p) : tset T p f q = T q := if_neg h
def wdt (f : sF) (tm : Int32) (D : List Int32) : sF := (f_in f, f_nm f, f_md f, f_vs f + 1, tm, D)
def chg (f : sF) (tm : Int32) : sF := wdt f tm (f_dt f)
/-- the tree of a fid -/
def trOf (T : sT) (S : List sT) (t : Nat) : Option sT := if t = 0 then some T else S[t - 1]?
/-- err, body, the live tree, the fids, how many, paths given -/
abbrev sR : Type := Int32 × List Int32 × sT × sM × Nat × Nat
def badM (m : Int32) : Prop := ¬ (m &&& (-84) = 0 ∧ ¬ m &&& 3 = 3)
def lck (fm m : Int32) : Prop := (¬ m &&& 3 = 1 ∧ fm &&& 256 = 0) ∨ ((¬ m &&& 3 = 0 ∨ ¬ m &&& 16 = 0) ∧ fm &&& 128 = 0)
/-- the first from s on, of n -/
noncomputable def fsti (P : Nat → Prop) : Nat → Nat → Option Nat
  | _, 0 => none
  | s, n + 1 => cif (P s) (some s) (fsti P (s + 1) n)
theorem fsti_y {P : Nat → Prop} {p : Nat} (hp : P p) : ∀ (n s : Nat), s ≤ p → p < s + n → (∀ q, s ≤ q → q < p → ¬ P q) → fsti P s n = some p
  | 0, s, h1, h2, _ => absurd h2 (by omega)
  | n + 1, s, h1, h2, h3 => by
    by_cases e : s = p
    · subst e; exact cif_y hp
    · exact (cif_n (h3 s (Nat.le_refl _) (by omega))).trans (fsti_y hp n (s + 1) (by omega) (by omega) (fun q a b => h3 q (by omega) b))
theorem fsti_n {P : Nat → Prop} : ∀ (n s : Nat), (∀ q, s ≤ q → q < s + n → ¬ P q) → fsti P s n = none
  | 0, _, _ => rfl
  | n + 1, s, h => (cif_n (h s (Nat.le_refl _) (by omega))).trans (fsti_n n (s + 1) (fun q a b => h q (by omega) (by omega)))
theorem fsti_some {P : Nat → Prop} : ∀ {n s p : Nat}, fsti P s n = some p → P p ∧ s ≤ p ∧ p < s + n
  | 0, _, _, h => by cases h
  | n + 1, s, p, h => by
    by_cases e : P s
    · have : fsti P s (n + 1) = some s := cif_y e
      rw [this] at h
      cases h
      exact ⟨e, Nat.le_refl _, by omega⟩
    · have : fsti P s (n + 1) = fsti P (s + 1) n := cif_n e
      rw [this] at h
      obtain ⟨a, b, c⟩ := fsti_some h
      exact ⟨a, by omega, by omega⟩
def isCh (T : sT) (d : Int32) (nm : List Int32) (q : Nat) : Prop := ¬ q = 0 ∧ ∃ f, T q = some f ∧ f_in f = d ∧ f_nm f = nm
noncomputable def chl (T : sT) (d : Int32) (nm : List Int32) : Option Nat := fsti (isCh T d nm) 1 59
def KNOWN : List Int32 := [57, 80, 50, 48, 48, 48]
def UNKN : List Int32 := [117, 110, 107, 110, 111, 119, 110]
/-- 100: err, body, msize -/
noncomputable def spVer (c : Nat) (X : List Int32) : Int32 × List Int32 × Nat :=
  cif (c < 64) (3, [], 0) (cif (pfx KNOWN X) (0, le 4 (nI (min c 1000)).toInt64 ++ (le 2 (nI 6).toInt64 ++ KNOWN), min c 1000) (0, le 4 (nI (min c 1000)).toInt64 ++ (le 2 (nI 7).toInt64 ++ UNKN), 0))
/-- the tree that aname asks for -/
noncomputable def trNo (S : List sT) (X : List Int32) : Option Nat := cif (askT X = -1) (some 0) (cif (¬ askT X < 0 ∧ (askT X).toNatClampNeg < S.length) (some ((askT X).toNatClampNeg + 1)) none)
noncomputable def spAtt (T : sT) (S : List sT) (fm : sM) (fc gv : Nat) (x other : Int32) (X : List Int32) : sR :=
  cif (¬ other = -1) (3, [], T, fm, fc, gv) (cif (¬ fm x = none) (5, [], T, fm, fc, gv) (match trNo S X with
  | none => (6, [], T, fm, fc, gv)
  | some t => cif (fc = 24) (7, [], T, fm, fc, gv) (0, (match trOf T S t with
    | none => []
    | some Tr => match Tr 0 with
      | none => []
      | some f => qidL 0 f), T, fset fm x (some (t, 0, -1, 0, 0)), fc + 1, gv)))
/-- 110: where a name leads to -/
noncomputable def nxt (Tr : sT) (p : Nat) (nm : List Int32) : Option Nat := match Tr p with
  | none => none
  | some f => cif (0 ≤ f_md f) none (cif (nm = [46, 46]) (some (f_in f).toNatClampNeg) (chl Tr (nI p) nm))
def qidT (Tr : sT) (p : Nat) : List Int32 := match Tr p with
  | none => []
  | some f => qidL p f
/-- the QIDS, the last file, how many -/
noncomputable def wk (Tr : sT) : List (List Int32) → Nat → List Int32 × Nat × Nat
  | [], p => ([], p, 0)
  | nm :: r, p => match nxt Tr p nm with
    | none => ([], p, 0)
    | some q => (qidT Tr q ++ (wk Tr r q).1, (wk Tr r q).2.1, (wk Tr r q).2.2 + 1)
noncomputable def spWalk (T : sT) (Tr : sT) (fm : sM) (fc gv : Nat) (x other : Int32) (d : sD) (N : List (List Int32)) : sR :=
  cif (0 ≤ d_m d) (3, [], T, fm, fc, gv) (cif (¬ other = x ∧ ¬ fm other = none) (5, [], T, fm, fc, gv) (cif (16 < N.length) (6, [], T, fm, fc, gv) (cif (fm other = none ∧ fc = 24) (7, [], T, fm, fc, gv)
  (cif ((wk Tr N (d_p d)).2.2 = 0 ∧ 0 < N.length) (8, [], T, fm, fc, gv)
  (0, le 2 (nI (wk Tr N (d_p d)).2.2).toInt64 ++ (wk Tr N (d_p d)).1, T, cif ((wk Tr N (d_p d)).2.2 = N.length) (fset fm other (some (d_t d, (wk Tr N (d_p d)).2.1, -1, 0, 0))) fm, cif ((wk Tr N (d_p d)).2.2 = N.length ∧ fm other = none) (fc + 1) fc, gv)))))
noncomputable def spOpen (T : sT) (fm : sM) (fc gv : Nat) (tm : Int32) (x : Int32) (d : sD) (f : sF) (m : Int32) : sR :=
  cif (0 ≤ d_m d) (3, [], T, fm, fc, gv) (cif (badM m) (5, [], T, fm, fc, gv) (cif (¬ m = 0 ∧ (¬ 0 ≤ f_md f ∨ ¬ d_t d = 0)) (6, [], T, fm, fc, gv) (cif (lck (f_md f) m) (7, [], T, fm, fc, gv)
  (cif (¬ m &&& 16 = 0 ∧ ¬ f_dt f = []) (0, qidL (d_p d) (wdt f tm []) ++ le 4 0, tset T (d_p d) (some (wdt f tm [])), fset fm x (some (d_t d, d_p d, m, 0, 0)), fc, gv)
  (0, qidL (d_p d) f ++ le 4 0, T, fset fm x (some (d_t d, d_p d, m, 0, 0)), fc, gv)))))
noncomputable def spCre (T : sT) (fm : sM) (fc gv : Nat) (tm : Int32) (x : Int32) (d : sD) (f : sF) (X : List Int32) (perm m : Int32) : sR :=
  cif (0 ≤ d_m d) (3, [], T, fm, fc, gv) (cif (0 ≤ f_md f ∨ ¬ d_t d = 0) (5, [], T, fm, fc, gv) (cif (¬ nmOk X) (6, [], T, fm, fc, gv) (cif (¬ chl T (nI (d_p d)) X = none) (7, [], T, fm, fc, gv)
  (cif (badM m ∨ (perm < 0 ∧ ¬ m = 0)) (8, [], T, fm, fc, gv) (cif (60 ≤ gv) (9, [], T, fm, fc, gv)
  (0, qidL gv (nI (d_p d), X, perm &&& (-2147483137), 0, tm, []) ++ le 4 0, tset (tset T gv (some (nI (d_p d), X, perm &&& (-2147483137), 0, tm, []))) (d_p d) (some (chg f tm)), fset fm x (some (0, gv, m, 0, 0)), fc, gv + 1))))))
/-- 116: the bytes, the last file told -/
noncomputable def gat (Tr : sT) (dd : Int32) (most : Nat) : Nat → Nat → Nat → Nat → List Int32 × Nat
  | _, 0, _, last => ([], last)
  | s, n + 1, many, last => match Tr s with
    | none => gat Tr dd most (s + 1) n many last
    | some f => cif (f_in f = dd) (cif (many + 52 + (f_nm f).length ≤ most) (statL s f ++ (gat Tr dd most (s + 1) n (many + 52 + (f_nm f).length) s).1, (gat Tr dd most (s + 1) n (many + 52 + (f_nm f).length) s).2) ([], last)) (gat Tr dd most (s + 1) n many last)
noncomputable def rdOff (D : List Int32) (off : Int64) : Nat := cif (off < 0 ∨ (nI D.length).toInt64 < off) D.length (Int64.toInt32 off).toNatClampNeg
noncomputable def spRead (T Tr : sT) (fm : sM) (fc gv ms : Nat) (x : Int32) (d : sD) (f : sF) (off : Int64) (c : Nat) : sR :=
  cif (¬ 0 ≤ d_m d ∨ d_m d &&& 3 = 1) (3, [], T, fm, fc, gv) (cif (0 ≤ f_md f)
  (0, le 4 (nI (min (min c (ms - 11)) ((f_dt f).length - rdOff (f_dt f) off))).toInt64 ++ slc (f_dt f) (rdOff (f_dt f) off) (min (min c (ms - 11)) ((f_dt f).length - rdOff (f_dt f) off)), T, fm, fc, gv)
  (cif (¬ off = 0 ∧ ¬ off = (d_o d).toInt64) (5, [], T, fm, fc, gv)
  (0, le 4 (nI (gat Tr (nI (d_p d)) (min c (ms - 11)) (cif (off = 0) 0 (d_l d) + 1) (59 - cif (off = 0) 0 (d_l d)) 0 (cif (off = 0) 0 (d_l d))).1.length).toInt64 ++ (gat Tr (nI (d_p d)) (min c (ms - 11)) (cif (off = 0) 0 (d_l d) + 1) (59 - cif (off = 0) 0 (d_l d)) 0 (cif (off = 0) 0 (d_l d))).1, T,
    fset fm x (some (d_t d, d_p d, d_m d, cif (off = 0) 0 (d_o d) + nI (gat Tr (nI (d_p d)) (min c (ms - 11)) (cif (off = 0) 0 (d_l d) + 1) (59 - cif (off = 0) 0 (d_l d)) 0 (cif (off = 0) 0 (d_l d))).1.length, (gat Tr (nI (d_p d)) (min c (ms - 11)) (cif (off = 0) 0 (d_l d) + 1) (59 - cif (off = 0) 0 (d_l d)) 0 (cif (off = 0) 0 (d_l d))).2)), fc, gv)))
noncomputable def spWri (T : sT) (fm : sM) (fc gv : Nat) (tm : Int32) (d : sD) (f : sF) (off : Int64) (X : List Int32) : sR :=
  cif (¬ 0 ≤ d_m d ∨ d_m d &&& 3 = 0) (3, [], T, fm, fc, gv) (cif (off < 0 ∨ 512 < off ∨ 512 < (Int64.toInt32 off).toNatClampNeg + X.length) (5, [], T, fm, fc, gv)
  (0, le 4 (nI X.length).toInt64, cif (X = []) T (tset T (d_p d) (some (wdt f tm (ovw (rsz (f_dt f) (max (f_dt f).length ((Int64.toInt32 off).toNatClampNeg + X.length))) X (Int64.toInt32 off).toNatClampNeg)))), fm, fc, gv))
/-- why a file may not be removed -/
noncomputable def whyN (T : sT) (d : sD) (f : sF) : Int32 := cif (d_p d = 0 ∨ ¬ d_t d = 0) 3 (cif (¬ 0 ≤ f_md f ∧ 0 < cnt (inD T (nI (d_p d))) 60) 5 0)
/-- a file goes -/
def drp (T : sT) (p : Nat) (tm : Int32) : sT := match T p with
  | none => T
  | some f => match T (f_in f).toNatClampNeg with
    | none => tset T p none
    | some g => tset (tset T p none) (f_in f).toNatClampNeg (some (chg g tm))
noncomputable def spClu (T : sT) (fm : sM) (fc gv : Nat) (tm : Int32) (x : Int32) (d : sD) (fo : Option sF) : sR :=
  (0, [], (match fo with
    | none => T
    | some f => cif (0 ≤ d_m d ∧ ¬ d_m d &&& 64 = 0 ∧ whyN T d f = 0) (drp T (d_p d) tm) T), fset fm x none, fc - 1, gv)
noncomputable def spRem (T : sT) (fm : sM) (fc gv : Nat) (tm : Int32) (x : Int32) (d : sD) (fo : Option sF) : sR := match fo with
  | none => (4, [], T, fset fm x none, fc - 1, gv)
  | some f => cif (whyN T d f = 0) (0, [], drp T (d_p d) tm, fset fm x none, fc - 1, gv) (whyN T d f, [], T, fset fm x none, fc - 1, gv)
def spStat (T : sT) (fm : sM) (fc gv : Nat) (d : sD) (f : sF) : sR := (0, le 2 (nI (52 + (f_nm f).length)).toInt64 ++ statL (d_p d) f, T, fm, fc, gv)
/-- what wstat makes of a file -/
noncomputable def bnt (f : sF) (tm : Int32) (X : List Int32) (perm mt : Int32) (len : Int64) : sF :=
  (f_in f, cif (X = []) (f_nm f) X, cif (perm = -1) (f_md f) perm, cif (len = -1 ∨ len = (nI (f_dt f).length).toInt64) (f_vs f) (f_vs f + 1), cif (mt = -1) (cif (len = -1 ∨ len = (nI (f_dt f).length).toInt64) (f_mt f) tm) mt, cif (len = -1 ∨ len = (nI (f_dt f).length).toInt64) (f_dt f) (rsz (f_dt f) (Int64.toInt32 len).toNatClampNeg))
noncomputable def whyB (T : sT) (d : sD) (f : sF) (X : List Int32) (perm : Int32) (len : Int64) (rest : Prop) : Int32 :=
  cif (¬ d_t d = 0) 3 (cif (¬ rest) 5 (cif (¬ X = [] ∧ (d_p d = 0 ∨ ¬ nmOk X)) 6 (cif (¬ X = [] ∧ ¬ chl T (f_in f) X = none ∧ ¬ chl T (f_in f) X = some (d_p d)) 7
  (cif (¬ perm = -1 ∧ ((¬ ((perm < 0) ↔ (f_md f < 0))) ∨ ¬ perm &&& 2147483136 = 0)) 8 (cif (¬ len = -1 ∧ (¬ 0 ≤ f_md f ∨ len < 0 ∨ 512 < len)) 9 0)))))
def askN (X : List Int32) (perm mt : Int32) (len : Int64) : Prop := X = [] ∧ perm = -1 ∧ mt = -1 ∧ len = -1
noncomputable def spWst (T : sT) (fm : sM) (fc gv : Nat) (tm : Int32) (d : sD) (f : sF) (X : List Int32) (perm mt : Int32) (len : Int64) (rest : Prop) : sR :=
  cif (¬ whyB T d f X perm len rest = 0) (whyB T d f X perm len rest, [], T, fm, fc, gv) (0, [], cif (askN X perm mt len) T (tset T (d_p d) (some (bnt f tm X perm mt len))), fm, fc, gv)
