/-! the class: its objects lie at offsets from ax, in the order of their making; κ is what they hold -/
abbrev cS : Type := (Nat → Nat → Int32) × (Nat → Nat → Int64) × (Nat → Nat → Option Nat)
/-- the arrays of references that change: the live tree's nodes, the journal's, the snapshots -/
def pa (o : Nat) : Bool := o == 33 || o == 78 || (Nat.ble 37 o && Nat.ble o 75 && o % 2 == 1)
abbrev c_in (ax b : Nat) : Prop := ax ≤ b ∧ b < ax + 90
/-- the memory whose cells of the class are κ -/
def c_em (ax : Nat) (κ : cS) (h : mm_M) : mm_M := (h.1, h.2.1, (fun b j => if c_in ax b then κ.1 (b - ax) j else mm_I h b j), (fun b j => if c_in ax b then κ.2.1 (b - ax) j else mm_L h b j), (fun b j => if c_in ax b ∧ pa (b - ax) = true then κ.2.2 (b - ax) j else mm_P h b j), mm_z h)
def c_vw (ax : Nat) (h : mm_M) : cS := (fun o j => mm_I h (ax + o) j, fun o j => mm_L h (ax + o) j, fun o j => mm_P h (ax + o) j)
theorem c_em_vw (ax : Nat) (h : mm_M) : c_em ax (c_vw ax h) h = h := by
  unfold c_em c_vw
  refine Prod.ext rfl (Prod.ext rfl (Prod.ext ?_ (Prod.ext ?_ (Prod.ext ?_ rfl)))) <;> funext b j <;> dsimp only
  · split
    · rw [show ax + (b - ax) = b by omega]; rfl
    · rfl
  · split
    · rw [show ax + (b - ax) = b by omega]; rfl
    · rfl
  · split
    · rename_i q
      rw [show ax + (b - ax) = b by have := q.1; omega]; rfl
    · rfl
def c_u (κ : cS) (o k : Nat) (x : Int32) : cS := (mm_up κ.1 o k x, κ.2)
def c_ul (κ : cS) (o k : Nat) (x : Int64) : cS := (κ.1, mm_up κ.2.1 o k x, κ.2.2)
def c_up (κ : cS) (o k : Nat) (x : Option Nat) : cS := (κ.1, κ.2.1, mm_up κ.2.2 o k x)
theorem ck (ax : Nat) (κ : cS) (h : mm_M) : mm_k (c_em ax κ h) = mm_k h := rfl
theorem cn (ax : Nat) (κ : cS) (h : mm_M) : mm_n (c_em ax κ h) = mm_n h := rfl
theorem cz (ax : Nat) (κ : cS) (h : mm_M) : mm_z (c_em ax κ h) = mm_z h := rfl
theorem cI (ax o : Nat) (ho : o < 90) (κ : cS) (h : mm_M) (j : Nat) : mm_I (c_em ax κ h) (ax + o) j = κ.1 o j := by
  show (if c_in ax (ax + o) then κ.1 (ax + o - ax) j else _) = _
  rw [if_pos (by omega), show ax + o - ax = o by omega]
theorem cI0 (ax : Nat) (κ : cS) (h : mm_M) (j : Nat) : mm_I (c_em ax κ h) ax j = κ.1 0 j := cI ax 0 (by decide) κ h j
theorem cL (ax o : Nat) (ho : o < 90) (κ : cS) (h : mm_M) (j : Nat) : mm_L (c_em ax κ h) (ax + o) j = κ.2.1 o j := by
  show (if c_in ax (ax + o) then κ.2.1 (ax + o - ax) j else _) = _
  rw [if_pos (by omega), show ax + o - ax = o by omega]
/-- a changing reference -/
theorem cQ (ax o : Nat) (ho : o < 90) (hp : pa o = true) (κ : cS) (h : mm_M) (j : Nat) : mm_P (c_em ax κ h) (ax + o) j = κ.2.2 o j := by
  show (if c_in ax (ax + o) ∧ pa (ax + o - ax) = true then κ.2.2 (ax + o - ax) j else _) = _
  rw [show ax + o - ax = o by omega, if_pos ⟨by omega, hp⟩]
/-- a reference that stands -/
theorem cP (ax o : Nat) (hp : pa o = false) (κ : cS) (h : mm_M) (j : Nat) : mm_P (c_em ax κ h) (ax + o) j = mm_P h (ax + o) j := by
  show (if c_in ax (ax + o) ∧ pa (ax + o - ax) = true then κ.2.2 (ax + o - ax) j else _) = _
  rw [show ax + o - ax = o by omega, if_neg (fun q => by rw [hp] at q; exact absurd q.2 (by decide))]
theorem cP0 (ax : Nat) (κ : cS) (h : mm_M) (j : Nat) : mm_P (c_em ax κ h) ax j = mm_P h ax j := cP ax 0 rfl κ h j
/-- what lies outside -/
abbrev fz (ax b : Nat) : Prop := b < ax ∨ b = ax + 90 ∨ ax + 118 ≤ b
theorem cIf {ax b : Nat} (hb : fz ax b) (κ : cS) (h : mm_M) (j : Nat) : mm_I (c_em ax κ h) b j = mm_I h b j := by
  show (if c_in ax b then κ.1 (b - ax) j else _) = _
  rw [if_neg (by omega)]
theorem cLf {ax b : Nat} (hb : fz ax b) (κ : cS) (h : mm_M) (j : Nat) : mm_L (c_em ax κ h) b j = mm_L h b j := by
  show (if c_in ax b then κ.2.1 (b - ax) j else _) = _
  rw [if_neg (by omega)]
theorem cPf {ax b : Nat} (hb : fz ax b) (κ : cS) (h : mm_M) (j : Nat) : mm_P (c_em ax κ h) b j = mm_P h b j := by
  show (if c_in ax b ∧ pa (b - ax) = true then κ.2.2 (b - ax) j else _) = _
  rw [if_neg (fun q => by have := q.1; omega)]
theorem cU (ax o : Nat) (ho : o < 90) (κ : cS) (h : mm_M) (k : Nat) (x : Int32) : mm_uI (c_em ax κ h) (ax + o) k x = c_em ax (c_u κ o k x) h := by
  unfold mm_uI c_em c_u
  refine Prod.ext rfl (Prod.ext rfl (Prod.ext ?_ rfl))
  funext b j
  show (if b = ax + o ∧ j = k then x else if c_in ax b then κ.1 (b - ax) j else mm_I h b j) = if c_in ax b then (if b - ax = o ∧ j = k then x else κ.1 (b - ax) j) else mm_I h b j
  by_cases e1 : c_in ax b
  · rw [if_pos e1, if_pos e1]
    by_cases e2 : b = ax + o ∧ j = k
    · rw [if_pos e2, if_pos ⟨by omega, e2.2⟩]
    · rw [if_neg e2, if_neg (fun q => e2 ⟨by omega, q.2⟩)]
  · rw [if_neg e1, if_neg e1, if_neg (fun q => e1 (by omega))]
theorem cU0 (ax : Nat) (κ : cS) (h : mm_M) (k : Nat) (x : Int32) : mm_uI (c_em ax κ h) ax k x = c_em ax (c_u κ 0 k x) h := cU ax 0 (by decide) κ h k x
theorem cUL (ax o : Nat) (ho : o < 90) (κ : cS) (h : mm_M) (k : Nat) (x : Int64) : mm_uL (c_em ax κ h) (ax + o) k x = c_em ax (c_ul κ o k x) h := by
  unfold mm_uL c_em c_ul
  refine Prod.ext rfl (Prod.ext rfl (Prod.ext rfl (Prod.ext ?_ rfl)))
  funext b j
  show (if b = ax + o ∧ j = k then x else if c_in ax b then κ.2.1 (b - ax) j else mm_L h b j) = if c_in ax b then (if b - ax = o ∧ j = k then x else κ.2.1 (b - ax) j) else mm_L h b j
  by_cases e1 : c_in ax b
  · rw [if_pos e1, if_pos e1]
    by_cases e2 : b = ax + o ∧ j = k
    · rw [if_pos e2, if_pos ⟨by omega, e2.2⟩]
    · rw [if_neg e2, if_neg (fun q => e2 ⟨by omega, q.2⟩)]
  · rw [if_neg e1, if_neg e1, if_neg (fun q => e1 (by omega))]
theorem cUP (ax o : Nat) (ho : o < 90) (hp : pa o = true) (κ : cS) (h : mm_M) (k : Nat) (x : Option Nat) : mm_uP (c_em ax κ h) (ax + o) k x = c_em ax (c_up κ o k x) h := by
  unfold mm_uP c_em c_up
  refine Prod.ext rfl (Prod.ext rfl (Prod.ext rfl (Prod.ext rfl (Prod.ext ?_ rfl))))
  funext b j
  show (if b = ax + o ∧ j = k then x else if c_in ax b ∧ pa (b - ax) = true then κ.2.2 (b - ax) j else mm_P h b j) = if c_in ax b ∧ pa (b - ax) = true then (if b - ax = o ∧ j = k then x else κ.2.2 (b - ax) j) else mm_P h b j
  by_cases e1 : c_in ax b ∧ pa (b - ax) = true
  · rw [if_pos e1, if_pos e1]
    by_cases e2 : b = ax + o ∧ j = k
    · rw [if_pos e2, if_pos ⟨by omega, e2.2⟩]
    · rw [if_neg e2, if_neg (fun q => e2 ⟨by have := e1.1; omega, q.2⟩)]
  · rw [if_neg e1, if_neg e1, if_neg (fun q => e1 ⟨by omega, by rw [show b - ax = o by omega]; exact hp⟩)]
/-- stores outside -/
theorem cUf {ax b : Nat} (hb : fz ax b) (κ : cS) (h : mm_M) (k : Nat) (x : Int32) : mm_uI (c_em ax κ h) b k x = c_em ax κ (mm_uI h b k x) := by
  unfold mm_uI c_em
  refine Prod.ext rfl (Prod.ext rfl (Prod.ext ?_ rfl))
  funext c j
  show (if c = b ∧ j = k then x else if c_in ax c then κ.1 (c - ax) j else mm_I h c j) = if c_in ax c then κ.1 (c - ax) j else (if c = b ∧ j = k then x else mm_I h c j)
  by_cases e1 : c_in ax c
  · rw [if_pos e1, if_pos e1, if_neg (by omega)]
  · rw [if_neg e1, if_neg e1]
theorem cUPf {ax b : Nat} (hb : fz ax b) (κ : cS) (h : mm_M) (k : Nat) (x : Option Nat) : mm_uP (c_em ax κ h) b k x = c_em ax κ (mm_uP h b k x) := by
  unfold mm_uP c_em
  refine Prod.ext rfl (Prod.ext rfl (Prod.ext rfl (Prod.ext rfl (Prod.ext ?_ rfl))))
  funext c j
  show (if c = b ∧ j = k then x else if c_in ax c ∧ pa (c - ax) = true then κ.2.2 (c - ax) j else mm_P h c j) = if c_in ax c ∧ pa (c - ax) = true then κ.2.2 (c - ax) j else (if c = b ∧ j = k then x else mm_P h c j)
  by_cases e1 : c_in ax c ∧ pa (c - ax) = true
  · rw [if_pos e1, if_pos e1, if_neg (fun q => by have := e1.1; omega)]
  · rw [if_neg e1, if_neg e1]
theorem cNw {ax : Nat} {h : mm_M} (hz : ax + 90 ≤ mm_z h) (κ : cS) (kd n : Nat) : mm_nw (c_em ax κ h) kd n = c_em ax κ (mm_nw h kd n) := by
  unfold mm_nw c_em
  refine Prod.ext rfl (Prod.ext rfl (Prod.ext ?_ (Prod.ext ?_ (Prod.ext ?_ rfl))))
  · funext c j
    show (if c = mm_z h then 0 else if c_in ax c then κ.1 (c - ax) j else mm_I h c j) = if c_in ax c then κ.1 (c - ax) j else (if c = mm_z h then 0 else mm_I h c j)
    by_cases e1 : c_in ax c
    · rw [if_pos e1, if_pos e1, if_neg (by omega)]
    · rw [if_neg e1, if_neg e1]
  · funext c j
    show (if c = mm_z h then 0 else if c_in ax c then κ.2.1 (c - ax) j else mm_L h c j) = if c_in ax c then κ.2.1 (c - ax) j else (if c = mm_z h then 0 else mm_L h c j)
    by_cases e1 : c_in ax c
    · rw [if_pos e1, if_pos e1, if_neg (by omega)]
    · rw [if_neg e1, if_neg e1]
  · funext c j
    show (if c = mm_z h then none else if c_in ax c ∧ pa (c - ax) = true then κ.2.2 (c - ax) j else mm_P h c j) = if c_in ax c ∧ pa (c - ax) = true then κ.2.2 (c - ax) j else (if c = mm_z h then none else mm_P h c j)
    by_cases e1 : c_in ax c ∧ pa (c - ax) = true
    · rw [if_pos e1, if_pos e1, if_neg (fun q => by have := e1.1; omega)]
    · rw [if_neg e1, if_neg e1]
/-! reading through the stores -/
theorem cu1 (κ : cS) (o k : Nat) (x : Int32) (o' j : Nat) : (c_u κ o k x).1 o' j = if o' = o ∧ j = k then x else κ.1 o' j := rfl
theorem cu2 (κ : cS) (o k : Nat) (x : Int32) : (c_u κ o k x).2 = κ.2 := rfl
theorem cul1 (κ : cS) (o k : Nat) (x : Int64) : (c_ul κ o k x).1 = κ.1 := rfl
theorem cul2 (κ : cS) (o k : Nat) (x : Int64) (o' j : Nat) : (c_ul κ o k x).2.1 o' j = if o' = o ∧ j = k then x else κ.2.1 o' j := rfl
theorem cul3 (κ : cS) (o k : Nat) (x : Int64) : (c_ul κ o k x).2.2 = κ.2.2 := rfl
theorem cup1 (κ : cS) (o k : Nat) (x : Option Nat) : (c_up κ o k x).1 = κ.1 := rfl
theorem cup2 (κ : cS) (o k : Nat) (x : Option Nat) : (c_up κ o k x).2.1 = κ.2.1 := rfl
theorem cup3 (κ : cS) (o k : Nat) (x : Option Nat) (o' j : Nat) : (c_up κ o k x).2.2 o' j = if o' = o ∧ j = k then x else κ.2.2 o' j := rfl
/-- a row of bytes at o, its cells behind it -/
def BO (ax : Nat) (h : mm_M) (o cap : Nat) : Prop := mm_k h (ax + o) = kd_Bytes ∧ mm_P h (ax + o) 0 = some (ax + (o + 1)) ∧ mm_k h (ax + (o + 1)) = ka_B ∧ mm_n h (ax + (o + 1)) = cap
/-- a tree at o, its row of nodes behind it -/
def TO (ax : Nat) (h : mm_M) (o : Nat) : Prop := mm_k h (ax + o) = kd_Tree ∧ mm_P h (ax + o) 0 = some (ax + (o + 1)) ∧ mm_k h (ax + (o + 1)) = ka_Node ∧ mm_n h (ax + (o + 1)) = 60
/-- the shape of the class at ax -/
def CM (ax : Nat) (h : mm_M) : Prop :=
  mm_k h ax = kd_Server ∧ (mm_P h ax 0 = some (ax + 1) ∧ mm_P h ax 1 = some (ax + 3) ∧ mm_P h ax 2 = some (ax + 5) ∧ mm_P h ax 3 = some (ax + 6) ∧ mm_P h ax 4 = some (ax + 32) ∧ mm_P h ax 5 = some (ax + 34) ∧ mm_P h ax 6 = some (ax + 76) ∧ mm_P h ax 7 = some (ax + 80)) ∧
  BO ax h 1 1400 ∧ BO ax h 3 1000 ∧ BO ax h 86 5520 ∧
  (mm_k h (ax + 5) = kd_Request ∧ mm_P h (ax + 5) 0 = some (ax + 1)) ∧
  (mm_k h (ax + 6) = kd_FidTable ∧ mm_P h (ax + 6) 0 = some (ax + 7) ∧ mm_k h (ax + 7) = ka_Fid ∧ mm_n h (ax + 7) = 24) ∧
  (∀ i : Nat, i < 24 → mm_P h (ax + 7) i = some (ax + (8 + i)) ∧ mm_k h (ax + (8 + i)) = kd_Fid) ∧
  TO ax h 32 ∧
  (mm_k h (ax + 34) = kd_Journal ∧ mm_P h (ax + 34) 0 = some (ax + 35) ∧ mm_k h (ax + 35) = ka_Tree ∧ mm_n h (ax + 35) = 20) ∧
  (∀ i : Nat, i < 20 → mm_P h (ax + 35) i = some (ax + (36 + 2 * i)) ∧ TO ax h (36 + 2 * i)) ∧
  (mm_k h (ax + 76) = kd_Snapshots ∧ mm_P h (ax + 76) 0 = some (ax + 77) ∧ mm_P h (ax + 76) 1 = some (ax + 78) ∧ mm_P h (ax + 76) 2 = some (ax + 79) ∧ mm_k h (ax + 77) = ka_I ∧ mm_n h (ax + 77) = 30 ∧ mm_k h (ax + 78) = ka_Tree ∧ mm_n h (ax + 78) = 6 ∧ mm_k h (ax + 79) = ka_Z ∧ mm_n h (ax + 79) = 6) ∧
  (mm_k h (ax + 80) = kd_Archiver ∧ mm_P h (ax + 80) 0 = some (ax + 81) ∧ mm_P h (ax + 80) 1 = some (ax + 83) ∧ mm_P h (ax + 80) 2 = some (ax + 86) ∧ mm_P h (ax + 80) 3 = some (ax + 88) ∧ mm_P h (ax + 80) 4 = some (ax + 89)) ∧
  (mm_k h (ax + 81) = kd_Store ∧ mm_P h (ax + 81) 2 = some (ax + 82) ∧ mm_k h (ax + 82) = ka_I ∧ mm_n h (ax + 82) = 3000) ∧
  (mm_k h (ax + 83) = kd_Sha ∧ mm_P h (ax + 83) 0 = some (ax + 84) ∧ mm_P h (ax + 83) 1 = some (ax + 85) ∧ mm_k h (ax + 84) = ka_I ∧ mm_n h (ax + 84) = 5 ∧ mm_k h (ax + 85) = ka_I ∧ mm_n h (ax + 85) = 80) ∧
  (mm_k h (ax + 88) = ka_I ∧ mm_n h (ax + 88) = 300 ∧ mm_k h (ax + 89) = ka_I ∧ mm_n h (ax + 89) = 60) ∧ ax + 118 ≤ mm_z h
/-- the memory grew: what was there is there -/
def ext (g g' : mm_M) : Prop := mm_z g ≤ mm_z g' ∧ ∀ b : Nat, b < mm_z g → mm_k g' b = mm_k g b ∧ mm_n g' b = mm_n g b ∧ (∀ j, mm_I g' b j = mm_I g b j) ∧ (∀ j, mm_L g' b j = mm_L g b j) ∧ ∀ j, mm_P g' b j = mm_P g b j
theorem ext_rf (g : mm_M) : ext g g := ⟨Nat.le_refl _, fun _ _ => ⟨rfl, rfl, fun _ => rfl, fun _ => rfl, fun _ => rfl⟩⟩
theorem ext_tr {a b c : mm_M} (h1 : ext a b) (h2 : ext b c) : ext a c := by
  refine ⟨Nat.le_trans h1.1 h2.1, fun x hx => ?_⟩
  obtain ⟨p1, p2, p3, p4, p5⟩ := h1.2 x hx
  obtain ⟨q1, q2, q3, q4, q5⟩ := h2.2 x (Nat.lt_of_lt_of_le hx h1.1)
  exact ⟨q1.trans p1, q2.trans p2, fun j => (q3 j).trans (p3 j), fun j => (q4 j).trans (p4 j), fun j => (q5 j).trans (p5 j)⟩
theorem ext_nw (g : mm_M) (kd n : Nat) : ext g (mm_nw g kd n) := by
  refine ⟨Nat.le_succ _, fun b hb => ?_⟩
  have hne : ¬ b = mm_z g := by omega
  refine ⟨by rw [mm_nw_k, if_neg hne], by rw [mm_nw_n, if_neg hne], fun j => ?_, fun j => ?_, fun j => ?_⟩
  · show mm_cl _ _ _ b j = _; unfold mm_cl; rw [if_neg hne]; rfl
  · show mm_cl _ _ _ b j = _; unfold mm_cl; rw [if_neg hne]; rfl
  · show mm_cl _ _ _ b j = _; unfold mm_cl; rw [if_neg hne]; rfl
/-- a store above what was there -/
theorem ext_uI {g g' : mm_M} (h : ext g g') {a : Nat} (ha : mm_z g ≤ a) (k : Nat) (x : Int32) : ext g (mm_uI g' a k x) := by
  refine ⟨h.1, fun b hb => ?_⟩
  obtain ⟨p1, p2, p3, p4, p5⟩ := h.2 b hb
  exact ⟨p1, p2, fun j => (mm_up_ne (Or.inl (by omega))).trans (p3 j), p4, p5⟩
theorem ext_uP {g g' : mm_M} (h : ext g g') {a : Nat} (ha : mm_z g ≤ a) (k : Nat) (x : Option Nat) : ext g (mm_uP g' a k x) := by
  refine ⟨h.1, fun b hb => ?_⟩
  obtain ⟨p1, p2, p3, p4, p5⟩ := h.2 b hb
  exact ⟨p1, p2, p3, p4, fun j => (mm_up_ne (Or.inl (by omega))).trans (p5 j)⟩
theorem CM_ext {ax : Nat} {g g' : mm_M} (hM : CM ax g) (h : ext g g') : CM ax g' := by
  have hz : ax + 118 ≤ mm_z g := by unfold CM at hM; exact hM.2.2.2.2.2.2.2.2.2.2.2.2.2.2.2.2
  have hk : ∀ o, o < 90 → mm_k g' (ax + o) = mm_k g (ax + o) := fun o ho => (h.2 (ax + o) (by omega)).1
  have hn : ∀ o, o < 90 → mm_n g' (ax + o) = mm_n g (ax + o) := fun o ho => (h.2 (ax + o) (by omega)).2.1
  have hP : ∀ o, o < 90 → ∀ j, mm_P g' (ax + o) j = mm_P g (ax + o) j := fun o ho => (h.2 (ax + o) (by omega)).2.2.2.2
  have hk0 : mm_k g' ax = mm_k g ax := hk 0 (by decide)
  have hP0 : ∀ j, mm_P g' ax j = mm_P g ax j := hP 0 (by decide)
  have b : ∀ o cap, o + 1 < 90 → BO ax g o cap → BO ax g' o cap := by
    intro o cap ho q
    unfold BO at q ⊢
    rw [hk o (by omega), hk (o + 1) ho, hn (o + 1) ho, hP o (by omega)]
    exact q
  have t : ∀ o, o + 1 < 90 → TO ax g o → TO ax g' o := by
    intro o ho q
    unfold TO at q ⊢
    rw [hk o (by omega), hk (o + 1) ho, hn (o + 1) ho, hP o (by omega)]
    exact q
  obtain ⟨m1, m2, m3, m4, m5, m6, m7, m8, m9, m10, m11, m12, m13, m14, m15, m16, m17⟩ := hM
  refine ⟨hk0.trans m1, ?_, b _ _ (by decide) m3, b _ _ (by decide) m4, b _ _ (by decide) m5, ?_, ?_, ?_, t _ (by decide) m9, ?_, ?_, ?_, ?_, ?_, ?_, ?_, Nat.le_trans m17 h.1⟩
  · simp only [hP0]; exact m2
  · simp only [hk, hP, Nat.reduceLT]; exact m6
  · simp only [hk, hP, hn, Nat.reduceLT]; exact m7
  · intro i hi
    rw [hP 7 (by decide), hk (8 + i) (by omega)]
    exact m8 i hi
  · simp only [hk, hP, hn, Nat.reduceLT]; exact m10
  · intro i hi
    rw [hP 35 (by decide)]
    exact ⟨(m11 i hi).1, t _ (by omega) (m11 i hi).2⟩
  · simp only [hk, hP, hn, Nat.reduceLT]; exact m12
  · simp only [hk, hP, hn, Nat.reduceLT]; exact m13
  · simp only [hk, hP, hn, Nat.reduceLT]; exact m14
  · simp only [hk, hP, hn, Nat.reduceLT]; exact m15
  · simp only [hk, hP, hn, Nat.reduceLT]; exact m16
