/-! THE MEMORY: what the machine's heap holds, as functions of address and place: kind, length, ints, longs, references, size -/
abbrev mm_M : Type := (Nat → Nat) × (Nat → Nat) × (Nat → Nat → Int32) × (Nat → Nat → Int64) × (Nat → Nat → Option Nat) × Nat
def mm_k (h : mm_M) : Nat → Nat := h.1
def mm_n (h : mm_M) : Nat → Nat := h.2.1
def mm_I (h : mm_M) : Nat → Nat → Int32 := h.2.2.1
def mm_L (h : mm_M) : Nat → Nat → Int64 := h.2.2.2.1
def mm_P (h : mm_M) : Nat → Nat → Option Nat := h.2.2.2.2.1
def mm_z (h : mm_M) : Nat := h.2.2.2.2.2
def mm_up {α : Type} (f : Nat → Nat → α) (a k : Nat) (x : α) : Nat → Nat → α := fun b j => if b = a ∧ j = k then x else f b j
def mm_cl {α : Type} (f : Nat → Nat → α) (a : Nat) (x : α) : Nat → Nat → α := fun b j => if b = a then x else f b j
def mm_uI (h : mm_M) (a k : Nat) (x : Int32) : mm_M := (h.1, h.2.1, mm_up h.2.2.1 a k x, h.2.2.2)
def mm_uL (h : mm_M) (a k : Nat) (x : Int64) : mm_M := (h.1, h.2.1, h.2.2.1, mm_up h.2.2.2.1 a k x, h.2.2.2.2)
def mm_uP (h : mm_M) (a k : Nat) (x : Option Nat) : mm_M := (h.1, h.2.1, h.2.2.1, h.2.2.2.1, mm_up h.2.2.2.2.1 a k x, h.2.2.2.2.2)
def mm_nw (h : mm_M) (kd n : Nat) : mm_M := (va_up h.1 (mm_z h) kd, va_up h.2.1 (mm_z h) n, mm_cl h.2.2.1 (mm_z h) 0, mm_cl h.2.2.2.1 (mm_z h) 0, mm_cl h.2.2.2.2.1 (mm_z h) none, mm_z h + 1)
/-- what a place holds, by its type -/
def mm_v (h : mm_M) (a k : Nat) (ty : FieldType) : Value := match ty with
  | .long => .long (mm_L h a k)
  | .object _ => va_rf (mm_P h a k)
  | .array _ => va_rf (mm_P h a k)
  | _ => .int (mm_I h a k)
/-- an array of type t at a: a constant of the start (below bs), or one that was made here -/
def mm_ar (AC : Nat → ClassId) (bs : Nat) (U : State) (h : mm_M) (H : Heap) (a c : Nat) (t : FieldType) : Prop :=
  (bs ≤ a → H[a]? = some (arrV (AC c) (mm_n h a) (fun k => mm_v h a k t))) ∧
  ∃ cell : Cell, H[a]? = some cell ∧ U.isArrayOf cell t ∧ cell.vm ≠ .unknown ∧ mm_n h a ≤ cell.slots.size ∧ cell.slots.size.toInt32 = Int32.ofNat (mm_n h a) ∧ ∀ j : Nat, j < mm_n h a → cell.slots[j]? = some (mm_v h a j t)
def mm_c (D : va_G) (AC : Nat → ClassId) (bs : Nat) (U : State) (h : mm_M) (H : Heap) (a : Nat) : Prop :=
  (∀ (c : Nat) (r : String × u_T × Nat × (Nat → FieldType)), mm_k h a = c + 1 → tb[c]? = some r → t_OB a (D.1 c) r.2.2.1 (D.2 c) H (fun k => mm_v h a k (r.2.2.2 k))) ∧
  ∀ (c : Nat) (t : FieldType), mm_k h a = c + 100 → aty[c]? = some t → mm_ar AC bs U h H a c t
def mm_R (D : va_G) (AC : Nat → ClassId) (bs : Nat) (U : State) (h : mm_M) (H : Heap) : Prop := H.size = mm_z h ∧ (∀ a, mm_k h a ≠ 0 → a < mm_z h) ∧ ∀ a, mm_c D AC bs U h H a
theorem mm_ar_moved {AC : Nat → ClassId} {bs : Nat} {u U : State} {h : mm_M} {H : Heap} {a c : Nat} {t : FieldType} (hvm : u.vm.Alike U.vm) (q : mm_ar AC bs u h H a c t) : mm_ar AC bs U h H a c t := by
  obtain ⟨q1, cell, q2, q3, q4⟩ := q
  exact ⟨q1, cell, q2, State.isArrayOf_alike hvm q3, q4⟩
theorem mm_R_moved {D : va_G} {AC : Nat → ClassId} {bs : Nat} {u U : State} {h : mm_M} {H : Heap} (hvm : u.vm.Alike U.vm) (q : mm_R D AC bs u h H) : mm_R D AC bs U h H := by
  obtain ⟨q1, q2, q3⟩ := q
  exact ⟨q1, q2, fun a => ⟨(q3 a).1, fun c t e1 e2 => mm_ar_moved hvm ((q3 a).2 c t e1 e2)⟩⟩
theorem mm_ar_arrV {AC : Nat → ClassId} {bs : Nat} {U : State} {h : mm_M} {H : Heap} {a c : Nat} {t : FieldType} (hA : ArrOfT U (AC c) t) (q : H[a]? = some (arrV (AC c) (mm_n h a) (fun k => mm_v h a k t))) : mm_ar AC bs U h H a c t := by
  refine ⟨fun _ => q, _, q, hA _ _, (fun e => by cases e), ?_, ?_, fun j hj => ?_⟩
  · rw [arrV_size]; exact Nat.le_refl _
  · rw [arrV_size]
  · rw [arrV_read _ _ hj]
theorem mm_ar_kept {AC : Nat → ClassId} {bs : Nat} {U : State} {h h' : mm_M} {H H' : Heap} {a c : Nat} {t : FieldType} (q : mm_ar AC bs U h H a c t) (hn : mm_n h' a = mm_n h a) (hv : ∀ (j : Nat) (ty : FieldType), mm_v h' a j ty = mm_v h a j ty) (hH : H'[a]? = H[a]?) : mm_ar AC bs U h' H' a c t := by
  obtain ⟨q1, cell, q2, q3, q4, q5, q6, q7⟩ := q
  refine ⟨fun hb => ?_, cell, by rw [hH]; exact q2, q3, q4, by rw [hn]; exact q5, by rw [hn]; exact q6, fun j hj => ?_⟩
  · rw [hH, q1 hb, hn]
    congr 2
    funext k
    exact (hv k t).symm
  · rw [hn] at hj
    rw [hv]
    exact q7 j hj
/-- h' is h but for one place -/
def mm_Up (h h' : mm_M) (a k : Nat) : Prop := mm_k h' = mm_k h ∧ mm_n h' = mm_n h ∧ mm_z h' = mm_z h ∧ ∀ (b j : Nat) (ty : FieldType), (b ≠ a ∨ j ≠ k) → mm_v h' b j ty = mm_v h b j ty
theorem mm_up_ne {α : Type} {f : Nat → Nat → α} {a k b j : Nat} {x : α} (h : b ≠ a ∨ j ≠ k) : mm_up f a k x b j = f b j := by
  unfold mm_up
  rw [if_neg]
  rintro ⟨h1, h2⟩
  rcases h with h | h
  · exact h h1
  · exact h h2
theorem mm_up_eq {α : Type} {f : Nat → Nat → α} {a k : Nat} {x : α} : mm_up f a k x a k = x := by
  unfold mm_up
  rw [if_pos ⟨rfl, rfl⟩]
theorem mm_Up_I (h : mm_M) (a k : Nat) (x : Int32) : mm_Up h (mm_uI h a k x) a k := by
  refine ⟨rfl, rfl, rfl, fun b j ty hn => ?_⟩
  have e : mm_I (mm_uI h a k x) b j = mm_I h b j := mm_up_ne hn
  cases ty <;> first | rfl | (show Value.int _ = Value.int _; rw [e])
theorem mm_Up_L (h : mm_M) (a k : Nat) (x : Int64) : mm_Up h (mm_uL h a k x) a k := by
  refine ⟨rfl, rfl, rfl, fun b j ty hn => ?_⟩
  have e : mm_L (mm_uL h a k x) b j = mm_L h b j := mm_up_ne hn
  cases ty <;> first | rfl | (show Value.long _ = Value.long _; rw [e])
theorem mm_Up_P (h : mm_M) (a k : Nat) (x : Option Nat) : mm_Up h (mm_uP h a k x) a k := by
  refine ⟨rfl, rfl, rfl, fun b j ty hn => ?_⟩
  have e : mm_P (mm_uP h a k x) b j = mm_P h b j := mm_up_ne hn
  cases ty <;> first | rfl | (show va_rf _ = va_rf _; rw [e])
def mm_isI (ty : FieldType) : Bool := match ty with
  | .long => false
  | .object _ => false
  | .array _ => false
  | _ => true
def mm_isP (ty : FieldType) : Bool := match ty with
  | .object _ => true
  | .array _ => true
  | _ => false
theorem mm_v_I {h : mm_M} {a k : Nat} {ty : FieldType} (e : mm_isI ty = true) : mm_v h a k ty = .int (mm_I h a k) := by cases ty <;> first | rfl | cases e
theorem mm_v_L {h : mm_M} {a k : Nat} : mm_v h a k .long = .long (mm_L h a k) := rfl
theorem mm_v_P {h : mm_M} {a k : Nat} {ty : FieldType} (e : mm_isP ty = true) : mm_v h a k ty = va_rf (mm_P h a k) := by cases ty <;> first | rfl | cases e
def mm_tys (AC : Nat → ClassId) : List (ClassId × FieldType) := aty.mapIdx (fun i t => (AC i, t))
theorem mm_tys_at {AC : Nat → ClassId} {c : Nat} {t : FieldType} (h : aty[c]? = some t) : (mm_tys AC)[c]? = some (AC c, t) := by
  unfold mm_tys
  rw [List.getElem?_mapIdx, h]
  rfl
/-! how the relation goes over a store and a making -/
theorem mm_lt {D : va_G} {AC : Nat → ClassId} {bs : Nat} {U : State} {h : mm_M} {H : Heap} (hR : mm_R D AC bs U h H) {a : Nat} (hk : mm_k h a ≠ 0) : a < H.size := by
  rw [hR.1]
  exact hR.2.1 a hk
theorem mm_c_kept {D : va_G} {AC : Nat → ClassId} {bs : Nat} {U : State} {h h' : mm_M} {H H' : Heap} {b : Nat} (hc : mm_c D AC bs U h H b) (hk : mm_k h' b = mm_k h b) (hn : mm_n h' b = mm_n h b) (hv : ∀ (j : Nat) (ty : FieldType), mm_v h' b j ty = mm_v h b j ty) (hH : H'[b]? = H[b]?) : mm_c D AC bs U h' H' b := by
  refine ⟨fun c r h1 h2 => ?_, fun c t h1 h2 => ?_⟩
  · rw [hk] at h1
    exact ((hc.1 c r h1 h2).kept hH).to (fun k _ => (hv k _).symm)
  · rw [hk] at h1
    exact mm_ar_kept (hc.2 c t h1 h2) hn hv hH
/-- a store into a field -/
theorem mm_R_put {D : va_G} {AC : Nat → ClassId} {bs : Nat} {U : State} {h h' : mm_M} {H H' : Heap} {a k c : Nat} {r : String × u_T × Nat × (Nat → FieldType)} {cell : Cell} {v : Value} (hR : mm_R D AC bs U h H) (hU : mm_Up h h' a k) (hk : mm_k h a = c + 1) (hr : tb[c]? = some r) (hkN : k < r.2.2.1) (hap : ∀ x y, x < r.2.2.1 → y < r.2.2.1 → x ≠ y → (D.2 c) x ≠ (D.2 c) y)
    (hv : mm_v h' a k (r.2.2.2 k) = v) (h1 : H[a]? = some cell) (h2 : H'[a]? = some (cell.setSlot (D.2 c k) v)) (h3 : H'.size = H.size) (h4 : ∀ q, q ≠ a → H'[q]? = H[q]?) : mm_R D AC bs U h' H' := by
  obtain ⟨u1, u2, u3, u4⟩ := hU
  refine ⟨by rw [h3, u3]; exact hR.1, fun b hb => by rw [u3]; rw [u1] at hb; exact hR.2.1 b hb, fun b => ?_⟩
  by_cases hba : b = a
  · subst hba
    refine ⟨fun c' r' e1 e2 => ?_, fun c' t e1 e2 => ?_⟩
    · rw [u1, hk] at e1
      have hcc : c' = c := by omega
      subst hcc
      rw [hr] at e2
      cases e2
      obtain ⟨cell', q1, q2, q3, q4⟩ := (hR.2.2 b).1 c' r hk hr
      cases h1.symm.trans q1
      refine t_OB.to (V := updV (fun j => mm_v h b j (r.2.2.2 j)) k v) ⟨_, h2, q2, q3, t_set q4 hap hkN v⟩ (fun j _ => ?_)
      by_cases hj : j = k
      · subst hj
        simp [updV, hv]
      · simp [updV, hj, u4 b j _ (Or.inr hj)]
    · exfalso
      rw [u1, hk] at e1
      have hlt : c < tb.length := (List.getElem?_eq_some_iff.mp hr).1
      have : tb.length < 99 := by decide
      omega
  · exact mm_c_kept (hR.2.2 b) (by rw [u1]) (by rw [u2]) (fun j ty => u4 b j ty (Or.inl hba)) (h4 b hba)
/-- a store into an array -/
theorem mm_R_ast {D : va_G} {AC : Nat → ClassId} {bs : Nat} {U : State} {h h' : mm_M} {H H' : Heap} {a k c : Nat} {t : FieldType} {v : Value} (hR : mm_R D AC bs U h H) (hA : ArrOfT U (AC c) t) (hU : mm_Up h h' a k) (hk : mm_k h a = c + 100) (hr : aty[c]? = some t)
    (hv : mm_v h' a k t = v) (h2 : H'[a]? = some ((arrV (AC c) (mm_n h a) (fun j => mm_v h a j t)).setSlot k v)) (h3 : H'.size = H.size) (h4 : ∀ q, q ≠ a → H'[q]? = H[q]?) : mm_R D AC bs U h' H' := by
  obtain ⟨u1, u2, u3, u4⟩ := hU
  refine ⟨by rw [h3, u3]; exact hR.1, fun b hb => by rw [u3]; rw [u1] at hb; exact hR.2.1 b hb, fun b => ?_⟩
  by_cases hba : b = a
  · subst hba
    refine ⟨fun c' r' e1 e2 => ?_, fun c' t' e1 e2 => ?_⟩
    · exfalso
      rw [u1, hk] at e1
      have hlt : c' < tb.length := (List.getElem?_eq_some_iff.mp e2).1
      have : tb.length < 99 := by decide
      omega
    · rw [u1, hk] at e1
      have hcc : c' = c := by omega
      subst hcc
      rw [hr] at e2
      cases e2
      refine mm_ar_arrV hA ?_
      rw [h2, arrV_store, u2]
      congr 2
      funext j
      by_cases hj : j = k
      · subst hj
        simp [updV, hv]
      · simp [updV, hj, u4 b j _ (Or.inr hj)]
  · exact mm_c_kept (hR.2.2 b) (by rw [u1]) (by rw [u2]) (fun j ty => u4 b j ty (Or.inl hba)) (h4 b hba)
theorem mm_nw_v {h : mm_M} {kd n b : Nat} (hb : b ≠ mm_z h) (j : Nat) (ty : FieldType) : mm_v (mm_nw h kd n) b j ty = mm_v h b j ty := by
  have e1 : mm_I (mm_nw h kd n) b j = mm_I h b j := by show mm_cl _ _ _ b j = _; unfold mm_cl; rw [if_neg hb]; rfl
  have e2 : mm_L (mm_nw h kd n) b j = mm_L h b j := by show mm_cl _ _ _ b j = _; unfold mm_cl; rw [if_neg hb]; rfl
  have e3 : mm_P (mm_nw h kd n) b j = mm_P h b j := by show mm_cl _ _ _ b j = _; unfold mm_cl; rw [if_neg hb]; rfl
  cases ty <;> first | (show Value.int _ = Value.int _; rw [e1]) | (show Value.long _ = Value.long _; rw [e2]) | (show va_rf _ = va_rf _; rw [e3])
theorem mm_nw_k {h : mm_M} {kd n b : Nat} : mm_k (mm_nw h kd n) b = if b = mm_z h then kd else mm_k h b := rfl
theorem mm_nw_n {h : mm_M} {kd n b : Nat} : mm_n (mm_nw h kd n) b = if b = mm_z h then n else mm_n h b := rfl
theorem mm_nw_def {h : mm_M} {kd n j : Nat} {ty : FieldType} (hf : ty ≠ .float) (hd : ty ≠ .double) : mm_v (mm_nw h kd n) (mm_z h) j ty = defaultValue ty := by
  have e1 : mm_I (mm_nw h kd n) (mm_z h) j = 0 := by show mm_cl _ _ _ _ j = _; unfold mm_cl; rw [if_pos rfl]
  have e2 : mm_L (mm_nw h kd n) (mm_z h) j = 0 := by show mm_cl _ _ _ _ j = _; unfold mm_cl; rw [if_pos rfl]
  have e3 : mm_P (mm_nw h kd n) (mm_z h) j = none := by show mm_cl _ _ _ _ j = _; unfold mm_cl; rw [if_pos rfl]
  cases ty <;> first | exact absurd rfl hf | exact absurd rfl hd | (show Value.int _ = _; rw [e1]; rfl) | (show Value.long _ = _; rw [e2]; rfl) | (show va_rf _ = _; rw [e3]; rfl)
theorem mm_R_nw {D : va_G} {AC : Nat → ClassId} {bs : Nat} {U : State} {h : mm_M} {H H' : Heap} {kd n : Nat} (hR : mm_R D AC bs U h H) (h3 : H'.size = H.size + 1) (h4 : ∀ q, q < H.size → H'[q]? = H[q]?) (hnew : mm_c D AC bs U (mm_nw h kd n) H' (mm_z h)) : mm_R D AC bs U (mm_nw h kd n) H' := by
  refine ⟨by rw [h3, hR.1]; rfl, fun b hb => ?_, fun b => ?_⟩
  · show b < mm_z h + 1
    by_cases hbz : b = mm_z h
    · omega
    · rw [mm_nw_k, if_neg hbz] at hb
      have := hR.2.1 b hb
      omega
  · by_cases hbz : b = mm_z h
    · rw [hbz]; exact hnew
    · have ek : mm_k (mm_nw h kd n) b = mm_k h b := by rw [mm_nw_k, if_neg hbz]
      have en : mm_n (mm_nw h kd n) b = mm_n h b := by rw [mm_nw_n, if_neg hbz]
      by_cases hk0 : mm_k h b = 0
      · refine ⟨fun c r e1 _ => ?_, fun c r e1 _ => ?_⟩ <;> (rw [ek, hk0] at e1; omega)
      · exact mm_c_kept (hR.2.2 b) ek en (fun j ty => mm_nw_v hbz j ty) (h4 b (mm_lt hR hk0))
