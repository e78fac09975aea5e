/-! THE STATE, and what each call does with it, told once for both sides -/
abbrev sX : Type := (List Int32 × List Int32) × (sT × List sT × List sT) × (sM × Nat × Nat × Int32 × Nat) × (Int32 × Int32) × (List qW × Int32)
noncomputable def ix (i : Int32) (n : Nat) : Option Nat := cif (¬ i < 0 ∧ i.toNatClampNeg < n) (some i.toNatClampNeg) none
theorem ix_y {j n : Nat} (h : j < n) (hn : n ≤ 2 ^ 31) : ix (nI j) n = some j := by
  unfold ix
  rw [nI_clamp (by omega)]
  exact cif_y ⟨nI_pos (by omega), h⟩
theorem ix_n {i : Int32} {n : Nat} (h : ∀ j, j < n → ¬ i = nI j) : ix i n = none := by
  unfold ix
  refine cif_n (fun z => ?_)
  obtain ⟨k, hk, e⟩ := nI_of z.1
  rw [e, nI_clamp hk] at z
  exact h k z.2 e
noncomputable def xFeed (a b c d e : Int32) : sX → Int32 × sX
  | ((L, A), Y) => cif (L.length + 20 ≤ 1400) (nI (L.length + 20), ((L ++ (be4 a ++ be4 b ++ be4 c ++ be4 d ++ be4 e), A), Y)) (-1, ((L, A), Y))
noncomputable def xBend (i v : Int32) : sX → Int32 × sX
  | ((L, A), Y) => match ix i L.length with
    | none => (-1, ((L, A), Y))
    | some j => (tp L j, ((L.set j (v &&& 255), A), Y))
noncomputable def xAns (i : Int32) : sX → Int32
  | ((_, A), _) => match ix i A.length with
    | none => -1
    | some j => tp A j
noncomputable def xWord (i : Int32) : sX → Int32
  | ((_, A), _) => cif (i < 0) 0 (wv (tp A) i.toNatClampNeg)
noncomputable def xSnap : sX → Int32 × sX
  | (P, (T, S, J), Y) => cif (S.length < 6) (nI S.length, (P, (T, S ++ [T], J), Y)) (-1, (P, (T, S, J), Y))
noncomputable def xArc (k : Int32) : sX → Int32 × sX
  | (P, (T, S, J), F, G, (st, by_)) => match ix k S.length with
    | none => (-1, (P, (T, S, J), F, G, (st, by_)))
    | some j => match S[j]? with
      | none => (-1, (P, (T, S, J), F, G, (st, by_)))
      | some Tr => ((arcS st by_ Tr).1, (P, (T, S, J), F, G, ((arcS st by_ Tr).2.1, (arcS st by_ Tr).2.2)))
noncomputable def xSco (k i : Int32) : sX → Int32
  | (_, (_, S, _), _) => match ix k S.length, ix i 20 with
    | some j, some b => match S[j]? with
      | none => -1
      | some Tr => scV (sc Tr 0) b
    | _, _ => -1
noncomputable def xCra (n : Int32) : sX → Int32 × sX
  | (P, (T, S, J), (fm, fc, gv, tm, ms), Y) => match ix n (J.length + 1) with
    | none => (-1, (P, (T, S, J), (fm, fc, gv, tm, ms), Y))
    | some k => (1, (P, (if k = 0 then T else (J[J.length - k]?).getD T, S, []), ((fun _ => none), 0, gv, tm, 0), Y))
noncomputable def xFil (tree path what : Int32) : sX → Int32
  | (_, (T, S, _), _) => match ix (tree + 1) (S.length + 1), ix path 60 with
    | some t, some p => match trOf T S t with
      | none => -9
      | some Tr => match Tr p with
        | none => -9
        | some f => filV Tr p f what
    | _, _ => -9
noncomputable def xFid (number what : Int32) : sX → Int32
  | (_, (T, S, _), (fm, _), _) => match fm number with
    | none => -9
    | some d => fidV T S d what
noncomputable def xCnt (what : Int32) : sX → Int32
  | ((L, A), (T, S, J), (_, fc, gv, tm, ms), (il, er), (st, by_)) => cntV L A T S J fc gv tm ms il er (nI st.length) by_ what
/-- what a message answers, and what it leaves -/
noncomputable def aftA (O : sO) (ty tag : Int32) : List Int32 := if O.1 = 0 then ansL (ty + 1) tag O.2.1 else ansL 107 tag (errL O.1)
noncomputable def xMsg (n : Int32) : sX → Int32 × sX
  | ((L, A), (T, S, J), (fm, fc, gv, tm, ms), (il, er), Y) => match ix n (L.length + 1) with
    | none => (-2, ((L, A), (T, S, J), (fm, fc, gv, tm, ms), (il, er), Y))
    | some e => cif (msg_ok L e)
      (if (spDo L e T S J fm fc gv (tm + 1) ms).1 = 0 then nI (7 + (spDo L e T S J fm fc gv (tm + 1) ms).2.1.length) else nI 10,
        (([], aftA (spDo L e T S J fm fc gv (tm + 1) ms) (tp L 4) (val (tp L) 5 2).toInt32), ((spDo L e T S J fm fc gv (tm + 1) ms).2.2.1, S, (spDo L e T S J fm fc gv (tm + 1) ms).2.2.2.2.2.2.2), ((spDo L e T S J fm fc gv (tm + 1) ms).2.2.2.1, (spDo L e T S J fm fc gv (tm + 1) ms).2.2.2.2.1, (spDo L e T S J fm fc gv (tm + 1) ms).2.2.2.2.2.1, tm + 1, (spDo L e T S J fm fc gv (tm + 1) ms).2.2.2.2.2.2.1), (il, if (spDo L e T S J fm fc gv (tm + 1) ms).1 = 0 then er else er + 1), Y))
      (-1, (([], A), (T, S, J), (fm, fc, gv, tm, ms), (il + 1, er), Y))
/-- the class stands so -/
def CX (ge : Nat → Nat) (ax : Nat) (κ : cS) (g : mm_M) : sX → Prop
  | ((L, A), (T, S, J), (fm, fc, gv, tm, ms), (il, er), (st, by_)) => CM ax g ∧ CK ge ax g ∧ CC ax κ κ g L A T S J fm fc gv tm ms ∧ (κ.1 0 11 = il ∧ κ.1 0 12 = er) ∧ CA κ st by_ ∧ Csc κ S ∧ Iv2 T S J fm fc gv ms ∧ allB A
theorem CA_of {κ κ' : cS} {st : List qW} {by_ : Int32} (e : ∀ o j, 77 ≤ o → κ'.1 o j = κ.1 o j) (h : CA κ st by_) : CA κ' st by_ := ⟨Cst_of (fun o j ho => e o j (by omega)) h.1, by rw [e _ _ (by decide)]; exact h.2⟩
theorem Csc_of {κ κ' : cS} {S : List sT} (e : ∀ o j, o = 77 ∨ o = 79 → κ'.1 o j = κ.1 o j) (h : Csc κ S) : Csc κ' S := by
  refine ⟨fun k Tr hk => ?_, fun k h1 h2 => by rw [e _ _ (Or.inr rfl)]; exact h.2 k h1 h2⟩
  rcases h.1 k Tr hk with z | ⟨z, z'⟩
  · exact Or.inl (by rw [e _ _ (Or.inr rfl)]; exact z)
  · exact Or.inr ⟨by rw [e _ _ (Or.inr rfl)]; exact z, fun i hi => by rw [e _ _ (Or.inl rfl)]; exact z' i hi⟩
theorem be4x5_B (a b c d e : Int32) : allB (be4 a ++ be4 b ++ be4 c ++ be4 d ++ be4 e) := allB_app (allB_app (allB_app (allB_app (be4_B _) (be4_B _)) (be4_B _)) (be4_B _)) (be4_B _)
theorem ansL_B (ty tag : Int32) {B : List Int32} (h : allB B) : allB (ansL ty tag B) := allB_app (le_B _ _) (allB_app (allB_app (le_B _ _) (le_B _ _)) h)
theorem errL_B (k : Int32) : allB (errL k) := allB_app (le_B _ _) (le_B _ _)
section CX_
variable {ge : Nat → Nat} {ax : Nat} {g : mm_M} {κ : cS} {X : sX}
theorem cx_feed (h : CX ge ax κ g X) (a b c d e : Int32) (Z : Int32 → mm_M → Prop) (hZ : ∀ κ' g', ext g g' → CX ge ax κ' g' (xFeed a b c d e X).2 → Z (xFeed a b c d e X).1 (c_em ax κ' g')) : wq_Server_feed ge ax a b c d e (c_em ax κ g) Z := by
  obtain ⟨⟨L, A⟩, ⟨T, S, J⟩, ⟨fm, fc, gv, tm, ms⟩, ⟨il, er⟩, ⟨st, by_⟩⟩ := X
  have h' := h
  obtain ⟨hM, hK, hC, ⟨h1, h2⟩, hA, hs, hI, hB⟩ := h
  refine cq_feed hM hK.1 hC a b c d e Z (fun hl κ' C' => ?_) (fun hl => ?_)
  · have e1 : xFeed a b c d e ((L, A), (T, S, J), (fm, fc, gv, tm, ms), (il, er), (st, by_)) = (nI (L.length + 20), ((L ++ (be4 a ++ be4 b ++ be4 c ++ be4 d ++ be4 e), A), (T, S, J), (fm, fc, gv, tm, ms), (il, er), (st, by_))) := cif_y hl
    rw [e1] at hZ
    obtain ⟨r1, r2, r3⟩ := C'.2.2.2.2.2.2.2
    exact hZ κ' g (ext_rf g) ⟨hM, hK, CC_of (fun _ _ _ => rfl) rfl C', ⟨r1.trans h1, r2.trans h2⟩, CA_of (fun o j ho => r3 o j (Or.inl ho)) hA, Csc_of (fun o j ho => r3 o j (Or.inl (by omega))) hs, hI, hB⟩
  · have e1 : xFeed a b c d e ((L, A), (T, S, J), (fm, fc, gv, tm, ms), (il, er), (st, by_)) = (-1, ((L, A), (T, S, J), (fm, fc, gv, tm, ms), (il, er), (st, by_))) := cif_n hl
    rw [e1] at hZ
    exact hZ κ g (ext_rf g) h'
theorem cx_bend (h : CX ge ax κ g X) (i v : Int32) (Z : Int32 → mm_M → Prop) (hZ : ∀ κ' g', ext g g' → CX ge ax κ' g' (xBend i v X).2 → Z (xBend i v X).1 (c_em ax κ' g')) : wq_Server_bend ge ax i v (c_em ax κ g) Z := by
  obtain ⟨⟨L, A⟩, ⟨T, S, J⟩, ⟨fm, fc, gv, tm, ms⟩, ⟨il, er⟩, ⟨st, by_⟩⟩ := X
  have h' := h
  obtain ⟨hM, hK, hC, ⟨h1, h2⟩, hA, hs, hI, hB⟩ := h
  have hL14 := hC.1.2.2
  refine cq_bend hM hK.1 hC i v Z (fun j x hi hj κ' C' => ?_) (fun hno => ?_)
  · have hjl : j < L.length := (List.getElem?_eq_some_iff.mp hj).1
    have e1 : xBend i v ((L, A), (T, S, J), (fm, fc, gv, tm, ms), (il, er), (st, by_)) = (x, ((L.set j (v &&& 255), A), (T, S, J), (fm, fc, gv, tm, ms), (il, er), (st, by_))) := by
      show (match ix i L.length with | none => _ | some j => _) = _
      rw [hi, ix_y hjl (by omega)]
      simp only
      rw [tp_some hj]
    rw [e1] at hZ
    obtain ⟨r1, r2, r3⟩ := C'.2.2.2.2.2.2.2
    exact hZ κ' g (ext_rf g) ⟨hM, hK, CC_of (fun _ _ _ => rfl) rfl C', ⟨r1.trans h1, r2.trans h2⟩, CA_of (fun o j ho => r3 o j (Or.inl ho)) hA, Csc_of (fun o j ho => r3 o j (Or.inl (by omega))) hs, hI, hB⟩
  · have e1 : xBend i v ((L, A), (T, S, J), (fm, fc, gv, tm, ms), (il, er), (st, by_)) = (-1, ((L, A), (T, S, J), (fm, fc, gv, tm, ms), (il, er), (st, by_))) := by
      show (match ix i L.length with | none => _ | some j => _) = _
      rw [ix_n hno]
    rw [e1] at hZ
    exact hZ κ g (ext_rf g) h'
theorem cx_ans (h : CX ge ax κ g X) (i : Int32) (Z : Int32 → mm_M → Prop) (hZ : Z (xAns i X) (c_em ax κ g)) : wq_Server_answer ge ax i (c_em ax κ g) Z := by
  obtain ⟨⟨L, A⟩, ⟨T, S, J⟩, ⟨fm, fc, gv, tm, ms⟩, ⟨il, er⟩, ⟨st, by_⟩⟩ := X
  obtain ⟨hM, hK, hC, ⟨h1, h2⟩, hA, hs, hI, hB⟩ := h
  have hA1 := hC.2.1.2
  have hz : Z (match ix i A.length with | none => -1 | some j => tp A j) (c_em ax κ g) := hZ
  refine cq_ans hM hC hB i Z (fun j x hi hj => ?_) (fun hno => ?_)
  · have hjl : j < A.length := (List.getElem?_eq_some_iff.mp hj).1
    rw [hi, ix_y hjl (by omega)] at hz
    simp only at hz
    rw [tp_some hj] at hz
    exact hz
  · rw [ix_n hno] at hz
    exact hz
theorem cx_word (h : CX ge ax κ g X) (i : Int32) (Z : Int32 → mm_M → Prop) (hZ : Z (xWord i X) (c_em ax κ g)) : wq_Server_word ge ax i (c_em ax κ g) Z := by
  obtain ⟨⟨L, A⟩, ⟨T, S, J⟩, ⟨fm, fc, gv, tm, ms⟩, ⟨il, er⟩, ⟨st, by_⟩⟩ := X
  obtain ⟨hM, hK, hC, ⟨h1, h2⟩, hA, hs, hI, hB⟩ := h
  have hz : Z (cif (i < 0) 0 (wv (tp A) i.toNatClampNeg)) (c_em ax κ g) := hZ
  refine cq_word hM hC hB i Z (fun j hj hi => ?_) (fun hn => ?_)
  · rw [hi, nI_clamp hj, cif_n (nI_pos hj)] at hz
    exact hz
  · rw [cif_y hn] at hz
    exact hz
theorem cx_snap (h : CX ge ax κ g X) (Z : Int32 → mm_M → Prop) (hZ : ∀ κ' g', ext g g' → CX ge ax κ' g' (xSnap X).2 → Z (xSnap X).1 (c_em ax κ' g')) : wq_Server_snap ge ax (c_em ax κ g) Z := by
  obtain ⟨⟨L, A⟩, ⟨T, S, J⟩, ⟨fm, fc, gv, tm, ms⟩, ⟨il, er⟩, ⟨st, by_⟩⟩ := X
  have h' := h
  obtain ⟨hM, hK, hC, ⟨h1, h2⟩, hA, hs, hI, hB⟩ := h
  refine cq_snap hM hK.1 hC Z (fun hl κ' g' x C' => ?_) (fun hl => ?_)
  · have e1 : xSnap ((L, A), (T, S, J), (fm, fc, gv, tm, ms), (il, er), (st, by_)) = (nI S.length, ((L, A), (T, S ++ [T], J), (fm, fc, gv, tm, ms), (il, er), (st, by_))) := cif_y hl
    rw [e1] at hZ
    obtain ⟨r1, r2, r3⟩ := C'.2.2.2.2.2.2.2
    have hs' : Csc κ' S := Csc_of (fun o j ho => r3 o j (Or.inl (by omega))) hs
    refine hZ κ' g' x ⟨CM_ext hM x, CK_ext hM x hK, CC_of (fun _ _ _ => rfl) rfl C', ⟨r1.trans h1, r2.trans h2⟩, CA_of (fun o j ho => r3 o j (Or.inl ho)) hA, ⟨fun k Tr hk => ?_, fun k k1 k2 => hs'.2 k (by rw [List.length_append] at k1; omega) k2⟩, snap_ok hI hl, hB⟩
    by_cases c : k < S.length
    · rw [List.getElem?_append_left c] at hk
      exact hs'.1 k Tr hk
    · have hk6 : k < (S ++ [T]).length := (List.getElem?_eq_some_iff.mp hk).1
      rw [List.length_append] at hk6
      exact Or.inl (hs'.2 k (by omega) (by simp at hk6; omega))
  · have e1 : xSnap ((L, A), (T, S, J), (fm, fc, gv, tm, ms), (il, er), (st, by_)) = (-1, ((L, A), (T, S, J), (fm, fc, gv, tm, ms), (il, er), (st, by_))) := cif_n hl
    rw [e1] at hZ
    exact hZ κ g (ext_rf g) h'
end CX_
