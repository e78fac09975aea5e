/-! the class: each call, over the state -/
section CY_
variable {ge : Nat → Nat} {ax : Nat} {g : mm_M} {κ : cS} {X : sX}
theorem cx_arc (h : CX ge ax κ g X) (k : Int32) (Z : Int32 → mm_M → Prop) (hZ : ∀ κ' g', ext g g' → CX ge ax κ' g' (xArc k X).2 → Z (xArc k X).1 (c_em ax κ' g')) : wq_Server_archive ge ax k (c_em ax κ g) Z := by
  obtain ⟨⟨L, A⟩, ⟨T, S, J⟩, ⟨fm, fc, gv, tm, ms⟩, ⟨il, er⟩, ⟨st, by_⟩⟩ := X
  have h' := h
  obtain ⟨hM, hK, hC, ⟨h1, h2⟩, hA, hs, hI, hB⟩ := h
  have hS6 := hI.1.2.2.2.2.2.1
  refine cq_archive hM hK.1 hC hI.1.2.1 hA k Z (fun j Tr κ' hk hj G C' A' => ?_) (fun hno => ?_)
  · have hjl : j < S.length := (List.getElem?_eq_some_iff.mp hj).1
    have e1 : xArc k ((L, A), (T, S, J), (fm, fc, gv, tm, ms), (il, er), (st, by_)) = ((arcS st by_ Tr).1, ((L, A), (T, S, J), (fm, fc, gv, tm, ms), (il, er), ((arcS st by_ Tr).2.1, (arcS st by_ Tr).2.2))) := by
      show (match ix k S.length with | none => _ | some j => _) = _
      rw [hk, ix_y hjl (by omega)]
      simp only
      rw [hj]
    rw [e1] at hZ
    exact hZ κ' g (ext_rf g) ⟨hM, hK, C', ⟨(G.2 _ _ (by decide)).trans h1, (G.2 _ _ (by decide)).trans h2⟩, A', Csc_of (fun o j ho => G.2 o j (by omega)) hs, hI, hB⟩
  · have e1 : xArc k ((L, A), (T, S, J), (fm, fc, gv, tm, ms), (il, er), (st, by_)) = (-1, ((L, A), (T, S, J), (fm, fc, gv, tm, ms), (il, er), (st, by_))) := by
      show (match ix k S.length with | none => _ | some j => _) = _
      rw [ix_n hno]
    rw [e1] at hZ
    exact hZ κ g (ext_rf g) h'
theorem ix_lt {i : Int32} {n : Nat} (h : ¬ (i < 0 ∨ ¬ i.toNatClampNeg < n)) : ix i n = some i.toNatClampNeg := cif_y ⟨fun z => h (Or.inl z), Decidable.not_not.mp (fun z => h (Or.inr z))⟩
theorem cx_sco (h : CX ge ax κ g X) (k i : Int32) (Z : Int32 → mm_M → Prop) (hZ : ∀ κ' g', ext g g' → CX ge ax κ' g' X → Z (xSco k i X) (c_em ax κ' g')) : wq_Server_score ge ax k i (c_em ax κ g) Z := by
  obtain ⟨⟨L, A⟩, ⟨T, S, J⟩, ⟨fm, fc, gv, tm, ms⟩, ⟨il, er⟩, ⟨st, by_⟩⟩ := X
  have h' := h
  obtain ⟨hM, hK, hC, ⟨h1, h2⟩, hA, hs, hI, hB⟩ := h
  have hS6 := hI.1.2.2.2.2.2.1
  refine cq_score hM hK.1 hC hI.1.2.1 hA hs k i Z (fun j b Tr κ' hk hi hb hj e0 C' A' S' => ?_) (fun hno => ?_)
  · have hjl : j < S.length := (List.getElem?_eq_some_iff.mp hj).1
    have e1 : xSco k i ((L, A), (T, S, J), (fm, fc, gv, tm, ms), (il, er), (st, by_)) = scV (sc Tr 0) b := by
      show (match ix k S.length, ix i 20 with | some j, some b => _ | _, _ => _) = _
      rw [hk, hi, ix_y hjl (by omega), ix_y hb (by decide)]
      simp only
      rw [hj]
    rw [e1] at hZ
    exact hZ κ' g (ext_rf g) ⟨hM, hK, C', ⟨(e0 11).trans h1, (e0 12).trans h2⟩, A', S', hI, hB⟩
  · have e1 : xSco k i ((L, A), (T, S, J), (fm, fc, gv, tm, ms), (il, er), (st, by_)) = -1 := by
      show (match ix k S.length, ix i 20 with | some j, some b => _ | _, _ => _) = _
      rcases hno with z | z
      · rw [ix_n z]
      · have : ix i 20 = none := by
          refine ix_n (fun j hj e => ?_)
          rcases z with z | z
          · rw [e] at z; exact absurd z (nI_pos (by omega))
          · exact z (by rw [e]; exact nI_lt (b := 20) hj (by decide))
        rw [this]
        cases ix k S.length <;> rfl
    rw [e1] at hZ
    exact hZ κ g (ext_rf g) h'
theorem cx_cra (h : CX ge ax κ g X) (n : Int32) (Z : Int32 → mm_M → Prop) (hZ : ∀ κ' g', ext g g' → CX ge ax κ' g' (xCra n X).2 → Z (xCra n X).1 (c_em ax κ' g')) : wq_Server_crash ge ax n (c_em ax κ g) Z := by
  obtain ⟨⟨L, A⟩, ⟨T, S, J⟩, ⟨fm, fc, gv, tm, ms⟩, ⟨il, er⟩, ⟨st, by_⟩⟩ := X
  have h' := h
  obtain ⟨hM, hK, hC, ⟨h1, h2⟩, hA, hs, hI, hB⟩ := h
  have hJ20 := hC.2.2.2.1.1
  refine cq_crash hM hK.1 hC n Z (fun k T' κ' hk hn hT C' => ?_) (fun hno => ?_)
  · have eT : (if k = 0 then T else (J[J.length - k]?).getD T) = T' := by
      rcases hT with ⟨z1, z2⟩ | ⟨z1, z2⟩
      · rw [if_pos z1, z2]
      · rw [if_neg (by omega), z2]; rfl
    have e1 : xCra n ((L, A), (T, S, J), (fm, fc, gv, tm, ms), (il, er), (st, by_)) = (1, ((L, A), (T', S, []), ((fun _ => none), 0, gv, tm, 0), (il, er), (st, by_))) := by
      show (match ix n (J.length + 1) with | none => _ | some j => _) = _
      rw [hn, ix_y (by omega) (by omega)]
      simp only
      rw [eT]
    rw [e1] at hZ
    obtain ⟨r1, r2, r3⟩ := C'.2.2.2.2.2.2.2
    refine hZ κ' g (ext_rf g) ⟨hM, hK, CC_of (fun _ _ _ => rfl) rfl C', ⟨r1.trans h1, r2.trans h2⟩, CA_of (fun o j ho => r3 o j (Or.inl ho)) hA, Csc_of (fun o j ho => r3 o j (Or.inl (by omega))) hs, crash_ok hI ?_, hB⟩
    rcases hT with ⟨z1, z2⟩ | ⟨z1, z2⟩
    · exact Or.inl z2
    · exact Or.inr (List.mem_of_getElem? z2)
  · have e1 : xCra n ((L, A), (T, S, J), (fm, fc, gv, tm, ms), (il, er), (st, by_)) = (-1, ((L, A), (T, S, J), (fm, fc, gv, tm, ms), (il, er), (st, by_))) := by
      show (match ix n (J.length + 1) with | none => _ | some j => _) = _
      rw [ix_n (fun j hj => hno j (by omega))]
    rw [e1] at hZ
    exact hZ κ g (ext_rf g) h'
theorem cx_fil (h : CX ge ax κ g X) (tree path what : Int32) (Z : Int32 → mm_M → Prop) (hZ : Z (xFil tree path what X) (c_em ax κ g)) : wq_Server_file ge ax tree path what (c_em ax κ g) Z := by
  obtain ⟨⟨L, A⟩, ⟨T, S, J⟩, ⟨fm, fc, gv, tm, ms⟩, ⟨il, er⟩, ⟨st, by_⟩⟩ := X
  obtain ⟨hM, hK, hC, ⟨h1, h2⟩, hA, hs, hI, hB⟩ := h
  have hS6 := hI.1.2.2.2.2.2.1
  have hz : Z (match ix (tree + 1) (S.length + 1), ix path 60 with
    | some t, some p => match trOf T S t with
      | none => -9
      | some Tr => match Tr p with
        | none => -9
        | some f => filV Tr p f what
    | _, _ => -9) (c_em ax κ g) := hZ
  have t1 : ∀ t : Nat, nI t - 1 + 1 = nI t := fun t => by rw [Int32.sub_add_cancel]
  refine cq_file hM hC tree path what Z (fun t p Tr f ht hp et ep hTr hf => ?_) (fun hno => ?_)
  · rw [et, ep, t1, ix_y (by omega) (by omega), ix_y hp (by decide)] at hz
    simp only [hTr, hf] at hz
    exact hz
  · cases hx : ix (tree + 1) (S.length + 1) with
    | none => rw [hx] at hz; exact hz
    | some t =>
      cases hy : ix path 60 with
      | none => rw [hx, hy] at hz; exact hz
      | some p =>
        rw [hx, hy] at hz
        simp only at hz
        have ix_s : ∀ {i : Int32} {n m : Nat}, ix i n = some m → i = nI m ∧ m < n := by
          intro i n m hi
          unfold ix at hi
          by_cases c : ¬ i < 0 ∧ i.toNatClampNeg < n
          · rw [cif_y c] at hi
            cases hi
            obtain ⟨k, hk, e⟩ := nI_of c.1
            refine ⟨?_, c.2⟩
            rw [e, nI_clamp hk]
          · rw [cif_n c] at hi; cases hi
        obtain ⟨x1, x2⟩ := ix_s hx
        obtain ⟨y1, y2⟩ := ix_s hy
        cases hT : trOf T S t with
        | none => rw [hT] at hz; exact hz
        | some Tr =>
          have := hno t p Tr (by omega) y2 (by rw [← x1, Int32.add_sub_cancel]) y1 hT
          rw [hT] at hz
          simp only [this] at hz
          exact hz
theorem cx_fid (h : CX ge ax κ g X) (number what : Int32) (Z : Int32 → mm_M → Prop) (hZ : Z (xFid number what X) (c_em ax κ g)) : wq_Server_fid ge ax number what (c_em ax κ g) Z := by
  obtain ⟨⟨L, A⟩, ⟨T, S, J⟩, ⟨fm, fc, gv, tm, ms⟩, ⟨il, er⟩, ⟨st, by_⟩⟩ := X
  obtain ⟨hM, hK, hC, ⟨h1, h2⟩, hA, hs, hI, hB⟩ := h
  have hz : Z (match fm number with | none => -9 | some d => fidV T S d what) (c_em ax κ g) := hZ
  refine cq_fid hM hC hI.1 number what Z (fun d hd => ?_) (fun hn => ?_)
  · rw [hd] at hz; exact hz
  · rw [hn] at hz; exact hz
theorem cx_cnt (h : CX ge ax κ g X) (what : Int32) (Z : Int32 → mm_M → Prop) (hZ : Z (xCnt what X) (c_em ax κ g)) : wq_Server_count ge ax what (c_em ax κ g) Z := by
  obtain ⟨⟨L, A⟩, ⟨T, S, J⟩, ⟨fm, fc, gv, tm, ms⟩, ⟨il, er⟩, ⟨st, by_⟩⟩ := X
  obtain ⟨hM, hK, hC, ⟨h1, h2⟩, hA, hs, hI, hB⟩ := h
  refine cq_count hM hC what Z ?_
  rw [h1, h2, hA.1.2.1, hA.1.2.2.1]
  exact hZ
theorem aftA_B {O : sO} {ty tag : Int32} (h : allB O.2.1) : allB (aftA O ty tag) := by
  unfold aftA
  split
  · exact ansL_B _ _ h
  · exact ansL_B _ _ (errL_B _)
theorem cx_msg (h : CX ge ax κ g X) (n : Int32) (Z : Int32 → mm_M → Prop) (hZ : ∀ κ' g', ext g g' → CX ge ax κ' g' (xMsg n X).2 → Z (xMsg n X).1 (c_em ax κ' g')) : wq_Server_message ge ax n (c_em ax κ g) Z := by
  obtain ⟨⟨L, A⟩, ⟨T, S, J⟩, ⟨fm, fc, gv, tm, ms⟩, ⟨il, er⟩, ⟨st, by_⟩⟩ := X
  have h' := h
  obtain ⟨hM, hK, hC, ⟨h1, h2⟩, hA, hs, hI, hB⟩ := h
  have hL14 := hC.1.2.2
  have hLB := hC.1.2.1
  refine cq_msg hM hK hC hI.1 n (fun e _ _ => (do_ok hLB e (tm + 1) hI).2.1) Z (fun hno => ?_) (fun e κ' he hn hbad C' i1 i2 i3 => ?_) (fun e κ' g' he hn hok x C' i1 i2 i3 => ?_)
  · have e1 : xMsg n ((L, A), (T, S, J), (fm, fc, gv, tm, ms), (il, er), (st, by_)) = (-2, ((L, A), (T, S, J), (fm, fc, gv, tm, ms), (il, er), (st, by_))) := by
      show (match ix n (L.length + 1) with | none => _ | some e => _) = _
      rw [ix_n (fun j hj => hno j (by omega))]
    rw [e1] at hZ
    exact hZ κ g (ext_rf g) h'
  · have e1 : xMsg n ((L, A), (T, S, J), (fm, fc, gv, tm, ms), (il, er), (st, by_)) = (-1, (([], A), (T, S, J), (fm, fc, gv, tm, ms), (il + 1, er), (st, by_))) := by
      show (match ix n (L.length + 1) with | none => _ | some e => _) = _
      rw [hn, ix_y (by omega) (by omega)]
      exact cif_n hbad
    rw [e1] at hZ
    exact hZ κ' g (ext_rf g) ⟨hM, hK, C', ⟨by rw [i1, h1], by rw [i2, h2]⟩, CA_of i3 hA, Csc_of (fun o j ho => i3 o j (by omega)) hs, hI, hB⟩
  · have e1 : xMsg n ((L, A), (T, S, J), (fm, fc, gv, tm, ms), (il, er), (st, by_)) = (if (spDo L e T S J fm fc gv (tm + 1) ms).1 = 0 then nI (7 + (spDo L e T S J fm fc gv (tm + 1) ms).2.1.length) else nI 10,
        (([], aftA (spDo L e T S J fm fc gv (tm + 1) ms) (tp L 4) (val (tp L) 5 2).toInt32), ((spDo L e T S J fm fc gv (tm + 1) ms).2.2.1, S, (spDo L e T S J fm fc gv (tm + 1) ms).2.2.2.2.2.2.2), ((spDo L e T S J fm fc gv (tm + 1) ms).2.2.2.1, (spDo L e T S J fm fc gv (tm + 1) ms).2.2.2.2.1, (spDo L e T S J fm fc gv (tm + 1) ms).2.2.2.2.2.1, tm + 1, (spDo L e T S J fm fc gv (tm + 1) ms).2.2.2.2.2.2.1), (il, if (spDo L e T S J fm fc gv (tm + 1) ms).1 = 0 then er else er + 1), (st, by_))) := by
      show (match ix n (L.length + 1) with | none => _ | some e => _) = _
      rw [hn, ix_y (by omega) (by omega)]
      exact cif_y hok
    have D := do_ok hLB e (tm + 1) hI
    rw [e1] at hZ
    generalize spDo L e T S J fm fc gv (tm + 1) ms = O at *
    refine hZ κ' g' x ⟨CM_ext hM x, CK_ext hM x hK, C', ⟨by rw [i1, h1], by rw [i2, h2]⟩, CA_of i3 hA, Csc_of (fun o j ho => i3 o j (by omega)) hs, D.1, aftA_B D.2.2⟩
end CY_
