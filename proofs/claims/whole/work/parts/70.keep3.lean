/-! what a message leaves, whole -/
def okO (S : List sT) (O : sO) : Prop := Iv2 O.2.2.1 S O.2.2.2.2.2.2.2 O.2.2.2.1 O.2.2.2.2.1 O.2.2.2.2.2.1 O.2.2.2.2.2.2.1 ∧ O.2.1.length ≤ 993 ∧ allB O.2.1
theorem okO_w {T : sT} {S J J' : List sT} {fm : sM} {fc gv ms : Nat} {R : sR} (hI : Iv2 T S J fm fc gv ms) (hR : okR T S fm gv R) (hJ : ∀ Tr ∈ J', Tr ∈ J ∨ Tr = T) : okO S (wrp R ms J') := ⟨Iv_step hI hR hJ hI.1.2.2.2.2.1, hR.2.2.2.2.2⟩
theorem txt_B {L : List Int32} (h : allB L) (s : Option Nat) : allB (txt L s) := slc_B h _ _
theorem KNOWN_B : allB KNOWN := by
  intro x hx
  simp only [KNOWN, List.mem_cons, List.not_mem_nil, or_false] at hx
  rcases hx with h | h | h | h | h | h <;> rw [h] <;> (show _ &&& _ = _) <;> decide
theorem UNKN_B : allB UNKN := by
  intro x hx
  simp only [UNKN, List.mem_cons, List.not_mem_nil, or_false] at hx
  rcases hx with h | h | h | h | h | h | h <;> rw [h] <;> (show _ &&& _ = _) <;> decide
theorem ok_ver (c : Nat) (X : List Int32) : ((spVer c X).2.1.length ≤ 993 ∧ allB (spVer c X).2.1) ∧ ((spVer c X).2.2 = 0 ∨ (64 ≤ (spVer c X).2.2 ∧ (spVer c X).2.2 ≤ 1000)) := by
  unfold spVer
  by_cases h : c < 64
  · rw [cif_y h]; exact ⟨⟨Nat.zero_le _, allB_nil⟩, Or.inl rfl⟩
  · rw [cif_n h]
    by_cases k : pfx KNOWN X
    · rw [cif_y k]
      refine ⟨⟨?_, allB_app (le_B _ _) (allB_app (le_B _ _) KNOWN_B)⟩, Or.inr ⟨?_, ?_⟩⟩
      · show (le 4 _ ++ (le 2 _ ++ KNOWN)).length ≤ 993
        rw [List.length_append, List.length_append, le_len, le_len]; decide
      · show 64 ≤ min c 1000
        omega
      · show min c 1000 ≤ 1000
        omega
    · rw [cif_n k]
      refine ⟨⟨?_, allB_app (le_B _ _) (allB_app (le_B _ _) UNKN_B)⟩, Or.inl rfl⟩
      show (le 4 _ ++ (le 2 _ ++ UNKN)).length ≤ 993
      rw [List.length_append, List.length_append, le_len, le_len]; decide
theorem ok_fid {L : List Int32} (hL : allB L) (e : Nat) {T Tr : sT} {S J : List sT} {fm : sM} {fc gv ms : Nat} (tm : Int32) {x : Int32} {d : sD} {f : sF} (hI : Iv2 T S J fm fc gv ms) (hd : fm x = some d) (hTr : trOf T S (d_t d) = some Tr) (hf : Tr (d_p d) = some f) : okO S (spFid L e T Tr J fm fc gv tm ms x d f) := by
  have sj : ∀ Tr ∈ J, Tr ∈ J ∨ Tr = T := fun _ h => Or.inl h
  unfold spFid
  by_cases c1 : tp L 4 = 110
  · rw [if_pos c1]; exact okO_w hI (ok_walk hI hd hTr hf _ _) sj
  rw [if_neg c1]
  by_cases c2 : tp L 4 = 112
  · rw [if_pos c2]; exact okO_w hI (ok_open hI hd hTr hf _) (fun _ h => jn_m h)
  rw [if_neg c2]
  by_cases c3 : tp L 4 = 114
  · rw [if_pos c3]; exact okO_w hI (ok_cre hI hd hTr hf (txt_B hL _) _ _) (fun _ h => jn_m h)
  rw [if_neg c3]
  by_cases c4_ : tp L 4 = 116
  · rw [if_pos c4_]; exact okO_w hI (ok_read hI hd hTr hf _ _) sj
  rw [if_neg c4_]
  by_cases c5 : tp L 4 = 118
  · rw [if_pos c5]; exact okO_w hI (ok_wri hI hd hTr hf _ (slc_B hL _ _)) (fun _ h => jn_m h)
  rw [if_neg c5]
  by_cases c6 : tp L 4 = 124
  · rw [if_pos c6]; exact okO_w hI (ok_stat hI hTr hf) sj
  rw [if_neg c6]
  exact okO_w hI (ok_wst hI hd hTr hf (txt_B hL _) _ _ _ _) (fun _ h => jw_m h)
theorem do_ok {L : List Int32} (hL : allB L) (e : Nat) {T : sT} {S J : List sT} {fm : sM} {fc gv ms : Nat} (tm : Int32) (hI : Iv2 T S J fm fc gv ms) : okO S (spDo L e T S J fm fc gv tm ms) := by
  have sj : ∀ Tr ∈ J, Tr ∈ J ∨ Tr = T := fun _ h => Or.inl h
  have same : ∀ k, okO S (k, [], T, fm, fc, gv, ms, J) := fun k => ⟨hI, Nat.zero_le _, allB_nil⟩
  unfold spDo
  by_cases c1 : tp L 4 = 100
  · rw [if_pos c1]
    obtain ⟨v1, v2⟩ := ok_ver (c4 (tp L) 7) (txt L (qn e 4 (some 7)))
    obtain ⟨⟨i1, i2, i3, i4, i5, i6, i7⟩, i8⟩ := hI
    exact ⟨⟨⟨i1, i2, i3, fun x d h => (by cases h), v2, i6, Nat.zero_le _⟩, fun x d h => by cases h⟩, v1⟩
  rw [if_neg c1]
  by_cases c2 : ms = 0
  · rw [if_pos c2]; exact same 1
  rw [if_neg c2]
  by_cases c3 : tp L 4 = 102
  · rw [if_pos c3]; exact same 3
  rw [if_neg c3]
  by_cases c5 : tp L 4 = 108
  · rw [if_pos c5]; exact same 0
  rw [if_neg c5]
  by_cases c6 : tp L 4 = 104
  · rw [if_pos c6]; exact okO_w hI (ok_att hI _ _ _) sj
  rw [if_neg c6]
  cases hd : fm (val (tp L) 7 4).toInt32 with
  | none => exact same 2
  | some d =>
    simp only
    by_cases c7 : tp L 4 = 122
    · rw [if_pos c7]; exact okO_w hI (ok_rem hI hd) (fun _ h => jn_m h)
    rw [if_neg c7]
    by_cases c8 : tp L 4 = 120
    · rw [if_pos c8]; exact okO_w hI (ok_clu hI hd) (fun _ h => jn_m h)
    rw [if_neg c8]
    cases hTr : trOf T S (d_t d) with
    | none => exact same 4
    | some Tr =>
      simp only
      cases hf : Tr (d_p d) with
      | none => exact same 4
      | some f => exact ok_fid hL e tm hI hd hTr hf
theorem snap_ok {T : sT} {S J : List sT} {fm : sM} {fc gv ms : Nat} (hI : Iv2 T S J fm fc gv ms) (h6 : S.length < 6) : Iv2 T (S ++ [T]) J fm fc gv ms := by
  obtain ⟨⟨i1, i2, i3, i4, i5, i6, i7⟩, i8⟩ := hI
  refine ⟨⟨i1, fun Tr h => ?_, i3, fun x d h => ?_, i5, by rw [List.length_append]; show S.length + 1 ≤ 6; omega, i7⟩, i8⟩
  · rcases List.mem_append.mp h with z | z
    · exact i2 Tr z
    · rw [List.mem_singleton.mp z]; exact i1
  · obtain ⟨f1, f2, f3, f4, f5⟩ := i4 x d h
    refine ⟨f1, by rw [List.length_append]; omega, f3, fun z => ?_, f5⟩
    obtain ⟨Tr, f, a, b⟩ := f4 z
    exact ⟨Tr, f, by rw [List.getElem?_append_left (by omega)]; exact a, b⟩
theorem crash_ok {T T' : sT} {S J : List sT} {fm : sM} {fc gv ms : Nat} (hI : Iv2 T S J fm fc gv ms) (h : T' = T ∨ T' ∈ J) : Iv2 T' S [] (fun _ => none) 0 gv 0 := by
  obtain ⟨⟨i1, i2, i3, i4, i5, i6, i7⟩, i8⟩ := hI
  refine ⟨⟨?_, i2, fun Tr h => (by cases h), fun x d h => (by cases h), Or.inl rfl, i6, Nat.zero_le _⟩, fun x d h => by cases h⟩
  rcases h with z | z
  · rw [z]; exact i1
  · exact i3 T' z
