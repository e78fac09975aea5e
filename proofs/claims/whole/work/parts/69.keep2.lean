/-! what a message leaves: read, walk, create, wstat, attach -/
theorem slc_le (D : List Int32) (a m : Nat) : (slc D a m).length ≤ m := by
  unfold slc
  rw [List.length_take]
  omega
theorem gat_ok {Tr : sT} (hok : ∀ p f, Tr p = some f → okF f) (dd : Int32) (most : Nat) : ∀ (n s many last : Nat), many ≤ most → many + (gat Tr dd most s n many last).1.length ≤ most ∧ allB (gat Tr dd most s n many last).1 ∧ ((gat Tr dd most s n many last).2 = last ∨ (gat Tr dd most s n many last).2 < s + n) := by
  intro n
  induction n with
  | zero => intro s many last h; exact ⟨h, allB_nil, Or.inl rfl⟩
  | succ n ih =>
    intro s many last h
    have skip : many + (gat Tr dd most (s + 1) n many last).1.length ≤ most ∧ allB (gat Tr dd most (s + 1) n many last).1 ∧ ((gat Tr dd most (s + 1) n many last).2 = last ∨ (gat Tr dd most (s + 1) n many last).2 < s + (n + 1)) := by
      obtain ⟨a, b, c⟩ := ih (s + 1) many last h
      exact ⟨a, b, c.elim Or.inl (fun z => Or.inr (by omega))⟩
    unfold gat
    cases hT : Tr s with
    | none => exact skip
    | some f =>
      simp only
      by_cases c : f_in f = dd
      · rw [cif_y c]
        by_cases c2 : many + 52 + (f_nm f).length ≤ most
        · rw [cif_y c2]
          obtain ⟨a, b, e⟩ := ih (s + 1) (many + 52 + (f_nm f).length) s c2
          refine ⟨?_, allB_app (statL_B _ _ (hok s f hT).2.2.2.1) b, Or.inr ?_⟩
          · show many + (statL s f ++ _).length ≤ most
            rw [List.length_append, statL_len]
            omega
          · show (gat Tr dd most (s + 1) n (many + 52 + (f_nm f).length) s).2 < s + (n + 1)
            rcases e with e | e
            · rw [e]; omega
            · omega
        · rw [cif_n c2]
          exact ⟨h, allB_nil, Or.inl rfl⟩
      · rw [cif_n c]
        exact skip
theorem nxt_ok {Tr : sT} {gv : Nat} (hw : wfT Tr gv) {p q : Nat} {nm : List Int32} (h : nxt Tr p nm = some q) : ∃ f', Tr q = some f' := by
  unfold nxt at h
  cases hT : Tr p with
  | none => rw [hT] at h; cases h
  | some f =>
    rw [hT] at h
    simp only at h
    by_cases c : 0 ≤ f_md f
    · rw [cif_y c] at h; cases h
    rw [cif_n c] at h
    by_cases c2 : nm = [46, 46]
    · rw [cif_y c2] at h
      cases h
      obtain ⟨h1, r, fr, h2, h3, h4⟩ := wfT_wk hw p f hT
      rw [h3, nI_clamp (by omega)]
      exact ⟨fr, h4⟩
    · rw [cif_n c2] at h
      obtain ⟨⟨_, f', h1, _⟩, _⟩ := fsti_some h
      exact ⟨f', h1⟩
theorem qidT_ok (Tr : sT) (q : Nat) : (qidT Tr q).length ≤ 13 ∧ allB (qidT Tr q) := by
  unfold qidT
  cases Tr q with
  | none => exact ⟨by simp, allB_nil⟩
  | some f => exact ⟨by rw [qidL_len]; decide, qidL_B _ _⟩
theorem wk_ok {Tr : sT} {gv : Nat} (hw : wfT Tr gv) : ∀ (N : List (List Int32)) (p : Nat) (f : sF), Tr p = some f → (∃ f', Tr (wk Tr N p).2.1 = some f') ∧ (wk Tr N p).1.length ≤ 13 * N.length ∧ allB (wk Tr N p).1
  | [], p, f, h => ⟨⟨f, h⟩, Nat.le_refl _, allB_nil⟩
  | nm :: r, p, f, h => by
    unfold wk
    cases hn : nxt Tr p nm with
    | none => exact ⟨⟨f, h⟩, Nat.zero_le _, allB_nil⟩
    | some q =>
      obtain ⟨f', hf'⟩ := nxt_ok hw hn
      obtain ⟨a, b, c⟩ := wk_ok hw r q f' hf'
      obtain ⟨q1, q2⟩ := qidT_ok Tr q
      refine ⟨a, ?_, allB_app q2 c⟩
      show (qidT Tr q ++ (wk Tr r q).1).length ≤ 13 * (r.length + 1)
      rw [List.length_append]
      omega
theorem neg_31 {m : Int32} : (¬ 0 ≤ m) ↔ bt m 31 = true := by
  have e : bt m 31 = m.toBitVec.msb := (BitVec.msb_eq_getLsbD_last _).symm
  rw [e, BitVec.msb_eq_toInt, Int32.not_le, Int32.lt_iff_toInt_lt]
  simp
theorem perm_pos {perm : Int32} (h : ¬ perm < 0) : 0 ≤ perm &&& (-2147483137) := by
  refine Decidable.byContradiction (fun z => ?_)
  have := neg_31.mp z
  rw [b_and] at this
  have hb : bt perm 31 = true := by
    cases hh : bt perm 31 with
    | true => rfl
    | false => rw [hh] at this; exact absurd this (by decide)
  exact neg_31.mpr hb (Int32.not_lt.mp h)
section IW
variable {T Tr : sT} {S J : List sT} {fm : sM} {fc gv ms : Nat} {tm x : Int32} {d : sD} {f : sF}
theorem ok_read (hI : Iv2 T S J fm fc gv ms) (hd : fm x = some d) (hTr : trOf T S (d_t d) = some Tr) (hf : Tr (d_p d) = some f) (off : Int64) (c : Nat) : okR T S fm gv (spRead T Tr fm fc gv ms x d f off c) := by
  have hF := hI.1.2.2.2.1 x d hd
  have hgv := hI.2 x d hd
  have hwr := trOf_wf hI.1.1 hI.1.2.1 hTr
  have hok : ∀ p f, Tr p = some f → okF f := fun p f h => (hwr.2.2 p f h).2.1
  have hof := hok _ f hf
  have hfc := hI.1.2.2.2.2.2.2
  have hms : ms ≤ 1000 := by
    rcases hI.1.2.2.2.2.1 with z | z
    · omega
    · exact z.2
  refine okR_c (fun _ => okR_id hI 3) (fun _ => okR_c (fun _ => ?_) (fun _ => okR_c (fun _ => okR_id hI 5) (fun _ => ?_)))
  · refine ⟨hI.1.1, Nat.le_refl _, mdS_rf _ _, fun _ _ h => Or.inl h, hfc, ?_, allB_app (le_B _ _) (slc_B hof.2.2.2.2.1 _ _)⟩
    show (le 4 _ ++ slc _ _ _).length ≤ 993
    rw [List.length_append, le_len]
    have := slc_le (f_dt f) (rdOff (f_dt f) off) (min (min c (ms - 11)) ((f_dt f).length - rdOff (f_dt f) off))
    omega
  · have hl : cif (off = 0) 0 (d_l d) < 60 := by
      by_cases z : off = 0
      · rw [cif_y z]; decide
      · rw [cif_n z]; exact hF.2.2.1
    obtain ⟨g1, g2, g3⟩ := gat_ok hok (nI (d_p d)) (min c (ms - 11)) (59 - cif (off = 0) 0 (d_l d)) (cif (off = 0) 0 (d_l d) + 1) 0 (cif (off = 0) 0 (d_l d)) (Nat.zero_le _)
    refine ⟨hI.1.1, Nat.le_refl _, mdS_rf _ _, fun y d' h => ?_, hfc, ?_, allB_app (le_B _ _) g2⟩
    · rcases fset_o h with z | z
      · cases z
        refine Or.inr ⟨⟨hF.1, hF.2.1, ?_, hF.2.2.2.1, hF.2.2.2.2⟩, hgv⟩
        show (gat Tr _ _ _ _ _ _).2 < 60
        rcases g3 with z | z
        · rw [z]; exact hl
        · omega
      · exact Or.inl z
    · show (le 4 _ ++ _).length ≤ 993
      rw [List.length_append, le_len]
      omega
theorem ok_walk (hI : Iv2 T S J fm fc gv ms) (hd : fm x = some d) (hTr : trOf T S (d_t d) = some Tr) (hf : Tr (d_p d) = some f) (other : Int32) (N : List (List Int32)) : okR T S fm gv (spWalk T Tr fm fc gv x other d N) := by
  have hF := hI.1.2.2.2.1 x d hd
  have hwr := trOf_wf hI.1.1 hI.1.2.1 hTr
  have hfc := hI.1.2.2.2.2.2.2
  obtain ⟨⟨f', w1⟩, w2, w3⟩ := wk_ok hwr N (d_p d) f hf
  have hgl := (hwr.2.2 _ f' w1).1
  have h60 := hwr.1
  refine okR_c (fun _ => okR_id hI 3) (fun _ => okR_c (fun _ => okR_id hI 5) (fun _ => okR_c (fun _ => okR_id hI 6) (fun n6 => okR_c (fun _ => okR_id hI 7) (fun n7 => okR_c (fun _ => okR_id hI 8) (fun _ => ?_)))))
  refine ⟨hI.1.1, Nat.le_refl _, mdS_rf _ _, fun y d' h => ?_, ?_, ?_, allB_app (le_B _ _) w3⟩
  · have h' : cif ((wk Tr N (d_p d)).2.2 = N.length) (fset fm other (some (d_t d, (wk Tr N (d_p d)).2.1, -1, 0, 0))) fm y = some d' := h
    by_cases c : (wk Tr N (d_p d)).2.2 = N.length
    · rw [cif_y c] at h'
      rcases fset_o h' with z | z
      · cases z
        exact Or.inr ⟨⟨by show (wk Tr N (d_p d)).2.1 < 60; omega, hF.2.1, by show (0 : Nat) < 60; decide, fun z => ⟨Tr, f', tr_pos hTr z, w1⟩, fun z => absurd (Or.inl (by show ¬ (0 : Int32) ≤ -1; decide)) z⟩, hgl⟩
      · exact Or.inl z
    · rw [cif_n c] at h'; exact Or.inl h'
  · show cif ((wk Tr N (d_p d)).2.2 = N.length ∧ fm other = none) (fc + 1) fc ≤ 24
    by_cases c : (wk Tr N (d_p d)).2.2 = N.length ∧ fm other = none
    · rw [cif_y c]
      have : ¬ fc = 24 := fun z => n7 ⟨c.2, z⟩
      omega
    · rw [cif_n c]; exact hfc
  · show (le 2 _ ++ _).length ≤ 993
    rw [List.length_append, le_len]
    omega
theorem ok_cre (hI : Iv2 T S J fm fc gv ms) (hd : fm x = some d) (hTr : trOf T S (d_t d) = some Tr) (hf : Tr (d_p d) = some f) {X : List Int32} (hX : allB X) (perm m : Int32) : okR T S fm gv (spCre T fm fc gv tm x d f X perm m) := by
  have hgv := hI.2 x d hd
  have hwr := trOf_wf hI.1.1 hI.1.2.1 hTr
  have hfc := hI.1.2.2.2.2.2.2
  refine okR_c (fun _ => okR_id hI 3) (fun _ => okR_c (fun _ => okR_id hI 5) (fun n5 => okR_c (fun _ => okR_id hI 6) (fun n6 => okR_c (fun _ => okR_id hI 7) (fun _ => okR_c (fun _ => okR_id hI 8) (fun n8 => okR_c (fun _ => okR_id hI 9) (fun n9 => ?_))))))
  have h0 : d_t d = 0 := Decidable.byContradiction (fun z => n5 (Or.inr z))
  have hdir : ¬ 0 ≤ f_md f := fun z => n5 (Or.inl z)
  have e := tr_0 hTr h0
  subst e
  have hnm : nmOk X := Classical.byContradiction n6
  have hne : ¬ d_p d = gv := by omega
  have hof := (hwr.2.2 _ f hf).2.1
  have w1 := wfT_add (f' := (nI (d_p d), X, perm &&& (-2147483137), 0, tm, [])) hwr (by omega) hf hdir rfl ⟨hnm.1, hnm.2.1, by show (0 : Nat) ≤ 512; decide, hX, allB_nil, fun _ => rfl⟩
  have hT1 : tset Tr gv (some (nI (d_p d), X, perm &&& (-2147483137), 0, tm, [])) (d_p d) = some f := by rw [tset_n _ _ hne]; exact hf
  have m1 : mdS Tr (tset Tr gv (some (nI (d_p d), X, perm &&& (-2147483137), 0, tm, []))) gv := by
    intro q w hq hw
    rw [tset_n _ _ (by omega)] at hw
    exact ⟨w, hw, fun z => z⟩
  refine ⟨wfT_upd w1 hT1 rfl Iff.rfl hof, by show gv ≤ gv + 1; omega, mdS_tr m1 (mdS_upd hT1 (fun z => z)), fun y d' h => ?_, hfc, ?_, allB_app (qidL_B _ _) (le_B _ _)⟩
  · rcases fset_o h with z | z
    · cases z
      refine Or.inr ⟨⟨by show gv < 60; omega, Nat.zero_le _, by show (0 : Nat) < 60; decide, fun z => absurd z (Nat.lt_irrefl 0), fun z => ⟨rfl, fun f' hf' => ?_⟩⟩, by show gv < gv + 1; omega⟩
      have hf2 : tset (tset Tr gv (some (nI (d_p d), X, perm &&& (-2147483137), 0, tm, []))) (d_p d) (some (chg f tm)) gv = some f' := hf'
      rw [tset_n _ _ (fun z => hne z.symm), tset_y] at hf2
      cases hf2
      have hm : ¬ m = 0 := fun y => z (Or.inr (by show m &&& 3 = 0; rw [y]; decide))
      exact perm_pos (fun y => n8 (Or.inr ⟨y, hm⟩))
    · exact Or.inl z
  · show (qidL _ _ ++ le 4 0).length ≤ 993
    rw [List.length_append, qidL_len, le_len]; decide
theorem ok_wst (hI : Iv2 T S J fm fc gv ms) (hd : fm x = some d) (hTr : trOf T S (d_t d) = some Tr) (hf : Tr (d_p d) = some f) {X : List Int32} (hX : allB X) (perm mt : Int32) (len : Int64) (rest : Prop) : okR T S fm gv (spWst T fm fc gv tm d f X perm mt len rest) := by
  have hwr := trOf_wf hI.1.1 hI.1.2.1 hTr
  have hof := (hwr.2.2 _ f hf).2.1
  have hfc := hI.1.2.2.2.2.2.2
  refine okR_c (fun _ => okR_id hI _) (fun hb => ?_)
  obtain ⟨h0, ⟨b1, b2, b3⟩, _⟩ := whyB_0 (Classical.byContradiction hb)
  have e := tr_0 hTr h0
  subst e
  by_cases c : askN X perm mt len
  · rw [cif_y c]; exact okR_id hI 0
  rw [cif_n c]
  have hm : 0 ≤ f_md (bnt f tm X perm mt len) ↔ 0 ≤ f_md f := by
    show 0 ≤ cif (perm = -1) (f_md f) perm ↔ _
    by_cases z : perm = -1
    · rw [cif_y z]
    · rw [cif_n z, ← Int32.not_lt, ← Int32.not_lt, b2 z]
  have ho : okF (bnt f tm X perm mt len) := by
    have hn : 1 ≤ (cif (X = []) (f_nm f) X).length ∧ (cif (X = []) (f_nm f) X).length ≤ 20 ∧ allB (cif (X = []) (f_nm f) X) := by
      by_cases z : X = []
      · rw [cif_y z]; exact ⟨hof.1, hof.2.1, hof.2.2.2.1⟩
      · rw [cif_n z]; exact ⟨(b1 z).1, (b1 z).2.1, hX⟩
    have hdt : (f_dt (bnt f tm X perm mt len)).length ≤ 512 ∧ allB (f_dt (bnt f tm X perm mt len)) ∧ (¬ 0 ≤ f_md f → f_dt (bnt f tm X perm mt len) = []) := by
      show (cif (len = -1 ∨ len = (nI (f_dt f).length).toInt64) (f_dt f) (rsz (f_dt f) (Int64.toInt32 len).toNatClampNeg)).length ≤ 512 ∧ allB (cif (len = -1 ∨ len = (nI (f_dt f).length).toInt64) (f_dt f) (rsz (f_dt f) (Int64.toInt32 len).toNatClampNeg)) ∧ (¬ 0 ≤ f_md f → cif (len = -1 ∨ len = (nI (f_dt f).length).toInt64) (f_dt f) (rsz (f_dt f) (Int64.toInt32 len).toNatClampNeg) = [])
      by_cases z : len = -1 ∨ len = (nI (f_dt f).length).toInt64
      · rw [cif_y z]; exact ⟨hof.2.2.1, hof.2.2.2.2.1, hof.2.2.2.2.2⟩
      · rw [cif_n z]
        obtain ⟨z1, z2, z3⟩ := b3 (fun y => z (Or.inl y))
        refine ⟨?_, rsz_B hof.2.2.2.2.1 _, fun y => absurd z1 y⟩
        rw [rsz_len]
        obtain ⟨k, hk, ek⟩ : ∃ k : Nat, k ≤ 512 ∧ len = lN k := by
          rw [Int64.not_lt, Int64.le_iff_toInt_le] at z2 z3
          have z2' : 0 ≤ len.toInt := z2
          have z3' : len.toInt ≤ 512 := z3
          refine ⟨len.toInt.toNat, by omega, ?_⟩
          apply Int64.toInt_inj.mp
          rw [lN_toInt' (by omega)]
          omega
        rw [ek, lN_t32 (by omega), nI_clamp (by omega)]
        exact hk
    exact ⟨hn.1, hn.2.1, hdt.1, hn.2.2, hdt.2.1, fun z => hdt.2.2 (fun y => z (hm.mpr y))⟩
  exact ⟨wfT_upd hwr hf rfl hm ho, Nat.le_refl _, mdS_upd hf hm.mpr, fun _ _ h => Or.inl h, hfc, Nat.zero_le _, allB_nil⟩
theorem ok_att (hI : Iv2 T S J fm fc gv ms) (y other : Int32) (X : List Int32) : okR T S fm gv (spAtt T S fm fc gv y other X) := by
  have hfc := hI.1.2.2.2.2.2.2
  refine okR_c (fun _ => okR_id hI 3) (fun _ => okR_c (fun _ => okR_id hI 5) (fun _ => ?_))
  cases ht : trNo S X with
  | none => exact okR_id hI 6
  | some t =>
    simp only
    have htl : t ≤ S.length := by
      unfold trNo at ht
      by_cases c : askT X = -1
      · rw [cif_y c] at ht; cases ht; exact Nat.zero_le _
      · rw [cif_n c] at ht
        by_cases c2 : ¬ askT X < 0 ∧ (askT X).toNatClampNeg < S.length
        · rw [cif_y c2] at ht; cases ht; omega
        · rw [cif_n c2] at ht; cases ht
    obtain ⟨Tr, hTr⟩ := trOf_some (T := T) htl
    have hwr := trOf_wf hI.1.1 hI.1.2.1 hTr
    obtain ⟨f0, h1, _⟩ := hwr.2.1
    have h0gv := (hwr.2.2 0 f0 h1).1
    refine okR_c (fun _ => okR_id hI 7) (fun n7 => ?_)
    rw [hTr]
    simp only [h1]
    refine ⟨hI.1.1, Nat.le_refl _, mdS_rf _ _, fun z d' h => ?_, by show fc + 1 ≤ 24; omega, ?_, qidL_B _ _⟩
    · rcases fset_o h with q | q
      · cases q
        refine Or.inr ⟨⟨by show (0 : Nat) < 60; decide, htl, by show (0 : Nat) < 60; decide, fun q => ⟨Tr, f0, ?_, h1⟩, fun q => absurd (Or.inl (by show ¬ (0 : Int32) ≤ -1; decide)) q⟩, h0gv⟩
        have hq : 0 < t := q
        unfold trOf at hTr
        rw [if_neg (by omega)] at hTr
        exact hTr
      · exact Or.inl q
    · show (qidL 0 f0).length ≤ 993
      rw [qidL_len]; decide
end IW
