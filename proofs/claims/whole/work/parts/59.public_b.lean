/-! the class: snap, crash, count -/
section PC
variable {ge : Nat → Nat} {ax : Nat} {κ0 κ : cS} {g : mm_M} {L A : List Int32} {T : sT} {S J : List sT} {fm : sM} {fc gv : Nat} {tm : Int32} {ms : Nat}
theorem cq_snap (hM : CM ax g) (hg : ge 0 ≤ ax) (hC : CC ax κ0 κ g L A T S J fm fc gv tm ms) (Z : Int32 → mm_M → Prop)
    (h1 : S.length < 6 → ∀ κ' g', ext g g' → CC ax κ0 κ' g' L A T (S ++ [T]) J fm fc gv tm ms → Z (nI S.length) (c_em ax κ' g')) (h0 : ¬ S.length < 6 → Z (-1) (c_em ax κ g)) : wq_Server_snap ge ax (c_em ax κ g) Z := by
  obtain ⟨m0, m1⟩ := CM_0 hM
  obtain ⟨s1, s2, s3, s4, s5, s6, s7, s8, s9, s10⟩ := CM_s hM
  obtain ⟨c1, c2, c3⟩ := hC.2.2.2.2.1
  have hz := CM_z hM
  unfold wq_Server_snap wq_Server_snap_0 wq_Snapshots_take wq_Snapshots_take_0
  simp only [m0, m1, s1, ck, cP0, cI ax 76 (by decide), c2, true_and, Option.some.injEq, exists_eq_left']
  have e6 : (nI S.length < 6) ↔ S.length < 6 := nI_ltI (b := 6) (by omega) (by decide)
  refine ⟨fun q => ?_, fun q => h0 (fun z => q (e6.mpr z))⟩
  have hl := e6.mp q
  -- the new tree and its row
  obtain ⟨g1, eg1⟩ : ∃ g1, g1 = mm_nw g 13 0 := ⟨_, rfl⟩
  obtain ⟨g2, eg2⟩ : ∃ g2, g2 = mm_nw g1 104 60 := ⟨_, rfl⟩
  obtain ⟨g3, eg3⟩ : ∃ g3, g3 = mm_uP g2 (mm_z g) 0 (some (mm_z g1)) := ⟨_, rfl⟩
  have z1 : mm_z g1 = mm_z g + 1 := by rw [eg1]; rfl
  have z2 : mm_z g2 = mm_z g + 2 := by rw [eg2, nw_z, z1]
  have x1 : ext g g1 := by rw [eg1]; exact ext_nw g 13 0
  have x2 : ext g g2 := by rw [eg2]; exact ext_tr x1 (ext_nw g1 104 60)
  have x3 : ext g g3 := by rw [eg3]; exact ext_uP x2 (Nat.le_refl _) _ _
  have z3 : mm_z g3 = mm_z g + 2 := by rw [eg3]; exact z2
  have k1 : mm_k g3 (mm_z g) = kd_Tree := by
    rw [eg3, uP_k, eg2, mm_nw_k, if_neg (by omega), eg1, mm_nw_k, if_pos rfl]
  have k2 : mm_P g3 (mm_z g) 0 = some (mm_z g1) := by rw [eg3, uP_P, if_pos ⟨rfl, rfl⟩]
  have k3 : mm_k g3 (mm_z g1) = ka_Node := by rw [eg3, uP_k, eg2, mm_nw_k, if_pos rfl]
  have k4 : mm_n g3 (mm_z g1) = 60 := by rw [eg3, uP_n, eg2, mm_nw_n, if_pos rfl]
  have hM3 := CM_ext hM x3
  have hM1 := CM_ext hM x1
  have fz0 : fz ax (mm_z g) := by omega
  have fz1 : fz ax (mm_z g1) := by omega
  unfold wq_Tree_init wq_Tree_init_0
  simp only [cz, cNw (show ax + 90 ≤ mm_z g by omega), forall_eq]
  rw [← eg1]
  simp only [cz, cNw (show ax + 90 ≤ mm_z g1 by omega), forall_eq]
  rw [← eg2]
  have kt : mm_k g2 (mm_z g) = kd_Tree := by rw [eg2, mm_nw_k, if_neg (by omega), eg1, mm_nw_k, if_pos rfl]
  have hgz : ge 0 ≤ mm_z g := by omega
  simp only [ck, kt, hgz, cUPf fz0, true_and]
  rw [← eg3]
  refine ⟨k1, ?_⟩
  obtain ⟨l1, l2, l3, l4⟩ := CM_t hM3
  have C3 := CC_ext x3 hC
  refine mq_takeOver (h := c_em ax κ g3) (bn := mm_z g1) (cn_ := ax + 33) k1 ((cPf fz0 κ g3 0).trans k2) k3 k4 (by omega) l1 ((cP ax 32 rfl κ g3 0).trans l2) l3 l4 (by omega) (by omega) (by omega) (fun p a hp ha => ?_) _ ?_
  · rw [cQ ax 33 (by decide) rfl] at ha
    exact nr_k C3.2.2.1 hp ha
  · rw [show mm_P (c_em ax κ g3) (ax + 33) = κ.2.2 33 from funext (fun j => cQ ax 33 (by decide) rfl κ g3 j), mm_row_f fz1]
    obtain ⟨g4, eg4⟩ : ∃ g4, g4 = mm_row g3 (mm_z g1) (κ.2.2 33) 60 := ⟨_, rfl⟩
    rw [← eg4]
    have x4 : ext g g4 := by
      rw [eg4]
      refine ⟨x3.1, fun b hb => ?_⟩
      obtain ⟨p1, p2, p3, p4, p5⟩ := x3.2 b hb
      exact ⟨p1, p2, p3, p4, fun j => (if_neg (fun z => by omega)).trans (p5 j)⟩
    have hM4 := CM_ext hM x4
    have C4 := CC_ext x4 hC
    obtain ⟨t1, t2, t3, t4, t5, t6, t7, t8, t9, t10⟩ := CM_s hM4
    have kz : mm_k g4 (mm_z g) = kd_Tree := by rw [eg4]; exact k1
    have hin : vp_in (nI S.length) 6 := vp_in_nI hl (by decide)
    have hcl : (nI S.length).toNatClampNeg = S.length := nI_clamp (by omega)
    simp only [t1, t3, t7, t8, kz, ck, cn, cP ax 76 rfl, cI ax 76 (by decide), cUP ax 78 (by decide) rfl, cU ax 76 (by decide), cup1, cu1, c2, hin, hcl, geo hg, true_and, Option.some.injEq, exists_eq_left', forall_eq, forall_eq']
    rw [if_pos trivial, show nI S.length + 1 - 1 = nI S.length from by rw [Int32.add_sub_cancel]]
    refine h1 hl _ g4 x4 ?_
    obtain ⟨h1', h2', h3', h4', h5', h6', ⟨h7', h8', h9'⟩, h10', h11', h12'⟩ := C4
    have e : ∀ o j, ¬ o = 76 → (c_u (c_up κ 78 S.length (some (mm_z g))) 76 3 (nI S.length + 1)).1 o j = κ.1 o j := fun o j ho => by rw [cu1, if_neg (fun z => ho z.1), cup1]
    have eP : ∀ o j, ¬ o = 78 → (c_u (c_up κ 78 S.length (some (mm_z g))) 76 3 (nI S.length + 1)).2.2 o j = κ.2.2 o j := fun o j ho => by
      rw [cu2, cup3, if_neg (fun z => ho z.1)]
    refine ⟨⟨c_L_of (fun j => e _ _ (by decide)) (e _ _ (by decide)) h1'.1, h1'.2⟩, ⟨c_L_of (fun j => e _ _ (by decide)) (e _ _ (by decide)) h2'.1, h2'.2⟩, nr_of (fun p _ => eP _ _ (by decide)) h3', Cjn_of (e _ _ (by decide)) (e _ _ (by decide)) (fun i j _ => eP _ _ (by omega)) h4', ⟨by rw [List.length_append]; show S.length + 1 ≤ 6; omega, ?_, fun i T' hi => ?_⟩, Cfd_of (fun o j a b => e _ _ (by omega)) h6', ⟨?_, ?_, ?_⟩, ?_, ?_, fun o j ho => (e _ _ (by omega)).trans (h12' o j ho)⟩
    · rw [cu1, if_pos ⟨rfl, rfl⟩, List.length_append, ← nI_succ]; rfl
    · by_cases ei : i = S.length
      · subst ei
        rw [List.getElem?_append_right (Nat.le_refl _), Nat.sub_self] at hi
        have eT : T = T' := by simpa using hi
        rw [← eT]
        refine ⟨mm_z g, by rw [cu2, cup3, if_pos ⟨rfl, rfl⟩], kz, ⟨fz0, by rw [eg4]; show mm_z g < mm_z g3; omega⟩, mm_z g1, ?_, ⟨fz1, by rw [eg4]; show mm_z g1 < mm_z g3; omega⟩, by rw [eg4]; exact k3, by rw [eg4]; exact k4, ?_⟩
        · rw [eg4]
          show (if mm_z g = mm_z g1 ∧ 0 < 60 then _ else mm_P g3 (mm_z g) 0) = _
          rw [if_neg (by omega)]
          exact k2
        · refine nr_of (fun p hp => ?_) h3'
          rw [eg4]
          show (if mm_z g1 = mm_z g1 ∧ p < 60 then κ.2.2 33 p else _) = _
          rw [if_pos ⟨rfl, hp⟩]
      · have hil : i < (S ++ [T]).length := (List.getElem?_eq_some_iff.mp hi).1
        rw [List.length_append] at hil
        have hil2 : i < S.length := by simp at hil; omega
        rw [List.getElem?_append_left hil2] at hi
        obtain ⟨b, y1, y2⟩ := h5'.2.2 i T' hi
        exact ⟨b, by rw [cu2, cup3, if_neg (fun z => ei z.2)]; exact y1, y2⟩
    all_goals (rw [e _ _ (by decide)]; assumption)
theorem cq_crash (hM : CM ax g) (hg : ge 0 ≤ ax) (hC : CC ax κ0 κ g L A T S J fm fc gv tm ms) (n : Int32) (Z : Int32 → mm_M → Prop)
    (h1 : ∀ (k : Nat) (T' : sT) κ', k ≤ J.length → n = nI k → ((k = 0 ∧ T' = T) ∨ (0 < k ∧ J[J.length - k]? = some T')) → CC ax κ0 κ' g L A T' S [] (fun _ => none) 0 gv tm 0 → Z 1 (c_em ax κ' g)) (h0 : (∀ k : Nat, k ≤ J.length → ¬ n = nI k) → Z (-1) (c_em ax κ g)) : wq_Server_crash ge ax n (c_em ax κ g) Z := by
  obtain ⟨m0, m1⟩ := CM_0 hM
  have hJ20 := hC.2.2.2.1.1
  have hJn := hC.2.2.2.1.2.1
  -- the end
  have fin : ∀ (κ' : cS) (T' : sT) (k : Nat), k ≤ J.length → n = nI k → ((k = 0 ∧ T' = T) ∨ (0 < k ∧ J[J.length - k]? = some T')) → CC ax κ0 κ' g L A T' S J fm fc gv tm ms → wq_Server_crash_38 ge ax (c_em ax κ' g) Z := by
    intro κ' T' k hk en hT' C'
    unfold wq_Server_crash_38 wq_Journal_clear wq_Journal_clear_0
    simp only [m0, m1, (CM_j hM).1, (CM_f hM).1, ck, cP0, cU ax 34 (by decide), geo hg, true_and, Option.some.injEq, exists_eq_left', forall_eq]
    have C1 := CC_jc C'
    refine cq_fclear hM hg _ _ ?_
    have C2 : CC ax κ0 (c_nf (c_u κ' 34 2 0) 24) g L A T' S [] (fun _ => none) 0 gv tm ms := CC_fd (fun o j h => if_neg (by omega)) rfl C1 (Cfd_0 (fun i hi => if_pos ⟨by omega, by omega, rfl⟩))
    simp only [m0, ck, cU0, hg, true_and, forall_eq]
    exact h1 k T' _ hk en hT' (CC_ms C2 0)
  unfold wq_Server_crash wq_Server_crash_0 wq_Server_crash_15 wq_Journal_size wq_Journal_size_0
  refine ⟨fun q => h0 (fun k hk e => ?_), fun q => ?_⟩
  · rw [e] at q; exact absurd q (nI_pos (by omega))
  obtain ⟨k, hk31, rfl⟩ := nI_of q
  simp only [m0, m1, (CM_j hM).1, ck, cP0, cI ax 34 (by decide), hJn, true_and, Option.some.injEq, exists_eq_left', nI_leI hk31 (show J.length < 2 ^ 31 by omega)]
  refine ⟨fun hk => ?_, fun hk => h0 (fun k' hk' e => hk (by have := (nI_eq hk31 (by omega)).mp e; omega))⟩
  refine cq_before hM κ hC.2.2.2.1 hk _ (fun r T' hk0 hr20 hT' hnr => ⟨fun y => absurd y (by simp), fun a13 _ => ?_⟩) (fun hk0 => ⟨fun _ => fin κ T k hk rfl (Or.inl ⟨hk0, rfl⟩) hC, fun a13 y => absurd y (by simp)⟩)
  simp only [m0, m1, (CM_t hM).1, ck, cP0, true_and, Option.some.injEq, exists_eq_left']
  obtain ⟨l1, l2, l3, l4⟩ := CM_t hM
  obtain ⟨j1, t1, t2, t3, t4⟩ := (CM_j hM).2 r hr20
  rw [show 36 + 2 * r + 1 = 37 + 2 * r by omega] at t2 t3 t4
  refine mq_takeOver (h := c_em ax κ g) (bn := ax + 33) (cn_ := ax + (37 + 2 * r)) l1 ((cP ax 32 rfl κ g 0).trans l2) l3 l4 (geo hg _) t1 ((cP ax (36 + 2 * r) (pa_j hr20).2 κ g 0).trans t2) t3 t4 (by omega) (by omega) (by omega) (fun p a hp ha => ?_) _ ?_
  · rw [cQ ax (37 + 2 * r) (by omega) (pa_j hr20).1] at ha
    exact nr_k hnr hp ha
  · rw [show mm_P (c_em ax κ g) (ax + (37 + 2 * r)) = κ.2.2 (37 + 2 * r) from funext (fun j => cQ ax (37 + 2 * r) (by omega) (pa_j hr20).1 κ g j), mm_row_c ax 33 (by decide) rfl]
    refine fin _ T' k hk rfl (Or.inr ⟨hk0, hT'⟩) ?_
    obtain ⟨h1', h2', h3', h4', h5', h6', h7', h8'⟩ := hC
    have eP : ∀ o j, ¬ o = 33 → (c_row κ 33 (κ.2.2 (37 + 2 * r))).2.2 o j = κ.2.2 o j := fun o j ho => if_neg (fun z => ho z.1)
    exact ⟨h1', h2', nr_of (fun p hp => if_pos ⟨rfl, hp⟩) hnr, Cjn_of (κ := κ) rfl rfl (fun i j _ => eP _ _ (by omega)) h4', Csn_of (κ := κ) rfl (fun j => eP _ _ (by decide)) h5', h6', h7', h8'⟩
/-- what count tells -/
noncomputable def cntV (L A : List Int32) (T : sT) (S J : List sT) (fc gv : Nat) (tm : Int32) (ms : Nat) (il er nb by_ : Int32) (what : Int32) : Int32 := if what = 0 then tm else if what = 1 then nI (cnt (fun p => ¬ T p = none) 60) else if what = 2 then nI gv else if what = 3 then nI fc else if what = 4 then nI S.length else if what = 5 then nI J.length else if what = 6 then nb else if what = 7 then by_ else if what = 8 then nI ms else if what = 9 then nI L.length else if what = 10 then nI A.length else if what = 11 then il else if what = 12 then er else -9
theorem CM_a (hM : CM ax g) : (mm_k g (ax + 80) = kd_Archiver ∧ mm_P g (ax + 80) 0 = some (ax + 81) ∧ mm_P g (ax + 80) 1 = some (ax + 83) ∧ mm_P g (ax + 80) 2 = some (ax + 86) ∧ mm_P g (ax + 80) 3 = some (ax + 88) ∧ mm_P g (ax + 80) 4 = some (ax + 89)) ∧ (mm_k g (ax + 81) = kd_Store ∧ mm_P g (ax + 81) 2 = some (ax + 82) ∧ mm_k g (ax + 82) = ka_I ∧ mm_n g (ax + 82) = 3000) ∧ (mm_k g (ax + 83) = kd_Sha ∧ mm_P g (ax + 83) 0 = some (ax + 84) ∧ mm_P g (ax + 83) 1 = some (ax + 85) ∧ mm_k g (ax + 84) = ka_I ∧ mm_n g (ax + 84) = 5 ∧ mm_k g (ax + 85) = ka_I ∧ mm_n g (ax + 85) = 80) ∧ (mm_k g (ax + 88) = ka_I ∧ mm_n g (ax + 88) = 300 ∧ mm_k g (ax + 89) = ka_I ∧ mm_n g (ax + 89) = 60) := ⟨hM.2.2.2.2.2.2.2.2.2.2.2.2.1, hM.2.2.2.2.2.2.2.2.2.2.2.2.2.1, hM.2.2.2.2.2.2.2.2.2.2.2.2.2.2.1, hM.2.2.2.2.2.2.2.2.2.2.2.2.2.2.2.1⟩
theorem cq_count (hM : CM ax g) (hC : CC ax κ0 κ g L A T S J fm fc gv tm ms) (what : Int32) (Z : Int32 → mm_M → Prop) (hz : Z (cntV L A T S J fc gv tm ms (κ.1 0 11) (κ.1 0 12) (κ.1 81 0) (κ.1 81 1) what) (c_em ax κ g)) : wq_Server_count ge ax what (c_em ax κ g) Z := by
  obtain ⟨m0, m1⟩ := CM_0 hM
  obtain ⟨a1, a2, _, _⟩ := CM_a hM
  obtain ⟨c8, c9, c10⟩ := hC.2.2.2.2.2.2.1
  unfold wq_Server_count wq_Server_count_0 wq_Snapshots_size wq_Snapshots_size_0 wq_Journal_size wq_Journal_size_0
  simp only [m0, m1, a1, a2, (CM_t hM).1, (CM_f hM).1, (CM_s hM).1, (CM_j hM).1, (CM_b1 hM).1, (CM_b3 hM).1, ck, cP0, cP ax 80 rfl, cI0, cI ax 81 (by decide), cI ax 34 (by decide), cI ax 76 (by decide), c8, c9, c10, hC.2.2.2.1.2.1, hC.2.2.2.2.1.2.1, true_and, Option.some.injEq, exists_eq_left']
  unfold cntV at hz
  refine ⟨fun q => ?_, fun q => ?_, fun q => ?_, fun q => ?_, fun q => ?_, fun q => ?_, fun q => ?_, fun q => ?_, fun q => ?_, fun q => ?_, fun q => ?_, fun q => ?_, fun q => ?_, fun q => ?_⟩
  · subst q; exact hz
  · subst q; exact cq_tsize (tre_live hM hC.2.2.1) _ hz
  · subst q; exact hz
  · subst q
    refine cq_fsize hM κ _ ?_
    rw [hC.2.2.2.2.2.1.2.2.2]
    exact hz
  · subst q; exact hz
  · subst q; exact hz
  · subst q; exact hz
  · subst q; exact hz
  · subst q; exact hz
  · subst q
    refine cq_size (CM_b1 hM) (by decide) κ _ ?_
    rw [hC.1.1.1]
    exact hz
  · subst q
    refine cq_size (CM_b3 hM) (by decide) κ _ ?_
    rw [hC.2.1.1.1]
    exact hz
  · subst q; exact hz
  · subst q; exact hz
  · obtain ⟨q0, q1, q2, q3, q4, q5, q6, q7, q8, q9, q10, q11, q12⟩ := q
    rw [if_neg q0, if_neg q1, if_neg q2, if_neg q3, if_neg q4, if_neg q5, if_neg q6, if_neg q7, if_neg q8, if_neg q9, if_neg q10, if_neg q11, if_neg q12] at hz
    exact hz
end PC
