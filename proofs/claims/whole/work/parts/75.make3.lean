/-! the class's constructor: the table of fids, the journal -/
theorem ext_of_exz {h h5 m : mm_M} {z' : Nat} (x : ext h h5) (y : exz z' h5 m) (hz : mm_z h ≤ z') : ext h m := by
  refine ⟨Nat.le_trans x.1 y.1, fun b hb => ?_⟩
  obtain ⟨p1, p2, p3, p4, p5⟩ := x.2 b hb
  have hb' : b < mm_z h5 := Nat.lt_of_lt_of_le hb x.1
  obtain ⟨q1, q2⟩ := y.2.1 b hb'
  obtain ⟨q3, q4, q5⟩ := y.2.2 b hb' (by omega)
  exact ⟨q1.trans p1, q2.trans p2, fun j => (q3 j).trans (p3 j), fun j => (q4 j).trans (p4 j), fun j => (q5 j).trans (p5 j)⟩
section MK
variable {ge : Nat → Nat} {h : mm_M}
set_option maxHeartbeats 2000000 in
theorem mk_FidT (hg : ge 0 ≤ mm_z h) (Z : mm_M → Prop) (hZ : ∀ m, ext h m → mm_z m = mm_z h + 26 → (mm_k m (mm_z h) = kd_FidTable ∧ mm_P m (mm_z h) 0 = some (mm_z h + 1) ∧ mm_k m (mm_z h + 1) = ka_Fid ∧ mm_n m (mm_z h + 1) = 24) → (∀ i, i < 24 → mm_P m (mm_z h + 1) i = some (mm_z h + (2 + i)) ∧ mm_k m (mm_z h + (2 + i)) = kd_Fid ∧ mm_I m (mm_z h + (2 + i)) 0 = 0) → Z m) : wq_FidTable_init ge (mm_z h) (mm_nw h 6 0) Z := by
  unfold wq_FidTable_init wq_FidTable_init_0
  intro h1 e1 a2 e2
  refine ⟨by rw [e1]; simp [i_kI, i_kL, i_kP, i_nI, i_nL, i_nP, i_zI, i_zL, i_zP, i_II, i_IL, i_IP, i_PI, i_PL, i_PP, i_In, i_Pn, i_kn, i_nn, nw_z, Nat.add_assoc], hg, ?_⟩
  intro h5 e5
  rw [e1, e2] at e5
  have x5 : ext h h5 := by rw [e5]; (repeat (first | exact ext_rf h | apply ext_n | refine ext_uI ?_ (Nat.le_refl _) _ _ | refine ext_uP ?_ (Nat.le_refl _) _ _ | refine ext_uL ?_ (Nat.le_refl _) _ _))
  have z5 : mm_z h5 = mm_z h + 2 := by rw [e5]; rfl
  have f1 : mm_k h5 (mm_z h) = kd_FidTable := by rw [e5]; simp [i_kI, i_kL, i_kP, i_nI, i_nL, i_nP, i_zI, i_zL, i_zP, i_II, i_IL, i_IP, i_PI, i_PL, i_PP, i_In, i_Pn, i_kn, i_nn, nw_z, Nat.add_assoc]
  have f2 : mm_P h5 (mm_z h) 0 = some (mm_z h + 1) := by rw [e5]; simp [i_kI, i_kL, i_kP, i_nI, i_nL, i_nP, i_zI, i_zL, i_zP, i_II, i_IL, i_IP, i_PI, i_PL, i_PP, i_In, i_Pn, i_kn, i_nn, nw_z, Nat.add_assoc]
  have f3 : mm_k h5 (mm_z h + 1) = ka_Fid := by rw [e5]; simp [i_kI, i_kL, i_kP, i_nI, i_nL, i_nP, i_zI, i_zL, i_zP, i_II, i_IL, i_IP, i_PI, i_PL, i_PP, i_In, i_Pn, i_kn, i_nn, nw_z, Nat.add_assoc]
  have f4 : mm_n h5 (mm_z h + 1) = 24 := by rw [e5]; simp [i_kI, i_kL, i_kP, i_nI, i_nL, i_nP, i_zI, i_zL, i_zP, i_II, i_IL, i_IP, i_PI, i_PL, i_PP, i_In, i_Pn, i_kn, i_nn, nw_z, Nat.add_assoc]
  clear e5
  unfold lp_FidTable_init_15
  intro Y hY
  have key : ∀ (r i : Nat) (m : mm_M), i + r = 24 → exz (mm_z h + 1) h5 m → mm_z m = mm_z h + 2 + i → (∀ k, k < i → mm_P m (mm_z h + 1) k = some (mm_z h + (2 + k)) ∧ mm_k m (mm_z h + (2 + k)) = kd_Fid ∧ mm_I m (mm_z h + (2 + k)) 0 = 0) → Y i (mm_z h) (nI i) m := by
    intro r
    induction r with
    | zero =>
      intro i m hi y zm hk
      have ei : i = 24 := by omega
      subst ei
      refine hY _ _ _ _ ?_
      unfold wq_FidTable_init_15
      refine ⟨Nat.le_refl _, fun _ => ?_, fun q => absurd (nI_le (a := 24) (Nat.le_refl _) (by decide)) q⟩
      exact hZ m (ext_of_exz x5 y (by omega)) (by omega) ⟨(y.2.1 _ (by omega)).1.trans f1, ((y.2.2 _ (by omega) (by omega)).2.2 0).trans f2, (y.2.1 _ (by omega)).1.trans f3, (y.2.1 _ (by omega)).2.trans f4⟩ hk
    | succ r ih =>
      intro i m hi y zm hk
      refine hY _ _ _ _ ?_
      unfold wq_FidTable_init_15
      refine ⟨by omega, fun q => absurd q (nI_ge (b := 24) (by omega) (by decide)), fun _ => ⟨(y.2.1 _ (by omega)).1.trans f1, ?_⟩⟩
      intro h2 e2' a3 e3
      subst e2' e3
      refine mk_Fid (h := m) (by omega) _ (fun m4 x4 z4 k4 i4 => ?_)
      refine ⟨mm_z h + 1, ((y.2.2 _ (by omega) (by omega)).2.2 0).trans f2, ?_, ?_, by omega, fun b12 hb => by cases hb; exact k4, ?_⟩
      · rw [(x4.2 _ (by omega)).1]; exact (y.2.1 _ (by omega)).1.trans f3
      · rw [(x4.2 _ (by omega)).2.1, (y.2.1 _ (by omega)).2, f4]; exact vp_in_nI (by omega) (by decide)
      · intro h13 e13
        rw [nI_clamp (by omega)] at e13
        rw [← nI_succ]
        refine ih (i + 1) h13 (by omega) (exz_tr y (exz_tr (exz_e x4) (by rw [e13]; exact exz_uP _ _ _ _))) (by rw [e13, i_zP, z4]; omega) (fun k hk' => ?_)
        by_cases e : k = i
        · subst e
          have ez : mm_z h + (2 + k) = mm_z m := by omega
          refine ⟨by rw [e13, i_PP, if_pos ⟨rfl, rfl⟩, ez], by rw [e13, ez]; exact k4, ?_⟩
          rw [e13, i_IP, ez]; exact i4
        · obtain ⟨g1, g2, g3⟩ := hk k (by omega)
          refine ⟨?_, ?_, ?_⟩
          · rw [e13, i_PP, if_neg (by omega), (x4.2 _ (by omega)).2.2.2.2]; exact g1
          · rw [e13, i_kP, (x4.2 _ (by omega)).1]; exact g2
          · rw [e13, i_IP, (x4.2 _ (by omega)).2.2.1]; exact g3
  exact key 24 0 h5 (by omega) (exz_e (ext_rf h5)) (by omega) (fun k hk => absurd hk (by omega))
set_option maxHeartbeats 2000000 in
theorem mk_Jour (hg : ge 0 ≤ mm_z h) (Z : mm_M → Prop) (hZ : ∀ m, ext h m → mm_z m = mm_z h + 42 → (mm_k m (mm_z h) = kd_Journal ∧ mm_P m (mm_z h) 0 = some (mm_z h + 1) ∧ mm_k m (mm_z h + 1) = ka_Tree ∧ mm_n m (mm_z h + 1) = 20) → (mm_I m (mm_z h) 1 = 0 ∧ mm_I m (mm_z h) 2 = 0) → (∀ i, i < 20 → mm_P m (mm_z h + 1) i = some (mm_z h + (2 + 2 * i)) ∧ mm_k m (mm_z h + (2 + 2 * i)) = kd_Tree ∧ mm_P m (mm_z h + (2 + 2 * i)) 0 = some (mm_z h + (2 + 2 * i + 1)) ∧ mm_k m (mm_z h + (2 + 2 * i + 1)) = ka_Node ∧ mm_n m (mm_z h + (2 + 2 * i + 1)) = 60) → Z m) : wq_Journal_init ge (mm_z h) (mm_nw h 7 0) Z := by
  unfold wq_Journal_init wq_Journal_init_0
  intro h1 e1 a2 e2
  refine ⟨by rw [e1]; simp [i_kI, i_kL, i_kP, i_nI, i_nL, i_nP, i_zI, i_zL, i_zP, i_II, i_IL, i_IP, i_PI, i_PL, i_PP, i_In, i_Pn, i_kn, i_nn, nw_z, Nat.add_assoc], hg, ?_⟩
  intro h5a e5a
  refine ⟨by rw [e5a, e1]; simp [i_kI, i_kL, i_kP, i_nI, i_nL, i_nP, i_zI, i_zL, i_zP, i_II, i_IL, i_IP, i_PI, i_PL, i_PP, i_In, i_Pn, i_kn, i_nn, nw_z, Nat.add_assoc], hg, ?_⟩
  intro h8 e8
  refine ⟨by rw [e8, e5a, e1]; simp [i_kI, i_kL, i_kP, i_nI, i_nL, i_nP, i_zI, i_zL, i_zP, i_II, i_IL, i_IP, i_PI, i_PL, i_PP, i_In, i_Pn, i_kn, i_nn, nw_z, Nat.add_assoc], hg, ?_⟩
  intro h5 e5
  rw [e8, e5a, e1, e2] at e5
  have x5 : ext h h5 := by rw [e5]; (repeat (first | exact ext_rf h | apply ext_n | refine ext_uI ?_ (Nat.le_refl _) _ _ | refine ext_uP ?_ (Nat.le_refl _) _ _ | refine ext_uL ?_ (Nat.le_refl _) _ _))
  have z5 : mm_z h5 = mm_z h + 2 := by rw [e5]; rfl
  have f1 : mm_k h5 (mm_z h) = kd_Journal := by rw [e5]; simp [i_kI, i_kL, i_kP, i_nI, i_nL, i_nP, i_zI, i_zL, i_zP, i_II, i_IL, i_IP, i_PI, i_PL, i_PP, i_In, i_Pn, i_kn, i_nn, nw_z, Nat.add_assoc]
  have f2 : mm_P h5 (mm_z h) 0 = some (mm_z h + 1) := by rw [e5]; simp [i_kI, i_kL, i_kP, i_nI, i_nL, i_nP, i_zI, i_zL, i_zP, i_II, i_IL, i_IP, i_PI, i_PL, i_PP, i_In, i_Pn, i_kn, i_nn, nw_z, Nat.add_assoc]
  have f3 : mm_k h5 (mm_z h + 1) = ka_Tree := by rw [e5]; simp [i_kI, i_kL, i_kP, i_nI, i_nL, i_nP, i_zI, i_zL, i_zP, i_II, i_IL, i_IP, i_PI, i_PL, i_PP, i_In, i_Pn, i_kn, i_nn, nw_z, Nat.add_assoc]
  have f4 : mm_n h5 (mm_z h + 1) = 20 := by rw [e5]; simp [i_kI, i_kL, i_kP, i_nI, i_nL, i_nP, i_zI, i_zL, i_zP, i_II, i_IL, i_IP, i_PI, i_PL, i_PP, i_In, i_Pn, i_kn, i_nn, nw_z, Nat.add_assoc]
  have f5 : mm_I h5 (mm_z h) 1 = 0 := by rw [e5]; simp [i_kI, i_kL, i_kP, i_nI, i_nL, i_nP, i_zI, i_zL, i_zP, i_II, i_IL, i_IP, i_PI, i_PL, i_PP, i_In, i_Pn, i_kn, i_nn, nw_z, Nat.add_assoc]
  have f6 : mm_I h5 (mm_z h) 2 = 0 := by rw [e5]; simp [i_kI, i_kL, i_kP, i_nI, i_nL, i_nP, i_zI, i_zL, i_zP, i_II, i_IL, i_IP, i_PI, i_PL, i_PP, i_In, i_Pn, i_kn, i_nn, nw_z, Nat.add_assoc]
  clear e5 e8 e5a
  unfold lp_Journal_init_25
  intro Y hY
  have key : ∀ (r i : Nat) (m : mm_M), i + r = 20 → exz (mm_z h + 1) h5 m → mm_z m = mm_z h + 2 + 2 * i → (∀ k, k < i → mm_P m (mm_z h + 1) k = some (mm_z h + (2 + 2 * k)) ∧ mm_k m (mm_z h + (2 + 2 * k)) = kd_Tree ∧ mm_P m (mm_z h + (2 + 2 * k)) 0 = some (mm_z h + (2 + 2 * k + 1)) ∧ mm_k m (mm_z h + (2 + 2 * k + 1)) = ka_Node ∧ mm_n m (mm_z h + (2 + 2 * k + 1)) = 60) → Y i (mm_z h) (nI i) m := by
    intro r
    induction r with
    | zero =>
      intro i m hi y zm hk
      have ei : i = 20 := by omega
      subst ei
      refine hY _ _ _ _ ?_
      unfold wq_Journal_init_25
      refine ⟨Nat.le_refl _, fun _ => ?_, fun q => absurd (nI_le (a := 20) (Nat.le_refl _) (by decide)) q⟩
      exact hZ m (ext_of_exz x5 y (by omega)) (by omega) ⟨(y.2.1 _ (by omega)).1.trans f1, ((y.2.2 _ (by omega) (by omega)).2.2 0).trans f2, (y.2.1 _ (by omega)).1.trans f3, (y.2.1 _ (by omega)).2.trans f4⟩ ⟨((y.2.2 _ (by omega) (by omega)).1 1).trans f5, ((y.2.2 _ (by omega) (by omega)).1 2).trans f6⟩ hk
    | succ r ih =>
      intro i m hi y zm hk
      refine hY _ _ _ _ ?_
      unfold wq_Journal_init_25
      refine ⟨by omega, fun q => absurd q (nI_ge (b := 20) (by omega) (by decide)), fun _ => ⟨(y.2.1 _ (by omega)).1.trans f1, ?_⟩⟩
      intro h2 e2' a3 e3
      subst e2' e3
      refine mk_Tree (h := m) (by omega) _ (fun m4 x4 z4 k1 k2 k3 k4 _ _ => ?_)
      refine ⟨mm_z h + 1, ((y.2.2 _ (by omega) (by omega)).2.2 0).trans f2, ?_, ?_, by omega, fun b12 hb => by cases hb; exact k1, ?_⟩
      · rw [(x4.2 _ (by omega)).1]; exact (y.2.1 _ (by omega)).1.trans f3
      · rw [(x4.2 _ (by omega)).2.1, (y.2.1 _ (by omega)).2, f4]; exact vp_in_nI (by omega) (by decide)
      · intro h13 e13
        rw [nI_clamp (by omega)] at e13
        rw [← nI_succ]
        refine ih (i + 1) h13 (by omega) (exz_tr y (exz_tr (exz_e x4) (by rw [e13]; exact exz_uP _ _ _ _))) (by rw [e13, i_zP, z4]; omega) (fun k hk' => ?_)
        by_cases e : k = i
        · subst e
          have ez : mm_z h + (2 + 2 * k) = mm_z m := by omega
          have ez1 : mm_z h + (2 + 2 * k + 1) = mm_z m + 1 := by omega
          rw [ez, ez1, e13]
          refine ⟨by rw [i_PP, if_pos ⟨rfl, rfl⟩], k1, ?_, k3, k4⟩
          rw [i_PP, if_neg (by omega)]; exact k2
        · obtain ⟨g1, g2, g3, g4, g5⟩ := hk k (by omega)
          rw [e13]
          refine ⟨?_, ?_, ?_, ?_, ?_⟩
          · rw [i_PP, if_neg (by omega), (x4.2 _ (by omega)).2.2.2.2]; exact g1
          · rw [i_kP, (x4.2 _ (by omega)).1]; exact g2
          · rw [i_PP, if_neg (by omega), (x4.2 _ (by omega)).2.2.2.2]; exact g3
          · rw [i_kP, (x4.2 _ (by omega)).1]; exact g4
          · rw [i_nP, (x4.2 _ (by omega)).2.1]; exact g5
  exact key 20 0 h5 (by omega) (exz_e (ext_rf h5)) (by omega) (fun k hk => absurd hk (by omega))
end MK
