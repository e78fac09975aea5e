/-! the class's constructor: its parts -/
theorem i_kI (h : mm_M) (a k : Nat) (x : Int32) (b : Nat) : mm_k (mm_uI h a k x) b = mm_k h b := rfl
theorem i_kL (h : mm_M) (a k : Nat) (x : Int64) (b : Nat) : mm_k (mm_uL h a k x) b = mm_k h b := rfl
theorem i_kP (h : mm_M) (a k : Nat) (x : Option Nat) (b : Nat) : mm_k (mm_uP h a k x) b = mm_k h b := rfl
theorem i_nI (h : mm_M) (a k : Nat) (x : Int32) (b : Nat) : mm_n (mm_uI h a k x) b = mm_n h b := rfl
theorem i_nL (h : mm_M) (a k : Nat) (x : Int64) (b : Nat) : mm_n (mm_uL h a k x) b = mm_n h b := rfl
theorem i_nP (h : mm_M) (a k : Nat) (x : Option Nat) (b : Nat) : mm_n (mm_uP h a k x) b = mm_n h b := rfl
theorem i_zI (h : mm_M) (a k : Nat) (x : Int32) : mm_z (mm_uI h a k x) = mm_z h := rfl
theorem i_zL (h : mm_M) (a k : Nat) (x : Int64) : mm_z (mm_uL h a k x) = mm_z h := rfl
theorem i_zP (h : mm_M) (a k : Nat) (x : Option Nat) : mm_z (mm_uP h a k x) = mm_z h := rfl
theorem i_II (h : mm_M) (a k : Nat) (x : Int32) (b j : Nat) : mm_I (mm_uI h a k x) b j = if b = a ∧ j = k then x else mm_I h b j := rfl
theorem i_IL (h : mm_M) (a k : Nat) (x : Int64) (b j : Nat) : mm_I (mm_uL h a k x) b j = mm_I h b j := rfl
theorem i_IP (h : mm_M) (a k : Nat) (x : Option Nat) (b j : Nat) : mm_I (mm_uP h a k x) b j = mm_I h b j := rfl
theorem i_PI (h : mm_M) (a k : Nat) (x : Int32) (b j : Nat) : mm_P (mm_uI h a k x) b j = mm_P h b j := rfl
theorem i_PL (h : mm_M) (a k : Nat) (x : Int64) (b j : Nat) : mm_P (mm_uL h a k x) b j = mm_P h b j := rfl
theorem i_PP (h : mm_M) (a k : Nat) (x : Option Nat) (b j : Nat) : mm_P (mm_uP h a k x) b j = if b = a ∧ j = k then x else mm_P h b j := rfl
theorem i_In (h : mm_M) (kd n b j : Nat) : mm_I (mm_nw h kd n) b j = if b = mm_z h then 0 else mm_I h b j := rfl
theorem i_Pn (h : mm_M) (kd n b j : Nat) : mm_P (mm_nw h kd n) b j = if b = mm_z h then none else mm_P h b j := rfl
theorem i_kn (h : mm_M) (kd n b : Nat) : mm_k (mm_nw h kd n) b = if b = mm_z h then kd else mm_k h b := rfl
theorem i_nn (h : mm_M) (kd n b : Nat) : mm_n (mm_nw h kd n) b = if b = mm_z h then n else mm_n h b := rfl
theorem ext_uL {g g' : mm_M} (h : ext g g') {a : Nat} (ha : mm_z g ≤ a) (k : Nat) (x : Int64) : ext g (mm_uL g' a k x) := by
  refine ⟨h.1, fun b hb => ?_⟩
  obtain ⟨p1, p2, p3, p4, p5⟩ := h.2 b hb
  exact ⟨p1, p2, p3, fun j => (mm_up_ne (Or.inl (by omega))).trans (p4 j), p5⟩
theorem ext_n {g g' : mm_M} (h : ext g g') (kd n : Nat) : ext g (mm_nw g' kd n) := ext_tr h (ext_nw g' kd n)
section MK
variable {ge : Nat → Nat} {h : mm_M}
theorem mk_Bytes (hg : ge 0 ≤ mm_z h) (c : Nat) (hc : c ≤ 5520) (hc0 : 0 < c) (Z : mm_M → Prop) (hZ : ∀ m, ext h m → mm_z m = mm_z h + 2 → mm_k m (mm_z h) = kd_Bytes → mm_P m (mm_z h) 0 = some (mm_z h + 1) → mm_k m (mm_z h + 1) = ka_B → mm_n m (mm_z h + 1) = c → (∀ j, mm_I m (mm_z h) j = 0) → (∀ j, mm_I m (mm_z h + 1) j = 0) → Z m) : wq_Bytes_init ge (mm_z h) (nI c) (mm_nw h 4 0) Z := by
  have e1 : (if (0 : Int32) < nI c then nI c else 0) = nI c := if_pos (nI_lt (a := 0) hc0 (by omega))
  unfold wq_Bytes_init wq_Bytes_init_0
  rw [e1, nI_clamp (show c < 2 ^ 31 by omega)]
  refine ⟨by simp [i_kI, i_kL, i_kP, i_nI, i_nL, i_nP, i_zI, i_zL, i_zP, i_II, i_IL, i_IP, i_PI, i_PL, i_PP, i_In, i_Pn, i_kn, i_nn, nw_z, Nat.add_assoc], hg, fun h3 e3 => ⟨nI_pos (by omega), hc, fun h6 e6 a7 e7 => ⟨?_, hg, fun h10 e10 => ?_⟩⟩⟩
  · rw [e6, e3]; simp [i_kI, i_kL, i_kP, i_nI, i_nL, i_nP, i_zI, i_zL, i_zP, i_II, i_IL, i_IP, i_PI, i_PL, i_PP, i_In, i_Pn, i_kn, i_nn, nw_z, Nat.add_assoc]
  rw [e10, e6, e7, e3]
  refine hZ _ (ext_uP (ext_n (ext_uI (ext_nw h 4 0) (Nat.le_refl _) 1 0) 101 c) (Nat.le_refl _) 0 _) rfl ?_ ?_ ?_ ?_ (fun j => ?_) (fun j => ?_)
  all_goals simp [i_kI, i_kL, i_kP, i_nI, i_nL, i_nP, i_zI, i_zL, i_zP, i_II, i_IL, i_IP, i_PI, i_PL, i_PP, i_In, i_Pn, i_kn, i_nn, nw_z, Nat.add_assoc]
theorem mk_Tree (hg : ge 0 ≤ mm_z h) (Z : mm_M → Prop) (hZ : ∀ m, ext h m → mm_z m = mm_z h + 2 → mm_k m (mm_z h) = kd_Tree → mm_P m (mm_z h) 0 = some (mm_z h + 1) → mm_k m (mm_z h + 1) = ka_Node → mm_n m (mm_z h + 1) = 60 → (∀ j, mm_I m (mm_z h) j = 0) → (∀ j, mm_P m (mm_z h + 1) j = none) → Z m) : wq_Tree_init ge (mm_z h) (mm_nw h 13 0) Z := by
  unfold wq_Tree_init wq_Tree_init_0
  intro h1 e1 a2 e2
  refine ⟨by rw [e1]; simp [i_kI, i_kL, i_kP, i_nI, i_nL, i_nP, i_zI, i_zL, i_zP, i_II, i_IL, i_IP, i_PI, i_PL, i_PP, i_In, i_Pn, i_kn, i_nn, nw_z, Nat.add_assoc], hg, fun h5 e5 => ?_⟩
  rw [e5, e2, e1]
  refine hZ _ (ext_uP (ext_n (ext_nw h 13 0) 104 60) (Nat.le_refl _) 0 _) rfl ?_ ?_ ?_ ?_ (fun j => ?_) (fun j => ?_)
  all_goals simp [i_kI, i_kL, i_kP, i_nI, i_nL, i_nP, i_zI, i_zL, i_zP, i_II, i_IL, i_IP, i_PI, i_PL, i_PP, i_In, i_Pn, i_kn, i_nn, nw_z, Nat.add_assoc]
theorem mk_Fid (hg : ge 0 ≤ mm_z h) (Z : mm_M → Prop) (hZ : ∀ m, ext h m → mm_z m = mm_z h + 1 → mm_k m (mm_z h) = kd_Fid → mm_I m (mm_z h) 0 = 0 → Z m) : wq_Fid_init ge (mm_z h) (mm_nw h 5 0) Z := by
  unfold wq_Fid_init wq_Fid_init_0
  have k0 : mm_k (mm_nw h 5 0) (mm_z h) = kd_Fid := by simp [i_kI, i_kL, i_kP, i_nI, i_nL, i_nP, i_zI, i_zL, i_zP, i_II, i_IL, i_IP, i_PI, i_PL, i_PP, i_In, i_Pn, i_kn, i_nn, nw_z, Nat.add_assoc]
  refine ⟨k0, hg, fun h3 e3 => ⟨by rw [e3]; exact k0, hg, fun h6 e6 => ⟨by rw [e6, e3]; exact k0, hg, fun h9 e9 => ⟨by rw [e9, e6, e3]; exact k0, hg, fun h12 e12 => ⟨by rw [e12, e9, e6, e3]; exact k0, hg, fun h15 e15 => ⟨by rw [e15, e12, e9, e6, e3]; exact k0, hg, fun h18 e18 => ⟨by rw [e18, e15, e12, e9, e6, e3]; exact k0, hg, fun h21 e21 => ⟨by rw [e21, e18, e15, e12, e9, e6, e3]; exact k0, hg, fun h24 e24 => ?_⟩⟩⟩⟩⟩⟩⟩⟩
  rw [e24, e21, e18, e15, e12, e9, e6, e3]
  have x := ext_nw h 5 0
  refine hZ _ (ext_uI (ext_uI (ext_uI (ext_uI (ext_uI (ext_uI (ext_uI (ext_uI x (Nat.le_refl _) _ _) (Nat.le_refl _) _ _) (Nat.le_refl _) _ _) (Nat.le_refl _) _ _) (Nat.le_refl _) _ _) (Nat.le_refl _) _ _) (Nat.le_refl _) _ _) (Nat.le_refl _) _ _) rfl ?_ ?_
  all_goals simp [i_kI, i_kL, i_kP, i_nI, i_nL, i_nP, i_zI, i_zL, i_zP, i_II, i_IL, i_IP, i_PI, i_PL, i_PP, i_In, i_Pn, i_kn, i_nn, nw_z, Nat.add_assoc]
theorem mk_Snap (hg : ge 0 ≤ mm_z h) (Z : mm_M → Prop) (hZ : ∀ m, ext h m → mm_z m = mm_z h + 4 → (mm_k m (mm_z h) = kd_Snapshots ∧ mm_P m (mm_z h) 0 = some (mm_z h + 1) ∧ mm_P m (mm_z h) 1 = some (mm_z h + 2) ∧ mm_P m (mm_z h) 2 = some (mm_z h + 3) ∧ mm_k m (mm_z h + 1) = ka_I ∧ mm_n m (mm_z h + 1) = 30 ∧ mm_k m (mm_z h + 2) = ka_Tree ∧ mm_n m (mm_z h + 2) = 6 ∧ mm_k m (mm_z h + 3) = ka_Z ∧ mm_n m (mm_z h + 3) = 6) → mm_I m (mm_z h) 3 = 0 → (∀ j, mm_I m (mm_z h + 3) j = 0) → Z m) : wq_Snapshots_init ge (mm_z h) (mm_nw h 11 0) Z := by
  unfold wq_Snapshots_init wq_Snapshots_init_0
  intro h1 e1 a2 e2
  subst e1 e2
  refine ⟨by simp [i_kI, i_kL, i_kP, i_nI, i_nL, i_nP, i_zI, i_zL, i_zP, i_II, i_IL, i_IP, i_PI, i_PL, i_PP, i_In, i_Pn, i_kn, i_nn, nw_z, Nat.add_assoc], hg, ?_⟩
  intro h5 e5 h6 e6 a7 e7
  subst e5 e6 e7
  refine ⟨by simp [i_kI, i_kL, i_kP, i_nI, i_nL, i_nP, i_zI, i_zL, i_zP, i_II, i_IL, i_IP, i_PI, i_PL, i_PP, i_In, i_Pn, i_kn, i_nn, nw_z, Nat.add_assoc], hg, ?_⟩
  intro h10 e10 h11 e11 a12 e12
  subst e10 e11 e12
  refine ⟨by simp [i_kI, i_kL, i_kP, i_nI, i_nL, i_nP, i_zI, i_zL, i_zP, i_II, i_IL, i_IP, i_PI, i_PL, i_PP, i_In, i_Pn, i_kn, i_nn, nw_z, Nat.add_assoc], hg, ?_⟩
  intro h15 e15
  subst e15
  refine ⟨by simp [i_kI, i_kL, i_kP, i_nI, i_nL, i_nP, i_zI, i_zL, i_zP, i_II, i_IL, i_IP, i_PI, i_PL, i_PP, i_In, i_Pn, i_kn, i_nn, nw_z, Nat.add_assoc], hg, ?_⟩
  intro h18 e18
  subst e18
  refine hZ _ ?_ rfl ⟨?_, ?_, ?_, ?_, ?_, ?_, ?_, ?_, ?_, ?_⟩ ?_ (fun j => ?_)
  · (repeat (first | exact ext_rf h | apply ext_n | refine ext_uI ?_ (Nat.le_refl _) _ _ | refine ext_uP ?_ (Nat.le_refl _) _ _ | refine ext_uL ?_ (Nat.le_refl _) _ _))
  all_goals simp [i_kI, i_kL, i_kP, i_nI, i_nL, i_nP, i_zI, i_zL, i_zP, i_II, i_IL, i_IP, i_PI, i_PL, i_PP, i_In, i_Pn, i_kn, i_nn, nw_z, Nat.add_assoc]
theorem mk_Store (hg : ge 0 ≤ mm_z h) (Z : mm_M → Prop) (hZ : ∀ m, ext h m → mm_z m = mm_z h + 2 → (mm_k m (mm_z h) = kd_Store ∧ mm_P m (mm_z h) 2 = some (mm_z h + 1) ∧ mm_k m (mm_z h + 1) = ka_I ∧ mm_n m (mm_z h + 1) = 3000) → (∀ j, mm_I m (mm_z h) j = 0) → Z m) : wq_Store_init ge (mm_z h) (mm_nw h 12 0) Z := by
  unfold wq_Store_init wq_Store_init_0
  refine ⟨by simp [i_kI, i_kL, i_kP, i_nI, i_nL, i_nP, i_zI, i_zL, i_zP, i_II, i_IL, i_IP, i_PI, i_PL, i_PP, i_In, i_Pn, i_kn, i_nn, nw_z, Nat.add_assoc], hg, ?_⟩
  intro h3 e3
  subst e3
  refine ⟨by simp [i_kI, i_kL, i_kP, i_nI, i_nL, i_nP, i_zI, i_zL, i_zP, i_II, i_IL, i_IP, i_PI, i_PL, i_PP, i_In, i_Pn, i_kn, i_nn, nw_z, Nat.add_assoc], hg, ?_⟩
  intro h6 e6 h7 e7 a8 e8
  subst e6 e7 e8
  refine ⟨by simp [i_kI, i_kL, i_kP, i_nI, i_nL, i_nP, i_zI, i_zL, i_zP, i_II, i_IL, i_IP, i_PI, i_PL, i_PP, i_In, i_Pn, i_kn, i_nn, nw_z, Nat.add_assoc], hg, ?_⟩
  intro h11 e11
  subst e11
  refine hZ _ ?_ rfl ⟨?_, ?_, ?_, ?_⟩ (fun j => ?_)
  · (repeat (first | exact ext_rf h | apply ext_n | refine ext_uI ?_ (Nat.le_refl _) _ _ | refine ext_uP ?_ (Nat.le_refl _) _ _ | refine ext_uL ?_ (Nat.le_refl _) _ _))
  all_goals simp [i_kI, i_kL, i_kP, i_nI, i_nL, i_nP, i_zI, i_zL, i_zP, i_II, i_IL, i_IP, i_PI, i_PL, i_PP, i_In, i_Pn, i_kn, i_nn, nw_z, Nat.add_assoc]
theorem mk_Sha (hg : ge 0 ≤ mm_z h) (Z : mm_M → Prop) (hZ : ∀ m, ext h m → mm_z m = mm_z h + 3 → (mm_k m (mm_z h) = kd_Sha ∧ mm_P m (mm_z h) 0 = some (mm_z h + 1) ∧ mm_P m (mm_z h) 1 = some (mm_z h + 2) ∧ mm_k m (mm_z h + 1) = ka_I ∧ mm_n m (mm_z h + 1) = 5 ∧ mm_k m (mm_z h + 2) = ka_I ∧ mm_n m (mm_z h + 2) = 80) → Z m) : wq_Sha_init ge (mm_z h) (mm_nw h 10 0) Z := by
  unfold wq_Sha_init wq_Sha_init_0
  intro h1 e1 a2 e2
  subst e1 e2
  refine ⟨by simp [i_kI, i_kL, i_kP, i_nI, i_nL, i_nP, i_zI, i_zL, i_zP, i_II, i_IL, i_IP, i_PI, i_PL, i_PP, i_In, i_Pn, i_kn, i_nn, nw_z, Nat.add_assoc], hg, ?_⟩
  intro h5 e5 h6 e6 a7 e7
  subst e5 e6 e7
  refine ⟨by simp [i_kI, i_kL, i_kP, i_nI, i_nL, i_nP, i_zI, i_zL, i_zP, i_II, i_IL, i_IP, i_PI, i_PL, i_PP, i_In, i_Pn, i_kn, i_nn, nw_z, Nat.add_assoc], hg, ?_⟩
  intro h10 e10
  subst e10
  refine hZ _ ?_ rfl ⟨?_, ?_, ?_, ?_, ?_, ?_, ?_⟩
  · (repeat (first | exact ext_rf h | apply ext_n | refine ext_uI ?_ (Nat.le_refl _) _ _ | refine ext_uP ?_ (Nat.le_refl _) _ _ | refine ext_uL ?_ (Nat.le_refl _) _ _))
  all_goals simp [i_kI, i_kL, i_kP, i_nI, i_nL, i_nP, i_zI, i_zL, i_zP, i_II, i_IL, i_IP, i_PI, i_PL, i_PP, i_In, i_Pn, i_kn, i_nn, nw_z, Nat.add_assoc]
end MK
