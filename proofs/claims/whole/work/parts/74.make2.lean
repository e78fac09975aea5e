/-! the class's constructor: request, archiver -/
/-- what lies below is as it was, but for z -/
def exz (z : Nat) (g g' : mm_M) : Prop := mm_z g ≤ mm_z g' ∧ (∀ b : Nat, b < mm_z g → mm_k g' b = mm_k g b ∧ mm_n g' b = mm_n g b) ∧ ∀ b : Nat, b < mm_z g → ¬ b = z → (∀ j, mm_I g' b j = mm_I g b j) ∧ (∀ j, mm_L g' b j = mm_L g b j) ∧ ∀ j, mm_P g' b j = mm_P g b j
theorem exz_e {z : Nat} {g g' : mm_M} (h : ext g g') : exz z g g' := ⟨h.1, fun b hb => ⟨(h.2 b hb).1, (h.2 b hb).2.1⟩, fun b hb _ => (h.2 b hb).2.2⟩
theorem exz_tr {z : Nat} {a b c : mm_M} (h1 : exz z a b) (h2 : exz z b c) : exz z a c := by
  refine ⟨Nat.le_trans h1.1 h2.1, fun x hx => ?_, fun x hx hn => ?_⟩
  · obtain ⟨p1, p2⟩ := h1.2.1 x hx
    obtain ⟨q1, q2⟩ := h2.2.1 x (Nat.lt_of_lt_of_le hx h1.1)
    exact ⟨q1.trans p1, q2.trans p2⟩
  · obtain ⟨p1, p2, p3⟩ := h1.2.2 x hx hn
    obtain ⟨q1, q2, q3⟩ := h2.2.2 x (Nat.lt_of_lt_of_le hx h1.1) hn
    exact ⟨fun j => (q1 j).trans (p1 j), fun j => (q2 j).trans (p2 j), fun j => (q3 j).trans (p3 j)⟩
theorem exz_uP (z : Nat) (g : mm_M) (k : Nat) (x : Option Nat) : exz z g (mm_uP g z k x) := ⟨Nat.le_refl _, fun _ _ => ⟨rfl, rfl⟩, fun b _ hn => ⟨fun _ => rfl, fun _ => rfl, fun j => by rw [i_PP, if_neg (fun q => hn q.1)]⟩⟩
theorem exz_uI (z : Nat) (g : mm_M) (k : Nat) (x : Int32) : exz z g (mm_uI g z k x) := ⟨Nat.le_refl _, fun _ _ => ⟨rfl, rfl⟩, fun b _ hn => ⟨fun j => by rw [i_II, if_neg (fun q => hn q.1)], fun _ => rfl, fun _ => rfl⟩⟩
/-- a new cell of kind kd at z, then only z changes: all below z is as it was -/
theorem ext_z {g m : mm_M} {kd n : Nat} (h : exz (mm_z g) (mm_nw g kd n) m) : ext g m := by
  have x := ext_nw g kd n
  refine ⟨Nat.le_trans x.1 h.1, fun b hb => ?_⟩
  obtain ⟨p1, p2, p3, p4, p5⟩ := x.2 b hb
  have hb' : b < mm_z (mm_nw g kd n) := Nat.lt_succ_of_lt hb
  obtain ⟨q1, q2⟩ := h.2.1 b hb'
  obtain ⟨q3, q4, q5⟩ := h.2.2 b hb' (by omega)
  exact ⟨q1.trans p1, q2.trans p2, fun j => (q3 j).trans (p3 j), fun j => (q4 j).trans (p4 j), fun j => (q5 j).trans (p5 j)⟩
section MK
variable {ge : Nat → Nat} {h : mm_M}
set_option maxHeartbeats 2000000 in
theorem mk_Req (hg : ge 0 ≤ mm_z h) (v1 : Option Nat) (Z : mm_M → Prop) (hZ : ∀ m, ext h m → mm_z m = mm_z h + 1 → mm_k m (mm_z h) = kd_Request → mm_P m (mm_z h) 0 = v1 → Z m) : wq_Request_init ge (mm_z h) v1 (mm_nw h 9 0) Z := by
  have k0 : mm_k (mm_nw h 9 0) (mm_z h) = kd_Request := by simp [i_kI, i_kL, i_kP, i_nI, i_nL, i_nP, i_zI, i_zL, i_zP, i_II, i_IL, i_IP, i_PI, i_PL, i_PP, i_In, i_Pn, i_kn, i_nn, nw_z, Nat.add_assoc]
  unfold wq_Request_init wq_Request_init_0
  repeat
    refine ⟨k0, hg, ?_⟩
    intro h' e'
    subst e'
  refine hZ _ ?_ rfl k0 ?_
  · (repeat (first | exact ext_rf h | apply ext_n | refine ext_uI ?_ (Nat.le_refl _) _ _ | refine ext_uP ?_ (Nat.le_refl _) _ _ | refine ext_uL ?_ (Nat.le_refl _) _ _))
  · simp [i_kI, i_kL, i_kP, i_nI, i_nL, i_nP, i_zI, i_zL, i_zP, i_II, i_IL, i_IP, i_PI, i_PL, i_PP, i_In, i_Pn, i_kn, i_nn, nw_z, Nat.add_assoc]
set_option maxHeartbeats 2000000 in
theorem mk_Arch (hg : ge 0 ≤ mm_z h) (Z : mm_M → Prop) (hZ : ∀ m, ext h m → mm_z m = mm_z h + 10 →
    (mm_k m (mm_z h) = kd_Archiver ∧ mm_P m (mm_z h) 0 = some (mm_z h + 1) ∧ mm_P m (mm_z h) 1 = some (mm_z h + 3) ∧ mm_P m (mm_z h) 2 = some (mm_z h + 6) ∧ mm_P m (mm_z h) 3 = some (mm_z h + 8) ∧ mm_P m (mm_z h) 4 = some (mm_z h + 9)) →
    (mm_k m (mm_z h + 1) = kd_Store ∧ mm_P m (mm_z h + 1) 2 = some (mm_z h + 2) ∧ mm_k m (mm_z h + 2) = ka_I ∧ mm_n m (mm_z h + 2) = 3000) →
    (mm_k m (mm_z h + 3) = kd_Sha ∧ mm_P m (mm_z h + 3) 0 = some (mm_z h + 4) ∧ mm_P m (mm_z h + 3) 1 = some (mm_z h + 5) ∧ mm_k m (mm_z h + 4) = ka_I ∧ mm_n m (mm_z h + 4) = 5 ∧ mm_k m (mm_z h + 5) = ka_I ∧ mm_n m (mm_z h + 5) = 80) →
    (mm_k m (mm_z h + 6) = kd_Bytes ∧ mm_P m (mm_z h + 6) 0 = some (mm_z h + 7) ∧ mm_k m (mm_z h + 7) = ka_B ∧ mm_n m (mm_z h + 7) = 5520) →
    (mm_k m (mm_z h + 8) = ka_I ∧ mm_n m (mm_z h + 8) = 300 ∧ mm_k m (mm_z h + 9) = ka_I ∧ mm_n m (mm_z h + 9) = 60) →
    mm_I m (mm_z h) 6 = 0 → (∀ j, mm_I m (mm_z h + 1) j = 0) → Z m) : wq_Archiver_init ge (mm_z h) (mm_nw h 3 0) Z := by
  have k0 : mm_k (mm_nw h 3 0) (mm_z h) = kd_Archiver := by simp [i_kI, i_kL, i_kP, i_nI, i_nL, i_nP, i_zI, i_zL, i_zP, i_II, i_IL, i_IP, i_PI, i_PL, i_PP, i_In, i_Pn, i_kn, i_nn, nw_z, Nat.add_assoc]
  unfold wq_Archiver_init wq_Archiver_init_0
  intro h1 e1 a2 e2
  subst e1 e2
  refine mk_Store (h := mm_nw h 3 0) (by rw [nw_z]; omega) _ (fun m1 x1 z1 s1 i1 => ?_)
  have kx1 : mm_k m1 (mm_z h) = kd_Archiver := (x1.2 _ (Nat.lt_succ_self _)).1.trans k0
  refine ⟨kx1, hg, ?_⟩
  intro h7 e7 h8 e8 a9 e9
  subst e8 e9
  rw [nw_z] at z1 s1 i1 e7
  have zh7 : mm_z h7 = mm_z h + 3 := by rw [e7, i_zP, z1]
  refine mk_Sha (h := h7) (by omega) _ (fun m3 x3 z3 s3 => ?_)
  have kx7 : mm_k h7 (mm_z h) = kd_Archiver := by rw [e7]; exact kx1
  have kx3 : mm_k m3 (mm_z h) = kd_Archiver := (x3.2 _ (by omega)).1.trans kx7
  refine ⟨kx3, hg, ?_⟩
  intro h14 e14 h15 e15 a16 e16
  subst e15 e16
  rw [zh7] at z3 s3 e14
  have zh14 : mm_z h14 = mm_z h + 6 := by rw [e14, i_zP, z3]
  refine mk_Bytes (h := h14) (by omega) 5520 (Nat.le_refl _) (by decide) _ (fun m5 x5 z5 b1 b2 b3 b4 b5 b6 => ?_)
  have kx14 : mm_k h14 (mm_z h) = kd_Archiver := by rw [e14]; exact kx3
  have kx5 : mm_k m5 (mm_z h) = kd_Archiver := (x5.2 _ (by omega)).1.trans kx14
  rw [zh14] at z5 b1 b2 b3 b4 b5 b6
  refine ⟨kx5, hg, ?_⟩
  intro h21 e21 h22 e22 a23 e23
  have zh21 : mm_z h21 = mm_z h + 8 := by rw [e21, i_zP, z5]
  have kx21 : mm_k h21 (mm_z h) = kd_Archiver := by rw [e21]; exact kx5
  have kx22 : mm_k h22 (mm_z h) = kd_Archiver := by rw [e22, i_kn, if_neg (by omega)]; exact kx21
  refine ⟨kx22, hg, ?_⟩
  intro h26 e26 h27 e27 a28 e28
  have zh26 : mm_z h26 = mm_z h + 9 := by rw [e26, i_zP, e22, nw_z, zh21]
  have kx26 : mm_k h26 (mm_z h) = kd_Archiver := by rw [e26]; exact kx22
  have kx27 : mm_k h27 (mm_z h) = kd_Archiver := by rw [e27, i_kn, if_neg (by omega)]; exact kx26
  refine ⟨kx27, hg, ?_⟩
  intro h31 e31
  refine ⟨by rw [e31]; exact kx27, hg, ?_⟩
  intro h34 e34
  refine ⟨by rw [e34, e31]; exact kx27, hg, ?_⟩
  intro h37 e37
  have y7 : exz (mm_z h) m1 h7 := by rw [e7]; exact exz_uP _ _ _ _
  have y3 : exz (mm_z h) h7 m3 := exz_e x3
  have y14 : exz (mm_z h) m3 h14 := by rw [e14]; exact exz_uP _ _ _ _
  have y5 : exz (mm_z h) h14 m5 := exz_e x5
  have y21 : exz (mm_z h) m5 h21 := by rw [e21]; exact exz_uP _ _ _ _
  have y22 : exz (mm_z h) h21 h22 := by rw [e22]; exact exz_e (ext_nw _ _ _)
  have y26 : exz (mm_z h) h22 h26 := by rw [e26]; exact exz_uP _ _ _ _
  have y27 : exz (mm_z h) h26 h27 := by rw [e27]; exact exz_e (ext_nw _ _ _)
  have y37 : exz (mm_z h) h27 h37 := by rw [e37, e34, e31]; exact exz_tr (exz_uP _ _ _ _) (exz_tr (exz_uI _ _ _ _) (exz_uI _ _ _ _))
  have w27 := exz_tr y27 y37
  have w22 := exz_tr y26 w27
  have w5 := exz_tr y21 (exz_tr y22 w22)
  have w3 := exz_tr y14 (exz_tr y5 w5)
  have w1 := exz_tr y7 (exz_tr y3 w3)
  have zf : mm_z h37 = mm_z h + 10 := by rw [e37, e34, e31, i_zI, i_zI, i_zP, e27, nw_z, zh26]
  have z27 : mm_z h27 = mm_z h + 10 := by rw [e27, nw_z, zh26]
  have z22 : mm_z h22 = mm_z h + 9 := by rw [e22, nw_z, zh21]
  -- the archiver's own references
  have p0 : mm_P h7 (mm_z h) 0 = some (mm_z h + 1) := by rw [e7, i_PP, if_pos ⟨rfl, rfl⟩]
  have p0' : mm_P h14 (mm_z h) 0 = some (mm_z h + 1) := by rw [e14, i_PP, if_neg (by simp), (x3.2 _ (by omega)).2.2.2.2, p0]
  have p1 : mm_P h14 (mm_z h) 1 = some (mm_z h + 3) := by rw [e14, i_PP, if_pos ⟨rfl, rfl⟩]
  have q : ∀ k, k < 2 → mm_P h37 (mm_z h) k = mm_P h14 (mm_z h) k := fun k hk => by
    rw [e37, e34, e31, i_PI, i_PI, i_PP, if_neg (by omega), e27, i_Pn, if_neg (by omega), e26, i_PP, if_neg (by omega), e22, i_Pn, if_neg (by omega), e21, i_PP, if_neg (by omega), (x5.2 _ (by omega)).2.2.2.2]
  have p2 : mm_P h37 (mm_z h) 2 = some (mm_z h + 6) := by
    rw [e37, e34, e31, i_PI, i_PI, i_PP, if_neg (by omega), e27, i_Pn, if_neg (by omega), e26, i_PP, if_neg (by omega), e22, i_Pn, if_neg (by omega), e21, i_PP, if_pos ⟨rfl, rfl⟩, zh14]
  have p3 : mm_P h37 (mm_z h) 3 = some (mm_z h + 8) := by
    rw [e37, e34, e31, i_PI, i_PI, i_PP, if_neg (by omega), e27, i_Pn, if_neg (by omega), e26, i_PP, if_pos ⟨rfl, rfl⟩, e23, zh21]
  have p4 : mm_P h37 (mm_z h) 4 = some (mm_z h + 9) := by
    rw [e37, e34, e31, i_PI, i_PI, i_PP, if_pos ⟨rfl, rfl⟩, e28, zh26]
  refine hZ h37 (ext_z (kd := 3) (n := 0) (exz_tr (exz_e x1) w1)) zf ⟨((y37.2.1 _ (by omega)).1).trans kx27, (q 0 (by decide)).trans p0', (q 1 (by decide)).trans p1, p2, p3, p4⟩ ?_ ?_ ?_ ?_ ?_ (fun j => ?_)
  · exact ⟨(w1.2.1 _ (by omega)).1.trans s1.1, ((w1.2.2 _ (by omega) (by omega)).2.2 2).trans s1.2.1, (w1.2.1 _ (by omega)).1.trans s1.2.2.1, (w1.2.1 _ (by omega)).2.trans s1.2.2.2⟩
  · exact ⟨(w3.2.1 _ (by omega)).1.trans s3.1, ((w3.2.2 _ (by omega) (by omega)).2.2 0).trans s3.2.1, ((w3.2.2 _ (by omega) (by omega)).2.2 1).trans s3.2.2.1, (w3.2.1 _ (by omega)).1.trans s3.2.2.2.1, (w3.2.1 _ (by omega)).2.trans s3.2.2.2.2.1, (w3.2.1 _ (by omega)).1.trans s3.2.2.2.2.2.1, (w3.2.1 _ (by omega)).2.trans s3.2.2.2.2.2.2⟩
  · exact ⟨(w5.2.1 _ (by omega)).1.trans b1, ((w5.2.2 _ (by omega) (by omega)).2.2 0).trans b2, (w5.2.1 _ (by omega)).1.trans b3, (w5.2.1 _ (by omega)).2.trans b4⟩
  · refine ⟨(w22.2.1 _ (by omega)).1.trans ?_, (w22.2.1 _ (by omega)).2.trans ?_, (y37.2.1 _ (by omega)).1.trans ?_, (y37.2.1 _ (by omega)).2.trans ?_⟩
    · rw [e22, i_kn, zh21, if_pos rfl]
    · rw [e22, i_nn, zh21, if_pos rfl]
    · rw [e27, i_kn, zh26, if_pos rfl]
    · rw [e27, i_nn, zh26, if_pos rfl]
  · rw [e37, i_II, if_pos ⟨rfl, rfl⟩]
  · exact ((w1.2.2 _ (by omega) (by omega)).1 j).trans (i1 j)
end MK
