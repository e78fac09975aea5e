/-! the class's constructor, whole: the objects -/
theorem stg {ax : Nat} {g m : mm_M} (x : ext g m) (hx : ax < mm_z g) (k a : Nat) {g' : mm_M} (e : g' = mm_uP m ax k (some a)) : exz ax g g' ∧ exz ax m g' ∧ mm_k g' ax = mm_k g ax ∧ (∀ j, ¬ j = k → mm_P g' ax j = mm_P g ax j) ∧ mm_P g' ax k = some a ∧ mm_z g' = mm_z m := by
  have y : exz ax m g' := by rw [e]; exact exz_uP _ _ _ _
  refine ⟨exz_tr (exz_e x) y, y, ?_, fun j hj => ?_, ?_, by rw [e]; rfl⟩
  · rw [e]; exact (x.2 ax hx).1
  · rw [e, i_PP, if_neg (fun q => hj q.2)]; exact (x.2 ax hx).2.2.2.2 j
  · rw [e, i_PP, if_pos ⟨rfl, rfl⟩]
/-- all but the server itself and the live tree's row -/
def exy (ax : Nat) (g g' : mm_M) : Prop := mm_z g ≤ mm_z g' ∧ (∀ b : Nat, b < mm_z g → mm_k g' b = mm_k g b ∧ mm_n g' b = mm_n g b) ∧ ∀ b : Nat, b < mm_z g → ¬ b = ax → ¬ b = ax + 33 → (∀ j, mm_I g' b j = mm_I g b j) ∧ ∀ j, mm_P g' b j = mm_P g b j
theorem exy_z {ax : Nat} {g g' : mm_M} (h : exz ax g g') : exy ax g g' := ⟨h.1, h.2.1, fun b hb hn _ => ⟨(h.2.2 b hb hn).1, (h.2.2 b hb hn).2.2⟩⟩
theorem exy_t {ax : Nat} {g g' : mm_M} (h : exz (ax + 33) g g') : exy ax g g' := ⟨h.1, h.2.1, fun b hb _ hn => ⟨(h.2.2 b hb hn).1, (h.2.2 b hb hn).2.2⟩⟩
theorem exy_tr {ax : Nat} {a b c : mm_M} (h1 : exy ax a b) (h2 : exy ax b c) : exy ax a c := by
  refine ⟨Nat.le_trans h1.1 h2.1, fun x hx => ?_, fun x hx n1 n2 => ?_⟩
  · obtain ⟨p1, p2⟩ := h1.2.1 x hx
    obtain ⟨q1, q2⟩ := h2.2.1 x (Nat.lt_of_lt_of_le hx h1.1)
    exact ⟨q1.trans p1, q2.trans p2⟩
  · obtain ⟨p1, p2⟩ := h1.2.2 x hx n1 n2
    obtain ⟨q1, q2⟩ := h2.2.2 x (Nat.lt_of_lt_of_le hx h1.1) n1 n2
    exact ⟨fun j => (q1 j).trans (p1 j), fun j => (q2 j).trans (p2 j)⟩
section SI
variable {ge : Nat → Nat} {h : mm_M}
set_option maxHeartbeats 4000000 in
theorem mk_Srv {ax : Nat} (hz : mm_z h = ax) (hg : ge 0 ≤ ax) (Z : mm_M → Prop)
    (hZ : ∀ M m, ext h M → mm_z M = ax + 90 → m = mm_uP (nin (mm_nw M 8 0) (ax + 90) 0 0 (some (ge 1)) (-2147483137) 0 0 (some (ge 2))) (ax + 33) 0 (some (ax + 90)) →
      (∀ m', exy ax M m' → (∀ j, mm_P m' ax j = mm_P M ax j) → ax + 118 ≤ mm_z m' → CM ax m') →
      ((∀ j, mm_I M (ax + 2) j = 0 ∧ mm_I M (ax + 1) 1 = 0 ∧ mm_I M (ax + 3) 1 = 0) ∧ (∀ i, i < 24 → mm_I M (ax + (8 + i)) 0 = 0) ∧ (mm_I M (ax + 34) 1 = 0 ∧ mm_I M (ax + 34) 2 = 0) ∧ mm_I M (ax + 76) 3 = 0 ∧ (∀ j, mm_I M (ax + 79) j = 0) ∧ mm_I M (ax + 80) 6 = 0 ∧ (∀ j, mm_I M (ax + 81) j = 0) ∧ (∀ j, mm_P M (ax + 33) j = none)) →
      (mm_I M ax 8 = 1 ∧ mm_I M ax 9 = 0 ∧ mm_I M ax 10 = 0 ∧ mm_I M ax 11 = 0 ∧ mm_I M ax 12 = 0) → Z m) : wq_Server_init ge ax (mm_nw h 2 0) Z := by
  subst hz
  have k0 : mm_k (mm_nw h 2 0) (mm_z h) = kd_Server := by rw [i_kn, if_pos rfl]
  unfold wq_Server_init wq_Server_init_0
  intro h1 e1 a2 e2
  subst e1 e2
  refine mk_Bytes (h := mm_nw h 2 0) (by rw [nw_z]; omega) 1400 (by decide) (by decide) _ (fun m1 x1 z1 b11 b12 b13 b14 b15 b16 => ?_)
  refine ⟨(x1.2 _ (Nat.lt_succ_self _)).1.trans k0, hg, fun g1 e1 => ?_⟩
  obtain ⟨s11, s12, s13, s14, s15, s16⟩ := stg x1 (Nat.lt_succ_self _) 0 _ e1
  rw [nw_z] at z1 b11 b12 b13 b14 b15 b16 s15
  rw [z1] at s16
  rw [k0] at s13
  clear e1
  intro h8 e8 a9 e9
  subst e8 e9
  refine mk_Bytes (h := g1) (by omega) 1000 (by decide) (by decide) _ (fun m2 x2 z2 b21 b22 b23 b24 b25 b26 => ?_)
  refine ⟨(x2.2 _ (by omega)).1.trans s13, hg, fun g2 e1 => ?_⟩
  obtain ⟨s21, s22, s23, s24, s25, s26⟩ := stg x2 (by omega) 1 _ e1
  rw [s16] at z2 b21 b22 b23 b24 b25 b26 s25
  rw [z2] at s26
  rw [s13] at s23
  clear e1
  intro h8 e8 a9 e9
  subst e8 e9
  refine ⟨by rw [i_kn, if_neg (by omega)]; exact s23, mk_Req (h := g2) (by omega) _ _ (fun m3 x3 z3 b31 b32 => ?_)⟩
  refine ⟨(x3.2 _ (by omega)).1.trans s23, hg, fun g3 e1 => ?_⟩
  obtain ⟨s31, s32, s33, s34, s35, s36⟩ := stg x3 (by omega) 2 _ e1
  rw [i_Pn, if_neg (by omega), s24 0 (by decide), s15] at b32
  rw [s26] at z3 b31 b32 s35
  rw [z3] at s36
  rw [s23] at s33
  clear e1
  intro h8 e8 a9 e9
  subst e8 e9
  refine mk_FidT (h := g3) (by omega) _ (fun m4 x4 z4 b41 b42 => ?_)
  refine ⟨(x4.2 _ (by omega)).1.trans s33, hg, fun g4 e1 => ?_⟩
  obtain ⟨s41, s42, s43, s44, s45, s46⟩ := stg x4 (by omega) 3 _ e1
  rw [s36] at z4 b41 b42 s45
  rw [z4] at s46
  rw [s33] at s43
  clear e1
  intro h8 e8 a9 e9
  subst e8 e9
  refine mk_Tree (h := g4) (by omega) _ (fun m5 x5 z5 b51 b52 b53 b54 b55 b56 => ?_)
  refine ⟨(x5.2 _ (by omega)).1.trans s43, hg, fun g5 e1 => ?_⟩
  obtain ⟨s51, s52, s53, s54, s55, s56⟩ := stg x5 (by omega) 4 _ e1
  rw [s46] at z5 b51 b52 b53 b54 b55 b56 s55
  rw [z5] at s56
  rw [s43] at s53
  clear e1
  intro h8 e8 a9 e9
  subst e8 e9
  refine mk_Jour (h := g5) (by omega) _ (fun m6 x6 z6 b61 b62 b63 => ?_)
  refine ⟨(x6.2 _ (by omega)).1.trans s53, hg, fun g6 e1 => ?_⟩
  obtain ⟨s61, s62, s63, s64, s65, s66⟩ := stg x6 (by omega) 5 _ e1
  rw [s56] at z6 b61 b62 b63 s65
  rw [z6] at s66
  rw [s53] at s63
  clear e1
  intro h8 e8 a9 e9
  subst e8 e9
  refine mk_Snap (h := g6) (by omega) _ (fun m7 x7 z7 b71 b72 b73 => ?_)
  refine ⟨(x7.2 _ (by omega)).1.trans s63, hg, fun g7 e1 => ?_⟩
  obtain ⟨s71, s72, s73, s74, s75, s76⟩ := stg x7 (by omega) 6 _ e1
  rw [s66] at z7 b71 b72 b73 s75
  rw [z7] at s76
  rw [s63] at s73
  clear e1
  intro h8 e8 a9 e9
  subst e8 e9
  refine mk_Arch (h := g7) (by omega) _ (fun m8 x8 z8 b81 b82 b83 b84 b85 b86 b87 => ?_)
  refine ⟨(x8.2 _ (by omega)).1.trans s73, hg, fun g8 e1 => ?_⟩
  obtain ⟨s81, s82, s83, s84, s85, s86⟩ := stg x8 (by omega) 7 _ e1
  rw [s76] at z8 b81 b82 b83 b84 b85 b86 b87 s85
  rw [z8] at s86
  rw [s73] at s83
  clear e1
  refine ⟨s83, hg, fun q1 f1 => ⟨by rw [f1]; exact s83, hg, fun q2 f2 => ⟨by rw [f2, f1]; exact s83, hg, fun q3 f3 => ⟨by rw [f3, f2, f1]; exact s83, hg, fun q4 f4 => ⟨by rw [f4, f3, f2, f1]; exact s83, hg, fun M f5 => ?_⟩⟩⟩⟩⟩
  have eM : M = mm_uI (mm_uI (mm_uI (mm_uI (mm_uI g8 (mm_z h) 8 1) (mm_z h) 9 0) (mm_z h) 10 0) (mm_z h) 11 0) (mm_z h) 12 0 := by rw [f5, f4, f3, f2, f1]
  clear f1 f2 f3 f4 f5
  have zM : mm_z M = mm_z h + 90 := by rw [eM]; exact s86
  have kM : mm_k M (mm_z h) = kd_Server := by rw [eM]; exact s83
  have G8 : exz (mm_z h) g8 M := by rw [eM]; exact exz_tr (exz_uI _ _ _ _) (exz_tr (exz_uI _ _ _ _) (exz_tr (exz_uI _ _ _ _) (exz_tr (exz_uI _ _ _ _) (exz_uI _ _ _ _))))
  have pM : ∀ j, mm_P M (mm_z h) j = mm_P g8 (mm_z h) j := fun j => by rw [eM]; rfl
  have iM : mm_I M (mm_z h) 8 = 1 ∧ mm_I M (mm_z h) 9 = 0 ∧ mm_I M (mm_z h) 10 = 0 ∧ mm_I M (mm_z h) 11 = 0 ∧ mm_I M (mm_z h) 12 = 0 := by
    rw [eM]
    simp [i_II]
  clear eM
  have G7 := exz_tr s81 G8
  have G6 := exz_tr s71 G7
  have G5 := exz_tr s61 G6
  have G4 := exz_tr s51 G5
  have G3 := exz_tr s41 G4
  have G2 := exz_tr s31 G3
  have G1 := exz_tr s21 G2
  have V8 := exz_tr s82 G8
  have V7 := exz_tr s72 G7
  have V6 := exz_tr s62 G6
  have V5 := exz_tr s52 G5
  have V4 := exz_tr s42 G4
  have V3 := exz_tr s32 G3
  have V2 := exz_tr s22 G2
  have V1 := exz_tr s12 G1
  have hM : ext h M := ext_z (kd := 2) (n := 0) (exz_tr (exz_e x1) V1)
  have p0 : mm_P M (mm_z h) 0 = some (mm_z h + 1) := by rw [pM, s84 0 (by decide), s74 0 (by decide), s64 0 (by decide), s54 0 (by decide), s44 0 (by decide), s34 0 (by decide), s24 0 (by decide), s15]
  have p1 : mm_P M (mm_z h) 1 = some (mm_z h + 3) := by rw [pM, s84 1 (by decide), s74 1 (by decide), s64 1 (by decide), s54 1 (by decide), s44 1 (by decide), s34 1 (by decide), s25]
  have p2 : mm_P M (mm_z h) 2 = some (mm_z h + 5) := by rw [pM, s84 2 (by decide), s74 2 (by decide), s64 2 (by decide), s54 2 (by decide), s44 2 (by decide), s35]
  have p3 : mm_P M (mm_z h) 3 = some (mm_z h + 6) := by rw [pM, s84 3 (by decide), s74 3 (by decide), s64 3 (by decide), s54 3 (by decide), s45]
  have p4 : mm_P M (mm_z h) 4 = some (mm_z h + 32) := by rw [pM, s84 4 (by decide), s74 4 (by decide), s64 4 (by decide), s55]
  have p5 : mm_P M (mm_z h) 5 = some (mm_z h + 34) := by rw [pM, s84 5 (by decide), s74 5 (by decide), s65]
  have p6 : mm_P M (mm_z h) 6 = some (mm_z h + 76) := by rw [pM, s84 6 (by decide), s75]
  have p7 : mm_P M (mm_z h) 7 = some (mm_z h + 80) := by rw [pM, s85]
  clear s11 s12 s13 s14 s15 s16 s21 s22 s23 s24 s25 s26 s31 s32 s33 s34 s35 s36 s41 s42 s43 s44 s45 s46 s51 s52 s53 s54 s55 s56 s61 s62 s63 s64 s65 s66 s71 s72 s73 s74 s75 s76 s81 s82 s83 s84 s85 s86 x1 x2 x3 x4 x5 x6 x7 x8 G1 G2 G3 G4 G5 G6 G7 G8 pM
  refine ⟨kM, ?_⟩
  intro h74 e74 a75 e75
  rw [zM] at e75
  subst e74 e75
  have kN : mm_k (mm_nw M 8 0) (mm_z h + 90) = kd_Node := by rw [i_kn, zM, if_pos rfl]
  have gN : ge 0 ≤ mm_z h + 90 := by omega
  unfold wq_Node_init wq_Node_init_0
  refine ⟨kN, gN, fun n1 d1 => ⟨by rw [d1]; exact kN, gN, fun n2 d2 => ⟨by rw [d2, d1]; exact kN, gN, fun n3 d3 => ⟨by rw [d3, d2, d1]; exact kN, gN, fun n4 d4 => ⟨by rw [d4, d3, d2, d1]; exact kN, gN, fun n5 d5 => ⟨by rw [d5, d4, d3, d2, d1]; exact kN, gN, fun n6 d6 => ⟨by rw [d6, d5, d4, d3, d2, d1]; exact kN, gN, fun n7 d7 => ?_⟩⟩⟩⟩⟩⟩⟩
  have eN : n7 = nin (mm_nw M 8 0) (mm_z h + 90) 0 0 (some (ge 1)) (-2147483137) 0 0 (some (ge 2)) := by rw [d7, d6, d5, d4, d3, d2, d1]; rfl
  clear d1 d2 d3 d4 d5 d6 d7
  have kn7 : ∀ b, b < mm_z h + 90 → mm_k n7 b = mm_k M b ∧ mm_n n7 b = mm_n M b ∧ ∀ j, mm_P n7 b j = mm_P M b j := fun b hb => by
    have x := nin_ext (ext_nw M 8 0) (a := mm_z h + 90) (by omega) 0 0 (some (ge 1)) (-2147483137) 0 0 (some (ge 2))
    rw [← eN] at x
    obtain ⟨y1, y2, _, _, y5⟩ := x.2 b (by omega)
    exact ⟨y1, y2, y5⟩
  have i0 : mm_I n7 (mm_z h + 90) 0 = 0 := by rw [eN]; unfold nin; simp [i_II, i_IP]
  have kn9 : mm_k n7 (mm_z h + 90) = kd_Node := by rw [eN]; exact kN
  have kT : mm_k n7 (mm_z h + 32) = kd_Tree := (kn7 _ (by omega)).1.trans ((V5.2.1 _ (by omega)).1.trans b51)
  refine ⟨mm_z h + 32, p4, kT, ?_⟩
  unfold wq_Tree_put wq_Tree_put_0 wq_Tree_put_26
  refine ⟨mm_z h + 90, rfl, kn9, ?_⟩
  rw [i0]
  refine ⟨fun q => absurd q (by decide), fun _ => ⟨fun q => absurd q (by decide), fun _ => ⟨kT, mm_z h + 33, ?_, ?_, ?_, by omega, fun b11 hb => by cases hb; exact kn9, fun h12 e12 => ?_⟩⟩⟩
  · exact ((kn7 _ (by omega)).2.2 0).trans (((V5.2.2 _ (by omega) (by omega)).2.2 0).trans b52)
  · exact (kn7 _ (by omega)).1.trans ((V5.2.1 _ (by omega)).1.trans b53)
  · rw [(kn7 _ (by omega)).2.1, (V5.2.1 (mm_z h + 33) (by omega)).2]
    have : mm_n m5 (mm_z h + 33) = 60 := b54
    rw [this]; exact vp_in_nI (show 0 < 60 by decide) (by decide)
  have eh : h12 = mm_uP (nin (mm_nw M 8 0) (mm_z h + 90) 0 0 (some (ge 1)) (-2147483137) 0 0 (some (ge 2))) (mm_z h + 33) 0 (some (mm_z h + 90)) := by rw [e12, eN]; rfl
  refine hZ M h12 hM zM eh (fun m' y pp zz => ?_) ⟨fun j => ⟨?_, ?_, ?_⟩, fun i hi => ?_, ⟨?_, ?_⟩, ?_, fun j => ?_, ?_, fun j => ?_, fun j => ?_⟩ iM
  · have W8 := exy_tr (exy_z V8) y
    have W7 := exy_tr (exy_z V7) y
    have W6 := exy_tr (exy_z V6) y
    have W5 := exy_tr (exy_z V5) y
    have W4 := exy_tr (exy_z V4) y
    have W3 := exy_tr (exy_z V3) y
    have W2 := exy_tr (exy_z V2) y
    have W1 := exy_tr (exy_z V1) y
    refine ⟨(y.2.1 _ (by omega)).1.trans kM, ⟨(pp 0).trans p0, (pp 1).trans p1, (pp 2).trans p2, (pp 3).trans p3, (pp 4).trans p4, (pp 5).trans p5, (pp 6).trans p6, (pp 7).trans p7⟩, ?_, ?_, ?_, ?_, ?_, fun i hi => ?_, ?_, ?_, fun i hi => ?_, ?_, ?_, ?_, ?_, ?_, zz⟩
    · exact ⟨(W1.2.1 _ (by omega)).1.trans b11, ((W1.2.2 _ (by omega) (by omega) (by omega)).2 0).trans b12, (W1.2.1 _ (by omega)).1.trans b13, (W1.2.1 _ (by omega)).2.trans b14⟩
    · exact ⟨(W2.2.1 _ (by omega)).1.trans b21, ((W2.2.2 _ (by omega) (by omega) (by omega)).2 0).trans b22, (W2.2.1 _ (by omega)).1.trans b23, (W2.2.1 _ (by omega)).2.trans b24⟩
    · exact ⟨(W8.2.1 _ (by omega)).1.trans b84.1, ((W8.2.2 _ (by omega) (by omega) (by omega)).2 0).trans b84.2.1, (W8.2.1 _ (by omega)).1.trans b84.2.2.1, (W8.2.1 _ (by omega)).2.trans b84.2.2.2⟩
    · exact ⟨(W3.2.1 _ (by omega)).1.trans b31, ((W3.2.2 _ (by omega) (by omega) (by omega)).2 0).trans b32⟩
    · exact ⟨(W4.2.1 _ (by omega)).1.trans b41.1, ((W4.2.2 _ (by omega) (by omega) (by omega)).2 0).trans b41.2.1, (W4.2.1 _ (by omega)).1.trans b41.2.2.1, (W4.2.1 _ (by omega)).2.trans b41.2.2.2⟩
    · obtain ⟨c1, c2, c3⟩ := b42 i hi
      rw [show mm_z h + 1 + 2 + 2 + 1 + (2 + i) = mm_z h + (8 + i) by omega] at c1 c2 c3
      exact ⟨((W4.2.2 (mm_z h + 7) (by omega) (by omega) (by omega)).2 i).trans c1, (W4.2.1 _ (by omega)).1.trans c2⟩
    · exact ⟨(W5.2.1 _ (by omega)).1.trans b51, ((W5.2.2 _ (by omega) (by omega) (by omega)).2 0).trans b52, (W5.2.1 _ (by omega)).1.trans b53, (W5.2.1 _ (by omega)).2.trans b54⟩
    · exact ⟨(W6.2.1 _ (by omega)).1.trans b61.1, ((W6.2.2 _ (by omega) (by omega) (by omega)).2 0).trans b61.2.1, (W6.2.1 _ (by omega)).1.trans b61.2.2.1, (W6.2.1 _ (by omega)).2.trans b61.2.2.2⟩
    · obtain ⟨c1, c2, c3, c4_, c5⟩ := b63 i hi
      rw [show mm_z h + 1 + 2 + 2 + 1 + 26 + 2 + (2 + 2 * i) = mm_z h + (36 + 2 * i) by omega] at c1 c2 c3
      rw [show mm_z h + 1 + 2 + 2 + 1 + 26 + 2 + (2 + 2 * i + 1) = mm_z h + (36 + 2 * i + 1) by omega] at c3 c4_ c5
      exact ⟨((W6.2.2 (mm_z h + 35) (by omega) (by omega) (by omega)).2 i).trans c1, (W6.2.1 _ (by omega)).1.trans c2, ((W6.2.2 _ (by omega) (by omega) (by omega)).2 0).trans c3, (W6.2.1 _ (by omega)).1.trans c4_, (W6.2.1 _ (by omega)).2.trans c5⟩
    · obtain ⟨c1, c2, c3, c4_, c5, c6, c7, c8, c9, c10⟩ := b71
      exact ⟨(W7.2.1 _ (by omega)).1.trans c1, ((W7.2.2 _ (by omega) (by omega) (by omega)).2 0).trans c2, ((W7.2.2 _ (by omega) (by omega) (by omega)).2 1).trans c3, ((W7.2.2 _ (by omega) (by omega) (by omega)).2 2).trans c4_, (W7.2.1 _ (by omega)).1.trans c5, (W7.2.1 _ (by omega)).2.trans c6, (W7.2.1 _ (by omega)).1.trans c7, (W7.2.1 _ (by omega)).2.trans c8, (W7.2.1 _ (by omega)).1.trans c9, (W7.2.1 _ (by omega)).2.trans c10⟩
    · obtain ⟨c1, c2, c3, c4_, c5, c6⟩ := b81
      exact ⟨(W8.2.1 _ (by omega)).1.trans c1, ((W8.2.2 _ (by omega) (by omega) (by omega)).2 0).trans c2, ((W8.2.2 _ (by omega) (by omega) (by omega)).2 1).trans c3, ((W8.2.2 _ (by omega) (by omega) (by omega)).2 2).trans c4_, ((W8.2.2 _ (by omega) (by omega) (by omega)).2 3).trans c5, ((W8.2.2 _ (by omega) (by omega) (by omega)).2 4).trans c6⟩
    · exact ⟨(W8.2.1 _ (by omega)).1.trans b82.1, ((W8.2.2 _ (by omega) (by omega) (by omega)).2 2).trans b82.2.1, (W8.2.1 _ (by omega)).1.trans b82.2.2.1, (W8.2.1 _ (by omega)).2.trans b82.2.2.2⟩
    · obtain ⟨c1, c2, c3, c4_, c5, c6, c7⟩ := b83
      exact ⟨(W8.2.1 _ (by omega)).1.trans c1, ((W8.2.2 _ (by omega) (by omega) (by omega)).2 0).trans c2, ((W8.2.2 _ (by omega) (by omega) (by omega)).2 1).trans c3, (W8.2.1 _ (by omega)).1.trans c4_, (W8.2.1 _ (by omega)).2.trans c5, (W8.2.1 _ (by omega)).1.trans c6, (W8.2.1 _ (by omega)).2.trans c7⟩
    · exact ⟨(W8.2.1 _ (by omega)).1.trans b85.1, (W8.2.1 _ (by omega)).2.trans b85.2.1, (W8.2.1 _ (by omega)).1.trans b85.2.2.1, (W8.2.1 _ (by omega)).2.trans b85.2.2.2⟩
  · exact ((V1.2.2 _ (by omega) (by omega)).1 j).trans (b16 j)
  · exact ((V1.2.2 _ (by omega) (by omega)).1 1).trans (b15 1)
  · exact ((V2.2.2 _ (by omega) (by omega)).1 1).trans (b25 1)
  · obtain ⟨c1, c2, c3⟩ := b42 i hi
    rw [show mm_z h + 1 + 2 + 2 + 1 + (2 + i) = mm_z h + (8 + i) by omega] at c3
    exact ((V4.2.2 _ (by omega) (by omega)).1 0).trans c3
  · exact ((V6.2.2 _ (by omega) (by omega)).1 1).trans b62.1
  · exact ((V6.2.2 _ (by omega) (by omega)).1 2).trans b62.2
  · exact ((V7.2.2 _ (by omega) (by omega)).1 3).trans b72
  · exact ((V7.2.2 _ (by omega) (by omega)).1 j).trans (b73 j)
  · exact ((V8.2.2 _ (by omega) (by omega)).1 6).trans b86
  · exact ((V8.2.2 _ (by omega) (by omega)).1 j).trans (b87 j)
  · exact ((V5.2.2 _ (by omega) (by omega)).2.2 j).trans (b56 j)
end SI
