/-! THE REFERENCE's making -/
def iPl (o : Nat) : Nat := ([0, 1, 2, 3, 4, 5, 6, 7, 8, 14, 15, 21, 22, 23, 24, 25, 26, 45, 46, 47, 54, 55, 56, 57, 58, 65] : List Nat).getD o 0
def iKd (o : Nat) : Nat := ([102, 100, 100, 100, 100, 100, 100, 100, 100, 100, 100, 100, 100, 100, 100, 100, 100, 100, 100, 102, 100, 100, 100, 100, 100, 100] : List Nat).getD o 0
def iLn (o : Nat) : Nat := ([1680, 1680, 1680, 1680, 1680, 1680, 1680, 33600, 860160, 1400, 1500, 24, 24, 24, 24, 24, 24, 1400, 1400, 2, 3000, 6080, 80, 5, 300, 40] : List Nat).getD o 0
theorem iKd_in : ∀ n, n < 26 → iKd n = 100 ∨ iKd n = 102 := by decide
theorem iPl_in : ∀ n, n < 26 → ∀ o, o < n → ¬ iPl o = iPl n := by decide
/-- n arrays of the reference at am are made; below am all is as it was -/
def mi (am : Nat) (h0 : mm_M) (n : Nat) (pp : Int32) (m : mm_M) : Prop :=
  mm_k m am = kd_Model ∧ mm_z m = am + 1 + n ∧ (∀ o, o < n → mm_P m am (iPl o) = some (am + 1 + o) ∧ mm_k m (am + 1 + o) = iKd o ∧ mm_n m (am + 1 + o) = iLn o ∧ ∀ j, mm_I m (am + 1 + o) j = 0) ∧
  (∀ j, mm_I m am j = if j = 9 then pp else 0) ∧ ∀ b, b < am → mm_k m b = mm_k h0 b ∧ mm_n m b = mm_n h0 b ∧ (∀ j, mm_I m b j = mm_I h0 b j) ∧ (∀ j, mm_L m b j = mm_L h0 b j) ∧ ∀ j, mm_P m b j = mm_P h0 b j
theorem mi_st {am : Nat} {h0 m : mm_M} {n : Nat} {pp : Int32} (hn : n < 26) (H : mi am h0 n pp m) : mm_k (mm_nw m (iKd n) (iLn n)) am = kd_Model ∧ mi am h0 (n + 1) pp (mm_uP (mm_nw m (iKd n) (iLn n)) am (iPl n) (some (mm_z m))) := by
  obtain ⟨a, z, b, c, d⟩ := H
  have x := ext_nw m (iKd n) (iLn n)
  obtain ⟨x1, x2, x3, x4, x5⟩ := x.2 am (by omega)
  refine ⟨x1.trans a, x1.trans a, ?_, fun o ho => ?_, fun j => (x3 j).trans (c j), fun q hq => ?_⟩
  · show mm_z m + 1 = _; omega
  · by_cases e : o = n
    · subst e
      rw [← z]
      refine ⟨mm_up_eq, ?_, ?_, fun j => ?_⟩
      · show mm_k (mm_nw m (iKd o) (iLn o)) _ = _
        rw [mm_nw_k, if_pos rfl]
      · show mm_n (mm_nw m (iKd o) (iLn o)) _ = _
        rw [mm_nw_n, if_pos rfl]
      · show mm_cl _ _ _ _ j = _
        unfold mm_cl
        rw [if_pos rfl]
    · have ho' : o < n := by omega
      obtain ⟨y1, y2, y3, y4, y5⟩ := x.2 (am + 1 + o) (by omega)
      obtain ⟨b1, b2, b3, b4⟩ := b o ho'
      exact ⟨(mm_up_ne (Or.inr (iPl_in n hn o ho'))).trans ((x5 _).trans b1), y1.trans b2, y2.trans b3, fun j => (y3 j).trans (b4 j)⟩
  · obtain ⟨y1, y2, y3, y4, y5⟩ := x.2 q (by omega)
    obtain ⟨d1, d2, d3, d4, d5⟩ := d q hq
    exact ⟨y1.trans d1, y2.trans d2, fun j => (y3 j).trans (d3 j), fun j => (y4 j).trans (d4 j), fun j => (mm_up_ne (Or.inl (by omega))).trans ((y5 j).trans (d5 j))⟩
theorem mi_pp {am : Nat} {h0 m : mm_M} {n : Nat} {pp : Int32} (x : Int32) (H : mi am h0 n pp m) : mi am h0 n x (mm_uI m am 9 x) := by
  obtain ⟨a, z, b, c, d⟩ := H
  refine ⟨a, z, fun o ho => ?_, fun j => ?_, fun q hq => ?_⟩
  · obtain ⟨b1, b2, b3, b4⟩ := b o ho
    exact ⟨b1, b2, b3, fun j => (mm_up_ne (Or.inl (by omega))).trans (b4 j)⟩
  · by_cases e : j = 9
    · rw [e, if_pos rfl]; exact mm_up_eq
    · rw [if_neg e]; exact (mm_up_ne (Or.inr e)).trans ((c j).trans (if_neg e))
  · obtain ⟨d1, d2, d3, d4, d5⟩ := d q hq
    exact ⟨d1, d2, fun j => (mm_up_ne (Or.inl (by omega))).trans (d3 j), d4, d5⟩
theorem mi_RM {am : Nat} {h0 m : mm_M} {pp : Int32} (H : mi am h0 26 pp m) : RM am m := by
  obtain ⟨a, z, b, c, d⟩ := H
  refine ⟨a, ⟨(b 0 (by decide)).1, (b 0 (by decide)).2.1, (b 0 (by decide)).2.2.1⟩, ⟨(b 1 (by decide)).1, (b 1 (by decide)).2.1, (b 1 (by decide)).2.2.1⟩, ⟨(b 2 (by decide)).1, (b 2 (by decide)).2.1, (b 2 (by decide)).2.2.1⟩, ⟨(b 3 (by decide)).1, (b 3 (by decide)).2.1, (b 3 (by decide)).2.2.1⟩, ⟨(b 4 (by decide)).1, (b 4 (by decide)).2.1, (b 4 (by decide)).2.2.1⟩, ⟨(b 5 (by decide)).1, (b 5 (by decide)).2.1, (b 5 (by decide)).2.2.1⟩, ⟨(b 6 (by decide)).1, (b 6 (by decide)).2.1, (b 6 (by decide)).2.2.1⟩, ⟨(b 7 (by decide)).1, (b 7 (by decide)).2.1, (b 7 (by decide)).2.2.1⟩, ⟨(b 8 (by decide)).1, (b 8 (by decide)).2.1, (b 8 (by decide)).2.2.1⟩, ⟨(b 9 (by decide)).1, (b 9 (by decide)).2.1, (b 9 (by decide)).2.2.1⟩, ⟨(b 10 (by decide)).1, (b 10 (by decide)).2.1, (b 10 (by decide)).2.2.1⟩, ⟨(b 11 (by decide)).1, (b 11 (by decide)).2.1, (b 11 (by decide)).2.2.1⟩, ⟨(b 12 (by decide)).1, (b 12 (by decide)).2.1, (b 12 (by decide)).2.2.1⟩, ⟨(b 13 (by decide)).1, (b 13 (by decide)).2.1, (b 13 (by decide)).2.2.1⟩, ⟨(b 14 (by decide)).1, (b 14 (by decide)).2.1, (b 14 (by decide)).2.2.1⟩, ⟨(b 15 (by decide)).1, (b 15 (by decide)).2.1, (b 15 (by decide)).2.2.1⟩, ⟨(b 16 (by decide)).1, (b 16 (by decide)).2.1, (b 16 (by decide)).2.2.1⟩, ⟨(b 17 (by decide)).1, (b 17 (by decide)).2.1, (b 17 (by decide)).2.2.1⟩, ⟨(b 18 (by decide)).1, (b 18 (by decide)).2.1, (b 18 (by decide)).2.2.1⟩, ⟨(b 19 (by decide)).1, (b 19 (by decide)).2.1, (b 19 (by decide)).2.2.1⟩, ⟨(b 20 (by decide)).1, (b 20 (by decide)).2.1, (b 20 (by decide)).2.2.1⟩, ⟨(b 21 (by decide)).1, (b 21 (by decide)).2.1, (b 21 (by decide)).2.2.1⟩, ⟨(b 22 (by decide)).1, (b 22 (by decide)).2.1, (b 22 (by decide)).2.2.1⟩, ⟨(b 23 (by decide)).1, (b 23 (by decide)).2.1, (b 23 (by decide)).2.2.1⟩, ⟨(b 24 (by decide)).1, (b 24 (by decide)).2.1, (b 24 (by decide)).2.2.1⟩, ⟨(b 25 (by decide)).1, (b 25 (by decide)).2.1, (b 25 (by decide)).2.2.1⟩⟩
noncomputable def T0 : sT := fun p => if p = 0 then some (0, [47], -2147483137, 0, 0, []) else none
noncomputable def X0 : sX := (([], []), (T0, [], []), ((fun _ => none), 0, 1, 0, 0), (0, 0), ([], 0))
theorem T0_ok : okF (0, [47], -2147483137, 0, 0, []) := ⟨by decide, by decide, by decide, fun x hx => by
  rw [List.mem_singleton.mp hx]; show (47 : Int32) &&& 255 = 47; decide, fun x hx => (by cases hx), fun _ => rfl⟩
theorem mi_RX {ge : Nat → Nat} {am : Nat} {h0 m m' : mm_M} (hge : ge 0 ≤ am) (hK : RK ge h0) (H : mi am h0 26 1 m) (e : m' = mm_uI (mm_uI (mm_uI (mm_uI m (am + 1) 0 1) (am + 3) 0 (-2147483137)) (am + 7) 0 1) (am + 8) 0 47) : RX ge am (r_vw am m') m' X0 := by
  obtain ⟨a, z, b, c, d⟩ := id H
  have ek : mm_k m' = mm_k m := by rw [e]; rfl
  have en : mm_n m' = mm_n m := by rw [e]; rfl
  have eP : mm_P m' = mm_P m := by rw [e]; rfl
  have eI : ∀ q j, (¬ q = am + 1 ∧ ¬ q = am + 3 ∧ ¬ q = am + 7 ∧ ¬ q = am + 8) ∨ ¬ j = 0 → mm_I m' q j = mm_I m q j := fun q j hq => by
    rw [e]
    exact (mm_up_ne (by omega)).trans ((mm_up_ne (by omega)).trans ((mm_up_ne (by omega)).trans (mm_up_ne (by omega))))
  have i1 : mm_I m' (am + 1) 0 = 1 := by rw [e]; exact (mm_up_ne (by omega)).trans ((mm_up_ne (by omega)).trans ((mm_up_ne (by omega)).trans mm_up_eq))
  have i3 : mm_I m' (am + 3) 0 = -2147483137 := by rw [e]; exact (mm_up_ne (by omega)).trans ((mm_up_ne (by omega)).trans mm_up_eq)
  have i7 : mm_I m' (am + 7) 0 = 1 := by rw [e]; exact (mm_up_ne (by omega)).trans mm_up_eq
  have i8 : mm_I m' (am + 8) 0 = 47 := by rw [e]; exact mm_up_eq
  have hM : RM am m' := by
    have q := mi_RM H
    unfold RM at q ⊢
    rw [ek, en, eP]; exact q
  have f : ∀ j, (r_vw am m').1 j = if j = 9 then 1 else 0 := fun j => (eI am j (Or.inl ⟨by omega, by omega, by omega, by omega⟩)).trans (c j)
  have v : ∀ o j, 1 ≤ o → o ≤ 26 → ((¬ o = 1 ∧ ¬ o = 3 ∧ ¬ o = 7 ∧ ¬ o = 8) ∨ ¬ j = 0) → (r_vw am m').2.2 o j = 0 := fun o j h1 h2 h3 => by
    show mm_I m' (am + o) j = 0
    rw [eI (am + o) j (by omega), show am + o = am + 1 + (o - 1) by omega]
    exact (b (o - 1) (by omega)).2.2.2 j
  have hK' : RK ge m' := by
    have q : ∀ C W, RK1 ge h0 C W → RK1 ge m' C W := fun C W hq => by
      obtain ⟨q1, q2, q3, q4⟩ := hq
      obtain ⟨d1, d2, d3, _, _⟩ := d (ge C) (by omega)
      exact ⟨by rw [ek, d1]; exact q1, by rw [en, d2]; exact q2, q3, fun i hi => by rw [eI _ _ (Or.inl ⟨by omega, by omega, by omega, by omega⟩), d3]; exact q4 i hi⟩
    exact ⟨q _ _ hK.1, q _ _ hK.2⟩
  refine ⟨hM, hge, hK', ⟨⟨fun k hk => absurd hk (Nat.not_lt_zero k), allB_nil, by decide⟩, ⟨⟨f 17, fun j x hj => by simp at hj⟩, by decide⟩, ⟨fun p hp => ?_, fun p hp => if_neg (by omega)⟩, ⟨by decide, f 11, fun i T hi => by simp at hi⟩, ⟨by decide, f 13, 0, by decide, f 12, fun i T hi => by simp at hi⟩, ⟨⟨by decide, f 27⟩, fun i hi => absurd hi (Nat.not_lt_zero i), fun x d hd => (by cases hd), fun i j hi => absurd hi (Nat.not_lt_zero i)⟩, ⟨f 9, f 10, f 20⟩, rrs_rf _⟩, f 16, ⟨f 18, f 19⟩, by decide, f 59, f 60, fun k q hk => by simp at hk⟩
  by_cases e0 : p = 0
  · subst e0
    refine Or.inr ⟨_, rfl, i1, T0_ok, v 2 _ (by omega) (by omega) (by omega), i3, v 4 _ (by omega) (by omega) (by omega), v 5 _ (by omega) (by omega) (by omega), ⟨i7, fun k hk => ?_⟩, v 6 _ (by omega) (by omega) (by omega), fun k hk => absurd hk (Nat.not_lt_zero k)⟩
    have : k = 0 := by simp [f_nm] at hk; exact hk
    subst this
    exact i8
  · exact Or.inl ⟨if_neg e0, v 1 _ (by omega) (by omega) (by omega)⟩
theorem rx_init {ge : Nat → Nat} {am : Nat} {h0 h : mm_M} {Z : mm_M → Prop} (hge : ge 0 ≤ am) (hK : RK ge h0) (z0 : mm_z h0 = am) (eh : h = mm_nw h0 1 0) (hZ : ∀ m', ext h0 m' → mm_z m' = am + 27 → (∀ o, 1 ≤ o → o < 27 → mm_k m' (am + o) = 100 ∨ mm_k m' (am + o) = 102) → RX ge am (r_vw am m') m' X0 → Z m') : wq_Model_init ge am h Z := by
  have H0 : mi am h0 0 0 h := by
    rw [eh]
    refine ⟨by rw [mm_nw_k, z0, if_pos rfl], ?_, fun o ho => absurd ho (Nat.not_lt_zero o), fun j => ?_, fun b hb => (ext_nw h0 _ _).2 b (by omega)⟩
    · show mm_z h0 + 1 = _; omega
    · show mm_cl _ _ _ _ j = _
      unfold mm_cl
      rw [z0, if_pos rfl]
      split <;> rfl
  clear eh
  unfold wq_Model_init wq_Model_init_0
  have s := mi_st (by decide) H0
  intro n0 d0 a0 f0
  refine ⟨by rw [d0]; exact s.1, hge, ?_⟩
  intro g0 e0
  have H1 : mi am h0 1 0 g0 := by rw [e0, f0, d0]; exact s.2
  clear s d0 e0 f0 H0 n0
  have s := mi_st (by decide) H1
  intro n1 d1 a1 f1
  refine ⟨by rw [d1]; exact s.1, hge, ?_⟩
  intro g1 e1
  have H2 : mi am h0 2 0 g1 := by rw [e1, f1, d1]; exact s.2
  clear s d1 e1 f1 H1 n1
  have s := mi_st (by decide) H2
  intro n2 d2 a2 f2
  refine ⟨by rw [d2]; exact s.1, hge, ?_⟩
  intro g2 e2
  have H3 : mi am h0 3 0 g2 := by rw [e2, f2, d2]; exact s.2
  clear s d2 e2 f2 H2 n2
  have s := mi_st (by decide) H3
  intro n3 d3 a3 f3
  refine ⟨by rw [d3]; exact s.1, hge, ?_⟩
  intro g3 e3
  have H4 : mi am h0 4 0 g3 := by rw [e3, f3, d3]; exact s.2
  clear s d3 e3 f3 H3 n3
  have s := mi_st (by decide) H4
  intro n4 d4 a4 f4
  refine ⟨by rw [d4]; exact s.1, hge, ?_⟩
  intro g4 e4
  have H5 : mi am h0 5 0 g4 := by rw [e4, f4, d4]; exact s.2
  clear s d4 e4 f4 H4 n4
  have s := mi_st (by decide) H5
  intro n5 d5 a5 f5
  refine ⟨by rw [d5]; exact s.1, hge, ?_⟩
  intro g5 e5
  have H6 : mi am h0 6 0 g5 := by rw [e5, f5, d5]; exact s.2
  clear s d5 e5 f5 H5 n5
  have s := mi_st (by decide) H6
  intro n6 d6 a6 f6
  refine ⟨by rw [d6]; exact s.1, hge, ?_⟩
  intro g6 e6
  have H7 : mi am h0 7 0 g6 := by rw [e6, f6, d6]; exact s.2
  clear s d6 e6 f6 H6 n6
  have s := mi_st (by decide) H7
  intro n7 d7 a7 f7
  refine ⟨by rw [d7]; exact s.1, hge, ?_⟩
  intro g7 e7
  have H8 : mi am h0 8 0 g7 := by rw [e7, f7, d7]; exact s.2
  clear s d7 e7 f7 H7 n7
  have s := mi_st (by decide) H8
  intro n8 d8 a8 f8
  refine ⟨by rw [d8]; exact s.1, hge, ?_⟩
  intro g8 e8
  have H9 : mi am h0 9 0 g8 := by rw [e8, f8, d8]; exact s.2
  clear s d8 e8 f8 H8 n8
  refine ⟨H9.1, hge, ?_⟩
  intro gp ep
  have Hp : mi am h0 9 1 gp := by rw [ep]; exact mi_pp 1 H9
  clear H9 ep
  have s := mi_st (by decide) Hp
  intro n9 d9 a9 f9
  refine ⟨by rw [d9]; exact s.1, hge, ?_⟩
  intro g9 e9
  have H10 : mi am h0 10 1 g9 := by rw [e9, f9, d9]; exact s.2
  clear s d9 e9 f9 Hp n9
  have s := mi_st (by decide) H10
  intro n10 d10 a10 f10
  refine ⟨by rw [d10]; exact s.1, hge, ?_⟩
  intro g10 e10
  have H11 : mi am h0 11 1 g10 := by rw [e10, f10, d10]; exact s.2
  clear s d10 e10 f10 H10 n10
  have s := mi_st (by decide) H11
  intro n11 d11 a11 f11
  refine ⟨by rw [d11]; exact s.1, hge, ?_⟩
  intro g11 e11
  have H12 : mi am h0 12 1 g11 := by rw [e11, f11, d11]; exact s.2
  clear s d11 e11 f11 H11 n11
  have s := mi_st (by decide) H12
  intro n12 d12 a12 f12
  refine ⟨by rw [d12]; exact s.1, hge, ?_⟩
  intro g12 e12
  have H13 : mi am h0 13 1 g12 := by rw [e12, f12, d12]; exact s.2
  clear s d12 e12 f12 H12 n12
  have s := mi_st (by decide) H13
  intro n13 d13 a13 f13
  refine ⟨by rw [d13]; exact s.1, hge, ?_⟩
  intro g13 e13
  have H14 : mi am h0 14 1 g13 := by rw [e13, f13, d13]; exact s.2
  clear s d13 e13 f13 H13 n13
  have s := mi_st (by decide) H14
  intro n14 d14 a14 f14
  refine ⟨by rw [d14]; exact s.1, hge, ?_⟩
  intro g14 e14
  have H15 : mi am h0 15 1 g14 := by rw [e14, f14, d14]; exact s.2
  clear s d14 e14 f14 H14 n14
  have s := mi_st (by decide) H15
  intro n15 d15 a15 f15
  refine ⟨by rw [d15]; exact s.1, hge, ?_⟩
  intro g15 e15
  have H16 : mi am h0 16 1 g15 := by rw [e15, f15, d15]; exact s.2
  clear s d15 e15 f15 H15 n15
  have s := mi_st (by decide) H16
  intro n16 d16 a16 f16
  refine ⟨by rw [d16]; exact s.1, hge, ?_⟩
  intro g16 e16
  have H17 : mi am h0 17 1 g16 := by rw [e16, f16, d16]; exact s.2
  clear s d16 e16 f16 H16 n16
  have s := mi_st (by decide) H17
  intro n17 d17 a17 f17
  refine ⟨by rw [d17]; exact s.1, hge, ?_⟩
  intro g17 e17
  have H18 : mi am h0 18 1 g17 := by rw [e17, f17, d17]; exact s.2
  clear s d17 e17 f17 H17 n17
  have s := mi_st (by decide) H18
  intro n18 d18 a18 f18
  refine ⟨by rw [d18]; exact s.1, hge, ?_⟩
  intro g18 e18
  have H19 : mi am h0 19 1 g18 := by rw [e18, f18, d18]; exact s.2
  clear s d18 e18 f18 H18 n18
  have s := mi_st (by decide) H19
  intro n19 d19 a19 f19
  refine ⟨by rw [d19]; exact s.1, hge, ?_⟩
  intro g19 e19
  have H20 : mi am h0 20 1 g19 := by rw [e19, f19, d19]; exact s.2
  clear s d19 e19 f19 H19 n19
  have s := mi_st (by decide) H20
  intro n20 d20 a20 f20
  refine ⟨by rw [d20]; exact s.1, hge, ?_⟩
  intro g20 e20
  have H21 : mi am h0 21 1 g20 := by rw [e20, f20, d20]; exact s.2
  clear s d20 e20 f20 H20 n20
  have s := mi_st (by decide) H21
  intro n21 d21 a21 f21
  refine ⟨by rw [d21]; exact s.1, hge, ?_⟩
  intro g21 e21
  have H22 : mi am h0 22 1 g21 := by rw [e21, f21, d21]; exact s.2
  clear s d21 e21 f21 H21 n21
  have s := mi_st (by decide) H22
  intro n22 d22 a22 f22
  refine ⟨by rw [d22]; exact s.1, hge, ?_⟩
  intro g22 e22
  have H23 : mi am h0 23 1 g22 := by rw [e22, f22, d22]; exact s.2
  clear s d22 e22 f22 H22 n22
  have s := mi_st (by decide) H23
  intro n23 d23 a23 f23
  refine ⟨by rw [d23]; exact s.1, hge, ?_⟩
  intro g23 e23
  have H24 : mi am h0 24 1 g23 := by rw [e23, f23, d23]; exact s.2
  clear s d23 e23 f23 H23 n23
  have s := mi_st (by decide) H24
  intro n24 d24 a24 f24
  refine ⟨by rw [d24]; exact s.1, hge, ?_⟩
  intro g24 e24
  have H25 : mi am h0 25 1 g24 := by rw [e24, f24, d24]; exact s.2
  clear s d24 e24 f24 H24 n24
  have s := mi_st (by decide) H25
  intro n25 d25 a25 f25
  refine ⟨by rw [d25]; exact s.1, hge, ?_⟩
  intro g25 e25
  have H26 : mi am h0 26 1 g25 := by rw [e25, f25, d25]; exact s.2
  clear s d25 e25 f25 H25 n25
  obtain ⟨a, z, b, c, d⟩ := id H26
  refine ⟨a, am + 1, (b 0 (by decide)).1, (b 0 (by decide)).2.1, by rw [show mm_n g25 (am + 1) = 1680 from (b 0 (by decide)).2.2.1]; exact vp_in_nI (show 0 < 1680 by decide) (by decide), by omega, ?_⟩
  intro k1 x1
  refine ⟨by rw [x1]; exact a, am + 3, by rw [x1]; exact (b 2 (by decide)).1, by rw [x1]; exact (b 2 (by decide)).2.1, by rw [x1, show mm_n (mm_uI g25 (am + 1) _ _) (am + 3) = 1680 from (b 2 (by decide)).2.2.1]; exact vp_in_nI (show 0 < 1680 by decide) (by decide), by omega, ?_⟩
  intro k2 x2
  refine ⟨by rw [x2, x1]; exact a, am + 7, by rw [x2, x1]; exact (b 6 (by decide)).1, by rw [x2, x1]; exact (b 6 (by decide)).2.1, by rw [x2, x1, show mm_n (mm_uI (mm_uI g25 (am + 1) _ _) _ _ _) (am + 7) = 1680 from (b 6 (by decide)).2.2.1]; exact vp_in_nI (show 0 < 1680 by decide) (by decide), by omega, ?_⟩
  intro k3 x3
  refine ⟨by rw [x3, x2, x1]; exact a, am + 8, by rw [x3, x2, x1]; exact (b 7 (by decide)).1, by rw [x3, x2, x1]; exact (b 7 (by decide)).2.1, by rw [x3, x2, x1, show mm_n (mm_uI (mm_uI (mm_uI g25 (am + 1) _ _) _ _ _) _ _ _) (am + 8) = 33600 from (b 7 (by decide)).2.2.1]; exact vp_in_nI (show 0 < 33600 by decide) (by decide), by omega, ?_⟩
  intro k4 x4
  have e : k4 = mm_uI (mm_uI (mm_uI (mm_uI g25 (am + 1) 0 1) (am + 3) 0 (-2147483137)) (am + 7) 0 1) (am + 8) 0 47 := by rw [x4, x3, x2, x1]; rfl
  refine hZ k4 ⟨by rw [z0, e]; show am ≤ mm_z g25; omega, fun q hq => ?_⟩ (by rw [e]; show mm_z g25 = _; omega) (fun o h1 h2 => ?_) (mi_RX hge hK H26 e)
  · obtain ⟨d1, d2, d3, d4, d5⟩ := d q (by omega)
    rw [e]
    exact ⟨d1, d2, fun j => (mm_up_ne (by omega)).trans ((mm_up_ne (by omega)).trans ((mm_up_ne (by omega)).trans ((mm_up_ne (by omega)).trans (d3 j)))), d4, d5⟩
  · have q : mm_k k4 (am + o) = iKd (o - 1) := by
      rw [show am + o = am + 1 + (o - 1) by omega, e]
      exact (b (o - 1) (by omega)).2.1
    rw [q]
    exact iKd_in (o - 1) (by omega)
