/-! BOTH SIDES in one memory -/
theorem T0_wf : wfT T0 1 := by
  refine ⟨by decide, ⟨_, rfl, rfl, by show ¬ (0 : Int32) ≤ -2147483137; decide⟩, fun p f hf => ?_⟩
  by_cases e : p = 0
  · subst e
    cases hf
    exact ⟨by decide, T0_ok, fun z => absurd rfl z⟩
  · unfold T0 at hf
    rw [if_neg e] at hf
    cases hf
theorem X0_Iv : Iv2 T0 [] [] (fun _ => none) 0 1 0 := ⟨⟨T0_wf, fun _ h => (by cases h), fun _ h => (by cases h), fun _ _ h => (by cases h), Or.inl rfl, by decide, by decide⟩, fun _ _ h => (by cases h)⟩
/-- the constants of the class -/
def CKs (ge : Nat → Nat) (h : mm_M) : Prop := (ge 1 < ge 0 ∧ ge 2 < ge 0 ∧ ge 3 < ge 0 ∧ ge 4 < ge 0) ∧ bA h (ge 1) [47] ∧ bA h (ge 2) [] ∧ bA h (ge 3) KNOWN ∧ bA h (ge 4) UNKN
theorem cx_init {ge : Nat → Nat} {ax : Nat} {h : mm_M} {Z : mm_M → Prop} (hz : mm_z h = ax) (hg : ge 0 ≤ ax) (hK : CKs ge h)
    (hZ : ∀ m, ext h m → mm_z m = ax + 91 → (∀ m', ext m m' → ax + 118 ≤ mm_z m' → CX ge ax (c_vw ax m') m' X0) → Z m) : wq_Server_init ge ax (mm_nw h 2 0) Z := by
  refine mk_Srv hz hg Z (fun M m xM zM em hCM hF hI => ?_)
  obtain ⟨⟨l1, l2, l3, l4⟩, b1, b2, b3, b4⟩ := hK
  obtain ⟨N, eN⟩ : ∃ N, N = nin (mm_nw M 8 0) (ax + 90) 0 0 (some (ge 1)) (-2147483137) 0 0 (some (ge 2)) := ⟨_, rfl⟩
  rw [← eN] at em
  have xN : ext M N := by rw [eN]; exact nin_ext (ext_nw M 8 0) (by omega) 0 0 (some (ge 1)) (-2147483137) 0 0 (some (ge 2))
  have zN : mm_z N = ax + 91 := by rw [eN]; show mm_z M + 1 = _; omega
  have zm : mm_z m = ax + 91 := by rw [em]; exact zN
  have xm : ext h m := by rw [em]; exact ext_uP (ext_tr xM xN) (by omega) _ _
  have xg : ext h (mm_nw M 8 0) := ext_tr xM (ext_nw M 8 0)
  have kg : mm_k (mm_nw M 8 0) (ax + 90) = kd_Node := by rw [mm_nw_k, zM, if_pos rfl]
  have zg : mm_z (mm_nw M 8 0) = ax + 91 := by show mm_z M + 1 = _; omega
  have n0 : nd ax N (ax + 90) 0 (0, [47], -2147483137, 0, 0, []) := by
    rw [eN]
    exact nin_nd (g := mm_nw M 8 0) (p := 0) (an := ge 1) (ad := ge 2) (f := (0, [47], -2147483137, 0, 0, [])) T0_ok ⟨Or.inr (Or.inl rfl), by omega⟩ kg ⟨Or.inl (by omega), by omega⟩ ⟨⟨Or.inl (by omega), by omega⟩, fun _ => rfl⟩ (by omega) (by omega) (bA_ext xg (by omega) b1) (bA_ext xg (by omega) b2)
  have n1 : nd ax m (ax + 90) 0 (0, [47], -2147483137, 0, 0, []) := by
    obtain ⟨q0, q1, an, ad, q2, q3, r1, r2, r3, r4, r5, r6, r7, r8, r9, r10⟩ := n0
    rw [em]
    exact ⟨q0, q1, an, ad, q2, q3, r1, r2, r3, (mm_up_ne (Or.inl (by omega))).trans r4, r5, r6, r7, (mm_up_ne (Or.inl (by omega))).trans r8, r9, r10⟩
  refine hZ m xm zm (fun m' x zz => ?_)
  have k : ∀ b, b < ax + 90 → mm_k m' b = mm_k M b ∧ mm_n m' b = mm_n M b ∧ (∀ j, mm_I m' b j = mm_I M b j) := fun b hb => by
    obtain ⟨p1, p2, p3, p4, p5⟩ := x.2 b (by omega)
    obtain ⟨q1, q2, q3, q4, q5⟩ := xN.2 b (by omega)
    rw [em] at p1 p2 p3
    exact ⟨p1.trans q1, p2.trans q2, fun j => (p3 j).trans (q3 j)⟩
  have kP : ∀ b, b < ax + 90 → ∀ j, (¬ b = ax + 33 ∨ ¬ j = 0) → mm_P m' b j = mm_P M b j := fun b hb j hj => by
    obtain ⟨p1, p2, p3, p4, p5⟩ := x.2 b (by omega)
    obtain ⟨q1, q2, q3, q4, q5⟩ := xN.2 b (by omega)
    rw [em] at p5
    exact (p5 j).trans ((mm_up_ne hj).trans (q5 j))
  have p33 : mm_P m' (ax + 33) 0 = some (ax + 90) := by
    rw [(x.2 (ax + 33) (by omega)).2.2.2.2 0, em]
    exact mm_up_eq
  obtain ⟨f1, f2, ⟨f3, f4⟩, f5, f6, f7, f8, f9⟩ := hF
  obtain ⟨g1, g2, g3, g4, g5⟩ := hI
  have hM : CM ax m' := hCM m' ⟨by have := x.1; omega, fun b hb => ⟨(k b (by omega)).1, (k b (by omega)).2.1⟩, fun b hb h1 h2 => ⟨(k b (by omega)).2.2, fun j => kP b (by omega) j (Or.inl h2)⟩⟩ (fun j => kP ax (by omega) j (Or.inl (by omega))) zz
  have xh : ext h m' := ext_tr xm x
  refine ⟨hM, ⟨hg, ⟨l1, l2, l3, l4⟩, bA_ext xh (by omega) b1, bA_ext xh (by omega) b2, bA_ext xh (by omega) b3, bA_ext xh (by omega) b4⟩, ⟨⟨⟨?_, fun j x hj => by simp at hj⟩, allB_nil, by decide⟩, ⟨⟨?_, fun j x hj => by simp at hj⟩, by decide⟩, ⟨fun p hp => ?_, fun p hp => if_neg (by omega)⟩, ⟨by decide, ?_, 0, by decide, ?_, fun i T hi => by simp at hi⟩, ⟨by decide, ?_, fun i T hi => by simp at hi⟩, Cfd_0 (fun i hi => ?_), ⟨?_, ?_, ?_⟩, ⟨rfl, rfl, fun _ _ _ => rfl⟩⟩, ⟨?_, ?_⟩, ⟨⟨by decide, ?_, ?_, fun k q hk => by simp at hk⟩, Or.inl ?_⟩, ⟨fun k T hk => by simp at hk, fun q _ hq => ?_⟩, X0_Iv, allB_nil⟩
  · exact ((k (ax + 1) (by omega)).2.2 1).trans (f1 0).2.1
  · exact ((k (ax + 3) (by omega)).2.2 1).trans (f1 0).2.2
  · by_cases e : p = 0
    · subst e
      exact Or.inr ⟨ax + 90, _, rfl, p33, nd_ext x n1⟩
    · exact Or.inl ⟨if_neg e, (kP (ax + 33) (by omega) p (Or.inr e)).trans (f9 p)⟩
  · exact ((k (ax + 34) (by omega)).2.2 2).trans f4
  · exact ((k (ax + 34) (by omega)).2.2 1).trans f3
  · exact ((k (ax + 76) (by omega)).2.2 3).trans f5
  · exact ((k (ax + (8 + i)) (by omega)).2.2 0).trans (f2 i hi)
  · exact ((k ax (by omega)).2.2 8).trans g1
  · exact ((k ax (by omega)).2.2 9).trans g2
  · exact ((k ax (by omega)).2.2 10).trans g3
  · exact ((k ax (by omega)).2.2 11).trans g4
  · exact ((k ax (by omega)).2.2 12).trans g5
  · exact ((k (ax + 81) (by omega)).2.2 0).trans (f8 0)
  · exact ((k (ax + 81) (by omega)).2.2 1).trans (f8 1)
  · exact ((k (ax + 80) (by omega)).2.2 6).trans f7
  · exact ((k (ax + 79) (by omega)).2.2 q).trans (f6 q)
theorem rIf {ax b : Nat} (hb : fz ax b) (σ : rS) (g : mm_M) (j : Nat) : mm_I (r_em (ax + 91) σ g) b j = mm_I g b j := by
  show (if b = ax + 91 then σ.1 j else if ax + 91 < b ∧ b < ax + 91 + 27 then σ.2.2 (b - (ax + 91)) j else mm_I g b j) = _
  rw [if_neg (by omega), if_neg (by omega)]
theorem bA_rem {ax b : Nat} {g : mm_M} {L : List Int32} (hb : fz ax b) (h : bA g b L) (σ : rS) : bA (r_em (ax + 91) σ g) b L := ⟨h.1, h.2.1, fun j x hj => (rIf hb σ g j).trans (h.2.2 j x hj)⟩
theorem nd_rem {ax a p : Nat} {g : mm_M} {f : sF} (h : nd ax g a p f) (σ : rS) : nd ax (r_em (ax + 91) σ g) a p f := by
  obtain ⟨q0, q1, an, ad, q2, q3, r1, r2, r3, r4, r5, r6, r7, r8, r9, r10⟩ := h
  exact ⟨q0, q1, an, ad, q2, q3, r1, (rIf q1.1 σ g _).trans r2, (rIf q1.1 σ g _).trans r3, r4, (rIf q1.1 σ g _).trans r5, (rIf q1.1 σ g _).trans r6, (rIf q1.1 σ g _).trans r7, r8, bA_rem q2.1 r9 σ, bA_rem q3.1.1 r10 σ⟩
theorem nr_rem {ax : Nat} {g : mm_M} {P : Nat → Option Nat} {T : sT} (h : nr ax g P T) (σ : rS) : nr ax (r_em (ax + 91) σ g) P T := by
  refine ⟨fun p hp => ?_, h.2⟩
  rcases h.1 p hp with q | ⟨a, f, q1, q2, q3⟩
  · exact Or.inl q
  · exact Or.inr ⟨a, f, q1, q2, nd_rem q3 σ⟩
theorem CX_rem {ge : Nat → Nat} {ax : Nat} {κ : cS} {g : mm_M} {X : sX} (h : CX ge ax κ g X) (σ : rS) : CX ge ax κ (r_em (ax + 91) σ g) X := by
  obtain ⟨⟨L, A⟩, ⟨T, S, J⟩, ⟨fm, fc, gv, tm, ms⟩, ⟨il, er⟩, ⟨st, by_⟩⟩ := X
  obtain ⟨hM, ⟨k0, ⟨k1, k2, k3, k4⟩, b1, b2, b3, b4⟩, ⟨c1, c2, c3, ⟨j1, j2, nx, j3, j4, j5⟩, ⟨s1, s2, s3⟩, c6, c7, c8⟩, hr⟩ := h
  refine ⟨hM, ⟨k0, ⟨k1, k2, k3, k4⟩, bA_rem (Or.inl (by omega)) b1 σ, bA_rem (Or.inl (by omega)) b2 σ, bA_rem (Or.inl (by omega)) b3 σ, bA_rem (Or.inl (by omega)) b4 σ⟩, ⟨c1, c2, nr_rem c3 σ, ⟨j1, j2, nx, j3, j4, fun i T hi => nr_rem (j5 i T hi) σ⟩, ⟨s1, s2, fun i T hi => ?_⟩, c6, c7, c8⟩, hr⟩
  obtain ⟨b, h1, y1, y2, bn, y3, y4, y5, y6, y7⟩ := s3 i T hi
  exact ⟨b, h1, y1, y2, bn, y3, y4, y5, y6, nr_rem y7 σ⟩
theorem CX_Iv {ge : Nat → Nat} {ax : Nat} {κ : cS} {g : mm_M} {X : sX} (h : CX ge ax κ g X) : IvX X := by
  obtain ⟨⟨L, A⟩, ⟨T, S, J⟩, ⟨fm, fc, gv, tm, ms⟩, ⟨il, er⟩, ⟨st, by_⟩⟩ := X
  exact h.2.2.2.2.2.2.1
theorem CX_M {ge : Nat → Nat} {ax : Nat} {κ : cS} {g : mm_M} {X : sX} (h : CX ge ax κ g X) : ax + 118 ≤ mm_z g ∧ ge 0 ≤ ax := by
  obtain ⟨⟨L, A⟩, ⟨T, S, J⟩, ⟨fm, fc, gv, tm, ms⟩, ⟨il, er⟩, ⟨st, by_⟩⟩ := X
  exact ⟨CM_z h.1, h.2.1.1⟩
theorem rc_com (ax : Nat) (σ : rS) (κ : cS) (g : mm_M) : r_em (ax + 91) σ (c_em ax κ g) = c_em ax κ (r_em (ax + 91) σ g) := by
  unfold r_em c_em
  refine Prod.ext rfl (Prod.ext rfl (Prod.ext ?_ (Prod.ext ?_ rfl)))
  · funext b j
    show (if b = ax + 91 then σ.1 j else if ax + 91 < b ∧ b < ax + 91 + 27 then σ.2.2 (b - (ax + 91)) j else (if c_in ax b then κ.1 (b - ax) j else mm_I g b j)) = if c_in ax b then κ.1 (b - ax) j else (if b = ax + 91 then σ.1 j else if ax + 91 < b ∧ b < ax + 91 + 27 then σ.2.2 (b - (ax + 91)) j else mm_I g b j)
    by_cases h : c_in ax b
    · have h1 := h.2
      rw [if_neg (by omega), if_neg (by omega), if_pos h, if_pos h]
    · rw [if_neg h, if_neg h]
  · funext b j
    show (if b = ax + 91 then σ.2.1 j else (if c_in ax b then κ.2.1 (b - ax) j else mm_L g b j)) = if c_in ax b then κ.2.1 (b - ax) j else (if b = ax + 91 then σ.2.1 j else mm_L g b j)
    by_cases h : c_in ax b
    · have h1 := h.2
      rw [if_neg (by omega), if_pos h, if_pos h]
    · rw [if_neg h, if_neg h]
/-- the reference looks at its own shape and the texts only -/
theorem RX_h {ge : Nat → Nat} {am : Nat} {σ : rS} {g g' : mm_M} {X : sX} (hk : ∀ o, o < 27 → mm_k g' (am + o) = mm_k g (am + o) ∧ mm_n g' (am + o) = mm_n g (am + o)) (hP : ∀ j, mm_P g' am j = mm_P g am j) (hc : ∀ b, b < ge 0 → mm_k g' b = mm_k g b ∧ mm_n g' b = mm_n g b ∧ ∀ j, mm_I g' b j = mm_I g b j) (h : RX ge am σ g X) : RX ge am σ g' X := by
  obtain ⟨⟨L, A⟩, ⟨T, S, J⟩, ⟨fm, fc, gv, tm, ms⟩, ⟨il, er⟩, ⟨st, by_⟩⟩ := X
  obtain ⟨hM, hg, ⟨k1, k2⟩, hr⟩ := h
  have q : ∀ C W, RK1 ge g C W → RK1 ge g' C W := fun C W hq => by
    obtain ⟨q1, q2, q3, q4⟩ := hq
    obtain ⟨d1, d2, d3⟩ := hc (ge C) q3
    exact ⟨d1.trans q1, d2.trans q2, q3, fun i hi => by rw [d3]; exact q4 i hi⟩
  refine ⟨?_, hg, ⟨q _ _ k1, q _ _ k2⟩, hr⟩
  have h0 : mm_k g' am = mm_k g am := (hk 0 (by decide)).1
  unfold RM at hM ⊢
  rw [h0]
  simp only [hP]
  rw [(hk 1 (by decide)).1, (hk 2 (by decide)).1, (hk 3 (by decide)).1, (hk 4 (by decide)).1, (hk 5 (by decide)).1, (hk 6 (by decide)).1, (hk 7 (by decide)).1, (hk 8 (by decide)).1, (hk 9 (by decide)).1, (hk 10 (by decide)).1, (hk 11 (by decide)).1, (hk 12 (by decide)).1, (hk 13 (by decide)).1, (hk 14 (by decide)).1, (hk 15 (by decide)).1, (hk 16 (by decide)).1, (hk 17 (by decide)).1, (hk 18 (by decide)).1, (hk 19 (by decide)).1, (hk 20 (by decide)).1, (hk 21 (by decide)).1, (hk 22 (by decide)).1, (hk 23 (by decide)).1, (hk 24 (by decide)).1, (hk 25 (by decide)).1, (hk 26 (by decide)).1, (hk 1 (by decide)).2, (hk 2 (by decide)).2, (hk 3 (by decide)).2, (hk 4 (by decide)).2, (hk 5 (by decide)).2, (hk 6 (by decide)).2, (hk 7 (by decide)).2, (hk 8 (by decide)).2, (hk 9 (by decide)).2, (hk 10 (by decide)).2, (hk 11 (by decide)).2, (hk 12 (by decide)).2, (hk 13 (by decide)).2, (hk 14 (by decide)).2, (hk 15 (by decide)).2, (hk 16 (by decide)).2, (hk 17 (by decide)).2, (hk 18 (by decide)).2, (hk 19 (by decide)).2, (hk 20 (by decide)).2, (hk 21 (by decide)).2, (hk 22 (by decide)).2, (hk 23 (by decide)).2, (hk 24 (by decide)).2, (hk 25 (by decide)).2, (hk 26 (by decide)).2]
  exact hM
/-- below n all is as in h -/
def bel (n : Nat) (h g : mm_M) : Prop := ∀ b, b < n → mm_k g b = mm_k h b ∧ mm_n g b = mm_n h b ∧ ∀ j, mm_I g b j = mm_I h b j
theorem bel_tr {n : Nat} {h g g' : mm_M} (h1 : bel n h g) (h2 : bel n g g') : bel n h g' := fun b hb => ⟨(h2 b hb).1.trans (h1 b hb).1, (h2 b hb).2.1.trans (h1 b hb).2.1, fun j => ((h2 b hb).2.2 j).trans ((h1 b hb).2.2 j)⟩
/-- both sides in the memory M: the class at Xc, the reference at Xr; what the start had below, as in h0 -/
def JY (ge : Nat → Nat) (ax : Nat) (h0 M : mm_M) (Xc Xr : sX) : Prop := ∃ κ g σ, M = c_em ax κ g ∧ r_em (ax + 91) σ g = g ∧ CX ge ax κ g Xc ∧ RX ge (ax + 91) σ g Xr ∧ bel (ge 0) h0 g
section JY_
variable {ge : Nat → Nat} {ax : Nat} {h0 M : mm_M} {Xc Xr Xn : sX}
theorem JY_Iv (h : JY ge ax h0 M Xc Xr) : IvX Xc := by
  obtain ⟨κ, g, σ, e, er, hC, hR, hL⟩ := h
  exact CX_Iv hC
theorem JY_b (h : JY ge ax h0 M Xc Xr) : bel (ge 0) h0 M := by
  obtain ⟨κ, g, σ, e, er, hC, hR, hL⟩ := h
  obtain ⟨hz, hg⟩ := CX_M hC
  rw [e]
  exact fun b hb => ⟨(hL b hb).1, (hL b hb).2.1, fun j => (cIf (ax := ax) (Or.inl (by omega)) κ g j).trans ((hL b hb).2.2 j)⟩
theorem JY_k (h : JY ge ax h0 M Xc Xr) : mm_k M ax = kd_Server ∧ mm_k M (ax + 91) = kd_Model := by
  obtain ⟨κ, g, σ, e, er, hC, hR, hL⟩ := h
  obtain ⟨⟨L, A⟩, ⟨T, S, J⟩, ⟨fm, fc, gv, tm, ms⟩, ⟨il, er⟩, ⟨st, by_⟩⟩ := Xc
  obtain ⟨⟨L', A'⟩, ⟨T', S', J'⟩, ⟨fm', fc', gv', tm', ms'⟩, ⟨il', er'⟩, ⟨st', by_'⟩⟩ := Xr
  rw [e]
  exact ⟨hC.1.1, hR.1.1⟩
theorem JY_c {κ κ' : cS} {g g' : mm_M} {σ : rS} (hL : bel (ge 0) h0 g) (er : r_em (ax + 91) σ g = g) (hC : CX ge ax κ g Xc) (hR : RX ge (ax + 91) σ g Xr) (x : ext g g') (hC' : CX ge ax κ' g' Xn) : JY ge ax h0 (c_em ax κ' g') Xn Xr := by
  obtain ⟨hz, hg⟩ := CX_M hC
  refine ⟨κ', g', σ, rfl, ?_, hC', RX_h (fun o ho => ⟨(x.2 _ (by omega)).1, (x.2 _ (by omega)).2.1⟩) (x.2 _ (by omega)).2.2.2.2 (fun b hb => ⟨(x.2 b (by omega)).1, (x.2 b (by omega)).2.1, (x.2 b (by omega)).2.2.1⟩) hR, bel_tr hL (fun b hb => ⟨(x.2 b (by omega)).1, (x.2 b (by omega)).2.1, (x.2 b (by omega)).2.2.1⟩)⟩
  have eI : ∀ b j, mm_I (r_em (ax + 91) σ g) b j = mm_I g b j := fun b j => by rw [er]
  have eL : ∀ b j, mm_L (r_em (ax + 91) σ g) b j = mm_L g b j := fun b j => by rw [er]
  unfold r_em
  refine Prod.ext rfl (Prod.ext rfl (Prod.ext ?_ (Prod.ext ?_ rfl)))
  · funext b j
    show (if b = ax + 91 then σ.1 j else if ax + 91 < b ∧ b < ax + 91 + 27 then σ.2.2 (b - (ax + 91)) j else mm_I g' b j) = mm_I g' b j
    by_cases h1 : ax + 91 ≤ b ∧ b < ax + 118
    · rw [(x.2 b (by omega)).2.2.1 j, ← eI b j]
      show _ = (if b = ax + 91 then σ.1 j else if ax + 91 < b ∧ b < ax + 91 + 27 then σ.2.2 (b - (ax + 91)) j else mm_I g b j)
      by_cases h2 : b = ax + 91
      · rw [if_pos h2, if_pos h2]
      · rw [if_neg h2, if_neg h2, if_pos (by omega), if_pos (by omega)]
    · rw [if_neg (by omega), if_neg (by omega)]
  · funext b j
    show (if b = ax + 91 then σ.2.1 j else mm_L g' b j) = mm_L g' b j
    by_cases h2 : b = ax + 91
    · rw [(x.2 b (by omega)).2.2.2.1 j, ← eL b j]
      show _ = (if b = ax + 91 then σ.2.1 j else mm_L g b j)
      rw [if_pos h2, if_pos h2]
    · rw [if_neg h2]
/-- a call of the reference, from its lemma -/
theorem JY_r (h : JY ge ax h0 M Xc Xr) : ∃ h' σ, M = r_em (ax + 91) σ h' ∧ RX ge (ax + 91) σ h' Xr ∧ ∀ σ' Xn, RX ge (ax + 91) σ' h' Xn → JY ge ax h0 (r_em (ax + 91) σ' h') Xc Xn := by
  obtain ⟨κ, g, σ, e, er, hC, hR, hL⟩ := h
  obtain ⟨hz, hg⟩ := CX_M hC
  have hP : ∀ j, mm_P (c_em ax κ g) (ax + 91) j = mm_P g (ax + 91) j := fun j => by
    show (if c_in ax (ax + 91) ∧ pa (ax + 91 - ax) = true then κ.2.2 (ax + 91 - ax) j else mm_P g (ax + 91) j) = _
    rw [if_neg (fun z => absurd z.1.2 (by omega))]
  refine ⟨c_em ax κ g, σ, ?_, ?_, fun σ' Xn hR' => ?_⟩
  · rw [rc_com, er]; exact e
  · exact RX_h (g := g) (fun o ho => ⟨rfl, rfl⟩) hP (fun b hb => ⟨rfl, rfl, fun j => cIf (ax := ax) (Or.inl (by omega)) κ g j⟩) hR
  · rw [rc_com]
    refine ⟨κ, r_em (ax + 91) σ' g, σ', rfl, r_em_em _ _ _ _, CX_rem hC σ', ?_, bel_tr hL (fun b hb => ⟨rfl, rfl, fun j => rIf (ax := ax) (Or.inl (by omega)) σ' g j⟩)⟩
    exact RX_h (g := c_em ax κ g) (fun o ho => ⟨rfl, rfl⟩) (fun j => (hP j).symm) (fun b hb => ⟨rfl, rfl, fun j => (rIf (ax := ax) (Or.inl (by omega)) σ' g j).trans (cIf (ax := ax) (Or.inl (by omega)) κ g j).symm⟩) hR'

theorem jc_feed (h : JY ge ax h0 M Xc Xr) (a b c d f : Int32) (Z : Int32 → mm_M → Prop) (hZ : ∀ M', JY ge ax h0 M' (xFeed a b c d f Xc).2 Xr → Z (xFeed a b c d f Xc).1 M') : wq_Server_feed ge ax a b c d f M Z := by
  obtain ⟨κ, g, σ, e, er, hC, hR, hL⟩ := h
  rw [e]
  exact cx_feed hC a b c d f Z (fun κ' g' x hC' => hZ _ (JY_c hL er hC hR x hC'))
theorem jr_feed (h : JY ge ax h0 M Xc Xr) (hI : IvX Xr) (a b c d f : Int32) (Z : Int32 → mm_M → Prop) (hZ : ∀ M', JY ge ax h0 M' Xc (xFeed a b c d f Xr).2 → Z (xFeed a b c d f Xr).1 M') : wq_Model_feed ge (ax + 91) a b c d f M Z := by
  obtain ⟨h', σ, e, hR, hJ⟩ := JY_r h
  rw [e]
  exact rx_feed hR a b c d f Z (fun σ' hR' => hZ _ (hJ σ' _ hR'))
theorem jc_bend (h : JY ge ax h0 M Xc Xr) (i v : Int32) (Z : Int32 → mm_M → Prop) (hZ : ∀ M', JY ge ax h0 M' (xBend i v Xc).2 Xr → Z (xBend i v Xc).1 M') : wq_Server_bend ge ax i v M Z := by
  obtain ⟨κ, g, σ, e, er, hC, hR, hL⟩ := h
  rw [e]
  exact cx_bend hC i v Z (fun κ' g' x hC' => hZ _ (JY_c hL er hC hR x hC'))
theorem jr_bend (h : JY ge ax h0 M Xc Xr) (hI : IvX Xr) (i v : Int32) (Z : Int32 → mm_M → Prop) (hZ : ∀ M', JY ge ax h0 M' Xc (xBend i v Xr).2 → Z (xBend i v Xr).1 M') : wq_Model_bend ge (ax + 91) i v M Z := by
  obtain ⟨h', σ, e, hR, hJ⟩ := JY_r h
  rw [e]
  exact rx_bend hR i v Z (fun σ' hR' => hZ _ (hJ σ' _ hR'))
theorem jc_ans (h : JY ge ax h0 M Xc Xr) (i : Int32) (Z : Int32 → mm_M → Prop) (hZ : ∀ M', JY ge ax h0 M' Xc Xr → Z (xAns i Xc) M') : wq_Server_answer ge ax i M Z := by
  obtain ⟨κ, g, σ, e, er, hC, hR, hL⟩ := h
  rw [e]
  exact cx_ans hC i Z (hZ _ ⟨κ, g, σ, rfl, er, hC, hR, hL⟩)
theorem jr_ans (h : JY ge ax h0 M Xc Xr) (hI : IvX Xr) (i : Int32) (Z : Int32 → mm_M → Prop) (hZ : ∀ M', JY ge ax h0 M' Xc Xr → Z (xAns i Xr) M') : wq_Model_answer ge (ax + 91) i M Z := by
  obtain ⟨h', σ, e, hR, hJ⟩ := JY_r h
  rw [e]
  exact rx_ans hR i Z (hZ _ (hJ σ _ hR))
theorem jc_word (h : JY ge ax h0 M Xc Xr) (i : Int32) (Z : Int32 → mm_M → Prop) (hZ : ∀ M', JY ge ax h0 M' Xc Xr → Z (xWord i Xc) M') : wq_Server_word ge ax i M Z := by
  obtain ⟨κ, g, σ, e, er, hC, hR, hL⟩ := h
  rw [e]
  exact cx_word hC i Z (hZ _ ⟨κ, g, σ, rfl, er, hC, hR, hL⟩)
theorem jr_word (h : JY ge ax h0 M Xc Xr) (hI : IvX Xr) (i : Int32) (Z : Int32 → mm_M → Prop) (hZ : ∀ M', JY ge ax h0 M' Xc Xr → Z (xWord i Xr) M') : wq_Model_word ge (ax + 91) i M Z := by
  obtain ⟨h', σ, e, hR, hJ⟩ := JY_r h
  rw [e]
  exact rx_word hR i Z (hZ _ (hJ σ _ hR))
theorem jc_snap (h : JY ge ax h0 M Xc Xr) (Z : Int32 → mm_M → Prop) (hZ : ∀ M', JY ge ax h0 M' (xSnap Xc).2 Xr → Z (xSnap Xc).1 M') : wq_Server_snap ge ax M Z := by
  obtain ⟨κ, g, σ, e, er, hC, hR, hL⟩ := h
  rw [e]
  exact cx_snap hC Z (fun κ' g' x hC' => hZ _ (JY_c hL er hC hR x hC'))
theorem jr_snap (h : JY ge ax h0 M Xc Xr) (hI : IvX Xr) (Z : Int32 → mm_M → Prop) (hZ : ∀ M', JY ge ax h0 M' Xc (xSnap Xr).2 → Z (xSnap Xr).1 M') : wq_Model_snap ge (ax + 91) M Z := by
  obtain ⟨h', σ, e, hR, hJ⟩ := JY_r h
  rw [e]
  exact rx_snap hR Z (fun σ' hR' => hZ _ (hJ σ' _ hR'))
theorem jc_cra (h : JY ge ax h0 M Xc Xr) (n : Int32) (Z : Int32 → mm_M → Prop) (hZ : ∀ M', JY ge ax h0 M' (xCra n Xc).2 Xr → Z (xCra n Xc).1 M') : wq_Server_crash ge ax n M Z := by
  obtain ⟨κ, g, σ, e, er, hC, hR, hL⟩ := h
  rw [e]
  exact cx_cra hC n Z (fun κ' g' x hC' => hZ _ (JY_c hL er hC hR x hC'))
theorem jr_cra (h : JY ge ax h0 M Xc Xr) (hI : IvX Xr) (n : Int32) (Z : Int32 → mm_M → Prop) (hZ : ∀ M', JY ge ax h0 M' Xc (xCra n Xr).2 → Z (xCra n Xr).1 M') : wq_Model_crash ge (ax + 91) n M Z := by
  obtain ⟨h', σ, e, hR, hJ⟩ := JY_r h
  rw [e]
  exact rx_cra hR n Z (fun σ' hR' => hZ _ (hJ σ' _ hR'))
theorem jc_fil (h : JY ge ax h0 M Xc Xr) (t p w : Int32) (Z : Int32 → mm_M → Prop) (hZ : ∀ M', JY ge ax h0 M' Xc Xr → Z (xFil t p w Xc) M') : wq_Server_file ge ax t p w M Z := by
  obtain ⟨κ, g, σ, e, er, hC, hR, hL⟩ := h
  rw [e]
  exact cx_fil hC t p w Z (hZ _ ⟨κ, g, σ, rfl, er, hC, hR, hL⟩)
theorem jr_fil (h : JY ge ax h0 M Xc Xr) (hI : IvX Xr) (t p w : Int32) (Z : Int32 → mm_M → Prop) (hZ : ∀ M', JY ge ax h0 M' Xc Xr → Z (xFil t p w Xr) M') : wq_Model_file ge (ax + 91) t p w M Z := by
  obtain ⟨h', σ, e, hR, hJ⟩ := JY_r h
  rw [e]
  exact rx_fil hR t p w Z (hZ _ (hJ σ _ hR))
theorem jc_fid (h : JY ge ax h0 M Xc Xr) (n w : Int32) (Z : Int32 → mm_M → Prop) (hZ : ∀ M', JY ge ax h0 M' Xc Xr → Z (xFid n w Xc) M') : wq_Server_fid ge ax n w M Z := by
  obtain ⟨κ, g, σ, e, er, hC, hR, hL⟩ := h
  rw [e]
  exact cx_fid hC n w Z (hZ _ ⟨κ, g, σ, rfl, er, hC, hR, hL⟩)
theorem jr_fid (h : JY ge ax h0 M Xc Xr) (hI : IvX Xr) (n w : Int32) (Z : Int32 → mm_M → Prop) (hZ : ∀ M', JY ge ax h0 M' Xc Xr → Z (xFid n w Xr) M') : wq_Model_fid ge (ax + 91) n w M Z := by
  obtain ⟨h', σ, e, hR, hJ⟩ := JY_r h
  rw [e]
  exact rx_fid hR hI n w Z (hZ _ (hJ σ _ hR))
theorem jc_cnt (h : JY ge ax h0 M Xc Xr) (w : Int32) (Z : Int32 → mm_M → Prop) (hZ : ∀ M', JY ge ax h0 M' Xc Xr → Z (xCnt w Xc) M') : wq_Server_count ge ax w M Z := by
  obtain ⟨κ, g, σ, e, er, hC, hR, hL⟩ := h
  rw [e]
  exact cx_cnt hC w Z (hZ _ ⟨κ, g, σ, rfl, er, hC, hR, hL⟩)
theorem jr_cnt (h : JY ge ax h0 M Xc Xr) (hI : IvX Xr) (w : Int32) (Z : Int32 → mm_M → Prop) (hZ : ∀ M', JY ge ax h0 M' Xc Xr → Z (xCnt w Xr) M') : wq_Model_count ge (ax + 91) w M Z := by
  obtain ⟨h', σ, e, hR, hJ⟩ := JY_r h
  rw [e]
  exact rx_cnt hR w Z (hZ _ (hJ σ _ hR))
theorem jc_msg (h : JY ge ax h0 M Xc Xr) (n : Int32) (Z : Int32 → mm_M → Prop) (hZ : ∀ M', JY ge ax h0 M' (xMsg n Xc).2 Xr → Z (xMsg n Xc).1 M') : wq_Server_message ge ax n M Z := by
  obtain ⟨κ, g, σ, e, er, hC, hR, hL⟩ := h
  rw [e]
  exact cx_msg hC n Z (fun κ' g' x hC' => hZ _ (JY_c hL er hC hR x hC'))
theorem jr_msg (h : JY ge ax h0 M Xc Xr) (hI : IvX Xr) (n : Int32) (Z : Int32 → mm_M → Prop) (hZ : ∀ M', JY ge ax h0 M' Xc (xMsg n Xr).2 → Z (xMsg n Xr).1 M') : wq_Model_message ge (ax + 91) n M Z := by
  obtain ⟨h', σ, e, hR, hJ⟩ := JY_r h
  rw [e]
  exact rx_msg hR hI n Z (fun σ' hR' => hZ _ (hJ σ' _ hR'))
theorem jc_arc (h : JY ge ax h0 M Xc Xr) (k : Int32) (Z : Int32 → mm_M → Prop) (hZ : ∀ M', JY ge ax h0 M' (xArc k Xc).2 Xr → Z (xArc k Xc).1 M') : wq_Server_archive ge ax k M Z := by
  obtain ⟨κ, g, σ, e, er, hC, hR, hL⟩ := h
  rw [e]
  exact cx_arc hC k Z (fun κ' g' x hC' => hZ _ (JY_c hL er hC hR x hC'))
theorem jr_arc (h : JY ge ax h0 M Xc Xr) (hI : IvX Xr) (k : Int32) (Z : Int32 → mm_M → Prop) (hZ : ∀ M', JY ge ax h0 M' Xc (xArc k Xr).2 → Z (xArc k Xr).1 M') : wq_Model_archive ge (ax + 91) k M Z := by
  obtain ⟨h', σ, e, hR, hJ⟩ := JY_r h
  rw [e]
  exact rx_arc hR hI k Z (fun σ' hR' => hZ _ (hJ σ' _ hR'))
theorem jc_sco (h : JY ge ax h0 M Xc Xr) (k i : Int32) (Z : Int32 → mm_M → Prop) (hZ : ∀ M', JY ge ax h0 M' Xc Xr → Z (xSco k i Xc) M') : wq_Server_score ge ax k i M Z := by
  obtain ⟨κ, g, σ, e, er, hC, hR, hL⟩ := h
  rw [e]
  exact cx_sco hC k i Z (fun κ' g' x hC' => hZ _ (JY_c hL er hC hR x hC'))
theorem jr_sco (h : JY ge ax h0 M Xc Xr) (hI : IvX Xr) (k i : Int32) (Z : Int32 → mm_M → Prop) (hZ : ∀ M', JY ge ax h0 M' Xc Xr → Z (xSco k i Xr) M') : wq_Model_score ge (ax + 91) k i M Z := by
  obtain ⟨h', σ, e, hR, hJ⟩ := JY_r h
  rw [e]
  exact rx_sco hR hI k i Z (fun σ' hR' => hZ _ (hJ σ' _ hR'))
/-- the server's making, then the reference's -/
theorem jy_init {h : mm_M} {Z : mm_M → Prop} (hz : mm_z h = ax) (hg : ge 0 ≤ ax) (hK : CKs ge h) (hR : RK ge h) (hZ : ∀ M', JY ge ax h M' X0 X0 → Z M') : wq_Server_init ge ax (mm_nw h 2 0) (fun m => mm_z m = ax + 91 ∧ wq_Model_init ge (ax + 91) (mm_nw m 1 0) Z) := by
  refine cx_init hz hg hK (fun m xm zm hC => ⟨zm, ?_⟩)
  have hR' : RK ge m := by
    have q : ∀ C W, RK1 ge h C W → RK1 ge m C W := fun C W hq => by
      obtain ⟨q1, q2, q3, q4⟩ := hq
      obtain ⟨d1, d2, d3, _, _⟩ := xm.2 (ge C) (by omega)
      exact ⟨d1.trans q1, d2.trans q2, q3, fun i hi => by rw [d3]; exact q4 i hi⟩
    exact ⟨q _ _ hR.1, q _ _ hR.2⟩
  refine rx_init (by omega) hR' zm rfl (fun m' xm' zm' _ hX => hZ m' ?_)
  exact ⟨c_vw ax m', m', r_vw (ax + 91) m', (c_em_vw ax m').symm, r_em_vw _ _, hC m' xm' (by omega), hX, fun b hb => ⟨((ext_tr xm xm').2 b (by omega)).1, ((ext_tr xm xm').2 b (by omega)).2.1, ((ext_tr xm xm').2 b (by omega)).2.2.1⟩⟩
end JY_
