/-! the class: create, write -/
theorem l_of {v : Int64} {n : Nat} (hn : n < 2 ^ 31) (h0 : ¬ v < 0) (h1 : ¬ lN n < v) : ∃ o : Nat, o ≤ n ∧ v = lN o ∧ v.toInt32 = nI o := by
  have a0 : 0 ≤ v.toInt := by
    have := Int64.not_lt.mp h0
    simpa using Int64.le_iff_toInt_le.mp this
  have a1 : v.toInt ≤ n := by
    have := Int64.le_iff_toInt_le.mp (Int64.not_lt.mp h1)
    rw [lN_toInt hn] at this
    exact this
  have hv : v = lN v.toInt.toNat := Int64.toInt_inj.mp (by rw [lN_toInt (by omega)]; omega)
  refine ⟨v.toInt.toNat, by omega, hv, ?_⟩
  have e : v = (nI v.toInt.toNat).toInt64 := by rw [nI_l (by omega)]; exact hv
  have : v.toInt32 = (nI v.toInt.toNat).toInt64.toInt32 := by rw [← e]
  rw [this]
  apply b_ext
  intro i hi
  rw [l_i _ hi, i_l _ (by omega), if_pos hi]
theorem nI_sub {a b : Nat} (h : b ≤ a) : nI a - nI b = nI (a - b) := by
  have := nI_add (a - b) b
  rw [show a - b + b = a by omega] at this
  rw [← this, Int32.add_sub_cancel]
section HC
variable {ge : Nat → Nat} {ax : Nat} {κ0 κ : cS} {g : mm_M} {L A : List Int32} {T : sT} {S J : List sT} {fm : sM} {fc gv : Nat} {tm : Int32} {ms : Nat}
theorem Ctx_CC {κ κ' : cS} {L X : List Int32} (e14 : κ'.1 5 14 = κ.1 5 14) (e15 : κ'.1 5 15 = κ.1 5 15) (h : Ctx κ L X) : Ctx κ' L X := by
  obtain ⟨a, l, h1, h2, h3⟩ := h
  exact ⟨a, l, e14.trans h1, e15.trans h2, h3⟩
set_option maxHeartbeats 4000000 in
theorem cq_cre (hM : CM ax g) (hK : CK ge ax g) (hC : CC ax κ0 κ g L A T S J fm fc gv tm ms) (hA : A.length = 7) {i : Nat} {x : Int32} {d : sD} (hr : rw_ κ fm i x d) {f : sF} (hF : Fth T S d (some f)) {a : Nat} (hn : nd ax g a (d_p d) f) (hgv : gv ≤ 60) (hgn : T gv = none) {X : List Int32} (hX : Ctx κ L X) {perm m : Int32} (hpm : κ.1 5 11 = perm) (hm : κ.1 5 10 = m) (Z : Int32 → mm_M → Prop)
    (hZ : ∀ κ' g', Pst ax κ0 g L A S (jn J T (spCre T fm fc gv tm x d f X perm m).2.2.1) tm ms (spCre T fm fc gv tm x d f X perm m) κ' g' → Z (spCre T fm fc gv tm x d f X perm m).1 (c_em ax κ' g')) : wq_Server_create ge ax (some (ax + (8 + i))) (some a) (c_em ax κ g) Z := by
  have hg := hK.1
  have hr0 := hr
  obtain ⟨r1, r2, r3, r4, r5⟩ := hr
  have mf := ((CM_f hM).2 i r1).2
  obtain ⟨m0, m1⟩ := CM_0 hM
  have hS6 := hC.2.2.2.2.1.1
  obtain ⟨co1, co2⟩ := crow_open r5
  have cl := crow_live r5 (by have := hF.2.1; omega)
  obtain ⟨an, ad, fa, f1, f2, hN⟩ := nd_H hn
  have hk : mm_k g a = kd_Node := (hN κ).1
  have hz := CM_z hM
  have er : ∀ (e : Int32), spCre T fm fc gv tm x d f X perm m = (e, [], T, fm, fc, gv) → ¬ e = 0 → Z e (c_em ax κ g) := by
    intro e he ne
    rw [he] at hZ
    refine hZ κ g ⟨ext_rf g, A, fun z => absurd z ne, ?_⟩
    have : jn J T T = J := cif_y rfl
    rw [this]
    exact hC
  unfold wq_Server_create wq_Server_create_0 wq_Server_create_24 wq_Server_create_93
  simp only [mf, hk, ck, cI ax (8 + i) (by omega), true_and, Option.some.injEq, exists_eq_left']
  refine ⟨fun q => ?_, fun q => er 3 (cif_y (Decidable.not_not.mp (fun z => q (co1.mpr z)))) (by decide)⟩
  have n1 : ¬ 0 ≤ d_m d := co1.mp q
  refine nq_isDir (hN κ) _ ?_
  by_cases hd : 0 ≤ f_md f
  · rw [if_pos hd]
    exact ⟨fun _ => er 5 ((cif_n n1).trans (cif_y (Or.inl hd))) (by decide), fun z => absurd rfl z⟩
  rw [if_neg hd]
  refine ⟨fun z => absurd z (by decide), fun _ => ?_⟩
  simp only [mf, m0, m1, (CM_q hM).1, ck, cP0, cI ax (8 + i) (by omega), cl, true_and, Option.some.injEq, exists_eq_left']
  refine ⟨fun ht0 => ?_, fun z => er 5 ((cif_n n1).trans (cif_y (Or.inr z))) (by decide)⟩
  have n5 : ¬ (0 ≤ f_md f ∨ ¬ d_t d = 0) := fun z => z.elim hd (fun y => y ht0)
  have hTp := Fth_live hF ht0
  refine cq_mayBe hM hC.1 hX _ (fun hok => ⟨fun _ => ?_, fun z => absurd z (by decide)⟩) (fun hno => ⟨fun z => absurd rfl z, fun _ => er 6 ((cif_n n1).trans ((cif_n n5).trans (cif_y hno))) (by decide)⟩)
  have n6 : ¬ ¬ nmOk X := fun z => z hok
  simp only [m0, m1, hk, (CM_t hM).1, ck, cP0, (hN κ).2.1, true_and, Option.some.injEq, exists_eq_left']
  refine cq_named hM hC.1 hX (tre_live hM hC.2.2.1) _ _ (fun p' a' f' hc hf' hn' => ⟨fun z => absurd z (by simp), fun a27 _ => er 7 ((cif_n n1).trans ((cif_n n5).trans ((cif_n n6).trans (cif_y (by rw [hc]; simp))))) (by decide)⟩) (fun hc => ⟨fun _ => ?_, fun a27 z => absurd z (by simp)⟩)
  have n7 : ¬ ¬ chl T (nI (d_p d)) X = none := fun z => z hc
  simp only [m0, m1, (CM_q hM).1, ck, cP0, cI ax 5 (by decide), hm, true_and, Option.some.injEq, exists_eq_left']
  refine cq_bad m _ _ (fun hb => ⟨fun _ => er 8 ((cif_n n1).trans ((cif_n n5).trans ((cif_n n6).trans ((cif_n n7).trans (cif_y (Or.inl hb)))))) (by decide), fun z => absurd z (by decide)⟩) (fun hb => ⟨fun z => absurd rfl z, fun _ => ?_⟩)
  simp only [m0, m1, (CM_q hM).1, ck, cP0, cI ax 5 (by decide), hpm, hm, true_and, Option.some.injEq, exists_eq_left']
  have main : ¬ (badM m ∨ (perm < 0 ∧ ¬ m = 0)) → wq_Server_create_96 ge ax (some (ax + (8 + i))) (some a) (c_em ax κ g) Z := by
    intro n8
    unfold wq_Server_create_96
    have hgvv : κ.1 0 8 = nI gv := hC.2.2.2.2.2.2.1.1
    simp only [m0, m1, (CM_j hM).1, ck, cP0, cI0, hgvv, true_and, Option.some.injEq, exists_eq_left']
    have e60 : (nI gv < 60) ↔ gv < 60 := nI_ltI (b := 60) (by omega) (by decide)
    refine ⟨fun z => ?_, fun z => er 9 ((cif_n n1).trans ((cif_n n5).trans ((cif_n n6).trans ((cif_n n7).trans ((cif_n n8).trans (cif_y (Nat.le_of_not_lt (fun y => z (e60.mpr y))))))))) (by decide)⟩
    have hgl : gv < 60 := e60.mp z
    have hsp : spCre T fm fc gv tm x d f X perm m = (0, qidL gv (nI (d_p d), X, perm &&& (-2147483137), 0, tm, []) ++ le 4 0, tset (tset T gv (some (nI (d_p d), X, perm &&& (-2147483137), 0, tm, []))) (d_p d) (some (chg f tm)), fset fm x (some (0, gv, m, 0, 0)), fc, gv + 1) := (cif_n n1).trans ((cif_n n5).trans ((cif_n n6).trans ((cif_n n7).trans ((cif_n n8).trans (cif_n (by omega))))))
    rw [hsp] at hZ
    have hne : ¬ d_p d = gv := fun y => by rw [y, hgn] at hTp; cases hTp
    refine cq_keep hM hg _ hC.2.2.1 hC.2.2.2.1 _ (fun nx k1 k2 k3 => ?_)
    have C1 := CC_kp hC k1 k3
    obtain ⟨κ1, e1⟩ : ∃ κ1, κ1 = c_kp κ nx J.length := ⟨_, rfl⟩
    rw [← e1] at C1 ⊢
    have i1 : ∀ o j, ¬ o = 34 → κ1.1 o j = κ.1 o j := fun o j ho => by rw [e1]; exact c_kp_1 κ nx _ o j ho
    have x1 := ext_nw g 8 0
    have hM1 := CM_ext hM x1
    have hn1 := nd_ext x1 hn
    obtain ⟨an1, ad1, fa1, f11, f21, hN1⟩ := nd_H hn1
    have hka : mm_k (mm_nw g 8 0) a = kd_Node := (hN1 κ1).1
    have hka8 : mm_k (mm_nw g 8 0) (mm_z g) = kd_Node := by rw [mm_nw_k, if_pos rfl]
    have hgv1 : κ1.1 0 8 = nI gv := (i1 _ _ (by decide)).trans hgvv
    obtain ⟨w0, w1⟩ := CM_0 hM1
    simp only [cz, cNw (show ax + 90 ≤ mm_z g by omega), forall_eq, w0, w1, hka, (CM_q hM1).1, ck, cP0, cI0, (hN1 κ1).2.1, hgv1, true_and, Option.some.injEq, exists_eq_left']
    have hX1 : Ctx κ1 L X := Ctx_CC (i1 _ _ (by decide)) (i1 _ _ (by decide)) hX
    refine cq_cpText hM1 hg C1.1 hX1 (by have := hok.2.1; omega) _ (fun g2 x2 z2 b2 => ?_)
    have x12 := ext_tr x1 x2
    have hM2 := CM_ext hM x12
    obtain ⟨v0, v1⟩ := CM_0 hM2
    have hz1 : mm_z (mm_nw g 8 0) = mm_z g + 1 := rfl
    have hka2 : mm_k g2 (mm_z g) = kd_Node := ((x2.2 (mm_z g) (by omega)).1).trans hka8
    have p11 : κ1.1 5 11 = perm := (i1 _ _ (by decide)).trans hpm
    have p10 : κ1.1 5 10 = m := (i1 _ _ (by decide)).trans hm
    have ptm : κ1.1 0 9 = tm := C1.2.2.2.2.2.2.1.2.1
    simp only [v0, v1, (CM_q hM2).1, ck, cP0, cI0, cI ax 5 (by decide), p11, ptm, true_and, Option.some.injEq, exists_eq_left']
    refine cq_ni (by omega) (by omega) hka2 _ _ _ _ _ _ _ _ ?_
    obtain ⟨g3, e3⟩ : ∃ g3, g3 = nin g2 (mm_z g) (nI gv) (nI (d_p d)) (some (mm_z (mm_nw g 8 0))) (perm &&& (-2147483137)) 0 tm (some (ge 2)) := ⟨_, rfl⟩
    rw [← e3]
    have x3 : ext g g3 := by rw [e3]; exact nin_ext x12 (Nat.le_refl _) _ _ _ _ _ _ _
    have hM3 := CM_ext hM x3
    have nb := no_bytes hM2 (CK_ext hM x12 hK)
    have hkB : mm_k g2 (ge 2) = ka_B := (CK_ext hM x12 hK).2.2.2.1.1
    have ndnew : nd ax g3 (mm_z g) gv (nI (d_p d), X, perm &&& (-2147483137), 0, tm, []) := by
      rw [e3]
      refine nin_nd (f := (nI (d_p d), X, perm &&& (-2147483137), 0, tm, [])) ⟨hok.1, hok.2.1, by show ([] : List Int32).length ≤ 512; simp, Ctx_B hC.1.2.1 hX, allB_nil, fun _ => rfl⟩ ⟨by omega, by omega⟩ hka2 ⟨by omega, by omega⟩ nb (by omega) (fun y => ?_) b2 (CK_ext hM x12 hK).2.2.2.1
      rw [y, hka2] at hkB
      exact absurd hkB (by decide)
    have C3 := CC_ext x3 C1
    obtain ⟨u0, u1⟩ := CM_0 hM3
    simp only [u0, u1, (CM_t hM3).1, ck, cP0, cI0, cU0, hg, hgv1, true_and, Option.some.injEq, exists_eq_left', forall_eq]
    rw [show nI gv + 1 = nI (gv + 1) from (nI_succ gv).symm]
    have C4 := CC_gv C3 (gv + 1)
    refine cq_tput hM3 hg hgl ndnew _ ?_
    have C5 := CC_put C4 hgl ndnew
    have hn3 := nd_ext x3 hn
    obtain ⟨hok3, haz3, an3, ad3, hz13, hz23, n13, n23, n33, n43, n53, n63, n73, n83, n93, n103⟩ := hn3
    have hn3 : nd ax g3 a (d_p d) f := ⟨hok3, haz3, an3, ad3, hz13, hz23, n13, n23, n33, n43, n53, n63, n73, n83, n93, n103⟩
    simp only [u0, u1, n13, n83, ck, cP0, cPf haz3.1, cI0, true_and, Option.some.injEq, exists_eq_left']
    rw [C5.2.2.2.2.2.2.1.2.1]
    refine cq_wd hM3 hg hn3 hz23 n103 hok3.2.2.1 hok3.2.2.2.2.1 hok3.2.2.2.2.2 tm _ (fun g4 x4 nd4 => ?_)
    have hM4 := CM_ext hM3 x4
    have hk4 : mm_k g4 (ax + 32) = kd_Tree := (CM_t hM4).1
    simp only [hk4, ck, true_and]
    refine cq_tput hM4 hg hF.1 nd4 _ ?_
    have C6 := CC_put (CC_ext x4 C5) hF.1 nd4
    have ndn4 := nd_ext x4 ndnew
    obtain ⟨an4, ad4, fa4, f14, f24, hN4⟩ := nd_H ndn4
    have hka4 : mm_k g4 (mm_z g) = kd_Node := (hN4 κ1).1
    have mf4 := ((CM_f hM4).2 i r1).2
    obtain ⟨t0, t1⟩ := CM_0 hM4
    obtain ⟨κ6, e6⟩ : ∃ κ6, κ6 = c_up (c_up (c_u κ1 0 8 (nI (gv + 1))) 33 gv (some (mm_z g))) 33 (d_p d) (some (mm_z g3)) := ⟨_, rfl⟩
    rw [← e6] at C6 ⊢
    have i6 : ∀ o j, (¬ o = 0 ∨ ¬ j = 8) → κ6.1 o j = κ1.1 o j := fun o j ho => by
      rw [e6, cup1, cup1, cu1, if_neg (fun y => ho.elim (fun w => w y.1) (fun w => w y.2))]
    simp only [hka4, mf4, t0, t1, (CM_q hM4).1, ck, cP0, cU ax (8 + i) (by omega), cI ax 5 (by decide), (hN4 κ6).2.1, geo hg, true_and, Option.some.injEq, exists_eq_left', forall_eq]
    have p10' : (c_u κ6 (8 + i) 3 (nI gv)).1 5 10 = m := by rw [cu1, if_neg (by omega), i6 _ _ (Or.inl (by decide)), p10]
    rw [p10']
    refine cq_openAs hM4 hg r1 m _ ?_
    -- the fid's row
    have row : ∀ o j, 8 ≤ o → o < 32 → κ6.1 o j = κ.1 o j := fun o j h1 h2 => by rw [i6 _ _ (Or.inl (by omega)), i1 _ _ (by omega)]
    obtain ⟨o1, o2, o3, o4⟩ := c_op_r (c_u κ6 (8 + i) 3 (nI gv)) i m
    have C7 : CC ax κ0 (c_op (c_u κ6 (8 + i) 3 (nI gv)) i m) g4 L A (tset (tset T gv (some (nI (d_p d), X, perm &&& (-2147483137), 0, tm, []))) (d_p d) (some (chg f tm))) S (pushJ J T) (fset fm x (some (0, gv, m, 0, 0))) fc (gv + 1) tm ms := by
      refine CC_fd (κ := κ6) (fun o j ho => ?_) rfl C6 ?_
      · rw [c_op_o _ _ _ _ _ (Or.inl (by omega)), cu1, if_neg (by omega)]
      · rw [← r3, ← row _ 1 (by omega) (by omega)]
        refine Cfd_set (κ := κ6) C6.2.2.2.2.2.1 r1 (by unfold usd; rw [row _ _ (by omega) (by omega)]; exact r2) (fun o j _ _ h => ?_) ⟨?_, ?_, Or.inr ⟨o1, badM_pos hb, o2⟩, o3, o4⟩
        · rw [c_op_o _ _ _ _ _ (by omega), cu1, if_neg (by omega)]
        · rw [c_op_o _ _ _ _ _ (Or.inr (by decide)), cu1, if_neg (by simp), row _ _ (by omega) (by omega), r5.1, ht0]; rfl
        · rw [c_op_o _ _ _ _ _ (Or.inr (by decide)), cu1, if_pos ⟨rfl, rfl⟩]; rfl
    have hb3 := CM_b3 hM4
    simp only [t0, t1, hb3.1, ck, cP0, true_and, Option.some.injEq, exists_eq_left']
    refine cq_putQid hb3 hg (by decide) rfl (by decide) _ C7.2.1.1.1 ndn4 (by omega) _ ?_
    have C8 := CC_ap (B := qidL gv (nI (d_p d), X, perm &&& (-2147483137), 0, tm, [])) C7 (by rw [qidL_len]; omega)
    simp only [t0, t1, hb3.1, ck, cP0, true_and, Option.some.injEq, exists_eq_left']
    refine cq_put (n := 4) hb3 hg (by decide) rfl (by decide) _ C8.2.1.1.1 (by rw [List.length_append, qidL_len]; omega) _ _ ?_
    have C9 := CC_ap (B := le 4 0) C8 (by rw [List.length_append, qidL_len, le_len]; omega)
    refine hZ _ g4 ⟨ext_tr x3 x4, _, fun _ => rfl, ?_⟩
    rw [List.append_assoc] at C9
    have hjn : jn J T (tset (tset T gv (some (nI (d_p d), X, perm &&& (-2147483137), 0, tm, []))) (d_p d) (some (chg f tm))) = pushJ J T := cif_n (fun y => by
      have := congrFun y gv
      rw [tset_n _ _ (fun w => hne w.symm), tset_y, hgn] at this
      cases this)
    rw [hjn]
    exact C9
  refine ⟨fun z => main (fun y => y.elim hb (fun w => absurd z (Int32.not_le.mpr w.1))), fun z => ⟨fun y => main (fun w => w.elim hb (fun v => v.2 y)), fun y => er 8 ((cif_n n1).trans ((cif_n n5).trans ((cif_n n6).trans ((cif_n n7).trans (cif_y (Or.inr ⟨Int32.not_le.mp z, y⟩)))))) (by decide)⟩⟩
end HC
