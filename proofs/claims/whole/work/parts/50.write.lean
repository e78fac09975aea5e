/-! the class: write, wstat -/
theorem lt0_bt (x : Int32) : x < 0 ↔ bt x 31 = true := by
  unfold bt
  have : x.toBitVec.getLsbD 31 = x.toBitVec.msb := by rw [BitVec.msb_eq_getLsbD_last]
  rw [this, BitVec.msb_eq_toInt, Int32.lt_iff_toInt_lt]
  simp
theorem xor_neg (a b : Int32) : (a ^^^ b < 0) ↔ ¬ ((a < 0) ↔ (b < 0)) := by
  rw [lt0_bt, lt0_bt, lt0_bt, b_xor]
  cases bt a 31 <;> cases bt b 31 <;> simp
theorem tset_same {T : sT} {p : Nat} {f : sF} (h : T p = some f) : tset T p (some f) = T := by
  funext q
  unfold tset
  split
  · rename_i e; rw [e, h]
  · rfl
section HW
variable {ge : Nat → Nat} {ax : Nat} {κ0 κ : cS} {g : mm_M} {L A : List Int32} {T : sT} {S J : List sT} {fm : sM} {fc gv : Nat} {tm : Int32} {ms : Nat}
theorem Ctx_ap {X B : List Int32} {o : Nat} (h1 : ¬ o = 5) (h2 : ¬ o = 4) (h : Ctx κ L X) : Ctx (c_ap κ o B) L X := Ctx_CC (c_ap_o (Or.inl (fun z => h1 z.symm)) (by omega) B κ) (c_ap_o (Or.inl (fun z => h1 z.symm)) (by omega) B κ) h
set_option maxHeartbeats 4000000 in
theorem cq_wri (hM : CM ax g) (hK : CK ge ax g) (hC : CC ax κ0 κ g L A T S J fm fc gv tm ms) (hA : A.length = 7) {i : Nat} {x : Int32} {d : sD} (hr : rw_ κ fm i x d) {f : sF} (hF : Fth T S d (some f)) (hw0 : ¬ (¬ 0 ≤ d_m d ∨ d_m d &&& 3 = 0) → d_t d = 0 ∧ 0 ≤ f_md f) {a : Nat} (hn : nd ax g a (d_p d) f) {X : List Int32} (hX : Ctx κ L X) {off : Int64} (hoff : κ.2.1 5 13 = off) (hmany : κ.1 5 9 = nI X.length) (Z : Int32 → mm_M → Prop)
    (hZ : ∀ κ' g', Pst ax κ0 g L A S (jn J T (spWri T fm fc gv tm d f off X).2.2.1) tm ms (spWri T fm fc gv tm d f off X) κ' g' → Z (spWri T fm fc gv tm d f off X).1 (c_em ax κ' g')) : wq_Server_write ge ax (some (ax + (8 + i))) (some a) (c_em ax κ g) Z := by
  have hg := hK.1
  have hr0 := hr
  obtain ⟨r1, r2, r3, r4, r5⟩ := hr
  have mf := ((CM_f hM).2 i r1).2
  obtain ⟨m0, m1⟩ := CM_0 hM
  obtain ⟨co1, co2⟩ := crow_open r5
  obtain ⟨lx1, lx2⟩ := Ctx_len hX
  have hL14 := hC.1.2.2
  have hz := CM_z hM
  have jT : jn J T T = J := cif_y rfl
  have er : ∀ (e : Int32), spWri T fm fc gv tm d f off X = (e, [], T, fm, fc, gv) → ¬ e = 0 → Z e (c_em ax κ g) := by
    intro e he ne
    rw [he] at hZ
    refine hZ κ g ⟨ext_rf g, A, fun z => absurd z ne, ?_⟩
    rw [jT]
    exact hC
  unfold wq_Server_write wq_Server_write_0 wq_Server_write_49 wq_Fid_isOpenForWriting wq_Fid_isOpenForWriting_0 wq_Fid_isOpenForWriting_20 wq_Fid_isOpenForWriting_21
  simp only [mf, ck, cI ax (8 + i) (by omega), true_and, Option.some.injEq, exists_eq_left']
  refine ⟨fun q => ⟨Or.inl trivial, fun z => absurd trivial z, fun _ => er 3 (cif_y (Or.inl (co1.mp q))) (by decide)⟩, fun q => ?_⟩
  rw [co2 q]
  refine ⟨fun z => ⟨Or.inl trivial, fun z => absurd trivial z, fun _ => er 3 (cif_y (Or.inr z)) (by decide)⟩, fun q2 => ⟨Or.inr trivial, fun _ => ?_, fun z => absurd z (by decide)⟩⟩
  have n3 : ¬ (¬ 0 ≤ d_m d ∨ d_m d &&& 3 = 0) := fun z => z.elim (fun y => q (co1.mpr y)) q2
  obtain ⟨ht0, hfile⟩ := hw0 n3
  have hTp := Fth_live hF ht0
  simp only [m0, m1, (CM_q hM).1, ck, cP0, cL ax 5 (by decide), hoff, true_and, Option.some.injEq, exists_eq_left']
  refine cq_above _ _ _ _ (fun hab => ⟨fun _ => er 5 ((cif_n n3).trans (cif_y (hab.elim Or.inl (fun y => Or.inr (Or.inl y))))) (by decide), fun z => absurd z (by decide)⟩) (fun hab => ⟨fun z => absurd rfl z, fun _ => ?_⟩)
  obtain ⟨o, ho, ho1, ho2⟩ := l_of (n := 512) (by decide) (fun z => hab (Or.inl z)) (fun z => hab (Or.inr z))
  have hoc : (Int64.toInt32 off).toNatClampNeg = o := by rw [ho2, nI_clamp (by omega)]
  have hb3 := CM_b3 hM
  simp only [m0, m1, (CM_q hM).1, hb3.1, ck, cP0, cL ax 5 (by decide), cI ax 5 (by decide), hoff, hmany, ho2, true_and, Option.some.injEq, exists_eq_left']
  rw [show (512 : Int32) = nI 512 from rfl, nI_sub ho, nI_leI (show X.length < 2 ^ 31 by omega) (show 512 - o < 2 ^ 31 by omega)]
  refine ⟨fun z => ?_, fun z => er 5 ((cif_n n3).trans (cif_y (Or.inr (Or.inr (by rw [hoc]; omega))))) (by decide)⟩
  have n5 : ¬ (off < 0 ∨ 512 < off ∨ 512 < (Int64.toInt32 off).toNatClampNeg + X.length) := fun y => by
    rcases y with y | y | y
    · exact hab (Or.inl y)
    · exact hab (Or.inr y)
    · rw [hoc] at y; omega
  refine cq_put (n := 4) hb3 hg (by decide) rfl (by decide) _ hC.2.1.1.1 (by omega) _ _ ?_
  have C1 := CC_ap (B := le 4 (nI X.length).toInt64) hC (by rw [le_len]; omega)
  obtain ⟨κ1, e1⟩ : ∃ κ1, κ1 = c_ap κ 3 (le 4 (nI X.length).toInt64) := ⟨_, rfl⟩
  rw [← e1] at C1 ⊢
  have i1 : ∀ j, κ1.1 5 j = κ.1 5 j := fun j => by rw [e1]; exact c_ap_o (Or.inl (by decide)) (by decide) _ _
  have l1 : κ1.2.1 5 13 = off := by rw [e1, c_ap_2]; exact hoff
  have hX1 : Ctx κ1 L X := by rw [e1]; exact Ctx_ap (by decide) (by decide) hX
  have ec : (nI X.length ≤ 0) ↔ X = [] := by
    rw [show (0 : Int32) = nI 0 from rfl, nI_leI (by omega) (by decide)]
    exact ⟨fun y => List.eq_nil_of_length_eq_zero (by omega), fun y => by rw [y]; simp⟩
  unfold wq_Server_write_135
  refine ⟨fun y => ?_, fun y => ?_⟩
  · have hx0 := ec.mp y
    have hs : spWri T fm fc gv tm d f off X = (0, le 4 (nI X.length).toInt64, T, fm, fc, gv) := by
      refine (cif_n n3).trans ((cif_n n5).trans ?_)
      rw [cif_y hx0]
    rw [hs] at hZ
    refine hZ _ g ⟨ext_rf g, _, fun _ => rfl, ?_⟩
    rw [jT]
    exact C1
  · have hx0 : ¬ X = [] := fun w => y (ec.mpr w)
    have hxl : 0 < X.length := Nat.pos_of_ne_zero (fun w => hx0 (List.eq_nil_of_length_eq_zero w))
    have hs : spWri T fm fc gv tm d f off X = (0, le 4 (nI X.length).toInt64, tset T (d_p d) (some (wdt f tm (ovw (rsz (f_dt f) (max (f_dt f).length (o + X.length))) X o))), fm, fc, gv) := by
      refine (cif_n n3).trans ((cif_n n5).trans ?_)
      rw [cif_n hx0, hoc]
    rw [hs] at hZ
    obtain ⟨hok, haz, an, ad, hz1, hz2, k1, k2, k3, k4, k5, k6, k7, k8, k9, k10⟩ := hn
    have hn : nd ax g a (d_p d) f := ⟨hok, haz, an, ad, hz1, hz2, k1, k2, k3, k4, k5, k6, k7, k8, k9, k10⟩
    have hD5 := hok.2.2.1
    simp only [m0, m1, (CM_q hM).1, k1, k8, k10.1, k10.2.1, ck, cn, cP0, cPf haz.1, cL ax 5 (by decide), l1, ho2, toI, nI_add, true_and, Option.some.injEq, exists_eq_left']
    have emax : (if nI (f_dt f).length < nI (o + X.length) then nI (o + X.length) else nI (f_dt f).length) = nI (max (f_dt f).length (o + X.length)) := by
      by_cases w : (f_dt f).length < o + X.length
      · rw [if_pos (nI_lt w (by omega)), Nat.max_eq_right (by omega)]
      · rw [if_neg (nI_nlt (by omega) (by omega)), Nat.max_eq_left (by omega)]
    rw [emax]
    have hN5 : max (f_dt f).length (o + X.length) ≤ 512 := Nat.max_le.mpr ⟨hD5, by omega⟩
    refine cq_cpOf hM hg hz2 k10 hD5 hN5 (fun w v => ?_) _ (fun g1 x1 zz1 b1 => ?_)
    · have h0 : (f_dt f).length = 0 := by rw [v]; rfl
      omega
    have hM1 := CM_ext hM x1
    obtain ⟨w0, w1⟩ := CM_0 hM1
    simp only [w0, w1, (CM_q hM1).1, ck, cP0, true_and, Option.some.injEq, exists_eq_left']
    have hle : o + X.length ≤ (rsz (f_dt f) (max (f_dt f).length (o + X.length))).length := by rw [rsz_len]; exact Nat.le_max_right _ _
    refine cq_cpInto hM1 C1.1 hX1 (n := max (f_dt f).length (o + X.length)) (by omega) (by omega) b1.1 (by rw [b1.2.1, rsz_len]) (by omega) (Nat.le_max_right _ _) _ ?_
    have x2 := ext_rowI x1 (Nat.le_refl (mm_z g)) o X X.length
    have b2 := bA_rowI b1 hle
    obtain ⟨g2, e2⟩ : ∃ g2, g2 = rowI g1 (mm_z g) o X X.length := ⟨_, rfl⟩
    rw [← e2] at x2 b2 ⊢
    have hzg2 : mm_z g2 = mm_z g + 1 := by rw [e2]; exact zz1
    have hM2 := CM_ext hM x2
    obtain ⟨v0, v1⟩ := CM_0 hM2
    have C2 := CC_ext x2 C1
    simp only [v0, v1, (CM_j hM2).1, ck, cP0, true_and, Option.some.injEq, exists_eq_left']
    refine cq_keep hM2 hg _ C2.2.2.1 C2.2.2.2.1 _ (fun nx q1 q2 q3 => ?_)
    have C3 := CC_kp C2 q1 q3
    have hn2 := nd_ext x2 hn
    obtain ⟨an2, ad2, fa2, f12, f22, hN2⟩ := nd_H hn2
    have hk2 : mm_k g2 a = kd_Node := (hN2 κ).1
    simp only [v0, v1, hk2, ck, cP0, cI0, true_and, Option.some.injEq, exists_eq_left']
    rw [C3.2.2.2.2.2.2.1.2.1]
    have hlD : (ovw (rsz (f_dt f) (max (f_dt f).length (o + X.length))) X o).length ≤ 512 := by rw [ovw_len hle, rsz_len]; exact hN5
    refine cq_wd hM2 hg hn2 ⟨⟨by omega, by omega⟩, fun w => by omega⟩ b2 hlD (ovw_B (rsz_B hok.2.2.2.2.1 _) (Ctx_B hC.1.2.1 hX) _) (fun w => absurd hfile w) tm _ (fun g3 x3 nd3 => ?_)
    have hM3 := CM_ext hM2 x3
    have hk3 : mm_k g3 (ax + 32) = kd_Tree := (CM_t hM3).1
    simp only [hk3, ck, true_and]
    refine cq_tput hM3 hg hF.1 nd3 _ ?_
    have C4 := CC_put (CC_ext x3 C3) hF.1 nd3
    refine hZ _ g3 ⟨ext_tr x2 x3, _, fun _ => rfl, ?_⟩
    have hj : jn J T (tset T (d_p d) (some (wdt f tm (ovw (rsz (f_dt f) (max (f_dt f).length (o + X.length))) X o)))) = pushJ J T := cif_n (T_ne hTp (vs_ne _ _ _))
    show CC ax κ0 _ g3 L _ (tset T (d_p d) (some (wdt f tm (ovw (rsz (f_dt f) (max (f_dt f).length (o + X.length))) X o)))) S (jn J T (tset T (d_p d) (some (wdt f tm (ovw (rsz (f_dt f) (max (f_dt f).length (o + X.length))) X o))))) fm fc gv tm ms
    rw [hj]
    exact C4
/-- why a stat is refused -/
theorem cq_whyB (hM : CM ax g) (hC : CC ax κ0 κ g L A T S J fm fc gv tm ms) {i : Nat} {x : Int32} {d : sD} (hr : rw_ κ fm i x d) {f : sF} (hF : Fth T S d (some f)) {a : Nat} (hn : nd ax g a (d_p d) f) {X : List Int32} (hX : Ctx κ L X) {perm : Int32} {len : Int64} {rest : Prop} (hpm : κ.1 5 11 = perm) (hlen : κ.2.1 5 13 = len) (hrest : ¬ κ.1 5 16 = 0 ↔ rest) (Z : Int32 → mm_M → Prop)
    (hZ : Z (whyB T d f X perm len rest) (c_em ax κ g)) : wq_Server_whyNotBent ge ax (some (ax + (8 + i))) (some a) (c_em ax κ g) Z := by
  obtain ⟨r1, r2, r3, r4, r5⟩ := hr
  have mf := ((CM_f hM).2 i r1).2
  obtain ⟨m0, m1⟩ := CM_0 hM
  have hS6 := hC.2.2.2.2.1.1
  have cl := crow_live r5 (by have := hF.2.1; omega)
  obtain ⟨an, ad, fa, f1, f2, hN⟩ := nd_H hn
  have hk : mm_k g a = kd_Node := (hN κ).1
  obtain ⟨lx1, lx2⟩ := Ctx_len hX
  have hL14 := hC.1.2.2
  have ec : (nI X.length ≤ 0) ↔ X = [] := by
    rw [show (0 : Int32) = nI 0 from rfl, nI_leI (by omega) (by decide)]
    exact ⟨fun y => List.eq_nil_of_length_eq_zero (by omega), fun y => by rw [y]; simp⟩
  unfold wq_Server_whyNotBent wq_Server_whyNotBent_0 wq_Server_whyNotBent_49
  simp only [mf, m0, m1, (CM_q hM).1, ck, cP0, cI ax (8 + i) (by omega), cI ax 5 (by decide), cl, lx1, true_and, Option.some.injEq, exists_eq_left']
  unfold whyB at hZ
  refine ⟨fun ht0 => ?_, fun z => by rw [cif_y z] at hZ; exact hZ⟩
  rw [cif_n (fun z => z ht0)] at hZ
  refine ⟨fun z => ?_, fun z => by rw [cif_y (fun y => (hrest.mpr y) z)] at hZ; exact hZ⟩
  rw [cif_n (fun y => y (hrest.mp z))] at hZ
  -- mode and length
  have p129 : Z (cif (¬ len = -1 ∧ (¬ 0 ≤ f_md f ∨ len < 0 ∨ 512 < len)) 9 0) (c_em ax κ g) → wq_Server_whyNotBent_129 ge ax (some a) (c_em ax κ g) Z := by
    intro hz
    unfold wq_Server_whyNotBent_129 wq_Server_whyNotBent_169 wq_Server_whyNotBent_166
    simp only [m0, m1, (CM_q hM).1, hk, ck, cP0, cL ax 5 (by decide), hlen, lg_cmp_eq, true_and, Option.some.injEq, exists_eq_left']
    refine ⟨fun q => by rw [cif_n (fun y => y.1 q)] at hz; exact hz, fun q => ?_⟩
    refine nq_isDir (hN κ) _ ?_
    by_cases hd : 0 ≤ f_md f
    · rw [if_pos hd]
      refine ⟨fun y => absurd rfl y, fun _ => ?_⟩
      simp only [m0, m1, (CM_q hM).1, ck, cP0, cL ax 5 (by decide), hlen, true_and, Option.some.injEq, exists_eq_left']
      refine cq_above _ _ _ _ (fun hab => ⟨fun y => absurd y (by decide), fun _ => ?_⟩) (fun hab => ⟨fun _ => ?_, fun y => absurd rfl y⟩)
      · rw [cif_y ⟨q, Or.inr hab⟩] at hz; exact hz
      · rw [cif_n (fun y => y.2.elim (fun w => w hd) hab)] at hz; exact hz
    · rw [if_neg hd]
      exact ⟨fun _ => by rw [cif_y ⟨q, Or.inl hd⟩] at hz; exact hz, fun y => absurd y (by decide)⟩
  have p86 : Z (cif (¬ perm = -1 ∧ ((¬ ((perm < 0) ↔ (f_md f < 0))) ∨ ¬ perm &&& 2147483136 = 0)) 8 (cif (¬ len = -1 ∧ (¬ 0 ≤ f_md f ∨ len < 0 ∨ 512 < len)) 9 0)) (c_em ax κ g) → wq_Server_whyNotBent_86 ge ax (some a) (c_em ax κ g) Z := by
    intro hz
    unfold wq_Server_whyNotBent_86 wq_Server_whyNotBent_126
    simp only [m0, m1, (CM_q hM).1, hk, ck, cP0, cI ax 5 (by decide), hpm, (hN κ).2.2.2.2.1, xor_neg, true_and, Option.some.injEq, exists_eq_left']
    refine ⟨fun q => p129 (by rw [cif_n (fun y => y.1 q)] at hz; exact hz), fun q => ⟨fun q2 => by rw [cif_y ⟨q, Or.inl q2⟩] at hz; exact hz, fun q2 => ⟨fun q3 => p129 ?_, fun q3 => by rw [cif_y ⟨q, Or.inr q3⟩] at hz; exact hz⟩⟩⟩
    rw [cif_n (fun y => y.2.elim q2 (fun w => w q3))] at hz
    exact hz
  refine ⟨fun q => p86 ?_, fun q => ?_⟩
  · have hx0 := ec.mp q
    rw [cif_n (fun y => y.1 hx0), cif_n (fun y => y.1 hx0)] at hZ
    exact hZ
  · have hx0 : ¬ X = [] := fun y => q (ec.mpr y)
    simp only [hk, ck, (hN κ).2.1, true_and]
    have e0 : (nI (d_p d) = 0) ↔ d_p d = 0 := nI_eq (b := 0) (by have := hF.1; omega) (by decide)
    refine ⟨fun y => by rw [cif_y ⟨hx0, Or.inl (e0.mp y)⟩] at hZ; exact hZ, fun y => ?_⟩
    refine cq_mayBe hM hC.1 hX _ (fun hok => ⟨fun _ => ?_, fun w => absurd w (by decide)⟩) (fun hno => ⟨fun w => absurd rfl w, fun _ => by rw [cif_y ⟨hx0, Or.inr hno⟩] at hZ; exact hZ⟩)
    have n6 : ¬ (¬ X = [] ∧ (d_p d = 0 ∨ ¬ nmOk X)) := fun w => w.2.elim (fun v => y (e0.mpr v)) (fun v => v hok)
    rw [cif_n n6] at hZ
    simp only [m0, m1, hk, (CM_t hM).1, ck, cP0, (hN κ).2.2.1, true_and, Option.some.injEq, exists_eq_left']
    refine cq_named hM hC.1 hX (tre_live hM hC.2.2.1) _ _ (fun p' a' f' hc hf' hn' => ⟨fun w => absurd w (by simp), fun a22 _ => ?_⟩) (fun hc => ⟨fun _ => p86 (by rw [cif_n (fun w => w.2.1 hc)] at hZ; exact hZ), fun a22 w => absurd w (by simp)⟩)
    obtain ⟨an', ad', fa', f1', f2', hN'⟩ := nd_H hn'
    have hk' : mm_k g a' = kd_Node := (hN' κ).1
    have hp' := (fsti_some hc).2.2
    simp only [hk, hk', ck, (hN κ).2.1, (hN' κ).2.1, true_and, Option.some.injEq, exists_eq_left', nI_eq (show p' < 2 ^ 31 by omega) (show d_p d < 2 ^ 31 by have := hF.1; omega)]
    refine ⟨fun w => p86 ?_, fun w => ?_⟩
    · rw [cif_n (fun v => v.2.2 (by rw [hc, w]))] at hZ; exact hZ
    · rw [cif_y ⟨hx0, by rw [hc]; simp, by rw [hc]; intro v; exact w (Option.some.inj v)⟩] at hZ; exact hZ
end HW
